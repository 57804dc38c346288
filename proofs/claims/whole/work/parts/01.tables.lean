-- ===== PART A: goes FIRST, ahead of the names: the tables' words, and 'selects' of the private methods out of them =====
/-- a private method of a class that the tables say can be made, by its rows of tables_1 -/
def lw_okq (q : MethodName × Nat) : Prop := (q.1.cls ≠ "java/lang/invoke/MethodHandle" ∧ q.1.cls ≠ "java/lang/invoke/VarHandle") ∧ Cond.instantiable q.1.cls q.2 ∈ tables_1 ∧ Cond.privateMethod q.1 ∈ tables_1 ∧ Cond.instanceMethod q.1 ∈ tables_1
theorem lw_p0 : lw_okq (⟨"FamineOfVerbs", "settle", "()Z"⟩, 8) := ⟨⟨by decide +kernel, by decide +kernel⟩, List.mem_of_getElem? (i := 15) (by decide +kernel), List.mem_of_getElem? (i := 227) (by decide +kernel), List.mem_of_getElem? (i := 228) (by decide +kernel)⟩
theorem lw_p1 : lw_okq (⟨"FamineOfVerbs$Text", "readItem", "(LFamineOfVerbs$Land;I)I"⟩, 3) := ⟨⟨by decide +kernel, by decide +kernel⟩, List.mem_of_getElem? (i := 23) (by decide +kernel), List.mem_of_getElem? (i := 242) (by decide +kernel), List.mem_of_getElem? (i := 243) (by decide +kernel)⟩
theorem lw_p2 : lw_okq (⟨"FamineOfVerbs$Text", "letterAt", "(I)I"⟩, 3) := ⟨⟨by decide +kernel, by decide +kernel⟩, List.mem_of_getElem? (i := 23) (by decide +kernel), List.mem_of_getElem? (i := 246) (by decide +kernel), List.mem_of_getElem? (i := 247) (by decide +kernel)⟩
theorem lw_p3 : lw_okq (⟨"FamineOfVerbs$Text", "figuresAt", "(I)I"⟩, 3) := ⟨⟨by decide +kernel, by decide +kernel⟩, List.mem_of_getElem? (i := 23) (by decide +kernel), List.mem_of_getElem? (i := 253) (by decide +kernel), List.mem_of_getElem? (i := 254) (by decide +kernel)⟩
theorem lw_p4 : lw_okq (⟨"FamineOfVerbs$Text", "numberAt", "(II)I"⟩, 3) := ⟨⟨by decide +kernel, by decide +kernel⟩, List.mem_of_getElem? (i := 23) (by decide +kernel), List.mem_of_getElem? (i := 263) (by decide +kernel), List.mem_of_getElem? (i := 264) (by decide +kernel)⟩
theorem lw_p5 : lw_okq (⟨"FamineOfVerbs$Text", "take", "(LFamineOfVerbs$Land;I)Z"⟩, 3) := ⟨⟨by decide +kernel, by decide +kernel⟩, List.mem_of_getElem? (i := 23) (by decide +kernel), List.mem_of_getElem? (i := 270) (by decide +kernel), List.mem_of_getElem? (i := 271) (by decide +kernel)⟩
theorem lw_p6 : lw_okq (⟨"FamineOfVerbs$Land", "isTold", "(II)Z"⟩, 13) := ⟨⟨by decide +kernel, by decide +kernel⟩, List.mem_of_getElem? (i := 42) (by decide +kernel), List.mem_of_getElem? (i := 295) (by decide +kernel), List.mem_of_getElem? (i := 296) (by decide +kernel)⟩
theorem lw_p7 : lw_okq (⟨"FamineOfVerbs$Land", "addSaid", "(II)V"⟩, 13) := ⟨⟨by decide +kernel, by decide +kernel⟩, List.mem_of_getElem? (i := 42) (by decide +kernel), List.mem_of_getElem? (i := 332) (by decide +kernel), List.mem_of_getElem? (i := 333) (by decide +kernel)⟩
theorem lw_p8 : lw_okq (⟨"FamineOfVerbs", "isVerb", "(I)Z"⟩, 8) := ⟨⟨by decide +kernel, by decide +kernel⟩, List.mem_of_getElem? (i := 15) (by decide +kernel), List.mem_of_getElem? (i := 395) (by decide +kernel), List.mem_of_getElem? (i := 396) (by decide +kernel)⟩
theorem lw_p9 : lw_okq (⟨"FamineOfVerbs", "stockOfAll", "(I)I"⟩, 8) := ⟨⟨by decide +kernel, by decide +kernel⟩, List.mem_of_getElem? (i := 15) (by decide +kernel), List.mem_of_getElem? (i := 399) (by decide +kernel), List.mem_of_getElem? (i := 400) (by decide +kernel)⟩
theorem lw_p10 : lw_okq (⟨"FamineOfVerbs", "isVillage", "(I)Z"⟩, 8) := ⟨⟨by decide +kernel, by decide +kernel⟩, List.mem_of_getElem? (i := 15) (by decide +kernel), List.mem_of_getElem? (i := 419) (by decide +kernel), List.mem_of_getElem? (i := 420) (by decide +kernel)⟩
theorem lw_p11 : lw_okq (⟨"FamineOfVerbs", "isWork", "(I)Z"⟩, 8) := ⟨⟨by decide +kernel, by decide +kernel⟩, List.mem_of_getElem? (i := 15) (by decide +kernel), List.mem_of_getElem? (i := 432) (by decide +kernel), List.mem_of_getElem? (i := 433) (by decide +kernel)⟩
theorem lw_p12 : lw_okq (⟨"FamineOfVerbs", "goAhead", "(LFamineOfVerbs$Standing;I)V"⟩, 8) := ⟨⟨by decide +kernel, by decide +kernel⟩, List.mem_of_getElem? (i := 15) (by decide +kernel), List.mem_of_getElem? (i := 451) (by decide +kernel), List.mem_of_getElem? (i := 452) (by decide +kernel)⟩
theorem lw_p13 : lw_okq (⟨"FamineOfVerbs$Standing", "tryWork", "(LFamineOfVerbs$Land;I)Z"⟩, 5) := ⟨⟨by decide +kernel, by decide +kernel⟩, List.mem_of_getElem? (i := 106) (by decide +kernel), List.mem_of_getElem? (i := 459) (by decide +kernel), List.mem_of_getElem? (i := 460) (by decide +kernel)⟩
theorem lw_p14 : lw_okq (⟨"FamineOfVerbs$Standing", "usedOf", "(II)I"⟩, 5) := ⟨⟨by decide +kernel, by decide +kernel⟩, List.mem_of_getElem? (i := 106) (by decide +kernel), List.mem_of_getElem? (i := 468) (by decide +kernel), List.mem_of_getElem? (i := 469) (by decide +kernel)⟩
theorem lw_p15 : lw_okq (⟨"FamineOfVerbs$Standing", "reap", "(LFamineOfVerbs$Land;I)V"⟩, 5) := ⟨⟨by decide +kernel, by decide +kernel⟩, List.mem_of_getElem? (i := 106) (by decide +kernel), List.mem_of_getElem? (i := 481) (by decide +kernel), List.mem_of_getElem? (i := 482) (by decide +kernel)⟩
def lw_privs_1 : List (MethodName × Nat) := [(⟨"FamineOfVerbs", "settle", "()Z"⟩, 8), (⟨"FamineOfVerbs$Text", "readItem", "(LFamineOfVerbs$Land;I)I"⟩, 3), (⟨"FamineOfVerbs$Text", "letterAt", "(I)I"⟩, 3), (⟨"FamineOfVerbs$Text", "figuresAt", "(I)I"⟩, 3), (⟨"FamineOfVerbs$Text", "numberAt", "(II)I"⟩, 3), (⟨"FamineOfVerbs$Text", "take", "(LFamineOfVerbs$Land;I)Z"⟩, 3), (⟨"FamineOfVerbs$Land", "isTold", "(II)Z"⟩, 13), (⟨"FamineOfVerbs$Land", "addSaid", "(II)V"⟩, 13), (⟨"FamineOfVerbs", "isVerb", "(I)Z"⟩, 8), (⟨"FamineOfVerbs", "stockOfAll", "(I)I"⟩, 8), (⟨"FamineOfVerbs", "isVillage", "(I)Z"⟩, 8), (⟨"FamineOfVerbs", "isWork", "(I)Z"⟩, 8), (⟨"FamineOfVerbs", "goAhead", "(LFamineOfVerbs$Standing;I)V"⟩, 8), (⟨"FamineOfVerbs$Standing", "tryWork", "(LFamineOfVerbs$Land;I)Z"⟩, 5), (⟨"FamineOfVerbs$Standing", "usedOf", "(II)I"⟩, 5), (⟨"FamineOfVerbs$Standing", "reap", "(LFamineOfVerbs$Land;I)V"⟩, 5)]
theorem lw_r1 : ∀ q ∈ lw_privs_1, lw_okq q := List.forall_mem_cons.mpr ⟨lw_p0, List.forall_mem_cons.mpr ⟨lw_p1, List.forall_mem_cons.mpr ⟨lw_p2, List.forall_mem_cons.mpr ⟨lw_p3, List.forall_mem_cons.mpr ⟨lw_p4, List.forall_mem_cons.mpr ⟨lw_p5, List.forall_mem_cons.mpr ⟨lw_p6, List.forall_mem_cons.mpr ⟨lw_p7, List.forall_mem_cons.mpr ⟨lw_p8, List.forall_mem_cons.mpr ⟨lw_p9, List.forall_mem_cons.mpr ⟨lw_p10, List.forall_mem_cons.mpr ⟨lw_p11, List.forall_mem_cons.mpr ⟨lw_p12, List.forall_mem_cons.mpr ⟨lw_p13, List.forall_mem_cons.mpr ⟨lw_p14, List.forall_mem_cons.mpr ⟨lw_p15, fun _ h => absurd h List.not_mem_nil⟩⟩⟩⟩⟩⟩⟩⟩⟩⟩⟩⟩⟩⟩⟩⟩
theorem lw_p16 : lw_okq (⟨"FamineOfVerbs$Standing", "feedLocusts", "()V"⟩, 5) := ⟨⟨by decide +kernel, by decide +kernel⟩, List.mem_of_getElem? (i := 106) (by decide +kernel), List.mem_of_getElem? (i := 486) (by decide +kernel), List.mem_of_getElem? (i := 487) (by decide +kernel)⟩
theorem lw_p17 : lw_okq (⟨"FamineOfVerbs", "refusalOfGift", "(IIIII)I"⟩, 8) := ⟨⟨by decide +kernel, by decide +kernel⟩, List.mem_of_getElem? (i := 15) (by decide +kernel), List.mem_of_getElem? (i := 494) (by decide +kernel), List.mem_of_getElem? (i := 495) (by decide +kernel)⟩
theorem lw_p18 : lw_okq (⟨"FamineOfVerbs", "worthAhead", "(I)I"⟩, 8) := ⟨⟨by decide +kernel, by decide +kernel⟩, List.mem_of_getElem? (i := 15) (by decide +kernel), List.mem_of_getElem? (i := 529) (by decide +kernel), List.mem_of_getElem? (i := 530) (by decide +kernel)⟩
theorem lw_p19 : lw_okq (⟨"FamineOfVerbs", "forgottenAhead", "(I)I"⟩, 8) := ⟨⟨by decide +kernel, by decide +kernel⟩, List.mem_of_getElem? (i := 15) (by decide +kernel), List.mem_of_getElem? (i := 534) (by decide +kernel), List.mem_of_getElem? (i := 535) (by decide +kernel)⟩
theorem lw_p20 : lw_okq (⟨"FamineOfVerbs", "needOf", "(II)I"⟩, 8) := ⟨⟨by decide +kernel, by decide +kernel⟩, List.mem_of_getElem? (i := 15) (by decide +kernel), List.mem_of_getElem? (i := 557) (by decide +kernel), List.mem_of_getElem? (i := 558) (by decide +kernel)⟩
theorem lw_p21 : lw_okq (⟨"FamineOfVerbs", "isRow", "(I)Z"⟩, 8) := ⟨⟨by decide +kernel, by decide +kernel⟩, List.mem_of_getElem? (i := 15) (by decide +kernel), List.mem_of_getElem? (i := 584) (by decide +kernel), List.mem_of_getElem? (i := 585) (by decide +kernel)⟩
theorem lw_p22 : lw_okq (⟨"FamineOfVerbs", "couldHaveHad", "(III)Z"⟩, 8) := ⟨⟨by decide +kernel, by decide +kernel⟩, List.mem_of_getElem? (i := 15) (by decide +kernel), List.mem_of_getElem? (i := 624) (by decide +kernel), List.mem_of_getElem? (i := 625) (by decide +kernel)⟩
theorem lw_p23 : lw_okq (⟨"FamineOfVerbs", "changeByDraw", "(I)V"⟩, 8) := ⟨⟨by decide +kernel, by decide +kernel⟩, List.mem_of_getElem? (i := 15) (by decide +kernel), List.mem_of_getElem? (i := 654) (by decide +kernel), List.mem_of_getElem? (i := 655) (by decide +kernel)⟩
theorem lw_p24 : lw_okq (⟨"FamineOfVerbsModel", "clearTold", "()V"⟩, 31) := ⟨⟨by decide +kernel, by decide +kernel⟩, List.mem_of_getElem? (i := 676) (by decide +kernel), List.mem_of_getElem? (i := 682) (by decide +kernel), List.mem_of_getElem? (i := 683) (by decide +kernel)⟩
theorem lw_p25 : lw_okq (⟨"FamineOfVerbsModel", "tellsVerb", "(II)V"⟩, 31) := ⟨⟨by decide +kernel, by decide +kernel⟩, List.mem_of_getElem? (i := 676) (by decide +kernel), List.mem_of_getElem? (i := 686) (by decide +kernel), List.mem_of_getElem? (i := 687) (by decide +kernel)⟩
theorem lw_p26 : lw_okq (⟨"FamineOfVerbsModel", "tellsWork", "(III)V"⟩, 31) := ⟨⟨by decide +kernel, by decide +kernel⟩, List.mem_of_getElem? (i := 676) (by decide +kernel), List.mem_of_getElem? (i := 690) (by decide +kernel), List.mem_of_getElem? (i := 691) (by decide +kernel)⟩
theorem lw_p27 : lw_okq (⟨"FamineOfVerbsModel", "settles", "()V"⟩, 31) := ⟨⟨by decide +kernel, by decide +kernel⟩, List.mem_of_getElem? (i := 676) (by decide +kernel), List.mem_of_getElem? (i := 694) (by decide +kernel), List.mem_of_getElem? (i := 695) (by decide +kernel)⟩
theorem lw_p28 : lw_okq (⟨"FamineOfVerbsModel", "readingsOf", "(I)I"⟩, 31) := ⟨⟨by decide +kernel, by decide +kernel⟩, List.mem_of_getElem? (i := 676) (by decide +kernel), List.mem_of_getElem? (i := 701) (by decide +kernel), List.mem_of_getElem? (i := 702) (by decide +kernel)⟩
theorem lw_p29 : lw_okq (⟨"FamineOfVerbsModel", "readItem", "()Z"⟩, 31) := ⟨⟨by decide +kernel, by decide +kernel⟩, List.mem_of_getElem? (i := 676) (by decide +kernel), List.mem_of_getElem? (i := 820) (by decide +kernel), List.mem_of_getElem? (i := 821) (by decide +kernel)⟩
theorem lw_p30 : lw_okq (⟨"FamineOfVerbsModel", "letterAt", "(I)I"⟩, 31) := ⟨⟨by decide +kernel, by decide +kernel⟩, List.mem_of_getElem? (i := 676) (by decide +kernel), List.mem_of_getElem? (i := 824) (by decide +kernel), List.mem_of_getElem? (i := 825) (by decide +kernel)⟩
theorem lw_p31 : lw_okq (⟨"FamineOfVerbsModel", "readVerbOf", "()Z"⟩, 31) := ⟨⟨by decide +kernel, by decide +kernel⟩, List.mem_of_getElem? (i := 676) (by decide +kernel), List.mem_of_getElem? (i := 828) (by decide +kernel), List.mem_of_getElem? (i := 829) (by decide +kernel)⟩
def lw_privs_2 : List (MethodName × Nat) := [(⟨"FamineOfVerbs$Standing", "feedLocusts", "()V"⟩, 5), (⟨"FamineOfVerbs", "refusalOfGift", "(IIIII)I"⟩, 8), (⟨"FamineOfVerbs", "worthAhead", "(I)I"⟩, 8), (⟨"FamineOfVerbs", "forgottenAhead", "(I)I"⟩, 8), (⟨"FamineOfVerbs", "needOf", "(II)I"⟩, 8), (⟨"FamineOfVerbs", "isRow", "(I)Z"⟩, 8), (⟨"FamineOfVerbs", "couldHaveHad", "(III)Z"⟩, 8), (⟨"FamineOfVerbs", "changeByDraw", "(I)V"⟩, 8), (⟨"FamineOfVerbsModel", "clearTold", "()V"⟩, 31), (⟨"FamineOfVerbsModel", "tellsVerb", "(II)V"⟩, 31), (⟨"FamineOfVerbsModel", "tellsWork", "(III)V"⟩, 31), (⟨"FamineOfVerbsModel", "settles", "()V"⟩, 31), (⟨"FamineOfVerbsModel", "readingsOf", "(I)I"⟩, 31), (⟨"FamineOfVerbsModel", "readItem", "()Z"⟩, 31), (⟨"FamineOfVerbsModel", "letterAt", "(I)I"⟩, 31), (⟨"FamineOfVerbsModel", "readVerbOf", "()Z"⟩, 31)]
theorem lw_r2 : ∀ q ∈ lw_privs_2, lw_okq q := List.forall_mem_cons.mpr ⟨lw_p16, List.forall_mem_cons.mpr ⟨lw_p17, List.forall_mem_cons.mpr ⟨lw_p18, List.forall_mem_cons.mpr ⟨lw_p19, List.forall_mem_cons.mpr ⟨lw_p20, List.forall_mem_cons.mpr ⟨lw_p21, List.forall_mem_cons.mpr ⟨lw_p22, List.forall_mem_cons.mpr ⟨lw_p23, List.forall_mem_cons.mpr ⟨lw_p24, List.forall_mem_cons.mpr ⟨lw_p25, List.forall_mem_cons.mpr ⟨lw_p26, List.forall_mem_cons.mpr ⟨lw_p27, List.forall_mem_cons.mpr ⟨lw_p28, List.forall_mem_cons.mpr ⟨lw_p29, List.forall_mem_cons.mpr ⟨lw_p30, List.forall_mem_cons.mpr ⟨lw_p31, fun _ h => absurd h List.not_mem_nil⟩⟩⟩⟩⟩⟩⟩⟩⟩⟩⟩⟩⟩⟩⟩⟩
theorem lw_p32 : lw_okq (⟨"FamineOfVerbsModel", "readNumbers", "(I)Z"⟩, 31) := ⟨⟨by decide +kernel, by decide +kernel⟩, List.mem_of_getElem? (i := 676) (by decide +kernel), List.mem_of_getElem? (i := 832) (by decide +kernel), List.mem_of_getElem? (i := 833) (by decide +kernel)⟩
theorem lw_p33 : lw_okq (⟨"FamineOfVerbsModel", "isTold", "(III)Z"⟩, 31) := ⟨⟨by decide +kernel, by decide +kernel⟩, List.mem_of_getElem? (i := 676) (by decide +kernel), List.mem_of_getElem? (i := 839) (by decide +kernel), List.mem_of_getElem? (i := 840) (by decide +kernel)⟩
theorem lw_p34 : lw_okq (⟨"FamineOfVerbsModel", "readNounOf", "()Z"⟩, 31) := ⟨⟨by decide +kernel, by decide +kernel⟩, List.mem_of_getElem? (i := 676) (by decide +kernel), List.mem_of_getElem? (i := 843) (by decide +kernel), List.mem_of_getElem? (i := 844) (by decide +kernel)⟩
theorem lw_p35 : lw_okq (⟨"FamineOfVerbsModel", "readVillageOf", "()Z"⟩, 31) := ⟨⟨by decide +kernel, by decide +kernel⟩, List.mem_of_getElem? (i := 676) (by decide +kernel), List.mem_of_getElem? (i := 847) (by decide +kernel), List.mem_of_getElem? (i := 848) (by decide +kernel)⟩
theorem lw_p36 : lw_okq (⟨"FamineOfVerbsModel", "readStockOf", "()Z"⟩, 31) := ⟨⟨by decide +kernel, by decide +kernel⟩, List.mem_of_getElem? (i := 676) (by decide +kernel), List.mem_of_getElem? (i := 851) (by decide +kernel), List.mem_of_getElem? (i := 852) (by decide +kernel)⟩
theorem lw_p37 : lw_okq (⟨"FamineOfVerbsModel", "isToldVillage", "()Z"⟩, 31) := ⟨⟨by decide +kernel, by decide +kernel⟩, List.mem_of_getElem? (i := 676) (by decide +kernel), List.mem_of_getElem? (i := 855) (by decide +kernel), List.mem_of_getElem? (i := 856) (by decide +kernel)⟩
theorem lw_p38 : lw_okq (⟨"FamineOfVerbsModel", "readWorkOf", "()Z"⟩, 31) := ⟨⟨by decide +kernel, by decide +kernel⟩, List.mem_of_getElem? (i := 676) (by decide +kernel), List.mem_of_getElem? (i := 859) (by decide +kernel), List.mem_of_getElem? (i := 860) (by decide +kernel)⟩
theorem lw_p39 : lw_okq (⟨"FamineOfVerbsModel", "isVillage", "(I)Z"⟩, 31) := ⟨⟨by decide +kernel, by decide +kernel⟩, List.mem_of_getElem? (i := 676) (by decide +kernel), List.mem_of_getElem? (i := 876) (by decide +kernel), List.mem_of_getElem? (i := 877) (by decide +kernel)⟩
theorem lw_p40 : lw_okq (⟨"FamineOfVerbsModel", "isVerb", "(I)Z"⟩, 31) := ⟨⟨by decide +kernel, by decide +kernel⟩, List.mem_of_getElem? (i := 676) (by decide +kernel), List.mem_of_getElem? (i := 880) (by decide +kernel), List.mem_of_getElem? (i := 881) (by decide +kernel)⟩
theorem lw_p41 : lw_okq (⟨"FamineOfVerbsModel", "remembers", "()V"⟩, 31) := ⟨⟨by decide +kernel, by decide +kernel⟩, List.mem_of_getElem? (i := 676) (by decide +kernel), List.mem_of_getElem? (i := 912) (by decide +kernel), List.mem_of_getElem? (i := 913) (by decide +kernel)⟩
theorem lw_p42 : lw_okq (⟨"FamineOfVerbsModel", "from", "([I)V"⟩, 31) := ⟨⟨by decide +kernel, by decide +kernel⟩, List.mem_of_getElem? (i := 676) (by decide +kernel), List.mem_of_getElem? (i := 916) (by decide +kernel), List.mem_of_getElem? (i := 917) (by decide +kernel)⟩
theorem lw_p43 : lw_okq (⟨"FamineOfVerbsModel", "goesOn", "(I)V"⟩, 31) := ⟨⟨by decide +kernel, by decide +kernel⟩, List.mem_of_getElem? (i := 676) (by decide +kernel), List.mem_of_getElem? (i := 920) (by decide +kernel), List.mem_of_getElem? (i := 921) (by decide +kernel)⟩
theorem lw_p44 : lw_okq (⟨"FamineOfVerbsModel", "goes", "()I"⟩, 31) := ⟨⟨by decide +kernel, by decide +kernel⟩, List.mem_of_getElem? (i := 676) (by decide +kernel), List.mem_of_getElem? (i := 924) (by decide +kernel), List.mem_of_getElem? (i := 925) (by decide +kernel)⟩
theorem lw_p45 : lw_okq (⟨"FamineOfVerbsModel", "isSaid", "(I)Z"⟩, 31) := ⟨⟨by decide +kernel, by decide +kernel⟩, List.mem_of_getElem? (i := 676) (by decide +kernel), List.mem_of_getElem? (i := 928) (by decide +kernel), List.mem_of_getElem? (i := 929) (by decide +kernel)⟩
theorem lw_p46 : lw_okq (⟨"FamineOfVerbsModel", "smallOf", "(I)I"⟩, 31) := ⟨⟨by decide +kernel, by decide +kernel⟩, List.mem_of_getElem? (i := 676) (by decide +kernel), List.mem_of_getElem? (i := 940) (by decide +kernel), List.mem_of_getElem? (i := 941) (by decide +kernel)⟩
theorem lw_p47 : lw_okq (⟨"FamineOfVerbsModel", "worthOf", "(I)I"⟩, 31) := ⟨⟨by decide +kernel, by decide +kernel⟩, List.mem_of_getElem? (i := 676) (by decide +kernel), List.mem_of_getElem? (i := 952) (by decide +kernel), List.mem_of_getElem? (i := 953) (by decide +kernel)⟩
def lw_privs_3 : List (MethodName × Nat) := [(⟨"FamineOfVerbsModel", "readNumbers", "(I)Z"⟩, 31), (⟨"FamineOfVerbsModel", "isTold", "(III)Z"⟩, 31), (⟨"FamineOfVerbsModel", "readNounOf", "()Z"⟩, 31), (⟨"FamineOfVerbsModel", "readVillageOf", "()Z"⟩, 31), (⟨"FamineOfVerbsModel", "readStockOf", "()Z"⟩, 31), (⟨"FamineOfVerbsModel", "isToldVillage", "()Z"⟩, 31), (⟨"FamineOfVerbsModel", "readWorkOf", "()Z"⟩, 31), (⟨"FamineOfVerbsModel", "isVillage", "(I)Z"⟩, 31), (⟨"FamineOfVerbsModel", "isVerb", "(I)Z"⟩, 31), (⟨"FamineOfVerbsModel", "remembers", "()V"⟩, 31), (⟨"FamineOfVerbsModel", "from", "([I)V"⟩, 31), (⟨"FamineOfVerbsModel", "goesOn", "(I)V"⟩, 31), (⟨"FamineOfVerbsModel", "goes", "()I"⟩, 31), (⟨"FamineOfVerbsModel", "isSaid", "(I)Z"⟩, 31), (⟨"FamineOfVerbsModel", "smallOf", "(I)I"⟩, 31), (⟨"FamineOfVerbsModel", "worthOf", "(I)I"⟩, 31)]
theorem lw_r3 : ∀ q ∈ lw_privs_3, lw_okq q := List.forall_mem_cons.mpr ⟨lw_p32, List.forall_mem_cons.mpr ⟨lw_p33, List.forall_mem_cons.mpr ⟨lw_p34, List.forall_mem_cons.mpr ⟨lw_p35, List.forall_mem_cons.mpr ⟨lw_p36, List.forall_mem_cons.mpr ⟨lw_p37, List.forall_mem_cons.mpr ⟨lw_p38, List.forall_mem_cons.mpr ⟨lw_p39, List.forall_mem_cons.mpr ⟨lw_p40, List.forall_mem_cons.mpr ⟨lw_p41, List.forall_mem_cons.mpr ⟨lw_p42, List.forall_mem_cons.mpr ⟨lw_p43, List.forall_mem_cons.mpr ⟨lw_p44, List.forall_mem_cons.mpr ⟨lw_p45, List.forall_mem_cons.mpr ⟨lw_p46, List.forall_mem_cons.mpr ⟨lw_p47, fun _ h => absurd h List.not_mem_nil⟩⟩⟩⟩⟩⟩⟩⟩⟩⟩⟩⟩⟩⟩⟩⟩
theorem lw_p48 : lw_okq (⟨"FamineOfVerbsModel", "forgottenOf", "(I)I"⟩, 31) := ⟨⟨by decide +kernel, by decide +kernel⟩, List.mem_of_getElem? (i := 676) (by decide +kernel), List.mem_of_getElem? (i := 956) (by decide +kernel), List.mem_of_getElem? (i := 957) (by decide +kernel)⟩
theorem lw_p49 : lw_okq (⟨"FamineOfVerbsModel", "needOf", "(II)I"⟩, 31) := ⟨⟨by decide +kernel, by decide +kernel⟩, List.mem_of_getElem? (i := 676) (by decide +kernel), List.mem_of_getElem? (i := 972) (by decide +kernel), List.mem_of_getElem? (i := 973) (by decide +kernel)⟩
def lw_privs_4 : List (MethodName × Nat) := [(⟨"FamineOfVerbsModel", "forgottenOf", "(I)I"⟩, 31), (⟨"FamineOfVerbsModel", "needOf", "(II)I"⟩, 31)]
theorem lw_r4 : ∀ q ∈ lw_privs_4, lw_okq q := List.forall_mem_cons.mpr ⟨lw_p48, List.forall_mem_cons.mpr ⟨lw_p49, fun _ h => absurd h List.not_mem_nil⟩⟩
def lw_privs : List (MethodName × Nat) := lw_privs_1 ++ (lw_privs_2 ++ (lw_privs_3 ++ (lw_privs_4)))
def lw_tbl : List Cond := k2_sels lw_privs ++ tables_1
theorem lw_privs_ok : ∀ q ∈ lw_privs, lw_okq q := by
  show ∀ q ∈ lw_privs_1 ++ (lw_privs_2 ++ (lw_privs_3 ++ (lw_privs_4))), lw_okq q
  exact List.forall_mem_append.mpr ⟨lw_r1, List.forall_mem_append.mpr ⟨lw_r2, List.forall_mem_append.mpr ⟨lw_r3, lw_r4⟩⟩⟩

/-! THE CLAIM OUT OF ONE WALK OF THE LAW'S BODY. Your part is whole_start (and what it stands on); all else here is the same for every law, but numbers. -/
def R_law : String := "FamineOfVerbsLaw"
def lw_P (b : Addr) (xs : List Int32) (args : Array Value) (s : State) : Prop := args = #[.ref b] ∧ s.IntsAt b xs ∧ xs.length ≤ 320 ∧ (Jvm.Cond.and given_1 narrow_1).before args s = true
def lw_Q (_ : Array Value) (s : State) (o : Outcome) (t : State) : Prop := o = .returned (some (.int 1)) ∧ Framed s o t [] 600000 7302250
def lw_Z (below : List Frame) (a : Array Value) (s : State) : State → Prop := fun t => ∃ o, t.status = .running ∧ Ended t below o ∧ lw_Q a s o t
/-- the law's own end, with 1 on the stack, nothing written that was there before, its room as the claim has it -/
theorem lw_ret {p : Program} {l : Launch} {e : Env} {s : State} {m : MethodId} {below : List Frame} {meth : Method} {c : Code} {b : Nat} (hx : p.tables.exec = Jvm.exec) (hb : c.code = code) (hr : meth.sig.returnType = ret) (hlocks : meth.locks = false) {pc : Nat} {H : Heap} {ls : Array Slot} (hdg : decode code pc = .ok (.ireturn, 1)) : W p l e room_1 s m #[Value.ref b] below meth c H [] 600000 7302250 (lw_Z below #[Value.ref b] s) (F0 m pc ls [.int 1]) := by
  intro T hT X
  obtain ⟨fs, hret, hrun, hended, hW, hframe⟩ := X.leave (v := some (.int 1)) (hlocks := hlocks) (fun h => by rw [hr] at h; cases h)
  have hmeth' : T.vm.method? m = some meth := X.method'
  refine ⟨T.setFrames fs, ?_, .returned (some (.int 1)), hrun, hended, rfl, ⟨_, rfl⟩, hW, hframe⟩
  jvm_step X.here [X.here.top, hx, hb, hdg, hmeth', hr, ret, narrow_b1]
  (try refine ⟨rfl, ?_⟩); (try refine ⟨rfl, ?_⟩)
  first | (intro acts; rw [hret _ acts rfl rfl rfl]) | rw [hret _ _ rfl rfl rfl]
  exact Steps.refl _
/-- what holds at the law's entry: the machine, the code, the tables' words (any of lw_tbl by 'hts w (by decide +kernel)'), the script of L ints xs at the cell b, what the Statement gives of the start (any of its parts by flat_of_before) -/
def lw_At (p : Program) (s : State) (m : MethodId) (meth : Method) (c : Code) (b L : Nat) (xs : Nat → Int32) : Prop :=
  p.tables.exec = Jvm.exec ∧ c.code = code ∧ meth.sig.returnType = ret ∧ c.maxLocals = 4 ∧ s.vm.findClass R_law = some m.cls ∧ (∀ w ∈ lw_tbl, w.before #[Value.ref b] s = true) ∧ va_X b L xs s s.heap ∧ b < s.heap.size ∧ meth.locks = false ∧ (Jvm.Cond.and given_1 narrow_1).before #[Value.ref b] s = true

/-! own numbers: kinds of objects, fields, methods (by program gen/p01.py out of claim/JAVAP.txt and the tables of claim/Statement.lean) -/
def fv_RN : Nat → String := fun k => match k with
  | 0 => "FamineOfVerbs$Hearsay"
  | 1 => "FamineOfVerbs$Land"
  | 2 => "FamineOfVerbs$Shelf"
  | 3 => "FamineOfVerbs$Standing"
  | 4 => "FamineOfVerbs$Text"
  | 5 => "FamineOfVerbs"
  | 6 => "FamineOfVerbsModel"
  | 7 => "FamineOfVerbsLaw"
  | 8 => "java/lang/Integer"
  | 9 => "java/lang/Math"
  | 10 => "java/lang/String"
  | _ => "?"
def fv_T0 : u_T := fun k => match k with
  | 0 => ("FamineOfVerbs$Hearsay", "works", "[I", true)
  | 1 => ("FamineOfVerbs$Hearsay", "seasons", "[I", true)
  | 2 => ("FamineOfVerbs$Hearsay", "wereDone", "[Z", true)
  | _ => ("FamineOfVerbs$Hearsay", "many", "I", false)
def fv_Y0 : Nat → FieldType := fun k => match k with
  | 0 => .array .int
  | 1 => .array .int
  | 2 => .array .boolean
  | _ => .int
def fv_T1 : u_T := fun k => match k with
  | 0 => ("FamineOfVerbs$Land", "verbs", "I", false)
  | 1 => ("FamineOfVerbs$Land", "nouns", "I", false)
  | 2 => ("FamineOfVerbs$Land", "villages", "I", false)
  | 3 => ("FamineOfVerbs$Land", "works", "I", false)
  | 4 => ("FamineOfVerbs$Land", "kinds", "[I", true)
  | 5 => ("FamineOfVerbs$Land", "crops", "[I", true)
  | 6 => ("FamineOfVerbs$Land", "minds", "[I", true)
  | 7 => ("FamineOfVerbs$Land", "ownNouns", "[I", true)
  | 8 => ("FamineOfVerbs$Land", "said", "[I", true)
  | 9 => ("FamineOfVerbs$Land", "stocks", "[I", true)
  | 10 => ("FamineOfVerbs$Land", "workVillages", "[I", true)
  | 11 => ("FamineOfVerbs$Land", "workVerbs", "[I", true)
  | _ => ("FamineOfVerbs$Land", "worths", "[I", true)
def fv_Y1 : Nat → FieldType := fun k => match k with
  | 0 => .int
  | 1 => .int
  | 2 => .int
  | 3 => .int
  | 4 => .array .int
  | 5 => .array .int
  | 6 => .array .int
  | 7 => .array .int
  | 8 => .array .int
  | 9 => .array .int
  | 10 => .array .int
  | 11 => .array .int
  | _ => .array .int
def fv_T2 : u_T := fun k => match k with
  | 0 => ("FamineOfVerbs$Shelf", "places", "[LFamineOfVerbs$Standing;", true)
  | 1 => ("FamineOfVerbs$Shelf", "held", "I", false)
  | _ => ("FamineOfVerbs$Shelf", "next", "I", false)
def fv_Y2 : Nat → FieldType := fun k => match k with
  | 0 => .array (.object "FamineOfVerbs$Standing")
  | 1 => .int
  | _ => .int
def fv_T3 : u_T := fun k => match k with
  | 0 => ("FamineOfVerbs$Standing", "season", "I", false)
  | 1 => ("FamineOfVerbs$Standing", "stocks", "[I", true)
  | 2 => ("FamineOfVerbs$Standing", "sown", "[I", true)
  | 3 => ("FamineOfVerbs$Standing", "done", "[I", true)
  | _ => ("FamineOfVerbs$Standing", "forgotten", "[I", true)
def fv_Y3 : Nat → FieldType := fun k => match k with
  | 0 => .int
  | 1 => .array .int
  | 2 => .array .int
  | 3 => .array .int
  | _ => .array .int
def fv_T4 : u_T := fun k => match k with
  | 0 => ("FamineOfVerbs$Text", "letters", "[C", true)
  | 1 => ("FamineOfVerbs$Text", "numbers", "[I", true)
  | _ => ("FamineOfVerbs$Text", "length", "I", false)
def fv_Y4 : Nat → FieldType := fun k => match k with
  | 0 => .array .char
  | 1 => .array .int
  | _ => .int
def fv_T5 : u_T := fun k => match k with
  | 0 => ("FamineOfVerbs", "text", "LFamineOfVerbs$Text;", true)
  | 1 => ("FamineOfVerbs", "land", "LFamineOfVerbs$Land;", false)
  | 2 => ("FamineOfVerbs", "draft", "LFamineOfVerbs$Land;", false)
  | 3 => ("FamineOfVerbs", "now", "LFamineOfVerbs$Standing;", true)
  | 4 => ("FamineOfVerbs", "ahead", "LFamineOfVerbs$Standing;", true)
  | 5 => ("FamineOfVerbs", "past", "LFamineOfVerbs$Shelf;", true)
  | 6 => ("FamineOfVerbs", "kept", "LFamineOfVerbs$Shelf;", true)
  | _ => ("FamineOfVerbs", "heard", "LFamineOfVerbs$Hearsay;", true)
def fv_Y5 : Nat → FieldType := fun k => match k with
  | 0 => .object "FamineOfVerbs$Text"
  | 1 => .object "FamineOfVerbs$Land"
  | 2 => .object "FamineOfVerbs$Land"
  | 3 => .object "FamineOfVerbs$Standing"
  | 4 => .object "FamineOfVerbs$Standing"
  | 5 => .object "FamineOfVerbs$Shelf"
  | 6 => .object "FamineOfVerbs$Shelf"
  | _ => .object "FamineOfVerbs$Hearsay"
def fv_T6 : u_T := fun k => match k with
  | 0 => ("FamineOfVerbsModel", "verbs", "I", false)
  | 1 => ("FamineOfVerbsModel", "verb", "[I", true)
  | 2 => ("FamineOfVerbsModel", "nouns", "I", false)
  | 3 => ("FamineOfVerbsModel", "noun", "[I", true)
  | 4 => ("FamineOfVerbsModel", "villages", "I", false)
  | 5 => ("FamineOfVerbsModel", "has", "[I", true)
  | 6 => ("FamineOfVerbsModel", "works", "I", false)
  | 7 => ("FamineOfVerbsModel", "work", "[I", true)
  | 8 => ("FamineOfVerbsModel", "says", "[I", true)
  | 9 => ("FamineOfVerbsModel", "st", "[I", true)
  | 10 => ("FamineOfVerbsModel", "first", "[I", true)
  | 11 => ("FamineOfVerbsModel", "acts", "I", false)
  | 12 => ("FamineOfVerbsModel", "was", "[I", true)
  | 13 => ("FamineOfVerbsModel", "keeps", "I", false)
  | 14 => ("FamineOfVerbsModel", "kept", "[I", true)
  | 15 => ("FamineOfVerbsModel", "hears", "I", false)
  | 16 => ("FamineOfVerbsModel", "heard", "[I", true)
  | 17 => ("FamineOfVerbsModel", "text", "[I", true)
  | 18 => ("FamineOfVerbsModel", "texted", "I", false)
  | 19 => ("FamineOfVerbsModel", "at", "I", false)
  | 20 => ("FamineOfVerbsModel", "told", "[I", true)
  | 21 => ("FamineOfVerbsModel", "readVerbs", "I", false)
  | 22 => ("FamineOfVerbsModel", "readVerb", "[I", true)
  | 23 => ("FamineOfVerbsModel", "readNouns", "I", false)
  | 24 => ("FamineOfVerbsModel", "readNoun", "[I", true)
  | 25 => ("FamineOfVerbsModel", "readVillages", "I", false)
  | 26 => ("FamineOfVerbsModel", "readHas", "[I", true)
  | 27 => ("FamineOfVerbsModel", "readWorks", "I", false)
  | 28 => ("FamineOfVerbsModel", "readWork", "[I", true)
  | 29 => ("FamineOfVerbsModel", "read", "[I", true)
  | _ => ("FamineOfVerbsModel", "now", "[I", true)
def fv_Y6 : Nat → FieldType := fun k => match k with
  | 0 => .int
  | 1 => .array .int
  | 2 => .int
  | 3 => .array .int
  | 4 => .int
  | 5 => .array .int
  | 6 => .int
  | 7 => .array .int
  | 8 => .array .int
  | 9 => .array .int
  | 10 => .array .int
  | 11 => .int
  | 12 => .array .int
  | 13 => .int
  | 14 => .array .int
  | 15 => .int
  | 16 => .array .int
  | 17 => .array .int
  | 18 => .int
  | 19 => .int
  | 20 => .array .int
  | 21 => .int
  | 22 => .array .int
  | 23 => .int
  | 24 => .array .int
  | 25 => .int
  | 26 => .array .int
  | 27 => .int
  | 28 => .array .int
  | 29 => .array .int
  | _ => .array .int
def fv_T : Nat → u_T := fun k => match k with
  | 0 => fv_T0
  | 1 => fv_T1
  | 2 => fv_T2
  | 3 => fv_T3
  | 4 => fv_T4
  | 5 => fv_T5
  | _ => fv_T6
def fv_Y : Nat → Nat → FieldType := fun k => match k with
  | 0 => fv_Y0
  | 1 => fv_Y1
  | 2 => fv_Y2
  | 3 => fv_Y3
  | 4 => fv_Y4
  | 5 => fv_Y5
  | _ => fv_Y6
def fv_NF : Nat → Nat := fun k => match k with
  | 0 => 4
  | 1 => 13
  | 2 => 3
  | 3 => 5
  | 4 => 3
  | 5 => 8
  | _ => 31
def fv_kinds : List vw_C := [(fv_RN 0, fv_T0, 4), (fv_RN 1, fv_T1, 13), (fv_RN 2, fv_T2, 3), (fv_RN 3, fv_T3, 5), (fv_RN 4, fv_T4, 3), (fv_RN 5, fv_T5, 8), (fv_RN 6, fv_T6, 31)]
abbrev fv_Mt : Type := MethodName × ByteArray × Nat × Option FieldType × Nat × Nat × Nat × Nat × Nat × Nat × Bool × Nat × Nat × Nat × Nat
/-- name, code, locals, what it returns, kind of object, arguments, frames, locals room, cells, slots, static, places of its words: code, start, static or instance, selects -/
def fv_mt_0 : List fv_Mt := [
  ((⟨fv_RN 0, "<init>", "()V"⟩ : MethodName), prog_2_method_1_code, 1, none, 0, 1, 1, 20, 3, 18, false, 206, 56, 205, 0),
  ((⟨fv_RN 0, "add", "(IIZ)Z"⟩ : MethodName), prog_2_method_2_code, 4, some .boolean, 0, 4, 1, 22, 0, 0, false, 663, 56, 661, 662),
  ((⟨fv_RN 0, "latestSeason", "()I"⟩ : MethodName), prog_2_method_3_code, 3, some .int, 0, 1, 1, 21, 0, 0, false, 680, 56, 678, 679),
  ((⟨fv_RN 0, "agrees", "(II)Z"⟩ : MethodName), prog_2_method_4_code, 4, some .boolean, 0, 3, 1, 21, 0, 0, false, 686, 56, 684, 685),
  ((⟨fv_RN 1, "<init>", "()V"⟩ : MethodName), prog_3_method_1_code, 1, none, 1, 1, 1, 20, 9, 76, false, 95, 53, 94, 0),
  ((⟨fv_RN 1, "clear", "()V"⟩ : MethodName), prog_3_method_2_code, 1, none, 1, 1, 1, 22, 0, 0, false, 287, 53, 285, 286),
  ((⟨fv_RN 1, "addVerb", "(II)Z"⟩ : MethodName), prog_3_method_3_code, 3, some .boolean, 1, 3, 1, 22, 0, 0, false, 329, 53, 327, 328),
  ((⟨fv_RN 1, "addNoun", "(I)Z"⟩ : MethodName), prog_3_method_4_code, 2, some .boolean, 1, 2, 1, 22, 0, 0, false, 335, 53, 333, 334),
  ((⟨fv_RN 1, "addVillage", "(I)Z"⟩ : MethodName), prog_3_method_5_code, 2, some .boolean, 1, 2, 1, 22, 0, 0, false, 339, 53, 337, 338),
  ((⟨fv_RN 1, "addStock", "(III)Z"⟩ : MethodName), prog_3_method_6_code, 4, some .boolean, 1, 4, 1, 22, 0, 0, false, 343, 53, 341, 342),
  ((⟨fv_RN 1, "addWork", "(III)Z"⟩ : MethodName), prog_3_method_7_code, 4, some .boolean, 1, 4, 1, 22, 0, 0, false, 354, 53, 352, 353),
  ((⟨fv_RN 1, "isTold", "(II)Z"⟩ : MethodName), prog_3_method_8_code, 3, some .boolean, 1, 3, 0, 0, 0, 0, false, 347, 53, 346, 6),
  ((⟨fv_RN 1, "allNouns", "()I"⟩ : MethodName), prog_3_method_9_code, 1, some .int, 1, 1, 0, 0, 0, 0, false, 362, 53, 360, 361),
  ((⟨fv_RN 1, "allWorks", "()I"⟩ : MethodName), prog_3_method_10_code, 1, some .int, 1, 1, 0, 0, 0, 0, false, 594, 53, 592, 593),
  ((⟨fv_RN 1, "mindOf", "(I)I"⟩ : MethodName), prog_3_method_11_code, 2, some .int, 1, 2, 1, 21, 0, 0, false, 373, 53, 371, 372),
  ((⟨fv_RN 1, "nounsOf", "(I)I"⟩ : MethodName), prog_3_method_12_code, 2, some .int, 1, 2, 1, 21, 0, 0, false, 388, 53, 386, 387),
  ((⟨fv_RN 1, "meantBy", "(I)I"⟩ : MethodName), prog_3_method_13_code, 4, some .int, 1, 2, 2, 42, 0, 0, false, 366, 53, 364, 365)]
def fv_mt_1 : List fv_Mt := [
  ((⟨fv_RN 1, "findSaid", "()V"⟩ : MethodName), prog_3_method_14_code, 3, none, 1, 1, 3, 65, 0, 0, false, 358, 53, 356, 357),
  ((⟨fv_RN 1, "addSaid", "(II)V"⟩ : MethodName), prog_3_method_15_code, 4, none, 1, 3, 2, 42, 0, 0, false, 384, 53, 383, 7),
  ((⟨fv_RN 1, "canSay", "(II)Z"⟩ : MethodName), prog_3_method_16_code, 3, some .boolean, 1, 3, 1, 21, 0, 0, false, 516, 53, 514, 515),
  ((⟨fv_RN 1, "smallestRow", "(II)I"⟩ : MethodName), prog_3_method_17_code, 6, some .int, 1, 3, 3, 65, 0, 0, false, 646, 53, 644, 645),
  ((⟨fv_RN 1, "worksIn", "(I)I"⟩ : MethodName), prog_3_method_18_code, 4, some .int, 1, 2, 1, 21, 0, 0, false, 577, 53, 575, 576),
  ((⟨fv_RN 1, "worksSaidBy", "(II)I"⟩ : MethodName), prog_3_method_19_code, 5, some .int, 1, 3, 2, 46, 0, 0, false, 613, 53, 611, 612),
  ((⟨fv_RN 1, "worksLike", "(III)I"⟩ : MethodName), prog_3_method_20_code, 6, some .int, 1, 4, 1, 21, 0, 0, false, 617, 53, 615, 616),
  ((⟨fv_RN 2, "<init>", "([LFamineOfVerbs$Standing;)V"⟩ : MethodName), prog_4_method_1_code, 3, none, 2, 2, 2, 40, 40, 392, false, 187, 55, 186, 0),
  ((⟨fv_RN 2, "shelve", "(LFamineOfVerbs$Standing;)V"⟩ : MethodName), prog_4_method_2_code, 2, none, 2, 2, 2, 43, 0, 0, false, 492, 55, 490, 491),
  ((⟨fv_RN 2, "takeInto", "(LFamineOfVerbs$Standing;)Z"⟩ : MethodName), prog_4_method_3_code, 3, some .boolean, 2, 2, 2, 43, 0, 0, false, 568, 55, 566, 567),
  ((⟨fv_RN 3, "<init>", "()V"⟩ : MethodName), prog_5_method_1_code, 1, none, 3, 1, 1, 20, 4, 44, false, 159, 54, 158, 0),
  ((⟨fv_RN 3, "begin", "(LFamineOfVerbs$Land;)V"⟩ : MethodName), prog_5_method_2_code, 2, none, 3, 2, 1, 22, 0, 0, false, 392, 54, 390, 391),
  ((⟨fv_RN 3, "become", "(LFamineOfVerbs$Standing;)V"⟩ : MethodName), prog_5_method_3_code, 2, none, 3, 2, 1, 22, 0, 0, false, 496, 54, 494, 495),
  ((⟨fv_RN 3, "stockOf", "(II)I"⟩ : MethodName), prog_5_method_4_code, 3, some .int, 3, 3, 1, 21, 0, 0, false, 455, 54, 453, 454),
  ((⟨fv_RN 3, "setStock", "(III)V"⟩ : MethodName), prog_5_method_5_code, 4, none, 3, 4, 1, 22, 0, 0, false, 528, 54, 526, 527),
  ((⟨fv_RN 3, "move", "(IIII)V"⟩ : MethodName), prog_5_method_6_code, 5, none, 3, 5, 2, 45, 0, 0, false, 550, 54, 548, 549),
  ((⟨fv_RN 3, "usesSmall", "()Z"⟩ : MethodName), prog_5_method_7_code, 1, some .boolean, 3, 1, 0, 0, 0, 0, false, 524, 54, 522, 523)]
def fv_mt_2 : List fv_Mt := [
  ((⟨fv_RN 3, "seedFor", "(LFamineOfVerbs$Land;II)I"⟩ : MethodName), prog_5_method_8_code, 5, some .int, 3, 4, 2, 43, 0, 0, false, 558, 54, 556, 557),
  ((⟨fv_RN 3, "goBy", "(LFamineOfVerbs$Land;)I"⟩ : MethodName), prog_5_method_9_code, 4, some .int, 3, 2, 3, 70, 0, 0, false, 507, 54, 505, 506),
  ((⟨fv_RN 3, "tryWork", "(LFamineOfVerbs$Land;I)Z"⟩ : MethodName), prog_5_method_10_code, 6, some .boolean, 3, 3, 2, 45, 0, 0, false, 511, 54, 510, 13),
  ((⟨fv_RN 3, "usedOf", "(II)I"⟩ : MethodName), prog_5_method_11_code, 3, some .int, 3, 3, 1, 20, 0, 0, false, 520, 54, 519, 14),
  ((⟨fv_RN 3, "reap", "(LFamineOfVerbs$Land;I)V"⟩ : MethodName), prog_5_method_12_code, 5, none, 3, 3, 2, 45, 0, 0, false, 533, 54, 532, 15),
  ((⟨fv_RN 3, "feedLocusts", "()V"⟩ : MethodName), prog_5_method_13_code, 2, none, 3, 1, 0, 0, 0, 0, false, 538, 54, 537, 16),
  ((⟨fv_RN 4, "<init>", "()V"⟩ : MethodName), prog_6_method_1_code, 1, none, 4, 1, 1, 20, 2, 203, false, 76, 52, 75, 0),
  ((⟨fv_RN 4, "append", "(I)Z"⟩ : MethodName), prog_6_method_2_code, 2, some .boolean, 4, 2, 0, 0, 0, 0, false, 275, 52, 273, 274),
  ((⟨fv_RN 4, "readInto", "(LFamineOfVerbs$Land;)I"⟩ : MethodName), prog_6_method_3_code, 5, some .int, 4, 2, 4, 97, 0, 0, false, 283, 52, 281, 282),
  ((⟨fv_RN 4, "readItem", "(LFamineOfVerbs$Land;I)I"⟩ : MethodName), prog_6_method_4_code, 8, some .int, 4, 3, 3, 70, 0, 0, false, 294, 52, 293, 1),
  ((⟨fv_RN 4, "take", "(LFamineOfVerbs$Land;I)Z"⟩ : MethodName), prog_6_method_5_code, 6, some .boolean, 4, 3, 2, 45, 0, 0, false, 322, 52, 321, 5),
  ((⟨fv_RN 4, "numbersBehind", "(I)I"⟩ : MethodName), prog_6_method_6_code, 1, some .int, 4, 1, 0, 0, 0, 0, true, 301, 52, 300, 0),
  ((⟨fv_RN 4, "letterAt", "(I)I"⟩ : MethodName), prog_6_method_7_code, 2, some .int, 4, 2, 0, 0, 0, 0, false, 298, 52, 297, 2),
  ((⟨fv_RN 4, "figuresAt", "(I)I"⟩ : MethodName), prog_6_method_8_code, 2, some .int, 4, 2, 2, 42, 0, 0, false, 305, 52, 304, 3),
  ((⟨fv_RN 4, "numberAt", "(II)I"⟩ : MethodName), prog_6_method_9_code, 4, some .int, 4, 3, 1, 21, 0, 0, false, 315, 52, 314, 4),
  ((⟨fv_RN 4, "isFigure", "(I)Z"⟩ : MethodName), prog_6_method_10_code, 1, some .boolean, 4, 1, 1, 22, 0, 0, true, 308, 52, 307, 0),
  ((⟨fv_RN 5, "<init>", "()V"⟩ : MethodName), prog_1_method_1_code, 2, none, 5, 1, 6, 142, 121, 1304, false, 68, 51, 67, 0)]
def fv_mt_3 : List fv_Mt := [
  ((⟨fv_RN 5, "write", "(I)I"⟩ : MethodName), prog_1_method_2_code, 2, some .int, 5, 2, 1, 22, 0, 0, false, 426, 51, 424, 425),
  ((⟨fv_RN 5, "wipe", "()I"⟩ : MethodName), prog_1_method_3_code, 2, some .int, 5, 1, 0, 0, 0, 0, false, 431, 51, 429, 430),
  ((⟨fv_RN 5, "fault", "()I"⟩ : MethodName), prog_1_method_4_code, 1, some .int, 5, 1, 5, 121, 0, 0, false, 435, 51, 433, 434),
  ((⟨fv_RN 5, "lay", "()I"⟩ : MethodName), prog_1_method_5_code, 1, some .int, 5, 1, 6, 142, 0, 0, false, 439, 51, 437, 438),
  ((⟨fv_RN 5, "verb", "(II)I"⟩ : MethodName), prog_1_method_6_code, 3, some .int, 5, 3, 3, 66, 0, 0, false, 443, 51, 441, 442),
  ((⟨fv_RN 5, "noun", "(I)I"⟩ : MethodName), prog_1_method_7_code, 2, some .int, 5, 2, 2, 42, 0, 0, false, 462, 51, 460, 461),
  ((⟨fv_RN 5, "village", "(II)I"⟩ : MethodName), prog_1_method_8_code, 3, some .int, 5, 3, 2, 43, 0, 0, false, 467, 51, 465, 466),
  ((⟨fv_RN 5, "stock", "(II)I"⟩ : MethodName), prog_1_method_9_code, 3, some .int, 5, 3, 2, 43, 0, 0, false, 476, 51, 474, 475),
  ((⟨fv_RN 5, "work", "(II)I"⟩ : MethodName), prog_1_method_10_code, 3, some .int, 5, 3, 2, 43, 0, 0, false, 480, 51, 478, 479),
  ((⟨fv_RN 5, "pass", "(I)I"⟩ : MethodName), prog_1_method_11_code, 2, some .int, 5, 2, 5, 116, 0, 0, false, 488, 51, 486, 487),
  ((⟨fv_RN 5, "give", "(IIII)I"⟩ : MethodName), prog_1_method_12_code, 6, some .int, 5, 5, 3, 69, 0, 0, false, 542, 51, 540, 541),
  ((⟨fv_RN 5, "sow", "(II)I"⟩ : MethodName), prog_1_method_13_code, 4, some .int, 5, 3, 3, 67, 0, 0, false, 554, 51, 552, 553),
  ((⟨fv_RN 5, "undo", "()I"⟩ : MethodName), prog_1_method_14_code, 1, some .int, 5, 1, 3, 65, 0, 0, false, 564, 51, 562, 563),
  ((⟨fv_RN 5, "behind", "(IIII)I"⟩ : MethodName), prog_1_method_15_code, 6, some .int, 5, 5, 5, 116, 0, 0, false, 572, 51, 570, 571),
  ((⟨fv_RN 5, "silent", "(I)I"⟩ : MethodName), prog_1_method_16_code, 4, some .int, 5, 2, 4, 93, 0, 0, false, 590, 51, 588, 589),
  ((⟨fv_RN 5, "lasts", "(I)I"⟩ : MethodName), prog_1_method_17_code, 4, some .int, 5, 2, 4, 93, 0, 0, false, 601, 51, 599, 600),
  ((⟨fv_RN 5, "sent", "()I"⟩ : MethodName), prog_1_method_18_code, 7, some .int, 5, 1, 4, 94, 0, 0, false, 605, 51, 603, 604)]
def fv_mt_4 : List fv_Mt := [
  ((⟨fv_RN 5, "share", "(III)I"⟩ : MethodName), prog_1_method_19_code, 10, some .int, 5, 4, 3, 66, 0, 0, false, 626, 51, 624, 625),
  ((⟨fv_RN 5, "readings", "(I)I"⟩ : MethodName), prog_1_method_20_code, 2, some .int, 5, 2, 3, 65, 0, 0, false, 632, 51, 630, 631),
  ((⟨fv_RN 5, "say", "(II)I"⟩ : MethodName), prog_1_method_21_code, 3, some .int, 5, 3, 4, 90, 0, 0, false, 642, 51, 640, 641),
  ((⟨fv_RN 5, "tells", "(II)I"⟩ : MethodName), prog_1_method_22_code, 7, some .int, 5, 3, 3, 65, 0, 0, false, 650, 51, 648, 649),
  ((⟨fv_RN 5, "bred", "(I)I"⟩ : MethodName), prog_1_method_23_code, 4, some .int, 5, 2, 3, 67, 0, 0, false, 655, 51, 653, 654),
  ((⟨fv_RN 5, "hear", "(IIZ)I"⟩ : MethodName), prog_1_method_24_code, 4, some .int, 5, 4, 2, 45, 0, 0, false, 659, 51, 657, 658),
  ((⟨fv_RN 5, "forget", "()I"⟩ : MethodName), prog_1_method_25_code, 2, some .int, 5, 1, 0, 0, 0, 0, false, 668, 51, 666, 667),
  ((⟨fv_RN 5, "hoard", "(III)I"⟩ : MethodName), prog_1_method_26_code, 7, some .int, 5, 4, 5, 118, 0, 0, false, 672, 51, 670, 671),
  ((⟨fv_RN 5, "caravan", "(IIII)I"⟩ : MethodName), prog_1_method_27_code, 7, some .int, 5, 5, 5, 116, 0, 0, false, 691, 51, 689, 690),
  ((⟨fv_RN 5, "decade", "(III)I"⟩ : MethodName), prog_1_method_28_code, 5, some .int, 5, 4, 4, 93, 0, 0, false, 695, 51, 693, 694),
  ((⟨fv_RN 5, "keep", "()I"⟩ : MethodName), prog_1_method_29_code, 1, some .int, 5, 1, 3, 64, 0, 0, false, 713, 51, 711, 712),
  ((⟨fv_RN 5, "back", "()I"⟩ : MethodName), prog_1_method_30_code, 1, some .int, 5, 1, 3, 65, 0, 0, false, 717, 51, 715, 716),
  ((⟨fv_RN 5, "count", "(I)I"⟩ : MethodName), prog_1_method_31_code, 2, some .int, 5, 2, 1, 25, 0, 0, false, 721, 51, 719, 720),
  ((⟨fv_RN 5, "isVerb", "(I)Z"⟩ : MethodName), prog_1_method_32_code, 2, some .boolean, 5, 2, 1, 22, 0, 0, false, 447, 51, 446, 8),
  ((⟨fv_RN 5, "isVillage", "(I)Z"⟩ : MethodName), prog_1_method_33_code, 2, some .boolean, 5, 2, 1, 22, 0, 0, false, 471, 51, 470, 10),
  ((⟨fv_RN 5, "isWork", "(I)Z"⟩ : MethodName), prog_1_method_34_code, 2, some .boolean, 5, 2, 1, 22, 0, 0, false, 484, 51, 483, 11),
  ((⟨fv_RN 5, "isRow", "(I)Z"⟩ : MethodName), prog_1_method_35_code, 2, some .boolean, 5, 2, 1, 22, 0, 0, false, 636, 51, 635, 21)]
def fv_mt_5 : List fv_Mt := [
  ((⟨fv_RN 5, "refusalOfGift", "(IIIII)I"⟩ : MethodName), prog_1_method_36_code, 6, some .int, 5, 6, 2, 43, 0, 0, false, 546, 51, 545, 17),
  ((⟨fv_RN 5, "settle", "()Z"⟩ : MethodName), prog_1_method_37_code, 2, some .boolean, 5, 1, 5, 121, 0, 0, false, 279, 51, 278, 0),
  ((⟨fv_RN 5, "goAhead", "(LFamineOfVerbs$Standing;I)V"⟩ : MethodName), prog_1_method_38_code, 4, none, 5, 3, 4, 93, 0, 0, false, 503, 51, 502, 12),
  ((⟨fv_RN 5, "stockOfAll", "(I)I"⟩ : MethodName), prog_1_method_39_code, 4, some .int, 5, 2, 2, 43, 0, 0, false, 451, 51, 450, 9),
  ((⟨fv_RN 5, "worthAhead", "(I)I"⟩ : MethodName), prog_1_method_40_code, 4, some .int, 5, 2, 1, 21, 0, 0, false, 581, 51, 580, 18),
  ((⟨fv_RN 5, "forgottenAhead", "(I)I"⟩ : MethodName), prog_1_method_41_code, 4, some .int, 5, 2, 1, 21, 0, 0, false, 586, 51, 585, 19),
  ((⟨fv_RN 5, "needOf", "(II)I"⟩ : MethodName), prog_1_method_42_code, 5, some .int, 5, 3, 3, 70, 0, 0, false, 609, 51, 608, 20),
  ((⟨fv_RN 5, "couldHaveHad", "(III)Z"⟩ : MethodName), prog_1_method_43_code, 6, some .boolean, 5, 4, 4, 93, 0, 0, false, 676, 51, 675, 22),
  ((⟨fv_RN 5, "changeByDraw", "(I)V"⟩ : MethodName), prog_1_method_44_code, 5, none, 5, 2, 2, 45, 0, 0, false, 706, 51, 705, 23),
  ((⟨fv_RN 5, "drawOf", "(II)I"⟩ : MethodName), prog_1_method_45_code, 4, some .int, 5, 2, 0, 0, 0, 0, true, 698, 51, 697, 0),
  ((⟨fv_RN 5, "remainder", "(II)I"⟩ : MethodName), prog_1_method_46_code, 2, some .int, 5, 2, 0, 0, 0, 0, true, 709, 51, 708, 0),
  ((⟨fv_RN 5, "within", "(III)Z"⟩ : MethodName), prog_1_method_47_code, 3, some .boolean, 5, 3, 0, 0, 0, 0, true, 311, 51, 310, 0),
  ((⟨fv_RN 5, "has", "(II)Z"⟩ : MethodName), prog_1_method_48_code, 2, some .boolean, 5, 2, 0, 0, 0, 0, true, 369, 51, 368, 0),
  ((⟨fv_RN 5, "lowestIn", "(I)I"⟩ : MethodName), prog_1_method_49_code, 2, some .int, 5, 1, 1, 21, 0, 0, true, 597, 51, 596, 0),
  ((⟨fv_RN 5, "at", "([II)I"⟩ : MethodName), prog_1_method_50_code, 2, some .int, 5, 2, 0, 0, 0, 0, true, 325, 51, 324, 0),
  ((⟨fv_RN 5, "put", "([III)V"⟩ : MethodName), prog_1_method_51_code, 3, none, 5, 3, 0, 0, 0, 0, true, 318, 51, 317, 0),
  ((⟨fv_RN 5, "fill", "([II)V"⟩ : MethodName), prog_1_method_52_code, 3, none, 5, 2, 0, 0, 0, 0, true, 290, 51, 289, 0)]
def fv_mt_6 : List fv_Mt := [
  ((⟨fv_RN 5, "copy", "([I[I)V"⟩ : MethodName), prog_1_method_53_code, 3, none, 5, 2, 0, 0, 0, 0, true, 395, 51, 394, 0),
  ((⟨fv_RN 5, "sumOf", "([I)I"⟩ : MethodName), prog_1_method_54_code, 6, some .int, 5, 1, 0, 0, 0, 0, true, 724, 51, 723, 0),
  ((⟨fv_RN 5, "cell", "(II)I"⟩ : MethodName), prog_1_method_55_code, 2, some .int, 5, 2, 0, 0, 0, 0, true, 350, 51, 349, 0),
  ((⟨fv_RN 6, "<init>", "()V"⟩ : MethodName), prog_8_method_1_code, 1, none, 6, 1, 3, 67, 18, 951, false, 729, 62, 728, 0),
  ((⟨fv_RN 6, "tellsVerb", "(II)V"⟩ : MethodName), prog_8_method_3_code, 3, none, 6, 3, 0, 0, 0, 0, false, 738, 62, 737, 25),
  ((⟨fv_RN 6, "tellsWork", "(III)V"⟩ : MethodName), prog_8_method_4_code, 4, none, 6, 4, 0, 0, 0, 0, false, 742, 62, 741, 26),
  ((⟨fv_RN 6, "in", "(III)Z"⟩ : MethodName), prog_8_method_5_code, 3, some .boolean, 6, 3, 0, 0, 0, 0, true, 860, 62, 859, 0),
  ((⟨fv_RN 6, "isIn", "(II)Z"⟩ : MethodName), prog_8_method_6_code, 2, some .boolean, 6, 2, 0, 0, 0, 0, true, 756, 62, 755, 0),
  ((⟨fv_RN 6, "isVerb", "(I)Z"⟩ : MethodName), prog_8_method_7_code, 2, some .boolean, 6, 2, 1, 22, 0, 0, false, 932, 62, 931, 40),
  ((⟨fv_RN 6, "isVillage", "(I)Z"⟩ : MethodName), prog_8_method_8_code, 2, some .boolean, 6, 2, 1, 22, 0, 0, false, 928, 62, 927, 39),
  ((⟨fv_RN 6, "write", "(I)I"⟩ : MethodName), prog_8_method_9_code, 2, some .int, 6, 2, 1, 22, 0, 0, false, 857, 62, 855, 856),
  ((⟨fv_RN 6, "wipe", "()I"⟩ : MethodName), prog_8_method_10_code, 2, some .int, 6, 1, 0, 0, 0, 0, false, 864, 62, 862, 863),
  ((⟨fv_RN 6, "letterAt", "(I)I"⟩ : MethodName), prog_8_method_11_code, 2, some .int, 6, 2, 0, 0, 0, 0, false, 876, 62, 875, 30),
  ((⟨fv_RN 6, "isFigure", "(I)Z"⟩ : MethodName), prog_8_method_12_code, 1, some .boolean, 6, 1, 1, 22, 0, 0, true, 887, 62, 886, 0),
  ((⟨fv_RN 6, "readNumbers", "(I)Z"⟩ : MethodName), prog_8_method_13_code, 3, some .boolean, 6, 2, 2, 42, 0, 0, false, 884, 62, 883, 32),
  ((⟨fv_RN 6, "isTold", "(III)Z"⟩ : MethodName), prog_8_method_14_code, 4, some .boolean, 6, 4, 1, 22, 0, 0, false, 891, 62, 890, 33),
  ((⟨fv_RN 6, "put", "([II[II)V"⟩ : MethodName), prog_8_method_15_code, 5, none, 6, 4, 0, 0, 0, 0, true, 749, 62, 748, 0)]
def fv_mt_7 : List fv_Mt := [
  ((⟨fv_RN 6, "clearTold", "()V"⟩ : MethodName), prog_8_method_16_code, 2, none, 6, 1, 0, 0, 0, 0, false, 734, 62, 733, 24),
  ((⟨fv_RN 6, "readVerbOf", "()Z"⟩ : MethodName), prog_8_method_17_code, 1, some .boolean, 6, 1, 3, 64, 0, 0, false, 880, 62, 879, 31),
  ((⟨fv_RN 6, "readNounOf", "()Z"⟩ : MethodName), prog_8_method_18_code, 1, some .boolean, 6, 1, 3, 64, 0, 0, false, 895, 62, 894, 34),
  ((⟨fv_RN 6, "readVillageOf", "()Z"⟩ : MethodName), prog_8_method_19_code, 1, some .boolean, 6, 1, 3, 64, 0, 0, false, 899, 62, 898, 35),
  ((⟨fv_RN 6, "isToldVillage", "()Z"⟩ : MethodName), prog_8_method_20_code, 1, some .boolean, 6, 1, 2, 45, 0, 0, false, 907, 62, 906, 37),
  ((⟨fv_RN 6, "readStockOf", "()Z"⟩ : MethodName), prog_8_method_21_code, 1, some .boolean, 6, 1, 3, 65, 0, 0, false, 903, 62, 902, 36),
  ((⟨fv_RN 6, "readWorkOf", "()Z"⟩ : MethodName), prog_8_method_22_code, 1, some .boolean, 6, 1, 3, 65, 0, 0, false, 911, 62, 910, 38),
  ((⟨fv_RN 6, "readItem", "()Z"⟩ : MethodName), prog_8_method_23_code, 2, some .boolean, 6, 1, 4, 85, 0, 0, false, 872, 62, 871, 29),
  ((⟨fv_RN 6, "fault", "()I"⟩ : MethodName), prog_8_method_24_code, 2, some .int, 6, 1, 5, 106, 0, 0, false, 868, 62, 866, 867),
  ((⟨fv_RN 6, "lay", "()I"⟩ : MethodName), prog_8_method_25_code, 1, some .int, 6, 1, 6, 127, 0, 0, false, 915, 62, 913, 914),
  ((⟨fv_RN 6, "settles", "()V"⟩ : MethodName), prog_8_method_26_code, 4, none, 6, 1, 2, 44, 0, 0, false, 746, 62, 745, 27),
  ((⟨fv_RN 6, "bits", "(I)I"⟩ : MethodName), prog_8_method_27_code, 3, some .int, 6, 1, 0, 0, 0, 0, true, 759, 62, 758, 0),
  ((⟨fv_RN 6, "readingsOf", "(I)I"⟩ : MethodName), prog_8_method_28_code, 4, some .int, 6, 2, 1, 21, 0, 0, false, 753, 62, 752, 28),
  ((⟨fv_RN 6, "readings", "(I)I"⟩ : MethodName), prog_8_method_29_code, 2, some .int, 6, 2, 2, 44, 0, 0, false, 920, 62, 918, 919),
  ((⟨fv_RN 6, "say", "(II)I"⟩ : MethodName), prog_8_method_30_code, 6, some .int, 6, 3, 2, 44, 0, 0, false, 924, 62, 922, 923),
  ((⟨fv_RN 6, "tells", "(II)I"⟩ : MethodName), prog_8_method_31_code, 8, some .int, 6, 3, 2, 44, 0, 0, false, 936, 62, 934, 935),
  ((⟨fv_RN 6, "verb", "(II)I"⟩ : MethodName), prog_8_method_32_code, 5, some .int, 6, 3, 2, 43, 0, 0, false, 940, 62, 938, 939)]
def fv_mt_8 : List fv_Mt := [
  ((⟨fv_RN 6, "noun", "(I)I"⟩ : MethodName), prog_8_method_33_code, 2, some .int, 6, 2, 1, 22, 0, 0, false, 944, 62, 942, 943),
  ((⟨fv_RN 6, "village", "(II)I"⟩ : MethodName), prog_8_method_34_code, 3, some .int, 6, 3, 2, 43, 0, 0, false, 948, 62, 946, 947),
  ((⟨fv_RN 6, "stock", "(II)I"⟩ : MethodName), prog_8_method_35_code, 3, some .int, 6, 3, 2, 43, 0, 0, false, 952, 62, 950, 951),
  ((⟨fv_RN 6, "work", "(II)I"⟩ : MethodName), prog_8_method_36_code, 3, some .int, 6, 3, 1, 22, 0, 0, false, 956, 62, 954, 955),
  ((⟨fv_RN 6, "from", "([I)V"⟩ : MethodName), prog_8_method_37_code, 2, none, 6, 2, 1, 24, 0, 0, false, 968, 62, 967, 42),
  ((⟨fv_RN 6, "isSaid", "(I)Z"⟩ : MethodName), prog_8_method_38_code, 7, some .boolean, 6, 2, 1, 21, 0, 0, false, 980, 62, 979, 45),
  ((⟨fv_RN 6, "goes", "()I"⟩ : MethodName), prog_8_method_39_code, 6, some .int, 6, 1, 2, 47, 0, 0, false, 976, 62, 975, 44),
  ((⟨fv_RN 6, "goesOn", "(I)V"⟩ : MethodName), prog_8_method_40_code, 3, none, 6, 2, 3, 72, 0, 0, false, 972, 62, 971, 43),
  ((⟨fv_RN 6, "worthOf", "(I)I"⟩ : MethodName), prog_8_method_41_code, 4, some .int, 6, 2, 0, 0, 0, 0, false, 1004, 62, 1003, 47),
  ((⟨fv_RN 6, "forgottenOf", "(I)I"⟩ : MethodName), prog_8_method_42_code, 4, some .int, 6, 2, 0, 0, 0, 0, false, 1008, 62, 1007, 48),
  ((⟨fv_RN 6, "remembers", "()V"⟩ : MethodName), prog_8_method_43_code, 2, none, 6, 1, 1, 24, 0, 0, false, 964, 62, 963, 41),
  ((⟨fv_RN 6, "pass", "(I)I"⟩ : MethodName), prog_8_method_44_code, 2, some .int, 6, 2, 4, 94, 0, 0, false, 960, 62, 958, 959),
  ((⟨fv_RN 6, "give", "(IIII)I"⟩ : MethodName), prog_8_method_45_code, 5, some .int, 6, 5, 2, 45, 0, 0, false, 984, 62, 982, 983),
  ((⟨fv_RN 6, "smallOf", "(I)I"⟩ : MethodName), prog_8_method_46_code, 3, some .int, 6, 2, 0, 0, 0, 0, false, 992, 62, 991, 46),
  ((⟨fv_RN 6, "sow", "(II)I"⟩ : MethodName), prog_8_method_47_code, 4, some .int, 6, 3, 2, 45, 0, 0, false, 988, 62, 986, 987),
  ((⟨fv_RN 6, "undo", "()I"⟩ : MethodName), prog_8_method_48_code, 2, some .int, 6, 1, 0, 0, 0, 0, false, 996, 62, 994, 995),
  ((⟨fv_RN 6, "behind", "(IIII)I"⟩ : MethodName), prog_8_method_49_code, 5, some .int, 6, 5, 4, 94, 0, 0, false, 1000, 62, 998, 999)]
def fv_mt_9 : List fv_Mt := [
  ((⟨fv_RN 6, "silent", "(I)I"⟩ : MethodName), prog_8_method_50_code, 5, some .int, 6, 2, 3, 72, 0, 0, false, 1012, 62, 1010, 1011),
  ((⟨fv_RN 6, "lasts", "(I)I"⟩ : MethodName), prog_8_method_51_code, 3, some .int, 6, 2, 3, 72, 0, 0, false, 1016, 62, 1014, 1015),
  ((⟨fv_RN 6, "needOf", "(II)I"⟩ : MethodName), prog_8_method_52_code, 5, some .int, 6, 3, 1, 21, 0, 0, false, 1024, 62, 1023, 49),
  ((⟨fv_RN 6, "sent", "()I"⟩ : MethodName), prog_8_method_53_code, 7, some .int, 6, 1, 2, 45, 0, 0, false, 1020, 62, 1018, 1019),
  ((⟨fv_RN 6, "share", "(III)I"⟩ : MethodName), prog_8_method_54_code, 12, some .int, 6, 4, 2, 43, 0, 0, false, 1028, 62, 1026, 1027),
  ((⟨fv_RN 6, "bred", "(I)I"⟩ : MethodName), prog_8_method_55_code, 5, some .int, 6, 2, 2, 43, 0, 0, false, 1032, 62, 1030, 1031),
  ((⟨fv_RN 6, "hear", "(IIZ)I"⟩ : MethodName), prog_8_method_56_code, 4, some .int, 6, 4, 1, 22, 0, 0, false, 1036, 62, 1034, 1035),
  ((⟨fv_RN 6, "forget", "()I"⟩ : MethodName), prog_8_method_57_code, 2, some .int, 6, 1, 0, 0, 0, 0, false, 1040, 62, 1038, 1039),
  ((⟨fv_RN 6, "hoard", "(III)I"⟩ : MethodName), prog_8_method_58_code, 11, some .int, 6, 4, 3, 72, 0, 0, false, 1044, 62, 1042, 1043),
  ((⟨fv_RN 6, "caravan", "(IIII)I"⟩ : MethodName), prog_8_method_59_code, 6, some .int, 6, 5, 4, 94, 0, 0, false, 1048, 62, 1046, 1047),
  ((⟨fv_RN 6, "decade", "(III)I"⟩ : MethodName), prog_8_method_60_code, 10, some .int, 6, 4, 3, 72, 0, 0, false, 1052, 62, 1050, 1051),
  ((⟨fv_RN 6, "keep", "()I"⟩ : MethodName), prog_8_method_61_code, 1, some .int, 6, 1, 1, 24, 0, 0, false, 1060, 62, 1058, 1059),
  ((⟨fv_RN 6, "back", "()I"⟩ : MethodName), prog_8_method_62_code, 2, some .int, 6, 1, 0, 0, 0, 0, false, 1064, 62, 1062, 1063),
  ((⟨fv_RN 6, "count", "(I)I"⟩ : MethodName), prog_8_method_63_code, 4, some .int, 6, 2, 0, 0, 0, 0, false, 1068, 62, 1066, 1067),
  ((⟨fv_RN 8, "bitCount", "(I)I"⟩ : MethodName), prog_9_method_49_code, 1, some .int, 8, 1, 0, 0, 0, 0, true, 377, 61, 376, 0)]
def fv_mtc : List fv_Mt := fv_mt_0 ++ (fv_mt_1 ++ (fv_mt_2 ++ (fv_mt_3 ++ (fv_mt_4 ++ (fv_mt_5 ++ (fv_mt_6 ++ (fv_mt_7 ++ (fv_mt_8 ++ (fv_mt_9)))))))))
def fv_law : fv_Mt := ((⟨fv_RN 7, "law", "([I)Z"⟩ : MethodName), code, 4, ret, 7, 1, 9, 326, 600000, 7302250, true, 0, 50, 0, 0)
def fv_mt : List fv_Mt := fv_mtc ++ [fv_law]
def fv_g (z : Nat) : fv_Mt := fv_mt.getD z fv_law
def fv_y (z : Nat) : MethodName := (fv_g z).1
def fv_cc (z : Nat) : ByteArray := (fv_g z).2.1
def fv_ml (z : Nat) : Nat := (fv_g z).2.2.1
def fv_rt (z : Nat) : Option FieldType := (fv_g z).2.2.2.1
def fv_ow (z : Nat) : Nat := (fv_g z).2.2.2.2.1
def fv_np (z : Nat) : Nat := (fv_g z).2.2.2.2.2.1
def fv_fr (z : Nat) : Nat := (fv_g z).2.2.2.2.2.2.1
def fv_lo (z : Nat) : Nat := (fv_g z).2.2.2.2.2.2.2.1
def fv_mc (z : Nat) : Nat := (fv_g z).2.2.2.2.2.2.2.2.1
def fv_ms (z : Nat) : Nat := (fv_g z).2.2.2.2.2.2.2.2.2.1
def fv_st (z : Nat) : Bool := (fv_g z).2.2.2.2.2.2.2.2.2.2.1
def fv_ic (z : Nat) : Nat := (fv_g z).2.2.2.2.2.2.2.2.2.2.2.1
def fv_ii (z : Nat) : Nat := (fv_g z).2.2.2.2.2.2.2.2.2.2.2.2.1
def fv_is (z : Nat) : Nat := (fv_g z).2.2.2.2.2.2.2.2.2.2.2.2.2.1
def fv_il (z : Nat) : Nat := (fv_g z).2.2.2.2.2.2.2.2.2.2.2.2.2.2
def fv_LAW : Nat := 168
def fv_XI : Nat := 50
def fv_rm (z : Nat) : Room := { frames := fv_fr z, cells := fv_mc z, slots := fv_ms z, locals := fv_lo z }
/-- the words that pass from a caller to what it calls -/
def fv_GL : List Cond := lw_tbl.filter goodWord
def fv_ws (z : Nat) : List Cond := Cond.code (fv_y z) (fv_cc z) (fv_ml z) (fv_rt z) :: fv_GL
theorem fv_GL_in {i : Nat} {c : Cond} (h : lw_tbl[i]? = some c) (hg : goodWord c = true) : c ∈ fv_GL := List.mem_filter.mpr ⟨List.mem_of_getElem? h, hg⟩
set_option maxRecDepth 100000 in
theorem fv_mc_0 : ∀ q ∈ fv_mt_0, lw_tbl[q.2.2.2.2.2.2.2.2.2.2.2.1]? = some (Cond.code q.1 q.2.1 q.2.2.1 q.2.2.2.1) := List.forall_mem_cons.mpr ⟨rfl, List.forall_mem_cons.mpr ⟨rfl, List.forall_mem_cons.mpr ⟨rfl, List.forall_mem_cons.mpr ⟨rfl, List.forall_mem_cons.mpr ⟨rfl, List.forall_mem_cons.mpr ⟨rfl, List.forall_mem_cons.mpr ⟨rfl, List.forall_mem_cons.mpr ⟨rfl, List.forall_mem_cons.mpr ⟨rfl, List.forall_mem_cons.mpr ⟨rfl, List.forall_mem_cons.mpr ⟨rfl, List.forall_mem_cons.mpr ⟨rfl, List.forall_mem_cons.mpr ⟨rfl, List.forall_mem_cons.mpr ⟨rfl, List.forall_mem_cons.mpr ⟨rfl, List.forall_mem_cons.mpr ⟨rfl, List.forall_mem_cons.mpr ⟨rfl, fun _ h => absurd h List.not_mem_nil⟩⟩⟩⟩⟩⟩⟩⟩⟩⟩⟩⟩⟩⟩⟩⟩⟩
set_option maxRecDepth 100000 in
theorem fv_mc_1 : ∀ q ∈ fv_mt_1, lw_tbl[q.2.2.2.2.2.2.2.2.2.2.2.1]? = some (Cond.code q.1 q.2.1 q.2.2.1 q.2.2.2.1) := List.forall_mem_cons.mpr ⟨rfl, List.forall_mem_cons.mpr ⟨rfl, List.forall_mem_cons.mpr ⟨rfl, List.forall_mem_cons.mpr ⟨rfl, List.forall_mem_cons.mpr ⟨rfl, List.forall_mem_cons.mpr ⟨rfl, List.forall_mem_cons.mpr ⟨rfl, List.forall_mem_cons.mpr ⟨rfl, List.forall_mem_cons.mpr ⟨rfl, List.forall_mem_cons.mpr ⟨rfl, List.forall_mem_cons.mpr ⟨rfl, List.forall_mem_cons.mpr ⟨rfl, List.forall_mem_cons.mpr ⟨rfl, List.forall_mem_cons.mpr ⟨rfl, List.forall_mem_cons.mpr ⟨rfl, List.forall_mem_cons.mpr ⟨rfl, List.forall_mem_cons.mpr ⟨rfl, fun _ h => absurd h List.not_mem_nil⟩⟩⟩⟩⟩⟩⟩⟩⟩⟩⟩⟩⟩⟩⟩⟩⟩
set_option maxRecDepth 100000 in
theorem fv_mc_2 : ∀ q ∈ fv_mt_2, lw_tbl[q.2.2.2.2.2.2.2.2.2.2.2.1]? = some (Cond.code q.1 q.2.1 q.2.2.1 q.2.2.2.1) := List.forall_mem_cons.mpr ⟨rfl, List.forall_mem_cons.mpr ⟨rfl, List.forall_mem_cons.mpr ⟨rfl, List.forall_mem_cons.mpr ⟨rfl, List.forall_mem_cons.mpr ⟨rfl, List.forall_mem_cons.mpr ⟨rfl, List.forall_mem_cons.mpr ⟨rfl, List.forall_mem_cons.mpr ⟨rfl, List.forall_mem_cons.mpr ⟨rfl, List.forall_mem_cons.mpr ⟨rfl, List.forall_mem_cons.mpr ⟨rfl, List.forall_mem_cons.mpr ⟨rfl, List.forall_mem_cons.mpr ⟨rfl, List.forall_mem_cons.mpr ⟨rfl, List.forall_mem_cons.mpr ⟨rfl, List.forall_mem_cons.mpr ⟨rfl, List.forall_mem_cons.mpr ⟨rfl, fun _ h => absurd h List.not_mem_nil⟩⟩⟩⟩⟩⟩⟩⟩⟩⟩⟩⟩⟩⟩⟩⟩⟩
set_option maxRecDepth 100000 in
theorem fv_mc_3 : ∀ q ∈ fv_mt_3, lw_tbl[q.2.2.2.2.2.2.2.2.2.2.2.1]? = some (Cond.code q.1 q.2.1 q.2.2.1 q.2.2.2.1) := List.forall_mem_cons.mpr ⟨rfl, List.forall_mem_cons.mpr ⟨rfl, List.forall_mem_cons.mpr ⟨rfl, List.forall_mem_cons.mpr ⟨rfl, List.forall_mem_cons.mpr ⟨rfl, List.forall_mem_cons.mpr ⟨rfl, List.forall_mem_cons.mpr ⟨rfl, List.forall_mem_cons.mpr ⟨rfl, List.forall_mem_cons.mpr ⟨rfl, List.forall_mem_cons.mpr ⟨rfl, List.forall_mem_cons.mpr ⟨rfl, List.forall_mem_cons.mpr ⟨rfl, List.forall_mem_cons.mpr ⟨rfl, List.forall_mem_cons.mpr ⟨rfl, List.forall_mem_cons.mpr ⟨rfl, List.forall_mem_cons.mpr ⟨rfl, List.forall_mem_cons.mpr ⟨rfl, fun _ h => absurd h List.not_mem_nil⟩⟩⟩⟩⟩⟩⟩⟩⟩⟩⟩⟩⟩⟩⟩⟩⟩
set_option maxRecDepth 100000 in
theorem fv_mc_4 : ∀ q ∈ fv_mt_4, lw_tbl[q.2.2.2.2.2.2.2.2.2.2.2.1]? = some (Cond.code q.1 q.2.1 q.2.2.1 q.2.2.2.1) := List.forall_mem_cons.mpr ⟨rfl, List.forall_mem_cons.mpr ⟨rfl, List.forall_mem_cons.mpr ⟨rfl, List.forall_mem_cons.mpr ⟨rfl, List.forall_mem_cons.mpr ⟨rfl, List.forall_mem_cons.mpr ⟨rfl, List.forall_mem_cons.mpr ⟨rfl, List.forall_mem_cons.mpr ⟨rfl, List.forall_mem_cons.mpr ⟨rfl, List.forall_mem_cons.mpr ⟨rfl, List.forall_mem_cons.mpr ⟨rfl, List.forall_mem_cons.mpr ⟨rfl, List.forall_mem_cons.mpr ⟨rfl, List.forall_mem_cons.mpr ⟨rfl, List.forall_mem_cons.mpr ⟨rfl, List.forall_mem_cons.mpr ⟨rfl, List.forall_mem_cons.mpr ⟨rfl, fun _ h => absurd h List.not_mem_nil⟩⟩⟩⟩⟩⟩⟩⟩⟩⟩⟩⟩⟩⟩⟩⟩⟩
set_option maxRecDepth 100000 in
theorem fv_mc_5 : ∀ q ∈ fv_mt_5, lw_tbl[q.2.2.2.2.2.2.2.2.2.2.2.1]? = some (Cond.code q.1 q.2.1 q.2.2.1 q.2.2.2.1) := List.forall_mem_cons.mpr ⟨rfl, List.forall_mem_cons.mpr ⟨rfl, List.forall_mem_cons.mpr ⟨rfl, List.forall_mem_cons.mpr ⟨rfl, List.forall_mem_cons.mpr ⟨rfl, List.forall_mem_cons.mpr ⟨rfl, List.forall_mem_cons.mpr ⟨rfl, List.forall_mem_cons.mpr ⟨rfl, List.forall_mem_cons.mpr ⟨rfl, List.forall_mem_cons.mpr ⟨rfl, List.forall_mem_cons.mpr ⟨rfl, List.forall_mem_cons.mpr ⟨rfl, List.forall_mem_cons.mpr ⟨rfl, List.forall_mem_cons.mpr ⟨rfl, List.forall_mem_cons.mpr ⟨rfl, List.forall_mem_cons.mpr ⟨rfl, List.forall_mem_cons.mpr ⟨rfl, fun _ h => absurd h List.not_mem_nil⟩⟩⟩⟩⟩⟩⟩⟩⟩⟩⟩⟩⟩⟩⟩⟩⟩
set_option maxRecDepth 100000 in
theorem fv_mc_6 : ∀ q ∈ fv_mt_6, lw_tbl[q.2.2.2.2.2.2.2.2.2.2.2.1]? = some (Cond.code q.1 q.2.1 q.2.2.1 q.2.2.2.1) := List.forall_mem_cons.mpr ⟨rfl, List.forall_mem_cons.mpr ⟨rfl, List.forall_mem_cons.mpr ⟨rfl, List.forall_mem_cons.mpr ⟨rfl, List.forall_mem_cons.mpr ⟨rfl, List.forall_mem_cons.mpr ⟨rfl, List.forall_mem_cons.mpr ⟨rfl, List.forall_mem_cons.mpr ⟨rfl, List.forall_mem_cons.mpr ⟨rfl, List.forall_mem_cons.mpr ⟨rfl, List.forall_mem_cons.mpr ⟨rfl, List.forall_mem_cons.mpr ⟨rfl, List.forall_mem_cons.mpr ⟨rfl, List.forall_mem_cons.mpr ⟨rfl, List.forall_mem_cons.mpr ⟨rfl, List.forall_mem_cons.mpr ⟨rfl, List.forall_mem_cons.mpr ⟨rfl, fun _ h => absurd h List.not_mem_nil⟩⟩⟩⟩⟩⟩⟩⟩⟩⟩⟩⟩⟩⟩⟩⟩⟩
set_option maxRecDepth 100000 in
theorem fv_mc_7 : ∀ q ∈ fv_mt_7, lw_tbl[q.2.2.2.2.2.2.2.2.2.2.2.1]? = some (Cond.code q.1 q.2.1 q.2.2.1 q.2.2.2.1) := List.forall_mem_cons.mpr ⟨rfl, List.forall_mem_cons.mpr ⟨rfl, List.forall_mem_cons.mpr ⟨rfl, List.forall_mem_cons.mpr ⟨rfl, List.forall_mem_cons.mpr ⟨rfl, List.forall_mem_cons.mpr ⟨rfl, List.forall_mem_cons.mpr ⟨rfl, List.forall_mem_cons.mpr ⟨rfl, List.forall_mem_cons.mpr ⟨rfl, List.forall_mem_cons.mpr ⟨rfl, List.forall_mem_cons.mpr ⟨rfl, List.forall_mem_cons.mpr ⟨rfl, List.forall_mem_cons.mpr ⟨rfl, List.forall_mem_cons.mpr ⟨rfl, List.forall_mem_cons.mpr ⟨rfl, List.forall_mem_cons.mpr ⟨rfl, List.forall_mem_cons.mpr ⟨rfl, fun _ h => absurd h List.not_mem_nil⟩⟩⟩⟩⟩⟩⟩⟩⟩⟩⟩⟩⟩⟩⟩⟩⟩
set_option maxRecDepth 100000 in
theorem fv_mc_8 : ∀ q ∈ fv_mt_8, lw_tbl[q.2.2.2.2.2.2.2.2.2.2.2.1]? = some (Cond.code q.1 q.2.1 q.2.2.1 q.2.2.2.1) := List.forall_mem_cons.mpr ⟨rfl, List.forall_mem_cons.mpr ⟨rfl, List.forall_mem_cons.mpr ⟨rfl, List.forall_mem_cons.mpr ⟨rfl, List.forall_mem_cons.mpr ⟨rfl, List.forall_mem_cons.mpr ⟨rfl, List.forall_mem_cons.mpr ⟨rfl, List.forall_mem_cons.mpr ⟨rfl, List.forall_mem_cons.mpr ⟨rfl, List.forall_mem_cons.mpr ⟨rfl, List.forall_mem_cons.mpr ⟨rfl, List.forall_mem_cons.mpr ⟨rfl, List.forall_mem_cons.mpr ⟨rfl, List.forall_mem_cons.mpr ⟨rfl, List.forall_mem_cons.mpr ⟨rfl, List.forall_mem_cons.mpr ⟨rfl, List.forall_mem_cons.mpr ⟨rfl, fun _ h => absurd h List.not_mem_nil⟩⟩⟩⟩⟩⟩⟩⟩⟩⟩⟩⟩⟩⟩⟩⟩⟩
set_option maxRecDepth 100000 in
theorem fv_mc_9 : ∀ q ∈ fv_mt_9, lw_tbl[q.2.2.2.2.2.2.2.2.2.2.2.1]? = some (Cond.code q.1 q.2.1 q.2.2.1 q.2.2.2.1) := List.forall_mem_cons.mpr ⟨rfl, List.forall_mem_cons.mpr ⟨rfl, List.forall_mem_cons.mpr ⟨rfl, List.forall_mem_cons.mpr ⟨rfl, List.forall_mem_cons.mpr ⟨rfl, List.forall_mem_cons.mpr ⟨rfl, List.forall_mem_cons.mpr ⟨rfl, List.forall_mem_cons.mpr ⟨rfl, List.forall_mem_cons.mpr ⟨rfl, List.forall_mem_cons.mpr ⟨rfl, List.forall_mem_cons.mpr ⟨rfl, List.forall_mem_cons.mpr ⟨rfl, List.forall_mem_cons.mpr ⟨rfl, List.forall_mem_cons.mpr ⟨rfl, List.forall_mem_cons.mpr ⟨rfl, fun _ h => absurd h List.not_mem_nil⟩⟩⟩⟩⟩⟩⟩⟩⟩⟩⟩⟩⟩⟩⟩
theorem fv_mc_all : ∀ q ∈ fv_mtc, lw_tbl[q.2.2.2.2.2.2.2.2.2.2.2.1]? = some (Cond.code q.1 q.2.1 q.2.2.1 q.2.2.2.1) := List.forall_mem_append.mpr ⟨fv_mc_0, List.forall_mem_append.mpr ⟨fv_mc_1, List.forall_mem_append.mpr ⟨fv_mc_2, List.forall_mem_append.mpr ⟨fv_mc_3, List.forall_mem_append.mpr ⟨fv_mc_4, List.forall_mem_append.mpr ⟨fv_mc_5, List.forall_mem_append.mpr ⟨fv_mc_6, List.forall_mem_append.mpr ⟨fv_mc_7, List.forall_mem_append.mpr ⟨fv_mc_8, fv_mc_9⟩⟩⟩⟩⟩⟩⟩⟩⟩
theorem fv_len : fv_mtc.length = 168 := by decide +kernel
theorem fv_g_mem {z : Nat} (h : z < 168) : fv_g z ∈ fv_mtc := by
  have h1 : z < fv_mtc.length := by rw [fv_len]; exact h
  have h2 : fv_g z = fv_mtc[z] := by
    unfold fv_g fv_mt
    rw [List.getD_eq_getElem?_getD, List.getElem?_append_left h1, List.getElem?_eq_getElem h1]
    rfl
  rw [h2]
  exact List.getElem_mem h1
theorem fv_code {z : Nat} (h : z < 168) : Cond.code (fv_y z) (fv_cc z) (fv_ml z) (fv_rt z) ∈ fv_GL := fv_GL_in (fv_mc_all _ (fv_g_mem h)) rfl
def fv_mchk (q : fv_Mt) : Bool :=
  decide (lw_tbl[q.2.2.2.2.2.2.2.2.2.2.2.2.1]? = some (Cond.initialized q.1.cls)) &&
  (if q.2.2.2.2.2.2.2.2.2.2.1 then decide (lw_tbl[q.2.2.2.2.2.2.2.2.2.2.2.2.2.1]? = some (Cond.static q.1))
   else decide (lw_tbl[q.2.2.2.2.2.2.2.2.2.2.2.2.2.1]? = some (Cond.instanceMethod q.1)) && (decide (q.1.name = "<init>") || decide (lw_tbl[q.2.2.2.2.2.2.2.2.2.2.2.2.2.2]? = some (Cond.selects q.1.cls q.1 q.1)))) &&
  decide (q.1.cls ≠ "java/lang/invoke/MethodHandle") && decide (q.1.cls ≠ "java/lang/invoke/VarHandle") && Jvm.plainName q.1.cls && decide (q.1.cls = fv_RN q.2.2.2.2.1) &&
  decide ((parseMethodDescriptor q.1.desc).map (fun d => d.parameters.length + if q.2.2.2.2.2.2.2.2.2.2.1 then 0 else 1) = some q.2.2.2.2.2.1)
theorem fv_mk_0 : fv_mt_0.all fv_mchk = true := by decide +kernel
theorem fv_mk_1 : fv_mt_1.all fv_mchk = true := by decide +kernel
theorem fv_mk_2 : fv_mt_2.all fv_mchk = true := by decide +kernel
theorem fv_mk_3 : fv_mt_3.all fv_mchk = true := by decide +kernel
theorem fv_mk_4 : fv_mt_4.all fv_mchk = true := by decide +kernel
theorem fv_mk_5 : fv_mt_5.all fv_mchk = true := by decide +kernel
theorem fv_mk_6 : fv_mt_6.all fv_mchk = true := by decide +kernel
theorem fv_mk_7 : fv_mt_7.all fv_mchk = true := by decide +kernel
theorem fv_mk_8 : fv_mt_8.all fv_mchk = true := by decide +kernel
theorem fv_mk_9 : fv_mt_9.all fv_mchk = true := by decide +kernel
theorem fv_mk_all : fv_mtc.all fv_mchk = true := by
  unfold fv_mtc
  simp only [List.all_append, fv_mk_0, fv_mk_1, fv_mk_2, fv_mk_3, fv_mk_4, fv_mk_5, fv_mk_6, fv_mk_7, fv_mk_8, fv_mk_9, Bool.and_true]
