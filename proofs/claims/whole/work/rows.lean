section
-- ===== PART A: goes FIRST, ahead of the names: the tables' words, and 'selects' of the private methods out of them =====
/-- a private method of a class that the tables say can be made, by its rows of tables_1 -/
def lw_okq (q : MethodName × Nat) : Prop := (q.1.cls ≠ "java/lang/invoke/MethodHandle" ∧ q.1.cls ≠ "java/lang/invoke/VarHandle") ∧ Cond.instantiable q.1.cls q.2 ∈ tables_1 ∧ Cond.privateMethod q.1 ∈ tables_1 ∧ Cond.instanceMethod q.1 ∈ tables_1
theorem lw_p0 : lw_okq (⟨"FamineOfVerbs", "settle", "()Z"⟩, 8) := ⟨⟨by decide +kernel, by decide +kernel⟩, List.mem_of_getElem? (i := 15) (by decide +kernel), List.mem_of_getElem? (i := 227) (by decide +kernel), List.mem_of_getElem? (i := 228) (by decide +kernel)⟩
theorem lw_p1 : lw_okq (⟨"FamineOfVerbs$Text", "readItem", "(LFamineOfVerbs$Land;I)I"⟩, 3) := ⟨⟨by decide +kernel, by decide +kernel⟩, List.mem_of_getElem? (i := 23) (by decide +kernel), List.mem_of_getElem? (i := 242) (by decide +kernel), List.mem_of_getElem? (i := 243) (by decide +kernel)⟩
theorem lw_p2 : lw_okq (⟨"FamineOfVerbs$Text", "letterAt", "(I)I"⟩, 3) := ⟨⟨by decide +kernel, by decide +kernel⟩, List.mem_of_getElem? (i := 23) (by decide +kernel), List.mem_of_getElem? (i := 246) (by decide +kernel), List.mem_of_getElem? (i := 247) (by decide +kernel)⟩
theorem lw_p3 : lw_okq (⟨"FamineOfVerbs$Text", "figuresAt", "(I)I"⟩, 3) := ⟨⟨by decide +kernel, by decide +kernel⟩, List.mem_of_getElem? (i := 23) (by decide +kernel), List.mem_of_getElem? (i := 253) (by decide +kernel), List.mem_of_getElem? (i := 254) (by decide +kernel)⟩
theorem lw_p4 : lw_okq (⟨"FamineOfVerbs$Text", "numberAt", "(II)I"⟩, 3) := ⟨⟨by decide +kernel, by decide +kernel⟩, List.mem_of_getElem? (i := 23) (by decide +kernel), List.mem_of_getElem? (i := 263) (by decide +kernel), List.mem_of_getElem? (i := 264) (by decide +kernel)⟩
theorem lw_p5 : lw_okq (⟨"FamineOfVerbs$Text", "take", "(LFamineOfVerbs$Land;I)Z"⟩, 3) := ⟨⟨by decide +kernel, by decide +kernel⟩, List.mem_of_getElem? (i := 23) (by decide +kernel), List.mem_of_getElem? (i := 270) (by decide +kernel), List.mem_of_getElem? (i := 271) (by decide +kernel)⟩
theorem lw_p6 : lw_okq (⟨"FamineOfVerbs$Land", "isTold", "(II)Z"⟩, 13) := ⟨⟨by decide +kernel, by decide +kernel⟩, List.mem_of_getElem? (i := 42) (by decide +kernel), List.mem_of_getElem? (i := 295) (by decide +kernel), List.mem_of_getElem? (i := 296) (by decide +kernel)⟩
theorem lw_p7 : lw_okq (⟨"FamineOfVerbs$Land", "addSaid", "(II)V"⟩, 13) := ⟨⟨by decide +kernel, by decide +kernel⟩, List.mem_of_getElem? (i := 42) (by decide +kernel), List.mem_of_getElem? (i := 332) (by decide +kernel), List.mem_of_getElem? (i := 333) (by decide +kernel)⟩
theorem lw_p8 : lw_okq (⟨"FamineOfVerbs", "isVerb", "(I)Z"⟩, 8) := ⟨⟨by decide +kernel, by decide +kernel⟩, List.mem_of_getElem? (i := 15) (by decide +kernel), List.mem_of_getElem? (i := 395) (by decide +kernel), List.mem_of_getElem? (i := 396) (by decide +kernel)⟩
theorem lw_p9 : lw_okq (⟨"FamineOfVerbs", "stockOfAll", "(I)I"⟩, 8) := ⟨⟨by decide +kernel, by decide +kernel⟩, List.mem_of_getElem? (i := 15) (by decide +kernel), List.mem_of_getElem? (i := 399) (by decide +kernel), List.mem_of_getElem? (i := 400) (by decide +kernel)⟩
theorem lw_p10 : lw_okq (⟨"FamineOfVerbs", "isVillage", "(I)Z"⟩, 8) := ⟨⟨by decide +kernel, by decide +kernel⟩, List.mem_of_getElem? (i := 15) (by decide +kernel), List.mem_of_getElem? (i := 419) (by decide +kernel), List.mem_of_getElem? (i := 420) (by decide +kernel)⟩
theorem lw_p11 : lw_okq (⟨"FamineOfVerbs", "isWork", "(I)Z"⟩, 8) := ⟨⟨by decide +kernel, by decide +kernel⟩, List.mem_of_getElem? (i := 15) (by decide +kernel), List.mem_of_getElem? (i := 432) (by decide +kernel), List.mem_of_getElem? (i := 433) (by decide +kernel)⟩
theorem lw_p12 : lw_okq (⟨"FamineOfVerbs", "goAhead", "(LFamineOfVerbs$Standing;I)V"⟩, 8) := ⟨⟨by decide +kernel, by decide +kernel⟩, List.mem_of_getElem? (i := 15) (by decide +kernel), List.mem_of_getElem? (i := 451) (by decide +kernel), List.mem_of_getElem? (i := 452) (by decide +kernel)⟩
theorem lw_p13 : lw_okq (⟨"FamineOfVerbs$Standing", "tryWork", "(LFamineOfVerbs$Land;I)Z"⟩, 5) := ⟨⟨by decide +kernel, by decide +kernel⟩, List.mem_of_getElem? (i := 106) (by decide +kernel), List.mem_of_getElem? (i := 459) (by decide +kernel), List.mem_of_getElem? (i := 460) (by decide +kernel)⟩
theorem lw_p14 : lw_okq (⟨"FamineOfVerbs$Standing", "usedOf", "(II)I"⟩, 5) := ⟨⟨by decide +kernel, by decide +kernel⟩, List.mem_of_getElem? (i := 106) (by decide +kernel), List.mem_of_getElem? (i := 468) (by decide +kernel), List.mem_of_getElem? (i := 469) (by decide +kernel)⟩
theorem lw_p15 : lw_okq (⟨"FamineOfVerbs$Standing", "reap", "(LFamineOfVerbs$Land;I)V"⟩, 5) := ⟨⟨by decide +kernel, by decide +kernel⟩, List.mem_of_getElem? (i := 106) (by decide +kernel), List.mem_of_getElem? (i := 481) (by decide +kernel), List.mem_of_getElem? (i := 482) (by decide +kernel)⟩
def lw_privs_1 : List (MethodName × Nat) := [(⟨"FamineOfVerbs", "settle", "()Z"⟩, 8), (⟨"FamineOfVerbs$Text", "readItem", "(LFamineOfVerbs$Land;I)I"⟩, 3), (⟨"FamineOfVerbs$Text", "letterAt", "(I)I"⟩, 3), (⟨"FamineOfVerbs$Text", "figuresAt", "(I)I"⟩, 3), (⟨"FamineOfVerbs$Text", "numberAt", "(II)I"⟩, 3), (⟨"FamineOfVerbs$Text", "take", "(LFamineOfVerbs$Land;I)Z"⟩, 3), (⟨"FamineOfVerbs$Land", "isTold", "(II)Z"⟩, 13), (⟨"FamineOfVerbs$Land", "addSaid", "(II)V"⟩, 13), (⟨"FamineOfVerbs", "isVerb", "(I)Z"⟩, 8), (⟨"FamineOfVerbs", "stockOfAll", "(I)I"⟩, 8), (⟨"FamineOfVerbs", "isVillage", "(I)Z"⟩, 8), (⟨"FamineOfVerbs", "isWork", "(I)Z"⟩, 8), (⟨"FamineOfVerbs", "goAhead", "(LFamineOfVerbs$Standing;I)V"⟩, 8), (⟨"FamineOfVerbs$Standing", "tryWork", "(LFamineOfVerbs$Land;I)Z"⟩, 5), (⟨"FamineOfVerbs$Standing", "usedOf", "(II)I"⟩, 5), (⟨"FamineOfVerbs$Standing", "reap", "(LFamineOfVerbs$Land;I)V"⟩, 5)]
theorem lw_r1 : ∀ q ∈ lw_privs_1, lw_okq q := List.forall_mem_cons.mpr ⟨lw_p0, List.forall_mem_cons.mpr ⟨lw_p1, List.forall_mem_cons.mpr ⟨lw_p2, List.forall_mem_cons.mpr ⟨lw_p3, List.forall_mem_cons.mpr ⟨lw_p4, List.forall_mem_cons.mpr ⟨lw_p5, List.forall_mem_cons.mpr ⟨lw_p6, List.forall_mem_cons.mpr ⟨lw_p7, List.forall_mem_cons.mpr ⟨lw_p8, List.forall_mem_cons.mpr ⟨lw_p9, List.forall_mem_cons.mpr ⟨lw_p10, List.forall_mem_cons.mpr ⟨lw_p11, List.forall_mem_cons.mpr ⟨lw_p12, List.forall_mem_cons.mpr ⟨lw_p13, List.forall_mem_cons.mpr ⟨lw_p14, List.forall_mem_cons.mpr ⟨lw_p15, fun _ h => absurd h List.not_mem_nil⟩⟩⟩⟩⟩⟩⟩⟩⟩⟩⟩⟩⟩⟩⟩⟩
theorem lw_p16 : lw_okq (⟨"FamineOfVerbs$Standing", "feedLocusts", "()V"⟩, 5) := ⟨⟨by decide +kernel, by decide +kernel⟩, List.mem_of_getElem? (i := 106) (by decide +kernel), List.mem_of_getElem? (i := 486) (by decide +kernel), List.mem_of_getElem? (i := 487) (by decide +kernel)⟩
theorem lw_p17 : lw_okq (⟨"FamineOfVerbs", "refusalOfGift", "(IIIII)I"⟩, 8) := ⟨⟨by decide +kernel, by decide +kernel⟩, List.mem_of_getElem? (i := 15) (by decide +kernel), List.mem_of_getElem? (i := 494) (by decide +kernel), List.mem_of_getElem? (i := 495) (by decide +kernel)⟩
theorem lw_p18 : lw_okq (⟨"FamineOfVerbs", "worthAhead", "(I)I"⟩, 8) := ⟨⟨by decide +kernel, by decide +kernel⟩, List.mem_of_getElem? (i := 15) (by decide +kernel), List.mem_of_getElem? (i := 529) (by decide +kernel), List.mem_of_getElem? (i := 530) (by decide +kernel)⟩
theorem lw_p19 : lw_okq (⟨"FamineOfVerbs", "forgottenAhead", "(I)I"⟩, 8) := ⟨⟨by decide +kernel, by decide +kernel⟩, List.mem_of_getElem? (i := 15) (by decide +kernel), List.mem_of_getElem? (i := 534) (by decide +kernel), List.mem_of_getElem? (i := 535) (by decide +kernel)⟩
theorem lw_p20 : lw_okq (⟨"FamineOfVerbs", "needOf", "(II)I"⟩, 8) := ⟨⟨by decide +kernel, by decide +kernel⟩, List.mem_of_getElem? (i := 15) (by decide +kernel), List.mem_of_getElem? (i := 557) (by decide +kernel), List.mem_of_getElem? (i := 558) (by decide +kernel)⟩
theorem lw_p21 : lw_okq (⟨"FamineOfVerbs", "isRow", "(I)Z"⟩, 8) := ⟨⟨by decide +kernel, by decide +kernel⟩, List.mem_of_getElem? (i := 15) (by decide +kernel), List.mem_of_getElem? (i := 584) (by decide +kernel), List.mem_of_getElem? (i := 585) (by decide +kernel)⟩
theorem lw_p22 : lw_okq (⟨"FamineOfVerbs", "couldHaveHad", "(III)Z"⟩, 8) := ⟨⟨by decide +kernel, by decide +kernel⟩, List.mem_of_getElem? (i := 15) (by decide +kernel), List.mem_of_getElem? (i := 624) (by decide +kernel), List.mem_of_getElem? (i := 625) (by decide +kernel)⟩
theorem lw_p23 : lw_okq (⟨"FamineOfVerbs", "changeByDraw", "(I)V"⟩, 8) := ⟨⟨by decide +kernel, by decide +kernel⟩, List.mem_of_getElem? (i := 15) (by decide +kernel), List.mem_of_getElem? (i := 654) (by decide +kernel), List.mem_of_getElem? (i := 655) (by decide +kernel)⟩
theorem lw_p24 : lw_okq (⟨"FamineOfVerbsModel", "clearTold", "()V"⟩, 31) := ⟨⟨by decide +kernel, by decide +kernel⟩, List.mem_of_getElem? (i := 676) (by decide +kernel), List.mem_of_getElem? (i := 682) (by decide +kernel), List.mem_of_getElem? (i := 683) (by decide +kernel)⟩
theorem lw_p25 : lw_okq (⟨"FamineOfVerbsModel", "tellsVerb", "(II)V"⟩, 31) := ⟨⟨by decide +kernel, by decide +kernel⟩, List.mem_of_getElem? (i := 676) (by decide +kernel), List.mem_of_getElem? (i := 686) (by decide +kernel), List.mem_of_getElem? (i := 687) (by decide +kernel)⟩
theorem lw_p26 : lw_okq (⟨"FamineOfVerbsModel", "tellsWork", "(III)V"⟩, 31) := ⟨⟨by decide +kernel, by decide +kernel⟩, List.mem_of_getElem? (i := 676) (by decide +kernel), List.mem_of_getElem? (i := 690) (by decide +kernel), List.mem_of_getElem? (i := 691) (by decide +kernel)⟩
theorem lw_p27 : lw_okq (⟨"FamineOfVerbsModel", "settles", "()V"⟩, 31) := ⟨⟨by decide +kernel, by decide +kernel⟩, List.mem_of_getElem? (i := 676) (by decide +kernel), List.mem_of_getElem? (i := 694) (by decide +kernel), List.mem_of_getElem? (i := 695) (by decide +kernel)⟩
theorem lw_p28 : lw_okq (⟨"FamineOfVerbsModel", "readingsOf", "(I)I"⟩, 31) := ⟨⟨by decide +kernel, by decide +kernel⟩, List.mem_of_getElem? (i := 676) (by decide +kernel), List.mem_of_getElem? (i := 701) (by decide +kernel), List.mem_of_getElem? (i := 702) (by decide +kernel)⟩
theorem lw_p29 : lw_okq (⟨"FamineOfVerbsModel", "readItem", "()Z"⟩, 31) := ⟨⟨by decide +kernel, by decide +kernel⟩, List.mem_of_getElem? (i := 676) (by decide +kernel), List.mem_of_getElem? (i := 820) (by decide +kernel), List.mem_of_getElem? (i := 821) (by decide +kernel)⟩
theorem lw_p30 : lw_okq (⟨"FamineOfVerbsModel", "letterAt", "(I)I"⟩, 31) := ⟨⟨by decide +kernel, by decide +kernel⟩, List.mem_of_getElem? (i := 676) (by decide +kernel), List.mem_of_getElem? (i := 824) (by decide +kernel), List.mem_of_getElem? (i := 825) (by decide +kernel)⟩
theorem lw_p31 : lw_okq (⟨"FamineOfVerbsModel", "readVerbOf", "()Z"⟩, 31) := ⟨⟨by decide +kernel, by decide +kernel⟩, List.mem_of_getElem? (i := 676) (by decide +kernel), List.mem_of_getElem? (i := 828) (by decide +kernel), List.mem_of_getElem? (i := 829) (by decide +kernel)⟩
def lw_privs_2 : List (MethodName × Nat) := [(⟨"FamineOfVerbs$Standing", "feedLocusts", "()V"⟩, 5), (⟨"FamineOfVerbs", "refusalOfGift", "(IIIII)I"⟩, 8), (⟨"FamineOfVerbs", "worthAhead", "(I)I"⟩, 8), (⟨"FamineOfVerbs", "forgottenAhead", "(I)I"⟩, 8), (⟨"FamineOfVerbs", "needOf", "(II)I"⟩, 8), (⟨"FamineOfVerbs", "isRow", "(I)Z"⟩, 8), (⟨"FamineOfVerbs", "couldHaveHad", "(III)Z"⟩, 8), (⟨"FamineOfVerbs", "changeByDraw", "(I)V"⟩, 8), (⟨"FamineOfVerbsModel", "clearTold", "()V"⟩, 31), (⟨"FamineOfVerbsModel", "tellsVerb", "(II)V"⟩, 31), (⟨"FamineOfVerbsModel", "tellsWork", "(III)V"⟩, 31), (⟨"FamineOfVerbsModel", "settles", "()V"⟩, 31), (⟨"FamineOfVerbsModel", "readingsOf", "(I)I"⟩, 31), (⟨"FamineOfVerbsModel", "readItem", "()Z"⟩, 31), (⟨"FamineOfVerbsModel", "letterAt", "(I)I"⟩, 31), (⟨"FamineOfVerbsModel", "readVerbOf", "()Z"⟩, 31)]
theorem lw_r2 : ∀ q ∈ lw_privs_2, lw_okq q := List.forall_mem_cons.mpr ⟨lw_p16, List.forall_mem_cons.mpr ⟨lw_p17, List.forall_mem_cons.mpr ⟨lw_p18, List.forall_mem_cons.mpr ⟨lw_p19, List.forall_mem_cons.mpr ⟨lw_p20, List.forall_mem_cons.mpr ⟨lw_p21, List.forall_mem_cons.mpr ⟨lw_p22, List.forall_mem_cons.mpr ⟨lw_p23, List.forall_mem_cons.mpr ⟨lw_p24, List.forall_mem_cons.mpr ⟨lw_p25, List.forall_mem_cons.mpr ⟨lw_p26, List.forall_mem_cons.mpr ⟨lw_p27, List.forall_mem_cons.mpr ⟨lw_p28, List.forall_mem_cons.mpr ⟨lw_p29, List.forall_mem_cons.mpr ⟨lw_p30, List.forall_mem_cons.mpr ⟨lw_p31, fun _ h => absurd h List.not_mem_nil⟩⟩⟩⟩⟩⟩⟩⟩⟩⟩⟩⟩⟩⟩⟩⟩
theorem lw_p32 : lw_okq (⟨"FamineOfVerbsModel", "readNumbers", "(I)Z"⟩, 31) := ⟨⟨by decide +kernel, by decide +kernel⟩, List.mem_of_getElem? (i := 676) (by decide +kernel), List.mem_of_getElem? (i := 832) (by decide +kernel), List.mem_of_getElem? (i := 833) (by decide +kernel)⟩
theorem lw_p33 : lw_okq (⟨"FamineOfVerbsModel", "isTold", "(III)Z"⟩, 31) := ⟨⟨by decide +kernel, by decide +kernel⟩, List.mem_of_getElem? (i := 676) (by decide +kernel), List.mem_of_getElem? (i := 839) (by decide +kernel), List.mem_of_getElem? (i := 840) (by decide +kernel)⟩
theorem lw_p34 : lw_okq (⟨"FamineOfVerbsModel", "readNounOf", "()Z"⟩, 31) := ⟨⟨by decide +kernel, by decide +kernel⟩, List.mem_of_getElem? (i := 676) (by decide +kernel), List.mem_of_getElem? (i := 843) (by decide +kernel), List.mem_of_getElem? (i := 844) (by decide +kernel)⟩
theorem lw_p35 : lw_okq (⟨"FamineOfVerbsModel", "readVillageOf", "()Z"⟩, 31) := ⟨⟨by decide +kernel, by decide +kernel⟩, List.mem_of_getElem? (i := 676) (by decide +kernel), List.mem_of_getElem? (i := 847) (by decide +kernel), List.mem_of_getElem? (i := 848) (by decide +kernel)⟩
theorem lw_p36 : lw_okq (⟨"FamineOfVerbsModel", "readStockOf", "()Z"⟩, 31) := ⟨⟨by decide +kernel, by decide +kernel⟩, List.mem_of_getElem? (i := 676) (by decide +kernel), List.mem_of_getElem? (i := 851) (by decide +kernel), List.mem_of_getElem? (i := 852) (by decide +kernel)⟩
theorem lw_p37 : lw_okq (⟨"FamineOfVerbsModel", "isToldVillage", "()Z"⟩, 31) := ⟨⟨by decide +kernel, by decide +kernel⟩, List.mem_of_getElem? (i := 676) (by decide +kernel), List.mem_of_getElem? (i := 855) (by decide +kernel), List.mem_of_getElem? (i := 856) (by decide +kernel)⟩
theorem lw_p38 : lw_okq (⟨"FamineOfVerbsModel", "readWorkOf", "()Z"⟩, 31) := ⟨⟨by decide +kernel, by decide +kernel⟩, List.mem_of_getElem? (i := 676) (by decide +kernel), List.mem_of_getElem? (i := 859) (by decide +kernel), List.mem_of_getElem? (i := 860) (by decide +kernel)⟩
theorem lw_p39 : lw_okq (⟨"FamineOfVerbsModel", "isVillage", "(I)Z"⟩, 31) := ⟨⟨by decide +kernel, by decide +kernel⟩, List.mem_of_getElem? (i := 676) (by decide +kernel), List.mem_of_getElem? (i := 876) (by decide +kernel), List.mem_of_getElem? (i := 877) (by decide +kernel)⟩
theorem lw_p40 : lw_okq (⟨"FamineOfVerbsModel", "isVerb", "(I)Z"⟩, 31) := ⟨⟨by decide +kernel, by decide +kernel⟩, List.mem_of_getElem? (i := 676) (by decide +kernel), List.mem_of_getElem? (i := 880) (by decide +kernel), List.mem_of_getElem? (i := 881) (by decide +kernel)⟩
theorem lw_p41 : lw_okq (⟨"FamineOfVerbsModel", "remembers", "()V"⟩, 31) := ⟨⟨by decide +kernel, by decide +kernel⟩, List.mem_of_getElem? (i := 676) (by decide +kernel), List.mem_of_getElem? (i := 912) (by decide +kernel), List.mem_of_getElem? (i := 913) (by decide +kernel)⟩
theorem lw_p42 : lw_okq (⟨"FamineOfVerbsModel", "from", "([I)V"⟩, 31) := ⟨⟨by decide +kernel, by decide +kernel⟩, List.mem_of_getElem? (i := 676) (by decide +kernel), List.mem_of_getElem? (i := 916) (by decide +kernel), List.mem_of_getElem? (i := 917) (by decide +kernel)⟩
theorem lw_p43 : lw_okq (⟨"FamineOfVerbsModel", "goesOn", "(I)V"⟩, 31) := ⟨⟨by decide +kernel, by decide +kernel⟩, List.mem_of_getElem? (i := 676) (by decide +kernel), List.mem_of_getElem? (i := 920) (by decide +kernel), List.mem_of_getElem? (i := 921) (by decide +kernel)⟩
theorem lw_p44 : lw_okq (⟨"FamineOfVerbsModel", "goes", "()I"⟩, 31) := ⟨⟨by decide +kernel, by decide +kernel⟩, List.mem_of_getElem? (i := 676) (by decide +kernel), List.mem_of_getElem? (i := 924) (by decide +kernel), List.mem_of_getElem? (i := 925) (by decide +kernel)⟩
theorem lw_p45 : lw_okq (⟨"FamineOfVerbsModel", "isSaid", "(I)Z"⟩, 31) := ⟨⟨by decide +kernel, by decide +kernel⟩, List.mem_of_getElem? (i := 676) (by decide +kernel), List.mem_of_getElem? (i := 928) (by decide +kernel), List.mem_of_getElem? (i := 929) (by decide +kernel)⟩
theorem lw_p46 : lw_okq (⟨"FamineOfVerbsModel", "smallOf", "(I)I"⟩, 31) := ⟨⟨by decide +kernel, by decide +kernel⟩, List.mem_of_getElem? (i := 676) (by decide +kernel), List.mem_of_getElem? (i := 940) (by decide +kernel), List.mem_of_getElem? (i := 941) (by decide +kernel)⟩
theorem lw_p47 : lw_okq (⟨"FamineOfVerbsModel", "worthOf", "(I)I"⟩, 31) := ⟨⟨by decide +kernel, by decide +kernel⟩, List.mem_of_getElem? (i := 676) (by decide +kernel), List.mem_of_getElem? (i := 952) (by decide +kernel), List.mem_of_getElem? (i := 953) (by decide +kernel)⟩
def lw_privs_3 : List (MethodName × Nat) := [(⟨"FamineOfVerbsModel", "readNumbers", "(I)Z"⟩, 31), (⟨"FamineOfVerbsModel", "isTold", "(III)Z"⟩, 31), (⟨"FamineOfVerbsModel", "readNounOf", "()Z"⟩, 31), (⟨"FamineOfVerbsModel", "readVillageOf", "()Z"⟩, 31), (⟨"FamineOfVerbsModel", "readStockOf", "()Z"⟩, 31), (⟨"FamineOfVerbsModel", "isToldVillage", "()Z"⟩, 31), (⟨"FamineOfVerbsModel", "readWorkOf", "()Z"⟩, 31), (⟨"FamineOfVerbsModel", "isVillage", "(I)Z"⟩, 31), (⟨"FamineOfVerbsModel", "isVerb", "(I)Z"⟩, 31), (⟨"FamineOfVerbsModel", "remembers", "()V"⟩, 31), (⟨"FamineOfVerbsModel", "from", "([I)V"⟩, 31), (⟨"FamineOfVerbsModel", "goesOn", "(I)V"⟩, 31), (⟨"FamineOfVerbsModel", "goes", "()I"⟩, 31), (⟨"FamineOfVerbsModel", "isSaid", "(I)Z"⟩, 31), (⟨"FamineOfVerbsModel", "smallOf", "(I)I"⟩, 31), (⟨"FamineOfVerbsModel", "worthOf", "(I)I"⟩, 31)]
theorem lw_r3 : ∀ q ∈ lw_privs_3, lw_okq q := List.forall_mem_cons.mpr ⟨lw_p32, List.forall_mem_cons.mpr ⟨lw_p33, List.forall_mem_cons.mpr ⟨lw_p34, List.forall_mem_cons.mpr ⟨lw_p35, List.forall_mem_cons.mpr ⟨lw_p36, List.forall_mem_cons.mpr ⟨lw_p37, List.forall_mem_cons.mpr ⟨lw_p38, List.forall_mem_cons.mpr ⟨lw_p39, List.forall_mem_cons.mpr ⟨lw_p40, List.forall_mem_cons.mpr ⟨lw_p41, List.forall_mem_cons.mpr ⟨lw_p42, List.forall_mem_cons.mpr ⟨lw_p43, List.forall_mem_cons.mpr ⟨lw_p44, List.forall_mem_cons.mpr ⟨lw_p45, List.forall_mem_cons.mpr ⟨lw_p46, List.forall_mem_cons.mpr ⟨lw_p47, fun _ h => absurd h List.not_mem_nil⟩⟩⟩⟩⟩⟩⟩⟩⟩⟩⟩⟩⟩⟩⟩⟩
theorem lw_p48 : lw_okq (⟨"FamineOfVerbsModel", "forgottenOf", "(I)I"⟩, 31) := ⟨⟨by decide +kernel, by decide +kernel⟩, List.mem_of_getElem? (i := 676) (by decide +kernel), List.mem_of_getElem? (i := 956) (by decide +kernel), List.mem_of_getElem? (i := 957) (by decide +kernel)⟩
theorem lw_p49 : lw_okq (⟨"FamineOfVerbsModel", "needOf", "(II)I"⟩, 31) := ⟨⟨by decide +kernel, by decide +kernel⟩, List.mem_of_getElem? (i := 676) (by decide +kernel), List.mem_of_getElem? (i := 972) (by decide +kernel), List.mem_of_getElem? (i := 973) (by decide +kernel)⟩
def lw_privs_4 : List (MethodName × Nat) := [(⟨"FamineOfVerbsModel", "forgottenOf", "(I)I"⟩, 31), (⟨"FamineOfVerbsModel", "needOf", "(II)I"⟩, 31)]
theorem lw_r4 : ∀ q ∈ lw_privs_4, lw_okq q := List.forall_mem_cons.mpr ⟨lw_p48, List.forall_mem_cons.mpr ⟨lw_p49, fun _ h => absurd h List.not_mem_nil⟩⟩
def lw_privs : List (MethodName × Nat) := lw_privs_1 ++ (lw_privs_2 ++ (lw_privs_3 ++ (lw_privs_4)))
def lw_tbl : List Cond := k2_sels lw_privs ++ tables_1
theorem lw_privs_ok : ∀ q ∈ lw_privs, lw_okq q := by
  show ∀ q ∈ lw_privs_1 ++ (lw_privs_2 ++ (lw_privs_3 ++ (lw_privs_4))), lw_okq q
  exact List.forall_mem_append.mpr ⟨lw_r1, List.forall_mem_append.mpr ⟨lw_r2, List.forall_mem_append.mpr ⟨lw_r3, lw_r4⟩⟩⟩

/-! THE CLAIM OUT OF ONE WALK OF THE LAW'S BODY. Your part is whole_start (and what it stands on); all else here is the same for every law, but numbers. -/
def R_law : String := "FamineOfVerbsLaw"
def lw_P (b : Addr) (xs : List Int32) (args : Array Value) (s : State) : Prop := args = #[.ref b] ∧ s.IntsAt b xs ∧ xs.length ≤ 320 ∧ (Jvm.Cond.and given_1 narrow_1).before args s = true
def lw_Q (_ : Array Value) (s : State) (o : Outcome) (t : State) : Prop := o = .returned (some (.int 1)) ∧ Framed s o t [] 600000 7302250
def lw_Z (below : List Frame) (a : Array Value) (s : State) : State → Prop := fun t => ∃ o, t.status = .running ∧ Ended t below o ∧ lw_Q a s o t
/-- the law's own end, with 1 on the stack, nothing written that was there before, its room as the claim has it -/
theorem lw_ret {p : Program} {l : Launch} {e : Env} {s : State} {m : MethodId} {below : List Frame} {meth : Method} {c : Code} {b : Nat} (hx : p.tables.exec = Jvm.exec) (hb : c.code = code) (hr : meth.sig.returnType = ret) (hlocks : meth.locks = false) {pc : Nat} {H : Heap} {ls : Array Slot} (hdg : decode code pc = .ok (.ireturn, 1)) : W p l e room_1 s m #[Value.ref b] below meth c H [] 600000 7302250 (lw_Z below #[Value.ref b] s) (F0 m pc ls [.int 1]) := by
  intro T hT X
  obtain ⟨fs, hret, hrun, hended, hW, hframe⟩ := X.leave (v := some (.int 1)) (hlocks := hlocks) (fun h => by rw [hr] at h; cases h)
  have hmeth' : T.vm.method? m = some meth := X.method'
  refine ⟨T.setFrames fs, ?_, .returned (some (.int 1)), hrun, hended, rfl, ⟨_, rfl⟩, hW, hframe⟩
  jvm_step X.here [X.here.top, hx, hb, hdg, hmeth', hr, ret, narrow_b1]
  (try refine ⟨rfl, ?_⟩); (try refine ⟨rfl, ?_⟩)
  first | (intro acts; rw [hret _ acts rfl rfl rfl]) | rw [hret _ _ rfl rfl rfl]
  exact Steps.refl _
/-- what holds at the law's entry: the machine, the code, the tables' words (any of lw_tbl by 'hts w (by decide +kernel)'), the script of L ints xs at the cell b, what the Statement gives of the start (any of its parts by flat_of_before) -/
def lw_At (p : Program) (s : State) (m : MethodId) (meth : Method) (c : Code) (b L : Nat) (xs : Nat → Int32) : Prop :=
  p.tables.exec = Jvm.exec ∧ c.code = code ∧ meth.sig.returnType = ret ∧ c.maxLocals = 4 ∧ s.vm.findClass R_law = some m.cls ∧ (∀ w ∈ lw_tbl, w.before #[Value.ref b] s = true) ∧ va_X b L xs s s.heap ∧ b < s.heap.size ∧ meth.locks = false ∧ (Jvm.Cond.and given_1 narrow_1).before #[Value.ref b] s = true

/-! own numbers: kinds of objects, fields, methods (by program gen/p01.py out of claim/JAVAP.txt and the tables of claim/Statement.lean) -/
def fv_RN : Nat → String := fun k => match k with
  | 0 => "FamineOfVerbs$Hearsay"
  | 1 => "FamineOfVerbs$Land"
  | 2 => "FamineOfVerbs$Shelf"
  | 3 => "FamineOfVerbs$Standing"
  | 4 => "FamineOfVerbs$Text"
  | 5 => "FamineOfVerbs"
  | 6 => "FamineOfVerbsModel"
  | 7 => "FamineOfVerbsLaw"
  | 8 => "java/lang/Integer"
  | 9 => "java/lang/Math"
  | 10 => "java/lang/String"
  | _ => "?"
def fv_T0 : u_T := fun k => match k with
  | 0 => ("FamineOfVerbs$Hearsay", "works", "[I", true)
  | 1 => ("FamineOfVerbs$Hearsay", "seasons", "[I", true)
  | 2 => ("FamineOfVerbs$Hearsay", "wereDone", "[Z", true)
  | _ => ("FamineOfVerbs$Hearsay", "many", "I", false)
def fv_Y0 : Nat → FieldType := fun k => match k with
  | 0 => .array .int
  | 1 => .array .int
  | 2 => .array .boolean
  | _ => .int
def fv_T1 : u_T := fun k => match k with
  | 0 => ("FamineOfVerbs$Land", "verbs", "I", false)
  | 1 => ("FamineOfVerbs$Land", "nouns", "I", false)
  | 2 => ("FamineOfVerbs$Land", "villages", "I", false)
  | 3 => ("FamineOfVerbs$Land", "works", "I", false)
  | 4 => ("FamineOfVerbs$Land", "kinds", "[I", true)
  | 5 => ("FamineOfVerbs$Land", "crops", "[I", true)
  | 6 => ("FamineOfVerbs$Land", "minds", "[I", true)
  | 7 => ("FamineOfVerbs$Land", "ownNouns", "[I", true)
  | 8 => ("FamineOfVerbs$Land", "said", "[I", true)
  | 9 => ("FamineOfVerbs$Land", "stocks", "[I", true)
  | 10 => ("FamineOfVerbs$Land", "workVillages", "[I", true)
  | 11 => ("FamineOfVerbs$Land", "workVerbs", "[I", true)
  | _ => ("FamineOfVerbs$Land", "worths", "[I", true)
def fv_Y1 : Nat → FieldType := fun k => match k with
  | 0 => .int
  | 1 => .int
  | 2 => .int
  | 3 => .int
  | 4 => .array .int
  | 5 => .array .int
  | 6 => .array .int
  | 7 => .array .int
  | 8 => .array .int
  | 9 => .array .int
  | 10 => .array .int
  | 11 => .array .int
  | _ => .array .int
def fv_T2 : u_T := fun k => match k with
  | 0 => ("FamineOfVerbs$Shelf", "places", "[LFamineOfVerbs$Standing;", true)
  | 1 => ("FamineOfVerbs$Shelf", "held", "I", false)
  | _ => ("FamineOfVerbs$Shelf", "next", "I", false)
def fv_Y2 : Nat → FieldType := fun k => match k with
  | 0 => .array (.object "FamineOfVerbs$Standing")
  | 1 => .int
  | _ => .int
def fv_T3 : u_T := fun k => match k with
  | 0 => ("FamineOfVerbs$Standing", "season", "I", false)
  | 1 => ("FamineOfVerbs$Standing", "stocks", "[I", true)
  | 2 => ("FamineOfVerbs$Standing", "sown", "[I", true)
  | 3 => ("FamineOfVerbs$Standing", "done", "[I", true)
  | _ => ("FamineOfVerbs$Standing", "forgotten", "[I", true)
def fv_Y3 : Nat → FieldType := fun k => match k with
  | 0 => .int
  | 1 => .array .int
  | 2 => .array .int
  | 3 => .array .int
  | _ => .array .int
def fv_T4 : u_T := fun k => match k with
  | 0 => ("FamineOfVerbs$Text", "letters", "[C", true)
  | 1 => ("FamineOfVerbs$Text", "numbers", "[I", true)
  | _ => ("FamineOfVerbs$Text", "length", "I", false)
def fv_Y4 : Nat → FieldType := fun k => match k with
  | 0 => .array .char
  | 1 => .array .int
  | _ => .int
def fv_T5 : u_T := fun k => match k with
  | 0 => ("FamineOfVerbs", "text", "LFamineOfVerbs$Text;", true)
  | 1 => ("FamineOfVerbs", "land", "LFamineOfVerbs$Land;", false)
  | 2 => ("FamineOfVerbs", "draft", "LFamineOfVerbs$Land;", false)
  | 3 => ("FamineOfVerbs", "now", "LFamineOfVerbs$Standing;", true)
  | 4 => ("FamineOfVerbs", "ahead", "LFamineOfVerbs$Standing;", true)
  | 5 => ("FamineOfVerbs", "past", "LFamineOfVerbs$Shelf;", true)
  | 6 => ("FamineOfVerbs", "kept", "LFamineOfVerbs$Shelf;", true)
  | _ => ("FamineOfVerbs", "heard", "LFamineOfVerbs$Hearsay;", true)
def fv_Y5 : Nat → FieldType := fun k => match k with
  | 0 => .object "FamineOfVerbs$Text"
  | 1 => .object "FamineOfVerbs$Land"
  | 2 => .object "FamineOfVerbs$Land"
  | 3 => .object "FamineOfVerbs$Standing"
  | 4 => .object "FamineOfVerbs$Standing"
  | 5 => .object "FamineOfVerbs$Shelf"
  | 6 => .object "FamineOfVerbs$Shelf"
  | _ => .object "FamineOfVerbs$Hearsay"
def fv_T6 : u_T := fun k => match k with
  | 0 => ("FamineOfVerbsModel", "verbs", "I", false)
  | 1 => ("FamineOfVerbsModel", "verb", "[I", true)
  | 2 => ("FamineOfVerbsModel", "nouns", "I", false)
  | 3 => ("FamineOfVerbsModel", "noun", "[I", true)
  | 4 => ("FamineOfVerbsModel", "villages", "I", false)
  | 5 => ("FamineOfVerbsModel", "has", "[I", true)
  | 6 => ("FamineOfVerbsModel", "works", "I", false)
  | 7 => ("FamineOfVerbsModel", "work", "[I", true)
  | 8 => ("FamineOfVerbsModel", "says", "[I", true)
  | 9 => ("FamineOfVerbsModel", "st", "[I", true)
  | 10 => ("FamineOfVerbsModel", "first", "[I", true)
  | 11 => ("FamineOfVerbsModel", "acts", "I", false)
  | 12 => ("FamineOfVerbsModel", "was", "[I", true)
  | 13 => ("FamineOfVerbsModel", "keeps", "I", false)
  | 14 => ("FamineOfVerbsModel", "kept", "[I", true)
  | 15 => ("FamineOfVerbsModel", "hears", "I", false)
  | 16 => ("FamineOfVerbsModel", "heard", "[I", true)
  | 17 => ("FamineOfVerbsModel", "text", "[I", true)
  | 18 => ("FamineOfVerbsModel", "texted", "I", false)
  | 19 => ("FamineOfVerbsModel", "at", "I", false)
  | 20 => ("FamineOfVerbsModel", "told", "[I", true)
  | 21 => ("FamineOfVerbsModel", "readVerbs", "I", false)
  | 22 => ("FamineOfVerbsModel", "readVerb", "[I", true)
  | 23 => ("FamineOfVerbsModel", "readNouns", "I", false)
  | 24 => ("FamineOfVerbsModel", "readNoun", "[I", true)
  | 25 => ("FamineOfVerbsModel", "readVillages", "I", false)
  | 26 => ("FamineOfVerbsModel", "readHas", "[I", true)
  | 27 => ("FamineOfVerbsModel", "readWorks", "I", false)
  | 28 => ("FamineOfVerbsModel", "readWork", "[I", true)
  | 29 => ("FamineOfVerbsModel", "read", "[I", true)
  | _ => ("FamineOfVerbsModel", "now", "[I", true)
def fv_Y6 : Nat → FieldType := fun k => match k with
  | 0 => .int
  | 1 => .array .int
  | 2 => .int
  | 3 => .array .int
  | 4 => .int
  | 5 => .array .int
  | 6 => .int
  | 7 => .array .int
  | 8 => .array .int
  | 9 => .array .int
  | 10 => .array .int
  | 11 => .int
  | 12 => .array .int
  | 13 => .int
  | 14 => .array .int
  | 15 => .int
  | 16 => .array .int
  | 17 => .array .int
  | 18 => .int
  | 19 => .int
  | 20 => .array .int
  | 21 => .int
  | 22 => .array .int
  | 23 => .int
  | 24 => .array .int
  | 25 => .int
  | 26 => .array .int
  | 27 => .int
  | 28 => .array .int
  | 29 => .array .int
  | _ => .array .int
def fv_T : Nat → u_T := fun k => match k with
  | 0 => fv_T0
  | 1 => fv_T1
  | 2 => fv_T2
  | 3 => fv_T3
  | 4 => fv_T4
  | 5 => fv_T5
  | _ => fv_T6
def fv_Y : Nat → Nat → FieldType := fun k => match k with
  | 0 => fv_Y0
  | 1 => fv_Y1
  | 2 => fv_Y2
  | 3 => fv_Y3
  | 4 => fv_Y4
  | 5 => fv_Y5
  | _ => fv_Y6
def fv_NF : Nat → Nat := fun k => match k with
  | 0 => 4
  | 1 => 13
  | 2 => 3
  | 3 => 5
  | 4 => 3
  | 5 => 8
  | _ => 31
def fv_kinds : List vw_C := [(fv_RN 0, fv_T0, 4), (fv_RN 1, fv_T1, 13), (fv_RN 2, fv_T2, 3), (fv_RN 3, fv_T3, 5), (fv_RN 4, fv_T4, 3), (fv_RN 5, fv_T5, 8), (fv_RN 6, fv_T6, 31)]
abbrev fv_Mt : Type := MethodName × ByteArray × Nat × Option FieldType × Nat × Nat × Nat × Nat × Nat × Nat × Bool × Nat × Nat × Nat × Nat
/-- name, code, locals, what it returns, kind of object, arguments, frames, locals room, cells, slots, static, places of its words: code, start, static or instance, selects -/
def fv_mt_0 : List fv_Mt := [
  ((⟨fv_RN 0, "<init>", "()V"⟩ : MethodName), prog_2_method_1_code, 1, none, 0, 1, 1, 20, 3, 18, false, 206, 56, 205, 0),
  ((⟨fv_RN 0, "add", "(IIZ)Z"⟩ : MethodName), prog_2_method_2_code, 4, some .boolean, 0, 4, 1, 22, 0, 0, false, 663, 56, 661, 662),
  ((⟨fv_RN 0, "latestSeason", "()I"⟩ : MethodName), prog_2_method_3_code, 3, some .int, 0, 1, 1, 21, 0, 0, false, 680, 56, 678, 679),
  ((⟨fv_RN 0, "agrees", "(II)Z"⟩ : MethodName), prog_2_method_4_code, 4, some .boolean, 0, 3, 1, 21, 0, 0, false, 686, 56, 684, 685),
  ((⟨fv_RN 1, "<init>", "()V"⟩ : MethodName), prog_3_method_1_code, 1, none, 1, 1, 1, 20, 9, 76, false, 95, 53, 94, 0),
  ((⟨fv_RN 1, "clear", "()V"⟩ : MethodName), prog_3_method_2_code, 1, none, 1, 1, 1, 22, 0, 0, false, 287, 53, 285, 286),
  ((⟨fv_RN 1, "addVerb", "(II)Z"⟩ : MethodName), prog_3_method_3_code, 3, some .boolean, 1, 3, 1, 22, 0, 0, false, 329, 53, 327, 328),
  ((⟨fv_RN 1, "addNoun", "(I)Z"⟩ : MethodName), prog_3_method_4_code, 2, some .boolean, 1, 2, 1, 22, 0, 0, false, 335, 53, 333, 334),
  ((⟨fv_RN 1, "addVillage", "(I)Z"⟩ : MethodName), prog_3_method_5_code, 2, some .boolean, 1, 2, 1, 22, 0, 0, false, 339, 53, 337, 338),
  ((⟨fv_RN 1, "addStock", "(III)Z"⟩ : MethodName), prog_3_method_6_code, 4, some .boolean, 1, 4, 1, 22, 0, 0, false, 343, 53, 341, 342),
  ((⟨fv_RN 1, "addWork", "(III)Z"⟩ : MethodName), prog_3_method_7_code, 4, some .boolean, 1, 4, 1, 22, 0, 0, false, 354, 53, 352, 353),
  ((⟨fv_RN 1, "isTold", "(II)Z"⟩ : MethodName), prog_3_method_8_code, 3, some .boolean, 1, 3, 0, 0, 0, 0, false, 347, 53, 346, 6),
  ((⟨fv_RN 1, "allNouns", "()I"⟩ : MethodName), prog_3_method_9_code, 1, some .int, 1, 1, 0, 0, 0, 0, false, 362, 53, 360, 361),
  ((⟨fv_RN 1, "allWorks", "()I"⟩ : MethodName), prog_3_method_10_code, 1, some .int, 1, 1, 0, 0, 0, 0, false, 594, 53, 592, 593),
  ((⟨fv_RN 1, "mindOf", "(I)I"⟩ : MethodName), prog_3_method_11_code, 2, some .int, 1, 2, 1, 21, 0, 0, false, 373, 53, 371, 372),
  ((⟨fv_RN 1, "nounsOf", "(I)I"⟩ : MethodName), prog_3_method_12_code, 2, some .int, 1, 2, 1, 21, 0, 0, false, 388, 53, 386, 387),
  ((⟨fv_RN 1, "meantBy", "(I)I"⟩ : MethodName), prog_3_method_13_code, 4, some .int, 1, 2, 2, 42, 0, 0, false, 366, 53, 364, 365)]
def fv_mt_1 : List fv_Mt := [
  ((⟨fv_RN 1, "findSaid", "()V"⟩ : MethodName), prog_3_method_14_code, 3, none, 1, 1, 3, 65, 0, 0, false, 358, 53, 356, 357),
  ((⟨fv_RN 1, "addSaid", "(II)V"⟩ : MethodName), prog_3_method_15_code, 4, none, 1, 3, 2, 42, 0, 0, false, 384, 53, 383, 7),
  ((⟨fv_RN 1, "canSay", "(II)Z"⟩ : MethodName), prog_3_method_16_code, 3, some .boolean, 1, 3, 1, 21, 0, 0, false, 516, 53, 514, 515),
  ((⟨fv_RN 1, "smallestRow", "(II)I"⟩ : MethodName), prog_3_method_17_code, 6, some .int, 1, 3, 3, 65, 0, 0, false, 646, 53, 644, 645),
  ((⟨fv_RN 1, "worksIn", "(I)I"⟩ : MethodName), prog_3_method_18_code, 4, some .int, 1, 2, 1, 21, 0, 0, false, 577, 53, 575, 576),
  ((⟨fv_RN 1, "worksSaidBy", "(II)I"⟩ : MethodName), prog_3_method_19_code, 5, some .int, 1, 3, 2, 46, 0, 0, false, 613, 53, 611, 612),
  ((⟨fv_RN 1, "worksLike", "(III)I"⟩ : MethodName), prog_3_method_20_code, 6, some .int, 1, 4, 1, 21, 0, 0, false, 617, 53, 615, 616),
  ((⟨fv_RN 2, "<init>", "([LFamineOfVerbs$Standing;)V"⟩ : MethodName), prog_4_method_1_code, 3, none, 2, 2, 2, 40, 40, 392, false, 187, 55, 186, 0),
  ((⟨fv_RN 2, "shelve", "(LFamineOfVerbs$Standing;)V"⟩ : MethodName), prog_4_method_2_code, 2, none, 2, 2, 2, 43, 0, 0, false, 492, 55, 490, 491),
  ((⟨fv_RN 2, "takeInto", "(LFamineOfVerbs$Standing;)Z"⟩ : MethodName), prog_4_method_3_code, 3, some .boolean, 2, 2, 2, 43, 0, 0, false, 568, 55, 566, 567),
  ((⟨fv_RN 3, "<init>", "()V"⟩ : MethodName), prog_5_method_1_code, 1, none, 3, 1, 1, 20, 4, 44, false, 159, 54, 158, 0),
  ((⟨fv_RN 3, "begin", "(LFamineOfVerbs$Land;)V"⟩ : MethodName), prog_5_method_2_code, 2, none, 3, 2, 1, 22, 0, 0, false, 392, 54, 390, 391),
  ((⟨fv_RN 3, "become", "(LFamineOfVerbs$Standing;)V"⟩ : MethodName), prog_5_method_3_code, 2, none, 3, 2, 1, 22, 0, 0, false, 496, 54, 494, 495),
  ((⟨fv_RN 3, "stockOf", "(II)I"⟩ : MethodName), prog_5_method_4_code, 3, some .int, 3, 3, 1, 21, 0, 0, false, 455, 54, 453, 454),
  ((⟨fv_RN 3, "setStock", "(III)V"⟩ : MethodName), prog_5_method_5_code, 4, none, 3, 4, 1, 22, 0, 0, false, 528, 54, 526, 527),
  ((⟨fv_RN 3, "move", "(IIII)V"⟩ : MethodName), prog_5_method_6_code, 5, none, 3, 5, 2, 45, 0, 0, false, 550, 54, 548, 549),
  ((⟨fv_RN 3, "usesSmall", "()Z"⟩ : MethodName), prog_5_method_7_code, 1, some .boolean, 3, 1, 0, 0, 0, 0, false, 524, 54, 522, 523)]
def fv_mt_2 : List fv_Mt := [
  ((⟨fv_RN 3, "seedFor", "(LFamineOfVerbs$Land;II)I"⟩ : MethodName), prog_5_method_8_code, 5, some .int, 3, 4, 2, 43, 0, 0, false, 558, 54, 556, 557),
  ((⟨fv_RN 3, "goBy", "(LFamineOfVerbs$Land;)I"⟩ : MethodName), prog_5_method_9_code, 4, some .int, 3, 2, 3, 70, 0, 0, false, 507, 54, 505, 506),
  ((⟨fv_RN 3, "tryWork", "(LFamineOfVerbs$Land;I)Z"⟩ : MethodName), prog_5_method_10_code, 6, some .boolean, 3, 3, 2, 45, 0, 0, false, 511, 54, 510, 13),
  ((⟨fv_RN 3, "usedOf", "(II)I"⟩ : MethodName), prog_5_method_11_code, 3, some .int, 3, 3, 1, 20, 0, 0, false, 520, 54, 519, 14),
  ((⟨fv_RN 3, "reap", "(LFamineOfVerbs$Land;I)V"⟩ : MethodName), prog_5_method_12_code, 5, none, 3, 3, 2, 45, 0, 0, false, 533, 54, 532, 15),
  ((⟨fv_RN 3, "feedLocusts", "()V"⟩ : MethodName), prog_5_method_13_code, 2, none, 3, 1, 0, 0, 0, 0, false, 538, 54, 537, 16),
  ((⟨fv_RN 4, "<init>", "()V"⟩ : MethodName), prog_6_method_1_code, 1, none, 4, 1, 1, 20, 2, 203, false, 76, 52, 75, 0),
  ((⟨fv_RN 4, "append", "(I)Z"⟩ : MethodName), prog_6_method_2_code, 2, some .boolean, 4, 2, 0, 0, 0, 0, false, 275, 52, 273, 274),
  ((⟨fv_RN 4, "readInto", "(LFamineOfVerbs$Land;)I"⟩ : MethodName), prog_6_method_3_code, 5, some .int, 4, 2, 4, 97, 0, 0, false, 283, 52, 281, 282),
  ((⟨fv_RN 4, "readItem", "(LFamineOfVerbs$Land;I)I"⟩ : MethodName), prog_6_method_4_code, 8, some .int, 4, 3, 3, 70, 0, 0, false, 294, 52, 293, 1),
  ((⟨fv_RN 4, "take", "(LFamineOfVerbs$Land;I)Z"⟩ : MethodName), prog_6_method_5_code, 6, some .boolean, 4, 3, 2, 45, 0, 0, false, 322, 52, 321, 5),
  ((⟨fv_RN 4, "numbersBehind", "(I)I"⟩ : MethodName), prog_6_method_6_code, 1, some .int, 4, 1, 0, 0, 0, 0, true, 301, 52, 300, 0),
  ((⟨fv_RN 4, "letterAt", "(I)I"⟩ : MethodName), prog_6_method_7_code, 2, some .int, 4, 2, 0, 0, 0, 0, false, 298, 52, 297, 2),
  ((⟨fv_RN 4, "figuresAt", "(I)I"⟩ : MethodName), prog_6_method_8_code, 2, some .int, 4, 2, 2, 42, 0, 0, false, 305, 52, 304, 3),
  ((⟨fv_RN 4, "numberAt", "(II)I"⟩ : MethodName), prog_6_method_9_code, 4, some .int, 4, 3, 1, 21, 0, 0, false, 315, 52, 314, 4),
  ((⟨fv_RN 4, "isFigure", "(I)Z"⟩ : MethodName), prog_6_method_10_code, 1, some .boolean, 4, 1, 1, 22, 0, 0, true, 308, 52, 307, 0),
  ((⟨fv_RN 5, "<init>", "()V"⟩ : MethodName), prog_1_method_1_code, 2, none, 5, 1, 6, 142, 121, 1304, false, 68, 51, 67, 0)]
def fv_mt_3 : List fv_Mt := [
  ((⟨fv_RN 5, "write", "(I)I"⟩ : MethodName), prog_1_method_2_code, 2, some .int, 5, 2, 1, 22, 0, 0, false, 426, 51, 424, 425),
  ((⟨fv_RN 5, "wipe", "()I"⟩ : MethodName), prog_1_method_3_code, 2, some .int, 5, 1, 0, 0, 0, 0, false, 431, 51, 429, 430),
  ((⟨fv_RN 5, "fault", "()I"⟩ : MethodName), prog_1_method_4_code, 1, some .int, 5, 1, 5, 121, 0, 0, false, 435, 51, 433, 434),
  ((⟨fv_RN 5, "lay", "()I"⟩ : MethodName), prog_1_method_5_code, 1, some .int, 5, 1, 6, 142, 0, 0, false, 439, 51, 437, 438),
  ((⟨fv_RN 5, "verb", "(II)I"⟩ : MethodName), prog_1_method_6_code, 3, some .int, 5, 3, 3, 66, 0, 0, false, 443, 51, 441, 442),
  ((⟨fv_RN 5, "noun", "(I)I"⟩ : MethodName), prog_1_method_7_code, 2, some .int, 5, 2, 2, 42, 0, 0, false, 462, 51, 460, 461),
  ((⟨fv_RN 5, "village", "(II)I"⟩ : MethodName), prog_1_method_8_code, 3, some .int, 5, 3, 2, 43, 0, 0, false, 467, 51, 465, 466),
  ((⟨fv_RN 5, "stock", "(II)I"⟩ : MethodName), prog_1_method_9_code, 3, some .int, 5, 3, 2, 43, 0, 0, false, 476, 51, 474, 475),
  ((⟨fv_RN 5, "work", "(II)I"⟩ : MethodName), prog_1_method_10_code, 3, some .int, 5, 3, 2, 43, 0, 0, false, 480, 51, 478, 479),
  ((⟨fv_RN 5, "pass", "(I)I"⟩ : MethodName), prog_1_method_11_code, 2, some .int, 5, 2, 5, 116, 0, 0, false, 488, 51, 486, 487),
  ((⟨fv_RN 5, "give", "(IIII)I"⟩ : MethodName), prog_1_method_12_code, 6, some .int, 5, 5, 3, 69, 0, 0, false, 542, 51, 540, 541),
  ((⟨fv_RN 5, "sow", "(II)I"⟩ : MethodName), prog_1_method_13_code, 4, some .int, 5, 3, 3, 67, 0, 0, false, 554, 51, 552, 553),
  ((⟨fv_RN 5, "undo", "()I"⟩ : MethodName), prog_1_method_14_code, 1, some .int, 5, 1, 3, 65, 0, 0, false, 564, 51, 562, 563),
  ((⟨fv_RN 5, "behind", "(IIII)I"⟩ : MethodName), prog_1_method_15_code, 6, some .int, 5, 5, 5, 116, 0, 0, false, 572, 51, 570, 571),
  ((⟨fv_RN 5, "silent", "(I)I"⟩ : MethodName), prog_1_method_16_code, 4, some .int, 5, 2, 4, 93, 0, 0, false, 590, 51, 588, 589),
  ((⟨fv_RN 5, "lasts", "(I)I"⟩ : MethodName), prog_1_method_17_code, 4, some .int, 5, 2, 4, 93, 0, 0, false, 601, 51, 599, 600),
  ((⟨fv_RN 5, "sent", "()I"⟩ : MethodName), prog_1_method_18_code, 7, some .int, 5, 1, 4, 94, 0, 0, false, 605, 51, 603, 604)]
def fv_mt_4 : List fv_Mt := [
  ((⟨fv_RN 5, "share", "(III)I"⟩ : MethodName), prog_1_method_19_code, 10, some .int, 5, 4, 3, 66, 0, 0, false, 626, 51, 624, 625),
  ((⟨fv_RN 5, "readings", "(I)I"⟩ : MethodName), prog_1_method_20_code, 2, some .int, 5, 2, 3, 65, 0, 0, false, 632, 51, 630, 631),
  ((⟨fv_RN 5, "say", "(II)I"⟩ : MethodName), prog_1_method_21_code, 3, some .int, 5, 3, 4, 90, 0, 0, false, 642, 51, 640, 641),
  ((⟨fv_RN 5, "tells", "(II)I"⟩ : MethodName), prog_1_method_22_code, 7, some .int, 5, 3, 3, 65, 0, 0, false, 650, 51, 648, 649),
  ((⟨fv_RN 5, "bred", "(I)I"⟩ : MethodName), prog_1_method_23_code, 4, some .int, 5, 2, 3, 67, 0, 0, false, 655, 51, 653, 654),
  ((⟨fv_RN 5, "hear", "(IIZ)I"⟩ : MethodName), prog_1_method_24_code, 4, some .int, 5, 4, 2, 45, 0, 0, false, 659, 51, 657, 658),
  ((⟨fv_RN 5, "forget", "()I"⟩ : MethodName), prog_1_method_25_code, 2, some .int, 5, 1, 0, 0, 0, 0, false, 668, 51, 666, 667),
  ((⟨fv_RN 5, "hoard", "(III)I"⟩ : MethodName), prog_1_method_26_code, 7, some .int, 5, 4, 5, 118, 0, 0, false, 672, 51, 670, 671),
  ((⟨fv_RN 5, "caravan", "(IIII)I"⟩ : MethodName), prog_1_method_27_code, 7, some .int, 5, 5, 5, 116, 0, 0, false, 691, 51, 689, 690),
  ((⟨fv_RN 5, "decade", "(III)I"⟩ : MethodName), prog_1_method_28_code, 5, some .int, 5, 4, 4, 93, 0, 0, false, 695, 51, 693, 694),
  ((⟨fv_RN 5, "keep", "()I"⟩ : MethodName), prog_1_method_29_code, 1, some .int, 5, 1, 3, 64, 0, 0, false, 713, 51, 711, 712),
  ((⟨fv_RN 5, "back", "()I"⟩ : MethodName), prog_1_method_30_code, 1, some .int, 5, 1, 3, 65, 0, 0, false, 717, 51, 715, 716),
  ((⟨fv_RN 5, "count", "(I)I"⟩ : MethodName), prog_1_method_31_code, 2, some .int, 5, 2, 1, 25, 0, 0, false, 721, 51, 719, 720),
  ((⟨fv_RN 5, "isVerb", "(I)Z"⟩ : MethodName), prog_1_method_32_code, 2, some .boolean, 5, 2, 1, 22, 0, 0, false, 447, 51, 446, 8),
  ((⟨fv_RN 5, "isVillage", "(I)Z"⟩ : MethodName), prog_1_method_33_code, 2, some .boolean, 5, 2, 1, 22, 0, 0, false, 471, 51, 470, 10),
  ((⟨fv_RN 5, "isWork", "(I)Z"⟩ : MethodName), prog_1_method_34_code, 2, some .boolean, 5, 2, 1, 22, 0, 0, false, 484, 51, 483, 11),
  ((⟨fv_RN 5, "isRow", "(I)Z"⟩ : MethodName), prog_1_method_35_code, 2, some .boolean, 5, 2, 1, 22, 0, 0, false, 636, 51, 635, 21)]
def fv_mt_5 : List fv_Mt := [
  ((⟨fv_RN 5, "refusalOfGift", "(IIIII)I"⟩ : MethodName), prog_1_method_36_code, 6, some .int, 5, 6, 2, 43, 0, 0, false, 546, 51, 545, 17),
  ((⟨fv_RN 5, "settle", "()Z"⟩ : MethodName), prog_1_method_37_code, 2, some .boolean, 5, 1, 5, 121, 0, 0, false, 279, 51, 278, 0),
  ((⟨fv_RN 5, "goAhead", "(LFamineOfVerbs$Standing;I)V"⟩ : MethodName), prog_1_method_38_code, 4, none, 5, 3, 4, 93, 0, 0, false, 503, 51, 502, 12),
  ((⟨fv_RN 5, "stockOfAll", "(I)I"⟩ : MethodName), prog_1_method_39_code, 4, some .int, 5, 2, 2, 43, 0, 0, false, 451, 51, 450, 9),
  ((⟨fv_RN 5, "worthAhead", "(I)I"⟩ : MethodName), prog_1_method_40_code, 4, some .int, 5, 2, 1, 21, 0, 0, false, 581, 51, 580, 18),
  ((⟨fv_RN 5, "forgottenAhead", "(I)I"⟩ : MethodName), prog_1_method_41_code, 4, some .int, 5, 2, 1, 21, 0, 0, false, 586, 51, 585, 19),
  ((⟨fv_RN 5, "needOf", "(II)I"⟩ : MethodName), prog_1_method_42_code, 5, some .int, 5, 3, 3, 70, 0, 0, false, 609, 51, 608, 20),
  ((⟨fv_RN 5, "couldHaveHad", "(III)Z"⟩ : MethodName), prog_1_method_43_code, 6, some .boolean, 5, 4, 4, 93, 0, 0, false, 676, 51, 675, 22),
  ((⟨fv_RN 5, "changeByDraw", "(I)V"⟩ : MethodName), prog_1_method_44_code, 5, none, 5, 2, 2, 45, 0, 0, false, 706, 51, 705, 23),
  ((⟨fv_RN 5, "drawOf", "(II)I"⟩ : MethodName), prog_1_method_45_code, 4, some .int, 5, 2, 0, 0, 0, 0, true, 698, 51, 697, 0),
  ((⟨fv_RN 5, "remainder", "(II)I"⟩ : MethodName), prog_1_method_46_code, 2, some .int, 5, 2, 0, 0, 0, 0, true, 709, 51, 708, 0),
  ((⟨fv_RN 5, "within", "(III)Z"⟩ : MethodName), prog_1_method_47_code, 3, some .boolean, 5, 3, 0, 0, 0, 0, true, 311, 51, 310, 0),
  ((⟨fv_RN 5, "has", "(II)Z"⟩ : MethodName), prog_1_method_48_code, 2, some .boolean, 5, 2, 0, 0, 0, 0, true, 369, 51, 368, 0),
  ((⟨fv_RN 5, "lowestIn", "(I)I"⟩ : MethodName), prog_1_method_49_code, 2, some .int, 5, 1, 1, 21, 0, 0, true, 597, 51, 596, 0),
  ((⟨fv_RN 5, "at", "([II)I"⟩ : MethodName), prog_1_method_50_code, 2, some .int, 5, 2, 0, 0, 0, 0, true, 325, 51, 324, 0),
  ((⟨fv_RN 5, "put", "([III)V"⟩ : MethodName), prog_1_method_51_code, 3, none, 5, 3, 0, 0, 0, 0, true, 318, 51, 317, 0),
  ((⟨fv_RN 5, "fill", "([II)V"⟩ : MethodName), prog_1_method_52_code, 3, none, 5, 2, 0, 0, 0, 0, true, 290, 51, 289, 0)]
def fv_mt_6 : List fv_Mt := [
  ((⟨fv_RN 5, "copy", "([I[I)V"⟩ : MethodName), prog_1_method_53_code, 3, none, 5, 2, 0, 0, 0, 0, true, 395, 51, 394, 0),
  ((⟨fv_RN 5, "sumOf", "([I)I"⟩ : MethodName), prog_1_method_54_code, 6, some .int, 5, 1, 0, 0, 0, 0, true, 724, 51, 723, 0),
  ((⟨fv_RN 5, "cell", "(II)I"⟩ : MethodName), prog_1_method_55_code, 2, some .int, 5, 2, 0, 0, 0, 0, true, 350, 51, 349, 0),
  ((⟨fv_RN 6, "<init>", "()V"⟩ : MethodName), prog_8_method_1_code, 1, none, 6, 1, 3, 67, 18, 951, false, 729, 62, 728, 0),
  ((⟨fv_RN 6, "tellsVerb", "(II)V"⟩ : MethodName), prog_8_method_3_code, 3, none, 6, 3, 0, 0, 0, 0, false, 738, 62, 737, 25),
  ((⟨fv_RN 6, "tellsWork", "(III)V"⟩ : MethodName), prog_8_method_4_code, 4, none, 6, 4, 0, 0, 0, 0, false, 742, 62, 741, 26),
  ((⟨fv_RN 6, "in", "(III)Z"⟩ : MethodName), prog_8_method_5_code, 3, some .boolean, 6, 3, 0, 0, 0, 0, true, 860, 62, 859, 0),
  ((⟨fv_RN 6, "isIn", "(II)Z"⟩ : MethodName), prog_8_method_6_code, 2, some .boolean, 6, 2, 0, 0, 0, 0, true, 756, 62, 755, 0),
  ((⟨fv_RN 6, "isVerb", "(I)Z"⟩ : MethodName), prog_8_method_7_code, 2, some .boolean, 6, 2, 1, 22, 0, 0, false, 932, 62, 931, 40),
  ((⟨fv_RN 6, "isVillage", "(I)Z"⟩ : MethodName), prog_8_method_8_code, 2, some .boolean, 6, 2, 1, 22, 0, 0, false, 928, 62, 927, 39),
  ((⟨fv_RN 6, "write", "(I)I"⟩ : MethodName), prog_8_method_9_code, 2, some .int, 6, 2, 1, 22, 0, 0, false, 857, 62, 855, 856),
  ((⟨fv_RN 6, "wipe", "()I"⟩ : MethodName), prog_8_method_10_code, 2, some .int, 6, 1, 0, 0, 0, 0, false, 864, 62, 862, 863),
  ((⟨fv_RN 6, "letterAt", "(I)I"⟩ : MethodName), prog_8_method_11_code, 2, some .int, 6, 2, 0, 0, 0, 0, false, 876, 62, 875, 30),
  ((⟨fv_RN 6, "isFigure", "(I)Z"⟩ : MethodName), prog_8_method_12_code, 1, some .boolean, 6, 1, 1, 22, 0, 0, true, 887, 62, 886, 0),
  ((⟨fv_RN 6, "readNumbers", "(I)Z"⟩ : MethodName), prog_8_method_13_code, 3, some .boolean, 6, 2, 2, 42, 0, 0, false, 884, 62, 883, 32),
  ((⟨fv_RN 6, "isTold", "(III)Z"⟩ : MethodName), prog_8_method_14_code, 4, some .boolean, 6, 4, 1, 22, 0, 0, false, 891, 62, 890, 33),
  ((⟨fv_RN 6, "put", "([II[II)V"⟩ : MethodName), prog_8_method_15_code, 5, none, 6, 4, 0, 0, 0, 0, true, 749, 62, 748, 0)]
def fv_mt_7 : List fv_Mt := [
  ((⟨fv_RN 6, "clearTold", "()V"⟩ : MethodName), prog_8_method_16_code, 2, none, 6, 1, 0, 0, 0, 0, false, 734, 62, 733, 24),
  ((⟨fv_RN 6, "readVerbOf", "()Z"⟩ : MethodName), prog_8_method_17_code, 1, some .boolean, 6, 1, 3, 64, 0, 0, false, 880, 62, 879, 31),
  ((⟨fv_RN 6, "readNounOf", "()Z"⟩ : MethodName), prog_8_method_18_code, 1, some .boolean, 6, 1, 3, 64, 0, 0, false, 895, 62, 894, 34),
  ((⟨fv_RN 6, "readVillageOf", "()Z"⟩ : MethodName), prog_8_method_19_code, 1, some .boolean, 6, 1, 3, 64, 0, 0, false, 899, 62, 898, 35),
  ((⟨fv_RN 6, "isToldVillage", "()Z"⟩ : MethodName), prog_8_method_20_code, 1, some .boolean, 6, 1, 2, 45, 0, 0, false, 907, 62, 906, 37),
  ((⟨fv_RN 6, "readStockOf", "()Z"⟩ : MethodName), prog_8_method_21_code, 1, some .boolean, 6, 1, 3, 65, 0, 0, false, 903, 62, 902, 36),
  ((⟨fv_RN 6, "readWorkOf", "()Z"⟩ : MethodName), prog_8_method_22_code, 1, some .boolean, 6, 1, 3, 65, 0, 0, false, 911, 62, 910, 38),
  ((⟨fv_RN 6, "readItem", "()Z"⟩ : MethodName), prog_8_method_23_code, 2, some .boolean, 6, 1, 4, 85, 0, 0, false, 872, 62, 871, 29),
  ((⟨fv_RN 6, "fault", "()I"⟩ : MethodName), prog_8_method_24_code, 2, some .int, 6, 1, 5, 106, 0, 0, false, 868, 62, 866, 867),
  ((⟨fv_RN 6, "lay", "()I"⟩ : MethodName), prog_8_method_25_code, 1, some .int, 6, 1, 6, 127, 0, 0, false, 915, 62, 913, 914),
  ((⟨fv_RN 6, "settles", "()V"⟩ : MethodName), prog_8_method_26_code, 4, none, 6, 1, 2, 44, 0, 0, false, 746, 62, 745, 27),
  ((⟨fv_RN 6, "bits", "(I)I"⟩ : MethodName), prog_8_method_27_code, 3, some .int, 6, 1, 0, 0, 0, 0, true, 759, 62, 758, 0),
  ((⟨fv_RN 6, "readingsOf", "(I)I"⟩ : MethodName), prog_8_method_28_code, 4, some .int, 6, 2, 1, 21, 0, 0, false, 753, 62, 752, 28),
  ((⟨fv_RN 6, "readings", "(I)I"⟩ : MethodName), prog_8_method_29_code, 2, some .int, 6, 2, 2, 44, 0, 0, false, 920, 62, 918, 919),
  ((⟨fv_RN 6, "say", "(II)I"⟩ : MethodName), prog_8_method_30_code, 6, some .int, 6, 3, 2, 44, 0, 0, false, 924, 62, 922, 923),
  ((⟨fv_RN 6, "tells", "(II)I"⟩ : MethodName), prog_8_method_31_code, 8, some .int, 6, 3, 2, 44, 0, 0, false, 936, 62, 934, 935),
  ((⟨fv_RN 6, "verb", "(II)I"⟩ : MethodName), prog_8_method_32_code, 5, some .int, 6, 3, 2, 43, 0, 0, false, 940, 62, 938, 939)]
def fv_mt_8 : List fv_Mt := [
  ((⟨fv_RN 6, "noun", "(I)I"⟩ : MethodName), prog_8_method_33_code, 2, some .int, 6, 2, 1, 22, 0, 0, false, 944, 62, 942, 943),
  ((⟨fv_RN 6, "village", "(II)I"⟩ : MethodName), prog_8_method_34_code, 3, some .int, 6, 3, 2, 43, 0, 0, false, 948, 62, 946, 947),
  ((⟨fv_RN 6, "stock", "(II)I"⟩ : MethodName), prog_8_method_35_code, 3, some .int, 6, 3, 2, 43, 0, 0, false, 952, 62, 950, 951),
  ((⟨fv_RN 6, "work", "(II)I"⟩ : MethodName), prog_8_method_36_code, 3, some .int, 6, 3, 1, 22, 0, 0, false, 956, 62, 954, 955),
  ((⟨fv_RN 6, "from", "([I)V"⟩ : MethodName), prog_8_method_37_code, 2, none, 6, 2, 1, 24, 0, 0, false, 968, 62, 967, 42),
  ((⟨fv_RN 6, "isSaid", "(I)Z"⟩ : MethodName), prog_8_method_38_code, 7, some .boolean, 6, 2, 1, 21, 0, 0, false, 980, 62, 979, 45),
  ((⟨fv_RN 6, "goes", "()I"⟩ : MethodName), prog_8_method_39_code, 6, some .int, 6, 1, 2, 47, 0, 0, false, 976, 62, 975, 44),
  ((⟨fv_RN 6, "goesOn", "(I)V"⟩ : MethodName), prog_8_method_40_code, 3, none, 6, 2, 3, 72, 0, 0, false, 972, 62, 971, 43),
  ((⟨fv_RN 6, "worthOf", "(I)I"⟩ : MethodName), prog_8_method_41_code, 4, some .int, 6, 2, 0, 0, 0, 0, false, 1004, 62, 1003, 47),
  ((⟨fv_RN 6, "forgottenOf", "(I)I"⟩ : MethodName), prog_8_method_42_code, 4, some .int, 6, 2, 0, 0, 0, 0, false, 1008, 62, 1007, 48),
  ((⟨fv_RN 6, "remembers", "()V"⟩ : MethodName), prog_8_method_43_code, 2, none, 6, 1, 1, 24, 0, 0, false, 964, 62, 963, 41),
  ((⟨fv_RN 6, "pass", "(I)I"⟩ : MethodName), prog_8_method_44_code, 2, some .int, 6, 2, 4, 94, 0, 0, false, 960, 62, 958, 959),
  ((⟨fv_RN 6, "give", "(IIII)I"⟩ : MethodName), prog_8_method_45_code, 5, some .int, 6, 5, 2, 45, 0, 0, false, 984, 62, 982, 983),
  ((⟨fv_RN 6, "smallOf", "(I)I"⟩ : MethodName), prog_8_method_46_code, 3, some .int, 6, 2, 0, 0, 0, 0, false, 992, 62, 991, 46),
  ((⟨fv_RN 6, "sow", "(II)I"⟩ : MethodName), prog_8_method_47_code, 4, some .int, 6, 3, 2, 45, 0, 0, false, 988, 62, 986, 987),
  ((⟨fv_RN 6, "undo", "()I"⟩ : MethodName), prog_8_method_48_code, 2, some .int, 6, 1, 0, 0, 0, 0, false, 996, 62, 994, 995),
  ((⟨fv_RN 6, "behind", "(IIII)I"⟩ : MethodName), prog_8_method_49_code, 5, some .int, 6, 5, 4, 94, 0, 0, false, 1000, 62, 998, 999)]
def fv_mt_9 : List fv_Mt := [
  ((⟨fv_RN 6, "silent", "(I)I"⟩ : MethodName), prog_8_method_50_code, 5, some .int, 6, 2, 3, 72, 0, 0, false, 1012, 62, 1010, 1011),
  ((⟨fv_RN 6, "lasts", "(I)I"⟩ : MethodName), prog_8_method_51_code, 3, some .int, 6, 2, 3, 72, 0, 0, false, 1016, 62, 1014, 1015),
  ((⟨fv_RN 6, "needOf", "(II)I"⟩ : MethodName), prog_8_method_52_code, 5, some .int, 6, 3, 1, 21, 0, 0, false, 1024, 62, 1023, 49),
  ((⟨fv_RN 6, "sent", "()I"⟩ : MethodName), prog_8_method_53_code, 7, some .int, 6, 1, 2, 45, 0, 0, false, 1020, 62, 1018, 1019),
  ((⟨fv_RN 6, "share", "(III)I"⟩ : MethodName), prog_8_method_54_code, 12, some .int, 6, 4, 2, 43, 0, 0, false, 1028, 62, 1026, 1027),
  ((⟨fv_RN 6, "bred", "(I)I"⟩ : MethodName), prog_8_method_55_code, 5, some .int, 6, 2, 2, 43, 0, 0, false, 1032, 62, 1030, 1031),
  ((⟨fv_RN 6, "hear", "(IIZ)I"⟩ : MethodName), prog_8_method_56_code, 4, some .int, 6, 4, 1, 22, 0, 0, false, 1036, 62, 1034, 1035),
  ((⟨fv_RN 6, "forget", "()I"⟩ : MethodName), prog_8_method_57_code, 2, some .int, 6, 1, 0, 0, 0, 0, false, 1040, 62, 1038, 1039),
  ((⟨fv_RN 6, "hoard", "(III)I"⟩ : MethodName), prog_8_method_58_code, 11, some .int, 6, 4, 3, 72, 0, 0, false, 1044, 62, 1042, 1043),
  ((⟨fv_RN 6, "caravan", "(IIII)I"⟩ : MethodName), prog_8_method_59_code, 6, some .int, 6, 5, 4, 94, 0, 0, false, 1048, 62, 1046, 1047),
  ((⟨fv_RN 6, "decade", "(III)I"⟩ : MethodName), prog_8_method_60_code, 10, some .int, 6, 4, 3, 72, 0, 0, false, 1052, 62, 1050, 1051),
  ((⟨fv_RN 6, "keep", "()I"⟩ : MethodName), prog_8_method_61_code, 1, some .int, 6, 1, 1, 24, 0, 0, false, 1060, 62, 1058, 1059),
  ((⟨fv_RN 6, "back", "()I"⟩ : MethodName), prog_8_method_62_code, 2, some .int, 6, 1, 0, 0, 0, 0, false, 1064, 62, 1062, 1063),
  ((⟨fv_RN 6, "count", "(I)I"⟩ : MethodName), prog_8_method_63_code, 4, some .int, 6, 2, 0, 0, 0, 0, false, 1068, 62, 1066, 1067),
  ((⟨fv_RN 8, "bitCount", "(I)I"⟩ : MethodName), prog_9_method_49_code, 1, some .int, 8, 1, 0, 0, 0, 0, true, 377, 61, 376, 0)]
def fv_mtc : List fv_Mt := fv_mt_0 ++ (fv_mt_1 ++ (fv_mt_2 ++ (fv_mt_3 ++ (fv_mt_4 ++ (fv_mt_5 ++ (fv_mt_6 ++ (fv_mt_7 ++ (fv_mt_8 ++ (fv_mt_9)))))))))
def fv_law : fv_Mt := ((⟨fv_RN 7, "law", "([I)Z"⟩ : MethodName), code, 4, ret, 7, 1, 9, 326, 600000, 7302250, true, 0, 50, 0, 0)
def fv_mt : List fv_Mt := fv_mtc ++ [fv_law]
def fv_g (z : Nat) : fv_Mt := fv_mt.getD z fv_law
def fv_y (z : Nat) : MethodName := (fv_g z).1
def fv_cc (z : Nat) : ByteArray := (fv_g z).2.1
def fv_ml (z : Nat) : Nat := (fv_g z).2.2.1
def fv_rt (z : Nat) : Option FieldType := (fv_g z).2.2.2.1
def fv_ow (z : Nat) : Nat := (fv_g z).2.2.2.2.1
def fv_np (z : Nat) : Nat := (fv_g z).2.2.2.2.2.1
def fv_fr (z : Nat) : Nat := (fv_g z).2.2.2.2.2.2.1
def fv_lo (z : Nat) : Nat := (fv_g z).2.2.2.2.2.2.2.1
def fv_mc (z : Nat) : Nat := (fv_g z).2.2.2.2.2.2.2.2.1
def fv_ms (z : Nat) : Nat := (fv_g z).2.2.2.2.2.2.2.2.2.1
def fv_st (z : Nat) : Bool := (fv_g z).2.2.2.2.2.2.2.2.2.2.1
def fv_ic (z : Nat) : Nat := (fv_g z).2.2.2.2.2.2.2.2.2.2.2.1
def fv_ii (z : Nat) : Nat := (fv_g z).2.2.2.2.2.2.2.2.2.2.2.2.1
def fv_is (z : Nat) : Nat := (fv_g z).2.2.2.2.2.2.2.2.2.2.2.2.2.1
def fv_il (z : Nat) : Nat := (fv_g z).2.2.2.2.2.2.2.2.2.2.2.2.2.2
def fv_LAW : Nat := 168
def fv_XI : Nat := 50
def fv_rm (z : Nat) : Room := { frames := fv_fr z, cells := fv_mc z, slots := fv_ms z, locals := fv_lo z }
/-- the words that pass from a caller to what it calls -/
def fv_GL : List Cond := lw_tbl.filter goodWord
def fv_ws (z : Nat) : List Cond := Cond.code (fv_y z) (fv_cc z) (fv_ml z) (fv_rt z) :: fv_GL
theorem fv_GL_in {i : Nat} {c : Cond} (h : lw_tbl[i]? = some c) (hg : goodWord c = true) : c ∈ fv_GL := List.mem_filter.mpr ⟨List.mem_of_getElem? h, hg⟩
set_option maxRecDepth 100000 in
theorem fv_mc_0 : ∀ q ∈ fv_mt_0, lw_tbl[q.2.2.2.2.2.2.2.2.2.2.2.1]? = some (Cond.code q.1 q.2.1 q.2.2.1 q.2.2.2.1) := List.forall_mem_cons.mpr ⟨rfl, List.forall_mem_cons.mpr ⟨rfl, List.forall_mem_cons.mpr ⟨rfl, List.forall_mem_cons.mpr ⟨rfl, List.forall_mem_cons.mpr ⟨rfl, List.forall_mem_cons.mpr ⟨rfl, List.forall_mem_cons.mpr ⟨rfl, List.forall_mem_cons.mpr ⟨rfl, List.forall_mem_cons.mpr ⟨rfl, List.forall_mem_cons.mpr ⟨rfl, List.forall_mem_cons.mpr ⟨rfl, List.forall_mem_cons.mpr ⟨rfl, List.forall_mem_cons.mpr ⟨rfl, List.forall_mem_cons.mpr ⟨rfl, List.forall_mem_cons.mpr ⟨rfl, List.forall_mem_cons.mpr ⟨rfl, List.forall_mem_cons.mpr ⟨rfl, fun _ h => absurd h List.not_mem_nil⟩⟩⟩⟩⟩⟩⟩⟩⟩⟩⟩⟩⟩⟩⟩⟩⟩
set_option maxRecDepth 100000 in
theorem fv_mc_1 : ∀ q ∈ fv_mt_1, lw_tbl[q.2.2.2.2.2.2.2.2.2.2.2.1]? = some (Cond.code q.1 q.2.1 q.2.2.1 q.2.2.2.1) := List.forall_mem_cons.mpr ⟨rfl, List.forall_mem_cons.mpr ⟨rfl, List.forall_mem_cons.mpr ⟨rfl, List.forall_mem_cons.mpr ⟨rfl, List.forall_mem_cons.mpr ⟨rfl, List.forall_mem_cons.mpr ⟨rfl, List.forall_mem_cons.mpr ⟨rfl, List.forall_mem_cons.mpr ⟨rfl, List.forall_mem_cons.mpr ⟨rfl, List.forall_mem_cons.mpr ⟨rfl, List.forall_mem_cons.mpr ⟨rfl, List.forall_mem_cons.mpr ⟨rfl, List.forall_mem_cons.mpr ⟨rfl, List.forall_mem_cons.mpr ⟨rfl, List.forall_mem_cons.mpr ⟨rfl, List.forall_mem_cons.mpr ⟨rfl, List.forall_mem_cons.mpr ⟨rfl, fun _ h => absurd h List.not_mem_nil⟩⟩⟩⟩⟩⟩⟩⟩⟩⟩⟩⟩⟩⟩⟩⟩⟩
set_option maxRecDepth 100000 in
theorem fv_mc_2 : ∀ q ∈ fv_mt_2, lw_tbl[q.2.2.2.2.2.2.2.2.2.2.2.1]? = some (Cond.code q.1 q.2.1 q.2.2.1 q.2.2.2.1) := List.forall_mem_cons.mpr ⟨rfl, List.forall_mem_cons.mpr ⟨rfl, List.forall_mem_cons.mpr ⟨rfl, List.forall_mem_cons.mpr ⟨rfl, List.forall_mem_cons.mpr ⟨rfl, List.forall_mem_cons.mpr ⟨rfl, List.forall_mem_cons.mpr ⟨rfl, List.forall_mem_cons.mpr ⟨rfl, List.forall_mem_cons.mpr ⟨rfl, List.forall_mem_cons.mpr ⟨rfl, List.forall_mem_cons.mpr ⟨rfl, List.forall_mem_cons.mpr ⟨rfl, List.forall_mem_cons.mpr ⟨rfl, List.forall_mem_cons.mpr ⟨rfl, List.forall_mem_cons.mpr ⟨rfl, List.forall_mem_cons.mpr ⟨rfl, List.forall_mem_cons.mpr ⟨rfl, fun _ h => absurd h List.not_mem_nil⟩⟩⟩⟩⟩⟩⟩⟩⟩⟩⟩⟩⟩⟩⟩⟩⟩
set_option maxRecDepth 100000 in
theorem fv_mc_3 : ∀ q ∈ fv_mt_3, lw_tbl[q.2.2.2.2.2.2.2.2.2.2.2.1]? = some (Cond.code q.1 q.2.1 q.2.2.1 q.2.2.2.1) := List.forall_mem_cons.mpr ⟨rfl, List.forall_mem_cons.mpr ⟨rfl, List.forall_mem_cons.mpr ⟨rfl, List.forall_mem_cons.mpr ⟨rfl, List.forall_mem_cons.mpr ⟨rfl, List.forall_mem_cons.mpr ⟨rfl, List.forall_mem_cons.mpr ⟨rfl, List.forall_mem_cons.mpr ⟨rfl, List.forall_mem_cons.mpr ⟨rfl, List.forall_mem_cons.mpr ⟨rfl, List.forall_mem_cons.mpr ⟨rfl, List.forall_mem_cons.mpr ⟨rfl, List.forall_mem_cons.mpr ⟨rfl, List.forall_mem_cons.mpr ⟨rfl, List.forall_mem_cons.mpr ⟨rfl, List.forall_mem_cons.mpr ⟨rfl, List.forall_mem_cons.mpr ⟨rfl, fun _ h => absurd h List.not_mem_nil⟩⟩⟩⟩⟩⟩⟩⟩⟩⟩⟩⟩⟩⟩⟩⟩⟩
set_option maxRecDepth 100000 in
theorem fv_mc_4 : ∀ q ∈ fv_mt_4, lw_tbl[q.2.2.2.2.2.2.2.2.2.2.2.1]? = some (Cond.code q.1 q.2.1 q.2.2.1 q.2.2.2.1) := List.forall_mem_cons.mpr ⟨rfl, List.forall_mem_cons.mpr ⟨rfl, List.forall_mem_cons.mpr ⟨rfl, List.forall_mem_cons.mpr ⟨rfl, List.forall_mem_cons.mpr ⟨rfl, List.forall_mem_cons.mpr ⟨rfl, List.forall_mem_cons.mpr ⟨rfl, List.forall_mem_cons.mpr ⟨rfl, List.forall_mem_cons.mpr ⟨rfl, List.forall_mem_cons.mpr ⟨rfl, List.forall_mem_cons.mpr ⟨rfl, List.forall_mem_cons.mpr ⟨rfl, List.forall_mem_cons.mpr ⟨rfl, List.forall_mem_cons.mpr ⟨rfl, List.forall_mem_cons.mpr ⟨rfl, List.forall_mem_cons.mpr ⟨rfl, List.forall_mem_cons.mpr ⟨rfl, fun _ h => absurd h List.not_mem_nil⟩⟩⟩⟩⟩⟩⟩⟩⟩⟩⟩⟩⟩⟩⟩⟩⟩
set_option maxRecDepth 100000 in
theorem fv_mc_5 : ∀ q ∈ fv_mt_5, lw_tbl[q.2.2.2.2.2.2.2.2.2.2.2.1]? = some (Cond.code q.1 q.2.1 q.2.2.1 q.2.2.2.1) := List.forall_mem_cons.mpr ⟨rfl, List.forall_mem_cons.mpr ⟨rfl, List.forall_mem_cons.mpr ⟨rfl, List.forall_mem_cons.mpr ⟨rfl, List.forall_mem_cons.mpr ⟨rfl, List.forall_mem_cons.mpr ⟨rfl, List.forall_mem_cons.mpr ⟨rfl, List.forall_mem_cons.mpr ⟨rfl, List.forall_mem_cons.mpr ⟨rfl, List.forall_mem_cons.mpr ⟨rfl, List.forall_mem_cons.mpr ⟨rfl, List.forall_mem_cons.mpr ⟨rfl, List.forall_mem_cons.mpr ⟨rfl, List.forall_mem_cons.mpr ⟨rfl, List.forall_mem_cons.mpr ⟨rfl, List.forall_mem_cons.mpr ⟨rfl, List.forall_mem_cons.mpr ⟨rfl, fun _ h => absurd h List.not_mem_nil⟩⟩⟩⟩⟩⟩⟩⟩⟩⟩⟩⟩⟩⟩⟩⟩⟩
set_option maxRecDepth 100000 in
theorem fv_mc_6 : ∀ q ∈ fv_mt_6, lw_tbl[q.2.2.2.2.2.2.2.2.2.2.2.1]? = some (Cond.code q.1 q.2.1 q.2.2.1 q.2.2.2.1) := List.forall_mem_cons.mpr ⟨rfl, List.forall_mem_cons.mpr ⟨rfl, List.forall_mem_cons.mpr ⟨rfl, List.forall_mem_cons.mpr ⟨rfl, List.forall_mem_cons.mpr ⟨rfl, List.forall_mem_cons.mpr ⟨rfl, List.forall_mem_cons.mpr ⟨rfl, List.forall_mem_cons.mpr ⟨rfl, List.forall_mem_cons.mpr ⟨rfl, List.forall_mem_cons.mpr ⟨rfl, List.forall_mem_cons.mpr ⟨rfl, List.forall_mem_cons.mpr ⟨rfl, List.forall_mem_cons.mpr ⟨rfl, List.forall_mem_cons.mpr ⟨rfl, List.forall_mem_cons.mpr ⟨rfl, List.forall_mem_cons.mpr ⟨rfl, List.forall_mem_cons.mpr ⟨rfl, fun _ h => absurd h List.not_mem_nil⟩⟩⟩⟩⟩⟩⟩⟩⟩⟩⟩⟩⟩⟩⟩⟩⟩
set_option maxRecDepth 100000 in
theorem fv_mc_7 : ∀ q ∈ fv_mt_7, lw_tbl[q.2.2.2.2.2.2.2.2.2.2.2.1]? = some (Cond.code q.1 q.2.1 q.2.2.1 q.2.2.2.1) := List.forall_mem_cons.mpr ⟨rfl, List.forall_mem_cons.mpr ⟨rfl, List.forall_mem_cons.mpr ⟨rfl, List.forall_mem_cons.mpr ⟨rfl, List.forall_mem_cons.mpr ⟨rfl, List.forall_mem_cons.mpr ⟨rfl, List.forall_mem_cons.mpr ⟨rfl, List.forall_mem_cons.mpr ⟨rfl, List.forall_mem_cons.mpr ⟨rfl, List.forall_mem_cons.mpr ⟨rfl, List.forall_mem_cons.mpr ⟨rfl, List.forall_mem_cons.mpr ⟨rfl, List.forall_mem_cons.mpr ⟨rfl, List.forall_mem_cons.mpr ⟨rfl, List.forall_mem_cons.mpr ⟨rfl, List.forall_mem_cons.mpr ⟨rfl, List.forall_mem_cons.mpr ⟨rfl, fun _ h => absurd h List.not_mem_nil⟩⟩⟩⟩⟩⟩⟩⟩⟩⟩⟩⟩⟩⟩⟩⟩⟩
set_option maxRecDepth 100000 in
theorem fv_mc_8 : ∀ q ∈ fv_mt_8, lw_tbl[q.2.2.2.2.2.2.2.2.2.2.2.1]? = some (Cond.code q.1 q.2.1 q.2.2.1 q.2.2.2.1) := List.forall_mem_cons.mpr ⟨rfl, List.forall_mem_cons.mpr ⟨rfl, List.forall_mem_cons.mpr ⟨rfl, List.forall_mem_cons.mpr ⟨rfl, List.forall_mem_cons.mpr ⟨rfl, List.forall_mem_cons.mpr ⟨rfl, List.forall_mem_cons.mpr ⟨rfl, List.forall_mem_cons.mpr ⟨rfl, List.forall_mem_cons.mpr ⟨rfl, List.forall_mem_cons.mpr ⟨rfl, List.forall_mem_cons.mpr ⟨rfl, List.forall_mem_cons.mpr ⟨rfl, List.forall_mem_cons.mpr ⟨rfl, List.forall_mem_cons.mpr ⟨rfl, List.forall_mem_cons.mpr ⟨rfl, List.forall_mem_cons.mpr ⟨rfl, List.forall_mem_cons.mpr ⟨rfl, fun _ h => absurd h List.not_mem_nil⟩⟩⟩⟩⟩⟩⟩⟩⟩⟩⟩⟩⟩⟩⟩⟩⟩
set_option maxRecDepth 100000 in
theorem fv_mc_9 : ∀ q ∈ fv_mt_9, lw_tbl[q.2.2.2.2.2.2.2.2.2.2.2.1]? = some (Cond.code q.1 q.2.1 q.2.2.1 q.2.2.2.1) := List.forall_mem_cons.mpr ⟨rfl, List.forall_mem_cons.mpr ⟨rfl, List.forall_mem_cons.mpr ⟨rfl, List.forall_mem_cons.mpr ⟨rfl, List.forall_mem_cons.mpr ⟨rfl, List.forall_mem_cons.mpr ⟨rfl, List.forall_mem_cons.mpr ⟨rfl, List.forall_mem_cons.mpr ⟨rfl, List.forall_mem_cons.mpr ⟨rfl, List.forall_mem_cons.mpr ⟨rfl, List.forall_mem_cons.mpr ⟨rfl, List.forall_mem_cons.mpr ⟨rfl, List.forall_mem_cons.mpr ⟨rfl, List.forall_mem_cons.mpr ⟨rfl, List.forall_mem_cons.mpr ⟨rfl, fun _ h => absurd h List.not_mem_nil⟩⟩⟩⟩⟩⟩⟩⟩⟩⟩⟩⟩⟩⟩⟩
theorem fv_mc_all : ∀ q ∈ fv_mtc, lw_tbl[q.2.2.2.2.2.2.2.2.2.2.2.1]? = some (Cond.code q.1 q.2.1 q.2.2.1 q.2.2.2.1) := List.forall_mem_append.mpr ⟨fv_mc_0, List.forall_mem_append.mpr ⟨fv_mc_1, List.forall_mem_append.mpr ⟨fv_mc_2, List.forall_mem_append.mpr ⟨fv_mc_3, List.forall_mem_append.mpr ⟨fv_mc_4, List.forall_mem_append.mpr ⟨fv_mc_5, List.forall_mem_append.mpr ⟨fv_mc_6, List.forall_mem_append.mpr ⟨fv_mc_7, List.forall_mem_append.mpr ⟨fv_mc_8, fv_mc_9⟩⟩⟩⟩⟩⟩⟩⟩⟩
theorem fv_len : fv_mtc.length = 168 := by decide +kernel
theorem fv_g_mem {z : Nat} (h : z < 168) : fv_g z ∈ fv_mtc := by
  have h1 : z < fv_mtc.length := by rw [fv_len]; exact h
  have h2 : fv_g z = fv_mtc[z] := by
    unfold fv_g fv_mt
    rw [List.getD_eq_getElem?_getD, List.getElem?_append_left h1, List.getElem?_eq_getElem h1]
    rfl
  rw [h2]
  exact List.getElem_mem h1
theorem fv_code {z : Nat} (h : z < 168) : Cond.code (fv_y z) (fv_cc z) (fv_ml z) (fv_rt z) ∈ fv_GL := fv_GL_in (fv_mc_all _ (fv_g_mem h)) rfl
def fv_mchk (q : fv_Mt) : Bool :=
  decide (lw_tbl[q.2.2.2.2.2.2.2.2.2.2.2.2.1]? = some (Cond.initialized q.1.cls)) &&
  (if q.2.2.2.2.2.2.2.2.2.2.1 then decide (lw_tbl[q.2.2.2.2.2.2.2.2.2.2.2.2.2.1]? = some (Cond.static q.1))
   else decide (lw_tbl[q.2.2.2.2.2.2.2.2.2.2.2.2.2.1]? = some (Cond.instanceMethod q.1)) && (decide (q.1.name = "<init>") || decide (lw_tbl[q.2.2.2.2.2.2.2.2.2.2.2.2.2.2]? = some (Cond.selects q.1.cls q.1 q.1)))) &&
  decide (q.1.cls ≠ "java/lang/invoke/MethodHandle") && decide (q.1.cls ≠ "java/lang/invoke/VarHandle") && Jvm.plainName q.1.cls && decide (q.1.cls = fv_RN q.2.2.2.2.1) &&
  decide ((parseMethodDescriptor q.1.desc).map (fun d => d.parameters.length + if q.2.2.2.2.2.2.2.2.2.2.1 then 0 else 1) = some q.2.2.2.2.2.1)
theorem fv_mk_0 : fv_mt_0.all fv_mchk = true := by decide +kernel
theorem fv_mk_1 : fv_mt_1.all fv_mchk = true := by decide +kernel
theorem fv_mk_2 : fv_mt_2.all fv_mchk = true := by decide +kernel
theorem fv_mk_3 : fv_mt_3.all fv_mchk = true := by decide +kernel
theorem fv_mk_4 : fv_mt_4.all fv_mchk = true := by decide +kernel
theorem fv_mk_5 : fv_mt_5.all fv_mchk = true := by decide +kernel
theorem fv_mk_6 : fv_mt_6.all fv_mchk = true := by decide +kernel
theorem fv_mk_7 : fv_mt_7.all fv_mchk = true := by decide +kernel
theorem fv_mk_8 : fv_mt_8.all fv_mchk = true := by decide +kernel
theorem fv_mk_9 : fv_mt_9.all fv_mchk = true := by decide +kernel
theorem fv_mk_all : fv_mtc.all fv_mchk = true := by
  unfold fv_mtc
  simp only [List.all_append, fv_mk_0, fv_mk_1, fv_mk_2, fv_mk_3, fv_mk_4, fv_mk_5, fv_mk_6, fv_mk_7, fv_mk_8, fv_mk_9, Bool.and_true]
end
section
/-! sites: fields, calls, kinds of objects, constants, by their place in the pool; own program gen/p01.py -/
/-- kind of the user, place in its pool, kind of the object, field, place of the word -/
def fv_FS : List (Nat × Nat × Nat × Nat × Nat) := [(0, 9, 0, 0, 208), (0, 15, 0, 1, 209), (0, 18, 0, 2, 210), (0, 22, 0, 3, 211), (1, 9, 1, 4, 108), (1, 15, 1, 5, 111), (1, 18, 1, 6, 114), (1, 21, 1, 7, 115), (1, 24, 1, 8, 116), (1, 27, 1, 9, 118), (1, 30, 1, 10, 120), (1, 33, 1, 11, 123), (1, 36, 1, 12, 126), (1, 39, 1, 0, 97), (1, 43, 1, 1, 100), (1, 46, 1, 2, 102), (1, 49, 1, 3, 105), (2, 7, 2, 0, 191), (2, 16, 2, 2, 194), (2, 24, 2, 1, 192), (3, 9, 3, 1, 163), (3, 15, 3, 2, 165), (3, 18, 3, 3, 167), (3, 21, 3, 4, 169), (3, 24, 3, 0, 161), (3, 28, 1, 9, 119), (3, 58, 1, 0, 98), (3, 61, 1, 4, 110), (3, 64, 1, 3, 106), (3, 71, 1, 2, 104), (3, 81, 1, 10, 121), (3, 84, 1, 11, 124), (3, 98, 1, 5, 113), (4, 9, 4, 0, 78), (4, 15, 4, 1, 79), (4, 19, 4, 2, 81), (5, 10, 5, 0, 397), (5, 19, 5, 1, 398), (5, 23, 5, 2, 399), (5, 29, 5, 3, 400), (5, 33, 5, 4, 401), (5, 41, 5, 5, 402), (5, 45, 5, 6, 403), (5, 51, 5, 7, 404), (5, 75, 4, 2, 80), (5, 86, 1, 2, 103), (5, 96, 1, 4, 109), (5, 100, 1, 5, 112), (5, 107, 1, 1, 101), (5, 119, 3, 2, 166), (5, 122, 1, 8, 117), (5, 132, 1, 10, 122), (5, 135, 1, 11, 125), (5, 138, 1, 12, 127), (5, 141, 3, 3, 168), (5, 144, 3, 4, 170), (5, 155, 3, 0, 162), (5, 182, 2, 1, 193), (5, 206, 1, 0, 99), (5, 246, 0, 3, 212), (5, 259, 1, 3, 107), (5, 262, 3, 1, 164), (6, 7, 6, 1, 761), (6, 13, 6, 3, 763), (6, 16, 6, 5, 765), (6, 19, 6, 7, 767), (6, 22, 6, 8, 768), (6, 25, 6, 9, 769), (6, 28, 6, 10, 770), (6, 31, 6, 12, 772), (6, 34, 6, 14, 774), (6, 37, 6, 16, 776), (6, 40, 6, 17, 777), (6, 43, 6, 20, 780), (6, 46, 6, 22, 782), (6, 49, 6, 24, 784), (6, 52, 6, 26, 786), (6, 55, 6, 28, 788), (6, 58, 6, 29, 789), (6, 61, 6, 30, 790), (6, 71, 6, 23, 783), (6, 75, 6, 25, 785), (6, 85, 6, 21, 781), (6, 88, 6, 27, 787), (6, 91, 6, 0, 760), (6, 98, 6, 4, 764), (6, 101, 6, 18, 778), (6, 104, 6, 19, 779), (6, 147, 6, 2, 762), (6, 150, 6, 6, 766), (6, 163, 6, 11, 771), (6, 166, 6, 13, 773), (6, 169, 6, 15, 775)]
def fv_fsok (q : Nat × Nat × Nat × Nat × Nat) : Bool := decide (lw_tbl[q.2.2.2.2]? = some (Cond.fieldLink (fv_RN q.1) q.2.1 (fv_RN q.2.2.1) ((fv_T q.2.2.1) q.2.2.2.1).2.1 ((fv_T q.2.2.1) q.2.2.2.1).2.2.1)) && decide (((fv_T q.2.2.1) q.2.2.2.1).1 = fv_RN q.2.2.1) && decide (q.2.2.1 < 7) && decide (q.2.2.2.1 < fv_NF q.2.2.1)
theorem fv_FS_ok : fv_FS.all fv_fsok = true := by decide +kernel
/-- kind of the user, place in its pool, method, how (0 static, 1 static of a mate, 2 virtual, 3 constructor, 4 constructor of a mate), place of the word -/
def fv_CS : List (Nat × Nat × Nat × Nat × Nat) := [(0, 26, 100, 1, 664), (0, 30, 99, 1, 681), (0, 40, 97, 1, 687), (1, 52, 101, 1, 288), (1, 56, 96, 1, 330), (1, 60, 100, 1, 331), (1, 64, 11, 2, 344), (1, 68, 104, 1, 348), (1, 72, 99, 1, 374), (1, 76, 12, 2, 359), (1, 80, 97, 1, 367), (1, 83, 14, 2, 370), (1, 87, 16, 2, 363), (1, 90, 167, 0, 375), (1, 95, 18, 2, 381), (1, 99, 15, 2, 385), (1, 102, 23, 2, 614), (2, 15, 27, 4, 190), (2, 20, 29, 2, 493), (3, 31, 102, 1, 393), (3, 35, 101, 1, 396), (3, 39, 104, 1, 456), (3, 43, 99, 1, 457), (3, 47, 100, 1, 529), (3, 51, 30, 2, 512), (3, 54, 31, 2, 525), (3, 67, 36, 2, 508), (3, 74, 38, 2, 530), (3, 78, 39, 2, 535), (3, 87, 19, 2, 513), (3, 91, 37, 2, 517), (3, 94, 33, 2, 521), (4, 23, 5, 2, 284), (4, 28, 43, 2, 291), (4, 32, 46, 2, 295), (4, 36, 45, 0, 299), (4, 39, 47, 2, 302), (4, 42, 48, 2, 312), (4, 46, 100, 1, 316), (4, 50, 44, 2, 319), (4, 54, 99, 1, 323), (4, 58, 6, 2, 326), (4, 62, 7, 2, 332), (4, 66, 8, 2, 336), (4, 69, 9, 2, 340), (4, 73, 10, 2, 351), (4, 76, 49, 0, 306), (4, 79, 96, 1, 309), (5, 9, 40, 4, 74), (5, 18, 4, 4, 93), (5, 28, 27, 4, 157), (5, 38, 24, 3, 185), (5, 50, 0, 4, 204), (5, 67, 41, 2, 272), (5, 71, 86, 2, 276), (5, 78, 96, 0, 427), (5, 82, 42, 2, 280), (5, 89, 81, 2, 444), (5, 92, 88, 2, 448), (5, 103, 99, 0, 458), (5, 110, 14, 2, 463), (5, 113, 82, 2, 468), (5, 116, 15, 2, 472), (5, 125, 30, 2, 452), (5, 129, 83, 2, 481), (5, 147, 25, 2, 489), (5, 151, 87, 2, 500), (5, 158, 85, 2, 543), (5, 162, 32, 2, 547), (5, 166, 34, 2, 555), (5, 170, 31, 2, 559), (5, 174, 100, 0, 560), (5, 178, 26, 2, 565), (5, 185, 29, 2, 573), (5, 188, 21, 2, 574), (5, 191, 89, 2, 578), (5, 194, 90, 2, 583), (5, 197, 13, 2, 591), (5, 200, 35, 2, 504), (5, 203, 98, 0, 595), (5, 209, 91, 2, 606), (5, 217, 23, 2, 627), (5, 224, 84, 2, 633), (5, 227, 16, 2, 638), (5, 230, 20, 2, 643), (5, 233, 167, 0, 651), (5, 238, 97, 0, 582), (5, 242, 1, 2, 660), (5, 249, 92, 2, 673), (5, 252, 94, 0, 696), (5, 255, 93, 2, 703), (5, 265, 103, 0, 722), (5, 269, 12, 2, 637), (5, 272, 17, 2, 355), (5, 275, 28, 2, 389), (5, 279, 22, 2, 610), (5, 282, 19, 2, 618), (5, 285, 33, 2, 619), (5, 288, 2, 2, 677), (5, 291, 3, 2, 683), (5, 294, 95, 0, 707), (6, 64, 119, 2, 731), (6, 67, 106, 2, 735), (6, 78, 107, 2, 739), (6, 82, 129, 2, 743), (6, 94, 108, 0, 858), (6, 107, 114, 2, 873), (6, 111, 115, 0, 885), (6, 115, 116, 2, 881), (6, 118, 117, 2, 888), (6, 121, 123, 2, 904), (6, 125, 120, 2, 877), (6, 128, 121, 2, 892), (6, 131, 122, 2, 896), (6, 134, 124, 2, 900), (6, 137, 125, 2, 908), (6, 140, 126, 2, 869), (6, 143, 127, 2, 916), (6, 153, 118, 0, 747), (6, 157, 131, 2, 750), (6, 160, 130, 0, 757), (6, 172, 109, 0, 754), (6, 176, 111, 2, 925), (6, 179, 110, 2, 929), (6, 182, 141, 2, 977), (6, 185, 142, 2, 973), (6, 188, 146, 2, 961), (6, 191, 140, 2, 965), (6, 195, 143, 2, 969), (6, 199, 149, 2, 989), (6, 202, 144, 2, 1001), (6, 205, 145, 2, 1005), (6, 208, 155, 2, 1021), (7, 9, 50, 3, 66), (7, 12, 105, 3, 727), (7, 13, 51, 2, 423), (7, 17, 112, 2, 854), (7, 18, 52, 2, 428), (7, 22, 113, 2, 861), (7, 23, 53, 2, 432), (7, 26, 127, 2, 865), (7, 27, 54, 2, 436), (7, 30, 128, 2, 912), (7, 31, 55, 2, 440), (7, 35, 135, 2, 937), (7, 36, 56, 2, 459), (7, 39, 136, 2, 941), (7, 40, 57, 2, 464), (7, 43, 137, 2, 945), (7, 44, 58, 2, 473), (7, 47, 138, 2, 949), (7, 48, 59, 2, 477), (7, 51, 139, 2, 953), (7, 52, 60, 2, 485), (7, 55, 147, 2, 957), (7, 56, 61, 2, 539), (7, 60, 148, 2, 981), (7, 61, 62, 2, 551), (7, 64, 150, 2, 985), (7, 65, 63, 2, 561), (7, 68, 151, 2, 993), (7, 69, 64, 2, 569), (7, 72, 152, 2, 997), (7, 73, 65, 2, 587), (7, 76, 153, 2, 1009), (7, 77, 66, 2, 598), (7, 80, 154, 2, 1013), (7, 81, 67, 2, 602), (7, 84, 156, 2, 1017), (7, 85, 68, 2, 623), (7, 89, 157, 2, 1025), (7, 90, 69, 2, 629), (7, 93, 132, 2, 917), (7, 94, 70, 2, 639), (7, 97, 133, 2, 921), (7, 98, 71, 2, 647), (7, 101, 134, 2, 933), (7, 102, 72, 2, 652), (7, 105, 158, 2, 1029), (7, 106, 73, 2, 656), (7, 110, 159, 2, 1033), (7, 111, 74, 2, 665), (7, 114, 160, 2, 1037), (7, 115, 75, 2, 669), (7, 118, 161, 2, 1041), (7, 119, 76, 2, 688), (7, 122, 162, 2, 1045), (7, 123, 77, 2, 692), (7, 126, 163, 2, 1049), (7, 127, 78, 2, 710), (7, 130, 164, 2, 1057), (7, 131, 79, 2, 714), (7, 134, 165, 2, 1061), (7, 135, 80, 2, 718), (7, 138, 166, 2, 1065)]
def fv_csok (q : Nat × Nat × Nat × Nat × Nat) : Bool := decide (q.2.2.1 < 168) && (if q.2.2.2.1 = 1 ∨ q.2.2.2.1 = 4 then true else decide (lw_tbl[q.2.2.2.2]? = some (Cond.methodLink (fv_RN q.1) q.2.1 (fv_y q.2.2.1)))) && (if q.2.2.2.1 = 0 ∨ q.2.2.2.1 = 1 then fv_st q.2.2.1 else if q.2.2.2.1 = 2 then !fv_st q.2.2.1 && (decide ((fv_y q.2.2.1).name ≠ "<init>") && decide (fv_ow q.2.2.1 < 7)) else !fv_st q.2.2.1 && decide ((fv_y q.2.2.1).name = "<init>") && decide (fv_rt q.2.2.1 = none))
theorem fv_CS_ok : fv_CS.all fv_csok = true := by decide +kernel
/-- words of the mates, which pass beside the others -/
def fv_nests : List Cond := (fv_CS.filter (fun q => q.2.2.2.1 = 1 ∨ q.2.2.2.1 = 4)).map (fun q => Cond.methodLinkNest (fv_RN q.1) q.2.1 (fv_y q.2.2.1) "FamineOfVerbs")
theorem fv_nests_all : (fv_CS.filter (fun q => q.2.2.2.1 = 1 ∨ q.2.2.2.1 = 4)).all (fun q => decide (lw_tbl[q.2.2.2.2]? = some (Cond.methodLinkNest (fv_RN q.1) q.2.1 (fv_y q.2.2.1) "FamineOfVerbs"))) = true := by decide +kernel
theorem fv_nests_in : ∀ w ∈ fv_nests, w ∈ lw_tbl := by
  intro w h
  obtain ⟨q, hq, rfl⟩ := List.mem_map.mp h
  have h1 := List.all_eq_true.mp fv_nests_all q hq
  exact List.mem_of_getElem? (of_decide_eq_true h1)
/-- Object.<init> -/
def fv_OS : List (Nat × Nat × Nat) := [(0, 3, 207), (1, 3, 96), (2, 1, 188), (3, 3, 160), (4, 3, 77), (5, 1, 69), (6, 1, 730)]
theorem fv_OS_ok : fv_OS.all (fun q => decide (lw_tbl[q.2.2]? = some (Cond.methodLink (fv_RN q.1) q.2.1 Lib.objectInit))) = true := by decide +kernel
/-- Math.max (0), Math.min (1) -/
def fv_AS : List (Nat × Nat × Nat × Nat) := [(0, 34, 0, 682), (2, 27, 1, 497), (3, 101, 1, 534), (5, 212, 0, 620), (5, 221, 1, 628)]
theorem fv_AS_ok : fv_AS.all (fun q => decide (lw_tbl[q.2.2.2]? = some (Cond.methodLink (fv_RN q.1) q.2.1 (if q.2.2.1 = 0 then Lib.Math.max.name else Lib.Math.min.name))) && decide (q.2.2.1 < 2)) = true := by decide +kernel
theorem fv_max_st : Cond.static Lib.Math.max.name ∈ fv_GL := fv_GL_in (i := 621) (by decide +kernel) rfl
theorem fv_min_st : Cond.static Lib.Math.min.name ∈ fv_GL := fv_GL_in (i := 498) (by decide +kernel) rfl
theorem fv_math_in : Cond.initialized "java/lang/Math" ∈ fv_GL := fv_GL_in (i := 63) (by decide +kernel) rfl
set_option maxRecDepth 100000 in
theorem fv_max_co : Cond.code Lib.Math.max.name Lib.Math.max.code 2 (some .int) ∈ fv_GL := fv_GL_in (i := 622) rfl rfl
set_option maxRecDepth 100000 in
theorem fv_min_co : Cond.code Lib.Math.min.name Lib.Math.min.code 2 (some .int) ∈ fv_GL := fv_GL_in (i := 499) rfl rfl
theorem fv_oi_in : Cond.instanceMethod Lib.objectInit ∈ fv_GL := fv_GL_in (i := 70) (by decide +kernel) rfl
set_option maxRecDepth 100000 in
theorem fv_oi_co : Cond.code Lib.objectInit ⟨#[0xb1]⟩ 1 none ∈ fv_GL := fv_GL_in (i := 71) rfl rfl
theorem fv_ac_int : Cond.arrayClass .int ∈ fv_GL := fv_GL_in (i := 90) (by decide +kernel) rfl
theorem fv_ac_boolean : Cond.arrayClass .boolean ∈ fv_GL := fv_GL_in (i := 222) (by decide +kernel) rfl
theorem fv_ac_char : Cond.arrayClass .char ∈ fv_GL := fv_GL_in (i := 89) (by decide +kernel) rfl
theorem fv_ao : Cond.arrayOver (.object (fv_RN 3)) ∈ lw_tbl := List.mem_of_getElem? (i := 184) (by decide +kernel)
/-- new, and arrays of objects -/
def fv_NS : List (Nat × Nat × Nat × Nat) := [(2, 13, 3, 189), (5, 7, 4, 72), (5, 16, 1, 91), (5, 26, 3, 155), (5, 36, 2, 182), (5, 48, 0, 202), (7, 7, 5, 64), (7, 10, 6, 725)]
theorem fv_NS_ok : fv_NS.all (fun q => decide (lw_tbl[q.2.2.2]? = some (Cond.classLink (fv_RN q.1) q.2.1 (fv_RN q.2.2.1))) && decide (q.2.2.1 < 7)) = true := by decide +kernel
def fv_JS : List (Nat × Nat × Nat × Nat) := [(5, 297, 7919, 699), (5, 299, 6151, 700), (5, 301, 65521, 701), (5, 303, 8, 702), (6, 212, 7919, 1053), (6, 214, 6151, 1054), (6, 216, 65521, 1055), (6, 218, 8, 1056)]
theorem fv_JS_ok : fv_JS.all (fun q => decide (lw_tbl[q.2.2.2]? = some (Cond.constantLong (fv_RN q.1) q.2.1 (Int64.ofNat q.2.2.1)))) = true := by decide +kernel
def fv_IS : List (Nat × Nat × Int × Nat) := [(8, 265, 1431655765, 378), (8, 266, 858993459, 379), (8, 267, 252645135, 380)]
theorem fv_IS_ok : fv_IS.all (fun q => decide (lw_tbl[q.2.2.2]? = some (Cond.constant (fv_RN q.1) q.2.1 (Int32.ofInt q.2.2.1)))) = true := by decide +kernel
theorem fv_kind_at : ∀ ci, ci < 7 → fv_kinds[ci]? = some (fv_RN ci, fv_T ci, fv_NF ci) := by
  intro ci h
  rcases (by omega : ci = 0 ∨ ci = 1 ∨ ci = 2 ∨ ci = 3 ∨ ci = 4 ∨ ci = 5 ∨ ci = 6) with rfl | rfl | rfl | rfl | rfl | rfl | rfl <;> rfl
def fv_lix : Nat → List Nat := fun ci => match ci with
  | 0 => [213, 215, 217, 219]
  | 1 => [128, 130, 132, 134, 136, 138, 140, 142, 144, 146, 148, 150, 152]
  | 2 => [195, 197, 199]
  | 3 => [171, 173, 175, 177, 179]
  | 4 => [82, 84, 86]
  | 5 => [405, 407, 409, 411, 413, 415, 417, 419]
  | _ => [791, 793, 795, 797, 799, 801, 803, 805, 807, 809, 811, 813, 815, 817, 819, 821, 823, 825, 827, 829, 831, 833, 835, 837, 839, 841, 843, 845, 847, 849, 851]
def fv_layok (ci : Nat) : Bool := (List.range (fv_NF ci)).all (fun k => decide (lw_tbl[(fv_lix ci).getD k 0]? = some (u_lay (fv_RN ci) (fv_T ci) k)) && decide (parseFieldDescriptor ((fv_T ci) k).2.2.1 = some (fv_Y ci k)) && (List.range (fv_NF ci)).all (fun j => decide (k = j) || decide (((fv_T ci) k).2.1 ≠ ((fv_T ci) j).2.1)))
theorem fv_lay_0 : fv_layok 0 = true := by decide +kernel
theorem fv_lay_1 : fv_layok 1 = true := by decide +kernel
theorem fv_lay_2 : fv_layok 2 = true := by decide +kernel
theorem fv_lay_3 : fv_layok 3 = true := by decide +kernel
theorem fv_lay_4 : fv_layok 4 = true := by decide +kernel
theorem fv_lay_5 : fv_layok 5 = true := by decide +kernel
theorem fv_lay_6 : fv_layok 6 = true := by decide +kernel
theorem fv_lay_all : ∀ ci, ci < 7 → fv_layok ci = true := by
  intro ci h
  rcases (by omega : ci = 0 ∨ ci = 1 ∨ ci = 2 ∨ ci = 3 ∨ ci = 4 ∨ ci = 5 ∨ ci = 6) with rfl | rfl | rfl | rfl | rfl | rfl | rfl
  · exact fv_lay_0
  · exact fv_lay_1
  · exact fv_lay_2
  · exact fv_lay_3
  · exact fv_lay_4
  · exact fv_lay_5
  · exact fv_lay_6
def fv_inix : Nat → Nat × Nat := fun ci => match ci with
  | 0 => (203, 56)
  | 1 => (92, 53)
  | 2 => (183, 55)
  | 3 => (156, 54)
  | 4 => (73, 52)
  | 5 => (65, 51)
  | _ => (726, 62)
theorem fv_inst_all : (List.range 7).all (fun ci => decide (lw_tbl[(fv_inix ci).1]? = some (Cond.instantiable (fv_RN ci) (fv_NF ci))) && decide (lw_tbl[(fv_inix ci).2]? = some (Cond.initialized (fv_RN ci)))) = true := by decide +kernel
end
section
/-! the code of each method, a row an instruction: its place, as it stands in the class file, the place behind it, the same with its links resolved; own program gen/p03.py -/
abbrev fv_Row : Type := Nat × Instr × Nat × Instr
def fv_k0 : List fv_Row := [(0, .aload_n 0, 1, .aload 0), (1, .invokespecial 3, 4, .nop), (4, .aload_n 0, 5, .aload 0), (5, .bipush 6, 7, .iconst 6), (7, .newarray .int, 9, .newarray .int), (9, .putfield 9, 12, .putfield 0), (12, .aload_n 0, 13, .aload 0), (13, .bipush 6, 15, .iconst 6), (15, .newarray .int, 17, .newarray .int), (17, .putfield 15, 20, .putfield 1), (20, .aload_n 0, 21, .aload 0), (21, .bipush 6, 23, .iconst 6), (23, .newarray .boolean, 25, .newarray .boolean), (25, .putfield 18, 28, .putfield 2), (28, .return_, 29, .return_)]
def fv_k1 : List fv_Row := [(0, .aload_n 0, 1, .aload 0), (1, .getfield 22, 4, .getfield 3), (4, .ifCond .lt 15, 7, .ifCond .lt 19), (7, .aload_n 0, 8, .aload 0), (8, .getfield 22, 11, .getfield 3), (11, .aload_n 0, 12, .aload 0), (12, .getfield 18, 15, .getfield 2), (15, .arraylength, 16, .arraylength), (16, .if_icmp .lt 5, 19, .if_icmp .lt 21), (19, .iconst 0, 20, .iconst 0), (20, .ireturn, 21, .ireturn), (21, .aload_n 0, 22, .aload 0), (22, .getfield 9, 25, .getfield 0), (25, .aload_n 0, 26, .aload 0), (26, .getfield 22, 29, .getfield 3), (29, .iload_n 1, 30, .iload 1), (30, .invokestatic 26, 33, .invokestatic 100), (33, .aload_n 0, 34, .aload 0), (34, .getfield 15, 37, .getfield 1), (37, .aload_n 0, 38, .aload 0), (38, .getfield 22, 41, .getfield 3), (41, .iload_n 2, 42, .iload 2), (42, .invokestatic 26, 45, .invokestatic 100), (45, .aload_n 0, 46, .aload 0), (46, .getfield 18, 49, .getfield 2), (49, .aload_n 0, 50, .aload 0), (50, .getfield 22, 53, .getfield 3), (53, .iload_n 3, 54, .iload 3), (54, .bastore, 55, .bastore), (55, .aload_n 0, 56, .aload 0), (56, .dup, 57, .dup), (57, .getfield 22, 60, .getfield 3), (60, .iconst 1, 61, .iconst 1), (61, .iadd, 62, .iadd), (62, .putfield 22, 65, .putfield 3), (65, .iconst 1, 66, .iconst 1), (66, .ireturn, 67, .ireturn)]
def fv_k2 : List fv_Row := [(0, .iconst 0, 1, .iconst 0), (1, .istore_n 1, 2, .istore 1), (2, .iconst 0, 3, .iconst 0), (3, .istore_n 2, 4, .istore 2), (4, .iload_n 2, 5, .iload 2), (5, .aload_n 0, 6, .aload 0), (6, .getfield 22, 9, .getfield 3), (9, .if_icmp .ge 22, 12, .if_icmp .ge 31), (12, .iload_n 1, 13, .iload 1), (13, .aload_n 0, 14, .aload 0), (14, .getfield 15, 17, .getfield 1), (17, .iload_n 2, 18, .iload 2), (18, .invokestatic 30, 21, .invokestatic 99), (21, .invokestatic 34, 24, .dadd), (24, .istore_n 1, 25, .istore 1), (25, .iinc 2 1, 28, .iinc 2 1), (28, .goto (-24), 31, .multianewarray 4 3), (31, .iload_n 1, 32, .iload 1), (32, .ireturn, 33, .ireturn)]
def fv_k3 : List fv_Row := [(0, .iconst 0, 1, .iconst 0), (1, .istore_n 3, 2, .istore 3), (2, .iload_n 3, 3, .iload 3), (3, .aload_n 0, 4, .aload 0), (4, .getfield 22, 7, .getfield 3), (7, .if_icmp .ge 53, 10, .if_icmp .ge 60), (10, .iload_n 3, 11, .iload 3), (11, .aload_n 0, 12, .aload 0), (12, .getfield 18, 15, .getfield 2), (15, .arraylength, 16, .arraylength), (16, .if_icmp .ge 44, 19, .if_icmp .ge 60), (19, .aload_n 0, 20, .aload 0), (20, .getfield 15, 23, .getfield 1), (23, .iload_n 3, 24, .iload 3), (24, .invokestatic 30, 27, .invokestatic 99), (27, .iload_n 1, 28, .iload 1), (28, .if_icmp .ne 26, 31, .if_icmp .ne 54), (31, .iload_n 2, 32, .iload 2), (32, .aload_n 0, 33, .aload 0), (33, .getfield 9, 36, .getfield 0), (36, .iload_n 3, 37, .iload 3), (37, .invokestatic 30, 40, .invokestatic 99), (40, .invokestatic 40, 43, .invokestatic 97), (43, .aload_n 0, 44, .aload 0), (44, .getfield 18, 47, .getfield 2), (47, .iload_n 3, 48, .iload 3), (48, .baload, 49, .baload), (49, .if_icmp .eq 5, 52, .if_icmp .eq 54), (52, .iconst 0, 53, .iconst 0), (53, .ireturn, 54, .ireturn), (54, .iinc 3 1, 57, .iinc 3 1), (57, .goto (-55), 60, .multianewarray 2 4), (60, .iconst 1, 61, .iconst 1), (61, .ireturn, 62, .ireturn)]
def fv_k4 : List fv_Row := [(0, .aload_n 0, 1, .aload 0), (1, .invokespecial 3, 4, .nop), (4, .aload_n 0, 5, .aload 0), (5, .bipush 6, 7, .iconst 6), (7, .newarray .int, 9, .newarray .int), (9, .putfield 9, 12, .putfield 104), (12, .aload_n 0, 13, .aload 0), (13, .bipush 6, 15, .iconst 6), (15, .newarray .int, 17, .newarray .int), (17, .putfield 15, 20, .putfield 105), (20, .aload_n 0, 21, .aload 0), (21, .bipush 8, 23, .iconst 8), (23, .newarray .int, 25, .newarray .int), (25, .putfield 18, 28, .putfield 106), (28, .aload_n 0, 29, .aload 0), (29, .iconst 4, 30, .iconst 4), (30, .newarray .int, 32, .newarray .int), (32, .putfield 21, 35, .putfield 107), (35, .aload_n 0, 36, .aload 0), (36, .iconst 4, 37, .iconst 4), (37, .newarray .int, 39, .newarray .int), (39, .putfield 24, 42, .putfield 108), (42, .aload_n 0, 43, .aload 0), (43, .bipush 24, 45, .iconst 24), (45, .newarray .int, 47, .newarray .int), (47, .putfield 27, 50, .putfield 109), (50, .aload_n 0, 51, .aload 0), (51, .bipush 8, 53, .iconst 8), (53, .newarray .int, 55, .newarray .int), (55, .putfield 30, 58, .putfield 110), (58, .aload_n 0, 59, .aload 0), (59, .bipush 8, 61, .iconst 8), (61, .newarray .int, 63, .newarray .int), (63, .putfield 33, 66, .putfield 111), (66, .aload_n 0, 67, .aload 0), (67, .bipush 8, 69, .iconst 8), (69, .newarray .int, 71, .newarray .int), (71, .putfield 36, 74, .putfield 112), (74, .return_, 75, .return_)]
def fv_k5 : List fv_Row := [(0, .aload_n 0, 1, .aload 0), (1, .iconst 0, 2, .iconst 0), (2, .putfield 39, 5, .putfield 100), (5, .aload_n 0, 6, .aload 0), (6, .iconst 0, 7, .iconst 0), (7, .putfield 43, 10, .putfield 101), (10, .aload_n 0, 11, .aload 0), (11, .iconst 0, 12, .iconst 0), (12, .putfield 46, 15, .putfield 102), (15, .aload_n 0, 16, .aload 0), (16, .iconst 0, 17, .iconst 0), (17, .putfield 49, 20, .putfield 103), (20, .aload_n 0, 21, .aload 0), (21, .getfield 27, 24, .getfield 109), (24, .iconst 0, 25, .iconst 0), (25, .invokestatic 52, 28, .invokestatic 101), (28, .return_, 29, .return_)]
def fv_k6 : List fv_Row := [(0, .aload_n 0, 1, .aload 0), (1, .getfield 39, 4, .getfield 100), (4, .bipush 6, 6, .iconst 6), (6, .if_icmp .ge 22, 9, .if_icmp .ge 28), (9, .iload_n 1, 10, .iload 1), (10, .iconst 0, 11, .iconst 0), (11, .iconst 3, 12, .iconst 3), (12, .invokestatic 56, 15, .invokestatic 96), (15, .ifCond .eq 13, 18, .ifCond .eq 28), (18, .iload_n 2, 19, .iload 2), (19, .iconst 0, 20, .iconst 0), (20, .bipush 9, 22, .iconst 9), (22, .invokestatic 56, 25, .invokestatic 96), (25, .ifCond .ne 5, 28, .ifCond .ne 30), (28, .iconst 0, 29, .iconst 0), (29, .ireturn, 30, .ireturn), (30, .aload_n 0, 31, .aload 0), (31, .getfield 9, 34, .getfield 104), (34, .aload_n 0, 35, .aload 0), (35, .getfield 39, 38, .getfield 100), (38, .iload_n 1, 39, .iload 1), (39, .invokestatic 60, 42, .invokestatic 100), (42, .aload_n 0, 43, .aload 0), (43, .getfield 15, 46, .getfield 105), (46, .aload_n 0, 47, .aload 0), (47, .getfield 39, 50, .getfield 100), (50, .iload_n 2, 51, .iload 2), (51, .invokestatic 60, 54, .invokestatic 100), (54, .aload_n 0, 55, .aload 0), (55, .dup, 56, .dup), (56, .getfield 39, 59, .getfield 100), (59, .iconst 1, 60, .iconst 1), (60, .iadd, 61, .iadd), (61, .putfield 39, 64, .putfield 100), (64, .iconst 1, 65, .iconst 1), (65, .ireturn, 66, .ireturn)]
def fv_k7 : List fv_Row := [(0, .aload_n 0, 1, .aload 0), (1, .getfield 43, 4, .getfield 101), (4, .bipush 8, 6, .iconst 8), (6, .if_icmp .ge 13, 9, .if_icmp .ge 19), (9, .iload_n 1, 10, .iload 1), (10, .iconst 1, 11, .iconst 1), (11, .bipush 63, 13, .iconst 63), (13, .invokestatic 56, 16, .invokestatic 96), (16, .ifCond .ne 5, 19, .ifCond .ne 21), (19, .iconst 0, 20, .iconst 0), (20, .ireturn, 21, .ireturn), (21, .aload_n 0, 22, .aload 0), (22, .getfield 18, 25, .getfield 106), (25, .aload_n 0, 26, .aload 0), (26, .getfield 43, 29, .getfield 101), (29, .iload_n 1, 30, .iload 1), (30, .invokestatic 60, 33, .invokestatic 100), (33, .aload_n 0, 34, .aload 0), (34, .dup, 35, .dup), (35, .getfield 43, 38, .getfield 101), (38, .iconst 1, 39, .iconst 1), (39, .iadd, 40, .iadd), (40, .putfield 43, 43, .putfield 101), (43, .iconst 1, 44, .iconst 1), (44, .ireturn, 45, .ireturn)]
def fv_k8 : List fv_Row := [(0, .aload_n 0, 1, .aload 0), (1, .getfield 46, 4, .getfield 102), (4, .iconst 4, 5, .iconst 4), (5, .if_icmp .ge 13, 8, .if_icmp .ge 18), (8, .iload_n 1, 9, .iload 1), (9, .iconst 0, 10, .iconst 0), (10, .bipush 63, 12, .iconst 63), (12, .invokestatic 56, 15, .invokestatic 96), (15, .ifCond .ne 5, 18, .ifCond .ne 20), (18, .iconst 0, 19, .iconst 0), (19, .ireturn, 20, .ireturn), (20, .aload_n 0, 21, .aload 0), (21, .getfield 21, 24, .getfield 107), (24, .aload_n 0, 25, .aload 0), (25, .getfield 46, 28, .getfield 102), (28, .iload_n 1, 29, .iload 1), (29, .invokestatic 60, 32, .invokestatic 100), (32, .aload_n 0, 33, .aload 0), (33, .dup, 34, .dup), (34, .getfield 46, 37, .getfield 102), (37, .iconst 1, 38, .iconst 1), (38, .iadd, 39, .iadd), (39, .putfield 46, 42, .putfield 102), (42, .iconst 1, 43, .iconst 1), (43, .ireturn, 44, .ireturn)]
def fv_k9 : List fv_Row := [(0, .aload_n 0, 1, .aload 0), (1, .iload_n 1, 2, .iload 1), (2, .iload_n 2, 3, .iload 2), (3, .invokevirtual 64, 6, .invokestatic 11), (6, .ifCond .eq 13, 9, .ifCond .eq 19), (9, .iload_n 3, 10, .iload 3), (10, .iconst 0, 11, .iconst 0), (11, .bipush 30, 13, .iconst 30), (13, .invokestatic 56, 16, .invokestatic 96), (16, .ifCond .ne 5, 19, .ifCond .ne 21), (19, .iconst 0, 20, .iconst 0), (20, .ireturn, 21, .ireturn), (21, .aload_n 0, 22, .aload 0), (22, .getfield 27, 25, .getfield 109), (25, .iload_n 1, 26, .iload 1), (26, .iload_n 2, 27, .iload 2), (27, .invokestatic 68, 30, .invokestatic 104), (30, .iload_n 3, 31, .iload 3), (31, .invokestatic 60, 34, .invokestatic 100), (34, .iconst 1, 35, .iconst 1), (35, .ireturn, 36, .ireturn)]
def fv_k10 : List fv_Row := [(0, .aload_n 0, 1, .aload 0), (1, .getfield 49, 4, .getfield 103), (4, .bipush 8, 6, .iconst 8), (6, .if_icmp .ge 22, 9, .if_icmp .ge 28), (9, .aload_n 0, 10, .aload 0), (10, .iload_n 1, 11, .iload 1), (11, .iload_n 2, 12, .iload 2), (12, .invokevirtual 64, 15, .invokestatic 11), (15, .ifCond .eq 13, 18, .ifCond .eq 28), (18, .iload_n 3, 19, .iload 3), (19, .iconst 1, 20, .iconst 1), (20, .bipush 9, 22, .iconst 9), (22, .invokestatic 56, 25, .invokestatic 96), (25, .ifCond .ne 5, 28, .ifCond .ne 30), (28, .iconst 0, 29, .iconst 0), (29, .ireturn, 30, .ireturn), (30, .aload_n 0, 31, .aload 0), (31, .getfield 30, 34, .getfield 110), (34, .aload_n 0, 35, .aload 0), (35, .getfield 49, 38, .getfield 103), (38, .iload_n 1, 39, .iload 1), (39, .invokestatic 60, 42, .invokestatic 100), (42, .aload_n 0, 43, .aload 0), (43, .getfield 33, 46, .getfield 111), (46, .aload_n 0, 47, .aload 0), (47, .getfield 49, 50, .getfield 103), (50, .iload_n 2, 51, .iload 2), (51, .invokestatic 60, 54, .invokestatic 100), (54, .aload_n 0, 55, .aload 0), (55, .getfield 36, 58, .getfield 112), (58, .aload_n 0, 59, .aload 0), (59, .getfield 49, 62, .getfield 103), (62, .iload_n 3, 63, .iload 3), (63, .invokestatic 60, 66, .invokestatic 100), (66, .aload_n 0, 67, .aload 0), (67, .dup, 68, .dup), (68, .getfield 49, 71, .getfield 103), (71, .iconst 1, 72, .iconst 1), (72, .iadd, 73, .iadd), (73, .putfield 49, 76, .putfield 103), (76, .iconst 1, 77, .iconst 1), (77, .ireturn, 78, .ireturn)]
def fv_k11 : List fv_Row := [(0, .iload_n 1, 1, .iload 1), (1, .ifCond .lt 27, 4, .ifCond .lt 28), (4, .iload_n 1, 5, .iload 1), (5, .aload_n 0, 6, .aload 0), (6, .getfield 46, 9, .getfield 102), (9, .if_icmp .ge 19, 12, .if_icmp .ge 28), (12, .iload_n 2, 13, .iload 2), (13, .ifCond .lt 15, 16, .ifCond .lt 28), (16, .iload_n 2, 17, .iload 2), (17, .aload_n 0, 18, .aload 0), (18, .getfield 39, 21, .getfield 100), (21, .if_icmp .ge 7, 24, .if_icmp .ge 28), (24, .iconst 1, 25, .iconst 1), (25, .goto 4, 28, .goto 29), (28, .iconst 0, 29, .iconst 0), (29, .ireturn, 30, .ireturn)]
def fv_k12 : List fv_Row := [(0, .iconst 1, 1, .iconst 1), (1, .aload_n 0, 2, .aload 0), (2, .getfield 43, 5, .getfield 101), (5, .ishl, 6, .ishl), (6, .iconst 1, 7, .iconst 1), (7, .isub, 8, .isub), (8, .ireturn, 9, .ireturn)]
def fv_k13 : List fv_Row := [(0, .iconst 1, 1, .iconst 1), (1, .aload_n 0, 2, .aload 0), (2, .getfield 49, 5, .getfield 103), (5, .ishl, 6, .ishl), (6, .iconst 1, 7, .iconst 1), (7, .isub, 8, .isub), (8, .ireturn, 9, .ireturn)]
def fv_k14 : List fv_Row := [(0, .aload_n 0, 1, .aload 0), (1, .getfield 18, 4, .getfield 106), (4, .iload_n 1, 5, .iload 1), (5, .invokestatic 72, 8, .invokestatic 99), (8, .iconst 1, 9, .iconst 1), (9, .aload_n 0, 10, .aload 0), (10, .getfield 39, 13, .getfield 100), (13, .ishl, 14, .ishl), (14, .iconst 1, 15, .iconst 1), (15, .isub, 16, .isub), (16, .iand, 17, .iand), (17, .ireturn, 18, .ireturn)]
def fv_k15 : List fv_Row := [(0, .aload_n 0, 1, .aload 0), (1, .getfield 21, 4, .getfield 107), (4, .iload_n 1, 5, .iload 1), (5, .invokestatic 72, 8, .invokestatic 99), (8, .sipush 192, 11, .iconst 192), (11, .ior, 12, .ior), (12, .aload_n 0, 13, .aload 0), (13, .invokevirtual 76, 16, .invokestatic 12), (16, .iand, 17, .iand), (17, .ireturn, 18, .ireturn)]
def fv_k16 : List fv_Row := [(0, .iconst 1, 1, .iconst 1), (1, .aload_n 0, 2, .aload 0), (2, .getfield 39, 5, .getfield 100), (5, .ishl, 6, .ishl), (6, .iconst 1, 7, .iconst 1), (7, .isub, 8, .isub), (8, .istore_n 2, 9, .istore 2), (9, .iconst 0, 10, .iconst 0), (10, .istore_n 3, 11, .istore 3), (11, .iload_n 3, 12, .iload 3), (12, .aload_n 0, 13, .aload 0), (13, .getfield 43, 16, .getfield 101), (16, .if_icmp .ge 25, 19, .if_icmp .ge 41), (19, .iload_n 1, 20, .iload 1), (20, .iload_n 3, 21, .iload 3), (21, .invokestatic 80, 24, .invokestatic 97), (24, .ifCond .eq 11, 27, .ifCond .eq 35), (27, .iload_n 2, 28, .iload 2), (28, .aload_n 0, 29, .aload 0), (29, .iload_n 3, 30, .iload 3), (30, .invokevirtual 83, 33, .invokestatic 14), (33, .iand, 34, .iand), (34, .istore_n 2, 35, .istore 2), (35, .iinc 3 1, 38, .iinc 3 1), (38, .goto (-27), 41, .multianewarray 11 4), (41, .iload_n 2, 42, .iload 2), (42, .ireturn, 43, .ireturn)]
def fv_k17 : List fv_Row := [(0, .aload_n 0, 1, .aload 0), (1, .getfield 24, 4, .getfield 108), (4, .iconst 0, 5, .iconst 0), (5, .invokestatic 52, 8, .invokestatic 101), (8, .iconst 1, 9, .iconst 1), (9, .istore_n 1, 10, .istore 1), (10, .iload_n 1, 11, .iload 1), (11, .aload_n 0, 12, .aload 0), (12, .invokevirtual 76, 15, .invokestatic 12), (15, .if_icmp .gt 29, 18, .if_icmp .gt 44), (18, .aload_n 0, 19, .aload 0), (19, .iload_n 1, 20, .iload 1), (20, .invokevirtual 87, 23, .invokestatic 16), (23, .istore_n 2, 24, .istore 2), (24, .iload_n 2, 25, .iload 2), (25, .invokestatic 90, 28, .invokestatic 167), (28, .iconst 1, 29, .iconst 1), (29, .if_icmp .ne 9, 32, .if_icmp .ne 38), (32, .aload_n 0, 33, .aload 0), (33, .iload_n 1, 34, .iload 1), (34, .iload_n 2, 35, .iload 2), (35, .invokevirtual 95, 38, .invokestatic 18), (38, .iinc 1 1, 41, .iinc 1 1), (41, .goto (-31), 44, .multianewarray 10 2), (44, .return_, 45, .return_)]
def fv_k18 : List fv_Row := [(0, .iconst 0, 1, .iconst 0), (1, .istore_n 3, 2, .istore 3), (2, .iload_n 3, 3, .iload 3), (3, .aload_n 0, 4, .aload 0), (4, .getfield 46, 7, .getfield 102), (7, .if_icmp .ge 39, 10, .if_icmp .ge 46), (10, .iload_n 1, 11, .iload 1), (11, .aload_n 0, 12, .aload 0), (12, .iload_n 3, 13, .iload 3), (13, .invokevirtual 99, 16, .invokestatic 15), (16, .iconst (-1), 17, .iconst (-1)), (17, .ixor, 18, .ixor), (18, .iand, 19, .iand), (19, .ifCond .ne 21, 22, .ifCond .ne 40), (22, .aload_n 0, 23, .aload 0), (23, .getfield 24, 26, .getfield 108), (26, .iload_n 3, 27, .iload 3), (27, .aload_n 0, 28, .aload 0), (28, .getfield 24, 31, .getfield 108), (31, .iload_n 3, 32, .iload 3), (32, .invokestatic 72, 35, .invokestatic 99), (35, .iload_n 2, 36, .iload 2), (36, .ior, 37, .ior), (37, .invokestatic 60, 40, .invokestatic 100), (40, .iinc 3 1, 43, .iinc 3 1), (43, .goto (-41), 46, .multianewarray 2 4), (46, .return_, 47, .return_)]
def fv_k19 : List fv_Row := [(0, .aload_n 0, 1, .aload 0), (1, .getfield 24, 4, .getfield 108), (4, .iload_n 1, 5, .iload 1), (5, .invokestatic 72, 8, .invokestatic 99), (8, .iload_n 2, 9, .iload 2), (9, .invokestatic 80, 12, .invokestatic 97), (12, .ireturn, 13, .ireturn)]
def fv_k20 : List fv_Row := [(0, .aload_n 0, 1, .aload 0), (1, .iload_n 1, 2, .iload 1), (2, .invokevirtual 99, 5, .invokestatic 15), (5, .istore_n 3, 6, .istore 3), (6, .bipush (-4), 8, .iconst (-4)), (8, .istore 4, 10, .istore 4), (10, .iconst 1, 11, .iconst 1), (11, .istore 5, 13, .istore 5), (13, .iload 5, 15, .iload 5), (15, .aload_n 0, 16, .aload 0), (16, .invokevirtual 76, 19, .invokestatic 12), (19, .if_icmp .gt 54, 22, .if_icmp .gt 73), (22, .iload 5, 24, .iload 5), (24, .iload_n 3, 25, .iload 3), (25, .iconst (-1), 26, .iconst (-1)), (26, .ixor, 27, .ixor), (27, .iand, 28, .iand), (28, .ifCond .ne 39, 31, .ifCond .ne 67), (31, .aload_n 0, 32, .aload 0), (32, .iload 5, 34, .iload 5), (34, .invokevirtual 87, 37, .invokestatic 16), (37, .iconst 1, 38, .iconst 1), (38, .iload_n 2, 39, .iload 2), (39, .ishl, 40, .ishl), (40, .if_icmp .ne 27, 43, .if_icmp .ne 67), (43, .iload 4, 45, .iload 4), (45, .bipush (-4), 47, .iconst (-4)), (47, .if_icmp .eq 16, 50, .if_icmp .eq 63), (50, .iload 5, 52, .iload 5), (52, .invokestatic 90, 55, .invokestatic 167), (55, .iload 4, 57, .iload 4), (57, .invokestatic 90, 60, .invokestatic 167), (60, .if_icmp .ge 7, 63, .if_icmp .ge 67), (63, .iload 5, 65, .iload 5), (65, .istore 4, 67, .istore 4), (67, .iinc 5 1, 70, .iinc 5 1), (70, .goto (-57), 73, .multianewarray 13 6), (73, .iload 4, 75, .iload 4), (75, .ireturn, 76, .ireturn)]
def fv_k21 : List fv_Row := [(0, .iconst 0, 1, .iconst 0), (1, .istore_n 2, 2, .istore 2), (2, .iconst 0, 3, .iconst 0), (3, .istore_n 3, 4, .istore 3), (4, .iload_n 3, 5, .iload 3), (5, .aload_n 0, 6, .aload 0), (6, .getfield 49, 9, .getfield 103), (9, .if_icmp .ge 31, 12, .if_icmp .ge 40), (12, .iload_n 2, 13, .iload 2), (13, .aload_n 0, 14, .aload 0), (14, .getfield 30, 17, .getfield 110), (17, .iload_n 3, 18, .iload 3), (18, .invokestatic 72, 21, .invokestatic 99), (21, .iload_n 1, 22, .iload 1), (22, .if_icmp .ne 9, 25, .if_icmp .ne 31), (25, .iconst 1, 26, .iconst 1), (26, .iload_n 3, 27, .iload 3), (27, .ishl, 28, .ishl), (28, .goto 4, 31, .goto 32), (31, .iconst 0, 32, .iconst 0), (32, .ior, 33, .ior), (33, .istore_n 2, 34, .istore 2), (34, .iinc 3 1, 37, .iinc 3 1), (37, .goto (-33), 40, .multianewarray 4 4), (40, .iload_n 2, 41, .iload 2), (41, .ireturn, 42, .ireturn)]
def fv_k22 : List fv_Row := [(0, .iconst 0, 1, .iconst 0), (1, .istore_n 3, 2, .istore 3), (2, .iconst 1, 3, .iconst 1), (3, .istore 4, 5, .istore 4), (5, .iload 4, 7, .iload 4), (7, .bipush 9, 9, .iconst 9), (9, .if_icmp .gt 20, 12, .if_icmp .gt 29), (12, .iload_n 3, 13, .iload 3), (13, .aload_n 0, 14, .aload 0), (14, .iload_n 1, 15, .iload 1), (15, .iload_n 2, 16, .iload 2), (16, .iload 4, 18, .iload 4), (18, .invokevirtual 102, 21, .invokestatic 23), (21, .iadd, 22, .iadd), (22, .istore_n 3, 23, .istore 3), (23, .iinc 4 1, 26, .iinc 4 1), (26, .goto (-21), 29, .multianewarray 5 5), (29, .iload_n 3, 30, .iload 3), (30, .ireturn, 31, .ireturn)]
def fv_k23 : List fv_Row := [(0, .iconst 0, 1, .iconst 0), (1, .istore 4, 3, .istore 4), (3, .iconst 0, 4, .iconst 0), (4, .istore 5, 6, .istore 5), (6, .iload 5, 8, .iload 5), (8, .aload_n 0, 9, .aload 0), (9, .getfield 49, 12, .getfield 103), (12, .if_icmp .ge 51, 15, .if_icmp .ge 63), (15, .aload_n 0, 16, .aload 0), (16, .getfield 30, 19, .getfield 110), (19, .iload 5, 21, .iload 5), (21, .invokestatic 72, 24, .invokestatic 99), (24, .iload_n 1, 25, .iload 1), (25, .if_icmp .ne 32, 28, .if_icmp .ne 57), (28, .aload_n 0, 29, .aload 0), (29, .getfield 33, 32, .getfield 111), (32, .iload 5, 34, .iload 5), (34, .invokestatic 72, 37, .invokestatic 99), (37, .iload_n 2, 38, .iload 2), (38, .if_icmp .ne 19, 41, .if_icmp .ne 57), (41, .aload_n 0, 42, .aload 0), (42, .getfield 36, 45, .getfield 112), (45, .iload 5, 47, .iload 5), (47, .invokestatic 72, 50, .invokestatic 99), (50, .iload_n 3, 51, .iload 3), (51, .if_icmp .ne 6, 54, .if_icmp .ne 57), (54, .iinc 4 1, 57, .iinc 4 1), (57, .iinc 5 1, 60, .iinc 5 1), (60, .goto (-54), 63, .multianewarray 6 6), (63, .iload 4, 65, .iload 4), (65, .ireturn, 66, .ireturn)]
def fv_k24 : List fv_Row := [(0, .aload_n 0, 1, .aload 0), (1, .invokespecial 1, 4, .nop), (4, .aload_n 0, 5, .aload 0), (5, .aload_n 1, 6, .aload 1), (6, .putfield 7, 9, .putfield 200), (9, .iconst 0, 10, .iconst 0), (10, .istore_n 2, 11, .istore 2), (11, .iload_n 2, 12, .iload 2), (12, .aload_n 1, 13, .aload 1), (13, .arraylength, 14, .arraylength), (14, .if_icmp .ge 19, 17, .if_icmp .ge 33), (17, .aload_n 1, 18, .aload 1), (18, .iload_n 2, 19, .iload 2), (19, .new 13, 22, .new 3), (22, .dup, 23, .dup), (23, .invokespecial 15, 26, .invokestatic 27), (26, .aastore, 27, .aastore), (27, .iinc 2 1, 30, .iinc 2 1), (30, .goto (-19), 33, .multianewarray 11 3), (33, .return_, 34, .return_)]
def fv_k25 : List fv_Row := [(0, .aload_n 0, 1, .aload 0), (1, .getfield 16, 4, .getfield 202), (4, .ifCond .lt 86, 7, .ifCond .lt 90), (7, .aload_n 0, 8, .aload 0), (8, .getfield 16, 11, .getfield 202), (11, .aload_n 0, 12, .aload 0), (12, .getfield 7, 15, .getfield 200), (15, .arraylength, 16, .arraylength), (16, .if_icmp .ge 74, 19, .if_icmp .ge 90), (19, .aload_n 0, 20, .aload 0), (20, .getfield 7, 23, .getfield 200), (23, .aload_n 0, 24, .aload 0), (24, .getfield 16, 27, .getfield 202), (27, .aaload, 28, .aaload), (28, .ifnull 62, 31, .ifnull 90), (31, .aload_n 0, 32, .aload 0), (32, .getfield 7, 35, .getfield 200), (35, .aload_n 0, 36, .aload 0), (36, .getfield 16, 39, .getfield 202), (39, .aaload, 40, .aaload), (40, .aload_n 1, 41, .aload 1), (41, .invokevirtual 20, 44, .invokestatic 29), (44, .aload_n 0, 45, .aload 0), (45, .aload_n 0, 46, .aload 0), (46, .getfield 16, 49, .getfield 202), (49, .iconst 1, 50, .iconst 1), (50, .iadd, 51, .iadd), (51, .aload_n 0, 52, .aload 0), (52, .getfield 7, 55, .getfield 200), (55, .arraylength, 56, .arraylength), (56, .if_icmp .ge 12, 59, .if_icmp .ge 68), (59, .aload_n 0, 60, .aload 0), (60, .getfield 16, 63, .getfield 202), (63, .iconst 1, 64, .iconst 1), (64, .iadd, 65, .iadd), (65, .goto 4, 68, .goto 69), (68, .iconst 0, 69, .iconst 0), (69, .putfield 16, 72, .putfield 202), (72, .aload_n 0, 73, .aload 0), (73, .aload_n 0, 74, .aload 0), (74, .getfield 24, 77, .getfield 201), (77, .iconst 1, 78, .iconst 1), (78, .iadd, 79, .iadd), (79, .aload_n 0, 80, .aload 0), (80, .getfield 7, 83, .getfield 200), (83, .arraylength, 84, .arraylength), (84, .invokestatic 27, 87, .dsub), (87, .putfield 24, 90, .putfield 201), (90, .return_, 91, .return_)]
def fv_k26 : List fv_Row := [(0, .aload_n 0, 1, .aload 0), (1, .getfield 16, 4, .getfield 202), (4, .ifCond .le 12, 7, .ifCond .le 16), (7, .aload_n 0, 8, .aload 0), (8, .getfield 16, 11, .getfield 202), (11, .iconst 1, 12, .iconst 1), (12, .isub, 13, .isub), (13, .goto 10, 16, .goto 23), (16, .aload_n 0, 17, .aload 0), (17, .getfield 7, 20, .getfield 200), (20, .arraylength, 21, .arraylength), (21, .iconst 1, 22, .iconst 1), (22, .isub, 23, .isub), (23, .istore_n 2, 24, .istore 2), (24, .aload_n 0, 25, .aload 0), (25, .getfield 24, 28, .getfield 201), (28, .ifCond .le 25, 31, .ifCond .le 53), (31, .iload_n 2, 32, .iload 2), (32, .ifCond .lt 21, 35, .ifCond .lt 53), (35, .iload_n 2, 36, .iload 2), (36, .aload_n 0, 37, .aload 0), (37, .getfield 7, 40, .getfield 200), (40, .arraylength, 41, .arraylength), (41, .if_icmp .ge 12, 44, .if_icmp .ge 53), (44, .aload_n 0, 45, .aload 0), (45, .getfield 7, 48, .getfield 200), (48, .iload_n 2, 49, .iload 2), (49, .aaload, 50, .aaload), (50, .ifnonnull 5, 53, .ifnonnull 55), (53, .iconst 0, 54, .iconst 0), (54, .ireturn, 55, .ireturn), (55, .aload_n 1, 56, .aload 1), (56, .aload_n 0, 57, .aload 0), (57, .getfield 7, 60, .getfield 200), (60, .iload_n 2, 61, .iload 2), (61, .aaload, 62, .aaload), (62, .invokevirtual 20, 65, .invokestatic 29), (65, .aload_n 0, 66, .aload 0), (66, .iload_n 2, 67, .iload 2), (67, .putfield 16, 70, .putfield 202), (70, .aload_n 0, 71, .aload 0), (71, .dup, 72, .dup), (72, .getfield 24, 75, .getfield 201), (75, .iconst 1, 76, .iconst 1), (76, .isub, 77, .isub), (77, .putfield 24, 80, .putfield 201), (80, .iconst 1, 81, .iconst 1), (81, .ireturn, 82, .ireturn)]
def fv_k27 : List fv_Row := [(0, .aload_n 0, 1, .aload 0), (1, .invokespecial 3, 4, .nop), (4, .aload_n 0, 5, .aload 0), (5, .bipush 24, 7, .iconst 24), (7, .newarray .int, 9, .newarray .int), (9, .putfield 9, 12, .putfield 301), (12, .aload_n 0, 13, .aload 0), (13, .iconst 4, 14, .iconst 4), (14, .newarray .int, 16, .newarray .int), (16, .putfield 15, 19, .putfield 302), (19, .aload_n 0, 20, .aload 0), (20, .bipush 8, 22, .iconst 8), (22, .newarray .int, 24, .newarray .int), (24, .putfield 18, 27, .putfield 303), (27, .aload_n 0, 28, .aload 0), (28, .bipush 8, 30, .iconst 8), (30, .newarray .int, 32, .newarray .int), (32, .putfield 21, 35, .putfield 304), (35, .return_, 36, .return_)]
def fv_k28 : List fv_Row := [(0, .aload_n 0, 1, .aload 0), (1, .iconst 0, 2, .iconst 0), (2, .putfield 24, 5, .putfield 300), (5, .aload_n 1, 6, .aload 1), (6, .getfield 28, 9, .getfield 109), (9, .aload_n 0, 10, .aload 0), (10, .getfield 9, 13, .getfield 301), (13, .invokestatic 31, 16, .invokestatic 102), (16, .aload_n 0, 17, .aload 0), (17, .getfield 15, 20, .getfield 302), (20, .bipush (-4), 22, .iconst (-4)), (22, .invokestatic 35, 25, .invokestatic 101), (25, .aload_n 0, 26, .aload 0), (26, .getfield 18, 29, .getfield 303), (29, .iconst 0, 30, .iconst 0), (30, .invokestatic 35, 33, .invokestatic 101), (33, .aload_n 0, 34, .aload 0), (34, .getfield 21, 37, .getfield 304), (37, .iconst 0, 38, .iconst 0), (38, .invokestatic 35, 41, .invokestatic 101), (41, .return_, 42, .return_)]
def fv_k29 : List fv_Row := [(0, .aload_n 0, 1, .aload 0), (1, .aload_n 1, 2, .aload 1), (2, .getfield 24, 5, .getfield 300), (5, .putfield 24, 8, .putfield 300), (8, .aload_n 1, 9, .aload 1), (9, .getfield 9, 12, .getfield 301), (12, .aload_n 0, 13, .aload 0), (13, .getfield 9, 16, .getfield 301), (16, .invokestatic 31, 19, .invokestatic 102), (19, .aload_n 1, 20, .aload 1), (20, .getfield 15, 23, .getfield 302), (23, .aload_n 0, 24, .aload 0), (24, .getfield 15, 27, .getfield 302), (27, .invokestatic 31, 30, .invokestatic 102), (30, .aload_n 1, 31, .aload 1), (31, .getfield 18, 34, .getfield 303), (34, .aload_n 0, 35, .aload 0), (35, .getfield 18, 38, .getfield 303), (38, .invokestatic 31, 41, .invokestatic 102), (41, .aload_n 1, 42, .aload 1), (42, .getfield 21, 45, .getfield 304), (45, .aload_n 0, 46, .aload 0), (46, .getfield 21, 49, .getfield 304), (49, .invokestatic 31, 52, .invokestatic 102), (52, .return_, 53, .return_)]
def fv_k30 : List fv_Row := [(0, .aload_n 0, 1, .aload 0), (1, .getfield 9, 4, .getfield 301), (4, .iload_n 1, 5, .iload 1), (5, .iload_n 2, 6, .iload 2), (6, .invokestatic 39, 9, .invokestatic 104), (9, .invokestatic 43, 12, .invokestatic 99), (12, .ireturn, 13, .ireturn)]
def fv_k31 : List fv_Row := [(0, .aload_n 0, 1, .aload 0), (1, .getfield 9, 4, .getfield 301), (4, .iload_n 1, 5, .iload 1), (5, .iload_n 2, 6, .iload 2), (6, .invokestatic 39, 9, .invokestatic 104), (9, .iload_n 3, 10, .iload 3), (10, .invokestatic 47, 13, .invokestatic 100), (13, .return_, 14, .return_)]
def fv_k32 : List fv_Row := [(0, .aload_n 0, 1, .aload 0), (1, .iload_n 1, 2, .iload 1), (2, .iload_n 3, 3, .iload 3), (3, .aload_n 0, 4, .aload 0), (4, .iload_n 1, 5, .iload 1), (5, .iload_n 3, 6, .iload 3), (6, .invokevirtual 51, 9, .invokestatic 30), (9, .iload 4, 11, .iload 4), (11, .isub, 12, .isub), (12, .invokevirtual 54, 15, .invokestatic 31), (15, .aload_n 0, 16, .aload 0), (16, .iload_n 2, 17, .iload 2), (17, .iload_n 3, 18, .iload 3), (18, .aload_n 0, 19, .aload 0), (19, .iload_n 2, 20, .iload 2), (20, .iload_n 3, 21, .iload 3), (21, .invokevirtual 51, 24, .invokestatic 30), (24, .iload 4, 26, .iload 4), (26, .iadd, 27, .iadd), (27, .invokevirtual 54, 30, .invokestatic 31), (30, .return_, 31, .return_)]
def fv_k33 : List fv_Row := [(0, .aload_n 0, 1, .aload 0), (1, .getfield 24, 4, .getfield 300), (4, .iconst 2, 5, .iconst 2), (5, .irem, 6, .irem), (6, .iconst 1, 7, .iconst 1), (7, .if_icmp .ne 7, 10, .if_icmp .ne 14), (10, .iconst 1, 11, .iconst 1), (11, .goto 4, 14, .goto 15), (14, .iconst 0, 15, .iconst 0), (15, .ireturn, 16, .ireturn)]
def fv_k34 : List fv_Row := [(0, .aload_n 0, 1, .aload 0), (1, .getfield 15, 4, .getfield 302), (4, .iload_n 2, 5, .iload 2), (5, .invokestatic 43, 8, .invokestatic 99), (8, .bipush (-4), 10, .iconst (-4)), (10, .if_icmp .eq 6, 13, .if_icmp .eq 16), (13, .bipush (-4), 15, .iconst (-4)), (15, .ireturn, 16, .ireturn), (16, .aload_n 0, 17, .aload 0), (17, .iload_n 2, 18, .iload 2), (18, .iload_n 3, 19, .iload 3), (19, .invokevirtual 51, 22, .invokestatic 30), (22, .iconst 1, 23, .iconst 1), (23, .if_icmp .lt 5, 26, .if_icmp .lt 28), (26, .iload_n 3, 27, .iload 3), (27, .ireturn, 28, .ireturn), (28, .iconst 0, 29, .iconst 0), (29, .istore 4, 31, .istore 4), (31, .iload 4, 33, .iload 4), (33, .aload_n 1, 34, .aload 1), (34, .getfield 58, 37, .getfield 100), (37, .if_icmp .ge 36, 40, .if_icmp .ge 73), (40, .aload_n 1, 41, .aload 1), (41, .getfield 61, 44, .getfield 104), (44, .iload 4, 46, .iload 4), (46, .invokestatic 43, 49, .invokestatic 99), (49, .iconst 1, 50, .iconst 1), (50, .if_icmp .ne 17, 53, .if_icmp .ne 67), (53, .aload_n 0, 54, .aload 0), (54, .iload_n 2, 55, .iload 2), (55, .iload 4, 57, .iload 4), (57, .invokevirtual 51, 60, .invokestatic 30), (60, .iconst 2, 61, .iconst 2), (61, .if_icmp .lt 6, 64, .if_icmp .lt 67), (64, .iload 4, 66, .iload 4), (66, .ireturn, 67, .ireturn), (67, .iinc 4 1, 70, .iinc 4 1), (70, .goto (-39), 73, .multianewarray 31 5), (73, .bipush (-4), 75, .iconst (-4)), (75, .ireturn, 76, .ireturn)]
def fv_k35 : List fv_Row := [(0, .iconst 0, 1, .iconst 0), (1, .istore_n 2, 2, .istore 2), (2, .iconst 0, 3, .iconst 0), (3, .istore_n 3, 4, .istore 3), (4, .iload_n 3, 5, .iload 3), (5, .aload_n 1, 6, .aload 1), (6, .getfield 64, 9, .getfield 103), (9, .if_icmp .ge 63, 12, .if_icmp .ge 72), (12, .aload_n 0, 13, .aload 0), (13, .aload_n 1, 14, .aload 1), (14, .iload_n 3, 15, .iload 3), (15, .invokevirtual 67, 18, .invokestatic 36), (18, .ifCond .eq 30, 21, .ifCond .eq 48), (21, .iload_n 2, 22, .iload 2), (22, .iconst 1, 23, .iconst 1), (23, .iload_n 3, 24, .iload 3), (24, .ishl, 25, .ishl), (25, .ior, 26, .ior), (26, .istore_n 2, 27, .istore 2), (27, .aload_n 0, 28, .aload 0), (28, .getfield 18, 31, .getfield 303), (31, .iload_n 3, 32, .iload 3), (32, .aload_n 0, 33, .aload 0), (33, .getfield 18, 36, .getfield 303), (36, .iload_n 3, 37, .iload 3), (37, .invokestatic 43, 40, .invokestatic 99), (40, .iconst 1, 41, .iconst 1), (41, .iadd, 42, .iadd), (42, .invokestatic 47, 45, .invokestatic 100), (45, .goto 21, 48, .goto 66), (48, .aload_n 0, 49, .aload 0), (49, .getfield 21, 52, .getfield 304), (52, .iload_n 3, 53, .iload 3), (53, .aload_n 0, 54, .aload 0), (54, .getfield 21, 57, .getfield 304), (57, .iload_n 3, 58, .iload 3), (58, .invokestatic 43, 61, .invokestatic 99), (61, .iconst 1, 62, .iconst 1), (62, .iadd, 63, .iadd), (63, .invokestatic 47, 66, .invokestatic 100), (66, .iinc 3 1, 69, .iinc 3 1), (69, .goto (-65), 72, .multianewarray 4 4), (72, .iconst 0, 73, .iconst 0), (73, .istore_n 3, 74, .istore 3), (74, .iload_n 3, 75, .iload 3), (75, .aload_n 1, 76, .aload 1), (76, .getfield 71, 79, .getfield 102), (79, .if_icmp .ge 15, 82, .if_icmp .ge 94), (82, .aload_n 0, 83, .aload 0), (83, .aload_n 1, 84, .aload 1), (84, .iload_n 3, 85, .iload 3), (85, .invokevirtual 74, 88, .invokestatic 38), (88, .iinc 3 1, 91, .iinc 3 1), (91, .goto (-17), 94, .multianewarray 74 4), (94, .aload_n 0, 95, .aload 0), (95, .invokevirtual 78, 98, .invokestatic 39), (98, .aload_n 0, 99, .aload 0), (99, .dup, 100, .dup), (100, .getfield 24, 103, .getfield 300), (103, .iconst 1, 104, .iconst 1), (104, .iadd, 105, .iadd), (105, .putfield 24, 108, .putfield 300), (108, .iload_n 2, 109, .iload 2), (109, .ireturn, 110, .ireturn)]
def fv_k36 : List fv_Row := [(0, .aload_n 1, 1, .aload 1), (1, .getfield 81, 4, .getfield 110), (4, .iload_n 2, 5, .iload 2), (5, .invokestatic 43, 8, .invokestatic 99), (8, .istore_n 3, 9, .istore 3), (9, .aload_n 1, 10, .aload 1), (10, .getfield 84, 13, .getfield 111), (13, .iload_n 2, 14, .iload 2), (14, .invokestatic 43, 17, .invokestatic 99), (17, .istore 4, 19, .istore 4), (19, .aload_n 0, 20, .aload 0), (20, .iload_n 3, 21, .iload 3), (21, .iload 4, 23, .iload 4), (23, .invokevirtual 51, 26, .invokestatic 30), (26, .istore 5, 28, .istore 5), (28, .iload 5, 30, .iload 5), (30, .ifCond .ne 11, 33, .ifCond .ne 41), (33, .aload_n 1, 34, .aload 1), (34, .iload_n 3, 35, .iload 3), (35, .iload 4, 37, .iload 4), (37, .invokevirtual 87, 40, .invokestatic 19), (40, .ireturn, 41, .ireturn), (41, .aload_n 0, 42, .aload 0), (42, .iload_n 3, 43, .iload 3), (43, .iload 4, 45, .iload 4), (45, .iload 5, 47, .iload 5), (47, .aload_n 0, 48, .aload 0), (48, .aload_n 1, 49, .aload 1), (49, .getfield 61, 52, .getfield 104), (52, .iload 4, 54, .iload 4), (54, .invokestatic 43, 57, .invokestatic 99), (57, .iload 5, 59, .iload 5), (59, .invokevirtual 91, 62, .invokestatic 37), (62, .isub, 63, .isub), (63, .invokevirtual 54, 66, .invokestatic 31), (66, .iconst 1, 67, .iconst 1), (67, .ireturn, 68, .ireturn)]
def fv_k37 : List fv_Row := [(0, .iload_n 1, 1, .iload 1), (1, .iconst 1, 2, .iconst 1), (2, .if_icmp .ne 16, 5, .if_icmp .ne 18), (5, .aload_n 0, 6, .aload 0), (6, .invokevirtual 94, 9, .invokestatic 33), (9, .ifCond .eq 7, 12, .ifCond .eq 16), (12, .iconst 1, 13, .iconst 1), (13, .goto 4, 16, .goto 17), (16, .iconst 0, 17, .iconst 0), (17, .ireturn, 18, .ireturn), (18, .iload_n 1, 19, .iload 1), (19, .iconst 3, 20, .iconst 3), (20, .if_icmp .ne 12, 23, .if_icmp .ne 32), (23, .iload_n 2, 24, .iload 2), (24, .iconst 2, 25, .iconst 2), (25, .if_icmp .lt 7, 28, .if_icmp .lt 32), (28, .iconst 2, 29, .iconst 2), (29, .goto 4, 32, .goto 33), (32, .iconst 1, 33, .iconst 1), (33, .ireturn, 34, .ireturn)]
def fv_k38 : List fv_Row := [(0, .aload_n 0, 1, .aload 0), (1, .getfield 15, 4, .getfield 302), (4, .iload_n 2, 5, .iload 2), (5, .invokestatic 43, 8, .invokestatic 99), (8, .istore_n 3, 9, .istore 3), (9, .iload_n 3, 10, .iload 3), (10, .bipush (-4), 12, .iconst (-4)), (12, .if_icmp .ne 4, 15, .if_icmp .ne 16), (15, .return_, 16, .return_), (16, .aload_n 1, 17, .aload 1), (17, .getfield 98, 20, .getfield 105), (20, .iload_n 3, 21, .iload 3), (21, .invokestatic 43, 24, .invokestatic 99), (24, .aload_n 1, 25, .aload 1), (25, .getfield 61, 28, .getfield 104), (28, .iload_n 3, 29, .iload 3), (29, .invokestatic 43, 32, .invokestatic 99), (32, .iconst 2, 33, .iconst 2), (33, .if_icmp .ne 7, 36, .if_icmp .ne 40), (36, .iconst 2, 37, .iconst 2), (37, .goto 4, 40, .goto 41), (40, .iconst 1, 41, .iconst 1), (41, .imul, 42, .imul), (42, .istore 4, 44, .istore 4), (44, .aload_n 0, 45, .aload 0), (45, .iload_n 2, 46, .iload 2), (46, .iload_n 3, 47, .iload 3), (47, .bipush 60, 49, .iconst 60), (49, .aload_n 0, 50, .aload 0), (50, .iload_n 2, 51, .iload 2), (51, .iload_n 3, 52, .iload 3), (52, .invokevirtual 51, 55, .invokestatic 30), (55, .iload 4, 57, .iload 4), (57, .iadd, 58, .iadd), (58, .invokestatic 101, 61, .dsub), (61, .invokevirtual 54, 64, .invokestatic 31), (64, .aload_n 0, 65, .aload 0), (65, .getfield 15, 68, .getfield 302), (68, .iload_n 2, 69, .iload 2), (69, .bipush (-4), 71, .iconst (-4)), (71, .invokestatic 47, 74, .invokestatic 100), (74, .return_, 75, .return_)]
def fv_k39 : List fv_Row := [(0, .iconst 0, 1, .iconst 0), (1, .istore_n 1, 2, .istore 1), (2, .iload_n 1, 3, .iload 1), (3, .aload_n 0, 4, .aload 0), (4, .getfield 9, 7, .getfield 301), (7, .arraylength, 8, .arraylength), (8, .if_icmp .ge 38, 11, .if_icmp .ge 46), (11, .aload_n 0, 12, .aload 0), (12, .getfield 9, 15, .getfield 301), (15, .iload_n 1, 16, .iload 1), (16, .iaload, 17, .iaload), (17, .bipush 40, 19, .iconst 40), (19, .if_icmp .lt 21, 22, .if_icmp .lt 40), (22, .aload_n 0, 23, .aload 0), (23, .getfield 9, 26, .getfield 301), (26, .iload_n 1, 27, .iload 1), (27, .dup2, 28, .dup2), (28, .iaload, 29, .iaload), (29, .aload_n 0, 30, .aload 0), (30, .getfield 9, 33, .getfield 301), (33, .iload_n 1, 34, .iload 1), (34, .iaload, 35, .iaload), (35, .bipush 10, 37, .iconst 10), (37, .idiv, 38, .idiv), (38, .isub, 39, .isub), (39, .iastore, 40, .iastore), (40, .iinc 1 1, 43, .iinc 1 1), (43, .goto (-41), 46, .multianewarray 2 2), (46, .return_, 47, .return_)]
def fv_k40 : List fv_Row := [(0, .aload_n 0, 1, .aload 0), (1, .invokespecial 3, 4, .nop), (4, .aload_n 0, 5, .aload 0), (5, .sipush 200, 8, .iconst 200), (8, .newarray .char, 10, .newarray .char), (10, .putfield 9, 13, .putfield 400), (13, .aload_n 0, 14, .aload 0), (14, .iconst 3, 15, .iconst 3), (15, .newarray .int, 17, .newarray .int), (17, .putfield 15, 20, .putfield 401), (20, .return_, 21, .return_)]
def fv_k41 : List fv_Row := [(0, .aload_n 0, 1, .aload 0), (1, .getfield 19, 4, .getfield 402), (4, .ifCond .lt 15, 7, .ifCond .lt 19), (7, .aload_n 0, 8, .aload 0), (8, .getfield 19, 11, .getfield 402), (11, .aload_n 0, 12, .aload 0), (12, .getfield 9, 15, .getfield 400), (15, .arraylength, 16, .arraylength), (16, .if_icmp .lt 5, 19, .if_icmp .lt 21), (19, .iconst 0, 20, .iconst 0), (20, .ireturn, 21, .ireturn), (21, .aload_n 0, 22, .aload 0), (22, .getfield 9, 25, .getfield 400), (25, .aload_n 0, 26, .aload 0), (26, .getfield 19, 29, .getfield 402), (29, .iload_n 1, 30, .iload 1), (30, .i2c, 31, .i2c), (31, .castore, 32, .castore), (32, .aload_n 0, 33, .aload 0), (33, .dup, 34, .dup), (34, .getfield 19, 37, .getfield 402), (37, .iconst 1, 38, .iconst 1), (38, .iadd, 39, .iadd), (39, .putfield 19, 42, .putfield 402), (42, .iconst 1, 43, .iconst 1), (43, .ireturn, 44, .ireturn)]
def fv_k42 : List fv_Row := [(0, .aload_n 1, 1, .aload 1), (1, .invokevirtual 23, 4, .invokestatic 5), (4, .iconst 0, 5, .iconst 0), (5, .istore_n 2, 6, .istore 2), (6, .iconst 0, 7, .iconst 0), (7, .istore_n 3, 8, .istore 3), (8, .iload_n 3, 9, .iload 3), (9, .sipush 200, 12, .iconst 200), (12, .if_icmp .ge 37, 15, .if_icmp .ge 49), (15, .iload_n 2, 16, .iload 2), (16, .aload_n 0, 17, .aload 0), (17, .getfield 19, 20, .getfield 402), (20, .if_icmp .ge 29, 23, .if_icmp .ge 49), (23, .aload_n 0, 24, .aload 0), (24, .aload_n 1, 25, .aload 1), (25, .iload_n 2, 26, .iload 2), (26, .invokevirtual 28, 29, .invokestatic 43), (29, .istore 4, 31, .istore 4), (31, .iload 4, 33, .iload 4), (33, .bipush (-4), 35, .iconst (-4)), (35, .if_icmp .ne 5, 38, .if_icmp .ne 40), (38, .iload_n 2, 39, .iload 2), (39, .ireturn, 40, .ireturn), (40, .iload 4, 42, .iload 4), (42, .istore_n 2, 43, .istore 2), (43, .iinc 3 1, 46, .iinc 3 1), (46, .goto (-38), 49, .multianewarray 8 4), (49, .bipush (-4), 51, .iconst (-4)), (51, .ireturn, 52, .ireturn)]
def fv_k43 : List fv_Row := [(0, .aload_n 0, 1, .aload 0), (1, .iload_n 2, 2, .iload 2), (2, .invokevirtual 32, 5, .invokestatic 46), (5, .istore_n 3, 6, .istore 3), (6, .iload_n 3, 7, .iload 3), (7, .invokestatic 36, 10, .invokestatic 45), (10, .istore 4, 12, .istore 4), (12, .iload_n 2, 13, .iload 2), (13, .iconst 1, 14, .iconst 1), (14, .iadd, 15, .iadd), (15, .istore 5, 17, .istore 5), (17, .iconst 0, 18, .iconst 0), (18, .istore 6, 20, .istore 6), (20, .iload 6, 22, .iload 6), (22, .iload 4, 24, .iload 4), (24, .if_icmp .ge 80, 27, .if_icmp .ge 104), (27, .aload_n 0, 28, .aload 0), (28, .iload 5, 30, .iload 5), (30, .invokevirtual 39, 33, .invokestatic 47), (33, .istore 7, 35, .istore 7), (35, .iload 7, 37, .iload 7), (37, .ifCond .ne 6, 40, .ifCond .ne 43), (40, .bipush (-4), 42, .iconst (-4)), (42, .ireturn, 43, .ireturn), (43, .aload_n 0, 44, .aload 0), (44, .getfield 15, 47, .getfield 401), (47, .iload 6, 49, .iload 6), (49, .aload_n 0, 50, .aload 0), (50, .iload 5, 52, .iload 5), (52, .iload 7, 54, .iload 7), (54, .invokevirtual 42, 57, .invokestatic 48), (57, .invokestatic 46, 60, .invokestatic 100), (60, .iload 5, 62, .iload 5), (62, .iload 7, 64, .iload 7), (64, .iadd, 65, .iadd), (65, .istore 5, 67, .istore 5), (67, .aload_n 0, 68, .aload 0), (68, .iload 5, 70, .iload 5), (70, .invokevirtual 32, 73, .invokestatic 46), (73, .iload 6, 75, .iload 6), (75, .iload 4, 77, .iload 4), (77, .iconst 1, 78, .iconst 1), (78, .isub, 79, .isub), (79, .if_icmp .ge 8, 82, .if_icmp .ge 87), (82, .bipush 44, 84, .iconst 44), (84, .goto 5, 87, .goto 89), (87, .bipush 59, 89, .iconst 59), (89, .if_icmp .eq 6, 92, .if_icmp .eq 95), (92, .bipush (-4), 94, .iconst (-4)), (94, .ireturn, 95, .ireturn), (95, .iinc 5 1, 98, .iinc 5 1), (98, .iinc 6 1, 101, .iinc 6 1), (101, .goto (-81), 104, .multianewarray 20 7), (104, .aload_n 0, 105, .aload 0), (105, .aload_n 1, 106, .aload 1), (106, .iload_n 3, 107, .iload 3), (107, .invokevirtual 50, 110, .invokestatic 44), (110, .ifCond .eq 8, 113, .ifCond .eq 118), (113, .iload 5, 115, .iload 5), (115, .goto 5, 118, .goto 120), (118, .bipush (-4), 120, .iconst (-4)), (120, .ireturn, 121, .ireturn)]
def fv_k44 : List fv_Row := [(0, .aload_n 0, 1, .aload 0), (1, .getfield 15, 4, .getfield 401), (4, .iconst 0, 5, .iconst 0), (5, .invokestatic 54, 8, .invokestatic 99), (8, .istore_n 3, 9, .istore 3), (9, .aload_n 0, 10, .aload 0), (10, .getfield 15, 13, .getfield 401), (13, .iconst 1, 14, .iconst 1), (14, .invokestatic 54, 17, .invokestatic 99), (17, .istore 4, 19, .istore 4), (19, .aload_n 0, 20, .aload 0), (20, .getfield 15, 23, .getfield 401), (23, .iconst 2, 24, .iconst 2), (24, .invokestatic 54, 27, .invokestatic 99), (27, .istore 5, 29, .istore 5), (29, .iload_n 2, 30, .iload 2), (30, .tableswitch 94 110 119 #[62, 94, 94, 94, 94, 74, 68, 94, 54, 84], 84, .tableswitch 124 110 119 #[92, 124, 124, 124, 124, 104, 98, 124, 84, 114]), (84, .aload_n 1, 85, .aload 1), (85, .iload_n 3, 86, .iload 3), (86, .iload 4, 88, .iload 4), (88, .invokevirtual 58, 91, .invokestatic 6), (91, .ireturn, 92, .ireturn), (92, .aload_n 1, 93, .aload 1), (93, .iload_n 3, 94, .iload 3), (94, .invokevirtual 62, 97, .invokestatic 7), (97, .ireturn, 98, .ireturn), (98, .aload_n 1, 99, .aload 1), (99, .iload_n 3, 100, .iload 3), (100, .invokevirtual 66, 103, .invokestatic 8), (103, .ireturn, 104, .ireturn), (104, .aload_n 1, 105, .aload 1), (105, .iload_n 3, 106, .iload 3), (106, .iload 4, 108, .iload 4), (108, .iload 5, 110, .iload 5), (110, .invokevirtual 69, 113, .invokestatic 9), (113, .ireturn, 114, .ireturn), (114, .aload_n 1, 115, .aload 1), (115, .iload_n 3, 116, .iload 3), (116, .iload 4, 118, .iload 4), (118, .iload 5, 120, .iload 5), (120, .invokevirtual 73, 123, .invokestatic 10), (123, .ireturn, 124, .ireturn), (124, .iconst 0, 125, .iconst 0), (125, .ireturn, 126, .ireturn)]
def fv_k45 : List fv_Row := [(0, .iload_n 0, 1, .iload 0), (1, .tableswitch 61 110 119 #[55, 61, 61, 61, 61, 59, 55, 61, 57, 59], 56, .tableswitch 62 110 119 #[56, 62, 62, 62, 62, 60, 56, 62, 58, 60]), (56, .iconst 1, 57, .iconst 1), (57, .ireturn, 58, .ireturn), (58, .iconst 2, 59, .iconst 2), (59, .ireturn, 60, .ireturn), (60, .iconst 3, 61, .iconst 3), (61, .ireturn, 62, .ireturn), (62, .iconst 0, 63, .iconst 0), (63, .ireturn, 64, .ireturn)]
def fv_k46 : List fv_Row := [(0, .iload_n 1, 1, .iload 1), (1, .ifCond .lt 29, 4, .ifCond .lt 30), (4, .iload_n 1, 5, .iload 1), (5, .aload_n 0, 6, .aload 0), (6, .getfield 19, 9, .getfield 402), (9, .if_icmp .ge 21, 12, .if_icmp .ge 30), (12, .iload_n 1, 13, .iload 1), (13, .aload_n 0, 14, .aload 0), (14, .getfield 9, 17, .getfield 400), (17, .arraylength, 18, .arraylength), (18, .if_icmp .ge 12, 21, .if_icmp .ge 30), (21, .aload_n 0, 22, .aload 0), (22, .getfield 9, 25, .getfield 400), (25, .iload_n 1, 26, .iload 1), (26, .caload, 27, .caload), (27, .goto 4, 30, .goto 31), (30, .iconst 0, 31, .iconst 0), (31, .ireturn, 32, .ireturn)]
def fv_k47 : List fv_Row := [(0, .aload_n 0, 1, .aload 0), (1, .iload_n 1, 2, .iload 1), (2, .invokevirtual 32, 5, .invokestatic 46), (5, .invokestatic 76, 8, .invokestatic 49), (8, .ifCond .ne 5, 11, .ifCond .ne 13), (11, .iconst 0, 12, .iconst 0), (12, .ireturn, 13, .ireturn), (13, .aload_n 0, 14, .aload 0), (14, .iload_n 1, 15, .iload 1), (15, .iconst 1, 16, .iconst 1), (16, .iadd, 17, .iadd), (17, .invokevirtual 32, 20, .invokestatic 46), (20, .invokestatic 76, 23, .invokestatic 49), (23, .ifCond .eq 7, 26, .ifCond .eq 30), (26, .iconst 2, 27, .iconst 2), (27, .goto 4, 30, .goto 31), (30, .iconst 1, 31, .iconst 1), (31, .ireturn, 32, .ireturn)]
def fv_k48 : List fv_Row := [(0, .aload_n 0, 1, .aload 0), (1, .iload_n 1, 2, .iload 1), (2, .invokevirtual 32, 5, .invokestatic 46), (5, .bipush 48, 7, .iconst 48), (7, .isub, 8, .isub), (8, .istore_n 3, 9, .istore 3), (9, .iload_n 2, 10, .iload 2), (10, .iconst 1, 11, .iconst 1), (11, .if_icmp .ne 7, 14, .if_icmp .ne 18), (14, .iload_n 3, 15, .iload 3), (15, .goto 18, 18, .goto 33), (18, .bipush 10, 20, .iconst 10), (20, .iload_n 3, 21, .iload 3), (21, .imul, 22, .imul), (22, .aload_n 0, 23, .aload 0), (23, .iload_n 1, 24, .iload 1), (24, .iconst 1, 25, .iconst 1), (25, .iadd, 26, .iadd), (26, .invokevirtual 32, 29, .invokestatic 46), (29, .iadd, 30, .iadd), (30, .bipush 48, 32, .iconst 48), (32, .isub, 33, .isub), (33, .ireturn, 34, .ireturn)]
def fv_k49 : List fv_Row := [(0, .iload_n 0, 1, .iload 0), (1, .bipush 48, 3, .iconst 48), (3, .bipush 57, 5, .iconst 57), (5, .invokestatic 79, 8, .invokestatic 96), (8, .ireturn, 9, .ireturn)]
def fv_k50 : List fv_Row := [(0, .aload_n 0, 1, .aload 0), (1, .invokespecial 1, 4, .nop), (4, .aload_n 0, 5, .aload 0), (5, .new 7, 8, .new 4), (8, .dup, 9, .dup), (9, .invokespecial 9, 12, .invokestatic 40), (12, .putfield 10, 15, .putfield 500), (15, .aload_n 0, 16, .aload 0), (16, .new 16, 19, .new 1), (19, .dup, 20, .dup), (20, .invokespecial 18, 23, .invokestatic 4), (23, .putfield 19, 26, .putfield 501), (26, .aload_n 0, 27, .aload 0), (27, .new 16, 30, .new 1), (30, .dup, 31, .dup), (31, .invokespecial 18, 34, .invokestatic 4), (34, .putfield 23, 37, .putfield 502), (37, .aload_n 0, 38, .aload 0), (38, .new 26, 41, .new 3), (41, .dup, 42, .dup), (42, .invokespecial 28, 45, .invokestatic 27), (45, .putfield 29, 48, .putfield 503), (48, .aload_n 0, 49, .aload 0), (49, .new 26, 52, .new 3), (52, .dup, 53, .dup), (53, .invokespecial 28, 56, .invokestatic 27), (56, .putfield 33, 59, .putfield 504), (59, .aload_n 0, 60, .aload 0), (60, .new 36, 63, .new 2), (63, .dup, 64, .dup), (64, .bipush 8, 66, .iconst 8), (66, .anewarray 26, 69, .anewarray 3), (69, .invokespecial 38, 72, .invokestatic 24), (72, .putfield 41, 75, .putfield 505), (75, .aload_n 0, 76, .aload 0), (76, .new 36, 79, .new 2), (79, .dup, 80, .dup), (80, .iconst 2, 81, .iconst 2), (81, .anewarray 26, 84, .anewarray 3), (84, .invokespecial 38, 87, .invokestatic 24), (87, .putfield 45, 90, .putfield 506), (90, .aload_n 0, 91, .aload 0), (91, .new 48, 94, .new 0), (94, .dup, 95, .dup), (95, .invokespecial 50, 98, .invokestatic 0), (98, .putfield 51, 101, .putfield 507), (101, .iconst 0, 102, .iconst 0), (102, .istore_n 1, 103, .istore 1), (103, .iload_n 1, 104, .iload 1), (104, .ldc 55, 106, .ldc 0), (106, .invokevirtual 57, 109, .monitorenter), (109, .if_icmp .ge 23, 112, .if_icmp .ge 132), (112, .aload_n 0, 113, .aload 0), (113, .getfield 10, 116, .getfield 500), (116, .ldc 55, 118, .ldc 0), (118, .iload_n 1, 119, .iload 1), (119, .invokevirtual 63, 122, .monitorexit), (122, .invokevirtual 67, 125, .invokestatic 41), (125, .pop, 126, .pop), (126, .iinc 1 1, 129, .iinc 1 1), (129, .goto (-26), 132, .multianewarray 103 2), (132, .aload_n 0, 133, .aload 0), (133, .invokevirtual 71, 136, .invokestatic 86), (136, .pop, 137, .pop), (137, .aload_n 0, 138, .aload 0), (138, .getfield 10, 141, .getfield 500), (141, .iconst 0, 142, .iconst 0), (142, .putfield 75, 145, .putfield 402), (145, .return_, 146, .return_)]
def fv_k51 : List fv_Row := [(0, .iload_n 1, 1, .iload 1), (1, .bipush 32, 3, .iconst 32), (3, .bipush 126, 5, .iconst 126), (5, .invokestatic 78, 8, .invokestatic 96), (8, .ifCond .ne 5, 11, .ifCond .ne 13), (11, .iconst (-1), 12, .iconst (-1)), (12, .ireturn, 13, .ireturn), (13, .aload_n 0, 14, .aload 0), (14, .getfield 10, 17, .getfield 500), (17, .iload_n 1, 18, .iload 1), (18, .invokevirtual 67, 21, .invokestatic 41), (21, .ifCond .eq 13, 24, .ifCond .eq 34), (24, .aload_n 0, 25, .aload 0), (25, .getfield 10, 28, .getfield 500), (28, .getfield 75, 31, .getfield 402), (31, .goto 5, 34, .goto 36), (34, .bipush (-3), 36, .iconst (-3)), (36, .ireturn, 37, .ireturn)]
def fv_k52 : List fv_Row := [(0, .aload_n 0, 1, .aload 0), (1, .getfield 10, 4, .getfield 500), (4, .getfield 75, 7, .getfield 402), (7, .istore_n 1, 8, .istore 1), (8, .aload_n 0, 9, .aload 0), (9, .getfield 10, 12, .getfield 500), (12, .iconst 0, 13, .iconst 0), (13, .putfield 75, 16, .putfield 402), (16, .iload_n 1, 17, .iload 1), (17, .ireturn, 18, .ireturn)]
def fv_k53 : List fv_Row := [(0, .aload_n 0, 1, .aload 0), (1, .getfield 10, 4, .getfield 500), (4, .aload_n 0, 5, .aload 0), (5, .getfield 23, 8, .getfield 502), (8, .invokevirtual 82, 11, .invokestatic 42), (11, .ireturn, 12, .ireturn)]
def fv_k54 : List fv_Row := [(0, .aload_n 0, 1, .aload 0), (1, .invokevirtual 71, 4, .invokestatic 86), (4, .ifCond .eq 13, 7, .ifCond .eq 17), (7, .aload_n 0, 8, .aload 0), (8, .getfield 19, 11, .getfield 501), (11, .getfield 86, 14, .getfield 102), (14, .goto 5, 17, .goto 19), (17, .bipush (-2), 19, .iconst (-2)), (19, .ireturn, 20, .ireturn)]
def fv_k55 : List fv_Row := [(0, .aload_n 0, 1, .aload 0), (1, .iload_n 1, 2, .iload 1), (2, .invokevirtual 89, 5, .invokestatic 81), (5, .ifCond .eq 12, 8, .ifCond .eq 17), (8, .iload_n 2, 9, .iload 2), (9, .iconst 0, 10, .iconst 0), (10, .iconst 2, 11, .iconst 2), (11, .invokestatic 78, 14, .invokestatic 96), (14, .ifCond .ne 5, 17, .ifCond .ne 19), (17, .iconst (-1), 18, .iconst (-1)), (18, .ireturn, 19, .ireturn), (19, .iload_n 2, 20, .iload 2), (20, .iconst 2, 21, .iconst 2), (21, .if_icmp .ne 9, 24, .if_icmp .ne 30), (24, .aload_n 0, 25, .aload 0), (25, .iload_n 1, 26, .iload 1), (26, .invokevirtual 92, 29, .invokestatic 88), (29, .ireturn, 30, .ireturn), (30, .iload_n 2, 31, .iload 2), (31, .ifCond .ne 13, 34, .ifCond .ne 44), (34, .aload_n 0, 35, .aload 0), (35, .getfield 19, 38, .getfield 501), (38, .getfield 96, 41, .getfield 104), (41, .goto 10, 44, .goto 51), (44, .aload_n 0, 45, .aload 0), (45, .getfield 19, 48, .getfield 501), (48, .getfield 100, 51, .getfield 105), (51, .iload_n 1, 52, .iload 1), (52, .invokestatic 103, 55, .invokestatic 99), (55, .ireturn, 56, .ireturn)]
def fv_k56 : List fv_Row := [(0, .iload_n 1, 1, .iload 1), (1, .iconst 0, 2, .iconst 0), (2, .aload_n 0, 3, .aload 0), (3, .getfield 19, 6, .getfield 501), (6, .getfield 107, 9, .getfield 101), (9, .iconst 1, 10, .iconst 1), (10, .isub, 11, .isub), (11, .invokestatic 78, 14, .invokestatic 96), (14, .ifCond .eq 14, 17, .ifCond .eq 28), (17, .aload_n 0, 18, .aload 0), (18, .getfield 19, 21, .getfield 501), (21, .iload_n 1, 22, .iload 1), (22, .invokevirtual 110, 25, .invokestatic 14), (25, .goto 4, 28, .goto 29), (28, .iconst (-1), 29, .iconst (-1)), (29, .ireturn, 30, .ireturn)]
def fv_k57 : List fv_Row := [(0, .aload_n 0, 1, .aload 0), (1, .iload_n 1, 2, .iload 1), (2, .invokevirtual 113, 5, .invokestatic 82), (5, .ifCond .eq 12, 8, .ifCond .eq 17), (8, .iload_n 2, 9, .iload 2), (9, .iconst 0, 10, .iconst 0), (10, .iconst 2, 11, .iconst 2), (11, .invokestatic 78, 14, .invokestatic 96), (14, .ifCond .ne 5, 17, .ifCond .ne 19), (17, .iconst (-1), 18, .iconst (-1)), (18, .ireturn, 19, .ireturn), (19, .iload_n 2, 20, .iload 2), (20, .ifCond .ne 12, 23, .ifCond .ne 32), (23, .aload_n 0, 24, .aload 0), (24, .getfield 19, 27, .getfield 501), (27, .iload_n 1, 28, .iload 1), (28, .invokevirtual 116, 31, .invokestatic 15), (31, .ireturn, 32, .ireturn), (32, .iload_n 2, 33, .iload 2), (33, .iconst 1, 34, .iconst 1), (34, .if_icmp .ne 13, 37, .if_icmp .ne 47), (37, .aload_n 0, 38, .aload 0), (38, .getfield 29, 41, .getfield 503), (41, .getfield 119, 44, .getfield 302), (44, .goto 10, 47, .goto 54), (47, .aload_n 0, 48, .aload 0), (48, .getfield 19, 51, .getfield 501), (51, .getfield 122, 54, .getfield 108), (54, .iload_n 1, 55, .iload 1), (55, .invokestatic 103, 58, .invokestatic 99), (58, .ireturn, 59, .ireturn)]
def fv_k58 : List fv_Row := [(0, .aload_n 0, 1, .aload 0), (1, .iload_n 1, 2, .iload 1), (2, .invokevirtual 113, 5, .invokestatic 82), (5, .ifCond .eq 23, 8, .ifCond .eq 28), (8, .aload_n 0, 9, .aload 0), (9, .iload_n 2, 10, .iload 2), (10, .invokevirtual 89, 13, .invokestatic 81), (13, .ifCond .eq 15, 16, .ifCond .eq 28), (16, .aload_n 0, 17, .aload 0), (17, .getfield 29, 20, .getfield 503), (20, .iload_n 1, 21, .iload 1), (21, .iload_n 2, 22, .iload 2), (22, .invokevirtual 125, 25, .invokestatic 30), (25, .goto 4, 28, .goto 29), (28, .iconst (-1), 29, .iconst (-1)), (29, .ireturn, 30, .ireturn)]
def fv_k59 : List fv_Row := [(0, .aload_n 0, 1, .aload 0), (1, .iload_n 1, 2, .iload 1), (2, .invokevirtual 129, 5, .invokestatic 83), (5, .ifCond .ne 5, 8, .ifCond .ne 10), (8, .iconst (-1), 9, .iconst (-1)), (9, .ireturn, 10, .ireturn), (10, .iload_n 2, 11, .iload 2), (11, .tableswitch 93 0 4 #[33, 45, 57, 69, 81], 44, .tableswitch 104 0 4 #[44, 56, 68, 80, 92]), (44, .aload_n 0, 45, .aload 0), (45, .getfield 19, 48, .getfield 501), (48, .getfield 132, 51, .getfield 110), (51, .iload_n 1, 52, .iload 1), (52, .invokestatic 103, 55, .invokestatic 99), (55, .ireturn, 56, .ireturn), (56, .aload_n 0, 57, .aload 0), (57, .getfield 19, 60, .getfield 501), (60, .getfield 135, 63, .getfield 111), (63, .iload_n 1, 64, .iload 1), (64, .invokestatic 103, 67, .invokestatic 99), (67, .ireturn, 68, .ireturn), (68, .aload_n 0, 69, .aload 0), (69, .getfield 19, 72, .getfield 501), (72, .getfield 138, 75, .getfield 112), (75, .iload_n 1, 76, .iload 1), (76, .invokestatic 103, 79, .invokestatic 99), (79, .ireturn, 80, .ireturn), (80, .aload_n 0, 81, .aload 0), (81, .getfield 29, 84, .getfield 503), (84, .getfield 141, 87, .getfield 303), (87, .iload_n 1, 88, .iload 1), (88, .invokestatic 103, 91, .invokestatic 99), (91, .ireturn, 92, .ireturn), (92, .aload_n 0, 93, .aload 0), (93, .getfield 29, 96, .getfield 503), (96, .getfield 144, 99, .getfield 304), (99, .iload_n 1, 100, .iload 1), (100, .invokestatic 103, 103, .invokestatic 99), (103, .ireturn, 104, .ireturn), (104, .iconst (-1), 105, .iconst (-1)), (105, .ireturn, 106, .ireturn)]
def fv_k60 : List fv_Row := [(0, .iload_n 1, 1, .iload 1), (1, .iconst 1, 2, .iconst 1), (2, .bipush 10, 4, .iconst 10), (4, .invokestatic 78, 7, .invokestatic 96), (7, .ifCond .ne 5, 10, .ifCond .ne 12), (10, .iconst (-1), 11, .iconst (-1)), (11, .ireturn, 12, .ireturn), (12, .aload_n 0, 13, .aload 0), (13, .getfield 41, 16, .getfield 505), (16, .aload_n 0, 17, .aload 0), (17, .getfield 29, 20, .getfield 503), (20, .invokevirtual 147, 23, .invokestatic 25), (23, .aload_n 0, 24, .aload 0), (24, .aload_n 0, 25, .aload 0), (25, .getfield 29, 28, .getfield 503), (28, .iload_n 1, 29, .iload 1), (29, .invokevirtual 151, 32, .invokestatic 87), (32, .aload_n 0, 33, .aload 0), (33, .getfield 29, 36, .getfield 503), (36, .getfield 155, 39, .getfield 300), (39, .ireturn, 40, .ireturn)]
def fv_k61 : List fv_Row := [(0, .aload_n 0, 1, .aload 0), (1, .iload_n 1, 2, .iload 1), (2, .iload_n 2, 3, .iload 2), (3, .iload_n 3, 4, .iload 3), (4, .iload 4, 6, .iload 4), (6, .bipush 60, 8, .iconst 60), (8, .invokevirtual 158, 11, .invokestatic 85), (11, .istore 5, 13, .istore 5), (13, .iload 5, 15, .iload 5), (15, .ifCond .eq 6, 18, .ifCond .eq 21), (18, .iload 5, 20, .iload 5), (20, .ireturn, 21, .ireturn), (21, .aload_n 0, 22, .aload 0), (22, .getfield 41, 25, .getfield 505), (25, .aload_n 0, 26, .aload 0), (26, .getfield 29, 29, .getfield 503), (29, .invokevirtual 147, 32, .invokestatic 25), (32, .aload_n 0, 33, .aload 0), (33, .getfield 29, 36, .getfield 503), (36, .iload_n 1, 37, .iload 1), (37, .iload_n 2, 38, .iload 2), (38, .iload_n 3, 39, .iload 3), (39, .iload 4, 41, .iload 4), (41, .invokevirtual 162, 44, .invokestatic 32), (44, .aload_n 0, 45, .aload 0), (45, .getfield 29, 48, .getfield 503), (48, .iload_n 2, 49, .iload 2), (49, .iload_n 3, 50, .iload 3), (50, .invokevirtual 125, 53, .invokestatic 30), (53, .ireturn, 54, .ireturn)]
def fv_k62 : List fv_Row := [(0, .aload_n 0, 1, .aload 0), (1, .iload_n 1, 2, .iload 1), (2, .invokevirtual 113, 5, .invokestatic 82), (5, .ifCond .eq 11, 8, .ifCond .eq 16), (8, .aload_n 0, 9, .aload 0), (9, .iload_n 2, 10, .iload 2), (10, .invokevirtual 89, 13, .invokestatic 81), (13, .ifCond .ne 5, 16, .ifCond .ne 18), (16, .iconst (-1), 17, .iconst (-1)), (17, .ireturn, 18, .ireturn), (18, .aload_n 0, 19, .aload 0), (19, .getfield 29, 22, .getfield 503), (22, .aload_n 0, 23, .aload 0), (23, .getfield 19, 26, .getfield 501), (26, .iload_n 1, 27, .iload 1), (27, .iload_n 2, 28, .iload 2), (28, .invokevirtual 166, 31, .invokestatic 34), (31, .istore_n 3, 32, .istore 3), (32, .iload_n 3, 33, .iload 3), (33, .bipush (-4), 35, .iconst (-4)), (35, .if_icmp .ne 6, 38, .if_icmp .ne 41), (38, .bipush (-2), 40, .iconst (-2)), (40, .ireturn, 41, .ireturn), (41, .aload_n 0, 42, .aload 0), (42, .getfield 41, 45, .getfield 505), (45, .aload_n 0, 46, .aload 0), (46, .getfield 29, 49, .getfield 503), (49, .invokevirtual 147, 52, .invokestatic 25), (52, .aload_n 0, 53, .aload 0), (53, .getfield 29, 56, .getfield 503), (56, .iload_n 1, 57, .iload 1), (57, .iload_n 3, 58, .iload 3), (58, .aload_n 0, 59, .aload 0), (59, .getfield 29, 62, .getfield 503), (62, .iload_n 1, 63, .iload 1), (63, .iload_n 3, 64, .iload 3), (64, .invokevirtual 125, 67, .invokestatic 30), (67, .iload_n 3, 68, .iload 3), (68, .iload_n 2, 69, .iload 2), (69, .if_icmp .ne 7, 72, .if_icmp .ne 76), (72, .iconst 1, 73, .iconst 1), (73, .goto 4, 76, .goto 77), (76, .iconst 2, 77, .iconst 2), (77, .isub, 78, .isub), (78, .invokevirtual 170, 81, .invokestatic 31), (81, .aload_n 0, 82, .aload 0), (82, .getfield 29, 85, .getfield 503), (85, .getfield 119, 88, .getfield 302), (88, .iload_n 1, 89, .iload 1), (89, .iload_n 2, 90, .iload 2), (90, .invokestatic 174, 93, .invokestatic 100), (93, .aload_n 0, 94, .aload 0), (94, .getfield 29, 97, .getfield 503), (97, .iload_n 1, 98, .iload 1), (98, .iload_n 2, 99, .iload 2), (99, .invokevirtual 125, 102, .invokestatic 30), (102, .ireturn, 103, .ireturn)]
def fv_k63 : List fv_Row := [(0, .aload_n 0, 1, .aload 0), (1, .getfield 41, 4, .getfield 505), (4, .aload_n 0, 5, .aload 0), (5, .getfield 29, 8, .getfield 503), (8, .invokevirtual 178, 11, .invokestatic 26), (11, .ifCond .eq 13, 14, .ifCond .eq 24), (14, .aload_n 0, 15, .aload 0), (15, .getfield 41, 18, .getfield 505), (18, .getfield 182, 21, .getfield 201), (21, .goto 5, 24, .goto 26), (24, .bipush (-2), 26, .iconst (-2)), (26, .ireturn, 27, .ireturn)]
def fv_k64 : List fv_Row := [(0, .iload_n 1, 1, .iload 1), (1, .iconst 0, 2, .iconst 0), (2, .bipush 40, 4, .iconst 40), (4, .invokestatic 78, 7, .invokestatic 96), (7, .ifCond .eq 29, 10, .ifCond .eq 36), (10, .aload_n 0, 11, .aload 0), (11, .iload_n 2, 12, .iload 2), (12, .invokevirtual 113, 15, .invokestatic 82), (15, .ifCond .eq 21, 18, .ifCond .eq 36), (18, .aload_n 0, 19, .aload 0), (19, .iload_n 3, 20, .iload 3), (20, .invokevirtual 89, 23, .invokestatic 81), (23, .ifCond .eq 13, 26, .ifCond .eq 36), (26, .iload 4, 28, .iload 4), (28, .iconst 0, 29, .iconst 0), (29, .iconst 2, 30, .iconst 2), (30, .invokestatic 78, 33, .invokestatic 96), (33, .ifCond .ne 5, 36, .ifCond .ne 38), (36, .iconst (-1), 37, .iconst (-1)), (37, .ireturn, 38, .ireturn), (38, .aload_n 0, 39, .aload 0), (39, .getfield 33, 42, .getfield 504), (42, .aload_n 0, 43, .aload 0), (43, .getfield 29, 46, .getfield 503), (46, .invokevirtual 185, 49, .invokestatic 29), (49, .aload_n 0, 50, .aload 0), (50, .aload_n 0, 51, .aload 0), (51, .getfield 33, 54, .getfield 504), (54, .iload_n 1, 55, .iload 1), (55, .invokevirtual 151, 58, .invokestatic 87), (58, .iload 4, 60, .iload 4), (60, .ifCond .ne 13, 63, .ifCond .ne 73), (63, .aload_n 0, 64, .aload 0), (64, .getfield 33, 67, .getfield 504), (67, .iload_n 2, 68, .iload 2), (68, .iload_n 3, 69, .iload 3), (69, .invokevirtual 125, 72, .invokestatic 30), (72, .ireturn, 73, .ireturn), (73, .aload_n 0, 74, .aload 0), (74, .getfield 19, 77, .getfield 501), (77, .iload_n 2, 78, .iload 2), (78, .invokevirtual 188, 81, .invokestatic 21), (81, .istore 5, 83, .istore 5), (83, .iload 4, 85, .iload 4), (85, .iconst 1, 86, .iconst 1), (86, .if_icmp .ne 12, 89, .if_icmp .ne 98), (89, .aload_n 0, 90, .aload 0), (90, .iload 5, 92, .iload 5), (92, .invokevirtual 191, 95, .invokestatic 89), (95, .goto 9, 98, .goto 104), (98, .aload_n 0, 99, .aload 0), (99, .iload 5, 101, .iload 5), (101, .invokevirtual 194, 104, .invokestatic 90), (104, .ireturn, 105, .ireturn)]
def fv_k65 : List fv_Row := [(0, .iload_n 1, 1, .iload 1), (1, .iconst 0, 2, .iconst 0), (2, .iconst 1, 3, .iconst 1), (3, .invokestatic 78, 6, .invokestatic 96), (6, .ifCond .ne 5, 9, .ifCond .ne 11), (9, .iconst (-1), 10, .iconst (-1)), (10, .ireturn, 11, .ireturn), (11, .aload_n 0, 12, .aload 0), (12, .getfield 33, 15, .getfield 504), (15, .aload_n 0, 16, .aload 0), (16, .getfield 29, 19, .getfield 503), (19, .invokevirtual 185, 22, .invokestatic 29), (22, .iconst 1, 23, .iconst 1), (23, .istore_n 2, 24, .istore 2), (24, .iload_n 2, 25, .iload 2), (25, .bipush 40, 27, .iconst 40), (27, .if_icmp .gt 48, 30, .if_icmp .gt 75), (30, .aload_n 0, 31, .aload 0), (31, .getfield 19, 34, .getfield 501), (34, .invokevirtual 197, 37, .invokestatic 13), (37, .aload_n 0, 38, .aload 0), (38, .getfield 33, 41, .getfield 504), (41, .aload_n 0, 42, .aload 0), (42, .getfield 19, 45, .getfield 501), (45, .invokevirtual 200, 48, .invokestatic 35), (48, .iconst (-1), 49, .iconst (-1)), (49, .ixor, 50, .ixor), (50, .iand, 51, .iand), (51, .istore_n 3, 52, .istore 3), (52, .iload_n 3, 53, .iload 3), (53, .ifCond .eq 16, 56, .ifCond .eq 69), (56, .iload_n 1, 57, .iload 1), (57, .ifCond .ne 10, 60, .ifCond .ne 67), (60, .iload_n 3, 61, .iload 3), (61, .invokestatic 203, 64, .invokestatic 98), (64, .goto 4, 67, .goto 68), (67, .iload_n 2, 68, .iload 2), (68, .ireturn, 69, .ireturn), (69, .iinc 2 1, 72, .iinc 2 1), (72, .goto (-48), 75, .multianewarray 24 3), (75, .bipush (-4), 77, .iconst (-4)), (77, .ireturn, 78, .ireturn)]
def fv_k66 : List fv_Row := [(0, .aload_n 0, 1, .aload 0), (1, .iload_n 1, 2, .iload 1), (2, .invokevirtual 113, 5, .invokestatic 82), (5, .ifCond .ne 5, 8, .ifCond .ne 10), (8, .iconst (-1), 9, .iconst (-1)), (9, .ireturn, 10, .ireturn), (10, .aload_n 0, 11, .aload 0), (11, .getfield 19, 14, .getfield 501), (14, .iload_n 1, 15, .iload 1), (15, .invokevirtual 188, 18, .invokestatic 21), (18, .istore_n 2, 19, .istore 2), (19, .aload_n 0, 20, .aload 0), (20, .getfield 33, 23, .getfield 504), (23, .aload_n 0, 24, .aload 0), (24, .getfield 29, 27, .getfield 503), (27, .invokevirtual 185, 30, .invokestatic 29), (30, .iconst 0, 31, .iconst 0), (31, .istore_n 3, 32, .istore 3), (32, .iload_n 3, 33, .iload 3), (33, .bipush 40, 35, .iconst 40), (35, .if_icmp .gt 29, 38, .if_icmp .gt 64), (38, .iload_n 2, 39, .iload 2), (39, .aload_n 0, 40, .aload 0), (40, .getfield 33, 43, .getfield 504), (43, .aload_n 0, 44, .aload 0), (44, .getfield 19, 47, .getfield 501), (47, .invokevirtual 200, 50, .invokestatic 35), (50, .iconst (-1), 51, .iconst (-1)), (51, .ixor, 52, .ixor), (52, .iand, 53, .iand), (53, .ifCond .eq 5, 56, .ifCond .eq 58), (56, .iload_n 3, 57, .iload 3), (57, .ireturn, 58, .ireturn), (58, .iinc 3 1, 61, .iinc 3 1), (61, .goto (-29), 64, .multianewarray 32 4), (64, .bipush 41, 66, .iconst 41), (66, .ireturn, 67, .ireturn)]
def fv_k67 : List fv_Row := [(0, .iconst 0, 1, .iconst 0), (1, .istore_n 1, 2, .istore 1), (2, .iconst 0, 3, .iconst 0), (3, .istore_n 2, 4, .istore 2), (4, .iload_n 2, 5, .iload 2), (5, .aload_n 0, 6, .aload 0), (6, .getfield 19, 9, .getfield 501), (9, .getfield 206, 12, .getfield 100), (12, .if_icmp .ge 88, 15, .if_icmp .ge 100), (15, .iconst 0, 16, .iconst 0), (16, .istore_n 3, 17, .istore 3), (17, .iconst 0, 18, .iconst 0), (18, .istore 4, 20, .istore 4), (20, .iconst 0, 21, .iconst 0), (21, .istore 5, 23, .istore 5), (23, .iload 5, 25, .iload 5), (25, .aload_n 0, 26, .aload 0), (26, .getfield 19, 29, .getfield 501), (29, .getfield 86, 32, .getfield 102), (32, .if_icmp .ge 45, 35, .if_icmp .ge 77), (35, .aload_n 0, 36, .aload 0), (36, .iload 5, 38, .iload 5), (38, .iload_n 2, 39, .iload 2), (39, .invokevirtual 209, 42, .invokestatic 91), (42, .istore 6, 44, .istore 6), (44, .iload 4, 46, .iload 4), (46, .iload 6, 48, .iload 6), (48, .iadd, 49, .iadd), (49, .istore 4, 51, .istore 4), (51, .iload_n 3, 52, .iload 3), (52, .iconst 0, 53, .iconst 0), (53, .iload 6, 55, .iload 6), (55, .aload_n 0, 56, .aload 0), (56, .getfield 29, 59, .getfield 503), (59, .iload 5, 61, .iload 5), (61, .iload_n 2, 62, .iload 2), (62, .invokevirtual 125, 65, .invokestatic 30), (65, .isub, 66, .isub), (66, .invokestatic 212, 69, .dadd), (69, .iadd, 70, .iadd), (70, .istore_n 3, 71, .istore 3), (71, .iinc 5 1, 74, .iinc 5 1), (74, .goto (-51), 77, .multianewarray 23 6), (77, .iload 4, 79, .iload 4), (79, .aload_n 0, 80, .aload 0), (80, .iload_n 2, 81, .iload 2), (81, .invokevirtual 92, 84, .invokestatic 88), (84, .if_icmp .le 6, 87, .if_icmp .le 90), (87, .bipush (-4), 89, .iconst (-4)), (89, .ireturn, 90, .ireturn), (90, .iload_n 1, 91, .iload 1), (91, .iload_n 3, 92, .iload 3), (92, .iadd, 93, .iadd), (93, .istore_n 1, 94, .istore 1), (94, .iinc 2 1, 97, .iinc 2 1), (97, .goto (-93), 100, .multianewarray 4 3), (100, .iload_n 1, 101, .iload 1), (101, .ireturn, 102, .ireturn)]
def fv_k68 : List fv_Row := [(0, .aload_n 0, 1, .aload 0), (1, .iload_n 1, 2, .iload 1), (2, .invokevirtual 89, 5, .invokestatic 81), (5, .ifCond .eq 30, 8, .ifCond .eq 35), (8, .iload_n 2, 9, .iload 2), (9, .iconst 1, 10, .iconst 1), (10, .bipush 9, 12, .iconst 9), (12, .invokestatic 78, 15, .invokestatic 96), (15, .ifCond .eq 20, 18, .ifCond .eq 35), (18, .iload_n 3, 19, .iload 3), (19, .iconst (-1), 20, .iconst (-1)), (20, .aload_n 0, 21, .aload 0), (21, .getfield 19, 24, .getfield 501), (24, .getfield 86, 27, .getfield 102), (27, .iconst 1, 28, .iconst 1), (28, .isub, 29, .isub), (29, .invokestatic 78, 32, .invokestatic 96), (32, .ifCond .ne 5, 35, .ifCond .ne 37), (35, .iconst (-1), 36, .iconst (-1)), (36, .ireturn, 37, .ireturn), (37, .aload_n 0, 38, .aload 0), (38, .iload_n 1, 39, .iload 1), (39, .invokevirtual 92, 42, .invokestatic 88), (42, .istore 4, 44, .istore 4), (44, .iconst 0, 45, .iconst 0), (45, .istore 5, 47, .istore 5), (47, .iconst 0, 48, .iconst 0), (48, .istore 6, 50, .istore 6), (50, .bipush 9, 52, .iconst 9), (52, .istore 7, 54, .istore 7), (54, .iload 7, 56, .iload 7), (56, .iconst 1, 57, .iconst 1), (57, .if_icmp .lt 85, 60, .if_icmp .lt 142), (60, .iconst 0, 61, .iconst 0), (61, .istore 8, 63, .istore 8), (63, .iload 8, 65, .iload 8), (65, .aload_n 0, 66, .aload 0), (66, .getfield 19, 69, .getfield 501), (69, .getfield 86, 72, .getfield 102), (72, .if_icmp .ge 64, 75, .if_icmp .ge 136), (75, .iload 4, 77, .iload 4), (77, .iload_n 2, 78, .iload 2), (78, .aload_n 0, 79, .aload 0), (79, .getfield 19, 82, .getfield 501), (82, .iload 8, 84, .iload 8), (84, .iload_n 1, 85, .iload 1), (85, .iload 7, 87, .iload 7), (87, .invokevirtual 217, 90, .invokestatic 23), (90, .imul, 91, .imul), (91, .invokestatic 221, 94, .dsub), (94, .istore 9, 96, .istore 9), (96, .iload 4, 98, .iload 4), (98, .iload 9, 100, .iload 9), (100, .isub, 101, .isub), (101, .istore 4, 103, .istore 4), (103, .iload 5, 105, .iload 5), (105, .iload 9, 107, .iload 9), (107, .iload 7, 109, .iload 7), (109, .imul, 110, .imul), (110, .iadd, 111, .iadd), (111, .istore 5, 113, .istore 5), (113, .iload 6, 115, .iload 6), (115, .iload 8, 117, .iload 8), (117, .iload_n 3, 118, .iload 3), (118, .if_icmp .ne 8, 121, .if_icmp .ne 126), (121, .iload 9, 123, .iload 9), (123, .goto 4, 126, .goto 127), (126, .iconst 0, 127, .iconst 0), (127, .iadd, 128, .iadd), (128, .istore 6, 130, .istore 6), (130, .iinc 8 1, 133, .iinc 8 1), (133, .goto (-70), 136, .multianewarray 63 9), (136, .iinc 7 (-1), 139, .iinc 7 (-1)), (139, .goto (-85), 142, .multianewarray 54 8), (142, .iload_n 3, 143, .iload 3), (143, .iconst (-1), 144, .iconst (-1)), (144, .if_icmp .ne 8, 147, .if_icmp .ne 152), (147, .iload 5, 149, .iload 5), (149, .goto 5, 152, .goto 154), (152, .iload 6, 154, .iload 6), (154, .ireturn, 155, .ireturn)]
def fv_k69 : List fv_Row := [(0, .aload_n 0, 1, .aload 0), (1, .iload_n 1, 2, .iload 1), (2, .invokevirtual 224, 5, .invokestatic 84), (5, .ifCond .eq 14, 8, .ifCond .eq 19), (8, .aload_n 0, 9, .aload 0), (9, .getfield 19, 12, .getfield 501), (12, .iload_n 1, 13, .iload 1), (13, .invokevirtual 227, 16, .invokestatic 16), (16, .goto 4, 19, .goto 20), (19, .iconst (-1), 20, .iconst (-1)), (20, .ireturn, 21, .ireturn)]
def fv_k70 : List fv_Row := [(0, .aload_n 0, 1, .aload 0), (1, .iload_n 1, 2, .iload 1), (2, .invokevirtual 113, 5, .invokestatic 82), (5, .ifCond .eq 23, 8, .ifCond .eq 28), (8, .aload_n 0, 9, .aload 0), (9, .iload_n 2, 10, .iload 2), (10, .invokevirtual 89, 13, .invokestatic 81), (13, .ifCond .eq 15, 16, .ifCond .eq 28), (16, .aload_n 0, 17, .aload 0), (17, .getfield 19, 20, .getfield 501), (20, .iload_n 1, 21, .iload 1), (21, .iload_n 2, 22, .iload 2), (22, .invokevirtual 230, 25, .invokestatic 20), (25, .goto 4, 28, .goto 29), (28, .iconst (-1), 29, .iconst (-1)), (29, .ireturn, 30, .ireturn)]
def fv_k71 : List fv_Row := [(0, .aload_n 0, 1, .aload 0), (1, .iload_n 1, 2, .iload 1), (2, .invokevirtual 224, 5, .invokestatic 84), (5, .ifCond .eq 12, 8, .ifCond .eq 17), (8, .iload_n 2, 9, .iload 2), (9, .iconst 0, 10, .iconst 0), (10, .iconst 1, 11, .iconst 1), (11, .invokestatic 78, 14, .invokestatic 96), (14, .ifCond .ne 5, 17, .ifCond .ne 19), (17, .iconst (-1), 18, .iconst (-1)), (18, .ireturn, 19, .ireturn), (19, .bipush (-4), 21, .iconst (-4)), (21, .istore_n 3, 22, .istore 3), (22, .bipush (-4), 24, .iconst (-4)), (24, .istore 4, 26, .istore 4), (26, .iconst 0, 27, .iconst 0), (27, .istore 5, 29, .istore 5), (29, .iload 5, 31, .iload 5), (31, .aload_n 0, 32, .aload 0), (32, .getfield 19, 35, .getfield 501), (35, .getfield 107, 38, .getfield 101), (38, .if_icmp .ge 62, 41, .if_icmp .ge 100), (41, .aload_n 0, 42, .aload 0), (42, .getfield 19, 45, .getfield 501), (45, .iload_n 1, 46, .iload 1), (46, .iconst 1, 47, .iconst 1), (47, .iload 5, 49, .iload 5), (49, .ishl, 50, .ishl), (50, .ior, 51, .ior), (51, .invokevirtual 227, 54, .invokestatic 16), (54, .invokestatic 233, 57, .invokestatic 167), (57, .istore 6, 59, .istore 6), (59, .iload_n 1, 60, .iload 1), (60, .iload 5, 62, .iload 5), (62, .invokestatic 238, 65, .invokestatic 97), (65, .ifCond .ne 29, 68, .ifCond .ne 94), (68, .iload 6, 70, .iload 6), (70, .iconst 1, 71, .iconst 1), (71, .if_icmp .lt 23, 74, .if_icmp .lt 94), (74, .iload_n 3, 75, .iload 3), (75, .bipush (-4), 77, .iconst (-4)), (77, .if_icmp .eq 10, 80, .if_icmp .eq 87), (80, .iload 6, 82, .iload 6), (82, .iload 4, 84, .iload 4), (84, .if_icmp .ge 10, 87, .if_icmp .ge 94), (87, .iload 5, 89, .iload 5), (89, .istore_n 3, 90, .istore 3), (90, .iload 6, 92, .iload 6), (92, .istore 4, 94, .istore 4), (94, .iinc 5 1, 97, .iinc 5 1), (97, .goto (-68), 100, .multianewarray 29 6), (100, .iload_n 2, 101, .iload 2), (101, .ifCond .ne 7, 104, .ifCond .ne 108), (104, .iload_n 3, 105, .iload 3), (105, .goto 5, 108, .goto 110), (108, .iload 4, 110, .iload 4), (110, .ireturn, 111, .ireturn)]
def fv_k72 : List fv_Row := [(0, .aload_n 0, 1, .aload 0), (1, .iload_n 1, 2, .iload 1), (2, .invokevirtual 113, 5, .invokestatic 82), (5, .ifCond .ne 5, 8, .ifCond .ne 10), (8, .iconst (-1), 9, .iconst (-1)), (9, .ireturn, 10, .ireturn), (10, .iconst 0, 11, .iconst 0), (11, .istore_n 2, 12, .istore 2), (12, .iconst 0, 13, .iconst 0), (13, .istore_n 3, 14, .istore 3), (14, .iload_n 3, 15, .iload 3), (15, .aload_n 0, 16, .aload 0), (16, .getfield 19, 19, .getfield 501), (19, .getfield 206, 22, .getfield 100), (22, .if_icmp .ge 33, 25, .if_icmp .ge 55), (25, .aload_n 0, 26, .aload 0), (26, .getfield 29, 29, .getfield 503), (29, .aload_n 0, 30, .aload 0), (30, .getfield 19, 33, .getfield 501), (33, .iload_n 1, 34, .iload 1), (34, .iload_n 3, 35, .iload 3), (35, .invokevirtual 166, 38, .invokestatic 34), (38, .bipush (-4), 40, .iconst (-4)), (40, .if_icmp .eq 9, 43, .if_icmp .eq 49), (43, .iload_n 2, 44, .iload 2), (44, .iconst 1, 45, .iconst 1), (45, .iload_n 3, 46, .iload 3), (46, .ishl, 47, .ishl), (47, .ior, 48, .ior), (48, .istore_n 2, 49, .istore 2), (49, .iinc 3 1, 52, .iinc 3 1), (52, .goto (-38), 55, .multianewarray 14 4), (55, .iload_n 2, 56, .iload 2), (56, .ireturn, 57, .ireturn)]
def fv_k73 : List fv_Row := [(0, .aload_n 0, 1, .aload 0), (1, .iload_n 1, 2, .iload 1), (2, .invokevirtual 129, 5, .invokestatic 83), (5, .ifCond .eq 13, 8, .ifCond .eq 18), (8, .iload_n 2, 9, .iload 2), (9, .iconst 1, 10, .iconst 1), (10, .bipush 9, 12, .iconst 9), (12, .invokestatic 78, 15, .invokestatic 96), (15, .ifCond .ne 5, 18, .ifCond .ne 20), (18, .iconst (-1), 19, .iconst (-1)), (19, .ireturn, 20, .ireturn), (20, .aload_n 0, 21, .aload 0), (21, .getfield 51, 24, .getfield 507), (24, .iload_n 1, 25, .iload 1), (25, .iload_n 2, 26, .iload 2), (26, .iload_n 3, 27, .iload 3), (27, .invokevirtual 242, 30, .invokestatic 1), (30, .ifCond .eq 13, 33, .ifCond .eq 43), (33, .aload_n 0, 34, .aload 0), (34, .getfield 51, 37, .getfield 507), (37, .getfield 246, 40, .getfield 3), (40, .goto 5, 43, .goto 45), (43, .bipush (-3), 45, .iconst (-3)), (45, .ireturn, 46, .ireturn)]
def fv_k74 : List fv_Row := [(0, .aload_n 0, 1, .aload 0), (1, .getfield 51, 4, .getfield 507), (4, .getfield 246, 7, .getfield 3), (7, .istore_n 1, 8, .istore 1), (8, .aload_n 0, 9, .aload 0), (9, .getfield 51, 12, .getfield 507), (12, .iconst 0, 13, .iconst 0), (13, .putfield 246, 16, .putfield 3), (16, .iload_n 1, 17, .iload 1), (17, .ireturn, 18, .ireturn)]
def fv_k75 : List fv_Row := [(0, .aload_n 0, 1, .aload 0), (1, .iload_n 1, 2, .iload 1), (2, .invokevirtual 113, 5, .invokestatic 82), (5, .ifCond .eq 20, 8, .ifCond .eq 25), (8, .aload_n 0, 9, .aload 0), (9, .iload_n 2, 10, .iload 2), (10, .invokevirtual 89, 13, .invokestatic 81), (13, .ifCond .eq 12, 16, .ifCond .eq 25), (16, .iload_n 3, 17, .iload 3), (17, .iconst 0, 18, .iconst 0), (18, .iconst 1, 19, .iconst 1), (19, .invokestatic 78, 22, .invokestatic 96), (22, .ifCond .ne 5, 25, .ifCond .ne 27), (25, .iconst (-1), 26, .iconst (-1)), (26, .ireturn, 27, .ireturn), (27, .iconst 0, 28, .iconst 0), (28, .istore 4, 30, .istore 4), (30, .bipush (-4), 32, .iconst (-4)), (32, .istore 5, 34, .istore 5), (34, .iconst 0, 35, .iconst 0), (35, .istore 6, 37, .istore 6), (37, .iload 6, 39, .iload 6), (39, .bipush 30, 41, .iconst 30), (41, .if_icmp .gt 39, 44, .if_icmp .gt 80), (44, .aload_n 0, 45, .aload 0), (45, .iload_n 1, 46, .iload 1), (46, .iload_n 2, 47, .iload 2), (47, .iload 6, 49, .iload 6), (49, .invokevirtual 249, 52, .invokestatic 92), (52, .ifCond .eq 22, 55, .ifCond .eq 74), (55, .iinc 4 1, 58, .iinc 4 1), (58, .iload 5, 60, .iload 5), (60, .bipush (-4), 62, .iconst (-4)), (62, .if_icmp .ne 8, 65, .if_icmp .ne 70), (65, .iload 6, 67, .iload 6), (67, .goto 5, 70, .goto 72), (70, .iload 5, 72, .iload 5), (72, .istore 5, 74, .istore 5), (74, .iinc 6 1, 77, .iinc 6 1), (77, .goto (-40), 80, .multianewarray 37 7), (80, .iload_n 3, 81, .iload 3), (81, .ifCond .ne 8, 84, .ifCond .ne 89), (84, .iload 4, 86, .iload 4), (86, .goto 5, 89, .goto 91), (89, .iload 5, 91, .iload 5), (91, .ireturn, 92, .ireturn)]
def fv_k76 : List fv_Row := [(0, .aload_n 0, 1, .aload 0), (1, .iload_n 1, 2, .iload 1), (2, .iload_n 2, 3, .iload 2), (3, .iload_n 3, 4, .iload 3), (4, .iload 4, 6, .iload 4), (6, .bipush 9, 8, .iconst 9), (8, .invokevirtual 158, 11, .invokestatic 85), (11, .istore 5, 13, .istore 5), (13, .iload 5, 15, .iload 5), (15, .ifCond .eq 6, 18, .ifCond .eq 21), (18, .iload 5, 20, .iload 5), (20, .ireturn, 21, .ireturn), (21, .aload_n 0, 22, .aload 0), (22, .getfield 33, 25, .getfield 504), (25, .aload_n 0, 26, .aload 0), (26, .getfield 29, 29, .getfield 503), (29, .invokevirtual 185, 32, .invokestatic 29), (32, .aload_n 0, 33, .aload 0), (33, .aload_n 0, 34, .aload 0), (34, .getfield 33, 37, .getfield 504), (37, .bipush 8, 39, .iconst 8), (39, .invokevirtual 151, 42, .invokestatic 87), (42, .aload_n 0, 43, .aload 0), (43, .aload_n 0, 44, .aload 0), (44, .getfield 19, 47, .getfield 501), (47, .invokevirtual 197, 50, .invokestatic 13), (50, .invokevirtual 191, 53, .invokestatic 89), (53, .istore 6, 55, .istore 6), (55, .aload_n 0, 56, .aload 0), (56, .getfield 33, 59, .getfield 504), (59, .aload_n 0, 60, .aload 0), (60, .getfield 29, 63, .getfield 503), (63, .invokevirtual 185, 66, .invokestatic 29), (66, .aload_n 0, 67, .aload 0), (67, .getfield 33, 70, .getfield 504), (70, .iload_n 1, 71, .iload 1), (71, .iload_n 2, 72, .iload 2), (72, .iload_n 3, 73, .iload 3), (73, .iload 4, 75, .iload 4), (75, .invokevirtual 162, 78, .invokestatic 32), (78, .aload_n 0, 79, .aload 0), (79, .aload_n 0, 80, .aload 0), (80, .getfield 33, 83, .getfield 504), (83, .bipush 8, 85, .iconst 8), (85, .invokevirtual 151, 88, .invokestatic 87), (88, .aload_n 0, 89, .aload 0), (89, .aload_n 0, 90, .aload 0), (90, .getfield 19, 93, .getfield 501), (93, .invokevirtual 197, 96, .invokestatic 13), (96, .invokevirtual 191, 99, .invokestatic 89), (99, .iload 6, 101, .iload 6), (101, .isub, 102, .isub), (102, .sipush 1000, 105, .iconst 1000), (105, .iadd, 106, .iadd), (106, .ireturn, 107, .ireturn)]
def fv_k77 : List fv_Row := [(0, .iload_n 1, 1, .iload 1), (1, .iconst 0, 2, .iconst 0), (2, .sipush 9999, 5, .iconst 9999), (5, .invokestatic 78, 8, .invokestatic 96), (8, .ifCond .eq 22, 11, .ifCond .eq 30), (11, .iload_n 2, 12, .iload 2), (12, .iconst 1, 13, .iconst 1), (13, .bipush 40, 15, .iconst 40), (15, .invokestatic 78, 18, .invokestatic 96), (18, .ifCond .eq 12, 21, .ifCond .eq 30), (21, .iload_n 3, 22, .iload 3), (22, .iconst 0, 23, .iconst 0), (23, .iconst 1, 24, .iconst 1), (24, .invokestatic 78, 27, .invokestatic 96), (27, .ifCond .ne 5, 30, .ifCond .ne 32), (30, .iconst (-1), 31, .iconst (-1)), (31, .ireturn, 32, .ireturn), (32, .aload_n 0, 33, .aload 0), (33, .getfield 33, 36, .getfield 504), (36, .aload_n 0, 37, .aload 0), (37, .getfield 29, 40, .getfield 503), (40, .invokevirtual 185, 43, .invokestatic 29), (43, .iconst 0, 44, .iconst 0), (44, .istore 4, 46, .istore 4), (46, .iload 4, 48, .iload 4), (48, .iload_n 2, 49, .iload 2), (49, .if_icmp .ge 31, 52, .if_icmp .ge 80), (52, .aload_n 0, 53, .aload 0), (53, .iload_n 1, 54, .iload 1), (54, .iload 4, 56, .iload 4), (56, .invokestatic 252, 59, .invokestatic 94), (59, .invokevirtual 255, 62, .invokestatic 93), (62, .aload_n 0, 63, .aload 0), (63, .getfield 33, 66, .getfield 504), (66, .aload_n 0, 67, .aload 0), (67, .getfield 19, 70, .getfield 501), (70, .invokevirtual 200, 73, .invokestatic 35), (73, .pop, 74, .pop), (74, .iinc 4 1, 77, .iinc 4 1), (77, .goto (-31), 80, .multianewarray 46 5), (80, .iload_n 3, 81, .iload 3), (81, .ifCond .ne 17, 84, .ifCond .ne 98), (84, .aload_n 0, 85, .aload 0), (85, .aload_n 0, 86, .aload 0), (86, .getfield 19, 89, .getfield 501), (89, .invokevirtual 197, 92, .invokestatic 13), (92, .invokevirtual 191, 95, .invokestatic 89), (95, .goto 14, 98, .goto 109), (98, .aload_n 0, 99, .aload 0), (99, .aload_n 0, 100, .aload 0), (100, .getfield 19, 103, .getfield 501), (103, .invokevirtual 197, 106, .invokestatic 13), (106, .invokevirtual 194, 109, .invokestatic 90), (109, .ireturn, 110, .ireturn)]
def fv_k78 : List fv_Row := [(0, .aload_n 0, 1, .aload 0), (1, .getfield 45, 4, .getfield 506), (4, .getfield 182, 7, .getfield 201), (7, .iconst 2, 8, .iconst 2), (8, .if_icmp .lt 6, 11, .if_icmp .lt 14), (11, .bipush (-3), 13, .iconst (-3)), (13, .ireturn, 14, .ireturn), (14, .aload_n 0, 15, .aload 0), (15, .getfield 45, 18, .getfield 506), (18, .aload_n 0, 19, .aload 0), (19, .getfield 29, 22, .getfield 503), (22, .invokevirtual 147, 25, .invokestatic 25), (25, .aload_n 0, 26, .aload 0), (26, .getfield 45, 29, .getfield 506), (29, .getfield 182, 32, .getfield 201), (32, .ireturn, 33, .ireturn)]
def fv_k79 : List fv_Row := [(0, .aload_n 0, 1, .aload 0), (1, .getfield 45, 4, .getfield 506), (4, .aload_n 0, 5, .aload 0), (5, .getfield 29, 8, .getfield 503), (8, .invokevirtual 178, 11, .invokestatic 26), (11, .ifCond .ne 6, 14, .ifCond .ne 17), (14, .bipush (-2), 16, .iconst (-2)), (16, .ireturn, 17, .ireturn), (17, .aload_n 0, 18, .aload 0), (18, .getfield 41, 21, .getfield 505), (21, .iconst 0, 22, .iconst 0), (22, .putfield 182, 25, .putfield 201), (25, .aload_n 0, 26, .aload 0), (26, .getfield 45, 29, .getfield 506), (29, .getfield 182, 32, .getfield 201), (32, .ireturn, 33, .ireturn)]
def fv_k80 : List fv_Row := [(0, .iload_n 1, 1, .iload 1), (1, .tableswitch 138 0 9 #[55, 63, 71, 79, 87, 95, 106, 114, 122, 130], 56, .tableswitch 139 0 9 #[56, 64, 72, 80, 88, 96, 107, 115, 123, 131]), (56, .aload_n 0, 57, .aload 0), (57, .getfield 19, 60, .getfield 501), (60, .getfield 206, 63, .getfield 100), (63, .ireturn, 64, .ireturn), (64, .aload_n 0, 65, .aload 0), (65, .getfield 19, 68, .getfield 501), (68, .getfield 107, 71, .getfield 101), (71, .ireturn, 72, .ireturn), (72, .aload_n 0, 73, .aload 0), (73, .getfield 19, 76, .getfield 501), (76, .getfield 86, 79, .getfield 102), (79, .ireturn, 80, .ireturn), (80, .aload_n 0, 81, .aload 0), (81, .getfield 19, 84, .getfield 501), (84, .getfield 259, 87, .getfield 103), (87, .ireturn, 88, .ireturn), (88, .aload_n 0, 89, .aload 0), (89, .getfield 29, 92, .getfield 503), (92, .getfield 155, 95, .getfield 300), (95, .ireturn, 96, .ireturn), (96, .aload_n 0, 97, .aload 0), (97, .getfield 29, 100, .getfield 503), (100, .getfield 262, 103, .getfield 301), (103, .invokestatic 265, 106, .invokestatic 103), (106, .ireturn, 107, .ireturn), (107, .aload_n 0, 108, .aload 0), (108, .getfield 51, 111, .getfield 507), (111, .getfield 246, 114, .getfield 3), (114, .ireturn, 115, .ireturn), (115, .aload_n 0, 116, .aload 0), (116, .getfield 41, 119, .getfield 505), (119, .getfield 182, 122, .getfield 201), (122, .ireturn, 123, .ireturn), (123, .aload_n 0, 124, .aload 0), (124, .getfield 45, 127, .getfield 506), (127, .getfield 182, 130, .getfield 201), (130, .ireturn, 131, .ireturn), (131, .aload_n 0, 132, .aload 0), (132, .getfield 10, 135, .getfield 500), (135, .getfield 75, 138, .getfield 402), (138, .ireturn, 139, .ireturn), (139, .iconst (-1), 140, .iconst (-1)), (140, .ireturn, 141, .ireturn)]
def fv_k81 : List fv_Row := [(0, .iload_n 1, 1, .iload 1), (1, .iconst 0, 2, .iconst 0), (2, .aload_n 0, 3, .aload 0), (3, .getfield 19, 6, .getfield 501), (6, .getfield 206, 9, .getfield 100), (9, .iconst 1, 10, .iconst 1), (10, .isub, 11, .isub), (11, .invokestatic 78, 14, .invokestatic 96), (14, .ireturn, 15, .ireturn)]
def fv_k82 : List fv_Row := [(0, .iload_n 1, 1, .iload 1), (1, .iconst 0, 2, .iconst 0), (2, .aload_n 0, 3, .aload 0), (3, .getfield 19, 6, .getfield 501), (6, .getfield 86, 9, .getfield 102), (9, .iconst 1, 10, .iconst 1), (10, .isub, 11, .isub), (11, .invokestatic 78, 14, .invokestatic 96), (14, .ireturn, 15, .ireturn)]
def fv_k83 : List fv_Row := [(0, .iload_n 1, 1, .iload 1), (1, .iconst 0, 2, .iconst 0), (2, .aload_n 0, 3, .aload 0), (3, .getfield 19, 6, .getfield 501), (6, .getfield 259, 9, .getfield 103), (9, .iconst 1, 10, .iconst 1), (10, .isub, 11, .isub), (11, .invokestatic 78, 14, .invokestatic 96), (14, .ireturn, 15, .ireturn)]
def fv_k84 : List fv_Row := [(0, .iload_n 1, 1, .iload 1), (1, .iconst 1, 2, .iconst 1), (2, .aload_n 0, 3, .aload 0), (3, .getfield 19, 6, .getfield 501), (6, .invokevirtual 269, 9, .invokestatic 12), (9, .invokestatic 78, 12, .invokestatic 96), (12, .ireturn, 13, .ireturn)]
def fv_k85 : List fv_Row := [(0, .aload_n 0, 1, .aload 0), (1, .iload_n 1, 2, .iload 1), (2, .invokevirtual 113, 5, .invokestatic 82), (5, .ifCond .eq 35, 8, .ifCond .eq 40), (8, .aload_n 0, 9, .aload 0), (9, .iload_n 2, 10, .iload 2), (10, .invokevirtual 113, 13, .invokestatic 82), (13, .ifCond .eq 27, 16, .ifCond .eq 40), (16, .iload_n 1, 17, .iload 1), (17, .iload_n 2, 18, .iload 2), (18, .if_icmp .eq 22, 21, .if_icmp .eq 40), (21, .aload_n 0, 22, .aload 0), (22, .iload_n 3, 23, .iload 3), (23, .invokevirtual 89, 26, .invokestatic 81), (26, .ifCond .eq 14, 29, .ifCond .eq 40), (29, .iload 4, 31, .iload 4), (31, .iconst 1, 32, .iconst 1), (32, .iload 5, 34, .iload 5), (34, .invokestatic 78, 37, .invokestatic 96), (37, .ifCond .ne 5, 40, .ifCond .ne 42), (40, .iconst (-1), 41, .iconst (-1)), (41, .ireturn, 42, .ireturn), (42, .aload_n 0, 43, .aload 0), (43, .getfield 29, 46, .getfield 503), (46, .iload_n 1, 47, .iload 1), (47, .iload_n 3, 48, .iload 3), (48, .invokevirtual 125, 51, .invokestatic 30), (51, .iload 4, 53, .iload 4), (53, .if_icmp .ge 6, 56, .if_icmp .ge 59), (56, .bipush (-2), 58, .iconst (-2)), (58, .ireturn, 59, .ireturn), (59, .aload_n 0, 60, .aload 0), (60, .getfield 29, 63, .getfield 503), (63, .iload_n 2, 64, .iload 2), (64, .iload_n 3, 65, .iload 3), (65, .invokevirtual 125, 68, .invokestatic 30), (68, .iload 4, 70, .iload 4), (70, .iadd, 71, .iadd), (71, .bipush 60, 73, .iconst 60), (73, .if_icmp .le 8, 76, .if_icmp .le 81), (76, .bipush (-3), 78, .iconst (-3)), (78, .goto 4, 81, .goto 82), (81, .iconst 0, 82, .iconst 0), (82, .ireturn, 83, .ireturn)]
def fv_k86 : List fv_Row := [(0, .aload_n 0, 1, .aload 0), (1, .getfield 10, 4, .getfield 500), (4, .aload_n 0, 5, .aload 0), (5, .getfield 23, 8, .getfield 502), (8, .invokevirtual 82, 11, .invokestatic 42), (11, .bipush (-4), 13, .iconst (-4)), (13, .if_icmp .ne 23, 16, .if_icmp .ne 36), (16, .aload_n 0, 17, .aload 0), (17, .getfield 23, 20, .getfield 502), (20, .getfield 206, 23, .getfield 100), (23, .ifCond .eq 13, 26, .ifCond .eq 36), (26, .aload_n 0, 27, .aload 0), (27, .getfield 23, 30, .getfield 502), (30, .getfield 86, 33, .getfield 102), (33, .ifCond .ne 5, 36, .ifCond .ne 38), (36, .iconst 0, 37, .iconst 0), (37, .ireturn, 38, .ireturn), (38, .aload_n 0, 39, .aload 0), (39, .getfield 19, 42, .getfield 501), (42, .astore_n 1, 43, .astore 1), (43, .aload_n 0, 44, .aload 0), (44, .aload_n 0, 45, .aload 0), (45, .getfield 23, 48, .getfield 502), (48, .putfield 19, 51, .putfield 501), (51, .aload_n 0, 52, .aload 0), (52, .aload_n 1, 53, .aload 1), (53, .putfield 23, 56, .putfield 502), (56, .aload_n 0, 57, .aload 0), (57, .getfield 19, 60, .getfield 501), (60, .invokevirtual 272, 63, .invokestatic 17), (63, .aload_n 0, 64, .aload 0), (64, .getfield 29, 67, .getfield 503), (67, .aload_n 0, 68, .aload 0), (68, .getfield 19, 71, .getfield 501), (71, .invokevirtual 275, 74, .invokestatic 28), (74, .aload_n 0, 75, .aload 0), (75, .getfield 41, 78, .getfield 505), (78, .iconst 0, 79, .iconst 0), (79, .putfield 182, 82, .putfield 201), (82, .aload_n 0, 83, .aload 0), (83, .getfield 45, 86, .getfield 506), (86, .iconst 0, 87, .iconst 0), (87, .putfield 182, 90, .putfield 201), (90, .aload_n 0, 91, .aload 0), (91, .getfield 51, 94, .getfield 507), (94, .iconst 0, 95, .iconst 0), (95, .putfield 246, 98, .putfield 3), (98, .iconst 1, 99, .iconst 1), (99, .ireturn, 100, .ireturn)]
def fv_k87 : List fv_Row := [(0, .iconst 0, 1, .iconst 0), (1, .istore_n 3, 2, .istore 3), (2, .iload_n 3, 3, .iload 3), (3, .iload_n 2, 4, .iload 2), (4, .if_icmp .ge 18, 7, .if_icmp .ge 22), (7, .aload_n 1, 8, .aload 1), (8, .aload_n 0, 9, .aload 0), (9, .getfield 19, 12, .getfield 501), (12, .invokevirtual 200, 15, .invokestatic 35), (15, .pop, 16, .pop), (16, .iinc 3 1, 19, .iinc 3 1), (19, .goto (-17), 22, .multianewarray 2 4), (22, .return_, 23, .return_)]
def fv_k88 : List fv_Row := [(0, .iconst 0, 1, .iconst 0), (1, .istore_n 2, 2, .istore 2), (2, .iconst 0, 3, .iconst 0), (3, .istore_n 3, 4, .istore 3), (4, .iload_n 3, 5, .iload 3), (5, .aload_n 0, 6, .aload 0), (6, .getfield 19, 9, .getfield 501), (9, .getfield 86, 12, .getfield 102), (12, .if_icmp .ge 21, 15, .if_icmp .ge 33), (15, .iload_n 2, 16, .iload 2), (16, .aload_n 0, 17, .aload 0), (17, .getfield 29, 20, .getfield 503), (20, .iload_n 3, 21, .iload 3), (21, .iload_n 1, 22, .iload 1), (22, .invokevirtual 125, 25, .invokestatic 30), (25, .iadd, 26, .iadd), (26, .istore_n 2, 27, .istore 2), (27, .iinc 3 1, 30, .iinc 3 1), (30, .goto (-26), 33, .multianewarray 4 4), (33, .iload_n 2, 34, .iload 2), (34, .ireturn, 35, .ireturn)]
def fv_k89 : List fv_Row := [(0, .iconst 0, 1, .iconst 0), (1, .istore_n 2, 2, .istore 2), (2, .iconst 0, 3, .iconst 0), (3, .istore_n 3, 4, .istore 3), (4, .iload_n 3, 5, .iload 3), (5, .aload_n 0, 6, .aload 0), (6, .getfield 19, 9, .getfield 501), (9, .getfield 259, 12, .getfield 103), (12, .if_icmp .ge 55, 15, .if_icmp .ge 67), (15, .iload_n 1, 16, .iload 1), (16, .iload_n 3, 17, .iload 3), (17, .invokestatic 238, 20, .invokestatic 97), (20, .ifCond .eq 41, 23, .ifCond .eq 61), (23, .iload_n 2, 24, .iload 2), (24, .aload_n 0, 25, .aload 0), (25, .getfield 19, 28, .getfield 501), (28, .getfield 138, 31, .getfield 112), (31, .iload_n 3, 32, .iload 3), (32, .invokestatic 103, 35, .invokestatic 99), (35, .aload_n 0, 36, .aload 0), (36, .getfield 33, 39, .getfield 504), (39, .getfield 141, 42, .getfield 303), (42, .iload_n 3, 43, .iload 3), (43, .invokestatic 103, 46, .invokestatic 99), (46, .aload_n 0, 47, .aload 0), (47, .getfield 29, 50, .getfield 503), (50, .getfield 141, 53, .getfield 303), (53, .iload_n 3, 54, .iload 3), (54, .invokestatic 103, 57, .invokestatic 99), (57, .isub, 58, .isub), (58, .imul, 59, .imul), (59, .iadd, 60, .iadd), (60, .istore_n 2, 61, .istore 2), (61, .iinc 3 1, 64, .iinc 3 1), (64, .goto (-60), 67, .multianewarray 4 4), (67, .iload_n 2, 68, .iload 2), (68, .ireturn, 69, .ireturn)]
def fv_k90 : List fv_Row := [(0, .iconst 0, 1, .iconst 0), (1, .istore_n 2, 2, .istore 2), (2, .iconst 0, 3, .iconst 0), (3, .istore_n 3, 4, .istore 3), (4, .iload_n 3, 5, .iload 3), (5, .aload_n 0, 6, .aload 0), (6, .getfield 19, 9, .getfield 501), (9, .getfield 259, 12, .getfield 103), (12, .if_icmp .ge 43, 15, .if_icmp .ge 55), (15, .iload_n 1, 16, .iload 1), (16, .iload_n 3, 17, .iload 3), (17, .invokestatic 238, 20, .invokestatic 97), (20, .ifCond .eq 29, 23, .ifCond .eq 49), (23, .iload_n 2, 24, .iload 2), (24, .aload_n 0, 25, .aload 0), (25, .getfield 33, 28, .getfield 504), (28, .getfield 144, 31, .getfield 304), (31, .iload_n 3, 32, .iload 3), (32, .invokestatic 103, 35, .invokestatic 99), (35, .aload_n 0, 36, .aload 0), (36, .getfield 29, 39, .getfield 503), (39, .getfield 144, 42, .getfield 304), (42, .iload_n 3, 43, .iload 3), (43, .invokestatic 103, 46, .invokestatic 99), (46, .isub, 47, .isub), (47, .iadd, 48, .iadd), (48, .istore_n 2, 49, .istore 2), (49, .iinc 3 1, 52, .iinc 3 1), (52, .goto (-48), 55, .multianewarray 4 4), (55, .iload_n 2, 56, .iload 2), (56, .ireturn, 57, .ireturn)]
def fv_k91 : List fv_Row := [(0, .aload_n 0, 1, .aload 0), (1, .getfield 19, 4, .getfield 501), (4, .iload_n 1, 5, .iload 1), (5, .iload_n 2, 6, .iload 2), (6, .invokevirtual 279, 9, .invokestatic 22), (9, .istore_n 3, 10, .istore 3), (10, .iload_n 3, 11, .iload 3), (11, .ifCond .eq 15, 14, .ifCond .eq 26), (14, .aload_n 0, 15, .aload 0), (15, .getfield 19, 18, .getfield 501), (18, .iload_n 1, 19, .iload 1), (19, .iload_n 2, 20, .iload 2), (20, .invokevirtual 282, 23, .invokestatic 19), (23, .ifCond .eq 5, 26, .ifCond .eq 28), (26, .iconst 0, 27, .iconst 0), (27, .ireturn, 28, .ireturn), (28, .aload_n 0, 29, .aload 0), (29, .getfield 19, 32, .getfield 501), (32, .getfield 96, 35, .getfield 104), (35, .iload_n 2, 36, .iload 2), (36, .invokestatic 103, 39, .invokestatic 99), (39, .istore 4, 41, .istore 4), (41, .iload 4, 43, .iload 4), (43, .iconst 1, 44, .iconst 1), (44, .if_icmp .ne 15, 47, .if_icmp .ne 59), (47, .aload_n 0, 48, .aload 0), (48, .getfield 29, 51, .getfield 503), (51, .invokevirtual 285, 54, .invokestatic 33), (54, .ifCond .ne 5, 57, .ifCond .ne 59), (57, .iconst 1, 58, .iconst 1), (58, .ireturn, 59, .ireturn), (59, .iload 4, 61, .iload 4), (61, .iconst 3, 62, .iconst 3), (62, .if_icmp .ne 11, 65, .if_icmp .ne 73), (65, .iconst 2, 66, .iconst 2), (66, .iload_n 3, 67, .iload 3), (67, .imul, 68, .imul), (68, .iconst 1, 69, .iconst 1), (69, .isub, 70, .isub), (70, .goto 4, 73, .goto 74), (73, .iload_n 3, 74, .iload 3), (74, .ireturn, 75, .ireturn)]
def fv_k92 : List fv_Row := [(0, .aload_n 0, 1, .aload 0), (1, .getfield 33, 4, .getfield 504), (4, .aload_n 0, 5, .aload 0), (5, .getfield 19, 8, .getfield 501), (8, .invokevirtual 275, 11, .invokestatic 28), (11, .aload_n 0, 12, .aload 0), (12, .getfield 33, 15, .getfield 504), (15, .iload_n 1, 16, .iload 1), (16, .iload_n 2, 17, .iload 2), (17, .iload_n 3, 18, .iload 3), (18, .invokevirtual 170, 21, .invokestatic 31), (21, .bipush 9, 23, .iconst 9), (23, .aload_n 0, 24, .aload 0), (24, .getfield 51, 27, .getfield 507), (27, .invokevirtual 288, 30, .invokestatic 2), (30, .invokestatic 221, 33, .dsub), (33, .istore 4, 35, .istore 4), (35, .iconst 1, 36, .iconst 1), (36, .istore 5, 38, .istore 5), (38, .iload 5, 40, .iload 5), (40, .iload 4, 42, .iload 4), (42, .if_icmp .gt 34, 45, .if_icmp .gt 76), (45, .aload_n 0, 46, .aload 0), (46, .getfield 51, 49, .getfield 507), (49, .iload 5, 51, .iload 5), (51, .aload_n 0, 52, .aload 0), (52, .getfield 33, 55, .getfield 504), (55, .aload_n 0, 56, .aload 0), (56, .getfield 19, 59, .getfield 501), (59, .invokevirtual 200, 62, .invokestatic 35), (62, .invokevirtual 291, 65, .invokestatic 3), (65, .ifCond .ne 5, 68, .ifCond .ne 70), (68, .iconst 0, 69, .iconst 0), (69, .ireturn, 70, .ireturn), (70, .iinc 5 1, 73, .iinc 5 1), (73, .goto (-35), 76, .multianewarray 38 6), (76, .iconst 1, 77, .iconst 1), (77, .ireturn, 78, .ireturn)]
def fv_k93 : List fv_Row := [(0, .iload_n 1, 1, .iload 1), (1, .aload_n 0, 2, .aload 0), (2, .getfield 19, 5, .getfield 501), (5, .getfield 86, 8, .getfield 102), (8, .invokestatic 294, 11, .invokestatic 95), (11, .istore_n 2, 12, .istore 2), (12, .iload_n 1, 13, .iload 1), (13, .bipush 16, 15, .iconst 16), (15, .idiv, 16, .idiv), (16, .aload_n 0, 17, .aload 0), (17, .getfield 19, 20, .getfield 501), (20, .getfield 206, 23, .getfield 100), (23, .invokestatic 294, 26, .invokestatic 95), (26, .istore_n 3, 27, .istore 3), (27, .iload_n 1, 28, .iload 1), (28, .bipush 8, 30, .iconst 8), (30, .idiv, 31, .idiv), (31, .iconst 2, 32, .iconst 2), (32, .irem, 33, .irem), (33, .iconst 1, 34, .iconst 1), (34, .if_icmp .ne 7, 37, .if_icmp .ne 41), (37, .iconst 1, 38, .iconst 1), (38, .goto 4, 41, .goto 42), (41, .iconst (-1), 42, .iconst (-1)), (42, .istore 4, 44, .istore 4), (44, .aload_n 0, 45, .aload 0), (45, .getfield 33, 48, .getfield 504), (48, .iload_n 2, 49, .iload 2), (49, .iload_n 3, 50, .iload 3), (50, .iconst 0, 51, .iconst 0), (51, .bipush 60, 53, .iconst 60), (53, .aload_n 0, 54, .aload 0), (54, .getfield 33, 57, .getfield 504), (57, .iload_n 2, 58, .iload 2), (58, .iload_n 3, 59, .iload 3), (59, .invokevirtual 125, 62, .invokestatic 30), (62, .iload 4, 64, .iload 4), (64, .iadd, 65, .iadd), (65, .invokestatic 221, 68, .dsub), (68, .invokestatic 212, 71, .dadd), (71, .invokevirtual 170, 74, .invokestatic 31), (74, .return_, 75, .return_)]
def fv_k94 : List fv_Row := [(0, .ldc2_w 297, 3, .ldc2_w 7919), (3, .iload_n 0, 4, .iload 0), (4, .i2l, 5, .i2l), (5, .lmul, 6, .lmul), (6, .ldc2_w 299, 9, .ldc2_w 6151), (9, .iload_n 1, 10, .iload 1), (10, .i2l, 11, .i2l), (11, .lmul, 12, .lmul), (12, .ladd, 13, .ladd), (13, .lconst 1, 14, .ldc2_w 1), (14, .ladd, 15, .ladd), (15, .lstore_n 2, 16, .lstore 2), (16, .lload_n 2, 17, .lload 2), (17, .lload_n 2, 18, .lload 2), (18, .lmul, 19, .lmul), (19, .ldc2_w 301, 22, .ldc2_w 65521), (22, .lrem, 23, .lrem), (23, .ldc2_w 303, 26, .ldc2_w 8), (26, .ldiv, 27, .ldiv), (27, .l2i, 28, .l2i), (28, .ireturn, 29, .ireturn)]
def fv_k95 : List fv_Row := [(0, .iload_n 1, 1, .iload 1), (1, .ifCond .le 9, 4, .ifCond .le 10), (4, .iload_n 0, 5, .iload 0), (5, .iload_n 1, 6, .iload 1), (6, .irem, 7, .irem), (7, .goto 4, 10, .goto 11), (10, .iconst 0, 11, .iconst 0), (11, .ireturn, 12, .ireturn)]
def fv_k96 : List fv_Row := [(0, .iload_n 0, 1, .iload 0), (1, .iload_n 1, 2, .iload 1), (2, .if_icmp .lt 12, 5, .if_icmp .lt 14), (5, .iload_n 0, 6, .iload 0), (6, .iload_n 2, 7, .iload 2), (7, .if_icmp .gt 7, 10, .if_icmp .gt 14), (10, .iconst 1, 11, .iconst 1), (11, .goto 4, 14, .goto 15), (14, .iconst 0, 15, .iconst 0), (15, .ireturn, 16, .ireturn)]
def fv_k97 : List fv_Row := [(0, .iload_n 0, 1, .iload 0), (1, .iload_n 1, 2, .iload 1), (2, .ishr, 3, .ishr), (3, .iconst 1, 4, .iconst 1), (4, .iand, 5, .iand), (5, .iconst 1, 6, .iconst 1), (6, .if_icmp .ne 7, 9, .if_icmp .ne 13), (9, .iconst 1, 10, .iconst 1), (10, .goto 4, 13, .goto 14), (13, .iconst 0, 14, .iconst 0), (14, .ireturn, 15, .ireturn)]
def fv_k98 : List fv_Row := [(0, .iconst 0, 1, .iconst 0), (1, .istore_n 1, 2, .istore 1), (2, .iload_n 1, 3, .iload 1), (3, .bipush 31, 5, .iconst 31), (5, .if_icmp .ge 19, 8, .if_icmp .ge 24), (8, .iload_n 0, 9, .iload 0), (9, .iload_n 1, 10, .iload 1), (10, .invokestatic 238, 13, .invokestatic 97), (13, .ifCond .eq 5, 16, .ifCond .eq 18), (16, .iload_n 1, 17, .iload 1), (17, .ireturn, 18, .ireturn), (18, .iinc 1 1, 21, .iinc 1 1), (21, .goto (-19), 24, .multianewarray 2 2), (24, .bipush (-4), 26, .iconst (-4)), (26, .ireturn, 27, .ireturn)]
def fv_k99 : List fv_Row := [(0, .iload_n 1, 1, .iload 1), (1, .ifCond .lt 15, 4, .ifCond .lt 16), (4, .iload_n 1, 5, .iload 1), (5, .aload_n 0, 6, .aload 0), (6, .arraylength, 7, .arraylength), (7, .if_icmp .ge 9, 10, .if_icmp .ge 16), (10, .aload_n 0, 11, .aload 0), (11, .iload_n 1, 12, .iload 1), (12, .iaload, 13, .iaload), (13, .goto 4, 16, .goto 17), (16, .iconst 0, 17, .iconst 0), (17, .ireturn, 18, .ireturn)]
def fv_k100 : List fv_Row := [(0, .iload_n 1, 1, .iload 1), (1, .ifCond .lt 13, 4, .ifCond .lt 14), (4, .iload_n 1, 5, .iload 1), (5, .aload_n 0, 6, .aload 0), (6, .arraylength, 7, .arraylength), (7, .if_icmp .ge 7, 10, .if_icmp .ge 14), (10, .aload_n 0, 11, .aload 0), (11, .iload_n 1, 12, .iload 1), (12, .iload_n 2, 13, .iload 2), (13, .iastore, 14, .iastore), (14, .return_, 15, .return_)]
def fv_k101 : List fv_Row := [(0, .iconst 0, 1, .iconst 0), (1, .istore_n 2, 2, .istore 2), (2, .iload_n 2, 3, .iload 2), (3, .aload_n 0, 4, .aload 0), (4, .arraylength, 5, .arraylength), (5, .if_icmp .ge 13, 8, .if_icmp .ge 18), (8, .aload_n 0, 9, .aload 0), (9, .iload_n 2, 10, .iload 2), (10, .iload_n 1, 11, .iload 1), (11, .iastore, 12, .iastore), (12, .iinc 2 1, 15, .iinc 2 1), (15, .goto (-13), 18, .multianewarray 2 3), (18, .return_, 19, .return_)]
def fv_k102 : List fv_Row := [(0, .iconst 0, 1, .iconst 0), (1, .istore_n 2, 2, .istore 2), (2, .iload_n 2, 3, .iload 2), (3, .aload_n 0, 4, .aload 0), (4, .arraylength, 5, .arraylength), (5, .if_icmp .ge 21, 8, .if_icmp .ge 26), (8, .iload_n 2, 9, .iload 2), (9, .aload_n 1, 10, .aload 1), (10, .arraylength, 11, .arraylength), (11, .if_icmp .ge 15, 14, .if_icmp .ge 26), (14, .aload_n 1, 15, .aload 1), (15, .iload_n 2, 16, .iload 2), (16, .aload_n 0, 17, .aload 0), (17, .iload_n 2, 18, .iload 2), (18, .iaload, 19, .iaload), (19, .iastore, 20, .iastore), (20, .iinc 2 1, 23, .iinc 2 1), (23, .goto (-21), 26, .multianewarray 2 3), (26, .return_, 27, .return_)]
def fv_k103 : List fv_Row := [(0, .iconst 0, 1, .iconst 0), (1, .istore_n 1, 2, .istore 1), (2, .aload_n 0, 3, .aload 0), (3, .astore_n 2, 4, .astore 2), (4, .aload_n 2, 5, .aload 2), (5, .arraylength, 6, .arraylength), (6, .istore_n 3, 7, .istore 3), (7, .iconst 0, 8, .iconst 0), (8, .istore 4, 10, .istore 4), (10, .iload 4, 12, .iload 4), (12, .iload_n 3, 13, .iload 3), (13, .if_icmp .ge 20, 16, .if_icmp .ge 33), (16, .aload_n 2, 17, .aload 2), (17, .iload 4, 19, .iload 4), (19, .iaload, 20, .iaload), (20, .istore 5, 22, .istore 5), (22, .iload_n 1, 23, .iload 1), (23, .iload 5, 25, .iload 5), (25, .iadd, 26, .iadd), (26, .istore_n 1, 27, .istore 1), (27, .iinc 4 1, 30, .iinc 4 1), (30, .goto (-20), 33, .multianewarray 10 5), (33, .iload_n 1, 34, .iload 1), (34, .ireturn, 35, .ireturn)]
def fv_k104 : List fv_Row := [(0, .iload_n 0, 1, .iload 0), (1, .bipush 6, 3, .iconst 6), (3, .imul, 4, .imul), (4, .iload_n 1, 5, .iload 1), (5, .iadd, 6, .iadd), (6, .ireturn, 7, .ireturn)]
def fv_k105 : List fv_Row := [(0, .aload_n 0, 1, .aload 0), (1, .invokespecial 1, 4, .nop), (4, .aload_n 0, 5, .aload 0), (5, .bipush 12, 7, .iconst 12), (7, .newarray .int, 9, .newarray .int), (9, .putfield 7, 12, .putfield 601), (12, .aload_n 0, 13, .aload 0), (13, .bipush 8, 15, .iconst 8), (15, .newarray .int, 17, .newarray .int), (17, .putfield 13, 20, .putfield 603), (20, .aload_n 0, 21, .aload 0), (21, .iconst 4, 22, .iconst 4), (22, .newarray .int, 24, .newarray .int), (24, .putfield 16, 27, .putfield 605), (27, .aload_n 0, 28, .aload 0), (28, .bipush 24, 30, .iconst 24), (30, .newarray .int, 32, .newarray .int), (32, .putfield 19, 35, .putfield 607), (35, .aload_n 0, 36, .aload 0), (36, .iconst 4, 37, .iconst 4), (37, .newarray .int, 39, .newarray .int), (39, .putfield 22, 42, .putfield 608), (42, .aload_n 0, 43, .aload 0), (43, .bipush 45, 45, .iconst 45), (45, .newarray .int, 47, .newarray .int), (47, .putfield 25, 50, .putfield 609), (50, .aload_n 0, 51, .aload 0), (51, .bipush 45, 53, .iconst 45), (53, .newarray .int, 55, .newarray .int), (55, .putfield 28, 58, .putfield 610), (58, .aload_n 0, 59, .aload 0), (59, .sipush 360, 62, .iconst 360), (62, .newarray .int, 64, .newarray .int), (64, .putfield 31, 67, .putfield 612), (67, .aload_n 0, 68, .aload 0), (68, .bipush 90, 70, .iconst 90), (70, .newarray .int, 72, .newarray .int), (72, .putfield 34, 75, .putfield 614), (75, .aload_n 0, 76, .aload 0), (76, .bipush 18, 78, .iconst 18), (78, .newarray .int, 80, .newarray .int), (80, .putfield 37, 83, .putfield 616), (83, .aload_n 0, 84, .aload 0), (84, .sipush 200, 87, .iconst 200), (87, .newarray .int, 89, .newarray .int), (89, .putfield 40, 92, .putfield 617), (92, .aload_n 0, 93, .aload 0), (93, .iconst 3, 94, .iconst 3), (94, .newarray .int, 96, .newarray .int), (96, .putfield 43, 99, .putfield 620), (99, .aload_n 0, 100, .aload 0), (100, .bipush 12, 102, .iconst 12), (102, .newarray .int, 104, .newarray .int), (104, .putfield 46, 107, .putfield 622), (107, .aload_n 0, 108, .aload 0), (108, .bipush 8, 110, .iconst 8), (110, .newarray .int, 112, .newarray .int), (112, .putfield 49, 115, .putfield 624), (115, .aload_n 0, 116, .aload 0), (116, .iconst 4, 117, .iconst 4), (117, .newarray .int, 119, .newarray .int), (119, .putfield 52, 122, .putfield 626), (122, .aload_n 0, 123, .aload 0), (123, .bipush 24, 125, .iconst 24), (125, .newarray .int, 127, .newarray .int), (127, .putfield 55, 130, .putfield 628), (130, .aload_n 0, 131, .aload 0), (131, .bipush 45, 133, .iconst 45), (133, .newarray .int, 135, .newarray .int), (135, .putfield 58, 138, .putfield 629), (138, .aload_n 0, 139, .aload 0), (139, .bipush 45, 141, .iconst 45), (141, .newarray .int, 143, .newarray .int), (143, .putfield 61, 146, .putfield 630), (146, .aload_n 0, 147, .aload 0), (147, .invokevirtual 64, 150, .invokestatic 119), (150, .aload_n 0, 151, .aload 0), (151, .iconst 0, 152, .iconst 0), (152, .iconst 2, 153, .iconst 2), (153, .invokevirtual 67, 156, .invokestatic 106), (156, .aload_n 0, 157, .aload 0), (157, .iconst 1, 158, .iconst 1), (158, .iconst 0, 159, .iconst 0), (159, .invokevirtual 67, 162, .invokestatic 106), (162, .aload_n 0, 163, .aload 0), (163, .iconst 2, 164, .iconst 2), (164, .iconst 3, 165, .iconst 3), (165, .invokevirtual 67, 168, .invokestatic 106), (168, .aload_n 0, 169, .aload 0), (169, .iconst 3, 170, .iconst 3), (170, .iconst 1, 171, .iconst 1), (171, .invokevirtual 67, 174, .invokestatic 106), (174, .aload_n 0, 175, .aload 0), (175, .iconst 5, 176, .iconst 5), (176, .putfield 71, 179, .putfield 623), (179, .aload_n 0, 180, .aload 0), (180, .getfield 49, 183, .getfield 624), (183, .iconst 0, 184, .iconst 0), (184, .iconst 3, 185, .iconst 3), (185, .iastore, 186, .iastore), (186, .aload_n 0, 187, .aload 0), (187, .getfield 49, 190, .getfield 624), (190, .iconst 1, 191, .iconst 1), (191, .bipush 6, 193, .iconst 6), (193, .iastore, 194, .iastore), (194, .aload_n 0, 195, .aload 0), (195, .getfield 49, 198, .getfield 624), (198, .iconst 2, 199, .iconst 2), (199, .bipush 13, 201, .iconst 13), (201, .iastore, 202, .iastore), (202, .aload_n 0, 203, .aload 0), (203, .getfield 49, 206, .getfield 624), (206, .iconst 3, 207, .iconst 3), (207, .bipush 9, 209, .iconst 9), (209, .iastore, 210, .iastore), (210, .aload_n 0, 211, .aload 0), (211, .getfield 49, 214, .getfield 624), (214, .iconst 4, 215, .iconst 4), (215, .iconst 4, 216, .iconst 4), (216, .iastore, 217, .iastore), (217, .aload_n 0, 218, .aload 0), (218, .iconst 2, 219, .iconst 2), (219, .putfield 75, 222, .putfield 625), (222, .aload_n 0, 223, .aload 0), (223, .getfield 52, 226, .getfield 626), (226, .iconst 0, 227, .iconst 0), (227, .bipush 7, 229, .iconst 7), (229, .iastore, 230, .iastore), (230, .aload_n 0, 231, .aload 0), (231, .getfield 52, 234, .getfield 626), (234, .iconst 1, 235, .iconst 1), (235, .bipush 25, 237, .iconst 25), (237, .iastore, 238, .iastore), (238, .aload_n 0, 239, .aload 0), (239, .getfield 58, 242, .getfield 629), (242, .iconst 0, 243, .iconst 0), (243, .iconst 4, 244, .iconst 4), (244, .iastore, 245, .iastore), (245, .aload_n 0, 246, .aload 0), (246, .getfield 58, 249, .getfield 629), (249, .iconst 2, 250, .iconst 2), (250, .iconst 2, 251, .iconst 2), (251, .iastore, 252, .iastore), (252, .aload_n 0, 253, .aload 0), (253, .getfield 58, 256, .getfield 629), (256, .bipush 7, 258, .iconst 7), (258, .iconst 3, 259, .iconst 3), (259, .iastore, 260, .iastore), (260, .aload_n 0, 261, .aload 0), (261, .getfield 58, 264, .getfield 629), (264, .bipush 9, 266, .iconst 9), (266, .iconst 5, 267, .iconst 5), (267, .iastore, 268, .iastore), (268, .aload_n 0, 269, .aload 0), (269, .getfield 58, 272, .getfield 629), (272, .bipush 6, 274, .iconst 6), (274, .iconst 1, 275, .iconst 1), (275, .iastore, 276, .iastore), (276, .aload_n 0, 277, .aload 0), (277, .iconst 0, 278, .iconst 0), (278, .iconst 0, 279, .iconst 0), (279, .iconst 4, 280, .iconst 4), (280, .invokevirtual 78, 283, .invokestatic 107), (283, .aload_n 0, 284, .aload 0), (284, .iconst 0, 285, .iconst 0), (285, .iconst 2, 286, .iconst 2), (286, .bipush 6, 288, .iconst 6), (288, .invokevirtual 78, 291, .invokestatic 107), (291, .aload_n 0, 292, .aload 0), (292, .iconst 1, 293, .iconst 1), (293, .iconst 3, 294, .iconst 3), (294, .iconst 5, 295, .iconst 5), (295, .invokevirtual 78, 298, .invokestatic 107), (298, .aload_n 0, 299, .aload 0), (299, .iconst 0, 300, .iconst 0), (300, .iconst 1, 301, .iconst 1), (301, .iconst 2, 302, .iconst 2), (302, .invokevirtual 78, 305, .invokestatic 107), (305, .aload_n 0, 306, .aload 0), (306, .iconst 1, 307, .iconst 1), (307, .iconst 0, 308, .iconst 0), (308, .bipush 7, 310, .iconst 7), (310, .invokevirtual 78, 313, .invokestatic 107), (313, .aload_n 0, 314, .aload 0), (314, .invokevirtual 82, 317, .invokestatic 129), (317, .return_, 318, .return_)]
def fv_k106 : List fv_Row := [(0, .aload_n 0, 1, .aload 0), (1, .getfield 46, 4, .getfield 622), (4, .iconst 2, 5, .iconst 2), (5, .aload_n 0, 6, .aload 0), (6, .getfield 85, 9, .getfield 621), (9, .imul, 10, .imul), (10, .iload_n 1, 11, .iload 1), (11, .iastore, 12, .iastore), (12, .aload_n 0, 13, .aload 0), (13, .getfield 46, 16, .getfield 622), (16, .iconst 2, 17, .iconst 2), (17, .aload_n 0, 18, .aload 0), (18, .getfield 85, 21, .getfield 621), (21, .imul, 22, .imul), (22, .iconst 1, 23, .iconst 1), (23, .iadd, 24, .iadd), (24, .iload_n 2, 25, .iload 2), (25, .iastore, 26, .iastore), (26, .aload_n 0, 27, .aload 0), (27, .dup, 28, .dup), (28, .getfield 85, 31, .getfield 621), (31, .iconst 1, 32, .iconst 1), (32, .iadd, 33, .iadd), (33, .putfield 85, 36, .putfield 621), (36, .return_, 37, .return_)]
def fv_k107 : List fv_Row := [(0, .aload_n 0, 1, .aload 0), (1, .getfield 55, 4, .getfield 628), (4, .iconst 3, 5, .iconst 3), (5, .aload_n 0, 6, .aload 0), (6, .getfield 88, 9, .getfield 627), (9, .imul, 10, .imul), (10, .iload_n 1, 11, .iload 1), (11, .iastore, 12, .iastore), (12, .aload_n 0, 13, .aload 0), (13, .getfield 55, 16, .getfield 628), (16, .iconst 3, 17, .iconst 3), (17, .aload_n 0, 18, .aload 0), (18, .getfield 88, 21, .getfield 627), (21, .imul, 22, .imul), (22, .iconst 1, 23, .iconst 1), (23, .iadd, 24, .iadd), (24, .iload_n 2, 25, .iload 2), (25, .iastore, 26, .iastore), (26, .aload_n 0, 27, .aload 0), (27, .getfield 55, 30, .getfield 628), (30, .iconst 3, 31, .iconst 3), (31, .aload_n 0, 32, .aload 0), (32, .getfield 88, 35, .getfield 627), (35, .imul, 36, .imul), (36, .iconst 2, 37, .iconst 2), (37, .iadd, 38, .iadd), (38, .iload_n 3, 39, .iload 3), (39, .iastore, 40, .iastore), (40, .aload_n 0, 41, .aload 0), (41, .dup, 42, .dup), (42, .getfield 88, 45, .getfield 627), (45, .iconst 1, 46, .iconst 1), (46, .iadd, 47, .iadd), (47, .putfield 88, 50, .putfield 627), (50, .return_, 51, .return_)]
def fv_k108 : List fv_Row := [(0, .iload_n 0, 1, .iload 0), (1, .iload_n 1, 2, .iload 1), (2, .if_icmp .lt 12, 5, .if_icmp .lt 14), (5, .iload_n 0, 6, .iload 0), (6, .iload_n 2, 7, .iload 2), (7, .if_icmp .gt 7, 10, .if_icmp .gt 14), (10, .iconst 1, 11, .iconst 1), (11, .goto 4, 14, .goto 15), (14, .iconst 0, 15, .iconst 0), (15, .ireturn, 16, .ireturn)]
def fv_k109 : List fv_Row := [(0, .iload_n 0, 1, .iload 0), (1, .iload_n 1, 2, .iload 1), (2, .ishr, 3, .ishr), (3, .iconst 1, 4, .iconst 1), (4, .iand, 5, .iand), (5, .iconst 1, 6, .iconst 1), (6, .if_icmp .ne 7, 9, .if_icmp .ne 13), (9, .iconst 1, 10, .iconst 1), (10, .goto 4, 13, .goto 14), (13, .iconst 0, 14, .iconst 0), (14, .ireturn, 15, .ireturn)]
def fv_k110 : List fv_Row := [(0, .iload_n 1, 1, .iload 1), (1, .iconst 0, 2, .iconst 0), (2, .aload_n 0, 3, .aload 0), (3, .getfield 91, 6, .getfield 600), (6, .iconst 1, 7, .iconst 1), (7, .isub, 8, .isub), (8, .invokestatic 94, 11, .invokestatic 108), (11, .ireturn, 12, .ireturn)]
def fv_k111 : List fv_Row := [(0, .iload_n 1, 1, .iload 1), (1, .iconst 0, 2, .iconst 0), (2, .aload_n 0, 3, .aload 0), (3, .getfield 98, 6, .getfield 604), (6, .iconst 1, 7, .iconst 1), (7, .isub, 8, .isub), (8, .invokestatic 94, 11, .invokestatic 108), (11, .ireturn, 12, .ireturn)]
def fv_k112 : List fv_Row := [(0, .iload_n 1, 1, .iload 1), (1, .bipush 32, 3, .iconst 32), (3, .bipush 126, 5, .iconst 126), (5, .invokestatic 94, 8, .invokestatic 108), (8, .ifCond .ne 5, 11, .ifCond .ne 13), (11, .iconst (-1), 12, .iconst (-1)), (12, .ireturn, 13, .ireturn), (13, .aload_n 0, 14, .aload 0), (14, .getfield 101, 17, .getfield 618), (17, .sipush 200, 20, .iconst 200), (20, .if_icmp .ne 6, 23, .if_icmp .ne 26), (23, .bipush (-3), 25, .iconst (-3)), (25, .ireturn, 26, .ireturn), (26, .aload_n 0, 27, .aload 0), (27, .getfield 40, 30, .getfield 617), (30, .aload_n 0, 31, .aload 0), (31, .getfield 101, 34, .getfield 618), (34, .iload_n 1, 35, .iload 1), (35, .iastore, 36, .iastore), (36, .aload_n 0, 37, .aload 0), (37, .dup, 38, .dup), (38, .getfield 101, 41, .getfield 618), (41, .iconst 1, 42, .iconst 1), (42, .iadd, 43, .iadd), (43, .putfield 101, 46, .putfield 618), (46, .aload_n 0, 47, .aload 0), (47, .getfield 101, 50, .getfield 618), (50, .ireturn, 51, .ireturn)]
def fv_k113 : List fv_Row := [(0, .aload_n 0, 1, .aload 0), (1, .getfield 101, 4, .getfield 618), (4, .istore_n 1, 5, .istore 1), (5, .aload_n 0, 6, .aload 0), (6, .iconst 0, 7, .iconst 0), (7, .putfield 101, 10, .putfield 618), (10, .iload_n 1, 11, .iload 1), (11, .ireturn, 12, .ireturn)]
def fv_k114 : List fv_Row := [(0, .iload_n 1, 1, .iload 1), (1, .aload_n 0, 2, .aload 0), (2, .getfield 101, 5, .getfield 618), (5, .if_icmp .ge 12, 8, .if_icmp .ge 17), (8, .aload_n 0, 9, .aload 0), (9, .getfield 40, 12, .getfield 617), (12, .iload_n 1, 13, .iload 1), (13, .iaload, 14, .iaload), (14, .goto 4, 17, .goto 18), (17, .iconst (-1), 18, .iconst (-1)), (18, .ireturn, 19, .ireturn)]
def fv_k115 : List fv_Row := [(0, .iload_n 0, 1, .iload 0), (1, .bipush 48, 3, .iconst 48), (3, .bipush 57, 5, .iconst 57), (5, .invokestatic 94, 8, .invokestatic 108), (8, .ireturn, 9, .ireturn)]
def fv_k116 : List fv_Row := [(0, .iconst 0, 1, .iconst 0), (1, .istore_n 2, 2, .istore 2), (2, .iload_n 2, 3, .iload 2), (3, .iload_n 1, 4, .iload 1), (4, .if_icmp .ge 140, 7, .if_icmp .ge 144), (7, .aload_n 0, 8, .aload 0), (8, .aload_n 0, 9, .aload 0), (9, .getfield 104, 12, .getfield 619), (12, .invokevirtual 107, 15, .invokestatic 114), (15, .invokestatic 111, 18, .invokestatic 115), (18, .ifCond .ne 5, 21, .ifCond .ne 23), (21, .iconst 0, 22, .iconst 0), (22, .ireturn, 23, .ireturn), (23, .aload_n 0, 24, .aload 0), (24, .getfield 43, 27, .getfield 620), (27, .iload_n 2, 28, .iload 2), (28, .aload_n 0, 29, .aload 0), (29, .aload_n 0, 30, .aload 0), (30, .getfield 104, 33, .getfield 619), (33, .invokevirtual 107, 36, .invokestatic 114), (36, .bipush 48, 38, .iconst 48), (38, .isub, 39, .isub), (39, .iastore, 40, .iastore), (40, .aload_n 0, 41, .aload 0), (41, .dup, 42, .dup), (42, .getfield 104, 45, .getfield 619), (45, .iconst 1, 46, .iconst 1), (46, .iadd, 47, .iadd), (47, .putfield 104, 50, .putfield 619), (50, .aload_n 0, 51, .aload 0), (51, .aload_n 0, 52, .aload 0), (52, .getfield 104, 55, .getfield 619), (55, .invokevirtual 107, 58, .invokestatic 114), (58, .invokestatic 111, 61, .invokestatic 115), (61, .ifCond .eq 40, 64, .ifCond .eq 101), (64, .aload_n 0, 65, .aload 0), (65, .getfield 43, 68, .getfield 620), (68, .iload_n 2, 69, .iload 2), (69, .bipush 10, 71, .iconst 10), (71, .aload_n 0, 72, .aload 0), (72, .getfield 43, 75, .getfield 620), (75, .iload_n 2, 76, .iload 2), (76, .iaload, 77, .iaload), (77, .imul, 78, .imul), (78, .aload_n 0, 79, .aload 0), (79, .aload_n 0, 80, .aload 0), (80, .getfield 104, 83, .getfield 619), (83, .invokevirtual 107, 86, .invokestatic 114), (86, .iadd, 87, .iadd), (87, .bipush 48, 89, .iconst 48), (89, .isub, 90, .isub), (90, .iastore, 91, .iastore), (91, .aload_n 0, 92, .aload 0), (92, .dup, 93, .dup), (93, .getfield 104, 96, .getfield 619), (96, .iconst 1, 97, .iconst 1), (97, .iadd, 98, .iadd), (98, .putfield 104, 101, .putfield 619), (101, .aload_n 0, 102, .aload 0), (102, .aload_n 0, 103, .aload 0), (103, .getfield 104, 106, .getfield 619), (106, .invokevirtual 107, 109, .invokestatic 114), (109, .iload_n 2, 110, .iload 2), (110, .iload_n 1, 111, .iload 1), (111, .iconst 1, 112, .iconst 1), (112, .isub, 113, .isub), (113, .if_icmp .ge 8, 116, .if_icmp .ge 121), (116, .bipush 44, 118, .iconst 44), (118, .goto 5, 121, .goto 123), (121, .bipush 59, 123, .iconst 59), (123, .if_icmp .eq 5, 126, .if_icmp .eq 128), (126, .iconst 0, 127, .iconst 0), (127, .ireturn, 128, .ireturn), (128, .aload_n 0, 129, .aload 0), (129, .dup, 130, .dup), (130, .getfield 104, 133, .getfield 619), (133, .iconst 1, 134, .iconst 1), (134, .iadd, 135, .iadd), (135, .putfield 104, 138, .putfield 619), (138, .iinc 2 1, 141, .iinc 2 1), (141, .goto (-139), 144, .multianewarray 2 3), (144, .iconst 1, 145, .iconst 1), (145, .ireturn, 146, .ireturn)]
def fv_k117 : List fv_Row := [(0, .aload_n 0, 1, .aload 0), (1, .getfield 43, 4, .getfield 620), (4, .iload_n 1, 5, .iload 1), (5, .iaload, 6, .iaload), (6, .iload_n 2, 7, .iload 2), (7, .iload_n 3, 8, .iload 3), (8, .invokestatic 94, 11, .invokestatic 108), (11, .ireturn, 12, .ireturn)]
def fv_k118 : List fv_Row := [(0, .iconst 0, 1, .iconst 0), (1, .istore 4, 3, .istore 4), (3, .iload 4, 5, .iload 4), (5, .iload_n 3, 6, .iload 3), (6, .if_icmp .ge 19, 9, .if_icmp .ge 25), (9, .aload_n 0, 10, .aload 0), (10, .iload_n 1, 11, .iload 1), (11, .iload 4, 13, .iload 4), (13, .iadd, 14, .iadd), (14, .aload_n 2, 15, .aload 2), (15, .iload 4, 17, .iload 4), (17, .iaload, 18, .iaload), (18, .iastore, 19, .iastore), (19, .iinc 4 1, 22, .iinc 4 1), (22, .goto (-19), 25, .multianewarray 3 5), (25, .return_, 26, .return_)]
def fv_k119 : List fv_Row := [(0, .aload_n 0, 1, .aload 0), (1, .iconst 0, 2, .iconst 0), (2, .putfield 85, 5, .putfield 621), (5, .aload_n 0, 6, .aload 0), (6, .iconst 0, 7, .iconst 0), (7, .putfield 71, 10, .putfield 623), (10, .aload_n 0, 11, .aload 0), (11, .iconst 0, 12, .iconst 0), (12, .putfield 75, 15, .putfield 625), (15, .aload_n 0, 16, .aload 0), (16, .iconst 0, 17, .iconst 0), (17, .putfield 88, 20, .putfield 627), (20, .iconst 0, 21, .iconst 0), (21, .istore_n 1, 22, .istore 1), (22, .iload_n 1, 23, .iload 1), (23, .bipush 45, 25, .iconst 45), (25, .if_icmp .ge 32, 28, .if_icmp .ge 57), (28, .aload_n 0, 29, .aload 0), (29, .getfield 58, 32, .getfield 629), (32, .iload_n 1, 33, .iload 1), (33, .iload_n 1, 34, .iload 1), (34, .bipush 24, 36, .iconst 24), (36, .if_icmp .lt 13, 39, .if_icmp .lt 49), (39, .iload_n 1, 40, .iload 1), (40, .bipush 28, 42, .iconst 28), (42, .if_icmp .ge 7, 45, .if_icmp .ge 49), (45, .iconst (-1), 46, .iconst (-1)), (46, .goto 4, 49, .goto 50), (49, .iconst 0, 50, .iconst 0), (50, .iastore, 51, .iastore), (51, .iinc 1 1, 54, .iinc 1 1), (54, .goto (-32), 57, .multianewarray 22 2), (57, .return_, 58, .return_)]
def fv_k120 : List fv_Row := [(0, .aload_n 0, 1, .aload 0), (1, .getfield 85, 4, .getfield 621), (4, .bipush 6, 6, .iconst 6), (6, .if_icmp .eq 32, 9, .if_icmp .eq 38), (9, .aload_n 0, 10, .aload 0), (10, .iconst 2, 11, .iconst 2), (11, .invokevirtual 115, 14, .invokestatic 116), (14, .ifCond .eq 24, 17, .ifCond .eq 38), (17, .aload_n 0, 18, .aload 0), (18, .iconst 0, 19, .iconst 0), (19, .iconst 0, 20, .iconst 0), (20, .iconst 3, 21, .iconst 3), (21, .invokevirtual 118, 24, .invokestatic 117), (24, .ifCond .eq 14, 27, .ifCond .eq 38), (27, .aload_n 0, 28, .aload 0), (28, .iconst 1, 29, .iconst 1), (29, .iconst 0, 30, .iconst 0), (30, .bipush 9, 32, .iconst 9), (32, .invokevirtual 118, 35, .invokestatic 117), (35, .ifCond .ne 5, 38, .ifCond .ne 40), (38, .iconst 0, 39, .iconst 0), (39, .ireturn, 40, .ireturn), (40, .aload_n 0, 41, .aload 0), (41, .aload_n 0, 42, .aload 0), (42, .getfield 43, 45, .getfield 620), (45, .iconst 0, 46, .iconst 0), (46, .iaload, 47, .iaload), (47, .aload_n 0, 48, .aload 0), (48, .getfield 43, 51, .getfield 620), (51, .iconst 1, 52, .iconst 1), (52, .iaload, 53, .iaload), (53, .invokevirtual 67, 56, .invokestatic 106), (56, .iconst 1, 57, .iconst 1), (57, .ireturn, 58, .ireturn)]
def fv_k121 : List fv_Row := [(0, .aload_n 0, 1, .aload 0), (1, .getfield 71, 4, .getfield 623), (4, .bipush 8, 6, .iconst 8), (6, .if_icmp .eq 22, 9, .if_icmp .eq 28), (9, .aload_n 0, 10, .aload 0), (10, .iconst 1, 11, .iconst 1), (11, .invokevirtual 115, 14, .invokestatic 116), (14, .ifCond .eq 14, 17, .ifCond .eq 28), (17, .aload_n 0, 18, .aload 0), (18, .iconst 0, 19, .iconst 0), (19, .iconst 1, 20, .iconst 1), (20, .bipush 63, 22, .iconst 63), (22, .invokevirtual 118, 25, .invokestatic 117), (25, .ifCond .ne 5, 28, .ifCond .ne 30), (28, .iconst 0, 29, .iconst 0), (29, .ireturn, 30, .ireturn), (30, .aload_n 0, 31, .aload 0), (31, .getfield 49, 34, .getfield 624), (34, .aload_n 0, 35, .aload 0), (35, .getfield 71, 38, .getfield 623), (38, .aload_n 0, 39, .aload 0), (39, .getfield 43, 42, .getfield 620), (42, .iconst 0, 43, .iconst 0), (43, .iaload, 44, .iaload), (44, .iastore, 45, .iastore), (45, .aload_n 0, 46, .aload 0), (46, .dup, 47, .dup), (47, .getfield 71, 50, .getfield 623), (50, .iconst 1, 51, .iconst 1), (51, .iadd, 52, .iadd), (52, .putfield 71, 55, .putfield 623), (55, .iconst 1, 56, .iconst 1), (56, .ireturn, 57, .ireturn)]
def fv_k122 : List fv_Row := [(0, .aload_n 0, 1, .aload 0), (1, .getfield 75, 4, .getfield 625), (4, .iconst 4, 5, .iconst 4), (5, .if_icmp .eq 22, 8, .if_icmp .eq 27), (8, .aload_n 0, 9, .aload 0), (9, .iconst 1, 10, .iconst 1), (10, .invokevirtual 115, 13, .invokestatic 116), (13, .ifCond .eq 14, 16, .ifCond .eq 27), (16, .aload_n 0, 17, .aload 0), (17, .iconst 0, 18, .iconst 0), (18, .iconst 0, 19, .iconst 0), (19, .bipush 63, 21, .iconst 63), (21, .invokevirtual 118, 24, .invokestatic 117), (24, .ifCond .ne 5, 27, .ifCond .ne 29), (27, .iconst 0, 28, .iconst 0), (28, .ireturn, 29, .ireturn), (29, .aload_n 0, 30, .aload 0), (30, .getfield 52, 33, .getfield 626), (33, .aload_n 0, 34, .aload 0), (34, .getfield 75, 37, .getfield 625), (37, .aload_n 0, 38, .aload 0), (38, .getfield 43, 41, .getfield 620), (41, .iconst 0, 42, .iconst 0), (42, .iaload, 43, .iaload), (43, .iastore, 44, .iastore), (44, .aload_n 0, 45, .aload 0), (45, .dup, 46, .dup), (46, .getfield 75, 49, .getfield 625), (49, .iconst 1, 50, .iconst 1), (50, .iadd, 51, .iadd), (51, .putfield 75, 54, .putfield 625), (54, .iconst 1, 55, .iconst 1), (55, .ireturn, 56, .ireturn)]
def fv_k123 : List fv_Row := [(0, .aload_n 0, 1, .aload 0), (1, .iconst 0, 2, .iconst 0), (2, .iconst 0, 3, .iconst 0), (3, .aload_n 0, 4, .aload 0), (4, .getfield 75, 7, .getfield 625), (7, .iconst 1, 8, .iconst 1), (8, .isub, 9, .isub), (9, .invokevirtual 118, 12, .invokestatic 117), (12, .ifCond .eq 22, 15, .ifCond .eq 34), (15, .aload_n 0, 16, .aload 0), (16, .iconst 1, 17, .iconst 1), (17, .iconst 0, 18, .iconst 0), (18, .aload_n 0, 19, .aload 0), (19, .getfield 85, 22, .getfield 621), (22, .iconst 1, 23, .iconst 1), (23, .isub, 24, .isub), (24, .invokevirtual 118, 27, .invokestatic 117), (27, .ifCond .eq 7, 30, .ifCond .eq 34), (30, .iconst 1, 31, .iconst 1), (31, .goto 4, 34, .goto 35), (34, .iconst 0, 35, .iconst 0), (35, .ireturn, 36, .ireturn)]
def fv_k124 : List fv_Row := [(0, .aload_n 0, 1, .aload 0), (1, .iconst 3, 2, .iconst 3), (2, .invokevirtual 115, 5, .invokestatic 116), (5, .ifCond .eq 21, 8, .ifCond .eq 26), (8, .aload_n 0, 9, .aload 0), (9, .invokevirtual 121, 12, .invokestatic 123), (12, .ifCond .eq 14, 15, .ifCond .eq 26), (15, .aload_n 0, 16, .aload 0), (16, .iconst 2, 17, .iconst 2), (17, .iconst 0, 18, .iconst 0), (18, .bipush 30, 20, .iconst 30), (20, .invokevirtual 118, 23, .invokestatic 117), (23, .ifCond .ne 5, 26, .ifCond .ne 28), (26, .iconst 0, 27, .iconst 0), (27, .ireturn, 28, .ireturn), (28, .aload_n 0, 29, .aload 0), (29, .getfield 58, 32, .getfield 629), (32, .bipush 6, 34, .iconst 6), (34, .aload_n 0, 35, .aload 0), (35, .getfield 43, 38, .getfield 620), (38, .iconst 0, 39, .iconst 0), (39, .iaload, 40, .iaload), (40, .imul, 41, .imul), (41, .aload_n 0, 42, .aload 0), (42, .getfield 43, 45, .getfield 620), (45, .iconst 1, 46, .iconst 1), (46, .iaload, 47, .iaload), (47, .iadd, 48, .iadd), (48, .aload_n 0, 49, .aload 0), (49, .getfield 43, 52, .getfield 620), (52, .iconst 2, 53, .iconst 2), (53, .iaload, 54, .iaload), (54, .iastore, 55, .iastore), (55, .iconst 1, 56, .iconst 1), (56, .ireturn, 57, .ireturn)]
def fv_k125 : List fv_Row := [(0, .aload_n 0, 1, .aload 0), (1, .getfield 88, 4, .getfield 627), (4, .bipush 8, 6, .iconst 8), (6, .if_icmp .eq 29, 9, .if_icmp .eq 35), (9, .aload_n 0, 10, .aload 0), (10, .iconst 3, 11, .iconst 3), (11, .invokevirtual 115, 14, .invokestatic 116), (14, .ifCond .eq 21, 17, .ifCond .eq 35), (17, .aload_n 0, 18, .aload 0), (18, .invokevirtual 121, 21, .invokestatic 123), (21, .ifCond .eq 14, 24, .ifCond .eq 35), (24, .aload_n 0, 25, .aload 0), (25, .iconst 2, 26, .iconst 2), (26, .iconst 1, 27, .iconst 1), (27, .bipush 9, 29, .iconst 9), (29, .invokevirtual 118, 32, .invokestatic 117), (32, .ifCond .ne 5, 35, .ifCond .ne 37), (35, .iconst 0, 36, .iconst 0), (36, .ireturn, 37, .ireturn), (37, .aload_n 0, 38, .aload 0), (38, .aload_n 0, 39, .aload 0), (39, .getfield 43, 42, .getfield 620), (42, .iconst 0, 43, .iconst 0), (43, .iaload, 44, .iaload), (44, .aload_n 0, 45, .aload 0), (45, .getfield 43, 48, .getfield 620), (48, .iconst 1, 49, .iconst 1), (49, .iaload, 50, .iaload), (50, .aload_n 0, 51, .aload 0), (51, .getfield 43, 54, .getfield 620), (54, .iconst 2, 55, .iconst 2), (55, .iaload, 56, .iaload), (56, .invokevirtual 78, 59, .invokestatic 107), (59, .iconst 1, 60, .iconst 1), (60, .ireturn, 61, .ireturn)]
def fv_k126 : List fv_Row := [(0, .aload_n 0, 1, .aload 0), (1, .aload_n 0, 2, .aload 0), (2, .getfield 104, 5, .getfield 619), (5, .invokevirtual 107, 8, .invokestatic 114), (8, .istore_n 1, 9, .istore 1), (9, .aload_n 0, 10, .aload 0), (10, .dup, 11, .dup), (11, .getfield 104, 14, .getfield 619), (14, .iconst 1, 15, .iconst 1), (15, .iadd, 16, .iadd), (16, .putfield 104, 19, .putfield 619), (19, .iload_n 1, 20, .iload 1), (20, .tableswitch 81 110 119 #[61, 81, 81, 81, 81, 71, 66, 81, 56, 76], 76, .tableswitch 101 110 119 #[81, 101, 101, 101, 101, 91, 86, 101, 76, 96]), (76, .aload_n 0, 77, .aload 0), (77, .invokevirtual 125, 80, .invokestatic 120), (80, .ireturn, 81, .ireturn), (81, .aload_n 0, 82, .aload 0), (82, .invokevirtual 128, 85, .invokestatic 121), (85, .ireturn, 86, .ireturn), (86, .aload_n 0, 87, .aload 0), (87, .invokevirtual 131, 90, .invokestatic 122), (90, .ireturn, 91, .ireturn), (91, .aload_n 0, 92, .aload 0), (92, .invokevirtual 134, 95, .invokestatic 124), (95, .ireturn, 96, .ireturn), (96, .aload_n 0, 97, .aload 0), (97, .invokevirtual 137, 100, .invokestatic 125), (100, .ireturn, 101, .ireturn), (101, .iconst 0, 102, .iconst 0), (102, .ireturn, 103, .ireturn)]
def fv_k127 : List fv_Row := [(0, .aload_n 0, 1, .aload 0), (1, .iconst 0, 2, .iconst 0), (2, .putfield 104, 5, .putfield 619), (5, .aload_n 0, 6, .aload 0), (6, .invokevirtual 64, 9, .invokestatic 119), (9, .aload_n 0, 10, .aload 0), (10, .getfield 104, 13, .getfield 619), (13, .aload_n 0, 14, .aload 0), (14, .getfield 101, 17, .getfield 618), (17, .if_icmp .ge 20, 20, .if_icmp .ge 37), (20, .aload_n 0, 21, .aload 0), (21, .getfield 104, 24, .getfield 619), (24, .istore_n 1, 25, .istore 1), (25, .aload_n 0, 26, .aload 0), (26, .invokevirtual 140, 29, .invokestatic 126), (29, .ifCond .ne 5, 32, .ifCond .ne 34), (32, .iload_n 1, 33, .iload 1), (33, .ireturn, 34, .ireturn), (34, .goto (-25), 37, .multianewarray 9 1), (37, .bipush (-4), 39, .iconst (-4)), (39, .ireturn, 40, .ireturn)]
def fv_k128 : List fv_Row := [(0, .aload_n 0, 1, .aload 0), (1, .invokevirtual 143, 4, .invokestatic 127), (4, .bipush (-4), 6, .iconst (-4)), (6, .if_icmp .ne 17, 9, .if_icmp .ne 23), (9, .aload_n 0, 10, .aload 0), (10, .getfield 85, 13, .getfield 621), (13, .ifCond .eq 10, 16, .ifCond .eq 23), (16, .aload_n 0, 17, .aload 0), (17, .getfield 75, 20, .getfield 625), (20, .ifCond .ne 6, 23, .ifCond .ne 26), (23, .bipush (-2), 25, .iconst (-2)), (25, .ireturn, 26, .ireturn), (26, .aload_n 0, 27, .aload 0), (27, .invokevirtual 82, 30, .invokestatic 129), (30, .aload_n 0, 31, .aload 0), (31, .getfield 98, 34, .getfield 604), (34, .ireturn, 35, .ireturn)]
def fv_k129 : List fv_Row := [(0, .aload_n 0, 1, .aload 0), (1, .aload_n 0, 2, .aload 0), (2, .getfield 85, 5, .getfield 621), (5, .putfield 91, 8, .putfield 600), (8, .aload_n 0, 9, .aload 0), (9, .aload_n 0, 10, .aload 0), (10, .getfield 71, 13, .getfield 623), (13, .putfield 147, 16, .putfield 602), (16, .aload_n 0, 17, .aload 0), (17, .aload_n 0, 18, .aload 0), (18, .getfield 75, 21, .getfield 625), (21, .putfield 98, 24, .putfield 604), (24, .aload_n 0, 25, .aload 0), (25, .aload_n 0, 26, .aload 0), (26, .getfield 88, 29, .getfield 627), (29, .putfield 150, 32, .putfield 606), (32, .aload_n 0, 33, .aload 0), (33, .getfield 7, 36, .getfield 601), (36, .iconst 0, 37, .iconst 0), (37, .aload_n 0, 38, .aload 0), (38, .getfield 46, 41, .getfield 622), (41, .bipush 12, 43, .iconst 12), (43, .invokestatic 153, 46, .invokestatic 118), (46, .aload_n 0, 47, .aload 0), (47, .getfield 19, 50, .getfield 607), (50, .iconst 0, 51, .iconst 0), (51, .aload_n 0, 52, .aload 0), (52, .getfield 55, 55, .getfield 628), (55, .bipush 24, 57, .iconst 24), (57, .invokestatic 153, 60, .invokestatic 118), (60, .iconst 0, 61, .iconst 0), (61, .istore_n 1, 62, .istore 1), (62, .iload_n 1, 63, .iload 1), (63, .aload_n 0, 64, .aload 0), (64, .getfield 147, 67, .getfield 602), (67, .if_icmp .ge 30, 70, .if_icmp .ge 97), (70, .aload_n 0, 71, .aload 0), (71, .getfield 13, 74, .getfield 603), (74, .iload_n 1, 75, .iload 1), (75, .aload_n 0, 76, .aload 0), (76, .getfield 49, 79, .getfield 624), (79, .iload_n 1, 80, .iload 1), (80, .iaload, 81, .iaload), (81, .iconst 1, 82, .iconst 1), (82, .aload_n 0, 83, .aload 0), (83, .getfield 91, 86, .getfield 600), (86, .ishl, 87, .ishl), (87, .iconst 1, 88, .iconst 1), (88, .isub, 89, .isub), (89, .iand, 90, .iand), (90, .iastore, 91, .iastore), (91, .iinc 1 1, 94, .iinc 1 1), (94, .goto (-32), 97, .multianewarray 62 2), (97, .iconst 0, 98, .iconst 0), (98, .istore_n 1, 99, .istore 1), (99, .iload_n 1, 100, .iload 1), (100, .aload_n 0, 101, .aload 0), (101, .getfield 98, 104, .getfield 604), (104, .if_icmp .ge 100, 107, .if_icmp .ge 204), (107, .aload_n 0, 108, .aload 0), (108, .getfield 16, 111, .getfield 605), (111, .iload_n 1, 112, .iload 1), (112, .aload_n 0, 113, .aload 0), (113, .getfield 52, 116, .getfield 626), (116, .iload_n 1, 117, .iload 1), (117, .iaload, 118, .iaload), (118, .sipush 192, 121, .iconst 192), (121, .ior, 122, .ior), (122, .iconst 1, 123, .iconst 1), (123, .aload_n 0, 124, .aload 0), (124, .getfield 147, 127, .getfield 602), (127, .ishl, 128, .ishl), (128, .iconst 1, 129, .iconst 1), (129, .isub, 130, .isub), (130, .iand, 131, .iand), (131, .iastore, 132, .iastore), (132, .aload_n 0, 133, .aload 0), (133, .getfield 22, 136, .getfield 608), (136, .iload_n 1, 137, .iload 1), (137, .iconst 0, 138, .iconst 0), (138, .iastore, 139, .iastore), (139, .iconst 1, 140, .iconst 1), (140, .istore_n 2, 141, .istore 2), (141, .iload_n 2, 142, .iload 2), (142, .iconst 1, 143, .iconst 1), (143, .aload_n 0, 144, .aload 0), (144, .getfield 147, 147, .getfield 602), (147, .ishl, 148, .ishl), (148, .if_icmp .ge 50, 151, .if_icmp .ge 198), (151, .aload_n 0, 152, .aload 0), (152, .iload_n 2, 153, .iload 2), (153, .invokevirtual 157, 156, .invokestatic 131), (156, .istore_n 3, 157, .istore 3), (157, .aload_n 0, 158, .aload 0), (158, .getfield 22, 161, .getfield 608), (161, .iload_n 1, 162, .iload 1), (162, .dup2, 163, .dup2), (163, .iaload, 164, .iaload), (164, .iload_n 2, 165, .iload 2), (165, .aload_n 0, 166, .aload 0), (166, .getfield 16, 169, .getfield 605), (169, .iload_n 1, 170, .iload 1), (170, .iaload, 171, .iaload), (171, .iconst (-1), 172, .iconst (-1)), (172, .ixor, 173, .ixor), (173, .iand, 174, .iand), (174, .ifCond .ne 15, 177, .ifCond .ne 189), (177, .iload_n 3, 178, .iload 3), (178, .invokestatic 160, 181, .invokestatic 130), (181, .iconst 1, 182, .iconst 1), (182, .if_icmp .ne 7, 185, .if_icmp .ne 189), (185, .iload_n 3, 186, .iload 3), (186, .goto 4, 189, .goto 190), (189, .iconst 0, 190, .iconst 0), (190, .ior, 191, .ior), (191, .iastore, 192, .iastore), (192, .iinc 2 1, 195, .iinc 2 1), (195, .goto (-54), 198, .multianewarray 141 3), (198, .iinc 1 1, 201, .iinc 1 1), (201, .goto (-102), 204, .multianewarray 99 2), (204, .aload_n 0, 205, .aload 0), (205, .getfield 25, 208, .getfield 609), (208, .iconst 0, 209, .iconst 0), (209, .aload_n 0, 210, .aload 0), (210, .getfield 58, 213, .getfield 629), (213, .bipush 45, 215, .iconst 45), (215, .invokestatic 153, 218, .invokestatic 118), (218, .aload_n 0, 219, .aload 0), (219, .getfield 28, 222, .getfield 610), (222, .iconst 0, 223, .iconst 0), (223, .aload_n 0, 224, .aload 0), (224, .getfield 58, 227, .getfield 629), (227, .bipush 45, 229, .iconst 45), (229, .invokestatic 153, 232, .invokestatic 118), (232, .aload_n 0, 233, .aload 0), (233, .iconst 0, 234, .iconst 0), (234, .putfield 163, 237, .putfield 611), (237, .aload_n 0, 238, .aload 0), (238, .iconst 0, 239, .iconst 0), (239, .putfield 166, 242, .putfield 613), (242, .aload_n 0, 243, .aload 0), (243, .iconst 0, 244, .iconst 0), (244, .putfield 169, 247, .putfield 615), (247, .return_, 248, .return_)]
def fv_k130 : List fv_Row := [(0, .iconst 0, 1, .iconst 0), (1, .istore_n 1, 2, .istore 1), (2, .iconst 0, 3, .iconst 0), (3, .istore_n 2, 4, .istore 2), (4, .iload_n 2, 5, .iload 2), (5, .bipush 8, 7, .iconst 8), (7, .if_icmp .ge 17, 10, .if_icmp .ge 24), (10, .iload_n 1, 11, .iload 1), (11, .iload_n 0, 12, .iload 0), (12, .iload_n 2, 13, .iload 2), (13, .ishr, 14, .ishr), (14, .iconst 1, 15, .iconst 1), (15, .iand, 16, .iand), (16, .iadd, 17, .iadd), (17, .istore_n 1, 18, .istore 1), (18, .iinc 2 1, 21, .iinc 2 1), (21, .goto (-17), 24, .multianewarray 4 3), (24, .iload_n 1, 25, .iload 1), (25, .ireturn, 26, .ireturn)]
def fv_k131 : List fv_Row := [(0, .iconst 1, 1, .iconst 1), (1, .aload_n 0, 2, .aload 0), (2, .getfield 91, 5, .getfield 600), (5, .ishl, 6, .ishl), (6, .iconst 1, 7, .iconst 1), (7, .isub, 8, .isub), (8, .istore_n 2, 9, .istore 2), (9, .iconst 0, 10, .iconst 0), (10, .istore_n 3, 11, .istore 3), (11, .iload_n 3, 12, .iload 3), (12, .aload_n 0, 13, .aload 0), (13, .getfield 147, 16, .getfield 602), (16, .if_icmp .ge 30, 19, .if_icmp .ge 46), (19, .iload_n 2, 20, .iload 2), (20, .iload_n 1, 21, .iload 1), (21, .iload_n 3, 22, .iload 3), (22, .invokestatic 172, 25, .invokestatic 109), (25, .ifCond .eq 12, 28, .ifCond .eq 37), (28, .aload_n 0, 29, .aload 0), (29, .getfield 13, 32, .getfield 603), (32, .iload_n 3, 33, .iload 3), (33, .iaload, 34, .iaload), (34, .goto 4, 37, .goto 38), (37, .iload_n 2, 38, .iload 2), (38, .iand, 39, .iand), (39, .istore_n 2, 40, .istore 2), (40, .iinc 3 1, 43, .iinc 3 1), (43, .goto (-32), 46, .multianewarray 11 4), (46, .iload_n 2, 47, .iload 2), (47, .ireturn, 48, .ireturn)]
def fv_k132 : List fv_Row := [(0, .iload_n 1, 1, .iload 1), (1, .iconst 1, 2, .iconst 1), (2, .iconst 1, 3, .iconst 1), (3, .aload_n 0, 4, .aload 0), (4, .getfield 147, 7, .getfield 602), (7, .ishl, 8, .ishl), (8, .iconst 1, 9, .iconst 1), (9, .isub, 10, .isub), (10, .invokestatic 94, 13, .invokestatic 108), (13, .ifCond .eq 11, 16, .ifCond .eq 24), (16, .aload_n 0, 17, .aload 0), (17, .iload_n 1, 18, .iload 1), (18, .invokevirtual 157, 21, .invokestatic 131), (21, .goto 4, 24, .goto 25), (24, .iconst (-1), 25, .iconst (-1)), (25, .ireturn, 26, .ireturn)]
def fv_k133 : List fv_Row := [(0, .aload_n 0, 1, .aload 0), (1, .iload_n 1, 2, .iload 1), (2, .invokevirtual 176, 5, .invokestatic 111), (5, .ifCond .eq 11, 8, .ifCond .eq 16), (8, .aload_n 0, 9, .aload 0), (9, .iload_n 2, 10, .iload 2), (10, .invokevirtual 179, 13, .invokestatic 110), (13, .ifCond .ne 5, 16, .ifCond .ne 18), (16, .iconst (-1), 17, .iconst (-1)), (17, .ireturn, 18, .ireturn), (18, .bipush (-4), 20, .iconst (-4)), (20, .istore_n 3, 21, .istore 3), (21, .iconst 1, 22, .iconst 1), (22, .istore 4, 24, .istore 4), (24, .iload 4, 26, .iload 4), (26, .iconst 1, 27, .iconst 1), (27, .aload_n 0, 28, .aload 0), (28, .getfield 147, 31, .getfield 602), (31, .ishl, 32, .ishl), (32, .if_icmp .ge 72, 35, .if_icmp .ge 104), (35, .iload 4, 37, .iload 4), (37, .aload_n 0, 38, .aload 0), (38, .getfield 16, 41, .getfield 605), (41, .iload_n 1, 42, .iload 1), (42, .iaload, 43, .iaload), (43, .iconst (-1), 44, .iconst (-1)), (44, .ixor, 45, .ixor), (45, .iand, 46, .iand), (46, .ifCond .ne 19, 49, .ifCond .ne 65), (49, .aload_n 0, 50, .aload 0), (50, .iload 4, 52, .iload 4), (52, .invokevirtual 157, 55, .invokestatic 131), (55, .iconst 1, 56, .iconst 1), (56, .iload_n 2, 57, .iload 2), (57, .ishl, 58, .ishl), (58, .if_icmp .ne 7, 61, .if_icmp .ne 65), (61, .iconst 1, 62, .iconst 1), (62, .goto 4, 65, .goto 66), (65, .iconst 0, 66, .iconst 0), (66, .istore 5, 68, .istore 5), (68, .iload 5, 70, .iload 5), (70, .ifCond .eq 26, 73, .ifCond .eq 96), (73, .iload_n 3, 74, .iload 3), (74, .bipush (-4), 76, .iconst (-4)), (76, .if_icmp .eq 15, 79, .if_icmp .eq 91), (79, .iload 4, 81, .iload 4), (81, .invokestatic 160, 84, .invokestatic 130), (84, .iload_n 3, 85, .iload 3), (85, .invokestatic 160, 88, .invokestatic 130), (88, .if_icmp .ge 8, 91, .if_icmp .ge 96), (91, .iload 4, 93, .iload 4), (93, .goto 4, 96, .goto 97), (96, .iload_n 3, 97, .iload 3), (97, .istore_n 3, 98, .istore 3), (98, .iinc 4 1, 101, .iinc 4 1), (101, .goto (-77), 104, .multianewarray 24 5), (104, .iload_n 3, 105, .iload 3), (105, .ireturn, 106, .ireturn)]
def fv_k134 : List fv_Row := [(0, .iload_n 1, 1, .iload 1), (1, .iconst 1, 2, .iconst 1), (2, .iconst 1, 3, .iconst 1), (3, .aload_n 0, 4, .aload 0), (4, .getfield 147, 7, .getfield 602), (7, .ishl, 8, .ishl), (8, .iconst 1, 9, .iconst 1), (9, .isub, 10, .isub), (10, .invokestatic 94, 13, .invokestatic 108), (13, .ifCond .eq 12, 16, .ifCond .eq 25), (16, .iload_n 2, 17, .iload 2), (17, .iconst 0, 18, .iconst 0), (18, .iconst 1, 19, .iconst 1), (19, .invokestatic 94, 22, .invokestatic 108), (22, .ifCond .ne 5, 25, .ifCond .ne 27), (25, .iconst (-1), 26, .iconst (-1)), (26, .ireturn, 27, .ireturn), (27, .bipush (-4), 29, .iconst (-4)), (29, .istore_n 3, 30, .istore 3), (30, .bipush (-4), 32, .iconst (-4)), (32, .istore 4, 34, .istore 4), (34, .iconst 0, 35, .iconst 0), (35, .istore 5, 37, .istore 5), (37, .iload 5, 39, .iload 5), (39, .aload_n 0, 40, .aload 0), (40, .getfield 147, 43, .getfield 602), (43, .if_icmp .ge 91, 46, .if_icmp .ge 134), (46, .iload_n 1, 47, .iload 1), (47, .iload 5, 49, .iload 5), (49, .invokestatic 172, 52, .invokestatic 109), (52, .ifCond .eq 7, 55, .ifCond .eq 59), (55, .iconst 0, 56, .iconst 0), (56, .goto 19, 59, .goto 75), (59, .aload_n 0, 60, .aload 0), (60, .iload_n 1, 61, .iload 1), (61, .invokevirtual 157, 64, .invokestatic 131), (64, .aload_n 0, 65, .aload 0), (65, .getfield 13, 68, .getfield 603), (68, .iload 5, 70, .iload 5), (70, .iaload, 71, .iaload), (71, .iand, 72, .iand), (72, .invokestatic 160, 75, .invokestatic 130), (75, .istore 6, 77, .istore 6), (77, .iload 6, 79, .iload 6), (79, .ifCond .le 20, 82, .ifCond .le 99), (82, .iload_n 3, 83, .iload 3), (83, .bipush (-4), 85, .iconst (-4)), (85, .if_icmp .eq 10, 88, .if_icmp .eq 95), (88, .iload 6, 90, .iload 6), (90, .iload 4, 92, .iload 4), (92, .if_icmp .ge 7, 95, .if_icmp .ge 99), (95, .iconst 1, 96, .iconst 1), (96, .goto 4, 99, .goto 100), (99, .iconst 0, 100, .iconst 0), (100, .istore 7, 102, .istore 7), (102, .iload 7, 104, .iload 7), (104, .ifCond .eq 8, 107, .ifCond .eq 112), (107, .iload 5, 109, .iload 5), (109, .goto 4, 112, .goto 113), (112, .iload_n 3, 113, .iload 3), (113, .istore_n 3, 114, .istore 3), (114, .iload 7, 116, .iload 7), (116, .ifCond .eq 8, 119, .ifCond .eq 124), (119, .iload 6, 121, .iload 6), (121, .goto 5, 124, .goto 126), (124, .iload 4, 126, .iload 4), (126, .istore 4, 128, .istore 4), (128, .iinc 5 1, 131, .iinc 5 1), (131, .goto (-94), 134, .multianewarray 37 6), (134, .iload_n 2, 135, .iload 2), (135, .ifCond .ne 7, 138, .ifCond .ne 142), (138, .iload_n 3, 139, .iload 3), (139, .goto 5, 142, .goto 144), (142, .iload 4, 144, .iload 4), (144, .ireturn, 145, .ireturn)]
def fv_k135 : List fv_Row := [(0, .aload_n 0, 1, .aload 0), (1, .iload_n 1, 2, .iload 1), (2, .invokevirtual 179, 5, .invokestatic 110), (5, .ifCond .eq 12, 8, .ifCond .eq 17), (8, .iload_n 2, 9, .iload 2), (9, .iconst 0, 10, .iconst 0), (10, .iconst 2, 11, .iconst 2), (11, .invokestatic 94, 14, .invokestatic 108), (14, .ifCond .ne 5, 17, .ifCond .ne 19), (17, .iconst (-1), 18, .iconst (-1)), (18, .ireturn, 19, .ireturn), (19, .iconst 0, 20, .iconst 0), (20, .istore_n 3, 21, .istore 3), (21, .iconst 0, 22, .iconst 0), (22, .istore 4, 24, .istore 4), (24, .iload 4, 26, .iload 4), (26, .aload_n 0, 27, .aload 0), (27, .getfield 98, 30, .getfield 604), (30, .if_icmp .ge 24, 33, .if_icmp .ge 54), (33, .iload_n 3, 34, .iload 3), (34, .aload_n 0, 35, .aload 0), (35, .getfield 25, 38, .getfield 609), (38, .bipush 6, 40, .iconst 6), (40, .iload 4, 42, .iload 4), (42, .imul, 43, .imul), (43, .iload_n 1, 44, .iload 1), (44, .iadd, 45, .iadd), (45, .iaload, 46, .iaload), (46, .iadd, 47, .iadd), (47, .istore_n 3, 48, .istore 3), (48, .iinc 4 1, 51, .iinc 4 1), (51, .goto (-27), 54, .multianewarray 24 5), (54, .iload_n 2, 55, .iload 2), (55, .iconst 2, 56, .iconst 2), (56, .if_icmp .ne 7, 59, .if_icmp .ne 63), (59, .iload_n 3, 60, .iload 3), (60, .goto 13, 63, .goto 73), (63, .aload_n 0, 64, .aload 0), (64, .getfield 7, 67, .getfield 601), (67, .iconst 2, 68, .iconst 2), (68, .iload_n 1, 69, .iload 1), (69, .imul, 70, .imul), (70, .iload_n 2, 71, .iload 2), (71, .iadd, 72, .iadd), (72, .iaload, 73, .iaload), (73, .ireturn, 74, .ireturn)]
def fv_k136 : List fv_Row := [(0, .iload_n 1, 1, .iload 1), (1, .iconst 0, 2, .iconst 0), (2, .aload_n 0, 3, .aload 0), (3, .getfield 147, 6, .getfield 602), (6, .iconst 1, 7, .iconst 1), (7, .isub, 8, .isub), (8, .invokestatic 94, 11, .invokestatic 108), (11, .ifCond .eq 12, 14, .ifCond .eq 23), (14, .aload_n 0, 15, .aload 0), (15, .getfield 13, 18, .getfield 603), (18, .iload_n 1, 19, .iload 1), (19, .iaload, 20, .iaload), (20, .goto 4, 23, .goto 24), (23, .iconst (-1), 24, .iconst (-1)), (24, .ireturn, 25, .ireturn)]
def fv_k137 : List fv_Row := [(0, .aload_n 0, 1, .aload 0), (1, .iload_n 1, 2, .iload 1), (2, .invokevirtual 176, 5, .invokestatic 111), (5, .ifCond .eq 12, 8, .ifCond .eq 17), (8, .iload_n 2, 9, .iload 2), (9, .iconst 0, 10, .iconst 0), (10, .iconst 2, 11, .iconst 2), (11, .invokestatic 94, 14, .invokestatic 108), (14, .ifCond .ne 5, 17, .ifCond .ne 19), (17, .iconst (-1), 18, .iconst (-1)), (18, .ireturn, 19, .ireturn), (19, .iload_n 2, 20, .iload 2), (20, .ifCond .ne 12, 23, .ifCond .ne 32), (23, .aload_n 0, 24, .aload 0), (24, .getfield 16, 27, .getfield 605), (27, .iload_n 1, 28, .iload 1), (28, .iaload, 29, .iaload), (29, .goto 43, 32, .goto 72), (32, .iload_n 2, 33, .iload 2), (33, .iconst 2, 34, .iconst 2), (34, .if_icmp .ne 12, 37, .if_icmp .ne 46), (37, .aload_n 0, 38, .aload 0), (38, .getfield 22, 41, .getfield 608), (41, .iload_n 1, 42, .iload 1), (42, .iaload, 43, .iaload), (43, .goto 29, 46, .goto 72), (46, .aload_n 0, 47, .aload 0), (47, .getfield 25, 50, .getfield 609), (50, .bipush 24, 52, .iconst 24), (52, .iload_n 1, 53, .iload 1), (53, .iadd, 54, .iadd), (54, .iaload, 55, .iaload), (55, .ifCond .ge 8, 58, .ifCond .ge 63), (58, .bipush (-4), 60, .iconst (-4)), (60, .goto 12, 63, .goto 72), (63, .aload_n 0, 64, .aload 0), (64, .getfield 25, 67, .getfield 609), (67, .bipush 24, 69, .iconst 24), (69, .iload_n 1, 70, .iload 1), (70, .iadd, 71, .iadd), (71, .iaload, 72, .iaload), (72, .ireturn, 73, .ireturn)]
def fv_k138 : List fv_Row := [(0, .aload_n 0, 1, .aload 0), (1, .iload_n 1, 2, .iload 1), (2, .invokevirtual 176, 5, .invokestatic 111), (5, .ifCond .eq 25, 8, .ifCond .eq 30), (8, .aload_n 0, 9, .aload 0), (9, .iload_n 2, 10, .iload 2), (10, .invokevirtual 179, 13, .invokestatic 110), (13, .ifCond .eq 17, 16, .ifCond .eq 30), (16, .aload_n 0, 17, .aload 0), (17, .getfield 25, 20, .getfield 609), (20, .bipush 6, 22, .iconst 6), (22, .iload_n 1, 23, .iload 1), (23, .imul, 24, .imul), (24, .iload_n 2, 25, .iload 2), (25, .iadd, 26, .iadd), (26, .iaload, 27, .iaload), (27, .goto 4, 30, .goto 31), (30, .iconst (-1), 31, .iconst (-1)), (31, .ireturn, 32, .ireturn)]
def fv_k139 : List fv_Row := [(0, .iload_n 1, 1, .iload 1), (1, .iconst 0, 2, .iconst 0), (2, .aload_n 0, 3, .aload 0), (3, .getfield 150, 6, .getfield 606), (6, .iconst 1, 7, .iconst 1), (7, .isub, 8, .isub), (8, .invokestatic 94, 11, .invokestatic 108), (11, .ifCond .eq 12, 14, .ifCond .eq 23), (14, .iload_n 2, 15, .iload 2), (15, .iconst 0, 16, .iconst 0), (16, .iconst 4, 17, .iconst 4), (17, .invokestatic 94, 20, .invokestatic 108), (20, .ifCond .ne 5, 23, .ifCond .ne 25), (23, .iconst (-1), 24, .iconst (-1)), (24, .ireturn, 25, .ireturn), (25, .iload_n 2, 26, .iload 2), (26, .iconst 3, 27, .iconst 3), (27, .if_icmp .ne 15, 30, .if_icmp .ne 42), (30, .aload_n 0, 31, .aload 0), (31, .getfield 25, 34, .getfield 609), (34, .bipush 28, 36, .iconst 28), (36, .iload_n 1, 37, .iload 1), (37, .iadd, 38, .iadd), (38, .iaload, 39, .iaload), (39, .goto 30, 42, .goto 69), (42, .iload_n 2, 43, .iload 2), (43, .iconst 4, 44, .iconst 4), (44, .if_icmp .ne 15, 47, .if_icmp .ne 59), (47, .aload_n 0, 48, .aload 0), (48, .getfield 25, 51, .getfield 609), (51, .bipush 36, 53, .iconst 36), (53, .iload_n 1, 54, .iload 1), (54, .iadd, 55, .iadd), (55, .iaload, 56, .iaload), (56, .goto 13, 59, .goto 69), (59, .aload_n 0, 60, .aload 0), (60, .getfield 19, 63, .getfield 607), (63, .iconst 3, 64, .iconst 3), (64, .iload_n 1, 65, .iload 1), (65, .imul, 66, .imul), (66, .iload_n 2, 67, .iload 2), (67, .iadd, 68, .iadd), (68, .iaload, 69, .iaload), (69, .ireturn, 70, .ireturn)]
def fv_k140 : List fv_Row := [(0, .aload_n 0, 1, .aload 0), (1, .getfield 61, 4, .getfield 630), (4, .iconst 0, 5, .iconst 0), (5, .aload_n 1, 6, .aload 1), (6, .bipush 45, 8, .iconst 45), (8, .invokestatic 153, 11, .invokestatic 118), (11, .return_, 12, .return_)]
def fv_k141 : List fv_Row := [(0, .aload_n 0, 1, .aload 0), (1, .getfield 19, 4, .getfield 607), (4, .iconst 3, 5, .iconst 3), (5, .iload_n 1, 6, .iload 1), (6, .imul, 7, .imul), (7, .iaload, 8, .iaload), (8, .istore_n 2, 9, .istore 2), (9, .aload_n 0, 10, .aload 0), (10, .getfield 19, 13, .getfield 607), (13, .iconst 3, 14, .iconst 3), (14, .iload_n 1, 15, .iload 1), (15, .imul, 16, .imul), (16, .iconst 1, 17, .iconst 1), (17, .iadd, 18, .iadd), (18, .iaload, 19, .iaload), (19, .istore_n 3, 20, .istore 3), (20, .aload_n 0, 21, .aload 0), (21, .getfield 61, 24, .getfield 630), (24, .bipush 6, 26, .iconst 6), (26, .iload_n 2, 27, .iload 2), (27, .imul, 28, .imul), (28, .iload_n 3, 29, .iload 3), (29, .iadd, 30, .iadd), (30, .iaload, 31, .iaload), (31, .istore 4, 33, .istore 4), (33, .aload_n 0, 34, .aload 0), (34, .getfield 7, 37, .getfield 601), (37, .iconst 2, 38, .iconst 2), (38, .iload_n 3, 39, .iload 3), (39, .imul, 40, .imul), (40, .iaload, 41, .iaload), (41, .istore 5, 43, .istore 5), (43, .iload 4, 45, .iload 4), (45, .ifCond .ne 14, 48, .ifCond .ne 59), (48, .aload_n 0, 49, .aload 0), (49, .getfield 22, 52, .getfield 608), (52, .iload_n 2, 53, .iload 2), (53, .iaload, 54, .iaload), (54, .iload_n 3, 55, .iload 3), (55, .invokestatic 172, 58, .invokestatic 109), (58, .ireturn, 59, .ireturn), (59, .iload 5, 61, .iload 5), (61, .iconst 1, 62, .iconst 1), (62, .if_icmp .ne 15, 65, .if_icmp .ne 77), (65, .aload_n 0, 66, .aload 0), (66, .getfield 61, 69, .getfield 630), (69, .bipush 44, 71, .iconst 44), (71, .iaload, 72, .iaload), (72, .iconst 2, 73, .iconst 2), (73, .irem, 74, .irem), (74, .goto 20, 77, .goto 94), (77, .iload 5, 79, .iload 5), (79, .iconst 3, 80, .iconst 3), (80, .if_icmp .ne 13, 83, .if_icmp .ne 93), (83, .iload 4, 85, .iload 4), (85, .iconst 1, 86, .iconst 1), (86, .if_icmp .le 7, 89, .if_icmp .le 93), (89, .iconst 2, 90, .iconst 2), (90, .goto 4, 93, .goto 94), (93, .iconst 1, 94, .iconst 1), (94, .istore 6, 96, .istore 6), (96, .aload_n 0, 97, .aload 0), (97, .getfield 61, 100, .getfield 630), (100, .bipush 6, 102, .iconst 6), (102, .iload_n 2, 103, .iload 2), (103, .imul, 104, .imul), (104, .iload_n 3, 105, .iload 3), (105, .iadd, 106, .iadd), (106, .iload 4, 108, .iload 4), (108, .iload 6, 110, .iload 6), (110, .isub, 111, .isub), (111, .iastore, 112, .iastore), (112, .iconst 1, 113, .iconst 1), (113, .ireturn, 114, .ireturn)]
def fv_k142 : List fv_Row := [(0, .iconst 0, 1, .iconst 0), (1, .istore_n 1, 2, .istore 1), (2, .iconst 0, 3, .iconst 0), (3, .istore_n 2, 4, .istore 2), (4, .iload_n 2, 5, .iload 2), (5, .aload_n 0, 6, .aload 0), (6, .getfield 150, 9, .getfield 606), (9, .if_icmp .ge 71, 12, .if_icmp .ge 80), (12, .aload_n 0, 13, .aload 0), (13, .iload_n 2, 14, .iload 2), (14, .invokevirtual 182, 17, .invokestatic 141), (17, .istore_n 3, 18, .istore 3), (18, .iload_n 1, 19, .iload 1), (19, .iload_n 3, 20, .iload 3), (20, .ifCond .eq 9, 23, .ifCond .eq 29), (23, .iconst 1, 24, .iconst 1), (24, .iload_n 2, 25, .iload 2), (25, .ishl, 26, .ishl), (26, .goto 4, 29, .goto 30), (29, .iconst 0, 30, .iconst 0), (30, .ior, 31, .ior), (31, .istore_n 1, 32, .istore 1), (32, .aload_n 0, 33, .aload 0), (33, .getfield 61, 36, .getfield 630), (36, .bipush 28, 38, .iconst 28), (38, .iload_n 2, 39, .iload 2), (39, .iadd, 40, .iadd), (40, .dup2, 41, .dup2), (41, .iaload, 42, .iaload), (42, .iload_n 3, 43, .iload 3), (43, .ifCond .eq 7, 46, .ifCond .eq 50), (46, .iconst 1, 47, .iconst 1), (47, .goto 4, 50, .goto 51), (50, .iconst 0, 51, .iconst 0), (51, .iadd, 52, .iadd), (52, .iastore, 53, .iastore), (53, .aload_n 0, 54, .aload 0), (54, .getfield 61, 57, .getfield 630), (57, .bipush 36, 59, .iconst 36), (59, .iload_n 2, 60, .iload 2), (60, .iadd, 61, .iadd), (61, .dup2, 62, .dup2), (62, .iaload, 63, .iaload), (63, .iload_n 3, 64, .iload 3), (64, .ifCond .eq 7, 67, .ifCond .eq 71), (67, .iconst 0, 68, .iconst 0), (68, .goto 4, 71, .goto 72), (71, .iconst 1, 72, .iconst 1), (72, .iadd, 73, .iadd), (73, .iastore, 74, .iastore), (74, .iinc 2 1, 77, .iinc 2 1), (77, .goto (-73), 80, .multianewarray 4 3), (80, .iconst 0, 81, .iconst 0), (81, .istore_n 2, 82, .istore 2), (82, .iload_n 2, 83, .iload 2), (83, .aload_n 0, 84, .aload 0), (84, .getfield 98, 87, .getfield 604), (87, .if_icmp .ge 164, 90, .if_icmp .ge 251), (90, .aload_n 0, 91, .aload 0), (91, .getfield 61, 94, .getfield 630), (94, .bipush 24, 96, .iconst 24), (96, .iload_n 2, 97, .iload 2), (97, .iadd, 98, .iadd), (98, .iaload, 99, .iaload), (99, .istore_n 3, 100, .istore 3), (100, .iload_n 3, 101, .iload 3), (101, .ifCond .lt 80, 104, .ifCond .lt 181), (104, .aload_n 0, 105, .aload 0), (105, .getfield 61, 108, .getfield 630), (108, .bipush 6, 110, .iconst 6), (110, .iload_n 2, 111, .iload 2), (111, .imul, 112, .imul), (112, .iload_n 3, 113, .iload 3), (113, .iadd, 114, .iadd), (114, .iaload, 115, .iaload), (115, .aload_n 0, 116, .aload 0), (116, .getfield 7, 119, .getfield 601), (119, .iconst 2, 120, .iconst 2), (120, .iload_n 3, 121, .iload 3), (121, .imul, 122, .imul), (122, .iconst 1, 123, .iconst 1), (123, .iadd, 124, .iadd), (124, .iaload, 125, .iaload), (125, .aload_n 0, 126, .aload 0), (126, .getfield 7, 129, .getfield 601), (129, .iconst 2, 130, .iconst 2), (130, .iload_n 3, 131, .iload 3), (131, .imul, 132, .imul), (132, .iaload, 133, .iaload), (133, .iconst 2, 134, .iconst 2), (134, .if_icmp .ne 7, 137, .if_icmp .ne 141), (137, .iconst 2, 138, .iconst 2), (138, .goto 4, 141, .goto 142), (141, .iconst 1, 142, .iconst 1), (142, .imul, 143, .imul), (143, .iadd, 144, .iadd), (144, .istore 4, 146, .istore 4), (146, .aload_n 0, 147, .aload 0), (147, .getfield 61, 150, .getfield 630), (150, .bipush 6, 152, .iconst 6), (152, .iload_n 2, 153, .iload 2), (153, .imul, 154, .imul), (154, .iload_n 3, 155, .iload 3), (155, .iadd, 156, .iadd), (156, .iload 4, 158, .iload 4), (158, .bipush 60, 160, .iconst 60), (160, .if_icmp .le 8, 163, .if_icmp .le 168), (163, .bipush 60, 165, .iconst 60), (165, .goto 5, 168, .goto 170), (168, .iload 4, 170, .iload 4), (170, .iastore, 171, .iastore), (171, .aload_n 0, 172, .aload 0), (172, .getfield 61, 175, .getfield 630), (175, .bipush 24, 177, .iconst 24), (177, .iload_n 2, 178, .iload 2), (178, .iadd, 179, .iadd), (179, .iconst (-1), 180, .iconst (-1)), (180, .iastore, 181, .iastore), (181, .iconst 0, 182, .iconst 0), (182, .istore 4, 184, .istore 4), (184, .iload 4, 186, .iload 4), (186, .aload_n 0, 187, .aload 0), (187, .getfield 91, 190, .getfield 600), (190, .if_icmp .ge 55, 193, .if_icmp .ge 245), (193, .aload_n 0, 194, .aload 0), (194, .getfield 61, 197, .getfield 630), (197, .bipush 6, 199, .iconst 6), (199, .iload_n 2, 200, .iload 2), (200, .imul, 201, .imul), (201, .iload 4, 203, .iload 4), (203, .iadd, 204, .iadd), (204, .iaload, 205, .iaload), (205, .istore 5, 207, .istore 5), (207, .aload_n 0, 208, .aload 0), (208, .getfield 61, 211, .getfield 630), (211, .bipush 6, 213, .iconst 6), (213, .iload_n 2, 214, .iload 2), (214, .imul, 215, .imul), (215, .iload 4, 217, .iload 4), (217, .iadd, 218, .iadd), (218, .iload 5, 220, .iload 5), (220, .bipush 40, 222, .iconst 40), (222, .if_icmp .lt 14, 225, .if_icmp .lt 236), (225, .iload 5, 227, .iload 5), (227, .iload 5, 229, .iload 5), (229, .bipush 10, 231, .iconst 10), (231, .idiv, 232, .idiv), (232, .isub, 233, .isub), (233, .goto 5, 236, .goto 238), (236, .iload 5, 238, .iload 5), (238, .iastore, 239, .iastore), (239, .iinc 4 1, 242, .iinc 4 1), (242, .goto (-58), 245, .multianewarray 184 5), (245, .iinc 2 1, 248, .iinc 2 1), (248, .goto (-166), 251, .multianewarray 82 3), (251, .aload_n 0, 252, .aload 0), (252, .getfield 61, 255, .getfield 630), (255, .bipush 44, 257, .iconst 44), (257, .dup2, 258, .dup2), (258, .iaload, 259, .iaload), (259, .iconst 1, 260, .iconst 1), (260, .iadd, 261, .iadd), (261, .iastore, 262, .iastore), (262, .iload_n 1, 263, .iload 1), (263, .ireturn, 264, .ireturn)]
def fv_k143 : List fv_Row := [(0, .iconst 0, 1, .iconst 0), (1, .istore_n 2, 2, .istore 2), (2, .iload_n 2, 3, .iload 2), (3, .iload_n 1, 4, .iload 1), (4, .if_icmp .ge 14, 7, .if_icmp .ge 18), (7, .aload_n 0, 8, .aload 0), (8, .invokevirtual 185, 11, .invokestatic 142), (11, .pop, 12, .pop), (12, .iinc 2 1, 15, .iinc 2 1), (15, .goto (-13), 18, .multianewarray 2 3), (18, .return_, 19, .return_)]
def fv_k144 : List fv_Row := [(0, .iconst 0, 1, .iconst 0), (1, .istore_n 2, 2, .istore 2), (2, .iconst 0, 3, .iconst 0), (3, .istore_n 3, 4, .istore 3), (4, .iload_n 3, 5, .iload 3), (5, .aload_n 0, 6, .aload 0), (6, .getfield 150, 9, .getfield 606), (9, .if_icmp .ge 62, 12, .if_icmp .ge 71), (12, .iload_n 2, 13, .iload 2), (13, .iload_n 1, 14, .iload 1), (14, .ifCond .lt 15, 17, .ifCond .lt 29), (17, .aload_n 0, 18, .aload 0), (18, .getfield 19, 21, .getfield 607), (21, .iconst 3, 22, .iconst 3), (22, .iload_n 3, 23, .iload 3), (23, .imul, 24, .imul), (24, .iaload, 25, .iaload), (25, .iload_n 1, 26, .iload 1), (26, .if_icmp .ne 36, 29, .if_icmp .ne 62), (29, .aload_n 0, 30, .aload 0), (30, .getfield 19, 33, .getfield 607), (33, .iconst 3, 34, .iconst 3), (34, .iload_n 3, 35, .iload 3), (35, .imul, 36, .imul), (36, .iconst 2, 37, .iconst 2), (37, .iadd, 38, .iadd), (38, .iaload, 39, .iaload), (39, .aload_n 0, 40, .aload 0), (40, .getfield 61, 43, .getfield 630), (43, .bipush 28, 45, .iconst 28), (45, .iload_n 3, 46, .iload 3), (46, .iadd, 47, .iadd), (47, .iaload, 48, .iaload), (48, .aload_n 0, 49, .aload 0), (49, .getfield 25, 52, .getfield 609), (52, .bipush 28, 54, .iconst 28), (54, .iload_n 3, 55, .iload 3), (55, .iadd, 56, .iadd), (56, .iaload, 57, .iaload), (57, .isub, 58, .isub), (58, .imul, 59, .imul), (59, .goto 4, 62, .goto 63), (62, .iconst 0, 63, .iconst 0), (63, .iadd, 64, .iadd), (64, .istore_n 2, 65, .istore 2), (65, .iinc 3 1, 68, .iinc 3 1), (68, .goto (-64), 71, .multianewarray 4 4), (71, .iload_n 2, 72, .iload 2), (72, .ireturn, 73, .ireturn)]
def fv_k145 : List fv_Row := [(0, .iconst 0, 1, .iconst 0), (1, .istore_n 2, 2, .istore 2), (2, .iconst 0, 3, .iconst 0), (3, .istore_n 3, 4, .istore 3), (4, .iload_n 3, 5, .iload 3), (5, .aload_n 0, 6, .aload 0), (6, .getfield 150, 9, .getfield 606), (9, .if_icmp .ge 51, 12, .if_icmp .ge 60), (12, .iload_n 2, 13, .iload 2), (13, .iload_n 1, 14, .iload 1), (14, .ifCond .lt 15, 17, .ifCond .lt 29), (17, .aload_n 0, 18, .aload 0), (18, .getfield 19, 21, .getfield 607), (21, .iconst 3, 22, .iconst 3), (22, .iload_n 3, 23, .iload 3), (23, .imul, 24, .imul), (24, .iaload, 25, .iaload), (25, .iload_n 1, 26, .iload 1), (26, .if_icmp .ne 25, 29, .if_icmp .ne 51), (29, .aload_n 0, 30, .aload 0), (30, .getfield 61, 33, .getfield 630), (33, .bipush 36, 35, .iconst 36), (35, .iload_n 3, 36, .iload 3), (36, .iadd, 37, .iadd), (37, .iaload, 38, .iaload), (38, .aload_n 0, 39, .aload 0), (39, .getfield 25, 42, .getfield 609), (42, .bipush 36, 44, .iconst 36), (44, .iload_n 3, 45, .iload 3), (45, .iadd, 46, .iadd), (46, .iaload, 47, .iaload), (47, .isub, 48, .isub), (48, .goto 4, 51, .goto 52), (51, .iconst 0, 52, .iconst 0), (52, .iadd, 53, .iadd), (53, .istore_n 2, 54, .istore 2), (54, .iinc 3 1, 57, .iinc 3 1), (57, .goto (-53), 60, .multianewarray 4 4), (60, .iload_n 2, 61, .iload 2), (61, .ireturn, 62, .ireturn)]
def fv_k146 : List fv_Row := [(0, .aload_n 0, 1, .aload 0), (1, .getfield 163, 4, .getfield 611), (4, .bipush 8, 6, .iconst 8), (6, .if_icmp .ne 43, 9, .if_icmp .ne 49), (9, .iconst 0, 10, .iconst 0), (10, .istore_n 1, 11, .istore 1), (11, .iload_n 1, 12, .iload 1), (12, .sipush 315, 15, .iconst 315), (15, .if_icmp .ge 24, 18, .if_icmp .ge 39), (18, .aload_n 0, 19, .aload 0), (19, .getfield 31, 22, .getfield 612), (22, .iload_n 1, 23, .iload 1), (23, .aload_n 0, 24, .aload 0), (24, .getfield 31, 27, .getfield 612), (27, .iload_n 1, 28, .iload 1), (28, .bipush 45, 30, .iconst 45), (30, .iadd, 31, .iadd), (31, .iaload, 32, .iaload), (32, .iastore, 33, .iastore), (33, .iinc 1 1, 36, .iinc 1 1), (36, .goto (-25), 39, .multianewarray 11 2), (39, .aload_n 0, 40, .aload 0), (40, .dup, 41, .dup), (41, .getfield 163, 44, .getfield 611), (44, .iconst 1, 45, .iconst 1), (45, .isub, 46, .isub), (46, .putfield 163, 49, .putfield 611), (49, .aload_n 0, 50, .aload 0), (50, .getfield 31, 53, .getfield 612), (53, .bipush 45, 55, .iconst 45), (55, .aload_n 0, 56, .aload 0), (56, .getfield 163, 59, .getfield 611), (59, .imul, 60, .imul), (60, .aload_n 0, 61, .aload 0), (61, .getfield 25, 64, .getfield 609), (64, .bipush 45, 66, .iconst 45), (66, .invokestatic 153, 69, .invokestatic 118), (69, .aload_n 0, 70, .aload 0), (70, .dup, 71, .dup), (71, .getfield 163, 74, .getfield 611), (74, .iconst 1, 75, .iconst 1), (75, .iadd, 76, .iadd), (76, .putfield 163, 79, .putfield 611), (79, .return_, 80, .return_)]
def fv_k147 : List fv_Row := [(0, .iload_n 1, 1, .iload 1), (1, .iconst 1, 2, .iconst 1), (2, .bipush 10, 4, .iconst 10), (4, .invokestatic 94, 7, .invokestatic 108), (7, .ifCond .ne 5, 10, .ifCond .ne 12), (10, .iconst (-1), 11, .iconst (-1)), (11, .ireturn, 12, .ireturn), (12, .aload_n 0, 13, .aload 0), (13, .invokevirtual 188, 16, .invokestatic 146), (16, .aload_n 0, 17, .aload 0), (17, .aload_n 0, 18, .aload 0), (18, .getfield 25, 21, .getfield 609), (21, .invokevirtual 191, 24, .invokestatic 140), (24, .aload_n 0, 25, .aload 0), (25, .iload_n 1, 26, .iload 1), (26, .invokevirtual 195, 29, .invokestatic 143), (29, .aload_n 0, 30, .aload 0), (30, .getfield 25, 33, .getfield 609), (33, .iconst 0, 34, .iconst 0), (34, .aload_n 0, 35, .aload 0), (35, .getfield 61, 38, .getfield 630), (38, .bipush 45, 40, .iconst 45), (40, .invokestatic 153, 43, .invokestatic 118), (43, .aload_n 0, 44, .aload 0), (44, .getfield 25, 47, .getfield 609), (47, .bipush 44, 49, .iconst 44), (49, .iaload, 50, .iaload), (50, .ireturn, 51, .ireturn)]
def fv_k148 : List fv_Row := [(0, .aload_n 0, 1, .aload 0), (1, .iload_n 1, 2, .iload 1), (2, .invokevirtual 176, 5, .invokestatic 111), (5, .ifCond .eq 35, 8, .ifCond .eq 40), (8, .aload_n 0, 9, .aload 0), (9, .iload_n 2, 10, .iload 2), (10, .invokevirtual 176, 13, .invokestatic 111), (13, .ifCond .eq 27, 16, .ifCond .eq 40), (16, .iload_n 1, 17, .iload 1), (17, .iload_n 2, 18, .iload 2), (18, .if_icmp .eq 22, 21, .if_icmp .eq 40), (21, .aload_n 0, 22, .aload 0), (22, .iload_n 3, 23, .iload 3), (23, .invokevirtual 179, 26, .invokestatic 110), (26, .ifCond .eq 14, 29, .ifCond .eq 40), (29, .iload 4, 31, .iload 4), (31, .iconst 1, 32, .iconst 1), (32, .bipush 60, 34, .iconst 60), (34, .invokestatic 94, 37, .invokestatic 108), (37, .ifCond .ne 5, 40, .ifCond .ne 42), (40, .iconst (-1), 41, .iconst (-1)), (41, .ireturn, 42, .ireturn), (42, .aload_n 0, 43, .aload 0), (43, .getfield 25, 46, .getfield 609), (46, .bipush 6, 48, .iconst 6), (48, .iload_n 1, 49, .iload 1), (49, .imul, 50, .imul), (50, .iload_n 3, 51, .iload 3), (51, .iadd, 52, .iadd), (52, .iaload, 53, .iaload), (53, .iload 4, 55, .iload 4), (55, .if_icmp .ge 6, 58, .if_icmp .ge 61), (58, .bipush (-2), 60, .iconst (-2)), (60, .ireturn, 61, .ireturn), (61, .aload_n 0, 62, .aload 0), (62, .getfield 25, 65, .getfield 609), (65, .bipush 6, 67, .iconst 6), (67, .iload_n 2, 68, .iload 2), (68, .imul, 69, .imul), (69, .iload_n 3, 70, .iload 3), (70, .iadd, 71, .iadd), (71, .iaload, 72, .iaload), (72, .iload 4, 74, .iload 4), (74, .iadd, 75, .iadd), (75, .bipush 60, 77, .iconst 60), (77, .if_icmp .le 6, 80, .if_icmp .le 83), (80, .bipush (-3), 82, .iconst (-3)), (82, .ireturn, 83, .ireturn), (83, .aload_n 0, 84, .aload 0), (84, .invokevirtual 188, 87, .invokestatic 146), (87, .aload_n 0, 88, .aload 0), (88, .getfield 25, 91, .getfield 609), (91, .bipush 6, 93, .iconst 6), (93, .iload_n 1, 94, .iload 1), (94, .imul, 95, .imul), (95, .iload_n 3, 96, .iload 3), (96, .iadd, 97, .iadd), (97, .dup2, 98, .dup2), (98, .iaload, 99, .iaload), (99, .iload 4, 101, .iload 4), (101, .isub, 102, .isub), (102, .iastore, 103, .iastore), (103, .aload_n 0, 104, .aload 0), (104, .getfield 25, 107, .getfield 609), (107, .bipush 6, 109, .iconst 6), (109, .iload_n 2, 110, .iload 2), (110, .imul, 111, .imul), (111, .iload_n 3, 112, .iload 3), (112, .iadd, 113, .iadd), (113, .dup2, 114, .dup2), (114, .iaload, 115, .iaload), (115, .iload 4, 117, .iload 4), (117, .iadd, 118, .iadd), (118, .iastore, 119, .iastore), (119, .aload_n 0, 120, .aload 0), (120, .getfield 25, 123, .getfield 609), (123, .bipush 6, 125, .iconst 6), (125, .iload_n 2, 126, .iload 2), (126, .imul, 127, .imul), (127, .iload_n 3, 128, .iload 3), (128, .iadd, 129, .iadd), (129, .iaload, 130, .iaload), (130, .ireturn, 131, .ireturn)]
def fv_k149 : List fv_Row := [(0, .iconst 0, 1, .iconst 0), (1, .istore_n 2, 2, .istore 2), (2, .iload_n 2, 3, .iload 2), (3, .aload_n 0, 4, .aload 0), (4, .getfield 91, 7, .getfield 600), (7, .if_icmp .ge 38, 10, .if_icmp .ge 45), (10, .aload_n 0, 11, .aload 0), (11, .getfield 7, 14, .getfield 601), (14, .iconst 2, 15, .iconst 2), (15, .iload_n 2, 16, .iload 2), (16, .imul, 17, .imul), (17, .iaload, 18, .iaload), (18, .iconst 1, 19, .iconst 1), (19, .if_icmp .ne 20, 22, .if_icmp .ne 39), (22, .aload_n 0, 23, .aload 0), (23, .getfield 25, 26, .getfield 609), (26, .bipush 6, 28, .iconst 6), (28, .iload_n 1, 29, .iload 1), (29, .imul, 30, .imul), (30, .iload_n 2, 31, .iload 2), (31, .iadd, 32, .iadd), (32, .iaload, 33, .iaload), (33, .iconst 1, 34, .iconst 1), (34, .if_icmp .le 5, 37, .if_icmp .le 39), (37, .iload_n 2, 38, .iload 2), (38, .ireturn, 39, .ireturn), (39, .iinc 2 1, 42, .iinc 2 1), (42, .goto (-40), 45, .multianewarray 2 3), (45, .iconst (-1), 46, .iconst (-1)), (46, .ireturn, 47, .ireturn)]
def fv_k150 : List fv_Row := [(0, .aload_n 0, 1, .aload 0), (1, .iload_n 1, 2, .iload 1), (2, .invokevirtual 176, 5, .invokestatic 111), (5, .ifCond .eq 11, 8, .ifCond .eq 16), (8, .aload_n 0, 9, .aload 0), (9, .iload_n 2, 10, .iload 2), (10, .invokevirtual 179, 13, .invokestatic 110), (13, .ifCond .ne 5, 16, .ifCond .ne 18), (16, .iconst (-1), 17, .iconst (-1)), (17, .ireturn, 18, .ireturn), (18, .aload_n 0, 19, .aload 0), (19, .getfield 25, 22, .getfield 609), (22, .bipush 6, 24, .iconst 6), (24, .iload_n 1, 25, .iload 1), (25, .imul, 26, .imul), (26, .iload_n 2, 27, .iload 2), (27, .iadd, 28, .iadd), (28, .iaload, 29, .iaload), (29, .ifCond .le 7, 32, .ifCond .le 36), (32, .iload_n 2, 33, .iload 2), (33, .goto 8, 36, .goto 41), (36, .aload_n 0, 37, .aload 0), (37, .iload_n 1, 38, .iload 1), (38, .invokevirtual 199, 41, .invokestatic 149), (41, .istore_n 3, 42, .istore 3), (42, .aload_n 0, 43, .aload 0), (43, .getfield 25, 46, .getfield 609), (46, .bipush 24, 48, .iconst 24), (48, .iload_n 1, 49, .iload 1), (49, .iadd, 50, .iadd), (50, .iaload, 51, .iaload), (51, .ifCond .ge 7, 54, .ifCond .ge 58), (54, .iload_n 3, 55, .iload 3), (55, .ifCond .ge 6, 58, .ifCond .ge 61), (58, .bipush (-2), 60, .iconst (-2)), (60, .ireturn, 61, .ireturn), (61, .aload_n 0, 62, .aload 0), (62, .invokevirtual 188, 65, .invokestatic 146), (65, .aload_n 0, 66, .aload 0), (66, .getfield 25, 69, .getfield 609), (69, .bipush 6, 71, .iconst 6), (71, .iload_n 1, 72, .iload 1), (72, .imul, 73, .imul), (73, .iload_n 3, 74, .iload 3), (74, .iadd, 75, .iadd), (75, .dup2, 76, .dup2), (76, .iaload, 77, .iaload), (77, .iload_n 3, 78, .iload 3), (78, .iload_n 2, 79, .iload 2), (79, .if_icmp .ne 7, 82, .if_icmp .ne 86), (82, .iconst 1, 83, .iconst 1), (83, .goto 4, 86, .goto 87), (86, .iconst 2, 87, .iconst 2), (87, .isub, 88, .isub), (88, .iastore, 89, .iastore), (89, .aload_n 0, 90, .aload 0), (90, .getfield 25, 93, .getfield 609), (93, .bipush 24, 95, .iconst 24), (95, .iload_n 1, 96, .iload 1), (96, .iadd, 97, .iadd), (97, .iload_n 2, 98, .iload 2), (98, .iastore, 99, .iastore), (99, .aload_n 0, 100, .aload 0), (100, .getfield 25, 103, .getfield 609), (103, .bipush 6, 105, .iconst 6), (105, .iload_n 1, 106, .iload 1), (106, .imul, 107, .imul), (107, .iload_n 2, 108, .iload 2), (108, .iadd, 109, .iadd), (109, .iaload, 110, .iaload), (110, .ireturn, 111, .ireturn)]
def fv_k151 : List fv_Row := [(0, .aload_n 0, 1, .aload 0), (1, .getfield 163, 4, .getfield 611), (4, .ifCond .ne 6, 7, .ifCond .ne 10), (7, .bipush (-2), 9, .iconst (-2)), (9, .ireturn, 10, .ireturn), (10, .aload_n 0, 11, .aload 0), (11, .dup, 12, .dup), (12, .getfield 163, 15, .getfield 611), (15, .iconst 1, 16, .iconst 1), (16, .isub, 17, .isub), (17, .putfield 163, 20, .putfield 611), (20, .iconst 0, 21, .iconst 0), (21, .istore_n 1, 22, .istore 1), (22, .iload_n 1, 23, .iload 1), (23, .bipush 45, 25, .iconst 45), (25, .if_icmp .ge 29, 28, .if_icmp .ge 54), (28, .aload_n 0, 29, .aload 0), (29, .getfield 25, 32, .getfield 609), (32, .iload_n 1, 33, .iload 1), (33, .aload_n 0, 34, .aload 0), (34, .getfield 31, 37, .getfield 612), (37, .bipush 45, 39, .iconst 45), (39, .aload_n 0, 40, .aload 0), (40, .getfield 163, 43, .getfield 611), (43, .imul, 44, .imul), (44, .iload_n 1, 45, .iload 1), (45, .iadd, 46, .iadd), (46, .iaload, 47, .iaload), (47, .iastore, 48, .iastore), (48, .iinc 1 1, 51, .iinc 1 1), (51, .goto (-29), 54, .multianewarray 22 2), (54, .aload_n 0, 55, .aload 0), (55, .getfield 163, 58, .getfield 611), (58, .ireturn, 59, .ireturn)]
def fv_k152 : List fv_Row := [(0, .iload_n 1, 1, .iload 1), (1, .iconst 0, 2, .iconst 0), (2, .bipush 40, 4, .iconst 40), (4, .invokestatic 94, 7, .invokestatic 108), (7, .ifCond .eq 29, 10, .ifCond .eq 36), (10, .aload_n 0, 11, .aload 0), (11, .iload_n 2, 12, .iload 2), (12, .invokevirtual 176, 15, .invokestatic 111), (15, .ifCond .eq 21, 18, .ifCond .eq 36), (18, .aload_n 0, 19, .aload 0), (19, .iload_n 3, 20, .iload 3), (20, .invokevirtual 179, 23, .invokestatic 110), (23, .ifCond .eq 13, 26, .ifCond .eq 36), (26, .iload 4, 28, .iload 4), (28, .iconst 0, 29, .iconst 0), (29, .iconst 2, 30, .iconst 2), (30, .invokestatic 94, 33, .invokestatic 108), (33, .ifCond .ne 5, 36, .ifCond .ne 38), (36, .iconst (-1), 37, .iconst (-1)), (37, .ireturn, 38, .ireturn), (38, .aload_n 0, 39, .aload 0), (39, .aload_n 0, 40, .aload 0), (40, .getfield 25, 43, .getfield 609), (43, .invokevirtual 191, 46, .invokestatic 140), (46, .aload_n 0, 47, .aload 0), (47, .iload_n 1, 48, .iload 1), (48, .invokevirtual 195, 51, .invokestatic 143), (51, .iload 4, 53, .iload 4), (53, .ifCond .ne 17, 56, .ifCond .ne 70), (56, .aload_n 0, 57, .aload 0), (57, .getfield 61, 60, .getfield 630), (60, .bipush 6, 62, .iconst 6), (62, .iload_n 2, 63, .iload 2), (63, .imul, 64, .imul), (64, .iload_n 3, 65, .iload 3), (65, .iadd, 66, .iadd), (66, .iaload, 67, .iaload), (67, .goto 22, 70, .goto 89), (70, .iload 4, 72, .iload 4), (72, .iconst 1, 73, .iconst 1), (73, .if_icmp .ne 11, 76, .if_icmp .ne 84), (76, .aload_n 0, 77, .aload 0), (77, .iload_n 2, 78, .iload 2), (78, .invokevirtual 202, 81, .invokestatic 144), (81, .goto 8, 84, .goto 89), (84, .aload_n 0, 85, .aload 0), (85, .iload_n 2, 86, .iload 2), (86, .invokevirtual 205, 89, .invokestatic 145), (89, .ireturn, 90, .ireturn)]
def fv_k153 : List fv_Row := [(0, .iload_n 1, 1, .iload 1), (1, .iconst 0, 2, .iconst 0), (2, .iconst 1, 3, .iconst 1), (3, .invokestatic 94, 6, .invokestatic 108), (6, .ifCond .ne 5, 9, .ifCond .ne 11), (9, .iconst (-1), 10, .iconst (-1)), (10, .ireturn, 11, .ireturn), (11, .aload_n 0, 12, .aload 0), (12, .aload_n 0, 13, .aload 0), (13, .getfield 25, 16, .getfield 609), (16, .invokevirtual 191, 19, .invokestatic 140), (19, .iconst 1, 20, .iconst 1), (20, .istore_n 2, 21, .istore 2), (21, .iload_n 2, 22, .iload 2), (22, .bipush 40, 24, .iconst 40), (24, .if_icmp .gt 52, 27, .if_icmp .gt 76), (27, .aload_n 0, 28, .aload 0), (28, .invokevirtual 185, 31, .invokestatic 142), (31, .istore_n 3, 32, .istore 3), (32, .iconst 0, 33, .iconst 0), (33, .istore 4, 35, .istore 4), (35, .iload 4, 37, .iload 4), (37, .aload_n 0, 38, .aload 0), (38, .getfield 150, 41, .getfield 606), (41, .if_icmp .ge 29, 44, .if_icmp .ge 70), (44, .iload_n 3, 45, .iload 3), (45, .iload 4, 47, .iload 4), (47, .invokestatic 172, 50, .invokestatic 109), (50, .ifCond .ne 14, 53, .ifCond .ne 64), (53, .iload_n 1, 54, .iload 1), (54, .ifCond .ne 8, 57, .ifCond .ne 62), (57, .iload 4, 59, .iload 4), (59, .goto 4, 62, .goto 63), (62, .iload_n 2, 63, .iload 2), (63, .ireturn, 64, .ireturn), (64, .iinc 4 1, 67, .iinc 4 1), (67, .goto (-32), 70, .multianewarray 35 5), (70, .iinc 2 1, 73, .iinc 2 1), (73, .goto (-52), 76, .multianewarray 21 3), (76, .bipush (-4), 78, .iconst (-4)), (78, .ireturn, 79, .ireturn)]
def fv_k154 : List fv_Row := [(0, .aload_n 0, 1, .aload 0), (1, .iload_n 1, 2, .iload 1), (2, .invokevirtual 176, 5, .invokestatic 111), (5, .ifCond .ne 5, 8, .ifCond .ne 10), (8, .iconst (-1), 9, .iconst (-1)), (9, .ireturn, 10, .ireturn), (10, .aload_n 0, 11, .aload 0), (11, .aload_n 0, 12, .aload 0), (12, .getfield 25, 15, .getfield 609), (15, .invokevirtual 191, 18, .invokestatic 140), (18, .iconst 0, 19, .iconst 0), (19, .istore_n 2, 20, .istore 2), (20, .iload_n 2, 21, .iload 2), (21, .bipush 41, 23, .iconst 41), (23, .if_icmp .ge 24, 26, .if_icmp .ge 47), (26, .aload_n 0, 27, .aload 0), (27, .invokevirtual 185, 30, .invokestatic 142), (30, .pop, 31, .pop), (31, .aload_n 0, 32, .aload 0), (32, .iload_n 1, 33, .iload 1), (33, .invokevirtual 205, 36, .invokestatic 145), (36, .ifCond .le 5, 39, .ifCond .le 41), (39, .iload_n 2, 40, .iload 2), (40, .ireturn, 41, .ireturn), (41, .iinc 2 1, 44, .iinc 2 1), (44, .goto (-24), 47, .multianewarray 20 3), (47, .iload_n 2, 48, .iload 2), (48, .ireturn, 49, .ireturn)]
def fv_k155 : List fv_Row := [(0, .iconst 0, 1, .iconst 0), (1, .istore_n 3, 2, .istore 3), (2, .iconst 0, 3, .iconst 0), (3, .istore 4, 5, .istore 4), (5, .iload 4, 7, .iload 4), (7, .aload_n 0, 8, .aload 0), (8, .getfield 150, 11, .getfield 606), (11, .if_icmp .ge 45, 14, .if_icmp .ge 56), (14, .iload_n 3, 15, .iload 3), (15, .aload_n 0, 16, .aload 0), (16, .getfield 19, 19, .getfield 607), (19, .iconst 3, 20, .iconst 3), (20, .iload 4, 22, .iload 4), (22, .imul, 23, .imul), (23, .iaload, 24, .iaload), (24, .iload_n 1, 25, .iload 1), (25, .if_icmp .ne 22, 28, .if_icmp .ne 47), (28, .aload_n 0, 29, .aload 0), (29, .getfield 19, 32, .getfield 607), (32, .iconst 3, 33, .iconst 3), (33, .iload 4, 35, .iload 4), (35, .imul, 36, .imul), (36, .iconst 1, 37, .iconst 1), (37, .iadd, 38, .iadd), (38, .iaload, 39, .iaload), (39, .iload_n 2, 40, .iload 2), (40, .if_icmp .ne 7, 43, .if_icmp .ne 47), (43, .iconst 1, 44, .iconst 1), (44, .goto 4, 47, .goto 48), (47, .iconst 0, 48, .iconst 0), (48, .iadd, 49, .iadd), (49, .istore_n 3, 50, .istore 3), (50, .iinc 4 1, 53, .iinc 4 1), (53, .goto (-48), 56, .multianewarray 5 5), (56, .iload_n 3, 57, .iload 3), (57, .ifCond .eq 16, 60, .ifCond .eq 73), (60, .aload_n 0, 61, .aload 0), (61, .getfield 22, 64, .getfield 608), (64, .iload_n 1, 65, .iload 1), (65, .iaload, 66, .iaload), (66, .iload_n 2, 67, .iload 2), (67, .invokestatic 172, 70, .invokestatic 109), (70, .ifCond .eq 5, 73, .ifCond .eq 75), (73, .iconst 0, 74, .iconst 0), (74, .ireturn, 75, .ireturn), (75, .aload_n 0, 76, .aload 0), (76, .getfield 7, 79, .getfield 601), (79, .iconst 2, 80, .iconst 2), (80, .iload_n 2, 81, .iload 2), (81, .imul, 82, .imul), (82, .iaload, 83, .iaload), (83, .iconst 3, 84, .iconst 3), (84, .if_icmp .ne 11, 87, .if_icmp .ne 95), (87, .iconst 2, 88, .iconst 2), (88, .iload_n 3, 89, .iload 3), (89, .imul, 90, .imul), (90, .iconst 1, 91, .iconst 1), (91, .isub, 92, .isub), (92, .goto 32, 95, .goto 124), (95, .aload_n 0, 96, .aload 0), (96, .getfield 7, 99, .getfield 601), (99, .iconst 2, 100, .iconst 2), (100, .iload_n 2, 101, .iload 2), (101, .imul, 102, .imul), (102, .iaload, 103, .iaload), (103, .iconst 1, 104, .iconst 1), (104, .if_icmp .ne 19, 107, .if_icmp .ne 123), (107, .aload_n 0, 108, .aload 0), (108, .getfield 25, 111, .getfield 609), (111, .bipush 44, 113, .iconst 44), (113, .iaload, 114, .iaload), (114, .iconst 2, 115, .iconst 2), (115, .irem, 116, .irem), (116, .ifCond .ne 7, 119, .ifCond .ne 123), (119, .iconst 1, 120, .iconst 1), (120, .goto 4, 123, .goto 124), (123, .iload_n 3, 124, .iload 3), (124, .ireturn, 125, .ireturn)]
def fv_k156 : List fv_Row := [(0, .iconst 0, 1, .iconst 0), (1, .istore_n 1, 2, .istore 1), (2, .iconst 0, 3, .iconst 0), (3, .istore_n 2, 4, .istore 2), (4, .iload_n 2, 5, .iload 2), (5, .aload_n 0, 6, .aload 0), (6, .getfield 91, 9, .getfield 600), (9, .if_icmp .ge 104, 12, .if_icmp .ge 113), (12, .iconst 0, 13, .iconst 0), (13, .istore_n 3, 14, .istore 3), (14, .iconst 0, 15, .iconst 0), (15, .istore 4, 17, .istore 4), (17, .iconst 0, 18, .iconst 0), (18, .istore 5, 20, .istore 5), (20, .iload 5, 22, .iload 5), (22, .aload_n 0, 23, .aload 0), (23, .getfield 98, 26, .getfield 604), (26, .if_icmp .ge 72, 29, .if_icmp .ge 98), (29, .aload_n 0, 30, .aload 0), (30, .iload 5, 32, .iload 5), (32, .iload_n 2, 33, .iload 2), (33, .invokevirtual 208, 36, .invokestatic 155), (36, .aload_n 0, 37, .aload 0), (37, .getfield 25, 40, .getfield 609), (40, .bipush 6, 42, .iconst 6), (42, .iload 5, 44, .iload 5), (44, .imul, 45, .imul), (45, .iload_n 2, 46, .iload 2), (46, .iadd, 47, .iadd), (47, .iaload, 48, .iaload), (48, .isub, 49, .isub), (49, .istore 6, 51, .istore 6), (51, .iload_n 3, 52, .iload 3), (52, .aload_n 0, 53, .aload 0), (53, .iload 5, 55, .iload 5), (55, .iload_n 2, 56, .iload 2), (56, .invokevirtual 208, 59, .invokestatic 155), (59, .iadd, 60, .iadd), (60, .istore_n 3, 61, .istore 3), (61, .iload 4, 63, .iload 4), (63, .aload_n 0, 64, .aload 0), (64, .getfield 25, 67, .getfield 609), (67, .bipush 6, 69, .iconst 6), (69, .iload 5, 71, .iload 5), (71, .imul, 72, .imul), (72, .iload_n 2, 73, .iload 2), (73, .iadd, 74, .iadd), (74, .iaload, 75, .iaload), (75, .iadd, 76, .iadd), (76, .istore 4, 78, .istore 4), (78, .iload_n 1, 79, .iload 1), (79, .iload 6, 81, .iload 6), (81, .ifCond .le 8, 84, .ifCond .le 89), (84, .iload 6, 86, .iload 6), (86, .goto 4, 89, .goto 90), (89, .iconst 0, 90, .iconst 0), (90, .iadd, 91, .iadd), (91, .istore_n 1, 92, .istore 1), (92, .iinc 5 1, 95, .iinc 5 1), (95, .goto (-75), 98, .multianewarray 20 6), (98, .iload_n 3, 99, .iload 3), (99, .iload 4, 101, .iload 4), (101, .if_icmp .le 6, 104, .if_icmp .le 107), (104, .bipush (-4), 106, .iconst (-4)), (106, .ireturn, 107, .ireturn), (107, .iinc 2 1, 110, .iinc 2 1), (110, .goto (-106), 113, .multianewarray 4 3), (113, .iload_n 1, 114, .iload 1), (114, .ireturn, 115, .ireturn)]
def fv_k157 : List fv_Row := [(0, .aload_n 0, 1, .aload 0), (1, .iload_n 1, 2, .iload 1), (2, .invokevirtual 179, 5, .invokestatic 110), (5, .ifCond .eq 27, 8, .ifCond .eq 32), (8, .iload_n 2, 9, .iload 2), (9, .iconst 1, 10, .iconst 1), (10, .bipush 9, 12, .iconst 9), (12, .invokestatic 94, 15, .invokestatic 108), (15, .ifCond .eq 17, 18, .ifCond .eq 32), (18, .iload_n 3, 19, .iload 3), (19, .iconst (-1), 20, .iconst (-1)), (20, .aload_n 0, 21, .aload 0), (21, .getfield 98, 24, .getfield 604), (24, .iconst 1, 25, .iconst 1), (25, .isub, 26, .isub), (26, .invokestatic 94, 29, .invokestatic 108), (29, .ifCond .ne 5, 32, .ifCond .ne 34), (32, .iconst (-1), 33, .iconst (-1)), (33, .ireturn, 34, .ireturn), (34, .iconst 0, 35, .iconst 0), (35, .istore 4, 37, .istore 4), (37, .iconst 0, 38, .iconst 0), (38, .istore 5, 40, .istore 5), (40, .iload 5, 42, .iload 5), (42, .aload_n 0, 43, .aload 0), (43, .getfield 98, 46, .getfield 604), (46, .if_icmp .ge 26, 49, .if_icmp .ge 72), (49, .iload 4, 51, .iload 4), (51, .aload_n 0, 52, .aload 0), (52, .getfield 25, 55, .getfield 609), (55, .bipush 6, 57, .iconst 6), (57, .iload 5, 59, .iload 5), (59, .imul, 60, .imul), (60, .iload_n 1, 61, .iload 1), (61, .iadd, 62, .iadd), (62, .iaload, 63, .iaload), (63, .iadd, 64, .iadd), (64, .istore 4, 66, .istore 4), (66, .iinc 5 1, 69, .iinc 5 1), (69, .goto (-29), 72, .multianewarray 40 6), (72, .iconst 0, 73, .iconst 0), (73, .istore 5, 75, .istore 5), (75, .iconst 0, 76, .iconst 0), (76, .istore 6, 78, .istore 6), (78, .bipush 9, 80, .iconst 9), (80, .istore 7, 82, .istore 7), (82, .iload 7, 84, .iload 7), (84, .ifCond .le 154, 87, .ifCond .le 238), (87, .iconst 0, 88, .iconst 0), (88, .istore 8, 90, .istore 8), (90, .iload 8, 92, .iload 8), (92, .aload_n 0, 93, .aload 0), (93, .getfield 98, 96, .getfield 604), (96, .if_icmp .ge 136, 99, .if_icmp .ge 232), (99, .iconst 0, 100, .iconst 0), (100, .istore 9, 102, .istore 9), (102, .iload 9, 104, .iload 9), (104, .aload_n 0, 105, .aload 0), (105, .getfield 150, 108, .getfield 606), (108, .if_icmp .ge 118, 111, .if_icmp .ge 226), (111, .aload_n 0, 112, .aload 0), (112, .getfield 19, 115, .getfield 607), (115, .iconst 3, 116, .iconst 3), (116, .iload 9, 118, .iload 9), (118, .imul, 119, .imul), (119, .iaload, 120, .iaload), (120, .iload 8, 122, .iload 8), (122, .if_icmp .ne 38, 125, .if_icmp .ne 160), (125, .aload_n 0, 126, .aload 0), (126, .getfield 19, 129, .getfield 607), (129, .iconst 3, 130, .iconst 3), (130, .iload 9, 132, .iload 9), (132, .imul, 133, .imul), (133, .iconst 1, 134, .iconst 1), (134, .iadd, 135, .iadd), (135, .iaload, 136, .iaload), (136, .iload_n 1, 137, .iload 1), (137, .if_icmp .ne 23, 140, .if_icmp .ne 160), (140, .aload_n 0, 141, .aload 0), (141, .getfield 19, 144, .getfield 607), (144, .iconst 3, 145, .iconst 3), (145, .iload 9, 147, .iload 9), (147, .imul, 148, .imul), (148, .iconst 2, 149, .iconst 2), (149, .iadd, 150, .iadd), (150, .iaload, 151, .iaload), (151, .iload 7, 153, .iload 7), (153, .if_icmp .ne 7, 156, .if_icmp .ne 160), (156, .iconst 1, 157, .iconst 1), (157, .goto 4, 160, .goto 161), (160, .iconst 0, 161, .iconst 0), (161, .istore 10, 163, .istore 10), (163, .iload 10, 165, .iload 10), (165, .ifCond .ne 7, 168, .ifCond .ne 172), (168, .iconst 0, 169, .iconst 0), (169, .goto 15, 172, .goto 184), (172, .iload 4, 174, .iload 4), (174, .iload_n 2, 175, .iload 2), (175, .if_icmp .ge 8, 178, .if_icmp .ge 183), (178, .iload 4, 180, .iload 4), (180, .goto 4, 183, .goto 184), (183, .iload_n 2, 184, .iload 2), (184, .istore 11, 186, .istore 11), (186, .iload 4, 188, .iload 4), (188, .iload 11, 190, .iload 11), (190, .isub, 191, .isub), (191, .istore 4, 193, .istore 4), (193, .iload 5, 195, .iload 5), (195, .iload 11, 197, .iload 11), (197, .iload 7, 199, .iload 7), (199, .imul, 200, .imul), (200, .iadd, 201, .iadd), (201, .istore 5, 203, .istore 5), (203, .iload 6, 205, .iload 6), (205, .iload 8, 207, .iload 8), (207, .iload_n 3, 208, .iload 3), (208, .if_icmp .ne 8, 211, .if_icmp .ne 216), (211, .iload 11, 213, .iload 11), (213, .goto 4, 216, .goto 217), (216, .iconst 0, 217, .iconst 0), (217, .iadd, 218, .iadd), (218, .istore 6, 220, .istore 6), (220, .iinc 9 1, 223, .iinc 9 1), (223, .goto (-121), 226, .multianewarray 102 10), (226, .iinc 8 1, 229, .iinc 8 1), (229, .goto (-139), 232, .multianewarray 90 9), (232, .iinc 7 (-1), 235, .iinc 7 (-1)), (235, .goto (-153), 238, .multianewarray 82 8), (238, .iload_n 3, 239, .iload 3), (239, .ifCond .ge 8, 242, .ifCond .ge 247), (242, .iload 5, 244, .iload 5), (244, .goto 5, 247, .goto 249), (247, .iload 6, 249, .iload 6), (249, .ireturn, 250, .ireturn)]
def fv_k158 : List fv_Row := [(0, .aload_n 0, 1, .aload 0), (1, .iload_n 1, 2, .iload 1), (2, .invokevirtual 176, 5, .invokestatic 111), (5, .ifCond .ne 5, 8, .ifCond .ne 10), (8, .iconst (-1), 9, .iconst (-1)), (9, .ireturn, 10, .ireturn), (10, .iconst 0, 11, .iconst 0), (11, .istore_n 2, 12, .istore 2), (12, .iconst 0, 13, .iconst 0), (13, .istore_n 3, 14, .istore 3), (14, .iload_n 3, 15, .iload 3), (15, .aload_n 0, 16, .aload 0), (16, .getfield 91, 19, .getfield 600), (19, .if_icmp .ge 65, 22, .if_icmp .ge 84), (22, .aload_n 0, 23, .aload 0), (23, .getfield 25, 26, .getfield 609), (26, .bipush 24, 28, .iconst 24), (28, .iload_n 1, 29, .iload 1), (29, .iadd, 30, .iadd), (30, .iaload, 31, .iaload), (31, .ifCond .ge 29, 34, .ifCond .ge 60), (34, .aload_n 0, 35, .aload 0), (35, .getfield 25, 38, .getfield 609), (38, .bipush 6, 40, .iconst 6), (40, .iload_n 1, 41, .iload 1), (41, .imul, 42, .imul), (42, .iload_n 3, 43, .iload 3), (43, .iadd, 44, .iadd), (44, .iaload, 45, .iaload), (45, .ifCond .gt 11, 48, .ifCond .gt 56), (48, .aload_n 0, 49, .aload 0), (49, .iload_n 1, 50, .iload 1), (50, .invokevirtual 199, 53, .invokestatic 149), (53, .ifCond .lt 7, 56, .ifCond .lt 60), (56, .iconst 1, 57, .iconst 1), (57, .goto 4, 60, .goto 61), (60, .iconst 0, 61, .iconst 0), (61, .istore 4, 63, .istore 4), (63, .iload_n 2, 64, .iload 2), (64, .iload 4, 66, .iload 4), (66, .ifCond .eq 9, 69, .ifCond .eq 75), (69, .iconst 1, 70, .iconst 1), (70, .iload_n 3, 71, .iload 3), (71, .ishl, 72, .ishl), (72, .goto 4, 75, .goto 76), (75, .iconst 0, 76, .iconst 0), (76, .ior, 77, .ior), (77, .istore_n 2, 78, .istore 2), (78, .iinc 3 1, 81, .iinc 3 1), (81, .goto (-67), 84, .multianewarray 14 4), (84, .iload_n 2, 85, .iload 2), (85, .ireturn, 86, .ireturn)]
def fv_k159 : List fv_Row := [(0, .iload_n 1, 1, .iload 1), (1, .iconst 0, 2, .iconst 0), (2, .aload_n 0, 3, .aload 0), (3, .getfield 150, 6, .getfield 606), (6, .iconst 1, 7, .iconst 1), (7, .isub, 8, .isub), (8, .invokestatic 94, 11, .invokestatic 108), (11, .ifCond .eq 13, 14, .ifCond .eq 24), (14, .iload_n 2, 15, .iload 2), (15, .iconst 1, 16, .iconst 1), (16, .bipush 9, 18, .iconst 9), (18, .invokestatic 94, 21, .invokestatic 108), (21, .ifCond .ne 5, 24, .ifCond .ne 26), (24, .iconst (-1), 25, .iconst (-1)), (25, .ireturn, 26, .ireturn), (26, .aload_n 0, 27, .aload 0), (27, .getfield 169, 30, .getfield 615), (30, .bipush 6, 32, .iconst 6), (32, .if_icmp .ne 6, 35, .if_icmp .ne 38), (35, .bipush (-3), 37, .iconst (-3)), (37, .ireturn, 38, .ireturn), (38, .aload_n 0, 39, .aload 0), (39, .getfield 37, 42, .getfield 616), (42, .iconst 3, 43, .iconst 3), (43, .aload_n 0, 44, .aload 0), (44, .getfield 169, 47, .getfield 615), (47, .imul, 48, .imul), (48, .iload_n 1, 49, .iload 1), (49, .iastore, 50, .iastore), (50, .aload_n 0, 51, .aload 0), (51, .getfield 37, 54, .getfield 616), (54, .iconst 3, 55, .iconst 3), (55, .aload_n 0, 56, .aload 0), (56, .getfield 169, 59, .getfield 615), (59, .imul, 60, .imul), (60, .iconst 1, 61, .iconst 1), (61, .iadd, 62, .iadd), (62, .iload_n 2, 63, .iload 2), (63, .iastore, 64, .iastore), (64, .aload_n 0, 65, .aload 0), (65, .getfield 37, 68, .getfield 616), (68, .iconst 3, 69, .iconst 3), (69, .aload_n 0, 70, .aload 0), (70, .getfield 169, 73, .getfield 615), (73, .imul, 74, .imul), (74, .iconst 2, 75, .iconst 2), (75, .iadd, 76, .iadd), (76, .iload_n 3, 77, .iload 3), (77, .ifCond .eq 7, 80, .ifCond .eq 84), (80, .iconst 1, 81, .iconst 1), (81, .goto 4, 84, .goto 85), (84, .iconst 0, 85, .iconst 0), (85, .iastore, 86, .iastore), (86, .aload_n 0, 87, .aload 0), (87, .dup, 88, .dup), (88, .getfield 169, 91, .getfield 615), (91, .iconst 1, 92, .iconst 1), (92, .iadd, 93, .iadd), (93, .putfield 169, 96, .putfield 615), (96, .aload_n 0, 97, .aload 0), (97, .getfield 169, 100, .getfield 615), (100, .ireturn, 101, .ireturn)]
def fv_k160 : List fv_Row := [(0, .aload_n 0, 1, .aload 0), (1, .getfield 169, 4, .getfield 615), (4, .istore_n 1, 5, .istore 1), (5, .aload_n 0, 6, .aload 0), (6, .iconst 0, 7, .iconst 0), (7, .putfield 169, 10, .putfield 615), (10, .iload_n 1, 11, .iload 1), (11, .ireturn, 12, .ireturn)]
def fv_k161 : List fv_Row := [(0, .aload_n 0, 1, .aload 0), (1, .iload_n 1, 2, .iload 1), (2, .invokevirtual 176, 5, .invokestatic 111), (5, .ifCond .eq 20, 8, .ifCond .eq 25), (8, .aload_n 0, 9, .aload 0), (9, .iload_n 2, 10, .iload 2), (10, .invokevirtual 179, 13, .invokestatic 110), (13, .ifCond .eq 12, 16, .ifCond .eq 25), (16, .iload_n 3, 17, .iload 3), (17, .iconst 0, 18, .iconst 0), (18, .iconst 1, 19, .iconst 1), (19, .invokestatic 94, 22, .invokestatic 108), (22, .ifCond .ne 5, 25, .ifCond .ne 27), (25, .iconst (-1), 26, .iconst (-1)), (26, .ireturn, 27, .ireturn), (27, .iconst 0, 28, .iconst 0), (28, .istore 4, 30, .istore 4), (30, .bipush (-4), 32, .iconst (-4)), (32, .istore 5, 34, .istore 5), (34, .bipush 30, 36, .iconst 30), (36, .istore 6, 38, .istore 6), (38, .iload 6, 40, .iload 6), (40, .ifCond .lt 158, 43, .ifCond .lt 198), (43, .aload_n 0, 44, .aload 0), (44, .aload_n 0, 45, .aload 0), (45, .getfield 28, 48, .getfield 610), (48, .invokevirtual 191, 51, .invokestatic 140), (51, .aload_n 0, 52, .aload 0), (52, .getfield 61, 55, .getfield 630), (55, .bipush 6, 57, .iconst 6), (57, .iload_n 1, 58, .iload 1), (58, .imul, 59, .imul), (59, .iload_n 2, 60, .iload 2), (60, .iadd, 61, .iadd), (61, .iload 6, 63, .iload 6), (63, .iastore, 64, .iastore), (64, .iconst 1, 65, .iconst 1), (65, .istore 7, 67, .istore 7), (67, .iconst 1, 68, .iconst 1), (68, .istore 8, 70, .istore 8), (70, .iload 8, 72, .iload 8), (72, .bipush 9, 74, .iconst 9), (74, .if_icmp .gt 89, 77, .if_icmp .gt 163), (77, .aload_n 0, 78, .aload 0), (78, .invokevirtual 185, 81, .invokestatic 142), (81, .istore 9, 83, .istore 9), (83, .iconst 0, 84, .iconst 0), (84, .istore 10, 86, .istore 10), (86, .iload 10, 88, .iload 10), (88, .aload_n 0, 89, .aload 0), (89, .getfield 169, 92, .getfield 615), (92, .if_icmp .ge 65, 95, .if_icmp .ge 157), (95, .iload 7, 97, .iload 7), (97, .ifCond .eq 51, 100, .ifCond .eq 148), (100, .aload_n 0, 101, .aload 0), (101, .getfield 37, 104, .getfield 616), (104, .iconst 3, 105, .iconst 3), (105, .iload 10, 107, .iload 10), (107, .imul, 108, .imul), (108, .iconst 1, 109, .iconst 1), (109, .iadd, 110, .iadd), (110, .iaload, 111, .iaload), (111, .iload 8, 113, .iload 8), (113, .if_icmp .ne 31, 116, .if_icmp .ne 144), (116, .iload 9, 118, .iload 9), (118, .aload_n 0, 119, .aload 0), (119, .getfield 37, 122, .getfield 616), (122, .iconst 3, 123, .iconst 3), (123, .iload 10, 125, .iload 10), (125, .imul, 126, .imul), (126, .iaload, 127, .iaload), (127, .ishr, 128, .ishr), (128, .iconst 1, 129, .iconst 1), (129, .iand, 130, .iand), (130, .aload_n 0, 131, .aload 0), (131, .getfield 37, 134, .getfield 616), (134, .iconst 3, 135, .iconst 3), (135, .iload 10, 137, .iload 10), (137, .imul, 138, .imul), (138, .iconst 2, 139, .iconst 2), (139, .iadd, 140, .iadd), (140, .iaload, 141, .iaload), (141, .if_icmp .ne 7, 144, .if_icmp .ne 148), (144, .iconst 1, 145, .iconst 1), (145, .goto 4, 148, .goto 149), (148, .iconst 0, 149, .iconst 0), (149, .istore 7, 151, .istore 7), (151, .iinc 10 1, 154, .iinc 10 1), (154, .goto (-68), 157, .multianewarray 86 11), (157, .iinc 8 1, 160, .iinc 8 1), (160, .goto (-90), 163, .multianewarray 70 9), (163, .iload 4, 165, .iload 4), (165, .iload 7, 167, .iload 7), (167, .ifCond .eq 7, 170, .ifCond .eq 174), (170, .iconst 1, 171, .iconst 1), (171, .goto 4, 174, .goto 175), (174, .iconst 0, 175, .iconst 0), (175, .iadd, 176, .iadd), (176, .istore 4, 178, .istore 4), (178, .iload 7, 180, .iload 7), (180, .ifCond .eq 8, 183, .ifCond .eq 188), (183, .iload 6, 185, .iload 6), (185, .goto 5, 188, .goto 190), (188, .iload 5, 190, .iload 5), (190, .istore 5, 192, .istore 5), (192, .iinc 6 (-1), 195, .iinc 6 (-1)), (195, .goto (-157), 198, .multianewarray 38 7), (198, .iload_n 3, 199, .iload 3), (199, .ifCond .ne 8, 202, .ifCond .ne 207), (202, .iload 4, 204, .iload 4), (204, .goto 5, 207, .goto 209), (207, .iload 5, 209, .iload 5), (209, .ireturn, 210, .ireturn)]
def fv_k162 : List fv_Row := [(0, .aload_n 0, 1, .aload 0), (1, .iload_n 1, 2, .iload 1), (2, .invokevirtual 176, 5, .invokestatic 111), (5, .ifCond .eq 35, 8, .ifCond .eq 40), (8, .aload_n 0, 9, .aload 0), (9, .iload_n 2, 10, .iload 2), (10, .invokevirtual 176, 13, .invokestatic 111), (13, .ifCond .eq 27, 16, .ifCond .eq 40), (16, .iload_n 1, 17, .iload 1), (17, .iload_n 2, 18, .iload 2), (18, .if_icmp .eq 22, 21, .if_icmp .eq 40), (21, .aload_n 0, 22, .aload 0), (22, .iload_n 3, 23, .iload 3), (23, .invokevirtual 179, 26, .invokestatic 110), (26, .ifCond .eq 14, 29, .ifCond .eq 40), (29, .iload 4, 31, .iload 4), (31, .iconst 1, 32, .iconst 1), (32, .bipush 9, 34, .iconst 9), (34, .invokestatic 94, 37, .invokestatic 108), (37, .ifCond .ne 5, 40, .ifCond .ne 42), (40, .iconst (-1), 41, .iconst (-1)), (41, .ireturn, 42, .ireturn), (42, .aload_n 0, 43, .aload 0), (43, .getfield 25, 46, .getfield 609), (46, .bipush 6, 48, .iconst 6), (48, .iload_n 1, 49, .iload 1), (49, .imul, 50, .imul), (50, .iload_n 3, 51, .iload 3), (51, .iadd, 52, .iadd), (52, .iaload, 53, .iaload), (53, .iload 4, 55, .iload 4), (55, .if_icmp .ge 6, 58, .if_icmp .ge 61), (58, .bipush (-2), 60, .iconst (-2)), (60, .ireturn, 61, .ireturn), (61, .aload_n 0, 62, .aload 0), (62, .getfield 25, 65, .getfield 609), (65, .bipush 6, 67, .iconst 6), (67, .iload_n 2, 68, .iload 2), (68, .imul, 69, .imul), (69, .iload_n 3, 70, .iload 3), (70, .iadd, 71, .iadd), (71, .iaload, 72, .iaload), (72, .iload 4, 74, .iload 4), (74, .iadd, 75, .iadd), (75, .bipush 60, 77, .iconst 60), (77, .if_icmp .le 6, 80, .if_icmp .le 83), (80, .bipush (-3), 82, .iconst (-3)), (82, .ireturn, 83, .ireturn), (83, .aload_n 0, 84, .aload 0), (84, .aload_n 0, 85, .aload 0), (85, .getfield 25, 88, .getfield 609), (88, .invokevirtual 191, 91, .invokestatic 140), (91, .aload_n 0, 92, .aload 0), (92, .bipush 8, 94, .iconst 8), (94, .invokevirtual 195, 97, .invokestatic 143), (97, .aload_n 0, 98, .aload 0), (98, .iconst (-1), 99, .iconst (-1)), (99, .invokevirtual 202, 102, .invokestatic 144), (102, .istore 5, 104, .istore 5), (104, .aload_n 0, 105, .aload 0), (105, .aload_n 0, 106, .aload 0), (106, .getfield 25, 109, .getfield 609), (109, .invokevirtual 191, 112, .invokestatic 140), (112, .aload_n 0, 113, .aload 0), (113, .getfield 61, 116, .getfield 630), (116, .bipush 6, 118, .iconst 6), (118, .iload_n 1, 119, .iload 1), (119, .imul, 120, .imul), (120, .iload_n 3, 121, .iload 3), (121, .iadd, 122, .iadd), (122, .dup2, 123, .dup2), (123, .iaload, 124, .iaload), (124, .iload 4, 126, .iload 4), (126, .isub, 127, .isub), (127, .iastore, 128, .iastore), (128, .aload_n 0, 129, .aload 0), (129, .getfield 61, 132, .getfield 630), (132, .bipush 6, 134, .iconst 6), (134, .iload_n 2, 135, .iload 2), (135, .imul, 136, .imul), (136, .iload_n 3, 137, .iload 3), (137, .iadd, 138, .iadd), (138, .dup2, 139, .dup2), (139, .iaload, 140, .iaload), (140, .iload 4, 142, .iload 4), (142, .iadd, 143, .iadd), (143, .iastore, 144, .iastore), (144, .aload_n 0, 145, .aload 0), (145, .bipush 8, 147, .iconst 8), (147, .invokevirtual 195, 150, .invokestatic 143), (150, .sipush 1000, 153, .iconst 1000), (153, .aload_n 0, 154, .aload 0), (154, .iconst (-1), 155, .iconst (-1)), (155, .invokevirtual 202, 158, .invokestatic 144), (158, .iadd, 159, .iadd), (159, .iload 5, 161, .iload 5), (161, .isub, 162, .isub), (162, .ireturn, 163, .ireturn)]
def fv_k163 : List fv_Row := [(0, .iload_n 1, 1, .iload 1), (1, .iconst 0, 2, .iconst 0), (2, .sipush 9999, 5, .iconst 9999), (5, .invokestatic 94, 8, .invokestatic 108), (8, .ifCond .eq 22, 11, .ifCond .eq 30), (11, .iload_n 2, 12, .iload 2), (12, .iconst 1, 13, .iconst 1), (13, .bipush 40, 15, .iconst 40), (15, .invokestatic 94, 18, .invokestatic 108), (18, .ifCond .eq 12, 21, .ifCond .eq 30), (21, .iload_n 3, 22, .iload 3), (22, .iconst 0, 23, .iconst 0), (23, .iconst 1, 24, .iconst 1), (24, .invokestatic 94, 27, .invokestatic 108), (27, .ifCond .ne 5, 30, .ifCond .ne 32), (30, .iconst (-1), 31, .iconst (-1)), (31, .ireturn, 32, .ireturn), (32, .aload_n 0, 33, .aload 0), (33, .aload_n 0, 34, .aload 0), (34, .getfield 25, 37, .getfield 609), (37, .invokevirtual 191, 40, .invokestatic 140), (40, .iconst 0, 41, .iconst 0), (41, .istore 4, 43, .istore 4), (43, .iload 4, 45, .iload 4), (45, .iload_n 2, 46, .iload 2), (46, .if_icmp .ge 127, 49, .if_icmp .ge 173), (49, .ldc2_w 212, 52, .ldc2_w 7919), (52, .iload_n 1, 53, .iload 1), (53, .i2l, 54, .i2l), (54, .lmul, 55, .lmul), (55, .ldc2_w 214, 58, .ldc2_w 6151), (58, .iload 4, 60, .iload 4), (60, .i2l, 61, .i2l), (61, .lmul, 62, .lmul), (62, .ladd, 63, .ladd), (63, .lconst 1, 64, .ldc2_w 1), (64, .ladd, 65, .ladd), (65, .lstore 5, 67, .lstore 5), (67, .lload 5, 69, .lload 5), (69, .lload 5, 71, .lload 5), (71, .lmul, 72, .lmul), (72, .ldc2_w 216, 75, .ldc2_w 65521), (75, .lrem, 76, .lrem), (76, .ldc2_w 218, 79, .ldc2_w 8), (79, .ldiv, 80, .ldiv), (80, .l2i, 81, .l2i), (81, .istore 7, 83, .istore 7), (83, .bipush 6, 85, .iconst 6), (85, .iload 7, 87, .iload 7), (87, .aload_n 0, 88, .aload 0), (88, .getfield 98, 91, .getfield 604), (91, .irem, 92, .irem), (92, .imul, 93, .imul), (93, .iload 7, 95, .iload 7), (95, .bipush 16, 97, .iconst 16), (97, .idiv, 98, .idiv), (98, .aload_n 0, 99, .aload 0), (99, .getfield 91, 102, .getfield 600), (102, .irem, 103, .irem), (103, .iadd, 104, .iadd), (104, .istore 8, 106, .istore 8), (106, .aload_n 0, 107, .aload 0), (107, .getfield 61, 110, .getfield 630), (110, .iload 8, 112, .iload 8), (112, .iaload, 113, .iaload), (113, .iload 7, 115, .iload 7), (115, .bipush 8, 117, .iconst 8), (117, .idiv, 118, .idiv), (118, .iconst 2, 119, .iconst 2), (119, .irem, 120, .irem), (120, .iconst 1, 121, .iconst 1), (121, .if_icmp .ne 7, 124, .if_icmp .ne 128), (124, .iconst 1, 125, .iconst 1), (125, .goto 4, 128, .goto 129), (128, .iconst (-1), 129, .iconst (-1)), (129, .iadd, 130, .iadd), (130, .istore 9, 132, .istore 9), (132, .aload_n 0, 133, .aload 0), (133, .getfield 61, 136, .getfield 630), (136, .iload 8, 138, .iload 8), (138, .iload 9, 140, .iload 9), (140, .ifCond .ge 7, 143, .ifCond .ge 147), (143, .iconst 0, 144, .iconst 0), (144, .goto 17, 147, .goto 161), (147, .iload 9, 149, .iload 9), (149, .bipush 60, 151, .iconst 60), (151, .if_icmp .le 8, 154, .if_icmp .le 159), (154, .bipush 60, 156, .iconst 60), (156, .goto 5, 159, .goto 161), (159, .iload 9, 161, .iload 9), (161, .iastore, 162, .iastore), (162, .aload_n 0, 163, .aload 0), (163, .invokevirtual 185, 166, .invokestatic 142), (166, .pop, 167, .pop), (167, .iinc 4 1, 170, .iinc 4 1), (170, .goto (-127), 173, .multianewarray 43 5), (173, .iload_n 3, 174, .iload 3), (174, .ifCond .ne 11, 177, .ifCond .ne 185), (177, .aload_n 0, 178, .aload 0), (178, .iconst (-1), 179, .iconst (-1)), (179, .invokevirtual 202, 182, .invokestatic 144), (182, .goto 8, 185, .goto 190), (185, .aload_n 0, 186, .aload 0), (186, .iconst (-1), 187, .iconst (-1)), (187, .invokevirtual 205, 190, .invokestatic 145), (190, .ireturn, 191, .ireturn)]
def fv_k164 : List fv_Row := [(0, .aload_n 0, 1, .aload 0), (1, .getfield 166, 4, .getfield 613), (4, .iconst 2, 5, .iconst 2), (5, .if_icmp .ne 6, 8, .if_icmp .ne 11), (8, .bipush (-3), 10, .iconst (-3)), (10, .ireturn, 11, .ireturn), (11, .aload_n 0, 12, .aload 0), (12, .getfield 34, 15, .getfield 614), (15, .bipush 45, 17, .iconst 45), (17, .aload_n 0, 18, .aload 0), (18, .getfield 166, 21, .getfield 613), (21, .imul, 22, .imul), (22, .aload_n 0, 23, .aload 0), (23, .getfield 25, 26, .getfield 609), (26, .bipush 45, 28, .iconst 45), (28, .invokestatic 153, 31, .invokestatic 118), (31, .aload_n 0, 32, .aload 0), (32, .dup, 33, .dup), (33, .getfield 166, 36, .getfield 613), (36, .iconst 1, 37, .iconst 1), (37, .iadd, 38, .iadd), (38, .putfield 166, 41, .putfield 613), (41, .aload_n 0, 42, .aload 0), (42, .getfield 166, 45, .getfield 613), (45, .ireturn, 46, .ireturn)]
def fv_k165 : List fv_Row := [(0, .aload_n 0, 1, .aload 0), (1, .getfield 166, 4, .getfield 613), (4, .ifCond .ne 6, 7, .ifCond .ne 10), (7, .bipush (-2), 9, .iconst (-2)), (9, .ireturn, 10, .ireturn), (10, .aload_n 0, 11, .aload 0), (11, .dup, 12, .dup), (12, .getfield 166, 15, .getfield 613), (15, .iconst 1, 16, .iconst 1), (16, .isub, 17, .isub), (17, .putfield 166, 20, .putfield 613), (20, .iconst 0, 21, .iconst 0), (21, .istore_n 1, 22, .istore 1), (22, .iload_n 1, 23, .iload 1), (23, .bipush 45, 25, .iconst 45), (25, .if_icmp .ge 29, 28, .if_icmp .ge 54), (28, .aload_n 0, 29, .aload 0), (29, .getfield 25, 32, .getfield 609), (32, .iload_n 1, 33, .iload 1), (33, .aload_n 0, 34, .aload 0), (34, .getfield 34, 37, .getfield 614), (37, .bipush 45, 39, .iconst 45), (39, .aload_n 0, 40, .aload 0), (40, .getfield 166, 43, .getfield 613), (43, .imul, 44, .imul), (44, .iload_n 1, 45, .iload 1), (45, .iadd, 46, .iadd), (46, .iaload, 47, .iaload), (47, .iastore, 48, .iastore), (48, .iinc 1 1, 51, .iinc 1 1), (51, .goto (-29), 54, .multianewarray 22 2), (54, .aload_n 0, 55, .aload 0), (55, .iconst 0, 56, .iconst 0), (56, .putfield 163, 59, .putfield 611), (59, .aload_n 0, 60, .aload 0), (60, .getfield 166, 63, .getfield 613), (63, .ireturn, 64, .ireturn)]
def fv_k166 : List fv_Row := [(0, .iconst 0, 1, .iconst 0), (1, .istore_n 2, 2, .istore 2), (2, .iconst 0, 3, .iconst 0), (3, .istore_n 3, 4, .istore 3), (4, .iload_n 3, 5, .iload 3), (5, .bipush 24, 7, .iconst 24), (7, .if_icmp .ge 18, 10, .if_icmp .ge 25), (10, .iload_n 2, 11, .iload 2), (11, .aload_n 0, 12, .aload 0), (12, .getfield 25, 15, .getfield 609), (15, .iload_n 3, 16, .iload 3), (16, .iaload, 17, .iaload), (17, .iadd, 18, .iadd), (18, .istore_n 2, 19, .istore 2), (19, .iinc 3 1, 22, .iinc 3 1), (22, .goto (-18), 25, .multianewarray 4 4), (25, .iload_n 1, 26, .iload 1), (26, .tableswitch 104 0 9 #[54, 59, 64, 69, 74, 82, 84, 89, 94, 99], 80, .tableswitch 130 0 9 #[80, 85, 90, 95, 100, 108, 110, 115, 120, 125]), (80, .aload_n 0, 81, .aload 0), (81, .getfield 91, 84, .getfield 600), (84, .ireturn, 85, .ireturn), (85, .aload_n 0, 86, .aload 0), (86, .getfield 147, 89, .getfield 602), (89, .ireturn, 90, .ireturn), (90, .aload_n 0, 91, .aload 0), (91, .getfield 98, 94, .getfield 604), (94, .ireturn, 95, .ireturn), (95, .aload_n 0, 96, .aload 0), (96, .getfield 150, 99, .getfield 606), (99, .ireturn, 100, .ireturn), (100, .aload_n 0, 101, .aload 0), (101, .getfield 25, 104, .getfield 609), (104, .bipush 44, 106, .iconst 44), (106, .iaload, 107, .iaload), (107, .ireturn, 108, .ireturn), (108, .iload_n 2, 109, .iload 2), (109, .ireturn, 110, .ireturn), (110, .aload_n 0, 111, .aload 0), (111, .getfield 169, 114, .getfield 615), (114, .ireturn, 115, .ireturn), (115, .aload_n 0, 116, .aload 0), (116, .getfield 163, 119, .getfield 611), (119, .ireturn, 120, .ireturn), (120, .aload_n 0, 121, .aload 0), (121, .getfield 166, 124, .getfield 613), (124, .ireturn, 125, .ireturn), (125, .aload_n 0, 126, .aload 0), (126, .getfield 101, 129, .getfield 618), (129, .ireturn, 130, .ireturn), (130, .iconst (-1), 131, .iconst (-1)), (131, .ireturn, 132, .ireturn)]
def fv_k167 : List fv_Row := [(0, .iload_n 0, 1, .iload 0), (1, .iload_n 0, 2, .iload 0), (2, .iconst 1, 3, .iconst 1), (3, .iushr, 4, .iushr), (4, .ldc_w 265, 7, .iconst 1431655765), (7, .iand, 8, .iand), (8, .isub, 9, .isub), (9, .istore_n 0, 10, .istore 0), (10, .iload_n 0, 11, .iload 0), (11, .ldc_w 266, 14, .iconst 858993459), (14, .iand, 15, .iand), (15, .iload_n 0, 16, .iload 0), (16, .iconst 2, 17, .iconst 2), (17, .iushr, 18, .iushr), (18, .ldc_w 266, 21, .iconst 858993459), (21, .iand, 22, .iand), (22, .iadd, 23, .iadd), (23, .istore_n 0, 24, .istore 0), (24, .iload_n 0, 25, .iload 0), (25, .iload_n 0, 26, .iload 0), (26, .iconst 4, 27, .iconst 4), (27, .iushr, 28, .iushr), (28, .iadd, 29, .iadd), (29, .ldc_w 267, 32, .iconst 252645135), (32, .iand, 33, .iand), (33, .istore_n 0, 34, .istore 0), (34, .iload_n 0, 35, .iload 0), (35, .iload_n 0, 36, .iload 0), (36, .bipush 8, 38, .iconst 8), (38, .iushr, 39, .iushr), (39, .iadd, 40, .iadd), (40, .istore_n 0, 41, .istore 0), (41, .iload_n 0, 42, .iload 0), (42, .iload_n 0, 43, .iload 0), (43, .bipush 16, 45, .iconst 16), (45, .iushr, 46, .iushr), (46, .iadd, 47, .iadd), (47, .istore_n 0, 48, .istore 0), (48, .iload_n 0, 49, .iload 0), (49, .bipush 63, 51, .iconst 63), (51, .iand, 52, .iand), (52, .ireturn, 53, .ireturn)]
set_option maxRecDepth 100000 in
theorem fv_d0 : fv_k0.all (fun r => decide (decode prog_2_method_1_code r.1 = .ok (r.2.1, r.2.2.1 - r.1))) = true := by decide +kernel
set_option maxRecDepth 100000 in
theorem fv_d1 : fv_k1.all (fun r => decide (decode prog_2_method_2_code r.1 = .ok (r.2.1, r.2.2.1 - r.1))) = true := by decide +kernel
set_option maxRecDepth 100000 in
theorem fv_d2 : fv_k2.all (fun r => decide (decode prog_2_method_3_code r.1 = .ok (r.2.1, r.2.2.1 - r.1))) = true := by decide +kernel
set_option maxRecDepth 100000 in
theorem fv_d3 : fv_k3.all (fun r => decide (decode prog_2_method_4_code r.1 = .ok (r.2.1, r.2.2.1 - r.1))) = true := by decide +kernel
set_option maxRecDepth 100000 in
theorem fv_d4 : fv_k4.all (fun r => decide (decode prog_3_method_1_code r.1 = .ok (r.2.1, r.2.2.1 - r.1))) = true := by decide +kernel
set_option maxRecDepth 100000 in
theorem fv_d5 : fv_k5.all (fun r => decide (decode prog_3_method_2_code r.1 = .ok (r.2.1, r.2.2.1 - r.1))) = true := by decide +kernel
set_option maxRecDepth 100000 in
theorem fv_d6 : fv_k6.all (fun r => decide (decode prog_3_method_3_code r.1 = .ok (r.2.1, r.2.2.1 - r.1))) = true := by decide +kernel
set_option maxRecDepth 100000 in
theorem fv_d7 : fv_k7.all (fun r => decide (decode prog_3_method_4_code r.1 = .ok (r.2.1, r.2.2.1 - r.1))) = true := by decide +kernel
set_option maxRecDepth 100000 in
theorem fv_d8 : fv_k8.all (fun r => decide (decode prog_3_method_5_code r.1 = .ok (r.2.1, r.2.2.1 - r.1))) = true := by decide +kernel
set_option maxRecDepth 100000 in
theorem fv_d9 : fv_k9.all (fun r => decide (decode prog_3_method_6_code r.1 = .ok (r.2.1, r.2.2.1 - r.1))) = true := by decide +kernel
set_option maxRecDepth 100000 in
theorem fv_d10 : fv_k10.all (fun r => decide (decode prog_3_method_7_code r.1 = .ok (r.2.1, r.2.2.1 - r.1))) = true := by decide +kernel
set_option maxRecDepth 100000 in
theorem fv_d11 : fv_k11.all (fun r => decide (decode prog_3_method_8_code r.1 = .ok (r.2.1, r.2.2.1 - r.1))) = true := by decide +kernel
set_option maxRecDepth 100000 in
theorem fv_d12 : fv_k12.all (fun r => decide (decode prog_3_method_9_code r.1 = .ok (r.2.1, r.2.2.1 - r.1))) = true := by decide +kernel
set_option maxRecDepth 100000 in
theorem fv_d13 : fv_k13.all (fun r => decide (decode prog_3_method_10_code r.1 = .ok (r.2.1, r.2.2.1 - r.1))) = true := by decide +kernel
set_option maxRecDepth 100000 in
theorem fv_d14 : fv_k14.all (fun r => decide (decode prog_3_method_11_code r.1 = .ok (r.2.1, r.2.2.1 - r.1))) = true := by decide +kernel
set_option maxRecDepth 100000 in
theorem fv_d15 : fv_k15.all (fun r => decide (decode prog_3_method_12_code r.1 = .ok (r.2.1, r.2.2.1 - r.1))) = true := by decide +kernel
set_option maxRecDepth 100000 in
theorem fv_d16 : fv_k16.all (fun r => decide (decode prog_3_method_13_code r.1 = .ok (r.2.1, r.2.2.1 - r.1))) = true := by decide +kernel
set_option maxRecDepth 100000 in
theorem fv_d17 : fv_k17.all (fun r => decide (decode prog_3_method_14_code r.1 = .ok (r.2.1, r.2.2.1 - r.1))) = true := by decide +kernel
set_option maxRecDepth 100000 in
theorem fv_d18 : fv_k18.all (fun r => decide (decode prog_3_method_15_code r.1 = .ok (r.2.1, r.2.2.1 - r.1))) = true := by decide +kernel
set_option maxRecDepth 100000 in
theorem fv_d19 : fv_k19.all (fun r => decide (decode prog_3_method_16_code r.1 = .ok (r.2.1, r.2.2.1 - r.1))) = true := by decide +kernel
set_option maxRecDepth 100000 in
theorem fv_d20 : fv_k20.all (fun r => decide (decode prog_3_method_17_code r.1 = .ok (r.2.1, r.2.2.1 - r.1))) = true := by decide +kernel
set_option maxRecDepth 100000 in
theorem fv_d21 : fv_k21.all (fun r => decide (decode prog_3_method_18_code r.1 = .ok (r.2.1, r.2.2.1 - r.1))) = true := by decide +kernel
set_option maxRecDepth 100000 in
theorem fv_d22 : fv_k22.all (fun r => decide (decode prog_3_method_19_code r.1 = .ok (r.2.1, r.2.2.1 - r.1))) = true := by decide +kernel
set_option maxRecDepth 100000 in
theorem fv_d23 : fv_k23.all (fun r => decide (decode prog_3_method_20_code r.1 = .ok (r.2.1, r.2.2.1 - r.1))) = true := by decide +kernel
set_option maxRecDepth 100000 in
theorem fv_d24 : fv_k24.all (fun r => decide (decode prog_4_method_1_code r.1 = .ok (r.2.1, r.2.2.1 - r.1))) = true := by decide +kernel
set_option maxRecDepth 100000 in
theorem fv_d25 : fv_k25.all (fun r => decide (decode prog_4_method_2_code r.1 = .ok (r.2.1, r.2.2.1 - r.1))) = true := by decide +kernel
set_option maxRecDepth 100000 in
theorem fv_d26 : fv_k26.all (fun r => decide (decode prog_4_method_3_code r.1 = .ok (r.2.1, r.2.2.1 - r.1))) = true := by decide +kernel
set_option maxRecDepth 100000 in
theorem fv_d27 : fv_k27.all (fun r => decide (decode prog_5_method_1_code r.1 = .ok (r.2.1, r.2.2.1 - r.1))) = true := by decide +kernel
set_option maxRecDepth 100000 in
theorem fv_d28 : fv_k28.all (fun r => decide (decode prog_5_method_2_code r.1 = .ok (r.2.1, r.2.2.1 - r.1))) = true := by decide +kernel
set_option maxRecDepth 100000 in
theorem fv_d29 : fv_k29.all (fun r => decide (decode prog_5_method_3_code r.1 = .ok (r.2.1, r.2.2.1 - r.1))) = true := by decide +kernel
set_option maxRecDepth 100000 in
theorem fv_d30 : fv_k30.all (fun r => decide (decode prog_5_method_4_code r.1 = .ok (r.2.1, r.2.2.1 - r.1))) = true := by decide +kernel
set_option maxRecDepth 100000 in
theorem fv_d31 : fv_k31.all (fun r => decide (decode prog_5_method_5_code r.1 = .ok (r.2.1, r.2.2.1 - r.1))) = true := by decide +kernel
set_option maxRecDepth 100000 in
theorem fv_d32 : fv_k32.all (fun r => decide (decode prog_5_method_6_code r.1 = .ok (r.2.1, r.2.2.1 - r.1))) = true := by decide +kernel
set_option maxRecDepth 100000 in
theorem fv_d33 : fv_k33.all (fun r => decide (decode prog_5_method_7_code r.1 = .ok (r.2.1, r.2.2.1 - r.1))) = true := by decide +kernel
set_option maxRecDepth 100000 in
theorem fv_d34 : fv_k34.all (fun r => decide (decode prog_5_method_8_code r.1 = .ok (r.2.1, r.2.2.1 - r.1))) = true := by decide +kernel
set_option maxRecDepth 100000 in
theorem fv_d35 : fv_k35.all (fun r => decide (decode prog_5_method_9_code r.1 = .ok (r.2.1, r.2.2.1 - r.1))) = true := by decide +kernel
set_option maxRecDepth 100000 in
theorem fv_d36 : fv_k36.all (fun r => decide (decode prog_5_method_10_code r.1 = .ok (r.2.1, r.2.2.1 - r.1))) = true := by decide +kernel
set_option maxRecDepth 100000 in
theorem fv_d37 : fv_k37.all (fun r => decide (decode prog_5_method_11_code r.1 = .ok (r.2.1, r.2.2.1 - r.1))) = true := by decide +kernel
set_option maxRecDepth 100000 in
theorem fv_d38 : fv_k38.all (fun r => decide (decode prog_5_method_12_code r.1 = .ok (r.2.1, r.2.2.1 - r.1))) = true := by decide +kernel
set_option maxRecDepth 100000 in
theorem fv_d39 : fv_k39.all (fun r => decide (decode prog_5_method_13_code r.1 = .ok (r.2.1, r.2.2.1 - r.1))) = true := by decide +kernel
set_option maxRecDepth 100000 in
theorem fv_d40 : fv_k40.all (fun r => decide (decode prog_6_method_1_code r.1 = .ok (r.2.1, r.2.2.1 - r.1))) = true := by decide +kernel
set_option maxRecDepth 100000 in
theorem fv_d41 : fv_k41.all (fun r => decide (decode prog_6_method_2_code r.1 = .ok (r.2.1, r.2.2.1 - r.1))) = true := by decide +kernel
set_option maxRecDepth 100000 in
theorem fv_d42 : fv_k42.all (fun r => decide (decode prog_6_method_3_code r.1 = .ok (r.2.1, r.2.2.1 - r.1))) = true := by decide +kernel
set_option maxRecDepth 100000 in
theorem fv_d43 : fv_k43.all (fun r => decide (decode prog_6_method_4_code r.1 = .ok (r.2.1, r.2.2.1 - r.1))) = true := by decide +kernel
set_option maxRecDepth 100000 in
theorem fv_d44 : fv_k44.all (fun r => decide (decode prog_6_method_5_code r.1 = .ok (r.2.1, r.2.2.1 - r.1))) = true := by decide +kernel
set_option maxRecDepth 100000 in
theorem fv_d45 : fv_k45.all (fun r => decide (decode prog_6_method_6_code r.1 = .ok (r.2.1, r.2.2.1 - r.1))) = true := by decide +kernel
set_option maxRecDepth 100000 in
theorem fv_d46 : fv_k46.all (fun r => decide (decode prog_6_method_7_code r.1 = .ok (r.2.1, r.2.2.1 - r.1))) = true := by decide +kernel
set_option maxRecDepth 100000 in
theorem fv_d47 : fv_k47.all (fun r => decide (decode prog_6_method_8_code r.1 = .ok (r.2.1, r.2.2.1 - r.1))) = true := by decide +kernel
set_option maxRecDepth 100000 in
theorem fv_d48 : fv_k48.all (fun r => decide (decode prog_6_method_9_code r.1 = .ok (r.2.1, r.2.2.1 - r.1))) = true := by decide +kernel
set_option maxRecDepth 100000 in
theorem fv_d49 : fv_k49.all (fun r => decide (decode prog_6_method_10_code r.1 = .ok (r.2.1, r.2.2.1 - r.1))) = true := by decide +kernel
set_option maxRecDepth 100000 in
theorem fv_d50 : fv_k50.all (fun r => decide (decode prog_1_method_1_code r.1 = .ok (r.2.1, r.2.2.1 - r.1))) = true := by decide +kernel
set_option maxRecDepth 100000 in
theorem fv_d51 : fv_k51.all (fun r => decide (decode prog_1_method_2_code r.1 = .ok (r.2.1, r.2.2.1 - r.1))) = true := by decide +kernel
set_option maxRecDepth 100000 in
theorem fv_d52 : fv_k52.all (fun r => decide (decode prog_1_method_3_code r.1 = .ok (r.2.1, r.2.2.1 - r.1))) = true := by decide +kernel
set_option maxRecDepth 100000 in
theorem fv_d53 : fv_k53.all (fun r => decide (decode prog_1_method_4_code r.1 = .ok (r.2.1, r.2.2.1 - r.1))) = true := by decide +kernel
set_option maxRecDepth 100000 in
theorem fv_d54 : fv_k54.all (fun r => decide (decode prog_1_method_5_code r.1 = .ok (r.2.1, r.2.2.1 - r.1))) = true := by decide +kernel
set_option maxRecDepth 100000 in
theorem fv_d55 : fv_k55.all (fun r => decide (decode prog_1_method_6_code r.1 = .ok (r.2.1, r.2.2.1 - r.1))) = true := by decide +kernel
set_option maxRecDepth 100000 in
theorem fv_d56 : fv_k56.all (fun r => decide (decode prog_1_method_7_code r.1 = .ok (r.2.1, r.2.2.1 - r.1))) = true := by decide +kernel
set_option maxRecDepth 100000 in
theorem fv_d57 : fv_k57.all (fun r => decide (decode prog_1_method_8_code r.1 = .ok (r.2.1, r.2.2.1 - r.1))) = true := by decide +kernel
set_option maxRecDepth 100000 in
theorem fv_d58 : fv_k58.all (fun r => decide (decode prog_1_method_9_code r.1 = .ok (r.2.1, r.2.2.1 - r.1))) = true := by decide +kernel
set_option maxRecDepth 100000 in
theorem fv_d59 : fv_k59.all (fun r => decide (decode prog_1_method_10_code r.1 = .ok (r.2.1, r.2.2.1 - r.1))) = true := by decide +kernel
set_option maxRecDepth 100000 in
theorem fv_d60 : fv_k60.all (fun r => decide (decode prog_1_method_11_code r.1 = .ok (r.2.1, r.2.2.1 - r.1))) = true := by decide +kernel
set_option maxRecDepth 100000 in
theorem fv_d61 : fv_k61.all (fun r => decide (decode prog_1_method_12_code r.1 = .ok (r.2.1, r.2.2.1 - r.1))) = true := by decide +kernel
set_option maxRecDepth 100000 in
theorem fv_d62 : fv_k62.all (fun r => decide (decode prog_1_method_13_code r.1 = .ok (r.2.1, r.2.2.1 - r.1))) = true := by decide +kernel
set_option maxRecDepth 100000 in
theorem fv_d63 : fv_k63.all (fun r => decide (decode prog_1_method_14_code r.1 = .ok (r.2.1, r.2.2.1 - r.1))) = true := by decide +kernel
set_option maxRecDepth 100000 in
theorem fv_d64 : fv_k64.all (fun r => decide (decode prog_1_method_15_code r.1 = .ok (r.2.1, r.2.2.1 - r.1))) = true := by decide +kernel
set_option maxRecDepth 100000 in
theorem fv_d65 : fv_k65.all (fun r => decide (decode prog_1_method_16_code r.1 = .ok (r.2.1, r.2.2.1 - r.1))) = true := by decide +kernel
set_option maxRecDepth 100000 in
theorem fv_d66 : fv_k66.all (fun r => decide (decode prog_1_method_17_code r.1 = .ok (r.2.1, r.2.2.1 - r.1))) = true := by decide +kernel
set_option maxRecDepth 100000 in
theorem fv_d67 : fv_k67.all (fun r => decide (decode prog_1_method_18_code r.1 = .ok (r.2.1, r.2.2.1 - r.1))) = true := by decide +kernel
set_option maxRecDepth 100000 in
theorem fv_d68 : fv_k68.all (fun r => decide (decode prog_1_method_19_code r.1 = .ok (r.2.1, r.2.2.1 - r.1))) = true := by decide +kernel
set_option maxRecDepth 100000 in
theorem fv_d69 : fv_k69.all (fun r => decide (decode prog_1_method_20_code r.1 = .ok (r.2.1, r.2.2.1 - r.1))) = true := by decide +kernel
set_option maxRecDepth 100000 in
theorem fv_d70 : fv_k70.all (fun r => decide (decode prog_1_method_21_code r.1 = .ok (r.2.1, r.2.2.1 - r.1))) = true := by decide +kernel
set_option maxRecDepth 100000 in
theorem fv_d71 : fv_k71.all (fun r => decide (decode prog_1_method_22_code r.1 = .ok (r.2.1, r.2.2.1 - r.1))) = true := by decide +kernel
set_option maxRecDepth 100000 in
theorem fv_d72 : fv_k72.all (fun r => decide (decode prog_1_method_23_code r.1 = .ok (r.2.1, r.2.2.1 - r.1))) = true := by decide +kernel
set_option maxRecDepth 100000 in
theorem fv_d73 : fv_k73.all (fun r => decide (decode prog_1_method_24_code r.1 = .ok (r.2.1, r.2.2.1 - r.1))) = true := by decide +kernel
set_option maxRecDepth 100000 in
theorem fv_d74 : fv_k74.all (fun r => decide (decode prog_1_method_25_code r.1 = .ok (r.2.1, r.2.2.1 - r.1))) = true := by decide +kernel
set_option maxRecDepth 100000 in
theorem fv_d75 : fv_k75.all (fun r => decide (decode prog_1_method_26_code r.1 = .ok (r.2.1, r.2.2.1 - r.1))) = true := by decide +kernel
set_option maxRecDepth 100000 in
theorem fv_d76 : fv_k76.all (fun r => decide (decode prog_1_method_27_code r.1 = .ok (r.2.1, r.2.2.1 - r.1))) = true := by decide +kernel
set_option maxRecDepth 100000 in
theorem fv_d77 : fv_k77.all (fun r => decide (decode prog_1_method_28_code r.1 = .ok (r.2.1, r.2.2.1 - r.1))) = true := by decide +kernel
set_option maxRecDepth 100000 in
theorem fv_d78 : fv_k78.all (fun r => decide (decode prog_1_method_29_code r.1 = .ok (r.2.1, r.2.2.1 - r.1))) = true := by decide +kernel
set_option maxRecDepth 100000 in
theorem fv_d79 : fv_k79.all (fun r => decide (decode prog_1_method_30_code r.1 = .ok (r.2.1, r.2.2.1 - r.1))) = true := by decide +kernel
set_option maxRecDepth 100000 in
theorem fv_d80 : fv_k80.all (fun r => decide (decode prog_1_method_31_code r.1 = .ok (r.2.1, r.2.2.1 - r.1))) = true := by decide +kernel
set_option maxRecDepth 100000 in
theorem fv_d81 : fv_k81.all (fun r => decide (decode prog_1_method_32_code r.1 = .ok (r.2.1, r.2.2.1 - r.1))) = true := by decide +kernel
set_option maxRecDepth 100000 in
theorem fv_d82 : fv_k82.all (fun r => decide (decode prog_1_method_33_code r.1 = .ok (r.2.1, r.2.2.1 - r.1))) = true := by decide +kernel
set_option maxRecDepth 100000 in
theorem fv_d83 : fv_k83.all (fun r => decide (decode prog_1_method_34_code r.1 = .ok (r.2.1, r.2.2.1 - r.1))) = true := by decide +kernel
set_option maxRecDepth 100000 in
theorem fv_d84 : fv_k84.all (fun r => decide (decode prog_1_method_35_code r.1 = .ok (r.2.1, r.2.2.1 - r.1))) = true := by decide +kernel
set_option maxRecDepth 100000 in
theorem fv_d85 : fv_k85.all (fun r => decide (decode prog_1_method_36_code r.1 = .ok (r.2.1, r.2.2.1 - r.1))) = true := by decide +kernel
set_option maxRecDepth 100000 in
theorem fv_d86 : fv_k86.all (fun r => decide (decode prog_1_method_37_code r.1 = .ok (r.2.1, r.2.2.1 - r.1))) = true := by decide +kernel
set_option maxRecDepth 100000 in
theorem fv_d87 : fv_k87.all (fun r => decide (decode prog_1_method_38_code r.1 = .ok (r.2.1, r.2.2.1 - r.1))) = true := by decide +kernel
set_option maxRecDepth 100000 in
theorem fv_d88 : fv_k88.all (fun r => decide (decode prog_1_method_39_code r.1 = .ok (r.2.1, r.2.2.1 - r.1))) = true := by decide +kernel
set_option maxRecDepth 100000 in
theorem fv_d89 : fv_k89.all (fun r => decide (decode prog_1_method_40_code r.1 = .ok (r.2.1, r.2.2.1 - r.1))) = true := by decide +kernel
set_option maxRecDepth 100000 in
theorem fv_d90 : fv_k90.all (fun r => decide (decode prog_1_method_41_code r.1 = .ok (r.2.1, r.2.2.1 - r.1))) = true := by decide +kernel
set_option maxRecDepth 100000 in
theorem fv_d91 : fv_k91.all (fun r => decide (decode prog_1_method_42_code r.1 = .ok (r.2.1, r.2.2.1 - r.1))) = true := by decide +kernel
set_option maxRecDepth 100000 in
theorem fv_d92 : fv_k92.all (fun r => decide (decode prog_1_method_43_code r.1 = .ok (r.2.1, r.2.2.1 - r.1))) = true := by decide +kernel
set_option maxRecDepth 100000 in
theorem fv_d93 : fv_k93.all (fun r => decide (decode prog_1_method_44_code r.1 = .ok (r.2.1, r.2.2.1 - r.1))) = true := by decide +kernel
set_option maxRecDepth 100000 in
theorem fv_d94 : fv_k94.all (fun r => decide (decode prog_1_method_45_code r.1 = .ok (r.2.1, r.2.2.1 - r.1))) = true := by decide +kernel
set_option maxRecDepth 100000 in
theorem fv_d95 : fv_k95.all (fun r => decide (decode prog_1_method_46_code r.1 = .ok (r.2.1, r.2.2.1 - r.1))) = true := by decide +kernel
set_option maxRecDepth 100000 in
theorem fv_d96 : fv_k96.all (fun r => decide (decode prog_1_method_47_code r.1 = .ok (r.2.1, r.2.2.1 - r.1))) = true := by decide +kernel
set_option maxRecDepth 100000 in
theorem fv_d97 : fv_k97.all (fun r => decide (decode prog_1_method_48_code r.1 = .ok (r.2.1, r.2.2.1 - r.1))) = true := by decide +kernel
set_option maxRecDepth 100000 in
theorem fv_d98 : fv_k98.all (fun r => decide (decode prog_1_method_49_code r.1 = .ok (r.2.1, r.2.2.1 - r.1))) = true := by decide +kernel
set_option maxRecDepth 100000 in
theorem fv_d99 : fv_k99.all (fun r => decide (decode prog_1_method_50_code r.1 = .ok (r.2.1, r.2.2.1 - r.1))) = true := by decide +kernel
set_option maxRecDepth 100000 in
theorem fv_d100 : fv_k100.all (fun r => decide (decode prog_1_method_51_code r.1 = .ok (r.2.1, r.2.2.1 - r.1))) = true := by decide +kernel
set_option maxRecDepth 100000 in
theorem fv_d101 : fv_k101.all (fun r => decide (decode prog_1_method_52_code r.1 = .ok (r.2.1, r.2.2.1 - r.1))) = true := by decide +kernel
set_option maxRecDepth 100000 in
theorem fv_d102 : fv_k102.all (fun r => decide (decode prog_1_method_53_code r.1 = .ok (r.2.1, r.2.2.1 - r.1))) = true := by decide +kernel
set_option maxRecDepth 100000 in
theorem fv_d103 : fv_k103.all (fun r => decide (decode prog_1_method_54_code r.1 = .ok (r.2.1, r.2.2.1 - r.1))) = true := by decide +kernel
set_option maxRecDepth 100000 in
theorem fv_d104 : fv_k104.all (fun r => decide (decode prog_1_method_55_code r.1 = .ok (r.2.1, r.2.2.1 - r.1))) = true := by decide +kernel
set_option maxRecDepth 100000 in
theorem fv_d105 : fv_k105.all (fun r => decide (decode prog_8_method_1_code r.1 = .ok (r.2.1, r.2.2.1 - r.1))) = true := by decide +kernel
set_option maxRecDepth 100000 in
theorem fv_d106 : fv_k106.all (fun r => decide (decode prog_8_method_3_code r.1 = .ok (r.2.1, r.2.2.1 - r.1))) = true := by decide +kernel
set_option maxRecDepth 100000 in
theorem fv_d107 : fv_k107.all (fun r => decide (decode prog_8_method_4_code r.1 = .ok (r.2.1, r.2.2.1 - r.1))) = true := by decide +kernel
set_option maxRecDepth 100000 in
theorem fv_d108 : fv_k108.all (fun r => decide (decode prog_8_method_5_code r.1 = .ok (r.2.1, r.2.2.1 - r.1))) = true := by decide +kernel
set_option maxRecDepth 100000 in
theorem fv_d109 : fv_k109.all (fun r => decide (decode prog_8_method_6_code r.1 = .ok (r.2.1, r.2.2.1 - r.1))) = true := by decide +kernel
set_option maxRecDepth 100000 in
theorem fv_d110 : fv_k110.all (fun r => decide (decode prog_8_method_7_code r.1 = .ok (r.2.1, r.2.2.1 - r.1))) = true := by decide +kernel
set_option maxRecDepth 100000 in
theorem fv_d111 : fv_k111.all (fun r => decide (decode prog_8_method_8_code r.1 = .ok (r.2.1, r.2.2.1 - r.1))) = true := by decide +kernel
set_option maxRecDepth 100000 in
theorem fv_d112 : fv_k112.all (fun r => decide (decode prog_8_method_9_code r.1 = .ok (r.2.1, r.2.2.1 - r.1))) = true := by decide +kernel
set_option maxRecDepth 100000 in
theorem fv_d113 : fv_k113.all (fun r => decide (decode prog_8_method_10_code r.1 = .ok (r.2.1, r.2.2.1 - r.1))) = true := by decide +kernel
set_option maxRecDepth 100000 in
theorem fv_d114 : fv_k114.all (fun r => decide (decode prog_8_method_11_code r.1 = .ok (r.2.1, r.2.2.1 - r.1))) = true := by decide +kernel
set_option maxRecDepth 100000 in
theorem fv_d115 : fv_k115.all (fun r => decide (decode prog_8_method_12_code r.1 = .ok (r.2.1, r.2.2.1 - r.1))) = true := by decide +kernel
set_option maxRecDepth 100000 in
theorem fv_d116 : fv_k116.all (fun r => decide (decode prog_8_method_13_code r.1 = .ok (r.2.1, r.2.2.1 - r.1))) = true := by decide +kernel
set_option maxRecDepth 100000 in
theorem fv_d117 : fv_k117.all (fun r => decide (decode prog_8_method_14_code r.1 = .ok (r.2.1, r.2.2.1 - r.1))) = true := by decide +kernel
set_option maxRecDepth 100000 in
theorem fv_d118 : fv_k118.all (fun r => decide (decode prog_8_method_15_code r.1 = .ok (r.2.1, r.2.2.1 - r.1))) = true := by decide +kernel
set_option maxRecDepth 100000 in
theorem fv_d119 : fv_k119.all (fun r => decide (decode prog_8_method_16_code r.1 = .ok (r.2.1, r.2.2.1 - r.1))) = true := by decide +kernel
set_option maxRecDepth 100000 in
theorem fv_d120 : fv_k120.all (fun r => decide (decode prog_8_method_17_code r.1 = .ok (r.2.1, r.2.2.1 - r.1))) = true := by decide +kernel
set_option maxRecDepth 100000 in
theorem fv_d121 : fv_k121.all (fun r => decide (decode prog_8_method_18_code r.1 = .ok (r.2.1, r.2.2.1 - r.1))) = true := by decide +kernel
set_option maxRecDepth 100000 in
theorem fv_d122 : fv_k122.all (fun r => decide (decode prog_8_method_19_code r.1 = .ok (r.2.1, r.2.2.1 - r.1))) = true := by decide +kernel
set_option maxRecDepth 100000 in
theorem fv_d123 : fv_k123.all (fun r => decide (decode prog_8_method_20_code r.1 = .ok (r.2.1, r.2.2.1 - r.1))) = true := by decide +kernel
set_option maxRecDepth 100000 in
theorem fv_d124 : fv_k124.all (fun r => decide (decode prog_8_method_21_code r.1 = .ok (r.2.1, r.2.2.1 - r.1))) = true := by decide +kernel
set_option maxRecDepth 100000 in
theorem fv_d125 : fv_k125.all (fun r => decide (decode prog_8_method_22_code r.1 = .ok (r.2.1, r.2.2.1 - r.1))) = true := by decide +kernel
set_option maxRecDepth 100000 in
theorem fv_d126 : fv_k126.all (fun r => decide (decode prog_8_method_23_code r.1 = .ok (r.2.1, r.2.2.1 - r.1))) = true := by decide +kernel
set_option maxRecDepth 100000 in
theorem fv_d127 : fv_k127.all (fun r => decide (decode prog_8_method_24_code r.1 = .ok (r.2.1, r.2.2.1 - r.1))) = true := by decide +kernel
set_option maxRecDepth 100000 in
theorem fv_d128 : fv_k128.all (fun r => decide (decode prog_8_method_25_code r.1 = .ok (r.2.1, r.2.2.1 - r.1))) = true := by decide +kernel
set_option maxRecDepth 100000 in
theorem fv_d129 : fv_k129.all (fun r => decide (decode prog_8_method_26_code r.1 = .ok (r.2.1, r.2.2.1 - r.1))) = true := by decide +kernel
set_option maxRecDepth 100000 in
theorem fv_d130 : fv_k130.all (fun r => decide (decode prog_8_method_27_code r.1 = .ok (r.2.1, r.2.2.1 - r.1))) = true := by decide +kernel
set_option maxRecDepth 100000 in
theorem fv_d131 : fv_k131.all (fun r => decide (decode prog_8_method_28_code r.1 = .ok (r.2.1, r.2.2.1 - r.1))) = true := by decide +kernel
set_option maxRecDepth 100000 in
theorem fv_d132 : fv_k132.all (fun r => decide (decode prog_8_method_29_code r.1 = .ok (r.2.1, r.2.2.1 - r.1))) = true := by decide +kernel
set_option maxRecDepth 100000 in
theorem fv_d133 : fv_k133.all (fun r => decide (decode prog_8_method_30_code r.1 = .ok (r.2.1, r.2.2.1 - r.1))) = true := by decide +kernel
set_option maxRecDepth 100000 in
theorem fv_d134 : fv_k134.all (fun r => decide (decode prog_8_method_31_code r.1 = .ok (r.2.1, r.2.2.1 - r.1))) = true := by decide +kernel
set_option maxRecDepth 100000 in
theorem fv_d135 : fv_k135.all (fun r => decide (decode prog_8_method_32_code r.1 = .ok (r.2.1, r.2.2.1 - r.1))) = true := by decide +kernel
set_option maxRecDepth 100000 in
theorem fv_d136 : fv_k136.all (fun r => decide (decode prog_8_method_33_code r.1 = .ok (r.2.1, r.2.2.1 - r.1))) = true := by decide +kernel
set_option maxRecDepth 100000 in
theorem fv_d137 : fv_k137.all (fun r => decide (decode prog_8_method_34_code r.1 = .ok (r.2.1, r.2.2.1 - r.1))) = true := by decide +kernel
set_option maxRecDepth 100000 in
theorem fv_d138 : fv_k138.all (fun r => decide (decode prog_8_method_35_code r.1 = .ok (r.2.1, r.2.2.1 - r.1))) = true := by decide +kernel
set_option maxRecDepth 100000 in
theorem fv_d139 : fv_k139.all (fun r => decide (decode prog_8_method_36_code r.1 = .ok (r.2.1, r.2.2.1 - r.1))) = true := by decide +kernel
set_option maxRecDepth 100000 in
theorem fv_d140 : fv_k140.all (fun r => decide (decode prog_8_method_37_code r.1 = .ok (r.2.1, r.2.2.1 - r.1))) = true := by decide +kernel
set_option maxRecDepth 100000 in
theorem fv_d141 : fv_k141.all (fun r => decide (decode prog_8_method_38_code r.1 = .ok (r.2.1, r.2.2.1 - r.1))) = true := by decide +kernel
set_option maxRecDepth 100000 in
theorem fv_d142 : fv_k142.all (fun r => decide (decode prog_8_method_39_code r.1 = .ok (r.2.1, r.2.2.1 - r.1))) = true := by decide +kernel
set_option maxRecDepth 100000 in
theorem fv_d143 : fv_k143.all (fun r => decide (decode prog_8_method_40_code r.1 = .ok (r.2.1, r.2.2.1 - r.1))) = true := by decide +kernel
set_option maxRecDepth 100000 in
theorem fv_d144 : fv_k144.all (fun r => decide (decode prog_8_method_41_code r.1 = .ok (r.2.1, r.2.2.1 - r.1))) = true := by decide +kernel
set_option maxRecDepth 100000 in
theorem fv_d145 : fv_k145.all (fun r => decide (decode prog_8_method_42_code r.1 = .ok (r.2.1, r.2.2.1 - r.1))) = true := by decide +kernel
set_option maxRecDepth 100000 in
theorem fv_d146 : fv_k146.all (fun r => decide (decode prog_8_method_43_code r.1 = .ok (r.2.1, r.2.2.1 - r.1))) = true := by decide +kernel
set_option maxRecDepth 100000 in
theorem fv_d147 : fv_k147.all (fun r => decide (decode prog_8_method_44_code r.1 = .ok (r.2.1, r.2.2.1 - r.1))) = true := by decide +kernel
set_option maxRecDepth 100000 in
theorem fv_d148 : fv_k148.all (fun r => decide (decode prog_8_method_45_code r.1 = .ok (r.2.1, r.2.2.1 - r.1))) = true := by decide +kernel
set_option maxRecDepth 100000 in
theorem fv_d149 : fv_k149.all (fun r => decide (decode prog_8_method_46_code r.1 = .ok (r.2.1, r.2.2.1 - r.1))) = true := by decide +kernel
set_option maxRecDepth 100000 in
theorem fv_d150 : fv_k150.all (fun r => decide (decode prog_8_method_47_code r.1 = .ok (r.2.1, r.2.2.1 - r.1))) = true := by decide +kernel
set_option maxRecDepth 100000 in
theorem fv_d151 : fv_k151.all (fun r => decide (decode prog_8_method_48_code r.1 = .ok (r.2.1, r.2.2.1 - r.1))) = true := by decide +kernel
set_option maxRecDepth 100000 in
theorem fv_d152 : fv_k152.all (fun r => decide (decode prog_8_method_49_code r.1 = .ok (r.2.1, r.2.2.1 - r.1))) = true := by decide +kernel
set_option maxRecDepth 100000 in
theorem fv_d153 : fv_k153.all (fun r => decide (decode prog_8_method_50_code r.1 = .ok (r.2.1, r.2.2.1 - r.1))) = true := by decide +kernel
set_option maxRecDepth 100000 in
theorem fv_d154 : fv_k154.all (fun r => decide (decode prog_8_method_51_code r.1 = .ok (r.2.1, r.2.2.1 - r.1))) = true := by decide +kernel
set_option maxRecDepth 100000 in
theorem fv_d155 : fv_k155.all (fun r => decide (decode prog_8_method_52_code r.1 = .ok (r.2.1, r.2.2.1 - r.1))) = true := by decide +kernel
set_option maxRecDepth 100000 in
theorem fv_d156 : fv_k156.all (fun r => decide (decode prog_8_method_53_code r.1 = .ok (r.2.1, r.2.2.1 - r.1))) = true := by decide +kernel
set_option maxRecDepth 100000 in
theorem fv_d157 : fv_k157.all (fun r => decide (decode prog_8_method_54_code r.1 = .ok (r.2.1, r.2.2.1 - r.1))) = true := by decide +kernel
set_option maxRecDepth 100000 in
theorem fv_d158 : fv_k158.all (fun r => decide (decode prog_8_method_55_code r.1 = .ok (r.2.1, r.2.2.1 - r.1))) = true := by decide +kernel
set_option maxRecDepth 100000 in
theorem fv_d159 : fv_k159.all (fun r => decide (decode prog_8_method_56_code r.1 = .ok (r.2.1, r.2.2.1 - r.1))) = true := by decide +kernel
set_option maxRecDepth 100000 in
theorem fv_d160 : fv_k160.all (fun r => decide (decode prog_8_method_57_code r.1 = .ok (r.2.1, r.2.2.1 - r.1))) = true := by decide +kernel
set_option maxRecDepth 100000 in
theorem fv_d161 : fv_k161.all (fun r => decide (decode prog_8_method_58_code r.1 = .ok (r.2.1, r.2.2.1 - r.1))) = true := by decide +kernel
set_option maxRecDepth 100000 in
theorem fv_d162 : fv_k162.all (fun r => decide (decode prog_8_method_59_code r.1 = .ok (r.2.1, r.2.2.1 - r.1))) = true := by decide +kernel
set_option maxRecDepth 100000 in
theorem fv_d163 : fv_k163.all (fun r => decide (decode prog_8_method_60_code r.1 = .ok (r.2.1, r.2.2.1 - r.1))) = true := by decide +kernel
set_option maxRecDepth 100000 in
theorem fv_d164 : fv_k164.all (fun r => decide (decode prog_8_method_61_code r.1 = .ok (r.2.1, r.2.2.1 - r.1))) = true := by decide +kernel
set_option maxRecDepth 100000 in
theorem fv_d165 : fv_k165.all (fun r => decide (decode prog_8_method_62_code r.1 = .ok (r.2.1, r.2.2.1 - r.1))) = true := by decide +kernel
set_option maxRecDepth 100000 in
theorem fv_d166 : fv_k166.all (fun r => decide (decode prog_8_method_63_code r.1 = .ok (r.2.1, r.2.2.1 - r.1))) = true := by decide +kernel
set_option maxRecDepth 100000 in
theorem fv_d167 : fv_k167.all (fun r => decide (decode prog_9_method_49_code r.1 = .ok (r.2.1, r.2.2.1 - r.1))) = true := by decide +kernel
end
section
/-! the law's own code rows, part 0 -/
def fv_kl_0_0 : List fv_Row := [(0, .new 7, 3, .new 5), (3, .dup, 4, .dup), (4, .invokespecial 9, 7, .invokestatic 50), (7, .astore_n 1, 8, .astore 1), (8, .new 10, 11, .new 6), (11, .dup, 12, .dup), (12, .invokespecial 12, 15, .invokestatic 105), (15, .astore_n 2, 16, .astore 2), (16, .iconst 0, 17, .iconst 0), (17, .istore_n 3, 18, .istore 3), (18, .iload_n 3, 19, .iload 3), (19, .aload_n 0, 20, .aload 0), (20, .arraylength, 21, .arraylength), (21, .iconst 5, 22, .iconst 5), (22, .isub, 23, .isub), (23, .if_icmp .gt 1017, 26, .if_icmp .gt 1040), (26, .aload_n 0, 27, .aload 0), (27, .iload_n 3, 28, .iload 3), (28, .iaload, 29, .iaload), (29, .bipush 31, 31, .iconst 31), (31, .iand, 32, .iand), (32, .tableswitch 1002 0 29 #[136, 159, 172, 185, 198, 231, 254, 287, 320, 353, 376, 429, 462, 475, 528, 551, 574, 587, 630, 653, 686, 719, 742, 801, 814, 857, 910, 953, 966, 979], 168, .tableswitch 1034 0 29 #[168, 191, 204, 217, 230, 263, 286, 319, 352, 385, 408, 461, 494, 507, 560, 583, 606, 619, 662, 685, 718, 751, 774, 833, 846, 889, 942, 985, 998, 1011]), (168, .aload_n 1, 169, .aload 1), (169, .aload_n 0, 170, .aload 0), (170, .iload_n 3, 171, .iload 3), (171, .iconst 1, 172, .iconst 1), (172, .iadd, 173, .iadd), (173, .iaload, 174, .iaload), (174, .invokevirtual 13, 177, .invokestatic 51), (177, .aload_n 2, 178, .aload 2), (178, .aload_n 0, 179, .aload 0), (179, .iload_n 3, 180, .iload 3), (180, .iconst 1, 181, .iconst 1), (181, .iadd, 182, .iadd), (182, .iaload, 183, .iaload), (183, .invokevirtual 17, 186, .invokestatic 112), (186, .if_icmp .eq 848, 189, .if_icmp .eq 1034), (189, .iconst 0, 190, .iconst 0), (190, .ireturn, 191, .ireturn), (191, .aload_n 1, 192, .aload 1), (192, .invokevirtual 18, 195, .invokestatic 52), (195, .aload_n 2, 196, .aload 2), (196, .invokevirtual 22, 199, .invokestatic 113), (199, .if_icmp .eq 835, 202, .if_icmp .eq 1034), (202, .iconst 0, 203, .iconst 0)]
set_option maxRecDepth 100000 in
theorem fv_kl_0_0_d : fv_kl_0_0.all (fun r => decide (decode code r.1 = .ok (r.2.1, r.2.2.1 - r.1))) = true := by decide +kernel
def fv_kl_0_1 : List fv_Row := [(203, .ireturn, 204, .ireturn), (204, .aload_n 1, 205, .aload 1), (205, .invokevirtual 23, 208, .invokestatic 53), (208, .aload_n 2, 209, .aload 2), (209, .invokevirtual 26, 212, .invokestatic 127), (212, .if_icmp .eq 822, 215, .if_icmp .eq 1034), (215, .iconst 0, 216, .iconst 0), (216, .ireturn, 217, .ireturn), (217, .aload_n 1, 218, .aload 1), (218, .invokevirtual 27, 221, .invokestatic 54), (221, .aload_n 2, 222, .aload 2), (222, .invokevirtual 30, 225, .invokestatic 128), (225, .if_icmp .eq 809, 228, .if_icmp .eq 1034), (228, .iconst 0, 229, .iconst 0), (229, .ireturn, 230, .ireturn), (230, .aload_n 1, 231, .aload 1), (231, .aload_n 0, 232, .aload 0), (232, .iload_n 3, 233, .iload 3), (233, .iconst 1, 234, .iconst 1), (234, .iadd, 235, .iadd), (235, .iaload, 236, .iaload), (236, .aload_n 0, 237, .aload 0), (237, .iload_n 3, 238, .iload 3), (238, .iconst 2, 239, .iconst 2), (239, .iadd, 240, .iadd), (240, .iaload, 241, .iaload), (241, .invokevirtual 31, 244, .invokestatic 55), (244, .aload_n 2, 245, .aload 2), (245, .aload_n 0, 246, .aload 0), (246, .iload_n 3, 247, .iload 3), (247, .iconst 1, 248, .iconst 1), (248, .iadd, 249, .iadd), (249, .iaload, 250, .iaload), (250, .aload_n 0, 251, .aload 0), (251, .iload_n 3, 252, .iload 3), (252, .iconst 2, 253, .iconst 2), (253, .iadd, 254, .iadd), (254, .iaload, 255, .iaload), (255, .invokevirtual 35, 258, .invokestatic 135), (258, .if_icmp .eq 776, 261, .if_icmp .eq 1034), (261, .iconst 0, 262, .iconst 0), (262, .ireturn, 263, .ireturn), (263, .aload_n 1, 264, .aload 1), (264, .aload_n 0, 265, .aload 0), (265, .iload_n 3, 266, .iload 3)]
set_option maxRecDepth 100000 in
theorem fv_kl_0_1_d : fv_kl_0_1.all (fun r => decide (decode code r.1 = .ok (r.2.1, r.2.2.1 - r.1))) = true := by decide +kernel
def fv_kl_0_2 : List fv_Row := [(266, .iconst 1, 267, .iconst 1), (267, .iadd, 268, .iadd), (268, .iaload, 269, .iaload), (269, .invokevirtual 36, 272, .invokestatic 56), (272, .aload_n 2, 273, .aload 2), (273, .aload_n 0, 274, .aload 0), (274, .iload_n 3, 275, .iload 3), (275, .iconst 1, 276, .iconst 1), (276, .iadd, 277, .iadd), (277, .iaload, 278, .iaload), (278, .invokevirtual 39, 281, .invokestatic 136), (281, .if_icmp .eq 753, 284, .if_icmp .eq 1034), (284, .iconst 0, 285, .iconst 0), (285, .ireturn, 286, .ireturn), (286, .aload_n 1, 287, .aload 1), (287, .aload_n 0, 288, .aload 0), (288, .iload_n 3, 289, .iload 3), (289, .iconst 1, 290, .iconst 1), (290, .iadd, 291, .iadd), (291, .iaload, 292, .iaload), (292, .aload_n 0, 293, .aload 0), (293, .iload_n 3, 294, .iload 3), (294, .iconst 2, 295, .iconst 2), (295, .iadd, 296, .iadd), (296, .iaload, 297, .iaload), (297, .invokevirtual 40, 300, .invokestatic 57), (300, .aload_n 2, 301, .aload 2), (301, .aload_n 0, 302, .aload 0), (302, .iload_n 3, 303, .iload 3), (303, .iconst 1, 304, .iconst 1), (304, .iadd, 305, .iadd), (305, .iaload, 306, .iaload), (306, .aload_n 0, 307, .aload 0), (307, .iload_n 3, 308, .iload 3), (308, .iconst 2, 309, .iconst 2), (309, .iadd, 310, .iadd), (310, .iaload, 311, .iaload), (311, .invokevirtual 43, 314, .invokestatic 137), (314, .if_icmp .eq 720, 317, .if_icmp .eq 1034), (317, .iconst 0, 318, .iconst 0), (318, .ireturn, 319, .ireturn), (319, .aload_n 1, 320, .aload 1), (320, .aload_n 0, 321, .aload 0), (321, .iload_n 3, 322, .iload 3), (322, .iconst 1, 323, .iconst 1)]
set_option maxRecDepth 100000 in
theorem fv_kl_0_2_d : fv_kl_0_2.all (fun r => decide (decode code r.1 = .ok (r.2.1, r.2.2.1 - r.1))) = true := by decide +kernel
def fv_kl_0_3 : List fv_Row := [(323, .iadd, 324, .iadd), (324, .iaload, 325, .iaload), (325, .aload_n 0, 326, .aload 0), (326, .iload_n 3, 327, .iload 3), (327, .iconst 2, 328, .iconst 2), (328, .iadd, 329, .iadd), (329, .iaload, 330, .iaload), (330, .invokevirtual 44, 333, .invokestatic 58), (333, .aload_n 2, 334, .aload 2), (334, .aload_n 0, 335, .aload 0), (335, .iload_n 3, 336, .iload 3), (336, .iconst 1, 337, .iconst 1), (337, .iadd, 338, .iadd), (338, .iaload, 339, .iaload), (339, .aload_n 0, 340, .aload 0), (340, .iload_n 3, 341, .iload 3), (341, .iconst 2, 342, .iconst 2), (342, .iadd, 343, .iadd), (343, .iaload, 344, .iaload), (344, .invokevirtual 47, 347, .invokestatic 138), (347, .if_icmp .eq 687, 350, .if_icmp .eq 1034), (350, .iconst 0, 351, .iconst 0), (351, .ireturn, 352, .ireturn), (352, .aload_n 1, 353, .aload 1), (353, .aload_n 0, 354, .aload 0), (354, .iload_n 3, 355, .iload 3), (355, .iconst 1, 356, .iconst 1), (356, .iadd, 357, .iadd), (357, .iaload, 358, .iaload), (358, .aload_n 0, 359, .aload 0), (359, .iload_n 3, 360, .iload 3), (360, .iconst 2, 361, .iconst 2), (361, .iadd, 362, .iadd), (362, .iaload, 363, .iaload), (363, .invokevirtual 48, 366, .invokestatic 59), (366, .aload_n 2, 367, .aload 2), (367, .aload_n 0, 368, .aload 0), (368, .iload_n 3, 369, .iload 3), (369, .iconst 1, 370, .iconst 1), (370, .iadd, 371, .iadd), (371, .iaload, 372, .iaload)]
set_option maxRecDepth 100000 in
theorem fv_kl_0_3_d : fv_kl_0_3.all (fun r => decide (decode code r.1 = .ok (r.2.1, r.2.2.1 - r.1))) = true := by decide +kernel
end
section
/-! the law's own code rows, part 1 -/
def fv_kl_1_0 : List fv_Row := [(372, .aload_n 0, 373, .aload 0), (373, .iload_n 3, 374, .iload 3), (374, .iconst 2, 375, .iconst 2), (375, .iadd, 376, .iadd), (376, .iaload, 377, .iaload), (377, .invokevirtual 51, 380, .invokestatic 139), (380, .if_icmp .eq 654, 383, .if_icmp .eq 1034), (383, .iconst 0, 384, .iconst 0), (384, .ireturn, 385, .ireturn), (385, .aload_n 1, 386, .aload 1), (386, .aload_n 0, 387, .aload 0), (387, .iload_n 3, 388, .iload 3), (388, .iconst 1, 389, .iconst 1), (389, .iadd, 390, .iadd), (390, .iaload, 391, .iaload), (391, .invokevirtual 52, 394, .invokestatic 60), (394, .aload_n 2, 395, .aload 2), (395, .aload_n 0, 396, .aload 0), (396, .iload_n 3, 397, .iload 3), (397, .iconst 1, 398, .iconst 1), (398, .iadd, 399, .iadd), (399, .iaload, 400, .iaload), (400, .invokevirtual 55, 403, .invokestatic 147), (403, .if_icmp .eq 631, 406, .if_icmp .eq 1034), (406, .iconst 0, 407, .iconst 0), (407, .ireturn, 408, .ireturn), (408, .aload_n 1, 409, .aload 1), (409, .aload_n 0, 410, .aload 0), (410, .iload_n 3, 411, .iload 3), (411, .iconst 1, 412, .iconst 1), (412, .iadd, 413, .iadd), (413, .iaload, 414, .iaload), (414, .aload_n 0, 415, .aload 0), (415, .iload_n 3, 416, .iload 3), (416, .iconst 2, 417, .iconst 2), (417, .iadd, 418, .iadd), (418, .iaload, 419, .iaload), (419, .aload_n 0, 420, .aload 0), (420, .iload_n 3, 421, .iload 3), (421, .iconst 3, 422, .iconst 3), (422, .iadd, 423, .iadd), (423, .iaload, 424, .iaload), (424, .aload_n 0, 425, .aload 0), (425, .iload_n 3, 426, .iload 3), (426, .iconst 4, 427, .iconst 4)]
set_option maxRecDepth 100000 in
theorem fv_kl_1_0_d : fv_kl_1_0.all (fun r => decide (decode code r.1 = .ok (r.2.1, r.2.2.1 - r.1))) = true := by decide +kernel
def fv_kl_1_1 : List fv_Row := [(427, .iadd, 428, .iadd), (428, .iaload, 429, .iaload), (429, .invokevirtual 56, 432, .invokestatic 61), (432, .aload_n 2, 433, .aload 2), (433, .aload_n 0, 434, .aload 0), (434, .iload_n 3, 435, .iload 3), (435, .iconst 1, 436, .iconst 1), (436, .iadd, 437, .iadd), (437, .iaload, 438, .iaload), (438, .aload_n 0, 439, .aload 0), (439, .iload_n 3, 440, .iload 3), (440, .iconst 2, 441, .iconst 2), (441, .iadd, 442, .iadd), (442, .iaload, 443, .iaload), (443, .aload_n 0, 444, .aload 0), (444, .iload_n 3, 445, .iload 3), (445, .iconst 3, 446, .iconst 3), (446, .iadd, 447, .iadd), (447, .iaload, 448, .iaload), (448, .aload_n 0, 449, .aload 0), (449, .iload_n 3, 450, .iload 3), (450, .iconst 4, 451, .iconst 4), (451, .iadd, 452, .iadd), (452, .iaload, 453, .iaload), (453, .invokevirtual 60, 456, .invokestatic 148), (456, .if_icmp .eq 578, 459, .if_icmp .eq 1034), (459, .iconst 0, 460, .iconst 0), (460, .ireturn, 461, .ireturn), (461, .aload_n 1, 462, .aload 1), (462, .aload_n 0, 463, .aload 0), (463, .iload_n 3, 464, .iload 3), (464, .iconst 1, 465, .iconst 1), (465, .iadd, 466, .iadd), (466, .iaload, 467, .iaload), (467, .aload_n 0, 468, .aload 0), (468, .iload_n 3, 469, .iload 3), (469, .iconst 2, 470, .iconst 2), (470, .iadd, 471, .iadd), (471, .iaload, 472, .iaload), (472, .invokevirtual 61, 475, .invokestatic 62), (475, .aload_n 2, 476, .aload 2), (476, .aload_n 0, 477, .aload 0), (477, .iload_n 3, 478, .iload 3), (478, .iconst 1, 479, .iconst 1), (479, .iadd, 480, .iadd)]
set_option maxRecDepth 100000 in
theorem fv_kl_1_1_d : fv_kl_1_1.all (fun r => decide (decode code r.1 = .ok (r.2.1, r.2.2.1 - r.1))) = true := by decide +kernel
def fv_kl_1_2 : List fv_Row := [(480, .iaload, 481, .iaload), (481, .aload_n 0, 482, .aload 0), (482, .iload_n 3, 483, .iload 3), (483, .iconst 2, 484, .iconst 2), (484, .iadd, 485, .iadd), (485, .iaload, 486, .iaload), (486, .invokevirtual 64, 489, .invokestatic 150), (489, .if_icmp .eq 545, 492, .if_icmp .eq 1034), (492, .iconst 0, 493, .iconst 0), (493, .ireturn, 494, .ireturn), (494, .aload_n 1, 495, .aload 1), (495, .invokevirtual 65, 498, .invokestatic 63), (498, .aload_n 2, 499, .aload 2), (499, .invokevirtual 68, 502, .invokestatic 151), (502, .if_icmp .eq 532, 505, .if_icmp .eq 1034), (505, .iconst 0, 506, .iconst 0), (506, .ireturn, 507, .ireturn), (507, .aload_n 1, 508, .aload 1), (508, .aload_n 0, 509, .aload 0), (509, .iload_n 3, 510, .iload 3), (510, .iconst 1, 511, .iconst 1), (511, .iadd, 512, .iadd), (512, .iaload, 513, .iaload), (513, .aload_n 0, 514, .aload 0), (514, .iload_n 3, 515, .iload 3), (515, .iconst 2, 516, .iconst 2), (516, .iadd, 517, .iadd), (517, .iaload, 518, .iaload), (518, .aload_n 0, 519, .aload 0), (519, .iload_n 3, 520, .iload 3), (520, .iconst 3, 521, .iconst 3), (521, .iadd, 522, .iadd), (522, .iaload, 523, .iaload), (523, .aload_n 0, 524, .aload 0), (524, .iload_n 3, 525, .iload 3), (525, .iconst 4, 526, .iconst 4), (526, .iadd, 527, .iadd), (527, .iaload, 528, .iaload), (528, .invokevirtual 69, 531, .invokestatic 64), (531, .aload_n 2, 532, .aload 2), (532, .aload_n 0, 533, .aload 0), (533, .iload_n 3, 534, .iload 3), (534, .iconst 1, 535, .iconst 1), (535, .iadd, 536, .iadd), (536, .iaload, 537, .iaload)]
set_option maxRecDepth 100000 in
theorem fv_kl_1_2_d : fv_kl_1_2.all (fun r => decide (decode code r.1 = .ok (r.2.1, r.2.2.1 - r.1))) = true := by decide +kernel
def fv_kl_1_3 : List fv_Row := [(537, .aload_n 0, 538, .aload 0), (538, .iload_n 3, 539, .iload 3), (539, .iconst 2, 540, .iconst 2), (540, .iadd, 541, .iadd), (541, .iaload, 542, .iaload), (542, .aload_n 0, 543, .aload 0), (543, .iload_n 3, 544, .iload 3), (544, .iconst 3, 545, .iconst 3), (545, .iadd, 546, .iadd), (546, .iaload, 547, .iaload), (547, .aload_n 0, 548, .aload 0), (548, .iload_n 3, 549, .iload 3), (549, .iconst 4, 550, .iconst 4), (550, .iadd, 551, .iadd), (551, .iaload, 552, .iaload), (552, .invokevirtual 72, 555, .invokestatic 152), (555, .if_icmp .eq 479, 558, .if_icmp .eq 1034), (558, .iconst 0, 559, .iconst 0), (559, .ireturn, 560, .ireturn), (560, .aload_n 1, 561, .aload 1), (561, .aload_n 0, 562, .aload 0), (562, .iload_n 3, 563, .iload 3), (563, .iconst 1, 564, .iconst 1), (564, .iadd, 565, .iadd), (565, .iaload, 566, .iaload), (566, .invokevirtual 73, 569, .invokestatic 65), (569, .aload_n 2, 570, .aload 2), (570, .aload_n 0, 571, .aload 0), (571, .iload_n 3, 572, .iload 3), (572, .iconst 1, 573, .iconst 1), (573, .iadd, 574, .iadd), (574, .iaload, 575, .iaload), (575, .invokevirtual 76, 578, .invokestatic 153), (578, .if_icmp .eq 456, 581, .if_icmp .eq 1034), (581, .iconst 0, 582, .iconst 0), (582, .ireturn, 583, .ireturn), (583, .aload_n 1, 584, .aload 1), (584, .aload_n 0, 585, .aload 0), (585, .iload_n 3, 586, .iload 3), (586, .iconst 1, 587, .iconst 1), (587, .iadd, 588, .iadd)]
set_option maxRecDepth 100000 in
theorem fv_kl_1_3_d : fv_kl_1_3.all (fun r => decide (decode code r.1 = .ok (r.2.1, r.2.2.1 - r.1))) = true := by decide +kernel
end
section
/-! the law's own code rows, part 2 -/
def fv_kl_2_0 : List fv_Row := [(588, .iaload, 589, .iaload), (589, .invokevirtual 77, 592, .invokestatic 66), (592, .aload_n 2, 593, .aload 2), (593, .aload_n 0, 594, .aload 0), (594, .iload_n 3, 595, .iload 3), (595, .iconst 1, 596, .iconst 1), (596, .iadd, 597, .iadd), (597, .iaload, 598, .iaload), (598, .invokevirtual 80, 601, .invokestatic 154), (601, .if_icmp .eq 433, 604, .if_icmp .eq 1034), (604, .iconst 0, 605, .iconst 0), (605, .ireturn, 606, .ireturn), (606, .aload_n 1, 607, .aload 1), (607, .invokevirtual 81, 610, .invokestatic 67), (610, .aload_n 2, 611, .aload 2), (611, .invokevirtual 84, 614, .invokestatic 156), (614, .if_icmp .eq 420, 617, .if_icmp .eq 1034), (617, .iconst 0, 618, .iconst 0), (618, .ireturn, 619, .ireturn), (619, .aload_n 1, 620, .aload 1), (620, .aload_n 0, 621, .aload 0), (621, .iload_n 3, 622, .iload 3), (622, .iconst 1, 623, .iconst 1), (623, .iadd, 624, .iadd), (624, .iaload, 625, .iaload), (625, .aload_n 0, 626, .aload 0), (626, .iload_n 3, 627, .iload 3), (627, .iconst 2, 628, .iconst 2), (628, .iadd, 629, .iadd), (629, .iaload, 630, .iaload), (630, .aload_n 0, 631, .aload 0), (631, .iload_n 3, 632, .iload 3), (632, .iconst 3, 633, .iconst 3), (633, .iadd, 634, .iadd), (634, .iaload, 635, .iaload), (635, .invokevirtual 85, 638, .invokestatic 68), (638, .aload_n 2, 639, .aload 2), (639, .aload_n 0, 640, .aload 0), (640, .iload_n 3, 641, .iload 3), (641, .iconst 1, 642, .iconst 1), (642, .iadd, 643, .iadd), (643, .iaload, 644, .iaload), (644, .aload_n 0, 645, .aload 0), (645, .iload_n 3, 646, .iload 3), (646, .iconst 2, 647, .iconst 2)]
set_option maxRecDepth 100000 in
theorem fv_kl_2_0_d : fv_kl_2_0.all (fun r => decide (decode code r.1 = .ok (r.2.1, r.2.2.1 - r.1))) = true := by decide +kernel
def fv_kl_2_1 : List fv_Row := [(647, .iadd, 648, .iadd), (648, .iaload, 649, .iaload), (649, .aload_n 0, 650, .aload 0), (650, .iload_n 3, 651, .iload 3), (651, .iconst 3, 652, .iconst 3), (652, .iadd, 653, .iadd), (653, .iaload, 654, .iaload), (654, .invokevirtual 89, 657, .invokestatic 157), (657, .if_icmp .eq 377, 660, .if_icmp .eq 1034), (660, .iconst 0, 661, .iconst 0), (661, .ireturn, 662, .ireturn), (662, .aload_n 1, 663, .aload 1), (663, .aload_n 0, 664, .aload 0), (664, .iload_n 3, 665, .iload 3), (665, .iconst 1, 666, .iconst 1), (666, .iadd, 667, .iadd), (667, .iaload, 668, .iaload), (668, .invokevirtual 90, 671, .invokestatic 69), (671, .aload_n 2, 672, .aload 2), (672, .aload_n 0, 673, .aload 0), (673, .iload_n 3, 674, .iload 3), (674, .iconst 1, 675, .iconst 1), (675, .iadd, 676, .iadd), (676, .iaload, 677, .iaload), (677, .invokevirtual 93, 680, .invokestatic 132), (680, .if_icmp .eq 354, 683, .if_icmp .eq 1034), (683, .iconst 0, 684, .iconst 0), (684, .ireturn, 685, .ireturn), (685, .aload_n 1, 686, .aload 1), (686, .aload_n 0, 687, .aload 0), (687, .iload_n 3, 688, .iload 3), (688, .iconst 1, 689, .iconst 1), (689, .iadd, 690, .iadd), (690, .iaload, 691, .iaload), (691, .aload_n 0, 692, .aload 0), (692, .iload_n 3, 693, .iload 3), (693, .iconst 2, 694, .iconst 2), (694, .iadd, 695, .iadd), (695, .iaload, 696, .iaload), (696, .invokevirtual 94, 699, .invokestatic 70), (699, .aload_n 2, 700, .aload 2), (700, .aload_n 0, 701, .aload 0), (701, .iload_n 3, 702, .iload 3), (702, .iconst 1, 703, .iconst 1), (703, .iadd, 704, .iadd)]
set_option maxRecDepth 100000 in
theorem fv_kl_2_1_d : fv_kl_2_1.all (fun r => decide (decode code r.1 = .ok (r.2.1, r.2.2.1 - r.1))) = true := by decide +kernel
def fv_kl_2_2 : List fv_Row := [(704, .iaload, 705, .iaload), (705, .aload_n 0, 706, .aload 0), (706, .iload_n 3, 707, .iload 3), (707, .iconst 2, 708, .iconst 2), (708, .iadd, 709, .iadd), (709, .iaload, 710, .iaload), (710, .invokevirtual 97, 713, .invokestatic 133), (713, .if_icmp .eq 321, 716, .if_icmp .eq 1034), (716, .iconst 0, 717, .iconst 0), (717, .ireturn, 718, .ireturn), (718, .aload_n 1, 719, .aload 1), (719, .aload_n 0, 720, .aload 0), (720, .iload_n 3, 721, .iload 3), (721, .iconst 1, 722, .iconst 1), (722, .iadd, 723, .iadd), (723, .iaload, 724, .iaload), (724, .aload_n 0, 725, .aload 0), (725, .iload_n 3, 726, .iload 3), (726, .iconst 2, 727, .iconst 2), (727, .iadd, 728, .iadd), (728, .iaload, 729, .iaload), (729, .invokevirtual 98, 732, .invokestatic 71), (732, .aload_n 2, 733, .aload 2), (733, .aload_n 0, 734, .aload 0), (734, .iload_n 3, 735, .iload 3), (735, .iconst 1, 736, .iconst 1), (736, .iadd, 737, .iadd), (737, .iaload, 738, .iaload), (738, .aload_n 0, 739, .aload 0), (739, .iload_n 3, 740, .iload 3), (740, .iconst 2, 741, .iconst 2), (741, .iadd, 742, .iadd), (742, .iaload, 743, .iaload), (743, .invokevirtual 101, 746, .invokestatic 134), (746, .if_icmp .eq 288, 749, .if_icmp .eq 1034), (749, .iconst 0, 750, .iconst 0), (750, .ireturn, 751, .ireturn), (751, .aload_n 1, 752, .aload 1), (752, .aload_n 0, 753, .aload 0), (753, .iload_n 3, 754, .iload 3), (754, .iconst 1, 755, .iconst 1), (755, .iadd, 756, .iadd), (756, .iaload, 757, .iaload), (757, .invokevirtual 102, 760, .invokestatic 72), (760, .aload_n 2, 761, .aload 2)]
set_option maxRecDepth 100000 in
theorem fv_kl_2_2_d : fv_kl_2_2.all (fun r => decide (decode code r.1 = .ok (r.2.1, r.2.2.1 - r.1))) = true := by decide +kernel
def fv_kl_2_3 : List fv_Row := [(761, .aload_n 0, 762, .aload 0), (762, .iload_n 3, 763, .iload 3), (763, .iconst 1, 764, .iconst 1), (764, .iadd, 765, .iadd), (765, .iaload, 766, .iaload), (766, .invokevirtual 105, 769, .invokestatic 158), (769, .if_icmp .eq 265, 772, .if_icmp .eq 1034), (772, .iconst 0, 773, .iconst 0), (773, .ireturn, 774, .ireturn), (774, .aload_n 1, 775, .aload 1), (775, .aload_n 0, 776, .aload 0), (776, .iload_n 3, 777, .iload 3), (777, .iconst 1, 778, .iconst 1), (778, .iadd, 779, .iadd), (779, .iaload, 780, .iaload), (780, .aload_n 0, 781, .aload 0), (781, .iload_n 3, 782, .iload 3), (782, .iconst 2, 783, .iconst 2), (783, .iadd, 784, .iadd), (784, .iaload, 785, .iaload), (785, .aload_n 0, 786, .aload 0), (786, .iload_n 3, 787, .iload 3), (787, .iconst 3, 788, .iconst 3), (788, .iadd, 789, .iadd), (789, .iaload, 790, .iaload), (790, .ifCond .eq 7, 793, .ifCond .eq 797), (793, .iconst 1, 794, .iconst 1), (794, .goto 4, 797, .goto 798), (797, .iconst 0, 798, .iconst 0), (798, .invokevirtual 106, 801, .invokestatic 73), (801, .aload_n 2, 802, .aload 2), (802, .aload_n 0, 803, .aload 0), (803, .iload_n 3, 804, .iload 3), (804, .iconst 1, 805, .iconst 1), (805, .iadd, 806, .iadd), (806, .iaload, 807, .iaload), (807, .aload_n 0, 808, .aload 0), (808, .iload_n 3, 809, .iload 3), (809, .iconst 2, 810, .iconst 2), (810, .iadd, 811, .iadd), (811, .iaload, 812, .iaload)]
set_option maxRecDepth 100000 in
theorem fv_kl_2_3_d : fv_kl_2_3.all (fun r => decide (decode code r.1 = .ok (r.2.1, r.2.2.1 - r.1))) = true := by decide +kernel
end
section
/-! the law's own code rows, part 3 -/
def fv_kl_3_0 : List fv_Row := [(812, .aload_n 0, 813, .aload 0), (813, .iload_n 3, 814, .iload 3), (814, .iconst 3, 815, .iconst 3), (815, .iadd, 816, .iadd), (816, .iaload, 817, .iaload), (817, .ifCond .eq 7, 820, .ifCond .eq 824), (820, .iconst 1, 821, .iconst 1), (821, .goto 4, 824, .goto 825), (824, .iconst 0, 825, .iconst 0), (825, .invokevirtual 110, 828, .invokestatic 159), (828, .if_icmp .eq 206, 831, .if_icmp .eq 1034), (831, .iconst 0, 832, .iconst 0), (832, .ireturn, 833, .ireturn), (833, .aload_n 1, 834, .aload 1), (834, .invokevirtual 111, 837, .invokestatic 74), (837, .aload_n 2, 838, .aload 2), (838, .invokevirtual 114, 841, .invokestatic 160), (841, .if_icmp .eq 193, 844, .if_icmp .eq 1034), (844, .iconst 0, 845, .iconst 0), (845, .ireturn, 846, .ireturn), (846, .aload_n 1, 847, .aload 1), (847, .aload_n 0, 848, .aload 0), (848, .iload_n 3, 849, .iload 3), (849, .iconst 1, 850, .iconst 1), (850, .iadd, 851, .iadd), (851, .iaload, 852, .iaload), (852, .aload_n 0, 853, .aload 0), (853, .iload_n 3, 854, .iload 3), (854, .iconst 2, 855, .iconst 2), (855, .iadd, 856, .iadd), (856, .iaload, 857, .iaload), (857, .aload_n 0, 858, .aload 0), (858, .iload_n 3, 859, .iload 3), (859, .iconst 3, 860, .iconst 3), (860, .iadd, 861, .iadd), (861, .iaload, 862, .iaload), (862, .invokevirtual 115, 865, .invokestatic 75), (865, .aload_n 2, 866, .aload 2), (866, .aload_n 0, 867, .aload 0), (867, .iload_n 3, 868, .iload 3), (868, .iconst 1, 869, .iconst 1), (869, .iadd, 870, .iadd), (870, .iaload, 871, .iaload), (871, .aload_n 0, 872, .aload 0), (872, .iload_n 3, 873, .iload 3)]
set_option maxRecDepth 100000 in
theorem fv_kl_3_0_d : fv_kl_3_0.all (fun r => decide (decode code r.1 = .ok (r.2.1, r.2.2.1 - r.1))) = true := by decide +kernel
def fv_kl_3_1 : List fv_Row := [(873, .iconst 2, 874, .iconst 2), (874, .iadd, 875, .iadd), (875, .iaload, 876, .iaload), (876, .aload_n 0, 877, .aload 0), (877, .iload_n 3, 878, .iload 3), (878, .iconst 3, 879, .iconst 3), (879, .iadd, 880, .iadd), (880, .iaload, 881, .iaload), (881, .invokevirtual 118, 884, .invokestatic 161), (884, .if_icmp .eq 150, 887, .if_icmp .eq 1034), (887, .iconst 0, 888, .iconst 0), (888, .ireturn, 889, .ireturn), (889, .aload_n 1, 890, .aload 1), (890, .aload_n 0, 891, .aload 0), (891, .iload_n 3, 892, .iload 3), (892, .iconst 1, 893, .iconst 1), (893, .iadd, 894, .iadd), (894, .iaload, 895, .iaload), (895, .aload_n 0, 896, .aload 0), (896, .iload_n 3, 897, .iload 3), (897, .iconst 2, 898, .iconst 2), (898, .iadd, 899, .iadd), (899, .iaload, 900, .iaload), (900, .aload_n 0, 901, .aload 0), (901, .iload_n 3, 902, .iload 3), (902, .iconst 3, 903, .iconst 3), (903, .iadd, 904, .iadd), (904, .iaload, 905, .iaload), (905, .aload_n 0, 906, .aload 0), (906, .iload_n 3, 907, .iload 3), (907, .iconst 4, 908, .iconst 4), (908, .iadd, 909, .iadd), (909, .iaload, 910, .iaload), (910, .invokevirtual 119, 913, .invokestatic 76), (913, .aload_n 2, 914, .aload 2), (914, .aload_n 0, 915, .aload 0), (915, .iload_n 3, 916, .iload 3), (916, .iconst 1, 917, .iconst 1), (917, .iadd, 918, .iadd), (918, .iaload, 919, .iaload), (919, .aload_n 0, 920, .aload 0), (920, .iload_n 3, 921, .iload 3), (921, .iconst 2, 922, .iconst 2), (922, .iadd, 923, .iadd), (923, .iaload, 924, .iaload)]
set_option maxRecDepth 100000 in
theorem fv_kl_3_1_d : fv_kl_3_1.all (fun r => decide (decode code r.1 = .ok (r.2.1, r.2.2.1 - r.1))) = true := by decide +kernel
def fv_kl_3_2 : List fv_Row := [(924, .aload_n 0, 925, .aload 0), (925, .iload_n 3, 926, .iload 3), (926, .iconst 3, 927, .iconst 3), (927, .iadd, 928, .iadd), (928, .iaload, 929, .iaload), (929, .aload_n 0, 930, .aload 0), (930, .iload_n 3, 931, .iload 3), (931, .iconst 4, 932, .iconst 4), (932, .iadd, 933, .iadd), (933, .iaload, 934, .iaload), (934, .invokevirtual 122, 937, .invokestatic 162), (937, .if_icmp .eq 97, 940, .if_icmp .eq 1034), (940, .iconst 0, 941, .iconst 0), (941, .ireturn, 942, .ireturn), (942, .aload_n 1, 943, .aload 1), (943, .aload_n 0, 944, .aload 0), (944, .iload_n 3, 945, .iload 3), (945, .iconst 1, 946, .iconst 1), (946, .iadd, 947, .iadd), (947, .iaload, 948, .iaload), (948, .aload_n 0, 949, .aload 0), (949, .iload_n 3, 950, .iload 3), (950, .iconst 2, 951, .iconst 2), (951, .iadd, 952, .iadd), (952, .iaload, 953, .iaload), (953, .aload_n 0, 954, .aload 0), (954, .iload_n 3, 955, .iload 3), (955, .iconst 3, 956, .iconst 3), (956, .iadd, 957, .iadd), (957, .iaload, 958, .iaload), (958, .invokevirtual 123, 961, .invokestatic 77), (961, .aload_n 2, 962, .aload 2), (962, .aload_n 0, 963, .aload 0), (963, .iload_n 3, 964, .iload 3), (964, .iconst 1, 965, .iconst 1), (965, .iadd, 966, .iadd), (966, .iaload, 967, .iaload), (967, .aload_n 0, 968, .aload 0), (968, .iload_n 3, 969, .iload 3), (969, .iconst 2, 970, .iconst 2), (970, .iadd, 971, .iadd), (971, .iaload, 972, .iaload), (972, .aload_n 0, 973, .aload 0), (973, .iload_n 3, 974, .iload 3), (974, .iconst 3, 975, .iconst 3)]
set_option maxRecDepth 100000 in
theorem fv_kl_3_2_d : fv_kl_3_2.all (fun r => decide (decode code r.1 = .ok (r.2.1, r.2.2.1 - r.1))) = true := by decide +kernel
def fv_kl_3_3 : List fv_Row := [(975, .iadd, 976, .iadd), (976, .iaload, 977, .iaload), (977, .invokevirtual 126, 980, .invokestatic 163), (980, .if_icmp .eq 54, 983, .if_icmp .eq 1034), (983, .iconst 0, 984, .iconst 0), (984, .ireturn, 985, .ireturn), (985, .aload_n 1, 986, .aload 1), (986, .invokevirtual 127, 989, .invokestatic 78), (989, .aload_n 2, 990, .aload 2), (990, .invokevirtual 130, 993, .invokestatic 164), (993, .if_icmp .eq 41, 996, .if_icmp .eq 1034), (996, .iconst 0, 997, .iconst 0), (997, .ireturn, 998, .ireturn), (998, .aload_n 1, 999, .aload 1), (999, .invokevirtual 131, 1002, .invokestatic 79), (1002, .aload_n 2, 1003, .aload 2), (1003, .invokevirtual 134, 1006, .invokestatic 165), (1006, .if_icmp .eq 28, 1009, .if_icmp .eq 1034), (1009, .iconst 0, 1010, .iconst 0), (1010, .ireturn, 1011, .ireturn), (1011, .aload_n 1, 1012, .aload 1), (1012, .aload_n 0, 1013, .aload 0), (1013, .iload_n 3, 1014, .iload 3), (1014, .iconst 1, 1015, .iconst 1), (1015, .iadd, 1016, .iadd), (1016, .iaload, 1017, .iaload), (1017, .invokevirtual 135, 1020, .invokestatic 80), (1020, .aload_n 2, 1021, .aload 2), (1021, .aload_n 0, 1022, .aload 0), (1022, .iload_n 3, 1023, .iload 3), (1023, .iconst 1, 1024, .iconst 1), (1024, .iadd, 1025, .iadd), (1025, .iaload, 1026, .iaload), (1026, .invokevirtual 138, 1029, .invokestatic 166), (1029, .if_icmp .eq 5, 1032, .if_icmp .eq 1034), (1032, .iconst 0, 1033, .iconst 0), (1033, .ireturn, 1034, .ireturn), (1034, .iinc 3 5, 1037, .iinc 3 5), (1037, .goto (-1019), 1040, .multianewarray 18 4), (1040, .iconst 1, 1041, .iconst 1), (1041, .ireturn, 1042, .ireturn)]
set_option maxRecDepth 100000 in
theorem fv_kl_3_3_d : fv_kl_3_3.all (fun r => decide (decode code r.1 = .ok (r.2.1, r.2.2.1 - r.1))) = true := by decide +kernel
def fv_k168 : List fv_Row := fv_kl_0_0 ++ (fv_kl_0_1 ++ (fv_kl_0_2 ++ (fv_kl_0_3 ++ (fv_kl_1_0 ++ (fv_kl_1_1 ++ (fv_kl_1_2 ++ (fv_kl_1_3 ++ (fv_kl_2_0 ++ (fv_kl_2_1 ++ (fv_kl_2_2 ++ (fv_kl_2_3 ++ (fv_kl_3_0 ++ (fv_kl_3_1 ++ (fv_kl_3_2 ++ (fv_kl_3_3)))))))))))))))
theorem fv_d168 : fv_k168.all (fun r => decide (decode code r.1 = .ok (r.2.1, r.2.2.1 - r.1))) = true := by
  unfold fv_k168
  simp only [List.all_append, fv_kl_0_0_d, fv_kl_0_1_d, fv_kl_0_2_d, fv_kl_0_3_d, fv_kl_1_0_d, fv_kl_1_1_d, fv_kl_1_2_d, fv_kl_1_3_d, fv_kl_2_0_d, fv_kl_2_1_d, fv_kl_2_2_d, fv_kl_2_3_d, fv_kl_3_0_d, fv_kl_3_1_d, fv_kl_3_2_d, fv_kl_3_3_d, Bool.and_true]
end
section
/-! the linked program as a function over a shape and a memory of ints (own words): shape: a row of ints (kind, length) or an object (kind of object, fields: an int that stands in the memory, or a value that does not change but by the shape) -/
abbrev fv_Sl : Type := List (Option Value)
abbrev fv_C : Type := (Nat × Nat) ⊕ (Nat × List (Option Value))
abbrev fv_Sh : Type := List fv_C
abbrev fv_M : Type := Nat → Nat → Int32
abbrev fv_R : Type := Option Value × fv_Sh × fv_M
abbrev fv_X : Type := Nat × (Nat → Int32)
abbrev fv_Nx : Type := (Nat × fv_Sl × List Value × (Nat × Nat) × fv_Sh × fv_M) ⊕ (Option Value ⊕ (Nat × List Value × Nat × List Value))
def fv_set (M : fv_M) (c k : Nat) (x : Int32) : fv_M := fun j => if j = c then upd (M c) k x else M j
def fv_new (M : fv_M) (c : Nat) : fv_M := fun j => if j = c then fun _ => 0 else M j
def fv_rows : List (List fv_Row) := [fv_k0, fv_k1, fv_k2, fv_k3, fv_k4, fv_k5, fv_k6, fv_k7, fv_k8, fv_k9, fv_k10, fv_k11, fv_k12, fv_k13, fv_k14, fv_k15, fv_k16, fv_k17, fv_k18, fv_k19, fv_k20, fv_k21, fv_k22, fv_k23, fv_k24, fv_k25, fv_k26, fv_k27, fv_k28, fv_k29, fv_k30, fv_k31, fv_k32, fv_k33, fv_k34, fv_k35, fv_k36, fv_k37, fv_k38, fv_k39, fv_k40, fv_k41, fv_k42, fv_k43, fv_k44, fv_k45, fv_k46, fv_k47, fv_k48, fv_k49, fv_k50, fv_k51, fv_k52, fv_k53, fv_k54, fv_k55, fv_k56, fv_k57, fv_k58, fv_k59, fv_k60, fv_k61, fv_k62, fv_k63, fv_k64, fv_k65, fv_k66, fv_k67, fv_k68, fv_k69, fv_k70, fv_k71, fv_k72, fv_k73, fv_k74, fv_k75, fv_k76, fv_k77, fv_k78, fv_k79, fv_k80, fv_k81, fv_k82, fv_k83, fv_k84, fv_k85, fv_k86, fv_k87, fv_k88, fv_k89, fv_k90, fv_k91, fv_k92, fv_k93, fv_k94, fv_k95, fv_k96, fv_k97, fv_k98, fv_k99, fv_k100, fv_k101, fv_k102, fv_k103, fv_k104, fv_k105, fv_k106, fv_k107, fv_k108, fv_k109, fv_k110, fv_k111, fv_k112, fv_k113, fv_k114, fv_k115, fv_k116, fv_k117, fv_k118, fv_k119, fv_k120, fv_k121, fv_k122, fv_k123, fv_k124, fv_k125, fv_k126, fv_k127, fv_k128, fv_k129, fv_k130, fv_k131, fv_k132, fv_k133, fv_k134, fv_k135, fv_k136, fv_k137, fv_k138, fv_k139, fv_k140, fv_k141, fv_k142, fv_k143, fv_k144, fv_k145, fv_k146, fv_k147, fv_k148, fv_k149, fv_k150, fv_k151, fv_k152, fv_k153, fv_k154, fv_k155, fv_k156, fv_k157, fv_k158, fv_k159, fv_k160, fv_k161, fv_k162, fv_k163, fv_k164, fv_k165, fv_k166, fv_k167, fv_k168]
def fv_lk (y pc : Nat) : Option (Instr × Nat) := ((fv_rows.getD y []).find? (fun r => r.1 == pc)).map (fun r => (r.2.2.2, r.2.2.1))
/-- the script's and the text's own places, which are no cells -/
def fv_SCR : Nat := 1000000
def fv_STR : Nat := 1000001
def fv_TXT : List Nat := [118, 48, 44, 50, 59, 118, 49, 44, 48, 59, 118, 50, 44, 51, 59, 118, 51, 44, 49, 59, 110, 51, 59, 110, 54, 59, 110, 49, 51, 59, 110, 57, 59, 110, 52, 59, 116, 55, 59, 116, 50, 53, 59, 115, 48, 44, 48, 44, 52, 59, 115, 48, 44, 50, 44, 50, 59, 115, 49, 44, 49, 44, 51, 59, 115, 49, 44, 51, 44, 53, 59, 115, 49, 44, 48, 44, 49, 59, 119, 48, 44, 48, 44, 52, 59, 119, 48, 44, 50, 44, 54, 59, 119, 49, 44, 51, 44, 53, 59, 119, 48, 44, 49, 44, 50, 59, 119, 49, 44, 48, 44, 55, 59]
def fv_st1 (ls : fv_Sl) (i : Nat) (v : Value) : Option fv_Sl :=
  if i = ls.length then some (ls ++ [some v]) else
  match ls[i]? with
  | some (some w) => if w.category = 1 then some (ls.set i (some v)) else none
  | _ => none
def fv_c1 (c : Jvm.ClassFile.Cond) (x : Int32) : Bool := match c with
  | .eq => decide (x = 0) | .ne => decide (¬ x = 0) | .lt => decide (x < 0) | .ge => decide (0 ≤ x) | .gt => decide (0 < x) | .le => decide (x ≤ 0)
def fv_c2 (c : Jvm.ClassFile.Cond) (x y : Int32) : Bool := match c with
  | .eq => decide (x = y) | .ne => decide (¬ x = y) | .lt => decide (x < y) | .ge => decide (y ≤ x) | .gt => decide (y < x) | .le => decide (x ≤ y)
def fv_rok (t : Option FieldType) (x : Int32) : Bool := match t with
  | some .int => true | some .boolean => decide (x = 0 ∨ x = 1) | _ => false
def fv_belV (n : Nat) (v : Value) : Bool := match v with
  | .ref r => decide (r < n) || decide (fv_SCR ≤ r) | _ => true
def fv_belO (n : Nat) (v : Option Value) : Bool := match v with
  | some v => fv_belV n v | none => true
def fv_belC (n : Nat) (c : fv_C) : Bool := match c with
  | .inl _ => true | .inr (_, sl) => sl.all (fv_belO n)
def fv_one (o : Option Value) : Bool := match o with
  | some v => v.category == 1 | none => true
def fv_isI (t : FieldType) : Bool := match t with
  | .int => true | _ => false
def fv_isR (t : FieldType) : Bool := match t with
  | .object _ => true | .array _ => true | _ => false
def fv_at (t : ArrayType) : Option Nat := match t with
  | .int => some 0 | .boolean => some 1 | .char => some 2 | _ => none
/-- a new object's fields -/
def fv_sl0 (ci : Nat) : List (Option Value) := (List.range (fv_NF ci)).map (fun k => match fv_Y ci k with | .int => none | _ => some .null)
def fv_tgt (d lo hi : Int) (offs : Array Int) (x : Int32) : Option Nat :=
  if x.toInt < lo ∨ hi < x.toInt then some d.toNat else (offs[(x.toInt - lo).toNat]?).map Int.toNat
def fv_out (i : Int32) (n : Nat) : Prop := i < 0 ∨ n ≤ i.toNatClampNeg
def fv_nx (X : fv_X) (y pc : Nat) (ls : fv_Sl) (st : List Value) (k : Nat × Nat) (sh : fv_Sh) (M : fv_M) : Option fv_Nx :=
  match fv_lk y pc with
  | none => none
  | some (i, np) =>
    match i with
    | .iconst v => some (.inl (np, ls, .int (Int32.ofInt v) :: st, k, sh, M))
    | .ldc2_w v => some (.inl (np, ls, .long (Int64.ofNat v) :: st, k, sh, M))
    | .ldc _ => if y = fv_XI then some (.inl (np, ls, .ref fv_STR :: st, k, sh, M)) else none
    | .iload j => match ls[j]? with
      | some (some (.int x)) => some (.inl (np, ls, .int x :: st, k, sh, M))
      | _ => none
    | .aload j => match ls[j]? with
      | some (some (.ref x)) => some (.inl (np, ls, .ref x :: st, k, sh, M))
      | _ => none
    | .lload j => match ls[j]? with
      | some (some (.long x)) => some (.inl (np, ls, .long x :: st, k, sh, M))
      | _ => none
    | .istore j => match st with
      | .int x :: st => (fv_st1 ls j (.int x)).map (fun ls => .inl (np, ls, st, k, sh, M))
      | _ => none
    | .astore j => match st with
      | .ref x :: st => (fv_st1 ls j (.ref x)).map (fun ls => .inl (np, ls, st, k, sh, M))
      | _ => none
    | .lstore j => match st with
      | .long x :: st => if j = ls.length then some (.inl (np, ls ++ [some (.long x), none], st, k, sh, M)) else none
      | _ => none
    | .iinc j c => match ls[j]? with
      | some (some (.int x)) => some (.inl (np, ls.set j (some (.int (x + Int32.ofInt c))), st, k, sh, M))
      | _ => none
    | .iadd => match st with
      | .int b :: .int a :: st => some (.inl (np, ls, .int (a + b) :: st, k, sh, M))
      | _ => none
    | .isub => match st with
      | .int b :: .int a :: st => some (.inl (np, ls, .int (a - b) :: st, k, sh, M))
      | _ => none
    | .imul => match st with
      | .int b :: .int a :: st => some (.inl (np, ls, .int (a * b) :: st, k, sh, M))
      | _ => none
    | .iand => match st with
      | .int b :: .int a :: st => some (.inl (np, ls, .int (a &&& b) :: st, k, sh, M))
      | _ => none
    | .ior => match st with
      | .int b :: .int a :: st => some (.inl (np, ls, .int (a ||| b) :: st, k, sh, M))
      | _ => none
    | .ixor => match st with
      | .int b :: .int a :: st => some (.inl (np, ls, .int (a ^^^ b) :: st, k, sh, M))
      | _ => none
    | .ishl => match st with
      | .int b :: .int a :: st => some (.inl (np, ls, .int (a <<< (b &&& 31)) :: st, k, sh, M))
      | _ => none
    | .ishr => match st with
      | .int b :: .int a :: st => some (.inl (np, ls, .int (a >>> (b &&& 31)) :: st, k, sh, M))
      | _ => none
    | .iushr => match st with
      | .int b :: .int a :: st => some (.inl (np, ls, .int (a.toUInt32 >>> (b.toUInt32 &&& Int32.toUInt32 31)).toInt32 :: st, k, sh, M))
      | _ => none
    | .idiv => match st with
      | .int b :: .int a :: st => if b = 0 then none else some (.inl (np, ls, .int (a / b) :: st, k, sh, M))
      | _ => none
    | .irem => match st with
      | .int b :: .int a :: st => if b = 0 then none else some (.inl (np, ls, .int (a - a / b * b) :: st, k, sh, M))
      | _ => none
    | .dadd => match st with
      | .int b :: .int a :: st => if (st.map fun v => v.category).sum ≤ 8 then some (.inl (np, ls, .int (if a < b then b else a) :: st, k, sh, M)) else none
      | _ => none
    | .dsub => match st with
      | .int b :: .int a :: st => if (st.map fun v => v.category).sum ≤ 8 then some (.inl (np, ls, .int (if b < a then b else a) :: st, k, sh, M)) else none
      | _ => none
    | .ladd => match st with
      | .long b :: .long a :: st => some (.inl (np, ls, .long (a + b) :: st, k, sh, M))
      | _ => none
    | .lmul => match st with
      | .long b :: .long a :: st => some (.inl (np, ls, .long (a * b) :: st, k, sh, M))
      | _ => none
    | .ldiv => match st with
      | .long b :: .long a :: st => if b = 0 then none else some (.inl (np, ls, .long (a / b) :: st, k, sh, M))
      | _ => none
    | .lrem => match st with
      | .long b :: .long a :: st => if b = 0 then none else some (.inl (np, ls, .long (a - a / b * b) :: st, k, sh, M))
      | _ => none
    | .i2l => match st with
      | .int a :: st => some (.inl (np, ls, .long a.toInt64 :: st, k, sh, M))
      | _ => none
    | .l2i => match st with
      | .long a :: st => some (.inl (np, ls, .int a.toInt32 :: st, k, sh, M))
      | _ => none
    | .i2c => match st with
      | .int a :: st => some (.inl (np, ls, .int (a.toUInt32 % 65536).toInt32 :: st, k, sh, M))
      | _ => none
    | .dup => match st with
      | a :: st => if a.category = 1 then some (.inl (np, ls, a :: a :: st, k, sh, M)) else none
      | _ => none
    | .dup2 => match st with
      | a :: b :: st => if a.category = 1 ∧ b.category = 1 then some (.inl (np, ls, a :: b :: a :: b :: st, k, sh, M)) else none
      | _ => none
    | .pop => match st with
      | a :: st => if a.category = 1 then some (.inl (np, ls, st, k, sh, M)) else none
      | _ => none
    | .goto t => some (.inl (t.toNat, ls, st, k, sh, M))
    | .multianewarray t n => if (ls.take n).all fv_one = true then some (.inl (t, ls.take n, st, k, sh, M)) else none
    | .ifCond c t => match st with
      | .int a :: st => some (.inl (if fv_c1 c a = true then t.toNat else np, ls, st, k, sh, M))
      | _ => none
    | .if_icmp c t => match st with
      | .int b :: .int a :: st => some (.inl (if fv_c2 c a b = true then t.toNat else np, ls, st, k, sh, M))
      | _ => none
    | .ifnull t => match st with
      | .ref _ :: st => some (.inl (np, ls, st, k, sh, M))
      | .null :: st => some (.inl (t.toNat, ls, st, k, sh, M))
      | _ => none
    | .ifnonnull t => match st with
      | .ref _ :: st => some (.inl (t.toNat, ls, st, k, sh, M))
      | .null :: st => some (.inl (np, ls, st, k, sh, M))
      | _ => none
    | .tableswitch d lo hi offs => match st with
      | .int a :: st => (fv_tgt d lo hi offs a).map (fun t => .inl (t, ls, st, k, sh, M))
      | _ => none
    | .getfield q => match st with
      | .ref c :: st => match sh[c]? with
        | some (.inr (ci, sl)) => if ci = q / 100 then match sl[q % 100]? with
          | some none => some (.inl (np, ls, .int (M c (q % 100)) :: st, k, sh, M))
          | some (some v) => some (.inl (np, ls, v :: st, k, sh, M))
          | none => none else none
        | _ => none
      | _ => none
    | .putfield q => match st with
      | v :: .ref c :: st => match sh[c]? with
        | some (.inr (ci, sl)) => if ci = q / 100 then match sl[q % 100]?, v with
          | some none, .int x => if fv_isI (fv_Y (q / 100) (q % 100)) = true then some (.inl (np, ls, st, k, sh, fv_set M c (q % 100) x)) else none
          | some (some _), .ref r => if fv_isR (fv_Y (q / 100) (q % 100)) = true then some (.inl (np, ls, st, k, sh.set c (.inr (ci, sl.set (q % 100) (some (.ref r)))), M)) else none
          | _, _ => none else none
        | _ => none
      | _ => none
    | .iaload => match st with
      | .int j :: .ref c :: st => if y = fv_LAW ∧ c = fv_SCR then (if ¬ (j < 0 ∨ X.1 ≤ j.toNatClampNeg) then some (.inl (np, ls, .int (X.2 j.toNatClampNeg) :: st, k, sh, M)) else none) else match sh[c]? with
        | some (.inl (0, n)) => if j < 0 ∨ n ≤ j.toNatClampNeg then none else some (.inl (np, ls, .int (M c j.toNatClampNeg) :: st, k, sh, M))
        | _ => none
      | _ => none
    | .baload => match st with
      | .int j :: .ref c :: st => match sh[c]? with
        | some (.inl (1, n)) => if j < 0 ∨ n ≤ j.toNatClampNeg then none else some (.inl (np, ls, .int (M c j.toNatClampNeg) :: st, k, sh, M))
        | _ => none
      | _ => none
    | .caload => match st with
      | .int j :: .ref c :: st => match sh[c]? with
        | some (.inl (2, n)) => if j < 0 ∨ n ≤ j.toNatClampNeg then none else some (.inl (np, ls, .int (M c j.toNatClampNeg) :: st, k, sh, M))
        | _ => none
      | _ => none
    | .iastore => match st with
      | .int x :: .int j :: .ref c :: st => match sh[c]? with
        | some (.inl (0, n)) => if j < 0 ∨ n ≤ j.toNatClampNeg then none else some (.inl (np, ls, st, k, sh, fv_set M c j.toNatClampNeg x))
        | _ => none
      | _ => none
    | .bastore => match st with
      | .int x :: .int j :: .ref c :: st => match sh[c]? with
        | some (.inl (1, n)) => if j < 0 ∨ n ≤ j.toNatClampNeg then none else some (.inl (np, ls, st, k, sh, fv_set M c j.toNatClampNeg (vp_nar .boolean x)))
        | _ => none
      | _ => none
    | .castore => match st with
      | .int x :: .int j :: .ref c :: st => match sh[c]? with
        | some (.inl (2, n)) => if j < 0 ∨ n ≤ j.toNatClampNeg then none else some (.inl (np, ls, st, k, sh, fv_set M c j.toNatClampNeg (vp_nar .char x)))
        | _ => none
      | _ => none
    | .aaload => match st with
      | .int j :: .ref c :: st => match sh[c]? with
        | some (.inr (103, sl)) => if j < 0 ∨ sl.length ≤ j.toNatClampNeg then none else match sl[j.toNatClampNeg]? with
          | some (some (.ref r)) => some (.inl (np, ls, .ref r :: st, k, sh, M))
          | some (some .null) => some (.inl (np, ls, .null :: st, k, sh, M))
          | _ => none
        | _ => none
      | _ => none
    | .aastore => match st with
      | .ref v :: .int j :: .ref c :: st => match sh[c]?, sh[v]? with
        | some (.inr (103, sl)), some (.inr (3, _)) => if j < 0 ∨ sl.length ≤ j.toNatClampNeg then none else some (.inl (np, ls, st, k, sh.set c (.inr (103, sl.set j.toNatClampNeg (some (.ref v)))), M))
        | _, _ => none
      | _ => none
    | .arraylength => match st with
      | .ref c :: st => if y = fv_LAW ∧ c = fv_SCR then some (.inl (np, ls, .int (Int32.ofNat X.1) :: st, k, sh, M)) else match sh[c]? with
        | some (.inl (t, n)) => if t < 3 then some (.inl (np, ls, .int (Int32.ofNat n) :: st, k, sh, M)) else none
        | some (.inr (103, sl)) => some (.inl (np, ls, .int (Int32.ofNat sl.length) :: st, k, sh, M))
        | _ => none
      | _ => none
    | .newarray t => match st, fv_at t with
      | .int n :: st, some tc => if ¬ n < 0 ∧ 1 ≤ k.1 ∧ n.toNatClampNeg ≤ k.2 ∧ n.toNatClampNeg ≤ 1000 ∧ sh.length < fv_SCR ∧ ls.all (fv_belO sh.length) = true ∧ st.all (fv_belV sh.length) = true ∧ sh.all (fv_belC sh.length) = true then
          some (.inl (np, ls, .ref sh.length :: st, (k.1 - 1, k.2 - n.toNatClampNeg), sh ++ [.inl (tc, n.toNatClampNeg)], fv_new M sh.length)) else none
      | _, _ => none
    | .anewarray ci => match st with
      | .int n :: st => if ci = 3 ∧ ¬ n < 0 ∧ 1 ≤ k.1 ∧ n.toNatClampNeg ≤ k.2 ∧ n.toNatClampNeg ≤ 1000 ∧ sh.length < fv_SCR ∧ ls.all (fv_belO sh.length) = true ∧ st.all (fv_belV sh.length) = true ∧ sh.all (fv_belC sh.length) = true then
          some (.inl (np, ls, .ref sh.length :: st, (k.1 - 1, k.2 - n.toNatClampNeg), sh ++ [.inr (103, List.replicate n.toNatClampNeg (some .null))], M)) else none
      | _ => none
    | .new ci => if ci < 7 ∧ 1 ≤ k.1 ∧ fv_NF ci ≤ k.2 ∧ sh.length < fv_SCR ∧ ls.all (fv_belO sh.length) = true ∧ st.all (fv_belV sh.length) = true ∧ sh.all (fv_belC sh.length) = true then
          some (.inl (np, ls, .ref sh.length :: st, (k.1 - 1, k.2 - fv_NF ci), sh ++ [.inr (ci, fv_sl0 ci)], fv_new M sh.length)) else none
    | .nop => match st with
      | .ref _ :: st => if (st.map fun v => v.category).sum ≤ 8 then some (.inl (np, ls, st, k, sh, M)) else none
      | _ => none
    | .monitorenter => match st with
      | .ref c :: st => if c = fv_STR ∧ y = fv_XI ∧ (st.map fun v => v.category).sum ≤ 8 then some (.inl (np, ls, .int (Int32.ofNat fv_TXT.length) :: st, k, sh, M)) else none
      | _ => none
    | .monitorexit => match st with
      | .int j :: .ref c :: st => if c = fv_STR ∧ y = fv_XI ∧ (st.map fun v => v.category).sum ≤ 8 ∧ ¬ (j < 0 ∨ fv_TXT.length ≤ j.toNatClampNeg) then some (.inl (np, ls, .int (Int32.ofNat (fv_TXT.getD j.toNatClampNeg 0)) :: st, k, sh, M)) else none
      | _ => none
    | .invokestatic z => if z < fv_LAW ∧ fv_np z ≤ st.length then some (.inr (.inr (z, (st.take (fv_np z)).reverse, np, st.drop (fv_np z)))) else none
    | .ireturn => match st with
      | [.int x] => if fv_rok (fv_rt y) x = true then some (.inr (.inl (some (.int x)))) else none
      | _ => none
    | .return_ => match st with
      | [] => if fv_rt y = none then some (.inr (.inl none)) else none
      | _ => none
    | _ => none
/-- what a call wants: room, arguments of one slot each, little beside it on the stack; where cells are made, no place that isn't there yet -/
def fv_cok (z : Nat) (as : List Value) (ls : fv_Sl) (rest : List Value) (k : Nat × Nat) (sh : fv_Sh) : Prop :=
  fv_mc z ≤ k.1 ∧ fv_ms z ≤ k.2 ∧ as.all (fun v => v.category == 1) = true ∧ (rest.map fun v => v.category).sum ≤ 8 ∧ (fv_mc z = 0 ∨ (ls.all (fv_belO sh.length) = true ∧ rest.all (fv_belV sh.length) = true ∧ sh.length + fv_mc z ≤ fv_SCR))
def fv_cokb (z : Nat) (as : List Value) (ls : fv_Sl) (rest : List Value) (k : Nat × Nat) (sh : fv_Sh) : Bool :=
  decide (fv_mc z ≤ k.1) && (decide (fv_ms z ≤ k.2) && (as.all (fun v => v.category == 1) && (decide ((rest.map fun v => v.category).sum ≤ 8) && (decide (fv_mc z = 0) || (ls.all (fv_belO sh.length) && (rest.all (fv_belV sh.length) && decide (sh.length + fv_mc z ≤ fv_SCR)))))))
theorem fv_cokb_iff {z : Nat} {as : List Value} {ls : fv_Sl} {rest : List Value} {k : Nat × Nat} {sh : fv_Sh} : fv_cokb z as ls rest k sh = true ↔ fv_cok z as ls rest k sh := by
  simp only [fv_cokb, fv_cok, Bool.and_eq_true, Bool.or_eq_true, decide_eq_true_eq]
/-- the object that is called is of the kind that has the method -/
def fv_rcv (z : Nat) (as : List Value) (sh : fv_Sh) : Bool :=
  fv_st z || (match as with
  | .ref c :: _ => (match sh[c]? with
    | some (.inr (ci, _)) => ci == fv_ow z
    | _ => false)
  | _ => false)
def fv_run (X : fv_X) : Nat → Nat → Nat → fv_Sl → List Value → Nat × Nat → fv_Sh → fv_M → Option fv_R
  | 0, _, _, _, _, _, _, _ => none
  | n + 1, y, pc, ls, st, k, sh, M =>
    match fv_nx X y pc ls st k sh M with
    | none => none
    | some (.inl q) => fv_run X n y q.1 q.2.1 q.2.2.1 q.2.2.2.1 q.2.2.2.2.1 q.2.2.2.2.2
    | some (.inr (.inl v)) => some (v, sh, M)
    | some (.inr (.inr q)) =>
      if (fv_cokb q.1 q.2.1 ls q.2.2.2 k sh && fv_rcv q.1 q.2.1 sh) = true then
        match fv_run X n q.1 0 (q.2.1.map some) [] (fv_mc q.1, fv_ms q.1) sh M with
        | none => none
        | some r => fv_run X n y q.2.2.1 ls (r.1.toList ++ q.2.2.2) (k.1 - fv_mc q.1, k.2 - fv_ms q.1) r.2.1 r.2.2
      else none
def fv_Rn (X : fv_X) (y pc : Nat) (ls : fv_Sl) (st : List Value) (k : Nat × Nat) (sh : fv_Sh) (M : fv_M) (r : fv_R) : Prop := ∃ n, fv_run X n y pc ls st k sh M = some r
theorem fv_mono1 {X : fv_X} : ∀ (n y pc : Nat) (ls : fv_Sl) (st : List Value) (k : Nat × Nat) (sh : fv_Sh) (M : fv_M) (r : fv_R), fv_run X n y pc ls st k sh M = some r → fv_run X (n + 1) y pc ls st k sh M = some r := by
  intro n
  induction n with
  | zero => intro y pc ls st k sh M r h; cases h
  | succ n ih =>
    intro y pc ls st k sh M r h
    unfold fv_run at h ⊢
    cases e : fv_nx X y pc ls st k sh M with
    | none => rw [e] at h; cases h
    | some q =>
      rw [e] at h
      cases q with
      | inl q => exact ih _ _ _ _ _ _ _ _ h
      | inr q =>
        cases q with
        | inl v => exact h
        | inr q =>
          dsimp only at h ⊢
          by_cases hc : (fv_cokb q.1 q.2.1 ls q.2.2.2 k sh && fv_rcv q.1 q.2.1 sh) = true
          · rw [if_pos hc] at h ⊢
            cases e2 : fv_run X n q.1 0 (q.2.1.map some) [] (fv_mc q.1, fv_ms q.1) sh M with
            | none => rw [e2] at h; cases h
            | some r2 =>
              rw [e2] at h
              rw [ih _ _ _ _ _ _ _ _ e2]
              exact ih _ _ _ _ _ _ _ _ h
          · rw [if_neg hc] at h; cases h
theorem fv_mono {X : fv_X} {n m y pc : Nat} {ls : fv_Sl} {st : List Value} {k : Nat × Nat} {sh : fv_Sh} {M : fv_M} {r : fv_R} (hnm : n ≤ m) (h : fv_run X n y pc ls st k sh M = some r) : fv_run X m y pc ls st k sh M = some r := by
  induction hnm with
  | refl => exact h
  | step _ ih => exact fv_mono1 _ _ _ _ _ _ _ _ _ ih
/-- one step -/
theorem fv_s {X : fv_X} {y pc : Nat} {ls : fv_Sl} {st : List Value} {k : Nat × Nat} {sh : fv_Sh} {M : fv_M} {r : fv_R} {pc' : Nat} {ls' : fv_Sl} {st' : List Value} {k' : Nat × Nat} {sh' : fv_Sh} {M' : fv_M}
    (h : fv_nx X y pc ls st k sh M = some (.inl (pc', ls', st', k', sh', M'))) (K : fv_Rn X y pc' ls' st' k' sh' M' r) : fv_Rn X y pc ls st k sh M r := by
  obtain ⟨n, e⟩ := K
  refine ⟨n + 1, ?_⟩
  unfold fv_run
  rw [h]
  exact e
/-- a return -/
theorem fv_e {X : fv_X} {y pc : Nat} {ls : fv_Sl} {st : List Value} {k : Nat × Nat} {sh : fv_Sh} {M : fv_M} {v : Option Value} (h : fv_nx X y pc ls st k sh M = some (.inr (.inl v))) : fv_Rn X y pc ls st k sh M (v, sh, M) := by
  refine ⟨1, ?_⟩
  unfold fv_run
  rw [h]
/-- a call -/
theorem fv_call {X : fv_X} {y pc : Nat} {ls : fv_Sl} {st : List Value} {k : Nat × Nat} {sh : fv_Sh} {M : fv_M} {r : fv_R} {z np : Nat} {as rest : List Value} {v : Option Value} {sh' : fv_Sh} {M' : fv_M}
    (h : fv_nx X y pc ls st k sh M = some (.inr (.inr (z, as, np, rest)))) (hc : fv_cokb z as ls rest k sh = true) (hr : fv_rcv z as sh = true) (K1 : fv_Rn X z 0 (as.map some) [] (fv_mc z, fv_ms z) sh M (v, sh', M'))
    (K2 : fv_Rn X y np ls (v.toList ++ rest) (k.1 - fv_mc z, k.2 - fv_ms z) sh' M' r) : fv_Rn X y pc ls st k sh M r := by
  obtain ⟨n1, e1⟩ := K1
  obtain ⟨n2, e2⟩ := K2
  refine ⟨max n1 n2 + 1, ?_⟩
  unfold fv_run
  rw [h]
  dsimp only
  rw [if_pos (by rw [hc, hr]; rfl), fv_mono (Nat.le_max_left n1 n2) e1]
  exact fv_mono (Nat.le_max_right n1 n2) e2
end
section
/-! each row of code: what the class file has there, and the words that its links rest on -/
def fv_npc (r : fv_Row) (d : Nat) : Bool := decide (r.2.2.1 = r.1 + d)
def fv_off (r : fv_Row) (off t : Int) : Bool := decide ((r.1 : Int) + off = t) && decide (0 ≤ t)
def fv_roomok (y z : Nat) : Bool := decide (fv_fr z + 1 ≤ fv_fr y) && decide (8 + (fv_ml z + 11) + fv_lo z ≤ fv_lo y)
def fv_csin (y idx z kd : Nat) : Bool := fv_CS.any (fun q => decide (q.1 = fv_ow y) && (decide (q.2.1 = idx) && (decide (q.2.2.1 = z) && decide (q.2.2.2.1 = kd))))
def fv_fsin (y idx ci k : Nat) : Bool := fv_FS.any (fun q => decide (q.1 = fv_ow y) && (decide (q.2.1 = idx) && (decide (q.2.2.1 = ci) && decide (q.2.2.2.1 = k))))
def fv_rk (y : Nat) (r : fv_Row) : Bool := match r.2.2.2 with
  | .iconst v => (match r.2.1 with
    | .iconst u => decide (v = u) && fv_npc r 1
    | .bipush u => decide ((Int8.ofInt u).toInt32 = Int32.ofInt v) && fv_npc r 2
    | .sipush u => decide ((Int16.ofInt u).toInt32 = Int32.ofInt v) && fv_npc r 3
    | .ldc_w i => fv_IS.any (fun q => decide (q.1 = fv_ow y) && (decide (q.2.1 = i) && decide (q.2.2.1 = v))) && fv_npc r 3
    | _ => false)
  | .ldc2_w v => (match r.2.1 with
    | .lconst u => decide ((u : Nat) = v) && fv_npc r 1
    | .ldc2_w i => fv_JS.any (fun q => decide (q.1 = fv_ow y) && (decide (q.2.1 = i) && decide (q.2.2.1 = v))) && fv_npc r 3
    | _ => false)
  | .ldc _ => (match r.2.1 with
    | .ldc i => decide (i = 55) && fv_npc r 2
    | _ => false)
  | .iload j => (match r.2.1 with
    | .iload i => decide (i = j) && fv_npc r 2
    | .iload_n i => decide ((i : Nat) = j) && fv_npc r 1
    | _ => false)
  | .aload j => (match r.2.1 with
    | .aload i => decide (i = j) && fv_npc r 2
    | .aload_n i => decide ((i : Nat) = j) && fv_npc r 1
    | _ => false)
  | .lload j => (match r.2.1 with
    | .lload i => decide (i = j) && fv_npc r 2
    | .lload_n i => decide ((i : Nat) = j) && fv_npc r 1
    | _ => false)
  | .istore j => decide (j < fv_ml y) && (match r.2.1 with
    | .istore i => decide (i = j) && fv_npc r 2
    | .istore_n i => decide ((i : Nat) = j) && fv_npc r 1
    | _ => false)
  | .astore j => decide (j < fv_ml y) && (match r.2.1 with
    | .astore i => decide (i = j) && fv_npc r 2
    | .astore_n i => decide ((i : Nat) = j) && fv_npc r 1
    | _ => false)
  | .lstore j => decide (j + 1 < fv_ml y) && (match r.2.1 with
    | .lstore i => decide (i = j) && fv_npc r 2
    | .lstore_n i => decide ((i : Nat) = j) && fv_npc r 1
    | _ => false)
  | .iinc j c => decide (r.2.1 = .iinc j c) && fv_npc r 3
  | .goto t => (match r.2.1 with
    | .goto off => fv_off r off t && fv_npc r 3
    | _ => false)
  | .multianewarray t _ => (match r.2.1 with
    | .goto off => fv_off r off t && fv_npc r 3
    | _ => false)
  | .ifCond c t => (match r.2.1 with
    | .ifCond c' off => decide (c = c') && (fv_off r off t && fv_npc r 3)
    | _ => false)
  | .if_icmp c t => (match r.2.1 with
    | .if_icmp c' off => decide (c = c') && (fv_off r off t && fv_npc r 3)
    | _ => false)
  | .ifnull t => (match r.2.1 with
    | .ifnull off => fv_off r off t && fv_npc r 3
    | _ => false)
  | .ifnonnull t => (match r.2.1 with
    | .ifnonnull off => fv_off r off t && fv_npc r 3
    | _ => false)
  | .tableswitch d lo hi offs => (match r.2.1 with
    | .tableswitch d' lo' hi' offs' => decide (lo = lo') && (decide (hi = hi') && (fv_off r d' d && (decide (offs = offs'.map (fun o => (r.1 : Int) + o)) && offs'.all (fun o => decide (0 ≤ (r.1 : Int) + o)))))
    | _ => false)
  | .getfield q => (match r.2.1 with
    | .getfield i => fv_fsin y i (q / 100) (q % 100) && fv_npc r 3
    | _ => false)
  | .putfield q => (match r.2.1 with
    | .putfield i => fv_fsin y i (q / 100) (q % 100) && (fv_npc r 3 && (!((fv_T (q / 100)) (q % 100)).2.2.2 || (decide ((fv_y y).name = "<init>") && decide (fv_ow y = q / 100))))
    | _ => false)
  | .invokestatic z => fv_roomok y z && (fv_npc r 3 && (match r.2.1 with
    | .invokestatic i => fv_csin y i z 0 || fv_csin y i z 1
    | .invokevirtual i => fv_csin y i z 2
    | .invokespecial i => fv_csin y i z 3 || fv_csin y i z 4
    | _ => false))
  | .nop => (match r.2.1 with
    | .invokespecial i => fv_OS.any (fun q => decide (q.1 = fv_ow y) && decide (q.2.1 = i)) && (fv_npc r 3 && (decide (20 ≤ fv_lo y) && decide (1 ≤ fv_fr y)))
    | _ => false)
  | .dadd => (match r.2.1 with
    | .invokestatic i => fv_AS.any (fun q => decide (q.1 = fv_ow y) && (decide (q.2.1 = i) && decide (q.2.2.1 = 0))) && (fv_npc r 3 && (decide (21 ≤ fv_lo y) && decide (1 ≤ fv_fr y)))
    | _ => false)
  | .dsub => (match r.2.1 with
    | .invokestatic i => fv_AS.any (fun q => decide (q.1 = fv_ow y) && (decide (q.2.1 = i) && decide (q.2.2.1 = 1))) && (fv_npc r 3 && (decide (21 ≤ fv_lo y) && decide (1 ≤ fv_fr y)))
    | _ => false)
  | .monitorenter => decide (r.2.1 = .invokevirtual 57) && fv_npc r 3
  | .monitorexit => decide (r.2.1 = .invokevirtual 63) && fv_npc r 3
  | .new ci => (match r.2.1 with
    | .new i => fv_NS.any (fun q => decide (q.1 = fv_ow y) && (decide (q.2.1 = i) && decide (q.2.2.1 = ci))) && fv_npc r 3
    | _ => false)
  | .anewarray ci => (match r.2.1 with
    | .anewarray i => fv_NS.any (fun q => decide (q.1 = fv_ow y) && (decide (q.2.1 = i) && decide (q.2.2.1 = ci))) && fv_npc r 3
    | _ => false)
  | .newarray t => decide (r.2.1 = .newarray t) && fv_npc r 2
  | a => decide (r.2.1 = a) && fv_npc r 1
set_option maxRecDepth 100000 in
theorem fv_rk_0 : (List.range 13).all (fun i => (fv_rows.getD (0 + i) []).all (fv_rk (0 + i))) = true := by decide +kernel
set_option maxRecDepth 100000 in
theorem fv_rk_13 : (List.range 13).all (fun i => (fv_rows.getD (13 + i) []).all (fv_rk (13 + i))) = true := by decide +kernel
set_option maxRecDepth 100000 in
theorem fv_rk_26 : (List.range 13).all (fun i => (fv_rows.getD (26 + i) []).all (fv_rk (26 + i))) = true := by decide +kernel
set_option maxRecDepth 100000 in
theorem fv_rk_39 : (List.range 13).all (fun i => (fv_rows.getD (39 + i) []).all (fv_rk (39 + i))) = true := by decide +kernel
set_option maxRecDepth 100000 in
theorem fv_rk_52 : (List.range 13).all (fun i => (fv_rows.getD (52 + i) []).all (fv_rk (52 + i))) = true := by decide +kernel
set_option maxRecDepth 100000 in
theorem fv_rk_65 : (List.range 13).all (fun i => (fv_rows.getD (65 + i) []).all (fv_rk (65 + i))) = true := by decide +kernel
set_option maxRecDepth 100000 in
theorem fv_rk_78 : (List.range 13).all (fun i => (fv_rows.getD (78 + i) []).all (fv_rk (78 + i))) = true := by decide +kernel
set_option maxRecDepth 100000 in
theorem fv_rk_91 : (List.range 13).all (fun i => (fv_rows.getD (91 + i) []).all (fv_rk (91 + i))) = true := by decide +kernel
set_option maxRecDepth 100000 in
theorem fv_rk_104 : (List.range 13).all (fun i => (fv_rows.getD (104 + i) []).all (fv_rk (104 + i))) = true := by decide +kernel
set_option maxRecDepth 100000 in
theorem fv_rk_117 : (List.range 13).all (fun i => (fv_rows.getD (117 + i) []).all (fv_rk (117 + i))) = true := by decide +kernel
set_option maxRecDepth 100000 in
theorem fv_rk_130 : (List.range 13).all (fun i => (fv_rows.getD (130 + i) []).all (fv_rk (130 + i))) = true := by decide +kernel
set_option maxRecDepth 100000 in
theorem fv_rk_143 : (List.range 13).all (fun i => (fv_rows.getD (143 + i) []).all (fv_rk (143 + i))) = true := by decide +kernel
set_option maxRecDepth 100000 in
theorem fv_rk_156 : (List.range 13).all (fun i => (fv_rows.getD (156 + i) []).all (fv_rk (156 + i))) = true := by decide +kernel
theorem fv_rk_all {y : Nat} (h : y < 169) : (fv_rows.getD y []).all (fv_rk y) = true := by
  have f : ∀ (a n : Nat), (List.range n).all (fun i => (fv_rows.getD (a + i) []).all (fv_rk (a + i))) = true → a ≤ y → y < a + n → (fv_rows.getD y []).all (fv_rk y) = true := fun a n e h1 h2 => by
    have h3 := List.all_eq_true.mp e (y - a) (List.mem_range.mpr (by omega))
    rwa [show a + (y - a) = y by omega] at h3
  rcases (by omega : (0 ≤ y ∧ y < 13) ∨ (13 ≤ y ∧ y < 26) ∨ (26 ≤ y ∧ y < 39) ∨ (39 ≤ y ∧ y < 52) ∨ (52 ≤ y ∧ y < 65) ∨ (65 ≤ y ∧ y < 78) ∨ (78 ≤ y ∧ y < 91) ∨ (91 ≤ y ∧ y < 104) ∨ (104 ≤ y ∧ y < 117) ∨ (117 ≤ y ∧ y < 130) ∨ (130 ≤ y ∧ y < 143) ∨ (143 ≤ y ∧ y < 156) ∨ (156 ≤ y ∧ y < 169)) with g | g | g | g | g | g | g | g | g | g | g | g | g
  · exact f 0 13 fv_rk_0 g.1 g.2
  · exact f 13 13 fv_rk_13 g.1 g.2
  · exact f 26 13 fv_rk_26 g.1 g.2
  · exact f 39 13 fv_rk_39 g.1 g.2
  · exact f 52 13 fv_rk_52 g.1 g.2
  · exact f 65 13 fv_rk_65 g.1 g.2
  · exact f 78 13 fv_rk_78 g.1 g.2
  · exact f 91 13 fv_rk_91 g.1 g.2
  · exact f 104 13 fv_rk_104 g.1 g.2
  · exact f 117 13 fv_rk_117 g.1 g.2
  · exact f 130 13 fv_rk_130 g.1 g.2
  · exact f 143 13 fv_rk_143 g.1 g.2
  · exact f 156 13 fv_rk_156 g.1 g.2
set_option maxRecDepth 100000 in
theorem fv_dc_13 : ∀ y : Nat, y < 13 → (fv_rows.getD y []).all (fun r => decide (decode (fv_cc y) r.1 = .ok (r.2.1, r.2.2.1 - r.1))) = true := lt_s (lt_s (lt_s (lt_s (lt_s (lt_s (lt_s (lt_s (lt_s (lt_s (lt_s (lt_s (lt_s (lt_0) fv_d0) fv_d1) fv_d2) fv_d3) fv_d4) fv_d5) fv_d6) fv_d7) fv_d8) fv_d9) fv_d10) fv_d11) fv_d12
set_option maxRecDepth 100000 in
theorem fv_dc_26 : ∀ y : Nat, y < 26 → (fv_rows.getD y []).all (fun r => decide (decode (fv_cc y) r.1 = .ok (r.2.1, r.2.2.1 - r.1))) = true := lt_s (lt_s (lt_s (lt_s (lt_s (lt_s (lt_s (lt_s (lt_s (lt_s (lt_s (lt_s (lt_s (fv_dc_13) fv_d13) fv_d14) fv_d15) fv_d16) fv_d17) fv_d18) fv_d19) fv_d20) fv_d21) fv_d22) fv_d23) fv_d24) fv_d25
set_option maxRecDepth 100000 in
theorem fv_dc_39 : ∀ y : Nat, y < 39 → (fv_rows.getD y []).all (fun r => decide (decode (fv_cc y) r.1 = .ok (r.2.1, r.2.2.1 - r.1))) = true := lt_s (lt_s (lt_s (lt_s (lt_s (lt_s (lt_s (lt_s (lt_s (lt_s (lt_s (lt_s (lt_s (fv_dc_26) fv_d26) fv_d27) fv_d28) fv_d29) fv_d30) fv_d31) fv_d32) fv_d33) fv_d34) fv_d35) fv_d36) fv_d37) fv_d38
set_option maxRecDepth 100000 in
theorem fv_dc_52 : ∀ y : Nat, y < 52 → (fv_rows.getD y []).all (fun r => decide (decode (fv_cc y) r.1 = .ok (r.2.1, r.2.2.1 - r.1))) = true := lt_s (lt_s (lt_s (lt_s (lt_s (lt_s (lt_s (lt_s (lt_s (lt_s (lt_s (lt_s (lt_s (fv_dc_39) fv_d39) fv_d40) fv_d41) fv_d42) fv_d43) fv_d44) fv_d45) fv_d46) fv_d47) fv_d48) fv_d49) fv_d50) fv_d51
set_option maxRecDepth 100000 in
theorem fv_dc_65 : ∀ y : Nat, y < 65 → (fv_rows.getD y []).all (fun r => decide (decode (fv_cc y) r.1 = .ok (r.2.1, r.2.2.1 - r.1))) = true := lt_s (lt_s (lt_s (lt_s (lt_s (lt_s (lt_s (lt_s (lt_s (lt_s (lt_s (lt_s (lt_s (fv_dc_52) fv_d52) fv_d53) fv_d54) fv_d55) fv_d56) fv_d57) fv_d58) fv_d59) fv_d60) fv_d61) fv_d62) fv_d63) fv_d64
set_option maxRecDepth 100000 in
theorem fv_dc_78 : ∀ y : Nat, y < 78 → (fv_rows.getD y []).all (fun r => decide (decode (fv_cc y) r.1 = .ok (r.2.1, r.2.2.1 - r.1))) = true := lt_s (lt_s (lt_s (lt_s (lt_s (lt_s (lt_s (lt_s (lt_s (lt_s (lt_s (lt_s (lt_s (fv_dc_65) fv_d65) fv_d66) fv_d67) fv_d68) fv_d69) fv_d70) fv_d71) fv_d72) fv_d73) fv_d74) fv_d75) fv_d76) fv_d77
set_option maxRecDepth 100000 in
theorem fv_dc_91 : ∀ y : Nat, y < 91 → (fv_rows.getD y []).all (fun r => decide (decode (fv_cc y) r.1 = .ok (r.2.1, r.2.2.1 - r.1))) = true := lt_s (lt_s (lt_s (lt_s (lt_s (lt_s (lt_s (lt_s (lt_s (lt_s (lt_s (lt_s (lt_s (fv_dc_78) fv_d78) fv_d79) fv_d80) fv_d81) fv_d82) fv_d83) fv_d84) fv_d85) fv_d86) fv_d87) fv_d88) fv_d89) fv_d90
set_option maxRecDepth 100000 in
theorem fv_dc_104 : ∀ y : Nat, y < 104 → (fv_rows.getD y []).all (fun r => decide (decode (fv_cc y) r.1 = .ok (r.2.1, r.2.2.1 - r.1))) = true := lt_s (lt_s (lt_s (lt_s (lt_s (lt_s (lt_s (lt_s (lt_s (lt_s (lt_s (lt_s (lt_s (fv_dc_91) fv_d91) fv_d92) fv_d93) fv_d94) fv_d95) fv_d96) fv_d97) fv_d98) fv_d99) fv_d100) fv_d101) fv_d102) fv_d103
set_option maxRecDepth 100000 in
theorem fv_dc_117 : ∀ y : Nat, y < 117 → (fv_rows.getD y []).all (fun r => decide (decode (fv_cc y) r.1 = .ok (r.2.1, r.2.2.1 - r.1))) = true := lt_s (lt_s (lt_s (lt_s (lt_s (lt_s (lt_s (lt_s (lt_s (lt_s (lt_s (lt_s (lt_s (fv_dc_104) fv_d104) fv_d105) fv_d106) fv_d107) fv_d108) fv_d109) fv_d110) fv_d111) fv_d112) fv_d113) fv_d114) fv_d115) fv_d116
set_option maxRecDepth 100000 in
theorem fv_dc_130 : ∀ y : Nat, y < 130 → (fv_rows.getD y []).all (fun r => decide (decode (fv_cc y) r.1 = .ok (r.2.1, r.2.2.1 - r.1))) = true := lt_s (lt_s (lt_s (lt_s (lt_s (lt_s (lt_s (lt_s (lt_s (lt_s (lt_s (lt_s (lt_s (fv_dc_117) fv_d117) fv_d118) fv_d119) fv_d120) fv_d121) fv_d122) fv_d123) fv_d124) fv_d125) fv_d126) fv_d127) fv_d128) fv_d129
set_option maxRecDepth 100000 in
theorem fv_dc_143 : ∀ y : Nat, y < 143 → (fv_rows.getD y []).all (fun r => decide (decode (fv_cc y) r.1 = .ok (r.2.1, r.2.2.1 - r.1))) = true := lt_s (lt_s (lt_s (lt_s (lt_s (lt_s (lt_s (lt_s (lt_s (lt_s (lt_s (lt_s (lt_s (fv_dc_130) fv_d130) fv_d131) fv_d132) fv_d133) fv_d134) fv_d135) fv_d136) fv_d137) fv_d138) fv_d139) fv_d140) fv_d141) fv_d142
set_option maxRecDepth 100000 in
theorem fv_dc_156 : ∀ y : Nat, y < 156 → (fv_rows.getD y []).all (fun r => decide (decode (fv_cc y) r.1 = .ok (r.2.1, r.2.2.1 - r.1))) = true := lt_s (lt_s (lt_s (lt_s (lt_s (lt_s (lt_s (lt_s (lt_s (lt_s (lt_s (lt_s (lt_s (fv_dc_143) fv_d143) fv_d144) fv_d145) fv_d146) fv_d147) fv_d148) fv_d149) fv_d150) fv_d151) fv_d152) fv_d153) fv_d154) fv_d155
set_option maxRecDepth 100000 in
theorem fv_dc_169 : ∀ y : Nat, y < 169 → (fv_rows.getD y []).all (fun r => decide (decode (fv_cc y) r.1 = .ok (r.2.1, r.2.2.1 - r.1))) = true := lt_s (lt_s (lt_s (lt_s (lt_s (lt_s (lt_s (lt_s (lt_s (lt_s (lt_s (lt_s (lt_s (fv_dc_156) fv_d156) fv_d157) fv_d158) fv_d159) fv_d160) fv_d161) fv_d162) fv_d163) fv_d164) fv_d165) fv_d166) fv_d167) fv_d168
theorem fv_row {y pc np : Nat} {i : Instr} (hy : y < 169) (h : fv_lk y pc = some (i, np)) : ∃ raw : Instr, decode (fv_cc y) pc = .ok (raw, np - pc) ∧ fv_rk y (pc, raw, np, i) = true := by
  unfold fv_lk at h
  cases e : (fv_rows.getD y []).find? (fun r => r.1 == pc) with
  | none => rw [e] at h; cases h
  | some r =>
    rw [e] at h
    obtain ⟨a, raw, b, j⟩ := r
    have h1 := List.find?_some e
    have h2 := List.mem_of_find?_eq_some e
    simp only [beq_iff_eq] at h1
    simp only [Option.map_some, Option.some.injEq, Prod.mk.injEq] at h
    obtain ⟨rfl, rfl⟩ := h
    subst h1
    have h3 := List.all_eq_true.mp (fv_dc_169 y hy) _ h2
    have h4 := List.all_eq_true.mp (fv_rk_all hy) _ h2
    dsimp only at h3
    exact ⟨raw, of_decide_eq_true h3, h4⟩
end
section
/-! what a shape and a memory are on the heap: each cell at an address of its own -/
def fv_cv (ad : Nat → Nat) (v : Value) : Value := match v with
  | .ref r => .ref (ad r) | v => v
def fv_slv (ad : Nat → Nat) (M : fv_M) (i k : Nat) (o : Option Value) : Value := match o with
  | none => .int (M i k) | some v => fv_cv ad v
def fv_ro (ad : Nat → Nat) (o : Option (Option Value)) : Option Nat := match o with
  | some (some (.ref r)) => some (ad r) | _ => none
def fv_ce (ad : Nat → Nat) (tc : Nat → ClassId) (M : fv_M) (i : Nat) (c : fv_C) : va_E := match c with
  | .inl q => .inl (tc q.1, q.2, .inl (M i))
  | .inr q => if q.1 < 100 then .inr (q.1, q.2.mapIdx (fun k o => fv_slv ad M i k o)) else .inl (tc q.1, q.2.length, .inr (.inr (.inr (.inr (fun j => fv_ro ad q.2[j]?)))))
def fv_w (ad : Nat → Nat) (tc : Nat → ClassId) (sh : fv_Sh) (M : fv_M) : va_W := sh.mapIdx (fun i c => (ad i, fv_ce ad tc M i c))
def fv_tys (tc : Nat → ClassId) : List (ClassId × FieldType) := [(tc 0, .int), (tc 1, .boolean), (tc 2, .char), (tc 103, .object (fv_RN 3))]
theorem fv_cv_cat (ad : Nat → Nat) (v : Value) : (fv_cv ad v).category = v.category := by cases v <;> rfl
theorem fv_w_at (ad : Nat → Nat) (tc : Nat → ClassId) (sh : fv_Sh) (M : fv_M) (i : Nat) : (fv_w ad tc sh M)[i]? = sh[i]?.map (fun c => (ad i, fv_ce ad tc M i c)) := List.getElem?_mapIdx
theorem fv_w_len (ad : Nat → Nat) (tc : Nat → ClassId) (sh : fv_Sh) (M : fv_M) : (fv_w ad tc sh M).length = sh.length := List.length_mapIdx
theorem fv_w_c {ad : Nat → Nat} {tc : Nat → ClassId} {sh : fv_Sh} {M : fv_M} {i : Nat} {c : fv_C} (h : sh[i]? = some c) : (fv_w ad tc sh M)[i]? = some (ad i, fv_ce ad tc M i c) := by rw [fv_w_at, h]; rfl
theorem fv_ce_row (ad : Nat → Nat) (tc : Nat → ClassId) (M : fv_M) (i t n : Nat) : fv_ce ad tc M i (.inl (t, n)) = .inl (tc t, n, .inl (M i)) := rfl
theorem fv_ce_obj (ad : Nat → Nat) (tc : Nat → ClassId) (M : fv_M) (i ci : Nat) (sl : List (Option Value)) (h : ci < 100) : fv_ce ad tc M i (.inr (ci, sl)) = .inr (ci, sl.mapIdx (fun k o => fv_slv ad M i k o)) := if_pos h
theorem fv_ce_objs (ad : Nat → Nat) (tc : Nat → ClassId) (M : fv_M) (i : Nat) (sl : List (Option Value)) : fv_ce ad tc M i (.inr (103, sl)) = .inl (tc 103, sl.length, .inr (.inr (.inr (.inr (fun j => fv_ro ad sl[j]?))))) := by
  unfold fv_ce
  exact if_neg (show ¬ (103 : Nat) < 100 by decide)
/-- one cell is written -/
theorem fv_w_set {ad : Nat → Nat} {tc : Nat → ClassId} {sh : fv_Sh} {M M' : fv_M} {c : Nat} {x' : fv_C} (hM : ∀ j, j ≠ c → M' j = M j) : (fv_w ad tc sh M).set c (ad c, fv_ce ad tc M' c x') = fv_w ad tc (sh.set c x') M' := by
  apply List.ext_getElem?
  intro i
  rw [fv_w_at, List.getElem?_set, fv_w_len, List.getElem?_set]
  by_cases hi : c = i
  · subst hi
    by_cases hl : c < sh.length
    · rw [if_pos rfl, if_pos rfl, if_pos hl, if_pos hl]; rfl
    · rw [if_pos rfl, if_pos rfl, if_neg hl, if_neg hl]; rfl
  · rw [if_neg hi, if_neg hi, fv_w_at]
    cases hx : sh[i]? with
    | none => rfl
    | some x =>
      have hm := hM i (fun e => hi e.symm)
      have he : fv_ce ad tc M' i x = fv_ce ad tc M i x := by
        cases x with
        | inl q => simp only [fv_ce, hm]
        | inr q => simp only [fv_ce, fv_slv, hm]
      simp only [Option.map_some, he]
theorem fv_set_at (M : fv_M) (c k : Nat) (x : Int32) : fv_set M c k x c = upd (M c) k x := if_pos rfl
theorem fv_set_ne (M : fv_M) (c k : Nat) (x : Int32) : ∀ j, j ≠ c → fv_set M c k x j = M j := fun _ h => if_neg h
/-- an int of a row -/
theorem fv_w_row {ad : Nat → Nat} {tc : Nat → ClassId} {sh : fv_Sh} {M : fv_M} {c t n k : Nat} {x : Int32} (h : sh[c]? = some (.inl (t, n))) : (fv_w ad tc sh M).set c (ad c, .inl (tc t, n, .inl (upd (M c) k x))) = fv_w ad tc sh (fv_set M c k x) := by
  have e := fv_w_set (ad := ad) (tc := tc) (sh := sh) (x' := .inl (t, n)) (fv_set_ne M c k x)
  rw [fv_ce_row, fv_set_at] at e
  rw [e]
  congr 1
  apply List.ext_getElem?
  intro i
  rw [List.getElem?_set]
  by_cases hi : c = i
  · subst hi
    rw [if_pos rfl, if_pos (List.getElem?_eq_some_iff.mp h).1, h]
  · rw [if_neg hi]
/-- an int field of an object -/
theorem fv_w_fld {ad : Nat → Nat} {tc : Nat → ClassId} {sh : fv_Sh} {M : fv_M} {c ci k : Nat} {sl : List (Option Value)} {x : Int32} (hci : ci < 100) (h : sh[c]? = some (.inr (ci, sl))) (hk : sl[k]? = some none) : (fv_w ad tc sh M).set c (ad c, .inr (ci, (sl.mapIdx (fun k o => fv_slv ad M c k o)).set k (.int x))) = fv_w ad tc sh (fv_set M c k x) := by
  have e := fv_w_set (ad := ad) (tc := tc) (sh := sh) (x' := .inr (ci, sl)) (fv_set_ne M c k x)
  rw [fv_ce_obj _ _ _ _ _ _ hci] at e
  have e2 : sl.mapIdx (fun j o => fv_slv ad (fv_set M c k x) c j o) = (sl.mapIdx (fun j o => fv_slv ad M c j o)).set k (.int x) := by
    apply List.ext_getElem?
    intro i
    rw [List.getElem?_mapIdx, List.getElem?_set, List.length_mapIdx, List.getElem?_mapIdx]
    by_cases hi : k = i
    · subst hi
      rw [if_pos rfl, if_pos (List.getElem?_eq_some_iff.mp hk).1, hk]
      simp only [Option.map_some, fv_slv, fv_set_at, upd, if_true]
    · rw [if_neg hi]
      cases hx : sl[i]? with
      | none => rfl
      | some o =>
        cases o with
        | none => simp only [Option.map_some, fv_slv, fv_set_at, upd, if_neg (fun q : i = k => hi q.symm)]
        | some v => rfl
  rw [e2] at e
  rw [e]
  congr 1
  apply List.ext_getElem?
  intro i
  rw [List.getElem?_set]
  by_cases hi : c = i
  · subst hi
    rw [if_pos rfl, if_pos (List.getElem?_eq_some_iff.mp h).1, h]
  · rw [if_neg hi]
/-- a field that holds an object -/
theorem fv_w_ref {ad : Nat → Nat} {tc : Nat → ClassId} {sh : fv_Sh} {M : fv_M} {c ci k r : Nat} {sl : List (Option Value)} (hci : ci < 100) : (fv_w ad tc sh M).set c (ad c, .inr (ci, (sl.mapIdx (fun k o => fv_slv ad M c k o)).set k (.ref (ad r)))) = fv_w ad tc (sh.set c (.inr (ci, sl.set k (some (.ref r))))) M := by
  have e := fv_w_set (ad := ad) (tc := tc) (sh := sh) (M := M) (M' := M) (c := c) (x' := .inr (ci, sl.set k (some (.ref r)))) (fun _ _ => rfl)
  rw [fv_ce_obj _ _ _ _ _ _ hci] at e
  rw [← e]
  congr 3
  apply congrArg
  apply List.ext_getElem?
  intro i
  rw [List.getElem?_mapIdx, List.getElem?_set, List.length_mapIdx, List.getElem?_mapIdx, List.getElem?_set]
  by_cases hi : k = i
  · subst hi
    by_cases hl : k < sl.length
    · rw [if_pos rfl, if_pos rfl, if_pos hl, if_pos hl]; rfl
    · rw [if_pos rfl, if_pos rfl, if_neg hl, if_neg hl]; rfl
  · rw [if_neg hi, if_neg hi]
/-- a place of an array of objects -/
theorem fv_w_refs {ad : Nat → Nat} {tc : Nat → ClassId} {sh : fv_Sh} {M : fv_M} {c k r : Nat} {sl : List (Option Value)} (hk : k < sl.length) : (fv_w ad tc sh M).set c (ad c, .inl (tc 103, sl.length, .inr (.inr (.inr (.inr (va_up (fun j => fv_ro ad sl[j]?) k (some (ad r)))))))) = fv_w ad tc (sh.set c (.inr (103, sl.set k (some (.ref r))))) M := by
  have e := fv_w_set (ad := ad) (tc := tc) (sh := sh) (M := M) (M' := M) (c := c) (x' := .inr (103, sl.set k (some (.ref r)))) (fun _ _ => rfl)
  rw [fv_ce_objs, List.length_set] at e
  rw [← e]
  congr 8
  refine congrArg Sum.inr ?_
  funext j
  simp only [va_up]
  rw [List.getElem?_set]
  by_cases hj : j = k
  · subst hj
    rw [if_pos rfl, if_pos rfl, if_pos hk]
    rfl
  · rw [if_neg hj, if_neg (fun q => hj q.symm)]
/-- two ways to lay the same cells, where no cell names a place that is not there yet -/
theorem fv_cv_eq {ad ad' : Nat → Nat} {n : Nat} (ha : ∀ i, i < n ∨ fv_SCR ≤ i → ad' i = ad i) {v : Value} (h : fv_belV n v = true) : fv_cv ad' v = fv_cv ad v := by
  cases v with
  | ref r =>
    simp only [fv_belV, Bool.or_eq_true, decide_eq_true_eq] at h
    simp only [fv_cv, ha r h]
  | _ => rfl
theorem fv_ce_eq {ad ad' : Nat → Nat} {tc : Nat → ClassId} {M M' : fv_M} {n i : Nat} (ha : ∀ i, i < n ∨ fv_SCR ≤ i → ad' i = ad i) {c : fv_C} (h : fv_belC n c = true) (hM : M' i = M i) : fv_ce ad' tc M' i c = fv_ce ad tc M i c := by
  cases c with
  | inl q => simp only [fv_ce, hM]
  | inr q =>
    obtain ⟨ci, sl⟩ := q
    have hb : ∀ o ∈ sl, fv_belO n o = true := fun o ho => List.all_eq_true.mp h o ho
    by_cases hc : ci < 100
    · rw [fv_ce_obj _ _ _ _ _ _ hc, fv_ce_obj _ _ _ _ _ _ hc]
      congr 2
      apply List.ext_getElem?
      intro k
      rw [List.getElem?_mapIdx, List.getElem?_mapIdx]
      cases hx : sl[k]? with
      | none => rfl
      | some o =>
        have := hb o (List.mem_of_getElem? hx)
        cases o with
        | none => simp only [Option.map_some, fv_slv, hM]
        | some v => simp only [Option.map_some, fv_slv, fv_cv_eq ha this]
    · simp only [fv_ce, if_neg hc]
      congr 7
      funext j
      cases hx : sl[j]? with
      | none => rfl
      | some o =>
        have h2 := hb o (List.mem_of_getElem? hx)
        cases o with
        | none => rfl
        | some v =>
          cases v with
          | ref r =>
            simp only [fv_belO, fv_belV, Bool.or_eq_true, decide_eq_true_eq] at h2
            simp only [fv_ro, ha r h2]
          | _ => rfl
theorem fv_w_push {ad ad' : Nat → Nat} {tc : Nat → ClassId} {sh : fv_Sh} {M M' : fv_M} {x : fv_C} (ha : ∀ i, i < sh.length ∨ fv_SCR ≤ i → ad' i = ad i) (hb : sh.all (fv_belC sh.length) = true) (hM : ∀ j, j < sh.length → M' j = M j) : fv_w ad' tc (sh ++ [x]) M' = fv_w ad tc sh M ++ [(ad' sh.length, fv_ce ad' tc M' sh.length x)] := by
  apply List.ext_getElem?
  intro i
  rw [fv_w_at]
  rcases Nat.lt_trichotomy i sh.length with h | h | h
  · rw [List.getElem?_append_left h, List.getElem?_append_left (by rw [fv_w_len]; exact h), fv_w_at]
    cases hx : sh[i]? with
    | none => rfl
    | some c => simp only [Option.map_some, ha i (Or.inl h), fv_ce_eq ha (List.all_eq_true.mp hb c (List.mem_of_getElem? hx)) (hM i h)]
  · subst h
    rw [List.getElem?_append_right (Nat.le_refl _), List.getElem?_append_right (by rw [fv_w_len]; exact Nat.le_refl _), fv_w_len, Nat.sub_self]
    rfl
  · rw [List.getElem?_append_right (by omega), List.getElem?_append_right (by rw [fv_w_len]; omega), fv_w_len]
    rw [show i - sh.length = (i - sh.length - 1) + 1 by omega]
    rfl
/-! the method's own values -/
def fv_lv (ad : Nat → Nat) (ls : fv_Sl) : List (Nat × Value) := (ls.mapIdx (fun i o => o.map (fun v => (i, fv_cv ad v)))).filterMap id
theorem fv_lv_mem {ad : Nat → Nat} {ls : fv_Sl} {q : Nat × Value} : q ∈ fv_lv ad ls ↔ ∃ (i : Nat) (v : Value), ls[i]? = some (some v) ∧ q = (i, fv_cv ad v) := by
  unfold fv_lv
  rw [List.mem_filterMap]
  constructor
  · rintro ⟨o, ho, h⟩
    obtain ⟨i, hi⟩ := List.getElem?_of_mem ho
    rw [List.getElem?_mapIdx] at hi
    cases hx : ls[i]? with
    | none => rw [hx] at hi; cases hi
    | some p =>
      rw [hx] at hi
      cases p with
      | none => simp only [Option.map_some, Option.map_none, Option.some.injEq] at hi; rw [← hi] at h; cases h
      | some v =>
        simp only [Option.map_some, Option.some.injEq] at hi
        rw [← hi] at h
        simp only [id, Option.some.injEq] at h
        exact ⟨i, v, hx, h.symm⟩
  · rintro ⟨i, v, hx, rfl⟩
    exact ⟨some (i, fv_cv ad v), List.mem_of_getElem? (i := i) (by rw [List.getElem?_mapIdx, hx]; rfl), rfl⟩
theorem fv_lv_sub {lsA : Array Slot} {n : Nat} {l l' : List (Nat × Value)} (h : lv_has lsA n l) (hs : ∀ q ∈ l', q ∈ l) : lv_has lsA n l' := ⟨h.1, h.2.1, fun q hq => h.2.2 q (hs q hq)⟩
theorem fv_ld {ad : Nat → Nat} {ls : fv_Sl} {lsA : Array Slot} {n j : Nat} {v : Value} (h : lv_has lsA n (fv_lv ad ls)) (hj : ls[j]? = some (some v)) : lsA[j]? = some (.val (fv_cv ad v)) := h.2.2 (j, fv_cv ad v) (fv_lv_mem.mpr ⟨j, v, hj, rfl⟩)
/-- a value of two slots stands before a place that is not named -/
def fv_wl (ls : fv_Sl) : Prop := ∀ (i : Nat) (v : Value), ls[i]? = some (some v) → v.category = 2 → ls[i + 1]? = some none
theorem fv_st_ok {ad : Nat → Nat} {ls ls' : fv_Sl} {j : Nat} {v : Value} (hw : fv_wl ls) (h : fv_st1 ls j v = some ls') (hv : v.category = 1) : fv_wl ls' ∧ ∀ q ∈ fv_lv ad ls', q ∈ (j, fv_cv ad v) :: (fv_lv ad ls).filter (fun q => !(q.1 == j) && !(q.1 + 1 == j && q.2.category == 2)) := by
  unfold fv_st1 at h
  by_cases hj : j = ls.length
  · rw [if_pos hj] at h
    cases h
    have key : ∀ (i : Nat) (u : Value), (ls ++ [some v])[i]? = some (some u) → (i < ls.length ∧ ls[i]? = some (some u)) ∨ (i = ls.length ∧ u = v) := by
      intro i u hu
      by_cases hi : i < ls.length
      · rw [List.getElem?_append_left hi] at hu; exact Or.inl ⟨hi, hu⟩
      · rw [List.getElem?_append_right (by omega)] at hu
        have hz := (List.getElem?_eq_some_iff.mp hu).1
        simp only [List.length_cons, List.length_nil] at hz
        have h0 : i - ls.length = 0 := by omega
        rw [h0] at hu
        simp only [List.getElem?_cons_zero, Option.some.injEq] at hu
        exact Or.inr ⟨by omega, hu.symm⟩
    refine ⟨fun i u hu hc => ?_, fun q hq => ?_⟩
    · rcases key i u hu with ⟨hi, h1⟩ | ⟨hi, rfl⟩
      · have h2 := hw i u h1 hc
        rw [List.getElem?_append_left (List.getElem?_eq_some_iff.mp h2).1]
        exact h2
      · omega
    · obtain ⟨i, u, hu, rfl⟩ := fv_lv_mem.mp hq
      rcases key i u hu with ⟨hi, h1⟩ | ⟨hi, rfl⟩
      · refine List.mem_cons.mpr (Or.inr (List.mem_filter.mpr ⟨fv_lv_mem.mpr ⟨i, u, h1, rfl⟩, ?_⟩))
        simp only [Bool.and_eq_true, Bool.not_eq_true', beq_eq_false_iff_ne, Bool.and_eq_false_iff, fv_cv_cat]
        refine ⟨by omega, ?_⟩
        by_cases hc : u.category = 2
        · have h2 := (List.getElem?_eq_some_iff.mp (hw i u h1 hc)).1
          exact Or.inl (by omega)
        · exact Or.inr hc
      · rw [hi, hj]; exact List.mem_cons_self
  · rw [if_neg hj] at h
    cases hx : ls[j]? with
    | none => rw [hx] at h; cases h
    | some o =>
      rw [hx] at h
      cases o with
      | none => cases h
      | some u0 =>
        dsimp only at h
        by_cases hc0 : u0.category = 1
        · rw [if_pos hc0] at h
          cases h
          have hjl := (List.getElem?_eq_some_iff.mp hx).1
          have key : ∀ (i : Nat) (u : Value), (ls.set j (some v))[i]? = some (some u) → (i ≠ j ∧ ls[i]? = some (some u)) ∨ (i = j ∧ u = v) := by
            intro i u hu
            rw [List.getElem?_set] at hu
            by_cases hi : j = i
            · rw [if_pos hi, if_pos (by omega)] at hu
              cases hu
              exact Or.inr ⟨hi.symm, rfl⟩
            · rw [if_neg hi] at hu
              exact Or.inl ⟨fun q => hi q.symm, hu⟩
          refine ⟨fun i u hu hc => ?_, fun q hq => ?_⟩
          · rcases key i u hu with ⟨hi, h1⟩ | ⟨hi, rfl⟩
            · have h2 := hw i u h1 hc
              rw [List.getElem?_set, if_neg (fun q : j = i + 1 => by rw [← q, hx] at h2; cases h2)]
              exact h2
            · omega
          · obtain ⟨i, u, hu, rfl⟩ := fv_lv_mem.mp hq
            rcases key i u hu with ⟨hi, h1⟩ | ⟨hi, rfl⟩
            · refine List.mem_cons.mpr (Or.inr (List.mem_filter.mpr ⟨fv_lv_mem.mpr ⟨i, u, h1, rfl⟩, ?_⟩))
              simp only [Bool.and_eq_true, Bool.not_eq_true', beq_eq_false_iff_ne, Bool.and_eq_false_iff, fv_cv_cat]
              refine ⟨hi, ?_⟩
              by_cases hc : u.category = 2
              · have h2 := hw i u h1 hc
                exact Or.inl (fun q => by rw [q, hx] at h2; cases h2)
              · exact Or.inr hc
            · rw [hi]; exact List.mem_cons_self
        · rw [if_neg hc0] at h; cases h
theorem fv_stL_ok {ad : Nat → Nat} {ls : fv_Sl} {x : Int64} (hw : fv_wl ls) : fv_wl (ls ++ [some (.long x), none]) ∧ ∀ q ∈ fv_lv ad (ls ++ [some (.long x), none]), q ∈ (ls.length, Value.long x) :: (fv_lv ad ls).filter (fun q => !(q.1 == ls.length) && (!(q.1 == ls.length + 1) && !(q.1 + 1 == ls.length && q.2.category == 2))) := by
  have key : ∀ (i : Nat) (u : Value), (ls ++ [some (Value.long x), none])[i]? = some (some u) → (i < ls.length ∧ ls[i]? = some (some u)) ∨ (i = ls.length ∧ u = .long x) := by
    intro i u hu
    by_cases hi : i < ls.length
    · rw [List.getElem?_append_left hi] at hu; exact Or.inl ⟨hi, hu⟩
    · rw [List.getElem?_append_right (by omega)] at hu
      have hz := (List.getElem?_eq_some_iff.mp hu).1
      simp only [List.length_cons, List.length_nil] at hz
      rcases (by omega : i - ls.length = 0 ∨ i - ls.length = 1) with h0 | h0
      · rw [h0] at hu
        simp only [List.getElem?_cons_zero, Option.some.injEq] at hu
        exact Or.inr ⟨by omega, hu.symm⟩
      · rw [h0] at hu
        cases hu
  refine ⟨fun i u hu hc => ?_, fun q hq => ?_⟩
  · rcases key i u hu with ⟨hi, h1⟩ | ⟨hi, rfl⟩
    · have h2 := hw i u h1 hc
      rw [List.getElem?_append_left (List.getElem?_eq_some_iff.mp h2).1]
      exact h2
    · rw [hi, List.getElem?_append_right (by omega), show ls.length + 1 - ls.length = 1 by omega]
      rfl
  · obtain ⟨i, u, hu, rfl⟩ := fv_lv_mem.mp hq
    rcases key i u hu with ⟨hi, h1⟩ | ⟨hi, rfl⟩
    · refine List.mem_cons.mpr (Or.inr (List.mem_filter.mpr ⟨fv_lv_mem.mpr ⟨i, u, h1, rfl⟩, ?_⟩))
      simp only [Bool.and_eq_true, Bool.not_eq_true', beq_eq_false_iff_ne, Bool.and_eq_false_iff, fv_cv_cat]
      refine ⟨by omega, by omega, ?_⟩
      by_cases hc : u.category = 2
      · have h2 := (List.getElem?_eq_some_iff.mp (hw i u h1 hc)).1
        exact Or.inl (by omega)
      · exact Or.inr hc
    · rw [hi]; exact List.mem_cons_self
theorem fv_take_ok {ad : Nat → Nat} {ls : fv_Sl} {n : Nat} (h : (ls.take n).all fv_one = true) : fv_wl (ls.take n) ∧ ∀ q ∈ fv_lv ad (ls.take n), q ∈ fv_lv ad ls := by
  refine ⟨fun i v hv hc => ?_, fun q hq => ?_⟩
  · have h1 := List.all_eq_true.mp h _ (List.mem_of_getElem? hv)
    simp only [fv_one, beq_iff_eq] at h1
    omega
  · obtain ⟨i, v, hv, rfl⟩ := fv_lv_mem.mp hq
    have hl := (List.getElem?_eq_some_iff.mp hv).1
    rw [List.length_take] at hl
    rw [List.getElem?_take_of_lt (by omega)] at hv
    exact fv_lv_mem.mpr ⟨i, v, hv, rfl⟩
theorem fv_iinc_ok {ad : Nat → Nat} {ls : fv_Sl} {j : Nat} {x z : Int32} (hw : fv_wl ls) (hx : ls[j]? = some (some (.int x))) : fv_wl (ls.set j (some (.int z))) ∧ ∀ q ∈ fv_lv ad (ls.set j (some (.int z))), q ∈ (j, Value.int z) :: (fv_lv ad ls).filter (fun q => !(q.1 == j) && !(q.1 + 1 == j && q.2.category == 2)) := by
  have hjl := (List.getElem?_eq_some_iff.mp hx).1
  have h : fv_st1 ls j (.int z) = some (ls.set j (some (.int z))) := by
    unfold fv_st1
    rw [if_neg (by omega), hx]
    rfl
  exact fv_st_ok hw h rfl
/-- with how a method begins -/
theorem fv_lv_args (ad : Nat → Nat) (as : List Value) (h : as.all (fun v => v.category == 1) = true) : ∀ q ∈ fv_lv ad (as.map some), q ∈ lv_args 0 (as.map (fv_cv ad)) := by
  have key : ∀ (as : List Value) (k : Nat), as.all (fun v => v.category == 1) = true → ∀ (i : Nat) (v : Value), as[i]? = some v → (k + i, fv_cv ad v) ∈ lv_args k (as.map (fv_cv ad)) := by
    intro as
    induction as with
    | nil => intro k _ i v hv; cases hv
    | cons a as ih =>
      intro k ha i v hv
      simp only [List.all_cons, Bool.and_eq_true, beq_iff_eq] at ha
      have hc : ¬ (fv_cv ad a).category = 2 := by rw [fv_cv_cat]; omega
      simp only [List.map_cons, lv_args, if_neg hc]
      cases i with
      | zero => cases hv; exact List.mem_cons_self
      | succ i =>
        have := ih (k + 1) ha.2 i v hv
        rw [show k + 1 + i = k + (i + 1) by omega] at this
        exact List.mem_cons_of_mem _ this
  intro q hq
  obtain ⟨i, v, hv, rfl⟩ := fv_lv_mem.mp hq
  rw [List.getElem?_map] at hv
  cases hx : as[i]? with
  | none => rw [hx] at hv; cases hv
  | some u =>
    rw [hx] at hv
    cases hv
    have := key as 0 h i v hx
    rwa [Nat.zero_add] at this
theorem fv_wl_args (as : List Value) (h : as.all (fun v => v.category == 1) = true) : fv_wl (as.map some) := by
  intro i v hv hc
  rw [List.getElem?_map] at hv
  cases hx : as[i]? with
  | none => rw [hx] at hv; cases hv
  | some u =>
    rw [hx] at hv
    cases hv
    have := List.all_eq_true.mp h _ (List.mem_of_getElem? hx)
    simp only [beq_iff_eq] at this
    omega
/-! kinds of objects -/
theorem fv_lay_in {ci : Nat} (h : ci < 7) : ∀ w ∈ u_ws (fv_RN ci) (fv_T ci) (fv_NF ci), w ∈ fv_GL := by
  intro w hw
  obtain ⟨k, hk, rfl⟩ := List.mem_map.mp hw
  have h1 := List.all_eq_true.mp (fv_lay_all ci h) k hk
  simp only [Bool.and_eq_true, decide_eq_true_eq] at h1
  refine fv_GL_in h1.1.1 ?_
  unfold u_lay
  split <;> rfl
theorem fv_lay_ty {ci : Nat} (h : ci < 7) : ∀ k, k < fv_NF ci → parseFieldDescriptor ((fv_T ci) k).2.2.1 = some (fv_Y ci k) := by
  intro k hk
  have h1 := List.all_eq_true.mp (fv_lay_all ci h) k (List.mem_range.mpr hk)
  simp only [Bool.and_eq_true, decide_eq_true_eq] at h1
  exact h1.1.2
theorem fv_lay_nm {ci : Nat} (h : ci < 7) : ∀ a, a < fv_NF ci → ∀ b, b < fv_NF ci → a ≠ b → ((fv_T ci) a).2.1 ≠ ((fv_T ci) b).2.1 := by
  intro a ha b hb hab
  have h1 := List.all_eq_true.mp (fv_lay_all ci h) a (List.mem_range.mpr ha)
  simp only [Bool.and_eq_true, decide_eq_true_eq] at h1
  have h2 := List.all_eq_true.mp h1.2 b (List.mem_range.mpr hb)
  simp only [Bool.or_eq_true, decide_eq_true_eq] at h2
  exact h2.resolve_left hab
theorem fv_fs_in {y i ci k : Nat} (h : fv_fsin y i ci k = true) : Cond.fieldLink (fv_RN (fv_ow y)) i (fv_RN ci) ((fv_T ci) k).2.1 ((fv_T ci) k).2.2.1 ∈ fv_GL ∧ ((fv_T ci) k).1 = fv_RN ci ∧ ci < 7 ∧ k < fv_NF ci := by
  obtain ⟨⟨a, b, c0, d, ix⟩, hq, h⟩ := List.any_eq_true.mp h
  simp only [Bool.and_eq_true, decide_eq_true_eq] at h
  obtain ⟨rfl, rfl, rfl, rfl⟩ := h
  have h1 := List.all_eq_true.mp fv_FS_ok _ hq
  simp only [fv_fsok, Bool.and_eq_true, decide_eq_true_eq] at h1
  exact ⟨fv_GL_in h1.1.1.1 rfl, h1.1.1.2, h1.1.2, h1.2⟩
theorem fv_good {ws : List Cond} (h : ∀ w ∈ ws, w ∈ fv_GL) : GoodIn fv_GL ws := fun w hw => ⟨h w hw, good_of_word (List.mem_filter.mp (h w hw)).2⟩
end
section
/-! one step of the linked program is one instruction of the machine -/
def fv_St (X : fv_X) (bS : Nat) (p : Program) (R : Room) (s : State) (m : MethodId) (args : Array Value) (meth : Method) (c : Code) (y : Nat) (D : va_G) (tc : Nat → ClassId) (A : Nat → Prop) (mc ms : Nat) : Prop :=
  p.tables.exec = Jvm.exec ∧ c.code = fv_cc y ∧ c.maxLocals = fv_ml y ∧ s.vm.findClass (fv_RN (fv_ow y)) = some m.cls ∧ (∀ w ∈ fv_GL, w.before args s = true) ∧ va_AO (fv_RN 3) s ∧ meth.name = (fv_y y).name ∧ va_K D fv_kinds (fv_tys tc) s ∧ (∀ q, s.heap.size ≤ q → A q) ∧ mc ≤ R.cells ∧ ms ≤ R.slots ∧ fv_fr y ≤ R.frames ∧ fv_lo y ≤ R.locals ∧ y < 169 ∧ (y = fv_LAW → va_X bS X.1 X.2 s s.heap ∧ bS < s.heap.size ∧ ¬ A bS)
def fv_Dy (bS bT : Nat) (s : State) (y : Nat) (D : va_G) (tc : Nat → ClassId) (A : Nat → Prop) (mc ms : Nat) (ls : fv_Sl) (k : Nat × Nat) (sh : fv_Sh) (M : fv_M) (ad : Nat → Nat) (H : Heap) (locs : List Loc) (cells slots : Nat) (lsA : Array Slot) : Prop :=
  lv_has lsA (fv_ml y) (fv_lv ad ls) ∧ fv_wl ls ∧ va_P D fv_kinds (fv_w ad tc sh M) H ∧ va_D A (fv_w ad tc sh M) ∧ va_S A s.heap H locs ∧ cells + k.1 ≤ mc ∧ slots + k.2 ≤ ms ∧ ad fv_SCR = bS ∧ ad fv_STR = bT
def fv_agr (ad ad' : Nat → Nat) (k k' : Nat × Nat) (sh sh' : fv_Sh) : Prop := (∀ i, i < sh.length ∨ fv_SCR ≤ i → ad' i = ad i) ∧ (k.1 = 0 → ad' = ad) ∧ sh.length ≤ sh'.length ∧ k'.1 ≤ k.1
theorem fv_agr.rf {ad : Nat → Nat} {k : Nat × Nat} {sh : fv_Sh} : fv_agr ad ad k k sh sh := ⟨fun _ _ => rfl, fun _ => rfl, Nat.le_refl _, Nat.le_refl _⟩
theorem fv_agr.ln {ad : Nat → Nat} {k : Nat × Nat} {sh sh' : fv_Sh} (h : sh'.length = sh.length) : fv_agr ad ad k k sh sh' := ⟨fun _ _ => rfl, fun _ => rfl, Nat.le_of_eq h.symm, Nat.le_refl _⟩
theorem fv_agr.tr {a1 a2 a3 : Nat → Nat} {k1 k2 k3 : Nat × Nat} {s1 s2 s3 : fv_Sh} (h : fv_agr a1 a2 k1 k2 s1 s2) (h2 : fv_agr a2 a3 k2 k3 s2 s3) : fv_agr a1 a3 k1 k3 s1 s3 :=
  ⟨fun i hi => (h2.1 i (hi.imp (fun q => Nat.lt_of_lt_of_le q h.2.2.1) id)).trans (h.1 i hi), fun q => (h2.2.1 (Nat.le_zero.mp (Nat.le_trans h.2.2.2 (Nat.le_of_eq q)))).trans (h.2.1 q), Nat.le_trans h.2.2.1 h2.2.2.1, Nat.le_trans h2.2.2.2 h.2.2.2⟩
/-- the text's own rows, of the one method that has a text -/
def fv_strR (p : Program) (l : Launch) (e : Env) (R : Room) (s : State) (m : MethodId) (args : Array Value) (below : List Frame) (meth : Method) (c : Code) (A : Nat → Prop) (bT : Nat) : Prop :=
  ∀ (Q : State → Prop) (H : Heap) (locs : List Loc) (cells slots pc : Nat) (ls : Array Slot) (rest : List Value), va_S A s.heap H locs → ls.size = c.maxLocals → cells ≤ R.cells → slots ≤ R.slots → (rest.map fun v => v.category).sum ≤ 8 →
    (decode c.code pc = .ok (.invokevirtual 57, 3) → (∀ locs', va_S A s.heap H locs' → W p l e R s m args below meth c H locs' cells slots Q (F0 m (pc + 3) ls (.int (Int32.ofNat fv_TXT.length) :: rest))) → W p l e R s m args below meth c H locs cells slots Q (F0 m pc ls (.ref bT :: rest))) ∧
    (∀ j : Int32, ¬ (j < 0 ∨ fv_TXT.length ≤ j.toNatClampNeg) → decode c.code pc = .ok (.invokevirtual 63, 3) → (∀ locs', va_S A s.heap H locs' → W p l e R s m args below meth c H locs' cells slots Q (F0 m (pc + 3) ls (.int (Int32.ofNat (fv_TXT.getD j.toNatClampNeg 0)) :: rest))) → W p l e R s m args below meth c H locs cells slots Q (F0 m pc ls (.int j :: .ref bT :: rest)))
def fv_strL (p : Program) (l : Launch) (e : Env) (R : Room) (s : State) (m : MethodId) (args : Array Value) (below : List Frame) (meth : Method) (c : Code) (bT : Nat) : Prop :=
  ∀ (Q : State → Prop) (H : Heap) (locs : List Loc) (cells slots pc : Nat) (ls : Array Slot) (rest : List Value), decode c.code pc = .ok (.ldc 55, 2) → W p l e R s m args below meth c H locs cells slots Q (F0 m (pc + 2) ls (.ref bT :: rest)) → W p l e R s m args below meth c H locs cells slots Q (F0 m pc ls rest)
theorem fv_cs_map (ad : Nat → Nat) (st : List Value) : ((st.map (fv_cv ad)).map fun v => v.category).sum = (st.map fun v => v.category).sum := by
  induction st with
  | nil => rfl
  | cons a st ih => simp only [List.map_cons, List.sum_cons, ih, fv_cv_cat]
theorem fv_mem3 {l : List (Nat × Nat × Nat × Nat)} {a b c : Nat} (h : l.any (fun q => decide (q.1 = a) && (decide (q.2.1 = b) && decide (q.2.2.1 = c))) = true) : ∃ d, (a, b, c, d) ∈ l := by
  obtain ⟨⟨q1, q2, q3, q4⟩, hq, h⟩ := List.any_eq_true.mp h
  simp only [Bool.and_eq_true, decide_eq_true_eq] at h
  obtain ⟨rfl, rfl, rfl⟩ := h
  exact ⟨q4, hq⟩
theorem fv_off_t {r : fv_Row} {off t : Int} (h : fv_off r off t = true) : (r.1 : Int) + off = (t.toNat : Int) := by
  simp only [fv_off, Bool.and_eq_true, decide_eq_true_eq] at h
  rw [h.1, Int.toNat_of_nonneg h.2]
section
variable {X : fv_X} {bS bT : Nat} {p : Program} {l : Launch} {e : Env} {R : Room} {s : State} {m : MethodId} {args : Array Value} {below : List Frame} {meth : Method} {c : Code} {Q : State → Prop} {y : Nat} {D : va_G} {tc : Nat → ClassId} {A : Nat → Prop} {mc ms : Nat}
/-- what stands behind a step -/
def fv_K (X : fv_X) (bS bT : Nat) (p : Program) (l : Launch) (e : Env) (R : Room) (s : State) (m : MethodId) (args : Array Value) (below : List Frame) (meth : Method) (c : Code) (Q : State → Prop) (y : Nat) (D : va_G) (tc : Nat → ClassId) (A : Nat → Prop) (mc ms : Nat) (ad : Nat → Nat) (k : Nat × Nat) (sh : fv_Sh) (q : Nat × fv_Sl × List Value × (Nat × Nat) × fv_Sh × fv_M) : Prop :=
  ∀ (ad' : Nat → Nat) (H' : Heap) (locs' : List Loc) (cells' slots' : Nat) (lsA' : Array Slot), fv_agr ad ad' k q.2.2.2.1 sh q.2.2.2.2.1 → fv_Dy bS bT s y D tc A mc ms q.2.1 q.2.2.2.1 q.2.2.2.2.1 q.2.2.2.2.2 ad' H' locs' cells' slots' lsA' → W p l e R s m args below meth c H' locs' cells' slots' Q (F0 m q.1 lsA' (q.2.2.1.map (fv_cv ad')))
/-- the instructions that touch the heap, or call -/
def fv_heapI (i : Instr) : Bool := match i with
  | .getfield _ | .putfield _ | .iaload | .baload | .caload | .iastore | .bastore | .castore | .aaload | .aastore | .arraylength | .newarray _ | .anewarray _ | .new _ | .nop | .monitorenter | .monitorexit | .invokestatic _ | .ireturn | .return_ | .dadd | .dsub => true
  | _ => false
set_option maxHeartbeats 4000000 in
set_option maxRecDepth 20000 in
theorem fv_step1 {pc np : Nat} {i : Instr} {ls : fv_Sl} {st : List Value} {k : Nat × Nat} {sh : fv_Sh} {M : fv_M} {q : Nat × fv_Sl × List Value × (Nat × Nat) × fv_Sh × fv_M} {ad : Nat → Nat} {H : Heap} {locs : List Loc} {cells slots : Nat} {lsA : Array Slot}
    (S : fv_St X bS p R s m args meth c y D tc A mc ms) (hstr : y = fv_XI → fv_strL p l e R s m args below meth c bT ∧ fv_strR p l e R s m args below meth c A bT) (Dn : fv_Dy bS bT s y D tc A mc ms ls k sh M ad H locs cells slots lsA) (hlk : fv_lk y pc = some (i, np)) (hh : fv_heapI i = false) (h : fv_nx X y pc ls st k sh M = some (.inl q)) (K : fv_K X bS bT p l e R s m args below meth c Q y D tc A mc ms ad k sh q) : W p l e R s m args below meth c H locs cells slots Q (F0 m pc lsA (st.map (fv_cv ad))) := by
  obtain ⟨hx, hb, hml, hown, hts, hAO, hnm, hK, hA, hRc, hRs, hRf, hRl, hy, hscr⟩ := id S
  obtain ⟨hl, hw, hP, hD, hS, hkc, hks, hbS, hbT⟩ := id Dn
  unfold fv_nx at h
  rw [hlk] at h
  obtain ⟨raw, hd, hk⟩ := fv_row hy hlk
  cases i with
  | iadd =>
      dsimp only at h
      simp only [fv_rk, fv_npc, Bool.and_eq_true, decide_eq_true_eq] at hk
      obtain ⟨rfl, rfl⟩ := hk
      rw [Nat.add_sub_cancel_left] at hd
      split at h
      · cases h
        exact lv_iadd hx hb hd (K _ _ _ _ _ _ fv_agr.rf Dn)
      · cases h
  | isub =>
      dsimp only at h
      simp only [fv_rk, fv_npc, Bool.and_eq_true, decide_eq_true_eq] at hk
      obtain ⟨rfl, rfl⟩ := hk
      rw [Nat.add_sub_cancel_left] at hd
      split at h
      · cases h
        exact lv_isub hx hb hd (K _ _ _ _ _ _ fv_agr.rf Dn)
      · cases h
  | imul =>
      dsimp only at h
      simp only [fv_rk, fv_npc, Bool.and_eq_true, decide_eq_true_eq] at hk
      obtain ⟨rfl, rfl⟩ := hk
      rw [Nat.add_sub_cancel_left] at hd
      split at h
      · cases h
        exact lv_imul hx hb hd (K _ _ _ _ _ _ fv_agr.rf Dn)
      · cases h
  | iand =>
      dsimp only at h
      simp only [fv_rk, fv_npc, Bool.and_eq_true, decide_eq_true_eq] at hk
      obtain ⟨rfl, rfl⟩ := hk
      rw [Nat.add_sub_cancel_left] at hd
      split at h
      · cases h
        exact lv_iand hx hb hd (K _ _ _ _ _ _ fv_agr.rf Dn)
      · cases h
  | ior =>
      dsimp only at h
      simp only [fv_rk, fv_npc, Bool.and_eq_true, decide_eq_true_eq] at hk
      obtain ⟨rfl, rfl⟩ := hk
      rw [Nat.add_sub_cancel_left] at hd
      split at h
      · cases h
        exact lv_ior hx hb hd (K _ _ _ _ _ _ fv_agr.rf Dn)
      · cases h
  | ixor =>
      dsimp only at h
      simp only [fv_rk, fv_npc, Bool.and_eq_true, decide_eq_true_eq] at hk
      obtain ⟨rfl, rfl⟩ := hk
      rw [Nat.add_sub_cancel_left] at hd
      split at h
      · cases h
        exact lv_ixor hx hb hd (K _ _ _ _ _ _ fv_agr.rf Dn)
      · cases h
  | ishl =>
      dsimp only at h
      simp only [fv_rk, fv_npc, Bool.and_eq_true, decide_eq_true_eq] at hk
      obtain ⟨rfl, rfl⟩ := hk
      rw [Nat.add_sub_cancel_left] at hd
      split at h
      · cases h
        exact lv_ishl hx hb hd (K _ _ _ _ _ _ fv_agr.rf Dn)
      · cases h
  | ishr =>
      dsimp only at h
      simp only [fv_rk, fv_npc, Bool.and_eq_true, decide_eq_true_eq] at hk
      obtain ⟨rfl, rfl⟩ := hk
      rw [Nat.add_sub_cancel_left] at hd
      split at h
      · cases h
        exact lv_ishr hx hb hd (K _ _ _ _ _ _ fv_agr.rf Dn)
      · cases h
  | ladd =>
      dsimp only at h
      simp only [fv_rk, fv_npc, Bool.and_eq_true, decide_eq_true_eq] at hk
      obtain ⟨rfl, rfl⟩ := hk
      rw [Nat.add_sub_cancel_left] at hd
      split at h
      · cases h
        exact lv_ladd hx hb hd (K _ _ _ _ _ _ fv_agr.rf Dn)
      · cases h
  | lmul =>
      dsimp only at h
      simp only [fv_rk, fv_npc, Bool.and_eq_true, decide_eq_true_eq] at hk
      obtain ⟨rfl, rfl⟩ := hk
      rw [Nat.add_sub_cancel_left] at hd
      split at h
      · cases h
        exact lv_lmul hx hb hd (K _ _ _ _ _ _ fv_agr.rf Dn)
      · cases h
  | idiv =>
      dsimp only at h
      simp only [fv_rk, fv_npc, Bool.and_eq_true, decide_eq_true_eq] at hk
      obtain ⟨rfl, rfl⟩ := hk
      rw [Nat.add_sub_cancel_left] at hd
      split at h
      · split at h
        · cases h
        · rename_i hne
          cases h
          exact lv_idiv hx hb hd hne (K _ _ _ _ _ _ fv_agr.rf Dn)
      · cases h
  | irem =>
      dsimp only at h
      simp only [fv_rk, fv_npc, Bool.and_eq_true, decide_eq_true_eq] at hk
      obtain ⟨rfl, rfl⟩ := hk
      rw [Nat.add_sub_cancel_left] at hd
      split at h
      · split at h
        · cases h
        · rename_i hne
          cases h
          exact lv_irem hx hb hd hne (K _ _ _ _ _ _ fv_agr.rf Dn)
      · cases h
  | ldiv =>
      dsimp only at h
      simp only [fv_rk, fv_npc, Bool.and_eq_true, decide_eq_true_eq] at hk
      obtain ⟨rfl, rfl⟩ := hk
      rw [Nat.add_sub_cancel_left] at hd
      split at h
      · split at h
        · cases h
        · rename_i hne
          cases h
          exact lv_ldiv hx hb hd hne (K _ _ _ _ _ _ fv_agr.rf Dn)
      · cases h
  | lrem =>
      dsimp only at h
      simp only [fv_rk, fv_npc, Bool.and_eq_true, decide_eq_true_eq] at hk
      obtain ⟨rfl, rfl⟩ := hk
      rw [Nat.add_sub_cancel_left] at hd
      split at h
      · split at h
        · cases h
        · rename_i hne
          cases h
          exact lv_lrem hx hb hd hne (K _ _ _ _ _ _ fv_agr.rf Dn)
      · cases h
  | i2l =>
      dsimp only at h
      simp only [fv_rk, fv_npc, Bool.and_eq_true, decide_eq_true_eq] at hk
      obtain ⟨rfl, rfl⟩ := hk
      rw [Nat.add_sub_cancel_left] at hd
      split at h
      · cases h
        exact lv_i2l hx hb hd rfl (K _ _ _ _ _ _ fv_agr.rf Dn)
      · cases h
  | l2i =>
      dsimp only at h
      simp only [fv_rk, fv_npc, Bool.and_eq_true, decide_eq_true_eq] at hk
      obtain ⟨rfl, rfl⟩ := hk
      rw [Nat.add_sub_cancel_left] at hd
      split at h
      · cases h
        exact lv_l2i hx hb hd rfl (K _ _ _ _ _ _ fv_agr.rf Dn)
      · cases h
  | i2c =>
      dsimp only at h
      simp only [fv_rk, fv_npc, Bool.and_eq_true, decide_eq_true_eq] at hk
      obtain ⟨rfl, rfl⟩ := hk
      rw [Nat.add_sub_cancel_left] at hd
      split at h
      · cases h
        exact lv_i2c hx hb hd rfl (K _ _ _ _ _ _ fv_agr.rf Dn)
      · cases h
  | iushr =>
      dsimp only at h
      simp only [fv_rk, fv_npc, Bool.and_eq_true, decide_eq_true_eq] at hk
      obtain ⟨rfl, rfl⟩ := hk
      rw [Nat.add_sub_cancel_left] at hd
      split at h
      · cases h
        exact lv_iushr hx hb hd rfl (K _ _ _ _ _ _ fv_agr.rf Dn)
      · cases h
  | iconst v =>
      dsimp only at h
      dsimp only [fv_rk] at hk
      cases h
      cases raw with
      | iconst u =>
        simp only [fv_npc, Bool.and_eq_true, decide_eq_true_eq] at hk
        obtain ⟨rfl, rfl⟩ := hk
        rw [Nat.add_sub_cancel_left] at hd
        exact lv_iconst hx hb hd rfl (K _ _ _ _ _ _ fv_agr.rf Dn)
      | bipush u =>
        simp only [fv_npc, Bool.and_eq_true, decide_eq_true_eq] at hk
        obtain ⟨hu, rfl⟩ := hk
        rw [Nat.add_sub_cancel_left] at hd
        exact lv_bipush hx hb hd hu (K _ _ _ _ _ _ fv_agr.rf Dn)
      | sipush u =>
        simp only [fv_npc, Bool.and_eq_true, decide_eq_true_eq] at hk
        obtain ⟨hu, rfl⟩ := hk
        rw [Nat.add_sub_cancel_left] at hd
        exact lv_sipush hx hb hd hu (K _ _ _ _ _ _ fv_agr.rf Dn)
      | ldc_w i =>
        simp only [fv_npc, Bool.and_eq_true, decide_eq_true_eq] at hk
        obtain ⟨hu, rfl⟩ := hk
        rw [Nat.add_sub_cancel_left] at hd
        obtain ⟨⟨q1, q2, q3, q4⟩, hq, hu⟩ := List.any_eq_true.mp hu
        simp only [Bool.and_eq_true, decide_eq_true_eq] at hu
        obtain ⟨rfl, rfl, rfl⟩ := hu
        have h3 := List.all_eq_true.mp fv_IS_ok _ hq
        simp only [decide_eq_true_eq] at h3
        exact lv_ldcw hx hb hown (hts _ (fv_GL_in h3 rfl)) hd (K _ _ _ _ _ _ fv_agr.rf Dn)
      | _ => exact (Bool.false_ne_true hk).elim
  | ldc2_w v =>
      dsimp only at h
      dsimp only [fv_rk] at hk
      cases h
      cases raw with
      | lconst u =>
        simp only [fv_npc, Bool.and_eq_true, decide_eq_true_eq] at hk
        obtain ⟨hu, rfl⟩ := hk
        rw [Nat.add_sub_cancel_left] at hd
        exact lv_lconst hx hb hd (by rw [hu]) (K _ _ _ _ _ _ fv_agr.rf Dn)
      | ldc2_w i =>
        simp only [fv_npc, Bool.and_eq_true, decide_eq_true_eq] at hk
        obtain ⟨hu, rfl⟩ := hk
        rw [Nat.add_sub_cancel_left] at hd
        obtain ⟨⟨q1, q2, q3, q4⟩, hq, hu⟩ := List.any_eq_true.mp hu
        simp only [Bool.and_eq_true, decide_eq_true_eq] at hu
        obtain ⟨rfl, rfl, rfl⟩ := hu
        have h3 := List.all_eq_true.mp fv_JS_ok _ hq
        simp only [decide_eq_true_eq] at h3
        exact lv_ldc2 hx hb hown (hts _ (fv_GL_in h3 rfl)) hd (K _ _ _ _ _ _ fv_agr.rf Dn)
      | _ => exact (Bool.false_ne_true hk).elim
  | ldc v =>
      dsimp only at h
      dsimp only [fv_rk] at hk
      split at h
      · rename_i hyx
        cases h
        cases raw with
        | ldc i =>
          simp only [fv_npc, Bool.and_eq_true, decide_eq_true_eq] at hk
          obtain ⟨rfl, rfl⟩ := hk
          rw [Nat.add_sub_cancel_left] at hd
          refine (hstr hyx).1 _ _ _ _ _ _ _ _ (by rw [hb]; exact hd) ?_
          have := K _ _ _ _ _ _ fv_agr.rf Dn
          rw [← hbT]
          exact this
        | _ => exact (Bool.false_ne_true hk).elim
      · cases h
  | iload j =>
      dsimp only at h
      dsimp only [fv_rk] at hk
      split at h
      · rename_i x hj
        cases h
        cases raw with
        | iload i =>
          simp only [fv_npc, Bool.and_eq_true, decide_eq_true_eq] at hk
          obtain ⟨rfl, rfl⟩ := hk
          rw [Nat.add_sub_cancel_left] at hd
          exact lv_iload hx hb hd (fv_ld hl hj) (K _ _ _ _ _ _ fv_agr.rf Dn)
        | iload_n i =>
          simp only [fv_npc, Bool.and_eq_true, decide_eq_true_eq] at hk
          obtain ⟨rfl, rfl⟩ := hk
          rw [Nat.add_sub_cancel_left] at hd
          exact lv_iload_n hx hb hd rfl (fv_ld hl hj) (K _ _ _ _ _ _ fv_agr.rf Dn)
        | _ => exact (Bool.false_ne_true hk).elim
      · cases h
  | aload j =>
      dsimp only at h
      dsimp only [fv_rk] at hk
      split at h
      · rename_i x hj
        cases h
        cases raw with
        | aload i =>
          simp only [fv_npc, Bool.and_eq_true, decide_eq_true_eq] at hk
          obtain ⟨rfl, rfl⟩ := hk
          rw [Nat.add_sub_cancel_left] at hd
          exact lv_aload hx hb hd (fv_ld hl hj) (K _ _ _ _ _ _ fv_agr.rf Dn)
        | aload_n i =>
          simp only [fv_npc, Bool.and_eq_true, decide_eq_true_eq] at hk
          obtain ⟨rfl, rfl⟩ := hk
          rw [Nat.add_sub_cancel_left] at hd
          exact lv_aload_n hx hb hd rfl (fv_ld hl hj) (K _ _ _ _ _ _ fv_agr.rf Dn)
        | _ => exact (Bool.false_ne_true hk).elim
      · cases h
  | lload j =>
      dsimp only at h
      dsimp only [fv_rk] at hk
      split at h
      · rename_i x hj
        cases h
        cases raw with
        | lload i =>
          simp only [fv_npc, Bool.and_eq_true, decide_eq_true_eq] at hk
          obtain ⟨rfl, rfl⟩ := hk
          rw [Nat.add_sub_cancel_left] at hd
          exact lv_lload hx hb hd (fv_ld hl hj) (K _ _ _ _ _ _ fv_agr.rf Dn)
        | lload_n i =>
          simp only [fv_npc, Bool.and_eq_true, decide_eq_true_eq] at hk
          obtain ⟨rfl, rfl⟩ := hk
          rw [Nat.add_sub_cancel_left] at hd
          exact lv_lload_n hx hb hd rfl (fv_ld hl hj) (K _ _ _ _ _ _ fv_agr.rf Dn)
        | _ => exact (Bool.false_ne_true hk).elim
      · cases h
  | istore j =>
      dsimp only at h
      dsimp only [fv_rk] at hk
      split at h
      · rename_i x st'
        cases hs : fv_st1 ls j (.int x) with
        | none => rw [hs] at h; cases h
        | some ls2 =>
          rw [hs] at h
          cases h
          obtain ⟨g1, g2⟩ := fv_st_ok (ad := ad) hw hs rfl
          rw [Bool.and_eq_true, decide_eq_true_eq] at hk
          obtain ⟨hj, hk⟩ := hk
          cases raw with
          | istore i =>
            simp only [fv_npc, Bool.and_eq_true, decide_eq_true_eq] at hk
            obtain ⟨rfl, rfl⟩ := hk
            rw [Nat.add_sub_cancel_left] at hd
            exact lv_istore hx hb hd hl hj rfl (fun lsA' hl' => K _ _ _ _ _ _ fv_agr.rf ⟨fv_lv_sub hl' g2, g1, hP, hD, hS, hkc, hks, hbS, hbT⟩)
          | istore_n i =>
            simp only [fv_npc, Bool.and_eq_true, decide_eq_true_eq] at hk
            obtain ⟨rfl, rfl⟩ := hk
            rw [Nat.add_sub_cancel_left] at hd
            exact lv_istore_n hx hb hd rfl hl hj rfl (fun lsA' hl' => K _ _ _ _ _ _ fv_agr.rf ⟨fv_lv_sub hl' g2, g1, hP, hD, hS, hkc, hks, hbS, hbT⟩)
          | _ => exact (Bool.false_ne_true hk).elim
      · cases h
  | astore j =>
      dsimp only at h
      dsimp only [fv_rk] at hk
      split at h
      · rename_i x st'
        cases hs : fv_st1 ls j (.ref x) with
        | none => rw [hs] at h; cases h
        | some ls2 =>
          rw [hs] at h
          cases h
          obtain ⟨g1, g2⟩ := fv_st_ok (ad := ad) hw hs rfl
          rw [Bool.and_eq_true, decide_eq_true_eq] at hk
          obtain ⟨hj, hk⟩ := hk
          cases raw with
          | astore i =>
            simp only [fv_npc, Bool.and_eq_true, decide_eq_true_eq] at hk
            obtain ⟨rfl, rfl⟩ := hk
            rw [Nat.add_sub_cancel_left] at hd
            exact lv_astore hx hb hd hl hj rfl (fun lsA' hl' => K _ _ _ _ _ _ fv_agr.rf ⟨fv_lv_sub hl' g2, g1, hP, hD, hS, hkc, hks, hbS, hbT⟩)
          | astore_n i =>
            simp only [fv_npc, Bool.and_eq_true, decide_eq_true_eq] at hk
            obtain ⟨rfl, rfl⟩ := hk
            rw [Nat.add_sub_cancel_left] at hd
            exact lv_astore_n hx hb hd rfl hl hj rfl (fun lsA' hl' => K _ _ _ _ _ _ fv_agr.rf ⟨fv_lv_sub hl' g2, g1, hP, hD, hS, hkc, hks, hbS, hbT⟩)
          | _ => exact (Bool.false_ne_true hk).elim
      · cases h
  | lstore j =>
      dsimp only at h
      dsimp only [fv_rk] at hk
      split at h
      · rename_i x st'
        split at h
        · rename_i hjl
          cases h
          subst hjl
          obtain ⟨g1, g2⟩ := fv_stL_ok (ad := ad) (x := x) hw
          rw [Bool.and_eq_true, decide_eq_true_eq] at hk
          obtain ⟨hj, hk⟩ := hk
          cases raw with
          | lstore i =>
            simp only [fv_npc, Bool.and_eq_true, decide_eq_true_eq] at hk
            obtain ⟨rfl, rfl⟩ := hk
            rw [Nat.add_sub_cancel_left] at hd
            exact lv_lstore hx hb hd hl hj rfl (fun lsA' hl' => K _ _ _ _ _ _ fv_agr.rf ⟨fv_lv_sub hl' g2, g1, hP, hD, hS, hkc, hks, hbS, hbT⟩)
          | lstore_n i =>
            simp only [fv_npc, Bool.and_eq_true, decide_eq_true_eq] at hk
            obtain ⟨hi, rfl⟩ := hk
            rw [Nat.add_sub_cancel_left] at hd
            exact lv_lstore_n hx hb hd hi hl hj rfl (fun lsA' hl' => K _ _ _ _ _ _ fv_agr.rf ⟨fv_lv_sub hl' g2, g1, hP, hD, hS, hkc, hks, hbS, hbT⟩)
          | _ => exact (Bool.false_ne_true hk).elim
        · cases h
      · cases h
  | iinc j cc =>
      dsimp only at h
      simp only [fv_rk, fv_npc, Bool.and_eq_true, decide_eq_true_eq] at hk
      obtain ⟨rfl, rfl⟩ := hk
      rw [Nat.add_sub_cancel_left] at hd
      split at h
      · rename_i x hj
        cases h
        obtain ⟨g1, g2⟩ := fv_iinc_ok (ad := ad) (z := x + Int32.ofInt cc) hw hj
        have hm : (j, Value.int x) ∈ fv_lv ad ls := fv_lv_mem.mpr ⟨j, .int x, hj, rfl⟩
        obtain ⟨kk, hkk⟩ := List.getElem?_of_mem hm
        have hjn : j < fv_ml y := by
          have := fv_ld hl hj
          rw [← hl.1]
          exact lv_lt this
        exact lv_iinc hx hb hd hl hkk rfl hjn rfl (fun lsA' hl' => K _ _ _ _ _ _ fv_agr.rf ⟨fv_lv_sub hl' g2, g1, hP, hD, hS, hkc, hks, hbS, hbT⟩)
      · cases h
  | dup =>
      dsimp only at h
      simp only [fv_rk, fv_npc, Bool.and_eq_true, decide_eq_true_eq] at hk
      obtain ⟨rfl, rfl⟩ := hk
      rw [Nat.add_sub_cancel_left] at hd
      split at h
      · split at h
        · rename_i hc
          cases h
          exact lv_dup hx hb hd (by rw [fv_cv_cat]; exact hc) (K _ _ _ _ _ _ fv_agr.rf Dn)
        · cases h
      · cases h
  | dup2 =>
      dsimp only at h
      simp only [fv_rk, fv_npc, Bool.and_eq_true, decide_eq_true_eq] at hk
      obtain ⟨rfl, rfl⟩ := hk
      rw [Nat.add_sub_cancel_left] at hd
      split at h
      · split at h
        · rename_i hc
          cases h
          exact lv_dup2_11 hx hb hd (by rw [fv_cv_cat]; exact hc.1) (by rw [fv_cv_cat]; exact hc.2) (K _ _ _ _ _ _ fv_agr.rf Dn)
        · cases h
      · cases h
  | pop =>
      dsimp only at h
      simp only [fv_rk, fv_npc, Bool.and_eq_true, decide_eq_true_eq] at hk
      obtain ⟨rfl, rfl⟩ := hk
      rw [Nat.add_sub_cancel_left] at hd
      split at h
      · split at h
        · rename_i hc
          cases h
          exact lv_pop hx hb hd (by rw [fv_cv_cat]; exact hc) (K _ _ _ _ _ _ fv_agr.rf Dn)
        · cases h
      · cases h
  | goto t =>
      dsimp only at h
      dsimp only [fv_rk] at hk
      cases h
      cases raw with
      | goto off =>
        obtain ⟨hk, hk3⟩ := Bool.and_eq_true_iff.mp hk
        simp only [fv_npc, decide_eq_true_eq] at hk3
        subst hk3
        rw [Nat.add_sub_cancel_left] at hd
        exact lv_goto hx hb hd (fv_off_t hk) (K _ _ _ _ _ _ fv_agr.rf Dn)
      | _ => exact (Bool.false_ne_true hk).elim
  | multianewarray t n =>
      dsimp only at h
      dsimp only [fv_rk] at hk
      split at h
      · rename_i htk
        cases h
        obtain ⟨g1, g2⟩ := fv_take_ok (ad := ad) htk
        cases raw with
        | goto off =>
          obtain ⟨hk, hk3⟩ := Bool.and_eq_true_iff.mp hk
          simp only [fv_npc, decide_eq_true_eq] at hk3
          subst hk3
          rw [Nat.add_sub_cancel_left] at hd
          exact lv_goto hx hb hd (fv_off_t hk) (K _ _ _ _ _ _ fv_agr.rf ⟨fv_lv_sub hl g2, g1, hP, hD, hS, hkc, hks, hbS, hbT⟩)
        | _ => exact (Bool.false_ne_true hk).elim
      · cases h
  | ifCond cn t =>
      dsimp only at h
      dsimp only [fv_rk] at hk
      split at h
      · rename_i x1 st1
        cases h
        cases raw with
        | ifCond c2 off =>
          simp only [fv_npc, Bool.and_eq_true, decide_eq_true_eq] at hk
          obtain ⟨rfl, hk2, rfl⟩ := hk
          rw [Nat.add_sub_cancel_left] at hd
          cases cn with
          | eq => exact lv_if_eq hx hb hd (fv_off_t hk2) (fun hc => by
              have this := K _ _ _ _ _ _ fv_agr.rf Dn
              have ee : fv_c1 .eq x1 = true := decide_eq_true hc
              rw [if_pos ee] at this
              exact this) (fun hc => by
              have this := K _ _ _ _ _ _ fv_agr.rf Dn
              have ee : fv_c1 .eq x1 = false := decide_eq_false hc
              rw [if_neg (by rw [ee]; exact Bool.false_ne_true)] at this
              exact this)
          | ne => exact lv_if_ne hx hb hd (fv_off_t hk2) (fun hc => by
              have this := K _ _ _ _ _ _ fv_agr.rf Dn
              have ee : fv_c1 .ne x1 = true := decide_eq_true hc
              rw [if_pos ee] at this
              exact this) (fun hc => by
              have this := K _ _ _ _ _ _ fv_agr.rf Dn
              have ee : fv_c1 .ne x1 = false := decide_eq_false (fun z => z hc)
              rw [if_neg (by rw [ee]; exact Bool.false_ne_true)] at this
              exact this)
          | lt => exact lv_if_lt hx hb hd (fv_off_t hk2) (fun hc => by
              have this := K _ _ _ _ _ _ fv_agr.rf Dn
              have ee : fv_c1 .lt x1 = true := decide_eq_true hc
              rw [if_pos ee] at this
              exact this) (fun hc => by
              have this := K _ _ _ _ _ _ fv_agr.rf Dn
              have ee : fv_c1 .lt x1 = false := decide_eq_false hc
              rw [if_neg (by rw [ee]; exact Bool.false_ne_true)] at this
              exact this)
          | ge => exact lv_if_ge hx hb hd (fv_off_t hk2) (fun hc => by
              have this := K _ _ _ _ _ _ fv_agr.rf Dn
              have ee : fv_c1 .ge x1 = true := decide_eq_true hc
              rw [if_pos ee] at this
              exact this) (fun hc => by
              have this := K _ _ _ _ _ _ fv_agr.rf Dn
              have ee : fv_c1 .ge x1 = false := decide_eq_false hc
              rw [if_neg (by rw [ee]; exact Bool.false_ne_true)] at this
              exact this)
          | gt => exact lv_if_gt hx hb hd (fv_off_t hk2) (fun hc => by
              have this := K _ _ _ _ _ _ fv_agr.rf Dn
              have ee : fv_c1 .gt x1 = true := decide_eq_true hc
              rw [if_pos ee] at this
              exact this) (fun hc => by
              have this := K _ _ _ _ _ _ fv_agr.rf Dn
              have ee : fv_c1 .gt x1 = false := decide_eq_false hc
              rw [if_neg (by rw [ee]; exact Bool.false_ne_true)] at this
              exact this)
          | le => exact lv_if_le hx hb hd (fv_off_t hk2) (fun hc => by
              have this := K _ _ _ _ _ _ fv_agr.rf Dn
              have ee : fv_c1 .le x1 = true := decide_eq_true hc
              rw [if_pos ee] at this
              exact this) (fun hc => by
              have this := K _ _ _ _ _ _ fv_agr.rf Dn
              have ee : fv_c1 .le x1 = false := decide_eq_false hc
              rw [if_neg (by rw [ee]; exact Bool.false_ne_true)] at this
              exact this)
        | _ => exact (Bool.false_ne_true hk).elim
      · cases h
  | if_icmp cn t =>
      dsimp only at h
      dsimp only [fv_rk] at hk
      split at h
      · rename_i x2 x1 st1
        cases h
        cases raw with
        | if_icmp c2 off =>
          simp only [fv_npc, Bool.and_eq_true, decide_eq_true_eq] at hk
          obtain ⟨rfl, hk2, rfl⟩ := hk
          rw [Nat.add_sub_cancel_left] at hd
          cases cn with
          | eq => exact lv_icmp_eq hx hb hd (fv_off_t hk2) (fun hc => by
              have this := K _ _ _ _ _ _ fv_agr.rf Dn
              have ee : fv_c2 .eq x1 x2 = true := decide_eq_true hc
              rw [if_pos ee] at this
              exact this) (fun hc => by
              have this := K _ _ _ _ _ _ fv_agr.rf Dn
              have ee : fv_c2 .eq x1 x2 = false := decide_eq_false hc
              rw [if_neg (by rw [ee]; exact Bool.false_ne_true)] at this
              exact this)
          | ne => exact lv_icmp_ne hx hb hd (fv_off_t hk2) (fun hc => by
              have this := K _ _ _ _ _ _ fv_agr.rf Dn
              have ee : fv_c2 .ne x1 x2 = true := decide_eq_true hc
              rw [if_pos ee] at this
              exact this) (fun hc => by
              have this := K _ _ _ _ _ _ fv_agr.rf Dn
              have ee : fv_c2 .ne x1 x2 = false := decide_eq_false (fun z => z hc)
              rw [if_neg (by rw [ee]; exact Bool.false_ne_true)] at this
              exact this)
          | lt => exact lv_icmp_lt hx hb hd (fv_off_t hk2) (fun hc => by
              have this := K _ _ _ _ _ _ fv_agr.rf Dn
              have ee : fv_c2 .lt x1 x2 = true := decide_eq_true hc
              rw [if_pos ee] at this
              exact this) (fun hc => by
              have this := K _ _ _ _ _ _ fv_agr.rf Dn
              have ee : fv_c2 .lt x1 x2 = false := decide_eq_false hc
              rw [if_neg (by rw [ee]; exact Bool.false_ne_true)] at this
              exact this)
          | ge => exact lv_icmp_ge hx hb hd (fv_off_t hk2) (fun hc => by
              have this := K _ _ _ _ _ _ fv_agr.rf Dn
              have ee : fv_c2 .ge x1 x2 = true := decide_eq_true hc
              rw [if_pos ee] at this
              exact this) (fun hc => by
              have this := K _ _ _ _ _ _ fv_agr.rf Dn
              have ee : fv_c2 .ge x1 x2 = false := decide_eq_false hc
              rw [if_neg (by rw [ee]; exact Bool.false_ne_true)] at this
              exact this)
          | gt => exact lv_icmp_gt hx hb hd (fv_off_t hk2) (fun hc => by
              have this := K _ _ _ _ _ _ fv_agr.rf Dn
              have ee : fv_c2 .gt x1 x2 = true := decide_eq_true hc
              rw [if_pos ee] at this
              exact this) (fun hc => by
              have this := K _ _ _ _ _ _ fv_agr.rf Dn
              have ee : fv_c2 .gt x1 x2 = false := decide_eq_false hc
              rw [if_neg (by rw [ee]; exact Bool.false_ne_true)] at this
              exact this)
          | le => exact lv_icmp_le hx hb hd (fv_off_t hk2) (fun hc => by
              have this := K _ _ _ _ _ _ fv_agr.rf Dn
              have ee : fv_c2 .le x1 x2 = true := decide_eq_true hc
              rw [if_pos ee] at this
              exact this) (fun hc => by
              have this := K _ _ _ _ _ _ fv_agr.rf Dn
              have ee : fv_c2 .le x1 x2 = false := decide_eq_false hc
              rw [if_neg (by rw [ee]; exact Bool.false_ne_true)] at this
              exact this)
        | _ => exact (Bool.false_ne_true hk).elim
      · cases h
  | ifnull t =>
      dsimp only at h
      dsimp only [fv_rk] at hk
      cases raw with
      | ifnull off =>
        simp only [fv_npc, Bool.and_eq_true, decide_eq_true_eq] at hk
        obtain ⟨hk2, rfl⟩ := hk
        rw [Nat.add_sub_cancel_left] at hd
        split at h
        · cases h
          exact lv_ifnull hx hb hd (K _ _ _ _ _ _ fv_agr.rf Dn)
        · cases h
          exact lv_ifnullN hx hb hd (fv_off_t hk2) (K _ _ _ _ _ _ fv_agr.rf Dn)
        · cases h
      | _ => exact (Bool.false_ne_true hk).elim
  | ifnonnull t =>
      dsimp only at h
      dsimp only [fv_rk] at hk
      cases raw with
      | ifnonnull off =>
        simp only [fv_npc, Bool.and_eq_true, decide_eq_true_eq] at hk
        obtain ⟨hk2, rfl⟩ := hk
        rw [Nat.add_sub_cancel_left] at hd
        split at h
        · cases h
          exact lv_ifnonnull hx hb hd (fv_off_t hk2) (K _ _ _ _ _ _ fv_agr.rf Dn)
        · cases h
          exact lv_ifnonnullN hx hb hd (K _ _ _ _ _ _ fv_agr.rf Dn)
        · cases h
      | _ => exact (Bool.false_ne_true hk).elim
  | tableswitch d lo hi offs =>
      dsimp only at h
      dsimp only [fv_rk] at hk
      cases raw with
      | tableswitch d2 lo2 hi2 offs2 =>
        simp only [Bool.and_eq_true, decide_eq_true_eq] at hk
        obtain ⟨rfl, rfl, hk2, rfl, hk4⟩ := hk
        split at h
        · rename_i a st'
          unfold fv_tgt at h
          split at h
          · rename_i hout
            cases h
            exact lv_tableOut hx hb hd hout (fv_off_t hk2) (K _ _ _ _ _ _ fv_agr.rf Dn)
          · rename_i hout
            cases ho : offs2[(a.toInt - lo).toNat]? with
            | none =>
              rw [Array.getElem?_map, ho] at h
              cases h
            | some o =>
              rw [Array.getElem?_map, ho] at h
              cases h
              have h0 : 0 ≤ (pc : Int) + o := by
                have := Array.all_eq_true_iff_forall_mem.mp hk4 o (Array.mem_of_getElem? ho)
                exact of_decide_eq_true this
              exact lv_tableIn hx hb hd (fun z => hout (Or.inl z)) (fun z => hout (Or.inr z)) ho (Int.toNat_of_nonneg h0).symm (K _ _ _ _ _ _ fv_agr.rf Dn)
        · cases h
      | _ => exact (Bool.false_ne_true hk).elim
  | _ => first | (cases hh; done) | (dsimp only at h; cases h; done)
end
end
section
/-! the steps that touch the heap -/
theorem fv_isI_n {t : FieldType} (h : fv_isI t = true) (x : Int32) : narrow t (.int x) = .int x ∧ fits t (.int x) = true := by
  cases t <;> first | (exact ⟨rfl, rfl⟩) | (exact (Bool.false_ne_true h).elim)
theorem fv_isR_n {t : FieldType} (h : fv_isR t = true) (r : Nat) : narrow t (.ref r) = .ref r ∧ fits t (.ref r) = true := by
  cases t <;> first | (exact ⟨rfl, rfl⟩) | (exact (Bool.false_ne_true h).elim)
theorem fv_ty_all : (List.range 7).all (fun ci => (List.range (fv_NF ci)).all (fun j => fv_isI (fv_Y ci j) || fv_isR (fv_Y ci j))) = true := by decide +kernel
def fv_fs0 (ci : Nat) : List Value := (List.range (fv_NF ci)).map (fun k => match fv_Y ci k with | .int => .int 0 | _ => .null)
theorem fv_fs0_at {ci j : Nat} (hci : ci < 7) (h : j < fv_NF ci) : defaultValue (fv_Y ci j) = vp_V (fv_fs0 ci) j := by
  have h1 := List.all_eq_true.mp (List.all_eq_true.mp fv_ty_all ci (List.mem_range.mpr hci)) j (List.mem_range.mpr h)
  simp only [vp_V, fv_fs0, List.getD_eq_getElem?_getD, List.getElem?_map, List.getElem?_range h, Option.map_some, Option.getD_some]
  generalize fv_Y ci j = t at h1
  cases t <;> first | rfl | (exact (Bool.false_ne_true h1).elim)
theorem fv_sl0_map {ad : Nat → Nat} {M : fv_M} {n ci : Nat} : (fv_sl0 ci).mapIdx (fun k o => fv_slv ad (fv_new M n) n k o) = fv_fs0 ci := by
  apply List.ext_getElem?
  intro j
  rw [List.getElem?_mapIdx]
  simp only [fv_sl0, fv_fs0, List.getElem?_map]
  by_cases h : j < fv_NF ci
  · rw [List.getElem?_range h]
    simp only [Option.map_some, Option.some.injEq]
    generalize fv_Y ci j = t
    cases t <;> simp [fv_slv, fv_new, fv_cv]
  · rw [List.getElem?_eq_none (by rw [List.length_range]; omega)]
    rfl
theorem fv_map_eq {ad ad' : Nat → Nat} {n : Nat} (ha : ∀ i, i < n ∨ fv_SCR ≤ i → ad' i = ad i) {st : List Value} (h : st.all (fv_belV n) = true) : st.map (fv_cv ad') = st.map (fv_cv ad) :=
  List.map_congr_left (fun v hv => fv_cv_eq ha (List.all_eq_true.mp h v hv))
theorem fv_lv_eq {ad ad' : Nat → Nat} {n : Nat} (ha : ∀ i, i < n ∨ fv_SCR ≤ i → ad' i = ad i) {ls : fv_Sl} (h : ls.all (fv_belO n) = true) : ∀ q ∈ fv_lv ad' ls, q ∈ fv_lv ad ls := by
  intro q hq
  obtain ⟨i, v, hv, rfl⟩ := fv_lv_mem.mp hq
  exact fv_lv_mem.mpr ⟨i, v, hv, by rw [fv_cv_eq ha (List.all_eq_true.mp h _ (List.mem_of_getElem? hv))]⟩
def fv_ad (ad : Nat → Nat) (n q : Nat) : Nat → Nat := fun j => if j = n then q else ad j
theorem fv_ad_ok (ad : Nat → Nat) {n : Nat} (q : Nat) (hn : n < fv_SCR) : ∀ i, i < n ∨ fv_SCR ≤ i → fv_ad ad n q i = ad i := fun i hi => if_neg (by omega)
theorem fv_new_ne (M : fv_M) (n : Nat) : ∀ j, j < n → fv_new M n j = M j := fun j hj => if_neg (by omega)
theorem fv_new_at (M : fv_M) (n : Nat) : fv_new M n n = fun _ => 0 := if_pos rfl
theorem fv_room8 {m : MethodId} {pc : Nat} {ls : Array Slot} {st st2 : List Value} (h : (st.map fun v => v.category).sum ≤ 8) : 2 * (F0 m pc ls st2).monitorRoom + (st.map fun v => v.category).sum ≤ 8 := lv_room h
section
variable {X : fv_X} {bS bT : Nat} {p : Program} {l : Launch} {e : Env} {R : Room} {s : State} {m : MethodId} {args : Array Value} {below : List Frame} {meth : Method} {c : Code} {Q : State → Prop} {y : Nat} {D : va_G} {tc : Nat → ClassId} {A : Nat → Prop} {mc ms : Nat}
set_option maxHeartbeats 4000000 in
set_option maxRecDepth 20000 in
theorem fv_step2 {pc np : Nat} {i : Instr} {ls : fv_Sl} {st : List Value} {k : Nat × Nat} {sh : fv_Sh} {M : fv_M} {q : Nat × fv_Sl × List Value × (Nat × Nat) × fv_Sh × fv_M} {ad : Nat → Nat} {H : Heap} {locs : List Loc} {cells slots : Nat} {lsA : Array Slot}
    (S : fv_St X bS p R s m args meth c y D tc A mc ms) (hstr : y = fv_XI → fv_strL p l e R s m args below meth c bT ∧ fv_strR p l e R s m args below meth c A bT) (Dn : fv_Dy bS bT s y D tc A mc ms ls k sh M ad H locs cells slots lsA) (hlk : fv_lk y pc = some (i, np)) (hh : fv_heapI i = true) (h : fv_nx X y pc ls st k sh M = some (.inl q)) (K : fv_K X bS bT p l e R s m args below meth c Q y D tc A mc ms ad k sh q) : W p l e R s m args below meth c H locs cells slots Q (F0 m pc lsA (st.map (fv_cv ad))) := by
  obtain ⟨hx, hb, hml, hown, hts, hAO, hnm, hK, hA, hRc, hRs, hRf, hRl, hy, hscr⟩ := id S
  obtain ⟨hl, hw, hP, hD, hS, hkc, hks, hbS, hbT⟩ := id Dn
  unfold fv_nx at h
  rw [hlk] at h
  obtain ⟨raw, hd, hk⟩ := fv_row hy hlk
  cases i with
  | iaload =>
      dsimp only at h
      simp only [fv_rk, fv_npc, Bool.and_eq_true, decide_eq_true_eq] at hk
      obtain ⟨rfl, rfl⟩ := hk
      rw [Nat.add_sub_cancel_left] at hd
      split at h
      · rename_i j c0 st1
        split at h
        · rename_i hc0
          split at h
          · rename_i hcc
            cases h
            obtain ⟨hyl, rfl⟩ := hc0
            obtain ⟨hX, hbl, hbA⟩ := hscr hyl
            show W p l e R s m args below meth c H locs cells slots Q (F0 m pc lsA (.int j :: .ref (ad fv_SCR) :: st1.map (fv_cv ad)))
            rw [hbS]
            exact va_sld hx hb hX hbl hbA hS hcc hd (K _ _ _ _ _ _ fv_agr.rf Dn)
          · cases h
        · split at h
          · rename_i n hs
            split at h
            · cases h
            · rename_i hin
              cases h
              exact va_iald hx hb hK hP c0 0 (fv_w_c hs) rfl hin hd (K _ _ _ _ _ _ fv_agr.rf Dn)
          · cases h
      · cases h
  | baload =>
      dsimp only at h
      simp only [fv_rk, fv_npc, Bool.and_eq_true, decide_eq_true_eq] at hk
      obtain ⟨rfl, rfl⟩ := hk
      rw [Nat.add_sub_cancel_left] at hd
      split at h
      · rename_i j c0 st1
        split at h
        · rename_i n hs
          split at h
          · cases h
          · rename_i hin
            cases h
            exact va_zald hx hb hK hP c0 1 (fv_w_c hs) rfl hin hd (K _ _ _ _ _ _ fv_agr.rf Dn)
        · cases h
      · cases h
  | caload =>
      dsimp only at h
      simp only [fv_rk, fv_npc, Bool.and_eq_true, decide_eq_true_eq] at hk
      obtain ⟨rfl, rfl⟩ := hk
      rw [Nat.add_sub_cancel_left] at hd
      split at h
      · rename_i j c0 st1
        split at h
        · rename_i n hs
          split at h
          · cases h
          · rename_i hin
            cases h
            exact va_cald hx hb hK hP c0 2 (fv_w_c hs) rfl hin hd (K _ _ _ _ _ _ fv_agr.rf Dn)
        · cases h
      · cases h
  | iastore =>
      dsimp only at h
      simp only [fv_rk, fv_npc, Bool.and_eq_true, decide_eq_true_eq] at hk
      obtain ⟨rfl, rfl⟩ := hk
      rw [Nat.add_sub_cancel_left] at hd
      split at h
      · rename_i x j c0 st1
        split at h
        · rename_i n hs
          split at h
          · cases h
          · rename_i hin
            cases h
            have ew := fv_w_row (ad := ad) (tc := tc) (M := M) (k := j.toNatClampNeg) (x := x) hs
            exact va_iast hx hb hK hP hD hS c0 0 (fv_w_c hs) rfl hin hd (fun H1 locs1 hP1 hD1 hS1 => K ad H1 locs1 cells slots lsA fv_agr.rf ⟨hl, hw, by rw [← ew]; exact hP1, by rw [← ew]; exact hD1, hS1, hkc, hks, hbS, hbT⟩)
        · cases h
      · cases h
  | bastore =>
      dsimp only at h
      simp only [fv_rk, fv_npc, Bool.and_eq_true, decide_eq_true_eq] at hk
      obtain ⟨rfl, rfl⟩ := hk
      rw [Nat.add_sub_cancel_left] at hd
      split at h
      · rename_i x j c0 st1
        split at h
        · rename_i n hs
          split at h
          · cases h
          · rename_i hin
            cases h
            have ew := fv_w_row (ad := ad) (tc := tc) (M := M) (k := j.toNatClampNeg) (x := vp_nar .boolean x) hs
            exact va_zast hx hb hK hP hD hS c0 1 (fv_w_c hs) rfl hin hd (fun H1 locs1 hP1 hD1 hS1 => K ad H1 locs1 cells slots lsA fv_agr.rf ⟨hl, hw, by rw [← ew]; exact hP1, by rw [← ew]; exact hD1, hS1, hkc, hks, hbS, hbT⟩)
        · cases h
      · cases h
  | castore =>
      dsimp only at h
      simp only [fv_rk, fv_npc, Bool.and_eq_true, decide_eq_true_eq] at hk
      obtain ⟨rfl, rfl⟩ := hk
      rw [Nat.add_sub_cancel_left] at hd
      split at h
      · rename_i x j c0 st1
        split at h
        · rename_i n hs
          split at h
          · cases h
          · rename_i hin
            cases h
            have ew := fv_w_row (ad := ad) (tc := tc) (M := M) (k := j.toNatClampNeg) (x := vp_nar .char x) hs
            exact va_cast hx hb hK hP hD hS c0 2 (fv_w_c hs) rfl hin hd (fun H1 locs1 hP1 hD1 hS1 => K ad H1 locs1 cells slots lsA fv_agr.rf ⟨hl, hw, by rw [← ew]; exact hP1, by rw [← ew]; exact hD1, hS1, hkc, hks, hbS, hbT⟩)
        · cases h
      · cases h
  | aaload =>
      dsimp only at h
      simp only [fv_rk, fv_npc, Bool.and_eq_true, decide_eq_true_eq] at hk
      obtain ⟨rfl, rfl⟩ := hk
      rw [Nat.add_sub_cancel_left] at hd
      split at h
      · rename_i j c0 st1
        split at h
        · rename_i sl hs
          split at h
          · cases h
          · rename_i hin
            have he := fv_w_c (ad := ad) (tc := tc) (M := M) hs
            rw [fv_ce_objs] at he
            split at h
            · rename_i r hr
              cases h
              refine va_aldq hx hb hK hP c0 3 he rfl hin hd ?_
              rw [hr]
              exact K _ _ _ _ _ _ fv_agr.rf Dn
            · rename_i hr
              cases h
              refine va_aldq hx hb hK hP c0 3 he rfl hin hd ?_
              rw [hr]
              exact K _ _ _ _ _ _ fv_agr.rf Dn
            · cases h
        · cases h
      · cases h
  | aastore =>
      dsimp only at h
      simp only [fv_rk, fv_npc, Bool.and_eq_true, decide_eq_true_eq] at hk
      obtain ⟨rfl, rfl⟩ := hk
      rw [Nat.add_sub_cancel_left] at hd
      split at h
      · rename_i v j c0 st1
        split at h
        · rename_i sl vs hs hv
          split at h
          · cases h
          · rename_i hin
            cases h
            have he := fv_w_c (ad := ad) (tc := tc) (M := M) hs
            rw [fv_ce_objs] at he
            have hev := fv_w_c (ad := ad) (tc := tc) (M := M) hv
            rw [fv_ce_obj _ _ _ _ _ _ (by decide)] at hev
            have hjl : j.toNatClampNeg < sl.length := by
              rcases Nat.lt_or_ge j.toNatClampNeg sl.length with g | g
              · exact g
              · exact absurd (Or.inr g) hin
            have ew := fv_w_refs (ad := ad) (tc := tc) (sh := sh) (M := M) (c := c0) (r := v) hjl
            exact va_astq hx hb hK hP hD hS c0 3 v 3 he rfl hev (fv_kind_at 3 (by decide)) hin hd (fun H1 locs1 hP1 hD1 hS1 => K ad H1 locs1 cells slots lsA (fv_agr.ln (by rw [List.length_set])) ⟨hl, hw, by rw [← ew]; exact hP1, by rw [← ew]; exact hD1, hS1, hkc, hks, hbS, hbT⟩)
        · cases h
      · cases h
  | arraylength =>
      dsimp only at h
      simp only [fv_rk, fv_npc, Bool.and_eq_true, decide_eq_true_eq] at hk
      obtain ⟨rfl, rfl⟩ := hk
      rw [Nat.add_sub_cancel_left] at hd
      split at h
      · rename_i c0 st1
        split at h
        · rename_i hc0
          cases h
          obtain ⟨hyl, rfl⟩ := hc0
          obtain ⟨hX, hbl, hbA⟩ := hscr hyl
          show W p l e R s m args below meth c H locs cells slots Q (F0 m pc lsA (.ref (ad fv_SCR) :: st1.map (fv_cv ad)))
          rw [hbS]
          exact va_slen hx hb hX hbl hbA hS hd (K _ _ _ _ _ _ fv_agr.rf Dn)
        · split at h
          · rename_i t n hs
            split at h
            · rename_i ht
              cases h
              rcases (by omega : t = 0 ∨ t = 1 ∨ t = 2) with rfl | rfl | rfl
              · exact va_alen hx hb hK hP c0 0 (fv_w_c hs) rfl rfl hd (K _ _ _ _ _ _ fv_agr.rf Dn)
              · exact va_alen hx hb hK hP c0 1 (fv_w_c hs) rfl rfl hd (K _ _ _ _ _ _ fv_agr.rf Dn)
              · exact va_alen hx hb hK hP c0 2 (fv_w_c hs) rfl rfl hd (K _ _ _ _ _ _ fv_agr.rf Dn)
            · cases h
          · rename_i sl hs
            cases h
            have he := fv_w_c (ad := ad) (tc := tc) (M := M) hs
            rw [fv_ce_objs] at he
            exact va_alen hx hb hK hP c0 3 he rfl rfl hd (K _ _ _ _ _ _ fv_agr.rf Dn)
          · cases h
      · cases h
  | getfield f =>
      dsimp only at h
      dsimp only [fv_rk] at hk
      cases raw with
      | getfield i =>
        simp only [fv_npc, Bool.and_eq_true, decide_eq_true_eq] at hk
        obtain ⟨hfs, rfl⟩ := hk
        rw [Nat.add_sub_cancel_left] at hd
        obtain ⟨hlink, hdec, h7, hkn⟩ := fv_fs_in hfs
        split at h
        · rename_i c0 st1
          split at h
          · rename_i ci sl hs
            split at h
            · rename_i hci
              subst hci
              have he := fv_w_c (ad := ad) (tc := tc) (M := M) hs
              rw [fv_ce_obj _ _ _ _ _ _ (by omega)] at he
              split at h
              · rename_i hq
                cases h
                exact va_get (v := .int (M c0 (f % 100))) hx hb hts (fv_lay_in h7) hown hK hP c0 he (fv_kind_at _ h7) (f % 100) hkn (hts _ hlink) (fun _ z => by rw [hdec] at z; exact z) (by rw [List.getElem?_mapIdx, hq]; rfl) hd (K _ _ _ _ _ _ fv_agr.rf Dn)
              · rename_i v hq
                cases h
                exact va_get (v := fv_cv ad v) hx hb hts (fv_lay_in h7) hown hK hP c0 he (fv_kind_at _ h7) (f % 100) hkn (hts _ hlink) (fun _ z => by rw [hdec] at z; exact z) (by rw [List.getElem?_mapIdx, hq]; rfl) hd (K _ _ _ _ _ _ fv_agr.rf Dn)
              · cases h
            · cases h
          · cases h
        · cases h
      | _ => exact (Bool.false_ne_true hk).elim
  | putfield f =>
      dsimp only at h
      dsimp only [fv_rk] at hk
      cases raw with
      | putfield i =>
        rw [Bool.and_eq_true, Bool.and_eq_true] at hk
        obtain ⟨hfs, hn3, hfn⟩ := hk
        simp only [fv_npc, decide_eq_true_eq] at hn3
        subst hn3
        rw [Nat.add_sub_cancel_left] at hd
        obtain ⟨hlink, hdec, h7, hkn⟩ := fv_fs_in hfs
        split at h
        · rename_i v0 c0 st1
          split at h
          · rename_i ci sl hs
            split at h
            · rename_i hci
              subst hci
              have he := fv_w_c (ad := ad) (tc := tc) (M := M) hs
              rw [fv_ce_obj _ _ _ _ _ _ (by omega)] at he
              split at h
              · rename_i x hq
                split at h
                · rename_i ht
                  cases h
                  have ew := fv_w_fld (ad := ad) (tc := tc) (M := M) (x := x) (by omega) hs hq
                  have hlen : f % 100 < (sl.mapIdx (fun k o => fv_slv ad M c0 k o)).length := by rw [List.length_mapIdx]; exact (List.getElem?_eq_some_iff.mp hq).1
                  have hft := fv_isI_n ht x
                  cases hfin : ((fv_T (f / 100)) (f % 100)).2.2.2 with
                  | false => exact va_put (v := .int x) hx hb hts (fv_lay_in h7) (fv_Y (f / 100)) (fv_lay_ty h7) (fv_lay_nm h7) hown hK hP hD hS c0 he (fv_kind_at _ h7) (f % 100) hkn (hts _ hlink) (fun _ z => by rw [hdec] at z; exact z) hfin (fv_lay_ty h7 _ hkn) hft.1 hft.2 hlen hd (fun H1 locs1 hP1 hD1 hS1 => K ad H1 locs1 cells slots lsA fv_agr.rf ⟨hl, hw, by rw [← ew]; exact hP1, by rw [← ew]; exact hD1, hS1, hkc, hks, hbS, hbT⟩)
                  | true =>
                    rw [hfin] at hfn
                    simp only [Bool.not_true, Bool.false_or, Bool.and_eq_true, decide_eq_true_eq] at hfn
                    exact va_putF (v := .int x) hx hb hts (fv_lay_in h7) (fv_Y (f / 100)) (fv_lay_ty h7) (fv_lay_nm h7) hown hK hP hD hS c0 he (fv_kind_at _ h7) (f % 100) hkn (hts _ hlink) (fun _ z => by rw [hdec] at z; exact z) hfin (hnm.trans hfn.1) (by rw [hdec, hfn.2]) (fv_lay_ty h7 _ hkn) hft.1 hft.2 hlen hd (fun H1 locs1 hP1 hD1 hS1 => K ad H1 locs1 cells slots lsA fv_agr.rf ⟨hl, hw, by rw [← ew]; exact hP1, by rw [← ew]; exact hD1, hS1, hkc, hks, hbS, hbT⟩)
                · cases h
              · rename_i w0 r hq
                split at h
                · rename_i ht
                  cases h
                  have ew := fv_w_ref (ad := ad) (tc := tc) (sh := sh) (M := M) (c := c0) (k := f % 100) (r := r) (sl := sl) (show f / 100 < 100 by omega)
                  have hlen : f % 100 < (sl.mapIdx (fun k o => fv_slv ad M c0 k o)).length := by rw [List.length_mapIdx]; exact (List.getElem?_eq_some_iff.mp hq).1
                  have hft := fv_isR_n ht (ad r)
                  cases hfin : ((fv_T (f / 100)) (f % 100)).2.2.2 with
                  | false => exact va_put (v := .ref (ad r)) hx hb hts (fv_lay_in h7) (fv_Y (f / 100)) (fv_lay_ty h7) (fv_lay_nm h7) hown hK hP hD hS c0 he (fv_kind_at _ h7) (f % 100) hkn (hts _ hlink) (fun _ z => by rw [hdec] at z; exact z) hfin (fv_lay_ty h7 _ hkn) hft.1 hft.2 hlen hd (fun H1 locs1 hP1 hD1 hS1 => K ad H1 locs1 cells slots lsA (fv_agr.ln (by rw [List.length_set])) ⟨hl, hw, by rw [← ew]; exact hP1, by rw [← ew]; exact hD1, hS1, hkc, hks, hbS, hbT⟩)
                  | true =>
                    rw [hfin] at hfn
                    simp only [Bool.not_true, Bool.false_or, Bool.and_eq_true, decide_eq_true_eq] at hfn
                    exact va_putF (v := .ref (ad r)) hx hb hts (fv_lay_in h7) (fv_Y (f / 100)) (fv_lay_ty h7) (fv_lay_nm h7) hown hK hP hD hS c0 he (fv_kind_at _ h7) (f % 100) hkn (hts _ hlink) (fun _ z => by rw [hdec] at z; exact z) hfin (hnm.trans hfn.1) (by rw [hdec, hfn.2]) (fv_lay_ty h7 _ hkn) hft.1 hft.2 hlen hd (fun H1 locs1 hP1 hD1 hS1 => K ad H1 locs1 cells slots lsA (fv_agr.ln (by rw [List.length_set])) ⟨hl, hw, by rw [← ew]; exact hP1, by rw [← ew]; exact hD1, hS1, hkc, hks, hbS, hbT⟩)
                · cases h
              · cases h
            · cases h
          · cases h
        · cases h
      | _ => exact (Bool.false_ne_true hk).elim
  | new ci =>
      dsimp only at h
      dsimp only [fv_rk] at hk
      cases raw with
      | new i =>
        simp only [fv_npc, Bool.and_eq_true, decide_eq_true_eq] at hk
        obtain ⟨hu, rfl⟩ := hk
        rw [Nat.add_sub_cancel_left] at hd
        obtain ⟨ix, hq⟩ := fv_mem3 (by simpa only [Bool.and_eq_true, decide_eq_true_eq] using hu)
        have h3 := List.all_eq_true.mp fv_NS_ok _ hq
        simp only [Bool.and_eq_true, decide_eq_true_eq] at h3
        split at h
        · rename_i hcnd
          obtain ⟨h7, hk1, hk2, hnS, hbL, hbV, hbC⟩ := hcnd
          cases h
          have hi := List.all_eq_true.mp fv_inst_all ci (List.mem_range.mpr h7)
          simp only [Bool.and_eq_true, decide_eq_true_eq] at hi
          refine va_new hx hb hts (fv_lay_in h7) (fv_Y ci) (fv_lay_ty h7) hown (hts _ (fv_GL_in h3.1 rfl)) (hts _ (fv_GL_in hi.1 rfl)) (hts _ (fv_GL_in hi.2 rfl)) hK hP hD hS hA (fv_kind_at ci h7) (fs := fv_fs0 ci) (fun j hj => fv_fs0_at h7 hj) (by omega) (by omega) hd (fun q1 H1 hP1 hD1 hS1 => ?_)
          · have hao := fv_ad_ok ad q1 hnS
            have epush := fv_w_push (ad := ad) (ad' := fv_ad ad sh.length q1) (tc := tc) (M := M) (M' := fv_new M sh.length) (x := .inr (ci, fv_sl0 ci)) hao hbC (fv_new_ne M _)
            have eq1 : fv_ad ad sh.length q1 sh.length = q1 := if_pos rfl
            rw [fv_ce_obj _ _ _ _ _ _ (by omega), fv_sl0_map, eq1] at epush
            have := K (fv_ad ad sh.length q1) H1 locs (cells + 1) (slots + fv_NF ci) lsA ⟨hao, fun z => absurd z (by omega), by rw [List.length_append]; exact Nat.le_add_right _ _, Nat.sub_le _ _⟩ ⟨fv_lv_sub hl (fv_lv_eq hao hbL), hw, by rw [epush]; exact hP1, by rw [epush]; exact hD1, hS1, by dsimp only; omega, by dsimp only; omega, by rw [hao _ (Or.inr (Nat.le_refl _))]; exact hbS, by rw [hao _ (Or.inr (by decide))]; exact hbT⟩
            dsimp only at this
            rw [List.map_cons, fv_map_eq hao hbV] at this
            simp only [fv_cv, eq1] at this
            exact this
        · cases h
      | _ => exact (Bool.false_ne_true hk).elim
  | newarray t =>
      dsimp only at h
      simp only [fv_rk, fv_npc, Bool.and_eq_true, decide_eq_true_eq] at hk
      obtain ⟨rfl, rfl⟩ := hk
      rw [Nat.add_sub_cancel_left] at hd
      split at h
      · rename_i n st1 tcd hat
        split at h
        · rename_i hcnd
          cases h
          cases t with
          | int =>
            cases hat
            exact (by
            obtain ⟨h0, hk1, hk2, hk3, hnS, hbL, hbV, hbC⟩ := hcnd
            refine va_newa (atype := .int) (ty := .int) hx hb (hts _ fv_ac_int) rfl hK hP hD hS hA (a0 := (n.toNatClampNeg, .inl (fun _ => 0))) (fun _ => rfl) h0 rfl (by show n.toNatClampNeg * 4 ≤ _; omega) (by omega) (by omega) hd (fun q1 cA H1 hK1 hP1 hD1 hS1 => ?_)
            · have ecA : cA = tc 0 := by
                have g1 := (hK1.2 4 (cA, .int) rfl).2
                have g2 := (hK.2 0 (tc 0, .int) rfl).2
                exact Option.some.inj (g1.symm.trans g2)
              subst ecA
              have hao := fv_ad_ok ad q1 hnS
              have epush := fv_w_push (ad := ad) (ad' := fv_ad ad sh.length q1) (tc := tc) (M := M) (M' := fv_new M sh.length) (x := .inl (0, n.toNatClampNeg)) hao hbC (fv_new_ne M _)
              have eq1 : fv_ad ad sh.length q1 sh.length = q1 := if_pos rfl
              rw [fv_ce_row, fv_new_at, eq1] at epush
              have := K (fv_ad ad sh.length q1) H1 locs (cells + 1) (slots + n.toNatClampNeg) lsA ⟨hao, fun z => absurd z (by omega), by rw [List.length_append]; exact Nat.le_add_right _ _, Nat.sub_le _ _⟩ ⟨fv_lv_sub hl (fv_lv_eq hao hbL), hw, by rw [epush]; exact hP1, by rw [epush]; exact hD1, hS1, by dsimp only; omega, by dsimp only; omega, by rw [hao _ (Or.inr (Nat.le_refl _))]; exact hbS, by rw [hao _ (Or.inr (by decide))]; exact hbT⟩
              dsimp only at this
              rw [List.map_cons, fv_map_eq hao hbV] at this
              simp only [fv_cv, eq1] at this
              exact this)
          | boolean =>
            cases hat
            exact (by
            obtain ⟨h0, hk1, hk2, hk3, hnS, hbL, hbV, hbC⟩ := hcnd
            refine va_newa (atype := .boolean) (ty := .boolean) hx hb (hts _ fv_ac_boolean) rfl hK hP hD hS hA (a0 := (n.toNatClampNeg, .inl (fun _ => 0))) (fun _ => rfl) h0 rfl (by show n.toNatClampNeg * 1 ≤ _; omega) (by omega) (by omega) hd (fun q1 cA H1 hK1 hP1 hD1 hS1 => ?_)
            · have ecA : cA = tc 1 := by
                have g1 := (hK1.2 4 (cA, .boolean) rfl).2
                have g2 := (hK.2 1 (tc 1, .boolean) rfl).2
                exact Option.some.inj (g1.symm.trans g2)
              subst ecA
              have hao := fv_ad_ok ad q1 hnS
              have epush := fv_w_push (ad := ad) (ad' := fv_ad ad sh.length q1) (tc := tc) (M := M) (M' := fv_new M sh.length) (x := .inl (1, n.toNatClampNeg)) hao hbC (fv_new_ne M _)
              have eq1 : fv_ad ad sh.length q1 sh.length = q1 := if_pos rfl
              rw [fv_ce_row, fv_new_at, eq1] at epush
              have := K (fv_ad ad sh.length q1) H1 locs (cells + 1) (slots + n.toNatClampNeg) lsA ⟨hao, fun z => absurd z (by omega), by rw [List.length_append]; exact Nat.le_add_right _ _, Nat.sub_le _ _⟩ ⟨fv_lv_sub hl (fv_lv_eq hao hbL), hw, by rw [epush]; exact hP1, by rw [epush]; exact hD1, hS1, by dsimp only; omega, by dsimp only; omega, by rw [hao _ (Or.inr (Nat.le_refl _))]; exact hbS, by rw [hao _ (Or.inr (by decide))]; exact hbT⟩
              dsimp only at this
              rw [List.map_cons, fv_map_eq hao hbV] at this
              simp only [fv_cv, eq1] at this
              exact this)
          | char =>
            cases hat
            exact (by
            obtain ⟨h0, hk1, hk2, hk3, hnS, hbL, hbV, hbC⟩ := hcnd
            refine va_newa (atype := .char) (ty := .char) hx hb (hts _ fv_ac_char) rfl hK hP hD hS hA (a0 := (n.toNatClampNeg, .inl (fun _ => 0))) (fun _ => rfl) h0 rfl (by show n.toNatClampNeg * 2 ≤ _; omega) (by omega) (by omega) hd (fun q1 cA H1 hK1 hP1 hD1 hS1 => ?_)
            · have ecA : cA = tc 2 := by
                have g1 := (hK1.2 4 (cA, .char) rfl).2
                have g2 := (hK.2 2 (tc 2, .char) rfl).2
                exact Option.some.inj (g1.symm.trans g2)
              subst ecA
              have hao := fv_ad_ok ad q1 hnS
              have epush := fv_w_push (ad := ad) (ad' := fv_ad ad sh.length q1) (tc := tc) (M := M) (M' := fv_new M sh.length) (x := .inl (2, n.toNatClampNeg)) hao hbC (fv_new_ne M _)
              have eq1 : fv_ad ad sh.length q1 sh.length = q1 := if_pos rfl
              rw [fv_ce_row, fv_new_at, eq1] at epush
              have := K (fv_ad ad sh.length q1) H1 locs (cells + 1) (slots + n.toNatClampNeg) lsA ⟨hao, fun z => absurd z (by omega), by rw [List.length_append]; exact Nat.le_add_right _ _, Nat.sub_le _ _⟩ ⟨fv_lv_sub hl (fv_lv_eq hao hbL), hw, by rw [epush]; exact hP1, by rw [epush]; exact hD1, hS1, by dsimp only; omega, by dsimp only; omega, by rw [hao _ (Or.inr (Nat.le_refl _))]; exact hbS, by rw [hao _ (Or.inr (by decide))]; exact hbT⟩
              dsimp only at this
              rw [List.map_cons, fv_map_eq hao hbV] at this
              simp only [fv_cv, eq1] at this
              exact this)
          | _ => cases hat
        · cases h
      · cases h
  | anewarray ci =>
      dsimp only at h
      dsimp only [fv_rk] at hk
      cases raw with
      | anewarray i =>
        simp only [fv_npc, Bool.and_eq_true, decide_eq_true_eq] at hk
        obtain ⟨hu, rfl⟩ := hk
        rw [Nat.add_sub_cancel_left] at hd
        obtain ⟨ix, hq⟩ := fv_mem3 (by simpa only [Bool.and_eq_true, decide_eq_true_eq] using hu)
        have h3 := List.all_eq_true.mp fv_NS_ok _ hq
        simp only [Bool.and_eq_true, decide_eq_true_eq] at h3
        split at h
        · rename_i n st1
          split at h
          · rename_i hcnd
            obtain ⟨rfl, h0, hk1, hk2, hk3, hnS, hbL, hbV, hbC⟩ := hcnd
            cases h
            refine va_newq hx hb hown (hts _ (fv_GL_in h3.1 rfl)) hAO hK hP hD hS hA h0 rfl (by omega) (by omega) (by omega) hd (fun q1 cA H1 hK1 hP1 hD1 hS1 => ?_)
            have ecA : cA = tc 103 := by
              obtain ⟨_, _, _, _, _, g1⟩ := (hK1.2 4 (cA, .object (fv_RN 3)) rfl).2
              obtain ⟨_, _, _, _, _, g2⟩ := (hK.2 3 (tc 103, .object (fv_RN 3)) rfl).2
              exact Option.some.inj (g1.symm.trans g2)
            subst ecA
            have efn : (fun j : Nat => fv_ro (fv_ad ad sh.length q1) (List.replicate n.toNatClampNeg (some Value.null))[j]?) = fun _ => none := by
              funext j
              rw [List.getElem?_replicate]
              split <;> rfl
            have hao := fv_ad_ok ad q1 hnS
            have epush := fv_w_push (ad := ad) (ad' := fv_ad ad sh.length q1) (tc := tc) (M := M) (M' := M) (x := .inr (103, List.replicate n.toNatClampNeg (some .null))) hao hbC (fun _ _ => rfl)
            have eq1 : fv_ad ad sh.length q1 sh.length = q1 := if_pos rfl
            rw [fv_ce_objs, List.length_replicate, efn, eq1] at epush
            have := K (fv_ad ad sh.length q1) H1 locs (cells + 1) (slots + n.toNatClampNeg) lsA ⟨hao, fun z => absurd z (by omega), by rw [List.length_append]; exact Nat.le_add_right _ _, Nat.sub_le _ _⟩ ⟨fv_lv_sub hl (fv_lv_eq hao hbL), hw, by rw [epush]; exact hP1, by rw [epush]; exact hD1, hS1, by dsimp only; omega, by dsimp only; omega, by rw [hao _ (Or.inr (Nat.le_refl _))]; exact hbS, by rw [hao _ (Or.inr (by decide))]; exact hbT⟩
            dsimp only at this
            rw [List.map_cons, fv_map_eq hao hbV] at this
            simp only [fv_cv, eq1] at this
            exact this
          · cases h
        · cases h
      | _ => exact (Bool.false_ne_true hk).elim
  | nop =>
      dsimp only at h
      dsimp only [fv_rk] at hk
      cases raw with
      | invokespecial i =>
        simp only [fv_npc, Bool.and_eq_true, decide_eq_true_eq] at hk
        obtain ⟨hu, rfl, hlo, hfr⟩ := hk
        rw [Nat.add_sub_cancel_left] at hd
        obtain ⟨⟨q1, q2, q3⟩, hq, hu⟩ := List.any_eq_true.mp hu
        simp only [Bool.and_eq_true, decide_eq_true_eq] at hu
        obtain ⟨rfl, rfl⟩ := hu
        have h3 := List.all_eq_true.mp fv_OS_ok _ hq
        simp only [decide_eq_true_eq] at h3
        split at h
        · rename_i c0 st1
          split at h
          · rename_i hc8
            cases h
            have h8 : 2 * (F0 m pc lsA (.ref (ad c0) :: st1.map (fv_cv ad))).monitorRoom + ((st1.map (fv_cv ad)).map fun v => v.category).sum ≤ 8 := fv_room8 (by rw [fv_cs_map]; exact hc8)
            refine W.objInit hx hb hown (hts _ (fv_GL_in h3 rfl)) (hts _ fv_oi_in) (hts _ fv_oi_co) (g := F0 m pc lsA (.ref (ad c0) :: st1.map (fv_cv ad))) rfl (by rw [hml]; exact hl.1) rfl hd (by omega) (by omega) ?_
            exact W.eq rfl (K _ _ _ _ _ _ fv_agr.rf Dn)
          · cases h
        · cases h
      | _ => exact (Bool.false_ne_true hk).elim
  | dadd =>
      dsimp only at h
      dsimp only [fv_rk] at hk
      cases raw with
      | invokestatic i =>
        simp only [fv_npc, Bool.and_eq_true, decide_eq_true_eq] at hk
        obtain ⟨hu, rfl, hlo, hfr⟩ := hk
        rw [Nat.add_sub_cancel_left] at hd
        obtain ⟨ix, hq⟩ := fv_mem3 (by simpa only [Bool.and_eq_true, decide_eq_true_eq] using hu)
        have h3 := List.all_eq_true.mp fv_AS_ok _ hq
        simp only [Bool.and_eq_true, decide_eq_true_eq] at h3
        split at h
        · rename_i b a st1
          split at h
          · rename_i hc8
            cases h
            have h8 : ((st1.map (fv_cv ad)).map fun v => v.category).sum ≤ 8 := by rw [fv_cs_map]; exact hc8
            exact va_mmax hx hb (by rw [hml]; exact hl.1.symm) hown (hts _ (fv_GL_in h3.1 rfl)) (hts _ fv_max_st) (hts _ fv_math_in) (hts _ fv_max_co) (by omega) (by omega) (by omega) (by omega) hd (K _ _ _ _ _ _ fv_agr.rf Dn)
          · cases h
        · cases h
      | _ => exact (Bool.false_ne_true hk).elim
  | dsub =>
      dsimp only at h
      dsimp only [fv_rk] at hk
      cases raw with
      | invokestatic i =>
        simp only [fv_npc, Bool.and_eq_true, decide_eq_true_eq] at hk
        obtain ⟨hu, rfl, hlo, hfr⟩ := hk
        rw [Nat.add_sub_cancel_left] at hd
        obtain ⟨ix, hq⟩ := fv_mem3 (by simpa only [Bool.and_eq_true, decide_eq_true_eq] using hu)
        have h3 := List.all_eq_true.mp fv_AS_ok _ hq
        simp only [Bool.and_eq_true, decide_eq_true_eq] at h3
        split at h
        · rename_i b a st1
          split at h
          · rename_i hc8
            cases h
            have h8 : ((st1.map (fv_cv ad)).map fun v => v.category).sum ≤ 8 := by rw [fv_cs_map]; exact hc8
            exact va_mmin hx hb (by rw [hml]; exact hl.1.symm) hown (hts _ (fv_GL_in h3.1 rfl)) (hts _ fv_min_st) (hts _ fv_math_in) (hts _ fv_min_co) (by omega) (by omega) (by omega) (by omega) hd (K _ _ _ _ _ _ fv_agr.rf Dn)
          · cases h
        · cases h
      | _ => exact (Bool.false_ne_true hk).elim
  | monitorenter =>
      dsimp only at h
      simp only [fv_rk, fv_npc, Bool.and_eq_true, decide_eq_true_eq] at hk
      obtain ⟨rfl, rfl⟩ := hk
      rw [Nat.add_sub_cancel_left] at hd
      split at h
      · rename_i c0 st1
        split at h
        · rename_i hcc
          obtain ⟨rfl, hyx, hc8⟩ := hcc
          cases h
          have h8 : ((st1.map (fv_cv ad)).map fun v => v.category).sum ≤ 8 := by rw [fv_cs_map]; exact hc8
          show W p l e R s m args below meth c H locs cells slots Q (F0 m pc lsA (.ref (ad fv_STR) :: st1.map (fv_cv ad)))
          rw [hbT]
          exact ((hstr hyx).2 Q H locs cells slots pc lsA _ hS (by rw [hml]; exact hl.1) (by omega) (by omega) h8).1 (by rw [hb]; exact hd) (fun locs' hS' => K _ _ _ _ _ _ fv_agr.rf ⟨hl, hw, hP, hD, hS', hkc, hks, hbS, hbT⟩)
        · cases h
      · cases h
  | monitorexit =>
      dsimp only at h
      simp only [fv_rk, fv_npc, Bool.and_eq_true, decide_eq_true_eq] at hk
      obtain ⟨rfl, rfl⟩ := hk
      rw [Nat.add_sub_cancel_left] at hd
      split at h
      · rename_i j c0 st1
        split at h
        · rename_i hcc
          obtain ⟨rfl, hyx, hc8, hin⟩ := hcc
          cases h
          have h8 : ((st1.map (fv_cv ad)).map fun v => v.category).sum ≤ 8 := by rw [fv_cs_map]; exact hc8
          show W p l e R s m args below meth c H locs cells slots Q (F0 m pc lsA (.int j :: .ref (ad fv_STR) :: st1.map (fv_cv ad)))
          rw [hbT]
          exact ((hstr hyx).2 Q H locs cells slots pc lsA _ hS (by rw [hml]; exact hl.1) (by omega) (by omega) h8).2 j hin (by rw [hb]; exact hd) (fun locs' hS' => K _ _ _ _ _ _ fv_agr.rf ⟨hl, hw, hP, hD, hS', hkc, hks, hbS, hbT⟩)
        · cases h
      · cases h
  | invokestatic z => dsimp only at h; split at h <;> cases h
  | ireturn =>
      dsimp only at h
      split at h
      · split at h <;> cases h
      · cases h
  | return_ =>
      dsimp only at h
      split at h
      · split at h <;> cases h
      · cases h
  | _ => cases hh
theorem fv_step {pc : Nat} {ls : fv_Sl} {st : List Value} {k : Nat × Nat} {sh : fv_Sh} {M : fv_M} {q : Nat × fv_Sl × List Value × (Nat × Nat) × fv_Sh × fv_M} {ad : Nat → Nat} {H : Heap} {locs : List Loc} {cells slots : Nat} {lsA : Array Slot}
    (S : fv_St X bS p R s m args meth c y D tc A mc ms) (hstr : y = fv_XI → fv_strL p l e R s m args below meth c bT ∧ fv_strR p l e R s m args below meth c A bT) (Dn : fv_Dy bS bT s y D tc A mc ms ls k sh M ad H locs cells slots lsA) (h : fv_nx X y pc ls st k sh M = some (.inl q)) (K : fv_K X bS bT p l e R s m args below meth c Q y D tc A mc ms ad k sh q) : W p l e R s m args below meth c H locs cells slots Q (F0 m pc lsA (st.map (fv_cv ad))) := by
  cases hlk : fv_lk y pc with
  | none =>
    unfold fv_nx at h
    rw [hlk] at h
    cases h
  | some x =>
    obtain ⟨i, np⟩ := x
    cases hh : fv_heapI i with
    | false => exact fv_step1 S hstr Dn hlk hh h K
    | true => exact fv_step2 S hstr Dn hlk hh h K
end
end
section
/-! what the text is: one String constant, of bytes alone -/
def fv_TXS : String := "v0,2;v1,0;v2,3;v3,1;n3;n6;n13;n9;n4;t7;t25;s0,0,4;s0,2,2;s1,1,3;s1,3,5;s1,0,1;w0,0,4;w0,2,6;w1,3,5;w0,1,2;w1,0,7;"
def fv_byt : List Int32 := [118, 48, 44, 50, 59, 118, 49, 44, 48, 59, 118, 50, 44, 51, 59, 118, 51, 44, 49, 59, 110, 51, 59, 110, 54, 59, 110, 49, 51, 59, 110, 57, 59, 110, 52, 59, 116, 55, 59, 116, 50, 53, 59, 115, 48, 44, 48, 44, 52, 59, 115, 48, 44, 50, 44, 50, 59, 115, 49, 44, 49, 44, 51, 59, 115, 49, 44, 51, 44, 53, 59, 115, 49, 44, 48, 44, 49, 59, 119, 48, 44, 48, 44, 52, 59, 119, 48, 44, 50, 44, 54, 59, 119, 49, 44, 51, 44, 53, 59, 119, 48, 44, 49, 44, 50, 59, 119, 49, 44, 48, 44, 55, 59]
def fv_strP (bT : Nat) (A : Nat → Prop) (U : State) (H : Heap) : Prop := vk_R "FamineOfVerbs" 55 fv_TXS bT U ∧ ∃ adK adV : Nat → Nat, adK 0 = bT ∧ vk_S 1 [fv_TXT.length] [fv_byt] adK adV A U H ∧ va_Z "java/lang/String" "COMPACT_STRINGS" "Z" (.int 1) A U H ∧ va_Zq "jdk/internal/util/Preconditions" "SIOOBE_FORMATTER" "Ljava/util/function/BiFunction;" A U H
theorem fv_strP.go {bT : Nat} {A B : Nat → Prop} {s U : State} {H0 H : Heap} (hW : s.WarmedH U.vm) (hq : ∀ a : Nat, a < H0.size → ¬ A a → H[a]? = H0[a]?) (hAB : ∀ q, B q → A q) (h : fv_strP bT A s H0) : fv_strP bT B U H := by
  obtain ⟨h1, adK, adV, h2, h3, h4, h5⟩ := h
  exact ⟨vk_R.warm hW h1, adK, adV, h2, ((h3.moved hW.alike).kept hq).narrow hAB, ((h4.moved hW.alike).kept hq).narrow hAB, ((h5.moved hW.alike).kept hq).narrow hAB⟩
theorem fv_strP.same {bT : Nat} {A : Nat → Prop} {s U : State} {H : Heap} (hv : U.vm = s.vm) (h : fv_strP bT A s H) : fv_strP bT A U H := by
  obtain ⟨h1, adK, adV, h2, h3, h4, h5⟩ := h
  have ha : s.vm.Alike U.vm := by rw [hv]; exact Vm.Alike.refl _
  exact ⟨vk_R.same hv h1, adK, adV, h2, h3.moved ha, h4.moved ha, h5.moved ha⟩
def ft_ypc : MethodName := ⟨"jdk/internal/util/Preconditions", "checkIndex", "(IILjava/util/function/BiFunction;)I"⟩
def ft_rpc : Room := { frames := 0, cells := 0, slots := 0, locals := 0 }
set_option maxRecDepth 100000 in
theorem ft_cpc : Cond.code ft_ypc prog_14_method_11_code 3 (some .int) ∈ fv_GL := fv_GL_in (i := 252) rfl rfl
theorem ft_ipc : Cond.initialized "jdk/internal/util/Preconditions" ∈ fv_GL := fv_GL_in (i := 59) (by decide +kernel) rfl
theorem ft_spc : Cond.static ft_ypc ∈ fv_GL := fv_GL_in (i := 251) (by decide +kernel) rfl
def ft_ysc : MethodName := ⟨"java/lang/String", "checkIndex", "(II)V"⟩
def ft_rsc : Room := { frames := 1, cells := 0, slots := 0, locals := 22 }
set_option maxRecDepth 100000 in
theorem ft_csc : Cond.code ft_ysc prog_11_method_155_code 2 (none) ∈ fv_GL := fv_GL_in (i := 247) rfl rfl
theorem ft_isc : Cond.initialized "java/lang/String" ∈ fv_GL := fv_GL_in (i := 57) (by decide +kernel) rfl
theorem ft_ssc : Cond.static ft_ysc ∈ fv_GL := fv_GL_in (i := 246) (by decide +kernel) rfl
def ft_ylc : MethodName := ⟨"java/lang/StringLatin1", "charAt", "([BI)C"⟩
def ft_rlc : Room := { frames := 2, cells := 0, slots := 0, locals := 43 }
set_option maxRecDepth 100000 in
theorem ft_clc : Cond.code ft_ylc prog_12_method_2_code 2 (some .char) ∈ fv_GL := fv_GL_in (i := 244) rfl rfl
theorem ft_ilc : Cond.initialized "java/lang/StringLatin1" ∈ fv_GL := fv_GL_in (i := 58) (by decide +kernel) rfl
theorem ft_slc : Cond.static ft_ylc ∈ fv_GL := fv_GL_in (i := 243) (by decide +kernel) rfl
def ft_yil : MethodName := ⟨"java/lang/String", "isLatin1", "()Z"⟩
def ft_ril : Room := { frames := 0, cells := 0, slots := 0, locals := 0 }
set_option maxRecDepth 100000 in
theorem ft_cil : Cond.code ft_yil prog_11_method_154_code 1 (some .boolean) ∈ fv_GL := fv_GL_in (i := 241) rfl rfl
theorem ft_iil : Cond.initialized "java/lang/String" ∈ fv_GL := fv_GL_in (i := 57) (by decide +kernel) rfl
theorem ft_sil : Cond.instanceMethod ft_yil ∈ fv_GL := fv_GL_in (i := 239) (by decide +kernel) rfl
theorem ft_vil : Cond.selects "java/lang/String" ft_yil ft_yil ∈ fv_GL := fv_GL_in (i := 240) (by decide +kernel) rfl
def ft_yco : MethodName := ⟨"java/lang/String", "coder", "()B"⟩
def ft_rco : Room := { frames := 0, cells := 0, slots := 0, locals := 0 }
set_option maxRecDepth 100000 in
theorem ft_cco : Cond.code ft_yco prog_11_method_152_code 1 (some .byte) ∈ fv_GL := fv_GL_in (i := 231) rfl rfl
theorem ft_ico : Cond.initialized "java/lang/String" ∈ fv_GL := fv_GL_in (i := 57) (by decide +kernel) rfl
theorem ft_sco : Cond.instanceMethod ft_yco ∈ fv_GL := fv_GL_in (i := 229) (by decide +kernel) rfl
theorem ft_vco : Cond.selects "java/lang/String" ft_yco ft_yco ∈ fv_GL := fv_GL_in (i := 230) (by decide +kernel) rfl
def ft_yca : MethodName := ⟨"java/lang/String", "charAt", "(I)C"⟩
def ft_rca : Room := { frames := 3, cells := 0, slots := 0, locals := 64 }
set_option maxRecDepth 100000 in
theorem ft_cca : Cond.code ft_yca prog_11_method_56_code 2 (some .char) ∈ fv_GL := fv_GL_in (i := 237) rfl rfl
theorem ft_ica : Cond.initialized "java/lang/String" ∈ fv_GL := fv_GL_in (i := 57) (by decide +kernel) rfl
theorem ft_sca : Cond.instanceMethod ft_yca ∈ fv_GL := fv_GL_in (i := 235) (by decide +kernel) rfl
theorem ft_vca : Cond.selects "java/lang/String" ft_yca ft_yca ∈ fv_GL := fv_GL_in (i := 236) (by decide +kernel) rfl
def ft_yle : MethodName := ⟨"java/lang/String", "length", "()I"⟩
def ft_rle : Room := { frames := 1, cells := 0, slots := 0, locals := 20 }
set_option maxRecDepth 100000 in
theorem ft_cle : Cond.code ft_yle prog_11_method_54_code 1 (some .int) ∈ fv_GL := fv_GL_in (i := 227) rfl rfl
theorem ft_ile : Cond.initialized "java/lang/String" ∈ fv_GL := fv_GL_in (i := 57) (by decide +kernel) rfl
theorem ft_sle : Cond.instanceMethod ft_yle ∈ fv_GL := fv_GL_in (i := 225) (by decide +kernel) rfl
theorem ft_vle : Cond.selects "java/lang/String" ft_yle ft_yle ∈ fv_GL := fv_GL_in (i := 226) (by decide +kernel) rfl
theorem ft_la : Cond.methodLink "java/lang/String" 1059 ft_ypc ∈ fv_GL := fv_GL_in (i := 250) (by decide +kernel) rfl
theorem ft_lb : Cond.methodLink "java/lang/StringLatin1" 9 ft_ysc ∈ fv_GL := fv_GL_in (i := 245) (by decide +kernel) rfl
theorem ft_lc : Cond.methodLink "java/lang/String" 495 ft_ylc ∈ fv_GL := fv_GL_in (i := 242) (by decide +kernel) rfl
theorem ft_ld : Cond.methodLink "java/lang/String" 492 ft_yil ∈ fv_GL := fv_GL_in (i := 238) (by decide +kernel) rfl
theorem ft_le : Cond.methodLink "java/lang/String" 335 ft_yco ∈ fv_GL := fv_GL_in (i := 228) (by decide +kernel) rfl
theorem ft_lf : Cond.methodLink "FamineOfVerbs" 63 ft_yca ∈ fv_GL := fv_GL_in (i := 234) (by decide +kernel) rfl
theorem ft_lg : Cond.methodLink "FamineOfVerbs" 57 ft_yle ∈ fv_GL := fv_GL_in (i := 224) (by decide +kernel) rfl
theorem ft_fv : Cond.fieldLink "java/lang/String" 9 "java/lang/String" "value" "[B" ∈ fv_GL := fv_GL_in (i := 1069) (by decide +kernel) rfl
theorem ft_fo : Cond.fieldLink "java/lang/String" 15 "java/lang/String" "coder" "B" ∈ fv_GL := fv_GL_in (i := 1070) (by decide +kernel) rfl
theorem ft_fz : Cond.fieldLink "java/lang/String" 38 "java/lang/String" "COMPACT_STRINGS" "Z" ∈ fv_GL := fv_GL_in (i := 232) (by decide +kernel) rfl
theorem ft_fq : Cond.fieldLink "java/lang/String" 1053 "jdk/internal/util/Preconditions" "SIOOBE_FORMATTER" "Ljava/util/function/BiFunction;" ∈ fv_GL := fv_GL_in (i := 248) (by decide +kernel) rfl
theorem ft_dpc_0 : decode prog_14_method_11_code 0 = .ok (.iload_n 0, 1) := by decide +kernel
theorem ft_dpc_1 : decode prog_14_method_11_code 1 = .ok (.ifCond .lt 8, 3) := by decide +kernel
theorem ft_dpc_4 : decode prog_14_method_11_code 4 = .ok (.iload_n 0, 1) := by decide +kernel
theorem ft_dpc_5 : decode prog_14_method_11_code 5 = .ok (.iload_n 1, 1) := by decide +kernel
theorem ft_dpc_6 : decode prog_14_method_11_code 6 = .ok (.if_icmp .lt 10, 3) := by decide +kernel
theorem ft_dpc_16 : decode prog_14_method_11_code 16 = .ok (.iload_n 0, 1) := by decide +kernel
theorem ft_dpc_17 : decode prog_14_method_11_code 17 = .ok (.ireturn, 1) := by decide +kernel
theorem ft_dsc_0 : decode prog_11_method_155_code 0 = .ok (.iload_n 0, 1) := by decide +kernel
theorem ft_dsc_1 : decode prog_11_method_155_code 1 = .ok (.iload_n 1, 1) := by decide +kernel
theorem ft_dsc_2 : decode prog_11_method_155_code 2 = .ok (.getstatic 1053, 3) := by decide +kernel
theorem ft_dsc_5 : decode prog_11_method_155_code 5 = .ok (.invokestatic 1059, 3) := by decide +kernel
theorem ft_dsc_8 : decode prog_11_method_155_code 8 = .ok (.pop, 1) := by decide +kernel
theorem ft_dsc_9 : decode prog_11_method_155_code 9 = .ok (.return_, 1) := by decide +kernel
theorem ft_dlc_0 : decode prog_12_method_2_code 0 = .ok (.iload_n 1, 1) := by decide +kernel
theorem ft_dlc_1 : decode prog_12_method_2_code 1 = .ok (.aload_n 0, 1) := by decide +kernel
theorem ft_dlc_2 : decode prog_12_method_2_code 2 = .ok (.arraylength, 1) := by decide +kernel
theorem ft_dlc_3 : decode prog_12_method_2_code 3 = .ok (.invokestatic 9, 3) := by decide +kernel
theorem ft_dlc_6 : decode prog_12_method_2_code 6 = .ok (.aload_n 0, 1) := by decide +kernel
theorem ft_dlc_7 : decode prog_12_method_2_code 7 = .ok (.iload_n 1, 1) := by decide +kernel
theorem ft_dlc_8 : decode prog_12_method_2_code 8 = .ok (.baload, 1) := by decide +kernel
theorem ft_dlc_9 : decode prog_12_method_2_code 9 = .ok (.sipush 255, 3) := by decide +kernel
theorem ft_dlc_12 : decode prog_12_method_2_code 12 = .ok (.iand, 1) := by decide +kernel
theorem ft_dlc_13 : decode prog_12_method_2_code 13 = .ok (.i2c, 1) := by decide +kernel
theorem ft_dlc_14 : decode prog_12_method_2_code 14 = .ok (.ireturn, 1) := by decide +kernel
theorem ft_dil_0 : decode prog_11_method_154_code 0 = .ok (.getstatic 38, 3) := by decide +kernel
theorem ft_dil_3 : decode prog_11_method_154_code 3 = .ok (.ifCond .eq 14, 3) := by decide +kernel
theorem ft_dil_6 : decode prog_11_method_154_code 6 = .ok (.aload_n 0, 1) := by decide +kernel
theorem ft_dil_7 : decode prog_11_method_154_code 7 = .ok (.getfield 15, 3) := by decide +kernel
theorem ft_dil_10 : decode prog_11_method_154_code 10 = .ok (.ifCond .ne 7, 3) := by decide +kernel
theorem ft_dil_13 : decode prog_11_method_154_code 13 = .ok (.iconst 1, 1) := by decide +kernel
theorem ft_dil_14 : decode prog_11_method_154_code 14 = .ok (.goto 4, 3) := by decide +kernel
theorem ft_dil_17 : decode prog_11_method_154_code 17 = .ok (.iconst 0, 1) := by decide +kernel
theorem ft_dil_18 : decode prog_11_method_154_code 18 = .ok (.ireturn, 1) := by decide +kernel
theorem ft_dco_0 : decode prog_11_method_152_code 0 = .ok (.getstatic 38, 3) := by decide +kernel
theorem ft_dco_3 : decode prog_11_method_152_code 3 = .ok (.ifCond .eq 10, 3) := by decide +kernel
theorem ft_dco_6 : decode prog_11_method_152_code 6 = .ok (.aload_n 0, 1) := by decide +kernel
theorem ft_dco_7 : decode prog_11_method_152_code 7 = .ok (.getfield 15, 3) := by decide +kernel
theorem ft_dco_10 : decode prog_11_method_152_code 10 = .ok (.goto 4, 3) := by decide +kernel
theorem ft_dco_13 : decode prog_11_method_152_code 13 = .ok (.iconst 1, 1) := by decide +kernel
theorem ft_dco_14 : decode prog_11_method_152_code 14 = .ok (.ireturn, 1) := by decide +kernel
theorem ft_dca_0 : decode prog_11_method_56_code 0 = .ok (.aload_n 0, 1) := by decide +kernel
theorem ft_dca_1 : decode prog_11_method_56_code 1 = .ok (.invokevirtual 492, 3) := by decide +kernel
theorem ft_dca_4 : decode prog_11_method_56_code 4 = .ok (.ifCond .eq 12, 3) := by decide +kernel
theorem ft_dca_7 : decode prog_11_method_56_code 7 = .ok (.aload_n 0, 1) := by decide +kernel
theorem ft_dca_8 : decode prog_11_method_56_code 8 = .ok (.getfield 9, 3) := by decide +kernel
theorem ft_dca_11 : decode prog_11_method_56_code 11 = .ok (.iload_n 1, 1) := by decide +kernel
theorem ft_dca_12 : decode prog_11_method_56_code 12 = .ok (.invokestatic 495, 3) := by decide +kernel
theorem ft_dca_15 : decode prog_11_method_56_code 15 = .ok (.ireturn, 1) := by decide +kernel
theorem ft_dca_16 : decode prog_11_method_56_code 16 = .ok (.aload_n 0, 1) := by decide +kernel
theorem ft_dca_17 : decode prog_11_method_56_code 17 = .ok (.getfield 9, 3) := by decide +kernel
theorem ft_dca_20 : decode prog_11_method_56_code 20 = .ok (.iload_n 1, 1) := by decide +kernel
theorem ft_dca_21 : decode prog_11_method_56_code 21 = .ok (.invokestatic 498, 3) := by decide +kernel
theorem ft_dca_24 : decode prog_11_method_56_code 24 = .ok (.ireturn, 1) := by decide +kernel
theorem ft_dle_0 : decode prog_11_method_54_code 0 = .ok (.aload_n 0, 1) := by decide +kernel
theorem ft_dle_1 : decode prog_11_method_54_code 1 = .ok (.getfield 9, 3) := by decide +kernel
theorem ft_dle_4 : decode prog_11_method_54_code 4 = .ok (.arraylength, 1) := by decide +kernel
theorem ft_dle_5 : decode prog_11_method_54_code 5 = .ok (.aload_n 0, 1) := by decide +kernel
theorem ft_dle_6 : decode prog_11_method_54_code 6 = .ok (.invokevirtual 335, 3) := by decide +kernel
theorem ft_dle_9 : decode prog_11_method_54_code 9 = .ok (.ishr, 1) := by decide +kernel
theorem ft_dle_10 : decode prog_11_method_54_code 10 = .ok (.ireturn, 1) := by decide +kernel
def ft_T (bT tV : Nat) (A : Nat → Prop) (U : State) (H : Heap) : Prop := va_O "java/lang/String" bT A U H ∧ va_OF "java/lang/String" "coder" "B" (.int 0) bT A U H ∧ va_OF "java/lang/String" "value" "[B" (.ref tV) bT A U H ∧ va_T .byte tV fv_TXT.length (fun j => .int (fv_byt.getD j 0)) A U H ∧ va_Z "java/lang/String" "COMPACT_STRINGS" "Z" (.int 1) A U H ∧ va_Zq "jdk/internal/util/Preconditions" "SIOOBE_FORMATTER" "Ljava/util/function/BiFunction;" A U H
theorem ft_T.moved {bT tV : Nat} {A : Nat → Prop} {u U : State} {H : Heap} (hvm : u.vm.Alike U.vm) (h : ft_T bT tV A u H) : ft_T bT tV A U H :=
  ⟨h.1.moved hvm, h.2.1.moved hvm, h.2.2.1.moved hvm, h.2.2.2.1.moved hvm, h.2.2.2.2.1.moved hvm, h.2.2.2.2.2.moved hvm⟩
theorem ft_T.kept {bT tV : Nat} {A : Nat → Prop} {U : State} {H H1 : Heap} (hq : ∀ a : Nat, a < H.size → ¬ A a → H1[a]? = H[a]?) (h : ft_T bT tV A U H) : ft_T bT tV A U H1 :=
  ⟨h.1.kept hq, h.2.1.kept hq, h.2.2.1.kept hq, h.2.2.2.1.kept hq, h.2.2.2.2.1.kept hq, h.2.2.2.2.2.kept hq⟩
theorem ft_met {l : Launch} {y : MethodName} {cc : ByteArray} {maxL : Nat} {ret : Option FieldType} {rm : Room} {av : List Value} {B : State → Prop} {Qc : Array Value → State → Outcome → State → Prop} {own : String} (hown : y.cls = own) (hy : Jvm.plainName y.cls = true) (hlen : (lg_sl av).length ≤ maxL)
    (body : ∀ (p : Program) (e : Env) (s : State) (m : MethodId) (below : List Frame) (meth : Method) (c : Code), p.tables.exec = Jvm.exec → c.code = cc → c.maxLocals = maxL → meth.sig.returnType = ret → meth.locks = false → s.vm.findClass own = some m.cls → (∀ w ∈ fv_GL, w.before av.toArray s = true) → B s → ∀ ls : Array Slot, lv_has ls maxL (lv_args 0 av) → W p l e rm s m av.toArray below meth c s.heap [] 0 0 (MQ below Qc av.toArray s 0 0 (fun _ => False)) (F0 m 0 ls [])) :
    Met l y (Cond.code y cc maxL ret :: fv_GL) rm (va_Pc av B) Qc 0 0 (fun _ => False) := by
  refine Met.ofW (cc := cc) (maxL := maxL) (ret := ret) hy rfl ?_
  intro p e s m args below meth c s₁ Bo hml hv
  obtain ⟨rfl, hB⟩ := hv
  have hl := lv_entry av (n := maxL) hlen
  rw [lg_entry_eq]
  exact body p e s m below meth c Bo.exec Bo.bytes hml Bo.returns Bo.notSynchronized (by rw [← hown]; exact findClass_of_methodNamed Bo.named) (fun w hw => atoms_spec (ws := Cond.code y cc maxL ret :: fv_GL) Bo.pre w (List.mem_cons_of_mem _ hw)) hB _ hl
theorem ft_gw {y : MethodName} {cc : ByteArray} {maxL : Nat} {ret : Option FieldType} (h : Cond.code y cc maxL ret ∈ fv_GL) : ∀ w ∈ (Cond.code y cc maxL ret :: fv_GL), w ∈ fv_GL := fun w hw => by
  rcases List.mem_cons.mp hw with rfl | hw
  · exact h
  · exact hw
theorem ft_gS {own : String} {idx : Nat} {y : MethodName} {cc : ByteArray} {maxL : Nat} {ret : Option FieldType} (h : Cond.code y cc maxL ret ∈ fv_GL) (h1 : Cond.methodLink own idx y ∈ fv_GL) (h2 : Cond.static y ∈ fv_GL) (h3 : Cond.initialized y.cls ∈ fv_GL) : GoodIn fv_GL (va_wsS own idx y (Cond.code y cc maxL ret :: fv_GL)) := fv_good (fun w hw => by
  unfold va_wsS at hw
  rcases List.mem_append.mp hw with hw | hw
  · rcases List.mem_cons.mp hw with rfl | hw
    · exact h1
    · rcases List.mem_cons.mp hw with rfl | hw
      · exact h2
      · rw [List.mem_singleton.mp hw]; exact h3
  · exact ft_gw h w hw)
theorem ft_gV {own : String} {idx : Nat} {C : String} {y : MethodName} {cc : ByteArray} {maxL : Nat} {ret : Option FieldType} (h : Cond.code y cc maxL ret ∈ fv_GL) (h1 : Cond.methodLink own idx y ∈ fv_GL) (h2 : Cond.instanceMethod y ∈ fv_GL) (h3 : Cond.selects C y y ∈ fv_GL) (h4 : Cond.initialized C ∈ fv_GL) : GoodIn fv_GL (wsV own idx C y (Cond.code y cc maxL ret :: fv_GL)) := fv_good (fun w hw => by
  unfold wsV at hw
  rcases List.mem_append.mp hw with hw | hw
  · rcases List.mem_cons.mp hw with rfl | hw
    · exact h1
    · rcases List.mem_cons.mp hw with rfl | hw
      · exact h2
      · rcases List.mem_cons.mp hw with rfl | hw
        · exact h3
        · rw [List.mem_singleton.mp hw]; exact h4
  · exact ft_gw h w hw)
theorem ft_blind {bT tV : Nat} {A : Nat → Prop} {av : List Value} : FrameBlind (va_Pc av (fun U => ft_T bT tV A U U.heap)) := fun a U g mk h => ⟨h.1, h.2.moved (u := U) (U := U.calling g mk a) (Vm.Alike.refl U.vm)⟩
theorem ft_blindT {av : List Value} : FrameBlind (va_Pc av (fun _ => True)) := fun a U g mk h => ⟨h.1, trivial⟩
set_option maxHeartbeats 4000000 in
theorem ft_mpc (l : Launch) (j n : Int32) (o : Option Nat) (h0 : ¬ j < 0) (h1 : j < n) : Met l ft_ypc (Cond.code ft_ypc prog_14_method_11_code 3 (some .int) :: fv_GL) ft_rpc (va_Pc [.int j, .int n, va_rf o] (fun _ => True)) (vp_Si (fun r => r = j)) 0 0 (fun _ => False) := by
  refine ft_met (own := "jdk/internal/util/Preconditions") rfl (by decide) (by cases o <;> exact Nat.le_of_ble_eq_true rfl) ?_
  intro p e s m below meth c hx hb hml hr hlocks hown hts hB ls hl
  have hl : lv_has ls 3 [(0, .int j), (1, .int n)] := fv_lv_sub hl (by cases o <;> (intro q hq; simp only [List.mem_cons, List.not_mem_nil, or_false] at hq; rcases hq with rfl | rfl <;> simp [lv_args, Value.category]))
  refine lv_iload_n hx hb ft_dpc_0 rfl (lv_at hl 0 rfl) ?_
  refine lv_if_lt (tgt := 9) hx hb ft_dpc_1 (by decide) (fun h => absurd h h0) (fun _ => ?_)
  refine lv_iload_n hx hb ft_dpc_4 rfl (lv_at hl 0 rfl) ?_
  refine lv_iload_n hx hb ft_dpc_5 rfl (lv_at hl 1 rfl) ?_
  refine lv_icmp_lt (tgt := 16) hx hb ft_dpc_6 (by decide) (fun _ => ?_) (fun h => absurd h1 h)
  refine lv_iload_n hx hb ft_dpc_16 rfl (lv_at hl 0 rfl) ?_
  exact W.zret (ty := .int) hx hb hr rfl (fun t ht _ => ⟨j, rfl, rfl, ht⟩) (fun _ h => by cases h) ft_dpc_17 hlocks
set_option maxHeartbeats 4000000 in
theorem ft_msc (l : Launch) (bT tV : Nat) (A : Nat → Prop) (j n : Int32) (h0 : ¬ j < 0) (h1 : j < n) : Met l ft_ysc (Cond.code ft_ysc prog_11_method_155_code 2 none :: fv_GL) ft_rsc (va_Pc [.int j, .int n] (fun U => ft_T bT tV A U U.heap)) (va_Sv (fun _ => True)) 0 0 (fun _ => False) := by
  refine ft_met (own := "java/lang/String") rfl (by decide) (Nat.le_of_ble_eq_true rfl) ?_
  intro p e s m below meth c hx hb hml hr hlocks hown hts hB ls hl
  have hl : lv_has ls 2 [(0, .int j), (1, .int n)] := hl
  obtain ⟨t1, t2, t3, t4, t5, t6⟩ := hB
  refine lv_iload_n hx hb ft_dsc_0 rfl (lv_at hl 0 rfl) ?_
  refine lv_iload_n hx hb ft_dsc_1 rfl (lv_at hl 1 rfl) ?_
  have go : ∀ o : Option Nat, W p l e ft_rsc s m ([Value.int j, .int n] : List Value).toArray below meth c s.heap [] 0 0 (MQ below (va_Sv (fun _ => True)) ([Value.int j, .int n] : List Value).toArray s 0 0 (fun _ => False)) (F0 m 5 ls [va_rf o, .int n, .int j]) := by
    intro o
    refine vp_callSi (rest := []) (W.runS (As := [.int j, .int n, va_rf o]) (Ts := fv_GL) (nL := 2) (own := "java/lang/String") ⟨hx, hb, hml, hown, hts⟩ (ft_mpc l j n o h0 h1) (va_cwS 3 hts (ft_gS ft_cpc ft_la ft_spc ft_ipc) rfl rfl rfl ⟨by decide, by decide, by decide +kernel⟩ ⟨Nat.le_of_ble_eq_true rfl, Nat.le_of_ble_eq_true rfl⟩) ⟨ft_blindT, fun U hU hW => ⟨rfl, trivial⟩⟩ rfl rfl hl.1 rfl (lv_room (Nat.le_of_ble_eq_true rfl)) ft_dsc_5 ⟨Nat.zero_le _, Nat.zero_le _⟩) (fun r hr2 => ?_)
    refine lv_pop hx hb ft_dsc_8 rfl ?_
    exact W.vret hx hb hr (fun t ht _ => ⟨rfl, trivial, ht⟩) (fun _ h => by cases h) ft_dsc_9 hlocks
  rcases t6 with t6 | ⟨t, t6⟩
  · refine va_gets hx hb t6 va_S.rf hown (hts _ ft_fq) (fun _ h => h) ft_dsc_2 ?_
    exact go none
  · refine va_gets hx hb t6 va_S.rf hown (hts _ ft_fq) (fun _ h => h) ft_dsc_2 ?_
    exact go (some t)
theorem ft_byte_all : fv_byt.all (fun b => decide (((b &&& 255).toUInt32 % 65536).toInt32 = b) && decide (narrow .char (.int b) = .int b)) = true := by decide +kernel
theorem ft_chr_all : (List.range fv_TXT.length).all (fun k => decide (fv_byt.getD k 0 = Int32.ofNat (fv_TXT.getD k 0))) = true := by decide +kernel
theorem ft_len : fv_TXT.length < 2 ^ 31 := by decide
set_option maxHeartbeats 4000000 in
theorem ft_mlc (l : Launch) (bT tV : Nat) (A : Nat → Prop) (j : Int32) (hj : ¬ (j < 0 ∨ fv_TXT.length ≤ j.toNatClampNeg)) : Met l ft_ylc (Cond.code ft_ylc prog_12_method_2_code 2 (some .char) :: fv_GL) ft_rlc (va_Pc [.ref tV, .int j] (fun U => ft_T bT tV A U U.heap)) (vp_Si (fun r => r = Int32.ofNat (fv_TXT.getD j.toNatClampNeg 0))) 0 0 (fun _ => False) := by
  refine ft_met (own := "java/lang/StringLatin1") rfl (by decide) (Nat.le_of_ble_eq_true rfl) ?_
  intro p e s m below meth c hx hb hml hr hlocks hown hts hB ls hl
  have hl : lv_has ls 2 [(0, .ref tV), (1, .int j)] := hl
  obtain ⟨t1, t2, t3, t4, t5, t6⟩ := id hB
  have h0 : ¬ j < 0 := fun h => hj (Or.inl h)
  have hlt : j.toNatClampNeg < fv_TXT.length := Nat.not_le.mp (fun h => hj (Or.inr h))
  have h1 : j < Int32.ofNat fv_TXT.length := by
    obtain ⟨q, hq, rfl⟩ := nI_of h0
    rw [nI_clamp hq] at hlt
    exact nI_lt hlt ft_len
  refine lv_iload_n hx hb ft_dlc_0 rfl (lv_at hl 1 rfl) ?_
  refine lv_aload_n hx hb ft_dlc_1 rfl (lv_at hl 0 rfl) ?_
  refine va_tlen hx hb t4 va_S.rf rfl ft_dlc_2 ?_
  refine va_csv (rest := []) (W.runS (As := [.int j, .int (Int32.ofNat fv_TXT.length)]) (Ts := fv_GL) (nL := 2) (own := "java/lang/StringLatin1") ⟨hx, hb, hml, hown, hts⟩ (ft_msc l bT tV A j _ h0 h1) (va_cwS 2 hts (ft_gS ft_csc ft_lb ft_ssc ft_isc) rfl rfl rfl ⟨by decide, by decide, by decide +kernel⟩ ⟨Nat.le_of_ble_eq_true rfl, Nat.le_of_ble_eq_true rfl⟩) ⟨ft_blind, fun U hU hW => ⟨rfl, by show ft_T _ _ _ U U.heap; rw [hU]; exact hB.moved hW.alike⟩⟩ rfl rfl hl.1 rfl (lv_room (Nat.le_of_ble_eq_true rfl)) ft_dlc_3 ⟨Nat.zero_le _, Nat.zero_le _⟩) (fun _ => ?_)
  refine lv_aload_n hx hb ft_dlc_6 rfl (lv_at hl 0 rfl) ?_
  refine lv_iload_n hx hb ft_dlc_7 rfl (lv_at hl 1 rfl) ?_
  refine va_tb hx hb t4 va_S.rf hj rfl ft_dlc_8 ?_
  refine lv_sipush (v := 255) hx hb ft_dlc_9 (by decide) ?_
  refine lv_iand hx hb ft_dlc_12 ?_
  refine lv_i2c hx hb ft_dlc_13 rfl ?_
  have hbl : j.toNatClampNeg < fv_byt.length := hlt
  have hm : fv_byt.getD j.toNatClampNeg 0 ∈ fv_byt := by
    rw [List.getD_eq_getElem?_getD, List.getElem?_eq_getElem hbl]
    exact List.getElem_mem hbl
  have hb1 := List.all_eq_true.mp ft_byte_all _ hm
  simp only [Bool.and_eq_true, decide_eq_true_eq] at hb1
  have hb2 := of_decide_eq_true (List.all_eq_true.mp ft_chr_all _ (List.mem_range.mpr hlt))
  rw [hb1.1]
  exact W.zret (ty := .char) hx hb hr hb1.2 (fun t ht _ => ⟨_, rfl, hb2, ht⟩) (fun _ h => by cases h) ft_dlc_14 hlocks
set_option maxHeartbeats 4000000 in
theorem ft_mil (l : Launch) (bT tV : Nat) (A : Nat → Prop) : Met l ft_yil (Cond.code ft_yil prog_11_method_154_code 1 (some .boolean) :: fv_GL) ft_ril (va_Pc [.ref bT] (fun U => ft_T bT tV A U U.heap)) (vp_Si (fun r => r = 1)) 0 0 (fun _ => False) := by
  refine ft_met (own := "java/lang/String") rfl (by decide) (Nat.le_of_ble_eq_true rfl) ?_
  intro p e s m below meth c hx hb hml hr hlocks hown hts hB ls hl
  have hl : lv_has ls 1 [(0, .ref bT)] := hl
  obtain ⟨t1, t2, t3, t4, t5, t6⟩ := id hB
  refine va_gets hx hb t5 va_S.rf hown (hts _ ft_fz) (fun _ h => h) ft_dil_0 ?_
  refine lv_if_eq (tgt := 17) hx hb ft_dil_3 (by decide) (fun h => absurd h (by decide)) (fun _ => ?_)
  refine lv_aload_n hx hb ft_dil_6 rfl (lv_at hl 0 rfl) ?_
  refine vk_getf hx hb t2 va_S.rf hown (hts _ ft_fo) (fun _ h => h) ft_dil_7 ?_
  refine lv_if_ne (tgt := 17) hx hb ft_dil_10 (by decide) (fun h => absurd rfl h) (fun _ => ?_)
  refine lv_iconst (v := 1) hx hb ft_dil_13 (by decide) ?_
  refine lv_goto (tgt := 18) hx hb ft_dil_14 (by decide) ?_
  exact W.zret (ty := .boolean) hx hb hr rfl (fun t ht _ => ⟨1, rfl, rfl, ht⟩) (fun _ h => by cases h) ft_dil_18 hlocks
set_option maxHeartbeats 4000000 in
theorem ft_mco (l : Launch) (bT tV : Nat) (A : Nat → Prop) : Met l ft_yco (Cond.code ft_yco prog_11_method_152_code 1 (some .byte) :: fv_GL) ft_rco (va_Pc [.ref bT] (fun U => ft_T bT tV A U U.heap)) (vp_Si (fun r => r = 0)) 0 0 (fun _ => False) := by
  refine ft_met (own := "java/lang/String") rfl (by decide) (Nat.le_of_ble_eq_true rfl) ?_
  intro p e s m below meth c hx hb hml hr hlocks hown hts hB ls hl
  have hl : lv_has ls 1 [(0, .ref bT)] := hl
  obtain ⟨t1, t2, t3, t4, t5, t6⟩ := id hB
  refine va_gets hx hb t5 va_S.rf hown (hts _ ft_fz) (fun _ h => h) ft_dco_0 ?_
  refine lv_if_eq (tgt := 13) hx hb ft_dco_3 (by decide) (fun h => absurd h (by decide)) (fun _ => ?_)
  refine lv_aload_n hx hb ft_dco_6 rfl (lv_at hl 0 rfl) ?_
  refine vk_getf hx hb t2 va_S.rf hown (hts _ ft_fo) (fun _ h => h) ft_dco_7 ?_
  refine lv_goto (tgt := 14) hx hb ft_dco_10 (by decide) ?_
  exact W.zret (ty := .byte) hx hb hr rfl (fun t ht _ => ⟨0, rfl, rfl, ht⟩) (fun _ h => by cases h) ft_dco_14 hlocks
theorem ft_recv {bT tV : Nat} {A : Nat → Prop} {s : State} {H : Heap} (h : ft_T bT tV A s H) : ∃ cell : Cell, H[bT]? = some cell ∧ cell.vm.isStatics = false ∧ s.vm.findClass "java/lang/String" = some cell.cls := by
  obtain ⟨cell, h1, h2, h3, -⟩ := h.1
  exact ⟨cell, h1, h2, h3⟩
set_option maxHeartbeats 4000000 in
theorem ft_mle (l : Launch) (bT tV : Nat) (A : Nat → Prop) : Met l ft_yle (Cond.code ft_yle prog_11_method_54_code 1 (some .int) :: fv_GL) ft_rle (va_Pc [.ref bT] (fun U => ft_T bT tV A U U.heap)) (vp_Si (fun r => r = Int32.ofNat fv_TXT.length)) 0 0 (fun _ => False) := by
  refine ft_met (own := "java/lang/String") rfl (by decide) (Nat.le_of_ble_eq_true rfl) ?_
  intro p e s m below meth c hx hb hml hr hlocks hown hts hB ls hl
  have hl : lv_has ls 1 [(0, .ref bT)] := hl
  obtain ⟨t1, t2, t3, t4, t5, t6⟩ := id hB
  refine lv_aload_n hx hb ft_dle_0 rfl (lv_at hl 0 rfl) ?_
  refine vk_getf hx hb t3 va_S.rf hown (hts _ ft_fv) (fun _ h => h) ft_dle_1 ?_
  refine va_tlen hx hb t4 va_S.rf rfl ft_dle_4 ?_
  refine lv_aload_n hx hb ft_dle_5 rfl (lv_at hl 0 rfl) ?_
  refine vp_callSi (rest := [.int (Int32.ofNat fv_TXT.length)]) (W.runV (As := []) (C := "java/lang/String") (Ts := fv_GL) (nL := 1) (own := "java/lang/String") ⟨hx, hb, hml, hown, hts⟩ (ft_mco l bT tV A) (cwV 0 hts (ft_gV ft_cco ft_le ft_sco ft_vco ft_ico) rfl rfl rfl ⟨rfl, by decide, by decide, by decide +kernel⟩ ⟨Nat.le_of_ble_eq_true rfl, Nat.le_of_ble_eq_true rfl⟩) ⟨ft_blind, ft_recv hB, fun U hU hW => ⟨rfl, by show ft_T _ _ _ U U.heap; rw [hU]; exact hB.moved hW.alike⟩⟩ rfl rfl hl.1 rfl (lv_room (Nat.le_of_ble_eq_true rfl)) ft_dle_6 ⟨Nat.zero_le _, Nat.zero_le _⟩) (fun r hr2 => ?_)
  subst hr2
  refine lv_ishr hx hb ft_dle_9 ?_
  rw [show Int32.ofNat fv_TXT.length >>> ((0 : Int32) &&& 31) = Int32.ofNat fv_TXT.length by decide +kernel]
  exact W.zret (ty := .int) hx hb hr rfl (fun t ht _ => ⟨_, rfl, rfl, ht⟩) (fun _ h => by cases h) ft_dle_10 hlocks
set_option maxHeartbeats 4000000 in
theorem ft_mca (l : Launch) (bT tV : Nat) (A : Nat → Prop) (j : Int32) (hj : ¬ (j < 0 ∨ fv_TXT.length ≤ j.toNatClampNeg)) : Met l ft_yca (Cond.code ft_yca prog_11_method_56_code 2 (some .char) :: fv_GL) ft_rca (va_Pc [.ref bT, .int j] (fun U => ft_T bT tV A U U.heap)) (vp_Si (fun r => r = Int32.ofNat (fv_TXT.getD j.toNatClampNeg 0))) 0 0 (fun _ => False) := by
  refine ft_met (own := "java/lang/String") rfl (by decide) (Nat.le_of_ble_eq_true rfl) ?_
  intro p e s m below meth c hx hb hml hr hlocks hown hts hB ls hl
  have hl : lv_has ls 2 [(0, .ref bT), (1, .int j)] := hl
  obtain ⟨t1, t2, t3, t4, t5, t6⟩ := id hB
  refine lv_aload_n hx hb ft_dca_0 rfl (lv_at hl 0 rfl) ?_
  refine vp_callSi (rest := []) (W.runV (As := []) (C := "java/lang/String") (Ts := fv_GL) (nL := 2) (own := "java/lang/String") ⟨hx, hb, hml, hown, hts⟩ (ft_mil l bT tV A) (cwV 0 hts (ft_gV ft_cil ft_ld ft_sil ft_vil ft_iil) rfl rfl rfl ⟨rfl, by decide, by decide, by decide +kernel⟩ ⟨Nat.le_of_ble_eq_true rfl, Nat.le_of_ble_eq_true rfl⟩) ⟨ft_blind, ft_recv hB, fun U hU hW => ⟨rfl, by show ft_T _ _ _ U U.heap; rw [hU]; exact hB.moved hW.alike⟩⟩ rfl rfl hl.1 rfl (lv_room (Nat.le_of_ble_eq_true rfl)) ft_dca_1 ⟨Nat.zero_le _, Nat.zero_le _⟩) (fun r hr2 => ?_)
  subst hr2
  refine lv_if_eq (tgt := 16) hx hb ft_dca_4 (by decide) (fun h => absurd h (by decide)) (fun _ => ?_)
  refine lv_aload_n hx hb ft_dca_7 rfl (lv_at hl 0 rfl) ?_
  refine vk_getf hx hb t3 va_S.rf hown (hts _ ft_fv) (fun _ h => h) ft_dca_8 ?_
  refine lv_iload_n hx hb ft_dca_11 rfl (lv_at hl 1 rfl) ?_
  refine vp_callSi (rest := []) (W.runS (As := [.ref tV, .int j]) (Ts := fv_GL) (nL := 2) (own := "java/lang/String") ⟨hx, hb, hml, hown, hts⟩ (ft_mlc l bT tV A j hj) (va_cwS 2 hts (ft_gS ft_clc ft_lc ft_slc ft_ilc) rfl rfl rfl ⟨by decide, by decide, by decide +kernel⟩ ⟨Nat.le_of_ble_eq_true rfl, Nat.le_of_ble_eq_true rfl⟩) ⟨ft_blind, fun U hU hW => ⟨rfl, by show ft_T _ _ _ U U.heap; rw [hU]; exact hB.moved hW.alike⟩⟩ rfl rfl hl.1 rfl (lv_room (Nat.le_of_ble_eq_true rfl)) ft_dca_12 ⟨Nat.zero_le _, Nat.zero_le _⟩) (fun r hr2 => ?_)
  have hn : narrow .char (.int r) = .int r := by
    have hlt : j.toNatClampNeg < fv_TXT.length := Nat.not_le.mp (fun h => hj (Or.inr h))
    have hbl : j.toNatClampNeg < fv_byt.length := hlt
    have hm : fv_byt.getD j.toNatClampNeg 0 ∈ fv_byt := by
      rw [List.getD_eq_getElem?_getD, List.getElem?_eq_getElem hbl]
      exact List.getElem_mem hbl
    have hb1 := List.all_eq_true.mp ft_byte_all _ hm
    simp only [Bool.and_eq_true, decide_eq_true_eq] at hb1
    have hb2 := of_decide_eq_true (List.all_eq_true.mp ft_chr_all _ (List.mem_range.mpr hlt))
    rw [hr2, ← hb2]
    exact hb1.2
  exact W.zret (ty := .char) hx hb hr hn (fun t ht _ => ⟨r, rfl, hr2, ht⟩) (fun _ h => by cases h) ft_dca_15 hlocks
section
variable {X : fv_X} {bS bT : Nat} {p : Program} {l : Launch} {e : Env} {R : Room} {s : State} {m : MethodId} {args : Array Value} {below : List Frame} {meth : Method} {c : Code} {Q : State → Prop} {y : Nat} {D : va_G} {tc : Nat → ClassId} {A : Nat → Prop} {mc ms : Nat}
set_option maxHeartbeats 4000000 in
theorem fv_str_ok (S : fv_St X bS p R s m args meth c y D tc A mc ms) (hyx : y = fv_XI) (hp : fv_strP bT A s s.heap) : fv_strL p l e R s m args below meth c bT ∧ fv_strR p l e R s m args below meth c A bT := by
  subst hyx
  obtain ⟨hx, hb, hml, hown, hts, hAO, hnm, hK, hA, hRc, hRs, hRf, hRl, hy, hscr⟩ := S
  obtain ⟨h1, adK, adV, rfl, h3, h4, h5⟩ := hp
  have hown : s.vm.findClass "FamineOfVerbs" = some m.cls := hown
  have hRf : 6 ≤ R.frames := hRf
  have hRl : 142 ≤ R.locals := hRl
  have hT : ft_T (adK 0) (adV 0) A s s.heap := ⟨(h3.1 0 (by decide)).1, (h3.1 0 (by decide)).2.1, (h3.1 0 (by decide)).2.2.1, (h3.1 0 (by decide)).2.2.2, h4, h5⟩
  refine ⟨fun Q H locs cells slots pc ls rest hd k => va_ldcS hx hb hown h1 (by rw [← hb]; exact hd) k, fun Q H locs cells slots pc ls rest hS hls hc hs h8 => ?_⟩
  have hTH := hT.kept hS.2.1
  refine ⟨fun hd k => ?_, fun j hj hd k => ?_⟩
  · refine vp_callSi (rest := rest) (W.runV (As := []) (C := "java/lang/String") (Ts := fv_GL) (nL := fv_ml fv_XI) (own := "FamineOfVerbs") ⟨hx, hb, hml, hown, hts⟩ (ft_mle _ (adK 0) (adV 0) A) (cwV 0 hts (ft_gV ft_cle ft_lg ft_sle ft_vle ft_ile) rfl rfl rfl ⟨rfl, by decide, by decide, by decide +kernel⟩ ⟨by show 1 + 1 ≤ _; omega, by show 8 + (1 + 11) + 20 ≤ _; omega⟩) ⟨ft_blind, ft_recv hTH, fun U hU hW => ⟨rfl, by show ft_T _ _ _ U U.heap; rw [hU]; exact hTH.moved hW.alike⟩⟩ rfl rfl (hls.trans hml) rfl (lv_room h8) (by rw [← hb]; exact hd) ⟨hc, hs⟩) (fun r hr2 => ?_)
    subst hr2
    exact k locs hS
  · refine vp_callSi (rest := rest) (W.runV (As := [.int j]) (C := "java/lang/String") (Ts := fv_GL) (nL := fv_ml fv_XI) (own := "FamineOfVerbs") ⟨hx, hb, hml, hown, hts⟩ (ft_mca _ (adK 0) (adV 0) A j hj) (cwV 1 hts (ft_gV ft_cca ft_lf ft_sca ft_vca ft_ica) rfl rfl rfl ⟨rfl, by decide, by decide, by decide +kernel⟩ ⟨by show 3 + 1 ≤ _; omega, by show 8 + (2 + 11) + 64 ≤ _; omega⟩) ⟨ft_blind, ft_recv hTH, fun U hU hW => ⟨rfl, by show ft_T _ _ _ U U.heap; rw [hU]; exact hTH.moved hW.alike⟩⟩ rfl rfl (hls.trans hml) rfl (lv_room h8) (by rw [← hb]; exact hd) ⟨hc, hs⟩) (fun r hr2 => ?_)
    subst hr2
    exact k locs hS
end
end
section
/-! methods by contract, all at once, by induction on the steps -/
theorem fv_mfacts {z : Nat} (h : z < 168) : Cond.initialized (fv_y z).cls ∈ fv_GL ∧ (fv_st z = true → Cond.static (fv_y z) ∈ fv_GL) ∧ (fv_st z = false → Cond.instanceMethod (fv_y z) ∈ fv_GL ∧ ((fv_y z).name = "<init>" ∨ Cond.selects (fv_y z).cls (fv_y z) (fv_y z) ∈ fv_GL)) ∧ (fv_y z).cls ≠ "java/lang/invoke/MethodHandle" ∧ (fv_y z).cls ≠ "java/lang/invoke/VarHandle" ∧ Jvm.plainName (fv_y z).cls = true ∧ (fv_y z).cls = fv_RN (fv_ow z) ∧ (parseMethodDescriptor (fv_y z).desc).map (fun d => d.parameters.length + if fv_st z then 0 else 1) = some (fv_np z) := by
  have h1 := List.all_eq_true.mp fv_mk_all (fv_g z) (fv_g_mem h)
  unfold fv_mchk at h1
  simp only [Bool.and_eq_true, decide_eq_true_eq] at h1
  obtain ⟨⟨⟨⟨⟨⟨a1, a2⟩, a3⟩, a4⟩, a5⟩, a6⟩, a7⟩ := h1
  refine ⟨fv_GL_in a1 rfl, fun hs => ?_, fun hs => ?_, a3, a4, a5, a6, a7⟩
  · have hs2 : (fv_g z).2.2.2.2.2.2.2.2.2.2.1 = true := hs
    rw [if_pos hs2] at a2
    exact fv_GL_in (of_decide_eq_true a2) rfl
  · have hs2 : (fv_g z).2.2.2.2.2.2.2.2.2.2.1 = false := hs
    rw [if_neg (by rw [hs2]; exact Bool.false_ne_true)] at a2
    simp only [Bool.and_eq_true, Bool.or_eq_true, decide_eq_true_eq] at a2
    exact ⟨fv_GL_in a2.1 rfl, a2.2.imp id (fun q => fv_GL_in q rfl)⟩
theorem fv_nml_all : (List.range 168).all (fun z => decide (fv_np z ≤ fv_ml z)) = true := by decide +kernel
theorem fv_xi_all : (List.range 168).all (fun y => (fv_rows.getD y []).all (fun r => decide (r.2.2.2 ≠ .invokestatic fv_XI))) = true := by decide +kernel
theorem fv_xi_law {y pc np : Nat} (hy : y < 169) (h : fv_lk y pc = some (.invokestatic fv_XI, np)) : y = fv_LAW := by
  rcases Nat.lt_or_ge y 168 with g | g
  · exfalso
    unfold fv_lk at h
    cases e : (fv_rows.getD y []).find? (fun r => r.1 == pc) with
    | none => rw [e] at h; cases h
    | some r =>
      rw [e] at h
      have h2 := List.mem_of_find?_eq_some e
      have h3 := List.all_eq_true.mp (List.all_eq_true.mp fv_xi_all y (List.mem_range.mpr g)) r h2
      simp only [Option.map_some, Option.some.injEq, Prod.mk.injEq] at h
      exact (of_decide_eq_true h3) h.1
  · exact Nat.le_antisymm (by show y ≤ 168; omega) g
def fv_Pc (D : va_G) (tc : Nat → ClassId) (ad : Nat → Nat) (as : List Value) (sh : fv_Sh) (M : fv_M) (sz z bT : Nat) : Array Value → State → Prop := va_Pc (as.map (fv_cv ad)) (fun U => U.heap.size = sz ∧ va_P D fv_kinds (fv_w ad tc sh M) U.heap ∧ va_K D fv_kinds (fv_tys tc) U ∧ va_D (fun _ => True) (fv_w ad tc sh M) ∧ (∀ w ∈ fv_nests, va_Nw w U) ∧ va_AO (fv_RN 3) U ∧ (z = fv_XI → fv_strP bT (va_A (fv_w ad tc sh M) sz) U U.heap))
def fv_Qc (D : va_G) (tc : Nat → ClassId) (ad : Nat → Nat) (r : fv_R) (sh : fv_Sh) (k : Nat × Nat) (A : Nat → Prop) : Array Value → State → Outcome → State → Prop := fun _ st oc t => (∃ ad' : Nat → Nat, oc = .returned r.1 ∧ (r.1 = none ∨ ∃ x : Int32, r.1 = some (.int x)) ∧ fv_agr ad ad' k (0, 0) sh r.2.1 ∧ va_P D fv_kinds (fv_w ad' tc r.2.1 r.2.2) t.heap ∧ va_D A (fv_w ad' tc r.2.1 r.2.2)) ∧ va_F A st t
theorem fv_nests_on : ∀ w ∈ fv_nests, w.onTables = true := by
  intro w h
  obtain ⟨q, -, rfl⟩ := List.mem_map.mp h
  rfl
theorem fv_nests_warm {s U : State} (hW : s.WarmedH U.vm) (h : ∀ w ∈ fv_nests, va_Nw w s) : ∀ w ∈ fv_nests, va_Nw w U := by
  intro w hw
  have h1 := h w hw
  obtain ⟨q, -, rfl⟩ := List.mem_map.mp hw
  exact va_Nw.warmM hW h1
theorem fv_Pc_blind {D : va_G} {tc : Nat → ClassId} {ad : Nat → Nat} {as : List Value} {sh : fv_Sh} {M : fv_M} {sz z bT : Nat} : FrameBlind (fv_Pc D tc ad as sh M sz z bT) := by
  intro a U g mk h
  obtain ⟨h0, h1, h2, h3, h4, h5, h6, h7⟩ := h
  exact ⟨h0, h1, h2, va_K.moved (u := U) (U := U.calling g mk a) (Vm.Alike.refl U.vm) h3, h4, fun w hw => va_Nw.same (u := U) (U := U.calling g mk a) (fv_nests_on w hw) rfl (h5 w hw), va_AO.moved (u := U) (U := U.calling g mk a) (Vm.Alike.refl U.vm) h6, fun q => fv_strP.same (U := U.calling g mk a) rfl (h7 q)⟩
/-- how a method ends -/
def fv_RV (y pc : Nat) (v : Option Value) : Prop := (∃ x : Int32, v = some (.int x) ∧ fv_rok (fv_rt y) x = true ∧ decode (fv_cc y) pc = .ok (.ireturn, 1)) ∨ (v = none ∧ fv_rt y = none ∧ decode (fv_cc y) pc = .ok (.return_, 1))
def fv_RH (p : Program) (l : Launch) (e : Env) (R : Room) (s : State) (m : MethodId) (args : Array Value) (below : List Frame) (meth : Method) (c : Code) (Q : State → Prop) (y : Nat) (D : va_G) (tc : Nat → ClassId) (A : Nat → Prop) (mc ms : Nat) (ad : Nat → Nat) (k : Nat × Nat) (sh : fv_Sh) (r : fv_R) : Prop :=
  ∀ (ad' : Nat → Nat) (H' : Heap) (locs' : List Loc) (pc' : Nat) (lsA' : Array Slot), fv_agr ad ad' k (0, 0) sh r.2.1 → va_P D fv_kinds (fv_w ad' tc r.2.1 r.2.2) H' → va_D A (fv_w ad' tc r.2.1 r.2.2) → va_S A s.heap H' locs' → fv_RV y pc' r.1 → W p l e R s m args below meth c H' locs' mc ms Q (F0 m pc' lsA' r.1.toList)
def fv_SA (X : fv_X) (l : Launch) (n : Nat) : Prop := ∀ (bS bT : Nat) (p : Program) (e : Env) (R : Room) (s : State) (m : MethodId) (args : Array Value) (below : List Frame) (meth : Method) (c : Code) (Q : State → Prop) (y : Nat) (D : va_G) (tc : Nat → ClassId) (A : Nat → Prop) (mc ms : Nat) (pc : Nat) (ls : fv_Sl) (st : List Value) (k : Nat × Nat) (sh : fv_Sh) (M : fv_M) (r : fv_R) (ad : Nat → Nat) (H : Heap) (locs : List Loc) (cells slots : Nat) (lsA : Array Slot),
  fv_St X bS p R s m args meth c y D tc A mc ms → (∀ w ∈ fv_nests, va_Nw w s) → (y = fv_XI → fv_strL p l e R s m args below meth c bT ∧ fv_strR p l e R s m args below meth c A bT) → (y = fv_LAW → fv_strP bT A s s.heap) → fv_Dy bS bT s y D tc A mc ms ls k sh M ad H locs cells slots lsA → fv_run X n y pc ls st k sh M = some r → fv_RH p l e R s m args below meth c Q y D tc A mc ms ad k sh r → W p l e R s m args below meth c H locs cells slots Q (F0 m pc lsA (st.map (fv_cv ad)))
theorem fv_narrow {t : FieldType} {x : Int32} (h : fv_rok (some t) x = true) : narrow t (.int x) = .int x := by
  cases t <;> first | rfl | (exact (Bool.false_ne_true h).elim) | (have h1 := of_decide_eq_true h; rcases h1 with rfl | rfl <;> rfl)
theorem fv_lg_len (vs : List Value) (h : ∀ v ∈ vs, v.category = 1) : (lg_sl vs).length = vs.length := by
  induction vs with
  | nil => rfl
  | cons a vs ih =>
    have h1 : ¬ a.category = 2 := by have := h a List.mem_cons_self; omega
    have h2 := ih (fun v hv => h v (List.mem_cons_of_mem _ hv))
    simp only [lg_sl, List.flatMap_cons, if_neg h1, List.length_append, List.length_cons, List.length_nil] at h2 ⊢
    omega
set_option maxHeartbeats 4000000 in
theorem fv_met {X : fv_X} {l : Launch} {n : Nat} (IH : fv_SA X l n) {z : Nat} (hz : z < 168) (D : va_G) (tc : Nat → ClassId) (ad : Nat → Nat) (as : List Value) (sh : fv_Sh) (M : fv_M) (sz bT : Nat) (r : fv_R) (hbT : ad fv_STR = bT) (hlen : as.length = fv_np z) (hcat : as.all (fun v => v.category == 1) = true) (hrun : fv_run X n z 0 (as.map some) [] (fv_mc z, fv_ms z) sh M = some r) :
    Met l (fv_y z) (fv_ws z) (fv_rm z) (fv_Pc D tc ad as sh M sz z bT) (fv_Qc D tc ad r sh (fv_mc z, fv_ms z) (va_A (fv_w ad tc sh M) sz)) (fv_mc z) (fv_ms z) (va_A (fv_w ad tc sh M) sz) := by
  have hf := fv_mfacts hz
  refine Met.ofW (cc := fv_cc z) (maxL := fv_ml z) (ret := fv_rt z) hf.2.2.2.2.2.1 rfl ?_
  intro p e s m args below meth c s₁ B hml hv
  obtain ⟨rfl, hsz, hP, hK, hD0, hN, hAO, hst⟩ := hv
  subst hsz
  have hlocks := B.notSynchronized
  have hD : va_D (va_A (fv_w ad tc sh M) s.heap.size) (fv_w ad tc sh M) := hD0.self
  have hts : ∀ w ∈ fv_GL, w.before ((as.map (fv_cv ad)).toArray) s = true := fun w hw => atoms_spec (ws := fv_ws z) B.pre w (List.mem_cons_of_mem _ hw)
  have hown : s.vm.findClass (fv_RN (fv_ow z)) = some m.cls := by rw [← hf.2.2.2.2.2.2.1]; exact findClass_of_methodNamed B.named
  have hnm : meth.name = (fv_y z).name := (name_of_methodNamed B.named B.method).1
  have hnl : ¬ z = fv_LAW := fun q => by have : fv_LAW = 168 := rfl; omega
  have S : fv_St X (ad fv_SCR) p (headSpec (fv_ws z) (fv_rm z)).room s m ((as.map (fv_cv ad)).toArray) meth c z D tc (va_A (fv_w ad tc sh M) s.heap.size) (fv_mc z) (fv_ms z) :=
    ⟨B.exec, B.bytes, hml, hown, hts, hAO, hnm, hK, fun q h => Or.inr h, Nat.le_refl _, Nat.le_refl _, Nat.le_refl _, Nat.le_refl _, by omega, fun q => absurd q hnl⟩
  have hlg : (lg_sl (as.map (fv_cv ad))).length ≤ fv_ml z := by
    rw [fv_lg_len, List.length_map, hlen]
    · exact of_decide_eq_true (List.all_eq_true.mp fv_nml_all z (List.mem_range.mpr hz))
    · intro v hv
      obtain ⟨u, hu, rfl⟩ := List.mem_map.mp hv
      rw [fv_cv_cat]
      have := List.all_eq_true.mp hcat u hu
      simpa only [beq_iff_eq] using this
  have hl := lv_entry (as.map (fv_cv ad)) (n := fv_ml z) hlg
  rw [lg_entry_eq]
  generalize (lg_sl (as.map (fv_cv ad)) ++ List.replicate (fv_ml z - (lg_sl (as.map (fv_cv ad))).length) Slot.unset).toArray = lsA at hl ⊢
  have Dn : fv_Dy (ad fv_SCR) bT s z D tc (va_A (fv_w ad tc sh M) s.heap.size) (fv_mc z) (fv_ms z) (as.map some) (fv_mc z, fv_ms z) sh M ad s.heap [] 0 0 lsA :=
    ⟨fv_lv_sub hl (fv_lv_args ad as hcat), fv_wl_args as hcat, hP, hD, va_S.rf, by simp, by simp, rfl, hbT⟩
  refine IH (ad fv_SCR) bT p e _ s m _ below meth c _ z D tc _ (fv_mc z) (fv_ms z) 0 _ [] _ sh M r ad s.heap [] 0 0 lsA S hN (fun q => fv_str_ok S q (hst q)) (fun q => absurd q hnl) Dn hrun ?_
  intro ad' H' locs' pc' lsA' hag hP' hD' hS' hrv
  rcases hrv with ⟨x, hv, hok, hd⟩ | ⟨hv, hrt, hd⟩
  · rw [hv]
    cases hrt : fv_rt z with
    | none => rw [hrt] at hok; exact (Bool.false_ne_true hok).elim
    | some t =>
      rw [hrt] at hok
      exact W.zret (ty := t) B.exec B.bytes (B.returns.trans hrt) (fv_narrow hok) (fun t ht hW => ⟨⟨ad', by rw [hv], Or.inr ⟨x, hv⟩, hag, by rw [ht]; exact hP', hD'⟩, hS'.F ht⟩) hS'.2.2 hd hlocks
  · rw [hv]
    exact W.vret B.exec B.bytes (B.returns.trans hrt) (fun t ht hW => ⟨⟨ad', by rw [hv], Or.inl hv, hag, by rw [ht]; exact hP', hD'⟩, hS'.F ht⟩) hS'.2.2 hd hlocks
/-- behind a call -/
theorem fv_callG {p : Program} {l : Launch} {e : Env} {R : Room} {s : State} {m : MethodId} {args : Array Value} {below : List Frame} {meth : Method} {c : Code} {H : Heap} {locs : List Loc} {cells slots : Nat} {Q : State → Prop} {pc : Nat} {ls : Array Slot} {rest st0 : List Value} {A0 A1 : Nat → Prop} {H0 : Heap} {mc ms : Nat} {free : Addr → Prop} {Qa : State → Outcome → State → Prop} {P : Option Value → State → Prop}
    (hr : va_Run p l e R s m args below meth c H locs cells slots mc ms (F0 m pc ls st0) rest Qa free) (hq : ∀ st₀ v t, Qa st₀ (.returned v) t → P v t ∧ va_F A1 st₀ t) (hS : va_S A0 H0 H locs) (hA : ∀ q, q < H.size → A1 q → A0 q) (hf : ∀ q, free q → A0 q)
    (kk : ∀ (v : Option Value) (t : State) (H1 : Heap) (locs1 : List Loc), t.heap = H1 → P v t → va_S A0 H0 H1 locs1 → W p l e R s m args below meth c H1 locs1 (cells + mc) (slots + ms) Q (F0 m (pc + 3) ls (v.toList ++ rest))) : W p l e R s m args below meth c H locs cells slots Q (F0 m pc ls st0) := by
  intro T hT X
  obtain ⟨v, st₀, t, T', L, h0, X', hL, e1, e2, hQ, st⟩ := hr T hT X
  obtain ⟨hp, hz, hk⟩ := hq _ _ _ hQ
  rw [h0] at hz hk
  obtain ⟨t2, a1, b1⟩ := kk v t T'.heap (locs ++ L) e1.symm hp
    ⟨Nat.le_trans hS.1 (by rw [e1]; exact hz), fun q h1 h2 => by rw [e1, hk q (Nat.lt_of_lt_of_le h1 hS.1) (fun z => h2 (hA q (Nat.lt_of_lt_of_le h1 hS.1) z))]; exact hS.2.1 q h1 h2, fun q hq => by
      rcases List.mem_append.mp hq with h | h
      · exact hS.2.2 q h
      · exact hf _ (hL q h)⟩ T' rfl X'
  exact ⟨t2, st t2 a1, b1⟩
theorem fv_nx_call {X : fv_X} {y pc : Nat} {ls : fv_Sl} {st : List Value} {k : Nat × Nat} {sh : fv_Sh} {M : fv_M} {q : Nat × List Value × Nat × List Value} (h : fv_nx X y pc ls st k sh M = some (.inr (.inr q))) : fv_lk y pc = some (.invokestatic q.1, q.2.2.1) ∧ q.1 < fv_LAW ∧ st = q.2.1.reverse ++ q.2.2.2 ∧ q.2.1.length = fv_np q.1 := by
  unfold fv_nx at h
  cases hl : fv_lk y pc with
  | none => rw [hl] at h; cases h
  | some x =>
    obtain ⟨i, np⟩ := x
    rw [hl] at h
    cases i with
    | invokestatic z =>
      dsimp only at h
      split at h
      · rename_i hc
        cases h
        refine ⟨rfl, hc.1, ?_, ?_⟩
        · rw [List.reverse_reverse, List.take_append_drop]
        · rw [List.length_reverse, List.length_take, Nat.min_eq_left hc.2]
      · cases h
    | istore j =>
      dsimp only at h
      split at h
      · rw [Option.map_eq_some_iff] at h; obtain ⟨_, _, h⟩ := h; cases h
      · cases h
    | astore j =>
      dsimp only at h
      split at h
      · rw [Option.map_eq_some_iff] at h; obtain ⟨_, _, h⟩ := h; cases h
      · cases h
    | tableswitch d lo hi offs =>
      dsimp only at h
      split at h
      · rw [Option.map_eq_some_iff] at h; obtain ⟨_, _, h⟩ := h; cases h
      · cases h
    | _ => (dsimp only at h; repeat' (first | (cases h; done) | (split at h)))
theorem fv_nx_ret {X : fv_X} {y pc : Nat} {ls : fv_Sl} {st : List Value} {k : Nat × Nat} {sh : fv_Sh} {M : fv_M} {v : Option Value} (hy : y < 169) (h : fv_nx X y pc ls st k sh M = some (.inr (.inl v))) : fv_RV y pc v ∧ st = v.toList := by
  unfold fv_nx at h
  cases hl : fv_lk y pc with
  | none => rw [hl] at h; cases h
  | some x =>
    obtain ⟨i, np⟩ := x
    rw [hl] at h
    obtain ⟨raw, hd, hk⟩ := fv_row hy hl
    cases i with
    | ireturn =>
      simp only [fv_rk, fv_npc, Bool.and_eq_true, decide_eq_true_eq] at hk
      obtain ⟨rfl, rfl⟩ := hk
      rw [Nat.add_sub_cancel_left] at hd
      dsimp only at h
      split at h
      · split at h
        · rename_i hok
          cases h
          exact ⟨Or.inl ⟨_, rfl, hok, hd⟩, rfl⟩
        · cases h
      · cases h
    | return_ =>
      simp only [fv_rk, fv_npc, Bool.and_eq_true, decide_eq_true_eq] at hk
      obtain ⟨rfl, rfl⟩ := hk
      rw [Nat.add_sub_cancel_left] at hd
      dsimp only at h
      split at h
      · split at h
        · rename_i hrt
          cases h
          exact ⟨Or.inr ⟨rfl, hrt, hd⟩, rfl⟩
        · cases h
      · cases h
    | istore j =>
      dsimp only at h
      split at h
      · rw [Option.map_eq_some_iff] at h; obtain ⟨_, _, h⟩ := h; cases h
      · cases h
    | astore j =>
      dsimp only at h
      split at h
      · rw [Option.map_eq_some_iff] at h; obtain ⟨_, _, h⟩ := h; cases h
      · cases h
    | tableswitch d lo hi offs =>
      dsimp only at h
      split at h
      · rw [Option.map_eq_some_iff] at h; obtain ⟨_, _, h⟩ := h; cases h
      · cases h
    | _ => (dsimp only at h; repeat' (first | (cases h; done) | (split at h)))
end
section
/-! whatever the linked program does, the machine does  -/
theorem fv_cs_in {y i z kd : Nat} (h : fv_csin y i z kd = true) : ∃ ix, (fv_ow y, i, z, kd, ix) ∈ fv_CS := by
  obtain ⟨⟨a, b, c0, d, ix⟩, hq, h⟩ := List.any_eq_true.mp h
  simp only [Bool.and_eq_true, decide_eq_true_eq] at h
  obtain ⟨rfl, rfl, rfl, rfl⟩ := h
  exact ⟨ix, hq⟩
theorem fv_cs_link {y i z kd ix : Nat} (h : (fv_ow y, i, z, kd, ix) ∈ fv_CS) (h1 : kd ≠ 1) (h4 : kd ≠ 4) : Cond.methodLink (fv_RN (fv_ow y)) i (fv_y z) ∈ fv_GL := by
  have h2 := List.all_eq_true.mp fv_CS_ok _ h
  simp only [fv_csok, Bool.and_eq_true] at h2
  obtain ⟨⟨a1, a2⟩, a3⟩ := h2
  rw [if_neg (by omega)] at a2
  exact fv_GL_in (of_decide_eq_true a2) rfl
theorem fv_cs_nest {y i z kd ix : Nat} {s : State} (hN : ∀ w ∈ fv_nests, va_Nw w s) (h : (fv_ow y, i, z, kd, ix) ∈ fv_CS) (h1 : kd = 1 ∨ kd = 4) : va_Nw (Cond.methodLinkNest (fv_RN (fv_ow y)) i (fv_y z) "FamineOfVerbs") s :=
  hN _ (List.mem_map.mpr ⟨_, List.mem_filter.mpr ⟨h, decide_eq_true h1⟩, rfl⟩)
theorem fv_cs_kind {y i z kd ix : Nat} (h : (fv_ow y, i, z, kd, ix) ∈ fv_CS) : ((kd = 0 ∨ kd = 1) → fv_st z = true) ∧ (kd = 2 → fv_st z = false ∧ (fv_y z).name ≠ "<init>" ∧ fv_ow z < 7) ∧ ((kd = 3 ∨ kd = 4) → fv_st z = false ∧ (fv_y z).name = "<init>" ∧ fv_rt z = none) := by
  have h2 := List.all_eq_true.mp fv_CS_ok _ h
  simp only [fv_csok, Bool.and_eq_true] at h2
  obtain ⟨⟨a1, a2⟩, a3⟩ := h2
  refine ⟨fun hk => ?_, fun hk => ?_, fun hk => ?_⟩
  · rw [if_pos hk] at a3; exact a3
  · subst hk
    rw [if_neg (by omega), if_pos rfl] at a3
    simp only [Bool.and_eq_true, Bool.not_eq_true', decide_eq_true_eq] at a3
    exact a3
  · rw [if_neg (by omega), if_neg (by omega)] at a3
    simp only [Bool.and_eq_true, Bool.not_eq_true', decide_eq_true_eq] at a3
    exact ⟨a3.1.1, a3.1.2, a3.2⟩
set_option maxHeartbeats 8000000 in
theorem fv_call_ok {X : fv_X} {l : Launch} {n : Nat} (IH : fv_SA X l n) {bS bT : Nat} {p : Program} {e : Env} {R : Room} {s : State} {m : MethodId} {args : Array Value} {below : List Frame} {meth : Method} {c : Code} {Q : State → Prop} {y : Nat} {D : va_G} {tc : Nat → ClassId} {A : Nat → Prop} {mc ms : Nat} {pc : Nat} {ls : fv_Sl} {st : List Value} {k : Nat × Nat} {sh : fv_Sh} {M : fv_M} {r r2 : fv_R} {ad : Nat → Nat} {H : Heap} {locs : List Loc} {cells slots : Nat} {lsA : Array Slot} {z np : Nat} {as rest : List Value}
    (S : fv_St X bS p R s m args meth c y D tc A mc ms) (hN : ∀ w ∈ fv_nests, va_Nw w s) (hstr : y = fv_XI → fv_strL p l e R s m args below meth c bT ∧ fv_strR p l e R s m args below meth c A bT) (hlaw : y = fv_LAW → fv_strP bT A s s.heap) (Dn : fv_Dy bS bT s y D tc A mc ms ls k sh M ad H locs cells slots lsA)
    (hnx : fv_nx X y pc ls st k sh M = some (.inr (.inr (z, as, np, rest)))) (hcok : fv_cokb z as ls rest k sh = true) (hrcv : fv_rcv z as sh = true) (e2 : fv_run X n z 0 (as.map some) [] (fv_mc z, fv_ms z) sh M = some r2) (hrun : fv_run X n y np ls (r2.1.toList ++ rest) (k.1 - fv_mc z, k.2 - fv_ms z) r2.2.1 r2.2.2 = some r)
    (RH : fv_RH p l e R s m args below meth c Q y D tc A mc ms ad k sh r) : W p l e R s m args below meth c H locs cells slots Q (F0 m pc lsA (st.map (fv_cv ad))) := by
  obtain ⟨hx, hb, hml, hown, hts, hAO, hnm, hK, hA, hRc, hRs, hRf, hRl, hy, hscr⟩ := id S
  obtain ⟨hl, hw, hP, hD, hS, hkc, hks, hbS, hbT⟩ := id Dn
  obtain ⟨hlk, hz, hst, hlen⟩ := fv_nx_call hnx
  dsimp only at hlk hz hst hlen
  obtain ⟨c1, c2, hcat, h8, hbel⟩ := fv_cokb_iff.mp hcok
  have hzl : z < 168 := hz
  have hf := fv_mfacts hzl
  obtain ⟨f1, f2, f3, f4, f5, f6, f7, f8⟩ := hf
  have hM := fv_met IH hzl D tc ad as sh M H.size bT r2 hbT hlen hcat e2
  obtain ⟨raw, hd, hk⟩ := fv_row hy hlk
  have hfree : ∀ q, va_A (fv_w ad tc sh M) H.size q → A q := fun q h => by
    rcases h with ⟨j, x, h⟩ | h
    · exact hD.2 j (q, x) h
    · exact hA q (Nat.le_trans hS.1 h)
  have hpre : ∀ U : State, U.heap = H → s.WarmedH U.vm → fv_Pc D tc ad as sh M H.size z bT (as.map (fv_cv ad)).toArray U := fun U hU hW =>
    ⟨rfl, by rw [hU], by rw [hU]; exact hP, va_K.moved hW.alike hK, hD.weaken (fun _ _ _ _ => trivial), fv_nests_warm hW hN, va_AO.moved hW.alike hAO, fun q => by
      subst q
      exact (hlaw (fv_xi_law hy hlk)).go hW (fun a h1 h2 => by rw [hU]; exact hS.2.1 a h1 h2) hfree⟩
  have hstk : st.map (fv_cv ad) = (as.map (fv_cv ad)).reverse ++ rest.map (fv_cv ad) := by rw [hst, List.map_append, List.map_reverse]
  have h8m : 2 * (F0 m pc lsA (st.map (fv_cv ad))).monitorRoom + ((rest.map (fv_cv ad)).map fun v => v.category).sum ≤ 8 := fv_room8 (by rw [fv_cs_map]; exact h8)
  dsimp only [fv_rk] at hk
  rw [Bool.and_eq_true, Bool.and_eq_true] at hk
  obtain ⟨hroom, hnp, hkd⟩ := hk
  simp only [fv_roomok, Bool.and_eq_true, decide_eq_true_eq] at hroom
  simp only [fv_npc, decide_eq_true_eq] at hnp
  subst hnp
  rw [Nat.add_sub_cancel_left] at hd
  have hR : (fv_rm z).frames + 1 ≤ R.frames ∧ 8 + (fv_ml z + 11) + (fv_rm z).locals ≤ R.locals := ⟨Nat.le_trans hroom.1 hRf, Nat.le_trans hroom.2 hRl⟩
  have hfits : cells + fv_mc z ≤ R.cells ∧ slots + fv_ms z ≤ R.slots := ⟨by omega, by omega⟩
  have CF : CallFix p m c (fv_cc y) (fv_ml y) s args fv_GL (fv_RN (fv_ow y)) := ⟨hx, hb, hml, hown, hts⟩
  have gws : GoodIn fv_GL (fv_ws z) := fv_good (fun w hw => by
    rcases List.mem_cons.mp hw with rfl | hw
    · exact fv_code hzl
    · exact hw)
  have go : va_Run p l e R s m args below meth c H locs cells slots (fv_mc z) (fv_ms z) (F0 m pc lsA (st.map (fv_cv ad))) (rest.map (fv_cv ad)) (fv_Qc D tc ad r2 sh (fv_mc z, fv_ms z) (va_A (fv_w ad tc sh M) H.size) (as.map (fv_cv ad)).toArray) (va_A (fv_w ad tc sh M) H.size) → W p l e R s m args below meth c H locs cells slots Q (F0 m pc lsA (st.map (fv_cv ad))) := by
    intro hr
    refine fv_callG (A1 := va_A (fv_w ad tc sh M) H.size) (P := fun v t => v = r2.1 ∧ (r2.1 = none ∨ ∃ x : Int32, r2.1 = some (.int x)) ∧ ∃ ad' : Nat → Nat, fv_agr ad ad' (fv_mc z, fv_ms z) (0, 0) sh r2.2.1 ∧ va_P D fv_kinds (fv_w ad' tc r2.2.1 r2.2.2) t.heap ∧ va_D (va_A (fv_w ad tc sh M) H.size) (fv_w ad' tc r2.2.1 r2.2.2)) hr ?_ hS (fun q _ h => hfree q h) hfree ?_
    · intro st₀ v t h
      obtain ⟨⟨ad', hv, hr1, hag, hP1, hD1⟩, hF⟩ := h
      cases hv
      exact ⟨⟨rfl, hr1, ad', hag, hP1, hD1⟩, hF⟩
    · intro v t H1 locs1 ht hp hS1
      obtain ⟨rfl, hr1, ad', hag, hP1, hD1⟩ := hp
      rw [ht] at hP1
      have hsame : (∀ q ∈ fv_lv ad' ls, q ∈ fv_lv ad ls) ∧ rest.map (fv_cv ad') = rest.map (fv_cv ad) := by
        rcases hbel with h0 | ⟨hb1, hb2, -⟩
        · have := hag.2.1 h0
          subst this
          exact ⟨fun _ h => h, rfl⟩
        · exact ⟨fv_lv_eq hag.1 hb1, fv_map_eq hag.1 hb2⟩
      have hag2 : fv_agr ad ad' k (k.1 - fv_mc z, k.2 - fv_ms z) sh r2.2.1 := ⟨hag.1, fun h0 => hag.2.1 (by show fv_mc z = 0; omega), hag.2.2.1, Nat.sub_le _ _⟩
      have Dn2 : fv_Dy bS bT s y D tc A mc ms ls (k.1 - fv_mc z, k.2 - fv_ms z) r2.2.1 r2.2.2 ad' H1 locs1 (cells + fv_mc z) (slots + fv_ms z) lsA :=
        ⟨fv_lv_sub hl hsame.1, hw, hP1, hD1.weaken (fun _ q _ h => hfree q.1 h), hS1, by dsimp only; omega, by dsimp only; omega, by rw [hag.1 _ (Or.inr (Nat.le_refl _))]; exact hbS, by rw [hag.1 _ (Or.inr (by decide))]; exact hbT⟩
      have K := IH bS bT p e R s m args below meth c Q y D tc A mc ms (pc + 3) ls (r2.1.toList ++ rest) _ r2.2.1 r2.2.2 r ad' H1 locs1 _ _ lsA S hN hstr hlaw Dn2 hrun (fun ad3 H3 locs3 pc3 lsA3 hg3 hP3 hD3 hS3 hv3 => RH ad3 H3 locs3 pc3 lsA3 (hag2.tr hg3) hP3 hD3 hS3 hv3)
      have hvm : r2.1.toList.map (fv_cv ad') = r2.1.toList := by
        rcases hr1 with h | ⟨x, h⟩ <;> rw [h] <;> rfl
      rw [List.map_append, hvm, hsame.2] at K
      exact K
  have hstat : fv_st z = true → (parseMethodDescriptor (fv_y z).desc).map (fun d => d.parameters.length) = some (fv_np z) := fun h => by
    rw [h] at f8
    exact f8
  have hinst : fv_st z = false → ∃ as' : List Value, ∃ c0 ci : Nat, ∃ sl : List (Option Value), as = .ref c0 :: as' ∧ sh[c0]? = some (.inr (ci, sl)) ∧ ci = fv_ow z ∧ (parseMethodDescriptor (fv_y z).desc).map (fun d => d.parameters.length) = some as'.length := fun h => by
    unfold fv_rcv at hrcv
    rw [h, Bool.false_or] at hrcv
    split at hrcv
    · rename_i c0 as'
      split at hrcv
      · rename_i ci sl hs
        refine ⟨as', c0, ci, sl, rfl, hs, by simpa only [beq_iff_eq] using hrcv, ?_⟩
        rw [h] at f8
        cases hp : parseMethodDescriptor (fv_y z).desc with
        | none => rw [hp] at f8; cases f8
        | some d =>
          rw [hp] at f8
          simp only [Option.map_some, Option.some.injEq, Bool.false_eq_true, if_false] at f8 ⊢
          simp only [List.length_cons] at hlen
          omega
      · exact (Bool.false_ne_true hrcv).elim
    · exact (Bool.false_ne_true hrcv).elim
  cases raw with
  | invokestatic i =>
    simp only [Bool.or_eq_true] at hkd
    rcases hkd with hkd | hkd
    · obtain ⟨ix, hcs⟩ := fv_cs_in hkd
      have hs := (fv_cs_kind hcs).1 (Or.inl rfl)
      have gl := fv_cs_link hcs (by omega) (by omega)
      refine go (va_runS CF hM (va_cwS (fv_np z) hts (fv_good (fun w hw => ?_)) rfl rfl rfl ⟨f4, f5, hstat hs⟩ hR) ⟨fv_Pc_blind, hpre⟩ rfl (by rw [List.length_map]; exact hlen) hl.1 hstk h8m hd hfits)
      unfold va_wsS at hw
      rcases List.mem_append.mp hw with hw | hw
      · rcases List.mem_cons.mp hw with rfl | hw
        · exact gl
        · rcases List.mem_cons.mp hw with rfl | hw
          · exact f2 hs
          · rw [List.mem_singleton.mp hw]; exact f1
      · exact (gws w hw).1
    · obtain ⟨ix, hcs⟩ := fv_cs_in hkd
      have hs := (fv_cs_kind hcs).1 (Or.inr rfl)
      have gn := fv_cs_nest hN hcs (Or.inl rfl)
      exact go (va_runSN CF hM ⟨va_cnB (fv_np z) hts gws rfl rfl rfl gn (hts _ f1) ⟨f4, f5, hstat hs⟩ hR, hts _ (f2 hs), trivial⟩ ⟨fv_Pc_blind, hpre⟩ rfl (by rw [List.length_map]; exact hlen) hl.1 hstk h8m hd hfits)
  | invokevirtual i =>
    obtain ⟨ix, hcs⟩ := fv_cs_in hkd
    have hs := (fv_cs_kind hcs).2.1 rfl
    have gl := fv_cs_link hcs (by omega) (by omega)
    obtain ⟨as', c0, ci, sl, rfl, hsh, rfl, hpn⟩ := hinst hs.1
    have hsel := (f3 hs.1).2.resolve_left hs.2.1
    have h7 : fv_ow z < 7 := hs.2.2
    have he := fv_w_c (ad := ad) (tc := tc) (M := M) hsh
    rw [fv_ce_obj _ _ _ _ _ _ (by omega)] at he
    have hrec := va_recv hK hP (fv_kind_at _ h7) he
    refine go (va_runV (As := as'.map (fv_cv ad)) (b := ad c0) (C := (fv_y z).cls) CF hM (cwV as'.length hts (fv_good (fun w hw => ?_)) rfl rfl rfl ⟨rfl, f4, f5, hpn⟩ hR) ⟨fv_Pc_blind, by rw [f7]; exact hrec, hpre⟩ rfl (by rw [List.length_map]) hl.1 (by rw [hstk, List.map_cons, List.reverse_cons, List.append_assoc]; rfl) h8m hd hfits)
    unfold wsV at hw
    rcases List.mem_append.mp hw with hw | hw
    · rcases List.mem_cons.mp hw with rfl | hw
      · exact gl
      · rcases List.mem_cons.mp hw with rfl | hw
        · exact (f3 hs.1).1
        · rcases List.mem_cons.mp hw with rfl | hw
          · exact hsel
          · rw [List.mem_singleton.mp hw]; exact f1
    · exact (gws w hw).1
  | invokespecial i =>
    simp only [Bool.or_eq_true] at hkd
    rcases hkd with hkd | hkd
    · obtain ⟨ix, hcs⟩ := fv_cs_in hkd
      have hs := (fv_cs_kind hcs).2.2 (Or.inl rfl)
      have gl := fv_cs_link hcs (by omega) (by omega)
      obtain ⟨as', c0, ci, sl, rfl, hsh, rfl, hpn⟩ := hinst hs.1
      exact go (va_runI (As := as'.map (fv_cv ad)) (b := ad c0) CF hM (cwI as'.length hts gws (ws' := fv_GL) (bytes := fv_cc z) (maxL := fv_ml z) (by unfold fv_ws; rw [hs.2.2]) rfl rfl (hts _ f1) (hts _ gl) (hts _ (f3 hs.1).1) hs.2.1 ⟨f4, f5, hpn⟩ hR) ⟨fv_Pc_blind, hpre⟩ rfl (by rw [List.length_map]) hl.1 (by rw [hstk, List.map_cons, List.reverse_cons, List.append_assoc]; rfl) h8m hd hfits)
    · obtain ⟨ix, hcs⟩ := fv_cs_in hkd
      have hs := (fv_cs_kind hcs).2.2 (Or.inr rfl)
      have gn := fv_cs_nest hN hcs (Or.inr rfl)
      obtain ⟨as', c0, ci, sl, rfl, hsh, rfl, hpn⟩ := hinst hs.1
      exact go (va_runIN (As := as'.map (fv_cv ad)) (b := ad c0) CF hM ⟨va_cnB as'.length hts gws (ws' := fv_GL) (bytes := fv_cc z) (maxL := fv_ml z) (by unfold fv_ws; rw [hs.2.2]) rfl rfl gn (hts _ f1) ⟨f4, f5, hpn⟩ hR, hs.2.1, hts _ (f3 hs.1).1⟩ ⟨fv_Pc_blind, hpre⟩ rfl (by rw [List.length_map]) hl.1 (by rw [hstk, List.map_cons, List.reverse_cons, List.append_assoc]; rfl) h8m hd hfits)
  | _ => exact (Bool.false_ne_true hkd).elim
/-- WHATEVER THE LINKED PROGRAM DOES, THE MACHINE DOES -/
theorem fv_sound (X : fv_X) (l : Launch) : ∀ n, fv_SA X l n := by
  intro n
  induction n with
  | zero =>
    intro bS bT p e R s m args below meth c Q y D tc A mc ms pc ls st k sh M r ad H locs cells slots lsA S hN hstr hlaw Dn hrun RH
    cases hrun
  | succ n ih =>
    intro bS bT p e R s m args below meth c Q y D tc A mc ms pc ls st k sh M r ad H locs cells slots lsA S hN hstr hlaw Dn hrun RH
    unfold fv_run at hrun
    cases en : fv_nx X y pc ls st k sh M with
    | none => rw [en] at hrun; cases hrun
    | some q =>
      rw [en] at hrun
      cases q with
      | inl q =>
        exact fv_step S hstr Dn en (fun ad' H' locs' cells' slots' lsA' hag hDn => ih bS bT p e R s m args below meth c Q y D tc A mc ms _ _ _ _ _ _ r ad' H' locs' cells' slots' lsA' S hN hstr hlaw hDn hrun (fun ad3 H3 locs3 pc3 lsA3 hg3 hP3 hD3 hS3 hv3 => RH ad3 H3 locs3 pc3 lsA3 (hag.tr hg3) hP3 hD3 hS3 hv3))
      | inr q =>
        cases q with
        | inl v =>
          cases hrun
          obtain ⟨hrv, hst⟩ := fv_nx_ret S.2.2.2.2.2.2.2.2.2.2.2.2.2.1 en
          obtain ⟨hl, hw, hP, hD, hS, hkc, hks, hbS, hbT⟩ := Dn
          have K := RH ad H locs pc lsA ⟨fun _ _ => rfl, fun _ => rfl, Nat.le_refl _, Nat.zero_le _⟩ hP hD hS hrv
          have hvm : v.toList.map (fv_cv ad) = v.toList := by
            rcases hrv with ⟨x, h, -⟩ | ⟨h, -⟩ <;> rw [h] <;> rfl
          rw [hst, hvm]
          exact W.widen (by omega) (by omega) K
        | inr q =>
          obtain ⟨z, as, np, rest⟩ := q
          dsimp only at hrun
          by_cases hc : (fv_cokb z as ls rest k sh && fv_rcv z as sh) = true
          · rw [if_pos hc] at hrun
            obtain ⟨hc1, hc2⟩ := Bool.and_eq_true_iff.mp hc
            cases e2 : fv_run X n z 0 (as.map some) [] (fv_mc z, fv_ms z) sh M with
            | none => rw [e2] at hrun; cases hrun
            | some r2 =>
              rw [e2] at hrun
              exact fv_call_ok ih S hN hstr hlaw Dn en hc1 hc2 e2 hrun RH
          · rw [if_neg hc] at hrun
            cases hrun
end
