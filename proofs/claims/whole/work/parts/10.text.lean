/-! what the text is: one String constant, of bytes alone -/
def fv_TXS : String := "v0,2;v1,0;v2,3;v3,1;n3;n6;n13;n9;n4;t7;t25;s0,0,4;s0,2,2;s1,1,3;s1,3,5;s1,0,1;w0,0,4;w0,2,6;w1,3,5;w0,1,2;w1,0,7;"
def fv_byt : List Int32 := [118, 48, 44, 50, 59, 118, 49, 44, 48, 59, 118, 50, 44, 51, 59, 118, 51, 44, 49, 59, 110, 51, 59, 110, 54, 59, 110, 49, 51, 59, 110, 57, 59, 110, 52, 59, 116, 55, 59, 116, 50, 53, 59, 115, 48, 44, 48, 44, 52, 59, 115, 48, 44, 50, 44, 50, 59, 115, 49, 44, 49, 44, 51, 59, 115, 49, 44, 51, 44, 53, 59, 115, 49, 44, 48, 44, 49, 59, 119, 48, 44, 48, 44, 52, 59, 119, 48, 44, 50, 44, 54, 59, 119, 49, 44, 51, 44, 53, 59, 119, 48, 44, 49, 44, 50, 59, 119, 49, 44, 48, 44, 55, 59]
def fv_strP (bT : Nat) (A : Nat → Prop) (U : State) (H : Heap) : Prop := vk_R "FamineOfVerbs" 55 fv_TXS bT U ∧ ∃ adK adV : Nat → Nat, adK 0 = bT ∧ vk_S 1 [fv_TXT.length] [fv_byt] adK adV A U H ∧ va_Z "java/lang/String" "COMPACT_STRINGS" "Z" (.int 1) A U H ∧ va_Zq "jdk/internal/util/Preconditions" "SIOOBE_FORMATTER" "Ljava/util/function/BiFunction;" A U H
theorem fv_strP.go {bT : Nat} {A B : Nat → Prop} {s U : State} {H0 H : Heap} (hW : s.WarmedH U.vm) (hq : ∀ a : Nat, a < H0.size → ¬ A a → H[a]? = H0[a]?) (hAB : ∀ q, B q → A q) (h : fv_strP bT A s H0) : fv_strP bT B U H := by
  obtain ⟨h1, adK, adV, h2, h3, h4, h5⟩ := h
  exact ⟨vk_R.warm hW h1, adK, adV, h2, ((h3.moved hW.alike).kept hq).narrow hAB, ((h4.moved hW.alike).kept hq).narrow hAB, ((h5.moved hW.alike).kept hq).narrow hAB⟩
theorem fv_strP.same {bT : Nat} {A : Nat → Prop} {s U : State} {H : Heap} (hv : U.vm = s.vm) (h : fv_strP bT A s H) : fv_strP bT A U H := by
  obtain ⟨h1, adK, adV, h2, h3, h4, h5⟩ := h
  have ha : s.vm.Alike U.vm := by rw [hv]; exact Vm.Alike.refl _
  exact ⟨vk_R.same hv h1, adK, adV, h2, h3.moved ha, h4.moved ha, h5.moved ha⟩
def ft_ypc : MethodName := ⟨"jdk/internal/util/Preconditions", "checkIndex", "(IILjava/util/function/BiFunction;)I"⟩
def ft_rpc : Room := { frames := 0, cells := 0, slots := 0, locals := 0 }
set_option maxRecDepth 100000 in
theorem ft_cpc : Cond.code ft_ypc prog_14_method_11_code 3 (some .int) ∈ fv_GL := fv_GL_in (i := 252) rfl rfl
theorem ft_ipc : Cond.initialized "jdk/internal/util/Preconditions" ∈ fv_GL := fv_GL_in (i := 59) (by decide +kernel) rfl
theorem ft_spc : Cond.static ft_ypc ∈ fv_GL := fv_GL_in (i := 251) (by decide +kernel) rfl
def ft_ysc : MethodName := ⟨"java/lang/String", "checkIndex", "(II)V"⟩
def ft_rsc : Room := { frames := 1, cells := 0, slots := 0, locals := 22 }
set_option maxRecDepth 100000 in
theorem ft_csc : Cond.code ft_ysc prog_11_method_155_code 2 (none) ∈ fv_GL := fv_GL_in (i := 247) rfl rfl
theorem ft_isc : Cond.initialized "java/lang/String" ∈ fv_GL := fv_GL_in (i := 57) (by decide +kernel) rfl
theorem ft_ssc : Cond.static ft_ysc ∈ fv_GL := fv_GL_in (i := 246) (by decide +kernel) rfl
def ft_ylc : MethodName := ⟨"java/lang/StringLatin1", "charAt", "([BI)C"⟩
def ft_rlc : Room := { frames := 2, cells := 0, slots := 0, locals := 43 }
set_option maxRecDepth 100000 in
theorem ft_clc : Cond.code ft_ylc prog_12_method_2_code 2 (some .char) ∈ fv_GL := fv_GL_in (i := 244) rfl rfl
theorem ft_ilc : Cond.initialized "java/lang/StringLatin1" ∈ fv_GL := fv_GL_in (i := 58) (by decide +kernel) rfl
theorem ft_slc : Cond.static ft_ylc ∈ fv_GL := fv_GL_in (i := 243) (by decide +kernel) rfl
def ft_yil : MethodName := ⟨"java/lang/String", "isLatin1", "()Z"⟩
def ft_ril : Room := { frames := 0, cells := 0, slots := 0, locals := 0 }
set_option maxRecDepth 100000 in
theorem ft_cil : Cond.code ft_yil prog_11_method_154_code 1 (some .boolean) ∈ fv_GL := fv_GL_in (i := 241) rfl rfl
theorem ft_iil : Cond.initialized "java/lang/String" ∈ fv_GL := fv_GL_in (i := 57) (by decide +kernel) rfl
theorem ft_sil : Cond.instanceMethod ft_yil ∈ fv_GL := fv_GL_in (i := 239) (by decide +kernel) rfl
theorem ft_vil : Cond.selects "java/lang/String" ft_yil ft_yil ∈ fv_GL := fv_GL_in (i := 240) (by decide +kernel) rfl
def ft_yco : MethodName := ⟨"java/lang/String", "coder", "()B"⟩
def ft_rco : Room := { frames := 0, cells := 0, slots := 0, locals := 0 }
set_option maxRecDepth 100000 in
theorem ft_cco : Cond.code ft_yco prog_11_method_152_code 1 (some .byte) ∈ fv_GL := fv_GL_in (i := 231) rfl rfl
theorem ft_ico : Cond.initialized "java/lang/String" ∈ fv_GL := fv_GL_in (i := 57) (by decide +kernel) rfl
theorem ft_sco : Cond.instanceMethod ft_yco ∈ fv_GL := fv_GL_in (i := 229) (by decide +kernel) rfl
theorem ft_vco : Cond.selects "java/lang/String" ft_yco ft_yco ∈ fv_GL := fv_GL_in (i := 230) (by decide +kernel) rfl
def ft_yca : MethodName := ⟨"java/lang/String", "charAt", "(I)C"⟩
def ft_rca : Room := { frames := 3, cells := 0, slots := 0, locals := 64 }
set_option maxRecDepth 100000 in
theorem ft_cca : Cond.code ft_yca prog_11_method_56_code 2 (some .char) ∈ fv_GL := fv_GL_in (i := 237) rfl rfl
theorem ft_ica : Cond.initialized "java/lang/String" ∈ fv_GL := fv_GL_in (i := 57) (by decide +kernel) rfl
theorem ft_sca : Cond.instanceMethod ft_yca ∈ fv_GL := fv_GL_in (i := 235) (by decide +kernel) rfl
theorem ft_vca : Cond.selects "java/lang/String" ft_yca ft_yca ∈ fv_GL := fv_GL_in (i := 236) (by decide +kernel) rfl
def ft_yle : MethodName := ⟨"java/lang/String", "length", "()I"⟩
def ft_rle : Room := { frames := 1, cells := 0, slots := 0, locals := 20 }
set_option maxRecDepth 100000 in
theorem ft_cle : Cond.code ft_yle prog_11_method_54_code 1 (some .int) ∈ fv_GL := fv_GL_in (i := 227) rfl rfl
theorem ft_ile : Cond.initialized "java/lang/String" ∈ fv_GL := fv_GL_in (i := 57) (by decide +kernel) rfl
theorem ft_sle : Cond.instanceMethod ft_yle ∈ fv_GL := fv_GL_in (i := 225) (by decide +kernel) rfl
theorem ft_vle : Cond.selects "java/lang/String" ft_yle ft_yle ∈ fv_GL := fv_GL_in (i := 226) (by decide +kernel) rfl
theorem ft_la : Cond.methodLink "java/lang/String" 1059 ft_ypc ∈ fv_GL := fv_GL_in (i := 250) (by decide +kernel) rfl
theorem ft_lb : Cond.methodLink "java/lang/StringLatin1" 9 ft_ysc ∈ fv_GL := fv_GL_in (i := 245) (by decide +kernel) rfl
theorem ft_lc : Cond.methodLink "java/lang/String" 495 ft_ylc ∈ fv_GL := fv_GL_in (i := 242) (by decide +kernel) rfl
theorem ft_ld : Cond.methodLink "java/lang/String" 492 ft_yil ∈ fv_GL := fv_GL_in (i := 238) (by decide +kernel) rfl
theorem ft_le : Cond.methodLink "java/lang/String" 335 ft_yco ∈ fv_GL := fv_GL_in (i := 228) (by decide +kernel) rfl
theorem ft_lf : Cond.methodLink "FamineOfVerbs" 63 ft_yca ∈ fv_GL := fv_GL_in (i := 234) (by decide +kernel) rfl
theorem ft_lg : Cond.methodLink "FamineOfVerbs" 57 ft_yle ∈ fv_GL := fv_GL_in (i := 224) (by decide +kernel) rfl
theorem ft_fv : Cond.fieldLink "java/lang/String" 9 "java/lang/String" "value" "[B" ∈ fv_GL := fv_GL_in (i := 1069) (by decide +kernel) rfl
theorem ft_fo : Cond.fieldLink "java/lang/String" 15 "java/lang/String" "coder" "B" ∈ fv_GL := fv_GL_in (i := 1070) (by decide +kernel) rfl
theorem ft_fz : Cond.fieldLink "java/lang/String" 38 "java/lang/String" "COMPACT_STRINGS" "Z" ∈ fv_GL := fv_GL_in (i := 232) (by decide +kernel) rfl
theorem ft_fq : Cond.fieldLink "java/lang/String" 1053 "jdk/internal/util/Preconditions" "SIOOBE_FORMATTER" "Ljava/util/function/BiFunction;" ∈ fv_GL := fv_GL_in (i := 248) (by decide +kernel) rfl
theorem ft_dpc_0 : decode prog_14_method_11_code 0 = .ok (.iload_n 0, 1) := by decide +kernel
theorem ft_dpc_1 : decode prog_14_method_11_code 1 = .ok (.ifCond .lt 8, 3) := by decide +kernel
theorem ft_dpc_4 : decode prog_14_method_11_code 4 = .ok (.iload_n 0, 1) := by decide +kernel
theorem ft_dpc_5 : decode prog_14_method_11_code 5 = .ok (.iload_n 1, 1) := by decide +kernel
theorem ft_dpc_6 : decode prog_14_method_11_code 6 = .ok (.if_icmp .lt 10, 3) := by decide +kernel
theorem ft_dpc_16 : decode prog_14_method_11_code 16 = .ok (.iload_n 0, 1) := by decide +kernel
theorem ft_dpc_17 : decode prog_14_method_11_code 17 = .ok (.ireturn, 1) := by decide +kernel
theorem ft_dsc_0 : decode prog_11_method_155_code 0 = .ok (.iload_n 0, 1) := by decide +kernel
theorem ft_dsc_1 : decode prog_11_method_155_code 1 = .ok (.iload_n 1, 1) := by decide +kernel
theorem ft_dsc_2 : decode prog_11_method_155_code 2 = .ok (.getstatic 1053, 3) := by decide +kernel
theorem ft_dsc_5 : decode prog_11_method_155_code 5 = .ok (.invokestatic 1059, 3) := by decide +kernel
theorem ft_dsc_8 : decode prog_11_method_155_code 8 = .ok (.pop, 1) := by decide +kernel
theorem ft_dsc_9 : decode prog_11_method_155_code 9 = .ok (.return_, 1) := by decide +kernel
theorem ft_dlc_0 : decode prog_12_method_2_code 0 = .ok (.iload_n 1, 1) := by decide +kernel
theorem ft_dlc_1 : decode prog_12_method_2_code 1 = .ok (.aload_n 0, 1) := by decide +kernel
theorem ft_dlc_2 : decode prog_12_method_2_code 2 = .ok (.arraylength, 1) := by decide +kernel
theorem ft_dlc_3 : decode prog_12_method_2_code 3 = .ok (.invokestatic 9, 3) := by decide +kernel
theorem ft_dlc_6 : decode prog_12_method_2_code 6 = .ok (.aload_n 0, 1) := by decide +kernel
theorem ft_dlc_7 : decode prog_12_method_2_code 7 = .ok (.iload_n 1, 1) := by decide +kernel
theorem ft_dlc_8 : decode prog_12_method_2_code 8 = .ok (.baload, 1) := by decide +kernel
theorem ft_dlc_9 : decode prog_12_method_2_code 9 = .ok (.sipush 255, 3) := by decide +kernel
theorem ft_dlc_12 : decode prog_12_method_2_code 12 = .ok (.iand, 1) := by decide +kernel
theorem ft_dlc_13 : decode prog_12_method_2_code 13 = .ok (.i2c, 1) := by decide +kernel
theorem ft_dlc_14 : decode prog_12_method_2_code 14 = .ok (.ireturn, 1) := by decide +kernel
theorem ft_dil_0 : decode prog_11_method_154_code 0 = .ok (.getstatic 38, 3) := by decide +kernel
theorem ft_dil_3 : decode prog_11_method_154_code 3 = .ok (.ifCond .eq 14, 3) := by decide +kernel
theorem ft_dil_6 : decode prog_11_method_154_code 6 = .ok (.aload_n 0, 1) := by decide +kernel
theorem ft_dil_7 : decode prog_11_method_154_code 7 = .ok (.getfield 15, 3) := by decide +kernel
theorem ft_dil_10 : decode prog_11_method_154_code 10 = .ok (.ifCond .ne 7, 3) := by decide +kernel
theorem ft_dil_13 : decode prog_11_method_154_code 13 = .ok (.iconst 1, 1) := by decide +kernel
theorem ft_dil_14 : decode prog_11_method_154_code 14 = .ok (.goto 4, 3) := by decide +kernel
theorem ft_dil_17 : decode prog_11_method_154_code 17 = .ok (.iconst 0, 1) := by decide +kernel
theorem ft_dil_18 : decode prog_11_method_154_code 18 = .ok (.ireturn, 1) := by decide +kernel
theorem ft_dco_0 : decode prog_11_method_152_code 0 = .ok (.getstatic 38, 3) := by decide +kernel
theorem ft_dco_3 : decode prog_11_method_152_code 3 = .ok (.ifCond .eq 10, 3) := by decide +kernel
theorem ft_dco_6 : decode prog_11_method_152_code 6 = .ok (.aload_n 0, 1) := by decide +kernel
theorem ft_dco_7 : decode prog_11_method_152_code 7 = .ok (.getfield 15, 3) := by decide +kernel
theorem ft_dco_10 : decode prog_11_method_152_code 10 = .ok (.goto 4, 3) := by decide +kernel
theorem ft_dco_13 : decode prog_11_method_152_code 13 = .ok (.iconst 1, 1) := by decide +kernel
theorem ft_dco_14 : decode prog_11_method_152_code 14 = .ok (.ireturn, 1) := by decide +kernel
theorem ft_dca_0 : decode prog_11_method_56_code 0 = .ok (.aload_n 0, 1) := by decide +kernel
theorem ft_dca_1 : decode prog_11_method_56_code 1 = .ok (.invokevirtual 492, 3) := by decide +kernel
theorem ft_dca_4 : decode prog_11_method_56_code 4 = .ok (.ifCond .eq 12, 3) := by decide +kernel
theorem ft_dca_7 : decode prog_11_method_56_code 7 = .ok (.aload_n 0, 1) := by decide +kernel
theorem ft_dca_8 : decode prog_11_method_56_code 8 = .ok (.getfield 9, 3) := by decide +kernel
theorem ft_dca_11 : decode prog_11_method_56_code 11 = .ok (.iload_n 1, 1) := by decide +kernel
theorem ft_dca_12 : decode prog_11_method_56_code 12 = .ok (.invokestatic 495, 3) := by decide +kernel
theorem ft_dca_15 : decode prog_11_method_56_code 15 = .ok (.ireturn, 1) := by decide +kernel
theorem ft_dca_16 : decode prog_11_method_56_code 16 = .ok (.aload_n 0, 1) := by decide +kernel
theorem ft_dca_17 : decode prog_11_method_56_code 17 = .ok (.getfield 9, 3) := by decide +kernel
theorem ft_dca_20 : decode prog_11_method_56_code 20 = .ok (.iload_n 1, 1) := by decide +kernel
theorem ft_dca_21 : decode prog_11_method_56_code 21 = .ok (.invokestatic 498, 3) := by decide +kernel
theorem ft_dca_24 : decode prog_11_method_56_code 24 = .ok (.ireturn, 1) := by decide +kernel
theorem ft_dle_0 : decode prog_11_method_54_code 0 = .ok (.aload_n 0, 1) := by decide +kernel
theorem ft_dle_1 : decode prog_11_method_54_code 1 = .ok (.getfield 9, 3) := by decide +kernel
theorem ft_dle_4 : decode prog_11_method_54_code 4 = .ok (.arraylength, 1) := by decide +kernel
theorem ft_dle_5 : decode prog_11_method_54_code 5 = .ok (.aload_n 0, 1) := by decide +kernel
theorem ft_dle_6 : decode prog_11_method_54_code 6 = .ok (.invokevirtual 335, 3) := by decide +kernel
theorem ft_dle_9 : decode prog_11_method_54_code 9 = .ok (.ishr, 1) := by decide +kernel
theorem ft_dle_10 : decode prog_11_method_54_code 10 = .ok (.ireturn, 1) := by decide +kernel
def ft_T (bT tV : Nat) (A : Nat → Prop) (U : State) (H : Heap) : Prop := va_O "java/lang/String" bT A U H ∧ va_OF "java/lang/String" "coder" "B" (.int 0) bT A U H ∧ va_OF "java/lang/String" "value" "[B" (.ref tV) bT A U H ∧ va_T .byte tV fv_TXT.length (fun j => .int (fv_byt.getD j 0)) A U H ∧ va_Z "java/lang/String" "COMPACT_STRINGS" "Z" (.int 1) A U H ∧ va_Zq "jdk/internal/util/Preconditions" "SIOOBE_FORMATTER" "Ljava/util/function/BiFunction;" A U H
theorem ft_T.moved {bT tV : Nat} {A : Nat → Prop} {u U : State} {H : Heap} (hvm : u.vm.Alike U.vm) (h : ft_T bT tV A u H) : ft_T bT tV A U H :=
  ⟨h.1.moved hvm, h.2.1.moved hvm, h.2.2.1.moved hvm, h.2.2.2.1.moved hvm, h.2.2.2.2.1.moved hvm, h.2.2.2.2.2.moved hvm⟩
theorem ft_T.kept {bT tV : Nat} {A : Nat → Prop} {U : State} {H H1 : Heap} (hq : ∀ a : Nat, a < H.size → ¬ A a → H1[a]? = H[a]?) (h : ft_T bT tV A U H) : ft_T bT tV A U H1 :=
  ⟨h.1.kept hq, h.2.1.kept hq, h.2.2.1.kept hq, h.2.2.2.1.kept hq, h.2.2.2.2.1.kept hq, h.2.2.2.2.2.kept hq⟩
theorem ft_met {l : Launch} {y : MethodName} {cc : ByteArray} {maxL : Nat} {ret : Option FieldType} {rm : Room} {av : List Value} {B : State → Prop} {Qc : Array Value → State → Outcome → State → Prop} {own : String} (hown : y.cls = own) (hy : Jvm.plainName y.cls = true) (hlen : (lg_sl av).length ≤ maxL)
    (body : ∀ (p : Program) (e : Env) (s : State) (m : MethodId) (below : List Frame) (meth : Method) (c : Code), p.tables.exec = Jvm.exec → c.code = cc → c.maxLocals = maxL → meth.sig.returnType = ret → meth.locks = false → s.vm.findClass own = some m.cls → (∀ w ∈ fv_GL, w.before av.toArray s = true) → B s → ∀ ls : Array Slot, lv_has ls maxL (lv_args 0 av) → W p l e rm s m av.toArray below meth c s.heap [] 0 0 (MQ below Qc av.toArray s 0 0 (fun _ => False)) (F0 m 0 ls [])) :
    Met l y (Cond.code y cc maxL ret :: fv_GL) rm (va_Pc av B) Qc 0 0 (fun _ => False) := by
  refine Met.ofW (cc := cc) (maxL := maxL) (ret := ret) hy rfl ?_
  intro p e s m args below meth c s₁ Bo hml hv
  obtain ⟨rfl, hB⟩ := hv
  have hl := lv_entry av (n := maxL) hlen
  rw [lg_entry_eq]
  exact body p e s m below meth c Bo.exec Bo.bytes hml Bo.returns Bo.notSynchronized (by rw [← hown]; exact findClass_of_methodNamed Bo.named) (fun w hw => atoms_spec (ws := Cond.code y cc maxL ret :: fv_GL) Bo.pre w (List.mem_cons_of_mem _ hw)) hB _ hl
theorem ft_gw {y : MethodName} {cc : ByteArray} {maxL : Nat} {ret : Option FieldType} (h : Cond.code y cc maxL ret ∈ fv_GL) : ∀ w ∈ (Cond.code y cc maxL ret :: fv_GL), w ∈ fv_GL := fun w hw => by
  rcases List.mem_cons.mp hw with rfl | hw
  · exact h
  · exact hw
theorem ft_gS {own : String} {idx : Nat} {y : MethodName} {cc : ByteArray} {maxL : Nat} {ret : Option FieldType} (h : Cond.code y cc maxL ret ∈ fv_GL) (h1 : Cond.methodLink own idx y ∈ fv_GL) (h2 : Cond.static y ∈ fv_GL) (h3 : Cond.initialized y.cls ∈ fv_GL) : GoodIn fv_GL (va_wsS own idx y (Cond.code y cc maxL ret :: fv_GL)) := fv_good (fun w hw => by
  unfold va_wsS at hw
  rcases List.mem_append.mp hw with hw | hw
  · rcases List.mem_cons.mp hw with rfl | hw
    · exact h1
    · rcases List.mem_cons.mp hw with rfl | hw
      · exact h2
      · rw [List.mem_singleton.mp hw]; exact h3
  · exact ft_gw h w hw)
theorem ft_gV {own : String} {idx : Nat} {C : String} {y : MethodName} {cc : ByteArray} {maxL : Nat} {ret : Option FieldType} (h : Cond.code y cc maxL ret ∈ fv_GL) (h1 : Cond.methodLink own idx y ∈ fv_GL) (h2 : Cond.instanceMethod y ∈ fv_GL) (h3 : Cond.selects C y y ∈ fv_GL) (h4 : Cond.initialized C ∈ fv_GL) : GoodIn fv_GL (wsV own idx C y (Cond.code y cc maxL ret :: fv_GL)) := fv_good (fun w hw => by
  unfold wsV at hw
  rcases List.mem_append.mp hw with hw | hw
  · rcases List.mem_cons.mp hw with rfl | hw
    · exact h1
    · rcases List.mem_cons.mp hw with rfl | hw
      · exact h2
      · rcases List.mem_cons.mp hw with rfl | hw
        · exact h3
        · rw [List.mem_singleton.mp hw]; exact h4
  · exact ft_gw h w hw)
theorem ft_blind {bT tV : Nat} {A : Nat → Prop} {av : List Value} : FrameBlind (va_Pc av (fun U => ft_T bT tV A U U.heap)) := fun a U g mk h => ⟨h.1, h.2.moved (u := U) (U := U.calling g mk a) (Vm.Alike.refl U.vm)⟩
theorem ft_blindT {av : List Value} : FrameBlind (va_Pc av (fun _ => True)) := fun a U g mk h => ⟨h.1, trivial⟩
set_option maxHeartbeats 4000000 in
theorem ft_mpc (l : Launch) (j n : Int32) (o : Option Nat) (h0 : ¬ j < 0) (h1 : j < n) : Met l ft_ypc (Cond.code ft_ypc prog_14_method_11_code 3 (some .int) :: fv_GL) ft_rpc (va_Pc [.int j, .int n, va_rf o] (fun _ => True)) (vp_Si (fun r => r = j)) 0 0 (fun _ => False) := by
  refine ft_met (own := "jdk/internal/util/Preconditions") rfl (by decide) (by cases o <;> exact Nat.le_of_ble_eq_true rfl) ?_
  intro p e s m below meth c hx hb hml hr hlocks hown hts hB ls hl
  have hl : lv_has ls 3 [(0, .int j), (1, .int n)] := fv_lv_sub hl (by cases o <;> (intro q hq; simp only [List.mem_cons, List.not_mem_nil, or_false] at hq; rcases hq with rfl | rfl <;> simp [lv_args, Value.category]))
  refine lv_iload_n hx hb ft_dpc_0 rfl (lv_at hl 0 rfl) ?_
  refine lv_if_lt (tgt := 9) hx hb ft_dpc_1 (by decide) (fun h => absurd h h0) (fun _ => ?_)
  refine lv_iload_n hx hb ft_dpc_4 rfl (lv_at hl 0 rfl) ?_
  refine lv_iload_n hx hb ft_dpc_5 rfl (lv_at hl 1 rfl) ?_
  refine lv_icmp_lt (tgt := 16) hx hb ft_dpc_6 (by decide) (fun _ => ?_) (fun h => absurd h1 h)
  refine lv_iload_n hx hb ft_dpc_16 rfl (lv_at hl 0 rfl) ?_
  exact W.zret (ty := .int) hx hb hr rfl (fun t ht _ => ⟨j, rfl, rfl, ht⟩) (fun _ h => by cases h) ft_dpc_17 hlocks
set_option maxHeartbeats 4000000 in
theorem ft_msc (l : Launch) (bT tV : Nat) (A : Nat → Prop) (j n : Int32) (h0 : ¬ j < 0) (h1 : j < n) : Met l ft_ysc (Cond.code ft_ysc prog_11_method_155_code 2 none :: fv_GL) ft_rsc (va_Pc [.int j, .int n] (fun U => ft_T bT tV A U U.heap)) (va_Sv (fun _ => True)) 0 0 (fun _ => False) := by
  refine ft_met (own := "java/lang/String") rfl (by decide) (Nat.le_of_ble_eq_true rfl) ?_
  intro p e s m below meth c hx hb hml hr hlocks hown hts hB ls hl
  have hl : lv_has ls 2 [(0, .int j), (1, .int n)] := hl
  obtain ⟨t1, t2, t3, t4, t5, t6⟩ := hB
  refine lv_iload_n hx hb ft_dsc_0 rfl (lv_at hl 0 rfl) ?_
  refine lv_iload_n hx hb ft_dsc_1 rfl (lv_at hl 1 rfl) ?_
  have go : ∀ o : Option Nat, W p l e ft_rsc s m ([Value.int j, .int n] : List Value).toArray below meth c s.heap [] 0 0 (MQ below (va_Sv (fun _ => True)) ([Value.int j, .int n] : List Value).toArray s 0 0 (fun _ => False)) (F0 m 5 ls [va_rf o, .int n, .int j]) := by
    intro o
    refine vp_callSi (rest := []) (W.runS (As := [.int j, .int n, va_rf o]) (Ts := fv_GL) (nL := 2) (own := "java/lang/String") ⟨hx, hb, hml, hown, hts⟩ (ft_mpc l j n o h0 h1) (va_cwS 3 hts (ft_gS ft_cpc ft_la ft_spc ft_ipc) rfl rfl rfl ⟨by decide, by decide, by decide +kernel⟩ ⟨Nat.le_of_ble_eq_true rfl, Nat.le_of_ble_eq_true rfl⟩) ⟨ft_blindT, fun U hU hW => ⟨rfl, trivial⟩⟩ rfl rfl hl.1 rfl (lv_room (Nat.le_of_ble_eq_true rfl)) ft_dsc_5 ⟨Nat.zero_le _, Nat.zero_le _⟩) (fun r hr2 => ?_)
    refine lv_pop hx hb ft_dsc_8 rfl ?_
    exact W.vret hx hb hr (fun t ht _ => ⟨rfl, trivial, ht⟩) (fun _ h => by cases h) ft_dsc_9 hlocks
  rcases t6 with t6 | ⟨t, t6⟩
  · refine va_gets hx hb t6 va_S.rf hown (hts _ ft_fq) (fun _ h => h) ft_dsc_2 ?_
    exact go none
  · refine va_gets hx hb t6 va_S.rf hown (hts _ ft_fq) (fun _ h => h) ft_dsc_2 ?_
    exact go (some t)
theorem ft_byte_all : fv_byt.all (fun b => decide (((b &&& 255).toUInt32 % 65536).toInt32 = b) && decide (narrow .char (.int b) = .int b)) = true := by decide +kernel
theorem ft_chr_all : (List.range fv_TXT.length).all (fun k => decide (fv_byt.getD k 0 = Int32.ofNat (fv_TXT.getD k 0))) = true := by decide +kernel
theorem ft_len : fv_TXT.length < 2 ^ 31 := by decide
set_option maxHeartbeats 4000000 in
theorem ft_mlc (l : Launch) (bT tV : Nat) (A : Nat → Prop) (j : Int32) (hj : ¬ (j < 0 ∨ fv_TXT.length ≤ j.toNatClampNeg)) : Met l ft_ylc (Cond.code ft_ylc prog_12_method_2_code 2 (some .char) :: fv_GL) ft_rlc (va_Pc [.ref tV, .int j] (fun U => ft_T bT tV A U U.heap)) (vp_Si (fun r => r = Int32.ofNat (fv_TXT.getD j.toNatClampNeg 0))) 0 0 (fun _ => False) := by
  refine ft_met (own := "java/lang/StringLatin1") rfl (by decide) (Nat.le_of_ble_eq_true rfl) ?_
  intro p e s m below meth c hx hb hml hr hlocks hown hts hB ls hl
  have hl : lv_has ls 2 [(0, .ref tV), (1, .int j)] := hl
  obtain ⟨t1, t2, t3, t4, t5, t6⟩ := id hB
  have h0 : ¬ j < 0 := fun h => hj (Or.inl h)
  have hlt : j.toNatClampNeg < fv_TXT.length := Nat.not_le.mp (fun h => hj (Or.inr h))
  have h1 : j < Int32.ofNat fv_TXT.length := by
    obtain ⟨q, hq, rfl⟩ := nI_of h0
    rw [nI_clamp hq] at hlt
    exact nI_lt hlt ft_len
  refine lv_iload_n hx hb ft_dlc_0 rfl (lv_at hl 1 rfl) ?_
  refine lv_aload_n hx hb ft_dlc_1 rfl (lv_at hl 0 rfl) ?_
  refine va_tlen hx hb t4 va_S.rf rfl ft_dlc_2 ?_
  refine va_csv (rest := []) (W.runS (As := [.int j, .int (Int32.ofNat fv_TXT.length)]) (Ts := fv_GL) (nL := 2) (own := "java/lang/StringLatin1") ⟨hx, hb, hml, hown, hts⟩ (ft_msc l bT tV A j _ h0 h1) (va_cwS 2 hts (ft_gS ft_csc ft_lb ft_ssc ft_isc) rfl rfl rfl ⟨by decide, by decide, by decide +kernel⟩ ⟨Nat.le_of_ble_eq_true rfl, Nat.le_of_ble_eq_true rfl⟩) ⟨ft_blind, fun U hU hW => ⟨rfl, by show ft_T _ _ _ U U.heap; rw [hU]; exact hB.moved hW.alike⟩⟩ rfl rfl hl.1 rfl (lv_room (Nat.le_of_ble_eq_true rfl)) ft_dlc_3 ⟨Nat.zero_le _, Nat.zero_le _⟩) (fun _ => ?_)
  refine lv_aload_n hx hb ft_dlc_6 rfl (lv_at hl 0 rfl) ?_
  refine lv_iload_n hx hb ft_dlc_7 rfl (lv_at hl 1 rfl) ?_
  refine va_tb hx hb t4 va_S.rf hj rfl ft_dlc_8 ?_
  refine lv_sipush (v := 255) hx hb ft_dlc_9 (by decide) ?_
  refine lv_iand hx hb ft_dlc_12 ?_
  refine lv_i2c hx hb ft_dlc_13 rfl ?_
  have hbl : j.toNatClampNeg < fv_byt.length := hlt
  have hm : fv_byt.getD j.toNatClampNeg 0 ∈ fv_byt := by
    rw [List.getD_eq_getElem?_getD, List.getElem?_eq_getElem hbl]
    exact List.getElem_mem hbl
  have hb1 := List.all_eq_true.mp ft_byte_all _ hm
  simp only [Bool.and_eq_true, decide_eq_true_eq] at hb1
  have hb2 := of_decide_eq_true (List.all_eq_true.mp ft_chr_all _ (List.mem_range.mpr hlt))
  rw [hb1.1]
  exact W.zret (ty := .char) hx hb hr hb1.2 (fun t ht _ => ⟨_, rfl, hb2, ht⟩) (fun _ h => by cases h) ft_dlc_14 hlocks
set_option maxHeartbeats 4000000 in
theorem ft_mil (l : Launch) (bT tV : Nat) (A : Nat → Prop) : Met l ft_yil (Cond.code ft_yil prog_11_method_154_code 1 (some .boolean) :: fv_GL) ft_ril (va_Pc [.ref bT] (fun U => ft_T bT tV A U U.heap)) (vp_Si (fun r => r = 1)) 0 0 (fun _ => False) := by
  refine ft_met (own := "java/lang/String") rfl (by decide) (Nat.le_of_ble_eq_true rfl) ?_
  intro p e s m below meth c hx hb hml hr hlocks hown hts hB ls hl
  have hl : lv_has ls 1 [(0, .ref bT)] := hl
  obtain ⟨t1, t2, t3, t4, t5, t6⟩ := id hB
  refine va_gets hx hb t5 va_S.rf hown (hts _ ft_fz) (fun _ h => h) ft_dil_0 ?_
  refine lv_if_eq (tgt := 17) hx hb ft_dil_3 (by decide) (fun h => absurd h (by decide)) (fun _ => ?_)
  refine lv_aload_n hx hb ft_dil_6 rfl (lv_at hl 0 rfl) ?_
  refine vk_getf hx hb t2 va_S.rf hown (hts _ ft_fo) (fun _ h => h) ft_dil_7 ?_
  refine lv_if_ne (tgt := 17) hx hb ft_dil_10 (by decide) (fun h => absurd rfl h) (fun _ => ?_)
  refine lv_iconst (v := 1) hx hb ft_dil_13 (by decide) ?_
  refine lv_goto (tgt := 18) hx hb ft_dil_14 (by decide) ?_
  exact W.zret (ty := .boolean) hx hb hr rfl (fun t ht _ => ⟨1, rfl, rfl, ht⟩) (fun _ h => by cases h) ft_dil_18 hlocks
set_option maxHeartbeats 4000000 in
theorem ft_mco (l : Launch) (bT tV : Nat) (A : Nat → Prop) : Met l ft_yco (Cond.code ft_yco prog_11_method_152_code 1 (some .byte) :: fv_GL) ft_rco (va_Pc [.ref bT] (fun U => ft_T bT tV A U U.heap)) (vp_Si (fun r => r = 0)) 0 0 (fun _ => False) := by
  refine ft_met (own := "java/lang/String") rfl (by decide) (Nat.le_of_ble_eq_true rfl) ?_
  intro p e s m below meth c hx hb hml hr hlocks hown hts hB ls hl
  have hl : lv_has ls 1 [(0, .ref bT)] := hl
  obtain ⟨t1, t2, t3, t4, t5, t6⟩ := id hB
  refine va_gets hx hb t5 va_S.rf hown (hts _ ft_fz) (fun _ h => h) ft_dco_0 ?_
  refine lv_if_eq (tgt := 13) hx hb ft_dco_3 (by decide) (fun h => absurd h (by decide)) (fun _ => ?_)
  refine lv_aload_n hx hb ft_dco_6 rfl (lv_at hl 0 rfl) ?_
  refine vk_getf hx hb t2 va_S.rf hown (hts _ ft_fo) (fun _ h => h) ft_dco_7 ?_
  refine lv_goto (tgt := 14) hx hb ft_dco_10 (by decide) ?_
  exact W.zret (ty := .byte) hx hb hr rfl (fun t ht _ => ⟨0, rfl, rfl, ht⟩) (fun _ h => by cases h) ft_dco_14 hlocks
theorem ft_recv {bT tV : Nat} {A : Nat → Prop} {s : State} {H : Heap} (h : ft_T bT tV A s H) : ∃ cell : Cell, H[bT]? = some cell ∧ cell.vm.isStatics = false ∧ s.vm.findClass "java/lang/String" = some cell.cls := by
  obtain ⟨cell, h1, h2, h3, -⟩ := h.1
  exact ⟨cell, h1, h2, h3⟩
set_option maxHeartbeats 4000000 in
theorem ft_mle (l : Launch) (bT tV : Nat) (A : Nat → Prop) : Met l ft_yle (Cond.code ft_yle prog_11_method_54_code 1 (some .int) :: fv_GL) ft_rle (va_Pc [.ref bT] (fun U => ft_T bT tV A U U.heap)) (vp_Si (fun r => r = Int32.ofNat fv_TXT.length)) 0 0 (fun _ => False) := by
  refine ft_met (own := "java/lang/String") rfl (by decide) (Nat.le_of_ble_eq_true rfl) ?_
  intro p e s m below meth c hx hb hml hr hlocks hown hts hB ls hl
  have hl : lv_has ls 1 [(0, .ref bT)] := hl
  obtain ⟨t1, t2, t3, t4, t5, t6⟩ := id hB
  refine lv_aload_n hx hb ft_dle_0 rfl (lv_at hl 0 rfl) ?_
  refine vk_getf hx hb t3 va_S.rf hown (hts _ ft_fv) (fun _ h => h) ft_dle_1 ?_
  refine va_tlen hx hb t4 va_S.rf rfl ft_dle_4 ?_
  refine lv_aload_n hx hb ft_dle_5 rfl (lv_at hl 0 rfl) ?_
  refine vp_callSi (rest := [.int (Int32.ofNat fv_TXT.length)]) (W.runV (As := []) (C := "java/lang/String") (Ts := fv_GL) (nL := 1) (own := "java/lang/String") ⟨hx, hb, hml, hown, hts⟩ (ft_mco l bT tV A) (cwV 0 hts (ft_gV ft_cco ft_le ft_sco ft_vco ft_ico) rfl rfl rfl ⟨rfl, by decide, by decide, by decide +kernel⟩ ⟨Nat.le_of_ble_eq_true rfl, Nat.le_of_ble_eq_true rfl⟩) ⟨ft_blind, ft_recv hB, fun U hU hW => ⟨rfl, by show ft_T _ _ _ U U.heap; rw [hU]; exact hB.moved hW.alike⟩⟩ rfl rfl hl.1 rfl (lv_room (Nat.le_of_ble_eq_true rfl)) ft_dle_6 ⟨Nat.zero_le _, Nat.zero_le _⟩) (fun r hr2 => ?_)
  subst hr2
  refine lv_ishr hx hb ft_dle_9 ?_
  rw [show Int32.ofNat fv_TXT.length >>> ((0 : Int32) &&& 31) = Int32.ofNat fv_TXT.length by decide +kernel]
  exact W.zret (ty := .int) hx hb hr rfl (fun t ht _ => ⟨_, rfl, rfl, ht⟩) (fun _ h => by cases h) ft_dle_10 hlocks
set_option maxHeartbeats 4000000 in
theorem ft_mca (l : Launch) (bT tV : Nat) (A : Nat → Prop) (j : Int32) (hj : ¬ (j < 0 ∨ fv_TXT.length ≤ j.toNatClampNeg)) : Met l ft_yca (Cond.code ft_yca prog_11_method_56_code 2 (some .char) :: fv_GL) ft_rca (va_Pc [.ref bT, .int j] (fun U => ft_T bT tV A U U.heap)) (vp_Si (fun r => r = Int32.ofNat (fv_TXT.getD j.toNatClampNeg 0))) 0 0 (fun _ => False) := by
  refine ft_met (own := "java/lang/String") rfl (by decide) (Nat.le_of_ble_eq_true rfl) ?_
  intro p e s m below meth c hx hb hml hr hlocks hown hts hB ls hl
  have hl : lv_has ls 2 [(0, .ref bT), (1, .int j)] := hl
  obtain ⟨t1, t2, t3, t4, t5, t6⟩ := id hB
  refine lv_aload_n hx hb ft_dca_0 rfl (lv_at hl 0 rfl) ?_
  refine vp_callSi (rest := []) (W.runV (As := []) (C := "java/lang/String") (Ts := fv_GL) (nL := 2) (own := "java/lang/String") ⟨hx, hb, hml, hown, hts⟩ (ft_mil l bT tV A) (cwV 0 hts (ft_gV ft_cil ft_ld ft_sil ft_vil ft_iil) rfl rfl rfl ⟨rfl, by decide, by decide, by decide +kernel⟩ ⟨Nat.le_of_ble_eq_true rfl, Nat.le_of_ble_eq_true rfl⟩) ⟨ft_blind, ft_recv hB, fun U hU hW => ⟨rfl, by show ft_T _ _ _ U U.heap; rw [hU]; exact hB.moved hW.alike⟩⟩ rfl rfl hl.1 rfl (lv_room (Nat.le_of_ble_eq_true rfl)) ft_dca_1 ⟨Nat.zero_le _, Nat.zero_le _⟩) (fun r hr2 => ?_)
  subst hr2
  refine lv_if_eq (tgt := 16) hx hb ft_dca_4 (by decide) (fun h => absurd h (by decide)) (fun _ => ?_)
  refine lv_aload_n hx hb ft_dca_7 rfl (lv_at hl 0 rfl) ?_
  refine vk_getf hx hb t3 va_S.rf hown (hts _ ft_fv) (fun _ h => h) ft_dca_8 ?_
  refine lv_iload_n hx hb ft_dca_11 rfl (lv_at hl 1 rfl) ?_
  refine vp_callSi (rest := []) (W.runS (As := [.ref tV, .int j]) (Ts := fv_GL) (nL := 2) (own := "java/lang/String") ⟨hx, hb, hml, hown, hts⟩ (ft_mlc l bT tV A j hj) (va_cwS 2 hts (ft_gS ft_clc ft_lc ft_slc ft_ilc) rfl rfl rfl ⟨by decide, by decide, by decide +kernel⟩ ⟨Nat.le_of_ble_eq_true rfl, Nat.le_of_ble_eq_true rfl⟩) ⟨ft_blind, fun U hU hW => ⟨rfl, by show ft_T _ _ _ U U.heap; rw [hU]; exact hB.moved hW.alike⟩⟩ rfl rfl hl.1 rfl (lv_room (Nat.le_of_ble_eq_true rfl)) ft_dca_12 ⟨Nat.zero_le _, Nat.zero_le _⟩) (fun r hr2 => ?_)
  have hn : narrow .char (.int r) = .int r := by
    have hlt : j.toNatClampNeg < fv_TXT.length := Nat.not_le.mp (fun h => hj (Or.inr h))
    have hbl : j.toNatClampNeg < fv_byt.length := hlt
    have hm : fv_byt.getD j.toNatClampNeg 0 ∈ fv_byt := by
      rw [List.getD_eq_getElem?_getD, List.getElem?_eq_getElem hbl]
      exact List.getElem_mem hbl
    have hb1 := List.all_eq_true.mp ft_byte_all _ hm
    simp only [Bool.and_eq_true, decide_eq_true_eq] at hb1
    have hb2 := of_decide_eq_true (List.all_eq_true.mp ft_chr_all _ (List.mem_range.mpr hlt))
    rw [hr2, ← hb2]
    exact hb1.2
  exact W.zret (ty := .char) hx hb hr hn (fun t ht _ => ⟨r, rfl, hr2, ht⟩) (fun _ h => by cases h) ft_dca_15 hlocks
section
variable {X : fv_X} {bS bT : Nat} {p : Program} {l : Launch} {e : Env} {R : Room} {s : State} {m : MethodId} {args : Array Value} {below : List Frame} {meth : Method} {c : Code} {Q : State → Prop} {y : Nat} {D : va_G} {tc : Nat → ClassId} {A : Nat → Prop} {mc ms : Nat}
set_option maxHeartbeats 4000000 in
theorem fv_str_ok (S : fv_St X bS p R s m args meth c y D tc A mc ms) (hyx : y = fv_XI) (hp : fv_strP bT A s s.heap) : fv_strL p l e R s m args below meth c bT ∧ fv_strR p l e R s m args below meth c A bT := by
  subst hyx
  obtain ⟨hx, hb, hml, hown, hts, hAO, hnm, hK, hA, hRc, hRs, hRf, hRl, hy, hscr⟩ := S
  obtain ⟨h1, adK, adV, rfl, h3, h4, h5⟩ := hp
  have hown : s.vm.findClass "FamineOfVerbs" = some m.cls := hown
  have hRf : 6 ≤ R.frames := hRf
  have hRl : 142 ≤ R.locals := hRl
  have hT : ft_T (adK 0) (adV 0) A s s.heap := ⟨(h3.1 0 (by decide)).1, (h3.1 0 (by decide)).2.1, (h3.1 0 (by decide)).2.2.1, (h3.1 0 (by decide)).2.2.2, h4, h5⟩
  refine ⟨fun Q H locs cells slots pc ls rest hd k => va_ldcS hx hb hown h1 (by rw [← hb]; exact hd) k, fun Q H locs cells slots pc ls rest hS hls hc hs h8 => ?_⟩
  have hTH := hT.kept hS.2.1
  refine ⟨fun hd k => ?_, fun j hj hd k => ?_⟩
  · refine vp_callSi (rest := rest) (W.runV (As := []) (C := "java/lang/String") (Ts := fv_GL) (nL := fv_ml fv_XI) (own := "FamineOfVerbs") ⟨hx, hb, hml, hown, hts⟩ (ft_mle _ (adK 0) (adV 0) A) (cwV 0 hts (ft_gV ft_cle ft_lg ft_sle ft_vle ft_ile) rfl rfl rfl ⟨rfl, by decide, by decide, by decide +kernel⟩ ⟨by show 1 + 1 ≤ _; omega, by show 8 + (1 + 11) + 20 ≤ _; omega⟩) ⟨ft_blind, ft_recv hTH, fun U hU hW => ⟨rfl, by show ft_T _ _ _ U U.heap; rw [hU]; exact hTH.moved hW.alike⟩⟩ rfl rfl (hls.trans hml) rfl (lv_room h8) (by rw [← hb]; exact hd) ⟨hc, hs⟩) (fun r hr2 => ?_)
    subst hr2
    exact k locs hS
  · refine vp_callSi (rest := rest) (W.runV (As := [.int j]) (C := "java/lang/String") (Ts := fv_GL) (nL := fv_ml fv_XI) (own := "FamineOfVerbs") ⟨hx, hb, hml, hown, hts⟩ (ft_mca _ (adK 0) (adV 0) A j hj) (cwV 1 hts (ft_gV ft_cca ft_lf ft_sca ft_vca ft_ica) rfl rfl rfl ⟨rfl, by decide, by decide, by decide +kernel⟩ ⟨by show 3 + 1 ≤ _; omega, by show 8 + (2 + 11) + 64 ≤ _; omega⟩) ⟨ft_blind, ft_recv hTH, fun U hU hW => ⟨rfl, by show ft_T _ _ _ U U.heap; rw [hU]; exact hTH.moved hW.alike⟩⟩ rfl rfl (hls.trans hml) rfl (lv_room h8) (by rw [← hb]; exact hd) ⟨hc, hs⟩) (fun r hr2 => ?_)
    subst hr2
    exact k locs hS
end
