/-! what the text is: one String constant, of bytes alone -/
def fv_TXS : String := "v0,2;v1,0;v2,3;v3,1;n3;n6;n13;n9;n4;t7;t25;s0,0,4;s0,2,2;s1,1,3;s1,3,5;s1,0,1;w0,0,4;w0,2,6;w1,3,5;w0,1,2;w1,0,7;"
def fv_byt : List Int32 := [118, 48, 44, 50, 59, 118, 49, 44, 48, 59, 118, 50, 44, 51, 59, 118, 51, 44, 49, 59, 110, 51, 59, 110, 54, 59, 110, 49, 51, 59, 110, 57, 59, 110, 52, 59, 116, 55, 59, 116, 50, 53, 59, 115, 48, 44, 48, 44, 52, 59, 115, 48, 44, 50, 44, 50, 59, 115, 49, 44, 49, 44, 51, 59, 115, 49, 44, 51, 44, 53, 59, 115, 49, 44, 48, 44, 49, 59, 119, 48, 44, 48, 44, 52, 59, 119, 48, 44, 50, 44, 54, 59, 119, 49, 44, 51, 44, 53, 59, 119, 48, 44, 49, 44, 50, 59, 119, 49, 44, 48, 44, 55, 59]
def fv_strP (bT : Nat) (A : Nat → Prop) (U : State) (H : Heap) : Prop := vk_R "FamineOfVerbs" 55 fv_TXS bT U ∧ ∃ adK adV : Nat → Nat, adK 0 = bT ∧ vk_S 1 [fv_TXT.length] [fv_byt] adK adV A U H ∧ va_Z "java/lang/String" "COMPACT_STRINGS" "Z" (.int 1) A U H ∧ va_Zq "jdk/internal/util/Preconditions" "SIOOBE_FORMATTER" "Ljava/util/function/BiFunction;" A U H
theorem fv_strP.go {bT : Nat} {A B : Nat → Prop} {s U : State} {H0 H : Heap} (hW : s.WarmedH U.vm) (hq : ∀ a : Nat, a < H0.size → ¬ A a → H[a]? = H0[a]?) (hAB : ∀ q, B q → A q) (h : fv_strP bT A s H0) : fv_strP bT B U H := by
  obtain ⟨h1, adK, adV, h2, h3, h4, h5⟩ := h
  exact ⟨vk_R.warm hW h1, adK, adV, h2, ((h3.moved hW.alike).kept hq).narrow hAB, ((h4.moved hW.alike).kept hq).narrow hAB, ((h5.moved hW.alike).kept hq).narrow hAB⟩
theorem fv_strP.same {bT : Nat} {A : Nat → Prop} {s U : State} {H : Heap} (hv : U.vm = s.vm) (h : fv_strP bT A s H) : fv_strP bT A U H := by
  obtain ⟨h1, adK, adV, h2, h3, h4, h5⟩ := h
  have ha : s.vm.Alike U.vm := by rw [hv]; exact Vm.Alike.refl _
  exact ⟨vk_R.same hv h1, adK, adV, h2, h3.moved ha, h4.moved ha, h5.moved ha⟩
section
variable {X : fv_X} {bS bT : Nat} {p : Program} {l : Launch} {e : Env} {R : Room} {s : State} {m : MethodId} {args : Array Value} {below : List Frame} {meth : Method} {c : Code} {Q : State → Prop} {y : Nat} {D : va_G} {tc : Nat → ClassId} {A : Nat → Prop} {mc ms : Nat}
theorem fv_str_ok (S : fv_St X bS p R s m args meth c y D tc A mc ms) (hyx : y = fv_XI) (hp : fv_strP bT A s s.heap) : fv_strL p l e R s m args below meth c bT ∧ fv_strR p l e R s m args below meth c A bT := by
  sorry
end
