/-! the law's entry: what the Statement gives, as the linked program's start; its end as the claim has it -/
def fw_c (j : Nat) : Cond := Cond.eq (.elem (.field (.string "FamineOfVerbs" 55) "java/lang/String" "value" "[B") (.int (Int32.ofNat j))) (.int (fv_byt.getD j 0))
theorem fw_c_all : (List.range 113).all (fun j => decide ((flatC (Jvm.Cond.and given_1 narrow_1))[13 + j]? = some (fw_c j))) = true := by decide +kernel
theorem fw_c_in {j : Nat} (h : j < 113) : fw_c j ∈ flatC (Jvm.Cond.and given_1 narrow_1) := List.mem_of_getElem? (of_decide_eq_true (List.all_eq_true.mp fw_c_all j (List.mem_range.mpr h)))
theorem fw_str {s : State} {b : Nat} (hts : ∀ w ∈ lw_tbl, w.before #[Value.ref b] s = true) (hgv : (Jvm.Cond.and given_1 narrow_1).before #[Value.ref b] s = true) : ∃ bT, fv_strP bT (fun q => s.heap.size ≤ q) s s.heap := by
  have hs := flat_of_before _ hgv
  have hA : ∀ a : Nat, a < s.heap.size → ¬ s.heap.size ≤ a := fun a h => Nat.not_le.mpr h
  have h9 := hs (.exactly (.string "FamineOfVerbs" 55) "java/lang/String") (List.mem_of_getElem? (i := 9) (by decide +kernel))
  have h10 := hs (.eq (.field (.string "FamineOfVerbs" 55) "java/lang/String" "coder" "B") (.int 0)) (List.mem_of_getElem? (i := 10) (by decide +kernel))
  have h11 := hs (.arrayOf (.field (.string "FamineOfVerbs" 55) "java/lang/String" "value" "[B") .byte) (List.mem_of_getElem? (i := 11) (by decide +kernel))
  have h12 := hs (.eq (.length (.field (.string "FamineOfVerbs" 55) "java/lang/String" "value" "[B")) (.int 113)) (List.mem_of_getElem? (i := 12) (by decide +kernel))
  have h4 := hs (.eq (.static "java/lang/String" "COMPACT_STRINGS" "Z") (.int 1)) (List.mem_of_getElem? (i := 4) (by decide +kernel))
  have h5 := hs (.isRef (.static "jdk/internal/util/Preconditions" "SIOOBE_FORMATTER" "Ljava/util/function/BiFunction;")) (List.mem_of_getElem? (i := 5) (by decide +kernel))
  have t223 := hts (.stringRef "FamineOfVerbs" 55 fv_TXS) (List.mem_of_getElem? (i := 223) (by decide +kernel))
  have t233 := hts (.laysStatic "java/lang/String" "COMPACT_STRINGS" "Z") (List.mem_of_getElem? (i := 233) (by decide +kernel))
  have t249 := hts (.laysStatic "jdk/internal/util/Preconditions" "SIOOBE_FORMATTER" "Ljava/util/function/BiFunction;") (List.mem_of_getElem? (i := 249) (by decide +kernel))
  have t57 := hts (.initialized "java/lang/String") (List.mem_of_getElem? (i := 57) (by decide +kernel))
  have t59 := hts (.initialized "jdk/internal/util/Preconditions") (List.mem_of_getElem? (i := 59) (by decide +kernel))
  obtain ⟨adK, adV, hS, hE⟩ := vk_Sof (args := #[Value.ref b]) (s := s) (N := 1) (tm := fun _ => .string "FamineOfVerbs" 55) (len := [fv_TXT.length]) (byt := [fv_byt]) (A := fun q => s.heap.size ≤ q)
    (fun i hi => by have : i = 0 := by omega
                    subst this
                    decide)
    (fun i hi => h9) (fun i hi => h10) (fun i hi => h11)
    (fun i hi => by have : i = 0 := by omega
                    subst this
                    exact h12)
    (fun i hi j hj => by have : i = 0 := by omega
                         subst this
                         exact hs _ (fw_c_in hj))
    (fun i j hi hj h => absurd (by omega) h) hA
  exact ⟨adK 0, vk_R.of t223 (hE 0 (by omega)), adK, adV, rfl, hS, va_Zof t233 t57 (va_eqi h4) hA, va_Zqof t249 t59 h5 hA⟩
theorem fw_arr {s : State} {b : Nat} {ty : FieldType} (hr : ∀ c : ClassId, s.vm.findClass ("[" ++ ty.toString) = some c → va_RA s c ty) (h : (Cond.arrayClass ty).before #[Value.ref b] s = true) : ∃ c : ClassId, ArrOfT s c ty ∧ va_RA s c ty := by
  obtain ⟨c, kA, comp, h1, h2, h3⟩ := Cond.arrayClass_spec h
  exact ⟨c, fun n z => ⟨fun k h => (by cases h), kA, h2, comp, h3⟩, hr c h1⟩
theorem fw_K {s : State} {b : Nat} (hts : ∀ w ∈ lw_tbl, w.before #[Value.ref b] s = true) : ∃ (D : va_G) (tc : Nat → ClassId), va_K D fv_kinds (fv_tys tc) s := by
  have hG : ∀ w ∈ fv_GL, w.before #[Value.ref b] s = true := fun w hw => hts w (List.mem_filter.mp hw).1
  have hk : ∀ ci : Nat, ∃ q : ClassId × (Nat → Nat), ci < 7 → u_Kn s (fv_RN ci) (fv_T ci) (fv_NF ci) q.1 q.2 := by
    intro ci
    by_cases h : ci < 7
    · have h1 := List.all_eq_true.mp fv_inst_all ci (List.mem_range.mpr h)
      simp only [Bool.and_eq_true, decide_eq_true_eq] at h1
      obtain ⟨cC, iS, hK⟩ := u_known (C := fv_RN ci) (T := fv_T ci) (N := fv_NF ci) (n := fv_NF ci) hG (fv_lay_in h) (hts _ (List.mem_of_getElem? h1.1))
      exact ⟨(cC, iS), fun _ => hK⟩
    · exact ⟨((default : ClassId), fun _ => 0), fun q => absurd q h⟩
  obtain ⟨f, hf⟩ := Classical.axiomOfChoice hk
  obtain ⟨c0, a0⟩ := fw_arr (ty := .int) (fun c h => h) (hG _ fv_ac_int)
  obtain ⟨c1, a1⟩ := fw_arr (ty := .boolean) (fun c h => h) (hG _ fv_ac_boolean)
  obtain ⟨c2, a2⟩ := fw_arr (ty := .char) (fun c h => h) (hG _ fv_ac_char)
  obtain ⟨comp, c3, kA, h1, -, h3, h4, h5⟩ := Cond.arrayOver_spec (hts _ fv_ao)
  refine ⟨(fun ci => (f ci).1, fun ci => (f ci).2), fun t => if t = 0 then c0 else if t = 1 then c1 else if t = 2 then c2 else c3, fun c q hq => ?_, fun k q hq => ?_⟩
  · have hlt : c < 7 := (List.getElem?_eq_some_iff.mp hq).1
    rw [fv_kind_at c hlt] at hq
    cases hq
    exact hf c hlt
  · match k, hq with
    | 0, hq => cases hq; exact a0
    | 1, hq => cases hq; exact a1
    | 2, hq => cases hq; exact a2
    | 3, hq => cases hq; exact ⟨fun n z => ⟨fun k h => (by cases h), kA, h3, comp, h4⟩, kA, comp, h3, h4, h1, h5⟩
    | k + 4, hq => simp [fv_tys] at hq
set_option maxHeartbeats 4000000 in
set_option maxRecDepth 100000 in
theorem fw_start {p : Program} {e : Env} {s : State} {m : MethodId} {below : List Frame} {meth : Method} {c : Code} (l : Launch) {b L : Nat} {xs : Nat → Int32} (C0 : lw_At p s m meth c b L xs) {sh : fv_Sh} {M : fv_M} (hrun : fv_Rn (L, xs) 168 0 [some (.ref fv_SCR)] [] (600000, 7302250) [] (fun _ _ => 0) (some (.int 1), sh, M)) : W p l e room_1 s m #[Value.ref b] below meth c s.heap [] 0 0 (lw_Z below #[Value.ref b] s) (entryFrame m ([Value.ref b] : List Value).toArray 4) := by
  obtain ⟨hx, hb, hr, hml, hown, hts, hX, hbl, hlocks, hgv⟩ := id C0
  obtain ⟨n, hrun⟩ := hrun
  obtain ⟨D, tc, hK⟩ := fw_K hts
  obtain ⟨bT, hstr⟩ := fw_str hts hgv
  have hG : ∀ w ∈ fv_GL, w.before #[Value.ref b] s = true := fun w hw => hts w (List.mem_filter.mp hw).1
  have hl := lv_entry ([.ref b]) (n := 4) (Nat.le_of_ble_eq_true rfl)
  rw [lg_entry_eq]
  generalize (lg_sl ([.ref b]) ++ List.replicate (4 - (lg_sl ([.ref b])).length) Slot.unset).toArray = ls at hl ⊢
  have hl : lv_has ls 4 [(0, .ref b)] := hl
  refine fv_sound (L, xs) l n b bT p e room_1 s m #[.ref b] below meth c (lw_Z below #[Value.ref b] s) 168 D tc (fun q => s.heap.size ≤ q) 600000 7302250 0 [some (.ref fv_SCR)] [] (600000, 7302250) [] (fun _ _ => 0) _ (fun q => if q = fv_SCR then b else bT) s.heap [] 0 0 ls ?_ ?_ (fun h => absurd h (by decide)) (fun _ => hstr) ?_ hrun ?_
  · exact ⟨hx, hb, hml, hown, hG, hts _ fv_ao, fun q => absurd rfl q, hK, fun _ h => h, Nat.le_refl _, Nat.le_refl _, Nat.le_of_ble_eq_true rfl, Nat.le_of_ble_eq_true rfl, by omega, fun _ => ⟨hX, hbl, Nat.not_le.mpr hbl⟩⟩
  · intro w hw
    exact va_Nw.of (fv_nests_on w hw) (hts w (fv_nests_in w hw))
  · refine ⟨hl, ?_, fun k q h => by simp [fv_w] at h, ⟨fun i j p q h => by simp [fv_w] at h, fun k q h => by simp [fv_w] at h⟩, va_S.rf, Nat.le_of_ble_eq_true rfl, Nat.le_of_ble_eq_true rfl, if_pos rfl, if_neg (by decide)⟩
    intro i v h hc
    match i, h with
    | 0, h => cases h; exact absurd hc (by decide)
    | i + 1, h => simp at h
  · intro ad' H' locs' pc' lsA' hag hP hD hS hv
    rcases hv with ⟨x, hx1, -, hdg⟩ | ⟨h, -⟩
    · exact va_forget (fun q hq => hS.2.2 q hq) (lw_ret hx hb hr hlocks hdg)
    · cases h
