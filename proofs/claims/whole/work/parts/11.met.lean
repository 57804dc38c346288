/-! methods by contract, all at once, by induction on the steps -/
theorem fv_mfacts {z : Nat} (h : z < 168) : Cond.initialized (fv_y z).cls ∈ fv_GL ∧ (fv_st z = true → Cond.static (fv_y z) ∈ fv_GL) ∧ (fv_st z = false → Cond.instanceMethod (fv_y z) ∈ fv_GL ∧ ((fv_y z).name = "<init>" ∨ Cond.selects (fv_y z).cls (fv_y z) (fv_y z) ∈ fv_GL)) ∧ (fv_y z).cls ≠ "java/lang/invoke/MethodHandle" ∧ (fv_y z).cls ≠ "java/lang/invoke/VarHandle" ∧ Jvm.plainName (fv_y z).cls = true ∧ (fv_y z).cls = fv_RN (fv_ow z) ∧ (parseMethodDescriptor (fv_y z).desc).map (fun d => d.parameters.length + if fv_st z then 0 else 1) = some (fv_np z) := by
  have h1 := List.all_eq_true.mp fv_mk_all (fv_g z) (fv_g_mem h)
  unfold fv_mchk at h1
  simp only [Bool.and_eq_true, decide_eq_true_eq] at h1
  obtain ⟨⟨⟨⟨⟨⟨a1, a2⟩, a3⟩, a4⟩, a5⟩, a6⟩, a7⟩ := h1
  refine ⟨fv_GL_in a1 rfl, fun hs => ?_, fun hs => ?_, a3, a4, a5, a6, a7⟩
  · have hs2 : (fv_g z).2.2.2.2.2.2.2.2.2.2.1 = true := hs
    rw [if_pos hs2] at a2
    exact fv_GL_in (of_decide_eq_true a2) rfl
  · have hs2 : (fv_g z).2.2.2.2.2.2.2.2.2.2.1 = false := hs
    rw [if_neg (by rw [hs2]; exact Bool.false_ne_true)] at a2
    simp only [Bool.and_eq_true, Bool.or_eq_true, decide_eq_true_eq] at a2
    exact ⟨fv_GL_in a2.1 rfl, a2.2.imp id (fun q => fv_GL_in q rfl)⟩
theorem fv_nml_all : (List.range 168).all (fun z => decide (fv_np z ≤ fv_ml z)) = true := by decide +kernel
theorem fv_xi_all : (List.range 168).all (fun y => (fv_rows.getD y []).all (fun r => decide (r.2.2.2 ≠ .invokestatic fv_XI))) = true := by decide +kernel
theorem fv_xi_law {y pc np : Nat} (hy : y < 169) (h : fv_lk y pc = some (.invokestatic fv_XI, np)) : y = fv_LAW := by
  rcases Nat.lt_or_ge y 168 with g | g
  · exfalso
    unfold fv_lk at h
    cases e : (fv_rows.getD y []).find? (fun r => r.1 == pc) with
    | none => rw [e] at h; cases h
    | some r =>
      rw [e] at h
      have h2 := List.mem_of_find?_eq_some e
      have h3 := List.all_eq_true.mp (List.all_eq_true.mp fv_xi_all y (List.mem_range.mpr g)) r h2
      simp only [Option.map_some, Option.some.injEq, Prod.mk.injEq] at h
      exact (of_decide_eq_true h3) h.1
  · exact Nat.le_antisymm (by show y ≤ 168; omega) g
def fv_Pc (D : va_G) (tc : Nat → ClassId) (ad : Nat → Nat) (as : List Value) (sh : fv_Sh) (M : fv_M) (sz z bT : Nat) : Array Value → State → Prop := va_Pc (as.map (fv_cv ad)) (fun U => U.heap.size = sz ∧ va_P D fv_kinds (fv_w ad tc sh M) U.heap ∧ va_K D fv_kinds (fv_tys tc) U ∧ va_D (fun _ => True) (fv_w ad tc sh M) ∧ (∀ w ∈ fv_nests, va_Nw w U) ∧ va_AO (fv_RN 3) U ∧ (z = fv_XI → fv_strP bT (va_A (fv_w ad tc sh M) sz) U U.heap))
def fv_Qc (D : va_G) (tc : Nat → ClassId) (ad : Nat → Nat) (r : fv_R) (sh : fv_Sh) (k : Nat × Nat) (A : Nat → Prop) : Array Value → State → Outcome → State → Prop := fun _ st oc t => (∃ ad' : Nat → Nat, oc = .returned r.1 ∧ (r.1 = none ∨ ∃ x : Int32, r.1 = some (.int x)) ∧ fv_agr ad ad' k (0, 0) sh r.2.1 ∧ va_P D fv_kinds (fv_w ad' tc r.2.1 r.2.2) t.heap ∧ va_D A (fv_w ad' tc r.2.1 r.2.2)) ∧ va_F A st t
theorem fv_nests_on : ∀ w ∈ fv_nests, w.onTables = true := by
  intro w h
  obtain ⟨q, -, rfl⟩ := List.mem_map.mp h
  rfl
theorem fv_nests_warm {s U : State} (hW : s.WarmedH U.vm) (h : ∀ w ∈ fv_nests, va_Nw w s) : ∀ w ∈ fv_nests, va_Nw w U := by
  intro w hw
  have h1 := h w hw
  obtain ⟨q, -, rfl⟩ := List.mem_map.mp hw
  exact va_Nw.warmM hW h1
theorem fv_Pc_blind {D : va_G} {tc : Nat → ClassId} {ad : Nat → Nat} {as : List Value} {sh : fv_Sh} {M : fv_M} {sz z bT : Nat} : FrameBlind (fv_Pc D tc ad as sh M sz z bT) := by
  intro a U g mk h
  obtain ⟨h0, h1, h2, h3, h4, h5, h6, h7⟩ := h
  exact ⟨h0, h1, h2, va_K.moved (u := U) (U := U.calling g mk a) (Vm.Alike.refl U.vm) h3, h4, fun w hw => va_Nw.same (u := U) (U := U.calling g mk a) (fv_nests_on w hw) rfl (h5 w hw), va_AO.moved (u := U) (U := U.calling g mk a) (Vm.Alike.refl U.vm) h6, fun q => fv_strP.same (U := U.calling g mk a) rfl (h7 q)⟩
/-- how a method ends -/
def fv_RV (y pc : Nat) (v : Option Value) : Prop := (∃ x : Int32, v = some (.int x) ∧ fv_rok (fv_rt y) x = true ∧ decode (fv_cc y) pc = .ok (.ireturn, 1)) ∨ (v = none ∧ fv_rt y = none ∧ decode (fv_cc y) pc = .ok (.return_, 1))
def fv_RH (p : Program) (l : Launch) (e : Env) (R : Room) (s : State) (m : MethodId) (args : Array Value) (below : List Frame) (meth : Method) (c : Code) (Q : State → Prop) (y : Nat) (D : va_G) (tc : Nat → ClassId) (A : Nat → Prop) (mc ms : Nat) (ad : Nat → Nat) (k : Nat × Nat) (sh : fv_Sh) (r : fv_R) : Prop :=
  ∀ (ad' : Nat → Nat) (H' : Heap) (locs' : List Loc) (pc' : Nat) (lsA' : Array Slot), fv_agr ad ad' k (0, 0) sh r.2.1 → va_P D fv_kinds (fv_w ad' tc r.2.1 r.2.2) H' → va_D A (fv_w ad' tc r.2.1 r.2.2) → va_S A s.heap H' locs' → fv_RV y pc' r.1 → W p l e R s m args below meth c H' locs' mc ms Q (F0 m pc' lsA' r.1.toList)
def fv_SA (X : fv_X) (l : Launch) (n : Nat) : Prop := ∀ (bS bT : Nat) (p : Program) (e : Env) (R : Room) (s : State) (m : MethodId) (args : Array Value) (below : List Frame) (meth : Method) (c : Code) (Q : State → Prop) (y : Nat) (D : va_G) (tc : Nat → ClassId) (A : Nat → Prop) (mc ms : Nat) (pc : Nat) (ls : fv_Sl) (st : List Value) (k : Nat × Nat) (sh : fv_Sh) (M : fv_M) (r : fv_R) (ad : Nat → Nat) (H : Heap) (locs : List Loc) (cells slots : Nat) (lsA : Array Slot),
  fv_St X bS p R s m args meth c y D tc A mc ms → (∀ w ∈ fv_nests, va_Nw w s) → (y = fv_XI → fv_strL p l e R s m args below meth c bT ∧ fv_strR p l e R s m args below meth c A bT) → (y = fv_LAW → fv_strP bT A s s.heap) → fv_Dy bS bT s y D tc A mc ms ls k sh M ad H locs cells slots lsA → fv_run X n y pc ls st k sh M = some r → fv_RH p l e R s m args below meth c Q y D tc A mc ms ad k sh r → W p l e R s m args below meth c H locs cells slots Q (F0 m pc lsA (st.map (fv_cv ad)))
theorem fv_narrow {t : FieldType} {x : Int32} (h : fv_rok (some t) x = true) : narrow t (.int x) = .int x := by
  cases t <;> first | rfl | (exact (Bool.false_ne_true h).elim) | (have h1 := of_decide_eq_true h; rcases h1 with rfl | rfl <;> rfl)
theorem fv_lg_len (vs : List Value) (h : ∀ v ∈ vs, v.category = 1) : (lg_sl vs).length = vs.length := by
  induction vs with
  | nil => rfl
  | cons a vs ih =>
    have h1 : ¬ a.category = 2 := by have := h a List.mem_cons_self; omega
    have h2 := ih (fun v hv => h v (List.mem_cons_of_mem _ hv))
    simp only [lg_sl, List.flatMap_cons, if_neg h1, List.length_append, List.length_cons, List.length_nil] at h2 ⊢
    omega
set_option maxHeartbeats 4000000 in
theorem fv_met {X : fv_X} {l : Launch} {n : Nat} (IH : fv_SA X l n) {z : Nat} (hz : z < 168) (D : va_G) (tc : Nat → ClassId) (ad : Nat → Nat) (as : List Value) (sh : fv_Sh) (M : fv_M) (sz bT : Nat) (r : fv_R) (hbT : ad fv_STR = bT) (hlen : as.length = fv_np z) (hcat : as.all (fun v => v.category == 1) = true) (hrun : fv_run X n z 0 (as.map some) [] (fv_mc z, fv_ms z) sh M = some r) :
    Met l (fv_y z) (fv_ws z) (fv_rm z) (fv_Pc D tc ad as sh M sz z bT) (fv_Qc D tc ad r sh (fv_mc z, fv_ms z) (va_A (fv_w ad tc sh M) sz)) (fv_mc z) (fv_ms z) (va_A (fv_w ad tc sh M) sz) := by
  have hf := fv_mfacts hz
  refine Met.ofW (cc := fv_cc z) (maxL := fv_ml z) (ret := fv_rt z) hf.2.2.2.2.2.1 rfl ?_
  intro p e s m args below meth c s₁ B hml hv
  obtain ⟨rfl, hsz, hP, hK, hD0, hN, hAO, hst⟩ := hv
  subst hsz
  have hlocks := B.notSynchronized
  have hD : va_D (va_A (fv_w ad tc sh M) s.heap.size) (fv_w ad tc sh M) := hD0.self
  have hts : ∀ w ∈ fv_GL, w.before ((as.map (fv_cv ad)).toArray) s = true := fun w hw => atoms_spec (ws := fv_ws z) B.pre w (List.mem_cons_of_mem _ hw)
  have hown : s.vm.findClass (fv_RN (fv_ow z)) = some m.cls := by rw [← hf.2.2.2.2.2.2.1]; exact findClass_of_methodNamed B.named
  have hnm : meth.name = (fv_y z).name := (name_of_methodNamed B.named B.method).1
  have hnl : ¬ z = fv_LAW := fun q => by have : fv_LAW = 168 := rfl; omega
  have S : fv_St X (ad fv_SCR) p (headSpec (fv_ws z) (fv_rm z)).room s m ((as.map (fv_cv ad)).toArray) meth c z D tc (va_A (fv_w ad tc sh M) s.heap.size) (fv_mc z) (fv_ms z) :=
    ⟨B.exec, B.bytes, hml, hown, hts, hAO, fun _ => hnm, hK, fun q h => Or.inr h, Nat.le_refl _, Nat.le_refl _, Nat.le_refl _, Nat.le_refl _, by omega, fun q => absurd q hnl⟩
  have hlg : (lg_sl (as.map (fv_cv ad))).length ≤ fv_ml z := by
    rw [fv_lg_len, List.length_map, hlen]
    · exact of_decide_eq_true (List.all_eq_true.mp fv_nml_all z (List.mem_range.mpr hz))
    · intro v hv
      obtain ⟨u, hu, rfl⟩ := List.mem_map.mp hv
      rw [fv_cv_cat]
      have := List.all_eq_true.mp hcat u hu
      simpa only [beq_iff_eq] using this
  have hl := lv_entry (as.map (fv_cv ad)) (n := fv_ml z) hlg
  rw [lg_entry_eq]
  generalize (lg_sl (as.map (fv_cv ad)) ++ List.replicate (fv_ml z - (lg_sl (as.map (fv_cv ad))).length) Slot.unset).toArray = lsA at hl ⊢
  have Dn : fv_Dy (ad fv_SCR) bT s z D tc (va_A (fv_w ad tc sh M) s.heap.size) (fv_mc z) (fv_ms z) (as.map some) (fv_mc z, fv_ms z) sh M ad s.heap [] 0 0 lsA :=
    ⟨fv_lv_sub hl (fv_lv_args ad as hcat), fv_wl_args as hcat, hP, hD, va_S.rf, by simp, by simp, rfl, hbT⟩
  refine IH (ad fv_SCR) bT p e _ s m _ below meth c _ z D tc _ (fv_mc z) (fv_ms z) 0 _ [] _ sh M r ad s.heap [] 0 0 lsA S hN (fun q => fv_str_ok S q (hst q)) (fun q => absurd q hnl) Dn hrun ?_
  intro ad' H' locs' pc' lsA' hag hP' hD' hS' hrv
  rcases hrv with ⟨x, hv, hok, hd⟩ | ⟨hv, hrt, hd⟩
  · rw [hv]
    cases hrt : fv_rt z with
    | none => rw [hrt] at hok; exact (Bool.false_ne_true hok).elim
    | some t =>
      rw [hrt] at hok
      exact W.zret (ty := t) B.exec B.bytes (B.returns.trans hrt) (fv_narrow hok) (fun t ht hW => ⟨⟨ad', by rw [hv], Or.inr ⟨x, hv⟩, hag, by rw [ht]; exact hP', hD'⟩, hS'.F ht⟩) hS'.2.2 hd hlocks
  · rw [hv]
    exact W.vret B.exec B.bytes (B.returns.trans hrt) (fun t ht hW => ⟨⟨ad', by rw [hv], Or.inl hv, hag, by rw [ht]; exact hP', hD'⟩, hS'.F ht⟩) hS'.2.2 hd hlocks
/-- behind a call -/
theorem fv_callG {p : Program} {l : Launch} {e : Env} {R : Room} {s : State} {m : MethodId} {args : Array Value} {below : List Frame} {meth : Method} {c : Code} {H : Heap} {locs : List Loc} {cells slots : Nat} {Q : State → Prop} {pc : Nat} {ls : Array Slot} {rest st0 : List Value} {A0 A1 : Nat → Prop} {H0 : Heap} {mc ms : Nat} {free : Addr → Prop} {Qa : State → Outcome → State → Prop} {P : Option Value → State → Prop}
    (hr : va_Run p l e R s m args below meth c H locs cells slots mc ms (F0 m pc ls st0) rest Qa free) (hq : ∀ st₀ v t, Qa st₀ (.returned v) t → P v t ∧ va_F A1 st₀ t) (hS : va_S A0 H0 H locs) (hA : ∀ q, q < H.size → A1 q → A0 q) (hf : ∀ q, free q → A0 q)
    (kk : ∀ (v : Option Value) (t : State) (H1 : Heap) (locs1 : List Loc), t.heap = H1 → P v t → va_S A0 H0 H1 locs1 → W p l e R s m args below meth c H1 locs1 (cells + mc) (slots + ms) Q (F0 m (pc + 3) ls (v.toList ++ rest))) : W p l e R s m args below meth c H locs cells slots Q (F0 m pc ls st0) := by
  intro T hT X
  obtain ⟨v, st₀, t, T', L, h0, X', hL, e1, e2, hQ, st⟩ := hr T hT X
  obtain ⟨hp, hz, hk⟩ := hq _ _ _ hQ
  rw [h0] at hz hk
  obtain ⟨t2, a1, b1⟩ := kk v t T'.heap (locs ++ L) e1.symm hp
    ⟨Nat.le_trans hS.1 (by rw [e1]; exact hz), fun q h1 h2 => by rw [e1, hk q (Nat.lt_of_lt_of_le h1 hS.1) (fun z => h2 (hA q (Nat.lt_of_lt_of_le h1 hS.1) z))]; exact hS.2.1 q h1 h2, fun q hq => by
      rcases List.mem_append.mp hq with h | h
      · exact hS.2.2 q h
      · exact hf _ (hL q h)⟩ T' rfl X'
  exact ⟨t2, st t2 a1, b1⟩
theorem fv_nx_call {X : fv_X} {y pc : Nat} {ls : fv_Sl} {st : List Value} {k : Nat × Nat} {sh : fv_Sh} {M : fv_M} {q : Nat × List Value × Nat × List Value} (h : fv_nx X y pc ls st k sh M = some (.inr (.inr q))) : fv_lk y pc = some (.invokestatic q.1, q.2.2.1) ∧ q.1 < fv_LAW ∧ st = q.2.1.reverse ++ q.2.2.2 ∧ q.2.1.length = fv_np q.1 := by
  unfold fv_nx at h
  cases hl : fv_lk y pc with
  | none => rw [hl] at h; cases h
  | some x =>
    obtain ⟨i, np⟩ := x
    rw [hl] at h
    cases i with
    | invokestatic z =>
      dsimp only at h
      split at h
      · rename_i hc
        cases h
        refine ⟨rfl, hc.1, ?_, ?_⟩
        · rw [List.reverse_reverse, List.take_append_drop]
        · rw [List.length_reverse, List.length_take, Nat.min_eq_left hc.2]
      · cases h
    | istore j =>
      dsimp only at h
      split at h
      · rw [Option.map_eq_some_iff] at h; obtain ⟨_, _, h⟩ := h; cases h
      · cases h
    | astore j =>
      dsimp only at h
      split at h
      · rw [Option.map_eq_some_iff] at h; obtain ⟨_, _, h⟩ := h; cases h
      · cases h
    | tableswitch d lo hi offs =>
      dsimp only at h
      split at h
      · rw [Option.map_eq_some_iff] at h; obtain ⟨_, _, h⟩ := h; cases h
      · cases h
    | _ => (dsimp only at h; repeat' (first | (cases h; done) | (split at h)))
theorem fv_nx_ret {X : fv_X} {y pc : Nat} {ls : fv_Sl} {st : List Value} {k : Nat × Nat} {sh : fv_Sh} {M : fv_M} {v : Option Value} (hy : y < 169) (h : fv_nx X y pc ls st k sh M = some (.inr (.inl v))) : fv_RV y pc v ∧ st = v.toList := by
  unfold fv_nx at h
  cases hl : fv_lk y pc with
  | none => rw [hl] at h; cases h
  | some x =>
    obtain ⟨i, np⟩ := x
    rw [hl] at h
    obtain ⟨raw, hd, hk⟩ := fv_row hy hl
    cases i with
    | ireturn =>
      simp only [fv_rk, fv_npc, Bool.and_eq_true, decide_eq_true_eq] at hk
      obtain ⟨rfl, rfl⟩ := hk
      rw [Nat.add_sub_cancel_left] at hd
      dsimp only at h
      split at h
      · split at h
        · rename_i hok
          cases h
          exact ⟨Or.inl ⟨_, rfl, hok, hd⟩, rfl⟩
        · cases h
      · cases h
    | return_ =>
      simp only [fv_rk, fv_npc, Bool.and_eq_true, decide_eq_true_eq] at hk
      obtain ⟨rfl, rfl⟩ := hk
      rw [Nat.add_sub_cancel_left] at hd
      dsimp only at h
      split at h
      · split at h
        · rename_i hrt
          cases h
          exact ⟨Or.inr ⟨rfl, hrt, hd⟩, rfl⟩
        · cases h
      · cases h
    | istore j =>
      dsimp only at h
      split at h
      · rw [Option.map_eq_some_iff] at h; obtain ⟨_, _, h⟩ := h; cases h
      · cases h
    | astore j =>
      dsimp only at h
      split at h
      · rw [Option.map_eq_some_iff] at h; obtain ⟨_, _, h⟩ := h; cases h
      · cases h
    | tableswitch d lo hi offs =>
      dsimp only at h
      split at h
      · rw [Option.map_eq_some_iff] at h; obtain ⟨_, _, h⟩ := h; cases h
      · cases h
    | _ => (dsimp only at h; repeat' (first | (cases h; done) | (split at h)))
