/-! one step of the linked program is one instruction of the machine -/
def fv_St (X : fv_X) (bS : Nat) (p : Program) (R : Room) (s : State) (m : MethodId) (args : Array Value) (meth : Method) (c : Code) (y : Nat) (D : va_G) (tc : Nat → ClassId) (A : Nat → Prop) (mc ms : Nat) : Prop :=
  p.tables.exec = Jvm.exec ∧ c.code = fv_cc y ∧ c.maxLocals = fv_ml y ∧ s.vm.findClass (fv_RN (fv_ow y)) = some m.cls ∧ (∀ w ∈ fv_GL, w.before args s = true) ∧ va_AO (fv_RN 3) s ∧ (y ≠ fv_LAW → meth.name = (fv_y y).name) ∧ va_K D fv_kinds (fv_tys tc) s ∧ (∀ q, s.heap.size ≤ q → A q) ∧ mc ≤ R.cells ∧ ms ≤ R.slots ∧ fv_fr y ≤ R.frames ∧ fv_lo y ≤ R.locals ∧ y < 169 ∧ (y = fv_LAW → va_X bS X.1 X.2 s s.heap ∧ bS < s.heap.size ∧ ¬ A bS)
def fv_Dy (bS bT : Nat) (s : State) (y : Nat) (D : va_G) (tc : Nat → ClassId) (A : Nat → Prop) (mc ms : Nat) (ls : fv_Sl) (k : Nat × Nat) (sh : fv_Sh) (M : fv_M) (ad : Nat → Nat) (H : Heap) (locs : List Loc) (cells slots : Nat) (lsA : Array Slot) : Prop :=
  lv_has lsA (fv_ml y) (fv_lv ad ls) ∧ fv_wl ls ∧ va_P D fv_kinds (fv_w ad tc sh M) H ∧ va_D A (fv_w ad tc sh M) ∧ va_S A s.heap H locs ∧ cells + k.1 ≤ mc ∧ slots + k.2 ≤ ms ∧ ad fv_SCR = bS ∧ ad fv_STR = bT
def fv_agr (ad ad' : Nat → Nat) (k k' : Nat × Nat) (sh sh' : fv_Sh) : Prop := (∀ i, i < sh.length ∨ fv_SCR ≤ i → ad' i = ad i) ∧ (k.1 = 0 → ad' = ad) ∧ sh.length ≤ sh'.length ∧ k'.1 ≤ k.1
theorem fv_agr.rf {ad : Nat → Nat} {k : Nat × Nat} {sh : fv_Sh} : fv_agr ad ad k k sh sh := ⟨fun _ _ => rfl, fun _ => rfl, Nat.le_refl _, Nat.le_refl _⟩
theorem fv_agr.ln {ad : Nat → Nat} {k : Nat × Nat} {sh sh' : fv_Sh} (h : sh'.length = sh.length) : fv_agr ad ad k k sh sh' := ⟨fun _ _ => rfl, fun _ => rfl, Nat.le_of_eq h.symm, Nat.le_refl _⟩
theorem fv_agr.tr {a1 a2 a3 : Nat → Nat} {k1 k2 k3 : Nat × Nat} {s1 s2 s3 : fv_Sh} (h : fv_agr a1 a2 k1 k2 s1 s2) (h2 : fv_agr a2 a3 k2 k3 s2 s3) : fv_agr a1 a3 k1 k3 s1 s3 :=
  ⟨fun i hi => (h2.1 i (hi.imp (fun q => Nat.lt_of_lt_of_le q h.2.2.1) id)).trans (h.1 i hi), fun q => (h2.2.1 (Nat.le_zero.mp (Nat.le_trans h.2.2.2 (Nat.le_of_eq q)))).trans (h.2.1 q), Nat.le_trans h.2.2.1 h2.2.2.1, Nat.le_trans h2.2.2.2 h.2.2.2⟩
/-- the text's own rows, of the one method that has a text -/
def fv_strR (p : Program) (l : Launch) (e : Env) (R : Room) (s : State) (m : MethodId) (args : Array Value) (below : List Frame) (meth : Method) (c : Code) (A : Nat → Prop) (bT : Nat) : Prop :=
  ∀ (Q : State → Prop) (H : Heap) (locs : List Loc) (cells slots pc : Nat) (ls : Array Slot) (rest : List Value), va_S A s.heap H locs → ls.size = c.maxLocals → cells ≤ R.cells → slots ≤ R.slots → (rest.map fun v => v.category).sum ≤ 8 →
    (decode c.code pc = .ok (.invokevirtual 57, 3) → (∀ locs', va_S A s.heap H locs' → W p l e R s m args below meth c H locs' cells slots Q (F0 m (pc + 3) ls (.int (Int32.ofNat fv_TXT.length) :: rest))) → W p l e R s m args below meth c H locs cells slots Q (F0 m pc ls (.ref bT :: rest))) ∧
    (∀ j : Int32, ¬ (j < 0 ∨ fv_TXT.length ≤ j.toNatClampNeg) → decode c.code pc = .ok (.invokevirtual 63, 3) → (∀ locs', va_S A s.heap H locs' → W p l e R s m args below meth c H locs' cells slots Q (F0 m (pc + 3) ls (.int (Int32.ofNat (fv_TXT.getD j.toNatClampNeg 0)) :: rest))) → W p l e R s m args below meth c H locs cells slots Q (F0 m pc ls (.int j :: .ref bT :: rest)))
def fv_strL (p : Program) (l : Launch) (e : Env) (R : Room) (s : State) (m : MethodId) (args : Array Value) (below : List Frame) (meth : Method) (c : Code) (bT : Nat) : Prop :=
  ∀ (Q : State → Prop) (H : Heap) (locs : List Loc) (cells slots pc : Nat) (ls : Array Slot) (rest : List Value), decode c.code pc = .ok (.ldc 55, 2) → W p l e R s m args below meth c H locs cells slots Q (F0 m (pc + 2) ls (.ref bT :: rest)) → W p l e R s m args below meth c H locs cells slots Q (F0 m pc ls rest)
theorem fv_cs_map (ad : Nat → Nat) (st : List Value) : ((st.map (fv_cv ad)).map fun v => v.category).sum = (st.map fun v => v.category).sum := by
  induction st with
  | nil => rfl
  | cons a st ih => simp only [List.map_cons, List.sum_cons, ih, fv_cv_cat]
theorem fv_mem3 {l : List (Nat × Nat × Nat × Nat)} {a b c : Nat} (h : l.any (fun q => decide (q.1 = a) && (decide (q.2.1 = b) && decide (q.2.2.1 = c))) = true) : ∃ d, (a, b, c, d) ∈ l := by
  obtain ⟨⟨q1, q2, q3, q4⟩, hq, h⟩ := List.any_eq_true.mp h
  simp only [Bool.and_eq_true, decide_eq_true_eq] at h
  obtain ⟨rfl, rfl, rfl⟩ := h
  exact ⟨q4, hq⟩
theorem fv_off_t {r : fv_Row} {off t : Int} (h : fv_off r off t = true) : (r.1 : Int) + off = (t.toNat : Int) := by
  simp only [fv_off, Bool.and_eq_true, decide_eq_true_eq] at h
  rw [h.1, Int.toNat_of_nonneg h.2]
section
variable {X : fv_X} {bS bT : Nat} {p : Program} {l : Launch} {e : Env} {R : Room} {s : State} {m : MethodId} {args : Array Value} {below : List Frame} {meth : Method} {c : Code} {Q : State → Prop} {y : Nat} {D : va_G} {tc : Nat → ClassId} {A : Nat → Prop} {mc ms : Nat}
/-- what stands behind a step -/
def fv_K (X : fv_X) (bS bT : Nat) (p : Program) (l : Launch) (e : Env) (R : Room) (s : State) (m : MethodId) (args : Array Value) (below : List Frame) (meth : Method) (c : Code) (Q : State → Prop) (y : Nat) (D : va_G) (tc : Nat → ClassId) (A : Nat → Prop) (mc ms : Nat) (ad : Nat → Nat) (k : Nat × Nat) (sh : fv_Sh) (q : Nat × fv_Sl × List Value × (Nat × Nat) × fv_Sh × fv_M) : Prop :=
  ∀ (ad' : Nat → Nat) (H' : Heap) (locs' : List Loc) (cells' slots' : Nat) (lsA' : Array Slot), fv_agr ad ad' k q.2.2.2.1 sh q.2.2.2.2.1 → fv_Dy bS bT s y D tc A mc ms q.2.1 q.2.2.2.1 q.2.2.2.2.1 q.2.2.2.2.2 ad' H' locs' cells' slots' lsA' → W p l e R s m args below meth c H' locs' cells' slots' Q (F0 m q.1 lsA' (q.2.2.1.map (fv_cv ad')))
/-- the instructions that touch the heap, or call -/
def fv_heapI (i : Instr) : Bool := match i with
  | .getfield _ | .putfield _ | .iaload | .baload | .caload | .iastore | .bastore | .castore | .aaload | .aastore | .arraylength | .newarray _ | .anewarray _ | .new _ | .nop | .monitorenter | .monitorexit | .invokestatic _ | .ireturn | .return_ | .dadd | .dsub => true
  | _ => false
set_option maxHeartbeats 4000000 in
set_option maxRecDepth 20000 in
theorem fv_step1 {pc np : Nat} {i : Instr} {ls : fv_Sl} {st : List Value} {k : Nat × Nat} {sh : fv_Sh} {M : fv_M} {q : Nat × fv_Sl × List Value × (Nat × Nat) × fv_Sh × fv_M} {ad : Nat → Nat} {H : Heap} {locs : List Loc} {cells slots : Nat} {lsA : Array Slot}
    (S : fv_St X bS p R s m args meth c y D tc A mc ms) (hstr : y = fv_XI → fv_strL p l e R s m args below meth c bT ∧ fv_strR p l e R s m args below meth c A bT) (Dn : fv_Dy bS bT s y D tc A mc ms ls k sh M ad H locs cells slots lsA) (hlk : fv_lk y pc = some (i, np)) (hh : fv_heapI i = false) (h : fv_nx X y pc ls st k sh M = some (.inl q)) (K : fv_K X bS bT p l e R s m args below meth c Q y D tc A mc ms ad k sh q) : W p l e R s m args below meth c H locs cells slots Q (F0 m pc lsA (st.map (fv_cv ad))) := by
  obtain ⟨hx, hb, hml, hown, hts, hAO, hnm, hK, hA, hRc, hRs, hRf, hRl, hy, hscr⟩ := id S
  obtain ⟨hl, hw, hP, hD, hS, hkc, hks, hbS, hbT⟩ := id Dn
  unfold fv_nx at h
  rw [hlk] at h
  obtain ⟨raw, hd, hk⟩ := fv_row hy hlk
  cases i with
  | iadd =>
      dsimp only at h
      simp only [fv_rk, fv_npc, Bool.and_eq_true, decide_eq_true_eq] at hk
      obtain ⟨rfl, rfl⟩ := hk
      rw [Nat.add_sub_cancel_left] at hd
      split at h
      · cases h
        exact lv_iadd hx hb hd (K _ _ _ _ _ _ fv_agr.rf Dn)
      · cases h
  | isub =>
      dsimp only at h
      simp only [fv_rk, fv_npc, Bool.and_eq_true, decide_eq_true_eq] at hk
      obtain ⟨rfl, rfl⟩ := hk
      rw [Nat.add_sub_cancel_left] at hd
      split at h
      · cases h
        exact lv_isub hx hb hd (K _ _ _ _ _ _ fv_agr.rf Dn)
      · cases h
  | imul =>
      dsimp only at h
      simp only [fv_rk, fv_npc, Bool.and_eq_true, decide_eq_true_eq] at hk
      obtain ⟨rfl, rfl⟩ := hk
      rw [Nat.add_sub_cancel_left] at hd
      split at h
      · cases h
        exact lv_imul hx hb hd (K _ _ _ _ _ _ fv_agr.rf Dn)
      · cases h
  | iand =>
      dsimp only at h
      simp only [fv_rk, fv_npc, Bool.and_eq_true, decide_eq_true_eq] at hk
      obtain ⟨rfl, rfl⟩ := hk
      rw [Nat.add_sub_cancel_left] at hd
      split at h
      · cases h
        exact lv_iand hx hb hd (K _ _ _ _ _ _ fv_agr.rf Dn)
      · cases h
  | ior =>
      dsimp only at h
      simp only [fv_rk, fv_npc, Bool.and_eq_true, decide_eq_true_eq] at hk
      obtain ⟨rfl, rfl⟩ := hk
      rw [Nat.add_sub_cancel_left] at hd
      split at h
      · cases h
        exact lv_ior hx hb hd (K _ _ _ _ _ _ fv_agr.rf Dn)
      · cases h
  | ixor =>
      dsimp only at h
      simp only [fv_rk, fv_npc, Bool.and_eq_true, decide_eq_true_eq] at hk
      obtain ⟨rfl, rfl⟩ := hk
      rw [Nat.add_sub_cancel_left] at hd
      split at h
      · cases h
        exact lv_ixor hx hb hd (K _ _ _ _ _ _ fv_agr.rf Dn)
      · cases h
  | ishl =>
      dsimp only at h
      simp only [fv_rk, fv_npc, Bool.and_eq_true, decide_eq_true_eq] at hk
      obtain ⟨rfl, rfl⟩ := hk
      rw [Nat.add_sub_cancel_left] at hd
      split at h
      · cases h
        exact lv_ishl hx hb hd (K _ _ _ _ _ _ fv_agr.rf Dn)
      · cases h
  | ishr =>
      dsimp only at h
      simp only [fv_rk, fv_npc, Bool.and_eq_true, decide_eq_true_eq] at hk
      obtain ⟨rfl, rfl⟩ := hk
      rw [Nat.add_sub_cancel_left] at hd
      split at h
      · cases h
        exact lv_ishr hx hb hd (K _ _ _ _ _ _ fv_agr.rf Dn)
      · cases h
  | ladd =>
      dsimp only at h
      simp only [fv_rk, fv_npc, Bool.and_eq_true, decide_eq_true_eq] at hk
      obtain ⟨rfl, rfl⟩ := hk
      rw [Nat.add_sub_cancel_left] at hd
      split at h
      · cases h
        exact lv_ladd hx hb hd (K _ _ _ _ _ _ fv_agr.rf Dn)
      · cases h
  | lmul =>
      dsimp only at h
      simp only [fv_rk, fv_npc, Bool.and_eq_true, decide_eq_true_eq] at hk
      obtain ⟨rfl, rfl⟩ := hk
      rw [Nat.add_sub_cancel_left] at hd
      split at h
      · cases h
        exact lv_lmul hx hb hd (K _ _ _ _ _ _ fv_agr.rf Dn)
      · cases h
  | idiv =>
      dsimp only at h
      simp only [fv_rk, fv_npc, Bool.and_eq_true, decide_eq_true_eq] at hk
      obtain ⟨rfl, rfl⟩ := hk
      rw [Nat.add_sub_cancel_left] at hd
      split at h
      · split at h
        · cases h
        · rename_i hne
          cases h
          exact lv_idiv hx hb hd hne (K _ _ _ _ _ _ fv_agr.rf Dn)
      · cases h
  | irem =>
      dsimp only at h
      simp only [fv_rk, fv_npc, Bool.and_eq_true, decide_eq_true_eq] at hk
      obtain ⟨rfl, rfl⟩ := hk
      rw [Nat.add_sub_cancel_left] at hd
      split at h
      · split at h
        · cases h
        · rename_i hne
          cases h
          exact lv_irem hx hb hd hne (K _ _ _ _ _ _ fv_agr.rf Dn)
      · cases h
  | ldiv =>
      dsimp only at h
      simp only [fv_rk, fv_npc, Bool.and_eq_true, decide_eq_true_eq] at hk
      obtain ⟨rfl, rfl⟩ := hk
      rw [Nat.add_sub_cancel_left] at hd
      split at h
      · split at h
        · cases h
        · rename_i hne
          cases h
          exact lv_ldiv hx hb hd hne (K _ _ _ _ _ _ fv_agr.rf Dn)
      · cases h
  | lrem =>
      dsimp only at h
      simp only [fv_rk, fv_npc, Bool.and_eq_true, decide_eq_true_eq] at hk
      obtain ⟨rfl, rfl⟩ := hk
      rw [Nat.add_sub_cancel_left] at hd
      split at h
      · split at h
        · cases h
        · rename_i hne
          cases h
          exact lv_lrem hx hb hd hne (K _ _ _ _ _ _ fv_agr.rf Dn)
      · cases h
  | i2l =>
      dsimp only at h
      simp only [fv_rk, fv_npc, Bool.and_eq_true, decide_eq_true_eq] at hk
      obtain ⟨rfl, rfl⟩ := hk
      rw [Nat.add_sub_cancel_left] at hd
      split at h
      · cases h
        exact lv_i2l hx hb hd rfl (K _ _ _ _ _ _ fv_agr.rf Dn)
      · cases h
  | l2i =>
      dsimp only at h
      simp only [fv_rk, fv_npc, Bool.and_eq_true, decide_eq_true_eq] at hk
      obtain ⟨rfl, rfl⟩ := hk
      rw [Nat.add_sub_cancel_left] at hd
      split at h
      · cases h
        exact lv_l2i hx hb hd rfl (K _ _ _ _ _ _ fv_agr.rf Dn)
      · cases h
  | i2c =>
      dsimp only at h
      simp only [fv_rk, fv_npc, Bool.and_eq_true, decide_eq_true_eq] at hk
      obtain ⟨rfl, rfl⟩ := hk
      rw [Nat.add_sub_cancel_left] at hd
      split at h
      · cases h
        exact lv_i2c hx hb hd rfl (K _ _ _ _ _ _ fv_agr.rf Dn)
      · cases h
  | iushr =>
      dsimp only at h
      simp only [fv_rk, fv_npc, Bool.and_eq_true, decide_eq_true_eq] at hk
      obtain ⟨rfl, rfl⟩ := hk
      rw [Nat.add_sub_cancel_left] at hd
      split at h
      · cases h
        exact lv_iushr hx hb hd rfl (K _ _ _ _ _ _ fv_agr.rf Dn)
      · cases h
  | iconst v =>
      dsimp only at h
      dsimp only [fv_rk] at hk
      cases h
      cases raw with
      | iconst u =>
        simp only [fv_npc, Bool.and_eq_true, decide_eq_true_eq] at hk
        obtain ⟨rfl, rfl⟩ := hk
        rw [Nat.add_sub_cancel_left] at hd
        exact lv_iconst hx hb hd rfl (K _ _ _ _ _ _ fv_agr.rf Dn)
      | bipush u =>
        simp only [fv_npc, Bool.and_eq_true, decide_eq_true_eq] at hk
        obtain ⟨hu, rfl⟩ := hk
        rw [Nat.add_sub_cancel_left] at hd
        exact lv_bipush hx hb hd hu (K _ _ _ _ _ _ fv_agr.rf Dn)
      | sipush u =>
        simp only [fv_npc, Bool.and_eq_true, decide_eq_true_eq] at hk
        obtain ⟨hu, rfl⟩ := hk
        rw [Nat.add_sub_cancel_left] at hd
        exact lv_sipush hx hb hd hu (K _ _ _ _ _ _ fv_agr.rf Dn)
      | ldc_w i =>
        simp only [fv_npc, Bool.and_eq_true, decide_eq_true_eq] at hk
        obtain ⟨hu, rfl⟩ := hk
        rw [Nat.add_sub_cancel_left] at hd
        obtain ⟨⟨q1, q2, q3, q4⟩, hq, hu⟩ := List.any_eq_true.mp hu
        simp only [Bool.and_eq_true, decide_eq_true_eq] at hu
        obtain ⟨rfl, rfl, rfl⟩ := hu
        have h3 := List.all_eq_true.mp fv_IS_ok _ hq
        simp only [decide_eq_true_eq] at h3
        exact lv_ldcw hx hb hown (hts _ (fv_GL_in h3 rfl)) hd (K _ _ _ _ _ _ fv_agr.rf Dn)
      | _ => exact (Bool.false_ne_true hk).elim
  | ldc2_w v =>
      dsimp only at h
      dsimp only [fv_rk] at hk
      cases h
      cases raw with
      | lconst u =>
        simp only [fv_npc, Bool.and_eq_true, decide_eq_true_eq] at hk
        obtain ⟨hu, rfl⟩ := hk
        rw [Nat.add_sub_cancel_left] at hd
        exact lv_lconst hx hb hd (by rw [hu]) (K _ _ _ _ _ _ fv_agr.rf Dn)
      | ldc2_w i =>
        simp only [fv_npc, Bool.and_eq_true, decide_eq_true_eq] at hk
        obtain ⟨hu, rfl⟩ := hk
        rw [Nat.add_sub_cancel_left] at hd
        obtain ⟨⟨q1, q2, q3, q4⟩, hq, hu⟩ := List.any_eq_true.mp hu
        simp only [Bool.and_eq_true, decide_eq_true_eq] at hu
        obtain ⟨rfl, rfl, rfl⟩ := hu
        have h3 := List.all_eq_true.mp fv_JS_ok _ hq
        simp only [decide_eq_true_eq] at h3
        exact lv_ldc2 hx hb hown (hts _ (fv_GL_in h3 rfl)) hd (K _ _ _ _ _ _ fv_agr.rf Dn)
      | _ => exact (Bool.false_ne_true hk).elim
  | ldc v =>
      dsimp only at h
      dsimp only [fv_rk] at hk
      split at h
      · rename_i hyx
        cases h
        cases raw with
        | ldc i =>
          simp only [fv_npc, Bool.and_eq_true, decide_eq_true_eq] at hk
          obtain ⟨rfl, rfl⟩ := hk
          rw [Nat.add_sub_cancel_left] at hd
          refine (hstr hyx).1 _ _ _ _ _ _ _ _ (by rw [hb]; exact hd) ?_
          have := K _ _ _ _ _ _ fv_agr.rf Dn
          rw [← hbT]
          exact this
        | _ => exact (Bool.false_ne_true hk).elim
      · cases h
  | iload j =>
      dsimp only at h
      dsimp only [fv_rk] at hk
      split at h
      · rename_i x hj
        cases h
        cases raw with
        | iload i =>
          simp only [fv_npc, Bool.and_eq_true, decide_eq_true_eq] at hk
          obtain ⟨rfl, rfl⟩ := hk
          rw [Nat.add_sub_cancel_left] at hd
          exact lv_iload hx hb hd (fv_ld hl hj) (K _ _ _ _ _ _ fv_agr.rf Dn)
        | iload_n i =>
          simp only [fv_npc, Bool.and_eq_true, decide_eq_true_eq] at hk
          obtain ⟨rfl, rfl⟩ := hk
          rw [Nat.add_sub_cancel_left] at hd
          exact lv_iload_n hx hb hd rfl (fv_ld hl hj) (K _ _ _ _ _ _ fv_agr.rf Dn)
        | _ => exact (Bool.false_ne_true hk).elim
      · cases h
  | aload j =>
      dsimp only at h
      dsimp only [fv_rk] at hk
      split at h
      · rename_i x hj
        cases h
        cases raw with
        | aload i =>
          simp only [fv_npc, Bool.and_eq_true, decide_eq_true_eq] at hk
          obtain ⟨rfl, rfl⟩ := hk
          rw [Nat.add_sub_cancel_left] at hd
          exact lv_aload hx hb hd (fv_ld hl hj) (K _ _ _ _ _ _ fv_agr.rf Dn)
        | aload_n i =>
          simp only [fv_npc, Bool.and_eq_true, decide_eq_true_eq] at hk
          obtain ⟨rfl, rfl⟩ := hk
          rw [Nat.add_sub_cancel_left] at hd
          exact lv_aload_n hx hb hd rfl (fv_ld hl hj) (K _ _ _ _ _ _ fv_agr.rf Dn)
        | _ => exact (Bool.false_ne_true hk).elim
      · cases h
  | lload j =>
      dsimp only at h
      dsimp only [fv_rk] at hk
      split at h
      · rename_i x hj
        cases h
        cases raw with
        | lload i =>
          simp only [fv_npc, Bool.and_eq_true, decide_eq_true_eq] at hk
          obtain ⟨rfl, rfl⟩ := hk
          rw [Nat.add_sub_cancel_left] at hd
          exact lv_lload hx hb hd (fv_ld hl hj) (K _ _ _ _ _ _ fv_agr.rf Dn)
        | lload_n i =>
          simp only [fv_npc, Bool.and_eq_true, decide_eq_true_eq] at hk
          obtain ⟨rfl, rfl⟩ := hk
          rw [Nat.add_sub_cancel_left] at hd
          exact lv_lload_n hx hb hd rfl (fv_ld hl hj) (K _ _ _ _ _ _ fv_agr.rf Dn)
        | _ => exact (Bool.false_ne_true hk).elim
      · cases h
  | istore j =>
      dsimp only at h
      dsimp only [fv_rk] at hk
      split at h
      · rename_i x st'
        cases hs : fv_st1 ls j (.int x) with
        | none => rw [hs] at h; cases h
        | some ls2 =>
          rw [hs] at h
          cases h
          obtain ⟨g1, g2⟩ := fv_st_ok (ad := ad) hw hs rfl
          rw [Bool.and_eq_true, decide_eq_true_eq] at hk
          obtain ⟨hj, hk⟩ := hk
          cases raw with
          | istore i =>
            simp only [fv_npc, Bool.and_eq_true, decide_eq_true_eq] at hk
            obtain ⟨rfl, rfl⟩ := hk
            rw [Nat.add_sub_cancel_left] at hd
            exact lv_istore hx hb hd hl hj rfl (fun lsA' hl' => K _ _ _ _ _ _ fv_agr.rf ⟨fv_lv_sub hl' g2, g1, hP, hD, hS, hkc, hks, hbS, hbT⟩)
          | istore_n i =>
            simp only [fv_npc, Bool.and_eq_true, decide_eq_true_eq] at hk
            obtain ⟨rfl, rfl⟩ := hk
            rw [Nat.add_sub_cancel_left] at hd
            exact lv_istore_n hx hb hd rfl hl hj rfl (fun lsA' hl' => K _ _ _ _ _ _ fv_agr.rf ⟨fv_lv_sub hl' g2, g1, hP, hD, hS, hkc, hks, hbS, hbT⟩)
          | _ => exact (Bool.false_ne_true hk).elim
      · cases h
  | astore j =>
      dsimp only at h
      dsimp only [fv_rk] at hk
      split at h
      · rename_i x st'
        cases hs : fv_st1 ls j (.ref x) with
        | none => rw [hs] at h; cases h
        | some ls2 =>
          rw [hs] at h
          cases h
          obtain ⟨g1, g2⟩ := fv_st_ok (ad := ad) hw hs rfl
          rw [Bool.and_eq_true, decide_eq_true_eq] at hk
          obtain ⟨hj, hk⟩ := hk
          cases raw with
          | astore i =>
            simp only [fv_npc, Bool.and_eq_true, decide_eq_true_eq] at hk
            obtain ⟨rfl, rfl⟩ := hk
            rw [Nat.add_sub_cancel_left] at hd
            exact lv_astore hx hb hd hl hj rfl (fun lsA' hl' => K _ _ _ _ _ _ fv_agr.rf ⟨fv_lv_sub hl' g2, g1, hP, hD, hS, hkc, hks, hbS, hbT⟩)
          | astore_n i =>
            simp only [fv_npc, Bool.and_eq_true, decide_eq_true_eq] at hk
            obtain ⟨rfl, rfl⟩ := hk
            rw [Nat.add_sub_cancel_left] at hd
            exact lv_astore_n hx hb hd rfl hl hj rfl (fun lsA' hl' => K _ _ _ _ _ _ fv_agr.rf ⟨fv_lv_sub hl' g2, g1, hP, hD, hS, hkc, hks, hbS, hbT⟩)
          | _ => exact (Bool.false_ne_true hk).elim
      · cases h
  | lstore j =>
      dsimp only at h
      dsimp only [fv_rk] at hk
      split at h
      · rename_i x st'
        split at h
        · rename_i hjl
          cases h
          subst hjl
          obtain ⟨g1, g2⟩ := fv_stL_ok (ad := ad) (x := x) hw
          rw [Bool.and_eq_true, decide_eq_true_eq] at hk
          obtain ⟨hj, hk⟩ := hk
          cases raw with
          | lstore i =>
            simp only [fv_npc, Bool.and_eq_true, decide_eq_true_eq] at hk
            obtain ⟨rfl, rfl⟩ := hk
            rw [Nat.add_sub_cancel_left] at hd
            exact lv_lstore hx hb hd hl hj rfl (fun lsA' hl' => K _ _ _ _ _ _ fv_agr.rf ⟨fv_lv_sub hl' g2, g1, hP, hD, hS, hkc, hks, hbS, hbT⟩)
          | lstore_n i =>
            simp only [fv_npc, Bool.and_eq_true, decide_eq_true_eq] at hk
            obtain ⟨hi, rfl⟩ := hk
            rw [Nat.add_sub_cancel_left] at hd
            exact lv_lstore_n hx hb hd hi hl hj rfl (fun lsA' hl' => K _ _ _ _ _ _ fv_agr.rf ⟨fv_lv_sub hl' g2, g1, hP, hD, hS, hkc, hks, hbS, hbT⟩)
          | _ => exact (Bool.false_ne_true hk).elim
        · cases h
      · cases h
  | iinc j cc =>
      dsimp only at h
      simp only [fv_rk, fv_npc, Bool.and_eq_true, decide_eq_true_eq] at hk
      obtain ⟨rfl, rfl⟩ := hk
      rw [Nat.add_sub_cancel_left] at hd
      split at h
      · rename_i x hj
        cases h
        obtain ⟨g1, g2⟩ := fv_iinc_ok (ad := ad) (z := x + Int32.ofInt cc) hw hj
        have hm : (j, Value.int x) ∈ fv_lv ad ls := fv_lv_mem.mpr ⟨j, .int x, hj, rfl⟩
        obtain ⟨kk, hkk⟩ := List.getElem?_of_mem hm
        have hjn : j < fv_ml y := by
          have := fv_ld hl hj
          rw [← hl.1]
          exact lv_lt this
        exact lv_iinc hx hb hd hl hkk rfl hjn rfl (fun lsA' hl' => K _ _ _ _ _ _ fv_agr.rf ⟨fv_lv_sub hl' g2, g1, hP, hD, hS, hkc, hks, hbS, hbT⟩)
      · cases h
  | dup =>
      dsimp only at h
      simp only [fv_rk, fv_npc, Bool.and_eq_true, decide_eq_true_eq] at hk
      obtain ⟨rfl, rfl⟩ := hk
      rw [Nat.add_sub_cancel_left] at hd
      split at h
      · split at h
        · rename_i hc
          cases h
          exact lv_dup hx hb hd (by rw [fv_cv_cat]; exact hc) (K _ _ _ _ _ _ fv_agr.rf Dn)
        · cases h
      · cases h
  | dup2 =>
      dsimp only at h
      simp only [fv_rk, fv_npc, Bool.and_eq_true, decide_eq_true_eq] at hk
      obtain ⟨rfl, rfl⟩ := hk
      rw [Nat.add_sub_cancel_left] at hd
      split at h
      · split at h
        · rename_i hc
          cases h
          exact lv_dup2_11 hx hb hd (by rw [fv_cv_cat]; exact hc.1) (by rw [fv_cv_cat]; exact hc.2) (K _ _ _ _ _ _ fv_agr.rf Dn)
        · cases h
      · cases h
  | pop =>
      dsimp only at h
      simp only [fv_rk, fv_npc, Bool.and_eq_true, decide_eq_true_eq] at hk
      obtain ⟨rfl, rfl⟩ := hk
      rw [Nat.add_sub_cancel_left] at hd
      split at h
      · split at h
        · rename_i hc
          cases h
          exact lv_pop hx hb hd (by rw [fv_cv_cat]; exact hc) (K _ _ _ _ _ _ fv_agr.rf Dn)
        · cases h
      · cases h
  | goto t =>
      dsimp only at h
      dsimp only [fv_rk] at hk
      cases h
      cases raw with
      | goto off =>
        obtain ⟨hk, hk3⟩ := Bool.and_eq_true_iff.mp hk
        simp only [fv_npc, decide_eq_true_eq] at hk3
        subst hk3
        rw [Nat.add_sub_cancel_left] at hd
        exact lv_goto hx hb hd (fv_off_t hk) (K _ _ _ _ _ _ fv_agr.rf Dn)
      | _ => exact (Bool.false_ne_true hk).elim
  | multianewarray t n =>
      dsimp only at h
      dsimp only [fv_rk] at hk
      split at h
      · rename_i htk
        cases h
        obtain ⟨g1, g2⟩ := fv_take_ok (ad := ad) htk
        cases raw with
        | goto off =>
          obtain ⟨hk, hk3⟩ := Bool.and_eq_true_iff.mp hk
          simp only [fv_npc, decide_eq_true_eq] at hk3
          subst hk3
          rw [Nat.add_sub_cancel_left] at hd
          exact lv_goto hx hb hd (fv_off_t hk) (K _ _ _ _ _ _ fv_agr.rf ⟨fv_lv_sub hl g2, g1, hP, hD, hS, hkc, hks, hbS, hbT⟩)
        | _ => exact (Bool.false_ne_true hk).elim
      · cases h
  | ifCond cn t =>
      dsimp only at h
      dsimp only [fv_rk] at hk
      split at h
      · rename_i x1 st1
        cases h
        cases raw with
        | ifCond c2 off =>
          simp only [fv_npc, Bool.and_eq_true, decide_eq_true_eq] at hk
          obtain ⟨rfl, hk2, rfl⟩ := hk
          rw [Nat.add_sub_cancel_left] at hd
          cases cn with
          | eq => exact lv_if_eq hx hb hd (fv_off_t hk2) (fun hc => by
              have this := K _ _ _ _ _ _ fv_agr.rf Dn
              have ee : fv_c1 .eq x1 = true := decide_eq_true hc
              rw [if_pos ee] at this
              exact this) (fun hc => by
              have this := K _ _ _ _ _ _ fv_agr.rf Dn
              have ee : fv_c1 .eq x1 = false := decide_eq_false hc
              rw [if_neg (by rw [ee]; exact Bool.false_ne_true)] at this
              exact this)
          | ne => exact lv_if_ne hx hb hd (fv_off_t hk2) (fun hc => by
              have this := K _ _ _ _ _ _ fv_agr.rf Dn
              have ee : fv_c1 .ne x1 = true := decide_eq_true hc
              rw [if_pos ee] at this
              exact this) (fun hc => by
              have this := K _ _ _ _ _ _ fv_agr.rf Dn
              have ee : fv_c1 .ne x1 = false := decide_eq_false (fun z => z hc)
              rw [if_neg (by rw [ee]; exact Bool.false_ne_true)] at this
              exact this)
          | lt => exact lv_if_lt hx hb hd (fv_off_t hk2) (fun hc => by
              have this := K _ _ _ _ _ _ fv_agr.rf Dn
              have ee : fv_c1 .lt x1 = true := decide_eq_true hc
              rw [if_pos ee] at this
              exact this) (fun hc => by
              have this := K _ _ _ _ _ _ fv_agr.rf Dn
              have ee : fv_c1 .lt x1 = false := decide_eq_false hc
              rw [if_neg (by rw [ee]; exact Bool.false_ne_true)] at this
              exact this)
          | ge => exact lv_if_ge hx hb hd (fv_off_t hk2) (fun hc => by
              have this := K _ _ _ _ _ _ fv_agr.rf Dn
              have ee : fv_c1 .ge x1 = true := decide_eq_true hc
              rw [if_pos ee] at this
              exact this) (fun hc => by
              have this := K _ _ _ _ _ _ fv_agr.rf Dn
              have ee : fv_c1 .ge x1 = false := decide_eq_false hc
              rw [if_neg (by rw [ee]; exact Bool.false_ne_true)] at this
              exact this)
          | gt => exact lv_if_gt hx hb hd (fv_off_t hk2) (fun hc => by
              have this := K _ _ _ _ _ _ fv_agr.rf Dn
              have ee : fv_c1 .gt x1 = true := decide_eq_true hc
              rw [if_pos ee] at this
              exact this) (fun hc => by
              have this := K _ _ _ _ _ _ fv_agr.rf Dn
              have ee : fv_c1 .gt x1 = false := decide_eq_false hc
              rw [if_neg (by rw [ee]; exact Bool.false_ne_true)] at this
              exact this)
          | le => exact lv_if_le hx hb hd (fv_off_t hk2) (fun hc => by
              have this := K _ _ _ _ _ _ fv_agr.rf Dn
              have ee : fv_c1 .le x1 = true := decide_eq_true hc
              rw [if_pos ee] at this
              exact this) (fun hc => by
              have this := K _ _ _ _ _ _ fv_agr.rf Dn
              have ee : fv_c1 .le x1 = false := decide_eq_false hc
              rw [if_neg (by rw [ee]; exact Bool.false_ne_true)] at this
              exact this)
        | _ => exact (Bool.false_ne_true hk).elim
      · cases h
  | if_icmp cn t =>
      dsimp only at h
      dsimp only [fv_rk] at hk
      split at h
      · rename_i x2 x1 st1
        cases h
        cases raw with
        | if_icmp c2 off =>
          simp only [fv_npc, Bool.and_eq_true, decide_eq_true_eq] at hk
          obtain ⟨rfl, hk2, rfl⟩ := hk
          rw [Nat.add_sub_cancel_left] at hd
          cases cn with
          | eq => exact lv_icmp_eq hx hb hd (fv_off_t hk2) (fun hc => by
              have this := K _ _ _ _ _ _ fv_agr.rf Dn
              have ee : fv_c2 .eq x1 x2 = true := decide_eq_true hc
              rw [if_pos ee] at this
              exact this) (fun hc => by
              have this := K _ _ _ _ _ _ fv_agr.rf Dn
              have ee : fv_c2 .eq x1 x2 = false := decide_eq_false hc
              rw [if_neg (by rw [ee]; exact Bool.false_ne_true)] at this
              exact this)
          | ne => exact lv_icmp_ne hx hb hd (fv_off_t hk2) (fun hc => by
              have this := K _ _ _ _ _ _ fv_agr.rf Dn
              have ee : fv_c2 .ne x1 x2 = true := decide_eq_true hc
              rw [if_pos ee] at this
              exact this) (fun hc => by
              have this := K _ _ _ _ _ _ fv_agr.rf Dn
              have ee : fv_c2 .ne x1 x2 = false := decide_eq_false (fun z => z hc)
              rw [if_neg (by rw [ee]; exact Bool.false_ne_true)] at this
              exact this)
          | lt => exact lv_icmp_lt hx hb hd (fv_off_t hk2) (fun hc => by
              have this := K _ _ _ _ _ _ fv_agr.rf Dn
              have ee : fv_c2 .lt x1 x2 = true := decide_eq_true hc
              rw [if_pos ee] at this
              exact this) (fun hc => by
              have this := K _ _ _ _ _ _ fv_agr.rf Dn
              have ee : fv_c2 .lt x1 x2 = false := decide_eq_false hc
              rw [if_neg (by rw [ee]; exact Bool.false_ne_true)] at this
              exact this)
          | ge => exact lv_icmp_ge hx hb hd (fv_off_t hk2) (fun hc => by
              have this := K _ _ _ _ _ _ fv_agr.rf Dn
              have ee : fv_c2 .ge x1 x2 = true := decide_eq_true hc
              rw [if_pos ee] at this
              exact this) (fun hc => by
              have this := K _ _ _ _ _ _ fv_agr.rf Dn
              have ee : fv_c2 .ge x1 x2 = false := decide_eq_false hc
              rw [if_neg (by rw [ee]; exact Bool.false_ne_true)] at this
              exact this)
          | gt => exact lv_icmp_gt hx hb hd (fv_off_t hk2) (fun hc => by
              have this := K _ _ _ _ _ _ fv_agr.rf Dn
              have ee : fv_c2 .gt x1 x2 = true := decide_eq_true hc
              rw [if_pos ee] at this
              exact this) (fun hc => by
              have this := K _ _ _ _ _ _ fv_agr.rf Dn
              have ee : fv_c2 .gt x1 x2 = false := decide_eq_false hc
              rw [if_neg (by rw [ee]; exact Bool.false_ne_true)] at this
              exact this)
          | le => exact lv_icmp_le hx hb hd (fv_off_t hk2) (fun hc => by
              have this := K _ _ _ _ _ _ fv_agr.rf Dn
              have ee : fv_c2 .le x1 x2 = true := decide_eq_true hc
              rw [if_pos ee] at this
              exact this) (fun hc => by
              have this := K _ _ _ _ _ _ fv_agr.rf Dn
              have ee : fv_c2 .le x1 x2 = false := decide_eq_false hc
              rw [if_neg (by rw [ee]; exact Bool.false_ne_true)] at this
              exact this)
        | _ => exact (Bool.false_ne_true hk).elim
      · cases h
  | ifnull t =>
      dsimp only at h
      dsimp only [fv_rk] at hk
      cases raw with
      | ifnull off =>
        simp only [fv_npc, Bool.and_eq_true, decide_eq_true_eq] at hk
        obtain ⟨hk2, rfl⟩ := hk
        rw [Nat.add_sub_cancel_left] at hd
        split at h
        · cases h
          exact lv_ifnull hx hb hd (K _ _ _ _ _ _ fv_agr.rf Dn)
        · cases h
          exact lv_ifnullN hx hb hd (fv_off_t hk2) (K _ _ _ _ _ _ fv_agr.rf Dn)
        · cases h
      | _ => exact (Bool.false_ne_true hk).elim
  | ifnonnull t =>
      dsimp only at h
      dsimp only [fv_rk] at hk
      cases raw with
      | ifnonnull off =>
        simp only [fv_npc, Bool.and_eq_true, decide_eq_true_eq] at hk
        obtain ⟨hk2, rfl⟩ := hk
        rw [Nat.add_sub_cancel_left] at hd
        split at h
        · cases h
          exact lv_ifnonnull hx hb hd (fv_off_t hk2) (K _ _ _ _ _ _ fv_agr.rf Dn)
        · cases h
          exact lv_ifnonnullN hx hb hd (K _ _ _ _ _ _ fv_agr.rf Dn)
        · cases h
      | _ => exact (Bool.false_ne_true hk).elim
  | tableswitch d lo hi offs =>
      dsimp only at h
      dsimp only [fv_rk] at hk
      cases raw with
      | tableswitch d2 lo2 hi2 offs2 =>
        simp only [Bool.and_eq_true, decide_eq_true_eq] at hk
        obtain ⟨rfl, rfl, hk2, rfl, hk4⟩ := hk
        split at h
        · rename_i a st'
          unfold fv_tgt at h
          split at h
          · rename_i hout
            cases h
            exact lv_tableOut hx hb hd hout (fv_off_t hk2) (K _ _ _ _ _ _ fv_agr.rf Dn)
          · rename_i hout
            cases ho : offs2[(a.toInt - lo).toNat]? with
            | none =>
              rw [Array.getElem?_map, ho] at h
              cases h
            | some o =>
              rw [Array.getElem?_map, ho] at h
              cases h
              have h0 : 0 ≤ (pc : Int) + o := by
                have := Array.all_eq_true_iff_forall_mem.mp hk4 o (Array.mem_of_getElem? ho)
                exact of_decide_eq_true this
              exact lv_tableIn hx hb hd (fun z => hout (Or.inl z)) (fun z => hout (Or.inr z)) ho (Int.toNat_of_nonneg h0).symm (K _ _ _ _ _ _ fv_agr.rf Dn)
        · cases h
      | _ => exact (Bool.false_ne_true hk).elim
  | _ => first | (cases hh; done) | (dsimp only at h; cases h; done)
end
