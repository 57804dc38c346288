/-! what a shape and a memory are on the heap: each cell at an address of its own -/
def fv_cv (ad : Nat → Nat) (v : Value) : Value := match v with
  | .ref r => .ref (ad r) | v => v
def fv_slv (ad : Nat → Nat) (M : fv_M) (i k : Nat) (o : Option Value) : Value := match o with
  | none => .int (M i k) | some v => fv_cv ad v
def fv_ro (ad : Nat → Nat) (o : Option (Option Value)) : Option Nat := match o with
  | some (some (.ref r)) => some (ad r) | _ => none
def fv_ce (ad : Nat → Nat) (tc : Nat → ClassId) (M : fv_M) (i : Nat) (c : fv_C) : va_E := match c with
  | .inl q => .inl (tc q.1, q.2, .inl (M i))
  | .inr q => if q.1 < 100 then .inr (q.1, q.2.mapIdx (fun k o => fv_slv ad M i k o)) else .inl (tc q.1, q.2.length, .inr (.inr (.inr (.inr (fun j => fv_ro ad q.2[j]?)))))
def fv_w (ad : Nat → Nat) (tc : Nat → ClassId) (sh : fv_Sh) (M : fv_M) : va_W := sh.mapIdx (fun i c => (ad i, fv_ce ad tc M i c))
def fv_tys (tc : Nat → ClassId) : List (ClassId × FieldType) := [(tc 0, .int), (tc 1, .boolean), (tc 2, .char), (tc 103, .object (fv_RN 3))]
theorem fv_cv_cat (ad : Nat → Nat) (v : Value) : (fv_cv ad v).category = v.category := by cases v <;> rfl
theorem fv_w_at (ad : Nat → Nat) (tc : Nat → ClassId) (sh : fv_Sh) (M : fv_M) (i : Nat) : (fv_w ad tc sh M)[i]? = sh[i]?.map (fun c => (ad i, fv_ce ad tc M i c)) := List.getElem?_mapIdx
theorem fv_w_len (ad : Nat → Nat) (tc : Nat → ClassId) (sh : fv_Sh) (M : fv_M) : (fv_w ad tc sh M).length = sh.length := List.length_mapIdx
theorem fv_w_c {ad : Nat → Nat} {tc : Nat → ClassId} {sh : fv_Sh} {M : fv_M} {i : Nat} {c : fv_C} (h : sh[i]? = some c) : (fv_w ad tc sh M)[i]? = some (ad i, fv_ce ad tc M i c) := by rw [fv_w_at, h]; rfl
theorem fv_ce_row (ad : Nat → Nat) (tc : Nat → ClassId) (M : fv_M) (i t n : Nat) : fv_ce ad tc M i (.inl (t, n)) = .inl (tc t, n, .inl (M i)) := rfl
theorem fv_ce_obj (ad : Nat → Nat) (tc : Nat → ClassId) (M : fv_M) (i ci : Nat) (sl : List (Option Value)) (h : ci < 100) : fv_ce ad tc M i (.inr (ci, sl)) = .inr (ci, sl.mapIdx (fun k o => fv_slv ad M i k o)) := if_pos h
theorem fv_ce_objs (ad : Nat → Nat) (tc : Nat → ClassId) (M : fv_M) (i : Nat) (sl : List (Option Value)) : fv_ce ad tc M i (.inr (103, sl)) = .inl (tc 103, sl.length, .inr (.inr (.inr (.inr (fun j => fv_ro ad sl[j]?))))) := by
  unfold fv_ce
  exact if_neg (show ¬ (103 : Nat) < 100 by decide)
/-- one cell is written -/
theorem fv_w_set {ad : Nat → Nat} {tc : Nat → ClassId} {sh : fv_Sh} {M M' : fv_M} {c : Nat} {x' : fv_C} (hM : ∀ j, j ≠ c → M' j = M j) : (fv_w ad tc sh M).set c (ad c, fv_ce ad tc M' c x') = fv_w ad tc (sh.set c x') M' := by
  apply List.ext_getElem?
  intro i
  rw [fv_w_at, List.getElem?_set, fv_w_len, List.getElem?_set]
  by_cases hi : c = i
  · subst hi
    by_cases hl : c < sh.length
    · rw [if_pos rfl, if_pos rfl, if_pos hl, if_pos hl]; rfl
    · rw [if_pos rfl, if_pos rfl, if_neg hl, if_neg hl]; rfl
  · rw [if_neg hi, if_neg hi, fv_w_at]
    cases hx : sh[i]? with
    | none => rfl
    | some x =>
      have hm := hM i (fun e => hi e.symm)
      have he : fv_ce ad tc M' i x = fv_ce ad tc M i x := by
        cases x with
        | inl q => simp only [fv_ce, hm]
        | inr q => simp only [fv_ce, fv_slv, hm]
      simp only [Option.map_some, he]
theorem fv_set_at (M : fv_M) (c k : Nat) (x : Int32) : fv_set M c k x c = upd (M c) k x := if_pos rfl
theorem fv_set_ne (M : fv_M) (c k : Nat) (x : Int32) : ∀ j, j ≠ c → fv_set M c k x j = M j := fun _ h => if_neg h
/-- an int of a row -/
theorem fv_w_row {ad : Nat → Nat} {tc : Nat → ClassId} {sh : fv_Sh} {M : fv_M} {c t n k : Nat} {x : Int32} (h : sh[c]? = some (.inl (t, n))) : (fv_w ad tc sh M).set c (ad c, .inl (tc t, n, .inl (upd (M c) k x))) = fv_w ad tc sh (fv_set M c k x) := by
  have e := fv_w_set (ad := ad) (tc := tc) (sh := sh) (x' := .inl (t, n)) (fv_set_ne M c k x)
  rw [fv_ce_row, fv_set_at] at e
  rw [e]
  congr 1
  apply List.ext_getElem?
  intro i
  rw [List.getElem?_set]
  by_cases hi : c = i
  · subst hi
    rw [if_pos rfl, if_pos (List.getElem?_eq_some_iff.mp h).1, h]
  · rw [if_neg hi]
/-- an int field of an object -/
theorem fv_w_fld {ad : Nat → Nat} {tc : Nat → ClassId} {sh : fv_Sh} {M : fv_M} {c ci k : Nat} {sl : List (Option Value)} {x : Int32} (hci : ci < 100) (h : sh[c]? = some (.inr (ci, sl))) (hk : sl[k]? = some none) : (fv_w ad tc sh M).set c (ad c, .inr (ci, (sl.mapIdx (fun k o => fv_slv ad M c k o)).set k (.int x))) = fv_w ad tc sh (fv_set M c k x) := by
  have e := fv_w_set (ad := ad) (tc := tc) (sh := sh) (x' := .inr (ci, sl)) (fv_set_ne M c k x)
  rw [fv_ce_obj _ _ _ _ _ _ hci] at e
  have e2 : sl.mapIdx (fun j o => fv_slv ad (fv_set M c k x) c j o) = (sl.mapIdx (fun j o => fv_slv ad M c j o)).set k (.int x) := by
    apply List.ext_getElem?
    intro i
    rw [List.getElem?_mapIdx, List.getElem?_set, List.length_mapIdx, List.getElem?_mapIdx]
    by_cases hi : k = i
    · subst hi
      rw [if_pos rfl, if_pos (List.getElem?_eq_some_iff.mp hk).1, hk]
      simp only [Option.map_some, fv_slv, fv_set_at, upd, if_true]
    · rw [if_neg hi]
      cases hx : sl[i]? with
      | none => rfl
      | some o =>
        cases o with
        | none => simp only [Option.map_some, fv_slv, fv_set_at, upd, if_neg (fun q : i = k => hi q.symm)]
        | some v => rfl
  rw [e2] at e
  rw [e]
  congr 1
  apply List.ext_getElem?
  intro i
  rw [List.getElem?_set]
  by_cases hi : c = i
  · subst hi
    rw [if_pos rfl, if_pos (List.getElem?_eq_some_iff.mp h).1, h]
  · rw [if_neg hi]
/-- a field that holds an object -/
theorem fv_w_ref {ad : Nat → Nat} {tc : Nat → ClassId} {sh : fv_Sh} {M : fv_M} {c ci k r : Nat} {sl : List (Option Value)} (hci : ci < 100) : (fv_w ad tc sh M).set c (ad c, .inr (ci, (sl.mapIdx (fun k o => fv_slv ad M c k o)).set k (.ref (ad r)))) = fv_w ad tc (sh.set c (.inr (ci, sl.set k (some (.ref r))))) M := by
  have e := fv_w_set (ad := ad) (tc := tc) (sh := sh) (M := M) (M' := M) (c := c) (x' := .inr (ci, sl.set k (some (.ref r)))) (fun _ _ => rfl)
  rw [fv_ce_obj _ _ _ _ _ _ hci] at e
  rw [← e]
  congr 3
  apply congrArg
  apply List.ext_getElem?
  intro i
  rw [List.getElem?_mapIdx, List.getElem?_set, List.length_mapIdx, List.getElem?_mapIdx, List.getElem?_set]
  by_cases hi : k = i
  · subst hi
    by_cases hl : k < sl.length
    · rw [if_pos rfl, if_pos rfl, if_pos hl, if_pos hl]; rfl
    · rw [if_pos rfl, if_pos rfl, if_neg hl, if_neg hl]; rfl
  · rw [if_neg hi, if_neg hi]
/-- a place of an array of objects -/
theorem fv_w_refs {ad : Nat → Nat} {tc : Nat → ClassId} {sh : fv_Sh} {M : fv_M} {c k r : Nat} {sl : List (Option Value)} (hk : k < sl.length) : (fv_w ad tc sh M).set c (ad c, .inl (tc 103, sl.length, .inr (.inr (.inr (.inr (va_up (fun j => fv_ro ad sl[j]?) k (some (ad r)))))))) = fv_w ad tc (sh.set c (.inr (103, sl.set k (some (.ref r))))) M := by
  have e := fv_w_set (ad := ad) (tc := tc) (sh := sh) (M := M) (M' := M) (c := c) (x' := .inr (103, sl.set k (some (.ref r)))) (fun _ _ => rfl)
  rw [fv_ce_objs, List.length_set] at e
  rw [← e]
  congr 8
  refine congrArg Sum.inr ?_
  funext j
  simp only [va_up]
  rw [List.getElem?_set]
  by_cases hj : j = k
  · subst hj
    rw [if_pos rfl, if_pos rfl, if_pos hk]
    rfl
  · rw [if_neg hj, if_neg (fun q => hj q.symm)]
/-- two ways to lay the same cells, where no cell names a place that is not there yet -/
theorem fv_cv_eq {ad ad' : Nat → Nat} {n : Nat} (ha : ∀ i, i < n ∨ fv_SCR ≤ i → ad' i = ad i) {v : Value} (h : fv_belV n v = true) : fv_cv ad' v = fv_cv ad v := by
  cases v with
  | ref r =>
    simp only [fv_belV, Bool.or_eq_true, decide_eq_true_eq] at h
    simp only [fv_cv, ha r h]
  | _ => rfl
theorem fv_ce_eq {ad ad' : Nat → Nat} {tc : Nat → ClassId} {M M' : fv_M} {n i : Nat} (ha : ∀ i, i < n ∨ fv_SCR ≤ i → ad' i = ad i) {c : fv_C} (h : fv_belC n c = true) (hM : M' i = M i) : fv_ce ad' tc M' i c = fv_ce ad tc M i c := by
  cases c with
  | inl q => simp only [fv_ce, hM]
  | inr q =>
    obtain ⟨ci, sl⟩ := q
    have hb : ∀ o ∈ sl, fv_belO n o = true := fun o ho => List.all_eq_true.mp h o ho
    by_cases hc : ci < 100
    · rw [fv_ce_obj _ _ _ _ _ _ hc, fv_ce_obj _ _ _ _ _ _ hc]
      congr 2
      apply List.ext_getElem?
      intro k
      rw [List.getElem?_mapIdx, List.getElem?_mapIdx]
      cases hx : sl[k]? with
      | none => rfl
      | some o =>
        have := hb o (List.mem_of_getElem? hx)
        cases o with
        | none => simp only [Option.map_some, fv_slv, hM]
        | some v => simp only [Option.map_some, fv_slv, fv_cv_eq ha this]
    · simp only [fv_ce, if_neg hc]
      congr 7
      funext j
      cases hx : sl[j]? with
      | none => rfl
      | some o =>
        have h2 := hb o (List.mem_of_getElem? hx)
        cases o with
        | none => rfl
        | some v =>
          cases v with
          | ref r =>
            simp only [fv_belO, fv_belV, Bool.or_eq_true, decide_eq_true_eq] at h2
            simp only [fv_ro, ha r h2]
          | _ => rfl
theorem fv_w_push {ad ad' : Nat → Nat} {tc : Nat → ClassId} {sh : fv_Sh} {M M' : fv_M} {x : fv_C} (ha : ∀ i, i < sh.length ∨ fv_SCR ≤ i → ad' i = ad i) (hb : sh.all (fv_belC sh.length) = true) (hM : ∀ j, j < sh.length → M' j = M j) : fv_w ad' tc (sh ++ [x]) M' = fv_w ad tc sh M ++ [(ad' sh.length, fv_ce ad' tc M' sh.length x)] := by
  apply List.ext_getElem?
  intro i
  rw [fv_w_at]
  rcases Nat.lt_trichotomy i sh.length with h | h | h
  · rw [List.getElem?_append_left h, List.getElem?_append_left (by rw [fv_w_len]; exact h), fv_w_at]
    cases hx : sh[i]? with
    | none => rfl
    | some c => simp only [Option.map_some, ha i (Or.inl h), fv_ce_eq ha (List.all_eq_true.mp hb c (List.mem_of_getElem? hx)) (hM i h)]
  · subst h
    rw [List.getElem?_append_right (Nat.le_refl _), List.getElem?_append_right (by rw [fv_w_len]; exact Nat.le_refl _), fv_w_len, Nat.sub_self]
    rfl
  · rw [List.getElem?_append_right (by omega), List.getElem?_append_right (by rw [fv_w_len]; omega), fv_w_len]
    rw [show i - sh.length = (i - sh.length - 1) + 1 by omega]
    rfl
/-! the method's own values -/
def fv_lv (ad : Nat → Nat) (ls : fv_Sl) : List (Nat × Value) := (ls.mapIdx (fun i o => o.map (fun v => (i, fv_cv ad v)))).filterMap id
theorem fv_lv_mem {ad : Nat → Nat} {ls : fv_Sl} {q : Nat × Value} : q ∈ fv_lv ad ls ↔ ∃ (i : Nat) (v : Value), ls[i]? = some (some v) ∧ q = (i, fv_cv ad v) := by
  unfold fv_lv
  rw [List.mem_filterMap]
  constructor
  · rintro ⟨o, ho, h⟩
    obtain ⟨i, hi⟩ := List.getElem?_of_mem ho
    rw [List.getElem?_mapIdx] at hi
    cases hx : ls[i]? with
    | none => rw [hx] at hi; cases hi
    | some p =>
      rw [hx] at hi
      cases p with
      | none => simp only [Option.map_some, Option.map_none, Option.some.injEq] at hi; rw [← hi] at h; cases h
      | some v =>
        simp only [Option.map_some, Option.some.injEq] at hi
        rw [← hi] at h
        simp only [id, Option.some.injEq] at h
        exact ⟨i, v, hx, h.symm⟩
  · rintro ⟨i, v, hx, rfl⟩
    exact ⟨some (i, fv_cv ad v), List.mem_of_getElem? (i := i) (by rw [List.getElem?_mapIdx, hx]; rfl), rfl⟩
theorem fv_lv_sub {lsA : Array Slot} {n : Nat} {l l' : List (Nat × Value)} (h : lv_has lsA n l) (hs : ∀ q ∈ l', q ∈ l) : lv_has lsA n l' := ⟨h.1, h.2.1, fun q hq => h.2.2 q (hs q hq)⟩
theorem fv_ld {ad : Nat → Nat} {ls : fv_Sl} {lsA : Array Slot} {n j : Nat} {v : Value} (h : lv_has lsA n (fv_lv ad ls)) (hj : ls[j]? = some (some v)) : lsA[j]? = some (.val (fv_cv ad v)) := h.2.2 (j, fv_cv ad v) (fv_lv_mem.mpr ⟨j, v, hj, rfl⟩)
/-- a value of two slots stands before a place that is not named -/
def fv_wl (ls : fv_Sl) : Prop := ∀ (i : Nat) (v : Value), ls[i]? = some (some v) → v.category = 2 → ls[i + 1]? = some none
theorem fv_st_ok {ad : Nat → Nat} {ls ls' : fv_Sl} {j : Nat} {v : Value} (hw : fv_wl ls) (h : fv_st1 ls j v = some ls') (hv : v.category = 1) : fv_wl ls' ∧ ∀ q ∈ fv_lv ad ls', q ∈ (j, fv_cv ad v) :: (fv_lv ad ls).filter (fun q => !(q.1 == j) && !(q.1 + 1 == j && q.2.category == 2)) := by
  unfold fv_st1 at h
  by_cases hj : j = ls.length
  · rw [if_pos hj] at h
    cases h
    have key : ∀ (i : Nat) (u : Value), (ls ++ [some v])[i]? = some (some u) → (i < ls.length ∧ ls[i]? = some (some u)) ∨ (i = ls.length ∧ u = v) := by
      intro i u hu
      by_cases hi : i < ls.length
      · rw [List.getElem?_append_left hi] at hu; exact Or.inl ⟨hi, hu⟩
      · rw [List.getElem?_append_right (by omega)] at hu
        have hz := (List.getElem?_eq_some_iff.mp hu).1
        simp only [List.length_cons, List.length_nil] at hz
        have h0 : i - ls.length = 0 := by omega
        rw [h0] at hu
        simp only [List.getElem?_cons_zero, Option.some.injEq] at hu
        exact Or.inr ⟨by omega, hu.symm⟩
    refine ⟨fun i u hu hc => ?_, fun q hq => ?_⟩
    · rcases key i u hu with ⟨hi, h1⟩ | ⟨hi, rfl⟩
      · have h2 := hw i u h1 hc
        rw [List.getElem?_append_left (List.getElem?_eq_some_iff.mp h2).1]
        exact h2
      · omega
    · obtain ⟨i, u, hu, rfl⟩ := fv_lv_mem.mp hq
      rcases key i u hu with ⟨hi, h1⟩ | ⟨hi, rfl⟩
      · refine List.mem_cons.mpr (Or.inr (List.mem_filter.mpr ⟨fv_lv_mem.mpr ⟨i, u, h1, rfl⟩, ?_⟩))
        simp only [Bool.and_eq_true, Bool.not_eq_true', beq_eq_false_iff_ne, Bool.and_eq_false_iff, fv_cv_cat]
        refine ⟨by omega, ?_⟩
        by_cases hc : u.category = 2
        · have h2 := (List.getElem?_eq_some_iff.mp (hw i u h1 hc)).1
          exact Or.inl (by omega)
        · exact Or.inr hc
      · rw [hi, hj]; exact List.mem_cons_self
  · rw [if_neg hj] at h
    cases hx : ls[j]? with
    | none => rw [hx] at h; cases h
    | some o =>
      rw [hx] at h
      cases o with
      | none => cases h
      | some u0 =>
        dsimp only at h
        by_cases hc0 : u0.category = 1
        · rw [if_pos hc0] at h
          cases h
          have hjl := (List.getElem?_eq_some_iff.mp hx).1
          have key : ∀ (i : Nat) (u : Value), (ls.set j (some v))[i]? = some (some u) → (i ≠ j ∧ ls[i]? = some (some u)) ∨ (i = j ∧ u = v) := by
            intro i u hu
            rw [List.getElem?_set] at hu
            by_cases hi : j = i
            · rw [if_pos hi, if_pos (by omega)] at hu
              cases hu
              exact Or.inr ⟨hi.symm, rfl⟩
            · rw [if_neg hi] at hu
              exact Or.inl ⟨fun q => hi q.symm, hu⟩
          refine ⟨fun i u hu hc => ?_, fun q hq => ?_⟩
          · rcases key i u hu with ⟨hi, h1⟩ | ⟨hi, rfl⟩
            · have h2 := hw i u h1 hc
              rw [List.getElem?_set, if_neg (fun q : j = i + 1 => by rw [← q, hx] at h2; cases h2)]
              exact h2
            · omega
          · obtain ⟨i, u, hu, rfl⟩ := fv_lv_mem.mp hq
            rcases key i u hu with ⟨hi, h1⟩ | ⟨hi, rfl⟩
            · refine List.mem_cons.mpr (Or.inr (List.mem_filter.mpr ⟨fv_lv_mem.mpr ⟨i, u, h1, rfl⟩, ?_⟩))
              simp only [Bool.and_eq_true, Bool.not_eq_true', beq_eq_false_iff_ne, Bool.and_eq_false_iff, fv_cv_cat]
              refine ⟨hi, ?_⟩
              by_cases hc : u.category = 2
              · have h2 := hw i u h1 hc
                exact Or.inl (fun q => by rw [q, hx] at h2; cases h2)
              · exact Or.inr hc
            · rw [hi]; exact List.mem_cons_self
        · rw [if_neg hc0] at h; cases h
theorem fv_stL_ok {ad : Nat → Nat} {ls : fv_Sl} {x : Int64} (hw : fv_wl ls) : fv_wl (ls ++ [some (.long x), none]) ∧ ∀ q ∈ fv_lv ad (ls ++ [some (.long x), none]), q ∈ (ls.length, Value.long x) :: (fv_lv ad ls).filter (fun q => !(q.1 == ls.length) && (!(q.1 == ls.length + 1) && !(q.1 + 1 == ls.length && q.2.category == 2))) := by
  have key : ∀ (i : Nat) (u : Value), (ls ++ [some (Value.long x), none])[i]? = some (some u) → (i < ls.length ∧ ls[i]? = some (some u)) ∨ (i = ls.length ∧ u = .long x) := by
    intro i u hu
    by_cases hi : i < ls.length
    · rw [List.getElem?_append_left hi] at hu; exact Or.inl ⟨hi, hu⟩
    · rw [List.getElem?_append_right (by omega)] at hu
      have hz := (List.getElem?_eq_some_iff.mp hu).1
      simp only [List.length_cons, List.length_nil] at hz
      rcases (by omega : i - ls.length = 0 ∨ i - ls.length = 1) with h0 | h0
      · rw [h0] at hu
        simp only [List.getElem?_cons_zero, Option.some.injEq] at hu
        exact Or.inr ⟨by omega, hu.symm⟩
      · rw [h0] at hu
        cases hu
  refine ⟨fun i u hu hc => ?_, fun q hq => ?_⟩
  · rcases key i u hu with ⟨hi, h1⟩ | ⟨hi, rfl⟩
    · have h2 := hw i u h1 hc
      rw [List.getElem?_append_left (List.getElem?_eq_some_iff.mp h2).1]
      exact h2
    · rw [hi, List.getElem?_append_right (by omega), show ls.length + 1 - ls.length = 1 by omega]
      rfl
  · obtain ⟨i, u, hu, rfl⟩ := fv_lv_mem.mp hq
    rcases key i u hu with ⟨hi, h1⟩ | ⟨hi, rfl⟩
    · refine List.mem_cons.mpr (Or.inr (List.mem_filter.mpr ⟨fv_lv_mem.mpr ⟨i, u, h1, rfl⟩, ?_⟩))
      simp only [Bool.and_eq_true, Bool.not_eq_true', beq_eq_false_iff_ne, Bool.and_eq_false_iff, fv_cv_cat]
      refine ⟨by omega, by omega, ?_⟩
      by_cases hc : u.category = 2
      · have h2 := (List.getElem?_eq_some_iff.mp (hw i u h1 hc)).1
        exact Or.inl (by omega)
      · exact Or.inr hc
    · rw [hi]; exact List.mem_cons_self
theorem fv_take_ok {ad : Nat → Nat} {ls : fv_Sl} {n : Nat} (h : (ls.take n).all fv_one = true) : fv_wl (ls.take n) ∧ ∀ q ∈ fv_lv ad (ls.take n), q ∈ fv_lv ad ls := by
  refine ⟨fun i v hv hc => ?_, fun q hq => ?_⟩
  · have h1 := List.all_eq_true.mp h _ (List.mem_of_getElem? hv)
    simp only [fv_one, beq_iff_eq] at h1
    omega
  · obtain ⟨i, v, hv, rfl⟩ := fv_lv_mem.mp hq
    have hl := (List.getElem?_eq_some_iff.mp hv).1
    rw [List.length_take] at hl
    rw [List.getElem?_take_of_lt (by omega)] at hv
    exact fv_lv_mem.mpr ⟨i, v, hv, rfl⟩
theorem fv_iinc_ok {ad : Nat → Nat} {ls : fv_Sl} {j : Nat} {x z : Int32} (hw : fv_wl ls) (hx : ls[j]? = some (some (.int x))) : fv_wl (ls.set j (some (.int z))) ∧ ∀ q ∈ fv_lv ad (ls.set j (some (.int z))), q ∈ (j, Value.int z) :: (fv_lv ad ls).filter (fun q => !(q.1 == j) && !(q.1 + 1 == j && q.2.category == 2)) := by
  have hjl := (List.getElem?_eq_some_iff.mp hx).1
  have h : fv_st1 ls j (.int z) = some (ls.set j (some (.int z))) := by
    unfold fv_st1
    rw [if_neg (by omega), hx]
    rfl
  exact fv_st_ok hw h rfl
/-- with how a method begins -/
theorem fv_lv_args (ad : Nat → Nat) (as : List Value) (h : as.all (fun v => v.category == 1) = true) : ∀ q ∈ fv_lv ad (as.map some), q ∈ lv_args 0 (as.map (fv_cv ad)) := by
  have key : ∀ (as : List Value) (k : Nat), as.all (fun v => v.category == 1) = true → ∀ (i : Nat) (v : Value), as[i]? = some v → (k + i, fv_cv ad v) ∈ lv_args k (as.map (fv_cv ad)) := by
    intro as
    induction as with
    | nil => intro k _ i v hv; cases hv
    | cons a as ih =>
      intro k ha i v hv
      simp only [List.all_cons, Bool.and_eq_true, beq_iff_eq] at ha
      have hc : ¬ (fv_cv ad a).category = 2 := by rw [fv_cv_cat]; omega
      simp only [List.map_cons, lv_args, if_neg hc]
      cases i with
      | zero => cases hv; exact List.mem_cons_self
      | succ i =>
        have := ih (k + 1) ha.2 i v hv
        rw [show k + 1 + i = k + (i + 1) by omega] at this
        exact List.mem_cons_of_mem _ this
  intro q hq
  obtain ⟨i, v, hv, rfl⟩ := fv_lv_mem.mp hq
  rw [List.getElem?_map] at hv
  cases hx : as[i]? with
  | none => rw [hx] at hv; cases hv
  | some u =>
    rw [hx] at hv
    cases hv
    have := key as 0 h i v hx
    rwa [Nat.zero_add] at this
theorem fv_wl_args (as : List Value) (h : as.all (fun v => v.category == 1) = true) : fv_wl (as.map some) := by
  intro i v hv hc
  rw [List.getElem?_map] at hv
  cases hx : as[i]? with
  | none => rw [hx] at hv; cases hv
  | some u =>
    rw [hx] at hv
    cases hv
    have := List.all_eq_true.mp h _ (List.mem_of_getElem? hx)
    simp only [beq_iff_eq] at this
    omega
/-! kinds of objects -/
theorem fv_lay_in {ci : Nat} (h : ci < 7) : ∀ w ∈ u_ws (fv_RN ci) (fv_T ci) (fv_NF ci), w ∈ fv_GL := by
  intro w hw
  obtain ⟨k, hk, rfl⟩ := List.mem_map.mp hw
  have h1 := List.all_eq_true.mp (fv_lay_all ci h) k hk
  simp only [Bool.and_eq_true, decide_eq_true_eq] at h1
  refine fv_GL_in h1.1.1 ?_
  unfold u_lay
  split <;> rfl
theorem fv_lay_ty {ci : Nat} (h : ci < 7) : ∀ k, k < fv_NF ci → parseFieldDescriptor ((fv_T ci) k).2.2.1 = some (fv_Y ci k) := by
  intro k hk
  have h1 := List.all_eq_true.mp (fv_lay_all ci h) k (List.mem_range.mpr hk)
  simp only [Bool.and_eq_true, decide_eq_true_eq] at h1
  exact h1.1.2
theorem fv_lay_nm {ci : Nat} (h : ci < 7) : ∀ a, a < fv_NF ci → ∀ b, b < fv_NF ci → a ≠ b → ((fv_T ci) a).2.1 ≠ ((fv_T ci) b).2.1 := by
  intro a ha b hb hab
  have h1 := List.all_eq_true.mp (fv_lay_all ci h) a (List.mem_range.mpr ha)
  simp only [Bool.and_eq_true, decide_eq_true_eq] at h1
  have h2 := List.all_eq_true.mp h1.2 b (List.mem_range.mpr hb)
  simp only [Bool.or_eq_true, decide_eq_true_eq] at h2
  exact h2.resolve_left hab
theorem fv_fs_in {y i ci k : Nat} (h : fv_fsin y i ci k = true) : Cond.fieldLink (fv_RN (fv_ow y)) i (fv_RN ci) ((fv_T ci) k).2.1 ((fv_T ci) k).2.2.1 ∈ fv_GL ∧ ((fv_T ci) k).1 = fv_RN ci ∧ ci < 7 ∧ k < fv_NF ci := by
  obtain ⟨⟨a, b, c0, d, ix⟩, hq, h⟩ := List.any_eq_true.mp h
  simp only [Bool.and_eq_true, decide_eq_true_eq] at h
  obtain ⟨rfl, rfl, rfl, rfl⟩ := h
  have h1 := List.all_eq_true.mp fv_FS_ok _ hq
  simp only [fv_fsok, Bool.and_eq_true, decide_eq_true_eq] at h1
  exact ⟨fv_GL_in h1.1.1.1 rfl, h1.1.1.2, h1.1.2, h1.2⟩
theorem fv_good {ws : List Cond} (h : ∀ w ∈ ws, w ∈ fv_GL) : GoodIn fv_GL ws := fun w hw => ⟨h w hw, good_of_word (List.mem_filter.mp (h w hw)).2⟩
