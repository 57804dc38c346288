/-! what an item adds to a draft, the class's way -/
def fa_ap (f : Nat → Nat) (k x : Nat) : Nat → Nat := fun j => if j = k then x else f j
def fa_aV (l : fa_L) (a b : Nat) : fa_L := fa_L.mk (l.nv + 1) l.nn l.nt l.nw (fa_ap l.kd l.nv a) (fa_ap l.cr l.nv b) l.mi l.ow l.sk l.wt l.wv l.ww
def fa_aN (l : fa_L) (a : Nat) : fa_L := fa_L.mk l.nv (l.nn + 1) l.nt l.nw l.kd l.cr (fa_ap l.mi l.nn a) l.ow l.sk l.wt l.wv l.ww
def fa_aT (l : fa_L) (a : Nat) : fa_L := fa_L.mk l.nv l.nn (l.nt + 1) l.nw l.kd l.cr l.mi (fa_ap l.ow l.nt a) l.sk l.wt l.wv l.ww
theorem fa_ap_upd {M0 : Nat → Int32} {f : Nat → Nat} {n a : Nat} (h : ∀ v, v < n → M0 v = nI (f v)) : ∀ v, v < n + 1 → upd M0 n (nI a) v = nI (fa_ap f n a v) := by
  intro v hv
  unfold fa_ap
  by_cases e : v = n
  · rw [e, fa_upd_same, if_pos rfl]
  · rw [fa_upd_ne _ _ e, if_neg e]; exact h v (by omega)
theorem fa_addVerb {M : fv_M} {D a b : Nat} {l : fa_L} (hl : fa_wl l) (h : fa_lc M D l) (ha : a ≤ 99) (hb : b ≤ 99) : ∃ M', (∀ j, (j < D ∨ D + 10 ≤ j) → M' j = M j) ∧
    if l.nv < 6 ∧ a ≤ 3 ∧ b ≤ 9 then g_L_addVerb M D (nI a) (nI b) = some (1, M') ∧ fa_lc M' D (fa_aV l a b) else g_L_addVerb M D (nI a) (nI b) = some (0, M') := by
  have h6 := hl.nv
  have ea : ((0 : Int32) ≤ nI a ∧ nI a ≤ (3 : Int32)) ↔ a ≤ 3 := ⟨fun z => (nI_leI (a := a) (b := 3) (by omega) (by omega)).mp z.2, fun z => ⟨nI_pos' (by omega), nI_le (a := a) (b := 3) z (by omega)⟩⟩
  have eb : ((0 : Int32) ≤ nI b ∧ nI b ≤ (9 : Int32)) ↔ b ≤ 9 := ⟨fun z => (nI_leI (a := b) (b := 9) (by omega) (by omega)).mp z.2, fun z => ⟨nI_pos' (by omega), nI_le (a := b) (b := 9) z (by omega)⟩⟩
  by_cases c1 : l.nv < 6
  rotate_left
  · refine ⟨M, fun _ _ => rfl, ?_⟩
    rw [if_neg (fun z => c1 z.1)]
    unfold g_L_addVerb
    rw [h.nv, if_pos (show (6 : Int32) ≤ nI l.nv from nI_le (a := 6) (b := l.nv) (by omega) (by omega))]
  by_cases c2 : a ≤ 3
  rotate_left
  · refine ⟨M, fun _ _ => rfl, ?_⟩
    rw [if_neg (fun z => c2 z.2.1)]
    unfold g_L_addVerb
    rw [h.nv, if_neg (show ¬ (6 : Int32) ≤ nI l.nv from nI_ge (a := l.nv) (b := 6) c1 (by omega)), fa_wi0 (fun z => c2 (ea.mp z)), Option.bind_some, if_pos rfl]
  by_cases c3 : b ≤ 9
  rotate_left
  · refine ⟨M, fun _ _ => rfl, ?_⟩
    rw [if_neg (fun z => c3 z.2.2)]
    unfold g_L_addVerb
    rw [h.nv, if_neg (show ¬ (6 : Int32) ≤ nI l.nv from nI_ge (a := l.nv) (b := 6) c1 (by omega)), fa_wi1 (ea.mpr c2), Option.bind_some, if_neg fa_10, fa_wi0 (fun z => c3 (eb.mp z)), Option.bind_some, if_pos rfl]
  refine ⟨fv_set (fv_set (fv_set M (D + 1) l.nv (nI a)) (D + 2) l.nv (nI b)) D 0 (nI (l.nv + 1)), fun j hj => by rw [fv_set_ne _ _ _ _ j (by omega), fv_set_ne _ _ _ _ j (by omega), fv_set_ne _ _ _ _ j (by omega)], ?_⟩
  rw [if_pos ⟨c1, c2, c3⟩]
  have hr : ∀ j, j ≠ D → j ≠ D + 1 → j ≠ D + 2 → (fv_set (fv_set (fv_set M (D + 1) l.nv (nI a)) (D + 2) l.nv (nI b)) D 0 (nI (l.nv + 1))) j = M j := fun j j0 j1 j2 => by rw [fv_set_ne _ _ _ _ j j0, fv_set_ne _ _ _ _ j j2, fv_set_ne _ _ _ _ j j1]
  have h0 : ∀ k, k ≠ 0 → (fv_set (fv_set (fv_set M (D + 1) l.nv (nI a)) (D + 2) l.nv (nI b)) D 0 (nI (l.nv + 1))) D k = M D k := fun k hk => by rw [fv_set_at, fa_upd_ne _ _ hk, fv_set_ne _ _ _ _ D (by omega), fv_set_ne _ _ _ _ D (by omega)]
  refine ⟨?_, ⟨by rw [fv_set_at, fa_upd_same]; rfl, by rw [h0 1 (by omega)]; exact h.nn, by rw [h0 2 (by omega)]; exact h.nt, by rw [h0 3 (by omega)]; exact h.nw, fun v hv => ?_, fun v hv => ?_, fun i hi => by rw [hr _ (by omega) (by omega) (by omega)]; exact h.mi i hi, fun i hi => by rw [hr _ (by omega) (by omega) (by omega)]; exact h.ow i hi, fun i hi => by rw [hr _ (by omega) (by omega) (by omega)]; exact h.sk i hi, fun i hi => by rw [hr _ (by omega) (by omega) (by omega)]; exact h.wt i hi, fun i hi => by rw [hr _ (by omega) (by omega) (by omega)]; exact h.wv i hi, fun i hi => by rw [hr _ (by omega) (by omega) (by omega)]; exact h.ww i hi⟩⟩
  · unfold g_L_addVerb
    rw [h.nv, if_neg (show ¬ (6 : Int32) ≤ nI l.nv from nI_ge (a := l.nv) (b := 6) c1 (by omega)), fa_wi1 (ea.mpr c2), Option.bind_some, if_neg fa_10, fa_wi1 (eb.mpr c3), Option.bind_some, if_neg fa_10, fa_put c1 (by omega), Option.bind_some, fv_set_ne _ _ _ _ D (by omega), h.nv, fa_put c1 (by omega), Option.bind_some, fv_set_ne _ _ _ _ D (by omega), fv_set_ne _ _ _ _ D (by omega), h.nv, nI_1]
  · rw [fv_set_ne _ _ _ _ (D + 1) (by omega), fv_set_ne _ _ _ _ (D + 1) (by omega), fv_set_at]
    exact fa_ap_upd h.kd v hv
  · rw [fv_set_ne _ _ _ _ (D + 2) (by omega), fv_set_at, fv_set_ne _ _ _ _ (D + 2) (by omega)]
    exact fa_ap_upd h.cr v hv
theorem fa_addNoun {M : fv_M} {D a : Nat} {l : fa_L} (hl : fa_wl l) (h : fa_lc M D l) (ha : a ≤ 99) : ∃ M', (∀ j, (j < D ∨ D + 10 ≤ j) → M' j = M j) ∧
    if l.nn < 8 ∧ 1 ≤ a ∧ a ≤ 63 then g_L_addNoun M D (nI a) = some (1, M') ∧ fa_lc M' D (fa_aN l a) else g_L_addNoun M D (nI a) = some (0, M') := by
  have h6 := hl.nn
  have ea : ((1 : Int32) ≤ nI a ∧ nI a ≤ (63 : Int32)) ↔ (1 ≤ a ∧ a ≤ 63) := ⟨fun z => ⟨(nI_leI (a := 1) (b := a) (by omega) (by omega)).mp z.1, (nI_leI (a := a) (b := 63) (by omega) (by omega)).mp z.2⟩, fun z => ⟨nI_le (a := 1) (b := a) z.1 (by omega), nI_le (a := a) (b := 63) z.2 (by omega)⟩⟩
  by_cases c1 : l.nn < 8
  rotate_left
  · refine ⟨M, fun _ _ => rfl, ?_⟩
    rw [if_neg (fun z => c1 z.1)]
    unfold g_L_addNoun
    rw [h.nn, if_pos (show (8 : Int32) ≤ nI l.nn from nI_le (a := 8) (b := l.nn) (by omega) (by omega))]
  by_cases c2 : 1 ≤ a ∧ a ≤ 63
  rotate_left
  · refine ⟨M, fun _ _ => rfl, ?_⟩
    rw [if_neg (fun z => c2 z.2)]
    unfold g_L_addNoun
    rw [h.nn, if_neg (show ¬ (8 : Int32) ≤ nI l.nn from nI_ge (a := l.nn) (b := 8) c1 (by omega)), fa_wi0 (fun z => c2 (ea.mp z)), Option.bind_some, if_pos rfl]
  refine ⟨fv_set (fv_set M (D + 3) l.nn (nI a)) D 1 (nI (l.nn + 1)), fun j hj => by rw [fv_set_ne _ _ _ _ j (by omega), fv_set_ne _ _ _ _ j (by omega)], ?_⟩
  rw [if_pos ⟨c1, c2⟩]
  have hr : ∀ j, j ≠ D → j ≠ D + 3 → (fv_set (fv_set M (D + 3) l.nn (nI a)) D 1 (nI (l.nn + 1))) j = M j := fun j j0 j1 => by rw [fv_set_ne _ _ _ _ j j0, fv_set_ne _ _ _ _ j j1]
  have h0 : ∀ k, k ≠ 1 → (fv_set (fv_set M (D + 3) l.nn (nI a)) D 1 (nI (l.nn + 1))) D k = M D k := fun k hk => by rw [fv_set_at, fa_upd_ne _ _ hk, fv_set_ne _ _ _ _ D (by omega)]
  refine ⟨?_, ⟨by rw [h0 0 (by omega)]; exact h.nv, by rw [fv_set_at, fa_upd_same]; rfl, by rw [h0 2 (by omega)]; exact h.nt, by rw [h0 3 (by omega)]; exact h.nw, fun i hi => by rw [hr _ (by omega) (by omega)]; exact h.kd i hi, fun i hi => by rw [hr _ (by omega) (by omega)]; exact h.cr i hi, fun v hv => ?_, fun i hi => by rw [hr _ (by omega) (by omega)]; exact h.ow i hi, fun i hi => by rw [hr _ (by omega) (by omega)]; exact h.sk i hi, fun i hi => by rw [hr _ (by omega) (by omega)]; exact h.wt i hi, fun i hi => by rw [hr _ (by omega) (by omega)]; exact h.wv i hi, fun i hi => by rw [hr _ (by omega) (by omega)]; exact h.ww i hi⟩⟩
  · unfold g_L_addNoun
    rw [h.nn, if_neg (show ¬ (8 : Int32) ≤ nI l.nn from nI_ge (a := l.nn) (b := 8) c1 (by omega)), fa_wi1 (ea.mpr c2), Option.bind_some, if_neg fa_10, fa_put c1 (by omega), Option.bind_some, fv_set_ne _ _ _ _ D (by omega), h.nn, nI_1]
  · rw [fv_set_ne _ _ _ _ (D + 3) (by omega), fv_set_at]
    exact fa_ap_upd h.mi v hv
theorem fa_addVillage {M : fv_M} {D a : Nat} {l : fa_L} (hl : fa_wl l) (h : fa_lc M D l) (ha : a ≤ 99) : ∃ M', (∀ j, (j < D ∨ D + 10 ≤ j) → M' j = M j) ∧
    if l.nt < 4 ∧ a ≤ 63 then g_L_addVillage M D (nI a) = some (1, M') ∧ fa_lc M' D (fa_aT l a) else g_L_addVillage M D (nI a) = some (0, M') := by
  have h6 := hl.nt
  have ea : ((0 : Int32) ≤ nI a ∧ nI a ≤ (63 : Int32)) ↔ a ≤ 63 := ⟨fun z => (nI_leI (a := a) (b := 63) (by omega) (by omega)).mp z.2, fun z => ⟨nI_pos' (by omega), nI_le (a := a) (b := 63) z (by omega)⟩⟩
  by_cases c1 : l.nt < 4
  rotate_left
  · refine ⟨M, fun _ _ => rfl, ?_⟩
    rw [if_neg (fun z => c1 z.1)]
    unfold g_L_addVillage
    rw [h.nt, if_pos (show (4 : Int32) ≤ nI l.nt from nI_le (a := 4) (b := l.nt) (by omega) (by omega))]
  by_cases c2 : a ≤ 63
  rotate_left
  · refine ⟨M, fun _ _ => rfl, ?_⟩
    rw [if_neg (fun z => c2 z.2)]
    unfold g_L_addVillage
    rw [h.nt, if_neg (show ¬ (4 : Int32) ≤ nI l.nt from nI_ge (a := l.nt) (b := 4) c1 (by omega)), fa_wi0 (fun z => c2 (ea.mp z)), Option.bind_some, if_pos rfl]
  refine ⟨fv_set (fv_set M (D + 4) l.nt (nI a)) D 2 (nI (l.nt + 1)), fun j hj => by rw [fv_set_ne _ _ _ _ j (by omega), fv_set_ne _ _ _ _ j (by omega)], ?_⟩
  rw [if_pos ⟨c1, c2⟩]
  have hr : ∀ j, j ≠ D → j ≠ D + 4 → (fv_set (fv_set M (D + 4) l.nt (nI a)) D 2 (nI (l.nt + 1))) j = M j := fun j j0 j1 => by rw [fv_set_ne _ _ _ _ j j0, fv_set_ne _ _ _ _ j j1]
  have h0 : ∀ k, k ≠ 2 → (fv_set (fv_set M (D + 4) l.nt (nI a)) D 2 (nI (l.nt + 1))) D k = M D k := fun k hk => by rw [fv_set_at, fa_upd_ne _ _ hk, fv_set_ne _ _ _ _ D (by omega)]
  refine ⟨?_, ⟨by rw [h0 0 (by omega)]; exact h.nv, by rw [h0 1 (by omega)]; exact h.nn, by rw [fv_set_at, fa_upd_same]; rfl, by rw [h0 3 (by omega)]; exact h.nw, fun i hi => by rw [hr _ (by omega) (by omega)]; exact h.kd i hi, fun i hi => by rw [hr _ (by omega) (by omega)]; exact h.cr i hi, fun i hi => by rw [hr _ (by omega) (by omega)]; exact h.mi i hi, fun v hv => ?_, fun i hi => by rw [hr _ (by omega) (by omega)]; exact h.sk i hi, fun i hi => by rw [hr _ (by omega) (by omega)]; exact h.wt i hi, fun i hi => by rw [hr _ (by omega) (by omega)]; exact h.wv i hi, fun i hi => by rw [hr _ (by omega) (by omega)]; exact h.ww i hi⟩⟩
  · unfold g_L_addVillage
    rw [h.nt, if_neg (show ¬ (4 : Int32) ≤ nI l.nt from nI_ge (a := l.nt) (b := 4) c1 (by omega)), fa_wi1 (ea.mpr c2), Option.bind_some, if_neg fa_10, fa_put c1 (by omega), Option.bind_some, fv_set_ne _ _ _ _ D (by omega), h.nt, nI_1]
  · rw [fv_set_ne _ _ _ _ (D + 4) (by omega), fv_set_at]
    exact fa_ap_upd h.ow v hv
theorem fa_isTold {M : fv_M} {D t v : Nat} {l : fa_L} (hl : fa_wl l) (h : fa_lc M D l) (ht : t ≤ 99) (hv : v ≤ 99) : g_L_isTold M D (nI t) (nI v) = some (if t < l.nt ∧ v < l.nv then (1 : Int32) else 0) := by
  have h1 := hl.nt
  have h2 := hl.nv
  unfold g_L_isTold
  rw [if_neg (nI_pos (by omega)), h.nt]
  by_cases c1 : t < l.nt
  · rw [if_neg (nI_ge c1 (by omega)), if_neg (nI_pos (by omega)), h.nv]
    by_cases c2 : v < l.nv
    · rw [if_neg (nI_ge c2 (by omega)), if_pos ⟨c1, c2⟩]
    · rw [if_pos (nI_le (by omega) (by omega)), if_neg (fun z => c2 z.2)]
  · rw [if_pos (nI_le (by omega) (by omega)), if_neg (fun z => c1 z.1)]
def fa_aS (l : fa_L) (t v x : Nat) : fa_L := fa_L.mk l.nv l.nn l.nt l.nw l.kd l.cr l.mi l.ow (fa_ap l.sk (6 * t + v) x) l.wt l.wv l.ww
theorem fa_addStock {M : fv_M} {D t v x : Nat} {l : fa_L} (hl : fa_wl l) (h : fa_lc M D l) (ht : t ≤ 99) (hv : v ≤ 99) (hx : x ≤ 99) : ∃ M', (∀ j, (j < D ∨ D + 10 ≤ j) → M' j = M j) ∧
    if (t < l.nt ∧ v < l.nv) ∧ x ≤ 30 then g_L_addStock M D (nI t) (nI v) (nI x) = some (1, M') ∧ fa_lc M' D (fa_aS l t v x) else g_L_addStock M D (nI t) (nI v) (nI x) = some (0, M') := by
  have h1 := hl.nt
  have h2 := hl.nv
  have ea : ((0 : Int32) ≤ nI x ∧ nI x ≤ (30 : Int32)) ↔ x ≤ 30 := ⟨fun z => (nI_leI (a := x) (b := 30) (by omega) (by omega)).mp z.2, fun z => ⟨nI_pos' (by omega), nI_le (a := x) (b := 30) z (by omega)⟩⟩
  by_cases c1 : t < l.nt ∧ v < l.nv
  rotate_left
  · refine ⟨M, fun _ _ => rfl, ?_⟩
    rw [if_neg (fun z => c1 z.1)]
    unfold g_L_addStock
    rw [fa_isTold hl h ht hv, if_neg c1, Option.bind_some, if_pos rfl]
  by_cases c2 : x ≤ 30
  rotate_left
  · refine ⟨M, fun _ _ => rfl, ?_⟩
    rw [if_neg (fun z => c2 z.2)]
    unfold g_L_addStock
    rw [fa_isTold hl h ht hv, if_pos c1, Option.bind_some, if_neg fa_10, fa_wi0 (fun z => c2 (ea.mp z)), Option.bind_some, if_pos rfl]
  obtain ⟨c11, c12⟩ := c1
  refine ⟨fv_set M (D + 6) (6 * t + v) (nI x), fun j hj => by rw [fv_set_ne _ _ _ _ j (by omega)], ?_⟩
  rw [if_pos ⟨⟨c11, c12⟩, c2⟩]
  have hr : ∀ j, j ≠ D + 6 → (fv_set M (D + 6) (6 * t + v) (nI x)) j = M j := fun j j0 => fv_set_ne _ _ _ _ j j0
  refine ⟨?_, ⟨by rw [hr _ (by omega)]; exact h.nv, by rw [hr _ (by omega)]; exact h.nn, by rw [hr _ (by omega)]; exact h.nt, by rw [hr _ (by omega)]; exact h.nw, fun i hi => by rw [hr _ (by omega)]; exact h.kd i hi, fun i hi => by rw [hr _ (by omega)]; exact h.cr i hi, fun i hi => by rw [hr _ (by omega)]; exact h.mi i hi, fun i hi => by rw [hr _ (by omega)]; exact h.ow i hi, fun i hi => ?_, fun i hi => by rw [hr _ (by omega)]; exact h.wt i hi, fun i hi => by rw [hr _ (by omega)]; exact h.wv i hi, fun i hi => by rw [hr _ (by omega)]; exact h.ww i hi⟩⟩
  · unfold g_L_addStock
    rw [fa_isTold hl h ht hv, if_pos ⟨c11, c12⟩, Option.bind_some, if_neg fa_10, fa_wi1 (ea.mpr c2), Option.bind_some, if_neg fa_10, fa_cell, Option.bind_some, fa_put (by omega) (by omega), Option.bind_some]
  · rw [fv_set_at]
    show upd (M (D + 6)) (6 * t + v) (nI x) i = nI (fa_ap l.sk (6 * t + v) x i)
    unfold fa_ap
    by_cases e : i = 6 * t + v
    · rw [e, fa_upd_same, if_pos rfl]
    · rw [fa_upd_ne _ _ e, if_neg e]; exact h.sk i hi
def fa_aW (l : fa_L) (t v x : Nat) : fa_L := fa_L.mk l.nv l.nn l.nt (l.nw + 1) l.kd l.cr l.mi l.ow l.sk (fa_ap l.wt l.nw t) (fa_ap l.wv l.nw v) (fa_ap l.ww l.nw x)
theorem fa_addWork {M : fv_M} {D t v x : Nat} {l : fa_L} (hl : fa_wl l) (h : fa_lc M D l) (ht : t ≤ 99) (hv : v ≤ 99) (hx : x ≤ 99) : ∃ M', (∀ j, (j < D ∨ D + 10 ≤ j) → M' j = M j) ∧
    if l.nw < 8 ∧ (t < l.nt ∧ v < l.nv) ∧ 1 ≤ x ∧ x ≤ 9 then g_L_addWork M D (nI t) (nI v) (nI x) = some (1, M') ∧ fa_lc M' D (fa_aW l t v x) else g_L_addWork M D (nI t) (nI v) (nI x) = some (0, M') := by
  have h1 := hl.nt
  have h2 := hl.nv
  have h3 := hl.nw
  have ea : ((1 : Int32) ≤ nI x ∧ nI x ≤ (9 : Int32)) ↔ (1 ≤ x ∧ x ≤ 9) := ⟨fun z => ⟨(nI_leI (a := 1) (b := x) (by omega) (by omega)).mp z.1, (nI_leI (a := x) (b := 9) (by omega) (by omega)).mp z.2⟩, fun z => ⟨nI_le (a := 1) (b := x) z.1 (by omega), nI_le (a := x) (b := 9) z.2 (by omega)⟩⟩
  by_cases c0 : l.nw < 8
  rotate_left
  · refine ⟨M, fun _ _ => rfl, ?_⟩
    rw [if_neg (fun z => c0 z.1)]
    unfold g_L_addWork
    rw [h.nw, if_pos (show (8 : Int32) ≤ nI l.nw from nI_le (a := 8) (b := l.nw) (by omega) (by omega))]
  have hn8 : ¬ (8 : Int32) ≤ nI l.nw := nI_ge (a := l.nw) (b := 8) c0 (by omega)
  by_cases c1 : t < l.nt ∧ v < l.nv
  rotate_left
  · refine ⟨M, fun _ _ => rfl, ?_⟩
    rw [if_neg (fun z => c1 z.2.1)]
    unfold g_L_addWork
    rw [h.nw, if_neg hn8, fa_isTold hl h ht hv, if_neg c1, Option.bind_some, if_pos rfl]
  by_cases c2 : 1 ≤ x ∧ x ≤ 9
  rotate_left
  · refine ⟨M, fun _ _ => rfl, ?_⟩
    rw [if_neg (fun z => c2 z.2.2)]
    unfold g_L_addWork
    rw [h.nw, if_neg hn8, fa_isTold hl h ht hv, if_pos c1, Option.bind_some, if_neg fa_10, fa_wi0 (fun z => c2 (ea.mp z)), Option.bind_some, if_pos rfl]
  refine ⟨fv_set (fv_set (fv_set (fv_set M (D + 7) l.nw (nI t)) (D + 8) l.nw (nI v)) (D + 9) l.nw (nI x)) D 3 (nI (l.nw + 1)), fun j hj => by rw [fv_set_ne _ _ _ _ j (by omega), fv_set_ne _ _ _ _ j (by omega), fv_set_ne _ _ _ _ j (by omega), fv_set_ne _ _ _ _ j (by omega)], ?_⟩
  rw [if_pos ⟨c0, c1, c2⟩]
  have hr : ∀ j, j ≠ D → j < D + 7 → (fv_set (fv_set (fv_set (fv_set M (D + 7) l.nw (nI t)) (D + 8) l.nw (nI v)) (D + 9) l.nw (nI x)) D 3 (nI (l.nw + 1))) j = M j := fun j j0 j1 => by rw [fv_set_ne _ _ _ _ j j0, fv_set_ne _ _ _ _ j (by omega), fv_set_ne _ _ _ _ j (by omega), fv_set_ne _ _ _ _ j (by omega)]
  have h0 : ∀ k, k ≠ 3 → (fv_set (fv_set (fv_set (fv_set M (D + 7) l.nw (nI t)) (D + 8) l.nw (nI v)) (D + 9) l.nw (nI x)) D 3 (nI (l.nw + 1))) D k = M D k := fun k hk => by rw [fv_set_at, fa_upd_ne _ _ hk, fv_set_ne _ _ _ _ D (by omega), fv_set_ne _ _ _ _ D (by omega), fv_set_ne _ _ _ _ D (by omega)]
  refine ⟨?_, ⟨by rw [h0 0 (by omega)]; exact h.nv, by rw [h0 1 (by omega)]; exact h.nn, by rw [h0 2 (by omega)]; exact h.nt, by rw [fv_set_at, fa_upd_same]; rfl, fun i hi => by rw [hr _ (by omega) (by omega)]; exact h.kd i hi, fun i hi => by rw [hr _ (by omega) (by omega)]; exact h.cr i hi, fun i hi => by rw [hr _ (by omega) (by omega)]; exact h.mi i hi, fun i hi => by rw [hr _ (by omega) (by omega)]; exact h.ow i hi, fun i hi => by rw [hr _ (by omega) (by omega)]; exact h.sk i hi, fun w hw => ?_, fun w hw => ?_, fun w hw => ?_⟩⟩
  · unfold g_L_addWork
    rw [h.nw, if_neg hn8, fa_isTold hl h ht hv, if_pos c1, Option.bind_some, if_neg fa_10, fa_wi1 (ea.mpr c2), Option.bind_some, if_neg fa_10, fa_put c0 (by omega), Option.bind_some, fv_set_ne _ _ _ _ D (by omega), h.nw, fa_put c0 (by omega), Option.bind_some, fv_set_ne _ _ _ _ D (by omega), fv_set_ne _ _ _ _ D (by omega), h.nw, fa_put c0 (by omega), Option.bind_some, fv_set_ne _ _ _ _ D (by omega), fv_set_ne _ _ _ _ D (by omega), fv_set_ne _ _ _ _ D (by omega), h.nw, nI_1]
  · rw [fv_set_ne _ _ _ _ (D + 7) (by omega), fv_set_ne _ _ _ _ (D + 7) (by omega), fv_set_ne _ _ _ _ (D + 7) (by omega), fv_set_at]
    exact fa_ap_upd h.wt w hw
  · rw [fv_set_ne _ _ _ _ (D + 8) (by omega), fv_set_ne _ _ _ _ (D + 8) (by omega), fv_set_at, fv_set_ne _ _ _ _ (D + 8) (by omega)]
    exact fa_ap_upd h.wv w hw
  · rw [fv_set_ne _ _ _ _ (D + 9) (by omega), fv_set_at, fv_set_ne _ _ _ _ (D + 9) (by omega), fv_set_ne _ _ _ _ (D + 9) (by omega)]
    exact fa_ap_upd h.ww w hw
