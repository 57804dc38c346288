/-! the whole text, both ways: the first fault -/
def fa_run (tx : Nat → Nat) (n : Nat) : Nat → Nat → fa_L → Option Nat × fa_L
  | 0, _, l => (none, l)
  | f + 1, p, l => if n ≤ p then (none, l) else match fa_it tx n p l with
    | none => (some p, l)
    | some l2 => fa_run tx n f (fa_nx tx n p) l2
def fa_rI (o : Option Nat) : Int32 := match o with | none => -4 | some q => nI q
theorem fa_run_end {tx : Nat → Nat} {n f p : Nat} {l : fa_L} (h : n ≤ p) : fa_run tx n f p l = (none, l) := by
  cases f with
  | zero => rfl
  | succ f => rw [fa_run, if_pos h]
theorem fa_run_bad {tx : Nat → Nat} {n f p : Nat} {l : fa_L} (h : ¬ n ≤ p) (e : fa_it tx n p l = none) : fa_run tx n (f + 1) p l = (some p, l) := by
  rw [fa_run, if_neg h, e]
theorem fa_run_ok {tx : Nat → Nat} {n f p : Nat} {l l2 : fa_L} (h : ¬ n ≤ p) (e : fa_it tx n p l = some l2) : fa_run tx n (f + 1) p l = fa_run tx n f (fa_nx tx n p) l2 := by
  rw [fa_run, if_neg h, e]
theorem fa_run_wl (tx : Nat → Nat) (n : Nat) : ∀ (f p : Nat) (l : fa_L), fa_wl l → fa_wl (fa_run tx n f p l).2 := by
  intro f
  induction f with
  | zero => exact fun p l h => h
  | succ f ih =>
    intro p l h
    by_cases z : n ≤ p
    · rw [fa_run_end z]; exact h
    · rcases e : fa_it tx n p l with _ | l2
      · rw [fa_run_bad z e]; exact h
      · rw [fa_run_ok z e]; exact ih _ _ (fa_it_wl h e)
theorem fa_run_lt (tx : Nat → Nat) (n : Nat) : ∀ (f p : Nat) (l : fa_L) (q : Nat), (fa_run tx n f p l).1 = some q → q < n := by
  intro f
  induction f with
  | zero => intro p l q h; cases h
  | succ f ih =>
    intro p l q h
    by_cases z : n ≤ p
    · rw [fa_run_end z] at h; cases h
    · rcases e : fa_it tx n p l with _ | l2
      · rw [fa_run_bad z e] at h; cases h; omega
      · rw [fa_run_ok z e] at h; exact ih _ _ _ h
theorem fa_st_ge (tx : Nat → Nat) (n p : Nat) : ∀ k, p ≤ fa_st tx n p k := by
  intro k
  induction k with
  | zero => exact Nat.le_refl _
  | succ k ih =>
    show p ≤ fa_st tx n p k + fa_fn tx n (fa_st tx n p k) + 1
    omega
theorem fa_nx_b (tx : Nat → Nat) (n p : Nat) : p + 1 ≤ fa_nx tx n p ∧ fa_nx tx n p ≤ p + 10 := by
  have h1 := fa_st_ge tx n (p + 1) (fa_kb (fa_la tx n p))
  have h2 := fa_st_le tx n (p + 1) (fa_kb (fa_la tx n p))
  have h3 := fa_kb_le (fa_la tx n p)
  unfold fa_nx
  omega
theorem fa_readInto_8 {n D : Nat} {tx : Nat → Nat} (hD : 4 ≤ D) : ∀ (f p a F : Nat) (M : fv_M) (l : fa_L), fa_wl l → fa_lc M D l → fa_tc M n tx → n ≤ p + f → a ≤ p → p ≤ 300 → f < F →
    ∃ M', (∀ j, j ≠ 3 → (j < D ∨ D + 10 ≤ j) → M' j = M j) ∧ ((fa_run tx n f p l).1 = none → fa_lc M' D (fa_run tx n f p l).2) ∧ g_T_readInto_8 1 D F M (nI p) (nI a) (fun M_3 b2_3 b3_3 => some ((-4 : Int32), M_3)) = some (fa_rI (fa_run tx n f p l).1, M') := by
  intro f
  induction f with
  | zero =>
    intro p a F M l hl h T hn ha hp hF
    obtain ⟨F, rfl⟩ : ∃ g, F = g + 1 := ⟨F - 1, by omega⟩
    refine ⟨M, fun _ _ _ => rfl, fun _ => h, ?_⟩
    rw [g_T_readInto_8, T.mn, if_pos (show nI n ≤ nI p from nI_le (by omega) (by omega))]
    by_cases z : (200 : Int32) ≤ nI a
    · rw [if_pos z]; rfl
    · rw [if_neg z]; rfl
  | succ f ih =>
    intro p a F M l hl h T hn ha hp hF
    obtain ⟨F, rfl⟩ : ∃ g, F = g + 1 := ⟨F - 1, by omega⟩
    have n2 := T.n2
    by_cases z : n ≤ p
    · refine ⟨M, fun _ _ _ => rfl, fun _ => by rw [fa_run_end z]; exact h, ?_⟩
      rw [fa_run_end z, g_T_readInto_8, T.mn, if_pos (show nI n ≤ nI p from nI_le (by omega) (by omega))]
      by_cases z : (200 : Int32) ≤ nI a
      · rw [if_pos z]; rfl
      · rw [if_neg z]; rfl
    · have hx := fa_nx_b tx n p
      rw [g_T_readInto_8, T.mn, if_neg (show ¬ nI n ≤ nI p from nI_ge (by omega) (by omega)), if_neg (show ¬ (200 : Int32) ≤ nI a from nI_ge (a := a) (b := 200) (by omega) (by omega))]
      obtain ⟨M1, f1, q⟩ := fa_item hl h T (show p ≤ 200 by omega) hD
      rcases q with ⟨l2, e1, e2, h2⟩ | ⟨e1, e2⟩
      · have T1 : fa_tc M1 n tx := T.go (f1 1 (by omega) (by omega)) (f1 2 (by omega) (by omega))
        obtain ⟨M2, f2, c2, g2⟩ := ih (fa_nx tx n p) (a + 1) F M1 l2 (fa_it_wl hl e1) h2 T1 (by omega) (by omega) (by omega) (by omega)
        rw [fa_run_ok z e1]
        refine ⟨M2, fun j a b => by rw [f2 j a b, f1 j a b], c2, ?_⟩
        rw [e2, Option.bind_some]
        dsimp only
        rw [if_neg (show ¬ nI (fa_nx tx n p) = (-4 : Int32) from fun z => nI_pos (n := fa_nx tx n p) (by omega) (by rw [z]; decide)), nI_1]
        exact g2
      · rw [fa_run_bad z e1]
        refine ⟨M1, f1, (fun x => by cases x), ?_⟩
        rw [e2, Option.bind_some, if_pos rfl]
        rfl
theorem fa_readInto {M : fv_M} {n D : Nat} {tx : Nat → Nat} (hD : 4 ≤ D) (T : fa_tc M n tx) :
    ∃ M', (∀ j, j ≠ 3 → (j < D ∨ D + 10 ≤ j) → M' j = M j) ∧ ((fa_run tx n n 0 fa_e).1 = none → fa_lc M' D (fa_run tx n n 0 fa_e).2) ∧ g_T_readInto M 1 D = some (fa_rI (fa_run tx n n 0 fa_e).1, M') := by
  have n2 := T.n2
  obtain ⟨M1, e1, h1, f1⟩ := fa_clear (M := M) (D := D)
  obtain ⟨M2, f2, c2, g2⟩ := fa_readInto_8 hD n 0 0 fx_FU M1 fa_e fa_e_wl h1 (T.go (f1 1 (by omega)) (f1 2 (by omega))) (by omega) (by omega) (by omega) (by unfold fx_FU; omega)
  refine ⟨M2, fun j a b => by rw [f2 j a b, f1 j b], c2, ?_⟩
  unfold g_T_readInto
  rw [e1, Option.bind_some]
  exact g2
theorem fa_mfault_9 {n : Nat} {tx : Nat → Nat} : ∀ (f p F : Nat) (M : fv_M) (l : fa_L), fa_wl l → fa_rm M l → fa_tm M n tx → M 92 19 = nI p → n ≤ p + f → p ≤ 300 → f < F →
    ∃ M', fa_fr M M' ∧ ((fa_run tx n f p l).1 = none → fa_rm M' (fa_run tx n f p l).2) ∧ g_M_fault_9 92 F M (fun M_3 => some ((-4 : Int32), M_3)) = some (fa_rI (fa_run tx n f p l).1, M') := by
  intro f
  induction f with
  | zero =>
    intro p F M l hl h T h19 hn hp hF
    obtain ⟨F, rfl⟩ : ∃ g, F = g + 1 := ⟨F - 1, by omega⟩
    refine ⟨M, fa_fr_rfl, fun _ => h, ?_⟩
    rw [g_M_fault_9, T.mn, h19, if_pos (nI_le (by omega) (by omega))]
    rfl
  | succ f ih =>
    intro p F M l hl h T h19 hn hp hF
    obtain ⟨F, rfl⟩ : ∃ g, F = g + 1 := ⟨F - 1, by omega⟩
    have n2 := T.n2
    by_cases z : n ≤ p
    · refine ⟨M, fa_fr_rfl, fun _ => by rw [fa_run_end z]; exact h, ?_⟩
      rw [fa_run_end z, g_M_fault_9, T.mn, h19, if_pos (nI_le (by omega) (by omega))]
      rfl
    · have hx := fa_nx_b tx n p
      rw [g_M_fault_9, T.mn, h19, if_neg (nI_ge (by omega) (by omega))]
      obtain ⟨M1, f1, q⟩ := fa_mitem hl h T (show p ≤ 200 by omega) h19
      rcases q with ⟨l2, e1, e2, h2, p2⟩ | ⟨e1, e2⟩
      · obtain ⟨M2, f2, c2, g2⟩ := ih (fa_nx tx n p) F M1 l2 (fa_it_wl hl e1) h2 (f1.tm T) p2 (by omega) (by omega) (by omega)
        rw [fa_run_ok z e1]
        refine ⟨M2, f1.trans f2, c2, ?_⟩
        rw [e2, Option.bind_some, if_neg fa_10]
        exact g2
      · rw [fa_run_bad z e1]
        refine ⟨M1, f1, (fun x => by cases x), ?_⟩
        rw [e2, Option.bind_some, if_pos rfl]
        rfl
theorem fa_mfault {M : fv_M} {n : Nat} {tx : Nat → Nat} (T : fa_tm M n tx) :
    ∃ M', fa_fr M M' ∧ ((fa_run tx n n 0 fa_e).1 = none → fa_rm M' (fa_run tx n n 0 fa_e).2) ∧ g_M_fault M 92 = some (fa_rI (fa_run tx n n 0 fa_e).1, M') := by
  have n2 := T.n2
  obtain ⟨M1, e1, h1, g1, f1⟩ := fa_clearTold (M := fv_set M 92 19 (0 : Int32))
  have F1 : fa_fr M M1 := ⟨fun j a b => by rw [f1 j a (by omega), fv_set_ne _ _ _ _ j a], fun g a b c d e => by rw [g1 g b c d e, fv_set_at, fa_upd_ne _ _ a]⟩
  have p1 : M1 92 19 = nI 0 := by rw [g1 19 (by omega) (by omega) (by omega) (by omega), fv_set_at, fa_upd_same]; rfl
  obtain ⟨M2, f2, c2, g2⟩ := fa_mfault_9 n 0 fx_FU M1 fa_e fa_e_wl h1 (F1.tm T) p1 (by omega) (by omega) (by unfold fx_FU; omega)
  refine ⟨M2, F1.trans f2, c2, ?_⟩
  unfold g_M_fault
  rw [e1, Option.bind_some]
  exact g2
/-! what is read changes nothing that lasts -/
def fa_kp (D : Nat) (M M' : fv_M) : Prop := (∀ j, j ≠ 3 → (j < D ∨ D + 10 ≤ j) → j ≠ 92 → (j < 104 ∨ 110 ≤ j) → M' j = M j) ∧ ∀ g, g ≠ 19 → g ≠ 21 → g ≠ 23 → g ≠ 25 → g ≠ 27 → M' 92 g = M 92 g
theorem fa_lm.keep {M M' : fv_M} {l : fa_L} (hf : ∀ j, 92 < j → j < 100 → M' j = M j) (hg : ∀ g, g < 19 → M' 92 g = M 92 g) (h : fa_lm M l) : fa_lm M' l :=
  ⟨by rw [hg 0 (by omega)]; exact h.nv, by rw [hg 2 (by omega)]; exact h.nn, by rw [hg 4 (by omega)]; exact h.nt, by rw [hg 6 (by omega)]; exact h.nw,
   fun i hi => by rw [hf (92 + 1) (by omega) (by omega)]; exact h.kd i hi, fun i hi => by rw [hf (92 + 1) (by omega) (by omega)]; exact h.cr i hi,
   fun i hi => by rw [hf (92 + 2) (by omega) (by omega)]; exact h.mi i hi, fun i hi => by rw [hf (92 + 3) (by omega) (by omega)]; exact h.ow i hi,
   fun i hi => by rw [hf (92 + 4) (by omega) (by omega)]; exact h.wt i hi, fun i hi => by rw [hf (92 + 4) (by omega) (by omega)]; exact h.wv i hi, fun i hi => by rw [hf (92 + 4) (by omega) (by omega)]; exact h.ww i hi,
   fun i hi => by rw [hf (92 + 5) (by omega) (by omega)]; exact h.sd i hi, fun i hi => by rw [hf (92 + 7) (by omega) (by omega)]; exact h.fs i hi⟩
theorem fa_R.kp {M M' : fv_M} {L D : Nat} {l : fa_L} {σ : Nat → Int32} {B : Nat} (f : fa_kp D M M') (h : fa_R M L D l σ B) : fa_R M' L D l σ B := by
  obtain ⟨f, g⟩ := f
  have hLD := fa_LD.le h.LD
  have Q := h.Q
  have fL : ∀ j, L ≤ j → j < L + 10 → M' j = M j := fun j q1 q2 => f j (by omega) (by omega) (by omega) (by omega)
  refine ⟨⟨Q.wl, Q.lc.go (fun j q1 q2 _ => fL j q1 q2), fun t ht => by rw [fL (L + 5) (by omega) (by omega)]; exact Q.ls t ht, Q.lm.keep (fun j q1 q2 => f j (by omega) (by omega) (by omega) (by omega)) (fun k hk => g k (by omega) (by omega) (by omega) (by omega) (by omega)), Q.wS, Q.cS.go (fun j q1 q2 => f j (by omega) (by omega) (by omega) (by omega)), fun k hk => by rw [f (92 + 6) (by omega) (by omega) (by omega) (by omega)]; exact Q.mS k hk⟩, h.LD, h.pv, h.pt, h.tx.go ?_ ?_ ?_ ?_, h.pa.go (by omega) (fun j q1 q2 => f j (by omega) (by omega) (by omega) (by omega)) ?_ ?_, h.ke.go (by omega) (fun j q1 q2 => f j (by omega) (by omega) (by omega) (by omega)) ?_ ?_, h.he.go (fun j q1 q2 => f j (by omega) (by omega) (by omega) (by omega)) ?_ ?_⟩
  all_goals first | exact g _ (by omega) (by omega) (by omega) (by omega) (by omega) | exact f _ (by omega) (by omega) (by omega) (by omega) | rw [f _ (by omega) (by omega) (by omega) (by omega)]
/-- both read the text: the same fault, and without one the same land -/
theorem fa_both {M : fv_M} {L D : Nat} {l : fa_L} {σ : Nat → Int32} {B : Nat} (R : fa_R M L D l σ B) :
    ∃ (n : Nat) (tx : Nat → Nat) (M1 : fv_M), n ≤ 200 ∧ g_T_readInto M 1 D = some (fa_rI (fa_run tx n n 0 fa_e).1, M1) ∧ (∀ j, j ≠ 3 → (j < D ∨ D + 10 ≤ j) → M1 j = M j) ∧ ((fa_run tx n n 0 fa_e).1 = none → fa_lc M1 D (fa_run tx n n 0 fa_e).2) ∧
      ∀ MX, (∀ j, 92 ≤ j → MX j = M j) → ∃ M2, g_M_fault MX 92 = some (fa_rI (fa_run tx n n 0 fa_e).1, M2) ∧ fa_fr MX M2 ∧ ((fa_run tx n n 0 fa_e).1 = none → fa_rm M2 (fa_run tx n n 0 fa_e).2) := by
  have hLD := fa_LD.le R.LD
  obtain ⟨n, tx, a1, a2, a3, a4⟩ := R.tx
  have T : fa_tc M n tx := ⟨a1, a2, fun i hi => (a4 i hi).1, fun i hi => (a4 i hi).2.2.2⟩
  obtain ⟨M1, f1, c1, g1⟩ := fa_readInto (D := D) (by omega) T
  refine ⟨n, tx, M1, a1, g1, f1, c1, fun MX hX => ?_⟩
  have T2 : fa_tm MX n tx := ⟨a1, by rw [hX 92 (by omega)]; exact a3, fun i hi => by rw [hX (92 + 11) (by omega)]; exact (a4 i hi).2.1, fun i hi => (a4 i hi).2.2.2⟩
  obtain ⟨M2, f2, c2, g2⟩ := fa_mfault T2
  exact ⟨M2, g2, f2, c2⟩
theorem fa_p_fault {M : fv_M} {L D : Nat} {l : fa_L} {σ : Nat → Int32} {B : Nat} (R : fa_R M L D l σ B) : ∃ r M1 M2, g_X_fault M L D = some (r, M1) ∧ g_M_fault M1 92 = some (r, M2) ∧ fa_R M2 L D l σ B := by
  have hLD := fa_LD.le R.LD
  obtain ⟨n, tx, M1, _, e1, f1, c1, k⟩ := fa_both R
  obtain ⟨M2, e2, f2, c2⟩ := k M1 (fun j hj => f1 j (by omega) (by omega))
  exact ⟨_, M1, M2, by unfold g_X_fault; rw [e1, Option.bind_some], e2, R.kp ⟨fun j a b c d => by rw [f2.1 j c d, f1 j a b], fun g a b c d e => by rw [f2.2 g a b c d e, f1 92 (by omega) (by omega)]⟩⟩
