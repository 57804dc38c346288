/-! the text: letters, figures, numbers as the reference reads them -/
def fa_tm (M : fv_M) (n : Nat) (tx : Nat → Nat) : Prop := (n ≤ 200) ∧ (M 92 18 = nI n) ∧ (∀ i, i < n → M (92 + 11) i = nI (tx i)) ∧ (∀ i, i < n → tx i ≤ 126)
theorem fa_tm.n2 {M : fv_M} {n : Nat} {tx : Nat → Nat} (h : fa_tm M n tx) : n ≤ 200 := h.1
theorem fa_tm.mn {M : fv_M} {n : Nat} {tx : Nat → Nat} (h : fa_tm M n tx) : M 92 18 = nI n := h.2.1
theorem fa_tm.ml {M : fv_M} {n : Nat} {tx : Nat → Nat} (h : fa_tm M n tx) : ∀ i, i < n → M (92 + 11) i = nI (tx i) := h.2.2.1
theorem fa_tm.lt {M : fv_M} {n : Nat} {tx : Nat → Nat} (h : fa_tm M n tx) : ∀ i, i < n → tx i ≤ 126 := h.2.2.2
def fa_li (tx : Nat → Nat) (n p : Nat) : Int32 := if p < n then nI (tx p) else -1
theorem fa_r12 (M : fv_M) (k : Nat) (x : Int32) : (fv_set M (92 + 12) k x) 92 = M 92 := fv_set_ne _ _ _ _ _ (by omega)
theorem fa_tm.at {M : fv_M} {n k : Nat} {tx : Nat → Nat} {x y : Int32} (h : fa_tm M n tx) : fa_tm (fv_set (fv_set M (92 + 12) k x) 92 19 y) n tx :=
  ⟨h.n2, by rw [fv_set_at, fa_upd_ne _ _ (by omega), fa_r12]; exact h.mn, fun i hi => by rw [fv_set_ne _ _ _ _ _ (by omega), fv_set_ne _ _ _ _ _ (by omega)]; exact h.ml i hi, h.lt⟩
theorem fa_tm.at1 {M : fv_M} {n : Nat} {tx : Nat → Nat} {y : Int32} (h : fa_tm M n tx) : fa_tm (fv_set M 92 19 y) n tx :=
  ⟨h.n2, by rw [fv_set_at, fa_upd_ne _ _ (by omega)]; exact h.mn, fun i hi => by rw [fv_set_ne _ _ _ _ _ (by omega)]; exact h.ml i hi, h.lt⟩
theorem fa_mlet {M : fv_M} {n p : Nat} {tx : Nat → Nat} (h : fa_tm M n tx) (hp : p ≤ 1000) : g_M_letterAt M 92 (nI p) = some (fa_li tx n p) := by
  have h2 := h.n2
  unfold g_M_letterAt fa_li
  rw [h.mn]
  by_cases q : p < n
  · rw [if_neg (nI_ge q (by omega)), fa_cki (by omega) (by omega), nI_clamp (by omega), h.ml p q, if_pos q]
  · rw [if_pos (nI_le (by omega) (by omega)), if_neg q]
theorem fa_li_fig {tx : Nat → Nat} {n p : Nat} (h : fa_fig (fa_la tx n p) = true) : fa_li tx n p = nI (fa_la tx n p) := by
  unfold fa_la at h ⊢
  unfold fa_li
  by_cases q : p < n
  · rw [if_pos q, if_pos q]
  · rw [if_neg q] at h; exact absurd h (by decide)
theorem fa_mfig {M : fv_M} {n p : Nat} {tx : Nat → Nat} (hlt : ∀ i, i < n → tx i ≤ 126) : g_M_isFigure M (fa_li tx n p) = some (if fa_fig (fa_la tx n p) = true then (1 : Int32) else 0) := by
  unfold fa_li fa_la
  by_cases q : p < n
  · rw [if_pos q, if_pos q]
    exact fa_isFig (M := M) (hlt p q)
  · rw [if_neg q, if_neg q]
    unfold g_M_isFigure
    rw [fa_mi, Option.bind_some, fa_ckp]
    decide
theorem fa_li_eq {tx : Nat → Nat} {n p c : Nat} (hlt : ∀ i, i < n → tx i ≤ 126) (hc : 0 < c) (hc2 : c ≤ 126) : (fa_li tx n p = nI c) ↔ fa_la tx n p = c := by
  unfold fa_li fa_la
  by_cases q : p < n
  · have := hlt p q
    rw [if_pos q, if_pos q]
    exact nI_eq (by omega) (by omega)
  · rw [if_neg q, if_neg q]
    constructor
    · intro z
      have := congrArg Int32.toInt z
      rw [nI_toInt (by omega)] at this
      have h4 : ((-1 : Int32)).toInt = -1 := by decide
      omega
    · intro z; omega
theorem fa_mnums {n m p0 : Nat} {tx : Nat → Nat} (hm : m ≤ 3) (hp : p0 ≤ 300) : ∀ (e k f : Nat) (M : fv_M), fa_tm M n tx → M 92 19 = nI (fa_st tx n p0 k) → k + e = m → e < f → ∃ M', (∀ i, i < k → M' (92 + 12) i = M (92 + 12) i) ∧ (∀ j, j ≠ 92 → j ≠ 92 + 12 → M' j = M j) ∧ (∀ g, g ≠ 19 → M' 92 g = M 92 g) ∧
    if (List.range' k e).all (fa_nk tx n m p0) = true then (∀ i, k ≤ i → i < m → M' (92 + 12) i = nI (fa_nv tx n (fa_st tx n p0 i))) ∧ M' 92 19 = nI (fa_st tx n p0 m) ∧ ∀ kk, g_M_readNumbers_2 92 (nI m) f M (nI k) kk = kk M' (nI m)
    else ∀ kk, g_M_readNumbers_2 92 (nI m) f M (nI k) kk = some (0, M') := by
  intro e
  induction e with
  | zero =>
    intro k f M h h19 hk hf
    obtain ⟨f, rfl⟩ : ∃ g, f = g + 1 := ⟨f - 1, by omega⟩
    have : k = m := by omega
    subst this
    refine ⟨M, fun _ _ => rfl, fun _ _ _ => rfl, fun _ _ => rfl, ?_⟩
    rw [if_pos (show (List.range' k 0).all (fa_nk tx n k p0) = true from rfl)]
    exact ⟨fun i h1 h2 => absurd h2 (by omega), h19, fun kk => by rw [g_M_readNumbers_2, if_pos (nI_le (Nat.le_refl _) (by omega))]⟩
  | succ e ih =>
    intro k f M h h19 hk hf
    obtain ⟨f, rfl⟩ : ∃ g, f = g + 1 := ⟨f - 1, by omega⟩
    have hst := fa_st_le tx n p0 k
    have hfn := fa_fn_le tx n (fa_st tx n p0 k)
    rw [List.range'_succ, List.all_cons]
    by_cases q0 : fa_fig (fa_la tx n (fa_st tx n p0 k)) = true
    rotate_left
    · have h0 : fa_fn tx n (fa_st tx n p0 k) = 0 := by unfold fa_fn; rw [if_neg q0]
      refine ⟨M, fun _ _ => rfl, fun _ _ _ => rfl, fun _ _ => rfl, ?_⟩
      rw [show fa_nk tx n m p0 k = false from decide_eq_false (fun z => z.1 h0), Bool.false_and, if_neg (by decide)]
      intro kk
      rw [g_M_readNumbers_2, if_neg (nI_ge (by omega) (by omega)), h19, fa_mlet h (by omega), Option.bind_some, fa_mfig h.lt, Option.bind_some, if_neg q0, if_pos rfl]
    · have q0' := of_decide_eq_true q0
      obtain ⟨MA, eMA⟩ : ∃ MA, MA = fv_set (fv_set M (92 + 12) k (nI (fa_la tx n (fa_st tx n p0 k) - 48))) 92 19 (nI (fa_st tx n p0 k + 1)) := ⟨_, rfl⟩
      have hA : fa_tm MA n tx := by rw [eMA]; exact h.at
      have hA19 : MA 92 19 = nI (fa_st tx n p0 k + 1) := by rw [eMA, fv_set_at, fa_upd_same]
      have hAk : MA (92 + 12) k = nI (fa_la tx n (fa_st tx n p0 k) - 48) := by rw [eMA, fv_set_ne _ _ _ _ _ (by omega), fv_set_at, fa_upd_same]
      have hone : ∃ M1, fa_tm M1 n tx ∧ M1 92 19 = nI (fa_st tx n p0 k + fa_fn tx n (fa_st tx n p0 k)) ∧ M1 (92 + 12) k = nI (fa_nv tx n (fa_st tx n p0 k)) ∧ (∀ i, i ≠ k → M1 (92 + 12) i = M (92 + 12) i) ∧ (∀ j, j ≠ 92 → j ≠ 92 + 12 → M1 j = M j) ∧ (∀ g, g ≠ 19 → M1 92 g = M 92 g) ∧
          ∀ kk, g_M_readNumbers_2 92 (nI m) (f + 1) M (nI k) kk = if fa_la tx n (fa_st tx n p0 k + fa_fn tx n (fa_st tx n p0 k)) = (if m ≤ k + 1 then 59 else 44) then g_M_readNumbers_2 92 (nI m) f (fv_set M1 92 19 (nI (fa_st tx n p0 (k + 1)))) (nI (k + 1)) kk else some (0, M1) := by
        by_cases q1 : fa_fig (fa_la tx n (fa_st tx n p0 k + 1)) = true
        · have q1' := of_decide_eq_true q1
          have e2 : fa_fn tx n (fa_st tx n p0 k) = 2 := by unfold fa_fn; rw [if_pos q0, if_pos q1]
          have ev : fa_nv tx n (fa_st tx n p0 k) = 10 * (fa_la tx n (fa_st tx n p0 k) - 48) + fa_la tx n (fa_st tx n p0 k + 1) - 48 := by unfold fa_nv; rw [if_pos q1]
          obtain ⟨MC, eMC⟩ : ∃ MC, MC = fv_set (fv_set MA (92 + 12) k (nI (fa_nv tx n (fa_st tx n p0 k)))) 92 19 (nI (fa_st tx n p0 k + 1 + 1)) := ⟨_, rfl⟩
          have hC : fa_tm MC n tx := by rw [eMC]; exact hA.at
          have hC19 : MC 92 19 = nI (fa_st tx n p0 k + 1 + 1) := by rw [eMC, fv_set_at, fa_upd_same]
          refine ⟨MC, hC, by rw [hC19, e2], by rw [eMC, fv_set_ne _ _ _ _ _ (by omega), fv_set_at, fa_upd_same], fun i hi => by rw [eMC, fv_set_ne _ _ _ _ _ (by omega), fv_set_at, fa_upd_ne _ _ hi, eMA, fv_set_ne _ _ _ _ _ (by omega), fv_set_at, fa_upd_ne _ _ hi], fun j j1 j2 => by rw [eMC, fv_set_ne _ _ _ _ j j1, fv_set_ne _ _ _ _ j j2, eMA, fv_set_ne _ _ _ _ j j1, fv_set_ne _ _ _ _ j j2], fun g hg => by rw [eMC, fv_set_at, fa_upd_ne _ _ hg, fa_r12, eMA, fv_set_at, fa_upd_ne _ _ hg, fa_r12], fun kk => ?_⟩
          rw [g_M_readNumbers_2, if_neg (nI_ge (by omega) (by omega)), h19, fa_mlet h (by omega), Option.bind_some, fa_mfig h.lt, Option.bind_some, if_pos q0, if_neg fa_10, Option.bind_some, fa_cki (by omega) (by omega), nI_clamp (by omega), fa_li_fig q0, show (48 : Int32) = nI 48 from rfl, fa_sub q0'.1, fa_r12, h19, nI_1, ← eMA, hA19, fa_mlet hA (by omega), Option.bind_some, fa_mfig hA.lt, Option.bind_some, if_pos q1, if_neg fa_10, Option.bind_some, fa_li_fig q1, hAk, show (10 : Int32) = nI 10 from rfl, fa_mul, nI_add, fa_sub (by omega), ← ev, fa_r12, hA19, nI_1, ← eMC, hC19, fa_mlet hC (by omega), Option.bind_some, nI_1, nI_1, show nI m - (1 : Int32) = nI (m - 1) from fa_sub (a := m) (b := 1) (by omega), e2, show fa_st tx n p0 (k + 1) = fa_st tx n p0 k + 1 + 1 + 1 from by show fa_st tx n p0 k + fa_fn tx n (fa_st tx n p0 k) + 1 = _; rw [e2]]
          by_cases q : m ≤ k + 1
          · rw [if_pos (nI_le (a := m - 1) (b := k) (by omega) (by omega)), if_pos q]
            have e59 := fa_li_eq (p := fa_st tx n p0 k + 1 + 1) (c := 59) h.lt (by omega) (by omega)
            by_cases c : fa_la tx n (fa_st tx n p0 k + 1 + 1) = 59
            · rw [if_pos (show fa_li tx n (fa_st tx n p0 k + 1 + 1) = (59 : Int32) from e59.mpr c), if_pos c]
            · rw [if_neg (show ¬ fa_li tx n (fa_st tx n p0 k + 1 + 1) = (59 : Int32) from fun z => c (e59.mp z)), if_neg c]
          · rw [if_neg (nI_ge (a := k) (b := m - 1) (by omega) (by omega)), if_neg q]
            have e44 := fa_li_eq (p := fa_st tx n p0 k + 1 + 1) (c := 44) h.lt (by omega) (by omega)
            by_cases c : fa_la tx n (fa_st tx n p0 k + 1 + 1) = 44
            · rw [if_pos (show fa_li tx n (fa_st tx n p0 k + 1 + 1) = (44 : Int32) from e44.mpr c), if_pos c]
            · rw [if_neg (show ¬ fa_li tx n (fa_st tx n p0 k + 1 + 1) = (44 : Int32) from fun z => c (e44.mp z)), if_neg c]
        · have e2 : fa_fn tx n (fa_st tx n p0 k) = 1 := by unfold fa_fn; rw [if_pos q0, if_neg q1]
          have ev : fa_nv tx n (fa_st tx n p0 k) = fa_la tx n (fa_st tx n p0 k) - 48 := by unfold fa_nv; rw [if_neg q1]
          refine ⟨MA, hA, by rw [hA19, e2], by rw [hAk, ev], fun i hi => by rw [eMA, fv_set_ne _ _ _ _ _ (by omega), fv_set_at, fa_upd_ne _ _ hi], fun j j1 j2 => by rw [eMA, fv_set_ne _ _ _ _ j j1, fv_set_ne _ _ _ _ j j2], fun g hg => by rw [eMA, fv_set_at, fa_upd_ne _ _ hg, fa_r12], fun kk => ?_⟩
          rw [g_M_readNumbers_2, if_neg (nI_ge (by omega) (by omega)), h19, fa_mlet h (by omega), Option.bind_some, fa_mfig h.lt, Option.bind_some, if_pos q0, if_neg fa_10, Option.bind_some, fa_cki (by omega) (by omega), nI_clamp (by omega), fa_li_fig q0, show (48 : Int32) = nI 48 from rfl, fa_sub q0'.1, fa_r12, h19, nI_1, ← eMA, hA19, fa_mlet hA (by omega), Option.bind_some, fa_mfig hA.lt, Option.bind_some, if_neg q1, if_pos rfl, Option.bind_some, nI_1, nI_1, show nI m - (1 : Int32) = nI (m - 1) from fa_sub (a := m) (b := 1) (by omega), e2, show fa_st tx n p0 (k + 1) = fa_st tx n p0 k + 1 + 1 from by show fa_st tx n p0 k + fa_fn tx n (fa_st tx n p0 k) + 1 = _; rw [e2]]
          by_cases q : m ≤ k + 1
          · rw [if_pos (nI_le (a := m - 1) (b := k) (by omega) (by omega)), if_pos q]
            have e59 := fa_li_eq (p := fa_st tx n p0 k + 1) (c := 59) h.lt (by omega) (by omega)
            by_cases c : fa_la tx n (fa_st tx n p0 k + 1) = 59
            · rw [if_pos (show fa_li tx n (fa_st tx n p0 k + 1) = (59 : Int32) from e59.mpr c), if_pos c]
            · rw [if_neg (show ¬ fa_li tx n (fa_st tx n p0 k + 1) = (59 : Int32) from fun z => c (e59.mp z)), if_neg c]
          · rw [if_neg (nI_ge (a := k) (b := m - 1) (by omega) (by omega)), if_neg q]
            have e44 := fa_li_eq (p := fa_st tx n p0 k + 1) (c := 44) h.lt (by omega) (by omega)
            by_cases c : fa_la tx n (fa_st tx n p0 k + 1) = 44
            · rw [if_pos (show fa_li tx n (fa_st tx n p0 k + 1) = (44 : Int32) from e44.mpr c), if_pos c]
            · rw [if_neg (show ¬ fa_li tx n (fa_st tx n p0 k + 1) = (44 : Int32) from fun z => c (e44.mp z)), if_neg c]
      obtain ⟨M1, hT, h1a, h1k, h1o, h1j, h1g, hunf⟩ := hone
      have h0 : fa_fn tx n (fa_st tx n p0 k) ≠ 0 := by unfold fa_fn; rw [if_pos q0]; split <;> omega
      by_cases c : fa_la tx n (fa_st tx n p0 k + fa_fn tx n (fa_st tx n p0 k)) = (if m ≤ k + 1 then 59 else 44)
      · obtain ⟨M3, g1, g2, g4, g3⟩ := ih (k + 1) f (fv_set M1 92 19 (nI (fa_st tx n p0 (k + 1)))) hT.at1 (by rw [fv_set_at, fa_upd_same]) (by omega) (by omega)
        refine ⟨M3, fun i hi => by rw [g1 i (by omega), fv_set_ne _ _ _ _ _ (by omega), h1o i (by omega)], fun j j1 j2 => by rw [g2 j j1 j2, fv_set_ne _ _ _ _ j j1, h1j j j1 j2], fun g hg => by rw [g4 g hg, fv_set_at, fa_upd_ne _ _ hg, h1g g hg], ?_⟩
        rw [show fa_nk tx n m p0 k = true from decide_eq_true ⟨h0, c⟩, Bool.true_and]
        by_cases a : (List.range' (k + 1) e).all (fa_nk tx n m p0) = true
        · rw [if_pos a] at g3 ⊢
          refine ⟨fun i i1 i2 => ?_, g3.2.1, fun kk => by rw [hunf, if_pos c]; exact g3.2.2 kk⟩
          by_cases ei : i = k
          · subst ei; rw [g1 i (by omega), fv_set_ne _ _ _ _ _ (by omega), h1k]
          · exact g3.1 i (by omega) i2
        · rw [if_neg a] at g3 ⊢
          exact fun kk => by rw [hunf, if_pos c]; exact g3 kk
      · refine ⟨M1, fun i hi => h1o i (by omega), h1j, h1g, ?_⟩
        rw [show fa_nk tx n m p0 k = false from decide_eq_false (fun z => c z.2), Bool.false_and, if_neg (by decide)]
        exact fun kk => by rw [hunf, if_neg c]
