/-! the text: letters, figures, numbers as the class reads them -/
def fa_tc (M : fv_M) (n : Nat) (tx : Nat → Nat) : Prop := (n ≤ 200) ∧ (M 1 2 = nI n) ∧ (∀ i, i < n → M (1 + 1) i = nI (tx i)) ∧ (∀ i, i < n → tx i ≤ 126)
theorem fa_tc.n2 {M : fv_M} {n : Nat} {tx : Nat → Nat} (h : fa_tc M n tx) : n ≤ 200 := h.1
theorem fa_tc.mn {M : fv_M} {n : Nat} {tx : Nat → Nat} (h : fa_tc M n tx) : M 1 2 = nI n := h.2.1
theorem fa_tc.ml {M : fv_M} {n : Nat} {tx : Nat → Nat} (h : fa_tc M n tx) : ∀ i, i < n → M (1 + 1) i = nI (tx i) := h.2.2.1
theorem fa_tc.lt {M : fv_M} {n : Nat} {tx : Nat → Nat} (h : fa_tc M n tx) : ∀ i, i < n → tx i ≤ 126 := h.2.2.2
def fa_la (tx : Nat → Nat) (n p : Nat) : Nat := if p < n then tx p else 0
def fa_fig (c : Nat) : Bool := decide (48 ≤ c ∧ c ≤ 57)
def fa_fn (tx : Nat → Nat) (n p : Nat) : Nat := if fa_fig (fa_la tx n p) = true then (if fa_fig (fa_la tx n (p + 1)) = true then 2 else 1) else 0
def fa_nv (tx : Nat → Nat) (n p : Nat) : Nat := if fa_fig (fa_la tx n (p + 1)) = true then 10 * (fa_la tx n p - 48) + fa_la tx n (p + 1) - 48 else fa_la tx n p - 48
/-- where the k-th number behind a place begins -/
def fa_st (tx : Nat → Nat) (n p : Nat) : Nat → Nat
  | 0 => p
  | k + 1 => fa_st tx n p k + fa_fn tx n (fa_st tx n p k) + 1
/-- the k-th of m numbers is there, and what must stand behind it -/
def fa_nk (tx : Nat → Nat) (n m p k : Nat) : Bool := decide (fa_fn tx n (fa_st tx n p k) ≠ 0 ∧ fa_la tx n (fa_st tx n p k + fa_fn tx n (fa_st tx n p k)) = if m ≤ k + 1 then 59 else 44)
def fa_nok (tx : Nat → Nat) (n m p : Nat) : Bool := (List.range' 0 m).all (fa_nk tx n m p)
theorem fa_tc.go {M M' : fv_M} {n : Nat} {tx : Nat → Nat} (h1 : M' 1 = M 1) (h2 : M' 2 = M 2) (h : fa_tc M n tx) : fa_tc M' n tx := ⟨h.n2, by rw [h1]; exact h.mn, fun i hi => by rw [show M' (1 + 1) = M (1 + 1) from h2]; exact h.ml i hi, h.lt⟩
theorem fa_la_le {M : fv_M} {n : Nat} {tx : Nat → Nat} (h : fa_tc M n tx) (p : Nat) : fa_la tx n p ≤ 126 := by
  unfold fa_la
  split
  · exact h.lt p (by assumption)
  · omega
theorem fa_fn_le (tx : Nat → Nat) (n p : Nat) : fa_fn tx n p ≤ 2 := by
  unfold fa_fn
  split
  · split <;> omega
  · omega
theorem fa_st_le (tx : Nat → Nat) (n p : Nat) : ∀ k, fa_st tx n p k ≤ p + 3 * k := by
  intro k
  induction k with
  | zero => exact Nat.le_refl _
  | succ k ih =>
    have := fa_fn_le tx n (fa_st tx n p k)
    show fa_st tx n p k + fa_fn tx n (fa_st tx n p k) + 1 ≤ _
    omega
theorem fa_letter {M : fv_M} {n p : Nat} {tx : Nat → Nat} (h : fa_tc M n tx) (hp : p ≤ 1000) : g_T_letterAt M 1 (nI p) = some (nI (fa_la tx n p)) := by
  have h2 := h.n2
  unfold g_T_letterAt fa_la
  rw [if_neg (nI_pos (by omega)), h.mn]
  by_cases q : p < n
  · rw [if_neg (nI_ge q (by omega)), if_neg (show ¬ (200 : Int32) ≤ nI p from nI_ge (a := p) (b := 200) (by omega) (by omega)), fa_cki (by omega) (by omega), nI_clamp (by omega), h.ml p q, if_pos q]
  · rw [if_pos (nI_le (by omega) (by omega)), if_neg q]; rfl
theorem fa_isFig {M : fv_M} {c : Nat} (hc : c ≤ 126) : g_T_isFigure M (nI c) = some (if fa_fig c = true then (1 : Int32) else 0) := by
  unfold g_T_isFigure
  rw [fa_wi, Option.bind_some, fa_ckp]
  have e : ((48 : Int32) ≤ nI c ∧ nI c ≤ (57 : Int32)) ↔ fa_fig c = true := by
    unfold fa_fig
    rw [decide_eq_true_eq, show (48 : Int32) = nI 48 from rfl, show (57 : Int32) = nI 57 from rfl, nI_leI (by omega) (by omega), nI_leI (by omega) (by omega)]
  by_cases q : fa_fig c = true
  · rw [if_pos (e.mpr q), if_pos q]
  · rw [if_neg (fun z => q (e.mp z)), if_neg q]
theorem fa_figures {M : fv_M} {n p : Nat} {tx : Nat → Nat} (h : fa_tc M n tx) (hp : p ≤ 900) : g_T_figuresAt M 1 (nI p) = some (nI (fa_fn tx n p)) := by
  unfold g_T_figuresAt fa_fn
  rw [fa_letter h (by omega), Option.bind_some, fa_isFig (fa_la_le h p), Option.bind_some]
  by_cases q : fa_fig (fa_la tx n p) = true
  · rw [if_pos q, if_pos q, if_neg fa_10, nI_1, fa_letter h (by omega), Option.bind_some, fa_isFig (fa_la_le h (p + 1)), Option.bind_some]
    by_cases q2 : fa_fig (fa_la tx n (p + 1)) = true
    · rw [if_pos q2, if_pos q2, if_neg fa_10]; rfl
    · rw [if_neg q2, if_neg q2, if_pos rfl]; rfl
  · rw [if_neg q, if_neg q, if_pos rfl]; rfl
theorem fa_number {M : fv_M} {n p : Nat} {tx : Nat → Nat} (h : fa_tc M n tx) (hp : p ≤ 900) (hf : fa_fn tx n p ≠ 0) : g_T_numberAt M 1 (nI p) (nI (fa_fn tx n p)) = some (nI (fa_nv tx n p)) := by
  unfold g_T_numberAt fa_nv
  unfold fa_fn at hf ⊢
  by_cases q : fa_fig (fa_la tx n p) = true
  · have q' := of_decide_eq_true q
    rw [if_pos q, fa_letter h (by omega), Option.bind_some, nI_1, fa_letter h (by omega), Option.bind_some, show (48 : Int32) = nI 48 from rfl, fa_sub q'.1]
    by_cases q2 : fa_fig (fa_la tx n (p + 1)) = true
    · have q2' := of_decide_eq_true q2
      rw [if_pos q2, if_neg (by decide), if_pos q2, show (10 : Int32) = nI 10 from rfl, fa_mul, nI_add, fa_sub (by omega)]
    · rw [if_neg q2, if_pos (by decide), if_neg q2]
  · rw [if_neg q] at hf; exact absurd rfl hf
theorem fa_nums_20 {D : Nat} {n m p0 : Nat} {tx : Nat → Nat} {a2 a3 : Int32} (hm : m ≤ 3) (hp : p0 ≤ 300) : ∀ (e k f : Nat) (M : fv_M), fa_tc M n tx → k + e = m → e < f → ∃ M', (∀ i, i < k → M' 3 i = M 3 i) ∧ (∀ j, j ≠ 3 → M' j = M j) ∧
    if (List.range' k e).all (fa_nk tx n m p0) = true then (∀ i, k ≤ i → i < m → M' 3 i = nI (fa_nv tx n (fa_st tx n p0 i))) ∧ ∀ kk, g_T_readItem_20 1 D a2 a3 (nI m) f M (nI (fa_st tx n p0 k)) (nI k) kk = kk M' (nI (fa_st tx n p0 m)) (nI m)
    else ∀ kk, g_T_readItem_20 1 D a2 a3 (nI m) f M (nI (fa_st tx n p0 k)) (nI k) kk = some (-4, M') := by
  intro e
  induction e with
  | zero =>
    intro k f M h hk hf
    obtain ⟨f, rfl⟩ : ∃ g, f = g + 1 := ⟨f - 1, by omega⟩
    have : k = m := by omega
    subst this
    refine ⟨M, fun _ _ => rfl, fun _ _ => rfl, ?_⟩
    rw [if_pos (show (List.range' k 0).all (fa_nk tx n k p0) = true from rfl)]
    exact ⟨fun i h1 h2 => absurd h2 (by omega), fun kk => by rw [g_T_readItem_20, if_pos (nI_le (Nat.le_refl _) (by omega))]⟩
  | succ e ih =>
    intro k f M h hk hf
    obtain ⟨f, rfl⟩ : ∃ g, f = g + 1 := ⟨f - 1, by omega⟩
    have hst := fa_st_le tx n p0 k
    have hfn := fa_fn_le tx n (fa_st tx n p0 k)
    rw [List.range'_succ, List.all_cons]
    by_cases h0 : fa_fn tx n (fa_st tx n p0 k) = 0
    · refine ⟨M, fun _ _ => rfl, fun _ _ => rfl, ?_⟩
      rw [show fa_nk tx n m p0 k = false from decide_eq_false (fun z => z.1 h0), Bool.false_and, if_neg (by decide)]
      intro kk
      rw [g_T_readItem_20, if_neg (nI_ge (by omega) (by omega)), fa_figures h (by omega), Option.bind_some, h0, if_pos (show nI 0 = (0 : Int32) from rfl)]
    · obtain ⟨M1, eM1⟩ : ∃ M1, M1 = fv_set M (1 + 2) k (nI (fa_nv tx n (fa_st tx n p0 k))) := ⟨_, rfl⟩
      have f1 : ∀ j, j ≠ 3 → M1 j = M j := fun j hj => by rw [eM1, fv_set_ne _ _ _ _ j (by omega)]
      have h1 : fa_tc M1 n tx := h.go (f1 1 (by omega)) (f1 2 (by omega))
      have hunf : ∀ kk, g_T_readItem_20 1 D a2 a3 (nI m) (f + 1) M (nI (fa_st tx n p0 k)) (nI k) kk = if fa_la tx n (fa_st tx n p0 k + fa_fn tx n (fa_st tx n p0 k)) = (if m ≤ k + 1 then 59 else 44) then g_T_readItem_20 1 D a2 a3 (nI m) f M1 (nI (fa_st tx n p0 (k + 1))) (nI (k + 1)) kk else some (-4, M1) := by
        intro kk
        have hle := fa_la_le h (fa_st tx n p0 k + fa_fn tx n (fa_st tx n p0 k))
        rw [g_T_readItem_20, if_neg (nI_ge (by omega) (by omega)), fa_figures h (by omega), Option.bind_some, if_neg (nI_ne0 (by omega) (by omega)), fa_number h (by omega) h0, Option.bind_some, fa_put (by omega) (by omega), Option.bind_some, ← eM1, nI_add, fa_letter h1 (by omega), Option.bind_some, show nI m - (1 : Int32) = nI (m - 1) from fa_sub (a := m) (b := 1) (by omega), nI_1, nI_1]
        have e59 : (nI (fa_la tx n (fa_st tx n p0 k + fa_fn tx n (fa_st tx n p0 k))) = (59 : Int32)) ↔ fa_la tx n (fa_st tx n p0 k + fa_fn tx n (fa_st tx n p0 k)) = 59 := nI_eq (b := 59) (by omega) (by omega)
        have e44 : (nI (fa_la tx n (fa_st tx n p0 k + fa_fn tx n (fa_st tx n p0 k))) = (44 : Int32)) ↔ fa_la tx n (fa_st tx n p0 k + fa_fn tx n (fa_st tx n p0 k)) = 44 := nI_eq (b := 44) (by omega) (by omega)
        by_cases q : m ≤ k + 1
        · rw [if_pos (nI_le (a := m - 1) (b := k) (by omega) (by omega)), if_pos q]
          by_cases c : fa_la tx n (fa_st tx n p0 k + fa_fn tx n (fa_st tx n p0 k)) = 59
          · rw [if_pos (e59.mpr c), if_pos c]; rfl
          · rw [if_neg (fun z => c (e59.mp z)), if_neg c]
        · rw [if_neg (nI_ge (a := k) (b := m - 1) (by omega) (by omega)), if_neg q]
          by_cases c : fa_la tx n (fa_st tx n p0 k + fa_fn tx n (fa_st tx n p0 k)) = 44
          · rw [if_pos (e44.mpr c), if_pos c]; rfl
          · rw [if_neg (fun z => c (e44.mp z)), if_neg c]
      by_cases c : fa_la tx n (fa_st tx n p0 k + fa_fn tx n (fa_st tx n p0 k)) = (if m ≤ k + 1 then 59 else 44)
      · obtain ⟨M3, g1, g2, g3⟩ := ih (k + 1) f M1 h1 (by omega) (by omega)
        refine ⟨M3, fun i hi => by rw [g1 i (by omega), eM1, show (3 : Nat) = 1 + 2 from rfl, fv_set_at, fa_upd_ne _ _ (by omega)], fun j hj => by rw [g2 j hj, f1 j hj], ?_⟩
        rw [show fa_nk tx n m p0 k = true from decide_eq_true ⟨h0, c⟩, Bool.true_and]
        by_cases a : (List.range' (k + 1) e).all (fa_nk tx n m p0) = true
        · rw [if_pos a] at g3 ⊢
          refine ⟨fun i i1 i2 => ?_, fun kk => by rw [hunf, if_pos c]; exact g3.2 kk⟩
          by_cases ei : i = k
          · subst ei; rw [g1 i (by omega), eM1, show (3 : Nat) = 1 + 2 from rfl, fv_set_at, fa_upd_same]
          · exact g3.1 i (by omega) i2
        · rw [if_neg a] at g3 ⊢
          exact fun kk => by rw [hunf, if_pos c]; exact g3 kk
      · refine ⟨M1, fun i hi => by rw [eM1, show (3 : Nat) = 1 + 2 from rfl, fv_set_at, fa_upd_ne _ _ (by omega)], f1, ?_⟩
        rw [show fa_nk tx n m p0 k = false from decide_eq_false (fun z => c z.2), Bool.false_and, if_neg (by decide)]
        exact fun kk => by rw [hunf, if_neg c]
