/-! a land is laid, the class's way: what can be said -/
def fa_as (l : fa_L) (set m : Nat) (s : Nat → Nat) (t : Nat) : Nat := if fa_in set (fa_own l t) then s t ||| m else s t
theorem fa_addSaid_2 {D set m : Nat} {l : fa_L} {s : Nat → Nat} (hl : fa_wl l) : ∀ (d k f : Nat) (M : fv_M), k + d = l.nt → d < f → fa_lc M D l → (∀ t, t < k → M (D + 5) t = nI (fa_as l set m s t)) → (∀ t, k ≤ t → t < l.nt → M (D + 5) t = nI (s t)) →
    ∃ M', (∀ kk, g_L_addSaid_2 D (nI set) (nI m) f M (nI k) kk = kk M' (nI l.nt)) ∧ (∀ t, t < l.nt → M' (D + 5) t = nI (fa_as l set m s t)) ∧ ∀ j, j ≠ D + 5 → M' j = M j := by
  have h4 := hl.nt
  intro d
  induction d with
  | zero =>
    intro k f M hk hf h h1 h2
    obtain ⟨f, rfl⟩ : ∃ g, f = g + 1 := ⟨f - 1, by omega⟩
    have : k = l.nt := by omega
    subst this
    exact ⟨M, fun kk => by rw [g_L_addSaid_2, h.nt, if_pos (nI_le (Nat.le_refl _) (by omega))], h1, fun _ _ => rfl⟩
  | succ d ih =>
    intro k f M hk hf h h1 h2
    obtain ⟨f, rfl⟩ : ∃ g, f = g + 1 := ⟨f - 1, by omega⟩
    by_cases z : fa_in set (fa_own l k)
    · have hM : fa_as l set m s k = s k ||| m := if_pos z
      obtain ⟨M1, e1, a1, f1⟩ := ih (k + 1) f (fv_set M (D + 5) k (nI (s k ||| m))) (by omega) (by omega) (h.go (fun j q1 q2 q3 => fv_set_ne _ _ _ _ j q3)) (fun t ht => by
        rw [fv_set_at]
        by_cases e : t = k
        · rw [e, fa_upd_same, hM]
        · rw [fa_upd_ne _ _ e]; exact h1 t (by omega)) (fun t t1 t2 => by rw [fv_set_at, fa_upd_ne _ _ (by omega)]; exact h2 t (by omega) t2)
      refine ⟨M1, fun kk => ?_, a1, fun j hj => by rw [f1 j hj, fv_set_ne _ _ _ _ j hj]⟩
      rw [← e1 kk, g_L_addSaid_2, h.nt, if_neg (nI_ge (by omega) (by omega)), fa_nouns hl h (by omega), Option.bind_some, if_pos z, fa_at (by omega) (by omega), Option.bind_some, h2 k (by omega) (by omega), fa_or, fa_put (by omega) (by omega), Option.bind_some, nI_1]
    · have hM : fa_as l set m s k = s k := if_neg z
      obtain ⟨M1, e1, a1, f1⟩ := ih (k + 1) f M (by omega) (by omega) h (fun t ht => by
        by_cases e : t = k
        · rw [e, hM]; exact h2 k (by omega) (by omega)
        · exact h1 t (by omega)) (fun t t1 t2 => h2 t (by omega) t2)
      refine ⟨M1, fun kk => ?_, a1, f1⟩
      rw [← e1 kk, g_L_addSaid_2, h.nt, if_neg (nI_ge (by omega) (by omega)), fa_nouns hl h (by omega), Option.bind_some, if_neg z, nI_1]
theorem fa_addSaid {M : fv_M} {D set m : Nat} {l : fa_L} {s : Nat → Nat} (hl : fa_wl l) (h : fa_lc M D l) (h2 : ∀ t, t < l.nt → M (D + 5) t = nI (s t)) : ∃ M', g_L_addSaid M D (nI set) (nI m) = some M' ∧ (∀ t, t < l.nt → M' (D + 5) t = nI (fa_as l set m s t)) ∧ ∀ j, j ≠ D + 5 → M' j = M j := by
  have h4 := hl.nt
  obtain ⟨M1, e1, a1, f1⟩ := fa_addSaid_2 (D := D) (set := set) (m := m) (s := s) hl l.nt 0 fx_FU M (by omega) (by unfold fx_FU; omega) h (fun t ht => absurd ht (Nat.not_lt_zero t)) (fun t _ ht => h2 t ht)
  exact ⟨M1, by unfold g_L_addSaid; exact e1 _, a1, f1⟩
theorem fa_find_10 {D : Nat} {l : fa_L} (hl : fa_wl l) : ∀ (d k f : Nat) (M : fv_M), k + d = 2 ^ l.nn - 1 → d < f → fa_lc M D l → (∀ t, t < l.nt → M (D + 5) t = nI (fa_sdto l t k)) →
    ∃ M', (∀ kk, g_L_findSaid_10 D f M (nI (k + 1)) kk = kk M' (nI (2 ^ l.nn - 1 + 1))) ∧ fa_ls M' D l ∧ ∀ j, j ≠ D + 5 → M' j = M j := by
  have hp := fa_p8 hl
  have h8 := hl.nn
  intro d
  induction d with
  | zero =>
    intro k f M hk hf h h1
    obtain ⟨f, rfl⟩ : ∃ g, f = g + 1 := ⟨f - 1, by omega⟩
    have : k = 2 ^ l.nn - 1 := by omega
    subst this
    refine ⟨M, fun kk => ?_, fun t ht => h1 t ht, fun _ _ => rfl⟩
    rw [g_L_findSaid_10]
    unfold g_L_allNouns
    rw [Option.bind_some, h.nn, fa_mask (by omega), if_pos (nI_lt (by omega) (by omega))]
  | succ d ih =>
    intro k f M hk hf h h1
    obtain ⟨f, rfl⟩ : ∃ g, f = g + 1 := ⟨f - 1, by omega⟩
    have hm := fa_mean_lt hl (k + 1)
    have hpc := fa_pc_lt (fa_mean l (k + 1))
    have e8 : (nI (fa_pc (fa_mean l (k + 1))) = (1 : Int32)) ↔ fa_pc (fa_mean l (k + 1)) = 1 := nI_eq (b := 1) (by omega) (by omega)
    have hu : ∀ kk, g_L_findSaid_10 D (f + 1) M (nI (k + 1)) kk = if fa_pc (fa_mean l (k + 1)) = 1 then ((g_L_addSaid M D (nI (k + 1)) (nI (fa_mean l (k + 1)))).bind fun q5 => g_L_findSaid_10 D f q5 (nI (k + 1 + 1)) kk) else g_L_findSaid_10 D f M (nI (k + 1 + 1)) kk := by
      intro kk
      rw [g_L_findSaid_10]
      unfold g_L_allNouns
      rw [Option.bind_some, h.nn, fa_mask (by omega), if_neg (nI_nlt (by omega) (by omega)), fa_meant hl h (by omega), Option.bind_some, fa_bc (by omega), Option.bind_some, nI_1]
      by_cases z : fa_pc (fa_mean l (k + 1)) = 1
      · rw [if_pos (e8.mpr z), if_pos z]
      · rw [if_neg (fun y => z (e8.mp y)), if_neg z]
    by_cases z : fa_pc (fa_mean l (k + 1)) = 1
    · obtain ⟨M1, e1, a1, f1⟩ := fa_addSaid (set := k + 1) (m := fa_mean l (k + 1)) hl h h1
      obtain ⟨M2, e2, a2, f2⟩ := ih (k + 1) f M1 (by omega) (by omega) (h.go (fun j q1 q2 q3 => f1 j q3)) (fun t ht => by
        rw [a1 t ht]
        unfold fa_as
        rw [fa_sdto]
        by_cases y : fa_in (k + 1) (fa_own l t)
        · rw [if_pos y, if_pos ⟨z, y⟩]
        · rw [if_neg y, if_neg (fun w => y w.2)])
      refine ⟨M2, fun kk => ?_, a2, fun j hj => by rw [f2 j hj, f1 j hj]⟩
      rw [hu, if_pos z, e1, Option.bind_some, e2]
    · obtain ⟨M2, e2, a2, f2⟩ := ih (k + 1) f M (by omega) (by omega) h (fun t ht => by
        rw [fa_sdto, if_neg (fun w => z w.1)]
        exact h1 t ht)
      refine ⟨M2, fun kk => ?_, a2, f2⟩
      rw [hu, if_neg z, e2]
theorem fa_find {M : fv_M} {D : Nat} {l : fa_L} (hl : fa_wl l) (h : fa_lc M D l) : ∃ M', g_L_findSaid M D = some M' ∧ fa_ls M' D l ∧ ∀ j, j ≠ D + 5 → M' j = M j := by
  have hp := fa_p8 hl
  have h4 := hl.nt
  obtain ⟨M1, e1, a1, f1⟩ := fa_fill (M := M) (c := D + 5) (n := 4) (x := (0 : Int32)) (by omega)
  obtain ⟨M2, e2, a2, f2⟩ := fa_find_10 hl (2 ^ l.nn - 1) 0 fx_FU M1 (by omega) (by unfold fx_FU; omega) (h.go (fun j q1 q2 q3 => f1 j q3)) (fun t ht => a1 t (by omega))
  refine ⟨M2, ?_, a2, fun j hj => by rw [f2 j hj, f1 j hj]⟩
  unfold g_L_findSaid
  rw [e1, Option.bind_some]
  exact e2 _
/-! the reference's way -/
theorem fa_set_62 {l : fa_L} (hl : fa_wl l) : ∀ (d k f : Nat) (M : fv_M), k + d = l.nn → d < f → M 92 0 = nI l.nv → M 92 2 = nI l.nn → (∀ n, n < l.nn → M (92 + 14) n = nI (l.mi n)) →
    ∃ M', (∀ kk, g_M_settles_62 92 f M (nI k) kk = kk M' (nI l.nn)) ∧ (∀ n, k ≤ n → n < l.nn → M' (92 + 2) n = nI (l.mi n &&& (2 ^ l.nv - 1))) ∧ (∀ n, n < k → M' (92 + 2) n = M (92 + 2) n) ∧ ∀ j, j ≠ 92 + 2 → M' j = M j := by
  have h8 := hl.nn
  have h6 := hl.nv
  intro d
  induction d with
  | zero =>
    intro k f M hk hf h0 h1 h2
    obtain ⟨f, rfl⟩ : ∃ g, f = g + 1 := ⟨f - 1, by omega⟩
    have : k = l.nn := by omega
    subst this
    exact ⟨M, fun kk => by rw [g_M_settles_62, h1, if_pos (nI_le (Nat.le_refl _) (by omega))], fun n n1 n2 => absurd n2 (by omega), fun _ _ => rfl, fun _ _ => rfl⟩
  | succ d ih =>
    intro k f M hk hf h0 h1 h2
    obtain ⟨f, rfl⟩ : ∃ g, f = g + 1 := ⟨f - 1, by omega⟩
    obtain ⟨M1, e1, a1, b1, f1⟩ := ih (k + 1) f (fv_set M (92 + 2) k (nI (l.mi k &&& (2 ^ l.nv - 1)))) (by omega) (by omega) (by rw [fv_set_ne _ _ _ _ 92 (by omega)]; exact h0) (by rw [fv_set_ne _ _ _ _ 92 (by omega)]; exact h1) (fun n hn => by rw [fv_set_ne _ _ _ _ (92 + 14) (by omega)]; exact h2 n hn)
    refine ⟨M1, fun kk => ?_, fun n n1 n2 => ?_, fun n hn => by rw [b1 n (by omega), fv_set_at, fa_upd_ne _ _ (by omega)], fun j hj => by rw [f1 j hj, fv_set_ne _ _ _ _ j hj]⟩
    · rw [← e1 kk, g_M_settles_62, h1, if_neg (nI_ge (by omega) (by omega)), nI_clamp (by omega), fa_ckn (by omega) (by omega), h0, fa_mask (by omega), h2 k (by omega), fa_and, nI_1]
    · by_cases e : n = k
      · subst e; rw [b1 n (by omega), fv_set_at, fa_upd_same]
      · exact a1 n (by omega) n2
theorem fa_set_141 {l : fa_L} {t : Nat} (hl : fa_wl l) (ht : t < l.nt) : ∀ (d k f : Nat) (M : fv_M), k + d = 2 ^ l.nn - 1 → d < f → M 92 0 = nI l.nv → M 92 2 = nI l.nn → (∀ n, n < l.nn → M (92 + 2) n = nI (l.mi n &&& (2 ^ l.nv - 1))) → M (92 + 3) t = nI (fa_own l t) → M (92 + 5) t = nI (fa_sdto l t k) →
    ∃ M', (∀ kk, g_M_settles_141 92 (nI t) f M (nI (k + 1)) kk = kk M' (nI (2 ^ l.nn - 1 + 1))) ∧ M' (92 + 5) t = nI (fa_sd l t) ∧ (∀ i, i ≠ t → M' (92 + 5) i = M (92 + 5) i) ∧ ∀ j, j ≠ 92 + 5 → M' j = M j := by
  have hp := fa_p8 hl
  have hp0 : 0 < 2 ^ l.nn := Nat.two_pow_pos _
  have h8 := hl.nn
  have h4 := hl.nt
  intro d
  induction d with
  | zero =>
    intro k f M hk hf h0 h1 h2 h3 h5
    obtain ⟨f, rfl⟩ : ∃ g, f = g + 1 := ⟨f - 1, by omega⟩
    have : k = 2 ^ l.nn - 1 := by omega
    subst this
    refine ⟨M, fun kk => ?_, h5, fun _ _ => rfl, fun _ _ => rfl⟩
    rw [g_M_settles_141, h1, fa_shl (by omega), if_pos (nI_le (by omega) (by omega))]
  | succ d ih =>
    intro k f M hk hf h0 h1 h2 h3 h5
    obtain ⟨f, rfl⟩ : ∃ g, f = g + 1 := ⟨f - 1, by omega⟩
    have hm := fa_mean_lt hl (k + 1)
    have hpc := fa_pc_lt (fa_mean l (k + 1))
    have e8 : (nI (fa_pc (fa_mean l (k + 1))) = (1 : Int32)) ↔ fa_pc (fa_mean l (k + 1)) = 1 := nI_eq (b := 1) (by omega) (by omega)
    obtain ⟨M1, e1, a1, b1, f1⟩ := ih (k + 1) f (fv_set M (92 + 5) t (nI (fa_sdto l t (k + 1)))) (by omega) (by omega) (by rw [fv_set_ne _ _ _ _ 92 (by omega)]; exact h0) (by rw [fv_set_ne _ _ _ _ 92 (by omega)]; exact h1) (fun n hn => by rw [fv_set_ne _ _ _ _ (92 + 2) (by omega)]; exact h2 n hn) (by rw [fv_set_ne _ _ _ _ (92 + 3) (by omega)]; exact h3) (by rw [fv_set_at, fa_upd_same])
    refine ⟨M1, fun kk => ?_, a1, fun i hi => by rw [b1 i hi, fv_set_at, fa_upd_ne _ _ hi], fun j hj => by rw [f1 j hj, fv_set_ne _ _ _ _ j hj]⟩
    rw [← e1 kk, g_M_settles_141, h1, fa_shl (by omega), if_neg (nI_ge (by omega) (by omega)), fa_rof' hl h0 h1 h2 (by omega), Option.bind_some, nI_clamp (by omega), fa_ckn (by omega) (by omega), h3, h5, fa_or0, nI_1, fa_sdto]
    by_cases y : fa_in (k + 1) (fa_own l t)
    · rw [if_pos y, fa_bits (by omega), Option.bind_some]
      by_cases z : fa_pc (fa_mean l (k + 1)) = 1
      · rw [if_pos (e8.mpr z), fa_or, if_pos ⟨z, y⟩]
      · rw [if_neg (fun w => z (e8.mp w)), if_neg (fun w => z w.1)]
    · rw [if_neg y, if_neg (fun w => y w.2)]
theorem fa_set_99 {l : fa_L} (hl : fa_wl l) : ∀ (d k f : Nat) (M : fv_M), k + d = l.nt → d < f → M 92 0 = nI l.nv → M 92 2 = nI l.nn → M 92 4 = nI l.nt → (∀ n, n < l.nn → M (92 + 2) n = nI (l.mi n &&& (2 ^ l.nv - 1))) → (∀ t, t < l.nt → M (92 + 15) t = nI (l.ow t)) →
    ∃ M', (∀ kk, g_M_settles_99 92 f M (nI k) kk = kk M' (nI l.nt)) ∧ (∀ t, k ≤ t → t < l.nt → M' (92 + 3) t = nI (fa_own l t) ∧ M' (92 + 5) t = nI (fa_sd l t)) ∧ (∀ t, t < k → M' (92 + 3) t = M (92 + 3) t ∧ M' (92 + 5) t = M (92 + 5) t) ∧ ∀ j, j ≠ 92 + 3 → j ≠ 92 + 5 → M' j = M j := by
  have hp := fa_p8 hl
  have h8 := hl.nn
  have h4 := hl.nt
  intro d
  induction d with
  | zero =>
    intro k f M hk hf h0 h1 h2 h3 h5
    obtain ⟨f, rfl⟩ : ∃ g, f = g + 1 := ⟨f - 1, by omega⟩
    have : k = l.nt := by omega
    subst this
    exact ⟨M, fun kk => by rw [g_M_settles_99, h2, if_pos (nI_le (Nat.le_refl _) (by omega))], fun n n1 n2 => absurd n2 (by omega), fun _ _ => ⟨rfl, rfl⟩, fun _ _ _ => rfl⟩
  | succ d ih =>
    intro k f M hk hf h0 h1 h2 h3 h5
    obtain ⟨f, rfl⟩ : ∃ g, f = g + 1 := ⟨f - 1, by omega⟩
    obtain ⟨MA, eA⟩ : ∃ MA, MA = fv_set (fv_set M (92 + 3) k (nI (fa_own l k))) (92 + 5) k (0 : Int32) := ⟨_, rfl⟩
    have fA : ∀ j, j ≠ 92 + 3 → j ≠ 92 + 5 → MA j = M j := fun j j1 j2 => by rw [eA, fv_set_ne _ _ _ _ j j2, fv_set_ne _ _ _ _ j j1]
    have A3 : MA (92 + 3) = upd (M (92 + 3)) k (nI (fa_own l k)) := by rw [eA, fv_set_ne _ _ _ _ (92 + 3) (by omega), fv_set_at]
    have A5 : MA (92 + 5) = upd (M (92 + 5)) k (0 : Int32) := by rw [eA, fv_set_at, fv_set_ne _ _ _ _ (92 + 5) (by omega)]
    obtain ⟨MB, e2, a2, b2, f2⟩ := fa_set_141 hl (show k < l.nt by omega) (2 ^ l.nn - 1) 0 fx_FU MA (by omega) (by unfold fx_FU; omega) (by rw [fA 92 (by omega) (by omega)]; exact h0) (by rw [fA 92 (by omega) (by omega)]; exact h1) (fun n hn => by rw [fA (92 + 2) (by omega) (by omega)]; exact h3 n hn) (by rw [A3, fa_upd_same]) (by rw [A5, fa_upd_same]; rfl)
    have fB : ∀ j, j ≠ 92 + 3 → j ≠ 92 + 5 → MB j = M j := fun j j1 j2 => by rw [f2 j j2, fA j j1 j2]
    obtain ⟨M1, e1, a1, b1, f1⟩ := ih (k + 1) f MB (by omega) (by omega) (by rw [fB 92 (by omega) (by omega)]; exact h0) (by rw [fB 92 (by omega) (by omega)]; exact h1) (by rw [fB 92 (by omega) (by omega)]; exact h2) (fun n hn => by rw [fB (92 + 2) (by omega) (by omega)]; exact h3 n hn) (fun t ht => by rw [fB (92 + 15) (by omega) (by omega)]; exact h5 t ht)
    refine ⟨M1, fun kk => ?_, fun t t1 t2 => ?_, fun t ht => ?_, fun j j1 j2 => by rw [f1 j j1 j2, fB j j1 j2]⟩
    · rw [← e1 kk, g_M_settles_99, h2, if_neg (nI_ge (by omega) (by omega)), nI_clamp (by omega), fa_ckn (by omega) (by omega), h1, fa_mask (by omega), h5 k (by omega), show (192 : Int32) = nI 192 from rfl, fa_or, fa_and, nI_1, show nI ((l.ow k ||| 192) &&& (2 ^ l.nn - 1)) = nI (fa_own l k) from rfl, ← eA]
      exact e2 _
    · by_cases e : t = k
      · subst e
        rw [(b1 t (by omega)).1, (b1 t (by omega)).2, a2, f2 (92 + 3) (by omega), A3, fa_upd_same]
        exact ⟨rfl, rfl⟩
      · exact a1 t (by omega) t2
    · rw [(b1 t (by omega)).1, (b1 t (by omega)).2, b2 t (by omega), f2 (92 + 3) (by omega), A3, fa_upd_ne _ _ (by omega), A5, fa_upd_ne _ _ (by omega)]
      exact ⟨rfl, rfl⟩
theorem fa_settles {M : fv_M} {l : fa_L} (hl : fa_wl l) (h : fa_rm M l) : ∃ M', g_M_settles M 92 = some M' ∧ fa_lm M' l ∧ fa_m M' (92 + 6) (fa_row0 l) ∧ M' 92 11 = 0 ∧ M' 92 13 = 0 ∧ M' 92 15 = 0 ∧ (∀ g, 16 ≤ g → M' 92 g = M 92 g) ∧ ∀ j, (j < 92 ∨ 100 ≤ j) → M' j = M j := by
  have h8 := hl.nn
  have h6 := hl.nv
  have h4 := hl.nt
  have h7 := hl.nw
  obtain ⟨M0, e0⟩ : ∃ M0, M0 = fv_set (fv_set (fv_set (fv_set M 92 0 (nI l.nv)) 92 2 (nI l.nn)) 92 4 (nI l.nt)) 92 6 (nI l.nw) := ⟨_, rfl⟩
  have f0 : ∀ j, j ≠ 92 → M0 j = M j := fun j hj => by rw [e0, fv_set_ne _ _ _ _ j hj, fv_set_ne _ _ _ _ j hj, fv_set_ne _ _ _ _ j hj, fv_set_ne _ _ _ _ j hj]
  have g0 : ∀ k, k ≠ 0 → k ≠ 2 → k ≠ 4 → k ≠ 6 → M0 92 k = M 92 k := fun k k0 k2 k4 k6 => by rw [e0, fv_set_at, fa_upd_ne _ _ k6, fv_set_at, fa_upd_ne _ _ k4, fv_set_at, fa_upd_ne _ _ k2, fv_set_at, fa_upd_ne _ _ k0]
  have v6 : M0 92 6 = nI l.nw := by rw [e0, fv_set_at, fa_upd_same]
  have v4 : M0 92 4 = nI l.nt := by rw [e0, fv_set_at, fa_upd_ne _ _ (by omega), fv_set_at, fa_upd_same]
  have v2 : M0 92 2 = nI l.nn := by rw [e0, fv_set_at, fa_upd_ne _ _ (by omega), fv_set_at, fa_upd_ne _ _ (by omega), fv_set_at, fa_upd_same]
  have v0 : M0 92 0 = nI l.nv := by rw [e0, fv_set_at, fa_upd_ne _ _ (by omega), fv_set_at, fa_upd_ne _ _ (by omega), fv_set_at, fa_upd_ne _ _ (by omega), fv_set_at, fa_upd_same]
  obtain ⟨M1, e1, a1, _, f1⟩ := fa_mput (M := M0) (a := 92 + 13) (b := 92 + 1) (n := 12) (N0 := 12) (N2 := 12) (o := 0) (by omega) (by omega) (by omega) (by omega) (by omega) (by omega)
  obtain ⟨M2, e2, a2, _, f2⟩ := fa_mput (M := M1) (a := 92 + 16) (b := 92 + 4) (n := 24) (N0 := 24) (N2 := 24) (o := 0) (by omega) (by omega) (by omega) (by omega) (by omega) (by omega)
  have fr2 : ∀ j, j ≠ 92 → j ≠ 92 + 1 → j ≠ 92 + 4 → M2 j = M j := fun j q1 q2 q3 => by rw [f2 j q3, f1 j q2, f0 j q1]
  have w2 : M2 92 = M0 92 := by rw [f2 92 (by omega), f1 92 (by omega)]
  obtain ⟨M3, e3, a3, _, f3⟩ := fa_set_62 hl l.nn 0 fx_FU M2 (by omega) (by unfold fx_FU; omega) (by rw [w2]; exact v0) (by rw [w2]; exact v2) (fun n hn => by rw [fr2 (92 + 14) (by omega) (by omega) (by omega)]; exact h.mi n hn)
  have w3 : M3 92 = M0 92 := by rw [f3 92 (by omega), w2]
  obtain ⟨M4, e4, a4, _, f4⟩ := fa_set_99 hl l.nt 0 fx_FU M3 (by omega) (by unfold fx_FU; omega) (by rw [w3]; exact v0) (by rw [w3]; exact v2) (by rw [w3]; exact v4) (fun n hn => a3 n (Nat.zero_le _) hn) (fun t ht => by rw [f3 (92 + 15) (by omega), fr2 (92 + 15) (by omega) (by omega) (by omega)]; exact h.ow t ht)
  have fr4 : ∀ j, j ≠ 92 → (j < 93 ∨ 98 ≤ j) → M4 j = M j := fun j q1 q2 => by rw [f4 j (by omega) (by omega), f3 j (by omega), fr2 j q1 (by omega) (by omega)]
  have w4 : M4 92 = M0 92 := by rw [f4 92 (by omega) (by omega), w3]
  obtain ⟨M5, e5, a5, _, f5⟩ := fa_mput (M := M4) (a := 92 + 17) (b := 92 + 6) (n := 45) (N0 := 45) (N2 := 45) (o := 0) (by omega) (by omega) (by omega) (by omega) (by omega) (by omega)
  obtain ⟨M6, e6, a6, _, f6⟩ := fa_mput (M := M5) (a := 92 + 17) (b := 92 + 7) (n := 45) (N0 := 45) (N2 := 45) (o := 0) (by omega) (by omega) (by omega) (by omega) (by omega) (by omega)
  obtain ⟨M7, e7⟩ : ∃ M7, M7 = fv_set (fv_set (fv_set M6 92 11 (0 : Int32)) 92 13 (0 : Int32)) 92 15 (0 : Int32) := ⟨_, rfl⟩
  have f7 : ∀ j, j ≠ 92 → M7 j = M6 j := fun j hj => by rw [e7, fv_set_ne _ _ _ _ j hj, fv_set_ne _ _ _ _ j hj, fv_set_ne _ _ _ _ j hj]
  have w6 : M6 92 = M0 92 := by rw [f6 92 (by omega), f5 92 (by omega), w4]
  have g7 : ∀ k, k ≠ 11 → k ≠ 13 → k ≠ 15 → M7 92 k = M0 92 k := fun k k1 k2 k3 => by rw [e7, fv_set_at, fa_upd_ne _ _ k3, fv_set_at, fa_upd_ne _ _ k2, fv_set_at, fa_upd_ne _ _ k1, w6]
  have r1 : ∀ i, i < 12 → M7 (92 + 1) i = M (92 + 13) i := fun i hi => by
    rw [f7 (92 + 1) (by omega), f6 (92 + 1) (by omega), f5 (92 + 1) (by omega), f4 (92 + 1) (by omega) (by omega), f3 (92 + 1) (by omega), f2 (92 + 1) (by omega)]
    have := a1 i hi
    rw [Nat.zero_add] at this
    rw [this, f0 (92 + 13) (by omega)]
  have r4 : ∀ i, i < 24 → M7 (92 + 4) i = M (92 + 16) i := fun i hi => by
    rw [f7 (92 + 4) (by omega), f6 (92 + 4) (by omega), f5 (92 + 4) (by omega), f4 (92 + 4) (by omega) (by omega), f3 (92 + 4) (by omega)]
    have := a2 i hi
    rw [Nat.zero_add] at this
    rw [this, f1 (92 + 16) (by omega), f0 (92 + 16) (by omega)]
  have r2 : M7 (92 + 2) = M3 (92 + 2) := by rw [f7 (92 + 2) (by omega), f6 (92 + 2) (by omega), f5 (92 + 2) (by omega), f4 (92 + 2) (by omega) (by omega)]
  have r3 : M7 (92 + 3) = M4 (92 + 3) := by rw [f7 (92 + 3) (by omega), f6 (92 + 3) (by omega), f5 (92 + 3) (by omega)]
  have r5 : M7 (92 + 5) = M4 (92 + 5) := by rw [f7 (92 + 5) (by omega), f6 (92 + 5) (by omega), f5 (92 + 5) (by omega)]
  have r6 : ∀ k, k < 45 → M7 (92 + 6) k = fa_row0 l k := fun k hk => by
    rw [f7 (92 + 6) (by omega), f6 (92 + 6) (by omega)]
    have := a5 k hk
    rw [Nat.zero_add] at this
    rw [this, fr4 (92 + 17) (by omega) (by omega)]
    exact h.rd k hk
  have r7 : ∀ k, k < 45 → M7 (92 + 7) k = fa_row0 l k := fun k hk => by
    rw [f7 (92 + 7) (by omega)]
    have := a6 k hk
    rw [Nat.zero_add] at this
    rw [this, f5 (92 + 17) (by omega), fr4 (92 + 17) (by omega) (by omega)]
    exact h.rd k hk
  refine ⟨M7, ?_, ⟨by rw [g7 0 (by omega) (by omega) (by omega)]; exact v0, by rw [g7 2 (by omega) (by omega) (by omega)]; exact v2, by rw [g7 4 (by omega) (by omega) (by omega)]; exact v4, by rw [g7 6 (by omega) (by omega) (by omega)]; exact v6,
    fun v hv => by rw [r1 _ (by omega)]; exact h.kd v hv, fun v hv => by rw [r1 _ (by omega)]; exact h.cr v hv, fun n hn => by rw [r2]; exact a3 n (Nat.zero_le _) hn, fun t ht => by rw [r3]; exact (a4 t (Nat.zero_le _) ht).1,
    fun w hw => by rw [r4 _ (by omega)]; exact h.wt w hw, fun w hw => by rw [r4 _ (by omega)]; exact h.wv w hw, fun w hw => by rw [r4 _ (by omega)]; exact h.ww w hw, fun t ht => by rw [r5]; exact (a4 t (Nat.zero_le _) ht).2, r7⟩, r6, ?_, ?_, ?_, fun g hg => ?_, fun j hj => ?_⟩
  · unfold g_M_settles
    rw [h.nv, show (fv_set M 92 0 (nI l.nv)) 92 23 = nI l.nn from by rw [fv_set_at, fa_upd_ne _ _ (by omega)]; exact h.nn, show (fv_set (fv_set M 92 0 (nI l.nv)) 92 2 (nI l.nn)) 92 25 = nI l.nt from by rw [fv_set_at, fa_upd_ne _ _ (by omega), fv_set_at, fa_upd_ne _ _ (by omega)]; exact h.nt, show (fv_set (fv_set (fv_set M 92 0 (nI l.nv)) 92 2 (nI l.nn)) 92 4 (nI l.nt)) 92 27 = nI l.nw from by rw [fv_set_at, fa_upd_ne _ _ (by omega), fv_set_at, fa_upd_ne _ _ (by omega), fv_set_at, fa_upd_ne _ _ (by omega)]; exact h.nw, ← e0,
      show g_M_put M0 (92 + 1) 12 (0 : Int32) (92 + 13) 12 (12 : Int32) = some M1 from e1, Option.bind_some, show g_M_put M1 (92 + 4) 24 (0 : Int32) (92 + 16) 24 (24 : Int32) = some M2 from e2, Option.bind_some]
    refine (e3 _).trans ((e4 _).trans ?_)
    rw [show g_M_put M4 (92 + 6) 45 (0 : Int32) (92 + 17) 45 (45 : Int32) = some M5 from e5, Option.bind_some, show g_M_put M5 (92 + 7) 45 (0 : Int32) (92 + 17) 45 (45 : Int32) = some M6 from e6, Option.bind_some, e7]
  · rw [e7, fv_set_at, fa_upd_ne _ _ (by omega), fv_set_at, fa_upd_ne _ _ (by omega), fv_set_at, fa_upd_same]
  · rw [e7, fv_set_at, fa_upd_ne _ _ (by omega), fv_set_at, fa_upd_same]
  · rw [e7, fv_set_at, fa_upd_same]
  · rw [g7 g (by omega) (by omega) (by omega), g0 g (by omega) (by omega) (by omega) (by omega)]
  · rw [f7 j (by omega), f6 j (by omega), f5 j (by omega), fr4 j (by omega) (by omega)]
