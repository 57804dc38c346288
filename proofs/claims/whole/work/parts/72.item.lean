/-! an empty draft on both sides -/
def fa_e : fa_L := fa_L.mk 0 0 0 0 (fun _ => 0) (fun _ => 0) (fun _ => 0) (fun _ => 0) (fun _ => 0) (fun _ => 0) (fun _ => 0) (fun _ => 0)
theorem fa_e_wl : fa_wl fa_e := ⟨by decide, by decide, by decide, by decide, fun v h => absurd h (Nat.not_lt_zero v), fun v h => absurd h (Nat.not_lt_zero v), fun v h => absurd h (Nat.not_lt_zero v), fun v h => absurd h (Nat.not_lt_zero v), fun k _ => Nat.zero_le _, fun _ _ _ _ _ => rfl, fun v h => absurd h (Nat.not_lt_zero v), fun v h => absurd h (Nat.not_lt_zero v), fun v h => absurd h (Nat.not_lt_zero v)⟩
theorem fa_clear {M : fv_M} {D : Nat} : ∃ M', g_L_clear M D = some M' ∧ fa_lc M' D fa_e ∧ ∀ j, (j < D ∨ D + 10 ≤ j) → M' j = M j := by
  obtain ⟨M1, e1, a1, f1⟩ := fa_fill (M := fv_set (fv_set (fv_set (fv_set M D 0 (0 : Int32)) D 1 (0 : Int32)) D 2 (0 : Int32)) D 3 (0 : Int32)) (c := D + 6) (n := 24) (x := (0 : Int32)) (by omega)
  have hD : ∀ k, k < 4 → M1 D k = 0 := fun k hk => by
    rw [f1 D (by omega), fv_set_at]
    rcases (by omega : k = 0 ∨ k = 1 ∨ k = 2 ∨ k = 3) with rfl | rfl | rfl | rfl
    · rw [fa_upd_ne _ _ (by omega), fv_set_at, fa_upd_ne _ _ (by omega), fv_set_at, fa_upd_ne _ _ (by omega), fv_set_at, fa_upd_same]
    · rw [fa_upd_ne _ _ (by omega), fv_set_at, fa_upd_ne _ _ (by omega), fv_set_at, fa_upd_same]
    · rw [fa_upd_ne _ _ (by omega), fv_set_at, fa_upd_same]
    · rw [fa_upd_same]
  refine ⟨M1, by unfold g_L_clear; rw [e1, Option.bind_some], ⟨hD 0 (by omega), hD 1 (by omega), hD 2 (by omega), hD 3 (by omega), fun v h => absurd h (Nat.not_lt_zero v), fun v h => absurd h (Nat.not_lt_zero v), fun v h => absurd h (Nat.not_lt_zero v), fun v h => absurd h (Nat.not_lt_zero v), fun k hk => a1 k hk, fun v h => absurd h (Nat.not_lt_zero v), fun v h => absurd h (Nat.not_lt_zero v), fun v h => absurd h (Nat.not_lt_zero v)⟩, fun j hj => ?_⟩
  rw [f1 j (by omega), fv_set_ne _ _ _ _ j (by omega), fv_set_ne _ _ _ _ j (by omega), fv_set_ne _ _ _ _ j (by omega), fv_set_ne _ _ _ _ j (by omega)]
/-- what the reference has read -/
def fa_rm (M : fv_M) (l : fa_L) : Prop := (M 92 21 = nI l.nv) ∧ (M 92 23 = nI l.nn) ∧ (M 92 25 = nI l.nt) ∧ (M 92 27 = nI l.nw) ∧ (∀ v, v < l.nv → M (92 + 13) (2 * v) = nI (l.kd v)) ∧ (∀ v, v < l.nv → M (92 + 13) (2 * v + 1) = nI (l.cr v)) ∧ (∀ n, n < l.nn → M (92 + 14) n = nI (l.mi n)) ∧ (∀ t, t < l.nt → M (92 + 15) t = nI (l.ow t)) ∧ (∀ w, w < l.nw → M (92 + 16) (3 * w) = nI (l.wt w)) ∧ (∀ w, w < l.nw → M (92 + 16) (3 * w + 1) = nI (l.wv w)) ∧ (∀ w, w < l.nw → M (92 + 16) (3 * w + 2) = nI (l.ww w)) ∧ (∀ k, k < 45 → M (92 + 17) k = fa_row0 l k)
theorem fa_rm.nv {M : fv_M} {l : fa_L} (h : fa_rm M l) : M 92 21 = nI l.nv := h.1
theorem fa_rm.nn {M : fv_M} {l : fa_L} (h : fa_rm M l) : M 92 23 = nI l.nn := h.2.1
theorem fa_rm.nt {M : fv_M} {l : fa_L} (h : fa_rm M l) : M 92 25 = nI l.nt := h.2.2.1
theorem fa_rm.nw {M : fv_M} {l : fa_L} (h : fa_rm M l) : M 92 27 = nI l.nw := h.2.2.2.1
theorem fa_rm.kd {M : fv_M} {l : fa_L} (h : fa_rm M l) : ∀ v, v < l.nv → M (92 + 13) (2 * v) = nI (l.kd v) := h.2.2.2.2.1
theorem fa_rm.cr {M : fv_M} {l : fa_L} (h : fa_rm M l) : ∀ v, v < l.nv → M (92 + 13) (2 * v + 1) = nI (l.cr v) := h.2.2.2.2.2.1
theorem fa_rm.mi {M : fv_M} {l : fa_L} (h : fa_rm M l) : ∀ n, n < l.nn → M (92 + 14) n = nI (l.mi n) := h.2.2.2.2.2.2.1
theorem fa_rm.ow {M : fv_M} {l : fa_L} (h : fa_rm M l) : ∀ t, t < l.nt → M (92 + 15) t = nI (l.ow t) := h.2.2.2.2.2.2.2.1
theorem fa_rm.wt {M : fv_M} {l : fa_L} (h : fa_rm M l) : ∀ w, w < l.nw → M (92 + 16) (3 * w) = nI (l.wt w) := h.2.2.2.2.2.2.2.2.1
theorem fa_rm.wv {M : fv_M} {l : fa_L} (h : fa_rm M l) : ∀ w, w < l.nw → M (92 + 16) (3 * w + 1) = nI (l.wv w) := h.2.2.2.2.2.2.2.2.2.1
theorem fa_rm.ww {M : fv_M} {l : fa_L} (h : fa_rm M l) : ∀ w, w < l.nw → M (92 + 16) (3 * w + 2) = nI (l.ww w) := h.2.2.2.2.2.2.2.2.2.2.1
theorem fa_rm.rd {M : fv_M} {l : fa_L} (h : fa_rm M l) : ∀ k, k < 45 → M (92 + 17) k = fa_row0 l k := h.2.2.2.2.2.2.2.2.2.2.2
theorem fa_clr_22 : ∀ (d k f : Nat) (M : fv_M), k + d = 45 → d < f → ∃ M', (∀ kk, g_M_clearTold_22 92 f M (nI k) kk = kk M' (nI 45)) ∧ (∀ i, k ≤ i → i < 45 → M' (92 + 17) i = fa_row0 fa_e i) ∧ (∀ i, i < k → M' (92 + 17) i = M (92 + 17) i) ∧ ∀ j, j ≠ 92 + 17 → M' j = M j := by
  intro d
  induction d with
  | zero =>
    intro k f M hk hf
    obtain ⟨f, rfl⟩ : ∃ g, f = g + 1 := ⟨f - 1, by omega⟩
    have : k = 45 := by omega
    subst this
    exact ⟨M, fun kk => by rw [g_M_clearTold_22, if_pos (by decide)], fun i h1 h2 => by omega, fun _ _ => rfl, fun _ _ => rfl⟩
  | succ d ih =>
    intro k f M hk hf
    obtain ⟨f, rfl⟩ : ∃ g, f = g + 1 := ⟨f - 1, by omega⟩
    obtain ⟨M1, e1, h1, h2, h3⟩ := ih (k + 1) f (fv_set M (92 + 17) k (fa_row0 fa_e k)) (by omega) (by omega)
    refine ⟨M1, fun kk => ?_, fun i q1 q2 => ?_, fun i q => ?_, fun j hj => by rw [h3 j hj, fv_set_ne _ _ _ _ j hj]⟩
    · rw [← e1 kk, g_M_clearTold_22, if_neg (show ¬ (45 : Int32) ≤ nI k from nI_ge (a := k) (b := 45) (by omega) (by omega)), fa_cki (by omega) (by omega), fa_cki (by omega) (by omega), nI_clamp (by omega), nI_1]
      unfold fa_row0
      by_cases c1 : k < 24
      · rw [if_pos (show nI k < (24 : Int32) from nI_lt (a := k) (b := 24) c1 (by omega)), if_pos c1]; rfl
      · rw [if_neg (show ¬ nI k < (24 : Int32) from nI_nlt (a := k) (b := 24) (by omega) (by omega)), if_neg c1]
        by_cases c2 : k < 28
        · rw [if_neg (show ¬ (28 : Int32) ≤ nI k from nI_ge (a := k) (b := 28) c2 (by omega)), if_pos c2]
        · rw [if_pos (show (28 : Int32) ≤ nI k from nI_le (a := 28) (b := k) (by omega) (by omega)), if_neg c2]
    · by_cases e : i = k
      · subst e; rw [h2 i (by omega), fv_set_at, fa_upd_same]
      · exact h1 i (by omega) q2
    · rw [h2 i (by omega), fv_set_at, fa_upd_ne _ _ (by omega)]
theorem fa_clearTold {M : fv_M} : ∃ M', g_M_clearTold M 92 = some M' ∧ fa_rm M' fa_e ∧ (∀ g, g ≠ 21 → g ≠ 23 → g ≠ 25 → g ≠ 27 → M' 92 g = M 92 g) ∧ ∀ j, j ≠ 92 → j ≠ 92 + 17 → M' j = M j := by
  obtain ⟨M1, e1, a1, a2, f1⟩ := fa_clr_22 45 0 fx_FU (fv_set (fv_set (fv_set (fv_set M 92 21 (0 : Int32)) 92 23 (0 : Int32)) 92 25 (0 : Int32)) 92 27 (0 : Int32)) (by omega) (by unfold fx_FU; omega)
  have h92 := f1 92 (by omega)
  refine ⟨M1, by unfold g_M_clearTold; exact e1 _, ⟨?_, ?_, ?_, ?_, fun v h => absurd h (Nat.not_lt_zero v), fun v h => absurd h (Nat.not_lt_zero v), fun v h => absurd h (Nat.not_lt_zero v), fun v h => absurd h (Nat.not_lt_zero v), fun v h => absurd h (Nat.not_lt_zero v), fun v h => absurd h (Nat.not_lt_zero v), fun v h => absurd h (Nat.not_lt_zero v), fun k hk => a1 k (by omega) hk⟩, fun g g1 g2 g3 g4 => ?_, fun j j1 j2 => ?_⟩
  · rw [h92, fv_set_at, fa_upd_ne _ _ (by omega), fv_set_at, fa_upd_ne _ _ (by omega), fv_set_at, fa_upd_ne _ _ (by omega), fv_set_at, fa_upd_same]; rfl
  · rw [h92, fv_set_at, fa_upd_ne _ _ (by omega), fv_set_at, fa_upd_ne _ _ (by omega), fv_set_at, fa_upd_same]; rfl
  · rw [h92, fv_set_at, fa_upd_ne _ _ (by omega), fv_set_at, fa_upd_same]; rfl
  · rw [h92, fv_set_at, fa_upd_same]; rfl
  · rw [h92, fv_set_at, fa_upd_ne _ _ g4, fv_set_at, fa_upd_ne _ _ g3, fv_set_at, fa_upd_ne _ _ g2, fv_set_at, fa_upd_ne _ _ g1]
  · rw [f1 j j2, fv_set_ne _ _ _ _ j j1, fv_set_ne _ _ _ _ j j1, fv_set_ne _ _ _ _ j j1, fv_set_ne _ _ _ _ j j1]
