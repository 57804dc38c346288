/-! a text is laid -/
theorem fa_laid {MX : fv_M} {D L : Nat} {l : fa_L} (hl : fa_wl l) (pv : 1 ≤ l.nv) (pt : 1 ≤ l.nt) (hLD : fx_LD D L) (htx : fa_tx MX) (c : fa_lc MX D l) (s : fa_ls MX D l) (m : fa_lm MX l) (st : fa_c MX 24 (fa_row0 l)) (ms : fa_m MX (92 + 6) (fa_row0 l))
    (h1 : MX 34 1 = 0) (h2 : ∃ x, x < 8 ∧ MX 34 2 = nI x) (h3 : MX 92 11 = 0) (h4 : MX 76 1 = 0) (h5 : ∃ x, x < 2 ∧ MX 76 2 = nI x) (h6 : MX 92 13 = 0) (h7 : MX 88 3 = 0) (h8 : MX 92 15 = 0) : fa_R MX D L l (fa_row0 l) 0 := by
  obtain ⟨x, hx, ex⟩ := h2
  obtain ⟨y, hy, ey⟩ := h5
  exact ⟨⟨hl, c, s, m, fa_row0_wS hl, st, ms⟩, hLD, pv, pt, htx, ⟨0, x, fun _ => fa_row0 l, by omega, hx, h1, ex, h3, fun k hk => absurd hk (Nat.not_lt_zero k)⟩, ⟨0, y, fun _ => fa_row0 l, by omega, hy, h4, ey, h6, fun k hk => absurd hk (Nat.not_lt_zero k)⟩, ⟨0, fun _ => 0, fun _ => 0, fun _ => 0, by omega, h7, h8, fun k hk => absurd hk (Nat.not_lt_zero k)⟩⟩
theorem fa_LD_sw {L D : Nat} (h : fx_LD L D) : fx_LD D L := by
  rcases h with ⟨a, b⟩ | ⟨a, b⟩
  · exact Or.inr ⟨b, a⟩
  · exact Or.inl ⟨b, a⟩
theorem fa_xset {M : fv_M} {L D : Nat} {l : fa_L} (hl : fa_wl l) (pv : 1 ≤ l.nv) (pt : 1 ≤ l.nt) (hD : D + 10 ≤ 24) (h : fa_lc M D l) :
    ∃ M', (g_L_findSaid M D).bind (fun q2 => (g_S_begin q2 24 D).bind fun q3 => some ((1 : Int32), (fv_set (fv_set (fv_set q3 34 1 (0 : Int32)) 76 1 (0 : Int32)) 88 3 (0 : Int32)), D, L)) = some ((1 : Int32), M', D, L) ∧ fa_lc M' D l ∧ fa_ls M' D l ∧ fa_c M' 24 (fa_row0 l) ∧ M' 34 1 = 0 ∧ M' 76 1 = 0 ∧ M' 88 3 = 0 ∧ M' 34 2 = M 34 2 ∧ M' 76 2 = M 76 2 ∧ ∀ j, j ≠ D + 5 → (j < 24 ∨ 29 ≤ j) → j ≠ 34 → j ≠ 76 → j ≠ 88 → M' j = M j := by
  obtain ⟨M1, e1, s1, f1⟩ := fa_find hl h
  have h1 : fa_lc M1 D l := h.go (fun j _ _ q3 => f1 j q3)
  obtain ⟨M2, e2, c2, f2⟩ := fa_begin (M := M1) (s := 24) (L := D) (l := l) hD h1.sk
  obtain ⟨M3, e3⟩ : ∃ M3, M3 = fv_set (fv_set (fv_set M2 34 1 (0 : Int32)) 76 1 (0 : Int32)) 88 3 (0 : Int32) := ⟨_, rfl⟩
  have f3 : ∀ j, j ≠ 34 → j ≠ 76 → j ≠ 88 → M3 j = M2 j := fun j a b c => by rw [e3, fv_set_ne _ _ _ _ j c, fv_set_ne _ _ _ _ j b, fv_set_ne _ _ _ _ j a]
  have k34 : M3 34 = upd (M2 34) 1 (0 : Int32) := by rw [e3, fv_set_ne _ _ _ _ 34 (by omega), fv_set_ne _ _ _ _ 34 (by omega), fv_set_at]
  have k76 : M3 76 = upd (M2 76) 1 (0 : Int32) := by rw [e3, fv_set_ne _ _ _ _ 76 (by omega), fv_set_at, fv_set_ne _ _ _ _ 76 (by omega)]
  refine ⟨M3, by rw [e1, Option.bind_some, e2, Option.bind_some, e3], h1.go (fun j q1 q2 _ => by rw [f3 j (by omega) (by omega) (by omega), f2 j (by omega)]), fun t ht => by rw [f3 (D + 5) (by omega) (by omega) (by omega), f2 (D + 5) (by omega)]; exact s1 t ht, c2.go (fun j q1 q2 => f3 j (by omega) (by omega) (by omega)), by rw [k34, fa_upd_same], by rw [k76, fa_upd_same], by rw [e3, fv_set_at, fa_upd_same], by rw [k34, fa_upd_ne _ _ (by omega), f2 34 (by omega), f1 34 (by omega)], by rw [k76, fa_upd_ne _ _ (by omega), f2 76 (by omega), f1 76 (by omega)], fun j a b c d e => by rw [f3 j c d e, f2 j (by omega), f1 j a]⟩
theorem fa_p_lay {M : fv_M} {L D : Nat} {l : fa_L} {σ : Nat → Int32} {B : Nat} (R : fa_R M L D l σ B) : ∃ r M1 M2 L2 D2 l2 σ2, g_X_lay M L D = some (r, M1, L2, D2) ∧ g_M_lay M1 92 = some (r, M2) ∧ fa_R M2 L2 D2 l2 σ2 B := by
  have hLD := fa_LD.le R.LD
  obtain ⟨n, tx, M1, hn2, e1, f1, c1, k⟩ := fa_both R
  have hwl := fa_run_wl tx n n 0 fa_e fa_e_wl
  have hlt := fa_run_lt tx n n 0 fa_e
  rcases er : (fa_run tx n n 0 fa_e).1 with _ | q
  rotate_left
  · -- a fault
    rw [er] at e1 k
    obtain ⟨M2, e2, f2, _⟩ := k M1 (fun j hj => f1 j (by omega) (by omega))
    have hq : ¬ fa_rI (some q) = (-4 : Int32) := fa_ne4 (n := q) (by have := hlt q er; omega)
    refine ⟨(-2 : Int32), M1, M2, L, D, l, σ, ?_, ?_, R.kp ⟨fun j a b c d => by rw [f2.1 j c d, f1 j a b], fun g a b c d e => by rw [f2.2 g a b c d e, f1 92 (by omega) (by omega)]⟩⟩
    · unfold g_X_lay g_X_settle
      rw [e1, Option.bind_some, if_neg hq, Option.bind_some, if_pos rfl]
    · unfold g_M_lay
      rw [e2, Option.bind_some, if_neg hq]
  rw [er] at e1 k c1
  have c1 := c1 rfl
  generalize (fa_run tx n n 0 fa_e).2 = l2 at hwl c1 k
  by_cases pv : 1 ≤ l2.nv ∧ 1 ≤ l2.nt
  rotate_left
  · -- no verb or no village
    obtain ⟨M2, e2, f2, c2⟩ := k M1 (fun j hj => f1 j (by omega) (by omega))
    have c2 := c2 rfl
    refine ⟨(-2 : Int32), M1, M2, L, D, l, σ, ?_, ?_, R.kp ⟨fun j a b c d => by rw [f2.1 j c d, f1 j a b], fun g a b c d e => by rw [f2.2 g a b c d e, f1 92 (by omega) (by omega)]⟩⟩
    · unfold g_X_lay g_X_settle
      rw [e1, Option.bind_some, if_pos (show fa_rI none = (-4 : Int32) from rfl)]
      rw [fa_snd, c1.nv, c1.nt]
      by_cases z : l2.nv = 0
      · rw [z, if_pos (show nI 0 = (0 : Int32) from rfl), Option.bind_some, if_pos rfl]
      · have h6 := hwl.nv
        rw [if_neg (nI_ne0 (by omega) (by omega)), show l2.nt = 0 by omega, if_pos (show nI 0 = (0 : Int32) from rfl), Option.bind_some, if_pos rfl]
    · unfold g_M_lay
      rw [e2, Option.bind_some, if_pos (show fa_rI none = (-4 : Int32) from rfl)]
      rw [fa_snd, c2.nv, c2.nt]
      by_cases z : l2.nv = 0
      · rw [z, if_pos (show nI 0 = (0 : Int32) from rfl)]
      · have h6 := hwl.nv
        rw [if_neg (nI_ne0 (by omega) (by omega)), show l2.nt = 0 by omega, if_pos (show nI 0 = (0 : Int32) from rfl)]
  · obtain ⟨pv, pt⟩ := pv
    have h6 := hwl.nv
    have h4 := hwl.nt
    obtain ⟨MX, eX, cX, sX, stX, x1, x2, x3, x4, x5, fX⟩ := fa_xset (L := L) hwl pv pt (by omega) c1
    obtain ⟨M2, e2, f2, c2⟩ := k MX (fun j hj => by rw [fX j (by omega) (by omega) (by omega) (by omega) (by omega), f1 j (by omega) (by omega)])
    have c2 := c2 rfl
    obtain ⟨M3, e3, m3, s3, a3, b3, d3, g3, f3⟩ := fa_settles hwl c2
    have F3 : ∀ j, j < 92 → M3 j = MX j := fun j hj => by rw [f3 j (by omega), f2.1 j (by omega) (by omega)]
    refine ⟨nI l2.nt, MX, M3, D, L, l2, fa_row0 l2, ?_, ?_, (fa_laid hwl pv pt (fa_LD_sw R.LD) ?_ (cX.go (fun j q1 q2 _ => F3 j (by omega))) (fun t ht => by rw [F3 (D + 5) (by omega)]; exact sX t ht) m3 (stX.go (fun j q1 q2 => F3 j (by omega))) s3 ?_ ?_ a3 ?_ ?_ b3 ?_ d3).mono (Nat.zero_le _)⟩
    · unfold g_X_lay g_X_settle
      rw [e1, Option.bind_some, if_pos (show fa_rI none = (-4 : Int32) from rfl)]
      rw [fa_snd, c1.nv, c1.nt, if_neg (nI_ne0 (by omega) (by omega)), if_neg (nI_ne0 (by omega) (by omega)), eX, Option.bind_some, if_neg fa_10]
      dsimp only
      rw [cX.nt]
    · unfold g_M_lay
      rw [e2, Option.bind_some, if_pos (show fa_rI none = (-4 : Int32) from rfl)]
      rw [fa_snd, c2.nv, c2.nt, if_neg (nI_ne0 (by omega) (by omega)), if_neg (nI_ne0 (by omega) (by omega)), e3, Option.bind_some, m3.nt]
    · refine R.tx.go ?_ ?_ ?_ ?_
      · rw [F3 1 (by omega), fX 1 (by omega) (by omega) (by omega) (by omega) (by omega), f1 1 (by omega) (by omega)]
      · rw [F3 2 (by omega), fX 2 (by omega) (by omega) (by omega) (by omega) (by omega), f1 2 (by omega) (by omega)]
      · rw [g3 18 (by omega), f2.2 18 (by omega) (by omega) (by omega) (by omega) (by omega), fX 92 (by omega) (by omega) (by omega) (by omega) (by omega), f1 92 (by omega) (by omega)]
      · rw [f3 (92 + 11) (by omega), f2.1 (92 + 11) (by omega) (by omega), fX (92 + 11) (by omega) (by omega) (by omega) (by omega) (by omega), f1 (92 + 11) (by omega) (by omega)]
    · rw [F3 34 (by omega)]; exact x1
    · obtain ⟨_, x, _, _, hx, _, ex, _⟩ := R.pa
      exact ⟨x, hx, by rw [F3 34 (by omega), x4, f1 34 (by omega) (by omega)]; exact ex⟩
    · rw [F3 76 (by omega)]; exact x2
    · obtain ⟨_, x, _, _, hx, _, ex, _⟩ := R.ke
      exact ⟨x, hx, by rw [F3 76 (by omega), x5, f1 76 (by omega) (by omega)]; exact ex⟩
    · rw [F3 88 (by omega)]; exact x3
