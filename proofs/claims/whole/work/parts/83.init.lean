/-! the class's constructor behind its making: the first text's letters, laid -/
def fm_sx (L D : Nat) : fv_Sh := fx_xc L D :: fm_tl
theorem fm_sx_sw (L D L2 D2 : Nat) : fx_sw (fm_sx L D) L2 D2 = fm_sx L2 D2 := rfl
theorem fm_sx_F1 (L D : Nat) : fx_atF (fm_sx L D) 34 8 := by
  refine ⟨rfl, rfl, fun j hj => ?_⟩
  rcases (by omega : j = 0 ∨ j = 1 ∨ j = 2 ∨ j = 3 ∨ j = 4 ∨ j = 5 ∨ j = 6 ∨ j = 7) with rfl | rfl | rfl | rfl | rfl | rfl | rfl | rfl
  · exact ⟨rfl, rfl, rfl, rfl, rfl⟩
  · exact ⟨rfl, rfl, rfl, rfl, rfl⟩
  · exact ⟨rfl, rfl, rfl, rfl, rfl⟩
  · exact ⟨rfl, rfl, rfl, rfl, rfl⟩
  · exact ⟨rfl, rfl, rfl, rfl, rfl⟩
  · exact ⟨rfl, rfl, rfl, rfl, rfl⟩
  · exact ⟨rfl, rfl, rfl, rfl, rfl⟩
  · exact ⟨rfl, rfl, rfl, rfl, rfl⟩
theorem fm_sx_F2 (L D : Nat) : fx_atF (fm_sx L D) 76 2 := by
  refine ⟨rfl, rfl, fun j hj => ?_⟩
  rcases (by omega : j = 0 ∨ j = 1) with rfl | rfl
  · exact ⟨rfl, rfl, rfl, rfl, rfl⟩
  · exact ⟨rfl, rfl, rfl, rfl, rfl⟩
theorem fm_sx_L1 (L D : Nat) : fx_atL (fm_sx L D) 4 := ⟨rfl, rfl, rfl, rfl, rfl, rfl, rfl, rfl, rfl, rfl⟩
theorem fm_sx_L2 (L D : Nat) : fx_atL (fm_sx L D) 14 := ⟨rfl, rfl, rfl, rfl, rfl, rfl, rfl, rfl, rfl, rfl⟩
theorem fm_sx_T (L D : Nat) : fx_atT (fm_sx L D) 1 := ⟨rfl, rfl, rfl⟩
theorem fm_sx_S1 (L D : Nat) : fx_atS (fm_sx L D) 24 := ⟨rfl, rfl, rfl, rfl, rfl⟩
theorem fm_sx_S2 (L D : Nat) : fx_atS (fm_sx L D) 29 := ⟨rfl, rfl, rfl, rfl, rfl⟩
theorem fm_sx_H (L D : Nat) : fx_atH (fm_sx L D) 88 := ⟨rfl, rfl, rfl, rfl⟩
theorem fm_sx_X {L D : Nat} (h : fx_LD L D) : fx_atX (fm_sx L D) L D := by
  rcases h with ⟨rfl, rfl⟩ | ⟨rfl, rfl⟩
  · exact ⟨rfl, fm_sx_T _ _, fm_sx_L1 _ _, fm_sx_L2 _ _, fm_sx_S1 _ _, fm_sx_S2 _ _, fm_sx_F1 _ _, fm_sx_F2 _ _, fm_sx_H _ _, by decide, by decide⟩
  · exact ⟨rfl, fm_sx_T _ _, fm_sx_L2 _ _, fm_sx_L1 _ _, fm_sx_S1 _ _, fm_sx_S2 _ _, fm_sx_F1 _ _, fm_sx_F2 _ _, fm_sx_H _ _, by decide, by decide⟩
def fm_I (M : fv_M) (i : Nat) : Prop := M 1 2 = nI i ∧ (∀ k, k < i → M 2 k = nI (fm_tx k)) ∧ ∀ j, j ≠ 1 → j ≠ 2 → M j = fun _ => 0
theorem fm_append {M : fv_M} {i : Nat} (h : fm_I M i) (hi : i < 113) : ∃ M', g_T_append M 1 (nI (fm_tx i)) = some (1, M') ∧ fm_I M' (i + 1) := by
  obtain ⟨h1, h2, h3⟩ := h
  have hc := fm_tx_le hi
  refine ⟨fv_set (fv_set M (1 + 1) i (nI (fm_tx i))) 1 2 (nI (i + 1)), ?_, ?_, fun k hk => ?_, fun j j1 j2 => ?_⟩
  · unfold g_T_append
    rw [h1, if_neg (nI_pos (by omega)), if_pos (show nI i < (200 : Int32) from nI_lt (a := i) (b := 200) (by omega) (by omega)), fa_cki (by omega) (by omega), nI_clamp (by omega), fa_chr hc, fv_set_ne _ _ _ _ 1 (by omega), h1, nI_1]
  · rw [fv_set_at, fa_upd_same]
  · rw [fv_set_ne _ _ _ _ 2 (by omega), show (2 : Nat) = 1 + 1 from rfl, fv_set_at]
    by_cases e : k = i
    · rw [e, fa_upd_same]
    · rw [fa_upd_ne _ _ e]; exact h2 k (by omega)
  · rw [fv_set_ne _ _ _ _ j j1, fv_set_ne _ _ _ _ j j2]
    exact h3 j j1 j2
theorem fm_letters {X : fv_X} {k : Nat × Nat} {L D : Nat} (hLD : fx_LD L D) : ∀ (d i : Nat) (M : fv_M), i + d = 113 → fm_I M i → ∃ M', fm_I M' 113 ∧ ∀ r, fv_Rn X 50 132 [some (.ref 0), some (.int (nI 113))] [] k (fm_sx L D) M' r → fv_Rn X 50 103 [some (.ref 0), some (.int (nI i))] [] k (fm_sx L D) M r := by
  have hX := fm_sx_X hLD
  intro d
  induction d with
  | zero =>
    intro i M hi h
    have : i = 113 := by omega
    subst this
    refine ⟨M, h, fun r K => ?_⟩
    refine fx_iload rfl rfl ?_
    refine fm_ldc rfl rfl ?_
    refine fm_slen rfl rfl (Nat.le_of_ble_eq_true rfl) ?_
    refine fx_icge_j rfl rfl (show nI 113 ≤ nI 113 from Int32.le_refl _) ?_
    exact K
  | succ d ih =>
    intro i M hi h
    obtain ⟨M1, e1, h1⟩ := fm_append h (by omega)
    obtain ⟨M2, h2, K2⟩ := ih (i + 1) M1 (by omega) h1
    refine ⟨M2, h2, fun r K => ?_⟩
    refine fx_iload rfl rfl ?_
    refine fm_ldc rfl rfl ?_
    refine fm_slen rfl rfl (Nat.le_of_ble_eq_true rfl) ?_
    refine fx_icge_s rfl (show ¬ nI 113 ≤ nI i from nI_ge (by omega) (by omega)) ?_
    refine fx_aload rfl rfl ?_
    refine fx_getV rfl hX.1 rfl rfl ?_
    refine fm_ldc rfl rfl ?_
    refine fx_iload rfl rfl ?_
    refine fm_sat rfl rfl (Nat.le_of_ble_eq_true rfl) (show ¬ (nI i < 0 ∨ 113 ≤ (nI i).toNatClampNeg) from nI_in (by omega) (by omega)) ?_
    rw [show Int32.ofNat (fv_TXT.getD (nI i).toNatClampNeg 0) = nI (fm_tx i) from by rw [nI_clamp (by omega)]; rfl]
    refine fx_call [.ref 1, .int (nI (fm_tx i))] [] rfl (by decide) rfl rfl rfl rfl rfl (Nat.le_of_ble_eq_true rfl) (fx_rcv hX.2.1.1 rfl) (v_T_append hX.2.1 e1) ?_
    refine fx_pop rfl rfl ?_
    refine fx_iinc (ls2 := [some (.ref 0), some (.int (nI (i + 1)))]) rfl (show Int32.ofInt 1 = (1 : Int32) by decide) rfl (by rw [nI_1]; rfl) ?_
    refine fx_back (ls2 := [some (.ref 0), some (.int (nI (i + 1)))]) rfl rfl rfl ?_
    exact K2 r K
set_option maxRecDepth 100000 in
theorem fm_Xi (X : fv_X) : ∃ M', fv_Rn X 50 0 [some (.ref 0)] [] (121, 1304) [.inr (5, fv_sl0 5)] fm_Z (none, fm_sx 14 4, M') ∧ fa_lc M' 14 fm_l21 ∧ fa_ls M' 14 fm_l21 ∧ fa_c M' 24 (fa_row0 fm_l21) ∧ M' 1 2 = 0 ∧ M' 34 1 = 0 ∧ M' 34 2 = 0 ∧ M' 76 1 = 0 ∧ M' 76 2 = 0 ∧ M' 88 3 = 0 ∧ ∀ j, 92 ≤ j → M' j = fun _ => 0 := by
  have hLD : fx_LD 4 14 := Or.inl ⟨rfl, rfl⟩
  have hX := fm_sx_X hLD
  have hX2 := fm_sx_X (L := 14) (D := 4) (Or.inr ⟨rfl, rfl⟩)
  obtain ⟨M1, I1, K1⟩ := fm_letters (X := X) (k := (0, 0)) hLD 113 0 fm_Z (by omega) ⟨rfl, fun k hk => absurd hk (Nat.not_lt_zero k), fun _ _ _ => rfl⟩
  have T : fa_tc M1 113 fm_tx := ⟨by omega, I1.1, I1.2.1, fun i hi => fm_tx_le hi⟩
  obtain ⟨M2, f2, c2, e2⟩ := fa_readInto (D := 14) (by omega) T
  rw [fm_run] at c2 e2
  have c2 : fa_lc M2 14 fm_l21 := c2 rfl
  obtain ⟨M3, e3, c3, s3, st3, x1, x2, x3, x4, x5, f3⟩ := fa_xset (L := 4) (D := 14) fm_l_wl (by rw [fm_l_nv]; omega) (by rw [fm_l_nt]; omega) (by omega) c2
  have es : g_X_settle M1 4 14 = some (1, M3, 14, 4) := by
    unfold g_X_settle
    rw [e2, Option.bind_some, if_pos (show fa_rI none = (-4 : Int32) from rfl), fa_snd, c2.nv, c2.nt, if_neg (nI_ne0 (by rw [fm_l_nv]; omega) (by rw [fm_l_nv]; omega)), if_neg (nI_ne0 (by rw [fm_l_nt]; omega) (by rw [fm_l_nt]; omega)), e3]
  have fZ : ∀ j, j ≠ 1 → fv_set M3 1 2 (0 : Int32) j = M3 j := fun j hj => fv_set_ne _ _ _ _ j hj
  refine ⟨fv_set M3 1 2 (0 : Int32), fm_X ?_, c3.go (fun j q1 q2 _ => fZ j (by omega)), fun t ht => by rw [fZ (14 + 5) (by omega)]; exact s3 t ht, st3.go (fun j q1 q2 => fZ j (by omega)), by rw [fv_set_at, fa_upd_same], by rw [fZ 34 (by omega)]; exact x1, by rw [fZ 34 (by omega), x4, f2 34 (by omega) (by omega), I1.2.2 34 (by omega) (by omega)], by rw [fZ 76 (by omega)]; exact x2, by rw [fZ 76 (by omega), x5, f2 76 (by omega) (by omega), I1.2.2 76 (by omega) (by omega)], by rw [fZ 88 (by omega)]; exact x3, fun j hj => by rw [fZ j (by omega), f3 j (by omega) (by omega) (by omega) (by omega) (by omega), f2 j (by omega) (by omega), I1.2.2 j (by omega) (by omega)]⟩
  refine fx_const rfl (show Int32.ofInt 0 = (0 : Int32) by decide) ?_
  refine fx_istore rfl rfl ?_
  refine K1 _ ?_
  refine fx_aload rfl rfl ?_
  refine fx_call [.ref 0] [] rfl (by decide) rfl rfl rfl rfl rfl (Nat.le_of_ble_eq_true rfl) (fx_rcv hX.1 rfl) (v_X_settle hX es) ?_
  refine fx_pop rfl rfl ?_
  refine fx_aload rfl rfl ?_
  refine fx_getV rfl hX2.1 rfl rfl ?_
  refine fx_const rfl (show Int32.ofInt 0 = (0 : Int32) by decide) ?_
  refine fx_putI rfl hX2.2.1.1 rfl rfl rfl ?_
  exact fx_vret rfl rfl
/-! the reference: its own first land -/
def fm_C (M : fv_M) : fv_M := (fv_set (fv_set (fv_set (fv_set (fv_set (fv_set (fv_set (fv_set (fv_set (fv_set (fv_set (fv_set (fv_set (fv_set M 92 23 (5 : Int32)) (92 + 14) 0 (3 : Int32)) (92 + 14) 1 (6 : Int32)) (92 + 14) 2 (13 : Int32)) (92 + 14) 3 (9 : Int32)) (92 + 14) 4 (4 : Int32)) 92 25 (2 : Int32)) (92 + 15) 0 (7 : Int32)) (92 + 15) 1 (25 : Int32)) (92 + 17) 0 (4 : Int32)) (92 + 17) 2 (2 : Int32)) (92 + 17) 7 (3 : Int32)) (92 + 17) 9 (5 : Int32)) (92 + 17) 6 (1 : Int32))
theorem fm_C92 (M : fv_M) {g : Nat} (h1 : g ≠ 23) (h2 : g ≠ 25) : fm_C M 92 g = M 92 g := by
  unfold fm_C
  simp (disch := decide) only [fv_set_ne]
  rw [fv_set_at, fa_upd_ne _ _ h2]
  simp (disch := decide) only [fv_set_ne]
  rw [fv_set_at, fa_upd_ne _ _ h1]
theorem fm_Cj (M : fv_M) {j : Nat} (h1 : j ≠ 92) (h2 : j ≠ 92 + 14) (h3 : j ≠ 92 + 15) (h4 : j ≠ 92 + 17) : fm_C M j = M j := by
  unfold fm_C
  rw [fv_set_ne _ _ _ _ j h4, fv_set_ne _ _ _ _ j h4, fv_set_ne _ _ _ _ j h4, fv_set_ne _ _ _ _ j h4, fv_set_ne _ _ _ _ j h4, fv_set_ne _ _ _ _ j h3, fv_set_ne _ _ _ _ j h3, fv_set_ne _ _ _ _ j h1, fv_set_ne _ _ _ _ j h2, fv_set_ne _ _ _ _ j h2, fv_set_ne _ _ _ _ j h2, fv_set_ne _ _ _ _ j h2, fv_set_ne _ _ _ _ j h2, fv_set_ne _ _ _ _ j h1]
theorem fm_rows {M : fv_M} (h : fa_rm M fm_l4) : fa_rm (fm_C M) fm_l16 := by
  refine ⟨(fm_C92 M (by decide) (by decide)).trans h.nv, rfl, rfl, (fm_C92 M (by decide) (by decide)).trans h.nw, fun v hv => ?_, fun v hv => ?_, fun v hv => ?_, fun v hv => ?_, fun v hv => absurd (show v < 0 from hv) (Nat.not_lt_zero v), fun v hv => absurd (show v < 0 from hv) (Nat.not_lt_zero v), fun v hv => absurd (show v < 0 from hv) (Nat.not_lt_zero v), fun k hk => ?_⟩
  · rw [fm_Cj M (by decide) (by decide) (by decide) (by decide)]; exact h.kd v hv
  · rw [fm_Cj M (by decide) (by decide) (by decide) (by decide)]; exact h.cr v hv
  · have hv : v < 5 := hv
    rcases (by omega : v = 0 ∨ v = 1 ∨ v = 2 ∨ v = 3 ∨ v = 4) with rfl | rfl | rfl | rfl | rfl <;> rfl
  · have hv : v < 2 := hv
    rcases (by omega : v = 0 ∨ v = 1) with rfl | rfl <;> rfl
  · rcases (by omega : k = 0 ∨ k = 1 ∨ k = 2 ∨ k = 3 ∨ k = 4 ∨ k = 5 ∨ k = 6 ∨ k = 7 ∨ k = 8 ∨ k = 9 ∨ k = 10 ∨ k = 11 ∨ k = 12 ∨ k = 13 ∨ k = 14 ∨ k = 15 ∨ k = 16 ∨ k = 17 ∨ k = 18 ∨ k = 19 ∨ k = 20 ∨ k = 21 ∨ k = 22 ∨ k = 23 ∨ k = 24 ∨ k = 25 ∨ k = 26 ∨ k = 27 ∨ k = 28 ∨ k = 29 ∨ k = 30 ∨ k = 31 ∨ k = 32 ∨ k = 33 ∨ k = 34 ∨ k = 35 ∨ k = 36 ∨ k = 37 ∨ k = 38 ∨ k = 39 ∨ k = 40 ∨ k = 41 ∨ k = 42 ∨ k = 43 ∨ k = 44) with rfl | rfl | rfl | rfl | rfl | rfl | rfl | rfl | rfl | rfl | rfl | rfl | rfl | rfl | rfl | rfl | rfl | rfl | rfl | rfl | rfl | rfl | rfl | rfl | rfl | rfl | rfl | rfl | rfl | rfl | rfl | rfl | rfl | rfl | rfl | rfl | rfl | rfl | rfl | rfl | rfl | rfl | rfl | rfl | rfl
    · exact rfl
    · exact h.rd 1 (by decide)
    · exact rfl
    · exact h.rd 3 (by decide)
    · exact h.rd 4 (by decide)
    · exact h.rd 5 (by decide)
    · exact rfl
    · exact rfl
    · exact h.rd 8 (by decide)
    · exact rfl
    · exact h.rd 10 (by decide)
    · exact h.rd 11 (by decide)
    · exact h.rd 12 (by decide)
    · exact h.rd 13 (by decide)
    · exact h.rd 14 (by decide)
    · exact h.rd 15 (by decide)
    · exact h.rd 16 (by decide)
    · exact h.rd 17 (by decide)
    · exact h.rd 18 (by decide)
    · exact h.rd 19 (by decide)
    · exact h.rd 20 (by decide)
    · exact h.rd 21 (by decide)
    · exact h.rd 22 (by decide)
    · exact h.rd 23 (by decide)
    · exact h.rd 24 (by decide)
    · exact h.rd 25 (by decide)
    · exact h.rd 26 (by decide)
    · exact h.rd 27 (by decide)
    · exact h.rd 28 (by decide)
    · exact h.rd 29 (by decide)
    · exact h.rd 30 (by decide)
    · exact h.rd 31 (by decide)
    · exact h.rd 32 (by decide)
    · exact h.rd 33 (by decide)
    · exact h.rd 34 (by decide)
    · exact h.rd 35 (by decide)
    · exact h.rd 36 (by decide)
    · exact h.rd 37 (by decide)
    · exact h.rd 38 (by decide)
    · exact h.rd 39 (by decide)
    · exact h.rd 40 (by decide)
    · exact h.rd 41 (by decide)
    · exact h.rd 42 (by decide)
    · exact h.rd 43 (by decide)
    · exact h.rd 44 (by decide)
set_option maxRecDepth 100000 in
theorem fm_Mi (X : fv_X) {A : fv_Sh} {M : fv_M} (hn : A.length = 92) (hb : A.all (fv_belC 92) = true) (hM : ∀ j, 92 ≤ j → M j = fun _ => 0) : ∃ M', fv_Rn X 105 0 [some (.ref 92)] [] (18, 951) (A ++ [.inr (6, fv_sl0 6)]) M (none, A ++ fm_ml, M') ∧ fa_lm M' fm_l21 ∧ fa_m M' (92 + 6) (fa_row0 fm_l21) ∧ M' 92 11 = 0 ∧ M' 92 13 = 0 ∧ M' 92 15 = 0 ∧ M' 92 18 = 0 ∧ ∀ j, j < 92 → M' j = M j := by
  have hm : fx_atM (A ++ fm_ml) 92 := ⟨fm_get hn (by decide) rfl, fm_get hn (by decide) rfl, fm_get hn (by decide) rfl, fm_get hn (by decide) rfl, fm_get hn (by decide) rfl, fm_get hn (by decide) rfl, fm_get hn (by decide) rfl, fm_get hn (by decide) rfl, fm_get hn (by decide) rfl, fm_get hn (by decide) rfl, fm_get hn (by decide) rfl, fm_get hn (by decide) rfl, fm_get hn (by decide) rfl, fm_get hn (by decide) rfl, fm_get hn (by decide) rfl, fm_get hn (by decide) rfl, fm_get hn (by decide) rfl, fm_get hn (by decide) rfl, fm_get hn (by decide) rfl⟩
  obtain ⟨M1, e1, r1, g1, f1⟩ := fa_clearTold (M := M)
  obtain ⟨M2, e2, r2, f2, g2⟩ := fa_tV (a := 0) (b := 2) (show fa_rm M1 fm_l0 from r1) (by decide)
  obtain ⟨M3, e3, r3, f3, g3⟩ := fa_tV (a := 1) (b := 0) (show fa_rm M2 fm_l1 from r2) (by decide)
  obtain ⟨M4, e4, r4, f4, g4⟩ := fa_tV (a := 2) (b := 3) (show fa_rm M3 fm_l2 from r3) (by decide)
  obtain ⟨M5, e5, r5, f5, g5⟩ := fa_tV (a := 3) (b := 1) (show fa_rm M4 fm_l3 from r4) (by decide)
  have r6 := fm_rows (show fa_rm M5 fm_l4 from r5)
  obtain ⟨M7, e6, r7, f7, g7⟩ := fa_tW (a := 0) (b := 0) (d := 4) (show fa_rm (fm_C M5) fm_l16 from r6) (by decide)
  obtain ⟨M8, e7, r8, f8, g8⟩ := fa_tW (a := 0) (b := 2) (d := 6) (show fa_rm M7 fm_l17 from r7) (by decide)
  obtain ⟨M9, e8, r9, f9, g9⟩ := fa_tW (a := 1) (b := 3) (d := 5) (show fa_rm M8 fm_l18 from r8) (by decide)
  obtain ⟨M10, e9, r10, f10, g10⟩ := fa_tW (a := 0) (b := 1) (d := 2) (show fa_rm M9 fm_l19 from r9) (by decide)
  obtain ⟨M11, e10, r11, f11, g11⟩ := fa_tW (a := 1) (b := 0) (d := 7) (show fa_rm M10 fm_l20 from r10) (by decide)
  obtain ⟨M12, e11, m12, s12, a12, b12, d12, g12, f12⟩ := fa_settles fm_l_wl (show fa_rm M11 fm_l21 from r11)
  refine ⟨M12, fm_M hn hb hM ?_, m12, s12, a12, b12, d12, ?_, fun j hj => ?_⟩
  rotate_left
  · rw [g12 18 (by omega), g11 18 (by omega), g10 18 (by omega), g9 18 (by omega), g8 18 (by omega), g7 18 (by omega), fm_C92 M5 (by decide) (by decide), g5 18 (by omega), g4 18 (by omega), g3 18 (by omega), g2 18 (by omega), g1 18 (by omega) (by omega) (by omega) (by omega), hM 92 (by omega)]
  · rw [f12 j (by omega), f11 j (by omega) (by omega), f10 j (by omega) (by omega), f9 j (by omega) (by omega), f8 j (by omega) (by omega), f7 j (by omega) (by omega), fm_Cj M5 (by omega) (by omega) (by omega) (by omega), f5 j (by omega) (by omega), f4 j (by omega) (by omega), f3 j (by omega) (by omega), f2 j (by omega) (by omega), f1 j (by omega) (by omega)]
  refine fx_aload rfl rfl ?_
  refine fx_call [.ref 92] [] rfl (by decide) rfl rfl rfl rfl rfl (Nat.le_of_ble_eq_true rfl) (fx_rcv hm.1 rfl) (v_M_clearTold hm e1) ?_
  refine fx_aload rfl rfl ?_
  refine fx_const rfl (show Int32.ofInt 0 = (0 : Int32) by decide) ?_
  refine fx_const rfl (show Int32.ofInt 2 = (2 : Int32) by decide) ?_
  refine fx_call [.ref 92, .int (0 : Int32), .int (2 : Int32)] [] rfl (by decide) rfl rfl rfl rfl rfl (Nat.le_of_ble_eq_true rfl) (fx_rcv hm.1 rfl) (v_M_tellsVerb hm e2) ?_
  refine fx_aload rfl rfl ?_
  refine fx_const rfl (show Int32.ofInt 1 = (1 : Int32) by decide) ?_
  refine fx_const rfl (show Int32.ofInt 0 = (0 : Int32) by decide) ?_
  refine fx_call [.ref 92, .int (1 : Int32), .int (0 : Int32)] [] rfl (by decide) rfl rfl rfl rfl rfl (Nat.le_of_ble_eq_true rfl) (fx_rcv hm.1 rfl) (v_M_tellsVerb hm e3) ?_
  refine fx_aload rfl rfl ?_
  refine fx_const rfl (show Int32.ofInt 2 = (2 : Int32) by decide) ?_
  refine fx_const rfl (show Int32.ofInt 3 = (3 : Int32) by decide) ?_
  refine fx_call [.ref 92, .int (2 : Int32), .int (3 : Int32)] [] rfl (by decide) rfl rfl rfl rfl rfl (Nat.le_of_ble_eq_true rfl) (fx_rcv hm.1 rfl) (v_M_tellsVerb hm e4) ?_
  refine fx_aload rfl rfl ?_
  refine fx_const rfl (show Int32.ofInt 3 = (3 : Int32) by decide) ?_
  refine fx_const rfl (show Int32.ofInt 1 = (1 : Int32) by decide) ?_
  refine fx_call [.ref 92, .int (3 : Int32), .int (1 : Int32)] [] rfl (by decide) rfl rfl rfl rfl rfl (Nat.le_of_ble_eq_true rfl) (fx_rcv hm.1 rfl) (v_M_tellsVerb hm e5) ?_
  refine fx_aload rfl rfl ?_
  refine fx_const rfl (show Int32.ofInt 5 = (5 : Int32) by decide) ?_
  refine fx_putI rfl hm.1 rfl rfl rfl ?_
  refine fx_aload rfl rfl ?_
  refine fx_getV rfl hm.1 rfl rfl ?_
  refine fx_const rfl (show Int32.ofInt 0 = (0 : Int32) by decide) ?_
  refine fx_const rfl (show Int32.ofInt 3 = (3 : Int32) by decide) ?_
  refine fx_iastore rfl (fm_get hn (by decide) rfl : (A ++ fm_ml)[92 + 14]? = some (.inl (0, 8))) (by decide) ?_
  refine fx_aload rfl rfl ?_
  refine fx_getV rfl hm.1 rfl rfl ?_
  refine fx_const rfl (show Int32.ofInt 1 = (1 : Int32) by decide) ?_
  refine fx_const rfl (show Int32.ofInt 6 = (6 : Int32) by decide) ?_
  refine fx_iastore rfl (fm_get hn (by decide) rfl : (A ++ fm_ml)[92 + 14]? = some (.inl (0, 8))) (by decide) ?_
  refine fx_aload rfl rfl ?_
  refine fx_getV rfl hm.1 rfl rfl ?_
  refine fx_const rfl (show Int32.ofInt 2 = (2 : Int32) by decide) ?_
  refine fx_const rfl (show Int32.ofInt 13 = (13 : Int32) by decide) ?_
  refine fx_iastore rfl (fm_get hn (by decide) rfl : (A ++ fm_ml)[92 + 14]? = some (.inl (0, 8))) (by decide) ?_
  refine fx_aload rfl rfl ?_
  refine fx_getV rfl hm.1 rfl rfl ?_
  refine fx_const rfl (show Int32.ofInt 3 = (3 : Int32) by decide) ?_
  refine fx_const rfl (show Int32.ofInt 9 = (9 : Int32) by decide) ?_
  refine fx_iastore rfl (fm_get hn (by decide) rfl : (A ++ fm_ml)[92 + 14]? = some (.inl (0, 8))) (by decide) ?_
  refine fx_aload rfl rfl ?_
  refine fx_getV rfl hm.1 rfl rfl ?_
  refine fx_const rfl (show Int32.ofInt 4 = (4 : Int32) by decide) ?_
  refine fx_const rfl (show Int32.ofInt 4 = (4 : Int32) by decide) ?_
  refine fx_iastore rfl (fm_get hn (by decide) rfl : (A ++ fm_ml)[92 + 14]? = some (.inl (0, 8))) (by decide) ?_
  refine fx_aload rfl rfl ?_
  refine fx_const rfl (show Int32.ofInt 2 = (2 : Int32) by decide) ?_
  refine fx_putI rfl hm.1 rfl rfl rfl ?_
  refine fx_aload rfl rfl ?_
  refine fx_getV rfl hm.1 rfl rfl ?_
  refine fx_const rfl (show Int32.ofInt 0 = (0 : Int32) by decide) ?_
  refine fx_const rfl (show Int32.ofInt 7 = (7 : Int32) by decide) ?_
  refine fx_iastore rfl (fm_get hn (by decide) rfl : (A ++ fm_ml)[92 + 15]? = some (.inl (0, 4))) (by decide) ?_
  refine fx_aload rfl rfl ?_
  refine fx_getV rfl hm.1 rfl rfl ?_
  refine fx_const rfl (show Int32.ofInt 1 = (1 : Int32) by decide) ?_
  refine fx_const rfl (show Int32.ofInt 25 = (25 : Int32) by decide) ?_
  refine fx_iastore rfl (fm_get hn (by decide) rfl : (A ++ fm_ml)[92 + 15]? = some (.inl (0, 4))) (by decide) ?_
  refine fx_aload rfl rfl ?_
  refine fx_getV rfl hm.1 rfl rfl ?_
  refine fx_const rfl (show Int32.ofInt 0 = (0 : Int32) by decide) ?_
  refine fx_const rfl (show Int32.ofInt 4 = (4 : Int32) by decide) ?_
  refine fx_iastore rfl (fm_get hn (by decide) rfl : (A ++ fm_ml)[92 + 17]? = some (.inl (0, 45))) (by decide) ?_
  refine fx_aload rfl rfl ?_
  refine fx_getV rfl hm.1 rfl rfl ?_
  refine fx_const rfl (show Int32.ofInt 2 = (2 : Int32) by decide) ?_
  refine fx_const rfl (show Int32.ofInt 2 = (2 : Int32) by decide) ?_
  refine fx_iastore rfl (fm_get hn (by decide) rfl : (A ++ fm_ml)[92 + 17]? = some (.inl (0, 45))) (by decide) ?_
  refine fx_aload rfl rfl ?_
  refine fx_getV rfl hm.1 rfl rfl ?_
  refine fx_const rfl (show Int32.ofInt 7 = (7 : Int32) by decide) ?_
  refine fx_const rfl (show Int32.ofInt 3 = (3 : Int32) by decide) ?_
  refine fx_iastore rfl (fm_get hn (by decide) rfl : (A ++ fm_ml)[92 + 17]? = some (.inl (0, 45))) (by decide) ?_
  refine fx_aload rfl rfl ?_
  refine fx_getV rfl hm.1 rfl rfl ?_
  refine fx_const rfl (show Int32.ofInt 9 = (9 : Int32) by decide) ?_
  refine fx_const rfl (show Int32.ofInt 5 = (5 : Int32) by decide) ?_
  refine fx_iastore rfl (fm_get hn (by decide) rfl : (A ++ fm_ml)[92 + 17]? = some (.inl (0, 45))) (by decide) ?_
  refine fx_aload rfl rfl ?_
  refine fx_getV rfl hm.1 rfl rfl ?_
  refine fx_const rfl (show Int32.ofInt 6 = (6 : Int32) by decide) ?_
  refine fx_const rfl (show Int32.ofInt 1 = (1 : Int32) by decide) ?_
  refine fx_iastore rfl (fm_get hn (by decide) rfl : (A ++ fm_ml)[92 + 17]? = some (.inl (0, 45))) (by decide) ?_
  refine fx_aload rfl rfl ?_
  refine fx_const rfl (show Int32.ofInt 0 = (0 : Int32) by decide) ?_
  refine fx_const rfl (show Int32.ofInt 0 = (0 : Int32) by decide) ?_
  refine fx_const rfl (show Int32.ofInt 4 = (4 : Int32) by decide) ?_
  refine fx_call [.ref 92, .int (0 : Int32), .int (0 : Int32), .int (4 : Int32)] [] rfl (by decide) rfl rfl rfl rfl rfl (Nat.le_of_ble_eq_true rfl) (fx_rcv hm.1 rfl) (v_M_tellsWork hm e6) ?_
  refine fx_aload rfl rfl ?_
  refine fx_const rfl (show Int32.ofInt 0 = (0 : Int32) by decide) ?_
  refine fx_const rfl (show Int32.ofInt 2 = (2 : Int32) by decide) ?_
  refine fx_const rfl (show Int32.ofInt 6 = (6 : Int32) by decide) ?_
  refine fx_call [.ref 92, .int (0 : Int32), .int (2 : Int32), .int (6 : Int32)] [] rfl (by decide) rfl rfl rfl rfl rfl (Nat.le_of_ble_eq_true rfl) (fx_rcv hm.1 rfl) (v_M_tellsWork hm e7) ?_
  refine fx_aload rfl rfl ?_
  refine fx_const rfl (show Int32.ofInt 1 = (1 : Int32) by decide) ?_
  refine fx_const rfl (show Int32.ofInt 3 = (3 : Int32) by decide) ?_
  refine fx_const rfl (show Int32.ofInt 5 = (5 : Int32) by decide) ?_
  refine fx_call [.ref 92, .int (1 : Int32), .int (3 : Int32), .int (5 : Int32)] [] rfl (by decide) rfl rfl rfl rfl rfl (Nat.le_of_ble_eq_true rfl) (fx_rcv hm.1 rfl) (v_M_tellsWork hm e8) ?_
  refine fx_aload rfl rfl ?_
  refine fx_const rfl (show Int32.ofInt 0 = (0 : Int32) by decide) ?_
  refine fx_const rfl (show Int32.ofInt 1 = (1 : Int32) by decide) ?_
  refine fx_const rfl (show Int32.ofInt 2 = (2 : Int32) by decide) ?_
  refine fx_call [.ref 92, .int (0 : Int32), .int (1 : Int32), .int (2 : Int32)] [] rfl (by decide) rfl rfl rfl rfl rfl (Nat.le_of_ble_eq_true rfl) (fx_rcv hm.1 rfl) (v_M_tellsWork hm e9) ?_
  refine fx_aload rfl rfl ?_
  refine fx_const rfl (show Int32.ofInt 1 = (1 : Int32) by decide) ?_
  refine fx_const rfl (show Int32.ofInt 0 = (0 : Int32) by decide) ?_
  refine fx_const rfl (show Int32.ofInt 7 = (7 : Int32) by decide) ?_
  refine fx_call [.ref 92, .int (1 : Int32), .int (0 : Int32), .int (7 : Int32)] [] rfl (by decide) rfl rfl rfl rfl rfl (Nat.le_of_ble_eq_true rfl) (fx_rcv hm.1 rfl) (v_M_tellsWork hm e10) ?_
  refine fx_aload rfl rfl ?_
  refine fx_call [.ref 92] [] rfl (by decide) rfl rfl rfl rfl rfl (Nat.le_of_ble_eq_true rfl) (fx_rcv hm.1 rfl) (v_M_settles hm e11) ?_
  exact fx_vret rfl rfl
