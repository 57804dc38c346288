/-! the law from its entry to its end -/
theorem fw_R0 {M1 M2 : fv_M} (c1 : fa_lc M1 14 fm_l21) (s1 : fa_ls M1 14 fm_l21) (st1 : fa_c M1 24 (fa_row0 fm_l21)) (t1 : M1 1 2 = 0) (p1 : M1 34 1 = 0) (p2 : M1 34 2 = 0) (q1 : M1 76 1 = 0) (q2 : M1 76 2 = 0) (h1 : M1 88 3 = 0) (m2 : fa_lm M2 fm_l21) (ms2 : fa_m M2 (92 + 6) (fa_row0 fm_l21)) (a2 : M2 92 11 = 0) (b2 : M2 92 13 = 0) (d2 : M2 92 15 = 0) (t2 : M2 92 18 = 0) (f2 : ∀ j, j < 92 → M2 j = M1 j) : fa_Inv 0 M2 14 4 := by
  refine ⟨fm_l21, fa_row0 fm_l21, fa_laid fm_l_wl (by rw [fm_l_nv]; omega) (by rw [fm_l_nt]; omega) (Or.inr ⟨rfl, rfl⟩) ⟨0, fun _ => 0, by omega, ?_, t2, fun i hi => absurd hi (Nat.not_lt_zero i)⟩ (c1.go (fun j q1 q2 _ => f2 j (by omega))) (fun t ht => ?_) m2 (st1.go (fun j q1 q2 => f2 j (by omega))) ms2 ?_ ⟨0, by omega, ?_⟩ a2 ?_ ⟨0, by omega, ?_⟩ b2 ?_ d2⟩
  · rw [f2 1 (by omega)]; exact t1
  · rw [f2 (14 + 5) (by omega)]; exact s1 t ht
  · rw [f2 34 (by omega)]; exact p1
  · rw [f2 34 (by omega)]; exact p2
  · rw [f2 76 (by omega)]; exact q1
  · rw [f2 76 (by omega)]; exact q2
  · rw [f2 88 (by omega)]; exact h1
set_option maxRecDepth 100000 in
theorem fw_all {X : fv_X} (hX : X.1 ≤ 320) : ∃ sh M, fv_Rn X 168 0 [some (.ref fv_SCR)] [] (600000, 7302250) [] (fun _ _ => 0) (some (.int 1), sh, M) := by
  obtain ⟨M1, K1, c1, s1, st1, t1, p1, p2, q1, q2, h1, z1⟩ := fm_Xi X
  obtain ⟨M2, K2, m2, ms2, a2, b2, d2, t2, f2⟩ := fm_Mi X (A := fm_sx 14 4) (M := M1) rfl rfl z1
  obtain ⟨sh2, M3, K3⟩ := fa_loop (k := (599859, 7299956)) (fun _ _ _ _ _ _ R => fa_p_fault R) (fun _ _ _ _ _ _ R => fa_p_lay R) hX (fw_R0 c1 s1 st1 t1 p1 p2 q1 q2 h1 m2 ms2 a2 b2 d2 t2 f2)
  refine ⟨sh2, M3, ?_⟩
  refine fm_new (p := 0) (a := 599999) (b := 7302242) (sh2 := [.inr (5, fv_sl0 5)]) (M2 := fm_Z) rfl (by decide) rfl (by decide) rfl rfl rfl rfl rfl (fm_nz (M := fm_Z) rfl) ?_
  refine fx_dup rfl rfl ?_
  refine fm_call (sh2 := fm_sx 14 4) (M2 := M1) (v := none) (p := 1) (a := 599878) (b := 7300938) (c := 121) (s := 1304) [.ref 0] [.ref 0] rfl (by decide) rfl rfl rfl rfl rfl rfl (Nat.le_of_ble_eq_true rfl) rfl rfl rfl (by decide) (fx_rcv (c := 0) rfl rfl) K1 ?_
  refine fx_astore rfl rfl ?_
  refine fm_new (p := 92) (a := 599877) (b := 7300907) (sh2 := fm_sx 14 4 ++ [.inr (6, fv_sl0 6)]) (M2 := M1) rfl (by decide) rfl (by decide) rfl rfl rfl rfl rfl (fm_nz (z1 92 (by omega))) ?_
  refine fx_dup rfl rfl ?_
  refine fm_call (sh2 := fm_sx 14 4 ++ fm_ml) (M2 := M2) (v := none) (p := 93) (a := 599859) (b := 7299956) (c := 18) (s := 951) [.ref 92] [.ref 92] rfl (by decide) rfl rfl rfl rfl rfl rfl (Nat.le_of_ble_eq_true rfl) rfl rfl rfl (by decide) (fx_rcv (c := 92) rfl rfl) K2 ?_
  refine fx_astore rfl rfl ?_
  refine fx_const rfl (show Int32.ofInt 0 = (0 : Int32) by decide) ?_
  refine fx_istore rfl rfl ?_
  exact K3
/-- YOUR PART: from the entry, for every script of at most 320 ints, the law comes to its end with true -/
theorem whole_start {p : Program} {e : Env} {s : State} {m : MethodId} {below : List Frame} {meth : Method} {c : Code} (l : Launch) (hflags : l.flags = flags0) {b L : Nat} {xs : Nat → Int32} (hL : L ≤ 320) (C0 : lw_At p s m meth c b L xs) : W p l e room_1 s m #[Value.ref b] below meth c s.heap [] 0 0 (lw_Z below #[Value.ref b] s) (entryFrame m ([Value.ref b] : List Value).toArray 4) := by
  obtain ⟨sh, M, hrun⟩ := fw_all (X := (L, xs)) hL
  exact fw_start l C0 hrun
