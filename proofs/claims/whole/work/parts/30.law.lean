/-! the whole shape, and the law case by case -/
def fx_tail : fv_Sh := [.inr (4, [some (.ref 2), some (.ref 3), none]), .inl (2, 200), .inl (0, 3), .inr (1, [none, none, none, none, some (.ref 5), some (.ref 6), some (.ref 7), some (.ref 8), some (.ref 9), some (.ref 10), some (.ref 11), some (.ref 12), some (.ref 13)]), .inl (0, 6), .inl (0, 6), .inl (0, 8), .inl (0, 4), .inl (0, 4), .inl (0, 24), .inl (0, 8), .inl (0, 8), .inl (0, 8), .inr (1, [none, none, none, none, some (.ref 15), some (.ref 16), some (.ref 17), some (.ref 18), some (.ref 19), some (.ref 20), some (.ref 21), some (.ref 22), some (.ref 23)]), .inl (0, 6), .inl (0, 6), .inl (0, 8), .inl (0, 4), .inl (0, 4), .inl (0, 24), .inl (0, 8), .inl (0, 8), .inl (0, 8), .inr (3, [none, some (.ref 25), some (.ref 26), some (.ref 27), some (.ref 28)]), .inl (0, 24), .inl (0, 4), .inl (0, 8), .inl (0, 8), .inr (3, [none, some (.ref 30), some (.ref 31), some (.ref 32), some (.ref 33)]), .inl (0, 24), .inl (0, 4), .inl (0, 8), .inl (0, 8), .inr (2, [some (.ref 35), none, none]), .inr (103, [some (.ref 36), some (.ref 41), some (.ref 46), some (.ref 51), some (.ref 56), some (.ref 61), some (.ref 66), some (.ref 71)]), .inr (3, [none, some (.ref 37), some (.ref 38), some (.ref 39), some (.ref 40)]), .inl (0, 24), .inl (0, 4), .inl (0, 8), .inl (0, 8), .inr (3, [none, some (.ref 42), some (.ref 43), some (.ref 44), some (.ref 45)]), .inl (0, 24), .inl (0, 4), .inl (0, 8), .inl (0, 8), .inr (3, [none, some (.ref 47), some (.ref 48), some (.ref 49), some (.ref 50)]), .inl (0, 24), .inl (0, 4), .inl (0, 8), .inl (0, 8), .inr (3, [none, some (.ref 52), some (.ref 53), some (.ref 54), some (.ref 55)]), .inl (0, 24), .inl (0, 4), .inl (0, 8), .inl (0, 8), .inr (3, [none, some (.ref 57), some (.ref 58), some (.ref 59), some (.ref 60)]), .inl (0, 24), .inl (0, 4), .inl (0, 8), .inl (0, 8), .inr (3, [none, some (.ref 62), some (.ref 63), some (.ref 64), some (.ref 65)]), .inl (0, 24), .inl (0, 4), .inl (0, 8), .inl (0, 8), .inr (3, [none, some (.ref 67), some (.ref 68), some (.ref 69), some (.ref 70)]), .inl (0, 24), .inl (0, 4), .inl (0, 8), .inl (0, 8), .inr (3, [none, some (.ref 72), some (.ref 73), some (.ref 74), some (.ref 75)]), .inl (0, 24), .inl (0, 4), .inl (0, 8), .inl (0, 8), .inr (2, [some (.ref 77), none, none]), .inr (103, [some (.ref 78), some (.ref 83)]), .inr (3, [none, some (.ref 79), some (.ref 80), some (.ref 81), some (.ref 82)]), .inl (0, 24), .inl (0, 4), .inl (0, 8), .inl (0, 8), .inr (3, [none, some (.ref 84), some (.ref 85), some (.ref 86), some (.ref 87)]), .inl (0, 24), .inl (0, 4), .inl (0, 8), .inl (0, 8), .inr (0, [some (.ref 89), some (.ref 90), some (.ref 91), none]), .inl (0, 6), .inl (0, 6), .inl (1, 6), .inr (6, [none, some (.ref 93), none, some (.ref 94), none, some (.ref 95), none, some (.ref 96), some (.ref 97), some (.ref 98), some (.ref 99), none, some (.ref 100), none, some (.ref 101), none, some (.ref 102), some (.ref 103), none, none, some (.ref 104), none, some (.ref 105), none, some (.ref 106), none, some (.ref 107), none, some (.ref 108), some (.ref 109), some (.ref 110)]), .inl (0, 12), .inl (0, 8), .inl (0, 4), .inl (0, 24), .inl (0, 4), .inl (0, 45), .inl (0, 45), .inl (0, 360), .inl (0, 90), .inl (0, 18), .inl (0, 200), .inl (0, 3), .inl (0, 12), .inl (0, 8), .inl (0, 4), .inl (0, 24), .inl (0, 45), .inl (0, 45)]
def fx_sh (L D : Nat) : fv_Sh := fx_xc L D :: fx_tail
def fx_LD (L D : Nat) : Prop := (L = 4 ∧ D = 14) ∨ (L = 14 ∧ D = 4)
theorem fx_sh_sw (L D L2 D2 : Nat) : fx_sw (fx_sh L D) L2 D2 = fx_sh L2 D2 := rfl
theorem fx_sh_T (L D : Nat) : fx_atT (fx_sh L D) 1 := ⟨rfl, rfl, rfl⟩
theorem fx_sh_L1 (L D : Nat) : fx_atL (fx_sh L D) 4 := ⟨rfl, rfl, rfl, rfl, rfl, rfl, rfl, rfl, rfl, rfl⟩
theorem fx_sh_L2 (L D : Nat) : fx_atL (fx_sh L D) 14 := ⟨rfl, rfl, rfl, rfl, rfl, rfl, rfl, rfl, rfl, rfl⟩
theorem fx_sh_S1 (L D : Nat) : fx_atS (fx_sh L D) 24 := ⟨rfl, rfl, rfl, rfl, rfl⟩
theorem fx_sh_S2 (L D : Nat) : fx_atS (fx_sh L D) 29 := ⟨rfl, rfl, rfl, rfl, rfl⟩
theorem fx_sh_H (L D : Nat) : fx_atH (fx_sh L D) 88 := ⟨rfl, rfl, rfl, rfl⟩
theorem fx_sh_M (L D : Nat) : fx_atM (fx_sh L D) 92 := ⟨rfl, rfl, rfl, rfl, rfl, rfl, rfl, rfl, rfl, rfl, rfl, rfl, rfl, rfl, rfl, rfl, rfl, rfl, rfl⟩
theorem fx_sh_F1 (L D : Nat) : fx_atF (fx_sh L D) 34 8 := by
  refine ⟨rfl, rfl, fun j hj => ?_⟩
  rcases (by omega : j = 0 ∨ j = 1 ∨ j = 2 ∨ j = 3 ∨ j = 4 ∨ j = 5 ∨ j = 6 ∨ j = 7) with rfl | rfl | rfl | rfl | rfl | rfl | rfl | rfl
  · exact ⟨rfl, rfl, rfl, rfl, rfl⟩
  · exact ⟨rfl, rfl, rfl, rfl, rfl⟩
  · exact ⟨rfl, rfl, rfl, rfl, rfl⟩
  · exact ⟨rfl, rfl, rfl, rfl, rfl⟩
  · exact ⟨rfl, rfl, rfl, rfl, rfl⟩
  · exact ⟨rfl, rfl, rfl, rfl, rfl⟩
  · exact ⟨rfl, rfl, rfl, rfl, rfl⟩
  · exact ⟨rfl, rfl, rfl, rfl, rfl⟩
theorem fx_sh_F2 (L D : Nat) : fx_atF (fx_sh L D) 76 2 := by
  refine ⟨rfl, rfl, fun j hj => ?_⟩
  rcases (by omega : j = 0 ∨ j = 1) with rfl | rfl
  · exact ⟨rfl, rfl, rfl, rfl, rfl⟩
  · exact ⟨rfl, rfl, rfl, rfl, rfl⟩
theorem fx_sh_X {L D : Nat} (h : fx_LD L D) : fx_atX (fx_sh L D) L D := by
  rcases h with ⟨rfl, rfl⟩ | ⟨rfl, rfl⟩
  · exact ⟨rfl, fx_sh_T _ _, fx_sh_L1 _ _, fx_sh_L2 _ _, fx_sh_S1 _ _, fx_sh_S2 _ _, fx_sh_F1 _ _, fx_sh_F2 _ _, fx_sh_H _ _, by decide, by decide⟩
  · exact ⟨rfl, fx_sh_T _ _, fx_sh_L2 _ _, fx_sh_L1 _ _, fx_sh_S1 _ _, fx_sh_S2 _ _, fx_sh_F1 _ _, fx_sh_F2 _ _, fx_sh_H _ _, by decide, by decide⟩
theorem fx_sld {X : fv_X} {y pc np : Nat} {ls : fv_Sl} {st : List Value} {k : Nat × Nat} {sh : fv_Sh} {M : fv_M} {r : fv_R} {j : Int32} (hl : fv_lk y pc = some (.iaload, np)) (hy : y = fv_LAW) (h : ¬ (j < 0 ∨ X.1 ≤ j.toNatClampNeg)) (K : fv_Rn X y np ls (.int (X.2 j.toNatClampNeg) :: st) k sh M r) : fv_Rn X y pc ls (.int j :: .ref fv_SCR :: st) k sh M r := fv_s (by unfold fv_nx; rw [hl]; dsimp only; rw [if_pos ⟨hy, rfl⟩, if_pos h]) K
theorem fx_slen {X : fv_X} {y pc np : Nat} {ls : fv_Sl} {st : List Value} {k : Nat × Nat} {sh : fv_Sh} {M : fv_M} {r : fv_R} (hl : fv_lk y pc = some (.arraylength, np)) (hy : y = fv_LAW) (K : fv_Rn X y np ls (.int (Int32.ofNat X.1) :: st) k sh M r) : fv_Rn X y pc ls (.ref fv_SCR :: st) k sh M r := fv_s (by unfold fv_nx; rw [hl]; dsimp only; rw [if_pos ⟨hy, rfl⟩]) K
set_option maxRecDepth 100000 in
theorem v_law_0 {X : fv_X} {sh : fv_Sh} {k : Nat × Nat} {M M1 M2 : fv_M} {L D : Nat} {i r : Int32} {R : fv_R} (hx : fx_atX sh L D) (hm : fx_atM sh 92) (b1 : ¬ (i + (1 : Int32) < 0 ∨ X.1 ≤ (i + (1 : Int32)).toNatClampNeg)) (h1 : g_X_write M L D (X.2 (i + (1 : Int32)).toNatClampNeg) = some (r, M1)) (h2 : g_M_write M1 92 (X.2 (i + (1 : Int32)).toNatClampNeg) = some (r, M2)) (K : fv_Rn X 168 18 [some (.ref fv_SCR), some (.ref 0), some (.ref 92), some (.int (i + (5 : Int32)))] [] k sh M2 R) : fv_Rn X 168 168 [some (.ref fv_SCR), some (.ref 0), some (.ref 92), some (.int i)] [] k sh M R := by
  refine fx_aload rfl rfl ?_
  refine fx_aload rfl rfl ?_
  refine fx_iload rfl rfl ?_
  refine fx_const rfl (show Int32.ofInt 1 = (1 : Int32) by decide) ?_
  refine fx_iadd rfl ?_
  refine fx_sld rfl rfl b1 ?_
  refine fx_call [.ref 0, .int (X.2 (i + (1 : Int32)).toNatClampNeg)] [] rfl (by decide) rfl rfl rfl rfl rfl (Nat.le_of_ble_eq_true rfl) (fx_rcv hx.1 rfl) (v_X_write hx h1) ?_
  refine fx_aload rfl rfl ?_
  refine fx_aload rfl rfl ?_
  refine fx_iload rfl rfl ?_
  refine fx_const rfl (show Int32.ofInt 1 = (1 : Int32) by decide) ?_
  refine fx_iadd rfl ?_
  refine fx_sld rfl rfl b1 ?_
  refine fx_call [.ref 92, .int (X.2 (i + (1 : Int32)).toNatClampNeg)] [.int r] rfl (by decide) rfl rfl rfl rfl rfl (Nat.le_of_ble_eq_true rfl) (fx_rcv hm.1 rfl) (v_M_write hm h2) ?_
  refine fx_iceq_j rfl rfl rfl ?_
  refine fx_iinc rfl (show Int32.ofInt 5 = (5 : Int32) by decide) rfl rfl ?_
  refine fx_back rfl rfl rfl ?_
  exact K
set_option maxRecDepth 100000 in
theorem v_law_1 {X : fv_X} {sh : fv_Sh} {k : Nat × Nat} {M M1 M2 : fv_M} {L D : Nat} {i r : Int32} {R : fv_R} (hx : fx_atX sh L D) (hm : fx_atM sh 92)  (h1 : g_X_wipe M L D  = some (r, M1)) (h2 : g_M_wipe M1 92  = some (r, M2)) (K : fv_Rn X 168 18 [some (.ref fv_SCR), some (.ref 0), some (.ref 92), some (.int (i + (5 : Int32)))] [] k sh M2 R) : fv_Rn X 168 191 [some (.ref fv_SCR), some (.ref 0), some (.ref 92), some (.int i)] [] k sh M R := by
  refine fx_aload rfl rfl ?_
  refine fx_call [.ref 0] [] rfl (by decide) rfl rfl rfl rfl rfl (Nat.le_of_ble_eq_true rfl) (fx_rcv hx.1 rfl) (v_X_wipe hx h1) ?_
  refine fx_aload rfl rfl ?_
  refine fx_call [.ref 92] [.int r] rfl (by decide) rfl rfl rfl rfl rfl (Nat.le_of_ble_eq_true rfl) (fx_rcv hm.1 rfl) (v_M_wipe hm h2) ?_
  refine fx_iceq_j rfl rfl rfl ?_
  refine fx_iinc rfl (show Int32.ofInt 5 = (5 : Int32) by decide) rfl rfl ?_
  refine fx_back rfl rfl rfl ?_
  exact K
set_option maxRecDepth 100000 in
theorem v_law_2 {X : fv_X} {sh : fv_Sh} {k : Nat × Nat} {M M1 M2 : fv_M} {L D : Nat} {i r : Int32} {R : fv_R} (hx : fx_atX sh L D) (hm : fx_atM sh 92)  (h1 : g_X_fault M L D  = some (r, M1)) (h2 : g_M_fault M1 92  = some (r, M2)) (K : fv_Rn X 168 18 [some (.ref fv_SCR), some (.ref 0), some (.ref 92), some (.int (i + (5 : Int32)))] [] k sh M2 R) : fv_Rn X 168 204 [some (.ref fv_SCR), some (.ref 0), some (.ref 92), some (.int i)] [] k sh M R := by
  refine fx_aload rfl rfl ?_
  refine fx_call [.ref 0] [] rfl (by decide) rfl rfl rfl rfl rfl (Nat.le_of_ble_eq_true rfl) (fx_rcv hx.1 rfl) (v_X_fault hx h1) ?_
  refine fx_aload rfl rfl ?_
  refine fx_call [.ref 92] [.int r] rfl (by decide) rfl rfl rfl rfl rfl (Nat.le_of_ble_eq_true rfl) (fx_rcv hm.1 rfl) (v_M_fault hm h2) ?_
  refine fx_iceq_j rfl rfl rfl ?_
  refine fx_iinc rfl (show Int32.ofInt 5 = (5 : Int32) by decide) rfl rfl ?_
  refine fx_back rfl rfl rfl ?_
  exact K
set_option maxRecDepth 100000 in
theorem v_law_3 {X : fv_X} {sh : fv_Sh} {k : Nat × Nat} {M M1 M2 : fv_M} {L D L2 D2 : Nat} {i r : Int32} {R : fv_R} (hx : fx_atX sh L D) (hm : fx_atM sh 92) (hm2 : fx_atM (fx_sw sh L2 D2) 92)  (h1 : g_X_lay M L D  = some (r, M1, L2, D2)) (h2 : g_M_lay M1 92  = some (r, M2)) (K : fv_Rn X 168 18 [some (.ref fv_SCR), some (.ref 0), some (.ref 92), some (.int (i + (5 : Int32)))] [] k (fx_sw sh L2 D2) M2 R) : fv_Rn X 168 217 [some (.ref fv_SCR), some (.ref 0), some (.ref 92), some (.int i)] [] k sh M R := by
  refine fx_aload rfl rfl ?_
  refine fx_call [.ref 0] [] rfl (by decide) rfl rfl rfl rfl rfl (Nat.le_of_ble_eq_true rfl) (fx_rcv hx.1 rfl) (v_X_lay hx h1) ?_
  dsimp only
  refine fx_aload rfl rfl ?_
  refine fx_call [.ref 92] [.int r] rfl (by decide) rfl rfl rfl rfl rfl (Nat.le_of_ble_eq_true rfl) (fx_rcv hm2.1 rfl) (v_M_lay hm2 h2) ?_
  refine fx_iceq_j rfl rfl rfl ?_
  refine fx_iinc rfl (show Int32.ofInt 5 = (5 : Int32) by decide) rfl rfl ?_
  refine fx_back rfl rfl rfl ?_
  exact K
set_option maxRecDepth 100000 in
theorem v_law_4 {X : fv_X} {sh : fv_Sh} {k : Nat × Nat} {M : fv_M} {L D : Nat} {i r : Int32} {R : fv_R} (hx : fx_atX sh L D) (hm : fx_atM sh 92) (b1 : ¬ (i + (1 : Int32) < 0 ∨ X.1 ≤ (i + (1 : Int32)).toNatClampNeg)) (b2 : ¬ (i + (2 : Int32) < 0 ∨ X.1 ≤ (i + (2 : Int32)).toNatClampNeg)) (h1 : g_X_verb M L D (X.2 (i + (1 : Int32)).toNatClampNeg) (X.2 (i + (2 : Int32)).toNatClampNeg) = some r) (h2 : g_M_verb M 92 (X.2 (i + (1 : Int32)).toNatClampNeg) (X.2 (i + (2 : Int32)).toNatClampNeg) = some r) (K : fv_Rn X 168 18 [some (.ref fv_SCR), some (.ref 0), some (.ref 92), some (.int (i + (5 : Int32)))] [] k sh M R) : fv_Rn X 168 230 [some (.ref fv_SCR), some (.ref 0), some (.ref 92), some (.int i)] [] k sh M R := by
  refine fx_aload rfl rfl ?_
  refine fx_aload rfl rfl ?_
  refine fx_iload rfl rfl ?_
  refine fx_const rfl (show Int32.ofInt 1 = (1 : Int32) by decide) ?_
  refine fx_iadd rfl ?_
  refine fx_sld rfl rfl b1 ?_
  refine fx_aload rfl rfl ?_
  refine fx_iload rfl rfl ?_
  refine fx_const rfl (show Int32.ofInt 2 = (2 : Int32) by decide) ?_
  refine fx_iadd rfl ?_
  refine fx_sld rfl rfl b2 ?_
  refine fx_call [.ref 0, .int (X.2 (i + (1 : Int32)).toNatClampNeg), .int (X.2 (i + (2 : Int32)).toNatClampNeg)] [] rfl (by decide) rfl rfl rfl rfl rfl (Nat.le_of_ble_eq_true rfl) (fx_rcv hx.1 rfl) (v_X_verb hx h1) ?_
  refine fx_aload rfl rfl ?_
  refine fx_aload rfl rfl ?_
  refine fx_iload rfl rfl ?_
  refine fx_const rfl (show Int32.ofInt 1 = (1 : Int32) by decide) ?_
  refine fx_iadd rfl ?_
  refine fx_sld rfl rfl b1 ?_
  refine fx_aload rfl rfl ?_
  refine fx_iload rfl rfl ?_
  refine fx_const rfl (show Int32.ofInt 2 = (2 : Int32) by decide) ?_
  refine fx_iadd rfl ?_
  refine fx_sld rfl rfl b2 ?_
  refine fx_call [.ref 92, .int (X.2 (i + (1 : Int32)).toNatClampNeg), .int (X.2 (i + (2 : Int32)).toNatClampNeg)] [.int r] rfl (by decide) rfl rfl rfl rfl rfl (Nat.le_of_ble_eq_true rfl) (fx_rcv hm.1 rfl) (v_M_verb hm h2) ?_
  refine fx_iceq_j rfl rfl rfl ?_
  refine fx_iinc rfl (show Int32.ofInt 5 = (5 : Int32) by decide) rfl rfl ?_
  refine fx_back rfl rfl rfl ?_
  exact K
set_option maxRecDepth 100000 in
theorem v_law_5 {X : fv_X} {sh : fv_Sh} {k : Nat × Nat} {M : fv_M} {L D : Nat} {i r : Int32} {R : fv_R} (hx : fx_atX sh L D) (hm : fx_atM sh 92) (b1 : ¬ (i + (1 : Int32) < 0 ∨ X.1 ≤ (i + (1 : Int32)).toNatClampNeg)) (h1 : g_X_noun M L D (X.2 (i + (1 : Int32)).toNatClampNeg) = some r) (h2 : g_M_noun M 92 (X.2 (i + (1 : Int32)).toNatClampNeg) = some r) (K : fv_Rn X 168 18 [some (.ref fv_SCR), some (.ref 0), some (.ref 92), some (.int (i + (5 : Int32)))] [] k sh M R) : fv_Rn X 168 263 [some (.ref fv_SCR), some (.ref 0), some (.ref 92), some (.int i)] [] k sh M R := by
  refine fx_aload rfl rfl ?_
  refine fx_aload rfl rfl ?_
  refine fx_iload rfl rfl ?_
  refine fx_const rfl (show Int32.ofInt 1 = (1 : Int32) by decide) ?_
  refine fx_iadd rfl ?_
  refine fx_sld rfl rfl b1 ?_
  refine fx_call [.ref 0, .int (X.2 (i + (1 : Int32)).toNatClampNeg)] [] rfl (by decide) rfl rfl rfl rfl rfl (Nat.le_of_ble_eq_true rfl) (fx_rcv hx.1 rfl) (v_X_noun hx h1) ?_
  refine fx_aload rfl rfl ?_
  refine fx_aload rfl rfl ?_
  refine fx_iload rfl rfl ?_
  refine fx_const rfl (show Int32.ofInt 1 = (1 : Int32) by decide) ?_
  refine fx_iadd rfl ?_
  refine fx_sld rfl rfl b1 ?_
  refine fx_call [.ref 92, .int (X.2 (i + (1 : Int32)).toNatClampNeg)] [.int r] rfl (by decide) rfl rfl rfl rfl rfl (Nat.le_of_ble_eq_true rfl) (fx_rcv hm.1 rfl) (v_M_noun hm h2) ?_
  refine fx_iceq_j rfl rfl rfl ?_
  refine fx_iinc rfl (show Int32.ofInt 5 = (5 : Int32) by decide) rfl rfl ?_
  refine fx_back rfl rfl rfl ?_
  exact K
set_option maxRecDepth 100000 in
theorem v_law_6 {X : fv_X} {sh : fv_Sh} {k : Nat × Nat} {M : fv_M} {L D : Nat} {i r : Int32} {R : fv_R} (hx : fx_atX sh L D) (hm : fx_atM sh 92) (b1 : ¬ (i + (1 : Int32) < 0 ∨ X.1 ≤ (i + (1 : Int32)).toNatClampNeg)) (b2 : ¬ (i + (2 : Int32) < 0 ∨ X.1 ≤ (i + (2 : Int32)).toNatClampNeg)) (h1 : g_X_village M L D (X.2 (i + (1 : Int32)).toNatClampNeg) (X.2 (i + (2 : Int32)).toNatClampNeg) = some r) (h2 : g_M_village M 92 (X.2 (i + (1 : Int32)).toNatClampNeg) (X.2 (i + (2 : Int32)).toNatClampNeg) = some r) (K : fv_Rn X 168 18 [some (.ref fv_SCR), some (.ref 0), some (.ref 92), some (.int (i + (5 : Int32)))] [] k sh M R) : fv_Rn X 168 286 [some (.ref fv_SCR), some (.ref 0), some (.ref 92), some (.int i)] [] k sh M R := by
  refine fx_aload rfl rfl ?_
  refine fx_aload rfl rfl ?_
  refine fx_iload rfl rfl ?_
  refine fx_const rfl (show Int32.ofInt 1 = (1 : Int32) by decide) ?_
  refine fx_iadd rfl ?_
  refine fx_sld rfl rfl b1 ?_
  refine fx_aload rfl rfl ?_
  refine fx_iload rfl rfl ?_
  refine fx_const rfl (show Int32.ofInt 2 = (2 : Int32) by decide) ?_
  refine fx_iadd rfl ?_
  refine fx_sld rfl rfl b2 ?_
  refine fx_call [.ref 0, .int (X.2 (i + (1 : Int32)).toNatClampNeg), .int (X.2 (i + (2 : Int32)).toNatClampNeg)] [] rfl (by decide) rfl rfl rfl rfl rfl (Nat.le_of_ble_eq_true rfl) (fx_rcv hx.1 rfl) (v_X_village hx h1) ?_
  refine fx_aload rfl rfl ?_
  refine fx_aload rfl rfl ?_
  refine fx_iload rfl rfl ?_
  refine fx_const rfl (show Int32.ofInt 1 = (1 : Int32) by decide) ?_
  refine fx_iadd rfl ?_
  refine fx_sld rfl rfl b1 ?_
  refine fx_aload rfl rfl ?_
  refine fx_iload rfl rfl ?_
  refine fx_const rfl (show Int32.ofInt 2 = (2 : Int32) by decide) ?_
  refine fx_iadd rfl ?_
  refine fx_sld rfl rfl b2 ?_
  refine fx_call [.ref 92, .int (X.2 (i + (1 : Int32)).toNatClampNeg), .int (X.2 (i + (2 : Int32)).toNatClampNeg)] [.int r] rfl (by decide) rfl rfl rfl rfl rfl (Nat.le_of_ble_eq_true rfl) (fx_rcv hm.1 rfl) (v_M_village hm h2) ?_
  refine fx_iceq_j rfl rfl rfl ?_
  refine fx_iinc rfl (show Int32.ofInt 5 = (5 : Int32) by decide) rfl rfl ?_
  refine fx_back rfl rfl rfl ?_
  exact K
set_option maxRecDepth 100000 in
theorem v_law_7 {X : fv_X} {sh : fv_Sh} {k : Nat × Nat} {M : fv_M} {L D : Nat} {i r : Int32} {R : fv_R} (hx : fx_atX sh L D) (hm : fx_atM sh 92) (b1 : ¬ (i + (1 : Int32) < 0 ∨ X.1 ≤ (i + (1 : Int32)).toNatClampNeg)) (b2 : ¬ (i + (2 : Int32) < 0 ∨ X.1 ≤ (i + (2 : Int32)).toNatClampNeg)) (h1 : g_X_stock M L D (X.2 (i + (1 : Int32)).toNatClampNeg) (X.2 (i + (2 : Int32)).toNatClampNeg) = some r) (h2 : g_M_stock M 92 (X.2 (i + (1 : Int32)).toNatClampNeg) (X.2 (i + (2 : Int32)).toNatClampNeg) = some r) (K : fv_Rn X 168 18 [some (.ref fv_SCR), some (.ref 0), some (.ref 92), some (.int (i + (5 : Int32)))] [] k sh M R) : fv_Rn X 168 319 [some (.ref fv_SCR), some (.ref 0), some (.ref 92), some (.int i)] [] k sh M R := by
  refine fx_aload rfl rfl ?_
  refine fx_aload rfl rfl ?_
  refine fx_iload rfl rfl ?_
  refine fx_const rfl (show Int32.ofInt 1 = (1 : Int32) by decide) ?_
  refine fx_iadd rfl ?_
  refine fx_sld rfl rfl b1 ?_
  refine fx_aload rfl rfl ?_
  refine fx_iload rfl rfl ?_
  refine fx_const rfl (show Int32.ofInt 2 = (2 : Int32) by decide) ?_
  refine fx_iadd rfl ?_
  refine fx_sld rfl rfl b2 ?_
  refine fx_call [.ref 0, .int (X.2 (i + (1 : Int32)).toNatClampNeg), .int (X.2 (i + (2 : Int32)).toNatClampNeg)] [] rfl (by decide) rfl rfl rfl rfl rfl (Nat.le_of_ble_eq_true rfl) (fx_rcv hx.1 rfl) (v_X_stock hx h1) ?_
  refine fx_aload rfl rfl ?_
  refine fx_aload rfl rfl ?_
  refine fx_iload rfl rfl ?_
  refine fx_const rfl (show Int32.ofInt 1 = (1 : Int32) by decide) ?_
  refine fx_iadd rfl ?_
  refine fx_sld rfl rfl b1 ?_
  refine fx_aload rfl rfl ?_
  refine fx_iload rfl rfl ?_
  refine fx_const rfl (show Int32.ofInt 2 = (2 : Int32) by decide) ?_
  refine fx_iadd rfl ?_
  refine fx_sld rfl rfl b2 ?_
  refine fx_call [.ref 92, .int (X.2 (i + (1 : Int32)).toNatClampNeg), .int (X.2 (i + (2 : Int32)).toNatClampNeg)] [.int r] rfl (by decide) rfl rfl rfl rfl rfl (Nat.le_of_ble_eq_true rfl) (fx_rcv hm.1 rfl) (v_M_stock hm h2) ?_
  refine fx_iceq_j rfl rfl rfl ?_
  refine fx_iinc rfl (show Int32.ofInt 5 = (5 : Int32) by decide) rfl rfl ?_
  refine fx_back rfl rfl rfl ?_
  exact K
set_option maxRecDepth 100000 in
theorem v_law_8 {X : fv_X} {sh : fv_Sh} {k : Nat × Nat} {M : fv_M} {L D : Nat} {i r : Int32} {R : fv_R} (hx : fx_atX sh L D) (hm : fx_atM sh 92) (b1 : ¬ (i + (1 : Int32) < 0 ∨ X.1 ≤ (i + (1 : Int32)).toNatClampNeg)) (b2 : ¬ (i + (2 : Int32) < 0 ∨ X.1 ≤ (i + (2 : Int32)).toNatClampNeg)) (h1 : g_X_work M L D (X.2 (i + (1 : Int32)).toNatClampNeg) (X.2 (i + (2 : Int32)).toNatClampNeg) = some r) (h2 : g_M_work M 92 (X.2 (i + (1 : Int32)).toNatClampNeg) (X.2 (i + (2 : Int32)).toNatClampNeg) = some r) (K : fv_Rn X 168 18 [some (.ref fv_SCR), some (.ref 0), some (.ref 92), some (.int (i + (5 : Int32)))] [] k sh M R) : fv_Rn X 168 352 [some (.ref fv_SCR), some (.ref 0), some (.ref 92), some (.int i)] [] k sh M R := by
  refine fx_aload rfl rfl ?_
  refine fx_aload rfl rfl ?_
  refine fx_iload rfl rfl ?_
  refine fx_const rfl (show Int32.ofInt 1 = (1 : Int32) by decide) ?_
  refine fx_iadd rfl ?_
  refine fx_sld rfl rfl b1 ?_
  refine fx_aload rfl rfl ?_
  refine fx_iload rfl rfl ?_
  refine fx_const rfl (show Int32.ofInt 2 = (2 : Int32) by decide) ?_
  refine fx_iadd rfl ?_
  refine fx_sld rfl rfl b2 ?_
  refine fx_call [.ref 0, .int (X.2 (i + (1 : Int32)).toNatClampNeg), .int (X.2 (i + (2 : Int32)).toNatClampNeg)] [] rfl (by decide) rfl rfl rfl rfl rfl (Nat.le_of_ble_eq_true rfl) (fx_rcv hx.1 rfl) (v_X_work hx h1) ?_
  refine fx_aload rfl rfl ?_
  refine fx_aload rfl rfl ?_
  refine fx_iload rfl rfl ?_
  refine fx_const rfl (show Int32.ofInt 1 = (1 : Int32) by decide) ?_
  refine fx_iadd rfl ?_
  refine fx_sld rfl rfl b1 ?_
  refine fx_aload rfl rfl ?_
  refine fx_iload rfl rfl ?_
  refine fx_const rfl (show Int32.ofInt 2 = (2 : Int32) by decide) ?_
  refine fx_iadd rfl ?_
  refine fx_sld rfl rfl b2 ?_
  refine fx_call [.ref 92, .int (X.2 (i + (1 : Int32)).toNatClampNeg), .int (X.2 (i + (2 : Int32)).toNatClampNeg)] [.int r] rfl (by decide) rfl rfl rfl rfl rfl (Nat.le_of_ble_eq_true rfl) (fx_rcv hm.1 rfl) (v_M_work hm h2) ?_
  refine fx_iceq_j rfl rfl rfl ?_
  refine fx_iinc rfl (show Int32.ofInt 5 = (5 : Int32) by decide) rfl rfl ?_
  refine fx_back rfl rfl rfl ?_
  exact K
set_option maxRecDepth 100000 in
theorem v_law_9 {X : fv_X} {sh : fv_Sh} {k : Nat × Nat} {M M1 M2 : fv_M} {L D : Nat} {i r : Int32} {R : fv_R} (hx : fx_atX sh L D) (hm : fx_atM sh 92) (b1 : ¬ (i + (1 : Int32) < 0 ∨ X.1 ≤ (i + (1 : Int32)).toNatClampNeg)) (h1 : g_X_pass M L D (X.2 (i + (1 : Int32)).toNatClampNeg) = some (r, M1)) (h2 : g_M_pass M1 92 (X.2 (i + (1 : Int32)).toNatClampNeg) = some (r, M2)) (K : fv_Rn X 168 18 [some (.ref fv_SCR), some (.ref 0), some (.ref 92), some (.int (i + (5 : Int32)))] [] k sh M2 R) : fv_Rn X 168 385 [some (.ref fv_SCR), some (.ref 0), some (.ref 92), some (.int i)] [] k sh M R := by
  refine fx_aload rfl rfl ?_
  refine fx_aload rfl rfl ?_
  refine fx_iload rfl rfl ?_
  refine fx_const rfl (show Int32.ofInt 1 = (1 : Int32) by decide) ?_
  refine fx_iadd rfl ?_
  refine fx_sld rfl rfl b1 ?_
  refine fx_call [.ref 0, .int (X.2 (i + (1 : Int32)).toNatClampNeg)] [] rfl (by decide) rfl rfl rfl rfl rfl (Nat.le_of_ble_eq_true rfl) (fx_rcv hx.1 rfl) (v_X_pass hx h1) ?_
  refine fx_aload rfl rfl ?_
  refine fx_aload rfl rfl ?_
  refine fx_iload rfl rfl ?_
  refine fx_const rfl (show Int32.ofInt 1 = (1 : Int32) by decide) ?_
  refine fx_iadd rfl ?_
  refine fx_sld rfl rfl b1 ?_
  refine fx_call [.ref 92, .int (X.2 (i + (1 : Int32)).toNatClampNeg)] [.int r] rfl (by decide) rfl rfl rfl rfl rfl (Nat.le_of_ble_eq_true rfl) (fx_rcv hm.1 rfl) (v_M_pass hm h2) ?_
  refine fx_iceq_j rfl rfl rfl ?_
  refine fx_iinc rfl (show Int32.ofInt 5 = (5 : Int32) by decide) rfl rfl ?_
  refine fx_back rfl rfl rfl ?_
  exact K
set_option maxRecDepth 100000 in
theorem v_law_10 {X : fv_X} {sh : fv_Sh} {k : Nat × Nat} {M M1 M2 : fv_M} {L D : Nat} {i r : Int32} {R : fv_R} (hx : fx_atX sh L D) (hm : fx_atM sh 92) (b1 : ¬ (i + (1 : Int32) < 0 ∨ X.1 ≤ (i + (1 : Int32)).toNatClampNeg)) (b2 : ¬ (i + (2 : Int32) < 0 ∨ X.1 ≤ (i + (2 : Int32)).toNatClampNeg)) (b3 : ¬ (i + (3 : Int32) < 0 ∨ X.1 ≤ (i + (3 : Int32)).toNatClampNeg)) (b4 : ¬ (i + (4 : Int32) < 0 ∨ X.1 ≤ (i + (4 : Int32)).toNatClampNeg)) (h1 : g_X_give M L D (X.2 (i + (1 : Int32)).toNatClampNeg) (X.2 (i + (2 : Int32)).toNatClampNeg) (X.2 (i + (3 : Int32)).toNatClampNeg) (X.2 (i + (4 : Int32)).toNatClampNeg) = some (r, M1)) (h2 : g_M_give M1 92 (X.2 (i + (1 : Int32)).toNatClampNeg) (X.2 (i + (2 : Int32)).toNatClampNeg) (X.2 (i + (3 : Int32)).toNatClampNeg) (X.2 (i + (4 : Int32)).toNatClampNeg) = some (r, M2)) (K : fv_Rn X 168 18 [some (.ref fv_SCR), some (.ref 0), some (.ref 92), some (.int (i + (5 : Int32)))] [] k sh M2 R) : fv_Rn X 168 408 [some (.ref fv_SCR), some (.ref 0), some (.ref 92), some (.int i)] [] k sh M R := by
  refine fx_aload rfl rfl ?_
  refine fx_aload rfl rfl ?_
  refine fx_iload rfl rfl ?_
  refine fx_const rfl (show Int32.ofInt 1 = (1 : Int32) by decide) ?_
  refine fx_iadd rfl ?_
  refine fx_sld rfl rfl b1 ?_
  refine fx_aload rfl rfl ?_
  refine fx_iload rfl rfl ?_
  refine fx_const rfl (show Int32.ofInt 2 = (2 : Int32) by decide) ?_
  refine fx_iadd rfl ?_
  refine fx_sld rfl rfl b2 ?_
  refine fx_aload rfl rfl ?_
  refine fx_iload rfl rfl ?_
  refine fx_const rfl (show Int32.ofInt 3 = (3 : Int32) by decide) ?_
  refine fx_iadd rfl ?_
  refine fx_sld rfl rfl b3 ?_
  refine fx_aload rfl rfl ?_
  refine fx_iload rfl rfl ?_
  refine fx_const rfl (show Int32.ofInt 4 = (4 : Int32) by decide) ?_
  refine fx_iadd rfl ?_
  refine fx_sld rfl rfl b4 ?_
  refine fx_call [.ref 0, .int (X.2 (i + (1 : Int32)).toNatClampNeg), .int (X.2 (i + (2 : Int32)).toNatClampNeg), .int (X.2 (i + (3 : Int32)).toNatClampNeg), .int (X.2 (i + (4 : Int32)).toNatClampNeg)] [] rfl (by decide) rfl rfl rfl rfl rfl (Nat.le_of_ble_eq_true rfl) (fx_rcv hx.1 rfl) (v_X_give hx h1) ?_
  refine fx_aload rfl rfl ?_
  refine fx_aload rfl rfl ?_
  refine fx_iload rfl rfl ?_
  refine fx_const rfl (show Int32.ofInt 1 = (1 : Int32) by decide) ?_
  refine fx_iadd rfl ?_
  refine fx_sld rfl rfl b1 ?_
  refine fx_aload rfl rfl ?_
  refine fx_iload rfl rfl ?_
  refine fx_const rfl (show Int32.ofInt 2 = (2 : Int32) by decide) ?_
  refine fx_iadd rfl ?_
  refine fx_sld rfl rfl b2 ?_
  refine fx_aload rfl rfl ?_
  refine fx_iload rfl rfl ?_
  refine fx_const rfl (show Int32.ofInt 3 = (3 : Int32) by decide) ?_
  refine fx_iadd rfl ?_
  refine fx_sld rfl rfl b3 ?_
  refine fx_aload rfl rfl ?_
  refine fx_iload rfl rfl ?_
  refine fx_const rfl (show Int32.ofInt 4 = (4 : Int32) by decide) ?_
  refine fx_iadd rfl ?_
  refine fx_sld rfl rfl b4 ?_
  refine fx_call [.ref 92, .int (X.2 (i + (1 : Int32)).toNatClampNeg), .int (X.2 (i + (2 : Int32)).toNatClampNeg), .int (X.2 (i + (3 : Int32)).toNatClampNeg), .int (X.2 (i + (4 : Int32)).toNatClampNeg)] [.int r] rfl (by decide) rfl rfl rfl rfl rfl (Nat.le_of_ble_eq_true rfl) (fx_rcv hm.1 rfl) (v_M_give hm h2) ?_
  refine fx_iceq_j rfl rfl rfl ?_
  refine fx_iinc rfl (show Int32.ofInt 5 = (5 : Int32) by decide) rfl rfl ?_
  refine fx_back rfl rfl rfl ?_
  exact K
set_option maxRecDepth 100000 in
theorem v_law_11 {X : fv_X} {sh : fv_Sh} {k : Nat × Nat} {M M1 M2 : fv_M} {L D : Nat} {i r : Int32} {R : fv_R} (hx : fx_atX sh L D) (hm : fx_atM sh 92) (b1 : ¬ (i + (1 : Int32) < 0 ∨ X.1 ≤ (i + (1 : Int32)).toNatClampNeg)) (b2 : ¬ (i + (2 : Int32) < 0 ∨ X.1 ≤ (i + (2 : Int32)).toNatClampNeg)) (h1 : g_X_sow M L D (X.2 (i + (1 : Int32)).toNatClampNeg) (X.2 (i + (2 : Int32)).toNatClampNeg) = some (r, M1)) (h2 : g_M_sow M1 92 (X.2 (i + (1 : Int32)).toNatClampNeg) (X.2 (i + (2 : Int32)).toNatClampNeg) = some (r, M2)) (K : fv_Rn X 168 18 [some (.ref fv_SCR), some (.ref 0), some (.ref 92), some (.int (i + (5 : Int32)))] [] k sh M2 R) : fv_Rn X 168 461 [some (.ref fv_SCR), some (.ref 0), some (.ref 92), some (.int i)] [] k sh M R := by
  refine fx_aload rfl rfl ?_
  refine fx_aload rfl rfl ?_
  refine fx_iload rfl rfl ?_
  refine fx_const rfl (show Int32.ofInt 1 = (1 : Int32) by decide) ?_
  refine fx_iadd rfl ?_
  refine fx_sld rfl rfl b1 ?_
  refine fx_aload rfl rfl ?_
  refine fx_iload rfl rfl ?_
  refine fx_const rfl (show Int32.ofInt 2 = (2 : Int32) by decide) ?_
  refine fx_iadd rfl ?_
  refine fx_sld rfl rfl b2 ?_
  refine fx_call [.ref 0, .int (X.2 (i + (1 : Int32)).toNatClampNeg), .int (X.2 (i + (2 : Int32)).toNatClampNeg)] [] rfl (by decide) rfl rfl rfl rfl rfl (Nat.le_of_ble_eq_true rfl) (fx_rcv hx.1 rfl) (v_X_sow hx h1) ?_
  refine fx_aload rfl rfl ?_
  refine fx_aload rfl rfl ?_
  refine fx_iload rfl rfl ?_
  refine fx_const rfl (show Int32.ofInt 1 = (1 : Int32) by decide) ?_
  refine fx_iadd rfl ?_
  refine fx_sld rfl rfl b1 ?_
  refine fx_aload rfl rfl ?_
  refine fx_iload rfl rfl ?_
  refine fx_const rfl (show Int32.ofInt 2 = (2 : Int32) by decide) ?_
  refine fx_iadd rfl ?_
  refine fx_sld rfl rfl b2 ?_
  refine fx_call [.ref 92, .int (X.2 (i + (1 : Int32)).toNatClampNeg), .int (X.2 (i + (2 : Int32)).toNatClampNeg)] [.int r] rfl (by decide) rfl rfl rfl rfl rfl (Nat.le_of_ble_eq_true rfl) (fx_rcv hm.1 rfl) (v_M_sow hm h2) ?_
  refine fx_iceq_j rfl rfl rfl ?_
  refine fx_iinc rfl (show Int32.ofInt 5 = (5 : Int32) by decide) rfl rfl ?_
  refine fx_back rfl rfl rfl ?_
  exact K
set_option maxRecDepth 100000 in
theorem v_law_12 {X : fv_X} {sh : fv_Sh} {k : Nat × Nat} {M M1 M2 : fv_M} {L D : Nat} {i r : Int32} {R : fv_R} (hx : fx_atX sh L D) (hm : fx_atM sh 92)  (h1 : g_X_undo M L D  = some (r, M1)) (h2 : g_M_undo M1 92  = some (r, M2)) (K : fv_Rn X 168 18 [some (.ref fv_SCR), some (.ref 0), some (.ref 92), some (.int (i + (5 : Int32)))] [] k sh M2 R) : fv_Rn X 168 494 [some (.ref fv_SCR), some (.ref 0), some (.ref 92), some (.int i)] [] k sh M R := by
  refine fx_aload rfl rfl ?_
  refine fx_call [.ref 0] [] rfl (by decide) rfl rfl rfl rfl rfl (Nat.le_of_ble_eq_true rfl) (fx_rcv hx.1 rfl) (v_X_undo hx h1) ?_
  refine fx_aload rfl rfl ?_
  refine fx_call [.ref 92] [.int r] rfl (by decide) rfl rfl rfl rfl rfl (Nat.le_of_ble_eq_true rfl) (fx_rcv hm.1 rfl) (v_M_undo hm h2) ?_
  refine fx_iceq_j rfl rfl rfl ?_
  refine fx_iinc rfl (show Int32.ofInt 5 = (5 : Int32) by decide) rfl rfl ?_
  refine fx_back rfl rfl rfl ?_
  exact K
set_option maxRecDepth 100000 in
theorem v_law_13 {X : fv_X} {sh : fv_Sh} {k : Nat × Nat} {M M1 M2 : fv_M} {L D : Nat} {i r : Int32} {R : fv_R} (hx : fx_atX sh L D) (hm : fx_atM sh 92) (b1 : ¬ (i + (1 : Int32) < 0 ∨ X.1 ≤ (i + (1 : Int32)).toNatClampNeg)) (b2 : ¬ (i + (2 : Int32) < 0 ∨ X.1 ≤ (i + (2 : Int32)).toNatClampNeg)) (b3 : ¬ (i + (3 : Int32) < 0 ∨ X.1 ≤ (i + (3 : Int32)).toNatClampNeg)) (b4 : ¬ (i + (4 : Int32) < 0 ∨ X.1 ≤ (i + (4 : Int32)).toNatClampNeg)) (h1 : g_X_behind M L D (X.2 (i + (1 : Int32)).toNatClampNeg) (X.2 (i + (2 : Int32)).toNatClampNeg) (X.2 (i + (3 : Int32)).toNatClampNeg) (X.2 (i + (4 : Int32)).toNatClampNeg) = some (r, M1)) (h2 : g_M_behind M1 92 (X.2 (i + (1 : Int32)).toNatClampNeg) (X.2 (i + (2 : Int32)).toNatClampNeg) (X.2 (i + (3 : Int32)).toNatClampNeg) (X.2 (i + (4 : Int32)).toNatClampNeg) = some (r, M2)) (K : fv_Rn X 168 18 [some (.ref fv_SCR), some (.ref 0), some (.ref 92), some (.int (i + (5 : Int32)))] [] k sh M2 R) : fv_Rn X 168 507 [some (.ref fv_SCR), some (.ref 0), some (.ref 92), some (.int i)] [] k sh M R := by
  refine fx_aload rfl rfl ?_
  refine fx_aload rfl rfl ?_
  refine fx_iload rfl rfl ?_
  refine fx_const rfl (show Int32.ofInt 1 = (1 : Int32) by decide) ?_
  refine fx_iadd rfl ?_
  refine fx_sld rfl rfl b1 ?_
  refine fx_aload rfl rfl ?_
  refine fx_iload rfl rfl ?_
  refine fx_const rfl (show Int32.ofInt 2 = (2 : Int32) by decide) ?_
  refine fx_iadd rfl ?_
  refine fx_sld rfl rfl b2 ?_
  refine fx_aload rfl rfl ?_
  refine fx_iload rfl rfl ?_
  refine fx_const rfl (show Int32.ofInt 3 = (3 : Int32) by decide) ?_
  refine fx_iadd rfl ?_
  refine fx_sld rfl rfl b3 ?_
  refine fx_aload rfl rfl ?_
  refine fx_iload rfl rfl ?_
  refine fx_const rfl (show Int32.ofInt 4 = (4 : Int32) by decide) ?_
  refine fx_iadd rfl ?_
  refine fx_sld rfl rfl b4 ?_
  refine fx_call [.ref 0, .int (X.2 (i + (1 : Int32)).toNatClampNeg), .int (X.2 (i + (2 : Int32)).toNatClampNeg), .int (X.2 (i + (3 : Int32)).toNatClampNeg), .int (X.2 (i + (4 : Int32)).toNatClampNeg)] [] rfl (by decide) rfl rfl rfl rfl rfl (Nat.le_of_ble_eq_true rfl) (fx_rcv hx.1 rfl) (v_X_behind hx h1) ?_
  refine fx_aload rfl rfl ?_
  refine fx_aload rfl rfl ?_
  refine fx_iload rfl rfl ?_
  refine fx_const rfl (show Int32.ofInt 1 = (1 : Int32) by decide) ?_
  refine fx_iadd rfl ?_
  refine fx_sld rfl rfl b1 ?_
  refine fx_aload rfl rfl ?_
  refine fx_iload rfl rfl ?_
  refine fx_const rfl (show Int32.ofInt 2 = (2 : Int32) by decide) ?_
  refine fx_iadd rfl ?_
  refine fx_sld rfl rfl b2 ?_
  refine fx_aload rfl rfl ?_
  refine fx_iload rfl rfl ?_
  refine fx_const rfl (show Int32.ofInt 3 = (3 : Int32) by decide) ?_
  refine fx_iadd rfl ?_
  refine fx_sld rfl rfl b3 ?_
  refine fx_aload rfl rfl ?_
  refine fx_iload rfl rfl ?_
  refine fx_const rfl (show Int32.ofInt 4 = (4 : Int32) by decide) ?_
  refine fx_iadd rfl ?_
  refine fx_sld rfl rfl b4 ?_
  refine fx_call [.ref 92, .int (X.2 (i + (1 : Int32)).toNatClampNeg), .int (X.2 (i + (2 : Int32)).toNatClampNeg), .int (X.2 (i + (3 : Int32)).toNatClampNeg), .int (X.2 (i + (4 : Int32)).toNatClampNeg)] [.int r] rfl (by decide) rfl rfl rfl rfl rfl (Nat.le_of_ble_eq_true rfl) (fx_rcv hm.1 rfl) (v_M_behind hm h2) ?_
  refine fx_iceq_j rfl rfl rfl ?_
  refine fx_iinc rfl (show Int32.ofInt 5 = (5 : Int32) by decide) rfl rfl ?_
  refine fx_back rfl rfl rfl ?_
  exact K
set_option maxRecDepth 100000 in
theorem v_law_14 {X : fv_X} {sh : fv_Sh} {k : Nat × Nat} {M M1 M2 : fv_M} {L D : Nat} {i r : Int32} {R : fv_R} (hx : fx_atX sh L D) (hm : fx_atM sh 92) (b1 : ¬ (i + (1 : Int32) < 0 ∨ X.1 ≤ (i + (1 : Int32)).toNatClampNeg)) (h1 : g_X_silent M L D (X.2 (i + (1 : Int32)).toNatClampNeg) = some (r, M1)) (h2 : g_M_silent M1 92 (X.2 (i + (1 : Int32)).toNatClampNeg) = some (r, M2)) (K : fv_Rn X 168 18 [some (.ref fv_SCR), some (.ref 0), some (.ref 92), some (.int (i + (5 : Int32)))] [] k sh M2 R) : fv_Rn X 168 560 [some (.ref fv_SCR), some (.ref 0), some (.ref 92), some (.int i)] [] k sh M R := by
  refine fx_aload rfl rfl ?_
  refine fx_aload rfl rfl ?_
  refine fx_iload rfl rfl ?_
  refine fx_const rfl (show Int32.ofInt 1 = (1 : Int32) by decide) ?_
  refine fx_iadd rfl ?_
  refine fx_sld rfl rfl b1 ?_
  refine fx_call [.ref 0, .int (X.2 (i + (1 : Int32)).toNatClampNeg)] [] rfl (by decide) rfl rfl rfl rfl rfl (Nat.le_of_ble_eq_true rfl) (fx_rcv hx.1 rfl) (v_X_silent hx h1) ?_
  refine fx_aload rfl rfl ?_
  refine fx_aload rfl rfl ?_
  refine fx_iload rfl rfl ?_
  refine fx_const rfl (show Int32.ofInt 1 = (1 : Int32) by decide) ?_
  refine fx_iadd rfl ?_
  refine fx_sld rfl rfl b1 ?_
  refine fx_call [.ref 92, .int (X.2 (i + (1 : Int32)).toNatClampNeg)] [.int r] rfl (by decide) rfl rfl rfl rfl rfl (Nat.le_of_ble_eq_true rfl) (fx_rcv hm.1 rfl) (v_M_silent hm h2) ?_
  refine fx_iceq_j rfl rfl rfl ?_
  refine fx_iinc rfl (show Int32.ofInt 5 = (5 : Int32) by decide) rfl rfl ?_
  refine fx_back rfl rfl rfl ?_
  exact K
set_option maxRecDepth 100000 in
theorem v_law_15 {X : fv_X} {sh : fv_Sh} {k : Nat × Nat} {M M1 M2 : fv_M} {L D : Nat} {i r : Int32} {R : fv_R} (hx : fx_atX sh L D) (hm : fx_atM sh 92) (b1 : ¬ (i + (1 : Int32) < 0 ∨ X.1 ≤ (i + (1 : Int32)).toNatClampNeg)) (h1 : g_X_lasts M L D (X.2 (i + (1 : Int32)).toNatClampNeg) = some (r, M1)) (h2 : g_M_lasts M1 92 (X.2 (i + (1 : Int32)).toNatClampNeg) = some (r, M2)) (K : fv_Rn X 168 18 [some (.ref fv_SCR), some (.ref 0), some (.ref 92), some (.int (i + (5 : Int32)))] [] k sh M2 R) : fv_Rn X 168 583 [some (.ref fv_SCR), some (.ref 0), some (.ref 92), some (.int i)] [] k sh M R := by
  refine fx_aload rfl rfl ?_
  refine fx_aload rfl rfl ?_
  refine fx_iload rfl rfl ?_
  refine fx_const rfl (show Int32.ofInt 1 = (1 : Int32) by decide) ?_
  refine fx_iadd rfl ?_
  refine fx_sld rfl rfl b1 ?_
  refine fx_call [.ref 0, .int (X.2 (i + (1 : Int32)).toNatClampNeg)] [] rfl (by decide) rfl rfl rfl rfl rfl (Nat.le_of_ble_eq_true rfl) (fx_rcv hx.1 rfl) (v_X_lasts hx h1) ?_
  refine fx_aload rfl rfl ?_
  refine fx_aload rfl rfl ?_
  refine fx_iload rfl rfl ?_
  refine fx_const rfl (show Int32.ofInt 1 = (1 : Int32) by decide) ?_
  refine fx_iadd rfl ?_
  refine fx_sld rfl rfl b1 ?_
  refine fx_call [.ref 92, .int (X.2 (i + (1 : Int32)).toNatClampNeg)] [.int r] rfl (by decide) rfl rfl rfl rfl rfl (Nat.le_of_ble_eq_true rfl) (fx_rcv hm.1 rfl) (v_M_lasts hm h2) ?_
  refine fx_iceq_j rfl rfl rfl ?_
  refine fx_iinc rfl (show Int32.ofInt 5 = (5 : Int32) by decide) rfl rfl ?_
  refine fx_back rfl rfl rfl ?_
  exact K
set_option maxRecDepth 100000 in
theorem v_law_16 {X : fv_X} {sh : fv_Sh} {k : Nat × Nat} {M : fv_M} {L D : Nat} {i r : Int32} {R : fv_R} (hx : fx_atX sh L D) (hm : fx_atM sh 92)  (h1 : g_X_sent M L D  = some r) (h2 : g_M_sent M 92  = some r) (K : fv_Rn X 168 18 [some (.ref fv_SCR), some (.ref 0), some (.ref 92), some (.int (i + (5 : Int32)))] [] k sh M R) : fv_Rn X 168 606 [some (.ref fv_SCR), some (.ref 0), some (.ref 92), some (.int i)] [] k sh M R := by
  refine fx_aload rfl rfl ?_
  refine fx_call [.ref 0] [] rfl (by decide) rfl rfl rfl rfl rfl (Nat.le_of_ble_eq_true rfl) (fx_rcv hx.1 rfl) (v_X_sent hx h1) ?_
  refine fx_aload rfl rfl ?_
  refine fx_call [.ref 92] [.int r] rfl (by decide) rfl rfl rfl rfl rfl (Nat.le_of_ble_eq_true rfl) (fx_rcv hm.1 rfl) (v_M_sent hm h2) ?_
  refine fx_iceq_j rfl rfl rfl ?_
  refine fx_iinc rfl (show Int32.ofInt 5 = (5 : Int32) by decide) rfl rfl ?_
  refine fx_back rfl rfl rfl ?_
  exact K
set_option maxRecDepth 100000 in
theorem v_law_17 {X : fv_X} {sh : fv_Sh} {k : Nat × Nat} {M : fv_M} {L D : Nat} {i r : Int32} {R : fv_R} (hx : fx_atX sh L D) (hm : fx_atM sh 92) (b1 : ¬ (i + (1 : Int32) < 0 ∨ X.1 ≤ (i + (1 : Int32)).toNatClampNeg)) (b2 : ¬ (i + (2 : Int32) < 0 ∨ X.1 ≤ (i + (2 : Int32)).toNatClampNeg)) (b3 : ¬ (i + (3 : Int32) < 0 ∨ X.1 ≤ (i + (3 : Int32)).toNatClampNeg)) (h1 : g_X_share M L D (X.2 (i + (1 : Int32)).toNatClampNeg) (X.2 (i + (2 : Int32)).toNatClampNeg) (X.2 (i + (3 : Int32)).toNatClampNeg) = some r) (h2 : g_M_share M 92 (X.2 (i + (1 : Int32)).toNatClampNeg) (X.2 (i + (2 : Int32)).toNatClampNeg) (X.2 (i + (3 : Int32)).toNatClampNeg) = some r) (K : fv_Rn X 168 18 [some (.ref fv_SCR), some (.ref 0), some (.ref 92), some (.int (i + (5 : Int32)))] [] k sh M R) : fv_Rn X 168 619 [some (.ref fv_SCR), some (.ref 0), some (.ref 92), some (.int i)] [] k sh M R := by
  refine fx_aload rfl rfl ?_
  refine fx_aload rfl rfl ?_
  refine fx_iload rfl rfl ?_
  refine fx_const rfl (show Int32.ofInt 1 = (1 : Int32) by decide) ?_
  refine fx_iadd rfl ?_
  refine fx_sld rfl rfl b1 ?_
  refine fx_aload rfl rfl ?_
  refine fx_iload rfl rfl ?_
  refine fx_const rfl (show Int32.ofInt 2 = (2 : Int32) by decide) ?_
  refine fx_iadd rfl ?_
  refine fx_sld rfl rfl b2 ?_
  refine fx_aload rfl rfl ?_
  refine fx_iload rfl rfl ?_
  refine fx_const rfl (show Int32.ofInt 3 = (3 : Int32) by decide) ?_
  refine fx_iadd rfl ?_
  refine fx_sld rfl rfl b3 ?_
  refine fx_call [.ref 0, .int (X.2 (i + (1 : Int32)).toNatClampNeg), .int (X.2 (i + (2 : Int32)).toNatClampNeg), .int (X.2 (i + (3 : Int32)).toNatClampNeg)] [] rfl (by decide) rfl rfl rfl rfl rfl (Nat.le_of_ble_eq_true rfl) (fx_rcv hx.1 rfl) (v_X_share hx h1) ?_
  refine fx_aload rfl rfl ?_
  refine fx_aload rfl rfl ?_
  refine fx_iload rfl rfl ?_
  refine fx_const rfl (show Int32.ofInt 1 = (1 : Int32) by decide) ?_
  refine fx_iadd rfl ?_
  refine fx_sld rfl rfl b1 ?_
  refine fx_aload rfl rfl ?_
  refine fx_iload rfl rfl ?_
  refine fx_const rfl (show Int32.ofInt 2 = (2 : Int32) by decide) ?_
  refine fx_iadd rfl ?_
  refine fx_sld rfl rfl b2 ?_
  refine fx_aload rfl rfl ?_
  refine fx_iload rfl rfl ?_
  refine fx_const rfl (show Int32.ofInt 3 = (3 : Int32) by decide) ?_
  refine fx_iadd rfl ?_
  refine fx_sld rfl rfl b3 ?_
  refine fx_call [.ref 92, .int (X.2 (i + (1 : Int32)).toNatClampNeg), .int (X.2 (i + (2 : Int32)).toNatClampNeg), .int (X.2 (i + (3 : Int32)).toNatClampNeg)] [.int r] rfl (by decide) rfl rfl rfl rfl rfl (Nat.le_of_ble_eq_true rfl) (fx_rcv hm.1 rfl) (v_M_share hm h2) ?_
  refine fx_iceq_j rfl rfl rfl ?_
  refine fx_iinc rfl (show Int32.ofInt 5 = (5 : Int32) by decide) rfl rfl ?_
  refine fx_back rfl rfl rfl ?_
  exact K
set_option maxRecDepth 100000 in
theorem v_law_18 {X : fv_X} {sh : fv_Sh} {k : Nat × Nat} {M : fv_M} {L D : Nat} {i r : Int32} {R : fv_R} (hx : fx_atX sh L D) (hm : fx_atM sh 92) (b1 : ¬ (i + (1 : Int32) < 0 ∨ X.1 ≤ (i + (1 : Int32)).toNatClampNeg)) (h1 : g_X_readings M L D (X.2 (i + (1 : Int32)).toNatClampNeg) = some r) (h2 : g_M_readings M 92 (X.2 (i + (1 : Int32)).toNatClampNeg) = some r) (K : fv_Rn X 168 18 [some (.ref fv_SCR), some (.ref 0), some (.ref 92), some (.int (i + (5 : Int32)))] [] k sh M R) : fv_Rn X 168 662 [some (.ref fv_SCR), some (.ref 0), some (.ref 92), some (.int i)] [] k sh M R := by
  refine fx_aload rfl rfl ?_
  refine fx_aload rfl rfl ?_
  refine fx_iload rfl rfl ?_
  refine fx_const rfl (show Int32.ofInt 1 = (1 : Int32) by decide) ?_
  refine fx_iadd rfl ?_
  refine fx_sld rfl rfl b1 ?_
  refine fx_call [.ref 0, .int (X.2 (i + (1 : Int32)).toNatClampNeg)] [] rfl (by decide) rfl rfl rfl rfl rfl (Nat.le_of_ble_eq_true rfl) (fx_rcv hx.1 rfl) (v_X_readings hx h1) ?_
  refine fx_aload rfl rfl ?_
  refine fx_aload rfl rfl ?_
  refine fx_iload rfl rfl ?_
  refine fx_const rfl (show Int32.ofInt 1 = (1 : Int32) by decide) ?_
  refine fx_iadd rfl ?_
  refine fx_sld rfl rfl b1 ?_
  refine fx_call [.ref 92, .int (X.2 (i + (1 : Int32)).toNatClampNeg)] [.int r] rfl (by decide) rfl rfl rfl rfl rfl (Nat.le_of_ble_eq_true rfl) (fx_rcv hm.1 rfl) (v_M_readings hm h2) ?_
  refine fx_iceq_j rfl rfl rfl ?_
  refine fx_iinc rfl (show Int32.ofInt 5 = (5 : Int32) by decide) rfl rfl ?_
  refine fx_back rfl rfl rfl ?_
  exact K
set_option maxRecDepth 100000 in
theorem v_law_19 {X : fv_X} {sh : fv_Sh} {k : Nat × Nat} {M : fv_M} {L D : Nat} {i r : Int32} {R : fv_R} (hx : fx_atX sh L D) (hm : fx_atM sh 92) (b1 : ¬ (i + (1 : Int32) < 0 ∨ X.1 ≤ (i + (1 : Int32)).toNatClampNeg)) (b2 : ¬ (i + (2 : Int32) < 0 ∨ X.1 ≤ (i + (2 : Int32)).toNatClampNeg)) (h1 : g_X_say M L D (X.2 (i + (1 : Int32)).toNatClampNeg) (X.2 (i + (2 : Int32)).toNatClampNeg) = some r) (h2 : g_M_say M 92 (X.2 (i + (1 : Int32)).toNatClampNeg) (X.2 (i + (2 : Int32)).toNatClampNeg) = some r) (K : fv_Rn X 168 18 [some (.ref fv_SCR), some (.ref 0), some (.ref 92), some (.int (i + (5 : Int32)))] [] k sh M R) : fv_Rn X 168 685 [some (.ref fv_SCR), some (.ref 0), some (.ref 92), some (.int i)] [] k sh M R := by
  refine fx_aload rfl rfl ?_
  refine fx_aload rfl rfl ?_
  refine fx_iload rfl rfl ?_
  refine fx_const rfl (show Int32.ofInt 1 = (1 : Int32) by decide) ?_
  refine fx_iadd rfl ?_
  refine fx_sld rfl rfl b1 ?_
  refine fx_aload rfl rfl ?_
  refine fx_iload rfl rfl ?_
  refine fx_const rfl (show Int32.ofInt 2 = (2 : Int32) by decide) ?_
  refine fx_iadd rfl ?_
  refine fx_sld rfl rfl b2 ?_
  refine fx_call [.ref 0, .int (X.2 (i + (1 : Int32)).toNatClampNeg), .int (X.2 (i + (2 : Int32)).toNatClampNeg)] [] rfl (by decide) rfl rfl rfl rfl rfl (Nat.le_of_ble_eq_true rfl) (fx_rcv hx.1 rfl) (v_X_say hx h1) ?_
  refine fx_aload rfl rfl ?_
  refine fx_aload rfl rfl ?_
  refine fx_iload rfl rfl ?_
  refine fx_const rfl (show Int32.ofInt 1 = (1 : Int32) by decide) ?_
  refine fx_iadd rfl ?_
  refine fx_sld rfl rfl b1 ?_
  refine fx_aload rfl rfl ?_
  refine fx_iload rfl rfl ?_
  refine fx_const rfl (show Int32.ofInt 2 = (2 : Int32) by decide) ?_
  refine fx_iadd rfl ?_
  refine fx_sld rfl rfl b2 ?_
  refine fx_call [.ref 92, .int (X.2 (i + (1 : Int32)).toNatClampNeg), .int (X.2 (i + (2 : Int32)).toNatClampNeg)] [.int r] rfl (by decide) rfl rfl rfl rfl rfl (Nat.le_of_ble_eq_true rfl) (fx_rcv hm.1 rfl) (v_M_say hm h2) ?_
  refine fx_iceq_j rfl rfl rfl ?_
  refine fx_iinc rfl (show Int32.ofInt 5 = (5 : Int32) by decide) rfl rfl ?_
  refine fx_back rfl rfl rfl ?_
  exact K
set_option maxRecDepth 100000 in
theorem v_law_20 {X : fv_X} {sh : fv_Sh} {k : Nat × Nat} {M : fv_M} {L D : Nat} {i r : Int32} {R : fv_R} (hx : fx_atX sh L D) (hm : fx_atM sh 92) (b1 : ¬ (i + (1 : Int32) < 0 ∨ X.1 ≤ (i + (1 : Int32)).toNatClampNeg)) (b2 : ¬ (i + (2 : Int32) < 0 ∨ X.1 ≤ (i + (2 : Int32)).toNatClampNeg)) (h1 : g_X_tells M L D (X.2 (i + (1 : Int32)).toNatClampNeg) (X.2 (i + (2 : Int32)).toNatClampNeg) = some r) (h2 : g_M_tells M 92 (X.2 (i + (1 : Int32)).toNatClampNeg) (X.2 (i + (2 : Int32)).toNatClampNeg) = some r) (K : fv_Rn X 168 18 [some (.ref fv_SCR), some (.ref 0), some (.ref 92), some (.int (i + (5 : Int32)))] [] k sh M R) : fv_Rn X 168 718 [some (.ref fv_SCR), some (.ref 0), some (.ref 92), some (.int i)] [] k sh M R := by
  refine fx_aload rfl rfl ?_
  refine fx_aload rfl rfl ?_
  refine fx_iload rfl rfl ?_
  refine fx_const rfl (show Int32.ofInt 1 = (1 : Int32) by decide) ?_
  refine fx_iadd rfl ?_
  refine fx_sld rfl rfl b1 ?_
  refine fx_aload rfl rfl ?_
  refine fx_iload rfl rfl ?_
  refine fx_const rfl (show Int32.ofInt 2 = (2 : Int32) by decide) ?_
  refine fx_iadd rfl ?_
  refine fx_sld rfl rfl b2 ?_
  refine fx_call [.ref 0, .int (X.2 (i + (1 : Int32)).toNatClampNeg), .int (X.2 (i + (2 : Int32)).toNatClampNeg)] [] rfl (by decide) rfl rfl rfl rfl rfl (Nat.le_of_ble_eq_true rfl) (fx_rcv hx.1 rfl) (v_X_tells hx h1) ?_
  refine fx_aload rfl rfl ?_
  refine fx_aload rfl rfl ?_
  refine fx_iload rfl rfl ?_
  refine fx_const rfl (show Int32.ofInt 1 = (1 : Int32) by decide) ?_
  refine fx_iadd rfl ?_
  refine fx_sld rfl rfl b1 ?_
  refine fx_aload rfl rfl ?_
  refine fx_iload rfl rfl ?_
  refine fx_const rfl (show Int32.ofInt 2 = (2 : Int32) by decide) ?_
  refine fx_iadd rfl ?_
  refine fx_sld rfl rfl b2 ?_
  refine fx_call [.ref 92, .int (X.2 (i + (1 : Int32)).toNatClampNeg), .int (X.2 (i + (2 : Int32)).toNatClampNeg)] [.int r] rfl (by decide) rfl rfl rfl rfl rfl (Nat.le_of_ble_eq_true rfl) (fx_rcv hm.1 rfl) (v_M_tells hm h2) ?_
  refine fx_iceq_j rfl rfl rfl ?_
  refine fx_iinc rfl (show Int32.ofInt 5 = (5 : Int32) by decide) rfl rfl ?_
  refine fx_back rfl rfl rfl ?_
  exact K
set_option maxRecDepth 100000 in
theorem v_law_21 {X : fv_X} {sh : fv_Sh} {k : Nat × Nat} {M : fv_M} {L D : Nat} {i r : Int32} {R : fv_R} (hx : fx_atX sh L D) (hm : fx_atM sh 92) (b1 : ¬ (i + (1 : Int32) < 0 ∨ X.1 ≤ (i + (1 : Int32)).toNatClampNeg)) (h1 : g_X_bred M L D (X.2 (i + (1 : Int32)).toNatClampNeg) = some r) (h2 : g_M_bred M 92 (X.2 (i + (1 : Int32)).toNatClampNeg) = some r) (K : fv_Rn X 168 18 [some (.ref fv_SCR), some (.ref 0), some (.ref 92), some (.int (i + (5 : Int32)))] [] k sh M R) : fv_Rn X 168 751 [some (.ref fv_SCR), some (.ref 0), some (.ref 92), some (.int i)] [] k sh M R := by
  refine fx_aload rfl rfl ?_
  refine fx_aload rfl rfl ?_
  refine fx_iload rfl rfl ?_
  refine fx_const rfl (show Int32.ofInt 1 = (1 : Int32) by decide) ?_
  refine fx_iadd rfl ?_
  refine fx_sld rfl rfl b1 ?_
  refine fx_call [.ref 0, .int (X.2 (i + (1 : Int32)).toNatClampNeg)] [] rfl (by decide) rfl rfl rfl rfl rfl (Nat.le_of_ble_eq_true rfl) (fx_rcv hx.1 rfl) (v_X_bred hx h1) ?_
  refine fx_aload rfl rfl ?_
  refine fx_aload rfl rfl ?_
  refine fx_iload rfl rfl ?_
  refine fx_const rfl (show Int32.ofInt 1 = (1 : Int32) by decide) ?_
  refine fx_iadd rfl ?_
  refine fx_sld rfl rfl b1 ?_
  refine fx_call [.ref 92, .int (X.2 (i + (1 : Int32)).toNatClampNeg)] [.int r] rfl (by decide) rfl rfl rfl rfl rfl (Nat.le_of_ble_eq_true rfl) (fx_rcv hm.1 rfl) (v_M_bred hm h2) ?_
  refine fx_iceq_j rfl rfl rfl ?_
  refine fx_iinc rfl (show Int32.ofInt 5 = (5 : Int32) by decide) rfl rfl ?_
  refine fx_back rfl rfl rfl ?_
  exact K
set_option maxRecDepth 100000 in
theorem v_law_22 {X : fv_X} {sh : fv_Sh} {k : Nat × Nat} {M M1 M2 : fv_M} {L D : Nat} {i r : Int32} {R : fv_R} (hx : fx_atX sh L D) (hm : fx_atM sh 92) (b1 : ¬ (i + (1 : Int32) < 0 ∨ X.1 ≤ (i + (1 : Int32)).toNatClampNeg)) (b2 : ¬ (i + (2 : Int32) < 0 ∨ X.1 ≤ (i + (2 : Int32)).toNatClampNeg)) (b3 : ¬ (i + (3 : Int32) < 0 ∨ X.1 ≤ (i + (3 : Int32)).toNatClampNeg)) (h1 : g_X_hear M L D (X.2 (i + (1 : Int32)).toNatClampNeg) (X.2 (i + (2 : Int32)).toNatClampNeg) (if (X.2 (i + (3 : Int32)).toNatClampNeg) = 0 then (0 : Int32) else (1 : Int32)) = some (r, M1)) (h2 : g_M_hear M1 92 (X.2 (i + (1 : Int32)).toNatClampNeg) (X.2 (i + (2 : Int32)).toNatClampNeg) (if (X.2 (i + (3 : Int32)).toNatClampNeg) = 0 then (0 : Int32) else (1 : Int32)) = some (r, M2)) (K : fv_Rn X 168 18 [some (.ref fv_SCR), some (.ref 0), some (.ref 92), some (.int (i + (5 : Int32)))] [] k sh M2 R) : fv_Rn X 168 774 [some (.ref fv_SCR), some (.ref 0), some (.ref 92), some (.int i)] [] k sh M R := by
  refine fx_aload rfl rfl ?_
  refine fx_aload rfl rfl ?_
  refine fx_iload rfl rfl ?_
  refine fx_const rfl (show Int32.ofInt 1 = (1 : Int32) by decide) ?_
  refine fx_iadd rfl ?_
  refine fx_sld rfl rfl b1 ?_
  refine fx_aload rfl rfl ?_
  refine fx_iload rfl rfl ?_
  refine fx_const rfl (show Int32.ofInt 2 = (2 : Int32) by decide) ?_
  refine fx_iadd rfl ?_
  refine fx_sld rfl rfl b2 ?_
  refine fx_aload rfl rfl ?_
  refine fx_iload rfl rfl ?_
  refine fx_const rfl (show Int32.ofInt 3 = (3 : Int32) by decide) ?_
  refine fx_iadd rfl ?_
  refine fx_sld rfl rfl b3 ?_
  by_cases c1 : (X.2 (i + (3 : Int32)).toNatClampNeg) = 0
  · rw [if_pos c1] at h1 h2
    refine fx_ifeq_j rfl rfl c1 ?_
    refine fx_const rfl (show Int32.ofInt 0 = (0 : Int32) by decide) ?_
    refine fx_call [.ref 0, .int (X.2 (i + (1 : Int32)).toNatClampNeg), .int (X.2 (i + (2 : Int32)).toNatClampNeg), .int (0 : Int32)] [] rfl (by decide) rfl rfl rfl rfl rfl (Nat.le_of_ble_eq_true rfl) (fx_rcv hx.1 rfl) (v_X_hear hx h1) ?_
    refine fx_aload rfl rfl ?_
    refine fx_aload rfl rfl ?_
    refine fx_iload rfl rfl ?_
    refine fx_const rfl (show Int32.ofInt 1 = (1 : Int32) by decide) ?_
    refine fx_iadd rfl ?_
    refine fx_sld rfl rfl b1 ?_
    refine fx_aload rfl rfl ?_
    refine fx_iload rfl rfl ?_
    refine fx_const rfl (show Int32.ofInt 2 = (2 : Int32) by decide) ?_
    refine fx_iadd rfl ?_
    refine fx_sld rfl rfl b2 ?_
    refine fx_aload rfl rfl ?_
    refine fx_iload rfl rfl ?_
    refine fx_const rfl (show Int32.ofInt 3 = (3 : Int32) by decide) ?_
    refine fx_iadd rfl ?_
    refine fx_sld rfl rfl b3 ?_
    refine fx_ifeq_j rfl rfl c1 ?_
    refine fx_const rfl (show Int32.ofInt 0 = (0 : Int32) by decide) ?_
    refine fx_call [.ref 92, .int (X.2 (i + (1 : Int32)).toNatClampNeg), .int (X.2 (i + (2 : Int32)).toNatClampNeg), .int (0 : Int32)] [.int r] rfl (by decide) rfl rfl rfl rfl rfl (Nat.le_of_ble_eq_true rfl) (fx_rcv hm.1 rfl) (v_M_hear hm h2) ?_
    refine fx_iceq_j rfl rfl rfl ?_
    refine fx_iinc rfl (show Int32.ofInt 5 = (5 : Int32) by decide) rfl rfl ?_
    refine fx_back rfl rfl rfl ?_
    exact K
  · rw [if_neg c1] at h1 h2
    refine fx_ifeq_s rfl c1 ?_
    refine fx_const rfl (show Int32.ofInt 1 = (1 : Int32) by decide) ?_
    refine fx_goto rfl rfl ?_
    refine fx_call [.ref 0, .int (X.2 (i + (1 : Int32)).toNatClampNeg), .int (X.2 (i + (2 : Int32)).toNatClampNeg), .int (1 : Int32)] [] rfl (by decide) rfl rfl rfl rfl rfl (Nat.le_of_ble_eq_true rfl) (fx_rcv hx.1 rfl) (v_X_hear hx h1) ?_
    refine fx_aload rfl rfl ?_
    refine fx_aload rfl rfl ?_
    refine fx_iload rfl rfl ?_
    refine fx_const rfl (show Int32.ofInt 1 = (1 : Int32) by decide) ?_
    refine fx_iadd rfl ?_
    refine fx_sld rfl rfl b1 ?_
    refine fx_aload rfl rfl ?_
    refine fx_iload rfl rfl ?_
    refine fx_const rfl (show Int32.ofInt 2 = (2 : Int32) by decide) ?_
    refine fx_iadd rfl ?_
    refine fx_sld rfl rfl b2 ?_
    refine fx_aload rfl rfl ?_
    refine fx_iload rfl rfl ?_
    refine fx_const rfl (show Int32.ofInt 3 = (3 : Int32) by decide) ?_
    refine fx_iadd rfl ?_
    refine fx_sld rfl rfl b3 ?_
    refine fx_ifeq_s rfl c1 ?_
    refine fx_const rfl (show Int32.ofInt 1 = (1 : Int32) by decide) ?_
    refine fx_goto rfl rfl ?_
    refine fx_call [.ref 92, .int (X.2 (i + (1 : Int32)).toNatClampNeg), .int (X.2 (i + (2 : Int32)).toNatClampNeg), .int (1 : Int32)] [.int r] rfl (by decide) rfl rfl rfl rfl rfl (Nat.le_of_ble_eq_true rfl) (fx_rcv hm.1 rfl) (v_M_hear hm h2) ?_
    refine fx_iceq_j rfl rfl rfl ?_
    refine fx_iinc rfl (show Int32.ofInt 5 = (5 : Int32) by decide) rfl rfl ?_
    refine fx_back rfl rfl rfl ?_
    exact K
set_option maxRecDepth 100000 in
theorem v_law_23 {X : fv_X} {sh : fv_Sh} {k : Nat × Nat} {M M1 M2 : fv_M} {L D : Nat} {i r : Int32} {R : fv_R} (hx : fx_atX sh L D) (hm : fx_atM sh 92)  (h1 : g_X_forget M L D  = some (r, M1)) (h2 : g_M_forget M1 92  = some (r, M2)) (K : fv_Rn X 168 18 [some (.ref fv_SCR), some (.ref 0), some (.ref 92), some (.int (i + (5 : Int32)))] [] k sh M2 R) : fv_Rn X 168 833 [some (.ref fv_SCR), some (.ref 0), some (.ref 92), some (.int i)] [] k sh M R := by
  refine fx_aload rfl rfl ?_
  refine fx_call [.ref 0] [] rfl (by decide) rfl rfl rfl rfl rfl (Nat.le_of_ble_eq_true rfl) (fx_rcv hx.1 rfl) (v_X_forget hx h1) ?_
  refine fx_aload rfl rfl ?_
  refine fx_call [.ref 92] [.int r] rfl (by decide) rfl rfl rfl rfl rfl (Nat.le_of_ble_eq_true rfl) (fx_rcv hm.1 rfl) (v_M_forget hm h2) ?_
  refine fx_iceq_j rfl rfl rfl ?_
  refine fx_iinc rfl (show Int32.ofInt 5 = (5 : Int32) by decide) rfl rfl ?_
  refine fx_back rfl rfl rfl ?_
  exact K
set_option maxRecDepth 100000 in
theorem v_law_24 {X : fv_X} {sh : fv_Sh} {k : Nat × Nat} {M M1 M2 : fv_M} {L D : Nat} {i r : Int32} {R : fv_R} (hx : fx_atX sh L D) (hm : fx_atM sh 92) (b1 : ¬ (i + (1 : Int32) < 0 ∨ X.1 ≤ (i + (1 : Int32)).toNatClampNeg)) (b2 : ¬ (i + (2 : Int32) < 0 ∨ X.1 ≤ (i + (2 : Int32)).toNatClampNeg)) (b3 : ¬ (i + (3 : Int32) < 0 ∨ X.1 ≤ (i + (3 : Int32)).toNatClampNeg)) (h1 : g_X_hoard M L D (X.2 (i + (1 : Int32)).toNatClampNeg) (X.2 (i + (2 : Int32)).toNatClampNeg) (X.2 (i + (3 : Int32)).toNatClampNeg) = some (r, M1)) (h2 : g_M_hoard M1 92 (X.2 (i + (1 : Int32)).toNatClampNeg) (X.2 (i + (2 : Int32)).toNatClampNeg) (X.2 (i + (3 : Int32)).toNatClampNeg) = some (r, M2)) (K : fv_Rn X 168 18 [some (.ref fv_SCR), some (.ref 0), some (.ref 92), some (.int (i + (5 : Int32)))] [] k sh M2 R) : fv_Rn X 168 846 [some (.ref fv_SCR), some (.ref 0), some (.ref 92), some (.int i)] [] k sh M R := by
  refine fx_aload rfl rfl ?_
  refine fx_aload rfl rfl ?_
  refine fx_iload rfl rfl ?_
  refine fx_const rfl (show Int32.ofInt 1 = (1 : Int32) by decide) ?_
  refine fx_iadd rfl ?_
  refine fx_sld rfl rfl b1 ?_
  refine fx_aload rfl rfl ?_
  refine fx_iload rfl rfl ?_
  refine fx_const rfl (show Int32.ofInt 2 = (2 : Int32) by decide) ?_
  refine fx_iadd rfl ?_
  refine fx_sld rfl rfl b2 ?_
  refine fx_aload rfl rfl ?_
  refine fx_iload rfl rfl ?_
  refine fx_const rfl (show Int32.ofInt 3 = (3 : Int32) by decide) ?_
  refine fx_iadd rfl ?_
  refine fx_sld rfl rfl b3 ?_
  refine fx_call [.ref 0, .int (X.2 (i + (1 : Int32)).toNatClampNeg), .int (X.2 (i + (2 : Int32)).toNatClampNeg), .int (X.2 (i + (3 : Int32)).toNatClampNeg)] [] rfl (by decide) rfl rfl rfl rfl rfl (Nat.le_of_ble_eq_true rfl) (fx_rcv hx.1 rfl) (v_X_hoard hx h1) ?_
  refine fx_aload rfl rfl ?_
  refine fx_aload rfl rfl ?_
  refine fx_iload rfl rfl ?_
  refine fx_const rfl (show Int32.ofInt 1 = (1 : Int32) by decide) ?_
  refine fx_iadd rfl ?_
  refine fx_sld rfl rfl b1 ?_
  refine fx_aload rfl rfl ?_
  refine fx_iload rfl rfl ?_
  refine fx_const rfl (show Int32.ofInt 2 = (2 : Int32) by decide) ?_
  refine fx_iadd rfl ?_
  refine fx_sld rfl rfl b2 ?_
  refine fx_aload rfl rfl ?_
  refine fx_iload rfl rfl ?_
  refine fx_const rfl (show Int32.ofInt 3 = (3 : Int32) by decide) ?_
  refine fx_iadd rfl ?_
  refine fx_sld rfl rfl b3 ?_
  refine fx_call [.ref 92, .int (X.2 (i + (1 : Int32)).toNatClampNeg), .int (X.2 (i + (2 : Int32)).toNatClampNeg), .int (X.2 (i + (3 : Int32)).toNatClampNeg)] [.int r] rfl (by decide) rfl rfl rfl rfl rfl (Nat.le_of_ble_eq_true rfl) (fx_rcv hm.1 rfl) (v_M_hoard hm h2) ?_
  refine fx_iceq_j rfl rfl rfl ?_
  refine fx_iinc rfl (show Int32.ofInt 5 = (5 : Int32) by decide) rfl rfl ?_
  refine fx_back rfl rfl rfl ?_
  exact K
set_option maxRecDepth 100000 in
theorem v_law_25 {X : fv_X} {sh : fv_Sh} {k : Nat × Nat} {M M1 M2 : fv_M} {L D : Nat} {i r : Int32} {R : fv_R} (hx : fx_atX sh L D) (hm : fx_atM sh 92) (b1 : ¬ (i + (1 : Int32) < 0 ∨ X.1 ≤ (i + (1 : Int32)).toNatClampNeg)) (b2 : ¬ (i + (2 : Int32) < 0 ∨ X.1 ≤ (i + (2 : Int32)).toNatClampNeg)) (b3 : ¬ (i + (3 : Int32) < 0 ∨ X.1 ≤ (i + (3 : Int32)).toNatClampNeg)) (b4 : ¬ (i + (4 : Int32) < 0 ∨ X.1 ≤ (i + (4 : Int32)).toNatClampNeg)) (h1 : g_X_caravan M L D (X.2 (i + (1 : Int32)).toNatClampNeg) (X.2 (i + (2 : Int32)).toNatClampNeg) (X.2 (i + (3 : Int32)).toNatClampNeg) (X.2 (i + (4 : Int32)).toNatClampNeg) = some (r, M1)) (h2 : g_M_caravan M1 92 (X.2 (i + (1 : Int32)).toNatClampNeg) (X.2 (i + (2 : Int32)).toNatClampNeg) (X.2 (i + (3 : Int32)).toNatClampNeg) (X.2 (i + (4 : Int32)).toNatClampNeg) = some (r, M2)) (K : fv_Rn X 168 18 [some (.ref fv_SCR), some (.ref 0), some (.ref 92), some (.int (i + (5 : Int32)))] [] k sh M2 R) : fv_Rn X 168 889 [some (.ref fv_SCR), some (.ref 0), some (.ref 92), some (.int i)] [] k sh M R := by
  refine fx_aload rfl rfl ?_
  refine fx_aload rfl rfl ?_
  refine fx_iload rfl rfl ?_
  refine fx_const rfl (show Int32.ofInt 1 = (1 : Int32) by decide) ?_
  refine fx_iadd rfl ?_
  refine fx_sld rfl rfl b1 ?_
  refine fx_aload rfl rfl ?_
  refine fx_iload rfl rfl ?_
  refine fx_const rfl (show Int32.ofInt 2 = (2 : Int32) by decide) ?_
  refine fx_iadd rfl ?_
  refine fx_sld rfl rfl b2 ?_
  refine fx_aload rfl rfl ?_
  refine fx_iload rfl rfl ?_
  refine fx_const rfl (show Int32.ofInt 3 = (3 : Int32) by decide) ?_
  refine fx_iadd rfl ?_
  refine fx_sld rfl rfl b3 ?_
  refine fx_aload rfl rfl ?_
  refine fx_iload rfl rfl ?_
  refine fx_const rfl (show Int32.ofInt 4 = (4 : Int32) by decide) ?_
  refine fx_iadd rfl ?_
  refine fx_sld rfl rfl b4 ?_
  refine fx_call [.ref 0, .int (X.2 (i + (1 : Int32)).toNatClampNeg), .int (X.2 (i + (2 : Int32)).toNatClampNeg), .int (X.2 (i + (3 : Int32)).toNatClampNeg), .int (X.2 (i + (4 : Int32)).toNatClampNeg)] [] rfl (by decide) rfl rfl rfl rfl rfl (Nat.le_of_ble_eq_true rfl) (fx_rcv hx.1 rfl) (v_X_caravan hx h1) ?_
  refine fx_aload rfl rfl ?_
  refine fx_aload rfl rfl ?_
  refine fx_iload rfl rfl ?_
  refine fx_const rfl (show Int32.ofInt 1 = (1 : Int32) by decide) ?_
  refine fx_iadd rfl ?_
  refine fx_sld rfl rfl b1 ?_
  refine fx_aload rfl rfl ?_
  refine fx_iload rfl rfl ?_
  refine fx_const rfl (show Int32.ofInt 2 = (2 : Int32) by decide) ?_
  refine fx_iadd rfl ?_
  refine fx_sld rfl rfl b2 ?_
  refine fx_aload rfl rfl ?_
  refine fx_iload rfl rfl ?_
  refine fx_const rfl (show Int32.ofInt 3 = (3 : Int32) by decide) ?_
  refine fx_iadd rfl ?_
  refine fx_sld rfl rfl b3 ?_
  refine fx_aload rfl rfl ?_
  refine fx_iload rfl rfl ?_
  refine fx_const rfl (show Int32.ofInt 4 = (4 : Int32) by decide) ?_
  refine fx_iadd rfl ?_
  refine fx_sld rfl rfl b4 ?_
  refine fx_call [.ref 92, .int (X.2 (i + (1 : Int32)).toNatClampNeg), .int (X.2 (i + (2 : Int32)).toNatClampNeg), .int (X.2 (i + (3 : Int32)).toNatClampNeg), .int (X.2 (i + (4 : Int32)).toNatClampNeg)] [.int r] rfl (by decide) rfl rfl rfl rfl rfl (Nat.le_of_ble_eq_true rfl) (fx_rcv hm.1 rfl) (v_M_caravan hm h2) ?_
  refine fx_iceq_j rfl rfl rfl ?_
  refine fx_iinc rfl (show Int32.ofInt 5 = (5 : Int32) by decide) rfl rfl ?_
  refine fx_back rfl rfl rfl ?_
  exact K
set_option maxRecDepth 100000 in
theorem v_law_26 {X : fv_X} {sh : fv_Sh} {k : Nat × Nat} {M M1 M2 : fv_M} {L D : Nat} {i r : Int32} {R : fv_R} (hx : fx_atX sh L D) (hm : fx_atM sh 92) (b1 : ¬ (i + (1 : Int32) < 0 ∨ X.1 ≤ (i + (1 : Int32)).toNatClampNeg)) (b2 : ¬ (i + (2 : Int32) < 0 ∨ X.1 ≤ (i + (2 : Int32)).toNatClampNeg)) (b3 : ¬ (i + (3 : Int32) < 0 ∨ X.1 ≤ (i + (3 : Int32)).toNatClampNeg)) (h1 : g_X_decade M L D (X.2 (i + (1 : Int32)).toNatClampNeg) (X.2 (i + (2 : Int32)).toNatClampNeg) (X.2 (i + (3 : Int32)).toNatClampNeg) = some (r, M1)) (h2 : g_M_decade M1 92 (X.2 (i + (1 : Int32)).toNatClampNeg) (X.2 (i + (2 : Int32)).toNatClampNeg) (X.2 (i + (3 : Int32)).toNatClampNeg) = some (r, M2)) (K : fv_Rn X 168 18 [some (.ref fv_SCR), some (.ref 0), some (.ref 92), some (.int (i + (5 : Int32)))] [] k sh M2 R) : fv_Rn X 168 942 [some (.ref fv_SCR), some (.ref 0), some (.ref 92), some (.int i)] [] k sh M R := by
  refine fx_aload rfl rfl ?_
  refine fx_aload rfl rfl ?_
  refine fx_iload rfl rfl ?_
  refine fx_const rfl (show Int32.ofInt 1 = (1 : Int32) by decide) ?_
  refine fx_iadd rfl ?_
  refine fx_sld rfl rfl b1 ?_
  refine fx_aload rfl rfl ?_
  refine fx_iload rfl rfl ?_
  refine fx_const rfl (show Int32.ofInt 2 = (2 : Int32) by decide) ?_
  refine fx_iadd rfl ?_
  refine fx_sld rfl rfl b2 ?_
  refine fx_aload rfl rfl ?_
  refine fx_iload rfl rfl ?_
  refine fx_const rfl (show Int32.ofInt 3 = (3 : Int32) by decide) ?_
  refine fx_iadd rfl ?_
  refine fx_sld rfl rfl b3 ?_
  refine fx_call [.ref 0, .int (X.2 (i + (1 : Int32)).toNatClampNeg), .int (X.2 (i + (2 : Int32)).toNatClampNeg), .int (X.2 (i + (3 : Int32)).toNatClampNeg)] [] rfl (by decide) rfl rfl rfl rfl rfl (Nat.le_of_ble_eq_true rfl) (fx_rcv hx.1 rfl) (v_X_decade hx h1) ?_
  refine fx_aload rfl rfl ?_
  refine fx_aload rfl rfl ?_
  refine fx_iload rfl rfl ?_
  refine fx_const rfl (show Int32.ofInt 1 = (1 : Int32) by decide) ?_
  refine fx_iadd rfl ?_
  refine fx_sld rfl rfl b1 ?_
  refine fx_aload rfl rfl ?_
  refine fx_iload rfl rfl ?_
  refine fx_const rfl (show Int32.ofInt 2 = (2 : Int32) by decide) ?_
  refine fx_iadd rfl ?_
  refine fx_sld rfl rfl b2 ?_
  refine fx_aload rfl rfl ?_
  refine fx_iload rfl rfl ?_
  refine fx_const rfl (show Int32.ofInt 3 = (3 : Int32) by decide) ?_
  refine fx_iadd rfl ?_
  refine fx_sld rfl rfl b3 ?_
  refine fx_call [.ref 92, .int (X.2 (i + (1 : Int32)).toNatClampNeg), .int (X.2 (i + (2 : Int32)).toNatClampNeg), .int (X.2 (i + (3 : Int32)).toNatClampNeg)] [.int r] rfl (by decide) rfl rfl rfl rfl rfl (Nat.le_of_ble_eq_true rfl) (fx_rcv hm.1 rfl) (v_M_decade hm h2) ?_
  refine fx_iceq_j rfl rfl rfl ?_
  refine fx_iinc rfl (show Int32.ofInt 5 = (5 : Int32) by decide) rfl rfl ?_
  refine fx_back rfl rfl rfl ?_
  exact K
set_option maxRecDepth 100000 in
theorem v_law_27 {X : fv_X} {sh : fv_Sh} {k : Nat × Nat} {M M1 M2 : fv_M} {L D : Nat} {i r : Int32} {R : fv_R} (hx : fx_atX sh L D) (hm : fx_atM sh 92)  (h1 : g_X_keep M L D  = some (r, M1)) (h2 : g_M_keep M1 92  = some (r, M2)) (K : fv_Rn X 168 18 [some (.ref fv_SCR), some (.ref 0), some (.ref 92), some (.int (i + (5 : Int32)))] [] k sh M2 R) : fv_Rn X 168 985 [some (.ref fv_SCR), some (.ref 0), some (.ref 92), some (.int i)] [] k sh M R := by
  refine fx_aload rfl rfl ?_
  refine fx_call [.ref 0] [] rfl (by decide) rfl rfl rfl rfl rfl (Nat.le_of_ble_eq_true rfl) (fx_rcv hx.1 rfl) (v_X_keep hx h1) ?_
  refine fx_aload rfl rfl ?_
  refine fx_call [.ref 92] [.int r] rfl (by decide) rfl rfl rfl rfl rfl (Nat.le_of_ble_eq_true rfl) (fx_rcv hm.1 rfl) (v_M_keep hm h2) ?_
  refine fx_iceq_j rfl rfl rfl ?_
  refine fx_iinc rfl (show Int32.ofInt 5 = (5 : Int32) by decide) rfl rfl ?_
  refine fx_back rfl rfl rfl ?_
  exact K
set_option maxRecDepth 100000 in
theorem v_law_28 {X : fv_X} {sh : fv_Sh} {k : Nat × Nat} {M M1 M2 : fv_M} {L D : Nat} {i r : Int32} {R : fv_R} (hx : fx_atX sh L D) (hm : fx_atM sh 92)  (h1 : g_X_back M L D  = some (r, M1)) (h2 : g_M_back M1 92  = some (r, M2)) (K : fv_Rn X 168 18 [some (.ref fv_SCR), some (.ref 0), some (.ref 92), some (.int (i + (5 : Int32)))] [] k sh M2 R) : fv_Rn X 168 998 [some (.ref fv_SCR), some (.ref 0), some (.ref 92), some (.int i)] [] k sh M R := by
  refine fx_aload rfl rfl ?_
  refine fx_call [.ref 0] [] rfl (by decide) rfl rfl rfl rfl rfl (Nat.le_of_ble_eq_true rfl) (fx_rcv hx.1 rfl) (v_X_back hx h1) ?_
  refine fx_aload rfl rfl ?_
  refine fx_call [.ref 92] [.int r] rfl (by decide) rfl rfl rfl rfl rfl (Nat.le_of_ble_eq_true rfl) (fx_rcv hm.1 rfl) (v_M_back hm h2) ?_
  refine fx_iceq_j rfl rfl rfl ?_
  refine fx_iinc rfl (show Int32.ofInt 5 = (5 : Int32) by decide) rfl rfl ?_
  refine fx_back rfl rfl rfl ?_
  exact K
set_option maxRecDepth 100000 in
theorem v_law_29 {X : fv_X} {sh : fv_Sh} {k : Nat × Nat} {M : fv_M} {L D : Nat} {i r : Int32} {R : fv_R} (hx : fx_atX sh L D) (hm : fx_atM sh 92) (b1 : ¬ (i + (1 : Int32) < 0 ∨ X.1 ≤ (i + (1 : Int32)).toNatClampNeg)) (h1 : g_X_count M L D (X.2 (i + (1 : Int32)).toNatClampNeg) = some r) (h2 : g_M_count M 92 (X.2 (i + (1 : Int32)).toNatClampNeg) = some r) (K : fv_Rn X 168 18 [some (.ref fv_SCR), some (.ref 0), some (.ref 92), some (.int (i + (5 : Int32)))] [] k sh M R) : fv_Rn X 168 1011 [some (.ref fv_SCR), some (.ref 0), some (.ref 92), some (.int i)] [] k sh M R := by
  refine fx_aload rfl rfl ?_
  refine fx_aload rfl rfl ?_
  refine fx_iload rfl rfl ?_
  refine fx_const rfl (show Int32.ofInt 1 = (1 : Int32) by decide) ?_
  refine fx_iadd rfl ?_
  refine fx_sld rfl rfl b1 ?_
  refine fx_call [.ref 0, .int (X.2 (i + (1 : Int32)).toNatClampNeg)] [] rfl (by decide) rfl rfl rfl rfl rfl (Nat.le_of_ble_eq_true rfl) (fx_rcv hx.1 rfl) (v_X_count hx h1) ?_
  refine fx_aload rfl rfl ?_
  refine fx_aload rfl rfl ?_
  refine fx_iload rfl rfl ?_
  refine fx_const rfl (show Int32.ofInt 1 = (1 : Int32) by decide) ?_
  refine fx_iadd rfl ?_
  refine fx_sld rfl rfl b1 ?_
  refine fx_call [.ref 92, .int (X.2 (i + (1 : Int32)).toNatClampNeg)] [.int r] rfl (by decide) rfl rfl rfl rfl rfl (Nat.le_of_ble_eq_true rfl) (fx_rcv hm.1 rfl) (v_M_count hm h2) ?_
  refine fx_iceq_j rfl rfl rfl ?_
  refine fx_iinc rfl (show Int32.ofInt 5 = (5 : Int32) by decide) rfl rfl ?_
  refine fx_back rfl rfl rfl ?_
  exact K
set_option maxRecDepth 100000 in
theorem v_law_d {X : fv_X} {sh : fv_Sh} {k : Nat × Nat} {M : fv_M} {i : Int32} {R : fv_R} (K : fv_Rn X 168 18 [some (.ref fv_SCR), some (.ref 0), some (.ref 92), some (.int (i + (5 : Int32)))] [] k sh M R) : fv_Rn X 168 1034 [some (.ref fv_SCR), some (.ref 0), some (.ref 92), some (.int i)] [] k sh M R := by
  refine fx_iinc rfl (show Int32.ofInt 5 = (5 : Int32) by decide) rfl rfl ?_
  refine fx_back rfl rfl rfl ?_
  exact K
/-- one call of both: the class and the reference answer alike, and what stands behind -/
def fx_one (M : fv_M) (L D : Nat) (a1 a2 a3 a4 : Int32) (M2 : fv_M) (L2 D2 : Nat) (c : Nat) : Prop := match c with
  | 0 => ∃ r : Int32, ∃ M1 : fv_M, g_X_write M L D a1 = some (r, M1) ∧ g_M_write M1 92 a1 = some (r, M2) ∧ L2 = L ∧ D2 = D
  | 1 => ∃ r : Int32, ∃ M1 : fv_M, g_X_wipe M L D  = some (r, M1) ∧ g_M_wipe M1 92  = some (r, M2) ∧ L2 = L ∧ D2 = D
  | 2 => ∃ r : Int32, ∃ M1 : fv_M, g_X_fault M L D  = some (r, M1) ∧ g_M_fault M1 92  = some (r, M2) ∧ L2 = L ∧ D2 = D
  | 3 => ∃ r : Int32, ∃ M1 : fv_M, g_X_lay M L D  = some (r, M1, L2, D2) ∧ g_M_lay M1 92  = some (r, M2)
  | 4 => ∃ r : Int32, g_X_verb M L D a1 a2 = some r ∧ g_M_verb M 92 a1 a2 = some r ∧ M2 = M ∧ L2 = L ∧ D2 = D
  | 5 => ∃ r : Int32, g_X_noun M L D a1 = some r ∧ g_M_noun M 92 a1 = some r ∧ M2 = M ∧ L2 = L ∧ D2 = D
  | 6 => ∃ r : Int32, g_X_village M L D a1 a2 = some r ∧ g_M_village M 92 a1 a2 = some r ∧ M2 = M ∧ L2 = L ∧ D2 = D
  | 7 => ∃ r : Int32, g_X_stock M L D a1 a2 = some r ∧ g_M_stock M 92 a1 a2 = some r ∧ M2 = M ∧ L2 = L ∧ D2 = D
  | 8 => ∃ r : Int32, g_X_work M L D a1 a2 = some r ∧ g_M_work M 92 a1 a2 = some r ∧ M2 = M ∧ L2 = L ∧ D2 = D
  | 9 => ∃ r : Int32, ∃ M1 : fv_M, g_X_pass M L D a1 = some (r, M1) ∧ g_M_pass M1 92 a1 = some (r, M2) ∧ L2 = L ∧ D2 = D
  | 10 => ∃ r : Int32, ∃ M1 : fv_M, g_X_give M L D a1 a2 a3 a4 = some (r, M1) ∧ g_M_give M1 92 a1 a2 a3 a4 = some (r, M2) ∧ L2 = L ∧ D2 = D
  | 11 => ∃ r : Int32, ∃ M1 : fv_M, g_X_sow M L D a1 a2 = some (r, M1) ∧ g_M_sow M1 92 a1 a2 = some (r, M2) ∧ L2 = L ∧ D2 = D
  | 12 => ∃ r : Int32, ∃ M1 : fv_M, g_X_undo M L D  = some (r, M1) ∧ g_M_undo M1 92  = some (r, M2) ∧ L2 = L ∧ D2 = D
  | 13 => ∃ r : Int32, ∃ M1 : fv_M, g_X_behind M L D a1 a2 a3 a4 = some (r, M1) ∧ g_M_behind M1 92 a1 a2 a3 a4 = some (r, M2) ∧ L2 = L ∧ D2 = D
  | 14 => ∃ r : Int32, ∃ M1 : fv_M, g_X_silent M L D a1 = some (r, M1) ∧ g_M_silent M1 92 a1 = some (r, M2) ∧ L2 = L ∧ D2 = D
  | 15 => ∃ r : Int32, ∃ M1 : fv_M, g_X_lasts M L D a1 = some (r, M1) ∧ g_M_lasts M1 92 a1 = some (r, M2) ∧ L2 = L ∧ D2 = D
  | 16 => ∃ r : Int32, g_X_sent M L D  = some r ∧ g_M_sent M 92  = some r ∧ M2 = M ∧ L2 = L ∧ D2 = D
  | 17 => ∃ r : Int32, g_X_share M L D a1 a2 a3 = some r ∧ g_M_share M 92 a1 a2 a3 = some r ∧ M2 = M ∧ L2 = L ∧ D2 = D
  | 18 => ∃ r : Int32, g_X_readings M L D a1 = some r ∧ g_M_readings M 92 a1 = some r ∧ M2 = M ∧ L2 = L ∧ D2 = D
  | 19 => ∃ r : Int32, g_X_say M L D a1 a2 = some r ∧ g_M_say M 92 a1 a2 = some r ∧ M2 = M ∧ L2 = L ∧ D2 = D
  | 20 => ∃ r : Int32, g_X_tells M L D a1 a2 = some r ∧ g_M_tells M 92 a1 a2 = some r ∧ M2 = M ∧ L2 = L ∧ D2 = D
  | 21 => ∃ r : Int32, g_X_bred M L D a1 = some r ∧ g_M_bred M 92 a1 = some r ∧ M2 = M ∧ L2 = L ∧ D2 = D
  | 22 => ∃ r : Int32, ∃ M1 : fv_M, g_X_hear M L D a1 a2 (if a3 = 0 then (0 : Int32) else (1 : Int32)) = some (r, M1) ∧ g_M_hear M1 92 a1 a2 (if a3 = 0 then (0 : Int32) else (1 : Int32)) = some (r, M2) ∧ L2 = L ∧ D2 = D
  | 23 => ∃ r : Int32, ∃ M1 : fv_M, g_X_forget M L D  = some (r, M1) ∧ g_M_forget M1 92  = some (r, M2) ∧ L2 = L ∧ D2 = D
  | 24 => ∃ r : Int32, ∃ M1 : fv_M, g_X_hoard M L D a1 a2 a3 = some (r, M1) ∧ g_M_hoard M1 92 a1 a2 a3 = some (r, M2) ∧ L2 = L ∧ D2 = D
  | 25 => ∃ r : Int32, ∃ M1 : fv_M, g_X_caravan M L D a1 a2 a3 a4 = some (r, M1) ∧ g_M_caravan M1 92 a1 a2 a3 a4 = some (r, M2) ∧ L2 = L ∧ D2 = D
  | 26 => ∃ r : Int32, ∃ M1 : fv_M, g_X_decade M L D a1 a2 a3 = some (r, M1) ∧ g_M_decade M1 92 a1 a2 a3 = some (r, M2) ∧ L2 = L ∧ D2 = D
  | 27 => ∃ r : Int32, ∃ M1 : fv_M, g_X_keep M L D  = some (r, M1) ∧ g_M_keep M1 92  = some (r, M2) ∧ L2 = L ∧ D2 = D
  | 28 => ∃ r : Int32, ∃ M1 : fv_M, g_X_back M L D  = some (r, M1) ∧ g_M_back M1 92  = some (r, M2) ∧ L2 = L ∧ D2 = D
  | 29 => ∃ r : Int32, g_X_count M L D a1 = some r ∧ g_M_count M 92 a1 = some r ∧ M2 = M ∧ L2 = L ∧ D2 = D
  | _ => M2 = M ∧ L2 = L ∧ D2 = D
set_option maxRecDepth 100000 in
theorem v_law_head {X : fv_X} {k : Nat × Nat} {M M2 : fv_M} {L D L2 D2 : Nat} {i : Int32} {R : fv_R} {c : Nat} (hc : c < 32) (hLD : fx_LD L D) (hLD2 : fx_LD L2 D2) (h5 : ¬ Int32.ofNat X.1 - (5 : Int32) < i) (b0 : ¬ (i < 0 ∨ X.1 ≤ i.toNatClampNeg)) (b1 : ¬ (i + (1 : Int32) < 0 ∨ X.1 ≤ (i + (1 : Int32)).toNatClampNeg)) (b2 : ¬ (i + (2 : Int32) < 0 ∨ X.1 ≤ (i + (2 : Int32)).toNatClampNeg)) (b3 : ¬ (i + (3 : Int32) < 0 ∨ X.1 ≤ (i + (3 : Int32)).toNatClampNeg)) (b4 : ¬ (i + (4 : Int32) < 0 ∨ X.1 ≤ (i + (4 : Int32)).toNatClampNeg)) (hop : X.2 i.toNatClampNeg &&& (31 : Int32) = nI c)
    (h : fx_one M L D (X.2 (i + (1 : Int32)).toNatClampNeg) (X.2 (i + (2 : Int32)).toNatClampNeg) (X.2 (i + (3 : Int32)).toNatClampNeg) (X.2 (i + (4 : Int32)).toNatClampNeg) M2 L2 D2 c) (K : fv_Rn X 168 18 [some (.ref fv_SCR), some (.ref 0), some (.ref 92), some (.int (i + (5 : Int32)))] [] k (fx_sh L2 D2) M2 R) : fv_Rn X 168 18 [some (.ref fv_SCR), some (.ref 0), some (.ref 92), some (.int i)] [] k (fx_sh L D) M R := by
  refine fx_iload rfl rfl ?_
  refine fx_aload rfl rfl ?_
  refine fx_slen rfl rfl ?_
  refine fx_const rfl (show Int32.ofInt 5 = (5 : Int32) by decide) ?_
  refine fx_isub rfl ?_
  refine fx_icgt_s rfl h5 ?_
  refine fx_aload rfl rfl ?_
  refine fx_iload rfl rfl ?_
  refine fx_sld rfl rfl b0 ?_
  refine fx_const rfl (show Int32.ofInt 31 = (31 : Int32) by decide) ?_
  refine fx_iand rfl ?_
  have hx := fx_sh_X hLD
  have hm := fx_sh_M L D
  rcases (by omega : c = 0 ∨ c = 1 ∨ c = 2 ∨ c = 3 ∨ c = 4 ∨ c = 5 ∨ c = 6 ∨ c = 7 ∨ c = 8 ∨ c = 9 ∨ c = 10 ∨ c = 11 ∨ c = 12 ∨ c = 13 ∨ c = 14 ∨ c = 15 ∨ c = 16 ∨ c = 17 ∨ c = 18 ∨ c = 19 ∨ c = 20 ∨ c = 21 ∨ c = 22 ∨ c = 23 ∨ c = 24 ∨ c = 25 ∨ c = 26 ∨ c = 27 ∨ c = 28 ∨ c = 29 ∨ c = 30 ∨ c = 31) with rfl | rfl | rfl | rfl | rfl | rfl | rfl | rfl | rfl | rfl | rfl | rfl | rfl | rfl | rfl | rfl | rfl | rfl | rfl | rfl | rfl | rfl | rfl | rfl | rfl | rfl | rfl | rfl | rfl | rfl | rfl | rfl
  · refine fx_tsw (t := 168) rfl (by rw [hop]; rfl) ?_
    obtain ⟨r, M1, h1, h2, rfl, rfl⟩ := h
    exact v_law_0 hx hm b1 h1 h2 K
  · refine fx_tsw (t := 191) rfl (by rw [hop]; rfl) ?_
    obtain ⟨r, M1, h1, h2, rfl, rfl⟩ := h
    exact v_law_1 hx hm  h1 h2 K
  · refine fx_tsw (t := 204) rfl (by rw [hop]; rfl) ?_
    obtain ⟨r, M1, h1, h2, rfl, rfl⟩ := h
    exact v_law_2 hx hm  h1 h2 K
  · refine fx_tsw (t := 217) rfl (by rw [hop]; rfl) ?_
    obtain ⟨r, M1, h1, h2⟩ := h
    exact v_law_3 hx hm (fx_sh_M _ _)  h1 h2 K
  · refine fx_tsw (t := 230) rfl (by rw [hop]; rfl) ?_
    obtain ⟨r, h1, h2, rfl, rfl, rfl⟩ := h
    exact v_law_4 hx hm b1 b2 h1 h2 K
  · refine fx_tsw (t := 263) rfl (by rw [hop]; rfl) ?_
    obtain ⟨r, h1, h2, rfl, rfl, rfl⟩ := h
    exact v_law_5 hx hm b1 h1 h2 K
  · refine fx_tsw (t := 286) rfl (by rw [hop]; rfl) ?_
    obtain ⟨r, h1, h2, rfl, rfl, rfl⟩ := h
    exact v_law_6 hx hm b1 b2 h1 h2 K
  · refine fx_tsw (t := 319) rfl (by rw [hop]; rfl) ?_
    obtain ⟨r, h1, h2, rfl, rfl, rfl⟩ := h
    exact v_law_7 hx hm b1 b2 h1 h2 K
  · refine fx_tsw (t := 352) rfl (by rw [hop]; rfl) ?_
    obtain ⟨r, h1, h2, rfl, rfl, rfl⟩ := h
    exact v_law_8 hx hm b1 b2 h1 h2 K
  · refine fx_tsw (t := 385) rfl (by rw [hop]; rfl) ?_
    obtain ⟨r, M1, h1, h2, rfl, rfl⟩ := h
    exact v_law_9 hx hm b1 h1 h2 K
  · refine fx_tsw (t := 408) rfl (by rw [hop]; rfl) ?_
    obtain ⟨r, M1, h1, h2, rfl, rfl⟩ := h
    exact v_law_10 hx hm b1 b2 b3 b4 h1 h2 K
  · refine fx_tsw (t := 461) rfl (by rw [hop]; rfl) ?_
    obtain ⟨r, M1, h1, h2, rfl, rfl⟩ := h
    exact v_law_11 hx hm b1 b2 h1 h2 K
  · refine fx_tsw (t := 494) rfl (by rw [hop]; rfl) ?_
    obtain ⟨r, M1, h1, h2, rfl, rfl⟩ := h
    exact v_law_12 hx hm  h1 h2 K
  · refine fx_tsw (t := 507) rfl (by rw [hop]; rfl) ?_
    obtain ⟨r, M1, h1, h2, rfl, rfl⟩ := h
    exact v_law_13 hx hm b1 b2 b3 b4 h1 h2 K
  · refine fx_tsw (t := 560) rfl (by rw [hop]; rfl) ?_
    obtain ⟨r, M1, h1, h2, rfl, rfl⟩ := h
    exact v_law_14 hx hm b1 h1 h2 K
  · refine fx_tsw (t := 583) rfl (by rw [hop]; rfl) ?_
    obtain ⟨r, M1, h1, h2, rfl, rfl⟩ := h
    exact v_law_15 hx hm b1 h1 h2 K
  · refine fx_tsw (t := 606) rfl (by rw [hop]; rfl) ?_
    obtain ⟨r, h1, h2, rfl, rfl, rfl⟩ := h
    exact v_law_16 hx hm  h1 h2 K
  · refine fx_tsw (t := 619) rfl (by rw [hop]; rfl) ?_
    obtain ⟨r, h1, h2, rfl, rfl, rfl⟩ := h
    exact v_law_17 hx hm b1 b2 b3 h1 h2 K
  · refine fx_tsw (t := 662) rfl (by rw [hop]; rfl) ?_
    obtain ⟨r, h1, h2, rfl, rfl, rfl⟩ := h
    exact v_law_18 hx hm b1 h1 h2 K
  · refine fx_tsw (t := 685) rfl (by rw [hop]; rfl) ?_
    obtain ⟨r, h1, h2, rfl, rfl, rfl⟩ := h
    exact v_law_19 hx hm b1 b2 h1 h2 K
  · refine fx_tsw (t := 718) rfl (by rw [hop]; rfl) ?_
    obtain ⟨r, h1, h2, rfl, rfl, rfl⟩ := h
    exact v_law_20 hx hm b1 b2 h1 h2 K
  · refine fx_tsw (t := 751) rfl (by rw [hop]; rfl) ?_
    obtain ⟨r, h1, h2, rfl, rfl, rfl⟩ := h
    exact v_law_21 hx hm b1 h1 h2 K
  · refine fx_tsw (t := 774) rfl (by rw [hop]; rfl) ?_
    obtain ⟨r, M1, h1, h2, rfl, rfl⟩ := h
    exact v_law_22 hx hm b1 b2 b3 h1 h2 K
  · refine fx_tsw (t := 833) rfl (by rw [hop]; rfl) ?_
    obtain ⟨r, M1, h1, h2, rfl, rfl⟩ := h
    exact v_law_23 hx hm  h1 h2 K
  · refine fx_tsw (t := 846) rfl (by rw [hop]; rfl) ?_
    obtain ⟨r, M1, h1, h2, rfl, rfl⟩ := h
    exact v_law_24 hx hm b1 b2 b3 h1 h2 K
  · refine fx_tsw (t := 889) rfl (by rw [hop]; rfl) ?_
    obtain ⟨r, M1, h1, h2, rfl, rfl⟩ := h
    exact v_law_25 hx hm b1 b2 b3 b4 h1 h2 K
  · refine fx_tsw (t := 942) rfl (by rw [hop]; rfl) ?_
    obtain ⟨r, M1, h1, h2, rfl, rfl⟩ := h
    exact v_law_26 hx hm b1 b2 b3 h1 h2 K
  · refine fx_tsw (t := 985) rfl (by rw [hop]; rfl) ?_
    obtain ⟨r, M1, h1, h2, rfl, rfl⟩ := h
    exact v_law_27 hx hm  h1 h2 K
  · refine fx_tsw (t := 998) rfl (by rw [hop]; rfl) ?_
    obtain ⟨r, M1, h1, h2, rfl, rfl⟩ := h
    exact v_law_28 hx hm  h1 h2 K
  · refine fx_tsw (t := 1011) rfl (by rw [hop]; rfl) ?_
    obtain ⟨r, h1, h2, rfl, rfl, rfl⟩ := h
    exact v_law_29 hx hm b1 h1 h2 K
  · refine fx_tsw (t := 1034) rfl (by rw [hop]; rfl) ?_
    obtain ⟨rfl, rfl, rfl⟩ := h
    exact v_law_d K
  · refine fx_tsw (t := 1034) rfl (by rw [hop]; rfl) ?_
    obtain ⟨rfl, rfl, rfl⟩ := h
    exact v_law_d K
set_option maxRecDepth 100000 in
theorem v_law_exit {X : fv_X} {k : Nat × Nat} {sh : fv_Sh} {M : fv_M} {i : Int32} (h5 : Int32.ofNat X.1 - (5 : Int32) < i) : fv_Rn X 168 18 [some (.ref fv_SCR), some (.ref 0), some (.ref 92), some (.int i)] [] k sh M (some (.int 1), sh, M) := by
  refine fx_iload rfl rfl ?_
  refine fx_aload rfl rfl ?_
  refine fx_slen rfl rfl ?_
  refine fx_const rfl (show Int32.ofInt 5 = (5 : Int32) by decide) ?_
  refine fx_isub rfl ?_
  refine fx_icgt_j rfl rfl h5 ?_
  refine fx_const rfl (show Int32.ofInt 1 = (1 : Int32) by decide) ?_
  exact fx_ret rfl rfl
theorem fx_sub5 {n : Nat} (h : n ≤ 320) : (Int32.ofNat n - (5 : Int32)).toInt = (n : Int) - 5 := by
  have := pk_sub_toInt (a := n) (b := 5) (by omega) (by omega)
  exact this
theorem fx_inb {n j : Nat} (h : j < n) (hn : j < 2 ^ 31) : ¬ (nI j < 0 ∨ n ≤ (nI j).toNatClampNeg) := by
  rw [nI_clamp hn]
  intro q
  rcases q with q | q
  · exact nI_pos hn q
  · omega
theorem fx_inb1 {n j : Nat} (h : j + 1 < n) (hn : j + 1 < 2 ^ 31) : ¬ (nI j + (1 : Int32) < 0 ∨ n ≤ (nI j + (1 : Int32)).toNatClampNeg) := by
  rw [show nI j + (1 : Int32) = nI (j + 1) from nI_add j 1]; exact fx_inb h hn
theorem fx_inb2 {n j : Nat} (h : j + 2 < n) (hn : j + 2 < 2 ^ 31) : ¬ (nI j + (2 : Int32) < 0 ∨ n ≤ (nI j + (2 : Int32)).toNatClampNeg) := by
  rw [show nI j + (2 : Int32) = nI (j + 2) from nI_add j 2]; exact fx_inb h hn
theorem fx_inb3 {n j : Nat} (h : j + 3 < n) (hn : j + 3 < 2 ^ 31) : ¬ (nI j + (3 : Int32) < 0 ∨ n ≤ (nI j + (3 : Int32)).toNatClampNeg) := by
  rw [show nI j + (3 : Int32) = nI (j + 3) from nI_add j 3]; exact fx_inb h hn
theorem fx_inb4 {n j : Nat} (h : j + 4 < n) (hn : j + 4 < 2 ^ 31) : ¬ (nI j + (4 : Int32) < 0 ∨ n ≤ (nI j + (4 : Int32)).toNatClampNeg) := by
  rw [show nI j + (4 : Int32) = nI (j + 4) from nI_add j 4]; exact fx_inb h hn
/- the loop: : whatever holds of the memory after j calls, and gives a call on which both answer alike and after which it holds again -/
set_option maxRecDepth 100000 in
theorem v_law_loop {X : fv_X} {k : Nat × Nat} (hX : X.1 ≤ 320) (Inv : Nat → fv_M → Nat → Nat → Prop) (hI : ∀ j M L D, Inv j M L D → fx_LD L D) (hs : ∀ j M L D, j < 64 → Inv j M L D → ∀ (c : Nat) (a1 a2 a3 a4 : Int32), ∃ M2 L2 D2, fx_one M L D a1 a2 a3 a4 M2 L2 D2 c ∧ Inv (j + 1) M2 L2 D2) :
    ∀ (n j : Nat) (M : fv_M) (L D : Nat), Inv j M L D → X.1 < 5 * (j + n) → 5 * j ≤ X.1 + 4 → ∃ sh2 M2, fv_Rn X 168 18 [some (.ref fv_SCR), some (.ref 0), some (.ref 92), some (.int (nI (5 * j)))] [] k (fx_sh L D) M (some (.int 1), sh2, M2) := by
  intro n
  induction n with
  | zero =>
    intro j M L D hi h1 h2
    refine ⟨_, _, v_law_exit ?_⟩
    rw [Int32.lt_iff_toInt_lt, fx_sub5 hX, nI_toInt (by omega)]
    omega
  | succ n ih =>
    intro j M L D hi h1 h2
    by_cases h5 : X.1 < 5 * j + 5
    · refine ⟨_, _, v_law_exit ?_⟩
      rw [Int32.lt_iff_toInt_lt, fx_sub5 hX, nI_toInt (by omega)]
      omega
    · obtain ⟨q, hq, e⟩ := pk_andE (X.2 (nI (5 * j)).toNatClampNeg) (m := 31) 5 (by decide)
      obtain ⟨M2, L2, D2, h, hi2⟩ := hs j M L D (by omega) hi q (X.2 (nI (5 * j) + (1 : Int32)).toNatClampNeg) (X.2 (nI (5 * j) + (2 : Int32)).toNatClampNeg) (X.2 (nI (5 * j) + (3 : Int32)).toNatClampNeg) (X.2 (nI (5 * j) + (4 : Int32)).toNatClampNeg)
      obtain ⟨sh2, M3, K⟩ := ih (j + 1) M2 L2 D2 hi2 (by omega) (by omega)
      refine ⟨sh2, M3, v_law_head (c := q) hq (hI _ _ _ _ hi) (hI _ _ _ _ hi2) ?_ ?_ ?_ ?_ ?_ ?_ e h ?_⟩
      · rw [Int32.lt_iff_toInt_lt, fx_sub5 hX, nI_toInt (by omega)]
        omega
      · exact fx_inb (by omega) (by omega)
      · exact fx_inb1 (by omega) (by omega)
      · exact fx_inb2 (by omega) (by omega)
      · exact fx_inb3 (by omega) (by omega)
      · exact fx_inb4 (by omega) (by omega)
      · rw [show nI (5 * j) + (5 : Int32) = nI (5 * (j + 1)) from nI_add (5 * j) 5]
        exact K
