/-! methods as functions (by program gen/p20.py) -/
def g_X_settle (M : fv_M) (L : Nat) (D : Nat) : Option (Int32 × fv_M × Nat × Nat) := (g_T_readInto M 1 D).bind fun q1 => if q1.1 = (-4 : Int32) then (if (q1.2 D 0) = 0 then (some ((0 : Int32), q1.2, L, D)) else (if (q1.2 D 2) = 0 then (some ((0 : Int32), q1.2, L, D)) else ((g_L_findSaid q1.2 D).bind fun q2 => (g_S_begin q2 24 D).bind fun q3 => some ((1 : Int32), (fv_set (fv_set (fv_set q3 34 1 (0 : Int32)) 76 1 (0 : Int32)) 88 3 (0 : Int32)), D, L)))) else (some ((0 : Int32), q1.2, L, D))
theorem v_X_settle {X : fv_X} {sh : fv_Sh} {k : Nat × Nat} {M : fv_M} {L : Nat} {D : Nat} {r : Int32 × fv_M × Nat × Nat} (h0 : fx_atX sh L D) (h : g_X_settle M L D = some r) : fv_Rn X 86 0 [some (.ref 0)] [] k sh M (some (.int r.1), fx_sw sh r.2.2.1 r.2.2.2, r.2.1) := by
  unfold g_X_settle at h
  refine fx_aload rfl rfl ?_
  refine fx_getV rfl h0.1 rfl rfl ?_
  refine fx_aload rfl rfl ?_
  refine fx_getV rfl h0.1 rfl rfl ?_
  obtain ⟨q1, e_q1, h⟩ := fx_bd h
  refine fx_call [.ref 1, .ref D] [] rfl (by decide) rfl rfl rfl rfl rfl (Nat.le_of_ble_eq_true rfl) (fx_rcv h0.2.1.1 rfl) (v_T_readInto h0.2.1 h0.2.2.2.1 e_q1) ?_
  refine fx_const rfl (show Int32.ofInt (-4) = (-4 : Int32) by decide) ?_
  by_cases c_1 : q1.1 = (-4 : Int32)
  · replace h := (if_pos c_1).symm.trans h
    refine fx_icne_s rfl c_1 ?_
    refine fx_aload rfl rfl ?_
    refine fx_getV rfl h0.1 rfl rfl ?_
    refine fx_getI rfl h0.2.2.2.1.1 rfl rfl ?_
    by_cases c_2 : (q1.2 D 0) = 0
    · replace h := (if_pos c_2).symm.trans h
      refine fx_ifeq_j rfl rfl c_2 ?_
      refine fx_const rfl (show Int32.ofInt 0 = (0 : Int32) by decide) ?_
      obtain rfl := Option.some.inj h
      dsimp only
      rw [fx_sw_self h0]
      exact fx_ret rfl rfl
    · replace h := (if_neg c_2).symm.trans h
      refine fx_ifeq_s rfl c_2 ?_
      refine fx_aload rfl rfl ?_
      refine fx_getV rfl h0.1 rfl rfl ?_
      refine fx_getI rfl h0.2.2.2.1.1 rfl rfl ?_
      by_cases c_3 : (q1.2 D 2) = 0
      · replace h := (if_pos c_3).symm.trans h
        refine fx_ifne_s rfl c_3 ?_
        refine fx_const rfl (show Int32.ofInt 0 = (0 : Int32) by decide) ?_
        obtain rfl := Option.some.inj h
        dsimp only
        rw [fx_sw_self h0]
        exact fx_ret rfl rfl
      · replace h := (if_neg c_3).symm.trans h
        refine fx_ifne_j rfl rfl c_3 ?_
        refine fx_aload rfl rfl ?_
        refine fx_getV rfl h0.1 rfl rfl ?_
        refine fx_astore rfl rfl ?_
        refine fx_aload rfl rfl ?_
        refine fx_aload rfl rfl ?_
        refine fx_getV rfl h0.1 rfl rfl ?_
        refine fx_putV rfl h0.1 rfl rfl rfl rfl ?_
        refine fx_aload rfl rfl ?_
        refine fx_aload rfl rfl ?_
        refine fx_putV (sh2 := fx_sw sh D L) rfl (fx_set0 h0.1) rfl rfl rfl (by rw [List.set_set]; rfl) ?_
        have h9 := fx_atX_sw h0
        refine fx_aload rfl rfl ?_
        refine fx_getV rfl h9.1 rfl rfl ?_
        obtain ⟨q2, e_q2, h⟩ := fx_bd h
        refine fx_call [.ref D] [] rfl (by decide) rfl rfl rfl rfl rfl (Nat.le_of_ble_eq_true rfl) (fx_rcv h9.2.2.1.1 rfl) (v_L_findSaid h9.2.2.1 e_q2) ?_
        refine fx_aload rfl rfl ?_
        refine fx_getV rfl h9.1 rfl rfl ?_
        refine fx_aload rfl rfl ?_
        refine fx_getV rfl h9.1 rfl rfl ?_
        obtain ⟨q3, e_q3, h⟩ := fx_bd h
        refine fx_call [.ref 24, .ref D] [] rfl (by decide) rfl rfl rfl rfl rfl (Nat.le_of_ble_eq_true rfl) (fx_rcv h9.2.2.2.2.1.1 rfl) (v_S_begin h9.2.2.2.2.1 h9.2.2.1 e_q3) ?_
        refine fx_aload rfl rfl ?_
        refine fx_getV rfl h9.1 rfl rfl ?_
        refine fx_const rfl (show Int32.ofInt 0 = (0 : Int32) by decide) ?_
        refine fx_putI rfl h9.2.2.2.2.2.2.1.1 rfl rfl rfl ?_
        refine fx_aload rfl rfl ?_
        refine fx_getV rfl h9.1 rfl rfl ?_
        refine fx_const rfl (show Int32.ofInt 0 = (0 : Int32) by decide) ?_
        refine fx_putI rfl h9.2.2.2.2.2.2.2.1.1 rfl rfl rfl ?_
        refine fx_aload rfl rfl ?_
        refine fx_getV rfl h9.1 rfl rfl ?_
        refine fx_const rfl (show Int32.ofInt 0 = (0 : Int32) by decide) ?_
        refine fx_putI rfl h9.2.2.2.2.2.2.2.2.1.1 rfl rfl rfl ?_
        refine fx_const rfl (show Int32.ofInt 1 = (1 : Int32) by decide) ?_
        obtain rfl := Option.some.inj h
        exact fx_ret rfl rfl
  · replace h := (if_neg c_1).symm.trans h
    refine fx_icne_j rfl rfl c_1 ?_
    refine fx_const rfl (show Int32.ofInt 0 = (0 : Int32) by decide) ?_
    obtain rfl := Option.some.inj h
    dsimp only
    rw [fx_sw_self h0]
    exact fx_ret rfl rfl
theorem g_X_settle_at {sh : fv_Sh} {M : fv_M} {L D : Nat} {r : Int32 × fv_M × Nat × Nat} (h0 : fx_atX sh L D) (h : g_X_settle M L D = some r) : fx_atX (fx_sw sh r.2.2.1 r.2.2.2) r.2.2.1 r.2.2.2 := by
  unfold g_X_settle at h
  obtain ⟨q1, e_q1, h⟩ := fx_bd h
  by_cases c_1 : q1.1 = (-4 : Int32)
  · replace h := (if_pos c_1).symm.trans h
    by_cases c_2 : (q1.2 D 0) = 0
    · replace h := (if_pos c_2).symm.trans h
      obtain rfl := Option.some.inj h
      first | exact fx_atX_id h0 | exact fx_atX_sw h0
    · replace h := (if_neg c_2).symm.trans h
      by_cases c_3 : (q1.2 D 2) = 0
      · replace h := (if_pos c_3).symm.trans h
        obtain rfl := Option.some.inj h
        first | exact fx_atX_id h0 | exact fx_atX_sw h0
      · replace h := (if_neg c_3).symm.trans h
        obtain ⟨q2, e_q2, h⟩ := fx_bd h
        obtain ⟨q3, e_q3, h⟩ := fx_bd h
        obtain rfl := Option.some.inj h
        first | exact fx_atX_id h0 | exact fx_atX_sw h0
  · replace h := (if_neg c_1).symm.trans h
    obtain rfl := Option.some.inj h
    first | exact fx_atX_id h0 | exact fx_atX_sw h0

def g_X_write (M : fv_M) (L : Nat) (D : Nat) (a1 : Int32) : Option (Int32 × fv_M) := (g_X_within M a1 (32 : Int32) (126 : Int32)).bind fun q1 => if q1 = 0 then (some ((-1 : Int32), M)) else ((g_T_append M 1 a1).bind fun q2 => if q2.1 = 0 then (some ((-3 : Int32), q2.2)) else (some ((q2.2 1 2), q2.2)))
theorem v_X_write {X : fv_X} {sh : fv_Sh} {k : Nat × Nat} {M : fv_M} {L : Nat} {D : Nat} {a1 : Int32} {r : Int32 × fv_M} (h0 : fx_atX sh L D) (h : g_X_write M L D a1 = some r) : fv_Rn X 51 0 [some (.ref 0), some (.int a1)] [] k sh M (some (.int r.1), sh, r.2) := by
  unfold g_X_write at h
  refine fx_iload rfl rfl ?_
  refine fx_const rfl (show Int32.ofInt 32 = (32 : Int32) by decide) ?_
  refine fx_const rfl (show Int32.ofInt 126 = (126 : Int32) by decide) ?_
  obtain ⟨q1, e_q1, h⟩ := fx_bd h
  refine fx_call [.int a1, .int (32 : Int32), .int (126 : Int32)] [] rfl (by decide) rfl rfl rfl rfl rfl (Nat.le_of_ble_eq_true rfl) rfl (v_X_within  e_q1) ?_
  by_cases c_1 : q1 = 0
  · replace h := (if_pos c_1).symm.trans h
    refine fx_ifne_s rfl c_1 ?_
    refine fx_const rfl (show Int32.ofInt (-1) = (-1 : Int32) by decide) ?_
    obtain rfl := Option.some.inj h
    exact fx_ret rfl rfl
  · replace h := (if_neg c_1).symm.trans h
    refine fx_ifne_j rfl rfl c_1 ?_
    refine fx_aload rfl rfl ?_
    refine fx_getV rfl h0.1 rfl rfl ?_
    refine fx_iload rfl rfl ?_
    obtain ⟨q2, e_q2, h⟩ := fx_bd h
    refine fx_call [.ref 1, .int a1] [] rfl (by decide) rfl rfl rfl rfl rfl (Nat.le_of_ble_eq_true rfl) (fx_rcv h0.2.1.1 rfl) (v_T_append h0.2.1 e_q2) ?_
    by_cases c_2 : q2.1 = 0
    · replace h := (if_pos c_2).symm.trans h
      refine fx_ifeq_j rfl rfl c_2 ?_
      refine fx_const rfl (show Int32.ofInt (-3) = (-3 : Int32) by decide) ?_
      obtain rfl := Option.some.inj h
      exact fx_ret rfl rfl
    · replace h := (if_neg c_2).symm.trans h
      refine fx_ifeq_s rfl c_2 ?_
      refine fx_aload rfl rfl ?_
      refine fx_getV rfl h0.1 rfl rfl ?_
      refine fx_getI rfl h0.2.1.1 rfl rfl ?_
      refine fx_goto rfl rfl ?_
      obtain rfl := Option.some.inj h
      exact fx_ret rfl rfl

def g_X_wipe (M : fv_M) (L : Nat) (D : Nat) : Option (Int32 × fv_M) := some ((M 1 2), (fv_set M 1 2 (0 : Int32)))
theorem v_X_wipe {X : fv_X} {sh : fv_Sh} {k : Nat × Nat} {M : fv_M} {L : Nat} {D : Nat} {r : Int32 × fv_M} (h0 : fx_atX sh L D) (h : g_X_wipe M L D = some r) : fv_Rn X 52 0 [some (.ref 0)] [] k sh M (some (.int r.1), sh, r.2) := by
  unfold g_X_wipe at h
  refine fx_aload rfl rfl ?_
  refine fx_getV rfl h0.1 rfl rfl ?_
  refine fx_getI rfl h0.2.1.1 rfl rfl ?_
  refine fx_istore rfl rfl ?_
  refine fx_aload rfl rfl ?_
  refine fx_getV rfl h0.1 rfl rfl ?_
  refine fx_const rfl (show Int32.ofInt 0 = (0 : Int32) by decide) ?_
  refine fx_putI rfl h0.2.1.1 rfl rfl rfl ?_
  refine fx_iload rfl rfl ?_
  obtain rfl := Option.some.inj h
  exact fx_ret rfl rfl

def g_X_fault (M : fv_M) (L : Nat) (D : Nat) : Option (Int32 × fv_M) := (g_T_readInto M 1 D).bind fun q1 => some (q1.1, q1.2)
theorem v_X_fault {X : fv_X} {sh : fv_Sh} {k : Nat × Nat} {M : fv_M} {L : Nat} {D : Nat} {r : Int32 × fv_M} (h0 : fx_atX sh L D) (h : g_X_fault M L D = some r) : fv_Rn X 53 0 [some (.ref 0)] [] k sh M (some (.int r.1), sh, r.2) := by
  unfold g_X_fault at h
  refine fx_aload rfl rfl ?_
  refine fx_getV rfl h0.1 rfl rfl ?_
  refine fx_aload rfl rfl ?_
  refine fx_getV rfl h0.1 rfl rfl ?_
  obtain ⟨q1, e_q1, h⟩ := fx_bd h
  refine fx_call [.ref 1, .ref D] [] rfl (by decide) rfl rfl rfl rfl rfl (Nat.le_of_ble_eq_true rfl) (fx_rcv h0.2.1.1 rfl) (v_T_readInto h0.2.1 h0.2.2.2.1 e_q1) ?_
  obtain rfl := Option.some.inj h
  exact fx_ret rfl rfl

def g_X_lay (M : fv_M) (L : Nat) (D : Nat) : Option (Int32 × fv_M × Nat × Nat) := (g_X_settle M L D).bind fun q1 => if q1.1 = 0 then (some ((-2 : Int32), q1.2.1, q1.2.2.1, q1.2.2.2)) else (some ((q1.2.1 q1.2.2.1 2), q1.2.1, q1.2.2.1, q1.2.2.2))
theorem v_X_lay {X : fv_X} {sh : fv_Sh} {k : Nat × Nat} {M : fv_M} {L : Nat} {D : Nat} {r : Int32 × fv_M × Nat × Nat} (h0 : fx_atX sh L D) (h : g_X_lay M L D = some r) : fv_Rn X 54 0 [some (.ref 0)] [] k sh M (some (.int r.1), fx_sw sh r.2.2.1 r.2.2.2, r.2.1) := by
  unfold g_X_lay at h
  refine fx_aload rfl rfl ?_
  obtain ⟨q1, e_q1, h⟩ := fx_bd h
  refine fx_call [.ref 0] [] rfl (by decide) rfl rfl rfl rfl rfl (Nat.le_of_ble_eq_true rfl) (fx_rcv h0.1 rfl) (v_X_settle h0 e_q1) ?_
  have h9 := g_X_settle_at h0 e_q1
  by_cases c_1 : q1.1 = 0
  · replace h := (if_pos c_1).symm.trans h
    refine fx_ifeq_j rfl rfl c_1 ?_
    refine fx_const rfl (show Int32.ofInt (-2) = (-2 : Int32) by decide) ?_
    obtain rfl := Option.some.inj h
    exact fx_ret rfl rfl
  · replace h := (if_neg c_1).symm.trans h
    refine fx_ifeq_s rfl c_1 ?_
    refine fx_aload rfl rfl ?_
    refine fx_getV rfl h9.1 rfl rfl ?_
    refine fx_getI rfl h9.2.2.1.1 rfl rfl ?_
    refine fx_goto rfl rfl ?_
    obtain rfl := Option.some.inj h
    exact fx_ret rfl rfl

def g_X_isVerb (M : fv_M) (L : Nat) (D : Nat) (a1 : Int32) : Option (Int32) := (g_X_within M a1 (0 : Int32) ((M L 0) - (1 : Int32))).bind fun q1 => fx_ck (¬ (q1 = 0 ∨ q1 = 1)) (some q1)
theorem v_X_isVerb {X : fv_X} {sh : fv_Sh} {k : Nat × Nat} {M : fv_M} {L : Nat} {D : Nat} {a1 : Int32} {r : Int32} (h0 : fx_atX sh L D) (h : g_X_isVerb M L D a1 = some r) : fv_Rn X 81 0 [some (.ref 0), some (.int a1)] [] k sh M (some (.int r), sh, M) := by
  unfold g_X_isVerb at h
  refine fx_iload rfl rfl ?_
  refine fx_const rfl (show Int32.ofInt 0 = (0 : Int32) by decide) ?_
  refine fx_aload rfl rfl ?_
  refine fx_getV rfl h0.1 rfl rfl ?_
  refine fx_getI rfl h0.2.2.1.1 rfl rfl ?_
  refine fx_const rfl (show Int32.ofInt 1 = (1 : Int32) by decide) ?_
  refine fx_isub rfl ?_
  obtain ⟨q1, e_q1, h⟩ := fx_bd h
  refine fx_call [.int a1, .int (0 : Int32), .int ((M L 0) - (1 : Int32))] [] rfl (by decide) rfl rfl rfl rfl rfl (Nat.le_of_ble_eq_true rfl) rfl (v_X_within  e_q1) ?_
  obtain ⟨c_1, h⟩ := fx_ck_some h
  obtain rfl := Option.some.inj h
  exact fx_ret rfl (decide_eq_true (Decidable.not_not.mp c_1))

def g_X_stockOfAll_4 (M : fv_M) (L : Nat) (D : Nat) (a1 : Int32) : Nat → Int32 → Int32 → (Int32 → Int32 → Option (Int32)) → Option (Int32)
  | 0, _, _, _ => none
  | n + 1, a2, a3, kk => if (M L 2) ≤ a3 then (kk a2 a3) else ((g_S_stockOf M 24 a3 a1).bind fun q1 => g_X_stockOfAll_4 M L D a1 n (a2 + q1) (a3 + (1 : Int32)) kk)
theorem v_X_stockOfAll_4 {X : fv_X} {sh : fv_Sh} {k : Nat × Nat} {M : fv_M} {L : Nat} {D : Nat} {a1 : Int32} {r : Int32} {kk : Int32 → Int32 → Option (Int32)} (h0 : fx_atX sh L D) (K : ∀ (a2 a3 : Int32), kk a2 a3 = some r → fv_Rn X 88 33 [some (.ref 0), some (.int a1), some (.int a2), some (.int a3)] [] k sh M (some (.int r), sh, M)) : ∀ (n : Nat) (a2 a3 : Int32), g_X_stockOfAll_4 M L D a1 n a2 a3 kk = some r → fv_Rn X 88 4 [some (.ref 0), some (.int a1), some (.int a2), some (.int a3)] [] k sh M (some (.int r), sh, M) := by
  intro n
  induction n with
  | zero =>
    intro a2 a3 h
    replace h : (none : Option (Int32)) = some r := h
    cases h
  | succ n ih =>
    intro a2 a3 h
    rw [g_X_stockOfAll_4] at h
    refine fx_iload rfl rfl ?_
    refine fx_aload rfl rfl ?_
    refine fx_getV rfl h0.1 rfl rfl ?_
    refine fx_getI rfl h0.2.2.1.1 rfl rfl ?_
    by_cases c_1 : (M L 2) ≤ a3
    · replace h := (if_pos c_1).symm.trans h
      refine fx_icge_j rfl rfl c_1 ?_
      exact K _ _ h
    · replace h := (if_neg c_1).symm.trans h
      refine fx_icge_s rfl c_1 ?_
      refine fx_iload rfl rfl ?_
      refine fx_aload rfl rfl ?_
      refine fx_getV rfl h0.1 rfl rfl ?_
      refine fx_iload rfl rfl ?_
      refine fx_iload rfl rfl ?_
      obtain ⟨q1, e_q1, h⟩ := fx_bd h
      refine fx_call [.ref 24, .int a3, .int a1] [.int a2] rfl (by decide) rfl rfl rfl rfl rfl (Nat.le_of_ble_eq_true rfl) (fx_rcv h0.2.2.2.2.1.1 rfl) (v_S_stockOf h0.2.2.2.2.1 e_q1) ?_
      refine fx_iadd rfl ?_
      refine fx_istore rfl rfl ?_
      refine fx_iinc rfl (show Int32.ofInt 1 = (1 : Int32) by decide) rfl rfl ?_
      refine fx_back rfl rfl rfl ?_
      exact ih _ _ h
def g_X_stockOfAll (M : fv_M) (L : Nat) (D : Nat) (a1 : Int32) : Option (Int32) := g_X_stockOfAll_4 M L D a1 fx_FU (0 : Int32) (0 : Int32) (fun b2_2 b3_2 => some b2_2)
theorem v_X_stockOfAll {X : fv_X} {sh : fv_Sh} {k : Nat × Nat} {M : fv_M} {L : Nat} {D : Nat} {a1 : Int32} {r : Int32} (h0 : fx_atX sh L D) (h : g_X_stockOfAll M L D a1 = some r) : fv_Rn X 88 0 [some (.ref 0), some (.int a1)] [] k sh M (some (.int r), sh, M) := by
  unfold g_X_stockOfAll at h
  refine fx_const rfl (show Int32.ofInt 0 = (0 : Int32) by decide) ?_
  refine fx_istore rfl rfl ?_
  refine fx_const rfl (show Int32.ofInt 0 = (0 : Int32) by decide) ?_
  refine fx_istore rfl rfl ?_
  refine v_X_stockOfAll_4 h0 (fun b2_2 b3_2 h => ?_) fx_FU _ _ h
  refine fx_iload rfl rfl ?_
  obtain rfl := Option.some.inj h
  exact fx_ret rfl rfl

def g_X_verb (M : fv_M) (L : Nat) (D : Nat) (a1 : Int32) (a2 : Int32) : Option (Int32) := (g_X_isVerb M L D a1).bind fun q1 => if q1 = 0 then (some (-1 : Int32)) else ((g_X_within M a2 (0 : Int32) (2 : Int32)).bind fun q2 => if q2 = 0 then (some (-1 : Int32)) else (if a2 = (2 : Int32) then ((g_X_stockOfAll M L D a1).bind fun q3 => some q3) else (if a2 = 0 then ((g_X_at M (L + 1) 6 a1).bind fun q4 => some q4) else ((g_X_at M (L + 2) 6 a1).bind fun q5 => some q5))))
theorem v_X_verb {X : fv_X} {sh : fv_Sh} {k : Nat × Nat} {M : fv_M} {L : Nat} {D : Nat} {a1 : Int32} {a2 : Int32} {r : Int32} (h0 : fx_atX sh L D) (h : g_X_verb M L D a1 a2 = some r) : fv_Rn X 55 0 [some (.ref 0), some (.int a1), some (.int a2)] [] k sh M (some (.int r), sh, M) := by
  unfold g_X_verb at h
  refine fx_aload rfl rfl ?_
  refine fx_iload rfl rfl ?_
  obtain ⟨q1, e_q1, h⟩ := fx_bd h
  refine fx_call [.ref 0, .int a1] [] rfl (by decide) rfl rfl rfl rfl rfl (Nat.le_of_ble_eq_true rfl) (fx_rcv h0.1 rfl) (v_X_isVerb h0 e_q1) ?_
  by_cases c_1 : q1 = 0
  · replace h := (if_pos c_1).symm.trans h
    refine fx_ifeq_j rfl rfl c_1 ?_
    refine fx_const rfl (show Int32.ofInt (-1) = (-1 : Int32) by decide) ?_
    obtain rfl := Option.some.inj h
    exact fx_ret rfl rfl
  · replace h := (if_neg c_1).symm.trans h
    refine fx_ifeq_s rfl c_1 ?_
    refine fx_iload rfl rfl ?_
    refine fx_const rfl (show Int32.ofInt 0 = (0 : Int32) by decide) ?_
    refine fx_const rfl (show Int32.ofInt 2 = (2 : Int32) by decide) ?_
    obtain ⟨q2, e_q2, h⟩ := fx_bd h
    refine fx_call [.int a2, .int (0 : Int32), .int (2 : Int32)] [] rfl (by decide) rfl rfl rfl rfl rfl (Nat.le_of_ble_eq_true rfl) rfl (v_X_within  e_q2) ?_
    by_cases c_2 : q2 = 0
    · replace h := (if_pos c_2).symm.trans h
      refine fx_ifne_s rfl c_2 ?_
      refine fx_const rfl (show Int32.ofInt (-1) = (-1 : Int32) by decide) ?_
      obtain rfl := Option.some.inj h
      exact fx_ret rfl rfl
    · replace h := (if_neg c_2).symm.trans h
      refine fx_ifne_j rfl rfl c_2 ?_
      refine fx_iload rfl rfl ?_
      refine fx_const rfl (show Int32.ofInt 2 = (2 : Int32) by decide) ?_
      by_cases c_3 : a2 = (2 : Int32)
      · replace h := (if_pos c_3).symm.trans h
        refine fx_icne_s rfl c_3 ?_
        refine fx_aload rfl rfl ?_
        refine fx_iload rfl rfl ?_
        obtain ⟨q3, e_q3, h⟩ := fx_bd h
        refine fx_call [.ref 0, .int a1] [] rfl (by decide) rfl rfl rfl rfl rfl (Nat.le_of_ble_eq_true rfl) (fx_rcv h0.1 rfl) (v_X_stockOfAll h0 e_q3) ?_
        obtain rfl := Option.some.inj h
        exact fx_ret rfl rfl
      · replace h := (if_neg c_3).symm.trans h
        refine fx_icne_j rfl rfl c_3 ?_
        refine fx_iload rfl rfl ?_
        by_cases c_4 : a2 = 0
        · replace h := (if_pos c_4).symm.trans h
          refine fx_ifne_s rfl c_4 ?_
          refine fx_aload rfl rfl ?_
          refine fx_getV rfl h0.1 rfl rfl ?_
          refine fx_getV rfl h0.2.2.1.1 rfl rfl ?_
          refine fx_goto rfl rfl ?_
          refine fx_iload rfl rfl ?_
          obtain ⟨q4, e_q4, h⟩ := fx_bd h
          refine fx_call [.ref (L + 1), .int a1] [] rfl (by decide) rfl rfl rfl rfl rfl (Nat.le_of_ble_eq_true rfl) rfl (v_X_at h0.2.2.1.2.1 e_q4) ?_
          obtain rfl := Option.some.inj h
          exact fx_ret rfl rfl
        · replace h := (if_neg c_4).symm.trans h
          refine fx_ifne_j rfl rfl c_4 ?_
          refine fx_aload rfl rfl ?_
          refine fx_getV rfl h0.1 rfl rfl ?_
          refine fx_getV rfl h0.2.2.1.1 rfl rfl ?_
          refine fx_iload rfl rfl ?_
          obtain ⟨q5, e_q5, h⟩ := fx_bd h
          refine fx_call [.ref (L + 2), .int a1] [] rfl (by decide) rfl rfl rfl rfl rfl (Nat.le_of_ble_eq_true rfl) rfl (v_X_at h0.2.2.1.2.2.1 e_q5) ?_
          obtain rfl := Option.some.inj h
          exact fx_ret rfl rfl

def g_X_noun (M : fv_M) (L : Nat) (D : Nat) (a1 : Int32) : Option (Int32) := (g_X_within M a1 (0 : Int32) ((M L 1) - (1 : Int32))).bind fun q1 => if q1 = 0 then (some (-1 : Int32)) else ((g_L_mindOf M L a1).bind fun q2 => some q2)
theorem v_X_noun {X : fv_X} {sh : fv_Sh} {k : Nat × Nat} {M : fv_M} {L : Nat} {D : Nat} {a1 : Int32} {r : Int32} (h0 : fx_atX sh L D) (h : g_X_noun M L D a1 = some r) : fv_Rn X 56 0 [some (.ref 0), some (.int a1)] [] k sh M (some (.int r), sh, M) := by
  unfold g_X_noun at h
  refine fx_iload rfl rfl ?_
  refine fx_const rfl (show Int32.ofInt 0 = (0 : Int32) by decide) ?_
  refine fx_aload rfl rfl ?_
  refine fx_getV rfl h0.1 rfl rfl ?_
  refine fx_getI rfl h0.2.2.1.1 rfl rfl ?_
  refine fx_const rfl (show Int32.ofInt 1 = (1 : Int32) by decide) ?_
  refine fx_isub rfl ?_
  obtain ⟨q1, e_q1, h⟩ := fx_bd h
  refine fx_call [.int a1, .int (0 : Int32), .int ((M L 1) - (1 : Int32))] [] rfl (by decide) rfl rfl rfl rfl rfl (Nat.le_of_ble_eq_true rfl) rfl (v_X_within  e_q1) ?_
  by_cases c_1 : q1 = 0
  · replace h := (if_pos c_1).symm.trans h
    refine fx_ifeq_j rfl rfl c_1 ?_
    refine fx_const rfl (show Int32.ofInt (-1) = (-1 : Int32) by decide) ?_
    obtain rfl := Option.some.inj h
    exact fx_ret rfl rfl
  · replace h := (if_neg c_1).symm.trans h
    refine fx_ifeq_s rfl c_1 ?_
    refine fx_aload rfl rfl ?_
    refine fx_getV rfl h0.1 rfl rfl ?_
    refine fx_iload rfl rfl ?_
    obtain ⟨q2, e_q2, h⟩ := fx_bd h
    refine fx_call [.ref L, .int a1] [] rfl (by decide) rfl rfl rfl rfl rfl (Nat.le_of_ble_eq_true rfl) (fx_rcv h0.2.2.1.1 rfl) (v_L_mindOf h0.2.2.1 e_q2) ?_
    refine fx_goto rfl rfl ?_
    obtain rfl := Option.some.inj h
    exact fx_ret rfl rfl

def g_X_isVillage (M : fv_M) (L : Nat) (D : Nat) (a1 : Int32) : Option (Int32) := (g_X_within M a1 (0 : Int32) ((M L 2) - (1 : Int32))).bind fun q1 => fx_ck (¬ (q1 = 0 ∨ q1 = 1)) (some q1)
theorem v_X_isVillage {X : fv_X} {sh : fv_Sh} {k : Nat × Nat} {M : fv_M} {L : Nat} {D : Nat} {a1 : Int32} {r : Int32} (h0 : fx_atX sh L D) (h : g_X_isVillage M L D a1 = some r) : fv_Rn X 82 0 [some (.ref 0), some (.int a1)] [] k sh M (some (.int r), sh, M) := by
  unfold g_X_isVillage at h
  refine fx_iload rfl rfl ?_
  refine fx_const rfl (show Int32.ofInt 0 = (0 : Int32) by decide) ?_
  refine fx_aload rfl rfl ?_
  refine fx_getV rfl h0.1 rfl rfl ?_
  refine fx_getI rfl h0.2.2.1.1 rfl rfl ?_
  refine fx_const rfl (show Int32.ofInt 1 = (1 : Int32) by decide) ?_
  refine fx_isub rfl ?_
  obtain ⟨q1, e_q1, h⟩ := fx_bd h
  refine fx_call [.int a1, .int (0 : Int32), .int ((M L 2) - (1 : Int32))] [] rfl (by decide) rfl rfl rfl rfl rfl (Nat.le_of_ble_eq_true rfl) rfl (v_X_within  e_q1) ?_
  obtain ⟨c_1, h⟩ := fx_ck_some h
  obtain rfl := Option.some.inj h
  exact fx_ret rfl (decide_eq_true (Decidable.not_not.mp c_1))

def g_X_village (M : fv_M) (L : Nat) (D : Nat) (a1 : Int32) (a2 : Int32) : Option (Int32) := (g_X_isVillage M L D a1).bind fun q1 => if q1 = 0 then (some (-1 : Int32)) else ((g_X_within M a2 (0 : Int32) (2 : Int32)).bind fun q2 => if q2 = 0 then (some (-1 : Int32)) else (if a2 = 0 then ((g_L_nounsOf M L a1).bind fun q3 => some q3) else (if a2 = (1 : Int32) then ((g_X_at M (24 + 2) 4 a1).bind fun q4 => some q4) else ((g_X_at M (L + 5) 4 a1).bind fun q5 => some q5))))
theorem v_X_village {X : fv_X} {sh : fv_Sh} {k : Nat × Nat} {M : fv_M} {L : Nat} {D : Nat} {a1 : Int32} {a2 : Int32} {r : Int32} (h0 : fx_atX sh L D) (h : g_X_village M L D a1 a2 = some r) : fv_Rn X 57 0 [some (.ref 0), some (.int a1), some (.int a2)] [] k sh M (some (.int r), sh, M) := by
  unfold g_X_village at h
  refine fx_aload rfl rfl ?_
  refine fx_iload rfl rfl ?_
  obtain ⟨q1, e_q1, h⟩ := fx_bd h
  refine fx_call [.ref 0, .int a1] [] rfl (by decide) rfl rfl rfl rfl rfl (Nat.le_of_ble_eq_true rfl) (fx_rcv h0.1 rfl) (v_X_isVillage h0 e_q1) ?_
  by_cases c_1 : q1 = 0
  · replace h := (if_pos c_1).symm.trans h
    refine fx_ifeq_j rfl rfl c_1 ?_
    refine fx_const rfl (show Int32.ofInt (-1) = (-1 : Int32) by decide) ?_
    obtain rfl := Option.some.inj h
    exact fx_ret rfl rfl
  · replace h := (if_neg c_1).symm.trans h
    refine fx_ifeq_s rfl c_1 ?_
    refine fx_iload rfl rfl ?_
    refine fx_const rfl (show Int32.ofInt 0 = (0 : Int32) by decide) ?_
    refine fx_const rfl (show Int32.ofInt 2 = (2 : Int32) by decide) ?_
    obtain ⟨q2, e_q2, h⟩ := fx_bd h
    refine fx_call [.int a2, .int (0 : Int32), .int (2 : Int32)] [] rfl (by decide) rfl rfl rfl rfl rfl (Nat.le_of_ble_eq_true rfl) rfl (v_X_within  e_q2) ?_
    by_cases c_2 : q2 = 0
    · replace h := (if_pos c_2).symm.trans h
      refine fx_ifne_s rfl c_2 ?_
      refine fx_const rfl (show Int32.ofInt (-1) = (-1 : Int32) by decide) ?_
      obtain rfl := Option.some.inj h
      exact fx_ret rfl rfl
    · replace h := (if_neg c_2).symm.trans h
      refine fx_ifne_j rfl rfl c_2 ?_
      refine fx_iload rfl rfl ?_
      by_cases c_3 : a2 = 0
      · replace h := (if_pos c_3).symm.trans h
        refine fx_ifne_s rfl c_3 ?_
        refine fx_aload rfl rfl ?_
        refine fx_getV rfl h0.1 rfl rfl ?_
        refine fx_iload rfl rfl ?_
        obtain ⟨q3, e_q3, h⟩ := fx_bd h
        refine fx_call [.ref L, .int a1] [] rfl (by decide) rfl rfl rfl rfl rfl (Nat.le_of_ble_eq_true rfl) (fx_rcv h0.2.2.1.1 rfl) (v_L_nounsOf h0.2.2.1 e_q3) ?_
        obtain rfl := Option.some.inj h
        exact fx_ret rfl rfl
      · replace h := (if_neg c_3).symm.trans h
        refine fx_ifne_j rfl rfl c_3 ?_
        refine fx_iload rfl rfl ?_
        refine fx_const rfl (show Int32.ofInt 1 = (1 : Int32) by decide) ?_
        by_cases c_4 : a2 = (1 : Int32)
        · replace h := (if_pos c_4).symm.trans h
          refine fx_icne_s rfl c_4 ?_
          refine fx_aload rfl rfl ?_
          refine fx_getV rfl h0.1 rfl rfl ?_
          refine fx_getV rfl h0.2.2.2.2.1.1 rfl rfl ?_
          refine fx_goto rfl rfl ?_
          refine fx_iload rfl rfl ?_
          obtain ⟨q4, e_q4, h⟩ := fx_bd h
          refine fx_call [.ref (24 + 2), .int a1] [] rfl (by decide) rfl rfl rfl rfl rfl (Nat.le_of_ble_eq_true rfl) rfl (v_X_at h0.2.2.2.2.1.2.2.1 e_q4) ?_
          obtain rfl := Option.some.inj h
          exact fx_ret rfl rfl
        · replace h := (if_neg c_4).symm.trans h
          refine fx_icne_j rfl rfl c_4 ?_
          refine fx_aload rfl rfl ?_
          refine fx_getV rfl h0.1 rfl rfl ?_
          refine fx_getV rfl h0.2.2.1.1 rfl rfl ?_
          refine fx_iload rfl rfl ?_
          obtain ⟨q5, e_q5, h⟩ := fx_bd h
          refine fx_call [.ref (L + 5), .int a1] [] rfl (by decide) rfl rfl rfl rfl rfl (Nat.le_of_ble_eq_true rfl) rfl (v_X_at h0.2.2.1.2.2.2.2.2.1 e_q5) ?_
          obtain rfl := Option.some.inj h
          exact fx_ret rfl rfl

def g_X_stock (M : fv_M) (L : Nat) (D : Nat) (a1 : Int32) (a2 : Int32) : Option (Int32) := (g_X_isVillage M L D a1).bind fun q1 => if q1 = 0 then (some (-1 : Int32)) else ((g_X_isVerb M L D a2).bind fun q2 => if q2 = 0 then (some (-1 : Int32)) else ((g_S_stockOf M 24 a1 a2).bind fun q3 => some q3))
theorem v_X_stock {X : fv_X} {sh : fv_Sh} {k : Nat × Nat} {M : fv_M} {L : Nat} {D : Nat} {a1 : Int32} {a2 : Int32} {r : Int32} (h0 : fx_atX sh L D) (h : g_X_stock M L D a1 a2 = some r) : fv_Rn X 58 0 [some (.ref 0), some (.int a1), some (.int a2)] [] k sh M (some (.int r), sh, M) := by
  unfold g_X_stock at h
  refine fx_aload rfl rfl ?_
  refine fx_iload rfl rfl ?_
  obtain ⟨q1, e_q1, h⟩ := fx_bd h
  refine fx_call [.ref 0, .int a1] [] rfl (by decide) rfl rfl rfl rfl rfl (Nat.le_of_ble_eq_true rfl) (fx_rcv h0.1 rfl) (v_X_isVillage h0 e_q1) ?_
  by_cases c_1 : q1 = 0
  · replace h := (if_pos c_1).symm.trans h
    refine fx_ifeq_j rfl rfl c_1 ?_
    refine fx_const rfl (show Int32.ofInt (-1) = (-1 : Int32) by decide) ?_
    obtain rfl := Option.some.inj h
    exact fx_ret rfl rfl
  · replace h := (if_neg c_1).symm.trans h
    refine fx_ifeq_s rfl c_1 ?_
    refine fx_aload rfl rfl ?_
    refine fx_iload rfl rfl ?_
    obtain ⟨q2, e_q2, h⟩ := fx_bd h
    refine fx_call [.ref 0, .int a2] [] rfl (by decide) rfl rfl rfl rfl rfl (Nat.le_of_ble_eq_true rfl) (fx_rcv h0.1 rfl) (v_X_isVerb h0 e_q2) ?_
    by_cases c_2 : q2 = 0
    · replace h := (if_pos c_2).symm.trans h
      refine fx_ifeq_j rfl rfl c_2 ?_
      refine fx_const rfl (show Int32.ofInt (-1) = (-1 : Int32) by decide) ?_
      obtain rfl := Option.some.inj h
      exact fx_ret rfl rfl
    · replace h := (if_neg c_2).symm.trans h
      refine fx_ifeq_s rfl c_2 ?_
      refine fx_aload rfl rfl ?_
      refine fx_getV rfl h0.1 rfl rfl ?_
      refine fx_iload rfl rfl ?_
      refine fx_iload rfl rfl ?_
      obtain ⟨q3, e_q3, h⟩ := fx_bd h
      refine fx_call [.ref 24, .int a1, .int a2] [] rfl (by decide) rfl rfl rfl rfl rfl (Nat.le_of_ble_eq_true rfl) (fx_rcv h0.2.2.2.2.1.1 rfl) (v_S_stockOf h0.2.2.2.2.1 e_q3) ?_
      refine fx_goto rfl rfl ?_
      obtain rfl := Option.some.inj h
      exact fx_ret rfl rfl

def g_X_isWork (M : fv_M) (L : Nat) (D : Nat) (a1 : Int32) : Option (Int32) := (g_X_within M a1 (0 : Int32) ((M L 3) - (1 : Int32))).bind fun q1 => fx_ck (¬ (q1 = 0 ∨ q1 = 1)) (some q1)
theorem v_X_isWork {X : fv_X} {sh : fv_Sh} {k : Nat × Nat} {M : fv_M} {L : Nat} {D : Nat} {a1 : Int32} {r : Int32} (h0 : fx_atX sh L D) (h : g_X_isWork M L D a1 = some r) : fv_Rn X 83 0 [some (.ref 0), some (.int a1)] [] k sh M (some (.int r), sh, M) := by
  unfold g_X_isWork at h
  refine fx_iload rfl rfl ?_
  refine fx_const rfl (show Int32.ofInt 0 = (0 : Int32) by decide) ?_
  refine fx_aload rfl rfl ?_
  refine fx_getV rfl h0.1 rfl rfl ?_
  refine fx_getI rfl h0.2.2.1.1 rfl rfl ?_
  refine fx_const rfl (show Int32.ofInt 1 = (1 : Int32) by decide) ?_
  refine fx_isub rfl ?_
  obtain ⟨q1, e_q1, h⟩ := fx_bd h
  refine fx_call [.int a1, .int (0 : Int32), .int ((M L 3) - (1 : Int32))] [] rfl (by decide) rfl rfl rfl rfl rfl (Nat.le_of_ble_eq_true rfl) rfl (v_X_within  e_q1) ?_
  obtain ⟨c_1, h⟩ := fx_ck_some h
  obtain rfl := Option.some.inj h
  exact fx_ret rfl (decide_eq_true (Decidable.not_not.mp c_1))

theorem v_sw_X_work (x : Int32) (h0 : ¬ x = (0 : Int32)) (h1 : ¬ x = (1 : Int32)) (h2 : ¬ x = (2 : Int32)) (h3 : ¬ x = (3 : Int32)) (h4 : ¬ x = (4 : Int32)) : fv_tgt 104 0 4 #[44, 56, 68, 80, 92] x = some 104 := by
  unfold fv_tgt
  split
  · rfl
  · rename_i hx
    rcases (by omega : x.toInt = 0 ∨ x.toInt = 1 ∨ x.toInt = 2 ∨ x.toInt = 3 ∨ x.toInt = 4) with e | e | e | e | e
    · exact absurd (Int32.toInt_inj.mp (e.trans (show (0 : Int) = ((0 : Int32)).toInt by decide))) h0
    · exact absurd (Int32.toInt_inj.mp (e.trans (show (1 : Int) = ((1 : Int32)).toInt by decide))) h1
    · exact absurd (Int32.toInt_inj.mp (e.trans (show (2 : Int) = ((2 : Int32)).toInt by decide))) h2
    · exact absurd (Int32.toInt_inj.mp (e.trans (show (3 : Int) = ((3 : Int32)).toInt by decide))) h3
    · exact absurd (Int32.toInt_inj.mp (e.trans (show (4 : Int) = ((4 : Int32)).toInt by decide))) h4
def g_X_work (M : fv_M) (L : Nat) (D : Nat) (a1 : Int32) (a2 : Int32) : Option (Int32) := (g_X_isWork M L D a1).bind fun q1 => if q1 = 0 then (some (-1 : Int32)) else (if a2 = (0 : Int32) then ((g_X_at M (L + 7) 8 a1).bind fun q2 => some q2) else (if a2 = (1 : Int32) then ((g_X_at M (L + 8) 8 a1).bind fun q3 => some q3) else (if a2 = (2 : Int32) then ((g_X_at M (L + 9) 8 a1).bind fun q4 => some q4) else (if a2 = (3 : Int32) then ((g_X_at M (24 + 3) 8 a1).bind fun q5 => some q5) else (if a2 = (4 : Int32) then ((g_X_at M (24 + 4) 8 a1).bind fun q6 => some q6) else (some (-1 : Int32)))))))
theorem v_X_work {X : fv_X} {sh : fv_Sh} {k : Nat × Nat} {M : fv_M} {L : Nat} {D : Nat} {a1 : Int32} {a2 : Int32} {r : Int32} (h0 : fx_atX sh L D) (h : g_X_work M L D a1 a2 = some r) : fv_Rn X 59 0 [some (.ref 0), some (.int a1), some (.int a2)] [] k sh M (some (.int r), sh, M) := by
  unfold g_X_work at h
  refine fx_aload rfl rfl ?_
  refine fx_iload rfl rfl ?_
  obtain ⟨q1, e_q1, h⟩ := fx_bd h
  refine fx_call [.ref 0, .int a1] [] rfl (by decide) rfl rfl rfl rfl rfl (Nat.le_of_ble_eq_true rfl) (fx_rcv h0.1 rfl) (v_X_isWork h0 e_q1) ?_
  by_cases c_1 : q1 = 0
  · replace h := (if_pos c_1).symm.trans h
    refine fx_ifne_s rfl c_1 ?_
    refine fx_const rfl (show Int32.ofInt (-1) = (-1 : Int32) by decide) ?_
    obtain rfl := Option.some.inj h
    exact fx_ret rfl rfl
  · replace h := (if_neg c_1).symm.trans h
    refine fx_ifne_j rfl rfl c_1 ?_
    refine fx_iload rfl rfl ?_
    by_cases c_2 : a2 = (0 : Int32)
    · replace h := (if_pos c_2).symm.trans h
      refine fx_tsw (t := 44) rfl (by rw [c_2]; rfl) ?_
      refine fx_aload rfl rfl ?_
      refine fx_getV rfl h0.1 rfl rfl ?_
      refine fx_getV rfl h0.2.2.1.1 rfl rfl ?_
      refine fx_iload rfl rfl ?_
      obtain ⟨q2, e_q2, h⟩ := fx_bd h
      refine fx_call [.ref (L + 7), .int a1] [] rfl (by decide) rfl rfl rfl rfl rfl (Nat.le_of_ble_eq_true rfl) rfl (v_X_at h0.2.2.1.2.2.2.2.2.2.2.1 e_q2) ?_
      obtain rfl := Option.some.inj h
      exact fx_ret rfl rfl
    · replace h := (if_neg c_2).symm.trans h
      by_cases c_3 : a2 = (1 : Int32)
      · replace h := (if_pos c_3).symm.trans h
        refine fx_tsw (t := 56) rfl (by rw [c_3]; rfl) ?_
        refine fx_aload rfl rfl ?_
        refine fx_getV rfl h0.1 rfl rfl ?_
        refine fx_getV rfl h0.2.2.1.1 rfl rfl ?_
        refine fx_iload rfl rfl ?_
        obtain ⟨q3, e_q3, h⟩ := fx_bd h
        refine fx_call [.ref (L + 8), .int a1] [] rfl (by decide) rfl rfl rfl rfl rfl (Nat.le_of_ble_eq_true rfl) rfl (v_X_at h0.2.2.1.2.2.2.2.2.2.2.2.1 e_q3) ?_
        obtain rfl := Option.some.inj h
        exact fx_ret rfl rfl
      · replace h := (if_neg c_3).symm.trans h
        by_cases c_4 : a2 = (2 : Int32)
        · replace h := (if_pos c_4).symm.trans h
          refine fx_tsw (t := 68) rfl (by rw [c_4]; rfl) ?_
          refine fx_aload rfl rfl ?_
          refine fx_getV rfl h0.1 rfl rfl ?_
          refine fx_getV rfl h0.2.2.1.1 rfl rfl ?_
          refine fx_iload rfl rfl ?_
          obtain ⟨q4, e_q4, h⟩ := fx_bd h
          refine fx_call [.ref (L + 9), .int a1] [] rfl (by decide) rfl rfl rfl rfl rfl (Nat.le_of_ble_eq_true rfl) rfl (v_X_at h0.2.2.1.2.2.2.2.2.2.2.2.2 e_q4) ?_
          obtain rfl := Option.some.inj h
          exact fx_ret rfl rfl
        · replace h := (if_neg c_4).symm.trans h
          by_cases c_5 : a2 = (3 : Int32)
          · replace h := (if_pos c_5).symm.trans h
            refine fx_tsw (t := 80) rfl (by rw [c_5]; rfl) ?_
            refine fx_aload rfl rfl ?_
            refine fx_getV rfl h0.1 rfl rfl ?_
            refine fx_getV rfl h0.2.2.2.2.1.1 rfl rfl ?_
            refine fx_iload rfl rfl ?_
            obtain ⟨q5, e_q5, h⟩ := fx_bd h
            refine fx_call [.ref (24 + 3), .int a1] [] rfl (by decide) rfl rfl rfl rfl rfl (Nat.le_of_ble_eq_true rfl) rfl (v_X_at h0.2.2.2.2.1.2.2.2.1 e_q5) ?_
            obtain rfl := Option.some.inj h
            exact fx_ret rfl rfl
          · replace h := (if_neg c_5).symm.trans h
            by_cases c_6 : a2 = (4 : Int32)
            · replace h := (if_pos c_6).symm.trans h
              refine fx_tsw (t := 92) rfl (by rw [c_6]; rfl) ?_
              refine fx_aload rfl rfl ?_
              refine fx_getV rfl h0.1 rfl rfl ?_
              refine fx_getV rfl h0.2.2.2.2.1.1 rfl rfl ?_
              refine fx_iload rfl rfl ?_
              obtain ⟨q6, e_q6, h⟩ := fx_bd h
              refine fx_call [.ref (24 + 4), .int a1] [] rfl (by decide) rfl rfl rfl rfl rfl (Nat.le_of_ble_eq_true rfl) rfl (v_X_at h0.2.2.2.2.1.2.2.2.2 e_q6) ?_
              obtain rfl := Option.some.inj h
              exact fx_ret rfl rfl
            · replace h := (if_neg c_6).symm.trans h
              refine fx_tsw rfl (v_sw_X_work a2 c_2 c_3 c_4 c_5 c_6) ?_
              refine fx_const rfl (show Int32.ofInt (-1) = (-1 : Int32) by decide) ?_
              obtain rfl := Option.some.inj h
              exact fx_ret rfl rfl

def g_X_goAhead_2 (L : Nat) (D : Nat) (i1 : Nat) (a2 : Int32) : Nat → fv_M → Int32 → (fv_M → Int32 → Option (fv_M)) → Option (fv_M)
  | 0, _, _, _ => none
  | n + 1, M, a3, kk => if a2 ≤ a3 then (kk M a3) else ((g_S_goBy M i1 L).bind fun q1 => g_X_goAhead_2 L D i1 a2 n q1.2 (a3 + (1 : Int32)) kk)
theorem v_X_goAhead_2 {X : fv_X} {sh : fv_Sh} {k : Nat × Nat} {L : Nat} {D : Nat} {i1 : Nat} {a2 : Int32} {r : fv_M} {kk : fv_M → Int32 → Option (fv_M)} (h0 : fx_atX sh L D) (h1 : fx_atS sh i1) (K : ∀ (M : fv_M) (a3 : Int32), kk M a3 = some r → fv_Rn X 87 22 [some (.ref 0), some (.ref i1), some (.int a2), some (.int a3)] [] k sh M (none, sh, r)) : ∀ (n : Nat) (M : fv_M) (a3 : Int32), g_X_goAhead_2 L D i1 a2 n M a3 kk = some r → fv_Rn X 87 2 [some (.ref 0), some (.ref i1), some (.int a2), some (.int a3)] [] k sh M (none, sh, r) := by
  intro n
  induction n with
  | zero =>
    intro M a3 h
    replace h : (none : Option (fv_M)) = some r := h
    cases h
  | succ n ih =>
    intro M a3 h
    rw [g_X_goAhead_2] at h
    refine fx_iload rfl rfl ?_
    refine fx_iload rfl rfl ?_
    by_cases c_1 : a2 ≤ a3
    · replace h := (if_pos c_1).symm.trans h
      refine fx_icge_j rfl rfl c_1 ?_
      exact K _ _ h
    · replace h := (if_neg c_1).symm.trans h
      refine fx_icge_s rfl c_1 ?_
      refine fx_aload rfl rfl ?_
      refine fx_aload rfl rfl ?_
      refine fx_getV rfl h0.1 rfl rfl ?_
      obtain ⟨q1, e_q1, h⟩ := fx_bd h
      refine fx_call [.ref i1, .ref L] [] rfl (by decide) rfl rfl rfl rfl rfl (Nat.le_of_ble_eq_true rfl) (fx_rcv h1.1 rfl) (v_S_goBy h1 h0.2.2.1 e_q1) ?_
      refine fx_pop rfl rfl ?_
      refine fx_iinc rfl (show Int32.ofInt 1 = (1 : Int32) by decide) rfl rfl ?_
      refine fx_back rfl rfl rfl ?_
      exact ih _ _ h
def g_X_goAhead (M : fv_M) (L : Nat) (D : Nat) (i1 : Nat) (a2 : Int32) : Option (fv_M) := g_X_goAhead_2 L D i1 a2 fx_FU M (0 : Int32) (fun M_2 b3_2 => some M_2)
theorem v_X_goAhead {X : fv_X} {sh : fv_Sh} {k : Nat × Nat} {M : fv_M} {L : Nat} {D : Nat} {i1 : Nat} {a2 : Int32} {r : fv_M} (h0 : fx_atX sh L D) (h1 : fx_atS sh i1) (h : g_X_goAhead M L D i1 a2 = some r) : fv_Rn X 87 0 [some (.ref 0), some (.ref i1), some (.int a2)] [] k sh M (none, sh, r) := by
  unfold g_X_goAhead at h
  refine fx_const rfl (show Int32.ofInt 0 = (0 : Int32) by decide) ?_
  refine fx_istore rfl rfl ?_
  refine v_X_goAhead_2 h0 h1 (fun M_2 b3_2 h => ?_) fx_FU _ _ h
  obtain rfl := Option.some.inj h
  exact fx_vret rfl rfl

def g_X_pass (M : fv_M) (L : Nat) (D : Nat) (a1 : Int32) : Option (Int32 × fv_M) := (g_X_within M a1 (1 : Int32) (10 : Int32)).bind fun q1 => if q1 = 0 then (some ((-1 : Int32), M)) else ((g_F_shelve M 34 8 24).bind fun q2 => (g_X_goAhead q2 L D 24 a1).bind fun q3 => some ((q3 24 0), q3))
theorem v_X_pass {X : fv_X} {sh : fv_Sh} {k : Nat × Nat} {M : fv_M} {L : Nat} {D : Nat} {a1 : Int32} {r : Int32 × fv_M} (h0 : fx_atX sh L D) (h : g_X_pass M L D a1 = some r) : fv_Rn X 60 0 [some (.ref 0), some (.int a1)] [] k sh M (some (.int r.1), sh, r.2) := by
  unfold g_X_pass at h
  refine fx_iload rfl rfl ?_
  refine fx_const rfl (show Int32.ofInt 1 = (1 : Int32) by decide) ?_
  refine fx_const rfl (show Int32.ofInt 10 = (10 : Int32) by decide) ?_
  obtain ⟨q1, e_q1, h⟩ := fx_bd h
  refine fx_call [.int a1, .int (1 : Int32), .int (10 : Int32)] [] rfl (by decide) rfl rfl rfl rfl rfl (Nat.le_of_ble_eq_true rfl) rfl (v_X_within  e_q1) ?_
  by_cases c_1 : q1 = 0
  · replace h := (if_pos c_1).symm.trans h
    refine fx_ifne_s rfl c_1 ?_
    refine fx_const rfl (show Int32.ofInt (-1) = (-1 : Int32) by decide) ?_
    obtain rfl := Option.some.inj h
    exact fx_ret rfl rfl
  · replace h := (if_neg c_1).symm.trans h
    refine fx_ifne_j rfl rfl c_1 ?_
    refine fx_aload rfl rfl ?_
    refine fx_getV rfl h0.1 rfl rfl ?_
    refine fx_aload rfl rfl ?_
    refine fx_getV rfl h0.1 rfl rfl ?_
    obtain ⟨q2, e_q2, h⟩ := fx_bd h
    refine fx_call [.ref 34, .ref 24] [] rfl (by decide) rfl rfl rfl rfl rfl (Nat.le_of_ble_eq_true rfl) (fx_rcv h0.2.2.2.2.2.2.1.1 rfl) (v_F_shelve h0.2.2.2.2.2.2.1 h0.2.2.2.2.1 e_q2) ?_
    refine fx_aload rfl rfl ?_
    refine fx_aload rfl rfl ?_
    refine fx_getV rfl h0.1 rfl rfl ?_
    refine fx_iload rfl rfl ?_
    obtain ⟨q3, e_q3, h⟩ := fx_bd h
    refine fx_call [.ref 0, .ref 24, .int a1] [] rfl (by decide) rfl rfl rfl rfl rfl (Nat.le_of_ble_eq_true rfl) (fx_rcv h0.1 rfl) (v_X_goAhead h0 h0.2.2.2.2.1 e_q3) ?_
    refine fx_aload rfl rfl ?_
    refine fx_getV rfl h0.1 rfl rfl ?_
    refine fx_getI rfl h0.2.2.2.2.1.1 rfl rfl ?_
    obtain rfl := Option.some.inj h
    exact fx_ret rfl rfl

def g_X_refusalOfGift (M : fv_M) (L : Nat) (D : Nat) (a1 : Int32) (a2 : Int32) (a3 : Int32) (a4 : Int32) (a5 : Int32) : Option (Int32) := (g_X_isVillage M L D a1).bind fun q1 => if q1 = 0 then (some (-1 : Int32)) else ((g_X_isVillage M L D a2).bind fun q2 => if q2 = 0 then (some (-1 : Int32)) else (if a1 = a2 then (some (-1 : Int32)) else ((g_X_isVerb M L D a3).bind fun q3 => if q3 = 0 then (some (-1 : Int32)) else ((g_X_within M a4 (1 : Int32) a5).bind fun q4 => if q4 = 0 then (some (-1 : Int32)) else ((g_S_stockOf M 24 a1 a3).bind fun q5 => if a4 ≤ q5 then ((g_S_stockOf M 24 a2 a3).bind fun q6 => if (q6 + a4) ≤ (60 : Int32) then (some (0 : Int32)) else (some (-3 : Int32))) else (some (-2 : Int32)))))))
theorem v_X_refusalOfGift {X : fv_X} {sh : fv_Sh} {k : Nat × Nat} {M : fv_M} {L : Nat} {D : Nat} {a1 : Int32} {a2 : Int32} {a3 : Int32} {a4 : Int32} {a5 : Int32} {r : Int32} (h0 : fx_atX sh L D) (h : g_X_refusalOfGift M L D a1 a2 a3 a4 a5 = some r) : fv_Rn X 85 0 [some (.ref 0), some (.int a1), some (.int a2), some (.int a3), some (.int a4), some (.int a5)] [] k sh M (some (.int r), sh, M) := by
  unfold g_X_refusalOfGift at h
  refine fx_aload rfl rfl ?_
  refine fx_iload rfl rfl ?_
  obtain ⟨q1, e_q1, h⟩ := fx_bd h
  refine fx_call [.ref 0, .int a1] [] rfl (by decide) rfl rfl rfl rfl rfl (Nat.le_of_ble_eq_true rfl) (fx_rcv h0.1 rfl) (v_X_isVillage h0 e_q1) ?_
  by_cases c_1 : q1 = 0
  · replace h := (if_pos c_1).symm.trans h
    refine fx_ifeq_j rfl rfl c_1 ?_
    refine fx_const rfl (show Int32.ofInt (-1) = (-1 : Int32) by decide) ?_
    obtain rfl := Option.some.inj h
    exact fx_ret rfl rfl
  · replace h := (if_neg c_1).symm.trans h
    refine fx_ifeq_s rfl c_1 ?_
    refine fx_aload rfl rfl ?_
    refine fx_iload rfl rfl ?_
    obtain ⟨q2, e_q2, h⟩ := fx_bd h
    refine fx_call [.ref 0, .int a2] [] rfl (by decide) rfl rfl rfl rfl rfl (Nat.le_of_ble_eq_true rfl) (fx_rcv h0.1 rfl) (v_X_isVillage h0 e_q2) ?_
    by_cases c_2 : q2 = 0
    · replace h := (if_pos c_2).symm.trans h
      refine fx_ifeq_j rfl rfl c_2 ?_
      refine fx_const rfl (show Int32.ofInt (-1) = (-1 : Int32) by decide) ?_
      obtain rfl := Option.some.inj h
      exact fx_ret rfl rfl
    · replace h := (if_neg c_2).symm.trans h
      refine fx_ifeq_s rfl c_2 ?_
      refine fx_iload rfl rfl ?_
      refine fx_iload rfl rfl ?_
      by_cases c_3 : a1 = a2
      · replace h := (if_pos c_3).symm.trans h
        refine fx_iceq_j rfl rfl c_3 ?_
        refine fx_const rfl (show Int32.ofInt (-1) = (-1 : Int32) by decide) ?_
        obtain rfl := Option.some.inj h
        exact fx_ret rfl rfl
      · replace h := (if_neg c_3).symm.trans h
        refine fx_iceq_s rfl c_3 ?_
        refine fx_aload rfl rfl ?_
        refine fx_iload rfl rfl ?_
        obtain ⟨q3, e_q3, h⟩ := fx_bd h
        refine fx_call [.ref 0, .int a3] [] rfl (by decide) rfl rfl rfl rfl rfl (Nat.le_of_ble_eq_true rfl) (fx_rcv h0.1 rfl) (v_X_isVerb h0 e_q3) ?_
        by_cases c_4 : q3 = 0
        · replace h := (if_pos c_4).symm.trans h
          refine fx_ifeq_j rfl rfl c_4 ?_
          refine fx_const rfl (show Int32.ofInt (-1) = (-1 : Int32) by decide) ?_
          obtain rfl := Option.some.inj h
          exact fx_ret rfl rfl
        · replace h := (if_neg c_4).symm.trans h
          refine fx_ifeq_s rfl c_4 ?_
          refine fx_iload rfl rfl ?_
          refine fx_const rfl (show Int32.ofInt 1 = (1 : Int32) by decide) ?_
          refine fx_iload rfl rfl ?_
          obtain ⟨q4, e_q4, h⟩ := fx_bd h
          refine fx_call [.int a4, .int (1 : Int32), .int a5] [] rfl (by decide) rfl rfl rfl rfl rfl (Nat.le_of_ble_eq_true rfl) rfl (v_X_within  e_q4) ?_
          by_cases c_5 : q4 = 0
          · replace h := (if_pos c_5).symm.trans h
            refine fx_ifne_s rfl c_5 ?_
            refine fx_const rfl (show Int32.ofInt (-1) = (-1 : Int32) by decide) ?_
            obtain rfl := Option.some.inj h
            exact fx_ret rfl rfl
          · replace h := (if_neg c_5).symm.trans h
            refine fx_ifne_j rfl rfl c_5 ?_
            refine fx_aload rfl rfl ?_
            refine fx_getV rfl h0.1 rfl rfl ?_
            refine fx_iload rfl rfl ?_
            refine fx_iload rfl rfl ?_
            obtain ⟨q5, e_q5, h⟩ := fx_bd h
            refine fx_call [.ref 24, .int a1, .int a3] [] rfl (by decide) rfl rfl rfl rfl rfl (Nat.le_of_ble_eq_true rfl) (fx_rcv h0.2.2.2.2.1.1 rfl) (v_S_stockOf h0.2.2.2.2.1 e_q5) ?_
            refine fx_iload rfl rfl ?_
            by_cases c_6 : a4 ≤ q5
            · replace h := (if_pos c_6).symm.trans h
              refine fx_icge_j rfl rfl c_6 ?_
              refine fx_aload rfl rfl ?_
              refine fx_getV rfl h0.1 rfl rfl ?_
              refine fx_iload rfl rfl ?_
              refine fx_iload rfl rfl ?_
              obtain ⟨q6, e_q6, h⟩ := fx_bd h
              refine fx_call [.ref 24, .int a2, .int a3] [] rfl (by decide) rfl rfl rfl rfl rfl (Nat.le_of_ble_eq_true rfl) (fx_rcv h0.2.2.2.2.1.1 rfl) (v_S_stockOf h0.2.2.2.2.1 e_q6) ?_
              refine fx_iload rfl rfl ?_
              refine fx_iadd rfl ?_
              refine fx_const rfl (show Int32.ofInt 60 = (60 : Int32) by decide) ?_
              by_cases c_7 : (q6 + a4) ≤ (60 : Int32)
              · replace h := (if_pos c_7).symm.trans h
                refine fx_icle_j rfl rfl c_7 ?_
                refine fx_const rfl (show Int32.ofInt 0 = (0 : Int32) by decide) ?_
                obtain rfl := Option.some.inj h
                exact fx_ret rfl rfl
              · replace h := (if_neg c_7).symm.trans h
                refine fx_icle_s rfl c_7 ?_
                refine fx_const rfl (show Int32.ofInt (-3) = (-3 : Int32) by decide) ?_
                refine fx_goto rfl rfl ?_
                obtain rfl := Option.some.inj h
                exact fx_ret rfl rfl
            · replace h := (if_neg c_6).symm.trans h
              refine fx_icge_s rfl c_6 ?_
              refine fx_const rfl (show Int32.ofInt (-2) = (-2 : Int32) by decide) ?_
              obtain rfl := Option.some.inj h
              exact fx_ret rfl rfl

def g_X_give (M : fv_M) (L : Nat) (D : Nat) (a1 : Int32) (a2 : Int32) (a3 : Int32) (a4 : Int32) : Option (Int32 × fv_M) := (g_X_refusalOfGift M L D a1 a2 a3 a4 (60 : Int32)).bind fun q1 => if q1 = 0 then ((g_F_shelve M 34 8 24).bind fun q2 => (g_S_move q2 24 a1 a2 a3 a4).bind fun q3 => (g_S_stockOf q3 24 a2 a3).bind fun q4 => some (q4, q3)) else (some (q1, M))
theorem v_X_give {X : fv_X} {sh : fv_Sh} {k : Nat × Nat} {M : fv_M} {L : Nat} {D : Nat} {a1 : Int32} {a2 : Int32} {a3 : Int32} {a4 : Int32} {r : Int32 × fv_M} (h0 : fx_atX sh L D) (h : g_X_give M L D a1 a2 a3 a4 = some r) : fv_Rn X 61 0 [some (.ref 0), some (.int a1), some (.int a2), some (.int a3), some (.int a4)] [] k sh M (some (.int r.1), sh, r.2) := by
  unfold g_X_give at h
  refine fx_aload rfl rfl ?_
  refine fx_iload rfl rfl ?_
  refine fx_iload rfl rfl ?_
  refine fx_iload rfl rfl ?_
  refine fx_iload rfl rfl ?_
  refine fx_const rfl (show Int32.ofInt 60 = (60 : Int32) by decide) ?_
  obtain ⟨q1, e_q1, h⟩ := fx_bd h
  refine fx_call [.ref 0, .int a1, .int a2, .int a3, .int a4, .int (60 : Int32)] [] rfl (by decide) rfl rfl rfl rfl rfl (Nat.le_of_ble_eq_true rfl) (fx_rcv h0.1 rfl) (v_X_refusalOfGift h0 e_q1) ?_
  refine fx_istore rfl rfl ?_
  refine fx_iload rfl rfl ?_
  by_cases c_1 : q1 = 0
  · replace h := (if_pos c_1).symm.trans h
    refine fx_ifeq_j rfl rfl c_1 ?_
    refine fx_aload rfl rfl ?_
    refine fx_getV rfl h0.1 rfl rfl ?_
    refine fx_aload rfl rfl ?_
    refine fx_getV rfl h0.1 rfl rfl ?_
    obtain ⟨q2, e_q2, h⟩ := fx_bd h
    refine fx_call [.ref 34, .ref 24] [] rfl (by decide) rfl rfl rfl rfl rfl (Nat.le_of_ble_eq_true rfl) (fx_rcv h0.2.2.2.2.2.2.1.1 rfl) (v_F_shelve h0.2.2.2.2.2.2.1 h0.2.2.2.2.1 e_q2) ?_
    refine fx_aload rfl rfl ?_
    refine fx_getV rfl h0.1 rfl rfl ?_
    refine fx_iload rfl rfl ?_
    refine fx_iload rfl rfl ?_
    refine fx_iload rfl rfl ?_
    refine fx_iload rfl rfl ?_
    obtain ⟨q3, e_q3, h⟩ := fx_bd h
    refine fx_call [.ref 24, .int a1, .int a2, .int a3, .int a4] [] rfl (by decide) rfl rfl rfl rfl rfl (Nat.le_of_ble_eq_true rfl) (fx_rcv h0.2.2.2.2.1.1 rfl) (v_S_move h0.2.2.2.2.1 e_q3) ?_
    refine fx_aload rfl rfl ?_
    refine fx_getV rfl h0.1 rfl rfl ?_
    refine fx_iload rfl rfl ?_
    refine fx_iload rfl rfl ?_
    obtain ⟨q4, e_q4, h⟩ := fx_bd h
    refine fx_call [.ref 24, .int a2, .int a3] [] rfl (by decide) rfl rfl rfl rfl rfl (Nat.le_of_ble_eq_true rfl) (fx_rcv h0.2.2.2.2.1.1 rfl) (v_S_stockOf h0.2.2.2.2.1 e_q4) ?_
    obtain rfl := Option.some.inj h
    exact fx_ret rfl rfl
  · replace h := (if_neg c_1).symm.trans h
    refine fx_ifeq_s rfl c_1 ?_
    refine fx_iload rfl rfl ?_
    obtain rfl := Option.some.inj h
    exact fx_ret rfl rfl

def g_X_sow (M : fv_M) (L : Nat) (D : Nat) (a1 : Int32) (a2 : Int32) : Option (Int32 × fv_M) := (g_X_isVillage M L D a1).bind fun q1 => if q1 = 0 then (some ((-1 : Int32), M)) else ((g_X_isVerb M L D a2).bind fun q2 => if q2 = 0 then (some ((-1 : Int32), M)) else ((g_S_seedFor M 24 L a1 a2).bind fun q3 => if q3 = (-4 : Int32) then (some ((-2 : Int32), M)) else ((g_F_shelve M 34 8 24).bind fun q4 => (g_S_stockOf q4 24 a1 q3).bind fun q5 => if q3 = a2 then ((g_S_setStock q4 24 a1 q3 (q5 - (1 : Int32))).bind fun q6 => (g_X_put q6 (24 + 2) 4 a1 a2).bind fun q7 => (g_S_stockOf q7 24 a1 a2).bind fun q8 => some (q8, q7)) else ((g_S_setStock q4 24 a1 q3 (q5 - (2 : Int32))).bind fun q9 => (g_X_put q9 (24 + 2) 4 a1 a2).bind fun q10 => (g_S_stockOf q10 24 a1 a2).bind fun q11 => some (q11, q10)))))
theorem v_X_sow {X : fv_X} {sh : fv_Sh} {k : Nat × Nat} {M : fv_M} {L : Nat} {D : Nat} {a1 : Int32} {a2 : Int32} {r : Int32 × fv_M} (h0 : fx_atX sh L D) (h : g_X_sow M L D a1 a2 = some r) : fv_Rn X 62 0 [some (.ref 0), some (.int a1), some (.int a2)] [] k sh M (some (.int r.1), sh, r.2) := by
  unfold g_X_sow at h
  refine fx_aload rfl rfl ?_
  refine fx_iload rfl rfl ?_
  obtain ⟨q1, e_q1, h⟩ := fx_bd h
  refine fx_call [.ref 0, .int a1] [] rfl (by decide) rfl rfl rfl rfl rfl (Nat.le_of_ble_eq_true rfl) (fx_rcv h0.1 rfl) (v_X_isVillage h0 e_q1) ?_
  by_cases c_1 : q1 = 0
  · replace h := (if_pos c_1).symm.trans h
    refine fx_ifeq_j rfl rfl c_1 ?_
    refine fx_const rfl (show Int32.ofInt (-1) = (-1 : Int32) by decide) ?_
    obtain rfl := Option.some.inj h
    exact fx_ret rfl rfl
  · replace h := (if_neg c_1).symm.trans h
    refine fx_ifeq_s rfl c_1 ?_
    refine fx_aload rfl rfl ?_
    refine fx_iload rfl rfl ?_
    obtain ⟨q2, e_q2, h⟩ := fx_bd h
    refine fx_call [.ref 0, .int a2] [] rfl (by decide) rfl rfl rfl rfl rfl (Nat.le_of_ble_eq_true rfl) (fx_rcv h0.1 rfl) (v_X_isVerb h0 e_q2) ?_
    by_cases c_2 : q2 = 0
    · replace h := (if_pos c_2).symm.trans h
      refine fx_ifne_s rfl c_2 ?_
      refine fx_const rfl (show Int32.ofInt (-1) = (-1 : Int32) by decide) ?_
      obtain rfl := Option.some.inj h
      exact fx_ret rfl rfl
    · replace h := (if_neg c_2).symm.trans h
      refine fx_ifne_j rfl rfl c_2 ?_
      refine fx_aload rfl rfl ?_
      refine fx_getV rfl h0.1 rfl rfl ?_
      refine fx_aload rfl rfl ?_
      refine fx_getV rfl h0.1 rfl rfl ?_
      refine fx_iload rfl rfl ?_
      refine fx_iload rfl rfl ?_
      obtain ⟨q3, e_q3, h⟩ := fx_bd h
      refine fx_call [.ref 24, .ref L, .int a1, .int a2] [] rfl (by decide) rfl rfl rfl rfl rfl (Nat.le_of_ble_eq_true rfl) (fx_rcv h0.2.2.2.2.1.1 rfl) (v_S_seedFor h0.2.2.2.2.1 h0.2.2.1 e_q3) ?_
      refine fx_istore rfl rfl ?_
      refine fx_iload rfl rfl ?_
      refine fx_const rfl (show Int32.ofInt (-4) = (-4 : Int32) by decide) ?_
      by_cases c_3 : q3 = (-4 : Int32)
      · replace h := (if_pos c_3).symm.trans h
        refine fx_icne_s rfl c_3 ?_
        refine fx_const rfl (show Int32.ofInt (-2) = (-2 : Int32) by decide) ?_
        obtain rfl := Option.some.inj h
        exact fx_ret rfl rfl
      · replace h := (if_neg c_3).symm.trans h
        refine fx_icne_j rfl rfl c_3 ?_
        refine fx_aload rfl rfl ?_
        refine fx_getV rfl h0.1 rfl rfl ?_
        refine fx_aload rfl rfl ?_
        refine fx_getV rfl h0.1 rfl rfl ?_
        obtain ⟨q4, e_q4, h⟩ := fx_bd h
        refine fx_call [.ref 34, .ref 24] [] rfl (by decide) rfl rfl rfl rfl rfl (Nat.le_of_ble_eq_true rfl) (fx_rcv h0.2.2.2.2.2.2.1.1 rfl) (v_F_shelve h0.2.2.2.2.2.2.1 h0.2.2.2.2.1 e_q4) ?_
        refine fx_aload rfl rfl ?_
        refine fx_getV rfl h0.1 rfl rfl ?_
        refine fx_iload rfl rfl ?_
        refine fx_iload rfl rfl ?_
        refine fx_aload rfl rfl ?_
        refine fx_getV rfl h0.1 rfl rfl ?_
        refine fx_iload rfl rfl ?_
        refine fx_iload rfl rfl ?_
        obtain ⟨q5, e_q5, h⟩ := fx_bd h
        refine fx_call [.ref 24, .int a1, .int q3] [.int q3, .int a1, .ref 24] rfl (by decide) rfl rfl rfl rfl rfl (Nat.le_of_ble_eq_true rfl) (fx_rcv h0.2.2.2.2.1.1 rfl) (v_S_stockOf h0.2.2.2.2.1 e_q5) ?_
        refine fx_iload rfl rfl ?_
        refine fx_iload rfl rfl ?_
        by_cases c_4 : q3 = a2
        · replace h := (if_pos c_4).symm.trans h
          refine fx_icne_s rfl c_4 ?_
          refine fx_const rfl (show Int32.ofInt 1 = (1 : Int32) by decide) ?_
          refine fx_goto rfl rfl ?_
          refine fx_isub rfl ?_
          obtain ⟨q6, e_q6, h⟩ := fx_bd h
          refine fx_call [.ref 24, .int a1, .int q3, .int (q5 - (1 : Int32))] [] rfl (by decide) rfl rfl rfl rfl rfl (Nat.le_of_ble_eq_true rfl) (fx_rcv h0.2.2.2.2.1.1 rfl) (v_S_setStock h0.2.2.2.2.1 e_q6) ?_
          refine fx_aload rfl rfl ?_
          refine fx_getV rfl h0.1 rfl rfl ?_
          refine fx_getV rfl h0.2.2.2.2.1.1 rfl rfl ?_
          refine fx_iload rfl rfl ?_
          refine fx_iload rfl rfl ?_
          obtain ⟨q7, e_q7, h⟩ := fx_bd h
          refine fx_call [.ref (24 + 2), .int a1, .int a2] [] rfl (by decide) rfl rfl rfl rfl rfl (Nat.le_of_ble_eq_true rfl) rfl (v_X_put h0.2.2.2.2.1.2.2.1 e_q7) ?_
          refine fx_aload rfl rfl ?_
          refine fx_getV rfl h0.1 rfl rfl ?_
          refine fx_iload rfl rfl ?_
          refine fx_iload rfl rfl ?_
          obtain ⟨q8, e_q8, h⟩ := fx_bd h
          refine fx_call [.ref 24, .int a1, .int a2] [] rfl (by decide) rfl rfl rfl rfl rfl (Nat.le_of_ble_eq_true rfl) (fx_rcv h0.2.2.2.2.1.1 rfl) (v_S_stockOf h0.2.2.2.2.1 e_q8) ?_
          obtain rfl := Option.some.inj h
          exact fx_ret rfl rfl
        · replace h := (if_neg c_4).symm.trans h
          refine fx_icne_j rfl rfl c_4 ?_
          refine fx_const rfl (show Int32.ofInt 2 = (2 : Int32) by decide) ?_
          refine fx_isub rfl ?_
          obtain ⟨q9, e_q9, h⟩ := fx_bd h
          refine fx_call [.ref 24, .int a1, .int q3, .int (q5 - (2 : Int32))] [] rfl (by decide) rfl rfl rfl rfl rfl (Nat.le_of_ble_eq_true rfl) (fx_rcv h0.2.2.2.2.1.1 rfl) (v_S_setStock h0.2.2.2.2.1 e_q9) ?_
          refine fx_aload rfl rfl ?_
          refine fx_getV rfl h0.1 rfl rfl ?_
          refine fx_getV rfl h0.2.2.2.2.1.1 rfl rfl ?_
          refine fx_iload rfl rfl ?_
          refine fx_iload rfl rfl ?_
          obtain ⟨q10, e_q10, h⟩ := fx_bd h
          refine fx_call [.ref (24 + 2), .int a1, .int a2] [] rfl (by decide) rfl rfl rfl rfl rfl (Nat.le_of_ble_eq_true rfl) rfl (v_X_put h0.2.2.2.2.1.2.2.1 e_q10) ?_
          refine fx_aload rfl rfl ?_
          refine fx_getV rfl h0.1 rfl rfl ?_
          refine fx_iload rfl rfl ?_
          refine fx_iload rfl rfl ?_
          obtain ⟨q11, e_q11, h⟩ := fx_bd h
          refine fx_call [.ref 24, .int a1, .int a2] [] rfl (by decide) rfl rfl rfl rfl rfl (Nat.le_of_ble_eq_true rfl) (fx_rcv h0.2.2.2.2.1.1 rfl) (v_S_stockOf h0.2.2.2.2.1 e_q11) ?_
          obtain rfl := Option.some.inj h
          exact fx_ret rfl rfl

def g_X_undo (M : fv_M) (L : Nat) (D : Nat) : Option (Int32 × fv_M) := (g_F_takeInto M 34 8 24).bind fun q1 => if q1.1 = 0 then (some ((-2 : Int32), q1.2)) else (some ((q1.2 34 1), q1.2))
theorem v_X_undo {X : fv_X} {sh : fv_Sh} {k : Nat × Nat} {M : fv_M} {L : Nat} {D : Nat} {r : Int32 × fv_M} (h0 : fx_atX sh L D) (h : g_X_undo M L D = some r) : fv_Rn X 63 0 [some (.ref 0)] [] k sh M (some (.int r.1), sh, r.2) := by
  unfold g_X_undo at h
  refine fx_aload rfl rfl ?_
  refine fx_getV rfl h0.1 rfl rfl ?_
  refine fx_aload rfl rfl ?_
  refine fx_getV rfl h0.1 rfl rfl ?_
  obtain ⟨q1, e_q1, h⟩ := fx_bd h
  refine fx_call [.ref 34, .ref 24] [] rfl (by decide) rfl rfl rfl rfl rfl (Nat.le_of_ble_eq_true rfl) (fx_rcv h0.2.2.2.2.2.2.1.1 rfl) (v_F_takeInto h0.2.2.2.2.2.2.1 h0.2.2.2.2.1 e_q1) ?_
  by_cases c_1 : q1.1 = 0
  · replace h := (if_pos c_1).symm.trans h
    refine fx_ifeq_j rfl rfl c_1 ?_
    refine fx_const rfl (show Int32.ofInt (-2) = (-2 : Int32) by decide) ?_
    obtain rfl := Option.some.inj h
    exact fx_ret rfl rfl
  · replace h := (if_neg c_1).symm.trans h
    refine fx_ifeq_s rfl c_1 ?_
    refine fx_aload rfl rfl ?_
    refine fx_getV rfl h0.1 rfl rfl ?_
    refine fx_getI rfl h0.2.2.2.2.2.2.1.1 rfl rfl ?_
    refine fx_goto rfl rfl ?_
    obtain rfl := Option.some.inj h
    exact fx_ret rfl rfl

def g_X_worthAhead_4 (M : fv_M) (L : Nat) (D : Nat) (a1 : Int32) : Nat → Int32 → Int32 → (Int32 → Int32 → Option (Int32)) → Option (Int32)
  | 0, _, _, _ => none
  | n + 1, a2, a3, kk => if (M L 3) ≤ a3 then (kk a2 a3) else ((g_X_has M a1 a3).bind fun q1 => if q1 = 0 then (g_X_worthAhead_4 M L D a1 n a2 (a3 + (1 : Int32)) kk) else ((g_X_at M (L + 9) 8 a3).bind fun q2 => (g_X_at M (29 + 3) 8 a3).bind fun q3 => (g_X_at M (24 + 3) 8 a3).bind fun q4 => g_X_worthAhead_4 M L D a1 n (a2 + (q2 * (q3 - q4))) (a3 + (1 : Int32)) kk))
theorem v_X_worthAhead_4 {X : fv_X} {sh : fv_Sh} {k : Nat × Nat} {M : fv_M} {L : Nat} {D : Nat} {a1 : Int32} {r : Int32} {kk : Int32 → Int32 → Option (Int32)} (h0 : fx_atX sh L D) (K : ∀ (a2 a3 : Int32), kk a2 a3 = some r → fv_Rn X 89 67 [some (.ref 0), some (.int a1), some (.int a2), some (.int a3)] [] k sh M (some (.int r), sh, M)) : ∀ (n : Nat) (a2 a3 : Int32), g_X_worthAhead_4 M L D a1 n a2 a3 kk = some r → fv_Rn X 89 4 [some (.ref 0), some (.int a1), some (.int a2), some (.int a3)] [] k sh M (some (.int r), sh, M) := by
  intro n
  induction n with
  | zero =>
    intro a2 a3 h
    replace h : (none : Option (Int32)) = some r := h
    cases h
  | succ n ih =>
    intro a2 a3 h
    rw [g_X_worthAhead_4] at h
    refine fx_iload rfl rfl ?_
    refine fx_aload rfl rfl ?_
    refine fx_getV rfl h0.1 rfl rfl ?_
    refine fx_getI rfl h0.2.2.1.1 rfl rfl ?_
    by_cases c_1 : (M L 3) ≤ a3
    · replace h := (if_pos c_1).symm.trans h
      refine fx_icge_j rfl rfl c_1 ?_
      exact K _ _ h
    · replace h := (if_neg c_1).symm.trans h
      refine fx_icge_s rfl c_1 ?_
      refine fx_iload rfl rfl ?_
      refine fx_iload rfl rfl ?_
      obtain ⟨q1, e_q1, h⟩ := fx_bd h
      refine fx_call [.int a1, .int a3] [] rfl (by decide) rfl rfl rfl rfl rfl (Nat.le_of_ble_eq_true rfl) rfl (v_X_has  e_q1) ?_
      by_cases c_2 : q1 = 0
      · replace h := (if_pos c_2).symm.trans h
        refine fx_ifeq_j rfl rfl c_2 ?_
        refine fx_iinc rfl (show Int32.ofInt 1 = (1 : Int32) by decide) rfl rfl ?_
        refine fx_back rfl rfl rfl ?_
        exact ih _ _ h
      · replace h := (if_neg c_2).symm.trans h
        refine fx_ifeq_s rfl c_2 ?_
        refine fx_iload rfl rfl ?_
        refine fx_aload rfl rfl ?_
        refine fx_getV rfl h0.1 rfl rfl ?_
        refine fx_getV rfl h0.2.2.1.1 rfl rfl ?_
        refine fx_iload rfl rfl ?_
        obtain ⟨q2, e_q2, h⟩ := fx_bd h
        refine fx_call [.ref (L + 9), .int a3] [.int a2] rfl (by decide) rfl rfl rfl rfl rfl (Nat.le_of_ble_eq_true rfl) rfl (v_X_at h0.2.2.1.2.2.2.2.2.2.2.2.2 e_q2) ?_
        refine fx_aload rfl rfl ?_
        refine fx_getV rfl h0.1 rfl rfl ?_
        refine fx_getV rfl h0.2.2.2.2.2.1.1 rfl rfl ?_
        refine fx_iload rfl rfl ?_
        obtain ⟨q3, e_q3, h⟩ := fx_bd h
        refine fx_call [.ref (29 + 3), .int a3] [.int q2, .int a2] rfl (by decide) rfl rfl rfl rfl rfl (Nat.le_of_ble_eq_true rfl) rfl (v_X_at h0.2.2.2.2.2.1.2.2.2.1 e_q3) ?_
        refine fx_aload rfl rfl ?_
        refine fx_getV rfl h0.1 rfl rfl ?_
        refine fx_getV rfl h0.2.2.2.2.1.1 rfl rfl ?_
        refine fx_iload rfl rfl ?_
        obtain ⟨q4, e_q4, h⟩ := fx_bd h
        refine fx_call [.ref (24 + 3), .int a3] [.int q3, .int q2, .int a2] rfl (by decide) rfl rfl rfl rfl rfl (Nat.le_of_ble_eq_true rfl) rfl (v_X_at h0.2.2.2.2.1.2.2.2.1 e_q4) ?_
        refine fx_isub rfl ?_
        refine fx_imul rfl ?_
        refine fx_iadd rfl ?_
        refine fx_istore rfl rfl ?_
        refine fx_iinc rfl (show Int32.ofInt 1 = (1 : Int32) by decide) rfl rfl ?_
        refine fx_back rfl rfl rfl ?_
        exact ih _ _ h
def g_X_worthAhead (M : fv_M) (L : Nat) (D : Nat) (a1 : Int32) : Option (Int32) := g_X_worthAhead_4 M L D a1 fx_FU (0 : Int32) (0 : Int32) (fun b2_5 b3_5 => some b2_5)
theorem v_X_worthAhead {X : fv_X} {sh : fv_Sh} {k : Nat × Nat} {M : fv_M} {L : Nat} {D : Nat} {a1 : Int32} {r : Int32} (h0 : fx_atX sh L D) (h : g_X_worthAhead M L D a1 = some r) : fv_Rn X 89 0 [some (.ref 0), some (.int a1)] [] k sh M (some (.int r), sh, M) := by
  unfold g_X_worthAhead at h
  refine fx_const rfl (show Int32.ofInt 0 = (0 : Int32) by decide) ?_
  refine fx_istore rfl rfl ?_
  refine fx_const rfl (show Int32.ofInt 0 = (0 : Int32) by decide) ?_
  refine fx_istore rfl rfl ?_
  refine v_X_worthAhead_4 h0 (fun b2_5 b3_5 h => ?_) fx_FU _ _ h
  refine fx_iload rfl rfl ?_
  obtain rfl := Option.some.inj h
  exact fx_ret rfl rfl

def g_X_forgottenAhead_4 (M : fv_M) (L : Nat) (D : Nat) (a1 : Int32) : Nat → Int32 → Int32 → (Int32 → Int32 → Option (Int32)) → Option (Int32)
  | 0, _, _, _ => none
  | n + 1, a2, a3, kk => if (M L 3) ≤ a3 then (kk a2 a3) else ((g_X_has M a1 a3).bind fun q1 => if q1 = 0 then (g_X_forgottenAhead_4 M L D a1 n a2 (a3 + (1 : Int32)) kk) else ((g_X_at M (29 + 4) 8 a3).bind fun q2 => (g_X_at M (24 + 4) 8 a3).bind fun q3 => g_X_forgottenAhead_4 M L D a1 n (a2 + (q2 - q3)) (a3 + (1 : Int32)) kk))
theorem v_X_forgottenAhead_4 {X : fv_X} {sh : fv_Sh} {k : Nat × Nat} {M : fv_M} {L : Nat} {D : Nat} {a1 : Int32} {r : Int32} {kk : Int32 → Int32 → Option (Int32)} (h0 : fx_atX sh L D) (K : ∀ (a2 a3 : Int32), kk a2 a3 = some r → fv_Rn X 90 55 [some (.ref 0), some (.int a1), some (.int a2), some (.int a3)] [] k sh M (some (.int r), sh, M)) : ∀ (n : Nat) (a2 a3 : Int32), g_X_forgottenAhead_4 M L D a1 n a2 a3 kk = some r → fv_Rn X 90 4 [some (.ref 0), some (.int a1), some (.int a2), some (.int a3)] [] k sh M (some (.int r), sh, M) := by
  intro n
  induction n with
  | zero =>
    intro a2 a3 h
    replace h : (none : Option (Int32)) = some r := h
    cases h
  | succ n ih =>
    intro a2 a3 h
    rw [g_X_forgottenAhead_4] at h
    refine fx_iload rfl rfl ?_
    refine fx_aload rfl rfl ?_
    refine fx_getV rfl h0.1 rfl rfl ?_
    refine fx_getI rfl h0.2.2.1.1 rfl rfl ?_
    by_cases c_1 : (M L 3) ≤ a3
    · replace h := (if_pos c_1).symm.trans h
      refine fx_icge_j rfl rfl c_1 ?_
      exact K _ _ h
    · replace h := (if_neg c_1).symm.trans h
      refine fx_icge_s rfl c_1 ?_
      refine fx_iload rfl rfl ?_
      refine fx_iload rfl rfl ?_
      obtain ⟨q1, e_q1, h⟩ := fx_bd h
      refine fx_call [.int a1, .int a3] [] rfl (by decide) rfl rfl rfl rfl rfl (Nat.le_of_ble_eq_true rfl) rfl (v_X_has  e_q1) ?_
      by_cases c_2 : q1 = 0
      · replace h := (if_pos c_2).symm.trans h
        refine fx_ifeq_j rfl rfl c_2 ?_
        refine fx_iinc rfl (show Int32.ofInt 1 = (1 : Int32) by decide) rfl rfl ?_
        refine fx_back rfl rfl rfl ?_
        exact ih _ _ h
      · replace h := (if_neg c_2).symm.trans h
        refine fx_ifeq_s rfl c_2 ?_
        refine fx_iload rfl rfl ?_
        refine fx_aload rfl rfl ?_
        refine fx_getV rfl h0.1 rfl rfl ?_
        refine fx_getV rfl h0.2.2.2.2.2.1.1 rfl rfl ?_
        refine fx_iload rfl rfl ?_
        obtain ⟨q2, e_q2, h⟩ := fx_bd h
        refine fx_call [.ref (29 + 4), .int a3] [.int a2] rfl (by decide) rfl rfl rfl rfl rfl (Nat.le_of_ble_eq_true rfl) rfl (v_X_at h0.2.2.2.2.2.1.2.2.2.2 e_q2) ?_
        refine fx_aload rfl rfl ?_
        refine fx_getV rfl h0.1 rfl rfl ?_
        refine fx_getV rfl h0.2.2.2.2.1.1 rfl rfl ?_
        refine fx_iload rfl rfl ?_
        obtain ⟨q3, e_q3, h⟩ := fx_bd h
        refine fx_call [.ref (24 + 4), .int a3] [.int q2, .int a2] rfl (by decide) rfl rfl rfl rfl rfl (Nat.le_of_ble_eq_true rfl) rfl (v_X_at h0.2.2.2.2.1.2.2.2.2 e_q3) ?_
        refine fx_isub rfl ?_
        refine fx_iadd rfl ?_
        refine fx_istore rfl rfl ?_
        refine fx_iinc rfl (show Int32.ofInt 1 = (1 : Int32) by decide) rfl rfl ?_
        refine fx_back rfl rfl rfl ?_
        exact ih _ _ h
def g_X_forgottenAhead (M : fv_M) (L : Nat) (D : Nat) (a1 : Int32) : Option (Int32) := g_X_forgottenAhead_4 M L D a1 fx_FU (0 : Int32) (0 : Int32) (fun b2_4 b3_4 => some b2_4)
theorem v_X_forgottenAhead {X : fv_X} {sh : fv_Sh} {k : Nat × Nat} {M : fv_M} {L : Nat} {D : Nat} {a1 : Int32} {r : Int32} (h0 : fx_atX sh L D) (h : g_X_forgottenAhead M L D a1 = some r) : fv_Rn X 90 0 [some (.ref 0), some (.int a1)] [] k sh M (some (.int r), sh, M) := by
  unfold g_X_forgottenAhead at h
  refine fx_const rfl (show Int32.ofInt 0 = (0 : Int32) by decide) ?_
  refine fx_istore rfl rfl ?_
  refine fx_const rfl (show Int32.ofInt 0 = (0 : Int32) by decide) ?_
  refine fx_istore rfl rfl ?_
  refine v_X_forgottenAhead_4 h0 (fun b2_4 b3_4 h => ?_) fx_FU _ _ h
  refine fx_iload rfl rfl ?_
  obtain rfl := Option.some.inj h
  exact fx_ret rfl rfl

def g_X_behind (M : fv_M) (L : Nat) (D : Nat) (a1 : Int32) (a2 : Int32) (a3 : Int32) (a4 : Int32) : Option (Int32 × fv_M) := (g_X_within M a1 (0 : Int32) (40 : Int32)).bind fun q1 => if q1 = 0 then (some ((-1 : Int32), M)) else ((g_X_isVillage M L D a2).bind fun q2 => if q2 = 0 then (some ((-1 : Int32), M)) else ((g_X_isVerb M L D a3).bind fun q3 => if q3 = 0 then (some ((-1 : Int32), M)) else ((g_X_within M a4 (0 : Int32) (2 : Int32)).bind fun q4 => if q4 = 0 then (some ((-1 : Int32), M)) else ((g_S_become M 29 24).bind fun q5 => (g_X_goAhead q5 L D 29 a1).bind fun q6 => if a4 = 0 then ((g_S_stockOf q6 29 a2 a3).bind fun q7 => some (q7, q6)) else ((g_L_worksIn q6 L a2).bind fun q8 => if a4 = (1 : Int32) then ((g_X_worthAhead q6 L D q8).bind fun q9 => some (q9, q6)) else ((g_X_forgottenAhead q6 L D q8).bind fun q10 => some (q10, q6)))))))
theorem v_X_behind {X : fv_X} {sh : fv_Sh} {k : Nat × Nat} {M : fv_M} {L : Nat} {D : Nat} {a1 : Int32} {a2 : Int32} {a3 : Int32} {a4 : Int32} {r : Int32 × fv_M} (h0 : fx_atX sh L D) (h : g_X_behind M L D a1 a2 a3 a4 = some r) : fv_Rn X 64 0 [some (.ref 0), some (.int a1), some (.int a2), some (.int a3), some (.int a4)] [] k sh M (some (.int r.1), sh, r.2) := by
  unfold g_X_behind at h
  refine fx_iload rfl rfl ?_
  refine fx_const rfl (show Int32.ofInt 0 = (0 : Int32) by decide) ?_
  refine fx_const rfl (show Int32.ofInt 40 = (40 : Int32) by decide) ?_
  obtain ⟨q1, e_q1, h⟩ := fx_bd h
  refine fx_call [.int a1, .int (0 : Int32), .int (40 : Int32)] [] rfl (by decide) rfl rfl rfl rfl rfl (Nat.le_of_ble_eq_true rfl) rfl (v_X_within  e_q1) ?_
  by_cases c_1 : q1 = 0
  · replace h := (if_pos c_1).symm.trans h
    refine fx_ifeq_j rfl rfl c_1 ?_
    refine fx_const rfl (show Int32.ofInt (-1) = (-1 : Int32) by decide) ?_
    obtain rfl := Option.some.inj h
    exact fx_ret rfl rfl
  · replace h := (if_neg c_1).symm.trans h
    refine fx_ifeq_s rfl c_1 ?_
    refine fx_aload rfl rfl ?_
    refine fx_iload rfl rfl ?_
    obtain ⟨q2, e_q2, h⟩ := fx_bd h
    refine fx_call [.ref 0, .int a2] [] rfl (by decide) rfl rfl rfl rfl rfl (Nat.le_of_ble_eq_true rfl) (fx_rcv h0.1 rfl) (v_X_isVillage h0 e_q2) ?_
    by_cases c_2 : q2 = 0
    · replace h := (if_pos c_2).symm.trans h
      refine fx_ifeq_j rfl rfl c_2 ?_
      refine fx_const rfl (show Int32.ofInt (-1) = (-1 : Int32) by decide) ?_
      obtain rfl := Option.some.inj h
      exact fx_ret rfl rfl
    · replace h := (if_neg c_2).symm.trans h
      refine fx_ifeq_s rfl c_2 ?_
      refine fx_aload rfl rfl ?_
      refine fx_iload rfl rfl ?_
      obtain ⟨q3, e_q3, h⟩ := fx_bd h
      refine fx_call [.ref 0, .int a3] [] rfl (by decide) rfl rfl rfl rfl rfl (Nat.le_of_ble_eq_true rfl) (fx_rcv h0.1 rfl) (v_X_isVerb h0 e_q3) ?_
      by_cases c_3 : q3 = 0
      · replace h := (if_pos c_3).symm.trans h
        refine fx_ifeq_j rfl rfl c_3 ?_
        refine fx_const rfl (show Int32.ofInt (-1) = (-1 : Int32) by decide) ?_
        obtain rfl := Option.some.inj h
        exact fx_ret rfl rfl
      · replace h := (if_neg c_3).symm.trans h
        refine fx_ifeq_s rfl c_3 ?_
        refine fx_iload rfl rfl ?_
        refine fx_const rfl (show Int32.ofInt 0 = (0 : Int32) by decide) ?_
        refine fx_const rfl (show Int32.ofInt 2 = (2 : Int32) by decide) ?_
        obtain ⟨q4, e_q4, h⟩ := fx_bd h
        refine fx_call [.int a4, .int (0 : Int32), .int (2 : Int32)] [] rfl (by decide) rfl rfl rfl rfl rfl (Nat.le_of_ble_eq_true rfl) rfl (v_X_within  e_q4) ?_
        by_cases c_4 : q4 = 0
        · replace h := (if_pos c_4).symm.trans h
          refine fx_ifne_s rfl c_4 ?_
          refine fx_const rfl (show Int32.ofInt (-1) = (-1 : Int32) by decide) ?_
          obtain rfl := Option.some.inj h
          exact fx_ret rfl rfl
        · replace h := (if_neg c_4).symm.trans h
          refine fx_ifne_j rfl rfl c_4 ?_
          refine fx_aload rfl rfl ?_
          refine fx_getV rfl h0.1 rfl rfl ?_
          refine fx_aload rfl rfl ?_
          refine fx_getV rfl h0.1 rfl rfl ?_
          obtain ⟨q5, e_q5, h⟩ := fx_bd h
          refine fx_call [.ref 29, .ref 24] [] rfl (by decide) rfl rfl rfl rfl rfl (Nat.le_of_ble_eq_true rfl) (fx_rcv h0.2.2.2.2.2.1.1 rfl) (v_S_become h0.2.2.2.2.2.1 h0.2.2.2.2.1 e_q5) ?_
          refine fx_aload rfl rfl ?_
          refine fx_aload rfl rfl ?_
          refine fx_getV rfl h0.1 rfl rfl ?_
          refine fx_iload rfl rfl ?_
          obtain ⟨q6, e_q6, h⟩ := fx_bd h
          refine fx_call [.ref 0, .ref 29, .int a1] [] rfl (by decide) rfl rfl rfl rfl rfl (Nat.le_of_ble_eq_true rfl) (fx_rcv h0.1 rfl) (v_X_goAhead h0 h0.2.2.2.2.2.1 e_q6) ?_
          refine fx_iload rfl rfl ?_
          by_cases c_5 : a4 = 0
          · replace h := (if_pos c_5).symm.trans h
            refine fx_ifne_s rfl c_5 ?_
            refine fx_aload rfl rfl ?_
            refine fx_getV rfl h0.1 rfl rfl ?_
            refine fx_iload rfl rfl ?_
            refine fx_iload rfl rfl ?_
            obtain ⟨q7, e_q7, h⟩ := fx_bd h
            refine fx_call [.ref 29, .int a2, .int a3] [] rfl (by decide) rfl rfl rfl rfl rfl (Nat.le_of_ble_eq_true rfl) (fx_rcv h0.2.2.2.2.2.1.1 rfl) (v_S_stockOf h0.2.2.2.2.2.1 e_q7) ?_
            obtain rfl := Option.some.inj h
            exact fx_ret rfl rfl
          · replace h := (if_neg c_5).symm.trans h
            refine fx_ifne_j rfl rfl c_5 ?_
            refine fx_aload rfl rfl ?_
            refine fx_getV rfl h0.1 rfl rfl ?_
            refine fx_iload rfl rfl ?_
            obtain ⟨q8, e_q8, h⟩ := fx_bd h
            refine fx_call [.ref L, .int a2] [] rfl (by decide) rfl rfl rfl rfl rfl (Nat.le_of_ble_eq_true rfl) (fx_rcv h0.2.2.1.1 rfl) (v_L_worksIn h0.2.2.1 e_q8) ?_
            refine fx_istore rfl rfl ?_
            refine fx_iload rfl rfl ?_
            refine fx_const rfl (show Int32.ofInt 1 = (1 : Int32) by decide) ?_
            by_cases c_6 : a4 = (1 : Int32)
            · replace h := (if_pos c_6).symm.trans h
              refine fx_icne_s rfl c_6 ?_
              refine fx_aload rfl rfl ?_
              refine fx_iload rfl rfl ?_
              obtain ⟨q9, e_q9, h⟩ := fx_bd h
              refine fx_call [.ref 0, .int q8] [] rfl (by decide) rfl rfl rfl rfl rfl (Nat.le_of_ble_eq_true rfl) (fx_rcv h0.1 rfl) (v_X_worthAhead h0 e_q9) ?_
              refine fx_goto rfl rfl ?_
              obtain rfl := Option.some.inj h
              exact fx_ret rfl rfl
            · replace h := (if_neg c_6).symm.trans h
              refine fx_icne_j rfl rfl c_6 ?_
              refine fx_aload rfl rfl ?_
              refine fx_iload rfl rfl ?_
              obtain ⟨q10, e_q10, h⟩ := fx_bd h
              refine fx_call [.ref 0, .int q8] [] rfl (by decide) rfl rfl rfl rfl rfl (Nat.le_of_ble_eq_true rfl) (fx_rcv h0.1 rfl) (v_X_forgottenAhead h0 e_q10) ?_
              obtain rfl := Option.some.inj h
              exact fx_ret rfl rfl

def g_X_silent_24 (L : Nat) (D : Nat) (a1 : Int32) : Nat → fv_M → Int32 → (fv_M → Int32 → Option (Int32 × fv_M)) → Option (Int32 × fv_M)
  | 0, _, _, _ => none
  | n + 1, M, a2, kk => if (40 : Int32) < a2 then (kk M a2) else ((g_L_allWorks M L).bind fun q3 => (g_S_goBy M 29 L).bind fun q4 => if (q3 &&& (q4.1 ^^^ (-1 : Int32))) = 0 then (g_X_silent_24 L D a1 n q4.2 (a2 + (1 : Int32)) kk) else (if a1 = 0 then ((g_X_lowestIn q4.2 (q3 &&& (q4.1 ^^^ (-1 : Int32)))).bind fun q5 => some (q5, q4.2)) else (some (a2, q4.2))))
theorem v_X_silent_24 {X : fv_X} {sh : fv_Sh} {k : Nat × Nat} {L : Nat} {D : Nat} {a1 : Int32} {r : Int32 × fv_M} {kk : fv_M → Int32 → Option (Int32 × fv_M)} (h0 : fx_atX sh L D) (K : ∀ (M : fv_M) (a2 : Int32), kk M a2 = some r → fv_Rn X 65 75 [some (.ref 0), some (.int a1), some (.int a2)] [] k sh M (some (.int r.1), sh, r.2)) : ∀ (n : Nat) (M : fv_M) (a2 : Int32), g_X_silent_24 L D a1 n M a2 kk = some r → fv_Rn X 65 24 [some (.ref 0), some (.int a1), some (.int a2)] [] k sh M (some (.int r.1), sh, r.2) := by
  intro n
  induction n with
  | zero =>
    intro M a2 h
    replace h : (none : Option (Int32 × fv_M)) = some r := h
    cases h
  | succ n ih =>
    intro M a2 h
    rw [g_X_silent_24] at h
    refine fx_iload rfl rfl ?_
    refine fx_const rfl (show Int32.ofInt 40 = (40 : Int32) by decide) ?_
    by_cases c_2 : (40 : Int32) < a2
    · replace h := (if_pos c_2).symm.trans h
      refine fx_icgt_j rfl rfl c_2 ?_
      exact K _ _ h
    · replace h := (if_neg c_2).symm.trans h
      refine fx_icgt_s rfl c_2 ?_
      refine fx_aload rfl rfl ?_
      refine fx_getV rfl h0.1 rfl rfl ?_
      obtain ⟨q3, e_q3, h⟩ := fx_bd h
      refine fx_call [.ref L] [] rfl (by decide) rfl rfl rfl rfl rfl (Nat.le_of_ble_eq_true rfl) (fx_rcv h0.2.2.1.1 rfl) (v_L_allWorks h0.2.2.1 e_q3) ?_
      refine fx_aload rfl rfl ?_
      refine fx_getV rfl h0.1 rfl rfl ?_
      refine fx_aload rfl rfl ?_
      refine fx_getV rfl h0.1 rfl rfl ?_
      obtain ⟨q4, e_q4, h⟩ := fx_bd h
      refine fx_call [.ref 29, .ref L] [.int q3] rfl (by decide) rfl rfl rfl rfl rfl (Nat.le_of_ble_eq_true rfl) (fx_rcv h0.2.2.2.2.2.1.1 rfl) (v_S_goBy h0.2.2.2.2.2.1 h0.2.2.1 e_q4) ?_
      refine fx_const rfl (show Int32.ofInt (-1) = (-1 : Int32) by decide) ?_
      refine fx_ixor rfl ?_
      refine fx_iand rfl ?_
      refine fx_istore rfl rfl ?_
      refine fx_iload rfl rfl ?_
      by_cases c_3 : (q3 &&& (q4.1 ^^^ (-1 : Int32))) = 0
      · replace h := (if_pos c_3).symm.trans h
        refine fx_ifeq_j rfl rfl c_3 ?_
        refine fx_iinc rfl (show Int32.ofInt 1 = (1 : Int32) by decide) rfl rfl ?_
        refine fx_back rfl rfl rfl ?_
        exact ih _ _ h
      · replace h := (if_neg c_3).symm.trans h
        refine fx_ifeq_s rfl c_3 ?_
        refine fx_iload rfl rfl ?_
        by_cases c_4 : a1 = 0
        · replace h := (if_pos c_4).symm.trans h
          refine fx_ifne_s rfl c_4 ?_
          refine fx_iload rfl rfl ?_
          obtain ⟨q5, e_q5, h⟩ := fx_bd h
          refine fx_call [.int (q3 &&& (q4.1 ^^^ (-1 : Int32)))] [] rfl (by decide) rfl rfl rfl rfl rfl (Nat.le_of_ble_eq_true rfl) rfl (v_X_lowestIn  e_q5) ?_
          refine fx_goto rfl rfl ?_
          obtain rfl := Option.some.inj h
          exact fx_ret rfl rfl
        · replace h := (if_neg c_4).symm.trans h
          refine fx_ifne_j rfl rfl c_4 ?_
          refine fx_iload rfl rfl ?_
          obtain rfl := Option.some.inj h
          exact fx_ret rfl rfl
def g_X_silent (M : fv_M) (L : Nat) (D : Nat) (a1 : Int32) : Option (Int32 × fv_M) := (g_X_within M a1 (0 : Int32) (1 : Int32)).bind fun q1 => if q1 = 0 then (some ((-1 : Int32), M)) else ((g_S_become M 29 24).bind fun q2 => g_X_silent_24 L D a1 fx_FU q2 (1 : Int32) (fun M_6 b2_6 => some ((-4 : Int32), M_6)))
theorem v_X_silent {X : fv_X} {sh : fv_Sh} {k : Nat × Nat} {M : fv_M} {L : Nat} {D : Nat} {a1 : Int32} {r : Int32 × fv_M} (h0 : fx_atX sh L D) (h : g_X_silent M L D a1 = some r) : fv_Rn X 65 0 [some (.ref 0), some (.int a1)] [] k sh M (some (.int r.1), sh, r.2) := by
  unfold g_X_silent at h
  refine fx_iload rfl rfl ?_
  refine fx_const rfl (show Int32.ofInt 0 = (0 : Int32) by decide) ?_
  refine fx_const rfl (show Int32.ofInt 1 = (1 : Int32) by decide) ?_
  obtain ⟨q1, e_q1, h⟩ := fx_bd h
  refine fx_call [.int a1, .int (0 : Int32), .int (1 : Int32)] [] rfl (by decide) rfl rfl rfl rfl rfl (Nat.le_of_ble_eq_true rfl) rfl (v_X_within  e_q1) ?_
  by_cases c_1 : q1 = 0
  · replace h := (if_pos c_1).symm.trans h
    refine fx_ifne_s rfl c_1 ?_
    refine fx_const rfl (show Int32.ofInt (-1) = (-1 : Int32) by decide) ?_
    obtain rfl := Option.some.inj h
    exact fx_ret rfl rfl
  · replace h := (if_neg c_1).symm.trans h
    refine fx_ifne_j rfl rfl c_1 ?_
    refine fx_aload rfl rfl ?_
    refine fx_getV rfl h0.1 rfl rfl ?_
    refine fx_aload rfl rfl ?_
    refine fx_getV rfl h0.1 rfl rfl ?_
    obtain ⟨q2, e_q2, h⟩ := fx_bd h
    refine fx_call [.ref 29, .ref 24] [] rfl (by decide) rfl rfl rfl rfl rfl (Nat.le_of_ble_eq_true rfl) (fx_rcv h0.2.2.2.2.2.1.1 rfl) (v_S_become h0.2.2.2.2.2.1 h0.2.2.2.2.1 e_q2) ?_
    refine fx_const rfl (show Int32.ofInt 1 = (1 : Int32) by decide) ?_
    refine fx_istore rfl rfl ?_
    refine v_X_silent_24 h0 (fun M_6 b2_6 h => ?_) fx_FU _ _ h
    refine fx_const rfl (show Int32.ofInt (-4) = (-4 : Int32) by decide) ?_
    obtain rfl := Option.some.inj h
    exact fx_ret rfl rfl

def g_X_lasts_32 (L : Nat) (D : Nat) (a1 : Int32) (a2 : Int32) : Nat → fv_M → Int32 → (fv_M → Int32 → Option (Int32 × fv_M)) → Option (Int32 × fv_M)
  | 0, _, _, _ => none
  | n + 1, M, a3, kk => if (40 : Int32) < a3 then (kk M a3) else ((g_S_goBy M 29 L).bind fun q4 => if (a2 &&& (q4.1 ^^^ (-1 : Int32))) = 0 then (g_X_lasts_32 L D a1 a2 n q4.2 (a3 + (1 : Int32)) kk) else (some (a3, q4.2)))
theorem v_X_lasts_32 {X : fv_X} {sh : fv_Sh} {k : Nat × Nat} {L : Nat} {D : Nat} {a1 : Int32} {a2 : Int32} {r : Int32 × fv_M} {kk : fv_M → Int32 → Option (Int32 × fv_M)} (h0 : fx_atX sh L D) (K : ∀ (M : fv_M) (a3 : Int32), kk M a3 = some r → fv_Rn X 66 64 [some (.ref 0), some (.int a1), some (.int a2), some (.int a3)] [] k sh M (some (.int r.1), sh, r.2)) : ∀ (n : Nat) (M : fv_M) (a3 : Int32), g_X_lasts_32 L D a1 a2 n M a3 kk = some r → fv_Rn X 66 32 [some (.ref 0), some (.int a1), some (.int a2), some (.int a3)] [] k sh M (some (.int r.1), sh, r.2) := by
  intro n
  induction n with
  | zero =>
    intro M a3 h
    replace h : (none : Option (Int32 × fv_M)) = some r := h
    cases h
  | succ n ih =>
    intro M a3 h
    rw [g_X_lasts_32] at h
    refine fx_iload rfl rfl ?_
    refine fx_const rfl (show Int32.ofInt 40 = (40 : Int32) by decide) ?_
    by_cases c_2 : (40 : Int32) < a3
    · replace h := (if_pos c_2).symm.trans h
      refine fx_icgt_j rfl rfl c_2 ?_
      exact K _ _ h
    · replace h := (if_neg c_2).symm.trans h
      refine fx_icgt_s rfl c_2 ?_
      refine fx_iload rfl rfl ?_
      refine fx_aload rfl rfl ?_
      refine fx_getV rfl h0.1 rfl rfl ?_
      refine fx_aload rfl rfl ?_
      refine fx_getV rfl h0.1 rfl rfl ?_
      obtain ⟨q4, e_q4, h⟩ := fx_bd h
      refine fx_call [.ref 29, .ref L] [.int a2] rfl (by decide) rfl rfl rfl rfl rfl (Nat.le_of_ble_eq_true rfl) (fx_rcv h0.2.2.2.2.2.1.1 rfl) (v_S_goBy h0.2.2.2.2.2.1 h0.2.2.1 e_q4) ?_
      refine fx_const rfl (show Int32.ofInt (-1) = (-1 : Int32) by decide) ?_
      refine fx_ixor rfl ?_
      refine fx_iand rfl ?_
      by_cases c_3 : (a2 &&& (q4.1 ^^^ (-1 : Int32))) = 0
      · replace h := (if_pos c_3).symm.trans h
        refine fx_ifeq_j rfl rfl c_3 ?_
        refine fx_iinc rfl (show Int32.ofInt 1 = (1 : Int32) by decide) rfl rfl ?_
        refine fx_back rfl rfl rfl ?_
        exact ih _ _ h
      · replace h := (if_neg c_3).symm.trans h
        refine fx_ifeq_s rfl c_3 ?_
        refine fx_iload rfl rfl ?_
        obtain rfl := Option.some.inj h
        exact fx_ret rfl rfl
def g_X_lasts (M : fv_M) (L : Nat) (D : Nat) (a1 : Int32) : Option (Int32 × fv_M) := (g_X_isVillage M L D a1).bind fun q1 => if q1 = 0 then (some ((-1 : Int32), M)) else ((g_L_worksIn M L a1).bind fun q2 => (g_S_become M 29 24).bind fun q3 => g_X_lasts_32 L D a1 q2 fx_FU q3 (0 : Int32) (fun M_5 b3_5 => some ((41 : Int32), M_5)))
theorem v_X_lasts {X : fv_X} {sh : fv_Sh} {k : Nat × Nat} {M : fv_M} {L : Nat} {D : Nat} {a1 : Int32} {r : Int32 × fv_M} (h0 : fx_atX sh L D) (h : g_X_lasts M L D a1 = some r) : fv_Rn X 66 0 [some (.ref 0), some (.int a1)] [] k sh M (some (.int r.1), sh, r.2) := by
  unfold g_X_lasts at h
  refine fx_aload rfl rfl ?_
  refine fx_iload rfl rfl ?_
  obtain ⟨q1, e_q1, h⟩ := fx_bd h
  refine fx_call [.ref 0, .int a1] [] rfl (by decide) rfl rfl rfl rfl rfl (Nat.le_of_ble_eq_true rfl) (fx_rcv h0.1 rfl) (v_X_isVillage h0 e_q1) ?_
  by_cases c_1 : q1 = 0
  · replace h := (if_pos c_1).symm.trans h
    refine fx_ifne_s rfl c_1 ?_
    refine fx_const rfl (show Int32.ofInt (-1) = (-1 : Int32) by decide) ?_
    obtain rfl := Option.some.inj h
    exact fx_ret rfl rfl
  · replace h := (if_neg c_1).symm.trans h
    refine fx_ifne_j rfl rfl c_1 ?_
    refine fx_aload rfl rfl ?_
    refine fx_getV rfl h0.1 rfl rfl ?_
    refine fx_iload rfl rfl ?_
    obtain ⟨q2, e_q2, h⟩ := fx_bd h
    refine fx_call [.ref L, .int a1] [] rfl (by decide) rfl rfl rfl rfl rfl (Nat.le_of_ble_eq_true rfl) (fx_rcv h0.2.2.1.1 rfl) (v_L_worksIn h0.2.2.1 e_q2) ?_
    refine fx_istore rfl rfl ?_
    refine fx_aload rfl rfl ?_
    refine fx_getV rfl h0.1 rfl rfl ?_
    refine fx_aload rfl rfl ?_
    refine fx_getV rfl h0.1 rfl rfl ?_
    obtain ⟨q3, e_q3, h⟩ := fx_bd h
    refine fx_call [.ref 29, .ref 24] [] rfl (by decide) rfl rfl rfl rfl rfl (Nat.le_of_ble_eq_true rfl) (fx_rcv h0.2.2.2.2.2.1.1 rfl) (v_S_become h0.2.2.2.2.2.1 h0.2.2.2.2.1 e_q3) ?_
    refine fx_const rfl (show Int32.ofInt 0 = (0 : Int32) by decide) ?_
    refine fx_istore rfl rfl ?_
    refine v_X_lasts_32 h0 (fun M_5 b3_5 h => ?_) fx_FU _ _ h
    refine fx_const rfl (show Int32.ofInt 41 = (41 : Int32) by decide) ?_
    obtain rfl := Option.some.inj h
    exact fx_ret rfl rfl

def g_X_needOf (M : fv_M) (L : Nat) (D : Nat) (a1 : Int32) (a2 : Int32) : Option (Int32) := (g_L_worksSaidBy M L a1 a2).bind fun q1 => if q1 = 0 then (some (0 : Int32)) else ((g_L_canSay M L a1 a2).bind fun q2 => if q2 = 0 then ((g_X_at M (L + 1) 6 a2).bind fun q3 => if q3 = (1 : Int32) then ((g_S_usesSmall M 24).bind fun q4 => if q4 = 0 then (some (1 : Int32)) else (if q3 = (3 : Int32) then (some (((2 : Int32) * q1) - (1 : Int32))) else (some q1))) else (if q3 = (3 : Int32) then (some (((2 : Int32) * q1) - (1 : Int32))) else (some q1))) else (some (0 : Int32)))
theorem v_X_needOf {X : fv_X} {sh : fv_Sh} {k : Nat × Nat} {M : fv_M} {L : Nat} {D : Nat} {a1 : Int32} {a2 : Int32} {r : Int32} (h0 : fx_atX sh L D) (h : g_X_needOf M L D a1 a2 = some r) : fv_Rn X 91 0 [some (.ref 0), some (.int a1), some (.int a2)] [] k sh M (some (.int r), sh, M) := by
  unfold g_X_needOf at h
  refine fx_aload rfl rfl ?_
  refine fx_getV rfl h0.1 rfl rfl ?_
  refine fx_iload rfl rfl ?_
  refine fx_iload rfl rfl ?_
  obtain ⟨q1, e_q1, h⟩ := fx_bd h
  refine fx_call [.ref L, .int a1, .int a2] [] rfl (by decide) rfl rfl rfl rfl rfl (Nat.le_of_ble_eq_true rfl) (fx_rcv h0.2.2.1.1 rfl) (v_L_worksSaidBy h0.2.2.1 e_q1) ?_
  refine fx_istore rfl rfl ?_
  refine fx_iload rfl rfl ?_
  by_cases c_1 : q1 = 0
  · replace h := (if_pos c_1).symm.trans h
    refine fx_ifeq_j rfl rfl c_1 ?_
    refine fx_const rfl (show Int32.ofInt 0 = (0 : Int32) by decide) ?_
    obtain rfl := Option.some.inj h
    exact fx_ret rfl rfl
  · replace h := (if_neg c_1).symm.trans h
    refine fx_ifeq_s rfl c_1 ?_
    refine fx_aload rfl rfl ?_
    refine fx_getV rfl h0.1 rfl rfl ?_
    refine fx_iload rfl rfl ?_
    refine fx_iload rfl rfl ?_
    obtain ⟨q2, e_q2, h⟩ := fx_bd h
    refine fx_call [.ref L, .int a1, .int a2] [] rfl (by decide) rfl rfl rfl rfl rfl (Nat.le_of_ble_eq_true rfl) (fx_rcv h0.2.2.1.1 rfl) (v_L_canSay h0.2.2.1 e_q2) ?_
    by_cases c_2 : q2 = 0
    · replace h := (if_pos c_2).symm.trans h
      refine fx_ifeq_j rfl rfl c_2 ?_
      refine fx_aload rfl rfl ?_
      refine fx_getV rfl h0.1 rfl rfl ?_
      refine fx_getV rfl h0.2.2.1.1 rfl rfl ?_
      refine fx_iload rfl rfl ?_
      obtain ⟨q3, e_q3, h⟩ := fx_bd h
      refine fx_call [.ref (L + 1), .int a2] [] rfl (by decide) rfl rfl rfl rfl rfl (Nat.le_of_ble_eq_true rfl) rfl (v_X_at h0.2.2.1.2.1 e_q3) ?_
      refine fx_istore rfl rfl ?_
      refine fx_iload rfl rfl ?_
      refine fx_const rfl (show Int32.ofInt 1 = (1 : Int32) by decide) ?_
      by_cases c_3 : q3 = (1 : Int32)
      · replace h := (if_pos c_3).symm.trans h
        refine fx_icne_s rfl c_3 ?_
        refine fx_aload rfl rfl ?_
        refine fx_getV rfl h0.1 rfl rfl ?_
        obtain ⟨q4, e_q4, h⟩ := fx_bd h
        refine fx_call [.ref 24] [] rfl (by decide) rfl rfl rfl rfl rfl (Nat.le_of_ble_eq_true rfl) (fx_rcv h0.2.2.2.2.1.1 rfl) (v_S_usesSmall h0.2.2.2.2.1 e_q4) ?_
        by_cases c_4 : q4 = 0
        · replace h := (if_pos c_4).symm.trans h
          refine fx_ifne_s rfl c_4 ?_
          refine fx_const rfl (show Int32.ofInt 1 = (1 : Int32) by decide) ?_
          obtain rfl := Option.some.inj h
          exact fx_ret rfl rfl
        · replace h := (if_neg c_4).symm.trans h
          refine fx_ifne_j rfl rfl c_4 ?_
          refine fx_iload rfl rfl ?_
          refine fx_const rfl (show Int32.ofInt 3 = (3 : Int32) by decide) ?_
          by_cases c_5 : q3 = (3 : Int32)
          · replace h := (if_pos c_5).symm.trans h
            refine fx_icne_s rfl c_5 ?_
            refine fx_const rfl (show Int32.ofInt 2 = (2 : Int32) by decide) ?_
            refine fx_iload rfl rfl ?_
            refine fx_imul rfl ?_
            refine fx_const rfl (show Int32.ofInt 1 = (1 : Int32) by decide) ?_
            refine fx_isub rfl ?_
            refine fx_goto rfl rfl ?_
            obtain rfl := Option.some.inj h
            exact fx_ret rfl rfl
          · replace h := (if_neg c_5).symm.trans h
            refine fx_icne_j rfl rfl c_5 ?_
            refine fx_iload rfl rfl ?_
            obtain rfl := Option.some.inj h
            exact fx_ret rfl rfl
      · replace h := (if_neg c_3).symm.trans h
        refine fx_icne_j rfl rfl c_3 ?_
        refine fx_iload rfl rfl ?_
        refine fx_const rfl (show Int32.ofInt 3 = (3 : Int32) by decide) ?_
        by_cases c_6 : q3 = (3 : Int32)
        · replace h := (if_pos c_6).symm.trans h
          refine fx_icne_s rfl c_6 ?_
          refine fx_const rfl (show Int32.ofInt 2 = (2 : Int32) by decide) ?_
          refine fx_iload rfl rfl ?_
          refine fx_imul rfl ?_
          refine fx_const rfl (show Int32.ofInt 1 = (1 : Int32) by decide) ?_
          refine fx_isub rfl ?_
          refine fx_goto rfl rfl ?_
          obtain rfl := Option.some.inj h
          exact fx_ret rfl rfl
        · replace h := (if_neg c_6).symm.trans h
          refine fx_icne_j rfl rfl c_6 ?_
          refine fx_iload rfl rfl ?_
          obtain rfl := Option.some.inj h
          exact fx_ret rfl rfl
    · replace h := (if_neg c_2).symm.trans h
      refine fx_ifeq_s rfl c_2 ?_
      refine fx_const rfl (show Int32.ofInt 0 = (0 : Int32) by decide) ?_
      obtain rfl := Option.some.inj h
      exact fx_ret rfl rfl

def g_X_sent_23 (M : fv_M) (L : Nat) (D : Nat) (a1 : Int32) (a2 : Int32) : Nat → Int32 → Int32 → Int32 → (Int32 → Int32 → Int32 → Option (Int32)) → Option (Int32)
  | 0, _, _, _, _ => none
  | n + 1, a3, a4, a5, kk => if (M L 2) ≤ a5 then (kk a3 a4 a5) else ((g_X_needOf M L D a5 a2).bind fun q1 => (g_S_stockOf M 24 a5 a2).bind fun q2 => g_X_sent_23 M L D a1 a2 n (a3 + (if (0 : Int32) < (q1 - q2) then (q1 - q2) else (0 : Int32))) (a4 + q1) (a5 + (1 : Int32)) kk)
theorem v_X_sent_23 {X : fv_X} {sh : fv_Sh} {k : Nat × Nat} {M : fv_M} {L : Nat} {D : Nat} {a1 : Int32} {a2 : Int32} {r : Int32} {kk : Int32 → Int32 → Int32 → Option (Int32)} (h0 : fx_atX sh L D) (K : ∀ (a3 a4 a5 : Int32), kk a3 a4 a5 = some r → fv_Rn X 67 77 [some (.ref 0), some (.int a1), some (.int a2), some (.int a3), some (.int a4), some (.int a5)] [] k sh M (some (.int r), sh, M)) : ∀ (n : Nat) (a3 a4 a5 : Int32), g_X_sent_23 M L D a1 a2 n a3 a4 a5 kk = some r → fv_Rn X 67 23 [some (.ref 0), some (.int a1), some (.int a2), some (.int a3), some (.int a4), some (.int a5)] [] k sh M (some (.int r), sh, M) := by
  intro n
  induction n with
  | zero =>
    intro a3 a4 a5 h
    replace h : (none : Option (Int32)) = some r := h
    cases h
  | succ n ih =>
    intro a3 a4 a5 h
    rw [g_X_sent_23] at h
    refine fx_iload rfl rfl ?_
    refine fx_aload rfl rfl ?_
    refine fx_getV rfl h0.1 rfl rfl ?_
    refine fx_getI rfl h0.2.2.1.1 rfl rfl ?_
    by_cases c_2 : (M L 2) ≤ a5
    · replace h := (if_pos c_2).symm.trans h
      refine fx_icge_j rfl rfl c_2 ?_
      exact K _ _ _ h
    · replace h := (if_neg c_2).symm.trans h
      refine fx_icge_s rfl c_2 ?_
      refine fx_aload rfl rfl ?_
      refine fx_iload rfl rfl ?_
      refine fx_iload rfl rfl ?_
      obtain ⟨q1, e_q1, h⟩ := fx_bd h
      refine fx_call [.ref 0, .int a5, .int a2] [] rfl (by decide) rfl rfl rfl rfl rfl (Nat.le_of_ble_eq_true rfl) (fx_rcv h0.1 rfl) (v_X_needOf h0 e_q1) ?_
      refine fx_istore rfl rfl ?_
      refine fx_iload rfl rfl ?_
      refine fx_iload rfl rfl ?_
      refine fx_iadd rfl ?_
      refine fx_istore rfl rfl ?_
      refine fx_iload rfl rfl ?_
      refine fx_const rfl (show Int32.ofInt 0 = (0 : Int32) by decide) ?_
      refine fx_iload rfl rfl ?_
      refine fx_aload rfl rfl ?_
      refine fx_getV rfl h0.1 rfl rfl ?_
      refine fx_iload rfl rfl ?_
      refine fx_iload rfl rfl ?_
      obtain ⟨q2, e_q2, h⟩ := fx_bd h
      refine fx_call [.ref 24, .int a5, .int a2] [.int q1, .int (0 : Int32), .int a3] rfl (by decide) rfl rfl rfl rfl rfl (Nat.le_of_ble_eq_true rfl) (fx_rcv h0.2.2.2.2.1.1 rfl) (v_S_stockOf h0.2.2.2.2.1 e_q2) ?_
      refine fx_isub rfl ?_
      refine fx_dadd rfl (Nat.le_of_ble_eq_true rfl) ?_
      refine fx_iadd rfl ?_
      refine fx_istore rfl rfl ?_
      refine fx_iinc rfl (show Int32.ofInt 1 = (1 : Int32) by decide) rfl rfl ?_
      refine fx_back rfl rfl rfl ?_
      exact ih _ _ _ h
def g_X_sent_4 (M : fv_M) (L : Nat) (D : Nat) : Nat → Int32 → Int32 → (Int32 → Int32 → Option (Int32)) → Option (Int32)
  | 0, _, _, _ => none
  | n + 1, a1, a2, kk => if (M L 0) ≤ a2 then (kk a1 a2) else (g_X_sent_23 M L D a1 a2 fx_FU (0 : Int32) (0 : Int32) (0 : Int32) (fun b3_3 b4_3 b5_3 => (g_X_stockOfAll M L D a2).bind fun q4 => if b4_3 ≤ q4 then (g_X_sent_4 M L D n (a1 + b3_3) (a2 + (1 : Int32)) kk) else (some (-4 : Int32))))
theorem v_X_sent_4 {X : fv_X} {sh : fv_Sh} {k : Nat × Nat} {M : fv_M} {L : Nat} {D : Nat} {r : Int32} {kk : Int32 → Int32 → Option (Int32)} (h0 : fx_atX sh L D) (K : ∀ (a1 a2 : Int32), kk a1 a2 = some r → fv_Rn X 67 100 [some (.ref 0), some (.int a1), some (.int a2)] [] k sh M (some (.int r), sh, M)) : ∀ (n : Nat) (a1 a2 : Int32), g_X_sent_4 M L D n a1 a2 kk = some r → fv_Rn X 67 4 [some (.ref 0), some (.int a1), some (.int a2)] [] k sh M (some (.int r), sh, M) := by
  intro n
  induction n with
  | zero =>
    intro a1 a2 h
    replace h : (none : Option (Int32)) = some r := h
    cases h
  | succ n ih =>
    intro a1 a2 h
    rw [g_X_sent_4] at h
    refine fx_iload rfl rfl ?_
    refine fx_aload rfl rfl ?_
    refine fx_getV rfl h0.1 rfl rfl ?_
    refine fx_getI rfl h0.2.2.1.1 rfl rfl ?_
    by_cases c_1 : (M L 0) ≤ a2
    · replace h := (if_pos c_1).symm.trans h
      refine fx_icge_j rfl rfl c_1 ?_
      exact K _ _ h
    · replace h := (if_neg c_1).symm.trans h
      refine fx_icge_s rfl c_1 ?_
      refine fx_const rfl (show Int32.ofInt 0 = (0 : Int32) by decide) ?_
      refine fx_istore rfl rfl ?_
      refine fx_const rfl (show Int32.ofInt 0 = (0 : Int32) by decide) ?_
      refine fx_istore rfl rfl ?_
      refine fx_const rfl (show Int32.ofInt 0 = (0 : Int32) by decide) ?_
      refine fx_istore rfl rfl ?_
      refine v_X_sent_23 h0 (fun b3_3 b4_3 b5_3 h => ?_) fx_FU _ _ _ h
      refine fx_iload rfl rfl ?_
      refine fx_aload rfl rfl ?_
      refine fx_iload rfl rfl ?_
      obtain ⟨q4, e_q4, h⟩ := fx_bd h
      refine fx_call [.ref 0, .int a2] [.int b4_3] rfl (by decide) rfl rfl rfl rfl rfl (Nat.le_of_ble_eq_true rfl) (fx_rcv h0.1 rfl) (v_X_stockOfAll h0 e_q4) ?_
      by_cases c_3 : b4_3 ≤ q4
      · replace h := (if_pos c_3).symm.trans h
        refine fx_icle_j rfl rfl c_3 ?_
        refine fx_iload rfl rfl ?_
        refine fx_iload rfl rfl ?_
        refine fx_iadd rfl ?_
        refine fx_istore rfl rfl ?_
        refine fx_iinc rfl (show Int32.ofInt 1 = (1 : Int32) by decide) rfl rfl ?_
        refine fx_back rfl rfl rfl ?_
        exact ih _ _ h
      · replace h := (if_neg c_3).symm.trans h
        refine fx_icle_s rfl c_3 ?_
        refine fx_const rfl (show Int32.ofInt (-4) = (-4 : Int32) by decide) ?_
        obtain rfl := Option.some.inj h
        exact fx_ret rfl rfl
def g_X_sent (M : fv_M) (L : Nat) (D : Nat) : Option (Int32) := g_X_sent_4 M L D fx_FU (0 : Int32) (0 : Int32) (fun b1_5 b2_5 => some b1_5)
theorem v_X_sent {X : fv_X} {sh : fv_Sh} {k : Nat × Nat} {M : fv_M} {L : Nat} {D : Nat} {r : Int32} (h0 : fx_atX sh L D) (h : g_X_sent M L D = some r) : fv_Rn X 67 0 [some (.ref 0)] [] k sh M (some (.int r), sh, M) := by
  unfold g_X_sent at h
  refine fx_const rfl (show Int32.ofInt 0 = (0 : Int32) by decide) ?_
  refine fx_istore rfl rfl ?_
  refine fx_const rfl (show Int32.ofInt 0 = (0 : Int32) by decide) ?_
  refine fx_istore rfl rfl ?_
  refine v_X_sent_4 h0 (fun b1_5 b2_5 h => ?_) fx_FU _ _ h
  refine fx_iload rfl rfl ?_
  obtain rfl := Option.some.inj h
  exact fx_ret rfl rfl

def g_X_share_63 (M : fv_M) (L : Nat) (D : Nat) (a1 : Int32) (a2 : Int32) (a3 : Int32) (a7 : Int32) : Nat → Int32 → Int32 → Int32 → Int32 → (Int32 → Int32 → Int32 → Int32 → Option (Int32)) → Option (Int32)
  | 0, _, _, _, _, _ => none
  | n + 1, a4, a5, a6, a8, kk => if (M L 2) ≤ a8 then (kk a4 a5 a6 a8) else ((g_L_worksLike M L a8 a1 a7).bind fun q5 => if a8 = a3 then (g_X_share_63 M L D a1 a2 a3 a7 n (a4 - (if (a2 * q5) < a4 then (a2 * q5) else a4)) (a5 + ((if (a2 * q5) < a4 then (a2 * q5) else a4) * a7)) (a6 + (if (a2 * q5) < a4 then (a2 * q5) else a4)) (a8 + (1 : Int32)) kk) else (g_X_share_63 M L D a1 a2 a3 a7 n (a4 - (if (a2 * q5) < a4 then (a2 * q5) else a4)) (a5 + ((if (a2 * q5) < a4 then (a2 * q5) else a4) * a7)) (a6 + (0 : Int32)) (a8 + (1 : Int32)) kk))
theorem v_X_share_63 {X : fv_X} {sh : fv_Sh} {k : Nat × Nat} {M : fv_M} {L : Nat} {D : Nat} {a1 : Int32} {a2 : Int32} {a3 : Int32} {a7 : Int32} {r : Int32} {kk : Int32 → Int32 → Int32 → Int32 → Option (Int32)} (h0 : fx_atX sh L D) (K : ∀ (a4 a5 a6 a8 : Int32), kk a4 a5 a6 a8 = some r → fv_Rn X 68 136 [some (.ref 0), some (.int a1), some (.int a2), some (.int a3), some (.int a4), some (.int a5), some (.int a6), some (.int a7), some (.int a8)] [] k sh M (some (.int r), sh, M)) : ∀ (n : Nat) (a4 a5 a6 a8 : Int32), g_X_share_63 M L D a1 a2 a3 a7 n a4 a5 a6 a8 kk = some r → fv_Rn X 68 63 [some (.ref 0), some (.int a1), some (.int a2), some (.int a3), some (.int a4), some (.int a5), some (.int a6), some (.int a7), some (.int a8)] [] k sh M (some (.int r), sh, M) := by
  intro n
  induction n with
  | zero =>
    intro a4 a5 a6 a8 h
    replace h : (none : Option (Int32)) = some r := h
    cases h
  | succ n ih =>
    intro a4 a5 a6 a8 h
    rw [g_X_share_63] at h
    refine fx_iload rfl rfl ?_
    refine fx_aload rfl rfl ?_
    refine fx_getV rfl h0.1 rfl rfl ?_
    refine fx_getI rfl h0.2.2.1.1 rfl rfl ?_
    by_cases c_5 : (M L 2) ≤ a8
    · replace h := (if_pos c_5).symm.trans h
      refine fx_icge_j rfl rfl c_5 ?_
      exact K _ _ _ _ h
    · replace h := (if_neg c_5).symm.trans h
      refine fx_icge_s rfl c_5 ?_
      refine fx_iload rfl rfl ?_
      refine fx_iload rfl rfl ?_
      refine fx_aload rfl rfl ?_
      refine fx_getV rfl h0.1 rfl rfl ?_
      refine fx_iload rfl rfl ?_
      refine fx_iload rfl rfl ?_
      refine fx_iload rfl rfl ?_
      obtain ⟨q5, e_q5, h⟩ := fx_bd h
      refine fx_call [.ref L, .int a8, .int a1, .int a7] [.int a2, .int a4] rfl (by decide) rfl rfl rfl rfl rfl (Nat.le_of_ble_eq_true rfl) (fx_rcv h0.2.2.1.1 rfl) (v_L_worksLike h0.2.2.1 e_q5) ?_
      refine fx_imul rfl ?_
      refine fx_dsub rfl (Nat.le_of_ble_eq_true rfl) ?_
      refine fx_istore rfl rfl ?_
      refine fx_iload rfl rfl ?_
      refine fx_iload rfl rfl ?_
      refine fx_isub rfl ?_
      refine fx_istore rfl rfl ?_
      refine fx_iload rfl rfl ?_
      refine fx_iload rfl rfl ?_
      refine fx_iload rfl rfl ?_
      refine fx_imul rfl ?_
      refine fx_iadd rfl ?_
      refine fx_istore rfl rfl ?_
      refine fx_iload rfl rfl ?_
      refine fx_iload rfl rfl ?_
      refine fx_iload rfl rfl ?_
      by_cases c_6 : a8 = a3
      · replace h := (if_pos c_6).symm.trans h
        refine fx_icne_s rfl c_6 ?_
        refine fx_iload rfl rfl ?_
        refine fx_goto rfl rfl ?_
        refine fx_iadd rfl ?_
        refine fx_istore rfl rfl ?_
        refine fx_iinc rfl (show Int32.ofInt 1 = (1 : Int32) by decide) rfl rfl ?_
        refine fx_back rfl rfl rfl ?_
        exact ih _ _ _ _ h
      · replace h := (if_neg c_6).symm.trans h
        refine fx_icne_j rfl rfl c_6 ?_
        refine fx_const rfl (show Int32.ofInt 0 = (0 : Int32) by decide) ?_
        refine fx_iadd rfl ?_
        refine fx_istore rfl rfl ?_
        refine fx_iinc rfl (show Int32.ofInt 1 = (1 : Int32) by decide) rfl rfl ?_
        refine fx_back rfl rfl rfl ?_
        exact ih _ _ _ _ h
def g_X_share_54 (M : fv_M) (L : Nat) (D : Nat) (a1 : Int32) (a2 : Int32) (a3 : Int32) : Nat → Int32 → Int32 → Int32 → Int32 → (Int32 → Int32 → Int32 → Int32 → Option (Int32)) → Option (Int32)
  | 0, _, _, _, _, _ => none
  | n + 1, a4, a5, a6, a7, kk => if a7 < (1 : Int32) then (kk a4 a5 a6 a7) else (g_X_share_63 M L D a1 a2 a3 a7 fx_FU a4 a5 a6 (0 : Int32) (fun b4_6 b5_6 b6_6 b8_6 => g_X_share_54 M L D a1 a2 a3 n b4_6 b5_6 b6_6 (a7 + (-1 : Int32)) kk))
theorem v_X_share_54 {X : fv_X} {sh : fv_Sh} {k : Nat × Nat} {M : fv_M} {L : Nat} {D : Nat} {a1 : Int32} {a2 : Int32} {a3 : Int32} {r : Int32} {kk : Int32 → Int32 → Int32 → Int32 → Option (Int32)} (h0 : fx_atX sh L D) (K : ∀ (a4 a5 a6 a7 : Int32), kk a4 a5 a6 a7 = some r → fv_Rn X 68 142 [some (.ref 0), some (.int a1), some (.int a2), some (.int a3), some (.int a4), some (.int a5), some (.int a6), some (.int a7)] [] k sh M (some (.int r), sh, M)) : ∀ (n : Nat) (a4 a5 a6 a7 : Int32), g_X_share_54 M L D a1 a2 a3 n a4 a5 a6 a7 kk = some r → fv_Rn X 68 54 [some (.ref 0), some (.int a1), some (.int a2), some (.int a3), some (.int a4), some (.int a5), some (.int a6), some (.int a7)] [] k sh M (some (.int r), sh, M) := by
  intro n
  induction n with
  | zero =>
    intro a4 a5 a6 a7 h
    replace h : (none : Option (Int32)) = some r := h
    cases h
  | succ n ih =>
    intro a4 a5 a6 a7 h
    rw [g_X_share_54] at h
    refine fx_iload rfl rfl ?_
    refine fx_const rfl (show Int32.ofInt 1 = (1 : Int32) by decide) ?_
    by_cases c_4 : a7 < (1 : Int32)
    · replace h := (if_pos c_4).symm.trans h
      refine fx_iclt_j rfl rfl c_4 ?_
      exact K _ _ _ _ h
    · replace h := (if_neg c_4).symm.trans h
      refine fx_iclt_s rfl c_4 ?_
      refine fx_const rfl (show Int32.ofInt 0 = (0 : Int32) by decide) ?_
      refine fx_istore rfl rfl ?_
      refine v_X_share_63 h0 (fun b4_6 b5_6 b6_6 b8_6 h => ?_) fx_FU _ _ _ _ h
      refine fx_iinc rfl (show Int32.ofInt (-1) = (-1 : Int32) by decide) rfl rfl ?_
      refine fx_back rfl rfl rfl ?_
      exact ih _ _ _ _ h
def g_X_share (M : fv_M) (L : Nat) (D : Nat) (a1 : Int32) (a2 : Int32) (a3 : Int32) : Option (Int32) := (g_X_isVerb M L D a1).bind fun q1 => if q1 = 0 then (some (-1 : Int32)) else ((g_X_within M a2 (1 : Int32) (9 : Int32)).bind fun q2 => if q2 = 0 then (some (-1 : Int32)) else ((g_X_within M a3 (-1 : Int32) ((M L 2) - (1 : Int32))).bind fun q3 => if q3 = 0 then (some (-1 : Int32)) else ((g_X_stockOfAll M L D a1).bind fun q4 => g_X_share_54 M L D a1 a2 a3 fx_FU q4 (0 : Int32) (0 : Int32) (9 : Int32) (fun b4_7 b5_7 b6_7 b7_7 => if a3 = (-1 : Int32) then (some b5_7) else (some b6_7)))))
theorem v_X_share {X : fv_X} {sh : fv_Sh} {k : Nat × Nat} {M : fv_M} {L : Nat} {D : Nat} {a1 : Int32} {a2 : Int32} {a3 : Int32} {r : Int32} (h0 : fx_atX sh L D) (h : g_X_share M L D a1 a2 a3 = some r) : fv_Rn X 68 0 [some (.ref 0), some (.int a1), some (.int a2), some (.int a3)] [] k sh M (some (.int r), sh, M) := by
  unfold g_X_share at h
  refine fx_aload rfl rfl ?_
  refine fx_iload rfl rfl ?_
  obtain ⟨q1, e_q1, h⟩ := fx_bd h
  refine fx_call [.ref 0, .int a1] [] rfl (by decide) rfl rfl rfl rfl rfl (Nat.le_of_ble_eq_true rfl) (fx_rcv h0.1 rfl) (v_X_isVerb h0 e_q1) ?_
  by_cases c_1 : q1 = 0
  · replace h := (if_pos c_1).symm.trans h
    refine fx_ifeq_j rfl rfl c_1 ?_
    refine fx_const rfl (show Int32.ofInt (-1) = (-1 : Int32) by decide) ?_
    obtain rfl := Option.some.inj h
    exact fx_ret rfl rfl
  · replace h := (if_neg c_1).symm.trans h
    refine fx_ifeq_s rfl c_1 ?_
    refine fx_iload rfl rfl ?_
    refine fx_const rfl (show Int32.ofInt 1 = (1 : Int32) by decide) ?_
    refine fx_const rfl (show Int32.ofInt 9 = (9 : Int32) by decide) ?_
    obtain ⟨q2, e_q2, h⟩ := fx_bd h
    refine fx_call [.int a2, .int (1 : Int32), .int (9 : Int32)] [] rfl (by decide) rfl rfl rfl rfl rfl (Nat.le_of_ble_eq_true rfl) rfl (v_X_within  e_q2) ?_
    by_cases c_2 : q2 = 0
    · replace h := (if_pos c_2).symm.trans h
      refine fx_ifeq_j rfl rfl c_2 ?_
      refine fx_const rfl (show Int32.ofInt (-1) = (-1 : Int32) by decide) ?_
      obtain rfl := Option.some.inj h
      exact fx_ret rfl rfl
    · replace h := (if_neg c_2).symm.trans h
      refine fx_ifeq_s rfl c_2 ?_
      refine fx_iload rfl rfl ?_
      refine fx_const rfl (show Int32.ofInt (-1) = (-1 : Int32) by decide) ?_
      refine fx_aload rfl rfl ?_
      refine fx_getV rfl h0.1 rfl rfl ?_
      refine fx_getI rfl h0.2.2.1.1 rfl rfl ?_
      refine fx_const rfl (show Int32.ofInt 1 = (1 : Int32) by decide) ?_
      refine fx_isub rfl ?_
      obtain ⟨q3, e_q3, h⟩ := fx_bd h
      refine fx_call [.int a3, .int (-1 : Int32), .int ((M L 2) - (1 : Int32))] [] rfl (by decide) rfl rfl rfl rfl rfl (Nat.le_of_ble_eq_true rfl) rfl (v_X_within  e_q3) ?_
      by_cases c_3 : q3 = 0
      · replace h := (if_pos c_3).symm.trans h
        refine fx_ifne_s rfl c_3 ?_
        refine fx_const rfl (show Int32.ofInt (-1) = (-1 : Int32) by decide) ?_
        obtain rfl := Option.some.inj h
        exact fx_ret rfl rfl
      · replace h := (if_neg c_3).symm.trans h
        refine fx_ifne_j rfl rfl c_3 ?_
        refine fx_aload rfl rfl ?_
        refine fx_iload rfl rfl ?_
        obtain ⟨q4, e_q4, h⟩ := fx_bd h
        refine fx_call [.ref 0, .int a1] [] rfl (by decide) rfl rfl rfl rfl rfl (Nat.le_of_ble_eq_true rfl) (fx_rcv h0.1 rfl) (v_X_stockOfAll h0 e_q4) ?_
        refine fx_istore rfl rfl ?_
        refine fx_const rfl (show Int32.ofInt 0 = (0 : Int32) by decide) ?_
        refine fx_istore rfl rfl ?_
        refine fx_const rfl (show Int32.ofInt 0 = (0 : Int32) by decide) ?_
        refine fx_istore rfl rfl ?_
        refine fx_const rfl (show Int32.ofInt 9 = (9 : Int32) by decide) ?_
        refine fx_istore rfl rfl ?_
        refine v_X_share_54 h0 (fun b4_7 b5_7 b6_7 b7_7 h => ?_) fx_FU _ _ _ _ h
        refine fx_iload rfl rfl ?_
        refine fx_const rfl (show Int32.ofInt (-1) = (-1 : Int32) by decide) ?_
        by_cases c_7 : a3 = (-1 : Int32)
        · replace h := (if_pos c_7).symm.trans h
          refine fx_icne_s rfl c_7 ?_
          refine fx_iload rfl rfl ?_
          refine fx_goto rfl rfl ?_
          obtain rfl := Option.some.inj h
          exact fx_ret rfl rfl
        · replace h := (if_neg c_7).symm.trans h
          refine fx_icne_j rfl rfl c_7 ?_
          refine fx_iload rfl rfl ?_
          obtain rfl := Option.some.inj h
          exact fx_ret rfl rfl

def g_X_isRow (M : fv_M) (L : Nat) (D : Nat) (a1 : Int32) : Option (Int32) := (g_L_allNouns M L).bind fun q1 => (g_X_within M a1 (1 : Int32) q1).bind fun q2 => fx_ck (¬ (q2 = 0 ∨ q2 = 1)) (some q2)
theorem v_X_isRow {X : fv_X} {sh : fv_Sh} {k : Nat × Nat} {M : fv_M} {L : Nat} {D : Nat} {a1 : Int32} {r : Int32} (h0 : fx_atX sh L D) (h : g_X_isRow M L D a1 = some r) : fv_Rn X 84 0 [some (.ref 0), some (.int a1)] [] k sh M (some (.int r), sh, M) := by
  unfold g_X_isRow at h
  refine fx_iload rfl rfl ?_
  refine fx_const rfl (show Int32.ofInt 1 = (1 : Int32) by decide) ?_
  refine fx_aload rfl rfl ?_
  refine fx_getV rfl h0.1 rfl rfl ?_
  obtain ⟨q1, e_q1, h⟩ := fx_bd h
  refine fx_call [.ref L] [.int (1 : Int32), .int a1] rfl (by decide) rfl rfl rfl rfl rfl (Nat.le_of_ble_eq_true rfl) (fx_rcv h0.2.2.1.1 rfl) (v_L_allNouns h0.2.2.1 e_q1) ?_
  obtain ⟨q2, e_q2, h⟩ := fx_bd h
  refine fx_call [.int a1, .int (1 : Int32), .int q1] [] rfl (by decide) rfl rfl rfl rfl rfl (Nat.le_of_ble_eq_true rfl) rfl (v_X_within  e_q2) ?_
  obtain ⟨c_1, h⟩ := fx_ck_some h
  obtain rfl := Option.some.inj h
  exact fx_ret rfl (decide_eq_true (Decidable.not_not.mp c_1))

def g_X_readings (M : fv_M) (L : Nat) (D : Nat) (a1 : Int32) : Option (Int32) := (g_X_isRow M L D a1).bind fun q1 => if q1 = 0 then (some (-1 : Int32)) else ((g_L_meantBy M L a1).bind fun q2 => some q2)
theorem v_X_readings {X : fv_X} {sh : fv_Sh} {k : Nat × Nat} {M : fv_M} {L : Nat} {D : Nat} {a1 : Int32} {r : Int32} (h0 : fx_atX sh L D) (h : g_X_readings M L D a1 = some r) : fv_Rn X 69 0 [some (.ref 0), some (.int a1)] [] k sh M (some (.int r), sh, M) := by
  unfold g_X_readings at h
  refine fx_aload rfl rfl ?_
  refine fx_iload rfl rfl ?_
  obtain ⟨q1, e_q1, h⟩ := fx_bd h
  refine fx_call [.ref 0, .int a1] [] rfl (by decide) rfl rfl rfl rfl rfl (Nat.le_of_ble_eq_true rfl) (fx_rcv h0.1 rfl) (v_X_isRow h0 e_q1) ?_
  by_cases c_1 : q1 = 0
  · replace h := (if_pos c_1).symm.trans h
    refine fx_ifeq_j rfl rfl c_1 ?_
    refine fx_const rfl (show Int32.ofInt (-1) = (-1 : Int32) by decide) ?_
    obtain rfl := Option.some.inj h
    exact fx_ret rfl rfl
  · replace h := (if_neg c_1).symm.trans h
    refine fx_ifeq_s rfl c_1 ?_
    refine fx_aload rfl rfl ?_
    refine fx_getV rfl h0.1 rfl rfl ?_
    refine fx_iload rfl rfl ?_
    obtain ⟨q2, e_q2, h⟩ := fx_bd h
    refine fx_call [.ref L, .int a1] [] rfl (by decide) rfl rfl rfl rfl rfl (Nat.le_of_ble_eq_true rfl) (fx_rcv h0.2.2.1.1 rfl) (v_L_meantBy h0.2.2.1 e_q2) ?_
    refine fx_goto rfl rfl ?_
    obtain rfl := Option.some.inj h
    exact fx_ret rfl rfl

def g_X_say (M : fv_M) (L : Nat) (D : Nat) (a1 : Int32) (a2 : Int32) : Option (Int32) := (g_X_isVillage M L D a1).bind fun q1 => if q1 = 0 then (some (-1 : Int32)) else ((g_X_isVerb M L D a2).bind fun q2 => if q2 = 0 then (some (-1 : Int32)) else ((g_L_smallestRow M L a1 a2).bind fun q3 => some q3))
theorem v_X_say {X : fv_X} {sh : fv_Sh} {k : Nat × Nat} {M : fv_M} {L : Nat} {D : Nat} {a1 : Int32} {a2 : Int32} {r : Int32} (h0 : fx_atX sh L D) (h : g_X_say M L D a1 a2 = some r) : fv_Rn X 70 0 [some (.ref 0), some (.int a1), some (.int a2)] [] k sh M (some (.int r), sh, M) := by
  unfold g_X_say at h
  refine fx_aload rfl rfl ?_
  refine fx_iload rfl rfl ?_
  obtain ⟨q1, e_q1, h⟩ := fx_bd h
  refine fx_call [.ref 0, .int a1] [] rfl (by decide) rfl rfl rfl rfl rfl (Nat.le_of_ble_eq_true rfl) (fx_rcv h0.1 rfl) (v_X_isVillage h0 e_q1) ?_
  by_cases c_1 : q1 = 0
  · replace h := (if_pos c_1).symm.trans h
    refine fx_ifeq_j rfl rfl c_1 ?_
    refine fx_const rfl (show Int32.ofInt (-1) = (-1 : Int32) by decide) ?_
    obtain rfl := Option.some.inj h
    exact fx_ret rfl rfl
  · replace h := (if_neg c_1).symm.trans h
    refine fx_ifeq_s rfl c_1 ?_
    refine fx_aload rfl rfl ?_
    refine fx_iload rfl rfl ?_
    obtain ⟨q2, e_q2, h⟩ := fx_bd h
    refine fx_call [.ref 0, .int a2] [] rfl (by decide) rfl rfl rfl rfl rfl (Nat.le_of_ble_eq_true rfl) (fx_rcv h0.1 rfl) (v_X_isVerb h0 e_q2) ?_
    by_cases c_2 : q2 = 0
    · replace h := (if_pos c_2).symm.trans h
      refine fx_ifeq_j rfl rfl c_2 ?_
      refine fx_const rfl (show Int32.ofInt (-1) = (-1 : Int32) by decide) ?_
      obtain rfl := Option.some.inj h
      exact fx_ret rfl rfl
    · replace h := (if_neg c_2).symm.trans h
      refine fx_ifeq_s rfl c_2 ?_
      refine fx_aload rfl rfl ?_
      refine fx_getV rfl h0.1 rfl rfl ?_
      refine fx_iload rfl rfl ?_
      refine fx_iload rfl rfl ?_
      obtain ⟨q3, e_q3, h⟩ := fx_bd h
      refine fx_call [.ref L, .int a1, .int a2] [] rfl (by decide) rfl rfl rfl rfl rfl (Nat.le_of_ble_eq_true rfl) (fx_rcv h0.2.2.1.1 rfl) (v_L_smallestRow h0.2.2.1 e_q3) ?_
      refine fx_goto rfl rfl ?_
      obtain rfl := Option.some.inj h
      exact fx_ret rfl rfl

def g_X_tells_29 (M : fv_M) (L : Nat) (D : Nat) (a1 : Int32) (a2 : Int32) : Nat → Int32 → Int32 → Int32 → (Int32 → Int32 → Int32 → Option (Int32)) → Option (Int32)
  | 0, _, _, _, _ => none
  | n + 1, a3, a4, a5, kk => if (M L 1) ≤ a5 then (kk a3 a4 a5) else ((g_L_meantBy M L (a1 ||| ((1 : Int32) <<< (a5 &&& 31)))).bind fun q3 => (g_I_bitCount M q3).bind fun q4 => (g_X_has M a1 a5).bind fun q5 => if q5 = 0 then (if q4 < (1 : Int32) then (g_X_tells_29 M L D a1 a2 n a3 a4 (a5 + (1 : Int32)) kk) else (if a3 = (-4 : Int32) then (g_X_tells_29 M L D a1 a2 n a5 q4 (a5 + (1 : Int32)) kk) else (if a4 ≤ q4 then (g_X_tells_29 M L D a1 a2 n a3 a4 (a5 + (1 : Int32)) kk) else (g_X_tells_29 M L D a1 a2 n a5 q4 (a5 + (1 : Int32)) kk)))) else (g_X_tells_29 M L D a1 a2 n a3 a4 (a5 + (1 : Int32)) kk))
theorem v_X_tells_29 {X : fv_X} {sh : fv_Sh} {k : Nat × Nat} {M : fv_M} {L : Nat} {D : Nat} {a1 : Int32} {a2 : Int32} {r : Int32} {kk : Int32 → Int32 → Int32 → Option (Int32)} (h0 : fx_atX sh L D) (K : ∀ (a3 a4 a5 : Int32), kk a3 a4 a5 = some r → fv_Rn X 71 100 [some (.ref 0), some (.int a1), some (.int a2), some (.int a3), some (.int a4), some (.int a5)] [] k sh M (some (.int r), sh, M)) : ∀ (n : Nat) (a3 a4 a5 : Int32), g_X_tells_29 M L D a1 a2 n a3 a4 a5 kk = some r → fv_Rn X 71 29 [some (.ref 0), some (.int a1), some (.int a2), some (.int a3), some (.int a4), some (.int a5)] [] k sh M (some (.int r), sh, M) := by
  intro n
  induction n with
  | zero =>
    intro a3 a4 a5 h
    replace h : (none : Option (Int32)) = some r := h
    cases h
  | succ n ih =>
    intro a3 a4 a5 h
    rw [g_X_tells_29] at h
    refine fx_iload rfl rfl ?_
    refine fx_aload rfl rfl ?_
    refine fx_getV rfl h0.1 rfl rfl ?_
    refine fx_getI rfl h0.2.2.1.1 rfl rfl ?_
    by_cases c_3 : (M L 1) ≤ a5
    · replace h := (if_pos c_3).symm.trans h
      refine fx_icge_j rfl rfl c_3 ?_
      exact K _ _ _ h
    · replace h := (if_neg c_3).symm.trans h
      refine fx_icge_s rfl c_3 ?_
      refine fx_aload rfl rfl ?_
      refine fx_getV rfl h0.1 rfl rfl ?_
      refine fx_iload rfl rfl ?_
      refine fx_const rfl (show Int32.ofInt 1 = (1 : Int32) by decide) ?_
      refine fx_iload rfl rfl ?_
      refine fx_ishl rfl ?_
      refine fx_ior rfl ?_
      obtain ⟨q3, e_q3, h⟩ := fx_bd h
      refine fx_call [.ref L, .int (a1 ||| ((1 : Int32) <<< (a5 &&& 31)))] [] rfl (by decide) rfl rfl rfl rfl rfl (Nat.le_of_ble_eq_true rfl) (fx_rcv h0.2.2.1.1 rfl) (v_L_meantBy h0.2.2.1 e_q3) ?_
      obtain ⟨q4, e_q4, h⟩ := fx_bd h
      refine fx_call [.int q3] [] rfl (by decide) rfl rfl rfl rfl rfl (Nat.le_of_ble_eq_true rfl) rfl (v_I_bitCount  e_q4) ?_
      refine fx_istore rfl rfl ?_
      refine fx_iload rfl rfl ?_
      refine fx_iload rfl rfl ?_
      obtain ⟨q5, e_q5, h⟩ := fx_bd h
      refine fx_call [.int a1, .int a5] [] rfl (by decide) rfl rfl rfl rfl rfl (Nat.le_of_ble_eq_true rfl) rfl (v_X_has  e_q5) ?_
      by_cases c_4 : q5 = 0
      · replace h := (if_pos c_4).symm.trans h
        refine fx_ifne_s rfl c_4 ?_
        refine fx_iload rfl rfl ?_
        refine fx_const rfl (show Int32.ofInt 1 = (1 : Int32) by decide) ?_
        by_cases c_5 : q4 < (1 : Int32)
        · replace h := (if_pos c_5).symm.trans h
          refine fx_iclt_j rfl rfl c_5 ?_
          refine fx_iinc rfl (show Int32.ofInt 1 = (1 : Int32) by decide) rfl rfl ?_
          refine fx_back rfl rfl rfl ?_
          exact ih _ _ _ h
        · replace h := (if_neg c_5).symm.trans h
          refine fx_iclt_s rfl c_5 ?_
          refine fx_iload rfl rfl ?_
          refine fx_const rfl (show Int32.ofInt (-4) = (-4 : Int32) by decide) ?_
          by_cases c_6 : a3 = (-4 : Int32)
          · replace h := (if_pos c_6).symm.trans h
            refine fx_iceq_j rfl rfl c_6 ?_
            refine fx_iload rfl rfl ?_
            refine fx_istore rfl rfl ?_
            refine fx_iload rfl rfl ?_
            refine fx_istore rfl rfl ?_
            refine fx_iinc rfl (show Int32.ofInt 1 = (1 : Int32) by decide) rfl rfl ?_
            refine fx_back rfl rfl rfl ?_
            exact ih _ _ _ h
          · replace h := (if_neg c_6).symm.trans h
            refine fx_iceq_s rfl c_6 ?_
            refine fx_iload rfl rfl ?_
            refine fx_iload rfl rfl ?_
            by_cases c_7 : a4 ≤ q4
            · replace h := (if_pos c_7).symm.trans h
              refine fx_icge_j rfl rfl c_7 ?_
              refine fx_iinc rfl (show Int32.ofInt 1 = (1 : Int32) by decide) rfl rfl ?_
              refine fx_back rfl rfl rfl ?_
              exact ih _ _ _ h
            · replace h := (if_neg c_7).symm.trans h
              refine fx_icge_s rfl c_7 ?_
              refine fx_iload rfl rfl ?_
              refine fx_istore rfl rfl ?_
              refine fx_iload rfl rfl ?_
              refine fx_istore rfl rfl ?_
              refine fx_iinc rfl (show Int32.ofInt 1 = (1 : Int32) by decide) rfl rfl ?_
              refine fx_back rfl rfl rfl ?_
              exact ih _ _ _ h
      · replace h := (if_neg c_4).symm.trans h
        refine fx_ifne_j rfl rfl c_4 ?_
        refine fx_iinc rfl (show Int32.ofInt 1 = (1 : Int32) by decide) rfl rfl ?_
        refine fx_back rfl rfl rfl ?_
        exact ih _ _ _ h
def g_X_tells (M : fv_M) (L : Nat) (D : Nat) (a1 : Int32) (a2 : Int32) : Option (Int32) := (g_X_isRow M L D a1).bind fun q1 => if q1 = 0 then (some (-1 : Int32)) else ((g_X_within M a2 (0 : Int32) (1 : Int32)).bind fun q2 => if q2 = 0 then (some (-1 : Int32)) else (g_X_tells_29 M L D a1 a2 fx_FU (-4 : Int32) (-4 : Int32) (0 : Int32) (fun b3_6 b4_6 b5_6 => if a2 = 0 then (some b3_6) else (some b4_6))))
theorem v_X_tells {X : fv_X} {sh : fv_Sh} {k : Nat × Nat} {M : fv_M} {L : Nat} {D : Nat} {a1 : Int32} {a2 : Int32} {r : Int32} (h0 : fx_atX sh L D) (h : g_X_tells M L D a1 a2 = some r) : fv_Rn X 71 0 [some (.ref 0), some (.int a1), some (.int a2)] [] k sh M (some (.int r), sh, M) := by
  unfold g_X_tells at h
  refine fx_aload rfl rfl ?_
  refine fx_iload rfl rfl ?_
  obtain ⟨q1, e_q1, h⟩ := fx_bd h
  refine fx_call [.ref 0, .int a1] [] rfl (by decide) rfl rfl rfl rfl rfl (Nat.le_of_ble_eq_true rfl) (fx_rcv h0.1 rfl) (v_X_isRow h0 e_q1) ?_
  by_cases c_1 : q1 = 0
  · replace h := (if_pos c_1).symm.trans h
    refine fx_ifeq_j rfl rfl c_1 ?_
    refine fx_const rfl (show Int32.ofInt (-1) = (-1 : Int32) by decide) ?_
    obtain rfl := Option.some.inj h
    exact fx_ret rfl rfl
  · replace h := (if_neg c_1).symm.trans h
    refine fx_ifeq_s rfl c_1 ?_
    refine fx_iload rfl rfl ?_
    refine fx_const rfl (show Int32.ofInt 0 = (0 : Int32) by decide) ?_
    refine fx_const rfl (show Int32.ofInt 1 = (1 : Int32) by decide) ?_
    obtain ⟨q2, e_q2, h⟩ := fx_bd h
    refine fx_call [.int a2, .int (0 : Int32), .int (1 : Int32)] [] rfl (by decide) rfl rfl rfl rfl rfl (Nat.le_of_ble_eq_true rfl) rfl (v_X_within  e_q2) ?_
    by_cases c_2 : q2 = 0
    · replace h := (if_pos c_2).symm.trans h
      refine fx_ifne_s rfl c_2 ?_
      refine fx_const rfl (show Int32.ofInt (-1) = (-1 : Int32) by decide) ?_
      obtain rfl := Option.some.inj h
      exact fx_ret rfl rfl
    · replace h := (if_neg c_2).symm.trans h
      refine fx_ifne_j rfl rfl c_2 ?_
      refine fx_const rfl (show Int32.ofInt (-4) = (-4 : Int32) by decide) ?_
      refine fx_istore rfl rfl ?_
      refine fx_const rfl (show Int32.ofInt (-4) = (-4 : Int32) by decide) ?_
      refine fx_istore rfl rfl ?_
      refine fx_const rfl (show Int32.ofInt 0 = (0 : Int32) by decide) ?_
      refine fx_istore rfl rfl ?_
      refine v_X_tells_29 h0 (fun b3_6 b4_6 b5_6 h => ?_) fx_FU _ _ _ h
      refine fx_iload rfl rfl ?_
      by_cases c_8 : a2 = 0
      · replace h := (if_pos c_8).symm.trans h
        refine fx_ifne_s rfl c_8 ?_
        refine fx_iload rfl rfl ?_
        refine fx_goto rfl rfl ?_
        obtain rfl := Option.some.inj h
        exact fx_ret rfl rfl
      · replace h := (if_neg c_8).symm.trans h
        refine fx_ifne_j rfl rfl c_8 ?_
        refine fx_iload rfl rfl ?_
        obtain rfl := Option.some.inj h
        exact fx_ret rfl rfl

def g_X_bred_14 (M : fv_M) (L : Nat) (D : Nat) (a1 : Int32) : Nat → Int32 → Int32 → (Int32 → Int32 → Option (Int32)) → Option (Int32)
  | 0, _, _, _ => none
  | n + 1, a2, a3, kk => if (M L 0) ≤ a3 then (kk a2 a3) else ((g_S_seedFor M 24 L a1 a3).bind fun q2 => if q2 = (-4 : Int32) then (g_X_bred_14 M L D a1 n a2 (a3 + (1 : Int32)) kk) else (g_X_bred_14 M L D a1 n (a2 ||| ((1 : Int32) <<< (a3 &&& 31))) (a3 + (1 : Int32)) kk))
theorem v_X_bred_14 {X : fv_X} {sh : fv_Sh} {k : Nat × Nat} {M : fv_M} {L : Nat} {D : Nat} {a1 : Int32} {r : Int32} {kk : Int32 → Int32 → Option (Int32)} (h0 : fx_atX sh L D) (K : ∀ (a2 a3 : Int32), kk a2 a3 = some r → fv_Rn X 72 55 [some (.ref 0), some (.int a1), some (.int a2), some (.int a3)] [] k sh M (some (.int r), sh, M)) : ∀ (n : Nat) (a2 a3 : Int32), g_X_bred_14 M L D a1 n a2 a3 kk = some r → fv_Rn X 72 14 [some (.ref 0), some (.int a1), some (.int a2), some (.int a3)] [] k sh M (some (.int r), sh, M) := by
  intro n
  induction n with
  | zero =>
    intro a2 a3 h
    replace h : (none : Option (Int32)) = some r := h
    cases h
  | succ n ih =>
    intro a2 a3 h
    rw [g_X_bred_14] at h
    refine fx_iload rfl rfl ?_
    refine fx_aload rfl rfl ?_
    refine fx_getV rfl h0.1 rfl rfl ?_
    refine fx_getI rfl h0.2.2.1.1 rfl rfl ?_
    by_cases c_2 : (M L 0) ≤ a3
    · replace h := (if_pos c_2).symm.trans h
      refine fx_icge_j rfl rfl c_2 ?_
      exact K _ _ h
    · replace h := (if_neg c_2).symm.trans h
      refine fx_icge_s rfl c_2 ?_
      refine fx_aload rfl rfl ?_
      refine fx_getV rfl h0.1 rfl rfl ?_
      refine fx_aload rfl rfl ?_
      refine fx_getV rfl h0.1 rfl rfl ?_
      refine fx_iload rfl rfl ?_
      refine fx_iload rfl rfl ?_
      obtain ⟨q2, e_q2, h⟩ := fx_bd h
      refine fx_call [.ref 24, .ref L, .int a1, .int a3] [] rfl (by decide) rfl rfl rfl rfl rfl (Nat.le_of_ble_eq_true rfl) (fx_rcv h0.2.2.2.2.1.1 rfl) (v_S_seedFor h0.2.2.2.2.1 h0.2.2.1 e_q2) ?_
      refine fx_const rfl (show Int32.ofInt (-4) = (-4 : Int32) by decide) ?_
      by_cases c_3 : q2 = (-4 : Int32)
      · replace h := (if_pos c_3).symm.trans h
        refine fx_iceq_j rfl rfl c_3 ?_
        refine fx_iinc rfl (show Int32.ofInt 1 = (1 : Int32) by decide) rfl rfl ?_
        refine fx_back rfl rfl rfl ?_
        exact ih _ _ h
      · replace h := (if_neg c_3).symm.trans h
        refine fx_iceq_s rfl c_3 ?_
        refine fx_iload rfl rfl ?_
        refine fx_const rfl (show Int32.ofInt 1 = (1 : Int32) by decide) ?_
        refine fx_iload rfl rfl ?_
        refine fx_ishl rfl ?_
        refine fx_ior rfl ?_
        refine fx_istore rfl rfl ?_
        refine fx_iinc rfl (show Int32.ofInt 1 = (1 : Int32) by decide) rfl rfl ?_
        refine fx_back rfl rfl rfl ?_
        exact ih _ _ h
def g_X_bred (M : fv_M) (L : Nat) (D : Nat) (a1 : Int32) : Option (Int32) := (g_X_isVillage M L D a1).bind fun q1 => if q1 = 0 then (some (-1 : Int32)) else (g_X_bred_14 M L D a1 fx_FU (0 : Int32) (0 : Int32) (fun b2_3 b3_3 => some b2_3))
theorem v_X_bred {X : fv_X} {sh : fv_Sh} {k : Nat × Nat} {M : fv_M} {L : Nat} {D : Nat} {a1 : Int32} {r : Int32} (h0 : fx_atX sh L D) (h : g_X_bred M L D a1 = some r) : fv_Rn X 72 0 [some (.ref 0), some (.int a1)] [] k sh M (some (.int r), sh, M) := by
  unfold g_X_bred at h
  refine fx_aload rfl rfl ?_
  refine fx_iload rfl rfl ?_
  obtain ⟨q1, e_q1, h⟩ := fx_bd h
  refine fx_call [.ref 0, .int a1] [] rfl (by decide) rfl rfl rfl rfl rfl (Nat.le_of_ble_eq_true rfl) (fx_rcv h0.1 rfl) (v_X_isVillage h0 e_q1) ?_
  by_cases c_1 : q1 = 0
  · replace h := (if_pos c_1).symm.trans h
    refine fx_ifne_s rfl c_1 ?_
    refine fx_const rfl (show Int32.ofInt (-1) = (-1 : Int32) by decide) ?_
    obtain rfl := Option.some.inj h
    exact fx_ret rfl rfl
  · replace h := (if_neg c_1).symm.trans h
    refine fx_ifne_j rfl rfl c_1 ?_
    refine fx_const rfl (show Int32.ofInt 0 = (0 : Int32) by decide) ?_
    refine fx_istore rfl rfl ?_
    refine fx_const rfl (show Int32.ofInt 0 = (0 : Int32) by decide) ?_
    refine fx_istore rfl rfl ?_
    refine v_X_bred_14 h0 (fun b2_3 b3_3 h => ?_) fx_FU _ _ h
    refine fx_iload rfl rfl ?_
    obtain rfl := Option.some.inj h
    exact fx_ret rfl rfl

def g_X_hear (M : fv_M) (L : Nat) (D : Nat) (a1 : Int32) (a2 : Int32) (a3 : Int32) : Option (Int32 × fv_M) := (g_X_isWork M L D a1).bind fun q1 => if q1 = 0 then (some ((-1 : Int32), M)) else ((g_X_within M a2 (1 : Int32) (9 : Int32)).bind fun q2 => if q2 = 0 then (some ((-1 : Int32), M)) else ((g_H_add M 88 a1 a2 a3).bind fun q3 => if q3.1 = 0 then (some ((-3 : Int32), q3.2)) else (some ((q3.2 88 3), q3.2))))
theorem v_X_hear {X : fv_X} {sh : fv_Sh} {k : Nat × Nat} {M : fv_M} {L : Nat} {D : Nat} {a1 : Int32} {a2 : Int32} {a3 : Int32} {r : Int32 × fv_M} (h0 : fx_atX sh L D) (h : g_X_hear M L D a1 a2 a3 = some r) : fv_Rn X 73 0 [some (.ref 0), some (.int a1), some (.int a2), some (.int a3)] [] k sh M (some (.int r.1), sh, r.2) := by
  unfold g_X_hear at h
  refine fx_aload rfl rfl ?_
  refine fx_iload rfl rfl ?_
  obtain ⟨q1, e_q1, h⟩ := fx_bd h
  refine fx_call [.ref 0, .int a1] [] rfl (by decide) rfl rfl rfl rfl rfl (Nat.le_of_ble_eq_true rfl) (fx_rcv h0.1 rfl) (v_X_isWork h0 e_q1) ?_
  by_cases c_1 : q1 = 0
  · replace h := (if_pos c_1).symm.trans h
    refine fx_ifeq_j rfl rfl c_1 ?_
    refine fx_const rfl (show Int32.ofInt (-1) = (-1 : Int32) by decide) ?_
    obtain rfl := Option.some.inj h
    exact fx_ret rfl rfl
  · replace h := (if_neg c_1).symm.trans h
    refine fx_ifeq_s rfl c_1 ?_
    refine fx_iload rfl rfl ?_
    refine fx_const rfl (show Int32.ofInt 1 = (1 : Int32) by decide) ?_
    refine fx_const rfl (show Int32.ofInt 9 = (9 : Int32) by decide) ?_
    obtain ⟨q2, e_q2, h⟩ := fx_bd h
    refine fx_call [.int a2, .int (1 : Int32), .int (9 : Int32)] [] rfl (by decide) rfl rfl rfl rfl rfl (Nat.le_of_ble_eq_true rfl) rfl (v_X_within  e_q2) ?_
    by_cases c_2 : q2 = 0
    · replace h := (if_pos c_2).symm.trans h
      refine fx_ifne_s rfl c_2 ?_
      refine fx_const rfl (show Int32.ofInt (-1) = (-1 : Int32) by decide) ?_
      obtain rfl := Option.some.inj h
      exact fx_ret rfl rfl
    · replace h := (if_neg c_2).symm.trans h
      refine fx_ifne_j rfl rfl c_2 ?_
      refine fx_aload rfl rfl ?_
      refine fx_getV rfl h0.1 rfl rfl ?_
      refine fx_iload rfl rfl ?_
      refine fx_iload rfl rfl ?_
      refine fx_iload rfl rfl ?_
      obtain ⟨q3, e_q3, h⟩ := fx_bd h
      refine fx_call [.ref 88, .int a1, .int a2, .int a3] [] rfl (by decide) rfl rfl rfl rfl rfl (Nat.le_of_ble_eq_true rfl) (fx_rcv h0.2.2.2.2.2.2.2.2.1.1 rfl) (v_H_add h0.2.2.2.2.2.2.2.2.1 e_q3) ?_
      by_cases c_3 : q3.1 = 0
      · replace h := (if_pos c_3).symm.trans h
        refine fx_ifeq_j rfl rfl c_3 ?_
        refine fx_const rfl (show Int32.ofInt (-3) = (-3 : Int32) by decide) ?_
        obtain rfl := Option.some.inj h
        exact fx_ret rfl rfl
      · replace h := (if_neg c_3).symm.trans h
        refine fx_ifeq_s rfl c_3 ?_
        refine fx_aload rfl rfl ?_
        refine fx_getV rfl h0.1 rfl rfl ?_
        refine fx_getI rfl h0.2.2.2.2.2.2.2.2.1.1 rfl rfl ?_
        refine fx_goto rfl rfl ?_
        obtain rfl := Option.some.inj h
        exact fx_ret rfl rfl

def g_X_forget (M : fv_M) (L : Nat) (D : Nat) : Option (Int32 × fv_M) := some ((M 88 3), (fv_set M 88 3 (0 : Int32)))
theorem v_X_forget {X : fv_X} {sh : fv_Sh} {k : Nat × Nat} {M : fv_M} {L : Nat} {D : Nat} {r : Int32 × fv_M} (h0 : fx_atX sh L D) (h : g_X_forget M L D = some r) : fv_Rn X 74 0 [some (.ref 0)] [] k sh M (some (.int r.1), sh, r.2) := by
  unfold g_X_forget at h
  refine fx_aload rfl rfl ?_
  refine fx_getV rfl h0.1 rfl rfl ?_
  refine fx_getI rfl h0.2.2.2.2.2.2.2.2.1.1 rfl rfl ?_
  refine fx_istore rfl rfl ?_
  refine fx_aload rfl rfl ?_
  refine fx_getV rfl h0.1 rfl rfl ?_
  refine fx_const rfl (show Int32.ofInt 0 = (0 : Int32) by decide) ?_
  refine fx_putI rfl h0.2.2.2.2.2.2.2.2.1.1 rfl rfl rfl ?_
  refine fx_iload rfl rfl ?_
  obtain rfl := Option.some.inj h
  exact fx_ret rfl rfl

def g_X_couldHaveHad_38 (L : Nat) (D : Nat) (a1 : Int32) (a2 : Int32) (a3 : Int32) (a4 : Int32) : Nat → fv_M → Int32 → (fv_M → Int32 → Option (Int32 × fv_M)) → Option (Int32 × fv_M)
  | 0, _, _, _ => none
  | n + 1, M, a5, kk => if a4 < a5 then (kk M a5) else ((g_S_goBy M 29 L).bind fun q4 => (g_H_agrees q4.2 88 a5 q4.1).bind fun q5 => if q5 = 0 then (some ((0 : Int32), q4.2)) else (g_X_couldHaveHad_38 L D a1 a2 a3 a4 n q4.2 (a5 + (1 : Int32)) kk))
theorem v_X_couldHaveHad_38 {X : fv_X} {sh : fv_Sh} {k : Nat × Nat} {L : Nat} {D : Nat} {a1 : Int32} {a2 : Int32} {a3 : Int32} {a4 : Int32} {r : Int32 × fv_M} {kk : fv_M → Int32 → Option (Int32 × fv_M)} (h0 : fx_atX sh L D) (K : ∀ (M : fv_M) (a5 : Int32), kk M a5 = some r → fv_Rn X 92 76 [some (.ref 0), some (.int a1), some (.int a2), some (.int a3), some (.int a4), some (.int a5)] [] k sh M (some (.int r.1), sh, r.2)) : ∀ (n : Nat) (M : fv_M) (a5 : Int32), g_X_couldHaveHad_38 L D a1 a2 a3 a4 n M a5 kk = some r → fv_Rn X 92 38 [some (.ref 0), some (.int a1), some (.int a2), some (.int a3), some (.int a4), some (.int a5)] [] k sh M (some (.int r.1), sh, r.2) := by
  intro n
  induction n with
  | zero =>
    intro M a5 h
    replace h : (none : Option (Int32 × fv_M)) = some r := h
    cases h
  | succ n ih =>
    intro M a5 h
    rw [g_X_couldHaveHad_38] at h
    refine fx_iload rfl rfl ?_
    refine fx_iload rfl rfl ?_
    by_cases c_1 : a4 < a5
    · replace h := (if_pos c_1).symm.trans h
      refine fx_icgt_j rfl rfl c_1 ?_
      exact K _ _ h
    · replace h := (if_neg c_1).symm.trans h
      refine fx_icgt_s rfl c_1 ?_
      refine fx_aload rfl rfl ?_
      refine fx_getV rfl h0.1 rfl rfl ?_
      refine fx_iload rfl rfl ?_
      refine fx_aload rfl rfl ?_
      refine fx_getV rfl h0.1 rfl rfl ?_
      refine fx_aload rfl rfl ?_
      refine fx_getV rfl h0.1 rfl rfl ?_
      obtain ⟨q4, e_q4, h⟩ := fx_bd h
      refine fx_call [.ref 29, .ref L] [.int a5, .ref 88] rfl (by decide) rfl rfl rfl rfl rfl (Nat.le_of_ble_eq_true rfl) (fx_rcv h0.2.2.2.2.2.1.1 rfl) (v_S_goBy h0.2.2.2.2.2.1 h0.2.2.1 e_q4) ?_
      obtain ⟨q5, e_q5, h⟩ := fx_bd h
      refine fx_call [.ref 88, .int a5, .int q4.1] [] rfl (by decide) rfl rfl rfl rfl rfl (Nat.le_of_ble_eq_true rfl) (fx_rcv h0.2.2.2.2.2.2.2.2.1.1 rfl) (v_H_agrees h0.2.2.2.2.2.2.2.2.1 e_q5) ?_
      by_cases c_2 : q5 = 0
      · replace h := (if_pos c_2).symm.trans h
        refine fx_ifne_s rfl c_2 ?_
        refine fx_const rfl (show Int32.ofInt 0 = (0 : Int32) by decide) ?_
        obtain rfl := Option.some.inj h
        exact fx_ret rfl rfl
      · replace h := (if_neg c_2).symm.trans h
        refine fx_ifne_j rfl rfl c_2 ?_
        refine fx_iinc rfl (show Int32.ofInt 1 = (1 : Int32) by decide) rfl rfl ?_
        refine fx_back rfl rfl rfl ?_
        exact ih _ _ h
def g_X_couldHaveHad (M : fv_M) (L : Nat) (D : Nat) (a1 : Int32) (a2 : Int32) (a3 : Int32) : Option (Int32 × fv_M) := (g_S_begin M 29 L).bind fun q1 => (g_S_setStock q1 29 a1 a2 a3).bind fun q2 => (g_H_latestSeason q2 88).bind fun q3 => g_X_couldHaveHad_38 L D a1 a2 a3 (if q3 < (9 : Int32) then q3 else (9 : Int32)) fx_FU q2 (1 : Int32) (fun M_6 b5_6 => some ((1 : Int32), M_6))
theorem v_X_couldHaveHad {X : fv_X} {sh : fv_Sh} {k : Nat × Nat} {M : fv_M} {L : Nat} {D : Nat} {a1 : Int32} {a2 : Int32} {a3 : Int32} {r : Int32 × fv_M} (h0 : fx_atX sh L D) (h : g_X_couldHaveHad M L D a1 a2 a3 = some r) : fv_Rn X 92 0 [some (.ref 0), some (.int a1), some (.int a2), some (.int a3)] [] k sh M (some (.int r.1), sh, r.2) := by
  unfold g_X_couldHaveHad at h
  refine fx_aload rfl rfl ?_
  refine fx_getV rfl h0.1 rfl rfl ?_
  refine fx_aload rfl rfl ?_
  refine fx_getV rfl h0.1 rfl rfl ?_
  obtain ⟨q1, e_q1, h⟩ := fx_bd h
  refine fx_call [.ref 29, .ref L] [] rfl (by decide) rfl rfl rfl rfl rfl (Nat.le_of_ble_eq_true rfl) (fx_rcv h0.2.2.2.2.2.1.1 rfl) (v_S_begin h0.2.2.2.2.2.1 h0.2.2.1 e_q1) ?_
  refine fx_aload rfl rfl ?_
  refine fx_getV rfl h0.1 rfl rfl ?_
  refine fx_iload rfl rfl ?_
  refine fx_iload rfl rfl ?_
  refine fx_iload rfl rfl ?_
  obtain ⟨q2, e_q2, h⟩ := fx_bd h
  refine fx_call [.ref 29, .int a1, .int a2, .int a3] [] rfl (by decide) rfl rfl rfl rfl rfl (Nat.le_of_ble_eq_true rfl) (fx_rcv h0.2.2.2.2.2.1.1 rfl) (v_S_setStock h0.2.2.2.2.2.1 e_q2) ?_
  refine fx_const rfl (show Int32.ofInt 9 = (9 : Int32) by decide) ?_
  refine fx_aload rfl rfl ?_
  refine fx_getV rfl h0.1 rfl rfl ?_
  obtain ⟨q3, e_q3, h⟩ := fx_bd h
  refine fx_call [.ref 88] [.int (9 : Int32)] rfl (by decide) rfl rfl rfl rfl rfl (Nat.le_of_ble_eq_true rfl) (fx_rcv h0.2.2.2.2.2.2.2.2.1.1 rfl) (v_H_latestSeason h0.2.2.2.2.2.2.2.2.1 e_q3) ?_
  refine fx_dsub rfl (Nat.le_of_ble_eq_true rfl) ?_
  refine fx_istore rfl rfl ?_
  refine fx_const rfl (show Int32.ofInt 1 = (1 : Int32) by decide) ?_
  refine fx_istore rfl rfl ?_
  refine v_X_couldHaveHad_38 h0 (fun M_6 b5_6 h => ?_) fx_FU _ _ h
  refine fx_const rfl (show Int32.ofInt 1 = (1 : Int32) by decide) ?_
  obtain rfl := Option.some.inj h
  exact fx_ret rfl rfl

def g_X_hoard_37 (L : Nat) (D : Nat) (a1 : Int32) (a2 : Int32) (a3 : Int32) : Nat → fv_M → Int32 → Int32 → Int32 → (fv_M → Int32 → Int32 → Int32 → Option (Int32 × fv_M)) → Option (Int32 × fv_M)
  | 0, _, _, _, _, _ => none
  | n + 1, M, a4, a5, a6, kk => if (30 : Int32) < a6 then (kk M a4 a5 a6) else ((g_X_couldHaveHad M L D a1 a2 a6).bind fun q4 => if q4.1 = 0 then (g_X_hoard_37 L D a1 a2 a3 n q4.2 a4 a5 (a6 + (1 : Int32)) kk) else (if a5 = (-4 : Int32) then (g_X_hoard_37 L D a1 a2 a3 n q4.2 (a4 + (1 : Int32)) a6 (a6 + (1 : Int32)) kk) else (g_X_hoard_37 L D a1 a2 a3 n q4.2 (a4 + (1 : Int32)) a5 (a6 + (1 : Int32)) kk)))
theorem v_X_hoard_37 {X : fv_X} {sh : fv_Sh} {k : Nat × Nat} {L : Nat} {D : Nat} {a1 : Int32} {a2 : Int32} {a3 : Int32} {r : Int32 × fv_M} {kk : fv_M → Int32 → Int32 → Int32 → Option (Int32 × fv_M)} (h0 : fx_atX sh L D) (K : ∀ (M : fv_M) (a4 a5 a6 : Int32), kk M a4 a5 a6 = some r → fv_Rn X 75 80 [some (.ref 0), some (.int a1), some (.int a2), some (.int a3), some (.int a4), some (.int a5), some (.int a6)] [] k sh M (some (.int r.1), sh, r.2)) : ∀ (n : Nat) (M : fv_M) (a4 a5 a6 : Int32), g_X_hoard_37 L D a1 a2 a3 n M a4 a5 a6 kk = some r → fv_Rn X 75 37 [some (.ref 0), some (.int a1), some (.int a2), some (.int a3), some (.int a4), some (.int a5), some (.int a6)] [] k sh M (some (.int r.1), sh, r.2) := by
  intro n
  induction n with
  | zero =>
    intro M a4 a5 a6 h
    replace h : (none : Option (Int32 × fv_M)) = some r := h
    cases h
  | succ n ih =>
    intro M a4 a5 a6 h
    rw [g_X_hoard_37] at h
    refine fx_iload rfl rfl ?_
    refine fx_const rfl (show Int32.ofInt 30 = (30 : Int32) by decide) ?_
    by_cases c_4 : (30 : Int32) < a6
    · replace h := (if_pos c_4).symm.trans h
      refine fx_icgt_j rfl rfl c_4 ?_
      exact K _ _ _ _ h
    · replace h := (if_neg c_4).symm.trans h
      refine fx_icgt_s rfl c_4 ?_
      refine fx_aload rfl rfl ?_
      refine fx_iload rfl rfl ?_
      refine fx_iload rfl rfl ?_
      refine fx_iload rfl rfl ?_
      obtain ⟨q4, e_q4, h⟩ := fx_bd h
      refine fx_call [.ref 0, .int a1, .int a2, .int a6] [] rfl (by decide) rfl rfl rfl rfl rfl (Nat.le_of_ble_eq_true rfl) (fx_rcv h0.1 rfl) (v_X_couldHaveHad h0 e_q4) ?_
      by_cases c_5 : q4.1 = 0
      · replace h := (if_pos c_5).symm.trans h
        refine fx_ifeq_j rfl rfl c_5 ?_
        refine fx_iinc rfl (show Int32.ofInt 1 = (1 : Int32) by decide) rfl rfl ?_
        refine fx_back rfl rfl rfl ?_
        exact ih _ _ _ _ h
      · replace h := (if_neg c_5).symm.trans h
        refine fx_ifeq_s rfl c_5 ?_
        refine fx_iinc rfl (show Int32.ofInt 1 = (1 : Int32) by decide) rfl rfl ?_
        refine fx_iload rfl rfl ?_
        refine fx_const rfl (show Int32.ofInt (-4) = (-4 : Int32) by decide) ?_
        by_cases c_6 : a5 = (-4 : Int32)
        · replace h := (if_pos c_6).symm.trans h
          refine fx_icne_s rfl c_6 ?_
          refine fx_iload rfl rfl ?_
          refine fx_goto rfl rfl ?_
          refine fx_istore rfl rfl ?_
          refine fx_iinc rfl (show Int32.ofInt 1 = (1 : Int32) by decide) rfl rfl ?_
          refine fx_back rfl rfl rfl ?_
          exact ih _ _ _ _ h
        · replace h := (if_neg c_6).symm.trans h
          refine fx_icne_j rfl rfl c_6 ?_
          refine fx_iload rfl rfl ?_
          refine fx_istore rfl rfl ?_
          refine fx_iinc rfl (show Int32.ofInt 1 = (1 : Int32) by decide) rfl rfl ?_
          refine fx_back rfl rfl rfl ?_
          exact ih _ _ _ _ h
def g_X_hoard (M : fv_M) (L : Nat) (D : Nat) (a1 : Int32) (a2 : Int32) (a3 : Int32) : Option (Int32 × fv_M) := (g_X_isVillage M L D a1).bind fun q1 => if q1 = 0 then (some ((-1 : Int32), M)) else ((g_X_isVerb M L D a2).bind fun q2 => if q2 = 0 then (some ((-1 : Int32), M)) else ((g_X_within M a3 (0 : Int32) (1 : Int32)).bind fun q3 => if q3 = 0 then (some ((-1 : Int32), M)) else (g_X_hoard_37 L D a1 a2 a3 fx_FU M (0 : Int32) (-4 : Int32) (0 : Int32) (fun M_5 b4_5 b5_5 b6_5 => if a3 = 0 then (some (b4_5, M_5)) else (some (b5_5, M_5))))))
theorem v_X_hoard {X : fv_X} {sh : fv_Sh} {k : Nat × Nat} {M : fv_M} {L : Nat} {D : Nat} {a1 : Int32} {a2 : Int32} {a3 : Int32} {r : Int32 × fv_M} (h0 : fx_atX sh L D) (h : g_X_hoard M L D a1 a2 a3 = some r) : fv_Rn X 75 0 [some (.ref 0), some (.int a1), some (.int a2), some (.int a3)] [] k sh M (some (.int r.1), sh, r.2) := by
  unfold g_X_hoard at h
  refine fx_aload rfl rfl ?_
  refine fx_iload rfl rfl ?_
  obtain ⟨q1, e_q1, h⟩ := fx_bd h
  refine fx_call [.ref 0, .int a1] [] rfl (by decide) rfl rfl rfl rfl rfl (Nat.le_of_ble_eq_true rfl) (fx_rcv h0.1 rfl) (v_X_isVillage h0 e_q1) ?_
  by_cases c_1 : q1 = 0
  · replace h := (if_pos c_1).symm.trans h
    refine fx_ifeq_j rfl rfl c_1 ?_
    refine fx_const rfl (show Int32.ofInt (-1) = (-1 : Int32) by decide) ?_
    obtain rfl := Option.some.inj h
    exact fx_ret rfl rfl
  · replace h := (if_neg c_1).symm.trans h
    refine fx_ifeq_s rfl c_1 ?_
    refine fx_aload rfl rfl ?_
    refine fx_iload rfl rfl ?_
    obtain ⟨q2, e_q2, h⟩ := fx_bd h
    refine fx_call [.ref 0, .int a2] [] rfl (by decide) rfl rfl rfl rfl rfl (Nat.le_of_ble_eq_true rfl) (fx_rcv h0.1 rfl) (v_X_isVerb h0 e_q2) ?_
    by_cases c_2 : q2 = 0
    · replace h := (if_pos c_2).symm.trans h
      refine fx_ifeq_j rfl rfl c_2 ?_
      refine fx_const rfl (show Int32.ofInt (-1) = (-1 : Int32) by decide) ?_
      obtain rfl := Option.some.inj h
      exact fx_ret rfl rfl
    · replace h := (if_neg c_2).symm.trans h
      refine fx_ifeq_s rfl c_2 ?_
      refine fx_iload rfl rfl ?_
      refine fx_const rfl (show Int32.ofInt 0 = (0 : Int32) by decide) ?_
      refine fx_const rfl (show Int32.ofInt 1 = (1 : Int32) by decide) ?_
      obtain ⟨q3, e_q3, h⟩ := fx_bd h
      refine fx_call [.int a3, .int (0 : Int32), .int (1 : Int32)] [] rfl (by decide) rfl rfl rfl rfl rfl (Nat.le_of_ble_eq_true rfl) rfl (v_X_within  e_q3) ?_
      by_cases c_3 : q3 = 0
      · replace h := (if_pos c_3).symm.trans h
        refine fx_ifne_s rfl c_3 ?_
        refine fx_const rfl (show Int32.ofInt (-1) = (-1 : Int32) by decide) ?_
        obtain rfl := Option.some.inj h
        exact fx_ret rfl rfl
      · replace h := (if_neg c_3).symm.trans h
        refine fx_ifne_j rfl rfl c_3 ?_
        refine fx_const rfl (show Int32.ofInt 0 = (0 : Int32) by decide) ?_
        refine fx_istore rfl rfl ?_
        refine fx_const rfl (show Int32.ofInt (-4) = (-4 : Int32) by decide) ?_
        refine fx_istore rfl rfl ?_
        refine fx_const rfl (show Int32.ofInt 0 = (0 : Int32) by decide) ?_
        refine fx_istore rfl rfl ?_
        refine v_X_hoard_37 h0 (fun M_5 b4_5 b5_5 b6_5 h => ?_) fx_FU _ _ _ _ h
        refine fx_iload rfl rfl ?_
        by_cases c_7 : a3 = 0
        · replace h := (if_pos c_7).symm.trans h
          refine fx_ifne_s rfl c_7 ?_
          refine fx_iload rfl rfl ?_
          refine fx_goto rfl rfl ?_
          obtain rfl := Option.some.inj h
          exact fx_ret rfl rfl
        · replace h := (if_neg c_7).symm.trans h
          refine fx_ifne_j rfl rfl c_7 ?_
          refine fx_iload rfl rfl ?_
          obtain rfl := Option.some.inj h
          exact fx_ret rfl rfl

def g_X_caravan (M : fv_M) (L : Nat) (D : Nat) (a1 : Int32) (a2 : Int32) (a3 : Int32) (a4 : Int32) : Option (Int32 × fv_M) := (g_X_refusalOfGift M L D a1 a2 a3 a4 (9 : Int32)).bind fun q1 => if q1 = 0 then ((g_S_become M 29 24).bind fun q2 => (g_X_goAhead q2 L D 29 (8 : Int32)).bind fun q3 => (g_L_allWorks q3 L).bind fun q4 => (g_X_worthAhead q3 L D q4).bind fun q5 => (g_S_become q3 29 24).bind fun q6 => (g_S_move q6 29 a1 a2 a3 a4).bind fun q7 => (g_X_goAhead q7 L D 29 (8 : Int32)).bind fun q8 => (g_L_allWorks q8 L).bind fun q9 => (g_X_worthAhead q8 L D q9).bind fun q10 => some (((q10 - q5) + (1000 : Int32)), q8)) else (some (q1, M))
theorem v_X_caravan {X : fv_X} {sh : fv_Sh} {k : Nat × Nat} {M : fv_M} {L : Nat} {D : Nat} {a1 : Int32} {a2 : Int32} {a3 : Int32} {a4 : Int32} {r : Int32 × fv_M} (h0 : fx_atX sh L D) (h : g_X_caravan M L D a1 a2 a3 a4 = some r) : fv_Rn X 76 0 [some (.ref 0), some (.int a1), some (.int a2), some (.int a3), some (.int a4)] [] k sh M (some (.int r.1), sh, r.2) := by
  unfold g_X_caravan at h
  refine fx_aload rfl rfl ?_
  refine fx_iload rfl rfl ?_
  refine fx_iload rfl rfl ?_
  refine fx_iload rfl rfl ?_
  refine fx_iload rfl rfl ?_
  refine fx_const rfl (show Int32.ofInt 9 = (9 : Int32) by decide) ?_
  obtain ⟨q1, e_q1, h⟩ := fx_bd h
  refine fx_call [.ref 0, .int a1, .int a2, .int a3, .int a4, .int (9 : Int32)] [] rfl (by decide) rfl rfl rfl rfl rfl (Nat.le_of_ble_eq_true rfl) (fx_rcv h0.1 rfl) (v_X_refusalOfGift h0 e_q1) ?_
  refine fx_istore rfl rfl ?_
  refine fx_iload rfl rfl ?_
  by_cases c_1 : q1 = 0
  · replace h := (if_pos c_1).symm.trans h
    refine fx_ifeq_j rfl rfl c_1 ?_
    refine fx_aload rfl rfl ?_
    refine fx_getV rfl h0.1 rfl rfl ?_
    refine fx_aload rfl rfl ?_
    refine fx_getV rfl h0.1 rfl rfl ?_
    obtain ⟨q2, e_q2, h⟩ := fx_bd h
    refine fx_call [.ref 29, .ref 24] [] rfl (by decide) rfl rfl rfl rfl rfl (Nat.le_of_ble_eq_true rfl) (fx_rcv h0.2.2.2.2.2.1.1 rfl) (v_S_become h0.2.2.2.2.2.1 h0.2.2.2.2.1 e_q2) ?_
    refine fx_aload rfl rfl ?_
    refine fx_aload rfl rfl ?_
    refine fx_getV rfl h0.1 rfl rfl ?_
    refine fx_const rfl (show Int32.ofInt 8 = (8 : Int32) by decide) ?_
    obtain ⟨q3, e_q3, h⟩ := fx_bd h
    refine fx_call [.ref 0, .ref 29, .int (8 : Int32)] [] rfl (by decide) rfl rfl rfl rfl rfl (Nat.le_of_ble_eq_true rfl) (fx_rcv h0.1 rfl) (v_X_goAhead h0 h0.2.2.2.2.2.1 e_q3) ?_
    refine fx_aload rfl rfl ?_
    refine fx_aload rfl rfl ?_
    refine fx_getV rfl h0.1 rfl rfl ?_
    obtain ⟨q4, e_q4, h⟩ := fx_bd h
    refine fx_call [.ref L] [.ref 0] rfl (by decide) rfl rfl rfl rfl rfl (Nat.le_of_ble_eq_true rfl) (fx_rcv h0.2.2.1.1 rfl) (v_L_allWorks h0.2.2.1 e_q4) ?_
    obtain ⟨q5, e_q5, h⟩ := fx_bd h
    refine fx_call [.ref 0, .int q4] [] rfl (by decide) rfl rfl rfl rfl rfl (Nat.le_of_ble_eq_true rfl) (fx_rcv h0.1 rfl) (v_X_worthAhead h0 e_q5) ?_
    refine fx_istore rfl rfl ?_
    refine fx_aload rfl rfl ?_
    refine fx_getV rfl h0.1 rfl rfl ?_
    refine fx_aload rfl rfl ?_
    refine fx_getV rfl h0.1 rfl rfl ?_
    obtain ⟨q6, e_q6, h⟩ := fx_bd h
    refine fx_call [.ref 29, .ref 24] [] rfl (by decide) rfl rfl rfl rfl rfl (Nat.le_of_ble_eq_true rfl) (fx_rcv h0.2.2.2.2.2.1.1 rfl) (v_S_become h0.2.2.2.2.2.1 h0.2.2.2.2.1 e_q6) ?_
    refine fx_aload rfl rfl ?_
    refine fx_getV rfl h0.1 rfl rfl ?_
    refine fx_iload rfl rfl ?_
    refine fx_iload rfl rfl ?_
    refine fx_iload rfl rfl ?_
    refine fx_iload rfl rfl ?_
    obtain ⟨q7, e_q7, h⟩ := fx_bd h
    refine fx_call [.ref 29, .int a1, .int a2, .int a3, .int a4] [] rfl (by decide) rfl rfl rfl rfl rfl (Nat.le_of_ble_eq_true rfl) (fx_rcv h0.2.2.2.2.2.1.1 rfl) (v_S_move h0.2.2.2.2.2.1 e_q7) ?_
    refine fx_aload rfl rfl ?_
    refine fx_aload rfl rfl ?_
    refine fx_getV rfl h0.1 rfl rfl ?_
    refine fx_const rfl (show Int32.ofInt 8 = (8 : Int32) by decide) ?_
    obtain ⟨q8, e_q8, h⟩ := fx_bd h
    refine fx_call [.ref 0, .ref 29, .int (8 : Int32)] [] rfl (by decide) rfl rfl rfl rfl rfl (Nat.le_of_ble_eq_true rfl) (fx_rcv h0.1 rfl) (v_X_goAhead h0 h0.2.2.2.2.2.1 e_q8) ?_
    refine fx_aload rfl rfl ?_
    refine fx_aload rfl rfl ?_
    refine fx_getV rfl h0.1 rfl rfl ?_
    obtain ⟨q9, e_q9, h⟩ := fx_bd h
    refine fx_call [.ref L] [.ref 0] rfl (by decide) rfl rfl rfl rfl rfl (Nat.le_of_ble_eq_true rfl) (fx_rcv h0.2.2.1.1 rfl) (v_L_allWorks h0.2.2.1 e_q9) ?_
    obtain ⟨q10, e_q10, h⟩ := fx_bd h
    refine fx_call [.ref 0, .int q9] [] rfl (by decide) rfl rfl rfl rfl rfl (Nat.le_of_ble_eq_true rfl) (fx_rcv h0.1 rfl) (v_X_worthAhead h0 e_q10) ?_
    refine fx_iload rfl rfl ?_
    refine fx_isub rfl ?_
    refine fx_const rfl (show Int32.ofInt 1000 = (1000 : Int32) by decide) ?_
    refine fx_iadd rfl ?_
    obtain rfl := Option.some.inj h
    exact fx_ret rfl rfl
  · replace h := (if_neg c_1).symm.trans h
    refine fx_ifeq_s rfl c_1 ?_
    refine fx_iload rfl rfl ?_
    obtain rfl := Option.some.inj h
    exact fx_ret rfl rfl

def g_X_changeByDraw (M : fv_M) (L : Nat) (D : Nat) (a1 : Int32) : Option (fv_M) := (g_X_remainder M a1 (M L 2)).bind fun q1 => (g_X_remainder M (a1 / (16 : Int32)) (M L 0)).bind fun q2 => if ((a1 / (8 : Int32)) - (a1 / (8 : Int32)) / (2 : Int32) * (2 : Int32)) = (1 : Int32) then ((g_S_stockOf M 29 q1 q2).bind fun q3 => (g_S_setStock M 29 q1 q2 (if (0 : Int32) < (if (q3 + (1 : Int32)) < (60 : Int32) then (q3 + (1 : Int32)) else (60 : Int32)) then (if (q3 + (1 : Int32)) < (60 : Int32) then (q3 + (1 : Int32)) else (60 : Int32)) else (0 : Int32))).bind fun q4 => some q4) else ((g_S_stockOf M 29 q1 q2).bind fun q5 => (g_S_setStock M 29 q1 q2 (if (0 : Int32) < (if (q5 + (-1 : Int32)) < (60 : Int32) then (q5 + (-1 : Int32)) else (60 : Int32)) then (if (q5 + (-1 : Int32)) < (60 : Int32) then (q5 + (-1 : Int32)) else (60 : Int32)) else (0 : Int32))).bind fun q6 => some q6)
theorem v_X_changeByDraw {X : fv_X} {sh : fv_Sh} {k : Nat × Nat} {M : fv_M} {L : Nat} {D : Nat} {a1 : Int32} {r : fv_M} (h0 : fx_atX sh L D) (h : g_X_changeByDraw M L D a1 = some r) : fv_Rn X 93 0 [some (.ref 0), some (.int a1)] [] k sh M (none, sh, r) := by
  unfold g_X_changeByDraw at h
  refine fx_iload rfl rfl ?_
  refine fx_aload rfl rfl ?_
  refine fx_getV rfl h0.1 rfl rfl ?_
  refine fx_getI rfl h0.2.2.1.1 rfl rfl ?_
  obtain ⟨q1, e_q1, h⟩ := fx_bd h
  refine fx_call [.int a1, .int (M L 2)] [] rfl (by decide) rfl rfl rfl rfl rfl (Nat.le_of_ble_eq_true rfl) rfl (v_X_remainder  e_q1) ?_
  refine fx_istore rfl rfl ?_
  refine fx_iload rfl rfl ?_
  refine fx_const rfl (show Int32.ofInt 16 = (16 : Int32) by decide) ?_
  refine fx_idiv rfl (by decide) ?_
  refine fx_aload rfl rfl ?_
  refine fx_getV rfl h0.1 rfl rfl ?_
  refine fx_getI rfl h0.2.2.1.1 rfl rfl ?_
  obtain ⟨q2, e_q2, h⟩ := fx_bd h
  refine fx_call [.int (a1 / (16 : Int32)), .int (M L 0)] [] rfl (by decide) rfl rfl rfl rfl rfl (Nat.le_of_ble_eq_true rfl) rfl (v_X_remainder  e_q2) ?_
  refine fx_istore rfl rfl ?_
  refine fx_iload rfl rfl ?_
  refine fx_const rfl (show Int32.ofInt 8 = (8 : Int32) by decide) ?_
  refine fx_idiv rfl (by decide) ?_
  refine fx_const rfl (show Int32.ofInt 2 = (2 : Int32) by decide) ?_
  refine fx_irem rfl (by decide) ?_
  refine fx_const rfl (show Int32.ofInt 1 = (1 : Int32) by decide) ?_
  by_cases c_1 : ((a1 / (8 : Int32)) - (a1 / (8 : Int32)) / (2 : Int32) * (2 : Int32)) = (1 : Int32)
  · replace h := (if_pos c_1).symm.trans h
    refine fx_icne_s rfl c_1 ?_
    refine fx_const rfl (show Int32.ofInt 1 = (1 : Int32) by decide) ?_
    refine fx_goto rfl rfl ?_
    refine fx_istore rfl rfl ?_
    refine fx_aload rfl rfl ?_
    refine fx_getV rfl h0.1 rfl rfl ?_
    refine fx_iload rfl rfl ?_
    refine fx_iload rfl rfl ?_
    refine fx_const rfl (show Int32.ofInt 0 = (0 : Int32) by decide) ?_
    refine fx_const rfl (show Int32.ofInt 60 = (60 : Int32) by decide) ?_
    refine fx_aload rfl rfl ?_
    refine fx_getV rfl h0.1 rfl rfl ?_
    refine fx_iload rfl rfl ?_
    refine fx_iload rfl rfl ?_
    obtain ⟨q3, e_q3, h⟩ := fx_bd h
    refine fx_call [.ref 29, .int q1, .int q2] [.int (60 : Int32), .int (0 : Int32), .int q2, .int q1, .ref 29] rfl (by decide) rfl rfl rfl rfl rfl (Nat.le_of_ble_eq_true rfl) (fx_rcv h0.2.2.2.2.2.1.1 rfl) (v_S_stockOf h0.2.2.2.2.2.1 e_q3) ?_
    refine fx_iload rfl rfl ?_
    refine fx_iadd rfl ?_
    refine fx_dsub rfl (Nat.le_of_ble_eq_true rfl) ?_
    refine fx_dadd rfl (Nat.le_of_ble_eq_true rfl) ?_
    obtain ⟨q4, e_q4, h⟩ := fx_bd h
    refine fx_call [.ref 29, .int q1, .int q2, .int (if (0 : Int32) < (if (q3 + (1 : Int32)) < (60 : Int32) then (q3 + (1 : Int32)) else (60 : Int32)) then (if (q3 + (1 : Int32)) < (60 : Int32) then (q3 + (1 : Int32)) else (60 : Int32)) else (0 : Int32))] [] rfl (by decide) rfl rfl rfl rfl rfl (Nat.le_of_ble_eq_true rfl) (fx_rcv h0.2.2.2.2.2.1.1 rfl) (v_S_setStock h0.2.2.2.2.2.1 e_q4) ?_
    obtain rfl := Option.some.inj h
    exact fx_vret rfl rfl
  · replace h := (if_neg c_1).symm.trans h
    refine fx_icne_j rfl rfl c_1 ?_
    refine fx_const rfl (show Int32.ofInt (-1) = (-1 : Int32) by decide) ?_
    refine fx_istore rfl rfl ?_
    refine fx_aload rfl rfl ?_
    refine fx_getV rfl h0.1 rfl rfl ?_
    refine fx_iload rfl rfl ?_
    refine fx_iload rfl rfl ?_
    refine fx_const rfl (show Int32.ofInt 0 = (0 : Int32) by decide) ?_
    refine fx_const rfl (show Int32.ofInt 60 = (60 : Int32) by decide) ?_
    refine fx_aload rfl rfl ?_
    refine fx_getV rfl h0.1 rfl rfl ?_
    refine fx_iload rfl rfl ?_
    refine fx_iload rfl rfl ?_
    obtain ⟨q5, e_q5, h⟩ := fx_bd h
    refine fx_call [.ref 29, .int q1, .int q2] [.int (60 : Int32), .int (0 : Int32), .int q2, .int q1, .ref 29] rfl (by decide) rfl rfl rfl rfl rfl (Nat.le_of_ble_eq_true rfl) (fx_rcv h0.2.2.2.2.2.1.1 rfl) (v_S_stockOf h0.2.2.2.2.2.1 e_q5) ?_
    refine fx_iload rfl rfl ?_
    refine fx_iadd rfl ?_
    refine fx_dsub rfl (Nat.le_of_ble_eq_true rfl) ?_
    refine fx_dadd rfl (Nat.le_of_ble_eq_true rfl) ?_
    obtain ⟨q6, e_q6, h⟩ := fx_bd h
    refine fx_call [.ref 29, .int q1, .int q2, .int (if (0 : Int32) < (if (q5 + (-1 : Int32)) < (60 : Int32) then (q5 + (-1 : Int32)) else (60 : Int32)) then (if (q5 + (-1 : Int32)) < (60 : Int32) then (q5 + (-1 : Int32)) else (60 : Int32)) else (0 : Int32))] [] rfl (by decide) rfl rfl rfl rfl rfl (Nat.le_of_ble_eq_true rfl) (fx_rcv h0.2.2.2.2.2.1.1 rfl) (v_S_setStock h0.2.2.2.2.2.1 e_q6) ?_
    obtain rfl := Option.some.inj h
    exact fx_vret rfl rfl

def g_X_decade_46 (L : Nat) (D : Nat) (a1 : Int32) (a2 : Int32) (a3 : Int32) : Nat → fv_M → Int32 → (fv_M → Int32 → Option (Int32 × fv_M)) → Option (Int32 × fv_M)
  | 0, _, _, _ => none
  | n + 1, M, a4, kk => if a2 ≤ a4 then (kk M a4) else ((g_X_drawOf M a1 a4).bind fun q5 => (g_X_changeByDraw M L D q5).bind fun q6 => (g_S_goBy q6 29 L).bind fun q7 => g_X_decade_46 L D a1 a2 a3 n q7.2 (a4 + (1 : Int32)) kk)
theorem v_X_decade_46 {X : fv_X} {sh : fv_Sh} {k : Nat × Nat} {L : Nat} {D : Nat} {a1 : Int32} {a2 : Int32} {a3 : Int32} {r : Int32 × fv_M} {kk : fv_M → Int32 → Option (Int32 × fv_M)} (h0 : fx_atX sh L D) (K : ∀ (M : fv_M) (a4 : Int32), kk M a4 = some r → fv_Rn X 77 80 [some (.ref 0), some (.int a1), some (.int a2), some (.int a3), some (.int a4)] [] k sh M (some (.int r.1), sh, r.2)) : ∀ (n : Nat) (M : fv_M) (a4 : Int32), g_X_decade_46 L D a1 a2 a3 n M a4 kk = some r → fv_Rn X 77 46 [some (.ref 0), some (.int a1), some (.int a2), some (.int a3), some (.int a4)] [] k sh M (some (.int r.1), sh, r.2) := by
  intro n
  induction n with
  | zero =>
    intro M a4 h
    replace h : (none : Option (Int32 × fv_M)) = some r := h
    cases h
  | succ n ih =>
    intro M a4 h
    rw [g_X_decade_46] at h
    refine fx_iload rfl rfl ?_
    refine fx_iload rfl rfl ?_
    by_cases c_4 : a2 ≤ a4
    · replace h := (if_pos c_4).symm.trans h
      refine fx_icge_j rfl rfl c_4 ?_
      exact K _ _ h
    · replace h := (if_neg c_4).symm.trans h
      refine fx_icge_s rfl c_4 ?_
      refine fx_aload rfl rfl ?_
      refine fx_iload rfl rfl ?_
      refine fx_iload rfl rfl ?_
      obtain ⟨q5, e_q5, h⟩ := fx_bd h
      refine fx_call [.int a1, .int a4] [.ref 0] rfl (by decide) rfl rfl rfl rfl rfl (Nat.le_of_ble_eq_true rfl) rfl (v_X_drawOf  e_q5) ?_
      obtain ⟨q6, e_q6, h⟩ := fx_bd h
      refine fx_call [.ref 0, .int q5] [] rfl (by decide) rfl rfl rfl rfl rfl (Nat.le_of_ble_eq_true rfl) (fx_rcv h0.1 rfl) (v_X_changeByDraw h0 e_q6) ?_
      refine fx_aload rfl rfl ?_
      refine fx_getV rfl h0.1 rfl rfl ?_
      refine fx_aload rfl rfl ?_
      refine fx_getV rfl h0.1 rfl rfl ?_
      obtain ⟨q7, e_q7, h⟩ := fx_bd h
      refine fx_call [.ref 29, .ref L] [] rfl (by decide) rfl rfl rfl rfl rfl (Nat.le_of_ble_eq_true rfl) (fx_rcv h0.2.2.2.2.2.1.1 rfl) (v_S_goBy h0.2.2.2.2.2.1 h0.2.2.1 e_q7) ?_
      refine fx_pop rfl rfl ?_
      refine fx_iinc rfl (show Int32.ofInt 1 = (1 : Int32) by decide) rfl rfl ?_
      refine fx_back rfl rfl rfl ?_
      exact ih _ _ h
def g_X_decade (M : fv_M) (L : Nat) (D : Nat) (a1 : Int32) (a2 : Int32) (a3 : Int32) : Option (Int32 × fv_M) := (g_X_within M a1 (0 : Int32) (9999 : Int32)).bind fun q1 => if q1 = 0 then (some ((-1 : Int32), M)) else ((g_X_within M a2 (1 : Int32) (40 : Int32)).bind fun q2 => if q2 = 0 then (some ((-1 : Int32), M)) else ((g_X_within M a3 (0 : Int32) (1 : Int32)).bind fun q3 => if q3 = 0 then (some ((-1 : Int32), M)) else ((g_S_become M 29 24).bind fun q4 => g_X_decade_46 L D a1 a2 a3 fx_FU q4 (0 : Int32) (fun M_8 b4_8 => if a3 = 0 then ((g_L_allWorks M_8 L).bind fun q9 => (g_X_worthAhead M_8 L D q9).bind fun q10 => some (q10, M_8)) else ((g_L_allWorks M_8 L).bind fun q11 => (g_X_forgottenAhead M_8 L D q11).bind fun q12 => some (q12, M_8))))))
theorem v_X_decade {X : fv_X} {sh : fv_Sh} {k : Nat × Nat} {M : fv_M} {L : Nat} {D : Nat} {a1 : Int32} {a2 : Int32} {a3 : Int32} {r : Int32 × fv_M} (h0 : fx_atX sh L D) (h : g_X_decade M L D a1 a2 a3 = some r) : fv_Rn X 77 0 [some (.ref 0), some (.int a1), some (.int a2), some (.int a3)] [] k sh M (some (.int r.1), sh, r.2) := by
  unfold g_X_decade at h
  refine fx_iload rfl rfl ?_
  refine fx_const rfl (show Int32.ofInt 0 = (0 : Int32) by decide) ?_
  refine fx_const rfl (show Int32.ofInt 9999 = (9999 : Int32) by decide) ?_
  obtain ⟨q1, e_q1, h⟩ := fx_bd h
  refine fx_call [.int a1, .int (0 : Int32), .int (9999 : Int32)] [] rfl (by decide) rfl rfl rfl rfl rfl (Nat.le_of_ble_eq_true rfl) rfl (v_X_within  e_q1) ?_
  by_cases c_1 : q1 = 0
  · replace h := (if_pos c_1).symm.trans h
    refine fx_ifeq_j rfl rfl c_1 ?_
    refine fx_const rfl (show Int32.ofInt (-1) = (-1 : Int32) by decide) ?_
    obtain rfl := Option.some.inj h
    exact fx_ret rfl rfl
  · replace h := (if_neg c_1).symm.trans h
    refine fx_ifeq_s rfl c_1 ?_
    refine fx_iload rfl rfl ?_
    refine fx_const rfl (show Int32.ofInt 1 = (1 : Int32) by decide) ?_
    refine fx_const rfl (show Int32.ofInt 40 = (40 : Int32) by decide) ?_
    obtain ⟨q2, e_q2, h⟩ := fx_bd h
    refine fx_call [.int a2, .int (1 : Int32), .int (40 : Int32)] [] rfl (by decide) rfl rfl rfl rfl rfl (Nat.le_of_ble_eq_true rfl) rfl (v_X_within  e_q2) ?_
    by_cases c_2 : q2 = 0
    · replace h := (if_pos c_2).symm.trans h
      refine fx_ifeq_j rfl rfl c_2 ?_
      refine fx_const rfl (show Int32.ofInt (-1) = (-1 : Int32) by decide) ?_
      obtain rfl := Option.some.inj h
      exact fx_ret rfl rfl
    · replace h := (if_neg c_2).symm.trans h
      refine fx_ifeq_s rfl c_2 ?_
      refine fx_iload rfl rfl ?_
      refine fx_const rfl (show Int32.ofInt 0 = (0 : Int32) by decide) ?_
      refine fx_const rfl (show Int32.ofInt 1 = (1 : Int32) by decide) ?_
      obtain ⟨q3, e_q3, h⟩ := fx_bd h
      refine fx_call [.int a3, .int (0 : Int32), .int (1 : Int32)] [] rfl (by decide) rfl rfl rfl rfl rfl (Nat.le_of_ble_eq_true rfl) rfl (v_X_within  e_q3) ?_
      by_cases c_3 : q3 = 0
      · replace h := (if_pos c_3).symm.trans h
        refine fx_ifne_s rfl c_3 ?_
        refine fx_const rfl (show Int32.ofInt (-1) = (-1 : Int32) by decide) ?_
        obtain rfl := Option.some.inj h
        exact fx_ret rfl rfl
      · replace h := (if_neg c_3).symm.trans h
        refine fx_ifne_j rfl rfl c_3 ?_
        refine fx_aload rfl rfl ?_
        refine fx_getV rfl h0.1 rfl rfl ?_
        refine fx_aload rfl rfl ?_
        refine fx_getV rfl h0.1 rfl rfl ?_
        obtain ⟨q4, e_q4, h⟩ := fx_bd h
        refine fx_call [.ref 29, .ref 24] [] rfl (by decide) rfl rfl rfl rfl rfl (Nat.le_of_ble_eq_true rfl) (fx_rcv h0.2.2.2.2.2.1.1 rfl) (v_S_become h0.2.2.2.2.2.1 h0.2.2.2.2.1 e_q4) ?_
        refine fx_const rfl (show Int32.ofInt 0 = (0 : Int32) by decide) ?_
        refine fx_istore rfl rfl ?_
        refine v_X_decade_46 h0 (fun M_8 b4_8 h => ?_) fx_FU _ _ h
        refine fx_iload rfl rfl ?_
        by_cases c_5 : a3 = 0
        · replace h := (if_pos c_5).symm.trans h
          refine fx_ifne_s rfl c_5 ?_
          refine fx_aload rfl rfl ?_
          refine fx_aload rfl rfl ?_
          refine fx_getV rfl h0.1 rfl rfl ?_
          obtain ⟨q9, e_q9, h⟩ := fx_bd h
          refine fx_call [.ref L] [.ref 0] rfl (by decide) rfl rfl rfl rfl rfl (Nat.le_of_ble_eq_true rfl) (fx_rcv h0.2.2.1.1 rfl) (v_L_allWorks h0.2.2.1 e_q9) ?_
          obtain ⟨q10, e_q10, h⟩ := fx_bd h
          refine fx_call [.ref 0, .int q9] [] rfl (by decide) rfl rfl rfl rfl rfl (Nat.le_of_ble_eq_true rfl) (fx_rcv h0.1 rfl) (v_X_worthAhead h0 e_q10) ?_
          refine fx_goto rfl rfl ?_
          obtain rfl := Option.some.inj h
          exact fx_ret rfl rfl
        · replace h := (if_neg c_5).symm.trans h
          refine fx_ifne_j rfl rfl c_5 ?_
          refine fx_aload rfl rfl ?_
          refine fx_aload rfl rfl ?_
          refine fx_getV rfl h0.1 rfl rfl ?_
          obtain ⟨q11, e_q11, h⟩ := fx_bd h
          refine fx_call [.ref L] [.ref 0] rfl (by decide) rfl rfl rfl rfl rfl (Nat.le_of_ble_eq_true rfl) (fx_rcv h0.2.2.1.1 rfl) (v_L_allWorks h0.2.2.1 e_q11) ?_
          obtain ⟨q12, e_q12, h⟩ := fx_bd h
          refine fx_call [.ref 0, .int q11] [] rfl (by decide) rfl rfl rfl rfl rfl (Nat.le_of_ble_eq_true rfl) (fx_rcv h0.1 rfl) (v_X_forgottenAhead h0 e_q12) ?_
          obtain rfl := Option.some.inj h
          exact fx_ret rfl rfl

def g_X_keep (M : fv_M) (L : Nat) (D : Nat) : Option (Int32 × fv_M) := if (M 76 1) < (2 : Int32) then ((g_F_shelve M 76 2 24).bind fun q1 => some ((q1 76 1), q1)) else (some ((-3 : Int32), M))
theorem v_X_keep {X : fv_X} {sh : fv_Sh} {k : Nat × Nat} {M : fv_M} {L : Nat} {D : Nat} {r : Int32 × fv_M} (h0 : fx_atX sh L D) (h : g_X_keep M L D = some r) : fv_Rn X 78 0 [some (.ref 0)] [] k sh M (some (.int r.1), sh, r.2) := by
  unfold g_X_keep at h
  refine fx_aload rfl rfl ?_
  refine fx_getV rfl h0.1 rfl rfl ?_
  refine fx_getI rfl h0.2.2.2.2.2.2.2.1.1 rfl rfl ?_
  refine fx_const rfl (show Int32.ofInt 2 = (2 : Int32) by decide) ?_
  by_cases c_1 : (M 76 1) < (2 : Int32)
  · replace h := (if_pos c_1).symm.trans h
    refine fx_iclt_j rfl rfl c_1 ?_
    refine fx_aload rfl rfl ?_
    refine fx_getV rfl h0.1 rfl rfl ?_
    refine fx_aload rfl rfl ?_
    refine fx_getV rfl h0.1 rfl rfl ?_
    obtain ⟨q1, e_q1, h⟩ := fx_bd h
    refine fx_call [.ref 76, .ref 24] [] rfl (by decide) rfl rfl rfl rfl rfl (Nat.le_of_ble_eq_true rfl) (fx_rcv h0.2.2.2.2.2.2.2.1.1 rfl) (v_F_shelve h0.2.2.2.2.2.2.2.1 h0.2.2.2.2.1 e_q1) ?_
    refine fx_aload rfl rfl ?_
    refine fx_getV rfl h0.1 rfl rfl ?_
    refine fx_getI rfl h0.2.2.2.2.2.2.2.1.1 rfl rfl ?_
    obtain rfl := Option.some.inj h
    exact fx_ret rfl rfl
  · replace h := (if_neg c_1).symm.trans h
    refine fx_iclt_s rfl c_1 ?_
    refine fx_const rfl (show Int32.ofInt (-3) = (-3 : Int32) by decide) ?_
    obtain rfl := Option.some.inj h
    exact fx_ret rfl rfl

def g_X_back (M : fv_M) (L : Nat) (D : Nat) : Option (Int32 × fv_M) := (g_F_takeInto M 76 2 24).bind fun q1 => if q1.1 = 0 then (some ((-2 : Int32), q1.2)) else (some (((fv_set q1.2 34 1 (0 : Int32)) 76 1), (fv_set q1.2 34 1 (0 : Int32))))
theorem v_X_back {X : fv_X} {sh : fv_Sh} {k : Nat × Nat} {M : fv_M} {L : Nat} {D : Nat} {r : Int32 × fv_M} (h0 : fx_atX sh L D) (h : g_X_back M L D = some r) : fv_Rn X 79 0 [some (.ref 0)] [] k sh M (some (.int r.1), sh, r.2) := by
  unfold g_X_back at h
  refine fx_aload rfl rfl ?_
  refine fx_getV rfl h0.1 rfl rfl ?_
  refine fx_aload rfl rfl ?_
  refine fx_getV rfl h0.1 rfl rfl ?_
  obtain ⟨q1, e_q1, h⟩ := fx_bd h
  refine fx_call [.ref 76, .ref 24] [] rfl (by decide) rfl rfl rfl rfl rfl (Nat.le_of_ble_eq_true rfl) (fx_rcv h0.2.2.2.2.2.2.2.1.1 rfl) (v_F_takeInto h0.2.2.2.2.2.2.2.1 h0.2.2.2.2.1 e_q1) ?_
  by_cases c_1 : q1.1 = 0
  · replace h := (if_pos c_1).symm.trans h
    refine fx_ifne_s rfl c_1 ?_
    refine fx_const rfl (show Int32.ofInt (-2) = (-2 : Int32) by decide) ?_
    obtain rfl := Option.some.inj h
    exact fx_ret rfl rfl
  · replace h := (if_neg c_1).symm.trans h
    refine fx_ifne_j rfl rfl c_1 ?_
    refine fx_aload rfl rfl ?_
    refine fx_getV rfl h0.1 rfl rfl ?_
    refine fx_const rfl (show Int32.ofInt 0 = (0 : Int32) by decide) ?_
    refine fx_putI rfl h0.2.2.2.2.2.2.1.1 rfl rfl rfl ?_
    refine fx_aload rfl rfl ?_
    refine fx_getV rfl h0.1 rfl rfl ?_
    refine fx_getI rfl h0.2.2.2.2.2.2.2.1.1 rfl rfl ?_
    obtain rfl := Option.some.inj h
    exact fx_ret rfl rfl

theorem v_sw_X_count (x : Int32) (h0 : ¬ x = (0 : Int32)) (h1 : ¬ x = (1 : Int32)) (h2 : ¬ x = (2 : Int32)) (h3 : ¬ x = (3 : Int32)) (h4 : ¬ x = (4 : Int32)) (h5 : ¬ x = (5 : Int32)) (h6 : ¬ x = (6 : Int32)) (h7 : ¬ x = (7 : Int32)) (h8 : ¬ x = (8 : Int32)) (h9 : ¬ x = (9 : Int32)) : fv_tgt 139 0 9 #[56, 64, 72, 80, 88, 96, 107, 115, 123, 131] x = some 139 := by
  unfold fv_tgt
  split
  · rfl
  · rename_i hx
    rcases (by omega : x.toInt = 0 ∨ x.toInt = 1 ∨ x.toInt = 2 ∨ x.toInt = 3 ∨ x.toInt = 4 ∨ x.toInt = 5 ∨ x.toInt = 6 ∨ x.toInt = 7 ∨ x.toInt = 8 ∨ x.toInt = 9) with e | e | e | e | e | e | e | e | e | e
    · exact absurd (Int32.toInt_inj.mp (e.trans (show (0 : Int) = ((0 : Int32)).toInt by decide))) h0
    · exact absurd (Int32.toInt_inj.mp (e.trans (show (1 : Int) = ((1 : Int32)).toInt by decide))) h1
    · exact absurd (Int32.toInt_inj.mp (e.trans (show (2 : Int) = ((2 : Int32)).toInt by decide))) h2
    · exact absurd (Int32.toInt_inj.mp (e.trans (show (3 : Int) = ((3 : Int32)).toInt by decide))) h3
    · exact absurd (Int32.toInt_inj.mp (e.trans (show (4 : Int) = ((4 : Int32)).toInt by decide))) h4
    · exact absurd (Int32.toInt_inj.mp (e.trans (show (5 : Int) = ((5 : Int32)).toInt by decide))) h5
    · exact absurd (Int32.toInt_inj.mp (e.trans (show (6 : Int) = ((6 : Int32)).toInt by decide))) h6
    · exact absurd (Int32.toInt_inj.mp (e.trans (show (7 : Int) = ((7 : Int32)).toInt by decide))) h7
    · exact absurd (Int32.toInt_inj.mp (e.trans (show (8 : Int) = ((8 : Int32)).toInt by decide))) h8
    · exact absurd (Int32.toInt_inj.mp (e.trans (show (9 : Int) = ((9 : Int32)).toInt by decide))) h9
def g_X_count (M : fv_M) (L : Nat) (D : Nat) (a1 : Int32) : Option (Int32) := if a1 = (0 : Int32) then (some (M L 0)) else (if a1 = (1 : Int32) then (some (M L 1)) else (if a1 = (2 : Int32) then (some (M L 2)) else (if a1 = (3 : Int32) then (some (M L 3)) else (if a1 = (4 : Int32) then (some (M 24 0)) else (if a1 = (5 : Int32) then ((g_X_sumOf M (24 + 1) 24).bind fun q1 => some q1) else (if a1 = (6 : Int32) then (some (M 88 3)) else (if a1 = (7 : Int32) then (some (M 34 1)) else (if a1 = (8 : Int32) then (some (M 76 1)) else (if a1 = (9 : Int32) then (some (M 1 2)) else (some (-1 : Int32)))))))))))
theorem v_X_count {X : fv_X} {sh : fv_Sh} {k : Nat × Nat} {M : fv_M} {L : Nat} {D : Nat} {a1 : Int32} {r : Int32} (h0 : fx_atX sh L D) (h : g_X_count M L D a1 = some r) : fv_Rn X 80 0 [some (.ref 0), some (.int a1)] [] k sh M (some (.int r), sh, M) := by
  unfold g_X_count at h
  refine fx_iload rfl rfl ?_
  by_cases c_1 : a1 = (0 : Int32)
  · replace h := (if_pos c_1).symm.trans h
    refine fx_tsw (t := 56) rfl (by rw [c_1]; rfl) ?_
    refine fx_aload rfl rfl ?_
    refine fx_getV rfl h0.1 rfl rfl ?_
    refine fx_getI rfl h0.2.2.1.1 rfl rfl ?_
    obtain rfl := Option.some.inj h
    exact fx_ret rfl rfl
  · replace h := (if_neg c_1).symm.trans h
    by_cases c_2 : a1 = (1 : Int32)
    · replace h := (if_pos c_2).symm.trans h
      refine fx_tsw (t := 64) rfl (by rw [c_2]; rfl) ?_
      refine fx_aload rfl rfl ?_
      refine fx_getV rfl h0.1 rfl rfl ?_
      refine fx_getI rfl h0.2.2.1.1 rfl rfl ?_
      obtain rfl := Option.some.inj h
      exact fx_ret rfl rfl
    · replace h := (if_neg c_2).symm.trans h
      by_cases c_3 : a1 = (2 : Int32)
      · replace h := (if_pos c_3).symm.trans h
        refine fx_tsw (t := 72) rfl (by rw [c_3]; rfl) ?_
        refine fx_aload rfl rfl ?_
        refine fx_getV rfl h0.1 rfl rfl ?_
        refine fx_getI rfl h0.2.2.1.1 rfl rfl ?_
        obtain rfl := Option.some.inj h
        exact fx_ret rfl rfl
      · replace h := (if_neg c_3).symm.trans h
        by_cases c_4 : a1 = (3 : Int32)
        · replace h := (if_pos c_4).symm.trans h
          refine fx_tsw (t := 80) rfl (by rw [c_4]; rfl) ?_
          refine fx_aload rfl rfl ?_
          refine fx_getV rfl h0.1 rfl rfl ?_
          refine fx_getI rfl h0.2.2.1.1 rfl rfl ?_
          obtain rfl := Option.some.inj h
          exact fx_ret rfl rfl
        · replace h := (if_neg c_4).symm.trans h
          by_cases c_5 : a1 = (4 : Int32)
          · replace h := (if_pos c_5).symm.trans h
            refine fx_tsw (t := 88) rfl (by rw [c_5]; rfl) ?_
            refine fx_aload rfl rfl ?_
            refine fx_getV rfl h0.1 rfl rfl ?_
            refine fx_getI rfl h0.2.2.2.2.1.1 rfl rfl ?_
            obtain rfl := Option.some.inj h
            exact fx_ret rfl rfl
          · replace h := (if_neg c_5).symm.trans h
            by_cases c_6 : a1 = (5 : Int32)
            · replace h := (if_pos c_6).symm.trans h
              refine fx_tsw (t := 96) rfl (by rw [c_6]; rfl) ?_
              refine fx_aload rfl rfl ?_
              refine fx_getV rfl h0.1 rfl rfl ?_
              refine fx_getV rfl h0.2.2.2.2.1.1 rfl rfl ?_
              obtain ⟨q1, e_q1, h⟩ := fx_bd h
              refine fx_call [.ref (24 + 1)] [] rfl (by decide) rfl rfl rfl rfl rfl (Nat.le_of_ble_eq_true rfl) rfl (v_X_sumOf h0.2.2.2.2.1.2.1 e_q1) ?_
              obtain rfl := Option.some.inj h
              exact fx_ret rfl rfl
            · replace h := (if_neg c_6).symm.trans h
              by_cases c_7 : a1 = (6 : Int32)
              · replace h := (if_pos c_7).symm.trans h
                refine fx_tsw (t := 107) rfl (by rw [c_7]; rfl) ?_
                refine fx_aload rfl rfl ?_
                refine fx_getV rfl h0.1 rfl rfl ?_
                refine fx_getI rfl h0.2.2.2.2.2.2.2.2.1.1 rfl rfl ?_
                obtain rfl := Option.some.inj h
                exact fx_ret rfl rfl
              · replace h := (if_neg c_7).symm.trans h
                by_cases c_8 : a1 = (7 : Int32)
                · replace h := (if_pos c_8).symm.trans h
                  refine fx_tsw (t := 115) rfl (by rw [c_8]; rfl) ?_
                  refine fx_aload rfl rfl ?_
                  refine fx_getV rfl h0.1 rfl rfl ?_
                  refine fx_getI rfl h0.2.2.2.2.2.2.1.1 rfl rfl ?_
                  obtain rfl := Option.some.inj h
                  exact fx_ret rfl rfl
                · replace h := (if_neg c_8).symm.trans h
                  by_cases c_9 : a1 = (8 : Int32)
                  · replace h := (if_pos c_9).symm.trans h
                    refine fx_tsw (t := 123) rfl (by rw [c_9]; rfl) ?_
                    refine fx_aload rfl rfl ?_
                    refine fx_getV rfl h0.1 rfl rfl ?_
                    refine fx_getI rfl h0.2.2.2.2.2.2.2.1.1 rfl rfl ?_
                    obtain rfl := Option.some.inj h
                    exact fx_ret rfl rfl
                  · replace h := (if_neg c_9).symm.trans h
                    by_cases c_10 : a1 = (9 : Int32)
                    · replace h := (if_pos c_10).symm.trans h
                      refine fx_tsw (t := 131) rfl (by rw [c_10]; rfl) ?_
                      refine fx_aload rfl rfl ?_
                      refine fx_getV rfl h0.1 rfl rfl ?_
                      refine fx_getI rfl h0.2.1.1 rfl rfl ?_
                      obtain rfl := Option.some.inj h
                      exact fx_ret rfl rfl
                    · replace h := (if_neg c_10).symm.trans h
                      refine fx_tsw rfl (v_sw_X_count a1 c_1 c_2 c_3 c_4 c_5 c_6 c_7 c_8 c_9 c_10) ?_
                      refine fx_const rfl (show Int32.ofInt (-1) = (-1 : Int32) by decide) ?_
                      obtain rfl := Option.some.inj h
                      exact fx_ret rfl rfl
