/-! methods as functions (by program gen/p20.py) -/
def g_X_put (M : fv_M) (c0 : Nat) (n0 : Nat) (a1 : Int32) (a2 : Int32) : Option (fv_M) := if a1 < 0 then (some M) else (if (Int32.ofNat n0) ≤ a1 then (some M) else (fx_ck (a1 < 0 ∨ n0 ≤ (a1).toNatClampNeg) (some (fv_set M c0 (a1).toNatClampNeg a2))))
theorem v_X_put {X : fv_X} {sh : fv_Sh} {k : Nat × Nat} {M : fv_M} {c0 : Nat} {n0 : Nat} {a1 : Int32} {a2 : Int32} {r : fv_M} (h0 : sh[c0]? = some (.inl (0, n0))) (h : g_X_put M c0 n0 a1 a2 = some r) : fv_Rn X 100 0 [some (.ref c0), some (.int a1), some (.int a2)] [] k sh M (none, sh, r) := by
  unfold g_X_put at h
  refine fx_iload rfl rfl ?_
  by_cases c_1 : a1 < 0
  · replace h := (if_pos c_1).symm.trans h
    refine fx_iflt_j rfl rfl c_1 ?_
    obtain rfl := Option.some.inj h
    exact fx_vret rfl rfl
  · replace h := (if_neg c_1).symm.trans h
    refine fx_iflt_s rfl c_1 ?_
    refine fx_iload rfl rfl ?_
    refine fx_aload rfl rfl ?_
    refine fx_alen rfl (fun z => absurd z.1 (by decide)) h0 (by decide) rfl ?_
    by_cases c_2 : (Int32.ofNat n0) ≤ a1
    · replace h := (if_pos c_2).symm.trans h
      refine fx_icge_j rfl rfl c_2 ?_
      obtain rfl := Option.some.inj h
      exact fx_vret rfl rfl
    · replace h := (if_neg c_2).symm.trans h
      refine fx_icge_s rfl c_2 ?_
      refine fx_aload rfl rfl ?_
      refine fx_iload rfl rfl ?_
      refine fx_iload rfl rfl ?_
      obtain ⟨c_3, h⟩ := fx_ck_some h
      refine fx_iastore rfl h0 c_3 ?_
      obtain rfl := Option.some.inj h
      exact fx_vret rfl rfl

def g_H_add (M : fv_M) (i0 : Nat) (a1 : Int32) (a2 : Int32) (a3 : Int32) : Option (Int32 × fv_M) := if (M i0 3) < 0 then (some ((0 : Int32), M)) else (if (M i0 3) < (6 : Int32) then ((g_X_put M (i0 + 1) 6 (M i0 3) a1).bind fun q1 => (g_X_put q1 (i0 + 2) 6 (q1 i0 3) a2).bind fun q2 => fx_ck ((q2 i0 3) < 0 ∨ 6 ≤ ((q2 i0 3)).toNatClampNeg) (some ((1 : Int32), (fv_set (fv_set q2 (i0 + 3) ((q2 i0 3)).toNatClampNeg (vp_nar .boolean a3)) i0 3 (((fv_set q2 (i0 + 3) ((q2 i0 3)).toNatClampNeg (vp_nar .boolean a3)) i0 3) + (1 : Int32)))))) else (some ((0 : Int32), M)))
theorem v_H_add {X : fv_X} {sh : fv_Sh} {k : Nat × Nat} {M : fv_M} {i0 : Nat} {a1 : Int32} {a2 : Int32} {a3 : Int32} {r : Int32 × fv_M} (h0 : fx_atH sh i0) (h : g_H_add M i0 a1 a2 a3 = some r) : fv_Rn X 1 0 [some (.ref i0), some (.int a1), some (.int a2), some (.int a3)] [] k sh M (some (.int r.1), sh, r.2) := by
  unfold g_H_add at h
  refine fx_aload rfl rfl ?_
  refine fx_getI rfl h0.1 rfl rfl ?_
  by_cases c_1 : (M i0 3) < 0
  · replace h := (if_pos c_1).symm.trans h
    refine fx_iflt_j rfl rfl c_1 ?_
    refine fx_const rfl (show Int32.ofInt 0 = (0 : Int32) by decide) ?_
    obtain rfl := Option.some.inj h
    exact fx_ret rfl rfl
  · replace h := (if_neg c_1).symm.trans h
    refine fx_iflt_s rfl c_1 ?_
    refine fx_aload rfl rfl ?_
    refine fx_getI rfl h0.1 rfl rfl ?_
    refine fx_aload rfl rfl ?_
    refine fx_getV rfl h0.1 rfl rfl ?_
    refine fx_alen rfl (fun z => absurd z.1 (by decide)) h0.2.2.2 (by decide) (show Int32.ofNat 6 = (6 : Int32) by decide) ?_
    by_cases c_2 : (M i0 3) < (6 : Int32)
    · replace h := (if_pos c_2).symm.trans h
      refine fx_iclt_j rfl rfl c_2 ?_
      refine fx_aload rfl rfl ?_
      refine fx_getV rfl h0.1 rfl rfl ?_
      refine fx_aload rfl rfl ?_
      refine fx_getI rfl h0.1 rfl rfl ?_
      refine fx_iload rfl rfl ?_
      obtain ⟨q1, e_q1, h⟩ := fx_bd h
      refine fx_call [.ref (i0 + 1), .int (M i0 3), .int a1] [] rfl (by decide) rfl rfl rfl rfl rfl (Nat.le_of_ble_eq_true rfl) rfl (v_X_put h0.2.1 e_q1) ?_
      refine fx_aload rfl rfl ?_
      refine fx_getV rfl h0.1 rfl rfl ?_
      refine fx_aload rfl rfl ?_
      refine fx_getI rfl h0.1 rfl rfl ?_
      refine fx_iload rfl rfl ?_
      obtain ⟨q2, e_q2, h⟩ := fx_bd h
      refine fx_call [.ref (i0 + 2), .int (q1 i0 3), .int a2] [] rfl (by decide) rfl rfl rfl rfl rfl (Nat.le_of_ble_eq_true rfl) rfl (v_X_put h0.2.2.1 e_q2) ?_
      refine fx_aload rfl rfl ?_
      refine fx_getV rfl h0.1 rfl rfl ?_
      refine fx_aload rfl rfl ?_
      refine fx_getI rfl h0.1 rfl rfl ?_
      refine fx_iload rfl rfl ?_
      obtain ⟨c_3, h⟩ := fx_ck_some h
      refine fx_bastore rfl h0.2.2.2 c_3 ?_
      refine fx_aload rfl rfl ?_
      refine fx_dup rfl rfl ?_
      refine fx_getI rfl h0.1 rfl rfl ?_
      refine fx_const rfl (show Int32.ofInt 1 = (1 : Int32) by decide) ?_
      refine fx_iadd rfl ?_
      refine fx_putI rfl h0.1 rfl rfl rfl ?_
      refine fx_const rfl (show Int32.ofInt 1 = (1 : Int32) by decide) ?_
      obtain rfl := Option.some.inj h
      exact fx_ret rfl rfl
    · replace h := (if_neg c_2).symm.trans h
      refine fx_iclt_s rfl c_2 ?_
      refine fx_const rfl (show Int32.ofInt 0 = (0 : Int32) by decide) ?_
      obtain rfl := Option.some.inj h
      exact fx_ret rfl rfl

def g_X_at (M : fv_M) (c0 : Nat) (n0 : Nat) (a1 : Int32) : Option (Int32) := if a1 < 0 then (some (0 : Int32)) else (if (Int32.ofNat n0) ≤ a1 then (some (0 : Int32)) else (fx_ck (a1 < 0 ∨ n0 ≤ (a1).toNatClampNeg) (some (M c0 (a1).toNatClampNeg))))
theorem v_X_at {X : fv_X} {sh : fv_Sh} {k : Nat × Nat} {M : fv_M} {c0 : Nat} {n0 : Nat} {a1 : Int32} {r : Int32} (h0 : sh[c0]? = some (.inl (0, n0))) (h : g_X_at M c0 n0 a1 = some r) : fv_Rn X 99 0 [some (.ref c0), some (.int a1)] [] k sh M (some (.int r), sh, M) := by
  unfold g_X_at at h
  refine fx_iload rfl rfl ?_
  by_cases c_1 : a1 < 0
  · replace h := (if_pos c_1).symm.trans h
    refine fx_iflt_j rfl rfl c_1 ?_
    refine fx_const rfl (show Int32.ofInt 0 = (0 : Int32) by decide) ?_
    obtain rfl := Option.some.inj h
    exact fx_ret rfl rfl
  · replace h := (if_neg c_1).symm.trans h
    refine fx_iflt_s rfl c_1 ?_
    refine fx_iload rfl rfl ?_
    refine fx_aload rfl rfl ?_
    refine fx_alen rfl (fun z => absurd z.1 (by decide)) h0 (by decide) rfl ?_
    by_cases c_2 : (Int32.ofNat n0) ≤ a1
    · replace h := (if_pos c_2).symm.trans h
      refine fx_icge_j rfl rfl c_2 ?_
      refine fx_const rfl (show Int32.ofInt 0 = (0 : Int32) by decide) ?_
      obtain rfl := Option.some.inj h
      exact fx_ret rfl rfl
    · replace h := (if_neg c_2).symm.trans h
      refine fx_icge_s rfl c_2 ?_
      refine fx_aload rfl rfl ?_
      refine fx_iload rfl rfl ?_
      obtain ⟨c_3, h⟩ := fx_ck_some h
      refine fx_iaload rfl (fun z => absurd z.1 (by decide)) h0 c_3 ?_
      refine fx_goto rfl rfl ?_
      obtain rfl := Option.some.inj h
      exact fx_ret rfl rfl

def g_H_latestSeason_4 (M : fv_M) (i0 : Nat) : Nat → Int32 → Int32 → (Int32 → Int32 → Option (Int32)) → Option (Int32)
  | 0, _, _, _ => none
  | n + 1, a1, a2, kk => if (M i0 3) ≤ a2 then (kk a1 a2) else ((g_X_at M (i0 + 2) 6 a2).bind fun q1 => g_H_latestSeason_4 M i0 n (if a1 < q1 then q1 else a1) (a2 + (1 : Int32)) kk)
theorem v_H_latestSeason_4 {X : fv_X} {sh : fv_Sh} {k : Nat × Nat} {M : fv_M} {i0 : Nat} {r : Int32} {kk : Int32 → Int32 → Option (Int32)} (h0 : fx_atH sh i0) (K : ∀ (a1 a2 : Int32), kk a1 a2 = some r → fv_Rn X 2 31 [some (.ref i0), some (.int a1), some (.int a2)] [] k sh M (some (.int r), sh, M)) : ∀ (n : Nat) (a1 a2 : Int32), g_H_latestSeason_4 M i0 n a1 a2 kk = some r → fv_Rn X 2 4 [some (.ref i0), some (.int a1), some (.int a2)] [] k sh M (some (.int r), sh, M) := by
  intro n
  induction n with
  | zero =>
    intro a1 a2 h
    replace h : (none : Option (Int32)) = some r := h
    cases h
  | succ n ih =>
    intro a1 a2 h
    rw [g_H_latestSeason_4] at h
    refine fx_iload rfl rfl ?_
    refine fx_aload rfl rfl ?_
    refine fx_getI rfl h0.1 rfl rfl ?_
    by_cases c_1 : (M i0 3) ≤ a2
    · replace h := (if_pos c_1).symm.trans h
      refine fx_icge_j rfl rfl c_1 ?_
      exact K _ _ h
    · replace h := (if_neg c_1).symm.trans h
      refine fx_icge_s rfl c_1 ?_
      refine fx_iload rfl rfl ?_
      refine fx_aload rfl rfl ?_
      refine fx_getV rfl h0.1 rfl rfl ?_
      refine fx_iload rfl rfl ?_
      obtain ⟨q1, e_q1, h⟩ := fx_bd h
      refine fx_call [.ref (i0 + 2), .int a2] [.int a1] rfl (by decide) rfl rfl rfl rfl rfl (Nat.le_of_ble_eq_true rfl) rfl (v_X_at h0.2.2.1 e_q1) ?_
      refine fx_dadd rfl (Nat.le_of_ble_eq_true rfl) ?_
      refine fx_istore rfl rfl ?_
      refine fx_iinc rfl (show Int32.ofInt 1 = (1 : Int32) by decide) rfl rfl ?_
      refine fx_back rfl rfl rfl ?_
      exact ih _ _ h
def g_H_latestSeason (M : fv_M) (i0 : Nat) : Option (Int32) := g_H_latestSeason_4 M i0 fx_FU (0 : Int32) (0 : Int32) (fun b1_2 b2_2 => some b1_2)
theorem v_H_latestSeason {X : fv_X} {sh : fv_Sh} {k : Nat × Nat} {M : fv_M} {i0 : Nat} {r : Int32} (h0 : fx_atH sh i0) (h : g_H_latestSeason M i0 = some r) : fv_Rn X 2 0 [some (.ref i0)] [] k sh M (some (.int r), sh, M) := by
  unfold g_H_latestSeason at h
  refine fx_const rfl (show Int32.ofInt 0 = (0 : Int32) by decide) ?_
  refine fx_istore rfl rfl ?_
  refine fx_const rfl (show Int32.ofInt 0 = (0 : Int32) by decide) ?_
  refine fx_istore rfl rfl ?_
  refine v_H_latestSeason_4 h0 (fun b1_2 b2_2 h => ?_) fx_FU _ _ h
  refine fx_iload rfl rfl ?_
  obtain rfl := Option.some.inj h
  exact fx_ret rfl rfl

def g_X_has (M : fv_M) (a0 : Int32) (a1 : Int32) : Option (Int32) := if ((a0 >>> (a1 &&& 31)) &&& (1 : Int32)) = (1 : Int32) then (some (1 : Int32)) else (some (0 : Int32))
theorem v_X_has {X : fv_X} {sh : fv_Sh} {k : Nat × Nat} {M : fv_M} {a0 : Int32} {a1 : Int32} {r : Int32}  (h : g_X_has M a0 a1 = some r) : fv_Rn X 97 0 [some (.int a0), some (.int a1)] [] k sh M (some (.int r), sh, M) := by
  unfold g_X_has at h
  refine fx_iload rfl rfl ?_
  refine fx_iload rfl rfl ?_
  refine fx_ishr rfl ?_
  refine fx_const rfl (show Int32.ofInt 1 = (1 : Int32) by decide) ?_
  refine fx_iand rfl ?_
  refine fx_const rfl (show Int32.ofInt 1 = (1 : Int32) by decide) ?_
  by_cases c_1 : ((a0 >>> (a1 &&& 31)) &&& (1 : Int32)) = (1 : Int32)
  · replace h := (if_pos c_1).symm.trans h
    refine fx_icne_s rfl c_1 ?_
    refine fx_const rfl (show Int32.ofInt 1 = (1 : Int32) by decide) ?_
    refine fx_goto rfl rfl ?_
    obtain rfl := Option.some.inj h
    exact fx_ret rfl rfl
  · replace h := (if_neg c_1).symm.trans h
    refine fx_icne_j rfl rfl c_1 ?_
    refine fx_const rfl (show Int32.ofInt 0 = (0 : Int32) by decide) ?_
    obtain rfl := Option.some.inj h
    exact fx_ret rfl rfl

def g_H_agrees_2 (M : fv_M) (i0 : Nat) (a1 : Int32) (a2 : Int32) : Nat → Int32 → (Int32 → Option (Int32)) → Option (Int32)
  | 0, _, _ => none
  | n + 1, a3, kk => if (M i0 3) ≤ a3 then (kk a3) else (if (6 : Int32) ≤ a3 then (kk a3) else ((g_X_at M (i0 + 2) 6 a3).bind fun q1 => if q1 = a1 then ((g_X_at M (i0 + 1) 6 a3).bind fun q2 => (g_X_has M a2 q2).bind fun q3 => fx_ck (a3 < 0 ∨ 6 ≤ (a3).toNatClampNeg) (if q3 = (M (i0 + 3) (a3).toNatClampNeg) then (g_H_agrees_2 M i0 a1 a2 n (a3 + (1 : Int32)) kk) else (some (0 : Int32)))) else (g_H_agrees_2 M i0 a1 a2 n (a3 + (1 : Int32)) kk)))
theorem v_H_agrees_2 {X : fv_X} {sh : fv_Sh} {k : Nat × Nat} {M : fv_M} {i0 : Nat} {a1 : Int32} {a2 : Int32} {r : Int32} {kk : Int32 → Option (Int32)} (h0 : fx_atH sh i0) (K : ∀ (a3 : Int32), kk a3 = some r → fv_Rn X 3 60 [some (.ref i0), some (.int a1), some (.int a2), some (.int a3)] [] k sh M (some (.int r), sh, M)) : ∀ (n : Nat) (a3 : Int32), g_H_agrees_2 M i0 a1 a2 n a3 kk = some r → fv_Rn X 3 2 [some (.ref i0), some (.int a1), some (.int a2), some (.int a3)] [] k sh M (some (.int r), sh, M) := by
  intro n
  induction n with
  | zero =>
    intro a3 h
    replace h : (none : Option (Int32)) = some r := h
    cases h
  | succ n ih =>
    intro a3 h
    rw [g_H_agrees_2] at h
    refine fx_iload rfl rfl ?_
    refine fx_aload rfl rfl ?_
    refine fx_getI rfl h0.1 rfl rfl ?_
    by_cases c_1 : (M i0 3) ≤ a3
    · replace h := (if_pos c_1).symm.trans h
      refine fx_icge_j rfl rfl c_1 ?_
      exact K _ h
    · replace h := (if_neg c_1).symm.trans h
      refine fx_icge_s rfl c_1 ?_
      refine fx_iload rfl rfl ?_
      refine fx_aload rfl rfl ?_
      refine fx_getV rfl h0.1 rfl rfl ?_
      refine fx_alen rfl (fun z => absurd z.1 (by decide)) h0.2.2.2 (by decide) (show Int32.ofNat 6 = (6 : Int32) by decide) ?_
      by_cases c_2 : (6 : Int32) ≤ a3
      · replace h := (if_pos c_2).symm.trans h
        refine fx_icge_j rfl rfl c_2 ?_
        exact K _ h
      · replace h := (if_neg c_2).symm.trans h
        refine fx_icge_s rfl c_2 ?_
        refine fx_aload rfl rfl ?_
        refine fx_getV rfl h0.1 rfl rfl ?_
        refine fx_iload rfl rfl ?_
        obtain ⟨q1, e_q1, h⟩ := fx_bd h
        refine fx_call [.ref (i0 + 2), .int a3] [] rfl (by decide) rfl rfl rfl rfl rfl (Nat.le_of_ble_eq_true rfl) rfl (v_X_at h0.2.2.1 e_q1) ?_
        refine fx_iload rfl rfl ?_
        by_cases c_3 : q1 = a1
        · replace h := (if_pos c_3).symm.trans h
          refine fx_icne_s rfl c_3 ?_
          refine fx_iload rfl rfl ?_
          refine fx_aload rfl rfl ?_
          refine fx_getV rfl h0.1 rfl rfl ?_
          refine fx_iload rfl rfl ?_
          obtain ⟨q2, e_q2, h⟩ := fx_bd h
          refine fx_call [.ref (i0 + 1), .int a3] [.int a2] rfl (by decide) rfl rfl rfl rfl rfl (Nat.le_of_ble_eq_true rfl) rfl (v_X_at h0.2.1 e_q2) ?_
          obtain ⟨q3, e_q3, h⟩ := fx_bd h
          refine fx_call [.int a2, .int q2] [] rfl (by decide) rfl rfl rfl rfl rfl (Nat.le_of_ble_eq_true rfl) rfl (v_X_has  e_q3) ?_
          refine fx_aload rfl rfl ?_
          refine fx_getV rfl h0.1 rfl rfl ?_
          refine fx_iload rfl rfl ?_
          obtain ⟨c_4, h⟩ := fx_ck_some h
          refine fx_baload rfl h0.2.2.2 c_4 ?_
          by_cases c_5 : q3 = (M (i0 + 3) (a3).toNatClampNeg)
          · replace h := (if_pos c_5).symm.trans h
            refine fx_iceq_j rfl rfl c_5 ?_
            refine fx_iinc rfl (show Int32.ofInt 1 = (1 : Int32) by decide) rfl rfl ?_
            refine fx_back rfl rfl rfl ?_
            exact ih _ h
          · replace h := (if_neg c_5).symm.trans h
            refine fx_iceq_s rfl c_5 ?_
            refine fx_const rfl (show Int32.ofInt 0 = (0 : Int32) by decide) ?_
            obtain rfl := Option.some.inj h
            exact fx_ret rfl rfl
        · replace h := (if_neg c_3).symm.trans h
          refine fx_icne_j rfl rfl c_3 ?_
          refine fx_iinc rfl (show Int32.ofInt 1 = (1 : Int32) by decide) rfl rfl ?_
          refine fx_back rfl rfl rfl ?_
          exact ih _ h
def g_H_agrees (M : fv_M) (i0 : Nat) (a1 : Int32) (a2 : Int32) : Option (Int32) := g_H_agrees_2 M i0 a1 a2 fx_FU (0 : Int32) (fun b3_4 => some (1 : Int32))
theorem v_H_agrees {X : fv_X} {sh : fv_Sh} {k : Nat × Nat} {M : fv_M} {i0 : Nat} {a1 : Int32} {a2 : Int32} {r : Int32} (h0 : fx_atH sh i0) (h : g_H_agrees M i0 a1 a2 = some r) : fv_Rn X 3 0 [some (.ref i0), some (.int a1), some (.int a2)] [] k sh M (some (.int r), sh, M) := by
  unfold g_H_agrees at h
  refine fx_const rfl (show Int32.ofInt 0 = (0 : Int32) by decide) ?_
  refine fx_istore rfl rfl ?_
  refine v_H_agrees_2 h0 (fun b3_4 h => ?_) fx_FU _ h
  refine fx_const rfl (show Int32.ofInt 1 = (1 : Int32) by decide) ?_
  obtain rfl := Option.some.inj h
  exact fx_ret rfl rfl

def g_X_fill_2 (c0 : Nat) (n0 : Nat) (a1 : Int32) : Nat → fv_M → Int32 → (fv_M → Int32 → Option (fv_M)) → Option (fv_M)
  | 0, _, _, _ => none
  | n + 1, M, a2, kk => if (Int32.ofNat n0) ≤ a2 then (kk M a2) else (fx_ck (a2 < 0 ∨ n0 ≤ (a2).toNatClampNeg) (g_X_fill_2 c0 n0 a1 n (fv_set M c0 (a2).toNatClampNeg a1) (a2 + (1 : Int32)) kk))
theorem v_X_fill_2 {X : fv_X} {sh : fv_Sh} {k : Nat × Nat} {c0 : Nat} {n0 : Nat} {a1 : Int32} {r : fv_M} {kk : fv_M → Int32 → Option (fv_M)} (h0 : sh[c0]? = some (.inl (0, n0))) (K : ∀ (M : fv_M) (a2 : Int32), kk M a2 = some r → fv_Rn X 101 18 [some (.ref c0), some (.int a1), some (.int a2)] [] k sh M (none, sh, r)) : ∀ (n : Nat) (M : fv_M) (a2 : Int32), g_X_fill_2 c0 n0 a1 n M a2 kk = some r → fv_Rn X 101 2 [some (.ref c0), some (.int a1), some (.int a2)] [] k sh M (none, sh, r) := by
  intro n
  induction n with
  | zero =>
    intro M a2 h
    replace h : (none : Option (fv_M)) = some r := h
    cases h
  | succ n ih =>
    intro M a2 h
    rw [g_X_fill_2] at h
    refine fx_iload rfl rfl ?_
    refine fx_aload rfl rfl ?_
    refine fx_alen rfl (fun z => absurd z.1 (by decide)) h0 (by decide) rfl ?_
    by_cases c_1 : (Int32.ofNat n0) ≤ a2
    · replace h := (if_pos c_1).symm.trans h
      refine fx_icge_j rfl rfl c_1 ?_
      exact K _ _ h
    · replace h := (if_neg c_1).symm.trans h
      refine fx_icge_s rfl c_1 ?_
      refine fx_aload rfl rfl ?_
      refine fx_iload rfl rfl ?_
      refine fx_iload rfl rfl ?_
      obtain ⟨c_2, h⟩ := fx_ck_some h
      refine fx_iastore rfl h0 c_2 ?_
      refine fx_iinc rfl (show Int32.ofInt 1 = (1 : Int32) by decide) rfl rfl ?_
      refine fx_back rfl rfl rfl ?_
      exact ih _ _ h
def g_X_fill (M : fv_M) (c0 : Nat) (n0 : Nat) (a1 : Int32) : Option (fv_M) := g_X_fill_2 c0 n0 a1 fx_FU M (0 : Int32) (fun M_1 b2_1 => some M_1)
theorem v_X_fill {X : fv_X} {sh : fv_Sh} {k : Nat × Nat} {M : fv_M} {c0 : Nat} {n0 : Nat} {a1 : Int32} {r : fv_M} (h0 : sh[c0]? = some (.inl (0, n0))) (h : g_X_fill M c0 n0 a1 = some r) : fv_Rn X 101 0 [some (.ref c0), some (.int a1)] [] k sh M (none, sh, r) := by
  unfold g_X_fill at h
  refine fx_const rfl (show Int32.ofInt 0 = (0 : Int32) by decide) ?_
  refine fx_istore rfl rfl ?_
  refine v_X_fill_2 h0 (fun M_1 b2_1 h => ?_) fx_FU _ _ h
  obtain rfl := Option.some.inj h
  exact fx_vret rfl rfl

def g_L_clear (M : fv_M) (i0 : Nat) : Option (fv_M) := (g_X_fill (fv_set (fv_set (fv_set (fv_set M i0 0 (0 : Int32)) i0 1 (0 : Int32)) i0 2 (0 : Int32)) i0 3 (0 : Int32)) (i0 + 6) 24 (0 : Int32)).bind fun q1 => some q1
theorem v_L_clear {X : fv_X} {sh : fv_Sh} {k : Nat × Nat} {M : fv_M} {i0 : Nat} {r : fv_M} (h0 : fx_atL sh i0) (h : g_L_clear M i0 = some r) : fv_Rn X 5 0 [some (.ref i0)] [] k sh M (none, sh, r) := by
  unfold g_L_clear at h
  refine fx_aload rfl rfl ?_
  refine fx_const rfl (show Int32.ofInt 0 = (0 : Int32) by decide) ?_
  refine fx_putI rfl h0.1 rfl rfl rfl ?_
  refine fx_aload rfl rfl ?_
  refine fx_const rfl (show Int32.ofInt 0 = (0 : Int32) by decide) ?_
  refine fx_putI rfl h0.1 rfl rfl rfl ?_
  refine fx_aload rfl rfl ?_
  refine fx_const rfl (show Int32.ofInt 0 = (0 : Int32) by decide) ?_
  refine fx_putI rfl h0.1 rfl rfl rfl ?_
  refine fx_aload rfl rfl ?_
  refine fx_const rfl (show Int32.ofInt 0 = (0 : Int32) by decide) ?_
  refine fx_putI rfl h0.1 rfl rfl rfl ?_
  refine fx_aload rfl rfl ?_
  refine fx_getV rfl h0.1 rfl rfl ?_
  refine fx_const rfl (show Int32.ofInt 0 = (0 : Int32) by decide) ?_
  obtain ⟨q1, e_q1, h⟩ := fx_bd h
  refine fx_call [.ref (i0 + 6), .int (0 : Int32)] [] rfl (by decide) rfl rfl rfl rfl rfl (Nat.le_of_ble_eq_true rfl) rfl (v_X_fill h0.2.2.2.2.2.2.1 e_q1) ?_
  obtain rfl := Option.some.inj h
  exact fx_vret rfl rfl

def g_X_within (M : fv_M) (a0 : Int32) (a1 : Int32) (a2 : Int32) : Option (Int32) := if a0 < a1 then (some (0 : Int32)) else (if a2 < a0 then (some (0 : Int32)) else (some (1 : Int32)))
theorem v_X_within {X : fv_X} {sh : fv_Sh} {k : Nat × Nat} {M : fv_M} {a0 : Int32} {a1 : Int32} {a2 : Int32} {r : Int32}  (h : g_X_within M a0 a1 a2 = some r) : fv_Rn X 96 0 [some (.int a0), some (.int a1), some (.int a2)] [] k sh M (some (.int r), sh, M) := by
  unfold g_X_within at h
  refine fx_iload rfl rfl ?_
  refine fx_iload rfl rfl ?_
  by_cases c_1 : a0 < a1
  · replace h := (if_pos c_1).symm.trans h
    refine fx_iclt_j rfl rfl c_1 ?_
    refine fx_const rfl (show Int32.ofInt 0 = (0 : Int32) by decide) ?_
    obtain rfl := Option.some.inj h
    exact fx_ret rfl rfl
  · replace h := (if_neg c_1).symm.trans h
    refine fx_iclt_s rfl c_1 ?_
    refine fx_iload rfl rfl ?_
    refine fx_iload rfl rfl ?_
    by_cases c_2 : a2 < a0
    · replace h := (if_pos c_2).symm.trans h
      refine fx_icgt_j rfl rfl c_2 ?_
      refine fx_const rfl (show Int32.ofInt 0 = (0 : Int32) by decide) ?_
      obtain rfl := Option.some.inj h
      exact fx_ret rfl rfl
    · replace h := (if_neg c_2).symm.trans h
      refine fx_icgt_s rfl c_2 ?_
      refine fx_const rfl (show Int32.ofInt 1 = (1 : Int32) by decide) ?_
      refine fx_goto rfl rfl ?_
      obtain rfl := Option.some.inj h
      exact fx_ret rfl rfl

def g_L_addVerb (M : fv_M) (i0 : Nat) (a1 : Int32) (a2 : Int32) : Option (Int32 × fv_M) := if (6 : Int32) ≤ (M i0 0) then (some ((0 : Int32), M)) else ((g_X_within M a1 (0 : Int32) (3 : Int32)).bind fun q1 => if q1 = 0 then (some ((0 : Int32), M)) else ((g_X_within M a2 (0 : Int32) (9 : Int32)).bind fun q2 => if q2 = 0 then (some ((0 : Int32), M)) else ((g_X_put M (i0 + 1) 6 (M i0 0) a1).bind fun q3 => (g_X_put q3 (i0 + 2) 6 (q3 i0 0) a2).bind fun q4 => some ((1 : Int32), (fv_set q4 i0 0 ((q4 i0 0) + (1 : Int32)))))))
theorem v_L_addVerb {X : fv_X} {sh : fv_Sh} {k : Nat × Nat} {M : fv_M} {i0 : Nat} {a1 : Int32} {a2 : Int32} {r : Int32 × fv_M} (h0 : fx_atL sh i0) (h : g_L_addVerb M i0 a1 a2 = some r) : fv_Rn X 6 0 [some (.ref i0), some (.int a1), some (.int a2)] [] k sh M (some (.int r.1), sh, r.2) := by
  unfold g_L_addVerb at h
  refine fx_aload rfl rfl ?_
  refine fx_getI rfl h0.1 rfl rfl ?_
  refine fx_const rfl (show Int32.ofInt 6 = (6 : Int32) by decide) ?_
  by_cases c_1 : (6 : Int32) ≤ (M i0 0)
  · replace h := (if_pos c_1).symm.trans h
    refine fx_icge_j rfl rfl c_1 ?_
    refine fx_const rfl (show Int32.ofInt 0 = (0 : Int32) by decide) ?_
    obtain rfl := Option.some.inj h
    exact fx_ret rfl rfl
  · replace h := (if_neg c_1).symm.trans h
    refine fx_icge_s rfl c_1 ?_
    refine fx_iload rfl rfl ?_
    refine fx_const rfl (show Int32.ofInt 0 = (0 : Int32) by decide) ?_
    refine fx_const rfl (show Int32.ofInt 3 = (3 : Int32) by decide) ?_
    obtain ⟨q1, e_q1, h⟩ := fx_bd h
    refine fx_call [.int a1, .int (0 : Int32), .int (3 : Int32)] [] rfl (by decide) rfl rfl rfl rfl rfl (Nat.le_of_ble_eq_true rfl) rfl (v_X_within  e_q1) ?_
    by_cases c_2 : q1 = 0
    · replace h := (if_pos c_2).symm.trans h
      refine fx_ifeq_j rfl rfl c_2 ?_
      refine fx_const rfl (show Int32.ofInt 0 = (0 : Int32) by decide) ?_
      obtain rfl := Option.some.inj h
      exact fx_ret rfl rfl
    · replace h := (if_neg c_2).symm.trans h
      refine fx_ifeq_s rfl c_2 ?_
      refine fx_iload rfl rfl ?_
      refine fx_const rfl (show Int32.ofInt 0 = (0 : Int32) by decide) ?_
      refine fx_const rfl (show Int32.ofInt 9 = (9 : Int32) by decide) ?_
      obtain ⟨q2, e_q2, h⟩ := fx_bd h
      refine fx_call [.int a2, .int (0 : Int32), .int (9 : Int32)] [] rfl (by decide) rfl rfl rfl rfl rfl (Nat.le_of_ble_eq_true rfl) rfl (v_X_within  e_q2) ?_
      by_cases c_3 : q2 = 0
      · replace h := (if_pos c_3).symm.trans h
        refine fx_ifne_s rfl c_3 ?_
        refine fx_const rfl (show Int32.ofInt 0 = (0 : Int32) by decide) ?_
        obtain rfl := Option.some.inj h
        exact fx_ret rfl rfl
      · replace h := (if_neg c_3).symm.trans h
        refine fx_ifne_j rfl rfl c_3 ?_
        refine fx_aload rfl rfl ?_
        refine fx_getV rfl h0.1 rfl rfl ?_
        refine fx_aload rfl rfl ?_
        refine fx_getI rfl h0.1 rfl rfl ?_
        refine fx_iload rfl rfl ?_
        obtain ⟨q3, e_q3, h⟩ := fx_bd h
        refine fx_call [.ref (i0 + 1), .int (M i0 0), .int a1] [] rfl (by decide) rfl rfl rfl rfl rfl (Nat.le_of_ble_eq_true rfl) rfl (v_X_put h0.2.1 e_q3) ?_
        refine fx_aload rfl rfl ?_
        refine fx_getV rfl h0.1 rfl rfl ?_
        refine fx_aload rfl rfl ?_
        refine fx_getI rfl h0.1 rfl rfl ?_
        refine fx_iload rfl rfl ?_
        obtain ⟨q4, e_q4, h⟩ := fx_bd h
        refine fx_call [.ref (i0 + 2), .int (q3 i0 0), .int a2] [] rfl (by decide) rfl rfl rfl rfl rfl (Nat.le_of_ble_eq_true rfl) rfl (v_X_put h0.2.2.1 e_q4) ?_
        refine fx_aload rfl rfl ?_
        refine fx_dup rfl rfl ?_
        refine fx_getI rfl h0.1 rfl rfl ?_
        refine fx_const rfl (show Int32.ofInt 1 = (1 : Int32) by decide) ?_
        refine fx_iadd rfl ?_
        refine fx_putI rfl h0.1 rfl rfl rfl ?_
        refine fx_const rfl (show Int32.ofInt 1 = (1 : Int32) by decide) ?_
        obtain rfl := Option.some.inj h
        exact fx_ret rfl rfl

def g_L_addNoun (M : fv_M) (i0 : Nat) (a1 : Int32) : Option (Int32 × fv_M) := if (8 : Int32) ≤ (M i0 1) then (some ((0 : Int32), M)) else ((g_X_within M a1 (1 : Int32) (63 : Int32)).bind fun q1 => if q1 = 0 then (some ((0 : Int32), M)) else ((g_X_put M (i0 + 3) 8 (M i0 1) a1).bind fun q2 => some ((1 : Int32), (fv_set q2 i0 1 ((q2 i0 1) + (1 : Int32))))))
theorem v_L_addNoun {X : fv_X} {sh : fv_Sh} {k : Nat × Nat} {M : fv_M} {i0 : Nat} {a1 : Int32} {r : Int32 × fv_M} (h0 : fx_atL sh i0) (h : g_L_addNoun M i0 a1 = some r) : fv_Rn X 7 0 [some (.ref i0), some (.int a1)] [] k sh M (some (.int r.1), sh, r.2) := by
  unfold g_L_addNoun at h
  refine fx_aload rfl rfl ?_
  refine fx_getI rfl h0.1 rfl rfl ?_
  refine fx_const rfl (show Int32.ofInt 8 = (8 : Int32) by decide) ?_
  by_cases c_1 : (8 : Int32) ≤ (M i0 1)
  · replace h := (if_pos c_1).symm.trans h
    refine fx_icge_j rfl rfl c_1 ?_
    refine fx_const rfl (show Int32.ofInt 0 = (0 : Int32) by decide) ?_
    obtain rfl := Option.some.inj h
    exact fx_ret rfl rfl
  · replace h := (if_neg c_1).symm.trans h
    refine fx_icge_s rfl c_1 ?_
    refine fx_iload rfl rfl ?_
    refine fx_const rfl (show Int32.ofInt 1 = (1 : Int32) by decide) ?_
    refine fx_const rfl (show Int32.ofInt 63 = (63 : Int32) by decide) ?_
    obtain ⟨q1, e_q1, h⟩ := fx_bd h
    refine fx_call [.int a1, .int (1 : Int32), .int (63 : Int32)] [] rfl (by decide) rfl rfl rfl rfl rfl (Nat.le_of_ble_eq_true rfl) rfl (v_X_within  e_q1) ?_
    by_cases c_2 : q1 = 0
    · replace h := (if_pos c_2).symm.trans h
      refine fx_ifne_s rfl c_2 ?_
      refine fx_const rfl (show Int32.ofInt 0 = (0 : Int32) by decide) ?_
      obtain rfl := Option.some.inj h
      exact fx_ret rfl rfl
    · replace h := (if_neg c_2).symm.trans h
      refine fx_ifne_j rfl rfl c_2 ?_
      refine fx_aload rfl rfl ?_
      refine fx_getV rfl h0.1 rfl rfl ?_
      refine fx_aload rfl rfl ?_
      refine fx_getI rfl h0.1 rfl rfl ?_
      refine fx_iload rfl rfl ?_
      obtain ⟨q2, e_q2, h⟩ := fx_bd h
      refine fx_call [.ref (i0 + 3), .int (M i0 1), .int a1] [] rfl (by decide) rfl rfl rfl rfl rfl (Nat.le_of_ble_eq_true rfl) rfl (v_X_put h0.2.2.2.1 e_q2) ?_
      refine fx_aload rfl rfl ?_
      refine fx_dup rfl rfl ?_
      refine fx_getI rfl h0.1 rfl rfl ?_
      refine fx_const rfl (show Int32.ofInt 1 = (1 : Int32) by decide) ?_
      refine fx_iadd rfl ?_
      refine fx_putI rfl h0.1 rfl rfl rfl ?_
      refine fx_const rfl (show Int32.ofInt 1 = (1 : Int32) by decide) ?_
      obtain rfl := Option.some.inj h
      exact fx_ret rfl rfl

def g_L_addVillage (M : fv_M) (i0 : Nat) (a1 : Int32) : Option (Int32 × fv_M) := if (4 : Int32) ≤ (M i0 2) then (some ((0 : Int32), M)) else ((g_X_within M a1 (0 : Int32) (63 : Int32)).bind fun q1 => if q1 = 0 then (some ((0 : Int32), M)) else ((g_X_put M (i0 + 4) 4 (M i0 2) a1).bind fun q2 => some ((1 : Int32), (fv_set q2 i0 2 ((q2 i0 2) + (1 : Int32))))))
theorem v_L_addVillage {X : fv_X} {sh : fv_Sh} {k : Nat × Nat} {M : fv_M} {i0 : Nat} {a1 : Int32} {r : Int32 × fv_M} (h0 : fx_atL sh i0) (h : g_L_addVillage M i0 a1 = some r) : fv_Rn X 8 0 [some (.ref i0), some (.int a1)] [] k sh M (some (.int r.1), sh, r.2) := by
  unfold g_L_addVillage at h
  refine fx_aload rfl rfl ?_
  refine fx_getI rfl h0.1 rfl rfl ?_
  refine fx_const rfl (show Int32.ofInt 4 = (4 : Int32) by decide) ?_
  by_cases c_1 : (4 : Int32) ≤ (M i0 2)
  · replace h := (if_pos c_1).symm.trans h
    refine fx_icge_j rfl rfl c_1 ?_
    refine fx_const rfl (show Int32.ofInt 0 = (0 : Int32) by decide) ?_
    obtain rfl := Option.some.inj h
    exact fx_ret rfl rfl
  · replace h := (if_neg c_1).symm.trans h
    refine fx_icge_s rfl c_1 ?_
    refine fx_iload rfl rfl ?_
    refine fx_const rfl (show Int32.ofInt 0 = (0 : Int32) by decide) ?_
    refine fx_const rfl (show Int32.ofInt 63 = (63 : Int32) by decide) ?_
    obtain ⟨q1, e_q1, h⟩ := fx_bd h
    refine fx_call [.int a1, .int (0 : Int32), .int (63 : Int32)] [] rfl (by decide) rfl rfl rfl rfl rfl (Nat.le_of_ble_eq_true rfl) rfl (v_X_within  e_q1) ?_
    by_cases c_2 : q1 = 0
    · replace h := (if_pos c_2).symm.trans h
      refine fx_ifne_s rfl c_2 ?_
      refine fx_const rfl (show Int32.ofInt 0 = (0 : Int32) by decide) ?_
      obtain rfl := Option.some.inj h
      exact fx_ret rfl rfl
    · replace h := (if_neg c_2).symm.trans h
      refine fx_ifne_j rfl rfl c_2 ?_
      refine fx_aload rfl rfl ?_
      refine fx_getV rfl h0.1 rfl rfl ?_
      refine fx_aload rfl rfl ?_
      refine fx_getI rfl h0.1 rfl rfl ?_
      refine fx_iload rfl rfl ?_
      obtain ⟨q2, e_q2, h⟩ := fx_bd h
      refine fx_call [.ref (i0 + 4), .int (M i0 2), .int a1] [] rfl (by decide) rfl rfl rfl rfl rfl (Nat.le_of_ble_eq_true rfl) rfl (v_X_put h0.2.2.2.2.1 e_q2) ?_
      refine fx_aload rfl rfl ?_
      refine fx_dup rfl rfl ?_
      refine fx_getI rfl h0.1 rfl rfl ?_
      refine fx_const rfl (show Int32.ofInt 1 = (1 : Int32) by decide) ?_
      refine fx_iadd rfl ?_
      refine fx_putI rfl h0.1 rfl rfl rfl ?_
      refine fx_const rfl (show Int32.ofInt 1 = (1 : Int32) by decide) ?_
      obtain rfl := Option.some.inj h
      exact fx_ret rfl rfl

def g_L_isTold (M : fv_M) (i0 : Nat) (a1 : Int32) (a2 : Int32) : Option (Int32) := if a1 < 0 then (some (0 : Int32)) else (if (M i0 2) ≤ a1 then (some (0 : Int32)) else (if a2 < 0 then (some (0 : Int32)) else (if (M i0 0) ≤ a2 then (some (0 : Int32)) else (some (1 : Int32)))))
theorem v_L_isTold {X : fv_X} {sh : fv_Sh} {k : Nat × Nat} {M : fv_M} {i0 : Nat} {a1 : Int32} {a2 : Int32} {r : Int32} (h0 : fx_atL sh i0) (h : g_L_isTold M i0 a1 a2 = some r) : fv_Rn X 11 0 [some (.ref i0), some (.int a1), some (.int a2)] [] k sh M (some (.int r), sh, M) := by
  unfold g_L_isTold at h
  refine fx_iload rfl rfl ?_
  by_cases c_1 : a1 < 0
  · replace h := (if_pos c_1).symm.trans h
    refine fx_iflt_j rfl rfl c_1 ?_
    refine fx_const rfl (show Int32.ofInt 0 = (0 : Int32) by decide) ?_
    obtain rfl := Option.some.inj h
    exact fx_ret rfl rfl
  · replace h := (if_neg c_1).symm.trans h
    refine fx_iflt_s rfl c_1 ?_
    refine fx_iload rfl rfl ?_
    refine fx_aload rfl rfl ?_
    refine fx_getI rfl h0.1 rfl rfl ?_
    by_cases c_2 : (M i0 2) ≤ a1
    · replace h := (if_pos c_2).symm.trans h
      refine fx_icge_j rfl rfl c_2 ?_
      refine fx_const rfl (show Int32.ofInt 0 = (0 : Int32) by decide) ?_
      obtain rfl := Option.some.inj h
      exact fx_ret rfl rfl
    · replace h := (if_neg c_2).symm.trans h
      refine fx_icge_s rfl c_2 ?_
      refine fx_iload rfl rfl ?_
      by_cases c_3 : a2 < 0
      · replace h := (if_pos c_3).symm.trans h
        refine fx_iflt_j rfl rfl c_3 ?_
        refine fx_const rfl (show Int32.ofInt 0 = (0 : Int32) by decide) ?_
        obtain rfl := Option.some.inj h
        exact fx_ret rfl rfl
      · replace h := (if_neg c_3).symm.trans h
        refine fx_iflt_s rfl c_3 ?_
        refine fx_iload rfl rfl ?_
        refine fx_aload rfl rfl ?_
        refine fx_getI rfl h0.1 rfl rfl ?_
        by_cases c_4 : (M i0 0) ≤ a2
        · replace h := (if_pos c_4).symm.trans h
          refine fx_icge_j rfl rfl c_4 ?_
          refine fx_const rfl (show Int32.ofInt 0 = (0 : Int32) by decide) ?_
          obtain rfl := Option.some.inj h
          exact fx_ret rfl rfl
        · replace h := (if_neg c_4).symm.trans h
          refine fx_icge_s rfl c_4 ?_
          refine fx_const rfl (show Int32.ofInt 1 = (1 : Int32) by decide) ?_
          refine fx_goto rfl rfl ?_
          obtain rfl := Option.some.inj h
          exact fx_ret rfl rfl

def g_X_cell (M : fv_M) (a0 : Int32) (a1 : Int32) : Option (Int32) := some ((a0 * (6 : Int32)) + a1)
theorem v_X_cell {X : fv_X} {sh : fv_Sh} {k : Nat × Nat} {M : fv_M} {a0 : Int32} {a1 : Int32} {r : Int32}  (h : g_X_cell M a0 a1 = some r) : fv_Rn X 104 0 [some (.int a0), some (.int a1)] [] k sh M (some (.int r), sh, M) := by
  unfold g_X_cell at h
  refine fx_iload rfl rfl ?_
  refine fx_const rfl (show Int32.ofInt 6 = (6 : Int32) by decide) ?_
  refine fx_imul rfl ?_
  refine fx_iload rfl rfl ?_
  refine fx_iadd rfl ?_
  obtain rfl := Option.some.inj h
  exact fx_ret rfl rfl

def g_L_addStock (M : fv_M) (i0 : Nat) (a1 : Int32) (a2 : Int32) (a3 : Int32) : Option (Int32 × fv_M) := (g_L_isTold M i0 a1 a2).bind fun q1 => if q1 = 0 then (some ((0 : Int32), M)) else ((g_X_within M a3 (0 : Int32) (30 : Int32)).bind fun q2 => if q2 = 0 then (some ((0 : Int32), M)) else ((g_X_cell M a1 a2).bind fun q3 => (g_X_put M (i0 + 6) 24 q3 a3).bind fun q4 => some ((1 : Int32), q4)))
theorem v_L_addStock {X : fv_X} {sh : fv_Sh} {k : Nat × Nat} {M : fv_M} {i0 : Nat} {a1 : Int32} {a2 : Int32} {a3 : Int32} {r : Int32 × fv_M} (h0 : fx_atL sh i0) (h : g_L_addStock M i0 a1 a2 a3 = some r) : fv_Rn X 9 0 [some (.ref i0), some (.int a1), some (.int a2), some (.int a3)] [] k sh M (some (.int r.1), sh, r.2) := by
  unfold g_L_addStock at h
  refine fx_aload rfl rfl ?_
  refine fx_iload rfl rfl ?_
  refine fx_iload rfl rfl ?_
  obtain ⟨q1, e_q1, h⟩ := fx_bd h
  refine fx_call [.ref i0, .int a1, .int a2] [] rfl (by decide) rfl rfl rfl rfl rfl (Nat.le_of_ble_eq_true rfl) (fx_rcv h0.1 rfl) (v_L_isTold h0 e_q1) ?_
  by_cases c_1 : q1 = 0
  · replace h := (if_pos c_1).symm.trans h
    refine fx_ifeq_j rfl rfl c_1 ?_
    refine fx_const rfl (show Int32.ofInt 0 = (0 : Int32) by decide) ?_
    obtain rfl := Option.some.inj h
    exact fx_ret rfl rfl
  · replace h := (if_neg c_1).symm.trans h
    refine fx_ifeq_s rfl c_1 ?_
    refine fx_iload rfl rfl ?_
    refine fx_const rfl (show Int32.ofInt 0 = (0 : Int32) by decide) ?_
    refine fx_const rfl (show Int32.ofInt 30 = (30 : Int32) by decide) ?_
    obtain ⟨q2, e_q2, h⟩ := fx_bd h
    refine fx_call [.int a3, .int (0 : Int32), .int (30 : Int32)] [] rfl (by decide) rfl rfl rfl rfl rfl (Nat.le_of_ble_eq_true rfl) rfl (v_X_within  e_q2) ?_
    by_cases c_2 : q2 = 0
    · replace h := (if_pos c_2).symm.trans h
      refine fx_ifne_s rfl c_2 ?_
      refine fx_const rfl (show Int32.ofInt 0 = (0 : Int32) by decide) ?_
      obtain rfl := Option.some.inj h
      exact fx_ret rfl rfl
    · replace h := (if_neg c_2).symm.trans h
      refine fx_ifne_j rfl rfl c_2 ?_
      refine fx_aload rfl rfl ?_
      refine fx_getV rfl h0.1 rfl rfl ?_
      refine fx_iload rfl rfl ?_
      refine fx_iload rfl rfl ?_
      obtain ⟨q3, e_q3, h⟩ := fx_bd h
      refine fx_call [.int a1, .int a2] [.ref (i0 + 6)] rfl (by decide) rfl rfl rfl rfl rfl (Nat.le_of_ble_eq_true rfl) rfl (v_X_cell  e_q3) ?_
      refine fx_iload rfl rfl ?_
      obtain ⟨q4, e_q4, h⟩ := fx_bd h
      refine fx_call [.ref (i0 + 6), .int q3, .int a3] [] rfl (by decide) rfl rfl rfl rfl rfl (Nat.le_of_ble_eq_true rfl) rfl (v_X_put h0.2.2.2.2.2.2.1 e_q4) ?_
      refine fx_const rfl (show Int32.ofInt 1 = (1 : Int32) by decide) ?_
      obtain rfl := Option.some.inj h
      exact fx_ret rfl rfl

def g_L_addWork (M : fv_M) (i0 : Nat) (a1 : Int32) (a2 : Int32) (a3 : Int32) : Option (Int32 × fv_M) := if (8 : Int32) ≤ (M i0 3) then (some ((0 : Int32), M)) else ((g_L_isTold M i0 a1 a2).bind fun q1 => if q1 = 0 then (some ((0 : Int32), M)) else ((g_X_within M a3 (1 : Int32) (9 : Int32)).bind fun q2 => if q2 = 0 then (some ((0 : Int32), M)) else ((g_X_put M (i0 + 7) 8 (M i0 3) a1).bind fun q3 => (g_X_put q3 (i0 + 8) 8 (q3 i0 3) a2).bind fun q4 => (g_X_put q4 (i0 + 9) 8 (q4 i0 3) a3).bind fun q5 => some ((1 : Int32), (fv_set q5 i0 3 ((q5 i0 3) + (1 : Int32)))))))
theorem v_L_addWork {X : fv_X} {sh : fv_Sh} {k : Nat × Nat} {M : fv_M} {i0 : Nat} {a1 : Int32} {a2 : Int32} {a3 : Int32} {r : Int32 × fv_M} (h0 : fx_atL sh i0) (h : g_L_addWork M i0 a1 a2 a3 = some r) : fv_Rn X 10 0 [some (.ref i0), some (.int a1), some (.int a2), some (.int a3)] [] k sh M (some (.int r.1), sh, r.2) := by
  unfold g_L_addWork at h
  refine fx_aload rfl rfl ?_
  refine fx_getI rfl h0.1 rfl rfl ?_
  refine fx_const rfl (show Int32.ofInt 8 = (8 : Int32) by decide) ?_
  by_cases c_1 : (8 : Int32) ≤ (M i0 3)
  · replace h := (if_pos c_1).symm.trans h
    refine fx_icge_j rfl rfl c_1 ?_
    refine fx_const rfl (show Int32.ofInt 0 = (0 : Int32) by decide) ?_
    obtain rfl := Option.some.inj h
    exact fx_ret rfl rfl
  · replace h := (if_neg c_1).symm.trans h
    refine fx_icge_s rfl c_1 ?_
    refine fx_aload rfl rfl ?_
    refine fx_iload rfl rfl ?_
    refine fx_iload rfl rfl ?_
    obtain ⟨q1, e_q1, h⟩ := fx_bd h
    refine fx_call [.ref i0, .int a1, .int a2] [] rfl (by decide) rfl rfl rfl rfl rfl (Nat.le_of_ble_eq_true rfl) (fx_rcv h0.1 rfl) (v_L_isTold h0 e_q1) ?_
    by_cases c_2 : q1 = 0
    · replace h := (if_pos c_2).symm.trans h
      refine fx_ifeq_j rfl rfl c_2 ?_
      refine fx_const rfl (show Int32.ofInt 0 = (0 : Int32) by decide) ?_
      obtain rfl := Option.some.inj h
      exact fx_ret rfl rfl
    · replace h := (if_neg c_2).symm.trans h
      refine fx_ifeq_s rfl c_2 ?_
      refine fx_iload rfl rfl ?_
      refine fx_const rfl (show Int32.ofInt 1 = (1 : Int32) by decide) ?_
      refine fx_const rfl (show Int32.ofInt 9 = (9 : Int32) by decide) ?_
      obtain ⟨q2, e_q2, h⟩ := fx_bd h
      refine fx_call [.int a3, .int (1 : Int32), .int (9 : Int32)] [] rfl (by decide) rfl rfl rfl rfl rfl (Nat.le_of_ble_eq_true rfl) rfl (v_X_within  e_q2) ?_
      by_cases c_3 : q2 = 0
      · replace h := (if_pos c_3).symm.trans h
        refine fx_ifne_s rfl c_3 ?_
        refine fx_const rfl (show Int32.ofInt 0 = (0 : Int32) by decide) ?_
        obtain rfl := Option.some.inj h
        exact fx_ret rfl rfl
      · replace h := (if_neg c_3).symm.trans h
        refine fx_ifne_j rfl rfl c_3 ?_
        refine fx_aload rfl rfl ?_
        refine fx_getV rfl h0.1 rfl rfl ?_
        refine fx_aload rfl rfl ?_
        refine fx_getI rfl h0.1 rfl rfl ?_
        refine fx_iload rfl rfl ?_
        obtain ⟨q3, e_q3, h⟩ := fx_bd h
        refine fx_call [.ref (i0 + 7), .int (M i0 3), .int a1] [] rfl (by decide) rfl rfl rfl rfl rfl (Nat.le_of_ble_eq_true rfl) rfl (v_X_put h0.2.2.2.2.2.2.2.1 e_q3) ?_
        refine fx_aload rfl rfl ?_
        refine fx_getV rfl h0.1 rfl rfl ?_
        refine fx_aload rfl rfl ?_
        refine fx_getI rfl h0.1 rfl rfl ?_
        refine fx_iload rfl rfl ?_
        obtain ⟨q4, e_q4, h⟩ := fx_bd h
        refine fx_call [.ref (i0 + 8), .int (q3 i0 3), .int a2] [] rfl (by decide) rfl rfl rfl rfl rfl (Nat.le_of_ble_eq_true rfl) rfl (v_X_put h0.2.2.2.2.2.2.2.2.1 e_q4) ?_
        refine fx_aload rfl rfl ?_
        refine fx_getV rfl h0.1 rfl rfl ?_
        refine fx_aload rfl rfl ?_
        refine fx_getI rfl h0.1 rfl rfl ?_
        refine fx_iload rfl rfl ?_
        obtain ⟨q5, e_q5, h⟩ := fx_bd h
        refine fx_call [.ref (i0 + 9), .int (q4 i0 3), .int a3] [] rfl (by decide) rfl rfl rfl rfl rfl (Nat.le_of_ble_eq_true rfl) rfl (v_X_put h0.2.2.2.2.2.2.2.2.2 e_q5) ?_
        refine fx_aload rfl rfl ?_
        refine fx_dup rfl rfl ?_
        refine fx_getI rfl h0.1 rfl rfl ?_
        refine fx_const rfl (show Int32.ofInt 1 = (1 : Int32) by decide) ?_
        refine fx_iadd rfl ?_
        refine fx_putI rfl h0.1 rfl rfl rfl ?_
        refine fx_const rfl (show Int32.ofInt 1 = (1 : Int32) by decide) ?_
        obtain rfl := Option.some.inj h
        exact fx_ret rfl rfl

def g_L_allNouns (M : fv_M) (i0 : Nat) : Option (Int32) := some (((1 : Int32) <<< ((M i0 1) &&& 31)) - (1 : Int32))
theorem v_L_allNouns {X : fv_X} {sh : fv_Sh} {k : Nat × Nat} {M : fv_M} {i0 : Nat} {r : Int32} (h0 : fx_atL sh i0) (h : g_L_allNouns M i0 = some r) : fv_Rn X 12 0 [some (.ref i0)] [] k sh M (some (.int r), sh, M) := by
  unfold g_L_allNouns at h
  refine fx_const rfl (show Int32.ofInt 1 = (1 : Int32) by decide) ?_
  refine fx_aload rfl rfl ?_
  refine fx_getI rfl h0.1 rfl rfl ?_
  refine fx_ishl rfl ?_
  refine fx_const rfl (show Int32.ofInt 1 = (1 : Int32) by decide) ?_
  refine fx_isub rfl ?_
  obtain rfl := Option.some.inj h
  exact fx_ret rfl rfl

def g_L_allWorks (M : fv_M) (i0 : Nat) : Option (Int32) := some (((1 : Int32) <<< ((M i0 3) &&& 31)) - (1 : Int32))
theorem v_L_allWorks {X : fv_X} {sh : fv_Sh} {k : Nat × Nat} {M : fv_M} {i0 : Nat} {r : Int32} (h0 : fx_atL sh i0) (h : g_L_allWorks M i0 = some r) : fv_Rn X 13 0 [some (.ref i0)] [] k sh M (some (.int r), sh, M) := by
  unfold g_L_allWorks at h
  refine fx_const rfl (show Int32.ofInt 1 = (1 : Int32) by decide) ?_
  refine fx_aload rfl rfl ?_
  refine fx_getI rfl h0.1 rfl rfl ?_
  refine fx_ishl rfl ?_
  refine fx_const rfl (show Int32.ofInt 1 = (1 : Int32) by decide) ?_
  refine fx_isub rfl ?_
  obtain rfl := Option.some.inj h
  exact fx_ret rfl rfl

def g_L_mindOf (M : fv_M) (i0 : Nat) (a1 : Int32) : Option (Int32) := (g_X_at M (i0 + 3) 8 a1).bind fun q1 => some (q1 &&& (((1 : Int32) <<< ((M i0 0) &&& 31)) - (1 : Int32)))
theorem v_L_mindOf {X : fv_X} {sh : fv_Sh} {k : Nat × Nat} {M : fv_M} {i0 : Nat} {a1 : Int32} {r : Int32} (h0 : fx_atL sh i0) (h : g_L_mindOf M i0 a1 = some r) : fv_Rn X 14 0 [some (.ref i0), some (.int a1)] [] k sh M (some (.int r), sh, M) := by
  unfold g_L_mindOf at h
  refine fx_aload rfl rfl ?_
  refine fx_getV rfl h0.1 rfl rfl ?_
  refine fx_iload rfl rfl ?_
  obtain ⟨q1, e_q1, h⟩ := fx_bd h
  refine fx_call [.ref (i0 + 3), .int a1] [] rfl (by decide) rfl rfl rfl rfl rfl (Nat.le_of_ble_eq_true rfl) rfl (v_X_at h0.2.2.2.1 e_q1) ?_
  refine fx_const rfl (show Int32.ofInt 1 = (1 : Int32) by decide) ?_
  refine fx_aload rfl rfl ?_
  refine fx_getI rfl h0.1 rfl rfl ?_
  refine fx_ishl rfl ?_
  refine fx_const rfl (show Int32.ofInt 1 = (1 : Int32) by decide) ?_
  refine fx_isub rfl ?_
  refine fx_iand rfl ?_
  obtain rfl := Option.some.inj h
  exact fx_ret rfl rfl

def g_L_nounsOf (M : fv_M) (i0 : Nat) (a1 : Int32) : Option (Int32) := (g_X_at M (i0 + 4) 4 a1).bind fun q1 => (g_L_allNouns M i0).bind fun q2 => some ((q1 ||| (192 : Int32)) &&& q2)
theorem v_L_nounsOf {X : fv_X} {sh : fv_Sh} {k : Nat × Nat} {M : fv_M} {i0 : Nat} {a1 : Int32} {r : Int32} (h0 : fx_atL sh i0) (h : g_L_nounsOf M i0 a1 = some r) : fv_Rn X 15 0 [some (.ref i0), some (.int a1)] [] k sh M (some (.int r), sh, M) := by
  unfold g_L_nounsOf at h
  refine fx_aload rfl rfl ?_
  refine fx_getV rfl h0.1 rfl rfl ?_
  refine fx_iload rfl rfl ?_
  obtain ⟨q1, e_q1, h⟩ := fx_bd h
  refine fx_call [.ref (i0 + 4), .int a1] [] rfl (by decide) rfl rfl rfl rfl rfl (Nat.le_of_ble_eq_true rfl) rfl (v_X_at h0.2.2.2.2.1 e_q1) ?_
  refine fx_const rfl (show Int32.ofInt 192 = (192 : Int32) by decide) ?_
  refine fx_ior rfl ?_
  refine fx_aload rfl rfl ?_
  obtain ⟨q2, e_q2, h⟩ := fx_bd h
  refine fx_call [.ref i0] [.int (q1 ||| (192 : Int32))] rfl (by decide) rfl rfl rfl rfl rfl (Nat.le_of_ble_eq_true rfl) (fx_rcv h0.1 rfl) (v_L_allNouns h0 e_q2) ?_
  refine fx_iand rfl ?_
  obtain rfl := Option.some.inj h
  exact fx_ret rfl rfl

def g_L_meantBy_11 (M : fv_M) (i0 : Nat) (a1 : Int32) : Nat → Int32 → Int32 → (Int32 → Int32 → Option (Int32)) → Option (Int32)
  | 0, _, _, _ => none
  | n + 1, a2, a3, kk => if (M i0 1) ≤ a3 then (kk a2 a3) else ((g_X_has M a1 a3).bind fun q1 => if q1 = 0 then (g_L_meantBy_11 M i0 a1 n a2 (a3 + (1 : Int32)) kk) else ((g_L_mindOf M i0 a3).bind fun q2 => g_L_meantBy_11 M i0 a1 n (a2 &&& q2) (a3 + (1 : Int32)) kk))
theorem v_L_meantBy_11 {X : fv_X} {sh : fv_Sh} {k : Nat × Nat} {M : fv_M} {i0 : Nat} {a1 : Int32} {r : Int32} {kk : Int32 → Int32 → Option (Int32)} (h0 : fx_atL sh i0) (K : ∀ (a2 a3 : Int32), kk a2 a3 = some r → fv_Rn X 16 41 [some (.ref i0), some (.int a1), some (.int a2), some (.int a3)] [] k sh M (some (.int r), sh, M)) : ∀ (n : Nat) (a2 a3 : Int32), g_L_meantBy_11 M i0 a1 n a2 a3 kk = some r → fv_Rn X 16 11 [some (.ref i0), some (.int a1), some (.int a2), some (.int a3)] [] k sh M (some (.int r), sh, M) := by
  intro n
  induction n with
  | zero =>
    intro a2 a3 h
    replace h : (none : Option (Int32)) = some r := h
    cases h
  | succ n ih =>
    intro a2 a3 h
    rw [g_L_meantBy_11] at h
    refine fx_iload rfl rfl ?_
    refine fx_aload rfl rfl ?_
    refine fx_getI rfl h0.1 rfl rfl ?_
    by_cases c_1 : (M i0 1) ≤ a3
    · replace h := (if_pos c_1).symm.trans h
      refine fx_icge_j rfl rfl c_1 ?_
      exact K _ _ h
    · replace h := (if_neg c_1).symm.trans h
      refine fx_icge_s rfl c_1 ?_
      refine fx_iload rfl rfl ?_
      refine fx_iload rfl rfl ?_
      obtain ⟨q1, e_q1, h⟩ := fx_bd h
      refine fx_call [.int a1, .int a3] [] rfl (by decide) rfl rfl rfl rfl rfl (Nat.le_of_ble_eq_true rfl) rfl (v_X_has  e_q1) ?_
      by_cases c_2 : q1 = 0
      · replace h := (if_pos c_2).symm.trans h
        refine fx_ifeq_j rfl rfl c_2 ?_
        refine fx_iinc rfl (show Int32.ofInt 1 = (1 : Int32) by decide) rfl rfl ?_
        refine fx_back rfl rfl rfl ?_
        exact ih _ _ h
      · replace h := (if_neg c_2).symm.trans h
        refine fx_ifeq_s rfl c_2 ?_
        refine fx_iload rfl rfl ?_
        refine fx_aload rfl rfl ?_
        refine fx_iload rfl rfl ?_
        obtain ⟨q2, e_q2, h⟩ := fx_bd h
        refine fx_call [.ref i0, .int a3] [.int a2] rfl (by decide) rfl rfl rfl rfl rfl (Nat.le_of_ble_eq_true rfl) (fx_rcv h0.1 rfl) (v_L_mindOf h0 e_q2) ?_
        refine fx_iand rfl ?_
        refine fx_istore rfl rfl ?_
        refine fx_iinc rfl (show Int32.ofInt 1 = (1 : Int32) by decide) rfl rfl ?_
        refine fx_back rfl rfl rfl ?_
        exact ih _ _ h
def g_L_meantBy (M : fv_M) (i0 : Nat) (a1 : Int32) : Option (Int32) := g_L_meantBy_11 M i0 a1 fx_FU (((1 : Int32) <<< ((M i0 0) &&& 31)) - (1 : Int32)) (0 : Int32) (fun b2_3 b3_3 => some b2_3)
theorem v_L_meantBy {X : fv_X} {sh : fv_Sh} {k : Nat × Nat} {M : fv_M} {i0 : Nat} {a1 : Int32} {r : Int32} (h0 : fx_atL sh i0) (h : g_L_meantBy M i0 a1 = some r) : fv_Rn X 16 0 [some (.ref i0), some (.int a1)] [] k sh M (some (.int r), sh, M) := by
  unfold g_L_meantBy at h
  refine fx_const rfl (show Int32.ofInt 1 = (1 : Int32) by decide) ?_
  refine fx_aload rfl rfl ?_
  refine fx_getI rfl h0.1 rfl rfl ?_
  refine fx_ishl rfl ?_
  refine fx_const rfl (show Int32.ofInt 1 = (1 : Int32) by decide) ?_
  refine fx_isub rfl ?_
  refine fx_istore rfl rfl ?_
  refine fx_const rfl (show Int32.ofInt 0 = (0 : Int32) by decide) ?_
  refine fx_istore rfl rfl ?_
  refine v_L_meantBy_11 h0 (fun b2_3 b3_3 h => ?_) fx_FU _ _ h
  refine fx_iload rfl rfl ?_
  obtain rfl := Option.some.inj h
  exact fx_ret rfl rfl

def g_I_bitCount (M : fv_M) (a0 : Int32) : Option (Int32) := some ((((((((a0 - (((a0.toUInt32 >>> ((1 : Int32).toUInt32 &&& Int32.toUInt32 31)).toInt32) &&& (1431655765 : Int32))) &&& (858993459 : Int32)) + ((((a0 - (((a0.toUInt32 >>> ((1 : Int32).toUInt32 &&& Int32.toUInt32 31)).toInt32) &&& (1431655765 : Int32))).toUInt32 >>> ((2 : Int32).toUInt32 &&& Int32.toUInt32 31)).toInt32) &&& (858993459 : Int32))) + (((((a0 - (((a0.toUInt32 >>> ((1 : Int32).toUInt32 &&& Int32.toUInt32 31)).toInt32) &&& (1431655765 : Int32))) &&& (858993459 : Int32)) + ((((a0 - (((a0.toUInt32 >>> ((1 : Int32).toUInt32 &&& Int32.toUInt32 31)).toInt32) &&& (1431655765 : Int32))).toUInt32 >>> ((2 : Int32).toUInt32 &&& Int32.toUInt32 31)).toInt32) &&& (858993459 : Int32))).toUInt32 >>> ((4 : Int32).toUInt32 &&& Int32.toUInt32 31)).toInt32)) &&& (252645135 : Int32)) + (((((((a0 - (((a0.toUInt32 >>> ((1 : Int32).toUInt32 &&& Int32.toUInt32 31)).toInt32) &&& (1431655765 : Int32))) &&& (858993459 : Int32)) + ((((a0 - (((a0.toUInt32 >>> ((1 : Int32).toUInt32 &&& Int32.toUInt32 31)).toInt32) &&& (1431655765 : Int32))).toUInt32 >>> ((2 : Int32).toUInt32 &&& Int32.toUInt32 31)).toInt32) &&& (858993459 : Int32))) + (((((a0 - (((a0.toUInt32 >>> ((1 : Int32).toUInt32 &&& Int32.toUInt32 31)).toInt32) &&& (1431655765 : Int32))) &&& (858993459 : Int32)) + ((((a0 - (((a0.toUInt32 >>> ((1 : Int32).toUInt32 &&& Int32.toUInt32 31)).toInt32) &&& (1431655765 : Int32))).toUInt32 >>> ((2 : Int32).toUInt32 &&& Int32.toUInt32 31)).toInt32) &&& (858993459 : Int32))).toUInt32 >>> ((4 : Int32).toUInt32 &&& Int32.toUInt32 31)).toInt32)) &&& (252645135 : Int32)).toUInt32 >>> ((8 : Int32).toUInt32 &&& Int32.toUInt32 31)).toInt32)) + ((((((((a0 - (((a0.toUInt32 >>> ((1 : Int32).toUInt32 &&& Int32.toUInt32 31)).toInt32) &&& (1431655765 : Int32))) &&& (858993459 : Int32)) + ((((a0 - (((a0.toUInt32 >>> ((1 : Int32).toUInt32 &&& Int32.toUInt32 31)).toInt32) &&& (1431655765 : Int32))).toUInt32 >>> ((2 : Int32).toUInt32 &&& Int32.toUInt32 31)).toInt32) &&& (858993459 : Int32))) + (((((a0 - (((a0.toUInt32 >>> ((1 : Int32).toUInt32 &&& Int32.toUInt32 31)).toInt32) &&& (1431655765 : Int32))) &&& (858993459 : Int32)) + ((((a0 - (((a0.toUInt32 >>> ((1 : Int32).toUInt32 &&& Int32.toUInt32 31)).toInt32) &&& (1431655765 : Int32))).toUInt32 >>> ((2 : Int32).toUInt32 &&& Int32.toUInt32 31)).toInt32) &&& (858993459 : Int32))).toUInt32 >>> ((4 : Int32).toUInt32 &&& Int32.toUInt32 31)).toInt32)) &&& (252645135 : Int32)) + (((((((a0 - (((a0.toUInt32 >>> ((1 : Int32).toUInt32 &&& Int32.toUInt32 31)).toInt32) &&& (1431655765 : Int32))) &&& (858993459 : Int32)) + ((((a0 - (((a0.toUInt32 >>> ((1 : Int32).toUInt32 &&& Int32.toUInt32 31)).toInt32) &&& (1431655765 : Int32))).toUInt32 >>> ((2 : Int32).toUInt32 &&& Int32.toUInt32 31)).toInt32) &&& (858993459 : Int32))) + (((((a0 - (((a0.toUInt32 >>> ((1 : Int32).toUInt32 &&& Int32.toUInt32 31)).toInt32) &&& (1431655765 : Int32))) &&& (858993459 : Int32)) + ((((a0 - (((a0.toUInt32 >>> ((1 : Int32).toUInt32 &&& Int32.toUInt32 31)).toInt32) &&& (1431655765 : Int32))).toUInt32 >>> ((2 : Int32).toUInt32 &&& Int32.toUInt32 31)).toInt32) &&& (858993459 : Int32))).toUInt32 >>> ((4 : Int32).toUInt32 &&& Int32.toUInt32 31)).toInt32)) &&& (252645135 : Int32)).toUInt32 >>> ((8 : Int32).toUInt32 &&& Int32.toUInt32 31)).toInt32)).toUInt32 >>> ((16 : Int32).toUInt32 &&& Int32.toUInt32 31)).toInt32)) &&& (63 : Int32))
theorem v_I_bitCount {X : fv_X} {sh : fv_Sh} {k : Nat × Nat} {M : fv_M} {a0 : Int32} {r : Int32}  (h : g_I_bitCount M a0 = some r) : fv_Rn X 167 0 [some (.int a0)] [] k sh M (some (.int r), sh, M) := by
  unfold g_I_bitCount at h
  refine fx_iload rfl rfl ?_
  refine fx_iload rfl rfl ?_
  refine fx_const rfl (show Int32.ofInt 1 = (1 : Int32) by decide) ?_
  refine fx_iushr rfl ?_
  refine fx_const rfl (show Int32.ofInt 1431655765 = (1431655765 : Int32) by decide) ?_
  refine fx_iand rfl ?_
  refine fx_isub rfl ?_
  refine fx_istore rfl rfl ?_
  refine fx_iload rfl rfl ?_
  refine fx_const rfl (show Int32.ofInt 858993459 = (858993459 : Int32) by decide) ?_
  refine fx_iand rfl ?_
  refine fx_iload rfl rfl ?_
  refine fx_const rfl (show Int32.ofInt 2 = (2 : Int32) by decide) ?_
  refine fx_iushr rfl ?_
  refine fx_const rfl (show Int32.ofInt 858993459 = (858993459 : Int32) by decide) ?_
  refine fx_iand rfl ?_
  refine fx_iadd rfl ?_
  refine fx_istore rfl rfl ?_
  refine fx_iload rfl rfl ?_
  refine fx_iload rfl rfl ?_
  refine fx_const rfl (show Int32.ofInt 4 = (4 : Int32) by decide) ?_
  refine fx_iushr rfl ?_
  refine fx_iadd rfl ?_
  refine fx_const rfl (show Int32.ofInt 252645135 = (252645135 : Int32) by decide) ?_
  refine fx_iand rfl ?_
  refine fx_istore rfl rfl ?_
  refine fx_iload rfl rfl ?_
  refine fx_iload rfl rfl ?_
  refine fx_const rfl (show Int32.ofInt 8 = (8 : Int32) by decide) ?_
  refine fx_iushr rfl ?_
  refine fx_iadd rfl ?_
  refine fx_istore rfl rfl ?_
  refine fx_iload rfl rfl ?_
  refine fx_iload rfl rfl ?_
  refine fx_const rfl (show Int32.ofInt 16 = (16 : Int32) by decide) ?_
  refine fx_iushr rfl ?_
  refine fx_iadd rfl ?_
  refine fx_istore rfl rfl ?_
  refine fx_iload rfl rfl ?_
  refine fx_const rfl (show Int32.ofInt 63 = (63 : Int32) by decide) ?_
  refine fx_iand rfl ?_
  obtain rfl := Option.some.inj h
  exact fx_ret rfl rfl

def g_L_addSaid_2 (i0 : Nat) (a1 : Int32) (a2 : Int32) : Nat → fv_M → Int32 → (fv_M → Int32 → Option (fv_M)) → Option (fv_M)
  | 0, _, _, _ => none
  | n + 1, M, a3, kk => if (M i0 2) ≤ a3 then (kk M a3) else ((g_L_nounsOf M i0 a3).bind fun q1 => if (a1 &&& (q1 ^^^ (-1 : Int32))) = 0 then ((g_X_at M (i0 + 5) 4 a3).bind fun q2 => (g_X_put M (i0 + 5) 4 a3 (q2 ||| a2)).bind fun q3 => g_L_addSaid_2 i0 a1 a2 n q3 (a3 + (1 : Int32)) kk) else (g_L_addSaid_2 i0 a1 a2 n M (a3 + (1 : Int32)) kk))
theorem v_L_addSaid_2 {X : fv_X} {sh : fv_Sh} {k : Nat × Nat} {i0 : Nat} {a1 : Int32} {a2 : Int32} {r : fv_M} {kk : fv_M → Int32 → Option (fv_M)} (h0 : fx_atL sh i0) (K : ∀ (M : fv_M) (a3 : Int32), kk M a3 = some r → fv_Rn X 18 46 [some (.ref i0), some (.int a1), some (.int a2), some (.int a3)] [] k sh M (none, sh, r)) : ∀ (n : Nat) (M : fv_M) (a3 : Int32), g_L_addSaid_2 i0 a1 a2 n M a3 kk = some r → fv_Rn X 18 2 [some (.ref i0), some (.int a1), some (.int a2), some (.int a3)] [] k sh M (none, sh, r) := by
  intro n
  induction n with
  | zero =>
    intro M a3 h
    replace h : (none : Option (fv_M)) = some r := h
    cases h
  | succ n ih =>
    intro M a3 h
    rw [g_L_addSaid_2] at h
    refine fx_iload rfl rfl ?_
    refine fx_aload rfl rfl ?_
    refine fx_getI rfl h0.1 rfl rfl ?_
    by_cases c_1 : (M i0 2) ≤ a3
    · replace h := (if_pos c_1).symm.trans h
      refine fx_icge_j rfl rfl c_1 ?_
      exact K _ _ h
    · replace h := (if_neg c_1).symm.trans h
      refine fx_icge_s rfl c_1 ?_
      refine fx_iload rfl rfl ?_
      refine fx_aload rfl rfl ?_
      refine fx_iload rfl rfl ?_
      obtain ⟨q1, e_q1, h⟩ := fx_bd h
      refine fx_call [.ref i0, .int a3] [.int a1] rfl (by decide) rfl rfl rfl rfl rfl (Nat.le_of_ble_eq_true rfl) (fx_rcv h0.1 rfl) (v_L_nounsOf h0 e_q1) ?_
      refine fx_const rfl (show Int32.ofInt (-1) = (-1 : Int32) by decide) ?_
      refine fx_ixor rfl ?_
      refine fx_iand rfl ?_
      by_cases c_2 : (a1 &&& (q1 ^^^ (-1 : Int32))) = 0
      · replace h := (if_pos c_2).symm.trans h
        refine fx_ifne_s rfl c_2 ?_
        refine fx_aload rfl rfl ?_
        refine fx_getV rfl h0.1 rfl rfl ?_
        refine fx_iload rfl rfl ?_
        refine fx_aload rfl rfl ?_
        refine fx_getV rfl h0.1 rfl rfl ?_
        refine fx_iload rfl rfl ?_
        obtain ⟨q2, e_q2, h⟩ := fx_bd h
        refine fx_call [.ref (i0 + 5), .int a3] [.int a3, .ref (i0 + 5)] rfl (by decide) rfl rfl rfl rfl rfl (Nat.le_of_ble_eq_true rfl) rfl (v_X_at h0.2.2.2.2.2.1 e_q2) ?_
        refine fx_iload rfl rfl ?_
        refine fx_ior rfl ?_
        obtain ⟨q3, e_q3, h⟩ := fx_bd h
        refine fx_call [.ref (i0 + 5), .int a3, .int (q2 ||| a2)] [] rfl (by decide) rfl rfl rfl rfl rfl (Nat.le_of_ble_eq_true rfl) rfl (v_X_put h0.2.2.2.2.2.1 e_q3) ?_
        refine fx_iinc rfl (show Int32.ofInt 1 = (1 : Int32) by decide) rfl rfl ?_
        refine fx_back rfl rfl rfl ?_
        exact ih _ _ h
      · replace h := (if_neg c_2).symm.trans h
        refine fx_ifne_j rfl rfl c_2 ?_
        refine fx_iinc rfl (show Int32.ofInt 1 = (1 : Int32) by decide) rfl rfl ?_
        refine fx_back rfl rfl rfl ?_
        exact ih _ _ h
def g_L_addSaid (M : fv_M) (i0 : Nat) (a1 : Int32) (a2 : Int32) : Option (fv_M) := g_L_addSaid_2 i0 a1 a2 fx_FU M (0 : Int32) (fun M_4 b3_4 => some M_4)
theorem v_L_addSaid {X : fv_X} {sh : fv_Sh} {k : Nat × Nat} {M : fv_M} {i0 : Nat} {a1 : Int32} {a2 : Int32} {r : fv_M} (h0 : fx_atL sh i0) (h : g_L_addSaid M i0 a1 a2 = some r) : fv_Rn X 18 0 [some (.ref i0), some (.int a1), some (.int a2)] [] k sh M (none, sh, r) := by
  unfold g_L_addSaid at h
  refine fx_const rfl (show Int32.ofInt 0 = (0 : Int32) by decide) ?_
  refine fx_istore rfl rfl ?_
  refine v_L_addSaid_2 h0 (fun M_4 b3_4 h => ?_) fx_FU _ _ h
  obtain rfl := Option.some.inj h
  exact fx_vret rfl rfl

def g_L_findSaid_10 (i0 : Nat) : Nat → fv_M → Int32 → (fv_M → Int32 → Option (fv_M)) → Option (fv_M)
  | 0, _, _, _ => none
  | n + 1, M, a1, kk => (g_L_allNouns M i0).bind fun q2 => if q2 < a1 then (kk M a1) else ((g_L_meantBy M i0 a1).bind fun q3 => (g_I_bitCount M q3).bind fun q4 => if q4 = (1 : Int32) then ((g_L_addSaid M i0 a1 q3).bind fun q5 => g_L_findSaid_10 i0 n q5 (a1 + (1 : Int32)) kk) else (g_L_findSaid_10 i0 n M (a1 + (1 : Int32)) kk))
theorem v_L_findSaid_10 {X : fv_X} {sh : fv_Sh} {k : Nat × Nat} {i0 : Nat} {r : fv_M} {kk : fv_M → Int32 → Option (fv_M)} (h0 : fx_atL sh i0) (K : ∀ (M : fv_M) (a1 : Int32), kk M a1 = some r → fv_Rn X 17 44 [some (.ref i0), some (.int a1)] [] k sh M (none, sh, r)) : ∀ (n : Nat) (M : fv_M) (a1 : Int32), g_L_findSaid_10 i0 n M a1 kk = some r → fv_Rn X 17 10 [some (.ref i0), some (.int a1)] [] k sh M (none, sh, r) := by
  intro n
  induction n with
  | zero =>
    intro M a1 h
    replace h : (none : Option (fv_M)) = some r := h
    cases h
  | succ n ih =>
    intro M a1 h
    rw [g_L_findSaid_10] at h
    refine fx_iload rfl rfl ?_
    refine fx_aload rfl rfl ?_
    obtain ⟨q2, e_q2, h⟩ := fx_bd h
    refine fx_call [.ref i0] [.int a1] rfl (by decide) rfl rfl rfl rfl rfl (Nat.le_of_ble_eq_true rfl) (fx_rcv h0.1 rfl) (v_L_allNouns h0 e_q2) ?_
    by_cases c_1 : q2 < a1
    · replace h := (if_pos c_1).symm.trans h
      refine fx_icgt_j rfl rfl c_1 ?_
      exact K _ _ h
    · replace h := (if_neg c_1).symm.trans h
      refine fx_icgt_s rfl c_1 ?_
      refine fx_aload rfl rfl ?_
      refine fx_iload rfl rfl ?_
      obtain ⟨q3, e_q3, h⟩ := fx_bd h
      refine fx_call [.ref i0, .int a1] [] rfl (by decide) rfl rfl rfl rfl rfl (Nat.le_of_ble_eq_true rfl) (fx_rcv h0.1 rfl) (v_L_meantBy h0 e_q3) ?_
      refine fx_istore rfl rfl ?_
      refine fx_iload rfl rfl ?_
      obtain ⟨q4, e_q4, h⟩ := fx_bd h
      refine fx_call [.int q3] [] rfl (by decide) rfl rfl rfl rfl rfl (Nat.le_of_ble_eq_true rfl) rfl (v_I_bitCount  e_q4) ?_
      refine fx_const rfl (show Int32.ofInt 1 = (1 : Int32) by decide) ?_
      by_cases c_2 : q4 = (1 : Int32)
      · replace h := (if_pos c_2).symm.trans h
        refine fx_icne_s rfl c_2 ?_
        refine fx_aload rfl rfl ?_
        refine fx_iload rfl rfl ?_
        refine fx_iload rfl rfl ?_
        obtain ⟨q5, e_q5, h⟩ := fx_bd h
        refine fx_call [.ref i0, .int a1, .int q3] [] rfl (by decide) rfl rfl rfl rfl rfl (Nat.le_of_ble_eq_true rfl) (fx_rcv h0.1 rfl) (v_L_addSaid h0 e_q5) ?_
        refine fx_iinc rfl (show Int32.ofInt 1 = (1 : Int32) by decide) rfl rfl ?_
        refine fx_back rfl rfl rfl ?_
        exact ih _ _ h
      · replace h := (if_neg c_2).symm.trans h
        refine fx_icne_j rfl rfl c_2 ?_
        refine fx_iinc rfl (show Int32.ofInt 1 = (1 : Int32) by decide) rfl rfl ?_
        refine fx_back rfl rfl rfl ?_
        exact ih _ _ h
def g_L_findSaid (M : fv_M) (i0 : Nat) : Option (fv_M) := (g_X_fill M (i0 + 5) 4 (0 : Int32)).bind fun q1 => g_L_findSaid_10 i0 fx_FU q1 (1 : Int32) (fun M_6 b1_6 => some M_6)
theorem v_L_findSaid {X : fv_X} {sh : fv_Sh} {k : Nat × Nat} {M : fv_M} {i0 : Nat} {r : fv_M} (h0 : fx_atL sh i0) (h : g_L_findSaid M i0 = some r) : fv_Rn X 17 0 [some (.ref i0)] [] k sh M (none, sh, r) := by
  unfold g_L_findSaid at h
  refine fx_aload rfl rfl ?_
  refine fx_getV rfl h0.1 rfl rfl ?_
  refine fx_const rfl (show Int32.ofInt 0 = (0 : Int32) by decide) ?_
  obtain ⟨q1, e_q1, h⟩ := fx_bd h
  refine fx_call [.ref (i0 + 5), .int (0 : Int32)] [] rfl (by decide) rfl rfl rfl rfl rfl (Nat.le_of_ble_eq_true rfl) rfl (v_X_fill h0.2.2.2.2.2.1 e_q1) ?_
  refine fx_const rfl (show Int32.ofInt 1 = (1 : Int32) by decide) ?_
  refine fx_istore rfl rfl ?_
  refine v_L_findSaid_10 h0 (fun M_6 b1_6 h => ?_) fx_FU _ _ h
  obtain rfl := Option.some.inj h
  exact fx_vret rfl rfl

def g_L_canSay (M : fv_M) (i0 : Nat) (a1 : Int32) (a2 : Int32) : Option (Int32) := (g_X_at M (i0 + 5) 4 a1).bind fun q1 => (g_X_has M q1 a2).bind fun q2 => fx_ck (¬ (q2 = 0 ∨ q2 = 1)) (some q2)
theorem v_L_canSay {X : fv_X} {sh : fv_Sh} {k : Nat × Nat} {M : fv_M} {i0 : Nat} {a1 : Int32} {a2 : Int32} {r : Int32} (h0 : fx_atL sh i0) (h : g_L_canSay M i0 a1 a2 = some r) : fv_Rn X 19 0 [some (.ref i0), some (.int a1), some (.int a2)] [] k sh M (some (.int r), sh, M) := by
  unfold g_L_canSay at h
  refine fx_aload rfl rfl ?_
  refine fx_getV rfl h0.1 rfl rfl ?_
  refine fx_iload rfl rfl ?_
  obtain ⟨q1, e_q1, h⟩ := fx_bd h
  refine fx_call [.ref (i0 + 5), .int a1] [] rfl (by decide) rfl rfl rfl rfl rfl (Nat.le_of_ble_eq_true rfl) rfl (v_X_at h0.2.2.2.2.2.1 e_q1) ?_
  refine fx_iload rfl rfl ?_
  obtain ⟨q2, e_q2, h⟩ := fx_bd h
  refine fx_call [.int q1, .int a2] [] rfl (by decide) rfl rfl rfl rfl rfl (Nat.le_of_ble_eq_true rfl) rfl (v_X_has  e_q2) ?_
  obtain ⟨c_1, h⟩ := fx_ck_some h
  obtain rfl := Option.some.inj h
  exact fx_ret rfl (decide_eq_true (Decidable.not_not.mp c_1))

def g_L_smallestRow_13 (M : fv_M) (i0 : Nat) (a1 : Int32) (a2 : Int32) (a3 : Int32) : Nat → Int32 → Int32 → (Int32 → Int32 → Option (Int32)) → Option (Int32)
  | 0, _, _, _ => none
  | n + 1, a4, a5, kk => (g_L_allNouns M i0).bind fun q2 => if q2 < a5 then (kk a4 a5) else (if (a5 &&& (a3 ^^^ (-1 : Int32))) = 0 then ((g_L_meantBy M i0 a5).bind fun q3 => if q3 = ((1 : Int32) <<< (a2 &&& 31)) then (if a4 = (-4 : Int32) then (g_L_smallestRow_13 M i0 a1 a2 a3 n a5 (a5 + (1 : Int32)) kk) else ((g_I_bitCount M a5).bind fun q4 => (g_I_bitCount M a4).bind fun q5 => if q5 ≤ q4 then (g_L_smallestRow_13 M i0 a1 a2 a3 n a4 (a5 + (1 : Int32)) kk) else (g_L_smallestRow_13 M i0 a1 a2 a3 n a5 (a5 + (1 : Int32)) kk))) else (g_L_smallestRow_13 M i0 a1 a2 a3 n a4 (a5 + (1 : Int32)) kk)) else (g_L_smallestRow_13 M i0 a1 a2 a3 n a4 (a5 + (1 : Int32)) kk))
theorem v_L_smallestRow_13 {X : fv_X} {sh : fv_Sh} {k : Nat × Nat} {M : fv_M} {i0 : Nat} {a1 : Int32} {a2 : Int32} {a3 : Int32} {r : Int32} {kk : Int32 → Int32 → Option (Int32)} (h0 : fx_atL sh i0) (K : ∀ (a4 a5 : Int32), kk a4 a5 = some r → fv_Rn X 20 73 [some (.ref i0), some (.int a1), some (.int a2), some (.int a3), some (.int a4), some (.int a5)] [] k sh M (some (.int r), sh, M)) : ∀ (n : Nat) (a4 a5 : Int32), g_L_smallestRow_13 M i0 a1 a2 a3 n a4 a5 kk = some r → fv_Rn X 20 13 [some (.ref i0), some (.int a1), some (.int a2), some (.int a3), some (.int a4), some (.int a5)] [] k sh M (some (.int r), sh, M) := by
  intro n
  induction n with
  | zero =>
    intro a4 a5 h
    replace h : (none : Option (Int32)) = some r := h
    cases h
  | succ n ih =>
    intro a4 a5 h
    rw [g_L_smallestRow_13] at h
    refine fx_iload rfl rfl ?_
    refine fx_aload rfl rfl ?_
    obtain ⟨q2, e_q2, h⟩ := fx_bd h
    refine fx_call [.ref i0] [.int a5] rfl (by decide) rfl rfl rfl rfl rfl (Nat.le_of_ble_eq_true rfl) (fx_rcv h0.1 rfl) (v_L_allNouns h0 e_q2) ?_
    by_cases c_1 : q2 < a5
    · replace h := (if_pos c_1).symm.trans h
      refine fx_icgt_j rfl rfl c_1 ?_
      exact K _ _ h
    · replace h := (if_neg c_1).symm.trans h
      refine fx_icgt_s rfl c_1 ?_
      refine fx_iload rfl rfl ?_
      refine fx_iload rfl rfl ?_
      refine fx_const rfl (show Int32.ofInt (-1) = (-1 : Int32) by decide) ?_
      refine fx_ixor rfl ?_
      refine fx_iand rfl ?_
      by_cases c_2 : (a5 &&& (a3 ^^^ (-1 : Int32))) = 0
      · replace h := (if_pos c_2).symm.trans h
        refine fx_ifne_s rfl c_2 ?_
        refine fx_aload rfl rfl ?_
        refine fx_iload rfl rfl ?_
        obtain ⟨q3, e_q3, h⟩ := fx_bd h
        refine fx_call [.ref i0, .int a5] [] rfl (by decide) rfl rfl rfl rfl rfl (Nat.le_of_ble_eq_true rfl) (fx_rcv h0.1 rfl) (v_L_meantBy h0 e_q3) ?_
        refine fx_const rfl (show Int32.ofInt 1 = (1 : Int32) by decide) ?_
        refine fx_iload rfl rfl ?_
        refine fx_ishl rfl ?_
        by_cases c_3 : q3 = ((1 : Int32) <<< (a2 &&& 31))
        · replace h := (if_pos c_3).symm.trans h
          refine fx_icne_s rfl c_3 ?_
          refine fx_iload rfl rfl ?_
          refine fx_const rfl (show Int32.ofInt (-4) = (-4 : Int32) by decide) ?_
          by_cases c_4 : a4 = (-4 : Int32)
          · replace h := (if_pos c_4).symm.trans h
            refine fx_iceq_j rfl rfl c_4 ?_
            refine fx_iload rfl rfl ?_
            refine fx_istore rfl rfl ?_
            refine fx_iinc rfl (show Int32.ofInt 1 = (1 : Int32) by decide) rfl rfl ?_
            refine fx_back rfl rfl rfl ?_
            exact ih _ _ h
          · replace h := (if_neg c_4).symm.trans h
            refine fx_iceq_s rfl c_4 ?_
            refine fx_iload rfl rfl ?_
            obtain ⟨q4, e_q4, h⟩ := fx_bd h
            refine fx_call [.int a5] [] rfl (by decide) rfl rfl rfl rfl rfl (Nat.le_of_ble_eq_true rfl) rfl (v_I_bitCount  e_q4) ?_
            refine fx_iload rfl rfl ?_
            obtain ⟨q5, e_q5, h⟩ := fx_bd h
            refine fx_call [.int a4] [.int q4] rfl (by decide) rfl rfl rfl rfl rfl (Nat.le_of_ble_eq_true rfl) rfl (v_I_bitCount  e_q5) ?_
            by_cases c_5 : q5 ≤ q4
            · replace h := (if_pos c_5).symm.trans h
              refine fx_icge_j rfl rfl c_5 ?_
              refine fx_iinc rfl (show Int32.ofInt 1 = (1 : Int32) by decide) rfl rfl ?_
              refine fx_back rfl rfl rfl ?_
              exact ih _ _ h
            · replace h := (if_neg c_5).symm.trans h
              refine fx_icge_s rfl c_5 ?_
              refine fx_iload rfl rfl ?_
              refine fx_istore rfl rfl ?_
              refine fx_iinc rfl (show Int32.ofInt 1 = (1 : Int32) by decide) rfl rfl ?_
              refine fx_back rfl rfl rfl ?_
              exact ih _ _ h
        · replace h := (if_neg c_3).symm.trans h
          refine fx_icne_j rfl rfl c_3 ?_
          refine fx_iinc rfl (show Int32.ofInt 1 = (1 : Int32) by decide) rfl rfl ?_
          refine fx_back rfl rfl rfl ?_
          exact ih _ _ h
      · replace h := (if_neg c_2).symm.trans h
        refine fx_ifne_j rfl rfl c_2 ?_
        refine fx_iinc rfl (show Int32.ofInt 1 = (1 : Int32) by decide) rfl rfl ?_
        refine fx_back rfl rfl rfl ?_
        exact ih _ _ h
def g_L_smallestRow (M : fv_M) (i0 : Nat) (a1 : Int32) (a2 : Int32) : Option (Int32) := (g_L_nounsOf M i0 a1).bind fun q1 => g_L_smallestRow_13 M i0 a1 a2 q1 fx_FU (-4 : Int32) (1 : Int32) (fun b4_6 b5_6 => some b4_6)
theorem v_L_smallestRow {X : fv_X} {sh : fv_Sh} {k : Nat × Nat} {M : fv_M} {i0 : Nat} {a1 : Int32} {a2 : Int32} {r : Int32} (h0 : fx_atL sh i0) (h : g_L_smallestRow M i0 a1 a2 = some r) : fv_Rn X 20 0 [some (.ref i0), some (.int a1), some (.int a2)] [] k sh M (some (.int r), sh, M) := by
  unfold g_L_smallestRow at h
  refine fx_aload rfl rfl ?_
  refine fx_iload rfl rfl ?_
  obtain ⟨q1, e_q1, h⟩ := fx_bd h
  refine fx_call [.ref i0, .int a1] [] rfl (by decide) rfl rfl rfl rfl rfl (Nat.le_of_ble_eq_true rfl) (fx_rcv h0.1 rfl) (v_L_nounsOf h0 e_q1) ?_
  refine fx_istore rfl rfl ?_
  refine fx_const rfl (show Int32.ofInt (-4) = (-4 : Int32) by decide) ?_
  refine fx_istore rfl rfl ?_
  refine fx_const rfl (show Int32.ofInt 1 = (1 : Int32) by decide) ?_
  refine fx_istore rfl rfl ?_
  refine v_L_smallestRow_13 h0 (fun b4_6 b5_6 h => ?_) fx_FU _ _ h
  refine fx_iload rfl rfl ?_
  obtain rfl := Option.some.inj h
  exact fx_ret rfl rfl

def g_L_worksIn_4 (M : fv_M) (i0 : Nat) (a1 : Int32) : Nat → Int32 → Int32 → (Int32 → Int32 → Option (Int32)) → Option (Int32)
  | 0, _, _, _ => none
  | n + 1, a2, a3, kk => if (M i0 3) ≤ a3 then (kk a2 a3) else ((g_X_at M (i0 + 7) 8 a3).bind fun q1 => if q1 = a1 then (g_L_worksIn_4 M i0 a1 n (a2 ||| ((1 : Int32) <<< (a3 &&& 31))) (a3 + (1 : Int32)) kk) else (g_L_worksIn_4 M i0 a1 n (a2 ||| (0 : Int32)) (a3 + (1 : Int32)) kk))
theorem v_L_worksIn_4 {X : fv_X} {sh : fv_Sh} {k : Nat × Nat} {M : fv_M} {i0 : Nat} {a1 : Int32} {r : Int32} {kk : Int32 → Int32 → Option (Int32)} (h0 : fx_atL sh i0) (K : ∀ (a2 a3 : Int32), kk a2 a3 = some r → fv_Rn X 21 40 [some (.ref i0), some (.int a1), some (.int a2), some (.int a3)] [] k sh M (some (.int r), sh, M)) : ∀ (n : Nat) (a2 a3 : Int32), g_L_worksIn_4 M i0 a1 n a2 a3 kk = some r → fv_Rn X 21 4 [some (.ref i0), some (.int a1), some (.int a2), some (.int a3)] [] k sh M (some (.int r), sh, M) := by
  intro n
  induction n with
  | zero =>
    intro a2 a3 h
    replace h : (none : Option (Int32)) = some r := h
    cases h
  | succ n ih =>
    intro a2 a3 h
    rw [g_L_worksIn_4] at h
    refine fx_iload rfl rfl ?_
    refine fx_aload rfl rfl ?_
    refine fx_getI rfl h0.1 rfl rfl ?_
    by_cases c_1 : (M i0 3) ≤ a3
    · replace h := (if_pos c_1).symm.trans h
      refine fx_icge_j rfl rfl c_1 ?_
      exact K _ _ h
    · replace h := (if_neg c_1).symm.trans h
      refine fx_icge_s rfl c_1 ?_
      refine fx_iload rfl rfl ?_
      refine fx_aload rfl rfl ?_
      refine fx_getV rfl h0.1 rfl rfl ?_
      refine fx_iload rfl rfl ?_
      obtain ⟨q1, e_q1, h⟩ := fx_bd h
      refine fx_call [.ref (i0 + 7), .int a3] [.int a2] rfl (by decide) rfl rfl rfl rfl rfl (Nat.le_of_ble_eq_true rfl) rfl (v_X_at h0.2.2.2.2.2.2.2.1 e_q1) ?_
      refine fx_iload rfl rfl ?_
      by_cases c_2 : q1 = a1
      · replace h := (if_pos c_2).symm.trans h
        refine fx_icne_s rfl c_2 ?_
        refine fx_const rfl (show Int32.ofInt 1 = (1 : Int32) by decide) ?_
        refine fx_iload rfl rfl ?_
        refine fx_ishl rfl ?_
        refine fx_goto rfl rfl ?_
        refine fx_ior rfl ?_
        refine fx_istore rfl rfl ?_
        refine fx_iinc rfl (show Int32.ofInt 1 = (1 : Int32) by decide) rfl rfl ?_
        refine fx_back rfl rfl rfl ?_
        exact ih _ _ h
      · replace h := (if_neg c_2).symm.trans h
        refine fx_icne_j rfl rfl c_2 ?_
        refine fx_const rfl (show Int32.ofInt 0 = (0 : Int32) by decide) ?_
        refine fx_ior rfl ?_
        refine fx_istore rfl rfl ?_
        refine fx_iinc rfl (show Int32.ofInt 1 = (1 : Int32) by decide) rfl rfl ?_
        refine fx_back rfl rfl rfl ?_
        exact ih _ _ h
def g_L_worksIn (M : fv_M) (i0 : Nat) (a1 : Int32) : Option (Int32) := g_L_worksIn_4 M i0 a1 fx_FU (0 : Int32) (0 : Int32) (fun b2_2 b3_2 => some b2_2)
theorem v_L_worksIn {X : fv_X} {sh : fv_Sh} {k : Nat × Nat} {M : fv_M} {i0 : Nat} {a1 : Int32} {r : Int32} (h0 : fx_atL sh i0) (h : g_L_worksIn M i0 a1 = some r) : fv_Rn X 21 0 [some (.ref i0), some (.int a1)] [] k sh M (some (.int r), sh, M) := by
  unfold g_L_worksIn at h
  refine fx_const rfl (show Int32.ofInt 0 = (0 : Int32) by decide) ?_
  refine fx_istore rfl rfl ?_
  refine fx_const rfl (show Int32.ofInt 0 = (0 : Int32) by decide) ?_
  refine fx_istore rfl rfl ?_
  refine v_L_worksIn_4 h0 (fun b2_2 b3_2 h => ?_) fx_FU _ _ h
  refine fx_iload rfl rfl ?_
  obtain rfl := Option.some.inj h
  exact fx_ret rfl rfl

def g_L_worksLike_6 (M : fv_M) (i0 : Nat) (a1 : Int32) (a2 : Int32) (a3 : Int32) : Nat → Int32 → Int32 → (Int32 → Int32 → Option (Int32)) → Option (Int32)
  | 0, _, _, _ => none
  | n + 1, a4, a5, kk => if (M i0 3) ≤ a5 then (kk a4 a5) else ((g_X_at M (i0 + 7) 8 a5).bind fun q1 => if q1 = a1 then ((g_X_at M (i0 + 8) 8 a5).bind fun q2 => if q2 = a2 then ((g_X_at M (i0 + 9) 8 a5).bind fun q3 => if q3 = a3 then (g_L_worksLike_6 M i0 a1 a2 a3 n (a4 + (1 : Int32)) (a5 + (1 : Int32)) kk) else (g_L_worksLike_6 M i0 a1 a2 a3 n a4 (a5 + (1 : Int32)) kk)) else (g_L_worksLike_6 M i0 a1 a2 a3 n a4 (a5 + (1 : Int32)) kk)) else (g_L_worksLike_6 M i0 a1 a2 a3 n a4 (a5 + (1 : Int32)) kk))
theorem v_L_worksLike_6 {X : fv_X} {sh : fv_Sh} {k : Nat × Nat} {M : fv_M} {i0 : Nat} {a1 : Int32} {a2 : Int32} {a3 : Int32} {r : Int32} {kk : Int32 → Int32 → Option (Int32)} (h0 : fx_atL sh i0) (K : ∀ (a4 a5 : Int32), kk a4 a5 = some r → fv_Rn X 23 63 [some (.ref i0), some (.int a1), some (.int a2), some (.int a3), some (.int a4), some (.int a5)] [] k sh M (some (.int r), sh, M)) : ∀ (n : Nat) (a4 a5 : Int32), g_L_worksLike_6 M i0 a1 a2 a3 n a4 a5 kk = some r → fv_Rn X 23 6 [some (.ref i0), some (.int a1), some (.int a2), some (.int a3), some (.int a4), some (.int a5)] [] k sh M (some (.int r), sh, M) := by
  intro n
  induction n with
  | zero =>
    intro a4 a5 h
    replace h : (none : Option (Int32)) = some r := h
    cases h
  | succ n ih =>
    intro a4 a5 h
    rw [g_L_worksLike_6] at h
    refine fx_iload rfl rfl ?_
    refine fx_aload rfl rfl ?_
    refine fx_getI rfl h0.1 rfl rfl ?_
    by_cases c_1 : (M i0 3) ≤ a5
    · replace h := (if_pos c_1).symm.trans h
      refine fx_icge_j rfl rfl c_1 ?_
      exact K _ _ h
    · replace h := (if_neg c_1).symm.trans h
      refine fx_icge_s rfl c_1 ?_
      refine fx_aload rfl rfl ?_
      refine fx_getV rfl h0.1 rfl rfl ?_
      refine fx_iload rfl rfl ?_
      obtain ⟨q1, e_q1, h⟩ := fx_bd h
      refine fx_call [.ref (i0 + 7), .int a5] [] rfl (by decide) rfl rfl rfl rfl rfl (Nat.le_of_ble_eq_true rfl) rfl (v_X_at h0.2.2.2.2.2.2.2.1 e_q1) ?_
      refine fx_iload rfl rfl ?_
      by_cases c_2 : q1 = a1
      · replace h := (if_pos c_2).symm.trans h
        refine fx_icne_s rfl c_2 ?_
        refine fx_aload rfl rfl ?_
        refine fx_getV rfl h0.1 rfl rfl ?_
        refine fx_iload rfl rfl ?_
        obtain ⟨q2, e_q2, h⟩ := fx_bd h
        refine fx_call [.ref (i0 + 8), .int a5] [] rfl (by decide) rfl rfl rfl rfl rfl (Nat.le_of_ble_eq_true rfl) rfl (v_X_at h0.2.2.2.2.2.2.2.2.1 e_q2) ?_
        refine fx_iload rfl rfl ?_
        by_cases c_3 : q2 = a2
        · replace h := (if_pos c_3).symm.trans h
          refine fx_icne_s rfl c_3 ?_
          refine fx_aload rfl rfl ?_
          refine fx_getV rfl h0.1 rfl rfl ?_
          refine fx_iload rfl rfl ?_
          obtain ⟨q3, e_q3, h⟩ := fx_bd h
          refine fx_call [.ref (i0 + 9), .int a5] [] rfl (by decide) rfl rfl rfl rfl rfl (Nat.le_of_ble_eq_true rfl) rfl (v_X_at h0.2.2.2.2.2.2.2.2.2 e_q3) ?_
          refine fx_iload rfl rfl ?_
          by_cases c_4 : q3 = a3
          · replace h := (if_pos c_4).symm.trans h
            refine fx_icne_s rfl c_4 ?_
            refine fx_iinc rfl (show Int32.ofInt 1 = (1 : Int32) by decide) rfl rfl ?_
            refine fx_iinc rfl (show Int32.ofInt 1 = (1 : Int32) by decide) rfl rfl ?_
            refine fx_back rfl rfl rfl ?_
            exact ih _ _ h
          · replace h := (if_neg c_4).symm.trans h
            refine fx_icne_j rfl rfl c_4 ?_
            refine fx_iinc rfl (show Int32.ofInt 1 = (1 : Int32) by decide) rfl rfl ?_
            refine fx_back rfl rfl rfl ?_
            exact ih _ _ h
        · replace h := (if_neg c_3).symm.trans h
          refine fx_icne_j rfl rfl c_3 ?_
          refine fx_iinc rfl (show Int32.ofInt 1 = (1 : Int32) by decide) rfl rfl ?_
          refine fx_back rfl rfl rfl ?_
          exact ih _ _ h
      · replace h := (if_neg c_2).symm.trans h
        refine fx_icne_j rfl rfl c_2 ?_
        refine fx_iinc rfl (show Int32.ofInt 1 = (1 : Int32) by decide) rfl rfl ?_
        refine fx_back rfl rfl rfl ?_
        exact ih _ _ h
def g_L_worksLike (M : fv_M) (i0 : Nat) (a1 : Int32) (a2 : Int32) (a3 : Int32) : Option (Int32) := g_L_worksLike_6 M i0 a1 a2 a3 fx_FU (0 : Int32) (0 : Int32) (fun b4_4 b5_4 => some b4_4)
theorem v_L_worksLike {X : fv_X} {sh : fv_Sh} {k : Nat × Nat} {M : fv_M} {i0 : Nat} {a1 : Int32} {a2 : Int32} {a3 : Int32} {r : Int32} (h0 : fx_atL sh i0) (h : g_L_worksLike M i0 a1 a2 a3 = some r) : fv_Rn X 23 0 [some (.ref i0), some (.int a1), some (.int a2), some (.int a3)] [] k sh M (some (.int r), sh, M) := by
  unfold g_L_worksLike at h
  refine fx_const rfl (show Int32.ofInt 0 = (0 : Int32) by decide) ?_
  refine fx_istore rfl rfl ?_
  refine fx_const rfl (show Int32.ofInt 0 = (0 : Int32) by decide) ?_
  refine fx_istore rfl rfl ?_
  refine v_L_worksLike_6 h0 (fun b4_4 b5_4 h => ?_) fx_FU _ _ h
  refine fx_iload rfl rfl ?_
  obtain rfl := Option.some.inj h
  exact fx_ret rfl rfl

def g_L_worksSaidBy_5 (M : fv_M) (i0 : Nat) (a1 : Int32) (a2 : Int32) : Nat → Int32 → Int32 → (Int32 → Int32 → Option (Int32)) → Option (Int32)
  | 0, _, _, _ => none
  | n + 1, a3, a4, kk => if (9 : Int32) < a4 then (kk a3 a4) else ((g_L_worksLike M i0 a1 a2 a4).bind fun q1 => g_L_worksSaidBy_5 M i0 a1 a2 n (a3 + q1) (a4 + (1 : Int32)) kk)
theorem v_L_worksSaidBy_5 {X : fv_X} {sh : fv_Sh} {k : Nat × Nat} {M : fv_M} {i0 : Nat} {a1 : Int32} {a2 : Int32} {r : Int32} {kk : Int32 → Int32 → Option (Int32)} (h0 : fx_atL sh i0) (K : ∀ (a3 a4 : Int32), kk a3 a4 = some r → fv_Rn X 22 29 [some (.ref i0), some (.int a1), some (.int a2), some (.int a3), some (.int a4)] [] k sh M (some (.int r), sh, M)) : ∀ (n : Nat) (a3 a4 : Int32), g_L_worksSaidBy_5 M i0 a1 a2 n a3 a4 kk = some r → fv_Rn X 22 5 [some (.ref i0), some (.int a1), some (.int a2), some (.int a3), some (.int a4)] [] k sh M (some (.int r), sh, M) := by
  intro n
  induction n with
  | zero =>
    intro a3 a4 h
    replace h : (none : Option (Int32)) = some r := h
    cases h
  | succ n ih =>
    intro a3 a4 h
    rw [g_L_worksSaidBy_5] at h
    refine fx_iload rfl rfl ?_
    refine fx_const rfl (show Int32.ofInt 9 = (9 : Int32) by decide) ?_
    by_cases c_1 : (9 : Int32) < a4
    · replace h := (if_pos c_1).symm.trans h
      refine fx_icgt_j rfl rfl c_1 ?_
      exact K _ _ h
    · replace h := (if_neg c_1).symm.trans h
      refine fx_icgt_s rfl c_1 ?_
      refine fx_iload rfl rfl ?_
      refine fx_aload rfl rfl ?_
      refine fx_iload rfl rfl ?_
      refine fx_iload rfl rfl ?_
      refine fx_iload rfl rfl ?_
      obtain ⟨q1, e_q1, h⟩ := fx_bd h
      refine fx_call [.ref i0, .int a1, .int a2, .int a4] [.int a3] rfl (by decide) rfl rfl rfl rfl rfl (Nat.le_of_ble_eq_true rfl) (fx_rcv h0.1 rfl) (v_L_worksLike h0 e_q1) ?_
      refine fx_iadd rfl ?_
      refine fx_istore rfl rfl ?_
      refine fx_iinc rfl (show Int32.ofInt 1 = (1 : Int32) by decide) rfl rfl ?_
      refine fx_back rfl rfl rfl ?_
      exact ih _ _ h
def g_L_worksSaidBy (M : fv_M) (i0 : Nat) (a1 : Int32) (a2 : Int32) : Option (Int32) := g_L_worksSaidBy_5 M i0 a1 a2 fx_FU (0 : Int32) (1 : Int32) (fun b3_2 b4_2 => some b3_2)
theorem v_L_worksSaidBy {X : fv_X} {sh : fv_Sh} {k : Nat × Nat} {M : fv_M} {i0 : Nat} {a1 : Int32} {a2 : Int32} {r : Int32} (h0 : fx_atL sh i0) (h : g_L_worksSaidBy M i0 a1 a2 = some r) : fv_Rn X 22 0 [some (.ref i0), some (.int a1), some (.int a2)] [] k sh M (some (.int r), sh, M) := by
  unfold g_L_worksSaidBy at h
  refine fx_const rfl (show Int32.ofInt 0 = (0 : Int32) by decide) ?_
  refine fx_istore rfl rfl ?_
  refine fx_const rfl (show Int32.ofInt 1 = (1 : Int32) by decide) ?_
  refine fx_istore rfl rfl ?_
  refine v_L_worksSaidBy_5 h0 (fun b3_2 b4_2 h => ?_) fx_FU _ _ h
  refine fx_iload rfl rfl ?_
  obtain rfl := Option.some.inj h
  exact fx_ret rfl rfl

def g_X_copy_2 (c0 : Nat) (n0 : Nat) (c1 : Nat) (n1 : Nat) : Nat → fv_M → Int32 → (fv_M → Int32 → Option (fv_M)) → Option (fv_M)
  | 0, _, _, _ => none
  | n + 1, M, a2, kk => if (Int32.ofNat n0) ≤ a2 then (kk M a2) else (if (Int32.ofNat n1) ≤ a2 then (kk M a2) else (fx_ck (a2 < 0 ∨ n0 ≤ (a2).toNatClampNeg) (fx_ck (a2 < 0 ∨ n1 ≤ (a2).toNatClampNeg) (g_X_copy_2 c0 n0 c1 n1 n (fv_set M c1 (a2).toNatClampNeg (M c0 (a2).toNatClampNeg)) (a2 + (1 : Int32)) kk))))
theorem v_X_copy_2 {X : fv_X} {sh : fv_Sh} {k : Nat × Nat} {c0 : Nat} {n0 : Nat} {c1 : Nat} {n1 : Nat} {r : fv_M} {kk : fv_M → Int32 → Option (fv_M)} (h0 : sh[c0]? = some (.inl (0, n0))) (h1 : sh[c1]? = some (.inl (0, n1))) (K : ∀ (M : fv_M) (a2 : Int32), kk M a2 = some r → fv_Rn X 102 26 [some (.ref c0), some (.ref c1), some (.int a2)] [] k sh M (none, sh, r)) : ∀ (n : Nat) (M : fv_M) (a2 : Int32), g_X_copy_2 c0 n0 c1 n1 n M a2 kk = some r → fv_Rn X 102 2 [some (.ref c0), some (.ref c1), some (.int a2)] [] k sh M (none, sh, r) := by
  intro n
  induction n with
  | zero =>
    intro M a2 h
    replace h : (none : Option (fv_M)) = some r := h
    cases h
  | succ n ih =>
    intro M a2 h
    rw [g_X_copy_2] at h
    refine fx_iload rfl rfl ?_
    refine fx_aload rfl rfl ?_
    refine fx_alen rfl (fun z => absurd z.1 (by decide)) h0 (by decide) rfl ?_
    by_cases c_1 : (Int32.ofNat n0) ≤ a2
    · replace h := (if_pos c_1).symm.trans h
      refine fx_icge_j rfl rfl c_1 ?_
      exact K _ _ h
    · replace h := (if_neg c_1).symm.trans h
      refine fx_icge_s rfl c_1 ?_
      refine fx_iload rfl rfl ?_
      refine fx_aload rfl rfl ?_
      refine fx_alen rfl (fun z => absurd z.1 (by decide)) h1 (by decide) rfl ?_
      by_cases c_2 : (Int32.ofNat n1) ≤ a2
      · replace h := (if_pos c_2).symm.trans h
        refine fx_icge_j rfl rfl c_2 ?_
        exact K _ _ h
      · replace h := (if_neg c_2).symm.trans h
        refine fx_icge_s rfl c_2 ?_
        refine fx_aload rfl rfl ?_
        refine fx_iload rfl rfl ?_
        refine fx_aload rfl rfl ?_
        refine fx_iload rfl rfl ?_
        obtain ⟨c_3, h⟩ := fx_ck_some h
        refine fx_iaload rfl (fun z => absurd z.1 (by decide)) h0 c_3 ?_
        obtain ⟨c_4, h⟩ := fx_ck_some h
        refine fx_iastore rfl h1 c_4 ?_
        refine fx_iinc rfl (show Int32.ofInt 1 = (1 : Int32) by decide) rfl rfl ?_
        refine fx_back rfl rfl rfl ?_
        exact ih _ _ h
def g_X_copy (M : fv_M) (c0 : Nat) (n0 : Nat) (c1 : Nat) (n1 : Nat) : Option (fv_M) := g_X_copy_2 c0 n0 c1 n1 fx_FU M (0 : Int32) (fun M_1 b2_1 => some M_1)
theorem v_X_copy {X : fv_X} {sh : fv_Sh} {k : Nat × Nat} {M : fv_M} {c0 : Nat} {n0 : Nat} {c1 : Nat} {n1 : Nat} {r : fv_M} (h0 : sh[c0]? = some (.inl (0, n0))) (h1 : sh[c1]? = some (.inl (0, n1))) (h : g_X_copy M c0 n0 c1 n1 = some r) : fv_Rn X 102 0 [some (.ref c0), some (.ref c1)] [] k sh M (none, sh, r) := by
  unfold g_X_copy at h
  refine fx_const rfl (show Int32.ofInt 0 = (0 : Int32) by decide) ?_
  refine fx_istore rfl rfl ?_
  refine v_X_copy_2 h0 h1 (fun M_1 b2_1 h => ?_) fx_FU _ _ h
  obtain rfl := Option.some.inj h
  exact fx_vret rfl rfl

def g_S_become (M : fv_M) (i0 : Nat) (i1 : Nat) : Option (fv_M) := (g_X_copy (fv_set M i0 0 (M i1 0)) (i1 + 1) 24 (i0 + 1) 24).bind fun q1 => (g_X_copy q1 (i1 + 2) 4 (i0 + 2) 4).bind fun q2 => (g_X_copy q2 (i1 + 3) 8 (i0 + 3) 8).bind fun q3 => (g_X_copy q3 (i1 + 4) 8 (i0 + 4) 8).bind fun q4 => some q4
theorem v_S_become {X : fv_X} {sh : fv_Sh} {k : Nat × Nat} {M : fv_M} {i0 : Nat} {i1 : Nat} {r : fv_M} (h0 : fx_atS sh i0) (h1 : fx_atS sh i1) (h : g_S_become M i0 i1 = some r) : fv_Rn X 29 0 [some (.ref i0), some (.ref i1)] [] k sh M (none, sh, r) := by
  unfold g_S_become at h
  refine fx_aload rfl rfl ?_
  refine fx_aload rfl rfl ?_
  refine fx_getI rfl h1.1 rfl rfl ?_
  refine fx_putI rfl h0.1 rfl rfl rfl ?_
  refine fx_aload rfl rfl ?_
  refine fx_getV rfl h1.1 rfl rfl ?_
  refine fx_aload rfl rfl ?_
  refine fx_getV rfl h0.1 rfl rfl ?_
  obtain ⟨q1, e_q1, h⟩ := fx_bd h
  refine fx_call [.ref (i1 + 1), .ref (i0 + 1)] [] rfl (by decide) rfl rfl rfl rfl rfl (Nat.le_of_ble_eq_true rfl) rfl (v_X_copy h1.2.1 h0.2.1 e_q1) ?_
  refine fx_aload rfl rfl ?_
  refine fx_getV rfl h1.1 rfl rfl ?_
  refine fx_aload rfl rfl ?_
  refine fx_getV rfl h0.1 rfl rfl ?_
  obtain ⟨q2, e_q2, h⟩ := fx_bd h
  refine fx_call [.ref (i1 + 2), .ref (i0 + 2)] [] rfl (by decide) rfl rfl rfl rfl rfl (Nat.le_of_ble_eq_true rfl) rfl (v_X_copy h1.2.2.1 h0.2.2.1 e_q2) ?_
  refine fx_aload rfl rfl ?_
  refine fx_getV rfl h1.1 rfl rfl ?_
  refine fx_aload rfl rfl ?_
  refine fx_getV rfl h0.1 rfl rfl ?_
  obtain ⟨q3, e_q3, h⟩ := fx_bd h
  refine fx_call [.ref (i1 + 3), .ref (i0 + 3)] [] rfl (by decide) rfl rfl rfl rfl rfl (Nat.le_of_ble_eq_true rfl) rfl (v_X_copy h1.2.2.2.1 h0.2.2.2.1 e_q3) ?_
  refine fx_aload rfl rfl ?_
  refine fx_getV rfl h1.1 rfl rfl ?_
  refine fx_aload rfl rfl ?_
  refine fx_getV rfl h0.1 rfl rfl ?_
  obtain ⟨q4, e_q4, h⟩ := fx_bd h
  refine fx_call [.ref (i1 + 4), .ref (i0 + 4)] [] rfl (by decide) rfl rfl rfl rfl rfl (Nat.le_of_ble_eq_true rfl) rfl (v_X_copy h1.2.2.2.2 h0.2.2.2.2 e_q4) ?_
  obtain rfl := Option.some.inj h
  exact fx_vret rfl rfl

def g_F_shelve (M : fv_M) (i0 : Nat) (n0 : Nat) (i1 : Nat) : Option (fv_M) := if (M i0 2) < 0 then (some M) else (if (Int32.ofNat n0) ≤ (M i0 2) then (some M) else (fx_ck ((M i0 2) < 0 ∨ n0 ≤ ((M i0 2)).toNatClampNeg) ((g_S_become M (i0 + 2 + 5 * ((M i0 2)).toNatClampNeg) i1).bind fun q1 => if (Int32.ofNat n0) ≤ ((q1 i0 2) + (1 : Int32)) then (some (fv_set (fv_set q1 i0 2 (0 : Int32)) i0 1 (if (Int32.ofNat n0) < (((fv_set q1 i0 2 (0 : Int32)) i0 1) + (1 : Int32)) then (Int32.ofNat n0) else (((fv_set q1 i0 2 (0 : Int32)) i0 1) + (1 : Int32))))) else (some (fv_set (fv_set q1 i0 2 ((q1 i0 2) + (1 : Int32))) i0 1 (if (Int32.ofNat n0) < (((fv_set q1 i0 2 ((q1 i0 2) + (1 : Int32))) i0 1) + (1 : Int32)) then (Int32.ofNat n0) else (((fv_set q1 i0 2 ((q1 i0 2) + (1 : Int32))) i0 1) + (1 : Int32))))))))
theorem v_F_shelve {X : fv_X} {sh : fv_Sh} {k : Nat × Nat} {M : fv_M} {i0 : Nat} {n0 : Nat} {i1 : Nat} {r : fv_M} (h0 : fx_atF sh i0 n0) (h1 : fx_atS sh i1) (h : g_F_shelve M i0 n0 i1 = some r) : fv_Rn X 25 0 [some (.ref i0), some (.ref i1)] [] k sh M (none, sh, r) := by
  unfold g_F_shelve at h
  refine fx_aload rfl rfl ?_
  refine fx_getI rfl h0.1 rfl rfl ?_
  by_cases c_1 : (M i0 2) < 0
  · replace h := (if_pos c_1).symm.trans h
    refine fx_iflt_j rfl rfl c_1 ?_
    obtain rfl := Option.some.inj h
    exact fx_vret rfl rfl
  · replace h := (if_neg c_1).symm.trans h
    refine fx_iflt_s rfl c_1 ?_
    refine fx_aload rfl rfl ?_
    refine fx_getI rfl h0.1 rfl rfl ?_
    refine fx_aload rfl rfl ?_
    refine fx_getV rfl h0.1 rfl rfl ?_
    refine fx_aleno rfl (fun z => absurd z.1 (by decide)) h0.2.1 (fx_refs_len _ _) ?_
    by_cases c_2 : (Int32.ofNat n0) ≤ (M i0 2)
    · replace h := (if_pos c_2).symm.trans h
      refine fx_icge_j rfl rfl c_2 ?_
      obtain rfl := Option.some.inj h
      exact fx_vret rfl rfl
    · replace h := (if_neg c_2).symm.trans h
      refine fx_icge_s rfl c_2 ?_
      refine fx_aload rfl rfl ?_
      refine fx_getV rfl h0.1 rfl rfl ?_
      refine fx_aload rfl rfl ?_
      refine fx_getI rfl h0.1 rfl rfl ?_
      obtain ⟨c_3, h⟩ := fx_ck_some h
      refine fx_aaload rfl h0.2.1 (fx_refs_len _ _) c_3 (fx_refs_at c_3) ?_
      refine fx_ifnull rfl ?_
      refine fx_aload rfl rfl ?_
      refine fx_getV rfl h0.1 rfl rfl ?_
      refine fx_aload rfl rfl ?_
      refine fx_getI rfl h0.1 rfl rfl ?_
      refine fx_aaload rfl h0.2.1 (fx_refs_len _ _) c_3 (fx_refs_at c_3) ?_
      refine fx_aload rfl rfl ?_
      obtain ⟨q1, e_q1, h⟩ := fx_bd h
      refine fx_call [.ref (i0 + 2 + 5 * ((M i0 2)).toNatClampNeg), .ref i1] [] rfl (by decide) rfl rfl rfl rfl rfl (Nat.le_of_ble_eq_true rfl) (fx_rcv (h0.2.2 _ (fx_in c_3)).1 rfl) (v_S_become ((h0.2.2 _ (fx_in c_3))) h1 e_q1) ?_
      refine fx_aload rfl rfl ?_
      refine fx_aload rfl rfl ?_
      refine fx_getI rfl h0.1 rfl rfl ?_
      refine fx_const rfl (show Int32.ofInt 1 = (1 : Int32) by decide) ?_
      refine fx_iadd rfl ?_
      refine fx_aload rfl rfl ?_
      refine fx_getV rfl h0.1 rfl rfl ?_
      refine fx_aleno rfl (fun z => absurd z.1 (by decide)) h0.2.1 (fx_refs_len _ _) ?_
      by_cases c_4 : (Int32.ofNat n0) ≤ ((q1 i0 2) + (1 : Int32))
      · replace h := (if_pos c_4).symm.trans h
        refine fx_icge_j rfl rfl c_4 ?_
        refine fx_const rfl (show Int32.ofInt 0 = (0 : Int32) by decide) ?_
        refine fx_putI rfl h0.1 rfl rfl rfl ?_
        refine fx_aload rfl rfl ?_
        refine fx_aload rfl rfl ?_
        refine fx_getI rfl h0.1 rfl rfl ?_
        refine fx_const rfl (show Int32.ofInt 1 = (1 : Int32) by decide) ?_
        refine fx_iadd rfl ?_
        refine fx_aload rfl rfl ?_
        refine fx_getV rfl h0.1 rfl rfl ?_
        refine fx_aleno rfl (fun z => absurd z.1 (by decide)) h0.2.1 (fx_refs_len _ _) ?_
        refine fx_dsub rfl (Nat.le_of_ble_eq_true rfl) ?_
        refine fx_putI rfl h0.1 rfl rfl rfl ?_
        obtain rfl := Option.some.inj h
        exact fx_vret rfl rfl
      · replace h := (if_neg c_4).symm.trans h
        refine fx_icge_s rfl c_4 ?_
        refine fx_aload rfl rfl ?_
        refine fx_getI rfl h0.1 rfl rfl ?_
        refine fx_const rfl (show Int32.ofInt 1 = (1 : Int32) by decide) ?_
        refine fx_iadd rfl ?_
        refine fx_goto rfl rfl ?_
        refine fx_putI rfl h0.1 rfl rfl rfl ?_
        refine fx_aload rfl rfl ?_
        refine fx_aload rfl rfl ?_
        refine fx_getI rfl h0.1 rfl rfl ?_
        refine fx_const rfl (show Int32.ofInt 1 = (1 : Int32) by decide) ?_
        refine fx_iadd rfl ?_
        refine fx_aload rfl rfl ?_
        refine fx_getV rfl h0.1 rfl rfl ?_
        refine fx_aleno rfl (fun z => absurd z.1 (by decide)) h0.2.1 (fx_refs_len _ _) ?_
        refine fx_dsub rfl (Nat.le_of_ble_eq_true rfl) ?_
        refine fx_putI rfl h0.1 rfl rfl rfl ?_
        obtain rfl := Option.some.inj h
        exact fx_vret rfl rfl

def g_F_takeInto (M : fv_M) (i0 : Nat) (n0 : Nat) (i1 : Nat) : Option (Int32 × fv_M) := if (M i0 2) ≤ 0 then (if (M i0 1) ≤ 0 then (some ((0 : Int32), M)) else (if ((Int32.ofNat n0) - (1 : Int32)) < 0 then (some ((0 : Int32), M)) else (if (Int32.ofNat n0) ≤ ((Int32.ofNat n0) - (1 : Int32)) then (some ((0 : Int32), M)) else (fx_ck (((Int32.ofNat n0) - (1 : Int32)) < 0 ∨ n0 ≤ (((Int32.ofNat n0) - (1 : Int32))).toNatClampNeg) ((g_S_become M i1 (i0 + 2 + 5 * (((Int32.ofNat n0) - (1 : Int32))).toNatClampNeg)).bind fun q1 => some ((1 : Int32), (fv_set (fv_set q1 i0 2 ((Int32.ofNat n0) - (1 : Int32))) i0 1 (((fv_set q1 i0 2 ((Int32.ofNat n0) - (1 : Int32))) i0 1) - (1 : Int32))))))))) else (if (M i0 1) ≤ 0 then (some ((0 : Int32), M)) else (if ((M i0 2) - (1 : Int32)) < 0 then (some ((0 : Int32), M)) else (if (Int32.ofNat n0) ≤ ((M i0 2) - (1 : Int32)) then (some ((0 : Int32), M)) else (fx_ck (((M i0 2) - (1 : Int32)) < 0 ∨ n0 ≤ (((M i0 2) - (1 : Int32))).toNatClampNeg) ((g_S_become M i1 (i0 + 2 + 5 * (((M i0 2) - (1 : Int32))).toNatClampNeg)).bind fun q2 => some ((1 : Int32), (fv_set (fv_set q2 i0 2 ((M i0 2) - (1 : Int32))) i0 1 (((fv_set q2 i0 2 ((M i0 2) - (1 : Int32))) i0 1) - (1 : Int32)))))))))
theorem v_F_takeInto {X : fv_X} {sh : fv_Sh} {k : Nat × Nat} {M : fv_M} {i0 : Nat} {n0 : Nat} {i1 : Nat} {r : Int32 × fv_M} (h0 : fx_atF sh i0 n0) (h1 : fx_atS sh i1) (h : g_F_takeInto M i0 n0 i1 = some r) : fv_Rn X 26 0 [some (.ref i0), some (.ref i1)] [] k sh M (some (.int r.1), sh, r.2) := by
  unfold g_F_takeInto at h
  refine fx_aload rfl rfl ?_
  refine fx_getI rfl h0.1 rfl rfl ?_
  by_cases c_1 : (M i0 2) ≤ 0
  · replace h := (if_pos c_1).symm.trans h
    refine fx_ifle_j rfl rfl c_1 ?_
    refine fx_aload rfl rfl ?_
    refine fx_getV rfl h0.1 rfl rfl ?_
    refine fx_aleno rfl (fun z => absurd z.1 (by decide)) h0.2.1 (fx_refs_len _ _) ?_
    refine fx_const rfl (show Int32.ofInt 1 = (1 : Int32) by decide) ?_
    refine fx_isub rfl ?_
    refine fx_istore rfl rfl ?_
    refine fx_aload rfl rfl ?_
    refine fx_getI rfl h0.1 rfl rfl ?_
    by_cases c_2 : (M i0 1) ≤ 0
    · replace h := (if_pos c_2).symm.trans h
      refine fx_ifle_j rfl rfl c_2 ?_
      refine fx_const rfl (show Int32.ofInt 0 = (0 : Int32) by decide) ?_
      obtain rfl := Option.some.inj h
      exact fx_ret rfl rfl
    · replace h := (if_neg c_2).symm.trans h
      refine fx_ifle_s rfl c_2 ?_
      refine fx_iload rfl rfl ?_
      by_cases c_3 : ((Int32.ofNat n0) - (1 : Int32)) < 0
      · replace h := (if_pos c_3).symm.trans h
        refine fx_iflt_j rfl rfl c_3 ?_
        refine fx_const rfl (show Int32.ofInt 0 = (0 : Int32) by decide) ?_
        obtain rfl := Option.some.inj h
        exact fx_ret rfl rfl
      · replace h := (if_neg c_3).symm.trans h
        refine fx_iflt_s rfl c_3 ?_
        refine fx_iload rfl rfl ?_
        refine fx_aload rfl rfl ?_
        refine fx_getV rfl h0.1 rfl rfl ?_
        refine fx_aleno rfl (fun z => absurd z.1 (by decide)) h0.2.1 (fx_refs_len _ _) ?_
        by_cases c_4 : (Int32.ofNat n0) ≤ ((Int32.ofNat n0) - (1 : Int32))
        · replace h := (if_pos c_4).symm.trans h
          refine fx_icge_j rfl rfl c_4 ?_
          refine fx_const rfl (show Int32.ofInt 0 = (0 : Int32) by decide) ?_
          obtain rfl := Option.some.inj h
          exact fx_ret rfl rfl
        · replace h := (if_neg c_4).symm.trans h
          refine fx_icge_s rfl c_4 ?_
          refine fx_aload rfl rfl ?_
          refine fx_getV rfl h0.1 rfl rfl ?_
          refine fx_iload rfl rfl ?_
          obtain ⟨c_5, h⟩ := fx_ck_some h
          refine fx_aaload rfl h0.2.1 (fx_refs_len _ _) c_5 (fx_refs_at c_5) ?_
          refine fx_ifnonnull rfl rfl ?_
          refine fx_aload rfl rfl ?_
          refine fx_aload rfl rfl ?_
          refine fx_getV rfl h0.1 rfl rfl ?_
          refine fx_iload rfl rfl ?_
          refine fx_aaload rfl h0.2.1 (fx_refs_len _ _) c_5 (fx_refs_at c_5) ?_
          obtain ⟨q1, e_q1, h⟩ := fx_bd h
          refine fx_call [.ref i1, .ref (i0 + 2 + 5 * (((Int32.ofNat n0) - (1 : Int32))).toNatClampNeg)] [] rfl (by decide) rfl rfl rfl rfl rfl (Nat.le_of_ble_eq_true rfl) (fx_rcv h1.1 rfl) (v_S_become h1 ((h0.2.2 _ (fx_in c_5))) e_q1) ?_
          refine fx_aload rfl rfl ?_
          refine fx_iload rfl rfl ?_
          refine fx_putI rfl h0.1 rfl rfl rfl ?_
          refine fx_aload rfl rfl ?_
          refine fx_dup rfl rfl ?_
          refine fx_getI rfl h0.1 rfl rfl ?_
          refine fx_const rfl (show Int32.ofInt 1 = (1 : Int32) by decide) ?_
          refine fx_isub rfl ?_
          refine fx_putI rfl h0.1 rfl rfl rfl ?_
          refine fx_const rfl (show Int32.ofInt 1 = (1 : Int32) by decide) ?_
          obtain rfl := Option.some.inj h
          exact fx_ret rfl rfl
  · replace h := (if_neg c_1).symm.trans h
    refine fx_ifle_s rfl c_1 ?_
    refine fx_aload rfl rfl ?_
    refine fx_getI rfl h0.1 rfl rfl ?_
    refine fx_const rfl (show Int32.ofInt 1 = (1 : Int32) by decide) ?_
    refine fx_isub rfl ?_
    refine fx_goto rfl rfl ?_
    refine fx_istore rfl rfl ?_
    refine fx_aload rfl rfl ?_
    refine fx_getI rfl h0.1 rfl rfl ?_
    by_cases c_6 : (M i0 1) ≤ 0
    · replace h := (if_pos c_6).symm.trans h
      refine fx_ifle_j rfl rfl c_6 ?_
      refine fx_const rfl (show Int32.ofInt 0 = (0 : Int32) by decide) ?_
      obtain rfl := Option.some.inj h
      exact fx_ret rfl rfl
    · replace h := (if_neg c_6).symm.trans h
      refine fx_ifle_s rfl c_6 ?_
      refine fx_iload rfl rfl ?_
      by_cases c_7 : ((M i0 2) - (1 : Int32)) < 0
      · replace h := (if_pos c_7).symm.trans h
        refine fx_iflt_j rfl rfl c_7 ?_
        refine fx_const rfl (show Int32.ofInt 0 = (0 : Int32) by decide) ?_
        obtain rfl := Option.some.inj h
        exact fx_ret rfl rfl
      · replace h := (if_neg c_7).symm.trans h
        refine fx_iflt_s rfl c_7 ?_
        refine fx_iload rfl rfl ?_
        refine fx_aload rfl rfl ?_
        refine fx_getV rfl h0.1 rfl rfl ?_
        refine fx_aleno rfl (fun z => absurd z.1 (by decide)) h0.2.1 (fx_refs_len _ _) ?_
        by_cases c_8 : (Int32.ofNat n0) ≤ ((M i0 2) - (1 : Int32))
        · replace h := (if_pos c_8).symm.trans h
          refine fx_icge_j rfl rfl c_8 ?_
          refine fx_const rfl (show Int32.ofInt 0 = (0 : Int32) by decide) ?_
          obtain rfl := Option.some.inj h
          exact fx_ret rfl rfl
        · replace h := (if_neg c_8).symm.trans h
          refine fx_icge_s rfl c_8 ?_
          refine fx_aload rfl rfl ?_
          refine fx_getV rfl h0.1 rfl rfl ?_
          refine fx_iload rfl rfl ?_
          obtain ⟨c_9, h⟩ := fx_ck_some h
          refine fx_aaload rfl h0.2.1 (fx_refs_len _ _) c_9 (fx_refs_at c_9) ?_
          refine fx_ifnonnull rfl rfl ?_
          refine fx_aload rfl rfl ?_
          refine fx_aload rfl rfl ?_
          refine fx_getV rfl h0.1 rfl rfl ?_
          refine fx_iload rfl rfl ?_
          refine fx_aaload rfl h0.2.1 (fx_refs_len _ _) c_9 (fx_refs_at c_9) ?_
          obtain ⟨q2, e_q2, h⟩ := fx_bd h
          refine fx_call [.ref i1, .ref (i0 + 2 + 5 * (((M i0 2) - (1 : Int32))).toNatClampNeg)] [] rfl (by decide) rfl rfl rfl rfl rfl (Nat.le_of_ble_eq_true rfl) (fx_rcv h1.1 rfl) (v_S_become h1 ((h0.2.2 _ (fx_in c_9))) e_q2) ?_
          refine fx_aload rfl rfl ?_
          refine fx_iload rfl rfl ?_
          refine fx_putI rfl h0.1 rfl rfl rfl ?_
          refine fx_aload rfl rfl ?_
          refine fx_dup rfl rfl ?_
          refine fx_getI rfl h0.1 rfl rfl ?_
          refine fx_const rfl (show Int32.ofInt 1 = (1 : Int32) by decide) ?_
          refine fx_isub rfl ?_
          refine fx_putI rfl h0.1 rfl rfl rfl ?_
          refine fx_const rfl (show Int32.ofInt 1 = (1 : Int32) by decide) ?_
          obtain rfl := Option.some.inj h
          exact fx_ret rfl rfl

def g_S_begin (M : fv_M) (i0 : Nat) (i1 : Nat) : Option (fv_M) := (g_X_copy (fv_set M i0 0 (0 : Int32)) (i1 + 6) 24 (i0 + 1) 24).bind fun q1 => (g_X_fill q1 (i0 + 2) 4 (-4 : Int32)).bind fun q2 => (g_X_fill q2 (i0 + 3) 8 (0 : Int32)).bind fun q3 => (g_X_fill q3 (i0 + 4) 8 (0 : Int32)).bind fun q4 => some q4
theorem v_S_begin {X : fv_X} {sh : fv_Sh} {k : Nat × Nat} {M : fv_M} {i0 : Nat} {i1 : Nat} {r : fv_M} (h0 : fx_atS sh i0) (h1 : fx_atL sh i1) (h : g_S_begin M i0 i1 = some r) : fv_Rn X 28 0 [some (.ref i0), some (.ref i1)] [] k sh M (none, sh, r) := by
  unfold g_S_begin at h
  refine fx_aload rfl rfl ?_
  refine fx_const rfl (show Int32.ofInt 0 = (0 : Int32) by decide) ?_
  refine fx_putI rfl h0.1 rfl rfl rfl ?_
  refine fx_aload rfl rfl ?_
  refine fx_getV rfl h1.1 rfl rfl ?_
  refine fx_aload rfl rfl ?_
  refine fx_getV rfl h0.1 rfl rfl ?_
  obtain ⟨q1, e_q1, h⟩ := fx_bd h
  refine fx_call [.ref (i1 + 6), .ref (i0 + 1)] [] rfl (by decide) rfl rfl rfl rfl rfl (Nat.le_of_ble_eq_true rfl) rfl (v_X_copy h1.2.2.2.2.2.2.1 h0.2.1 e_q1) ?_
  refine fx_aload rfl rfl ?_
  refine fx_getV rfl h0.1 rfl rfl ?_
  refine fx_const rfl (show Int32.ofInt (-4) = (-4 : Int32) by decide) ?_
  obtain ⟨q2, e_q2, h⟩ := fx_bd h
  refine fx_call [.ref (i0 + 2), .int (-4 : Int32)] [] rfl (by decide) rfl rfl rfl rfl rfl (Nat.le_of_ble_eq_true rfl) rfl (v_X_fill h0.2.2.1 e_q2) ?_
  refine fx_aload rfl rfl ?_
  refine fx_getV rfl h0.1 rfl rfl ?_
  refine fx_const rfl (show Int32.ofInt 0 = (0 : Int32) by decide) ?_
  obtain ⟨q3, e_q3, h⟩ := fx_bd h
  refine fx_call [.ref (i0 + 3), .int (0 : Int32)] [] rfl (by decide) rfl rfl rfl rfl rfl (Nat.le_of_ble_eq_true rfl) rfl (v_X_fill h0.2.2.2.1 e_q3) ?_
  refine fx_aload rfl rfl ?_
  refine fx_getV rfl h0.1 rfl rfl ?_
  refine fx_const rfl (show Int32.ofInt 0 = (0 : Int32) by decide) ?_
  obtain ⟨q4, e_q4, h⟩ := fx_bd h
  refine fx_call [.ref (i0 + 4), .int (0 : Int32)] [] rfl (by decide) rfl rfl rfl rfl rfl (Nat.le_of_ble_eq_true rfl) rfl (v_X_fill h0.2.2.2.2 e_q4) ?_
  obtain rfl := Option.some.inj h
  exact fx_vret rfl rfl

def g_S_stockOf (M : fv_M) (i0 : Nat) (a1 : Int32) (a2 : Int32) : Option (Int32) := (g_X_cell M a1 a2).bind fun q1 => (g_X_at M (i0 + 1) 24 q1).bind fun q2 => some q2
theorem v_S_stockOf {X : fv_X} {sh : fv_Sh} {k : Nat × Nat} {M : fv_M} {i0 : Nat} {a1 : Int32} {a2 : Int32} {r : Int32} (h0 : fx_atS sh i0) (h : g_S_stockOf M i0 a1 a2 = some r) : fv_Rn X 30 0 [some (.ref i0), some (.int a1), some (.int a2)] [] k sh M (some (.int r), sh, M) := by
  unfold g_S_stockOf at h
  refine fx_aload rfl rfl ?_
  refine fx_getV rfl h0.1 rfl rfl ?_
  refine fx_iload rfl rfl ?_
  refine fx_iload rfl rfl ?_
  obtain ⟨q1, e_q1, h⟩ := fx_bd h
  refine fx_call [.int a1, .int a2] [.ref (i0 + 1)] rfl (by decide) rfl rfl rfl rfl rfl (Nat.le_of_ble_eq_true rfl) rfl (v_X_cell  e_q1) ?_
  obtain ⟨q2, e_q2, h⟩ := fx_bd h
  refine fx_call [.ref (i0 + 1), .int q1] [] rfl (by decide) rfl rfl rfl rfl rfl (Nat.le_of_ble_eq_true rfl) rfl (v_X_at h0.2.1 e_q2) ?_
  obtain rfl := Option.some.inj h
  exact fx_ret rfl rfl

def g_S_setStock (M : fv_M) (i0 : Nat) (a1 : Int32) (a2 : Int32) (a3 : Int32) : Option (fv_M) := (g_X_cell M a1 a2).bind fun q1 => (g_X_put M (i0 + 1) 24 q1 a3).bind fun q2 => some q2
theorem v_S_setStock {X : fv_X} {sh : fv_Sh} {k : Nat × Nat} {M : fv_M} {i0 : Nat} {a1 : Int32} {a2 : Int32} {a3 : Int32} {r : fv_M} (h0 : fx_atS sh i0) (h : g_S_setStock M i0 a1 a2 a3 = some r) : fv_Rn X 31 0 [some (.ref i0), some (.int a1), some (.int a2), some (.int a3)] [] k sh M (none, sh, r) := by
  unfold g_S_setStock at h
  refine fx_aload rfl rfl ?_
  refine fx_getV rfl h0.1 rfl rfl ?_
  refine fx_iload rfl rfl ?_
  refine fx_iload rfl rfl ?_
  obtain ⟨q1, e_q1, h⟩ := fx_bd h
  refine fx_call [.int a1, .int a2] [.ref (i0 + 1)] rfl (by decide) rfl rfl rfl rfl rfl (Nat.le_of_ble_eq_true rfl) rfl (v_X_cell  e_q1) ?_
  refine fx_iload rfl rfl ?_
  obtain ⟨q2, e_q2, h⟩ := fx_bd h
  refine fx_call [.ref (i0 + 1), .int q1, .int a3] [] rfl (by decide) rfl rfl rfl rfl rfl (Nat.le_of_ble_eq_true rfl) rfl (v_X_put h0.2.1 e_q2) ?_
  obtain rfl := Option.some.inj h
  exact fx_vret rfl rfl

def g_S_move (M : fv_M) (i0 : Nat) (a1 : Int32) (a2 : Int32) (a3 : Int32) (a4 : Int32) : Option (fv_M) := (g_S_stockOf M i0 a1 a3).bind fun q1 => (g_S_setStock M i0 a1 a3 (q1 - a4)).bind fun q2 => (g_S_stockOf q2 i0 a2 a3).bind fun q3 => (g_S_setStock q2 i0 a2 a3 (q3 + a4)).bind fun q4 => some q4
theorem v_S_move {X : fv_X} {sh : fv_Sh} {k : Nat × Nat} {M : fv_M} {i0 : Nat} {a1 : Int32} {a2 : Int32} {a3 : Int32} {a4 : Int32} {r : fv_M} (h0 : fx_atS sh i0) (h : g_S_move M i0 a1 a2 a3 a4 = some r) : fv_Rn X 32 0 [some (.ref i0), some (.int a1), some (.int a2), some (.int a3), some (.int a4)] [] k sh M (none, sh, r) := by
  unfold g_S_move at h
  refine fx_aload rfl rfl ?_
  refine fx_iload rfl rfl ?_
  refine fx_iload rfl rfl ?_
  refine fx_aload rfl rfl ?_
  refine fx_iload rfl rfl ?_
  refine fx_iload rfl rfl ?_
  obtain ⟨q1, e_q1, h⟩ := fx_bd h
  refine fx_call [.ref i0, .int a1, .int a3] [.int a3, .int a1, .ref i0] rfl (by decide) rfl rfl rfl rfl rfl (Nat.le_of_ble_eq_true rfl) (fx_rcv h0.1 rfl) (v_S_stockOf h0 e_q1) ?_
  refine fx_iload rfl rfl ?_
  refine fx_isub rfl ?_
  obtain ⟨q2, e_q2, h⟩ := fx_bd h
  refine fx_call [.ref i0, .int a1, .int a3, .int (q1 - a4)] [] rfl (by decide) rfl rfl rfl rfl rfl (Nat.le_of_ble_eq_true rfl) (fx_rcv h0.1 rfl) (v_S_setStock h0 e_q2) ?_
  refine fx_aload rfl rfl ?_
  refine fx_iload rfl rfl ?_
  refine fx_iload rfl rfl ?_
  refine fx_aload rfl rfl ?_
  refine fx_iload rfl rfl ?_
  refine fx_iload rfl rfl ?_
  obtain ⟨q3, e_q3, h⟩ := fx_bd h
  refine fx_call [.ref i0, .int a2, .int a3] [.int a3, .int a2, .ref i0] rfl (by decide) rfl rfl rfl rfl rfl (Nat.le_of_ble_eq_true rfl) (fx_rcv h0.1 rfl) (v_S_stockOf h0 e_q3) ?_
  refine fx_iload rfl rfl ?_
  refine fx_iadd rfl ?_
  obtain ⟨q4, e_q4, h⟩ := fx_bd h
  refine fx_call [.ref i0, .int a2, .int a3, .int (q3 + a4)] [] rfl (by decide) rfl rfl rfl rfl rfl (Nat.le_of_ble_eq_true rfl) (fx_rcv h0.1 rfl) (v_S_setStock h0 e_q4) ?_
  obtain rfl := Option.some.inj h
  exact fx_vret rfl rfl

def g_S_usesSmall (M : fv_M) (i0 : Nat) : Option (Int32) := if ((M i0 0) - (M i0 0) / (2 : Int32) * (2 : Int32)) = (1 : Int32) then (some (1 : Int32)) else (some (0 : Int32))
theorem v_S_usesSmall {X : fv_X} {sh : fv_Sh} {k : Nat × Nat} {M : fv_M} {i0 : Nat} {r : Int32} (h0 : fx_atS sh i0) (h : g_S_usesSmall M i0 = some r) : fv_Rn X 33 0 [some (.ref i0)] [] k sh M (some (.int r), sh, M) := by
  unfold g_S_usesSmall at h
  refine fx_aload rfl rfl ?_
  refine fx_getI rfl h0.1 rfl rfl ?_
  refine fx_const rfl (show Int32.ofInt 2 = (2 : Int32) by decide) ?_
  refine fx_irem rfl (by decide) ?_
  refine fx_const rfl (show Int32.ofInt 1 = (1 : Int32) by decide) ?_
  by_cases c_1 : ((M i0 0) - (M i0 0) / (2 : Int32) * (2 : Int32)) = (1 : Int32)
  · replace h := (if_pos c_1).symm.trans h
    refine fx_icne_s rfl c_1 ?_
    refine fx_const rfl (show Int32.ofInt 1 = (1 : Int32) by decide) ?_
    refine fx_goto rfl rfl ?_
    obtain rfl := Option.some.inj h
    exact fx_ret rfl rfl
  · replace h := (if_neg c_1).symm.trans h
    refine fx_icne_j rfl rfl c_1 ?_
    refine fx_const rfl (show Int32.ofInt 0 = (0 : Int32) by decide) ?_
    obtain rfl := Option.some.inj h
    exact fx_ret rfl rfl

def g_S_seedFor_31 (M : fv_M) (i0 : Nat) (i1 : Nat) (a2 : Int32) (a3 : Int32) : Nat → Int32 → (Int32 → Option (Int32)) → Option (Int32)
  | 0, _, _ => none
  | n + 1, a4, kk => if (M i1 0) ≤ a4 then (kk a4) else ((g_X_at M (i1 + 1) 6 a4).bind fun q3 => if q3 = (1 : Int32) then ((g_S_stockOf M i0 a2 a4).bind fun q4 => if q4 < (2 : Int32) then (g_S_seedFor_31 M i0 i1 a2 a3 n (a4 + (1 : Int32)) kk) else (some a4)) else (g_S_seedFor_31 M i0 i1 a2 a3 n (a4 + (1 : Int32)) kk))
theorem v_S_seedFor_31 {X : fv_X} {sh : fv_Sh} {k : Nat × Nat} {M : fv_M} {i0 : Nat} {i1 : Nat} {a2 : Int32} {a3 : Int32} {r : Int32} {kk : Int32 → Option (Int32)} (h0 : fx_atS sh i0) (h1 : fx_atL sh i1) (K : ∀ (a4 : Int32), kk a4 = some r → fv_Rn X 34 73 [some (.ref i0), some (.ref i1), some (.int a2), some (.int a3), some (.int a4)] [] k sh M (some (.int r), sh, M)) : ∀ (n : Nat) (a4 : Int32), g_S_seedFor_31 M i0 i1 a2 a3 n a4 kk = some r → fv_Rn X 34 31 [some (.ref i0), some (.ref i1), some (.int a2), some (.int a3), some (.int a4)] [] k sh M (some (.int r), sh, M) := by
  intro n
  induction n with
  | zero =>
    intro a4 h
    replace h : (none : Option (Int32)) = some r := h
    cases h
  | succ n ih =>
    intro a4 h
    rw [g_S_seedFor_31] at h
    refine fx_iload rfl rfl ?_
    refine fx_aload rfl rfl ?_
    refine fx_getI rfl h1.1 rfl rfl ?_
    by_cases c_3 : (M i1 0) ≤ a4
    · replace h := (if_pos c_3).symm.trans h
      refine fx_icge_j rfl rfl c_3 ?_
      exact K _ h
    · replace h := (if_neg c_3).symm.trans h
      refine fx_icge_s rfl c_3 ?_
      refine fx_aload rfl rfl ?_
      refine fx_getV rfl h1.1 rfl rfl ?_
      refine fx_iload rfl rfl ?_
      obtain ⟨q3, e_q3, h⟩ := fx_bd h
      refine fx_call [.ref (i1 + 1), .int a4] [] rfl (by decide) rfl rfl rfl rfl rfl (Nat.le_of_ble_eq_true rfl) rfl (v_X_at h1.2.1 e_q3) ?_
      refine fx_const rfl (show Int32.ofInt 1 = (1 : Int32) by decide) ?_
      by_cases c_4 : q3 = (1 : Int32)
      · replace h := (if_pos c_4).symm.trans h
        refine fx_icne_s rfl c_4 ?_
        refine fx_aload rfl rfl ?_
        refine fx_iload rfl rfl ?_
        refine fx_iload rfl rfl ?_
        obtain ⟨q4, e_q4, h⟩ := fx_bd h
        refine fx_call [.ref i0, .int a2, .int a4] [] rfl (by decide) rfl rfl rfl rfl rfl (Nat.le_of_ble_eq_true rfl) (fx_rcv h0.1 rfl) (v_S_stockOf h0 e_q4) ?_
        refine fx_const rfl (show Int32.ofInt 2 = (2 : Int32) by decide) ?_
        by_cases c_5 : q4 < (2 : Int32)
        · replace h := (if_pos c_5).symm.trans h
          refine fx_iclt_j rfl rfl c_5 ?_
          refine fx_iinc rfl (show Int32.ofInt 1 = (1 : Int32) by decide) rfl rfl ?_
          refine fx_back rfl rfl rfl ?_
          exact ih _ h
        · replace h := (if_neg c_5).symm.trans h
          refine fx_iclt_s rfl c_5 ?_
          refine fx_iload rfl rfl ?_
          obtain rfl := Option.some.inj h
          exact fx_ret rfl rfl
      · replace h := (if_neg c_4).symm.trans h
        refine fx_icne_j rfl rfl c_4 ?_
        refine fx_iinc rfl (show Int32.ofInt 1 = (1 : Int32) by decide) rfl rfl ?_
        refine fx_back rfl rfl rfl ?_
        exact ih _ h
def g_S_seedFor (M : fv_M) (i0 : Nat) (i1 : Nat) (a2 : Int32) (a3 : Int32) : Option (Int32) := (g_X_at M (i0 + 2) 4 a2).bind fun q1 => if q1 = (-4 : Int32) then ((g_S_stockOf M i0 a2 a3).bind fun q2 => if q2 < (1 : Int32) then (g_S_seedFor_31 M i0 i1 a2 a3 fx_FU (0 : Int32) (fun b4_5 => some (-4 : Int32))) else (some a3)) else (some (-4 : Int32))
theorem v_S_seedFor {X : fv_X} {sh : fv_Sh} {k : Nat × Nat} {M : fv_M} {i0 : Nat} {i1 : Nat} {a2 : Int32} {a3 : Int32} {r : Int32} (h0 : fx_atS sh i0) (h1 : fx_atL sh i1) (h : g_S_seedFor M i0 i1 a2 a3 = some r) : fv_Rn X 34 0 [some (.ref i0), some (.ref i1), some (.int a2), some (.int a3)] [] k sh M (some (.int r), sh, M) := by
  unfold g_S_seedFor at h
  refine fx_aload rfl rfl ?_
  refine fx_getV rfl h0.1 rfl rfl ?_
  refine fx_iload rfl rfl ?_
  obtain ⟨q1, e_q1, h⟩ := fx_bd h
  refine fx_call [.ref (i0 + 2), .int a2] [] rfl (by decide) rfl rfl rfl rfl rfl (Nat.le_of_ble_eq_true rfl) rfl (v_X_at h0.2.2.1 e_q1) ?_
  refine fx_const rfl (show Int32.ofInt (-4) = (-4 : Int32) by decide) ?_
  by_cases c_1 : q1 = (-4 : Int32)
  · replace h := (if_pos c_1).symm.trans h
    refine fx_iceq_j rfl rfl c_1 ?_
    refine fx_aload rfl rfl ?_
    refine fx_iload rfl rfl ?_
    refine fx_iload rfl rfl ?_
    obtain ⟨q2, e_q2, h⟩ := fx_bd h
    refine fx_call [.ref i0, .int a2, .int a3] [] rfl (by decide) rfl rfl rfl rfl rfl (Nat.le_of_ble_eq_true rfl) (fx_rcv h0.1 rfl) (v_S_stockOf h0 e_q2) ?_
    refine fx_const rfl (show Int32.ofInt 1 = (1 : Int32) by decide) ?_
    by_cases c_2 : q2 < (1 : Int32)
    · replace h := (if_pos c_2).symm.trans h
      refine fx_iclt_j rfl rfl c_2 ?_
      refine fx_const rfl (show Int32.ofInt 0 = (0 : Int32) by decide) ?_
      refine fx_istore rfl rfl ?_
      refine v_S_seedFor_31 h0 h1 (fun b4_5 h => ?_) fx_FU _ h
      refine fx_const rfl (show Int32.ofInt (-4) = (-4 : Int32) by decide) ?_
      obtain rfl := Option.some.inj h
      exact fx_ret rfl rfl
    · replace h := (if_neg c_2).symm.trans h
      refine fx_iclt_s rfl c_2 ?_
      refine fx_iload rfl rfl ?_
      obtain rfl := Option.some.inj h
      exact fx_ret rfl rfl
  · replace h := (if_neg c_1).symm.trans h
    refine fx_iceq_s rfl c_1 ?_
    refine fx_const rfl (show Int32.ofInt (-4) = (-4 : Int32) by decide) ?_
    obtain rfl := Option.some.inj h
    exact fx_ret rfl rfl

def g_S_usedOf (M : fv_M) (i0 : Nat) (a1 : Int32) (a2 : Int32) : Option (Int32) := if a1 = (1 : Int32) then ((g_S_usesSmall M i0).bind fun q1 => if q1 = 0 then (some (0 : Int32)) else (some (1 : Int32))) else (if a1 = (3 : Int32) then (if a2 < (2 : Int32) then (some (1 : Int32)) else (some (2 : Int32))) else (some (1 : Int32)))
theorem v_S_usedOf {X : fv_X} {sh : fv_Sh} {k : Nat × Nat} {M : fv_M} {i0 : Nat} {a1 : Int32} {a2 : Int32} {r : Int32} (h0 : fx_atS sh i0) (h : g_S_usedOf M i0 a1 a2 = some r) : fv_Rn X 37 0 [some (.ref i0), some (.int a1), some (.int a2)] [] k sh M (some (.int r), sh, M) := by
  unfold g_S_usedOf at h
  refine fx_iload rfl rfl ?_
  refine fx_const rfl (show Int32.ofInt 1 = (1 : Int32) by decide) ?_
  by_cases c_1 : a1 = (1 : Int32)
  · replace h := (if_pos c_1).symm.trans h
    refine fx_icne_s rfl c_1 ?_
    refine fx_aload rfl rfl ?_
    obtain ⟨q1, e_q1, h⟩ := fx_bd h
    refine fx_call [.ref i0] [] rfl (by decide) rfl rfl rfl rfl rfl (Nat.le_of_ble_eq_true rfl) (fx_rcv h0.1 rfl) (v_S_usesSmall h0 e_q1) ?_
    by_cases c_2 : q1 = 0
    · replace h := (if_pos c_2).symm.trans h
      refine fx_ifeq_j rfl rfl c_2 ?_
      refine fx_const rfl (show Int32.ofInt 0 = (0 : Int32) by decide) ?_
      obtain rfl := Option.some.inj h
      exact fx_ret rfl rfl
    · replace h := (if_neg c_2).symm.trans h
      refine fx_ifeq_s rfl c_2 ?_
      refine fx_const rfl (show Int32.ofInt 1 = (1 : Int32) by decide) ?_
      refine fx_goto rfl rfl ?_
      obtain rfl := Option.some.inj h
      exact fx_ret rfl rfl
  · replace h := (if_neg c_1).symm.trans h
    refine fx_icne_j rfl rfl c_1 ?_
    refine fx_iload rfl rfl ?_
    refine fx_const rfl (show Int32.ofInt 3 = (3 : Int32) by decide) ?_
    by_cases c_3 : a1 = (3 : Int32)
    · replace h := (if_pos c_3).symm.trans h
      refine fx_icne_s rfl c_3 ?_
      refine fx_iload rfl rfl ?_
      refine fx_const rfl (show Int32.ofInt 2 = (2 : Int32) by decide) ?_
      by_cases c_4 : a2 < (2 : Int32)
      · replace h := (if_pos c_4).symm.trans h
        refine fx_iclt_j rfl rfl c_4 ?_
        refine fx_const rfl (show Int32.ofInt 1 = (1 : Int32) by decide) ?_
        obtain rfl := Option.some.inj h
        exact fx_ret rfl rfl
      · replace h := (if_neg c_4).symm.trans h
        refine fx_iclt_s rfl c_4 ?_
        refine fx_const rfl (show Int32.ofInt 2 = (2 : Int32) by decide) ?_
        refine fx_goto rfl rfl ?_
        obtain rfl := Option.some.inj h
        exact fx_ret rfl rfl
    · replace h := (if_neg c_3).symm.trans h
      refine fx_icne_j rfl rfl c_3 ?_
      refine fx_const rfl (show Int32.ofInt 1 = (1 : Int32) by decide) ?_
      obtain rfl := Option.some.inj h
      exact fx_ret rfl rfl

def g_S_tryWork (M : fv_M) (i0 : Nat) (i1 : Nat) (a2 : Int32) : Option (Int32 × fv_M) := (g_X_at M (i1 + 7) 8 a2).bind fun q1 => (g_X_at M (i1 + 8) 8 a2).bind fun q2 => (g_S_stockOf M i0 q1 q2).bind fun q3 => if q3 = 0 then ((g_L_canSay M i1 q1 q2).bind fun q4 => fx_ck (¬ (q4 = 0 ∨ q4 = 1)) (some (q4, M))) else ((g_X_at M (i1 + 1) 6 q2).bind fun q5 => (g_S_usedOf M i0 q5 q3).bind fun q6 => (g_S_setStock M i0 q1 q2 (q3 - q6)).bind fun q7 => some ((1 : Int32), q7))
theorem v_S_tryWork {X : fv_X} {sh : fv_Sh} {k : Nat × Nat} {M : fv_M} {i0 : Nat} {i1 : Nat} {a2 : Int32} {r : Int32 × fv_M} (h0 : fx_atS sh i0) (h1 : fx_atL sh i1) (h : g_S_tryWork M i0 i1 a2 = some r) : fv_Rn X 36 0 [some (.ref i0), some (.ref i1), some (.int a2)] [] k sh M (some (.int r.1), sh, r.2) := by
  unfold g_S_tryWork at h
  refine fx_aload rfl rfl ?_
  refine fx_getV rfl h1.1 rfl rfl ?_
  refine fx_iload rfl rfl ?_
  obtain ⟨q1, e_q1, h⟩ := fx_bd h
  refine fx_call [.ref (i1 + 7), .int a2] [] rfl (by decide) rfl rfl rfl rfl rfl (Nat.le_of_ble_eq_true rfl) rfl (v_X_at h1.2.2.2.2.2.2.2.1 e_q1) ?_
  refine fx_istore rfl rfl ?_
  refine fx_aload rfl rfl ?_
  refine fx_getV rfl h1.1 rfl rfl ?_
  refine fx_iload rfl rfl ?_
  obtain ⟨q2, e_q2, h⟩ := fx_bd h
  refine fx_call [.ref (i1 + 8), .int a2] [] rfl (by decide) rfl rfl rfl rfl rfl (Nat.le_of_ble_eq_true rfl) rfl (v_X_at h1.2.2.2.2.2.2.2.2.1 e_q2) ?_
  refine fx_istore rfl rfl ?_
  refine fx_aload rfl rfl ?_
  refine fx_iload rfl rfl ?_
  refine fx_iload rfl rfl ?_
  obtain ⟨q3, e_q3, h⟩ := fx_bd h
  refine fx_call [.ref i0, .int q1, .int q2] [] rfl (by decide) rfl rfl rfl rfl rfl (Nat.le_of_ble_eq_true rfl) (fx_rcv h0.1 rfl) (v_S_stockOf h0 e_q3) ?_
  refine fx_istore rfl rfl ?_
  refine fx_iload rfl rfl ?_
  by_cases c_1 : q3 = 0
  · replace h := (if_pos c_1).symm.trans h
    refine fx_ifne_s rfl c_1 ?_
    refine fx_aload rfl rfl ?_
    refine fx_iload rfl rfl ?_
    refine fx_iload rfl rfl ?_
    obtain ⟨q4, e_q4, h⟩ := fx_bd h
    refine fx_call [.ref i1, .int q1, .int q2] [] rfl (by decide) rfl rfl rfl rfl rfl (Nat.le_of_ble_eq_true rfl) (fx_rcv h1.1 rfl) (v_L_canSay h1 e_q4) ?_
    obtain ⟨c_2, h⟩ := fx_ck_some h
    obtain rfl := Option.some.inj h
    exact fx_ret rfl (decide_eq_true (Decidable.not_not.mp c_2))
  · replace h := (if_neg c_1).symm.trans h
    refine fx_ifne_j rfl rfl c_1 ?_
    refine fx_aload rfl rfl ?_
    refine fx_iload rfl rfl ?_
    refine fx_iload rfl rfl ?_
    refine fx_iload rfl rfl ?_
    refine fx_aload rfl rfl ?_
    refine fx_aload rfl rfl ?_
    refine fx_getV rfl h1.1 rfl rfl ?_
    refine fx_iload rfl rfl ?_
    obtain ⟨q5, e_q5, h⟩ := fx_bd h
    refine fx_call [.ref (i1 + 1), .int q2] [.ref i0, .int q3, .int q2, .int q1, .ref i0] rfl (by decide) rfl rfl rfl rfl rfl (Nat.le_of_ble_eq_true rfl) rfl (v_X_at h1.2.1 e_q5) ?_
    refine fx_iload rfl rfl ?_
    obtain ⟨q6, e_q6, h⟩ := fx_bd h
    refine fx_call [.ref i0, .int q5, .int q3] [.int q3, .int q2, .int q1, .ref i0] rfl (by decide) rfl rfl rfl rfl rfl (Nat.le_of_ble_eq_true rfl) (fx_rcv h0.1 rfl) (v_S_usedOf h0 e_q6) ?_
    refine fx_isub rfl ?_
    obtain ⟨q7, e_q7, h⟩ := fx_bd h
    refine fx_call [.ref i0, .int q1, .int q2, .int (q3 - q6)] [] rfl (by decide) rfl rfl rfl rfl rfl (Nat.le_of_ble_eq_true rfl) (fx_rcv h0.1 rfl) (v_S_setStock h0 e_q7) ?_
    refine fx_const rfl (show Int32.ofInt 1 = (1 : Int32) by decide) ?_
    obtain rfl := Option.some.inj h
    exact fx_ret rfl rfl

def g_S_reap (M : fv_M) (i0 : Nat) (i1 : Nat) (a2 : Int32) : Option (fv_M) := (g_X_at M (i0 + 2) 4 a2).bind fun q1 => if q1 = (-4 : Int32) then (some M) else ((g_X_at M (i1 + 2) 6 q1).bind fun q2 => (g_X_at M (i1 + 1) 6 q1).bind fun q3 => if q3 = (2 : Int32) then ((g_S_stockOf M i0 a2 q1).bind fun q4 => (g_S_setStock M i0 a2 q1 (if (q4 + (q2 * (2 : Int32))) < (60 : Int32) then (q4 + (q2 * (2 : Int32))) else (60 : Int32))).bind fun q5 => (g_X_put q5 (i0 + 2) 4 a2 (-4 : Int32)).bind fun q6 => some q6) else ((g_S_stockOf M i0 a2 q1).bind fun q7 => (g_S_setStock M i0 a2 q1 (if (q7 + (q2 * (1 : Int32))) < (60 : Int32) then (q7 + (q2 * (1 : Int32))) else (60 : Int32))).bind fun q8 => (g_X_put q8 (i0 + 2) 4 a2 (-4 : Int32)).bind fun q9 => some q9))
theorem v_S_reap {X : fv_X} {sh : fv_Sh} {k : Nat × Nat} {M : fv_M} {i0 : Nat} {i1 : Nat} {a2 : Int32} {r : fv_M} (h0 : fx_atS sh i0) (h1 : fx_atL sh i1) (h : g_S_reap M i0 i1 a2 = some r) : fv_Rn X 38 0 [some (.ref i0), some (.ref i1), some (.int a2)] [] k sh M (none, sh, r) := by
  unfold g_S_reap at h
  refine fx_aload rfl rfl ?_
  refine fx_getV rfl h0.1 rfl rfl ?_
  refine fx_iload rfl rfl ?_
  obtain ⟨q1, e_q1, h⟩ := fx_bd h
  refine fx_call [.ref (i0 + 2), .int a2] [] rfl (by decide) rfl rfl rfl rfl rfl (Nat.le_of_ble_eq_true rfl) rfl (v_X_at h0.2.2.1 e_q1) ?_
  refine fx_istore rfl rfl ?_
  refine fx_iload rfl rfl ?_
  refine fx_const rfl (show Int32.ofInt (-4) = (-4 : Int32) by decide) ?_
  by_cases c_1 : q1 = (-4 : Int32)
  · replace h := (if_pos c_1).symm.trans h
    refine fx_icne_s rfl c_1 ?_
    obtain rfl := Option.some.inj h
    exact fx_vret rfl rfl
  · replace h := (if_neg c_1).symm.trans h
    refine fx_icne_j rfl rfl c_1 ?_
    refine fx_aload rfl rfl ?_
    refine fx_getV rfl h1.1 rfl rfl ?_
    refine fx_iload rfl rfl ?_
    obtain ⟨q2, e_q2, h⟩ := fx_bd h
    refine fx_call [.ref (i1 + 2), .int q1] [] rfl (by decide) rfl rfl rfl rfl rfl (Nat.le_of_ble_eq_true rfl) rfl (v_X_at h1.2.2.1 e_q2) ?_
    refine fx_aload rfl rfl ?_
    refine fx_getV rfl h1.1 rfl rfl ?_
    refine fx_iload rfl rfl ?_
    obtain ⟨q3, e_q3, h⟩ := fx_bd h
    refine fx_call [.ref (i1 + 1), .int q1] [.int q2] rfl (by decide) rfl rfl rfl rfl rfl (Nat.le_of_ble_eq_true rfl) rfl (v_X_at h1.2.1 e_q3) ?_
    refine fx_const rfl (show Int32.ofInt 2 = (2 : Int32) by decide) ?_
    by_cases c_2 : q3 = (2 : Int32)
    · replace h := (if_pos c_2).symm.trans h
      refine fx_icne_s rfl c_2 ?_
      refine fx_const rfl (show Int32.ofInt 2 = (2 : Int32) by decide) ?_
      refine fx_goto rfl rfl ?_
      refine fx_imul rfl ?_
      refine fx_istore rfl rfl ?_
      refine fx_aload rfl rfl ?_
      refine fx_iload rfl rfl ?_
      refine fx_iload rfl rfl ?_
      refine fx_const rfl (show Int32.ofInt 60 = (60 : Int32) by decide) ?_
      refine fx_aload rfl rfl ?_
      refine fx_iload rfl rfl ?_
      refine fx_iload rfl rfl ?_
      obtain ⟨q4, e_q4, h⟩ := fx_bd h
      refine fx_call [.ref i0, .int a2, .int q1] [.int (60 : Int32), .int q1, .int a2, .ref i0] rfl (by decide) rfl rfl rfl rfl rfl (Nat.le_of_ble_eq_true rfl) (fx_rcv h0.1 rfl) (v_S_stockOf h0 e_q4) ?_
      refine fx_iload rfl rfl ?_
      refine fx_iadd rfl ?_
      refine fx_dsub rfl (Nat.le_of_ble_eq_true rfl) ?_
      obtain ⟨q5, e_q5, h⟩ := fx_bd h
      refine fx_call [.ref i0, .int a2, .int q1, .int (if (q4 + (q2 * (2 : Int32))) < (60 : Int32) then (q4 + (q2 * (2 : Int32))) else (60 : Int32))] [] rfl (by decide) rfl rfl rfl rfl rfl (Nat.le_of_ble_eq_true rfl) (fx_rcv h0.1 rfl) (v_S_setStock h0 e_q5) ?_
      refine fx_aload rfl rfl ?_
      refine fx_getV rfl h0.1 rfl rfl ?_
      refine fx_iload rfl rfl ?_
      refine fx_const rfl (show Int32.ofInt (-4) = (-4 : Int32) by decide) ?_
      obtain ⟨q6, e_q6, h⟩ := fx_bd h
      refine fx_call [.ref (i0 + 2), .int a2, .int (-4 : Int32)] [] rfl (by decide) rfl rfl rfl rfl rfl (Nat.le_of_ble_eq_true rfl) rfl (v_X_put h0.2.2.1 e_q6) ?_
      obtain rfl := Option.some.inj h
      exact fx_vret rfl rfl
    · replace h := (if_neg c_2).symm.trans h
      refine fx_icne_j rfl rfl c_2 ?_
      refine fx_const rfl (show Int32.ofInt 1 = (1 : Int32) by decide) ?_
      refine fx_imul rfl ?_
      refine fx_istore rfl rfl ?_
      refine fx_aload rfl rfl ?_
      refine fx_iload rfl rfl ?_
      refine fx_iload rfl rfl ?_
      refine fx_const rfl (show Int32.ofInt 60 = (60 : Int32) by decide) ?_
      refine fx_aload rfl rfl ?_
      refine fx_iload rfl rfl ?_
      refine fx_iload rfl rfl ?_
      obtain ⟨q7, e_q7, h⟩ := fx_bd h
      refine fx_call [.ref i0, .int a2, .int q1] [.int (60 : Int32), .int q1, .int a2, .ref i0] rfl (by decide) rfl rfl rfl rfl rfl (Nat.le_of_ble_eq_true rfl) (fx_rcv h0.1 rfl) (v_S_stockOf h0 e_q7) ?_
      refine fx_iload rfl rfl ?_
      refine fx_iadd rfl ?_
      refine fx_dsub rfl (Nat.le_of_ble_eq_true rfl) ?_
      obtain ⟨q8, e_q8, h⟩ := fx_bd h
      refine fx_call [.ref i0, .int a2, .int q1, .int (if (q7 + (q2 * (1 : Int32))) < (60 : Int32) then (q7 + (q2 * (1 : Int32))) else (60 : Int32))] [] rfl (by decide) rfl rfl rfl rfl rfl (Nat.le_of_ble_eq_true rfl) (fx_rcv h0.1 rfl) (v_S_setStock h0 e_q8) ?_
      refine fx_aload rfl rfl ?_
      refine fx_getV rfl h0.1 rfl rfl ?_
      refine fx_iload rfl rfl ?_
      refine fx_const rfl (show Int32.ofInt (-4) = (-4 : Int32) by decide) ?_
      obtain ⟨q9, e_q9, h⟩ := fx_bd h
      refine fx_call [.ref (i0 + 2), .int a2, .int (-4 : Int32)] [] rfl (by decide) rfl rfl rfl rfl rfl (Nat.le_of_ble_eq_true rfl) rfl (v_X_put h0.2.2.1 e_q9) ?_
      obtain rfl := Option.some.inj h
      exact fx_vret rfl rfl

def g_S_feedLocusts_2 (i0 : Nat) : Nat → fv_M → Int32 → (fv_M → Int32 → Option (fv_M)) → Option (fv_M)
  | 0, _, _, _ => none
  | n + 1, M, a1, kk => if (24 : Int32) ≤ a1 then (kk M a1) else (fx_ck (a1 < 0 ∨ 24 ≤ (a1).toNatClampNeg) (if (M (i0 + 1) (a1).toNatClampNeg) < (40 : Int32) then (g_S_feedLocusts_2 i0 n M (a1 + (1 : Int32)) kk) else (g_S_feedLocusts_2 i0 n (fv_set M (i0 + 1) (a1).toNatClampNeg ((M (i0 + 1) (a1).toNatClampNeg) - ((M (i0 + 1) (a1).toNatClampNeg) / (10 : Int32)))) (a1 + (1 : Int32)) kk)))
theorem v_S_feedLocusts_2 {X : fv_X} {sh : fv_Sh} {k : Nat × Nat} {i0 : Nat} {r : fv_M} {kk : fv_M → Int32 → Option (fv_M)} (h0 : fx_atS sh i0) (K : ∀ (M : fv_M) (a1 : Int32), kk M a1 = some r → fv_Rn X 39 46 [some (.ref i0), some (.int a1)] [] k sh M (none, sh, r)) : ∀ (n : Nat) (M : fv_M) (a1 : Int32), g_S_feedLocusts_2 i0 n M a1 kk = some r → fv_Rn X 39 2 [some (.ref i0), some (.int a1)] [] k sh M (none, sh, r) := by
  intro n
  induction n with
  | zero =>
    intro M a1 h
    replace h : (none : Option (fv_M)) = some r := h
    cases h
  | succ n ih =>
    intro M a1 h
    rw [g_S_feedLocusts_2] at h
    refine fx_iload rfl rfl ?_
    refine fx_aload rfl rfl ?_
    refine fx_getV rfl h0.1 rfl rfl ?_
    refine fx_alen rfl (fun z => absurd z.1 (by decide)) h0.2.1 (by decide) (show Int32.ofNat 24 = (24 : Int32) by decide) ?_
    by_cases c_1 : (24 : Int32) ≤ a1
    · replace h := (if_pos c_1).symm.trans h
      refine fx_icge_j rfl rfl c_1 ?_
      exact K _ _ h
    · replace h := (if_neg c_1).symm.trans h
      refine fx_icge_s rfl c_1 ?_
      refine fx_aload rfl rfl ?_
      refine fx_getV rfl h0.1 rfl rfl ?_
      refine fx_iload rfl rfl ?_
      obtain ⟨c_2, h⟩ := fx_ck_some h
      refine fx_iaload rfl (fun z => absurd z.1 (by decide)) h0.2.1 c_2 ?_
      refine fx_const rfl (show Int32.ofInt 40 = (40 : Int32) by decide) ?_
      by_cases c_3 : (M (i0 + 1) (a1).toNatClampNeg) < (40 : Int32)
      · replace h := (if_pos c_3).symm.trans h
        refine fx_iclt_j rfl rfl c_3 ?_
        refine fx_iinc rfl (show Int32.ofInt 1 = (1 : Int32) by decide) rfl rfl ?_
        refine fx_back rfl rfl rfl ?_
        exact ih _ _ h
      · replace h := (if_neg c_3).symm.trans h
        refine fx_iclt_s rfl c_3 ?_
        refine fx_aload rfl rfl ?_
        refine fx_getV rfl h0.1 rfl rfl ?_
        refine fx_iload rfl rfl ?_
        refine fx_dup2 rfl ⟨rfl, rfl⟩ ?_
        refine fx_iaload rfl (fun z => absurd z.1 (by decide)) h0.2.1 c_2 ?_
        refine fx_aload rfl rfl ?_
        refine fx_getV rfl h0.1 rfl rfl ?_
        refine fx_iload rfl rfl ?_
        refine fx_iaload rfl (fun z => absurd z.1 (by decide)) h0.2.1 c_2 ?_
        refine fx_const rfl (show Int32.ofInt 10 = (10 : Int32) by decide) ?_
        refine fx_idiv rfl (by decide) ?_
        refine fx_isub rfl ?_
        refine fx_iastore rfl h0.2.1 c_2 ?_
        refine fx_iinc rfl (show Int32.ofInt 1 = (1 : Int32) by decide) rfl rfl ?_
        refine fx_back rfl rfl rfl ?_
        exact ih _ _ h
def g_S_feedLocusts (M : fv_M) (i0 : Nat) : Option (fv_M) := g_S_feedLocusts_2 i0 fx_FU M (0 : Int32) (fun M_1 b1_1 => some M_1)
theorem v_S_feedLocusts {X : fv_X} {sh : fv_Sh} {k : Nat × Nat} {M : fv_M} {i0 : Nat} {r : fv_M} (h0 : fx_atS sh i0) (h : g_S_feedLocusts M i0 = some r) : fv_Rn X 39 0 [some (.ref i0)] [] k sh M (none, sh, r) := by
  unfold g_S_feedLocusts at h
  refine fx_const rfl (show Int32.ofInt 0 = (0 : Int32) by decide) ?_
  refine fx_istore rfl rfl ?_
  refine v_S_feedLocusts_2 h0 (fun M_1 b1_1 h => ?_) fx_FU _ _ h
  obtain rfl := Option.some.inj h
  exact fx_vret rfl rfl

def g_S_goBy_74 (i0 : Nat) (i1 : Nat) (a2 : Int32) : Nat → fv_M → Int32 → (fv_M → Int32 → Option (Int32 × fv_M)) → Option (Int32 × fv_M)
  | 0, _, _, _ => none
  | n + 1, M, a3, kk => if (M i1 2) ≤ a3 then (kk M a3) else ((g_S_reap M i0 i1 a3).bind fun q7 => g_S_goBy_74 i0 i1 a2 n q7 (a3 + (1 : Int32)) kk)
theorem v_S_goBy_74 {X : fv_X} {sh : fv_Sh} {k : Nat × Nat} {i0 : Nat} {i1 : Nat} {a2 : Int32} {r : Int32 × fv_M} {kk : fv_M → Int32 → Option (Int32 × fv_M)} (h0 : fx_atS sh i0) (h1 : fx_atL sh i1) (K : ∀ (M : fv_M) (a3 : Int32), kk M a3 = some r → fv_Rn X 35 94 [some (.ref i0), some (.ref i1), some (.int a2), some (.int a3)] [] k sh M (some (.int r.1), sh, r.2)) : ∀ (n : Nat) (M : fv_M) (a3 : Int32), g_S_goBy_74 i0 i1 a2 n M a3 kk = some r → fv_Rn X 35 74 [some (.ref i0), some (.ref i1), some (.int a2), some (.int a3)] [] k sh M (some (.int r.1), sh, r.2) := by
  intro n
  induction n with
  | zero =>
    intro M a3 h
    replace h : (none : Option (Int32 × fv_M)) = some r := h
    cases h
  | succ n ih =>
    intro M a3 h
    rw [g_S_goBy_74] at h
    refine fx_iload rfl rfl ?_
    refine fx_aload rfl rfl ?_
    refine fx_getI rfl h1.1 rfl rfl ?_
    by_cases c_3 : (M i1 2) ≤ a3
    · replace h := (if_pos c_3).symm.trans h
      refine fx_icge_j rfl rfl c_3 ?_
      exact K _ _ h
    · replace h := (if_neg c_3).symm.trans h
      refine fx_icge_s rfl c_3 ?_
      refine fx_aload rfl rfl ?_
      refine fx_aload rfl rfl ?_
      refine fx_iload rfl rfl ?_
      obtain ⟨q7, e_q7, h⟩ := fx_bd h
      refine fx_call [.ref i0, .ref i1, .int a3] [] rfl (by decide) rfl rfl rfl rfl rfl (Nat.le_of_ble_eq_true rfl) (fx_rcv h0.1 rfl) (v_S_reap h0 h1 e_q7) ?_
      refine fx_iinc rfl (show Int32.ofInt 1 = (1 : Int32) by decide) rfl rfl ?_
      refine fx_back rfl rfl rfl ?_
      exact ih _ _ h
def g_S_goBy_4 (i0 : Nat) (i1 : Nat) : Nat → fv_M → Int32 → Int32 → (fv_M → Int32 → Int32 → Option (Int32 × fv_M)) → Option (Int32 × fv_M)
  | 0, _, _, _, _ => none
  | n + 1, M, a2, a3, kk => if (M i1 3) ≤ a3 then (kk M a2 a3) else ((g_S_tryWork M i0 i1 a3).bind fun q1 => if q1.1 = 0 then ((g_X_at q1.2 (i0 + 4) 8 a3).bind fun q2 => (g_X_put q1.2 (i0 + 4) 8 a3 (q2 + (1 : Int32))).bind fun q3 => g_S_goBy_4 i0 i1 n q3 a2 (a3 + (1 : Int32)) kk) else ((g_X_at q1.2 (i0 + 3) 8 a3).bind fun q4 => (g_X_put q1.2 (i0 + 3) 8 a3 (q4 + (1 : Int32))).bind fun q5 => g_S_goBy_4 i0 i1 n q5 (a2 ||| ((1 : Int32) <<< (a3 &&& 31))) (a3 + (1 : Int32)) kk))
theorem v_S_goBy_4 {X : fv_X} {sh : fv_Sh} {k : Nat × Nat} {i0 : Nat} {i1 : Nat} {r : Int32 × fv_M} {kk : fv_M → Int32 → Int32 → Option (Int32 × fv_M)} (h0 : fx_atS sh i0) (h1 : fx_atL sh i1) (K : ∀ (M : fv_M) (a2 a3 : Int32), kk M a2 a3 = some r → fv_Rn X 35 72 [some (.ref i0), some (.ref i1), some (.int a2), some (.int a3)] [] k sh M (some (.int r.1), sh, r.2)) : ∀ (n : Nat) (M : fv_M) (a2 a3 : Int32), g_S_goBy_4 i0 i1 n M a2 a3 kk = some r → fv_Rn X 35 4 [some (.ref i0), some (.ref i1), some (.int a2), some (.int a3)] [] k sh M (some (.int r.1), sh, r.2) := by
  intro n
  induction n with
  | zero =>
    intro M a2 a3 h
    replace h : (none : Option (Int32 × fv_M)) = some r := h
    cases h
  | succ n ih =>
    intro M a2 a3 h
    rw [g_S_goBy_4] at h
    refine fx_iload rfl rfl ?_
    refine fx_aload rfl rfl ?_
    refine fx_getI rfl h1.1 rfl rfl ?_
    by_cases c_1 : (M i1 3) ≤ a3
    · replace h := (if_pos c_1).symm.trans h
      refine fx_icge_j rfl rfl c_1 ?_
      exact K _ _ _ h
    · replace h := (if_neg c_1).symm.trans h
      refine fx_icge_s rfl c_1 ?_
      refine fx_aload rfl rfl ?_
      refine fx_aload rfl rfl ?_
      refine fx_iload rfl rfl ?_
      obtain ⟨q1, e_q1, h⟩ := fx_bd h
      refine fx_call [.ref i0, .ref i1, .int a3] [] rfl (by decide) rfl rfl rfl rfl rfl (Nat.le_of_ble_eq_true rfl) (fx_rcv h0.1 rfl) (v_S_tryWork h0 h1 e_q1) ?_
      by_cases c_2 : q1.1 = 0
      · replace h := (if_pos c_2).symm.trans h
        refine fx_ifeq_j rfl rfl c_2 ?_
        refine fx_aload rfl rfl ?_
        refine fx_getV rfl h0.1 rfl rfl ?_
        refine fx_iload rfl rfl ?_
        refine fx_aload rfl rfl ?_
        refine fx_getV rfl h0.1 rfl rfl ?_
        refine fx_iload rfl rfl ?_
        obtain ⟨q2, e_q2, h⟩ := fx_bd h
        refine fx_call [.ref (i0 + 4), .int a3] [.int a3, .ref (i0 + 4)] rfl (by decide) rfl rfl rfl rfl rfl (Nat.le_of_ble_eq_true rfl) rfl (v_X_at h0.2.2.2.2 e_q2) ?_
        refine fx_const rfl (show Int32.ofInt 1 = (1 : Int32) by decide) ?_
        refine fx_iadd rfl ?_
        obtain ⟨q3, e_q3, h⟩ := fx_bd h
        refine fx_call [.ref (i0 + 4), .int a3, .int (q2 + (1 : Int32))] [] rfl (by decide) rfl rfl rfl rfl rfl (Nat.le_of_ble_eq_true rfl) rfl (v_X_put h0.2.2.2.2 e_q3) ?_
        refine fx_iinc rfl (show Int32.ofInt 1 = (1 : Int32) by decide) rfl rfl ?_
        refine fx_back rfl rfl rfl ?_
        exact ih _ _ _ h
      · replace h := (if_neg c_2).symm.trans h
        refine fx_ifeq_s rfl c_2 ?_
        refine fx_iload rfl rfl ?_
        refine fx_const rfl (show Int32.ofInt 1 = (1 : Int32) by decide) ?_
        refine fx_iload rfl rfl ?_
        refine fx_ishl rfl ?_
        refine fx_ior rfl ?_
        refine fx_istore rfl rfl ?_
        refine fx_aload rfl rfl ?_
        refine fx_getV rfl h0.1 rfl rfl ?_
        refine fx_iload rfl rfl ?_
        refine fx_aload rfl rfl ?_
        refine fx_getV rfl h0.1 rfl rfl ?_
        refine fx_iload rfl rfl ?_
        obtain ⟨q4, e_q4, h⟩ := fx_bd h
        refine fx_call [.ref (i0 + 3), .int a3] [.int a3, .ref (i0 + 3)] rfl (by decide) rfl rfl rfl rfl rfl (Nat.le_of_ble_eq_true rfl) rfl (v_X_at h0.2.2.2.1 e_q4) ?_
        refine fx_const rfl (show Int32.ofInt 1 = (1 : Int32) by decide) ?_
        refine fx_iadd rfl ?_
        obtain ⟨q5, e_q5, h⟩ := fx_bd h
        refine fx_call [.ref (i0 + 3), .int a3, .int (q4 + (1 : Int32))] [] rfl (by decide) rfl rfl rfl rfl rfl (Nat.le_of_ble_eq_true rfl) rfl (v_X_put h0.2.2.2.1 e_q5) ?_
        refine fx_goto rfl rfl ?_
        refine fx_iinc rfl (show Int32.ofInt 1 = (1 : Int32) by decide) rfl rfl ?_
        refine fx_back rfl rfl rfl ?_
        exact ih _ _ _ h
def g_S_goBy (M : fv_M) (i0 : Nat) (i1 : Nat) : Option (Int32 × fv_M) := g_S_goBy_4 i0 i1 fx_FU M (0 : Int32) (0 : Int32) (fun M_6 b2_6 b3_6 => g_S_goBy_74 i0 i1 b2_6 fx_FU M_6 (0 : Int32) (fun M_8 b3_8 => (g_S_feedLocusts M_8 i0).bind fun q9 => some (b2_6, (fv_set q9 i0 0 ((q9 i0 0) + (1 : Int32))))))
theorem v_S_goBy {X : fv_X} {sh : fv_Sh} {k : Nat × Nat} {M : fv_M} {i0 : Nat} {i1 : Nat} {r : Int32 × fv_M} (h0 : fx_atS sh i0) (h1 : fx_atL sh i1) (h : g_S_goBy M i0 i1 = some r) : fv_Rn X 35 0 [some (.ref i0), some (.ref i1)] [] k sh M (some (.int r.1), sh, r.2) := by
  unfold g_S_goBy at h
  refine fx_const rfl (show Int32.ofInt 0 = (0 : Int32) by decide) ?_
  refine fx_istore rfl rfl ?_
  refine fx_const rfl (show Int32.ofInt 0 = (0 : Int32) by decide) ?_
  refine fx_istore rfl rfl ?_
  refine v_S_goBy_4 h0 h1 (fun M_6 b2_6 b3_6 h => ?_) fx_FU _ _ _ h
  refine fx_const rfl (show Int32.ofInt 0 = (0 : Int32) by decide) ?_
  refine fx_istore rfl rfl ?_
  refine v_S_goBy_74 h0 h1 (fun M_8 b3_8 h => ?_) fx_FU _ _ h
  refine fx_aload rfl rfl ?_
  obtain ⟨q9, e_q9, h⟩ := fx_bd h
  refine fx_call [.ref i0] [] rfl (by decide) rfl rfl rfl rfl rfl (Nat.le_of_ble_eq_true rfl) (fx_rcv h0.1 rfl) (v_S_feedLocusts h0 e_q9) ?_
  refine fx_aload rfl rfl ?_
  refine fx_dup rfl rfl ?_
  refine fx_getI rfl h0.1 rfl rfl ?_
  refine fx_const rfl (show Int32.ofInt 1 = (1 : Int32) by decide) ?_
  refine fx_iadd rfl ?_
  refine fx_putI rfl h0.1 rfl rfl rfl ?_
  refine fx_iload rfl rfl ?_
  obtain rfl := Option.some.inj h
  exact fx_ret rfl rfl

def g_T_append (M : fv_M) (i0 : Nat) (a1 : Int32) : Option (Int32 × fv_M) := if (M i0 2) < 0 then (some ((0 : Int32), M)) else (if (M i0 2) < (200 : Int32) then (fx_ck ((M i0 2) < 0 ∨ 200 ≤ ((M i0 2)).toNatClampNeg) (some ((1 : Int32), (fv_set (fv_set M (i0 + 1) ((M i0 2)).toNatClampNeg (vp_nar .char (a1.toUInt32 % 65536).toInt32)) i0 2 (((fv_set M (i0 + 1) ((M i0 2)).toNatClampNeg (vp_nar .char (a1.toUInt32 % 65536).toInt32)) i0 2) + (1 : Int32)))))) else (some ((0 : Int32), M)))
theorem v_T_append {X : fv_X} {sh : fv_Sh} {k : Nat × Nat} {M : fv_M} {i0 : Nat} {a1 : Int32} {r : Int32 × fv_M} (h0 : fx_atT sh i0) (h : g_T_append M i0 a1 = some r) : fv_Rn X 41 0 [some (.ref i0), some (.int a1)] [] k sh M (some (.int r.1), sh, r.2) := by
  unfold g_T_append at h
  refine fx_aload rfl rfl ?_
  refine fx_getI rfl h0.1 rfl rfl ?_
  by_cases c_1 : (M i0 2) < 0
  · replace h := (if_pos c_1).symm.trans h
    refine fx_iflt_j rfl rfl c_1 ?_
    refine fx_const rfl (show Int32.ofInt 0 = (0 : Int32) by decide) ?_
    obtain rfl := Option.some.inj h
    exact fx_ret rfl rfl
  · replace h := (if_neg c_1).symm.trans h
    refine fx_iflt_s rfl c_1 ?_
    refine fx_aload rfl rfl ?_
    refine fx_getI rfl h0.1 rfl rfl ?_
    refine fx_aload rfl rfl ?_
    refine fx_getV rfl h0.1 rfl rfl ?_
    refine fx_alen rfl (fun z => absurd z.1 (by decide)) h0.2.1 (by decide) (show Int32.ofNat 200 = (200 : Int32) by decide) ?_
    by_cases c_2 : (M i0 2) < (200 : Int32)
    · replace h := (if_pos c_2).symm.trans h
      refine fx_iclt_j rfl rfl c_2 ?_
      refine fx_aload rfl rfl ?_
      refine fx_getV rfl h0.1 rfl rfl ?_
      refine fx_aload rfl rfl ?_
      refine fx_getI rfl h0.1 rfl rfl ?_
      refine fx_iload rfl rfl ?_
      refine fx_i2c rfl ?_
      obtain ⟨c_3, h⟩ := fx_ck_some h
      refine fx_castore rfl h0.2.1 c_3 ?_
      refine fx_aload rfl rfl ?_
      refine fx_dup rfl rfl ?_
      refine fx_getI rfl h0.1 rfl rfl ?_
      refine fx_const rfl (show Int32.ofInt 1 = (1 : Int32) by decide) ?_
      refine fx_iadd rfl ?_
      refine fx_putI rfl h0.1 rfl rfl rfl ?_
      refine fx_const rfl (show Int32.ofInt 1 = (1 : Int32) by decide) ?_
      obtain rfl := Option.some.inj h
      exact fx_ret rfl rfl
    · replace h := (if_neg c_2).symm.trans h
      refine fx_iclt_s rfl c_2 ?_
      refine fx_const rfl (show Int32.ofInt 0 = (0 : Int32) by decide) ?_
      obtain rfl := Option.some.inj h
      exact fx_ret rfl rfl

def g_T_letterAt (M : fv_M) (i0 : Nat) (a1 : Int32) : Option (Int32) := if a1 < 0 then (some (0 : Int32)) else (if (M i0 2) ≤ a1 then (some (0 : Int32)) else (if (200 : Int32) ≤ a1 then (some (0 : Int32)) else (fx_ck (a1 < 0 ∨ 200 ≤ (a1).toNatClampNeg) (some (M (i0 + 1) (a1).toNatClampNeg)))))
theorem v_T_letterAt {X : fv_X} {sh : fv_Sh} {k : Nat × Nat} {M : fv_M} {i0 : Nat} {a1 : Int32} {r : Int32} (h0 : fx_atT sh i0) (h : g_T_letterAt M i0 a1 = some r) : fv_Rn X 46 0 [some (.ref i0), some (.int a1)] [] k sh M (some (.int r), sh, M) := by
  unfold g_T_letterAt at h
  refine fx_iload rfl rfl ?_
  by_cases c_1 : a1 < 0
  · replace h := (if_pos c_1).symm.trans h
    refine fx_iflt_j rfl rfl c_1 ?_
    refine fx_const rfl (show Int32.ofInt 0 = (0 : Int32) by decide) ?_
    obtain rfl := Option.some.inj h
    exact fx_ret rfl rfl
  · replace h := (if_neg c_1).symm.trans h
    refine fx_iflt_s rfl c_1 ?_
    refine fx_iload rfl rfl ?_
    refine fx_aload rfl rfl ?_
    refine fx_getI rfl h0.1 rfl rfl ?_
    by_cases c_2 : (M i0 2) ≤ a1
    · replace h := (if_pos c_2).symm.trans h
      refine fx_icge_j rfl rfl c_2 ?_
      refine fx_const rfl (show Int32.ofInt 0 = (0 : Int32) by decide) ?_
      obtain rfl := Option.some.inj h
      exact fx_ret rfl rfl
    · replace h := (if_neg c_2).symm.trans h
      refine fx_icge_s rfl c_2 ?_
      refine fx_iload rfl rfl ?_
      refine fx_aload rfl rfl ?_
      refine fx_getV rfl h0.1 rfl rfl ?_
      refine fx_alen rfl (fun z => absurd z.1 (by decide)) h0.2.1 (by decide) (show Int32.ofNat 200 = (200 : Int32) by decide) ?_
      by_cases c_3 : (200 : Int32) ≤ a1
      · replace h := (if_pos c_3).symm.trans h
        refine fx_icge_j rfl rfl c_3 ?_
        refine fx_const rfl (show Int32.ofInt 0 = (0 : Int32) by decide) ?_
        obtain rfl := Option.some.inj h
        exact fx_ret rfl rfl
      · replace h := (if_neg c_3).symm.trans h
        refine fx_icge_s rfl c_3 ?_
        refine fx_aload rfl rfl ?_
        refine fx_getV rfl h0.1 rfl rfl ?_
        refine fx_iload rfl rfl ?_
        obtain ⟨c_4, h⟩ := fx_ck_some h
        refine fx_caload rfl h0.2.1 c_4 ?_
        refine fx_goto rfl rfl ?_
        obtain rfl := Option.some.inj h
        exact fx_ret rfl rfl

theorem v_sw_T_numbersBehind (x : Int32) (h0 : ¬ x = (110 : Int32)) (h1 : ¬ x = (115 : Int32)) (h2 : ¬ x = (116 : Int32)) (h3 : ¬ x = (118 : Int32)) (h4 : ¬ x = (119 : Int32)) : fv_tgt 62 110 119 #[56, 62, 62, 62, 62, 60, 56, 62, 58, 60] x = some 62 := by
  unfold fv_tgt
  split
  · rfl
  · rename_i hx
    rcases (by omega : x.toInt = 110 ∨ x.toInt = 111 ∨ x.toInt = 112 ∨ x.toInt = 113 ∨ x.toInt = 114 ∨ x.toInt = 115 ∨ x.toInt = 116 ∨ x.toInt = 117 ∨ x.toInt = 118 ∨ x.toInt = 119) with e | e | e | e | e | e | e | e | e | e
    · exact absurd (Int32.toInt_inj.mp (e.trans (show (110 : Int) = ((110 : Int32)).toInt by decide))) h0
    · rw [e]; rfl
    · rw [e]; rfl
    · rw [e]; rfl
    · rw [e]; rfl
    · exact absurd (Int32.toInt_inj.mp (e.trans (show (115 : Int) = ((115 : Int32)).toInt by decide))) h1
    · exact absurd (Int32.toInt_inj.mp (e.trans (show (116 : Int) = ((116 : Int32)).toInt by decide))) h2
    · rw [e]; rfl
    · exact absurd (Int32.toInt_inj.mp (e.trans (show (118 : Int) = ((118 : Int32)).toInt by decide))) h3
    · exact absurd (Int32.toInt_inj.mp (e.trans (show (119 : Int) = ((119 : Int32)).toInt by decide))) h4
def g_T_numbersBehind (M : fv_M) (a0 : Int32) : Option (Int32) := if a0 = (110 : Int32) then (some (1 : Int32)) else (if a0 = (115 : Int32) then (some (3 : Int32)) else (if a0 = (116 : Int32) then (some (1 : Int32)) else (if a0 = (118 : Int32) then (some (2 : Int32)) else (if a0 = (119 : Int32) then (some (3 : Int32)) else (some (0 : Int32))))))
theorem v_T_numbersBehind {X : fv_X} {sh : fv_Sh} {k : Nat × Nat} {M : fv_M} {a0 : Int32} {r : Int32}  (h : g_T_numbersBehind M a0 = some r) : fv_Rn X 45 0 [some (.int a0)] [] k sh M (some (.int r), sh, M) := by
  unfold g_T_numbersBehind at h
  refine fx_iload rfl rfl ?_
  by_cases c_1 : a0 = (110 : Int32)
  · replace h := (if_pos c_1).symm.trans h
    refine fx_tsw (t := 56) rfl (by rw [c_1]; rfl) ?_
    refine fx_const rfl (show Int32.ofInt 1 = (1 : Int32) by decide) ?_
    obtain rfl := Option.some.inj h
    exact fx_ret rfl rfl
  · replace h := (if_neg c_1).symm.trans h
    by_cases c_2 : a0 = (115 : Int32)
    · replace h := (if_pos c_2).symm.trans h
      refine fx_tsw (t := 60) rfl (by rw [c_2]; rfl) ?_
      refine fx_const rfl (show Int32.ofInt 3 = (3 : Int32) by decide) ?_
      obtain rfl := Option.some.inj h
      exact fx_ret rfl rfl
    · replace h := (if_neg c_2).symm.trans h
      by_cases c_3 : a0 = (116 : Int32)
      · replace h := (if_pos c_3).symm.trans h
        refine fx_tsw (t := 56) rfl (by rw [c_3]; rfl) ?_
        refine fx_const rfl (show Int32.ofInt 1 = (1 : Int32) by decide) ?_
        obtain rfl := Option.some.inj h
        exact fx_ret rfl rfl
      · replace h := (if_neg c_3).symm.trans h
        by_cases c_4 : a0 = (118 : Int32)
        · replace h := (if_pos c_4).symm.trans h
          refine fx_tsw (t := 58) rfl (by rw [c_4]; rfl) ?_
          refine fx_const rfl (show Int32.ofInt 2 = (2 : Int32) by decide) ?_
          obtain rfl := Option.some.inj h
          exact fx_ret rfl rfl
        · replace h := (if_neg c_4).symm.trans h
          by_cases c_5 : a0 = (119 : Int32)
          · replace h := (if_pos c_5).symm.trans h
            refine fx_tsw (t := 60) rfl (by rw [c_5]; rfl) ?_
            refine fx_const rfl (show Int32.ofInt 3 = (3 : Int32) by decide) ?_
            obtain rfl := Option.some.inj h
            exact fx_ret rfl rfl
          · replace h := (if_neg c_5).symm.trans h
            refine fx_tsw rfl (v_sw_T_numbersBehind a0 c_1 c_2 c_3 c_4 c_5) ?_
            refine fx_const rfl (show Int32.ofInt 0 = (0 : Int32) by decide) ?_
            obtain rfl := Option.some.inj h
            exact fx_ret rfl rfl

def g_T_isFigure (M : fv_M) (a0 : Int32) : Option (Int32) := (g_X_within M a0 (48 : Int32) (57 : Int32)).bind fun q1 => fx_ck (¬ (q1 = 0 ∨ q1 = 1)) (some q1)
theorem v_T_isFigure {X : fv_X} {sh : fv_Sh} {k : Nat × Nat} {M : fv_M} {a0 : Int32} {r : Int32}  (h : g_T_isFigure M a0 = some r) : fv_Rn X 49 0 [some (.int a0)] [] k sh M (some (.int r), sh, M) := by
  unfold g_T_isFigure at h
  refine fx_iload rfl rfl ?_
  refine fx_const rfl (show Int32.ofInt 48 = (48 : Int32) by decide) ?_
  refine fx_const rfl (show Int32.ofInt 57 = (57 : Int32) by decide) ?_
  obtain ⟨q1, e_q1, h⟩ := fx_bd h
  refine fx_call [.int a0, .int (48 : Int32), .int (57 : Int32)] [] rfl (by decide) rfl rfl rfl rfl rfl (Nat.le_of_ble_eq_true rfl) rfl (v_X_within  e_q1) ?_
  obtain ⟨c_1, h⟩ := fx_ck_some h
  obtain rfl := Option.some.inj h
  exact fx_ret rfl (decide_eq_true (Decidable.not_not.mp c_1))

def g_T_figuresAt (M : fv_M) (i0 : Nat) (a1 : Int32) : Option (Int32) := (g_T_letterAt M i0 a1).bind fun q1 => (g_T_isFigure M q1).bind fun q2 => if q2 = 0 then (some (0 : Int32)) else ((g_T_letterAt M i0 (a1 + (1 : Int32))).bind fun q3 => (g_T_isFigure M q3).bind fun q4 => if q4 = 0 then (some (1 : Int32)) else (some (2 : Int32)))
theorem v_T_figuresAt {X : fv_X} {sh : fv_Sh} {k : Nat × Nat} {M : fv_M} {i0 : Nat} {a1 : Int32} {r : Int32} (h0 : fx_atT sh i0) (h : g_T_figuresAt M i0 a1 = some r) : fv_Rn X 47 0 [some (.ref i0), some (.int a1)] [] k sh M (some (.int r), sh, M) := by
  unfold g_T_figuresAt at h
  refine fx_aload rfl rfl ?_
  refine fx_iload rfl rfl ?_
  obtain ⟨q1, e_q1, h⟩ := fx_bd h
  refine fx_call [.ref i0, .int a1] [] rfl (by decide) rfl rfl rfl rfl rfl (Nat.le_of_ble_eq_true rfl) (fx_rcv h0.1 rfl) (v_T_letterAt h0 e_q1) ?_
  obtain ⟨q2, e_q2, h⟩ := fx_bd h
  refine fx_call [.int q1] [] rfl (by decide) rfl rfl rfl rfl rfl (Nat.le_of_ble_eq_true rfl) rfl (v_T_isFigure  e_q2) ?_
  by_cases c_1 : q2 = 0
  · replace h := (if_pos c_1).symm.trans h
    refine fx_ifne_s rfl c_1 ?_
    refine fx_const rfl (show Int32.ofInt 0 = (0 : Int32) by decide) ?_
    obtain rfl := Option.some.inj h
    exact fx_ret rfl rfl
  · replace h := (if_neg c_1).symm.trans h
    refine fx_ifne_j rfl rfl c_1 ?_
    refine fx_aload rfl rfl ?_
    refine fx_iload rfl rfl ?_
    refine fx_const rfl (show Int32.ofInt 1 = (1 : Int32) by decide) ?_
    refine fx_iadd rfl ?_
    obtain ⟨q3, e_q3, h⟩ := fx_bd h
    refine fx_call [.ref i0, .int (a1 + (1 : Int32))] [] rfl (by decide) rfl rfl rfl rfl rfl (Nat.le_of_ble_eq_true rfl) (fx_rcv h0.1 rfl) (v_T_letterAt h0 e_q3) ?_
    obtain ⟨q4, e_q4, h⟩ := fx_bd h
    refine fx_call [.int q3] [] rfl (by decide) rfl rfl rfl rfl rfl (Nat.le_of_ble_eq_true rfl) rfl (v_T_isFigure  e_q4) ?_
    by_cases c_2 : q4 = 0
    · replace h := (if_pos c_2).symm.trans h
      refine fx_ifeq_j rfl rfl c_2 ?_
      refine fx_const rfl (show Int32.ofInt 1 = (1 : Int32) by decide) ?_
      obtain rfl := Option.some.inj h
      exact fx_ret rfl rfl
    · replace h := (if_neg c_2).symm.trans h
      refine fx_ifeq_s rfl c_2 ?_
      refine fx_const rfl (show Int32.ofInt 2 = (2 : Int32) by decide) ?_
      refine fx_goto rfl rfl ?_
      obtain rfl := Option.some.inj h
      exact fx_ret rfl rfl

def g_T_numberAt (M : fv_M) (i0 : Nat) (a1 : Int32) (a2 : Int32) : Option (Int32) := (g_T_letterAt M i0 a1).bind fun q1 => if a2 = (1 : Int32) then (some (q1 - (48 : Int32))) else ((g_T_letterAt M i0 (a1 + (1 : Int32))).bind fun q2 => some ((((10 : Int32) * (q1 - (48 : Int32))) + q2) - (48 : Int32)))
theorem v_T_numberAt {X : fv_X} {sh : fv_Sh} {k : Nat × Nat} {M : fv_M} {i0 : Nat} {a1 : Int32} {a2 : Int32} {r : Int32} (h0 : fx_atT sh i0) (h : g_T_numberAt M i0 a1 a2 = some r) : fv_Rn X 48 0 [some (.ref i0), some (.int a1), some (.int a2)] [] k sh M (some (.int r), sh, M) := by
  unfold g_T_numberAt at h
  refine fx_aload rfl rfl ?_
  refine fx_iload rfl rfl ?_
  obtain ⟨q1, e_q1, h⟩ := fx_bd h
  refine fx_call [.ref i0, .int a1] [] rfl (by decide) rfl rfl rfl rfl rfl (Nat.le_of_ble_eq_true rfl) (fx_rcv h0.1 rfl) (v_T_letterAt h0 e_q1) ?_
  refine fx_const rfl (show Int32.ofInt 48 = (48 : Int32) by decide) ?_
  refine fx_isub rfl ?_
  refine fx_istore rfl rfl ?_
  refine fx_iload rfl rfl ?_
  refine fx_const rfl (show Int32.ofInt 1 = (1 : Int32) by decide) ?_
  by_cases c_1 : a2 = (1 : Int32)
  · replace h := (if_pos c_1).symm.trans h
    refine fx_icne_s rfl c_1 ?_
    refine fx_iload rfl rfl ?_
    refine fx_goto rfl rfl ?_
    obtain rfl := Option.some.inj h
    exact fx_ret rfl rfl
  · replace h := (if_neg c_1).symm.trans h
    refine fx_icne_j rfl rfl c_1 ?_
    refine fx_const rfl (show Int32.ofInt 10 = (10 : Int32) by decide) ?_
    refine fx_iload rfl rfl ?_
    refine fx_imul rfl ?_
    refine fx_aload rfl rfl ?_
    refine fx_iload rfl rfl ?_
    refine fx_const rfl (show Int32.ofInt 1 = (1 : Int32) by decide) ?_
    refine fx_iadd rfl ?_
    obtain ⟨q2, e_q2, h⟩ := fx_bd h
    refine fx_call [.ref i0, .int (a1 + (1 : Int32))] [.int ((10 : Int32) * (q1 - (48 : Int32)))] rfl (by decide) rfl rfl rfl rfl rfl (Nat.le_of_ble_eq_true rfl) (fx_rcv h0.1 rfl) (v_T_letterAt h0 e_q2) ?_
    refine fx_iadd rfl ?_
    refine fx_const rfl (show Int32.ofInt 48 = (48 : Int32) by decide) ?_
    refine fx_isub rfl ?_
    obtain rfl := Option.some.inj h
    exact fx_ret rfl rfl

theorem v_sw_T_take (x : Int32) (h0 : ¬ x = (110 : Int32)) (h1 : ¬ x = (115 : Int32)) (h2 : ¬ x = (116 : Int32)) (h3 : ¬ x = (118 : Int32)) (h4 : ¬ x = (119 : Int32)) : fv_tgt 124 110 119 #[92, 124, 124, 124, 124, 104, 98, 124, 84, 114] x = some 124 := by
  unfold fv_tgt
  split
  · rfl
  · rename_i hx
    rcases (by omega : x.toInt = 110 ∨ x.toInt = 111 ∨ x.toInt = 112 ∨ x.toInt = 113 ∨ x.toInt = 114 ∨ x.toInt = 115 ∨ x.toInt = 116 ∨ x.toInt = 117 ∨ x.toInt = 118 ∨ x.toInt = 119) with e | e | e | e | e | e | e | e | e | e
    · exact absurd (Int32.toInt_inj.mp (e.trans (show (110 : Int) = ((110 : Int32)).toInt by decide))) h0
    · rw [e]; rfl
    · rw [e]; rfl
    · rw [e]; rfl
    · rw [e]; rfl
    · exact absurd (Int32.toInt_inj.mp (e.trans (show (115 : Int) = ((115 : Int32)).toInt by decide))) h1
    · exact absurd (Int32.toInt_inj.mp (e.trans (show (116 : Int) = ((116 : Int32)).toInt by decide))) h2
    · rw [e]; rfl
    · exact absurd (Int32.toInt_inj.mp (e.trans (show (118 : Int) = ((118 : Int32)).toInt by decide))) h3
    · exact absurd (Int32.toInt_inj.mp (e.trans (show (119 : Int) = ((119 : Int32)).toInt by decide))) h4
def g_T_take (M : fv_M) (i0 : Nat) (i1 : Nat) (a2 : Int32) : Option (Int32 × fv_M) := (g_X_at M (i0 + 2) 3 (0 : Int32)).bind fun q1 => (g_X_at M (i0 + 2) 3 (1 : Int32)).bind fun q2 => (g_X_at M (i0 + 2) 3 (2 : Int32)).bind fun q3 => if a2 = (110 : Int32) then ((g_L_addNoun M i1 q1).bind fun q4 => fx_ck (¬ (q4.1 = 0 ∨ q4.1 = 1)) (some (q4.1, q4.2))) else (if a2 = (115 : Int32) then ((g_L_addStock M i1 q1 q2 q3).bind fun q5 => fx_ck (¬ (q5.1 = 0 ∨ q5.1 = 1)) (some (q5.1, q5.2))) else (if a2 = (116 : Int32) then ((g_L_addVillage M i1 q1).bind fun q6 => fx_ck (¬ (q6.1 = 0 ∨ q6.1 = 1)) (some (q6.1, q6.2))) else (if a2 = (118 : Int32) then ((g_L_addVerb M i1 q1 q2).bind fun q7 => fx_ck (¬ (q7.1 = 0 ∨ q7.1 = 1)) (some (q7.1, q7.2))) else (if a2 = (119 : Int32) then ((g_L_addWork M i1 q1 q2 q3).bind fun q8 => fx_ck (¬ (q8.1 = 0 ∨ q8.1 = 1)) (some (q8.1, q8.2))) else (some ((0 : Int32), M))))))
theorem v_T_take {X : fv_X} {sh : fv_Sh} {k : Nat × Nat} {M : fv_M} {i0 : Nat} {i1 : Nat} {a2 : Int32} {r : Int32 × fv_M} (h0 : fx_atT sh i0) (h1 : fx_atL sh i1) (h : g_T_take M i0 i1 a2 = some r) : fv_Rn X 44 0 [some (.ref i0), some (.ref i1), some (.int a2)] [] k sh M (some (.int r.1), sh, r.2) := by
  unfold g_T_take at h
  refine fx_aload rfl rfl ?_
  refine fx_getV rfl h0.1 rfl rfl ?_
  refine fx_const rfl (show Int32.ofInt 0 = (0 : Int32) by decide) ?_
  obtain ⟨q1, e_q1, h⟩ := fx_bd h
  refine fx_call [.ref (i0 + 2), .int (0 : Int32)] [] rfl (by decide) rfl rfl rfl rfl rfl (Nat.le_of_ble_eq_true rfl) rfl (v_X_at h0.2.2 e_q1) ?_
  refine fx_istore rfl rfl ?_
  refine fx_aload rfl rfl ?_
  refine fx_getV rfl h0.1 rfl rfl ?_
  refine fx_const rfl (show Int32.ofInt 1 = (1 : Int32) by decide) ?_
  obtain ⟨q2, e_q2, h⟩ := fx_bd h
  refine fx_call [.ref (i0 + 2), .int (1 : Int32)] [] rfl (by decide) rfl rfl rfl rfl rfl (Nat.le_of_ble_eq_true rfl) rfl (v_X_at h0.2.2 e_q2) ?_
  refine fx_istore rfl rfl ?_
  refine fx_aload rfl rfl ?_
  refine fx_getV rfl h0.1 rfl rfl ?_
  refine fx_const rfl (show Int32.ofInt 2 = (2 : Int32) by decide) ?_
  obtain ⟨q3, e_q3, h⟩ := fx_bd h
  refine fx_call [.ref (i0 + 2), .int (2 : Int32)] [] rfl (by decide) rfl rfl rfl rfl rfl (Nat.le_of_ble_eq_true rfl) rfl (v_X_at h0.2.2 e_q3) ?_
  refine fx_istore rfl rfl ?_
  refine fx_iload rfl rfl ?_
  by_cases c_1 : a2 = (110 : Int32)
  · replace h := (if_pos c_1).symm.trans h
    refine fx_tsw (t := 92) rfl (by rw [c_1]; rfl) ?_
    refine fx_aload rfl rfl ?_
    refine fx_iload rfl rfl ?_
    obtain ⟨q4, e_q4, h⟩ := fx_bd h
    refine fx_call [.ref i1, .int q1] [] rfl (by decide) rfl rfl rfl rfl rfl (Nat.le_of_ble_eq_true rfl) (fx_rcv h1.1 rfl) (v_L_addNoun h1 e_q4) ?_
    obtain ⟨c_2, h⟩ := fx_ck_some h
    obtain rfl := Option.some.inj h
    exact fx_ret rfl (decide_eq_true (Decidable.not_not.mp c_2))
  · replace h := (if_neg c_1).symm.trans h
    by_cases c_3 : a2 = (115 : Int32)
    · replace h := (if_pos c_3).symm.trans h
      refine fx_tsw (t := 104) rfl (by rw [c_3]; rfl) ?_
      refine fx_aload rfl rfl ?_
      refine fx_iload rfl rfl ?_
      refine fx_iload rfl rfl ?_
      refine fx_iload rfl rfl ?_
      obtain ⟨q5, e_q5, h⟩ := fx_bd h
      refine fx_call [.ref i1, .int q1, .int q2, .int q3] [] rfl (by decide) rfl rfl rfl rfl rfl (Nat.le_of_ble_eq_true rfl) (fx_rcv h1.1 rfl) (v_L_addStock h1 e_q5) ?_
      obtain ⟨c_4, h⟩ := fx_ck_some h
      obtain rfl := Option.some.inj h
      exact fx_ret rfl (decide_eq_true (Decidable.not_not.mp c_4))
    · replace h := (if_neg c_3).symm.trans h
      by_cases c_5 : a2 = (116 : Int32)
      · replace h := (if_pos c_5).symm.trans h
        refine fx_tsw (t := 98) rfl (by rw [c_5]; rfl) ?_
        refine fx_aload rfl rfl ?_
        refine fx_iload rfl rfl ?_
        obtain ⟨q6, e_q6, h⟩ := fx_bd h
        refine fx_call [.ref i1, .int q1] [] rfl (by decide) rfl rfl rfl rfl rfl (Nat.le_of_ble_eq_true rfl) (fx_rcv h1.1 rfl) (v_L_addVillage h1 e_q6) ?_
        obtain ⟨c_6, h⟩ := fx_ck_some h
        obtain rfl := Option.some.inj h
        exact fx_ret rfl (decide_eq_true (Decidable.not_not.mp c_6))
      · replace h := (if_neg c_5).symm.trans h
        by_cases c_7 : a2 = (118 : Int32)
        · replace h := (if_pos c_7).symm.trans h
          refine fx_tsw (t := 84) rfl (by rw [c_7]; rfl) ?_
          refine fx_aload rfl rfl ?_
          refine fx_iload rfl rfl ?_
          refine fx_iload rfl rfl ?_
          obtain ⟨q7, e_q7, h⟩ := fx_bd h
          refine fx_call [.ref i1, .int q1, .int q2] [] rfl (by decide) rfl rfl rfl rfl rfl (Nat.le_of_ble_eq_true rfl) (fx_rcv h1.1 rfl) (v_L_addVerb h1 e_q7) ?_
          obtain ⟨c_8, h⟩ := fx_ck_some h
          obtain rfl := Option.some.inj h
          exact fx_ret rfl (decide_eq_true (Decidable.not_not.mp c_8))
        · replace h := (if_neg c_7).symm.trans h
          by_cases c_9 : a2 = (119 : Int32)
          · replace h := (if_pos c_9).symm.trans h
            refine fx_tsw (t := 114) rfl (by rw [c_9]; rfl) ?_
            refine fx_aload rfl rfl ?_
            refine fx_iload rfl rfl ?_
            refine fx_iload rfl rfl ?_
            refine fx_iload rfl rfl ?_
            obtain ⟨q8, e_q8, h⟩ := fx_bd h
            refine fx_call [.ref i1, .int q1, .int q2, .int q3] [] rfl (by decide) rfl rfl rfl rfl rfl (Nat.le_of_ble_eq_true rfl) (fx_rcv h1.1 rfl) (v_L_addWork h1 e_q8) ?_
            obtain ⟨c_10, h⟩ := fx_ck_some h
            obtain rfl := Option.some.inj h
            exact fx_ret rfl (decide_eq_true (Decidable.not_not.mp c_10))
          · replace h := (if_neg c_9).symm.trans h
            refine fx_tsw rfl (v_sw_T_take a2 c_1 c_3 c_5 c_7 c_9) ?_
            refine fx_const rfl (show Int32.ofInt 0 = (0 : Int32) by decide) ?_
            obtain rfl := Option.some.inj h
            exact fx_ret rfl rfl

def g_T_readItem_20 (i0 : Nat) (i1 : Nat) (a2 : Int32) (a3 : Int32) (a4 : Int32) : Nat → fv_M → Int32 → Int32 → (fv_M → Int32 → Int32 → Option (Int32 × fv_M)) → Option (Int32 × fv_M)
  | 0, _, _, _, _ => none
  | n + 1, M, a5, a6, kk => if a4 ≤ a6 then (kk M a5 a6) else ((g_T_figuresAt M i0 a5).bind fun q3 => if q3 = 0 then (some ((-4 : Int32), M)) else ((g_T_numberAt M i0 a5 q3).bind fun q4 => (g_X_put M (i0 + 2) 3 a6 q4).bind fun q5 => (g_T_letterAt q5 i0 (a5 + q3)).bind fun q6 => if (a4 - (1 : Int32)) ≤ a6 then (if q6 = (59 : Int32) then (g_T_readItem_20 i0 i1 a2 a3 a4 n q5 ((a5 + q3) + (1 : Int32)) (a6 + (1 : Int32)) kk) else (some ((-4 : Int32), q5))) else (if q6 = (44 : Int32) then (g_T_readItem_20 i0 i1 a2 a3 a4 n q5 ((a5 + q3) + (1 : Int32)) (a6 + (1 : Int32)) kk) else (some ((-4 : Int32), q5)))))
theorem v_T_readItem_20 {X : fv_X} {sh : fv_Sh} {k : Nat × Nat} {i0 : Nat} {i1 : Nat} {a2 : Int32} {a3 : Int32} {a4 : Int32} {r : Int32 × fv_M} {kk : fv_M → Int32 → Int32 → Option (Int32 × fv_M)} (h0 : fx_atT sh i0) (h1 : fx_atL sh i1) (K : ∀ (M : fv_M) (a5 a6 : Int32), kk M a5 a6 = some r → fv_Rn X 43 104 [some (.ref i0), some (.ref i1), some (.int a2), some (.int a3), some (.int a4), some (.int a5), some (.int a6)] [] k sh M (some (.int r.1), sh, r.2)) : ∀ (n : Nat) (M : fv_M) (a5 a6 : Int32), g_T_readItem_20 i0 i1 a2 a3 a4 n M a5 a6 kk = some r → fv_Rn X 43 20 [some (.ref i0), some (.ref i1), some (.int a2), some (.int a3), some (.int a4), some (.int a5), some (.int a6)] [] k sh M (some (.int r.1), sh, r.2) := by
  intro n
  induction n with
  | zero =>
    intro M a5 a6 h
    replace h : (none : Option (Int32 × fv_M)) = some r := h
    cases h
  | succ n ih =>
    intro M a5 a6 h
    rw [g_T_readItem_20] at h
    refine fx_iload rfl rfl ?_
    refine fx_iload rfl rfl ?_
    by_cases c_1 : a4 ≤ a6
    · replace h := (if_pos c_1).symm.trans h
      refine fx_icge_j rfl rfl c_1 ?_
      exact K _ _ _ h
    · replace h := (if_neg c_1).symm.trans h
      refine fx_icge_s rfl c_1 ?_
      refine fx_aload rfl rfl ?_
      refine fx_iload rfl rfl ?_
      obtain ⟨q3, e_q3, h⟩ := fx_bd h
      refine fx_call [.ref i0, .int a5] [] rfl (by decide) rfl rfl rfl rfl rfl (Nat.le_of_ble_eq_true rfl) (fx_rcv h0.1 rfl) (v_T_figuresAt h0 e_q3) ?_
      refine fx_istore rfl rfl ?_
      refine fx_iload rfl rfl ?_
      by_cases c_2 : q3 = 0
      · replace h := (if_pos c_2).symm.trans h
        refine fx_ifne_s rfl c_2 ?_
        refine fx_const rfl (show Int32.ofInt (-4) = (-4 : Int32) by decide) ?_
        obtain rfl := Option.some.inj h
        exact fx_ret rfl rfl
      · replace h := (if_neg c_2).symm.trans h
        refine fx_ifne_j rfl rfl c_2 ?_
        refine fx_aload rfl rfl ?_
        refine fx_getV rfl h0.1 rfl rfl ?_
        refine fx_iload rfl rfl ?_
        refine fx_aload rfl rfl ?_
        refine fx_iload rfl rfl ?_
        refine fx_iload rfl rfl ?_
        obtain ⟨q4, e_q4, h⟩ := fx_bd h
        refine fx_call [.ref i0, .int a5, .int q3] [.int a6, .ref (i0 + 2)] rfl (by decide) rfl rfl rfl rfl rfl (Nat.le_of_ble_eq_true rfl) (fx_rcv h0.1 rfl) (v_T_numberAt h0 e_q4) ?_
        obtain ⟨q5, e_q5, h⟩ := fx_bd h
        refine fx_call [.ref (i0 + 2), .int a6, .int q4] [] rfl (by decide) rfl rfl rfl rfl rfl (Nat.le_of_ble_eq_true rfl) rfl (v_X_put h0.2.2 e_q5) ?_
        refine fx_iload rfl rfl ?_
        refine fx_iload rfl rfl ?_
        refine fx_iadd rfl ?_
        refine fx_istore rfl rfl ?_
        refine fx_aload rfl rfl ?_
        refine fx_iload rfl rfl ?_
        obtain ⟨q6, e_q6, h⟩ := fx_bd h
        refine fx_call [.ref i0, .int (a5 + q3)] [] rfl (by decide) rfl rfl rfl rfl rfl (Nat.le_of_ble_eq_true rfl) (fx_rcv h0.1 rfl) (v_T_letterAt h0 e_q6) ?_
        refine fx_iload rfl rfl ?_
        refine fx_iload rfl rfl ?_
        refine fx_const rfl (show Int32.ofInt 1 = (1 : Int32) by decide) ?_
        refine fx_isub rfl ?_
        by_cases c_3 : (a4 - (1 : Int32)) ≤ a6
        · replace h := (if_pos c_3).symm.trans h
          refine fx_icge_j rfl rfl c_3 ?_
          refine fx_const rfl (show Int32.ofInt 59 = (59 : Int32) by decide) ?_
          by_cases c_4 : q6 = (59 : Int32)
          · replace h := (if_pos c_4).symm.trans h
            refine fx_iceq_j rfl rfl c_4 ?_
            refine fx_iinc rfl (show Int32.ofInt 1 = (1 : Int32) by decide) rfl rfl ?_
            refine fx_iinc rfl (show Int32.ofInt 1 = (1 : Int32) by decide) rfl rfl ?_
            refine fx_back rfl rfl rfl ?_
            exact ih _ _ _ h
          · replace h := (if_neg c_4).symm.trans h
            refine fx_iceq_s rfl c_4 ?_
            refine fx_const rfl (show Int32.ofInt (-4) = (-4 : Int32) by decide) ?_
            obtain rfl := Option.some.inj h
            exact fx_ret rfl rfl
        · replace h := (if_neg c_3).symm.trans h
          refine fx_icge_s rfl c_3 ?_
          refine fx_const rfl (show Int32.ofInt 44 = (44 : Int32) by decide) ?_
          refine fx_goto rfl rfl ?_
          by_cases c_5 : q6 = (44 : Int32)
          · replace h := (if_pos c_5).symm.trans h
            refine fx_iceq_j rfl rfl c_5 ?_
            refine fx_iinc rfl (show Int32.ofInt 1 = (1 : Int32) by decide) rfl rfl ?_
            refine fx_iinc rfl (show Int32.ofInt 1 = (1 : Int32) by decide) rfl rfl ?_
            refine fx_back rfl rfl rfl ?_
            exact ih _ _ _ h
          · replace h := (if_neg c_5).symm.trans h
            refine fx_iceq_s rfl c_5 ?_
            refine fx_const rfl (show Int32.ofInt (-4) = (-4 : Int32) by decide) ?_
            obtain rfl := Option.some.inj h
            exact fx_ret rfl rfl
def g_T_readItem (M : fv_M) (i0 : Nat) (i1 : Nat) (a2 : Int32) : Option (Int32 × fv_M) := (g_T_letterAt M i0 a2).bind fun q1 => (g_T_numbersBehind M q1).bind fun q2 => g_T_readItem_20 i0 i1 a2 q1 q2 fx_FU M (a2 + (1 : Int32)) (0 : Int32) (fun M_7 b5_7 b6_7 => (g_T_take M_7 i0 i1 q1).bind fun q8 => if q8.1 = 0 then (some ((-4 : Int32), q8.2)) else (some (b5_7, q8.2)))
theorem v_T_readItem {X : fv_X} {sh : fv_Sh} {k : Nat × Nat} {M : fv_M} {i0 : Nat} {i1 : Nat} {a2 : Int32} {r : Int32 × fv_M} (h0 : fx_atT sh i0) (h1 : fx_atL sh i1) (h : g_T_readItem M i0 i1 a2 = some r) : fv_Rn X 43 0 [some (.ref i0), some (.ref i1), some (.int a2)] [] k sh M (some (.int r.1), sh, r.2) := by
  unfold g_T_readItem at h
  refine fx_aload rfl rfl ?_
  refine fx_iload rfl rfl ?_
  obtain ⟨q1, e_q1, h⟩ := fx_bd h
  refine fx_call [.ref i0, .int a2] [] rfl (by decide) rfl rfl rfl rfl rfl (Nat.le_of_ble_eq_true rfl) (fx_rcv h0.1 rfl) (v_T_letterAt h0 e_q1) ?_
  refine fx_istore rfl rfl ?_
  refine fx_iload rfl rfl ?_
  obtain ⟨q2, e_q2, h⟩ := fx_bd h
  refine fx_call [.int q1] [] rfl (by decide) rfl rfl rfl rfl rfl (Nat.le_of_ble_eq_true rfl) rfl (v_T_numbersBehind  e_q2) ?_
  refine fx_istore rfl rfl ?_
  refine fx_iload rfl rfl ?_
  refine fx_const rfl (show Int32.ofInt 1 = (1 : Int32) by decide) ?_
  refine fx_iadd rfl ?_
  refine fx_istore rfl rfl ?_
  refine fx_const rfl (show Int32.ofInt 0 = (0 : Int32) by decide) ?_
  refine fx_istore rfl rfl ?_
  refine v_T_readItem_20 h0 h1 (fun M_7 b5_7 b6_7 h => ?_) fx_FU _ _ _ h
  refine fx_aload rfl rfl ?_
  refine fx_aload rfl rfl ?_
  refine fx_iload rfl rfl ?_
  obtain ⟨q8, e_q8, h⟩ := fx_bd h
  refine fx_call [.ref i0, .ref i1, .int q1] [] rfl (by decide) rfl rfl rfl rfl rfl (Nat.le_of_ble_eq_true rfl) (fx_rcv h0.1 rfl) (v_T_take h0 h1 e_q8) ?_
  by_cases c_6 : q8.1 = 0
  · replace h := (if_pos c_6).symm.trans h
    refine fx_ifeq_j rfl rfl c_6 ?_
    refine fx_const rfl (show Int32.ofInt (-4) = (-4 : Int32) by decide) ?_
    obtain rfl := Option.some.inj h
    exact fx_ret rfl rfl
  · replace h := (if_neg c_6).symm.trans h
    refine fx_ifeq_s rfl c_6 ?_
    refine fx_iload rfl rfl ?_
    refine fx_goto rfl rfl ?_
    obtain rfl := Option.some.inj h
    exact fx_ret rfl rfl

def g_T_readInto_8 (i0 : Nat) (i1 : Nat) : Nat → fv_M → Int32 → Int32 → (fv_M → Int32 → Int32 → Option (Int32 × fv_M)) → Option (Int32 × fv_M)
  | 0, _, _, _, _ => none
  | n + 1, M, a2, a3, kk => if (200 : Int32) ≤ a3 then (kk M a2 a3) else (if (M i0 2) ≤ a2 then (kk M a2 a3) else ((g_T_readItem M i0 i1 a2).bind fun q2 => if q2.1 = (-4 : Int32) then (some (a2, q2.2)) else (g_T_readInto_8 i0 i1 n q2.2 q2.1 (a3 + (1 : Int32)) kk)))
theorem v_T_readInto_8 {X : fv_X} {sh : fv_Sh} {k : Nat × Nat} {i0 : Nat} {i1 : Nat} {r : Int32 × fv_M} {kk : fv_M → Int32 → Int32 → Option (Int32 × fv_M)} (h0 : fx_atT sh i0) (h1 : fx_atL sh i1) (K : ∀ (M : fv_M) (a2 a3 : Int32), kk M a2 a3 = some r → fv_Rn X 42 49 [some (.ref i0), some (.ref i1), some (.int a2), some (.int a3)] [] k sh M (some (.int r.1), sh, r.2)) : ∀ (n : Nat) (M : fv_M) (a2 a3 : Int32), g_T_readInto_8 i0 i1 n M a2 a3 kk = some r → fv_Rn X 42 8 [some (.ref i0), some (.ref i1), some (.int a2), some (.int a3)] [] k sh M (some (.int r.1), sh, r.2) := by
  intro n
  induction n with
  | zero =>
    intro M a2 a3 h
    replace h : (none : Option (Int32 × fv_M)) = some r := h
    cases h
  | succ n ih =>
    intro M a2 a3 h
    rw [g_T_readInto_8] at h
    refine fx_iload rfl rfl ?_
    refine fx_const rfl (show Int32.ofInt 200 = (200 : Int32) by decide) ?_
    by_cases c_1 : (200 : Int32) ≤ a3
    · replace h := (if_pos c_1).symm.trans h
      refine fx_icge_j rfl rfl c_1 ?_
      exact K _ _ _ h
    · replace h := (if_neg c_1).symm.trans h
      refine fx_icge_s rfl c_1 ?_
      refine fx_iload rfl rfl ?_
      refine fx_aload rfl rfl ?_
      refine fx_getI rfl h0.1 rfl rfl ?_
      by_cases c_2 : (M i0 2) ≤ a2
      · replace h := (if_pos c_2).symm.trans h
        refine fx_icge_j rfl rfl c_2 ?_
        exact K _ _ _ h
      · replace h := (if_neg c_2).symm.trans h
        refine fx_icge_s rfl c_2 ?_
        refine fx_aload rfl rfl ?_
        refine fx_aload rfl rfl ?_
        refine fx_iload rfl rfl ?_
        obtain ⟨q2, e_q2, h⟩ := fx_bd h
        refine fx_call [.ref i0, .ref i1, .int a2] [] rfl (by decide) rfl rfl rfl rfl rfl (Nat.le_of_ble_eq_true rfl) (fx_rcv h0.1 rfl) (v_T_readItem h0 h1 e_q2) ?_
        refine fx_istore rfl rfl ?_
        refine fx_iload rfl rfl ?_
        refine fx_const rfl (show Int32.ofInt (-4) = (-4 : Int32) by decide) ?_
        by_cases c_3 : q2.1 = (-4 : Int32)
        · replace h := (if_pos c_3).symm.trans h
          refine fx_icne_s rfl c_3 ?_
          refine fx_iload rfl rfl ?_
          obtain rfl := Option.some.inj h
          exact fx_ret rfl rfl
        · replace h := (if_neg c_3).symm.trans h
          refine fx_icne_j rfl rfl c_3 ?_
          refine fx_iload rfl rfl ?_
          refine fx_istore rfl rfl ?_
          refine fx_iinc rfl (show Int32.ofInt 1 = (1 : Int32) by decide) rfl rfl ?_
          refine fx_back rfl rfl rfl ?_
          exact ih _ _ _ h
def g_T_readInto (M : fv_M) (i0 : Nat) (i1 : Nat) : Option (Int32 × fv_M) := (g_L_clear M i1).bind fun q1 => g_T_readInto_8 i0 i1 fx_FU q1 (0 : Int32) (0 : Int32) (fun M_3 b2_3 b3_3 => some ((-4 : Int32), M_3))
theorem v_T_readInto {X : fv_X} {sh : fv_Sh} {k : Nat × Nat} {M : fv_M} {i0 : Nat} {i1 : Nat} {r : Int32 × fv_M} (h0 : fx_atT sh i0) (h1 : fx_atL sh i1) (h : g_T_readInto M i0 i1 = some r) : fv_Rn X 42 0 [some (.ref i0), some (.ref i1)] [] k sh M (some (.int r.1), sh, r.2) := by
  unfold g_T_readInto at h
  refine fx_aload rfl rfl ?_
  obtain ⟨q1, e_q1, h⟩ := fx_bd h
  refine fx_call [.ref i1] [] rfl (by decide) rfl rfl rfl rfl rfl (Nat.le_of_ble_eq_true rfl) (fx_rcv h1.1 rfl) (v_L_clear h1 e_q1) ?_
  refine fx_const rfl (show Int32.ofInt 0 = (0 : Int32) by decide) ?_
  refine fx_istore rfl rfl ?_
  refine fx_const rfl (show Int32.ofInt 0 = (0 : Int32) by decide) ?_
  refine fx_istore rfl rfl ?_
  refine v_T_readInto_8 h0 h1 (fun M_3 b2_3 b3_3 h => ?_) fx_FU _ _ _ h
  refine fx_const rfl (show Int32.ofInt (-4) = (-4 : Int32) by decide) ?_
  obtain rfl := Option.some.inj h
  exact fx_ret rfl rfl

def g_X_lowestIn_2 (M : fv_M) (a0 : Int32) : Nat → Int32 → (Int32 → Option (Int32)) → Option (Int32)
  | 0, _, _ => none
  | n + 1, a1, kk => if (31 : Int32) ≤ a1 then (kk a1) else ((g_X_has M a0 a1).bind fun q1 => if q1 = 0 then (g_X_lowestIn_2 M a0 n (a1 + (1 : Int32)) kk) else (some a1))
theorem v_X_lowestIn_2 {X : fv_X} {sh : fv_Sh} {k : Nat × Nat} {M : fv_M} {a0 : Int32} {r : Int32} {kk : Int32 → Option (Int32)}  (K : ∀ (a1 : Int32), kk a1 = some r → fv_Rn X 98 24 [some (.int a0), some (.int a1)] [] k sh M (some (.int r), sh, M)) : ∀ (n : Nat) (a1 : Int32), g_X_lowestIn_2 M a0 n a1 kk = some r → fv_Rn X 98 2 [some (.int a0), some (.int a1)] [] k sh M (some (.int r), sh, M) := by
  intro n
  induction n with
  | zero =>
    intro a1 h
    replace h : (none : Option (Int32)) = some r := h
    cases h
  | succ n ih =>
    intro a1 h
    rw [g_X_lowestIn_2] at h
    refine fx_iload rfl rfl ?_
    refine fx_const rfl (show Int32.ofInt 31 = (31 : Int32) by decide) ?_
    by_cases c_1 : (31 : Int32) ≤ a1
    · replace h := (if_pos c_1).symm.trans h
      refine fx_icge_j rfl rfl c_1 ?_
      exact K _ h
    · replace h := (if_neg c_1).symm.trans h
      refine fx_icge_s rfl c_1 ?_
      refine fx_iload rfl rfl ?_
      refine fx_iload rfl rfl ?_
      obtain ⟨q1, e_q1, h⟩ := fx_bd h
      refine fx_call [.int a0, .int a1] [] rfl (by decide) rfl rfl rfl rfl rfl (Nat.le_of_ble_eq_true rfl) rfl (v_X_has  e_q1) ?_
      by_cases c_2 : q1 = 0
      · replace h := (if_pos c_2).symm.trans h
        refine fx_ifeq_j rfl rfl c_2 ?_
        refine fx_iinc rfl (show Int32.ofInt 1 = (1 : Int32) by decide) rfl rfl ?_
        refine fx_back rfl rfl rfl ?_
        exact ih _ h
      · replace h := (if_neg c_2).symm.trans h
        refine fx_ifeq_s rfl c_2 ?_
        refine fx_iload rfl rfl ?_
        obtain rfl := Option.some.inj h
        exact fx_ret rfl rfl
def g_X_lowestIn (M : fv_M) (a0 : Int32) : Option (Int32) := g_X_lowestIn_2 M a0 fx_FU (0 : Int32) (fun b1_2 => some (-4 : Int32))
theorem v_X_lowestIn {X : fv_X} {sh : fv_Sh} {k : Nat × Nat} {M : fv_M} {a0 : Int32} {r : Int32}  (h : g_X_lowestIn M a0 = some r) : fv_Rn X 98 0 [some (.int a0)] [] k sh M (some (.int r), sh, M) := by
  unfold g_X_lowestIn at h
  refine fx_const rfl (show Int32.ofInt 0 = (0 : Int32) by decide) ?_
  refine fx_istore rfl rfl ?_
  refine v_X_lowestIn_2  (fun b1_2 h => ?_) fx_FU _ h
  refine fx_const rfl (show Int32.ofInt (-4) = (-4 : Int32) by decide) ?_
  obtain rfl := Option.some.inj h
  exact fx_ret rfl rfl

def g_X_drawOf (M : fv_M) (a0 : Int32) (a1 : Int32) : Option (Int32) := some (((((((7919 : Int64) * a0.toInt64) + ((6151 : Int64) * a1.toInt64)) + (1 : Int64)) * ((((7919 : Int64) * a0.toInt64) + ((6151 : Int64) * a1.toInt64)) + (1 : Int64))) - (((((7919 : Int64) * a0.toInt64) + ((6151 : Int64) * a1.toInt64)) + (1 : Int64)) * ((((7919 : Int64) * a0.toInt64) + ((6151 : Int64) * a1.toInt64)) + (1 : Int64))) / (65521 : Int64) * (65521 : Int64)) / (8 : Int64)).toInt32
theorem v_X_drawOf {X : fv_X} {sh : fv_Sh} {k : Nat × Nat} {M : fv_M} {a0 : Int32} {a1 : Int32} {r : Int32}  (h : g_X_drawOf M a0 a1 = some r) : fv_Rn X 94 0 [some (.int a0), some (.int a1)] [] k sh M (some (.int r), sh, M) := by
  unfold g_X_drawOf at h
  refine fx_lconst rfl (show Int64.ofNat 7919 = (7919 : Int64) by decide) ?_
  refine fx_iload rfl rfl ?_
  refine fx_i2l rfl ?_
  refine fx_lmul rfl ?_
  refine fx_lconst rfl (show Int64.ofNat 6151 = (6151 : Int64) by decide) ?_
  refine fx_iload rfl rfl ?_
  refine fx_i2l rfl ?_
  refine fx_lmul rfl ?_
  refine fx_ladd rfl ?_
  refine fx_lconst rfl (show Int64.ofNat 1 = (1 : Int64) by decide) ?_
  refine fx_ladd rfl ?_
  refine fx_lstore rfl rfl ?_
  refine fx_lload rfl rfl ?_
  refine fx_lload rfl rfl ?_
  refine fx_lmul rfl ?_
  refine fx_lconst rfl (show Int64.ofNat 65521 = (65521 : Int64) by decide) ?_
  refine fx_lrem rfl (by decide) ?_
  refine fx_lconst rfl (show Int64.ofNat 8 = (8 : Int64) by decide) ?_
  refine fx_ldiv rfl (by decide) ?_
  refine fx_l2i rfl ?_
  obtain rfl := Option.some.inj h
  exact fx_ret rfl rfl

def g_X_remainder (M : fv_M) (a0 : Int32) (a1 : Int32) : Option (Int32) := if a1 ≤ 0 then (some (0 : Int32)) else (fx_ck (a1 = 0) (some (a0 - a0 / a1 * a1)))
theorem v_X_remainder {X : fv_X} {sh : fv_Sh} {k : Nat × Nat} {M : fv_M} {a0 : Int32} {a1 : Int32} {r : Int32}  (h : g_X_remainder M a0 a1 = some r) : fv_Rn X 95 0 [some (.int a0), some (.int a1)] [] k sh M (some (.int r), sh, M) := by
  unfold g_X_remainder at h
  refine fx_iload rfl rfl ?_
  by_cases c_1 : a1 ≤ 0
  · replace h := (if_pos c_1).symm.trans h
    refine fx_ifle_j rfl rfl c_1 ?_
    refine fx_const rfl (show Int32.ofInt 0 = (0 : Int32) by decide) ?_
    obtain rfl := Option.some.inj h
    exact fx_ret rfl rfl
  · replace h := (if_neg c_1).symm.trans h
    refine fx_ifle_s rfl c_1 ?_
    refine fx_iload rfl rfl ?_
    refine fx_iload rfl rfl ?_
    obtain ⟨c_2, h⟩ := fx_ck_some h
    refine fx_irem rfl c_2 ?_
    refine fx_goto rfl rfl ?_
    obtain rfl := Option.some.inj h
    exact fx_ret rfl rfl

def g_X_sumOf_10 (M : fv_M) (c0 : Nat) (n0 : Nat) (a3 : Int32) : Nat → Int32 → Int32 → (Int32 → Int32 → Option (Int32)) → Option (Int32)
  | 0, _, _, _ => none
  | n + 1, a1, a4, kk => if a3 ≤ a4 then (kk a1 a4) else (fx_ck (a4 < 0 ∨ n0 ≤ (a4).toNatClampNeg) (g_X_sumOf_10 M c0 n0 a3 n (a1 + (M c0 (a4).toNatClampNeg)) (a4 + (1 : Int32)) kk))
theorem v_X_sumOf_10 {X : fv_X} {sh : fv_Sh} {k : Nat × Nat} {M : fv_M} {c0 : Nat} {n0 : Nat} {a3 : Int32} {r : Int32} {kk : Int32 → Int32 → Option (Int32)} (h0 : sh[c0]? = some (.inl (0, n0))) (K : ∀ (a1 a4 : Int32), kk a1 a4 = some r → fv_Rn X 103 33 [some (.ref c0), some (.int a1), some (.ref c0), some (.int a3), some (.int a4)] [] k sh M (some (.int r), sh, M)) : ∀ (n : Nat) (a1 a4 : Int32), g_X_sumOf_10 M c0 n0 a3 n a1 a4 kk = some r → fv_Rn X 103 10 [some (.ref c0), some (.int a1), some (.ref c0), some (.int a3), some (.int a4)] [] k sh M (some (.int r), sh, M) := by
  intro n
  induction n with
  | zero =>
    intro a1 a4 h
    replace h : (none : Option (Int32)) = some r := h
    cases h
  | succ n ih =>
    intro a1 a4 h
    rw [g_X_sumOf_10] at h
    refine fx_iload rfl rfl ?_
    refine fx_iload rfl rfl ?_
    by_cases c_1 : a3 ≤ a4
    · replace h := (if_pos c_1).symm.trans h
      refine fx_icge_j rfl rfl c_1 ?_
      exact K _ _ h
    · replace h := (if_neg c_1).symm.trans h
      refine fx_icge_s rfl c_1 ?_
      refine fx_aload rfl rfl ?_
      refine fx_iload rfl rfl ?_
      obtain ⟨c_2, h⟩ := fx_ck_some h
      refine fx_iaload rfl (fun z => absurd z.1 (by decide)) h0 c_2 ?_
      refine fx_istore rfl rfl ?_
      refine fx_iload rfl rfl ?_
      refine fx_iload rfl rfl ?_
      refine fx_iadd rfl ?_
      refine fx_istore rfl rfl ?_
      refine fx_iinc rfl (show Int32.ofInt 1 = (1 : Int32) by decide) rfl rfl ?_
      refine fx_back rfl rfl rfl ?_
      exact ih _ _ h
def g_X_sumOf (M : fv_M) (c0 : Nat) (n0 : Nat) : Option (Int32) := g_X_sumOf_10 M c0 n0 (Int32.ofNat n0) fx_FU (0 : Int32) (0 : Int32) (fun b1_1 b4_1 => some b1_1)
theorem v_X_sumOf {X : fv_X} {sh : fv_Sh} {k : Nat × Nat} {M : fv_M} {c0 : Nat} {n0 : Nat} {r : Int32} (h0 : sh[c0]? = some (.inl (0, n0))) (h : g_X_sumOf M c0 n0 = some r) : fv_Rn X 103 0 [some (.ref c0)] [] k sh M (some (.int r), sh, M) := by
  unfold g_X_sumOf at h
  refine fx_const rfl (show Int32.ofInt 0 = (0 : Int32) by decide) ?_
  refine fx_istore rfl rfl ?_
  refine fx_aload rfl rfl ?_
  refine fx_astore rfl rfl ?_
  refine fx_aload rfl rfl ?_
  refine fx_alen rfl (fun z => absurd z.1 (by decide)) h0 (by decide) rfl ?_
  refine fx_istore rfl rfl ?_
  refine fx_const rfl (show Int32.ofInt 0 = (0 : Int32) by decide) ?_
  refine fx_istore rfl rfl ?_
  refine v_X_sumOf_10 h0 (fun b1_1 b4_1 h => ?_) fx_FU _ _ h
  refine fx_iload rfl rfl ?_
  obtain rfl := Option.some.inj h
  exact fx_ret rfl rfl
