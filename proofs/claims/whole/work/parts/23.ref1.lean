/-! methods as functions (by program gen/p20.py) -/
def g_M_clearTold_22 (i0 : Nat) : Nat → fv_M → Int32 → (fv_M → Int32 → Option (fv_M)) → Option (fv_M)
  | 0, _, _, _ => none
  | n + 1, M, a1, kk => if (45 : Int32) ≤ a1 then (kk M a1) else (if a1 < (24 : Int32) then (fx_ck (a1 < 0 ∨ 45 ≤ (a1).toNatClampNeg) (g_M_clearTold_22 i0 n (fv_set M (i0 + 17) (a1).toNatClampNeg (0 : Int32)) (a1 + (1 : Int32)) kk)) else (if (28 : Int32) ≤ a1 then (fx_ck (a1 < 0 ∨ 45 ≤ (a1).toNatClampNeg) (g_M_clearTold_22 i0 n (fv_set M (i0 + 17) (a1).toNatClampNeg (0 : Int32)) (a1 + (1 : Int32)) kk)) else (fx_ck (a1 < 0 ∨ 45 ≤ (a1).toNatClampNeg) (g_M_clearTold_22 i0 n (fv_set M (i0 + 17) (a1).toNatClampNeg (-1 : Int32)) (a1 + (1 : Int32)) kk))))
theorem v_M_clearTold_22 {X : fv_X} {sh : fv_Sh} {k : Nat × Nat} {i0 : Nat} {r : fv_M} {kk : fv_M → Int32 → Option (fv_M)} (h0 : fx_atM sh i0) (K : ∀ (M : fv_M) (a1 : Int32), kk M a1 = some r → fv_Rn X 119 57 [some (.ref i0), some (.int a1)] [] k sh M (none, sh, r)) : ∀ (n : Nat) (M : fv_M) (a1 : Int32), g_M_clearTold_22 i0 n M a1 kk = some r → fv_Rn X 119 22 [some (.ref i0), some (.int a1)] [] k sh M (none, sh, r) := by
  intro n
  induction n with
  | zero =>
    intro M a1 h
    replace h : (none : Option (fv_M)) = some r := h
    cases h
  | succ n ih =>
    intro M a1 h
    rw [g_M_clearTold_22] at h
    refine fx_iload rfl rfl ?_
    refine fx_const rfl (show Int32.ofInt 45 = (45 : Int32) by decide) ?_
    by_cases c_1 : (45 : Int32) ≤ a1
    · replace h := (if_pos c_1).symm.trans h
      refine fx_icge_j rfl rfl c_1 ?_
      exact K _ _ h
    · replace h := (if_neg c_1).symm.trans h
      refine fx_icge_s rfl c_1 ?_
      refine fx_aload rfl rfl ?_
      refine fx_getV rfl h0.1 rfl rfl ?_
      refine fx_iload rfl rfl ?_
      refine fx_iload rfl rfl ?_
      refine fx_const rfl (show Int32.ofInt 24 = (24 : Int32) by decide) ?_
      by_cases c_2 : a1 < (24 : Int32)
      · replace h := (if_pos c_2).symm.trans h
        refine fx_iclt_j rfl rfl c_2 ?_
        refine fx_const rfl (show Int32.ofInt 0 = (0 : Int32) by decide) ?_
        obtain ⟨c_3, h⟩ := fx_ck_some h
        refine fx_iastore rfl h0.2.2.2.2.2.2.2.2.2.2.2.2.2.2.2.2.2.1 c_3 ?_
        refine fx_iinc rfl (show Int32.ofInt 1 = (1 : Int32) by decide) rfl rfl ?_
        refine fx_back rfl rfl rfl ?_
        exact ih _ _ h
      · replace h := (if_neg c_2).symm.trans h
        refine fx_iclt_s rfl c_2 ?_
        refine fx_iload rfl rfl ?_
        refine fx_const rfl (show Int32.ofInt 28 = (28 : Int32) by decide) ?_
        by_cases c_4 : (28 : Int32) ≤ a1
        · replace h := (if_pos c_4).symm.trans h
          refine fx_icge_j rfl rfl c_4 ?_
          refine fx_const rfl (show Int32.ofInt 0 = (0 : Int32) by decide) ?_
          obtain ⟨c_5, h⟩ := fx_ck_some h
          refine fx_iastore rfl h0.2.2.2.2.2.2.2.2.2.2.2.2.2.2.2.2.2.1 c_5 ?_
          refine fx_iinc rfl (show Int32.ofInt 1 = (1 : Int32) by decide) rfl rfl ?_
          refine fx_back rfl rfl rfl ?_
          exact ih _ _ h
        · replace h := (if_neg c_4).symm.trans h
          refine fx_icge_s rfl c_4 ?_
          refine fx_const rfl (show Int32.ofInt (-1) = (-1 : Int32) by decide) ?_
          refine fx_goto rfl rfl ?_
          obtain ⟨c_6, h⟩ := fx_ck_some h
          refine fx_iastore rfl h0.2.2.2.2.2.2.2.2.2.2.2.2.2.2.2.2.2.1 c_6 ?_
          refine fx_iinc rfl (show Int32.ofInt 1 = (1 : Int32) by decide) rfl rfl ?_
          refine fx_back rfl rfl rfl ?_
          exact ih _ _ h
def g_M_clearTold (M : fv_M) (i0 : Nat) : Option (fv_M) := g_M_clearTold_22 i0 fx_FU (fv_set (fv_set (fv_set (fv_set M i0 21 (0 : Int32)) i0 23 (0 : Int32)) i0 25 (0 : Int32)) i0 27 (0 : Int32)) (0 : Int32) (fun M_1 b1_1 => some M_1)
theorem v_M_clearTold {X : fv_X} {sh : fv_Sh} {k : Nat × Nat} {M : fv_M} {i0 : Nat} {r : fv_M} (h0 : fx_atM sh i0) (h : g_M_clearTold M i0 = some r) : fv_Rn X 119 0 [some (.ref i0)] [] k sh M (none, sh, r) := by
  unfold g_M_clearTold at h
  refine fx_aload rfl rfl ?_
  refine fx_const rfl (show Int32.ofInt 0 = (0 : Int32) by decide) ?_
  refine fx_putI rfl h0.1 rfl rfl rfl ?_
  refine fx_aload rfl rfl ?_
  refine fx_const rfl (show Int32.ofInt 0 = (0 : Int32) by decide) ?_
  refine fx_putI rfl h0.1 rfl rfl rfl ?_
  refine fx_aload rfl rfl ?_
  refine fx_const rfl (show Int32.ofInt 0 = (0 : Int32) by decide) ?_
  refine fx_putI rfl h0.1 rfl rfl rfl ?_
  refine fx_aload rfl rfl ?_
  refine fx_const rfl (show Int32.ofInt 0 = (0 : Int32) by decide) ?_
  refine fx_putI rfl h0.1 rfl rfl rfl ?_
  refine fx_const rfl (show Int32.ofInt 0 = (0 : Int32) by decide) ?_
  refine fx_istore rfl rfl ?_
  refine v_M_clearTold_22 h0 (fun M_1 b1_1 h => ?_) fx_FU _ _ h
  obtain rfl := Option.some.inj h
  exact fx_vret rfl rfl

def g_M_tellsVerb (M : fv_M) (i0 : Nat) (a1 : Int32) (a2 : Int32) : Option (fv_M) := fx_ck (((2 : Int32) * (M i0 21)) < 0 ∨ 12 ≤ (((2 : Int32) * (M i0 21))).toNatClampNeg) (fx_ck ((((2 : Int32) * ((fv_set M (i0 + 13) (((2 : Int32) * (M i0 21))).toNatClampNeg a1) i0 21)) + (1 : Int32)) < 0 ∨ 12 ≤ ((((2 : Int32) * ((fv_set M (i0 + 13) (((2 : Int32) * (M i0 21))).toNatClampNeg a1) i0 21)) + (1 : Int32))).toNatClampNeg) (some (fv_set (fv_set (fv_set M (i0 + 13) (((2 : Int32) * (M i0 21))).toNatClampNeg a1) (i0 + 13) ((((2 : Int32) * ((fv_set M (i0 + 13) (((2 : Int32) * (M i0 21))).toNatClampNeg a1) i0 21)) + (1 : Int32))).toNatClampNeg a2) i0 21 (((fv_set (fv_set M (i0 + 13) (((2 : Int32) * (M i0 21))).toNatClampNeg a1) (i0 + 13) ((((2 : Int32) * ((fv_set M (i0 + 13) (((2 : Int32) * (M i0 21))).toNatClampNeg a1) i0 21)) + (1 : Int32))).toNatClampNeg a2) i0 21) + (1 : Int32)))))
theorem v_M_tellsVerb {X : fv_X} {sh : fv_Sh} {k : Nat × Nat} {M : fv_M} {i0 : Nat} {a1 : Int32} {a2 : Int32} {r : fv_M} (h0 : fx_atM sh i0) (h : g_M_tellsVerb M i0 a1 a2 = some r) : fv_Rn X 106 0 [some (.ref i0), some (.int a1), some (.int a2)] [] k sh M (none, sh, r) := by
  unfold g_M_tellsVerb at h
  refine fx_aload rfl rfl ?_
  refine fx_getV rfl h0.1 rfl rfl ?_
  refine fx_const rfl (show Int32.ofInt 2 = (2 : Int32) by decide) ?_
  refine fx_aload rfl rfl ?_
  refine fx_getI rfl h0.1 rfl rfl ?_
  refine fx_imul rfl ?_
  refine fx_iload rfl rfl ?_
  obtain ⟨c_1, h⟩ := fx_ck_some h
  refine fx_iastore rfl h0.2.2.2.2.2.2.2.2.2.2.2.2.2.1 c_1 ?_
  refine fx_aload rfl rfl ?_
  refine fx_getV rfl h0.1 rfl rfl ?_
  refine fx_const rfl (show Int32.ofInt 2 = (2 : Int32) by decide) ?_
  refine fx_aload rfl rfl ?_
  refine fx_getI rfl h0.1 rfl rfl ?_
  refine fx_imul rfl ?_
  refine fx_const rfl (show Int32.ofInt 1 = (1 : Int32) by decide) ?_
  refine fx_iadd rfl ?_
  refine fx_iload rfl rfl ?_
  obtain ⟨c_2, h⟩ := fx_ck_some h
  refine fx_iastore rfl h0.2.2.2.2.2.2.2.2.2.2.2.2.2.1 c_2 ?_
  refine fx_aload rfl rfl ?_
  refine fx_dup rfl rfl ?_
  refine fx_getI rfl h0.1 rfl rfl ?_
  refine fx_const rfl (show Int32.ofInt 1 = (1 : Int32) by decide) ?_
  refine fx_iadd rfl ?_
  refine fx_putI rfl h0.1 rfl rfl rfl ?_
  obtain rfl := Option.some.inj h
  exact fx_vret rfl rfl

def g_M_tellsWork (M : fv_M) (i0 : Nat) (a1 : Int32) (a2 : Int32) (a3 : Int32) : Option (fv_M) := fx_ck (((3 : Int32) * (M i0 27)) < 0 ∨ 24 ≤ (((3 : Int32) * (M i0 27))).toNatClampNeg) (fx_ck ((((3 : Int32) * ((fv_set M (i0 + 16) (((3 : Int32) * (M i0 27))).toNatClampNeg a1) i0 27)) + (1 : Int32)) < 0 ∨ 24 ≤ ((((3 : Int32) * ((fv_set M (i0 + 16) (((3 : Int32) * (M i0 27))).toNatClampNeg a1) i0 27)) + (1 : Int32))).toNatClampNeg) (fx_ck ((((3 : Int32) * ((fv_set (fv_set M (i0 + 16) (((3 : Int32) * (M i0 27))).toNatClampNeg a1) (i0 + 16) ((((3 : Int32) * ((fv_set M (i0 + 16) (((3 : Int32) * (M i0 27))).toNatClampNeg a1) i0 27)) + (1 : Int32))).toNatClampNeg a2) i0 27)) + (2 : Int32)) < 0 ∨ 24 ≤ ((((3 : Int32) * ((fv_set (fv_set M (i0 + 16) (((3 : Int32) * (M i0 27))).toNatClampNeg a1) (i0 + 16) ((((3 : Int32) * ((fv_set M (i0 + 16) (((3 : Int32) * (M i0 27))).toNatClampNeg a1) i0 27)) + (1 : Int32))).toNatClampNeg a2) i0 27)) + (2 : Int32))).toNatClampNeg) (some (fv_set (fv_set (fv_set (fv_set M (i0 + 16) (((3 : Int32) * (M i0 27))).toNatClampNeg a1) (i0 + 16) ((((3 : Int32) * ((fv_set M (i0 + 16) (((3 : Int32) * (M i0 27))).toNatClampNeg a1) i0 27)) + (1 : Int32))).toNatClampNeg a2) (i0 + 16) ((((3 : Int32) * ((fv_set (fv_set M (i0 + 16) (((3 : Int32) * (M i0 27))).toNatClampNeg a1) (i0 + 16) ((((3 : Int32) * ((fv_set M (i0 + 16) (((3 : Int32) * (M i0 27))).toNatClampNeg a1) i0 27)) + (1 : Int32))).toNatClampNeg a2) i0 27)) + (2 : Int32))).toNatClampNeg a3) i0 27 (((fv_set (fv_set (fv_set M (i0 + 16) (((3 : Int32) * (M i0 27))).toNatClampNeg a1) (i0 + 16) ((((3 : Int32) * ((fv_set M (i0 + 16) (((3 : Int32) * (M i0 27))).toNatClampNeg a1) i0 27)) + (1 : Int32))).toNatClampNeg a2) (i0 + 16) ((((3 : Int32) * ((fv_set (fv_set M (i0 + 16) (((3 : Int32) * (M i0 27))).toNatClampNeg a1) (i0 + 16) ((((3 : Int32) * ((fv_set M (i0 + 16) (((3 : Int32) * (M i0 27))).toNatClampNeg a1) i0 27)) + (1 : Int32))).toNatClampNeg a2) i0 27)) + (2 : Int32))).toNatClampNeg a3) i0 27) + (1 : Int32))))))
theorem v_M_tellsWork {X : fv_X} {sh : fv_Sh} {k : Nat × Nat} {M : fv_M} {i0 : Nat} {a1 : Int32} {a2 : Int32} {a3 : Int32} {r : fv_M} (h0 : fx_atM sh i0) (h : g_M_tellsWork M i0 a1 a2 a3 = some r) : fv_Rn X 107 0 [some (.ref i0), some (.int a1), some (.int a2), some (.int a3)] [] k sh M (none, sh, r) := by
  unfold g_M_tellsWork at h
  refine fx_aload rfl rfl ?_
  refine fx_getV rfl h0.1 rfl rfl ?_
  refine fx_const rfl (show Int32.ofInt 3 = (3 : Int32) by decide) ?_
  refine fx_aload rfl rfl ?_
  refine fx_getI rfl h0.1 rfl rfl ?_
  refine fx_imul rfl ?_
  refine fx_iload rfl rfl ?_
  obtain ⟨c_1, h⟩ := fx_ck_some h
  refine fx_iastore rfl h0.2.2.2.2.2.2.2.2.2.2.2.2.2.2.2.2.1 c_1 ?_
  refine fx_aload rfl rfl ?_
  refine fx_getV rfl h0.1 rfl rfl ?_
  refine fx_const rfl (show Int32.ofInt 3 = (3 : Int32) by decide) ?_
  refine fx_aload rfl rfl ?_
  refine fx_getI rfl h0.1 rfl rfl ?_
  refine fx_imul rfl ?_
  refine fx_const rfl (show Int32.ofInt 1 = (1 : Int32) by decide) ?_
  refine fx_iadd rfl ?_
  refine fx_iload rfl rfl ?_
  obtain ⟨c_2, h⟩ := fx_ck_some h
  refine fx_iastore rfl h0.2.2.2.2.2.2.2.2.2.2.2.2.2.2.2.2.1 c_2 ?_
  refine fx_aload rfl rfl ?_
  refine fx_getV rfl h0.1 rfl rfl ?_
  refine fx_const rfl (show Int32.ofInt 3 = (3 : Int32) by decide) ?_
  refine fx_aload rfl rfl ?_
  refine fx_getI rfl h0.1 rfl rfl ?_
  refine fx_imul rfl ?_
  refine fx_const rfl (show Int32.ofInt 2 = (2 : Int32) by decide) ?_
  refine fx_iadd rfl ?_
  refine fx_iload rfl rfl ?_
  obtain ⟨c_3, h⟩ := fx_ck_some h
  refine fx_iastore rfl h0.2.2.2.2.2.2.2.2.2.2.2.2.2.2.2.2.1 c_3 ?_
  refine fx_aload rfl rfl ?_
  refine fx_dup rfl rfl ?_
  refine fx_getI rfl h0.1 rfl rfl ?_
  refine fx_const rfl (show Int32.ofInt 1 = (1 : Int32) by decide) ?_
  refine fx_iadd rfl ?_
  refine fx_putI rfl h0.1 rfl rfl rfl ?_
  obtain rfl := Option.some.inj h
  exact fx_vret rfl rfl

def g_M_put_3 (c0 : Nat) (n0 : Nat) (c2 : Nat) (n2 : Nat) (a1 : Int32) (a3 : Int32) : Nat → fv_M → Int32 → (fv_M → Int32 → Option (fv_M)) → Option (fv_M)
  | 0, _, _, _ => none
  | n + 1, M, a4, kk => if a3 ≤ a4 then (kk M a4) else (fx_ck (a4 < 0 ∨ n2 ≤ (a4).toNatClampNeg) (fx_ck ((a1 + a4) < 0 ∨ n0 ≤ ((a1 + a4)).toNatClampNeg) (g_M_put_3 c0 n0 c2 n2 a1 a3 n (fv_set M c0 ((a1 + a4)).toNatClampNeg (M c2 (a4).toNatClampNeg)) (a4 + (1 : Int32)) kk)))
theorem v_M_put_3 {X : fv_X} {sh : fv_Sh} {k : Nat × Nat} {c0 : Nat} {n0 : Nat} {c2 : Nat} {n2 : Nat} {a1 : Int32} {a3 : Int32} {r : fv_M} {kk : fv_M → Int32 → Option (fv_M)} (h0 : sh[c0]? = some (.inl (0, n0))) (h2 : sh[c2]? = some (.inl (0, n2))) (K : ∀ (M : fv_M) (a4 : Int32), kk M a4 = some r → fv_Rn X 118 25 [some (.ref c0), some (.int a1), some (.ref c2), some (.int a3), some (.int a4)] [] k sh M (none, sh, r)) : ∀ (n : Nat) (M : fv_M) (a4 : Int32), g_M_put_3 c0 n0 c2 n2 a1 a3 n M a4 kk = some r → fv_Rn X 118 3 [some (.ref c0), some (.int a1), some (.ref c2), some (.int a3), some (.int a4)] [] k sh M (none, sh, r) := by
  intro n
  induction n with
  | zero =>
    intro M a4 h
    replace h : (none : Option (fv_M)) = some r := h
    cases h
  | succ n ih =>
    intro M a4 h
    rw [g_M_put_3] at h
    refine fx_iload rfl rfl ?_
    refine fx_iload rfl rfl ?_
    by_cases c_1 : a3 ≤ a4
    · replace h := (if_pos c_1).symm.trans h
      refine fx_icge_j rfl rfl c_1 ?_
      exact K _ _ h
    · replace h := (if_neg c_1).symm.trans h
      refine fx_icge_s rfl c_1 ?_
      refine fx_aload rfl rfl ?_
      refine fx_iload rfl rfl ?_
      refine fx_iload rfl rfl ?_
      refine fx_iadd rfl ?_
      refine fx_aload rfl rfl ?_
      refine fx_iload rfl rfl ?_
      obtain ⟨c_2, h⟩ := fx_ck_some h
      refine fx_iaload rfl (fun z => absurd z.1 (by decide)) h2 c_2 ?_
      obtain ⟨c_3, h⟩ := fx_ck_some h
      refine fx_iastore rfl h0 c_3 ?_
      refine fx_iinc rfl (show Int32.ofInt 1 = (1 : Int32) by decide) rfl rfl ?_
      refine fx_back rfl rfl rfl ?_
      exact ih _ _ h
def g_M_put (M : fv_M) (c0 : Nat) (n0 : Nat) (a1 : Int32) (c2 : Nat) (n2 : Nat) (a3 : Int32) : Option (fv_M) := g_M_put_3 c0 n0 c2 n2 a1 a3 fx_FU M (0 : Int32) (fun M_1 b4_1 => some M_1)
theorem v_M_put {X : fv_X} {sh : fv_Sh} {k : Nat × Nat} {M : fv_M} {c0 : Nat} {n0 : Nat} {a1 : Int32} {c2 : Nat} {n2 : Nat} {a3 : Int32} {r : fv_M} (h0 : sh[c0]? = some (.inl (0, n0))) (h2 : sh[c2]? = some (.inl (0, n2))) (h : g_M_put M c0 n0 a1 c2 n2 a3 = some r) : fv_Rn X 118 0 [some (.ref c0), some (.int a1), some (.ref c2), some (.int a3)] [] k sh M (none, sh, r) := by
  unfold g_M_put at h
  refine fx_const rfl (show Int32.ofInt 0 = (0 : Int32) by decide) ?_
  refine fx_istore rfl rfl ?_
  refine v_M_put_3 h0 h2 (fun M_1 b4_1 h => ?_) fx_FU _ _ h
  obtain rfl := Option.some.inj h
  exact fx_vret rfl rfl

def g_M_isIn (M : fv_M) (a0 : Int32) (a1 : Int32) : Option (Int32) := if ((a0 >>> (a1 &&& 31)) &&& (1 : Int32)) = (1 : Int32) then (some (1 : Int32)) else (some (0 : Int32))
theorem v_M_isIn {X : fv_X} {sh : fv_Sh} {k : Nat × Nat} {M : fv_M} {a0 : Int32} {a1 : Int32} {r : Int32}  (h : g_M_isIn M a0 a1 = some r) : fv_Rn X 109 0 [some (.int a0), some (.int a1)] [] k sh M (some (.int r), sh, M) := by
  unfold g_M_isIn at h
  refine fx_iload rfl rfl ?_
  refine fx_iload rfl rfl ?_
  refine fx_ishr rfl ?_
  refine fx_const rfl (show Int32.ofInt 1 = (1 : Int32) by decide) ?_
  refine fx_iand rfl ?_
  refine fx_const rfl (show Int32.ofInt 1 = (1 : Int32) by decide) ?_
  by_cases c_1 : ((a0 >>> (a1 &&& 31)) &&& (1 : Int32)) = (1 : Int32)
  · replace h := (if_pos c_1).symm.trans h
    refine fx_icne_s rfl c_1 ?_
    refine fx_const rfl (show Int32.ofInt 1 = (1 : Int32) by decide) ?_
    refine fx_goto rfl rfl ?_
    obtain rfl := Option.some.inj h
    exact fx_ret rfl rfl
  · replace h := (if_neg c_1).symm.trans h
    refine fx_icne_j rfl rfl c_1 ?_
    refine fx_const rfl (show Int32.ofInt 0 = (0 : Int32) by decide) ?_
    obtain rfl := Option.some.inj h
    exact fx_ret rfl rfl

def g_M_readingsOf_11 (M : fv_M) (i0 : Nat) (a1 : Int32) : Nat → Int32 → Int32 → (Int32 → Int32 → Option (Int32)) → Option (Int32)
  | 0, _, _, _ => none
  | n + 1, a2, a3, kk => if (M i0 2) ≤ a3 then (kk a2 a3) else ((g_M_isIn M a1 a3).bind fun q1 => if q1 = 0 then (g_M_readingsOf_11 M i0 a1 n (a2 &&& a2) (a3 + (1 : Int32)) kk) else (fx_ck (a3 < 0 ∨ 8 ≤ (a3).toNatClampNeg) (g_M_readingsOf_11 M i0 a1 n (a2 &&& (M (i0 + 2) (a3).toNatClampNeg)) (a3 + (1 : Int32)) kk)))
theorem v_M_readingsOf_11 {X : fv_X} {sh : fv_Sh} {k : Nat × Nat} {M : fv_M} {i0 : Nat} {a1 : Int32} {r : Int32} {kk : Int32 → Int32 → Option (Int32)} (h0 : fx_atM sh i0) (K : ∀ (a2 a3 : Int32), kk a2 a3 = some r → fv_Rn X 131 46 [some (.ref i0), some (.int a1), some (.int a2), some (.int a3)] [] k sh M (some (.int r), sh, M)) : ∀ (n : Nat) (a2 a3 : Int32), g_M_readingsOf_11 M i0 a1 n a2 a3 kk = some r → fv_Rn X 131 11 [some (.ref i0), some (.int a1), some (.int a2), some (.int a3)] [] k sh M (some (.int r), sh, M) := by
  intro n
  induction n with
  | zero =>
    intro a2 a3 h
    replace h : (none : Option (Int32)) = some r := h
    cases h
  | succ n ih =>
    intro a2 a3 h
    rw [g_M_readingsOf_11] at h
    refine fx_iload rfl rfl ?_
    refine fx_aload rfl rfl ?_
    refine fx_getI rfl h0.1 rfl rfl ?_
    by_cases c_1 : (M i0 2) ≤ a3
    · replace h := (if_pos c_1).symm.trans h
      refine fx_icge_j rfl rfl c_1 ?_
      exact K _ _ h
    · replace h := (if_neg c_1).symm.trans h
      refine fx_icge_s rfl c_1 ?_
      refine fx_iload rfl rfl ?_
      refine fx_iload rfl rfl ?_
      refine fx_iload rfl rfl ?_
      obtain ⟨q1, e_q1, h⟩ := fx_bd h
      refine fx_call [.int a1, .int a3] [.int a2] rfl (by decide) rfl rfl rfl rfl rfl (Nat.le_of_ble_eq_true rfl) rfl (v_M_isIn  e_q1) ?_
      by_cases c_2 : q1 = 0
      · replace h := (if_pos c_2).symm.trans h
        refine fx_ifeq_j rfl rfl c_2 ?_
        refine fx_iload rfl rfl ?_
        refine fx_iand rfl ?_
        refine fx_istore rfl rfl ?_
        refine fx_iinc rfl (show Int32.ofInt 1 = (1 : Int32) by decide) rfl rfl ?_
        refine fx_back rfl rfl rfl ?_
        exact ih _ _ h
      · replace h := (if_neg c_2).symm.trans h
        refine fx_ifeq_s rfl c_2 ?_
        refine fx_aload rfl rfl ?_
        refine fx_getV rfl h0.1 rfl rfl ?_
        refine fx_iload rfl rfl ?_
        obtain ⟨c_3, h⟩ := fx_ck_some h
        refine fx_iaload rfl (fun z => absurd z.1 (by decide)) h0.2.2.1 c_3 ?_
        refine fx_goto rfl rfl ?_
        refine fx_iand rfl ?_
        refine fx_istore rfl rfl ?_
        refine fx_iinc rfl (show Int32.ofInt 1 = (1 : Int32) by decide) rfl rfl ?_
        refine fx_back rfl rfl rfl ?_
        exact ih _ _ h
def g_M_readingsOf (M : fv_M) (i0 : Nat) (a1 : Int32) : Option (Int32) := g_M_readingsOf_11 M i0 a1 fx_FU (((1 : Int32) <<< ((M i0 0) &&& 31)) - (1 : Int32)) (0 : Int32) (fun b2_2 b3_2 => some b2_2)
theorem v_M_readingsOf {X : fv_X} {sh : fv_Sh} {k : Nat × Nat} {M : fv_M} {i0 : Nat} {a1 : Int32} {r : Int32} (h0 : fx_atM sh i0) (h : g_M_readingsOf M i0 a1 = some r) : fv_Rn X 131 0 [some (.ref i0), some (.int a1)] [] k sh M (some (.int r), sh, M) := by
  unfold g_M_readingsOf at h
  refine fx_const rfl (show Int32.ofInt 1 = (1 : Int32) by decide) ?_
  refine fx_aload rfl rfl ?_
  refine fx_getI rfl h0.1 rfl rfl ?_
  refine fx_ishl rfl ?_
  refine fx_const rfl (show Int32.ofInt 1 = (1 : Int32) by decide) ?_
  refine fx_isub rfl ?_
  refine fx_istore rfl rfl ?_
  refine fx_const rfl (show Int32.ofInt 0 = (0 : Int32) by decide) ?_
  refine fx_istore rfl rfl ?_
  refine v_M_readingsOf_11 h0 (fun b2_2 b3_2 h => ?_) fx_FU _ _ h
  refine fx_iload rfl rfl ?_
  obtain rfl := Option.some.inj h
  exact fx_ret rfl rfl

def g_M_bits_4 (M : fv_M) (a0 : Int32) : Nat → Int32 → Int32 → (Int32 → Int32 → Option (Int32)) → Option (Int32)
  | 0, _, _, _ => none
  | n + 1, a1, a2, kk => if (8 : Int32) ≤ a2 then (kk a1 a2) else (g_M_bits_4 M a0 n (a1 + ((a0 >>> (a2 &&& 31)) &&& (1 : Int32))) (a2 + (1 : Int32)) kk)
theorem v_M_bits_4 {X : fv_X} {sh : fv_Sh} {k : Nat × Nat} {M : fv_M} {a0 : Int32} {r : Int32} {kk : Int32 → Int32 → Option (Int32)}  (K : ∀ (a1 a2 : Int32), kk a1 a2 = some r → fv_Rn X 130 24 [some (.int a0), some (.int a1), some (.int a2)] [] k sh M (some (.int r), sh, M)) : ∀ (n : Nat) (a1 a2 : Int32), g_M_bits_4 M a0 n a1 a2 kk = some r → fv_Rn X 130 4 [some (.int a0), some (.int a1), some (.int a2)] [] k sh M (some (.int r), sh, M) := by
  intro n
  induction n with
  | zero =>
    intro a1 a2 h
    replace h : (none : Option (Int32)) = some r := h
    cases h
  | succ n ih =>
    intro a1 a2 h
    rw [g_M_bits_4] at h
    refine fx_iload rfl rfl ?_
    refine fx_const rfl (show Int32.ofInt 8 = (8 : Int32) by decide) ?_
    by_cases c_1 : (8 : Int32) ≤ a2
    · replace h := (if_pos c_1).symm.trans h
      refine fx_icge_j rfl rfl c_1 ?_
      exact K _ _ h
    · replace h := (if_neg c_1).symm.trans h
      refine fx_icge_s rfl c_1 ?_
      refine fx_iload rfl rfl ?_
      refine fx_iload rfl rfl ?_
      refine fx_iload rfl rfl ?_
      refine fx_ishr rfl ?_
      refine fx_const rfl (show Int32.ofInt 1 = (1 : Int32) by decide) ?_
      refine fx_iand rfl ?_
      refine fx_iadd rfl ?_
      refine fx_istore rfl rfl ?_
      refine fx_iinc rfl (show Int32.ofInt 1 = (1 : Int32) by decide) rfl rfl ?_
      refine fx_back rfl rfl rfl ?_
      exact ih _ _ h
def g_M_bits (M : fv_M) (a0 : Int32) : Option (Int32) := g_M_bits_4 M a0 fx_FU (0 : Int32) (0 : Int32) (fun b1_1 b2_1 => some b1_1)
theorem v_M_bits {X : fv_X} {sh : fv_Sh} {k : Nat × Nat} {M : fv_M} {a0 : Int32} {r : Int32}  (h : g_M_bits M a0 = some r) : fv_Rn X 130 0 [some (.int a0)] [] k sh M (some (.int r), sh, M) := by
  unfold g_M_bits at h
  refine fx_const rfl (show Int32.ofInt 0 = (0 : Int32) by decide) ?_
  refine fx_istore rfl rfl ?_
  refine fx_const rfl (show Int32.ofInt 0 = (0 : Int32) by decide) ?_
  refine fx_istore rfl rfl ?_
  refine v_M_bits_4  (fun b1_1 b2_1 h => ?_) fx_FU _ _ h
  refine fx_iload rfl rfl ?_
  obtain rfl := Option.some.inj h
  exact fx_ret rfl rfl

def g_M_settles_141 (i0 : Nat) (a1 : Int32) : Nat → fv_M → Int32 → (fv_M → Int32 → Option (fv_M)) → Option (fv_M)
  | 0, _, _, _ => none
  | n + 1, M, a2, kk => if ((1 : Int32) <<< ((M i0 2) &&& 31)) ≤ a2 then (kk M a2) else ((g_M_readingsOf M i0 a2).bind fun q4 => fx_ck (a1 < 0 ∨ 4 ≤ (a1).toNatClampNeg) (if (a2 &&& ((M (i0 + 3) (a1).toNatClampNeg) ^^^ (-1 : Int32))) = 0 then ((g_M_bits M q4).bind fun q5 => if q5 = (1 : Int32) then (g_M_settles_141 i0 a1 n (fv_set M (i0 + 5) (a1).toNatClampNeg ((M (i0 + 5) (a1).toNatClampNeg) ||| q4)) (a2 + (1 : Int32)) kk) else (g_M_settles_141 i0 a1 n (fv_set M (i0 + 5) (a1).toNatClampNeg ((M (i0 + 5) (a1).toNatClampNeg) ||| (0 : Int32))) (a2 + (1 : Int32)) kk)) else (g_M_settles_141 i0 a1 n (fv_set M (i0 + 5) (a1).toNatClampNeg ((M (i0 + 5) (a1).toNatClampNeg) ||| (0 : Int32))) (a2 + (1 : Int32)) kk)))
theorem v_M_settles_141 {X : fv_X} {sh : fv_Sh} {k : Nat × Nat} {i0 : Nat} {a1 : Int32} {r : fv_M} {kk : fv_M → Int32 → Option (fv_M)} (h0 : fx_atM sh i0) (K : ∀ (M : fv_M) (a2 : Int32), kk M a2 = some r → fv_Rn X 129 198 [some (.ref i0), some (.int a1), some (.int a2)] [] k sh M (none, sh, r)) : ∀ (n : Nat) (M : fv_M) (a2 : Int32), g_M_settles_141 i0 a1 n M a2 kk = some r → fv_Rn X 129 141 [some (.ref i0), some (.int a1), some (.int a2)] [] k sh M (none, sh, r) := by
  intro n
  induction n with
  | zero =>
    intro M a2 h
    replace h : (none : Option (fv_M)) = some r := h
    cases h
  | succ n ih =>
    intro M a2 h
    rw [g_M_settles_141] at h
    refine fx_iload rfl rfl ?_
    refine fx_const rfl (show Int32.ofInt 1 = (1 : Int32) by decide) ?_
    refine fx_aload rfl rfl ?_
    refine fx_getI rfl h0.1 rfl rfl ?_
    refine fx_ishl rfl ?_
    by_cases c_5 : ((1 : Int32) <<< ((M i0 2) &&& 31)) ≤ a2
    · replace h := (if_pos c_5).symm.trans h
      refine fx_icge_j rfl rfl c_5 ?_
      exact K _ _ h
    · replace h := (if_neg c_5).symm.trans h
      refine fx_icge_s rfl c_5 ?_
      refine fx_aload rfl rfl ?_
      refine fx_iload rfl rfl ?_
      obtain ⟨q4, e_q4, h⟩ := fx_bd h
      refine fx_call [.ref i0, .int a2] [] rfl (by decide) rfl rfl rfl rfl rfl (Nat.le_of_ble_eq_true rfl) (fx_rcv h0.1 rfl) (v_M_readingsOf h0 e_q4) ?_
      refine fx_istore rfl rfl ?_
      refine fx_aload rfl rfl ?_
      refine fx_getV rfl h0.1 rfl rfl ?_
      refine fx_iload rfl rfl ?_
      refine fx_dup2 rfl ⟨rfl, rfl⟩ ?_
      obtain ⟨c_6, h⟩ := fx_ck_some h
      refine fx_iaload rfl (fun z => absurd z.1 (by decide)) h0.2.2.2.2.2.1 c_6 ?_
      refine fx_iload rfl rfl ?_
      refine fx_aload rfl rfl ?_
      refine fx_getV rfl h0.1 rfl rfl ?_
      refine fx_iload rfl rfl ?_
      refine fx_iaload rfl (fun z => absurd z.1 (by decide)) h0.2.2.2.1 c_6 ?_
      refine fx_const rfl (show Int32.ofInt (-1) = (-1 : Int32) by decide) ?_
      refine fx_ixor rfl ?_
      refine fx_iand rfl ?_
      by_cases c_7 : (a2 &&& ((M (i0 + 3) (a1).toNatClampNeg) ^^^ (-1 : Int32))) = 0
      · replace h := (if_pos c_7).symm.trans h
        refine fx_ifne_s rfl c_7 ?_
        refine fx_iload rfl rfl ?_
        obtain ⟨q5, e_q5, h⟩ := fx_bd h
        refine fx_call [.int q4] [.int (M (i0 + 5) (a1).toNatClampNeg), .int a1, .ref (i0 + 5)] rfl (by decide) rfl rfl rfl rfl rfl (Nat.le_of_ble_eq_true rfl) rfl (v_M_bits  e_q5) ?_
        refine fx_const rfl (show Int32.ofInt 1 = (1 : Int32) by decide) ?_
        by_cases c_8 : q5 = (1 : Int32)
        · replace h := (if_pos c_8).symm.trans h
          refine fx_icne_s rfl c_8 ?_
          refine fx_iload rfl rfl ?_
          refine fx_goto rfl rfl ?_
          refine fx_ior rfl ?_
          refine fx_iastore rfl h0.2.2.2.2.2.1 c_6 ?_
          refine fx_iinc rfl (show Int32.ofInt 1 = (1 : Int32) by decide) rfl rfl ?_
          refine fx_back rfl rfl rfl ?_
          exact ih _ _ h
        · replace h := (if_neg c_8).symm.trans h
          refine fx_icne_j rfl rfl c_8 ?_
          refine fx_const rfl (show Int32.ofInt 0 = (0 : Int32) by decide) ?_
          refine fx_ior rfl ?_
          refine fx_iastore rfl h0.2.2.2.2.2.1 c_6 ?_
          refine fx_iinc rfl (show Int32.ofInt 1 = (1 : Int32) by decide) rfl rfl ?_
          refine fx_back rfl rfl rfl ?_
          exact ih _ _ h
      · replace h := (if_neg c_7).symm.trans h
        refine fx_ifne_j rfl rfl c_7 ?_
        refine fx_const rfl (show Int32.ofInt 0 = (0 : Int32) by decide) ?_
        refine fx_ior rfl ?_
        refine fx_iastore rfl h0.2.2.2.2.2.1 c_6 ?_
        refine fx_iinc rfl (show Int32.ofInt 1 = (1 : Int32) by decide) rfl rfl ?_
        refine fx_back rfl rfl rfl ?_
        exact ih _ _ h
def g_M_settles_99 (i0 : Nat) : Nat → fv_M → Int32 → (fv_M → Int32 → Option (fv_M)) → Option (fv_M)
  | 0, _, _, _ => none
  | n + 1, M, a1, kk => if (M i0 4) ≤ a1 then (kk M a1) else (fx_ck (a1 < 0 ∨ 4 ≤ (a1).toNatClampNeg) (g_M_settles_141 i0 a1 fx_FU (fv_set (fv_set M (i0 + 3) (a1).toNatClampNeg (((M (i0 + 15) (a1).toNatClampNeg) ||| (192 : Int32)) &&& (((1 : Int32) <<< ((M i0 2) &&& 31)) - (1 : Int32)))) (i0 + 5) (a1).toNatClampNeg (0 : Int32)) (1 : Int32) (fun M_6 b2_6 => g_M_settles_99 i0 n M_6 (a1 + (1 : Int32)) kk)))
theorem v_M_settles_99 {X : fv_X} {sh : fv_Sh} {k : Nat × Nat} {i0 : Nat} {r : fv_M} {kk : fv_M → Int32 → Option (fv_M)} (h0 : fx_atM sh i0) (K : ∀ (M : fv_M) (a1 : Int32), kk M a1 = some r → fv_Rn X 129 204 [some (.ref i0), some (.int a1)] [] k sh M (none, sh, r)) : ∀ (n : Nat) (M : fv_M) (a1 : Int32), g_M_settles_99 i0 n M a1 kk = some r → fv_Rn X 129 99 [some (.ref i0), some (.int a1)] [] k sh M (none, sh, r) := by
  intro n
  induction n with
  | zero =>
    intro M a1 h
    replace h : (none : Option (fv_M)) = some r := h
    cases h
  | succ n ih =>
    intro M a1 h
    rw [g_M_settles_99] at h
    refine fx_iload rfl rfl ?_
    refine fx_aload rfl rfl ?_
    refine fx_getI rfl h0.1 rfl rfl ?_
    by_cases c_3 : (M i0 4) ≤ a1
    · replace h := (if_pos c_3).symm.trans h
      refine fx_icge_j rfl rfl c_3 ?_
      exact K _ _ h
    · replace h := (if_neg c_3).symm.trans h
      refine fx_icge_s rfl c_3 ?_
      refine fx_aload rfl rfl ?_
      refine fx_getV rfl h0.1 rfl rfl ?_
      refine fx_iload rfl rfl ?_
      refine fx_aload rfl rfl ?_
      refine fx_getV rfl h0.1 rfl rfl ?_
      refine fx_iload rfl rfl ?_
      obtain ⟨c_4, h⟩ := fx_ck_some h
      refine fx_iaload rfl (fun z => absurd z.1 (by decide)) h0.2.2.2.2.2.2.2.2.2.2.2.2.2.2.2.1 c_4 ?_
      refine fx_const rfl (show Int32.ofInt 192 = (192 : Int32) by decide) ?_
      refine fx_ior rfl ?_
      refine fx_const rfl (show Int32.ofInt 1 = (1 : Int32) by decide) ?_
      refine fx_aload rfl rfl ?_
      refine fx_getI rfl h0.1 rfl rfl ?_
      refine fx_ishl rfl ?_
      refine fx_const rfl (show Int32.ofInt 1 = (1 : Int32) by decide) ?_
      refine fx_isub rfl ?_
      refine fx_iand rfl ?_
      refine fx_iastore rfl h0.2.2.2.1 c_4 ?_
      refine fx_aload rfl rfl ?_
      refine fx_getV rfl h0.1 rfl rfl ?_
      refine fx_iload rfl rfl ?_
      refine fx_const rfl (show Int32.ofInt 0 = (0 : Int32) by decide) ?_
      refine fx_iastore rfl h0.2.2.2.2.2.1 c_4 ?_
      refine fx_const rfl (show Int32.ofInt 1 = (1 : Int32) by decide) ?_
      refine fx_istore rfl rfl ?_
      refine v_M_settles_141 h0 (fun M_6 b2_6 h => ?_) fx_FU _ _ h
      refine fx_iinc rfl (show Int32.ofInt 1 = (1 : Int32) by decide) rfl rfl ?_
      refine fx_back rfl rfl rfl ?_
      exact ih _ _ h
def g_M_settles_62 (i0 : Nat) : Nat → fv_M → Int32 → (fv_M → Int32 → Option (fv_M)) → Option (fv_M)
  | 0, _, _, _ => none
  | n + 1, M, a1, kk => if (M i0 2) ≤ a1 then (kk M a1) else (fx_ck (a1 < 0 ∨ 8 ≤ (a1).toNatClampNeg) (g_M_settles_62 i0 n (fv_set M (i0 + 2) (a1).toNatClampNeg ((M (i0 + 14) (a1).toNatClampNeg) &&& (((1 : Int32) <<< ((M i0 0) &&& 31)) - (1 : Int32)))) (a1 + (1 : Int32)) kk))
theorem v_M_settles_62 {X : fv_X} {sh : fv_Sh} {k : Nat × Nat} {i0 : Nat} {r : fv_M} {kk : fv_M → Int32 → Option (fv_M)} (h0 : fx_atM sh i0) (K : ∀ (M : fv_M) (a1 : Int32), kk M a1 = some r → fv_Rn X 129 97 [some (.ref i0), some (.int a1)] [] k sh M (none, sh, r)) : ∀ (n : Nat) (M : fv_M) (a1 : Int32), g_M_settles_62 i0 n M a1 kk = some r → fv_Rn X 129 62 [some (.ref i0), some (.int a1)] [] k sh M (none, sh, r) := by
  intro n
  induction n with
  | zero =>
    intro M a1 h
    replace h : (none : Option (fv_M)) = some r := h
    cases h
  | succ n ih =>
    intro M a1 h
    rw [g_M_settles_62] at h
    refine fx_iload rfl rfl ?_
    refine fx_aload rfl rfl ?_
    refine fx_getI rfl h0.1 rfl rfl ?_
    by_cases c_1 : (M i0 2) ≤ a1
    · replace h := (if_pos c_1).symm.trans h
      refine fx_icge_j rfl rfl c_1 ?_
      exact K _ _ h
    · replace h := (if_neg c_1).symm.trans h
      refine fx_icge_s rfl c_1 ?_
      refine fx_aload rfl rfl ?_
      refine fx_getV rfl h0.1 rfl rfl ?_
      refine fx_iload rfl rfl ?_
      refine fx_aload rfl rfl ?_
      refine fx_getV rfl h0.1 rfl rfl ?_
      refine fx_iload rfl rfl ?_
      obtain ⟨c_2, h⟩ := fx_ck_some h
      refine fx_iaload rfl (fun z => absurd z.1 (by decide)) h0.2.2.2.2.2.2.2.2.2.2.2.2.2.2.1 c_2 ?_
      refine fx_const rfl (show Int32.ofInt 1 = (1 : Int32) by decide) ?_
      refine fx_aload rfl rfl ?_
      refine fx_getI rfl h0.1 rfl rfl ?_
      refine fx_ishl rfl ?_
      refine fx_const rfl (show Int32.ofInt 1 = (1 : Int32) by decide) ?_
      refine fx_isub rfl ?_
      refine fx_iand rfl ?_
      refine fx_iastore rfl h0.2.2.1 c_2 ?_
      refine fx_iinc rfl (show Int32.ofInt 1 = (1 : Int32) by decide) rfl rfl ?_
      refine fx_back rfl rfl rfl ?_
      exact ih _ _ h
def g_M_settles (M : fv_M) (i0 : Nat) : Option (fv_M) := (g_M_put (fv_set (fv_set (fv_set (fv_set M i0 0 (M i0 21)) i0 2 ((fv_set M i0 0 (M i0 21)) i0 23)) i0 4 ((fv_set (fv_set M i0 0 (M i0 21)) i0 2 ((fv_set M i0 0 (M i0 21)) i0 23)) i0 25)) i0 6 ((fv_set (fv_set (fv_set M i0 0 (M i0 21)) i0 2 ((fv_set M i0 0 (M i0 21)) i0 23)) i0 4 ((fv_set (fv_set M i0 0 (M i0 21)) i0 2 ((fv_set M i0 0 (M i0 21)) i0 23)) i0 25)) i0 27)) (i0 + 1) 12 (0 : Int32) (i0 + 13) 12 (12 : Int32)).bind fun q1 => (g_M_put q1 (i0 + 4) 24 (0 : Int32) (i0 + 16) 24 (24 : Int32)).bind fun q2 => g_M_settles_62 i0 fx_FU q2 (0 : Int32) (fun M_3 b1_3 => g_M_settles_99 i0 fx_FU M_3 (0 : Int32) (fun M_7 b1_7 => (g_M_put M_7 (i0 + 6) 45 (0 : Int32) (i0 + 17) 45 (45 : Int32)).bind fun q8 => (g_M_put q8 (i0 + 7) 45 (0 : Int32) (i0 + 17) 45 (45 : Int32)).bind fun q9 => some (fv_set (fv_set (fv_set q9 i0 11 (0 : Int32)) i0 13 (0 : Int32)) i0 15 (0 : Int32))))
theorem v_M_settles {X : fv_X} {sh : fv_Sh} {k : Nat × Nat} {M : fv_M} {i0 : Nat} {r : fv_M} (h0 : fx_atM sh i0) (h : g_M_settles M i0 = some r) : fv_Rn X 129 0 [some (.ref i0)] [] k sh M (none, sh, r) := by
  unfold g_M_settles at h
  refine fx_aload rfl rfl ?_
  refine fx_aload rfl rfl ?_
  refine fx_getI rfl h0.1 rfl rfl ?_
  refine fx_putI rfl h0.1 rfl rfl rfl ?_
  refine fx_aload rfl rfl ?_
  refine fx_aload rfl rfl ?_
  refine fx_getI rfl h0.1 rfl rfl ?_
  refine fx_putI rfl h0.1 rfl rfl rfl ?_
  refine fx_aload rfl rfl ?_
  refine fx_aload rfl rfl ?_
  refine fx_getI rfl h0.1 rfl rfl ?_
  refine fx_putI rfl h0.1 rfl rfl rfl ?_
  refine fx_aload rfl rfl ?_
  refine fx_aload rfl rfl ?_
  refine fx_getI rfl h0.1 rfl rfl ?_
  refine fx_putI rfl h0.1 rfl rfl rfl ?_
  refine fx_aload rfl rfl ?_
  refine fx_getV rfl h0.1 rfl rfl ?_
  refine fx_const rfl (show Int32.ofInt 0 = (0 : Int32) by decide) ?_
  refine fx_aload rfl rfl ?_
  refine fx_getV rfl h0.1 rfl rfl ?_
  refine fx_const rfl (show Int32.ofInt 12 = (12 : Int32) by decide) ?_
  obtain ⟨q1, e_q1, h⟩ := fx_bd h
  refine fx_call [.ref (i0 + 1), .int (0 : Int32), .ref (i0 + 13), .int (12 : Int32)] [] rfl (by decide) rfl rfl rfl rfl rfl (Nat.le_of_ble_eq_true rfl) rfl (v_M_put h0.2.1 h0.2.2.2.2.2.2.2.2.2.2.2.2.2.1 e_q1) ?_
  refine fx_aload rfl rfl ?_
  refine fx_getV rfl h0.1 rfl rfl ?_
  refine fx_const rfl (show Int32.ofInt 0 = (0 : Int32) by decide) ?_
  refine fx_aload rfl rfl ?_
  refine fx_getV rfl h0.1 rfl rfl ?_
  refine fx_const rfl (show Int32.ofInt 24 = (24 : Int32) by decide) ?_
  obtain ⟨q2, e_q2, h⟩ := fx_bd h
  refine fx_call [.ref (i0 + 4), .int (0 : Int32), .ref (i0 + 16), .int (24 : Int32)] [] rfl (by decide) rfl rfl rfl rfl rfl (Nat.le_of_ble_eq_true rfl) rfl (v_M_put h0.2.2.2.2.1 h0.2.2.2.2.2.2.2.2.2.2.2.2.2.2.2.2.1 e_q2) ?_
  refine fx_const rfl (show Int32.ofInt 0 = (0 : Int32) by decide) ?_
  refine fx_istore rfl rfl ?_
  refine v_M_settles_62 h0 (fun M_3 b1_3 h => ?_) fx_FU _ _ h
  refine fx_const rfl (show Int32.ofInt 0 = (0 : Int32) by decide) ?_
  refine fx_istore rfl rfl ?_
  refine v_M_settles_99 h0 (fun M_7 b1_7 h => ?_) fx_FU _ _ h
  refine fx_aload rfl rfl ?_
  refine fx_getV rfl h0.1 rfl rfl ?_
  refine fx_const rfl (show Int32.ofInt 0 = (0 : Int32) by decide) ?_
  refine fx_aload rfl rfl ?_
  refine fx_getV rfl h0.1 rfl rfl ?_
  refine fx_const rfl (show Int32.ofInt 45 = (45 : Int32) by decide) ?_
  obtain ⟨q8, e_q8, h⟩ := fx_bd h
  refine fx_call [.ref (i0 + 6), .int (0 : Int32), .ref (i0 + 17), .int (45 : Int32)] [] rfl (by decide) rfl rfl rfl rfl rfl (Nat.le_of_ble_eq_true rfl) rfl (v_M_put h0.2.2.2.2.2.2.1 h0.2.2.2.2.2.2.2.2.2.2.2.2.2.2.2.2.2.1 e_q8) ?_
  refine fx_aload rfl rfl ?_
  refine fx_getV rfl h0.1 rfl rfl ?_
  refine fx_const rfl (show Int32.ofInt 0 = (0 : Int32) by decide) ?_
  refine fx_aload rfl rfl ?_
  refine fx_getV rfl h0.1 rfl rfl ?_
  refine fx_const rfl (show Int32.ofInt 45 = (45 : Int32) by decide) ?_
  obtain ⟨q9, e_q9, h⟩ := fx_bd h
  refine fx_call [.ref (i0 + 7), .int (0 : Int32), .ref (i0 + 17), .int (45 : Int32)] [] rfl (by decide) rfl rfl rfl rfl rfl (Nat.le_of_ble_eq_true rfl) rfl (v_M_put h0.2.2.2.2.2.2.2.1 h0.2.2.2.2.2.2.2.2.2.2.2.2.2.2.2.2.2.1 e_q9) ?_
  refine fx_aload rfl rfl ?_
  refine fx_const rfl (show Int32.ofInt 0 = (0 : Int32) by decide) ?_
  refine fx_putI rfl h0.1 rfl rfl rfl ?_
  refine fx_aload rfl rfl ?_
  refine fx_const rfl (show Int32.ofInt 0 = (0 : Int32) by decide) ?_
  refine fx_putI rfl h0.1 rfl rfl rfl ?_
  refine fx_aload rfl rfl ?_
  refine fx_const rfl (show Int32.ofInt 0 = (0 : Int32) by decide) ?_
  refine fx_putI rfl h0.1 rfl rfl rfl ?_
  obtain rfl := Option.some.inj h
  exact fx_vret rfl rfl

def g_M_in (M : fv_M) (a0 : Int32) (a1 : Int32) (a2 : Int32) : Option (Int32) := if a0 < a1 then (some (0 : Int32)) else (if a2 < a0 then (some (0 : Int32)) else (some (1 : Int32)))
theorem v_M_in {X : fv_X} {sh : fv_Sh} {k : Nat × Nat} {M : fv_M} {a0 : Int32} {a1 : Int32} {a2 : Int32} {r : Int32}  (h : g_M_in M a0 a1 a2 = some r) : fv_Rn X 108 0 [some (.int a0), some (.int a1), some (.int a2)] [] k sh M (some (.int r), sh, M) := by
  unfold g_M_in at h
  refine fx_iload rfl rfl ?_
  refine fx_iload rfl rfl ?_
  by_cases c_1 : a0 < a1
  · replace h := (if_pos c_1).symm.trans h
    refine fx_iclt_j rfl rfl c_1 ?_
    refine fx_const rfl (show Int32.ofInt 0 = (0 : Int32) by decide) ?_
    obtain rfl := Option.some.inj h
    exact fx_ret rfl rfl
  · replace h := (if_neg c_1).symm.trans h
    refine fx_iclt_s rfl c_1 ?_
    refine fx_iload rfl rfl ?_
    refine fx_iload rfl rfl ?_
    by_cases c_2 : a2 < a0
    · replace h := (if_pos c_2).symm.trans h
      refine fx_icgt_j rfl rfl c_2 ?_
      refine fx_const rfl (show Int32.ofInt 0 = (0 : Int32) by decide) ?_
      obtain rfl := Option.some.inj h
      exact fx_ret rfl rfl
    · replace h := (if_neg c_2).symm.trans h
      refine fx_icgt_s rfl c_2 ?_
      refine fx_const rfl (show Int32.ofInt 1 = (1 : Int32) by decide) ?_
      refine fx_goto rfl rfl ?_
      obtain rfl := Option.some.inj h
      exact fx_ret rfl rfl

def g_M_isVerb (M : fv_M) (i0 : Nat) (a1 : Int32) : Option (Int32) := (g_M_in M a1 (0 : Int32) ((M i0 0) - (1 : Int32))).bind fun q1 => fx_ck (¬ (q1 = 0 ∨ q1 = 1)) (some q1)
theorem v_M_isVerb {X : fv_X} {sh : fv_Sh} {k : Nat × Nat} {M : fv_M} {i0 : Nat} {a1 : Int32} {r : Int32} (h0 : fx_atM sh i0) (h : g_M_isVerb M i0 a1 = some r) : fv_Rn X 110 0 [some (.ref i0), some (.int a1)] [] k sh M (some (.int r), sh, M) := by
  unfold g_M_isVerb at h
  refine fx_iload rfl rfl ?_
  refine fx_const rfl (show Int32.ofInt 0 = (0 : Int32) by decide) ?_
  refine fx_aload rfl rfl ?_
  refine fx_getI rfl h0.1 rfl rfl ?_
  refine fx_const rfl (show Int32.ofInt 1 = (1 : Int32) by decide) ?_
  refine fx_isub rfl ?_
  obtain ⟨q1, e_q1, h⟩ := fx_bd h
  refine fx_call [.int a1, .int (0 : Int32), .int ((M i0 0) - (1 : Int32))] [] rfl (by decide) rfl rfl rfl rfl rfl (Nat.le_of_ble_eq_true rfl) rfl (v_M_in  e_q1) ?_
  obtain ⟨c_1, h⟩ := fx_ck_some h
  obtain rfl := Option.some.inj h
  exact fx_ret rfl (decide_eq_true (Decidable.not_not.mp c_1))

def g_M_isVillage (M : fv_M) (i0 : Nat) (a1 : Int32) : Option (Int32) := (g_M_in M a1 (0 : Int32) ((M i0 4) - (1 : Int32))).bind fun q1 => fx_ck (¬ (q1 = 0 ∨ q1 = 1)) (some q1)
theorem v_M_isVillage {X : fv_X} {sh : fv_Sh} {k : Nat × Nat} {M : fv_M} {i0 : Nat} {a1 : Int32} {r : Int32} (h0 : fx_atM sh i0) (h : g_M_isVillage M i0 a1 = some r) : fv_Rn X 111 0 [some (.ref i0), some (.int a1)] [] k sh M (some (.int r), sh, M) := by
  unfold g_M_isVillage at h
  refine fx_iload rfl rfl ?_
  refine fx_const rfl (show Int32.ofInt 0 = (0 : Int32) by decide) ?_
  refine fx_aload rfl rfl ?_
  refine fx_getI rfl h0.1 rfl rfl ?_
  refine fx_const rfl (show Int32.ofInt 1 = (1 : Int32) by decide) ?_
  refine fx_isub rfl ?_
  obtain ⟨q1, e_q1, h⟩ := fx_bd h
  refine fx_call [.int a1, .int (0 : Int32), .int ((M i0 4) - (1 : Int32))] [] rfl (by decide) rfl rfl rfl rfl rfl (Nat.le_of_ble_eq_true rfl) rfl (v_M_in  e_q1) ?_
  obtain ⟨c_1, h⟩ := fx_ck_some h
  obtain rfl := Option.some.inj h
  exact fx_ret rfl (decide_eq_true (Decidable.not_not.mp c_1))

def g_M_write (M : fv_M) (i0 : Nat) (a1 : Int32) : Option (Int32 × fv_M) := (g_M_in M a1 (32 : Int32) (126 : Int32)).bind fun q1 => if q1 = 0 then (some ((-1 : Int32), M)) else (if (M i0 18) = (200 : Int32) then (some ((-3 : Int32), M)) else (fx_ck ((M i0 18) < 0 ∨ 200 ≤ ((M i0 18)).toNatClampNeg) (some (((fv_set (fv_set M (i0 + 11) ((M i0 18)).toNatClampNeg a1) i0 18 (((fv_set M (i0 + 11) ((M i0 18)).toNatClampNeg a1) i0 18) + (1 : Int32))) i0 18), (fv_set (fv_set M (i0 + 11) ((M i0 18)).toNatClampNeg a1) i0 18 (((fv_set M (i0 + 11) ((M i0 18)).toNatClampNeg a1) i0 18) + (1 : Int32)))))))
theorem v_M_write {X : fv_X} {sh : fv_Sh} {k : Nat × Nat} {M : fv_M} {i0 : Nat} {a1 : Int32} {r : Int32 × fv_M} (h0 : fx_atM sh i0) (h : g_M_write M i0 a1 = some r) : fv_Rn X 112 0 [some (.ref i0), some (.int a1)] [] k sh M (some (.int r.1), sh, r.2) := by
  unfold g_M_write at h
  refine fx_iload rfl rfl ?_
  refine fx_const rfl (show Int32.ofInt 32 = (32 : Int32) by decide) ?_
  refine fx_const rfl (show Int32.ofInt 126 = (126 : Int32) by decide) ?_
  obtain ⟨q1, e_q1, h⟩ := fx_bd h
  refine fx_call [.int a1, .int (32 : Int32), .int (126 : Int32)] [] rfl (by decide) rfl rfl rfl rfl rfl (Nat.le_of_ble_eq_true rfl) rfl (v_M_in  e_q1) ?_
  by_cases c_1 : q1 = 0
  · replace h := (if_pos c_1).symm.trans h
    refine fx_ifne_s rfl c_1 ?_
    refine fx_const rfl (show Int32.ofInt (-1) = (-1 : Int32) by decide) ?_
    obtain rfl := Option.some.inj h
    exact fx_ret rfl rfl
  · replace h := (if_neg c_1).symm.trans h
    refine fx_ifne_j rfl rfl c_1 ?_
    refine fx_aload rfl rfl ?_
    refine fx_getI rfl h0.1 rfl rfl ?_
    refine fx_const rfl (show Int32.ofInt 200 = (200 : Int32) by decide) ?_
    by_cases c_2 : (M i0 18) = (200 : Int32)
    · replace h := (if_pos c_2).symm.trans h
      refine fx_icne_s rfl c_2 ?_
      refine fx_const rfl (show Int32.ofInt (-3) = (-3 : Int32) by decide) ?_
      obtain rfl := Option.some.inj h
      exact fx_ret rfl rfl
    · replace h := (if_neg c_2).symm.trans h
      refine fx_icne_j rfl rfl c_2 ?_
      refine fx_aload rfl rfl ?_
      refine fx_getV rfl h0.1 rfl rfl ?_
      refine fx_aload rfl rfl ?_
      refine fx_getI rfl h0.1 rfl rfl ?_
      refine fx_iload rfl rfl ?_
      obtain ⟨c_3, h⟩ := fx_ck_some h
      refine fx_iastore rfl h0.2.2.2.2.2.2.2.2.2.2.2.1 c_3 ?_
      refine fx_aload rfl rfl ?_
      refine fx_dup rfl rfl ?_
      refine fx_getI rfl h0.1 rfl rfl ?_
      refine fx_const rfl (show Int32.ofInt 1 = (1 : Int32) by decide) ?_
      refine fx_iadd rfl ?_
      refine fx_putI rfl h0.1 rfl rfl rfl ?_
      refine fx_aload rfl rfl ?_
      refine fx_getI rfl h0.1 rfl rfl ?_
      obtain rfl := Option.some.inj h
      exact fx_ret rfl rfl

def g_M_wipe (M : fv_M) (i0 : Nat) : Option (Int32 × fv_M) := some ((M i0 18), (fv_set M i0 18 (0 : Int32)))
theorem v_M_wipe {X : fv_X} {sh : fv_Sh} {k : Nat × Nat} {M : fv_M} {i0 : Nat} {r : Int32 × fv_M} (h0 : fx_atM sh i0) (h : g_M_wipe M i0 = some r) : fv_Rn X 113 0 [some (.ref i0)] [] k sh M (some (.int r.1), sh, r.2) := by
  unfold g_M_wipe at h
  refine fx_aload rfl rfl ?_
  refine fx_getI rfl h0.1 rfl rfl ?_
  refine fx_istore rfl rfl ?_
  refine fx_aload rfl rfl ?_
  refine fx_const rfl (show Int32.ofInt 0 = (0 : Int32) by decide) ?_
  refine fx_putI rfl h0.1 rfl rfl rfl ?_
  refine fx_iload rfl rfl ?_
  obtain rfl := Option.some.inj h
  exact fx_ret rfl rfl

def g_M_letterAt (M : fv_M) (i0 : Nat) (a1 : Int32) : Option (Int32) := if (M i0 18) ≤ a1 then (some (-1 : Int32)) else (fx_ck (a1 < 0 ∨ 200 ≤ (a1).toNatClampNeg) (some (M (i0 + 11) (a1).toNatClampNeg)))
theorem v_M_letterAt {X : fv_X} {sh : fv_Sh} {k : Nat × Nat} {M : fv_M} {i0 : Nat} {a1 : Int32} {r : Int32} (h0 : fx_atM sh i0) (h : g_M_letterAt M i0 a1 = some r) : fv_Rn X 114 0 [some (.ref i0), some (.int a1)] [] k sh M (some (.int r), sh, M) := by
  unfold g_M_letterAt at h
  refine fx_iload rfl rfl ?_
  refine fx_aload rfl rfl ?_
  refine fx_getI rfl h0.1 rfl rfl ?_
  by_cases c_1 : (M i0 18) ≤ a1
  · replace h := (if_pos c_1).symm.trans h
    refine fx_icge_j rfl rfl c_1 ?_
    refine fx_const rfl (show Int32.ofInt (-1) = (-1 : Int32) by decide) ?_
    obtain rfl := Option.some.inj h
    exact fx_ret rfl rfl
  · replace h := (if_neg c_1).symm.trans h
    refine fx_icge_s rfl c_1 ?_
    refine fx_aload rfl rfl ?_
    refine fx_getV rfl h0.1 rfl rfl ?_
    refine fx_iload rfl rfl ?_
    obtain ⟨c_2, h⟩ := fx_ck_some h
    refine fx_iaload rfl (fun z => absurd z.1 (by decide)) h0.2.2.2.2.2.2.2.2.2.2.2.1 c_2 ?_
    refine fx_goto rfl rfl ?_
    obtain rfl := Option.some.inj h
    exact fx_ret rfl rfl

def g_M_isFigure (M : fv_M) (a0 : Int32) : Option (Int32) := (g_M_in M a0 (48 : Int32) (57 : Int32)).bind fun q1 => fx_ck (¬ (q1 = 0 ∨ q1 = 1)) (some q1)
theorem v_M_isFigure {X : fv_X} {sh : fv_Sh} {k : Nat × Nat} {M : fv_M} {a0 : Int32} {r : Int32}  (h : g_M_isFigure M a0 = some r) : fv_Rn X 115 0 [some (.int a0)] [] k sh M (some (.int r), sh, M) := by
  unfold g_M_isFigure at h
  refine fx_iload rfl rfl ?_
  refine fx_const rfl (show Int32.ofInt 48 = (48 : Int32) by decide) ?_
  refine fx_const rfl (show Int32.ofInt 57 = (57 : Int32) by decide) ?_
  obtain ⟨q1, e_q1, h⟩ := fx_bd h
  refine fx_call [.int a0, .int (48 : Int32), .int (57 : Int32)] [] rfl (by decide) rfl rfl rfl rfl rfl (Nat.le_of_ble_eq_true rfl) rfl (v_M_in  e_q1) ?_
  obtain ⟨c_1, h⟩ := fx_ck_some h
  obtain rfl := Option.some.inj h
  exact fx_ret rfl (decide_eq_true (Decidable.not_not.mp c_1))

def g_M_readNumbers_2 (i0 : Nat) (a1 : Int32) : Nat → fv_M → Int32 → (fv_M → Int32 → Option (Int32 × fv_M)) → Option (Int32 × fv_M)
  | 0, _, _, _ => none
  | n + 1, M, a2, kk => if a1 ≤ a2 then (kk M a2) else ((g_M_letterAt M i0 (M i0 19)).bind fun q1 => (g_M_isFigure M q1).bind fun q2 => if q2 = 0 then (some ((0 : Int32), M)) else ((g_M_letterAt M i0 (M i0 19)).bind fun q3 => fx_ck (a2 < 0 ∨ 3 ≤ (a2).toNatClampNeg) ((g_M_letterAt (fv_set (fv_set M (i0 + 12) (a2).toNatClampNeg (q3 - (48 : Int32))) i0 19 (((fv_set M (i0 + 12) (a2).toNatClampNeg (q3 - (48 : Int32))) i0 19) + (1 : Int32))) i0 ((fv_set (fv_set M (i0 + 12) (a2).toNatClampNeg (q3 - (48 : Int32))) i0 19 (((fv_set M (i0 + 12) (a2).toNatClampNeg (q3 - (48 : Int32))) i0 19) + (1 : Int32))) i0 19)).bind fun q4 => (g_M_isFigure (fv_set (fv_set M (i0 + 12) (a2).toNatClampNeg (q3 - (48 : Int32))) i0 19 (((fv_set M (i0 + 12) (a2).toNatClampNeg (q3 - (48 : Int32))) i0 19) + (1 : Int32))) q4).bind fun q5 => if q5 = 0 then ((g_M_letterAt (fv_set (fv_set M (i0 + 12) (a2).toNatClampNeg (q3 - (48 : Int32))) i0 19 (((fv_set M (i0 + 12) (a2).toNatClampNeg (q3 - (48 : Int32))) i0 19) + (1 : Int32))) i0 ((fv_set (fv_set M (i0 + 12) (a2).toNatClampNeg (q3 - (48 : Int32))) i0 19 (((fv_set M (i0 + 12) (a2).toNatClampNeg (q3 - (48 : Int32))) i0 19) + (1 : Int32))) i0 19)).bind fun q6 => if (a1 - (1 : Int32)) ≤ a2 then (if q6 = (59 : Int32) then (g_M_readNumbers_2 i0 a1 n (fv_set (fv_set (fv_set M (i0 + 12) (a2).toNatClampNeg (q3 - (48 : Int32))) i0 19 (((fv_set M (i0 + 12) (a2).toNatClampNeg (q3 - (48 : Int32))) i0 19) + (1 : Int32))) i0 19 (((fv_set (fv_set M (i0 + 12) (a2).toNatClampNeg (q3 - (48 : Int32))) i0 19 (((fv_set M (i0 + 12) (a2).toNatClampNeg (q3 - (48 : Int32))) i0 19) + (1 : Int32))) i0 19) + (1 : Int32))) (a2 + (1 : Int32)) kk) else (some ((0 : Int32), (fv_set (fv_set M (i0 + 12) (a2).toNatClampNeg (q3 - (48 : Int32))) i0 19 (((fv_set M (i0 + 12) (a2).toNatClampNeg (q3 - (48 : Int32))) i0 19) + (1 : Int32)))))) else (if q6 = (44 : Int32) then (g_M_readNumbers_2 i0 a1 n (fv_set (fv_set (fv_set M (i0 + 12) (a2).toNatClampNeg (q3 - (48 : Int32))) i0 19 (((fv_set M (i0 + 12) (a2).toNatClampNeg (q3 - (48 : Int32))) i0 19) + (1 : Int32))) i0 19 (((fv_set (fv_set M (i0 + 12) (a2).toNatClampNeg (q3 - (48 : Int32))) i0 19 (((fv_set M (i0 + 12) (a2).toNatClampNeg (q3 - (48 : Int32))) i0 19) + (1 : Int32))) i0 19) + (1 : Int32))) (a2 + (1 : Int32)) kk) else (some ((0 : Int32), (fv_set (fv_set M (i0 + 12) (a2).toNatClampNeg (q3 - (48 : Int32))) i0 19 (((fv_set M (i0 + 12) (a2).toNatClampNeg (q3 - (48 : Int32))) i0 19) + (1 : Int32))))))) else ((g_M_letterAt (fv_set (fv_set M (i0 + 12) (a2).toNatClampNeg (q3 - (48 : Int32))) i0 19 (((fv_set M (i0 + 12) (a2).toNatClampNeg (q3 - (48 : Int32))) i0 19) + (1 : Int32))) i0 ((fv_set (fv_set M (i0 + 12) (a2).toNatClampNeg (q3 - (48 : Int32))) i0 19 (((fv_set M (i0 + 12) (a2).toNatClampNeg (q3 - (48 : Int32))) i0 19) + (1 : Int32))) i0 19)).bind fun q7 => (g_M_letterAt (fv_set (fv_set (fv_set (fv_set M (i0 + 12) (a2).toNatClampNeg (q3 - (48 : Int32))) i0 19 (((fv_set M (i0 + 12) (a2).toNatClampNeg (q3 - (48 : Int32))) i0 19) + (1 : Int32))) (i0 + 12) (a2).toNatClampNeg ((((10 : Int32) * ((fv_set (fv_set M (i0 + 12) (a2).toNatClampNeg (q3 - (48 : Int32))) i0 19 (((fv_set M (i0 + 12) (a2).toNatClampNeg (q3 - (48 : Int32))) i0 19) + (1 : Int32))) (i0 + 12) (a2).toNatClampNeg)) + q7) - (48 : Int32))) i0 19 (((fv_set (fv_set (fv_set M (i0 + 12) (a2).toNatClampNeg (q3 - (48 : Int32))) i0 19 (((fv_set M (i0 + 12) (a2).toNatClampNeg (q3 - (48 : Int32))) i0 19) + (1 : Int32))) (i0 + 12) (a2).toNatClampNeg ((((10 : Int32) * ((fv_set (fv_set M (i0 + 12) (a2).toNatClampNeg (q3 - (48 : Int32))) i0 19 (((fv_set M (i0 + 12) (a2).toNatClampNeg (q3 - (48 : Int32))) i0 19) + (1 : Int32))) (i0 + 12) (a2).toNatClampNeg)) + q7) - (48 : Int32))) i0 19) + (1 : Int32))) i0 ((fv_set (fv_set (fv_set (fv_set M (i0 + 12) (a2).toNatClampNeg (q3 - (48 : Int32))) i0 19 (((fv_set M (i0 + 12) (a2).toNatClampNeg (q3 - (48 : Int32))) i0 19) + (1 : Int32))) (i0 + 12) (a2).toNatClampNeg ((((10 : Int32) * ((fv_set (fv_set M (i0 + 12) (a2).toNatClampNeg (q3 - (48 : Int32))) i0 19 (((fv_set M (i0 + 12) (a2).toNatClampNeg (q3 - (48 : Int32))) i0 19) + (1 : Int32))) (i0 + 12) (a2).toNatClampNeg)) + q7) - (48 : Int32))) i0 19 (((fv_set (fv_set (fv_set M (i0 + 12) (a2).toNatClampNeg (q3 - (48 : Int32))) i0 19 (((fv_set M (i0 + 12) (a2).toNatClampNeg (q3 - (48 : Int32))) i0 19) + (1 : Int32))) (i0 + 12) (a2).toNatClampNeg ((((10 : Int32) * ((fv_set (fv_set M (i0 + 12) (a2).toNatClampNeg (q3 - (48 : Int32))) i0 19 (((fv_set M (i0 + 12) (a2).toNatClampNeg (q3 - (48 : Int32))) i0 19) + (1 : Int32))) (i0 + 12) (a2).toNatClampNeg)) + q7) - (48 : Int32))) i0 19) + (1 : Int32))) i0 19)).bind fun q8 => if (a1 - (1 : Int32)) ≤ a2 then (if q8 = (59 : Int32) then (g_M_readNumbers_2 i0 a1 n (fv_set (fv_set (fv_set (fv_set (fv_set M (i0 + 12) (a2).toNatClampNeg (q3 - (48 : Int32))) i0 19 (((fv_set M (i0 + 12) (a2).toNatClampNeg (q3 - (48 : Int32))) i0 19) + (1 : Int32))) (i0 + 12) (a2).toNatClampNeg ((((10 : Int32) * ((fv_set (fv_set M (i0 + 12) (a2).toNatClampNeg (q3 - (48 : Int32))) i0 19 (((fv_set M (i0 + 12) (a2).toNatClampNeg (q3 - (48 : Int32))) i0 19) + (1 : Int32))) (i0 + 12) (a2).toNatClampNeg)) + q7) - (48 : Int32))) i0 19 (((fv_set (fv_set (fv_set M (i0 + 12) (a2).toNatClampNeg (q3 - (48 : Int32))) i0 19 (((fv_set M (i0 + 12) (a2).toNatClampNeg (q3 - (48 : Int32))) i0 19) + (1 : Int32))) (i0 + 12) (a2).toNatClampNeg ((((10 : Int32) * ((fv_set (fv_set M (i0 + 12) (a2).toNatClampNeg (q3 - (48 : Int32))) i0 19 (((fv_set M (i0 + 12) (a2).toNatClampNeg (q3 - (48 : Int32))) i0 19) + (1 : Int32))) (i0 + 12) (a2).toNatClampNeg)) + q7) - (48 : Int32))) i0 19) + (1 : Int32))) i0 19 (((fv_set (fv_set (fv_set (fv_set M (i0 + 12) (a2).toNatClampNeg (q3 - (48 : Int32))) i0 19 (((fv_set M (i0 + 12) (a2).toNatClampNeg (q3 - (48 : Int32))) i0 19) + (1 : Int32))) (i0 + 12) (a2).toNatClampNeg ((((10 : Int32) * ((fv_set (fv_set M (i0 + 12) (a2).toNatClampNeg (q3 - (48 : Int32))) i0 19 (((fv_set M (i0 + 12) (a2).toNatClampNeg (q3 - (48 : Int32))) i0 19) + (1 : Int32))) (i0 + 12) (a2).toNatClampNeg)) + q7) - (48 : Int32))) i0 19 (((fv_set (fv_set (fv_set M (i0 + 12) (a2).toNatClampNeg (q3 - (48 : Int32))) i0 19 (((fv_set M (i0 + 12) (a2).toNatClampNeg (q3 - (48 : Int32))) i0 19) + (1 : Int32))) (i0 + 12) (a2).toNatClampNeg ((((10 : Int32) * ((fv_set (fv_set M (i0 + 12) (a2).toNatClampNeg (q3 - (48 : Int32))) i0 19 (((fv_set M (i0 + 12) (a2).toNatClampNeg (q3 - (48 : Int32))) i0 19) + (1 : Int32))) (i0 + 12) (a2).toNatClampNeg)) + q7) - (48 : Int32))) i0 19) + (1 : Int32))) i0 19) + (1 : Int32))) (a2 + (1 : Int32)) kk) else (some ((0 : Int32), (fv_set (fv_set (fv_set (fv_set M (i0 + 12) (a2).toNatClampNeg (q3 - (48 : Int32))) i0 19 (((fv_set M (i0 + 12) (a2).toNatClampNeg (q3 - (48 : Int32))) i0 19) + (1 : Int32))) (i0 + 12) (a2).toNatClampNeg ((((10 : Int32) * ((fv_set (fv_set M (i0 + 12) (a2).toNatClampNeg (q3 - (48 : Int32))) i0 19 (((fv_set M (i0 + 12) (a2).toNatClampNeg (q3 - (48 : Int32))) i0 19) + (1 : Int32))) (i0 + 12) (a2).toNatClampNeg)) + q7) - (48 : Int32))) i0 19 (((fv_set (fv_set (fv_set M (i0 + 12) (a2).toNatClampNeg (q3 - (48 : Int32))) i0 19 (((fv_set M (i0 + 12) (a2).toNatClampNeg (q3 - (48 : Int32))) i0 19) + (1 : Int32))) (i0 + 12) (a2).toNatClampNeg ((((10 : Int32) * ((fv_set (fv_set M (i0 + 12) (a2).toNatClampNeg (q3 - (48 : Int32))) i0 19 (((fv_set M (i0 + 12) (a2).toNatClampNeg (q3 - (48 : Int32))) i0 19) + (1 : Int32))) (i0 + 12) (a2).toNatClampNeg)) + q7) - (48 : Int32))) i0 19) + (1 : Int32)))))) else (if q8 = (44 : Int32) then (g_M_readNumbers_2 i0 a1 n (fv_set (fv_set (fv_set (fv_set (fv_set M (i0 + 12) (a2).toNatClampNeg (q3 - (48 : Int32))) i0 19 (((fv_set M (i0 + 12) (a2).toNatClampNeg (q3 - (48 : Int32))) i0 19) + (1 : Int32))) (i0 + 12) (a2).toNatClampNeg ((((10 : Int32) * ((fv_set (fv_set M (i0 + 12) (a2).toNatClampNeg (q3 - (48 : Int32))) i0 19 (((fv_set M (i0 + 12) (a2).toNatClampNeg (q3 - (48 : Int32))) i0 19) + (1 : Int32))) (i0 + 12) (a2).toNatClampNeg)) + q7) - (48 : Int32))) i0 19 (((fv_set (fv_set (fv_set M (i0 + 12) (a2).toNatClampNeg (q3 - (48 : Int32))) i0 19 (((fv_set M (i0 + 12) (a2).toNatClampNeg (q3 - (48 : Int32))) i0 19) + (1 : Int32))) (i0 + 12) (a2).toNatClampNeg ((((10 : Int32) * ((fv_set (fv_set M (i0 + 12) (a2).toNatClampNeg (q3 - (48 : Int32))) i0 19 (((fv_set M (i0 + 12) (a2).toNatClampNeg (q3 - (48 : Int32))) i0 19) + (1 : Int32))) (i0 + 12) (a2).toNatClampNeg)) + q7) - (48 : Int32))) i0 19) + (1 : Int32))) i0 19 (((fv_set (fv_set (fv_set (fv_set M (i0 + 12) (a2).toNatClampNeg (q3 - (48 : Int32))) i0 19 (((fv_set M (i0 + 12) (a2).toNatClampNeg (q3 - (48 : Int32))) i0 19) + (1 : Int32))) (i0 + 12) (a2).toNatClampNeg ((((10 : Int32) * ((fv_set (fv_set M (i0 + 12) (a2).toNatClampNeg (q3 - (48 : Int32))) i0 19 (((fv_set M (i0 + 12) (a2).toNatClampNeg (q3 - (48 : Int32))) i0 19) + (1 : Int32))) (i0 + 12) (a2).toNatClampNeg)) + q7) - (48 : Int32))) i0 19 (((fv_set (fv_set (fv_set M (i0 + 12) (a2).toNatClampNeg (q3 - (48 : Int32))) i0 19 (((fv_set M (i0 + 12) (a2).toNatClampNeg (q3 - (48 : Int32))) i0 19) + (1 : Int32))) (i0 + 12) (a2).toNatClampNeg ((((10 : Int32) * ((fv_set (fv_set M (i0 + 12) (a2).toNatClampNeg (q3 - (48 : Int32))) i0 19 (((fv_set M (i0 + 12) (a2).toNatClampNeg (q3 - (48 : Int32))) i0 19) + (1 : Int32))) (i0 + 12) (a2).toNatClampNeg)) + q7) - (48 : Int32))) i0 19) + (1 : Int32))) i0 19) + (1 : Int32))) (a2 + (1 : Int32)) kk) else (some ((0 : Int32), (fv_set (fv_set (fv_set (fv_set M (i0 + 12) (a2).toNatClampNeg (q3 - (48 : Int32))) i0 19 (((fv_set M (i0 + 12) (a2).toNatClampNeg (q3 - (48 : Int32))) i0 19) + (1 : Int32))) (i0 + 12) (a2).toNatClampNeg ((((10 : Int32) * ((fv_set (fv_set M (i0 + 12) (a2).toNatClampNeg (q3 - (48 : Int32))) i0 19 (((fv_set M (i0 + 12) (a2).toNatClampNeg (q3 - (48 : Int32))) i0 19) + (1 : Int32))) (i0 + 12) (a2).toNatClampNeg)) + q7) - (48 : Int32))) i0 19 (((fv_set (fv_set (fv_set M (i0 + 12) (a2).toNatClampNeg (q3 - (48 : Int32))) i0 19 (((fv_set M (i0 + 12) (a2).toNatClampNeg (q3 - (48 : Int32))) i0 19) + (1 : Int32))) (i0 + 12) (a2).toNatClampNeg ((((10 : Int32) * ((fv_set (fv_set M (i0 + 12) (a2).toNatClampNeg (q3 - (48 : Int32))) i0 19 (((fv_set M (i0 + 12) (a2).toNatClampNeg (q3 - (48 : Int32))) i0 19) + (1 : Int32))) (i0 + 12) (a2).toNatClampNeg)) + q7) - (48 : Int32))) i0 19) + (1 : Int32))))))))))
theorem v_M_readNumbers_2 {X : fv_X} {sh : fv_Sh} {k : Nat × Nat} {i0 : Nat} {a1 : Int32} {r : Int32 × fv_M} {kk : fv_M → Int32 → Option (Int32 × fv_M)} (h0 : fx_atM sh i0) (K : ∀ (M : fv_M) (a2 : Int32), kk M a2 = some r → fv_Rn X 116 144 [some (.ref i0), some (.int a1), some (.int a2)] [] k sh M (some (.int r.1), sh, r.2)) : ∀ (n : Nat) (M : fv_M) (a2 : Int32), g_M_readNumbers_2 i0 a1 n M a2 kk = some r → fv_Rn X 116 2 [some (.ref i0), some (.int a1), some (.int a2)] [] k sh M (some (.int r.1), sh, r.2) := by
  intro n
  induction n with
  | zero =>
    intro M a2 h
    replace h : (none : Option (Int32 × fv_M)) = some r := h
    cases h
  | succ n ih =>
    intro M a2 h
    rw [g_M_readNumbers_2] at h
    refine fx_iload rfl rfl ?_
    refine fx_iload rfl rfl ?_
    by_cases c_1 : a1 ≤ a2
    · replace h := (if_pos c_1).symm.trans h
      refine fx_icge_j rfl rfl c_1 ?_
      exact K _ _ h
    · replace h := (if_neg c_1).symm.trans h
      refine fx_icge_s rfl c_1 ?_
      refine fx_aload rfl rfl ?_
      refine fx_aload rfl rfl ?_
      refine fx_getI rfl h0.1 rfl rfl ?_
      obtain ⟨q1, e_q1, h⟩ := fx_bd h
      refine fx_call [.ref i0, .int (M i0 19)] [] rfl (by decide) rfl rfl rfl rfl rfl (Nat.le_of_ble_eq_true rfl) (fx_rcv h0.1 rfl) (v_M_letterAt h0 e_q1) ?_
      obtain ⟨q2, e_q2, h⟩ := fx_bd h
      refine fx_call [.int q1] [] rfl (by decide) rfl rfl rfl rfl rfl (Nat.le_of_ble_eq_true rfl) rfl (v_M_isFigure  e_q2) ?_
      by_cases c_2 : q2 = 0
      · replace h := (if_pos c_2).symm.trans h
        refine fx_ifne_s rfl c_2 ?_
        refine fx_const rfl (show Int32.ofInt 0 = (0 : Int32) by decide) ?_
        obtain rfl := Option.some.inj h
        exact fx_ret rfl rfl
      · replace h := (if_neg c_2).symm.trans h
        refine fx_ifne_j rfl rfl c_2 ?_
        refine fx_aload rfl rfl ?_
        refine fx_getV rfl h0.1 rfl rfl ?_
        refine fx_iload rfl rfl ?_
        refine fx_aload rfl rfl ?_
        refine fx_aload rfl rfl ?_
        refine fx_getI rfl h0.1 rfl rfl ?_
        obtain ⟨q3, e_q3, h⟩ := fx_bd h
        refine fx_call [.ref i0, .int (M i0 19)] [.int a2, .ref (i0 + 12)] rfl (by decide) rfl rfl rfl rfl rfl (Nat.le_of_ble_eq_true rfl) (fx_rcv h0.1 rfl) (v_M_letterAt h0 e_q3) ?_
        refine fx_const rfl (show Int32.ofInt 48 = (48 : Int32) by decide) ?_
        refine fx_isub rfl ?_
        obtain ⟨c_3, h⟩ := fx_ck_some h
        refine fx_iastore rfl h0.2.2.2.2.2.2.2.2.2.2.2.2.1 c_3 ?_
        refine fx_aload rfl rfl ?_
        refine fx_dup rfl rfl ?_
        refine fx_getI rfl h0.1 rfl rfl ?_
        refine fx_const rfl (show Int32.ofInt 1 = (1 : Int32) by decide) ?_
        refine fx_iadd rfl ?_
        refine fx_putI rfl h0.1 rfl rfl rfl ?_
        refine fx_aload rfl rfl ?_
        refine fx_aload rfl rfl ?_
        refine fx_getI rfl h0.1 rfl rfl ?_
        obtain ⟨q4, e_q4, h⟩ := fx_bd h
        refine fx_call [.ref i0, .int ((fv_set (fv_set M (i0 + 12) (a2).toNatClampNeg (q3 - (48 : Int32))) i0 19 (((fv_set M (i0 + 12) (a2).toNatClampNeg (q3 - (48 : Int32))) i0 19) + (1 : Int32))) i0 19)] [] rfl (by decide) rfl rfl rfl rfl rfl (Nat.le_of_ble_eq_true rfl) (fx_rcv h0.1 rfl) (v_M_letterAt h0 e_q4) ?_
        obtain ⟨q5, e_q5, h⟩ := fx_bd h
        refine fx_call [.int q4] [] rfl (by decide) rfl rfl rfl rfl rfl (Nat.le_of_ble_eq_true rfl) rfl (v_M_isFigure  e_q5) ?_
        by_cases c_4 : q5 = 0
        · replace h := (if_pos c_4).symm.trans h
          refine fx_ifeq_j rfl rfl c_4 ?_
          refine fx_aload rfl rfl ?_
          refine fx_aload rfl rfl ?_
          refine fx_getI rfl h0.1 rfl rfl ?_
          obtain ⟨q6, e_q6, h⟩ := fx_bd h
          refine fx_call [.ref i0, .int ((fv_set (fv_set M (i0 + 12) (a2).toNatClampNeg (q3 - (48 : Int32))) i0 19 (((fv_set M (i0 + 12) (a2).toNatClampNeg (q3 - (48 : Int32))) i0 19) + (1 : Int32))) i0 19)] [] rfl (by decide) rfl rfl rfl rfl rfl (Nat.le_of_ble_eq_true rfl) (fx_rcv h0.1 rfl) (v_M_letterAt h0 e_q6) ?_
          refine fx_iload rfl rfl ?_
          refine fx_iload rfl rfl ?_
          refine fx_const rfl (show Int32.ofInt 1 = (1 : Int32) by decide) ?_
          refine fx_isub rfl ?_
          by_cases c_5 : (a1 - (1 : Int32)) ≤ a2
          · replace h := (if_pos c_5).symm.trans h
            refine fx_icge_j rfl rfl c_5 ?_
            refine fx_const rfl (show Int32.ofInt 59 = (59 : Int32) by decide) ?_
            by_cases c_6 : q6 = (59 : Int32)
            · replace h := (if_pos c_6).symm.trans h
              refine fx_iceq_j rfl rfl c_6 ?_
              refine fx_aload rfl rfl ?_
              refine fx_dup rfl rfl ?_
              refine fx_getI rfl h0.1 rfl rfl ?_
              refine fx_const rfl (show Int32.ofInt 1 = (1 : Int32) by decide) ?_
              refine fx_iadd rfl ?_
              refine fx_putI rfl h0.1 rfl rfl rfl ?_
              refine fx_iinc rfl (show Int32.ofInt 1 = (1 : Int32) by decide) rfl rfl ?_
              refine fx_back rfl rfl rfl ?_
              exact ih _ _ h
            · replace h := (if_neg c_6).symm.trans h
              refine fx_iceq_s rfl c_6 ?_
              refine fx_const rfl (show Int32.ofInt 0 = (0 : Int32) by decide) ?_
              obtain rfl := Option.some.inj h
              exact fx_ret rfl rfl
          · replace h := (if_neg c_5).symm.trans h
            refine fx_icge_s rfl c_5 ?_
            refine fx_const rfl (show Int32.ofInt 44 = (44 : Int32) by decide) ?_
            refine fx_goto rfl rfl ?_
            by_cases c_7 : q6 = (44 : Int32)
            · replace h := (if_pos c_7).symm.trans h
              refine fx_iceq_j rfl rfl c_7 ?_
              refine fx_aload rfl rfl ?_
              refine fx_dup rfl rfl ?_
              refine fx_getI rfl h0.1 rfl rfl ?_
              refine fx_const rfl (show Int32.ofInt 1 = (1 : Int32) by decide) ?_
              refine fx_iadd rfl ?_
              refine fx_putI rfl h0.1 rfl rfl rfl ?_
              refine fx_iinc rfl (show Int32.ofInt 1 = (1 : Int32) by decide) rfl rfl ?_
              refine fx_back rfl rfl rfl ?_
              exact ih _ _ h
            · replace h := (if_neg c_7).symm.trans h
              refine fx_iceq_s rfl c_7 ?_
              refine fx_const rfl (show Int32.ofInt 0 = (0 : Int32) by decide) ?_
              obtain rfl := Option.some.inj h
              exact fx_ret rfl rfl
        · replace h := (if_neg c_4).symm.trans h
          refine fx_ifeq_s rfl c_4 ?_
          refine fx_aload rfl rfl ?_
          refine fx_getV rfl h0.1 rfl rfl ?_
          refine fx_iload rfl rfl ?_
          refine fx_const rfl (show Int32.ofInt 10 = (10 : Int32) by decide) ?_
          refine fx_aload rfl rfl ?_
          refine fx_getV rfl h0.1 rfl rfl ?_
          refine fx_iload rfl rfl ?_
          refine fx_iaload rfl (fun z => absurd z.1 (by decide)) h0.2.2.2.2.2.2.2.2.2.2.2.2.1 c_3 ?_
          refine fx_imul rfl ?_
          refine fx_aload rfl rfl ?_
          refine fx_aload rfl rfl ?_
          refine fx_getI rfl h0.1 rfl rfl ?_
          obtain ⟨q7, e_q7, h⟩ := fx_bd h
          refine fx_call [.ref i0, .int ((fv_set (fv_set M (i0 + 12) (a2).toNatClampNeg (q3 - (48 : Int32))) i0 19 (((fv_set M (i0 + 12) (a2).toNatClampNeg (q3 - (48 : Int32))) i0 19) + (1 : Int32))) i0 19)] [.int ((10 : Int32) * ((fv_set (fv_set M (i0 + 12) (a2).toNatClampNeg (q3 - (48 : Int32))) i0 19 (((fv_set M (i0 + 12) (a2).toNatClampNeg (q3 - (48 : Int32))) i0 19) + (1 : Int32))) (i0 + 12) (a2).toNatClampNeg)), .int a2, .ref (i0 + 12)] rfl (by decide) rfl rfl rfl rfl rfl (Nat.le_of_ble_eq_true rfl) (fx_rcv h0.1 rfl) (v_M_letterAt h0 e_q7) ?_
          refine fx_iadd rfl ?_
          refine fx_const rfl (show Int32.ofInt 48 = (48 : Int32) by decide) ?_
          refine fx_isub rfl ?_
          refine fx_iastore rfl h0.2.2.2.2.2.2.2.2.2.2.2.2.1 c_3 ?_
          refine fx_aload rfl rfl ?_
          refine fx_dup rfl rfl ?_
          refine fx_getI rfl h0.1 rfl rfl ?_
          refine fx_const rfl (show Int32.ofInt 1 = (1 : Int32) by decide) ?_
          refine fx_iadd rfl ?_
          refine fx_putI rfl h0.1 rfl rfl rfl ?_
          refine fx_aload rfl rfl ?_
          refine fx_aload rfl rfl ?_
          refine fx_getI rfl h0.1 rfl rfl ?_
          obtain ⟨q8, e_q8, h⟩ := fx_bd h
          refine fx_call [.ref i0, .int ((fv_set (fv_set (fv_set (fv_set M (i0 + 12) (a2).toNatClampNeg (q3 - (48 : Int32))) i0 19 (((fv_set M (i0 + 12) (a2).toNatClampNeg (q3 - (48 : Int32))) i0 19) + (1 : Int32))) (i0 + 12) (a2).toNatClampNeg ((((10 : Int32) * ((fv_set (fv_set M (i0 + 12) (a2).toNatClampNeg (q3 - (48 : Int32))) i0 19 (((fv_set M (i0 + 12) (a2).toNatClampNeg (q3 - (48 : Int32))) i0 19) + (1 : Int32))) (i0 + 12) (a2).toNatClampNeg)) + q7) - (48 : Int32))) i0 19 (((fv_set (fv_set (fv_set M (i0 + 12) (a2).toNatClampNeg (q3 - (48 : Int32))) i0 19 (((fv_set M (i0 + 12) (a2).toNatClampNeg (q3 - (48 : Int32))) i0 19) + (1 : Int32))) (i0 + 12) (a2).toNatClampNeg ((((10 : Int32) * ((fv_set (fv_set M (i0 + 12) (a2).toNatClampNeg (q3 - (48 : Int32))) i0 19 (((fv_set M (i0 + 12) (a2).toNatClampNeg (q3 - (48 : Int32))) i0 19) + (1 : Int32))) (i0 + 12) (a2).toNatClampNeg)) + q7) - (48 : Int32))) i0 19) + (1 : Int32))) i0 19)] [] rfl (by decide) rfl rfl rfl rfl rfl (Nat.le_of_ble_eq_true rfl) (fx_rcv h0.1 rfl) (v_M_letterAt h0 e_q8) ?_
          refine fx_iload rfl rfl ?_
          refine fx_iload rfl rfl ?_
          refine fx_const rfl (show Int32.ofInt 1 = (1 : Int32) by decide) ?_
          refine fx_isub rfl ?_
          by_cases c_8 : (a1 - (1 : Int32)) ≤ a2
          · replace h := (if_pos c_8).symm.trans h
            refine fx_icge_j rfl rfl c_8 ?_
            refine fx_const rfl (show Int32.ofInt 59 = (59 : Int32) by decide) ?_
            by_cases c_9 : q8 = (59 : Int32)
            · replace h := (if_pos c_9).symm.trans h
              refine fx_iceq_j rfl rfl c_9 ?_
              refine fx_aload rfl rfl ?_
              refine fx_dup rfl rfl ?_
              refine fx_getI rfl h0.1 rfl rfl ?_
              refine fx_const rfl (show Int32.ofInt 1 = (1 : Int32) by decide) ?_
              refine fx_iadd rfl ?_
              refine fx_putI rfl h0.1 rfl rfl rfl ?_
              refine fx_iinc rfl (show Int32.ofInt 1 = (1 : Int32) by decide) rfl rfl ?_
              refine fx_back rfl rfl rfl ?_
              exact ih _ _ h
            · replace h := (if_neg c_9).symm.trans h
              refine fx_iceq_s rfl c_9 ?_
              refine fx_const rfl (show Int32.ofInt 0 = (0 : Int32) by decide) ?_
              obtain rfl := Option.some.inj h
              exact fx_ret rfl rfl
          · replace h := (if_neg c_8).symm.trans h
            refine fx_icge_s rfl c_8 ?_
            refine fx_const rfl (show Int32.ofInt 44 = (44 : Int32) by decide) ?_
            refine fx_goto rfl rfl ?_
            by_cases c_10 : q8 = (44 : Int32)
            · replace h := (if_pos c_10).symm.trans h
              refine fx_iceq_j rfl rfl c_10 ?_
              refine fx_aload rfl rfl ?_
              refine fx_dup rfl rfl ?_
              refine fx_getI rfl h0.1 rfl rfl ?_
              refine fx_const rfl (show Int32.ofInt 1 = (1 : Int32) by decide) ?_
              refine fx_iadd rfl ?_
              refine fx_putI rfl h0.1 rfl rfl rfl ?_
              refine fx_iinc rfl (show Int32.ofInt 1 = (1 : Int32) by decide) rfl rfl ?_
              refine fx_back rfl rfl rfl ?_
              exact ih _ _ h
            · replace h := (if_neg c_10).symm.trans h
              refine fx_iceq_s rfl c_10 ?_
              refine fx_const rfl (show Int32.ofInt 0 = (0 : Int32) by decide) ?_
              obtain rfl := Option.some.inj h
              exact fx_ret rfl rfl
def g_M_readNumbers (M : fv_M) (i0 : Nat) (a1 : Int32) : Option (Int32 × fv_M) := g_M_readNumbers_2 i0 a1 fx_FU M (0 : Int32) (fun M_9 b2_9 => some ((1 : Int32), M_9))
theorem v_M_readNumbers {X : fv_X} {sh : fv_Sh} {k : Nat × Nat} {M : fv_M} {i0 : Nat} {a1 : Int32} {r : Int32 × fv_M} (h0 : fx_atM sh i0) (h : g_M_readNumbers M i0 a1 = some r) : fv_Rn X 116 0 [some (.ref i0), some (.int a1)] [] k sh M (some (.int r.1), sh, r.2) := by
  unfold g_M_readNumbers at h
  refine fx_const rfl (show Int32.ofInt 0 = (0 : Int32) by decide) ?_
  refine fx_istore rfl rfl ?_
  refine v_M_readNumbers_2 h0 (fun M_9 b2_9 h => ?_) fx_FU _ _ h
  refine fx_const rfl (show Int32.ofInt 1 = (1 : Int32) by decide) ?_
  obtain rfl := Option.some.inj h
  exact fx_ret rfl rfl

def g_M_isTold (M : fv_M) (i0 : Nat) (a1 : Int32) (a2 : Int32) (a3 : Int32) : Option (Int32) := fx_ck (a1 < 0 ∨ 3 ≤ (a1).toNatClampNeg) ((g_M_in M (M (i0 + 12) (a1).toNatClampNeg) a2 a3).bind fun q1 => fx_ck (¬ (q1 = 0 ∨ q1 = 1)) (some q1))
theorem v_M_isTold {X : fv_X} {sh : fv_Sh} {k : Nat × Nat} {M : fv_M} {i0 : Nat} {a1 : Int32} {a2 : Int32} {a3 : Int32} {r : Int32} (h0 : fx_atM sh i0) (h : g_M_isTold M i0 a1 a2 a3 = some r) : fv_Rn X 117 0 [some (.ref i0), some (.int a1), some (.int a2), some (.int a3)] [] k sh M (some (.int r), sh, M) := by
  unfold g_M_isTold at h
  refine fx_aload rfl rfl ?_
  refine fx_getV rfl h0.1 rfl rfl ?_
  refine fx_iload rfl rfl ?_
  obtain ⟨c_1, h⟩ := fx_ck_some h
  refine fx_iaload rfl (fun z => absurd z.1 (by decide)) h0.2.2.2.2.2.2.2.2.2.2.2.2.1 c_1 ?_
  refine fx_iload rfl rfl ?_
  refine fx_iload rfl rfl ?_
  obtain ⟨q1, e_q1, h⟩ := fx_bd h
  refine fx_call [.int (M (i0 + 12) (a1).toNatClampNeg), .int a2, .int a3] [] rfl (by decide) rfl rfl rfl rfl rfl (Nat.le_of_ble_eq_true rfl) rfl (v_M_in  e_q1) ?_
  obtain ⟨c_2, h⟩ := fx_ck_some h
  obtain rfl := Option.some.inj h
  exact fx_ret rfl (decide_eq_true (Decidable.not_not.mp c_2))

def g_M_readVerbOf (M : fv_M) (i0 : Nat) : Option (Int32 × fv_M) := if (M i0 21) = (6 : Int32) then (some ((0 : Int32), M)) else ((g_M_readNumbers M i0 (2 : Int32)).bind fun q1 => if q1.1 = 0 then (some ((0 : Int32), q1.2)) else ((g_M_isTold q1.2 i0 (0 : Int32) (0 : Int32) (3 : Int32)).bind fun q2 => if q2 = 0 then (some ((0 : Int32), q1.2)) else ((g_M_isTold q1.2 i0 (1 : Int32) (0 : Int32) (9 : Int32)).bind fun q3 => if q3 = 0 then (some ((0 : Int32), q1.2)) else ((g_M_tellsVerb q1.2 i0 (q1.2 (i0 + 12) ((0 : Int32)).toNatClampNeg) (q1.2 (i0 + 12) ((1 : Int32)).toNatClampNeg)).bind fun q4 => some ((1 : Int32), q4)))))
theorem v_M_readVerbOf {X : fv_X} {sh : fv_Sh} {k : Nat × Nat} {M : fv_M} {i0 : Nat} {r : Int32 × fv_M} (h0 : fx_atM sh i0) (h : g_M_readVerbOf M i0 = some r) : fv_Rn X 120 0 [some (.ref i0)] [] k sh M (some (.int r.1), sh, r.2) := by
  unfold g_M_readVerbOf at h
  refine fx_aload rfl rfl ?_
  refine fx_getI rfl h0.1 rfl rfl ?_
  refine fx_const rfl (show Int32.ofInt 6 = (6 : Int32) by decide) ?_
  by_cases c_1 : (M i0 21) = (6 : Int32)
  · replace h := (if_pos c_1).symm.trans h
    refine fx_iceq_j rfl rfl c_1 ?_
    refine fx_const rfl (show Int32.ofInt 0 = (0 : Int32) by decide) ?_
    obtain rfl := Option.some.inj h
    exact fx_ret rfl rfl
  · replace h := (if_neg c_1).symm.trans h
    refine fx_iceq_s rfl c_1 ?_
    refine fx_aload rfl rfl ?_
    refine fx_const rfl (show Int32.ofInt 2 = (2 : Int32) by decide) ?_
    obtain ⟨q1, e_q1, h⟩ := fx_bd h
    refine fx_call [.ref i0, .int (2 : Int32)] [] rfl (by decide) rfl rfl rfl rfl rfl (Nat.le_of_ble_eq_true rfl) (fx_rcv h0.1 rfl) (v_M_readNumbers h0 e_q1) ?_
    by_cases c_2 : q1.1 = 0
    · replace h := (if_pos c_2).symm.trans h
      refine fx_ifeq_j rfl rfl c_2 ?_
      refine fx_const rfl (show Int32.ofInt 0 = (0 : Int32) by decide) ?_
      obtain rfl := Option.some.inj h
      exact fx_ret rfl rfl
    · replace h := (if_neg c_2).symm.trans h
      refine fx_ifeq_s rfl c_2 ?_
      refine fx_aload rfl rfl ?_
      refine fx_const rfl (show Int32.ofInt 0 = (0 : Int32) by decide) ?_
      refine fx_const rfl (show Int32.ofInt 0 = (0 : Int32) by decide) ?_
      refine fx_const rfl (show Int32.ofInt 3 = (3 : Int32) by decide) ?_
      obtain ⟨q2, e_q2, h⟩ := fx_bd h
      refine fx_call [.ref i0, .int (0 : Int32), .int (0 : Int32), .int (3 : Int32)] [] rfl (by decide) rfl rfl rfl rfl rfl (Nat.le_of_ble_eq_true rfl) (fx_rcv h0.1 rfl) (v_M_isTold h0 e_q2) ?_
      by_cases c_3 : q2 = 0
      · replace h := (if_pos c_3).symm.trans h
        refine fx_ifeq_j rfl rfl c_3 ?_
        refine fx_const rfl (show Int32.ofInt 0 = (0 : Int32) by decide) ?_
        obtain rfl := Option.some.inj h
        exact fx_ret rfl rfl
      · replace h := (if_neg c_3).symm.trans h
        refine fx_ifeq_s rfl c_3 ?_
        refine fx_aload rfl rfl ?_
        refine fx_const rfl (show Int32.ofInt 1 = (1 : Int32) by decide) ?_
        refine fx_const rfl (show Int32.ofInt 0 = (0 : Int32) by decide) ?_
        refine fx_const rfl (show Int32.ofInt 9 = (9 : Int32) by decide) ?_
        obtain ⟨q3, e_q3, h⟩ := fx_bd h
        refine fx_call [.ref i0, .int (1 : Int32), .int (0 : Int32), .int (9 : Int32)] [] rfl (by decide) rfl rfl rfl rfl rfl (Nat.le_of_ble_eq_true rfl) (fx_rcv h0.1 rfl) (v_M_isTold h0 e_q3) ?_
        by_cases c_4 : q3 = 0
        · replace h := (if_pos c_4).symm.trans h
          refine fx_ifne_s rfl c_4 ?_
          refine fx_const rfl (show Int32.ofInt 0 = (0 : Int32) by decide) ?_
          obtain rfl := Option.some.inj h
          exact fx_ret rfl rfl
        · replace h := (if_neg c_4).symm.trans h
          refine fx_ifne_j rfl rfl c_4 ?_
          refine fx_aload rfl rfl ?_
          refine fx_aload rfl rfl ?_
          refine fx_getV rfl h0.1 rfl rfl ?_
          refine fx_const rfl (show Int32.ofInt 0 = (0 : Int32) by decide) ?_
          refine fx_iaload rfl (fun z => absurd z.1 (by decide)) h0.2.2.2.2.2.2.2.2.2.2.2.2.1 (by decide) ?_
          refine fx_aload rfl rfl ?_
          refine fx_getV rfl h0.1 rfl rfl ?_
          refine fx_const rfl (show Int32.ofInt 1 = (1 : Int32) by decide) ?_
          refine fx_iaload rfl (fun z => absurd z.1 (by decide)) h0.2.2.2.2.2.2.2.2.2.2.2.2.1 (by decide) ?_
          obtain ⟨q4, e_q4, h⟩ := fx_bd h
          refine fx_call [.ref i0, .int (q1.2 (i0 + 12) ((0 : Int32)).toNatClampNeg), .int (q1.2 (i0 + 12) ((1 : Int32)).toNatClampNeg)] [] rfl (by decide) rfl rfl rfl rfl rfl (Nat.le_of_ble_eq_true rfl) (fx_rcv h0.1 rfl) (v_M_tellsVerb h0 e_q4) ?_
          refine fx_const rfl (show Int32.ofInt 1 = (1 : Int32) by decide) ?_
          obtain rfl := Option.some.inj h
          exact fx_ret rfl rfl

def g_M_readNounOf (M : fv_M) (i0 : Nat) : Option (Int32 × fv_M) := if (M i0 23) = (8 : Int32) then (some ((0 : Int32), M)) else ((g_M_readNumbers M i0 (1 : Int32)).bind fun q1 => if q1.1 = 0 then (some ((0 : Int32), q1.2)) else ((g_M_isTold q1.2 i0 (0 : Int32) (1 : Int32) (63 : Int32)).bind fun q2 => if q2 = 0 then (some ((0 : Int32), q1.2)) else (fx_ck ((q1.2 i0 23) < 0 ∨ 8 ≤ ((q1.2 i0 23)).toNatClampNeg) (some ((1 : Int32), (fv_set (fv_set q1.2 (i0 + 14) ((q1.2 i0 23)).toNatClampNeg (q1.2 (i0 + 12) ((0 : Int32)).toNatClampNeg)) i0 23 (((fv_set q1.2 (i0 + 14) ((q1.2 i0 23)).toNatClampNeg (q1.2 (i0 + 12) ((0 : Int32)).toNatClampNeg)) i0 23) + (1 : Int32))))))))
theorem v_M_readNounOf {X : fv_X} {sh : fv_Sh} {k : Nat × Nat} {M : fv_M} {i0 : Nat} {r : Int32 × fv_M} (h0 : fx_atM sh i0) (h : g_M_readNounOf M i0 = some r) : fv_Rn X 121 0 [some (.ref i0)] [] k sh M (some (.int r.1), sh, r.2) := by
  unfold g_M_readNounOf at h
  refine fx_aload rfl rfl ?_
  refine fx_getI rfl h0.1 rfl rfl ?_
  refine fx_const rfl (show Int32.ofInt 8 = (8 : Int32) by decide) ?_
  by_cases c_1 : (M i0 23) = (8 : Int32)
  · replace h := (if_pos c_1).symm.trans h
    refine fx_iceq_j rfl rfl c_1 ?_
    refine fx_const rfl (show Int32.ofInt 0 = (0 : Int32) by decide) ?_
    obtain rfl := Option.some.inj h
    exact fx_ret rfl rfl
  · replace h := (if_neg c_1).symm.trans h
    refine fx_iceq_s rfl c_1 ?_
    refine fx_aload rfl rfl ?_
    refine fx_const rfl (show Int32.ofInt 1 = (1 : Int32) by decide) ?_
    obtain ⟨q1, e_q1, h⟩ := fx_bd h
    refine fx_call [.ref i0, .int (1 : Int32)] [] rfl (by decide) rfl rfl rfl rfl rfl (Nat.le_of_ble_eq_true rfl) (fx_rcv h0.1 rfl) (v_M_readNumbers h0 e_q1) ?_
    by_cases c_2 : q1.1 = 0
    · replace h := (if_pos c_2).symm.trans h
      refine fx_ifeq_j rfl rfl c_2 ?_
      refine fx_const rfl (show Int32.ofInt 0 = (0 : Int32) by decide) ?_
      obtain rfl := Option.some.inj h
      exact fx_ret rfl rfl
    · replace h := (if_neg c_2).symm.trans h
      refine fx_ifeq_s rfl c_2 ?_
      refine fx_aload rfl rfl ?_
      refine fx_const rfl (show Int32.ofInt 0 = (0 : Int32) by decide) ?_
      refine fx_const rfl (show Int32.ofInt 1 = (1 : Int32) by decide) ?_
      refine fx_const rfl (show Int32.ofInt 63 = (63 : Int32) by decide) ?_
      obtain ⟨q2, e_q2, h⟩ := fx_bd h
      refine fx_call [.ref i0, .int (0 : Int32), .int (1 : Int32), .int (63 : Int32)] [] rfl (by decide) rfl rfl rfl rfl rfl (Nat.le_of_ble_eq_true rfl) (fx_rcv h0.1 rfl) (v_M_isTold h0 e_q2) ?_
      by_cases c_3 : q2 = 0
      · replace h := (if_pos c_3).symm.trans h
        refine fx_ifne_s rfl c_3 ?_
        refine fx_const rfl (show Int32.ofInt 0 = (0 : Int32) by decide) ?_
        obtain rfl := Option.some.inj h
        exact fx_ret rfl rfl
      · replace h := (if_neg c_3).symm.trans h
        refine fx_ifne_j rfl rfl c_3 ?_
        refine fx_aload rfl rfl ?_
        refine fx_getV rfl h0.1 rfl rfl ?_
        refine fx_aload rfl rfl ?_
        refine fx_getI rfl h0.1 rfl rfl ?_
        refine fx_aload rfl rfl ?_
        refine fx_getV rfl h0.1 rfl rfl ?_
        refine fx_const rfl (show Int32.ofInt 0 = (0 : Int32) by decide) ?_
        refine fx_iaload rfl (fun z => absurd z.1 (by decide)) h0.2.2.2.2.2.2.2.2.2.2.2.2.1 (by decide) ?_
        obtain ⟨c_4, h⟩ := fx_ck_some h
        refine fx_iastore rfl h0.2.2.2.2.2.2.2.2.2.2.2.2.2.2.1 c_4 ?_
        refine fx_aload rfl rfl ?_
        refine fx_dup rfl rfl ?_
        refine fx_getI rfl h0.1 rfl rfl ?_
        refine fx_const rfl (show Int32.ofInt 1 = (1 : Int32) by decide) ?_
        refine fx_iadd rfl ?_
        refine fx_putI rfl h0.1 rfl rfl rfl ?_
        refine fx_const rfl (show Int32.ofInt 1 = (1 : Int32) by decide) ?_
        obtain rfl := Option.some.inj h
        exact fx_ret rfl rfl

def g_M_readVillageOf (M : fv_M) (i0 : Nat) : Option (Int32 × fv_M) := if (M i0 25) = (4 : Int32) then (some ((0 : Int32), M)) else ((g_M_readNumbers M i0 (1 : Int32)).bind fun q1 => if q1.1 = 0 then (some ((0 : Int32), q1.2)) else ((g_M_isTold q1.2 i0 (0 : Int32) (0 : Int32) (63 : Int32)).bind fun q2 => if q2 = 0 then (some ((0 : Int32), q1.2)) else (fx_ck ((q1.2 i0 25) < 0 ∨ 4 ≤ ((q1.2 i0 25)).toNatClampNeg) (some ((1 : Int32), (fv_set (fv_set q1.2 (i0 + 15) ((q1.2 i0 25)).toNatClampNeg (q1.2 (i0 + 12) ((0 : Int32)).toNatClampNeg)) i0 25 (((fv_set q1.2 (i0 + 15) ((q1.2 i0 25)).toNatClampNeg (q1.2 (i0 + 12) ((0 : Int32)).toNatClampNeg)) i0 25) + (1 : Int32))))))))
theorem v_M_readVillageOf {X : fv_X} {sh : fv_Sh} {k : Nat × Nat} {M : fv_M} {i0 : Nat} {r : Int32 × fv_M} (h0 : fx_atM sh i0) (h : g_M_readVillageOf M i0 = some r) : fv_Rn X 122 0 [some (.ref i0)] [] k sh M (some (.int r.1), sh, r.2) := by
  unfold g_M_readVillageOf at h
  refine fx_aload rfl rfl ?_
  refine fx_getI rfl h0.1 rfl rfl ?_
  refine fx_const rfl (show Int32.ofInt 4 = (4 : Int32) by decide) ?_
  by_cases c_1 : (M i0 25) = (4 : Int32)
  · replace h := (if_pos c_1).symm.trans h
    refine fx_iceq_j rfl rfl c_1 ?_
    refine fx_const rfl (show Int32.ofInt 0 = (0 : Int32) by decide) ?_
    obtain rfl := Option.some.inj h
    exact fx_ret rfl rfl
  · replace h := (if_neg c_1).symm.trans h
    refine fx_iceq_s rfl c_1 ?_
    refine fx_aload rfl rfl ?_
    refine fx_const rfl (show Int32.ofInt 1 = (1 : Int32) by decide) ?_
    obtain ⟨q1, e_q1, h⟩ := fx_bd h
    refine fx_call [.ref i0, .int (1 : Int32)] [] rfl (by decide) rfl rfl rfl rfl rfl (Nat.le_of_ble_eq_true rfl) (fx_rcv h0.1 rfl) (v_M_readNumbers h0 e_q1) ?_
    by_cases c_2 : q1.1 = 0
    · replace h := (if_pos c_2).symm.trans h
      refine fx_ifeq_j rfl rfl c_2 ?_
      refine fx_const rfl (show Int32.ofInt 0 = (0 : Int32) by decide) ?_
      obtain rfl := Option.some.inj h
      exact fx_ret rfl rfl
    · replace h := (if_neg c_2).symm.trans h
      refine fx_ifeq_s rfl c_2 ?_
      refine fx_aload rfl rfl ?_
      refine fx_const rfl (show Int32.ofInt 0 = (0 : Int32) by decide) ?_
      refine fx_const rfl (show Int32.ofInt 0 = (0 : Int32) by decide) ?_
      refine fx_const rfl (show Int32.ofInt 63 = (63 : Int32) by decide) ?_
      obtain ⟨q2, e_q2, h⟩ := fx_bd h
      refine fx_call [.ref i0, .int (0 : Int32), .int (0 : Int32), .int (63 : Int32)] [] rfl (by decide) rfl rfl rfl rfl rfl (Nat.le_of_ble_eq_true rfl) (fx_rcv h0.1 rfl) (v_M_isTold h0 e_q2) ?_
      by_cases c_3 : q2 = 0
      · replace h := (if_pos c_3).symm.trans h
        refine fx_ifne_s rfl c_3 ?_
        refine fx_const rfl (show Int32.ofInt 0 = (0 : Int32) by decide) ?_
        obtain rfl := Option.some.inj h
        exact fx_ret rfl rfl
      · replace h := (if_neg c_3).symm.trans h
        refine fx_ifne_j rfl rfl c_3 ?_
        refine fx_aload rfl rfl ?_
        refine fx_getV rfl h0.1 rfl rfl ?_
        refine fx_aload rfl rfl ?_
        refine fx_getI rfl h0.1 rfl rfl ?_
        refine fx_aload rfl rfl ?_
        refine fx_getV rfl h0.1 rfl rfl ?_
        refine fx_const rfl (show Int32.ofInt 0 = (0 : Int32) by decide) ?_
        refine fx_iaload rfl (fun z => absurd z.1 (by decide)) h0.2.2.2.2.2.2.2.2.2.2.2.2.1 (by decide) ?_
        obtain ⟨c_4, h⟩ := fx_ck_some h
        refine fx_iastore rfl h0.2.2.2.2.2.2.2.2.2.2.2.2.2.2.2.1 c_4 ?_
        refine fx_aload rfl rfl ?_
        refine fx_dup rfl rfl ?_
        refine fx_getI rfl h0.1 rfl rfl ?_
        refine fx_const rfl (show Int32.ofInt 1 = (1 : Int32) by decide) ?_
        refine fx_iadd rfl ?_
        refine fx_putI rfl h0.1 rfl rfl rfl ?_
        refine fx_const rfl (show Int32.ofInt 1 = (1 : Int32) by decide) ?_
        obtain rfl := Option.some.inj h
        exact fx_ret rfl rfl

def g_M_isToldVillage (M : fv_M) (i0 : Nat) : Option (Int32) := (g_M_isTold M i0 (0 : Int32) (0 : Int32) ((M i0 25) - (1 : Int32))).bind fun q1 => if q1 = 0 then (some (0 : Int32)) else ((g_M_isTold M i0 (1 : Int32) (0 : Int32) ((M i0 21) - (1 : Int32))).bind fun q2 => if q2 = 0 then (some (0 : Int32)) else (some (1 : Int32)))
theorem v_M_isToldVillage {X : fv_X} {sh : fv_Sh} {k : Nat × Nat} {M : fv_M} {i0 : Nat} {r : Int32} (h0 : fx_atM sh i0) (h : g_M_isToldVillage M i0 = some r) : fv_Rn X 123 0 [some (.ref i0)] [] k sh M (some (.int r), sh, M) := by
  unfold g_M_isToldVillage at h
  refine fx_aload rfl rfl ?_
  refine fx_const rfl (show Int32.ofInt 0 = (0 : Int32) by decide) ?_
  refine fx_const rfl (show Int32.ofInt 0 = (0 : Int32) by decide) ?_
  refine fx_aload rfl rfl ?_
  refine fx_getI rfl h0.1 rfl rfl ?_
  refine fx_const rfl (show Int32.ofInt 1 = (1 : Int32) by decide) ?_
  refine fx_isub rfl ?_
  obtain ⟨q1, e_q1, h⟩ := fx_bd h
  refine fx_call [.ref i0, .int (0 : Int32), .int (0 : Int32), .int ((M i0 25) - (1 : Int32))] [] rfl (by decide) rfl rfl rfl rfl rfl (Nat.le_of_ble_eq_true rfl) (fx_rcv h0.1 rfl) (v_M_isTold h0 e_q1) ?_
  by_cases c_1 : q1 = 0
  · replace h := (if_pos c_1).symm.trans h
    refine fx_ifeq_j rfl rfl c_1 ?_
    refine fx_const rfl (show Int32.ofInt 0 = (0 : Int32) by decide) ?_
    obtain rfl := Option.some.inj h
    exact fx_ret rfl rfl
  · replace h := (if_neg c_1).symm.trans h
    refine fx_ifeq_s rfl c_1 ?_
    refine fx_aload rfl rfl ?_
    refine fx_const rfl (show Int32.ofInt 1 = (1 : Int32) by decide) ?_
    refine fx_const rfl (show Int32.ofInt 0 = (0 : Int32) by decide) ?_
    refine fx_aload rfl rfl ?_
    refine fx_getI rfl h0.1 rfl rfl ?_
    refine fx_const rfl (show Int32.ofInt 1 = (1 : Int32) by decide) ?_
    refine fx_isub rfl ?_
    obtain ⟨q2, e_q2, h⟩ := fx_bd h
    refine fx_call [.ref i0, .int (1 : Int32), .int (0 : Int32), .int ((M i0 21) - (1 : Int32))] [] rfl (by decide) rfl rfl rfl rfl rfl (Nat.le_of_ble_eq_true rfl) (fx_rcv h0.1 rfl) (v_M_isTold h0 e_q2) ?_
    by_cases c_2 : q2 = 0
    · replace h := (if_pos c_2).symm.trans h
      refine fx_ifeq_j rfl rfl c_2 ?_
      refine fx_const rfl (show Int32.ofInt 0 = (0 : Int32) by decide) ?_
      obtain rfl := Option.some.inj h
      exact fx_ret rfl rfl
    · replace h := (if_neg c_2).symm.trans h
      refine fx_ifeq_s rfl c_2 ?_
      refine fx_const rfl (show Int32.ofInt 1 = (1 : Int32) by decide) ?_
      refine fx_goto rfl rfl ?_
      obtain rfl := Option.some.inj h
      exact fx_ret rfl rfl

def g_M_readStockOf (M : fv_M) (i0 : Nat) : Option (Int32 × fv_M) := (g_M_readNumbers M i0 (3 : Int32)).bind fun q1 => if q1.1 = 0 then (some ((0 : Int32), q1.2)) else ((g_M_isToldVillage q1.2 i0).bind fun q2 => if q2 = 0 then (some ((0 : Int32), q1.2)) else ((g_M_isTold q1.2 i0 (2 : Int32) (0 : Int32) (30 : Int32)).bind fun q3 => if q3 = 0 then (some ((0 : Int32), q1.2)) else (fx_ck ((((6 : Int32) * (q1.2 (i0 + 12) ((0 : Int32)).toNatClampNeg)) + (q1.2 (i0 + 12) ((1 : Int32)).toNatClampNeg)) < 0 ∨ 45 ≤ ((((6 : Int32) * (q1.2 (i0 + 12) ((0 : Int32)).toNatClampNeg)) + (q1.2 (i0 + 12) ((1 : Int32)).toNatClampNeg))).toNatClampNeg) (some ((1 : Int32), (fv_set q1.2 (i0 + 17) ((((6 : Int32) * (q1.2 (i0 + 12) ((0 : Int32)).toNatClampNeg)) + (q1.2 (i0 + 12) ((1 : Int32)).toNatClampNeg))).toNatClampNeg (q1.2 (i0 + 12) ((2 : Int32)).toNatClampNeg)))))))
theorem v_M_readStockOf {X : fv_X} {sh : fv_Sh} {k : Nat × Nat} {M : fv_M} {i0 : Nat} {r : Int32 × fv_M} (h0 : fx_atM sh i0) (h : g_M_readStockOf M i0 = some r) : fv_Rn X 124 0 [some (.ref i0)] [] k sh M (some (.int r.1), sh, r.2) := by
  unfold g_M_readStockOf at h
  refine fx_aload rfl rfl ?_
  refine fx_const rfl (show Int32.ofInt 3 = (3 : Int32) by decide) ?_
  obtain ⟨q1, e_q1, h⟩ := fx_bd h
  refine fx_call [.ref i0, .int (3 : Int32)] [] rfl (by decide) rfl rfl rfl rfl rfl (Nat.le_of_ble_eq_true rfl) (fx_rcv h0.1 rfl) (v_M_readNumbers h0 e_q1) ?_
  by_cases c_1 : q1.1 = 0
  · replace h := (if_pos c_1).symm.trans h
    refine fx_ifeq_j rfl rfl c_1 ?_
    refine fx_const rfl (show Int32.ofInt 0 = (0 : Int32) by decide) ?_
    obtain rfl := Option.some.inj h
    exact fx_ret rfl rfl
  · replace h := (if_neg c_1).symm.trans h
    refine fx_ifeq_s rfl c_1 ?_
    refine fx_aload rfl rfl ?_
    obtain ⟨q2, e_q2, h⟩ := fx_bd h
    refine fx_call [.ref i0] [] rfl (by decide) rfl rfl rfl rfl rfl (Nat.le_of_ble_eq_true rfl) (fx_rcv h0.1 rfl) (v_M_isToldVillage h0 e_q2) ?_
    by_cases c_2 : q2 = 0
    · replace h := (if_pos c_2).symm.trans h
      refine fx_ifeq_j rfl rfl c_2 ?_
      refine fx_const rfl (show Int32.ofInt 0 = (0 : Int32) by decide) ?_
      obtain rfl := Option.some.inj h
      exact fx_ret rfl rfl
    · replace h := (if_neg c_2).symm.trans h
      refine fx_ifeq_s rfl c_2 ?_
      refine fx_aload rfl rfl ?_
      refine fx_const rfl (show Int32.ofInt 2 = (2 : Int32) by decide) ?_
      refine fx_const rfl (show Int32.ofInt 0 = (0 : Int32) by decide) ?_
      refine fx_const rfl (show Int32.ofInt 30 = (30 : Int32) by decide) ?_
      obtain ⟨q3, e_q3, h⟩ := fx_bd h
      refine fx_call [.ref i0, .int (2 : Int32), .int (0 : Int32), .int (30 : Int32)] [] rfl (by decide) rfl rfl rfl rfl rfl (Nat.le_of_ble_eq_true rfl) (fx_rcv h0.1 rfl) (v_M_isTold h0 e_q3) ?_
      by_cases c_3 : q3 = 0
      · replace h := (if_pos c_3).symm.trans h
        refine fx_ifne_s rfl c_3 ?_
        refine fx_const rfl (show Int32.ofInt 0 = (0 : Int32) by decide) ?_
        obtain rfl := Option.some.inj h
        exact fx_ret rfl rfl
      · replace h := (if_neg c_3).symm.trans h
        refine fx_ifne_j rfl rfl c_3 ?_
        refine fx_aload rfl rfl ?_
        refine fx_getV rfl h0.1 rfl rfl ?_
        refine fx_const rfl (show Int32.ofInt 6 = (6 : Int32) by decide) ?_
        refine fx_aload rfl rfl ?_
        refine fx_getV rfl h0.1 rfl rfl ?_
        refine fx_const rfl (show Int32.ofInt 0 = (0 : Int32) by decide) ?_
        refine fx_iaload rfl (fun z => absurd z.1 (by decide)) h0.2.2.2.2.2.2.2.2.2.2.2.2.1 (by decide) ?_
        refine fx_imul rfl ?_
        refine fx_aload rfl rfl ?_
        refine fx_getV rfl h0.1 rfl rfl ?_
        refine fx_const rfl (show Int32.ofInt 1 = (1 : Int32) by decide) ?_
        refine fx_iaload rfl (fun z => absurd z.1 (by decide)) h0.2.2.2.2.2.2.2.2.2.2.2.2.1 (by decide) ?_
        refine fx_iadd rfl ?_
        refine fx_aload rfl rfl ?_
        refine fx_getV rfl h0.1 rfl rfl ?_
        refine fx_const rfl (show Int32.ofInt 2 = (2 : Int32) by decide) ?_
        refine fx_iaload rfl (fun z => absurd z.1 (by decide)) h0.2.2.2.2.2.2.2.2.2.2.2.2.1 (by decide) ?_
        obtain ⟨c_4, h⟩ := fx_ck_some h
        refine fx_iastore rfl h0.2.2.2.2.2.2.2.2.2.2.2.2.2.2.2.2.2.1 c_4 ?_
        refine fx_const rfl (show Int32.ofInt 1 = (1 : Int32) by decide) ?_
        obtain rfl := Option.some.inj h
        exact fx_ret rfl rfl

def g_M_readWorkOf (M : fv_M) (i0 : Nat) : Option (Int32 × fv_M) := if (M i0 27) = (8 : Int32) then (some ((0 : Int32), M)) else ((g_M_readNumbers M i0 (3 : Int32)).bind fun q1 => if q1.1 = 0 then (some ((0 : Int32), q1.2)) else ((g_M_isToldVillage q1.2 i0).bind fun q2 => if q2 = 0 then (some ((0 : Int32), q1.2)) else ((g_M_isTold q1.2 i0 (2 : Int32) (1 : Int32) (9 : Int32)).bind fun q3 => if q3 = 0 then (some ((0 : Int32), q1.2)) else ((g_M_tellsWork q1.2 i0 (q1.2 (i0 + 12) ((0 : Int32)).toNatClampNeg) (q1.2 (i0 + 12) ((1 : Int32)).toNatClampNeg) (q1.2 (i0 + 12) ((2 : Int32)).toNatClampNeg)).bind fun q4 => some ((1 : Int32), q4)))))
theorem v_M_readWorkOf {X : fv_X} {sh : fv_Sh} {k : Nat × Nat} {M : fv_M} {i0 : Nat} {r : Int32 × fv_M} (h0 : fx_atM sh i0) (h : g_M_readWorkOf M i0 = some r) : fv_Rn X 125 0 [some (.ref i0)] [] k sh M (some (.int r.1), sh, r.2) := by
  unfold g_M_readWorkOf at h
  refine fx_aload rfl rfl ?_
  refine fx_getI rfl h0.1 rfl rfl ?_
  refine fx_const rfl (show Int32.ofInt 8 = (8 : Int32) by decide) ?_
  by_cases c_1 : (M i0 27) = (8 : Int32)
  · replace h := (if_pos c_1).symm.trans h
    refine fx_iceq_j rfl rfl c_1 ?_
    refine fx_const rfl (show Int32.ofInt 0 = (0 : Int32) by decide) ?_
    obtain rfl := Option.some.inj h
    exact fx_ret rfl rfl
  · replace h := (if_neg c_1).symm.trans h
    refine fx_iceq_s rfl c_1 ?_
    refine fx_aload rfl rfl ?_
    refine fx_const rfl (show Int32.ofInt 3 = (3 : Int32) by decide) ?_
    obtain ⟨q1, e_q1, h⟩ := fx_bd h
    refine fx_call [.ref i0, .int (3 : Int32)] [] rfl (by decide) rfl rfl rfl rfl rfl (Nat.le_of_ble_eq_true rfl) (fx_rcv h0.1 rfl) (v_M_readNumbers h0 e_q1) ?_
    by_cases c_2 : q1.1 = 0
    · replace h := (if_pos c_2).symm.trans h
      refine fx_ifeq_j rfl rfl c_2 ?_
      refine fx_const rfl (show Int32.ofInt 0 = (0 : Int32) by decide) ?_
      obtain rfl := Option.some.inj h
      exact fx_ret rfl rfl
    · replace h := (if_neg c_2).symm.trans h
      refine fx_ifeq_s rfl c_2 ?_
      refine fx_aload rfl rfl ?_
      obtain ⟨q2, e_q2, h⟩ := fx_bd h
      refine fx_call [.ref i0] [] rfl (by decide) rfl rfl rfl rfl rfl (Nat.le_of_ble_eq_true rfl) (fx_rcv h0.1 rfl) (v_M_isToldVillage h0 e_q2) ?_
      by_cases c_3 : q2 = 0
      · replace h := (if_pos c_3).symm.trans h
        refine fx_ifeq_j rfl rfl c_3 ?_
        refine fx_const rfl (show Int32.ofInt 0 = (0 : Int32) by decide) ?_
        obtain rfl := Option.some.inj h
        exact fx_ret rfl rfl
      · replace h := (if_neg c_3).symm.trans h
        refine fx_ifeq_s rfl c_3 ?_
        refine fx_aload rfl rfl ?_
        refine fx_const rfl (show Int32.ofInt 2 = (2 : Int32) by decide) ?_
        refine fx_const rfl (show Int32.ofInt 1 = (1 : Int32) by decide) ?_
        refine fx_const rfl (show Int32.ofInt 9 = (9 : Int32) by decide) ?_
        obtain ⟨q3, e_q3, h⟩ := fx_bd h
        refine fx_call [.ref i0, .int (2 : Int32), .int (1 : Int32), .int (9 : Int32)] [] rfl (by decide) rfl rfl rfl rfl rfl (Nat.le_of_ble_eq_true rfl) (fx_rcv h0.1 rfl) (v_M_isTold h0 e_q3) ?_
        by_cases c_4 : q3 = 0
        · replace h := (if_pos c_4).symm.trans h
          refine fx_ifne_s rfl c_4 ?_
          refine fx_const rfl (show Int32.ofInt 0 = (0 : Int32) by decide) ?_
          obtain rfl := Option.some.inj h
          exact fx_ret rfl rfl
        · replace h := (if_neg c_4).symm.trans h
          refine fx_ifne_j rfl rfl c_4 ?_
          refine fx_aload rfl rfl ?_
          refine fx_aload rfl rfl ?_
          refine fx_getV rfl h0.1 rfl rfl ?_
          refine fx_const rfl (show Int32.ofInt 0 = (0 : Int32) by decide) ?_
          refine fx_iaload rfl (fun z => absurd z.1 (by decide)) h0.2.2.2.2.2.2.2.2.2.2.2.2.1 (by decide) ?_
          refine fx_aload rfl rfl ?_
          refine fx_getV rfl h0.1 rfl rfl ?_
          refine fx_const rfl (show Int32.ofInt 1 = (1 : Int32) by decide) ?_
          refine fx_iaload rfl (fun z => absurd z.1 (by decide)) h0.2.2.2.2.2.2.2.2.2.2.2.2.1 (by decide) ?_
          refine fx_aload rfl rfl ?_
          refine fx_getV rfl h0.1 rfl rfl ?_
          refine fx_const rfl (show Int32.ofInt 2 = (2 : Int32) by decide) ?_
          refine fx_iaload rfl (fun z => absurd z.1 (by decide)) h0.2.2.2.2.2.2.2.2.2.2.2.2.1 (by decide) ?_
          obtain ⟨q4, e_q4, h⟩ := fx_bd h
          refine fx_call [.ref i0, .int (q1.2 (i0 + 12) ((0 : Int32)).toNatClampNeg), .int (q1.2 (i0 + 12) ((1 : Int32)).toNatClampNeg), .int (q1.2 (i0 + 12) ((2 : Int32)).toNatClampNeg)] [] rfl (by decide) rfl rfl rfl rfl rfl (Nat.le_of_ble_eq_true rfl) (fx_rcv h0.1 rfl) (v_M_tellsWork h0 e_q4) ?_
          refine fx_const rfl (show Int32.ofInt 1 = (1 : Int32) by decide) ?_
          obtain rfl := Option.some.inj h
          exact fx_ret rfl rfl

theorem v_sw_M_readItem (x : Int32) (h0 : ¬ x = (110 : Int32)) (h1 : ¬ x = (115 : Int32)) (h2 : ¬ x = (116 : Int32)) (h3 : ¬ x = (118 : Int32)) (h4 : ¬ x = (119 : Int32)) : fv_tgt 101 110 119 #[81, 101, 101, 101, 101, 91, 86, 101, 76, 96] x = some 101 := by
  unfold fv_tgt
  split
  · rfl
  · rename_i hx
    rcases (by omega : x.toInt = 110 ∨ x.toInt = 111 ∨ x.toInt = 112 ∨ x.toInt = 113 ∨ x.toInt = 114 ∨ x.toInt = 115 ∨ x.toInt = 116 ∨ x.toInt = 117 ∨ x.toInt = 118 ∨ x.toInt = 119) with e | e | e | e | e | e | e | e | e | e
    · exact absurd (Int32.toInt_inj.mp (e.trans (show (110 : Int) = ((110 : Int32)).toInt by decide))) h0
    · rw [e]; rfl
    · rw [e]; rfl
    · rw [e]; rfl
    · rw [e]; rfl
    · exact absurd (Int32.toInt_inj.mp (e.trans (show (115 : Int) = ((115 : Int32)).toInt by decide))) h1
    · exact absurd (Int32.toInt_inj.mp (e.trans (show (116 : Int) = ((116 : Int32)).toInt by decide))) h2
    · rw [e]; rfl
    · exact absurd (Int32.toInt_inj.mp (e.trans (show (118 : Int) = ((118 : Int32)).toInt by decide))) h3
    · exact absurd (Int32.toInt_inj.mp (e.trans (show (119 : Int) = ((119 : Int32)).toInt by decide))) h4
def g_M_readItem (M : fv_M) (i0 : Nat) : Option (Int32 × fv_M) := (g_M_letterAt M i0 (M i0 19)).bind fun q1 => if q1 = (110 : Int32) then ((g_M_readNounOf (fv_set M i0 19 ((M i0 19) + (1 : Int32))) i0).bind fun q2 => fx_ck (¬ (q2.1 = 0 ∨ q2.1 = 1)) (some (q2.1, q2.2))) else (if q1 = (115 : Int32) then ((g_M_readStockOf (fv_set M i0 19 ((M i0 19) + (1 : Int32))) i0).bind fun q3 => fx_ck (¬ (q3.1 = 0 ∨ q3.1 = 1)) (some (q3.1, q3.2))) else (if q1 = (116 : Int32) then ((g_M_readVillageOf (fv_set M i0 19 ((M i0 19) + (1 : Int32))) i0).bind fun q4 => fx_ck (¬ (q4.1 = 0 ∨ q4.1 = 1)) (some (q4.1, q4.2))) else (if q1 = (118 : Int32) then ((g_M_readVerbOf (fv_set M i0 19 ((M i0 19) + (1 : Int32))) i0).bind fun q5 => fx_ck (¬ (q5.1 = 0 ∨ q5.1 = 1)) (some (q5.1, q5.2))) else (if q1 = (119 : Int32) then ((g_M_readWorkOf (fv_set M i0 19 ((M i0 19) + (1 : Int32))) i0).bind fun q6 => fx_ck (¬ (q6.1 = 0 ∨ q6.1 = 1)) (some (q6.1, q6.2))) else (some ((0 : Int32), (fv_set M i0 19 ((M i0 19) + (1 : Int32)))))))))
theorem v_M_readItem {X : fv_X} {sh : fv_Sh} {k : Nat × Nat} {M : fv_M} {i0 : Nat} {r : Int32 × fv_M} (h0 : fx_atM sh i0) (h : g_M_readItem M i0 = some r) : fv_Rn X 126 0 [some (.ref i0)] [] k sh M (some (.int r.1), sh, r.2) := by
  unfold g_M_readItem at h
  refine fx_aload rfl rfl ?_
  refine fx_aload rfl rfl ?_
  refine fx_getI rfl h0.1 rfl rfl ?_
  obtain ⟨q1, e_q1, h⟩ := fx_bd h
  refine fx_call [.ref i0, .int (M i0 19)] [] rfl (by decide) rfl rfl rfl rfl rfl (Nat.le_of_ble_eq_true rfl) (fx_rcv h0.1 rfl) (v_M_letterAt h0 e_q1) ?_
  refine fx_istore rfl rfl ?_
  refine fx_aload rfl rfl ?_
  refine fx_dup rfl rfl ?_
  refine fx_getI rfl h0.1 rfl rfl ?_
  refine fx_const rfl (show Int32.ofInt 1 = (1 : Int32) by decide) ?_
  refine fx_iadd rfl ?_
  refine fx_putI rfl h0.1 rfl rfl rfl ?_
  refine fx_iload rfl rfl ?_
  by_cases c_1 : q1 = (110 : Int32)
  · replace h := (if_pos c_1).symm.trans h
    refine fx_tsw (t := 81) rfl (by rw [c_1]; rfl) ?_
    refine fx_aload rfl rfl ?_
    obtain ⟨q2, e_q2, h⟩ := fx_bd h
    refine fx_call [.ref i0] [] rfl (by decide) rfl rfl rfl rfl rfl (Nat.le_of_ble_eq_true rfl) (fx_rcv h0.1 rfl) (v_M_readNounOf h0 e_q2) ?_
    obtain ⟨c_2, h⟩ := fx_ck_some h
    obtain rfl := Option.some.inj h
    exact fx_ret rfl (decide_eq_true (Decidable.not_not.mp c_2))
  · replace h := (if_neg c_1).symm.trans h
    by_cases c_3 : q1 = (115 : Int32)
    · replace h := (if_pos c_3).symm.trans h
      refine fx_tsw (t := 91) rfl (by rw [c_3]; rfl) ?_
      refine fx_aload rfl rfl ?_
      obtain ⟨q3, e_q3, h⟩ := fx_bd h
      refine fx_call [.ref i0] [] rfl (by decide) rfl rfl rfl rfl rfl (Nat.le_of_ble_eq_true rfl) (fx_rcv h0.1 rfl) (v_M_readStockOf h0 e_q3) ?_
      obtain ⟨c_4, h⟩ := fx_ck_some h
      obtain rfl := Option.some.inj h
      exact fx_ret rfl (decide_eq_true (Decidable.not_not.mp c_4))
    · replace h := (if_neg c_3).symm.trans h
      by_cases c_5 : q1 = (116 : Int32)
      · replace h := (if_pos c_5).symm.trans h
        refine fx_tsw (t := 86) rfl (by rw [c_5]; rfl) ?_
        refine fx_aload rfl rfl ?_
        obtain ⟨q4, e_q4, h⟩ := fx_bd h
        refine fx_call [.ref i0] [] rfl (by decide) rfl rfl rfl rfl rfl (Nat.le_of_ble_eq_true rfl) (fx_rcv h0.1 rfl) (v_M_readVillageOf h0 e_q4) ?_
        obtain ⟨c_6, h⟩ := fx_ck_some h
        obtain rfl := Option.some.inj h
        exact fx_ret rfl (decide_eq_true (Decidable.not_not.mp c_6))
      · replace h := (if_neg c_5).symm.trans h
        by_cases c_7 : q1 = (118 : Int32)
        · replace h := (if_pos c_7).symm.trans h
          refine fx_tsw (t := 76) rfl (by rw [c_7]; rfl) ?_
          refine fx_aload rfl rfl ?_
          obtain ⟨q5, e_q5, h⟩ := fx_bd h
          refine fx_call [.ref i0] [] rfl (by decide) rfl rfl rfl rfl rfl (Nat.le_of_ble_eq_true rfl) (fx_rcv h0.1 rfl) (v_M_readVerbOf h0 e_q5) ?_
          obtain ⟨c_8, h⟩ := fx_ck_some h
          obtain rfl := Option.some.inj h
          exact fx_ret rfl (decide_eq_true (Decidable.not_not.mp c_8))
        · replace h := (if_neg c_7).symm.trans h
          by_cases c_9 : q1 = (119 : Int32)
          · replace h := (if_pos c_9).symm.trans h
            refine fx_tsw (t := 96) rfl (by rw [c_9]; rfl) ?_
            refine fx_aload rfl rfl ?_
            obtain ⟨q6, e_q6, h⟩ := fx_bd h
            refine fx_call [.ref i0] [] rfl (by decide) rfl rfl rfl rfl rfl (Nat.le_of_ble_eq_true rfl) (fx_rcv h0.1 rfl) (v_M_readWorkOf h0 e_q6) ?_
            obtain ⟨c_10, h⟩ := fx_ck_some h
            obtain rfl := Option.some.inj h
            exact fx_ret rfl (decide_eq_true (Decidable.not_not.mp c_10))
          · replace h := (if_neg c_9).symm.trans h
            refine fx_tsw rfl (v_sw_M_readItem q1 c_1 c_3 c_5 c_7 c_9) ?_
            refine fx_const rfl (show Int32.ofInt 0 = (0 : Int32) by decide) ?_
            obtain rfl := Option.some.inj h
            exact fx_ret rfl rfl

def g_M_fault_9 (i0 : Nat) : Nat → fv_M → (fv_M → Option (Int32 × fv_M)) → Option (Int32 × fv_M)
  | 0, _, _ => none
  | n + 1, M, kk => if (M i0 18) ≤ (M i0 19) then (kk M ) else ((g_M_readItem M i0).bind fun q2 => if q2.1 = 0 then (some ((M i0 19), q2.2)) else (g_M_fault_9 i0 n q2.2  kk))
theorem v_M_fault_9 {X : fv_X} {sh : fv_Sh} {k : Nat × Nat} {i0 : Nat} {r : Int32 × fv_M} {kk : fv_M → Option (Int32 × fv_M)} (h0 : fx_atM sh i0) (K : ∀ (M : fv_M) , kk M  = some r → fv_Rn X 127 37 [some (.ref i0)] [] k sh M (some (.int r.1), sh, r.2)) : ∀ (n : Nat) (M : fv_M) , g_M_fault_9 i0 n M  kk = some r → fv_Rn X 127 9 [some (.ref i0)] [] k sh M (some (.int r.1), sh, r.2) := by
  intro n
  induction n with
  | zero =>
    intro M  h
    replace h : (none : Option (Int32 × fv_M)) = some r := h
    cases h
  | succ n ih =>
    intro M  h
    rw [g_M_fault_9] at h
    refine fx_aload rfl rfl ?_
    refine fx_getI rfl h0.1 rfl rfl ?_
    refine fx_aload rfl rfl ?_
    refine fx_getI rfl h0.1 rfl rfl ?_
    by_cases c_1 : (M i0 18) ≤ (M i0 19)
    · replace h := (if_pos c_1).symm.trans h
      refine fx_icge_j rfl rfl c_1 ?_
      exact K _ h
    · replace h := (if_neg c_1).symm.trans h
      refine fx_icge_s rfl c_1 ?_
      refine fx_aload rfl rfl ?_
      refine fx_getI rfl h0.1 rfl rfl ?_
      refine fx_istore rfl rfl ?_
      refine fx_aload rfl rfl ?_
      obtain ⟨q2, e_q2, h⟩ := fx_bd h
      refine fx_call [.ref i0] [] rfl (by decide) rfl rfl rfl rfl rfl (Nat.le_of_ble_eq_true rfl) (fx_rcv h0.1 rfl) (v_M_readItem h0 e_q2) ?_
      by_cases c_2 : q2.1 = 0
      · replace h := (if_pos c_2).symm.trans h
        refine fx_ifne_s rfl c_2 ?_
        refine fx_iload rfl rfl ?_
        obtain rfl := Option.some.inj h
        exact fx_ret rfl rfl
      · replace h := (if_neg c_2).symm.trans h
        refine fx_ifne_j rfl rfl c_2 ?_
        refine fx_back rfl rfl rfl ?_
        exact ih _ h
def g_M_fault (M : fv_M) (i0 : Nat) : Option (Int32 × fv_M) := (g_M_clearTold (fv_set M i0 19 (0 : Int32)) i0).bind fun q1 => g_M_fault_9 i0 fx_FU q1  (fun M_3 => some ((-4 : Int32), M_3))
theorem v_M_fault {X : fv_X} {sh : fv_Sh} {k : Nat × Nat} {M : fv_M} {i0 : Nat} {r : Int32 × fv_M} (h0 : fx_atM sh i0) (h : g_M_fault M i0 = some r) : fv_Rn X 127 0 [some (.ref i0)] [] k sh M (some (.int r.1), sh, r.2) := by
  unfold g_M_fault at h
  refine fx_aload rfl rfl ?_
  refine fx_const rfl (show Int32.ofInt 0 = (0 : Int32) by decide) ?_
  refine fx_putI rfl h0.1 rfl rfl rfl ?_
  refine fx_aload rfl rfl ?_
  obtain ⟨q1, e_q1, h⟩ := fx_bd h
  refine fx_call [.ref i0] [] rfl (by decide) rfl rfl rfl rfl rfl (Nat.le_of_ble_eq_true rfl) (fx_rcv h0.1 rfl) (v_M_clearTold h0 e_q1) ?_
  refine v_M_fault_9 h0 (fun M_3 h => ?_) fx_FU _ h
  refine fx_const rfl (show Int32.ofInt (-4) = (-4 : Int32) by decide) ?_
  obtain rfl := Option.some.inj h
  exact fx_ret rfl rfl

def g_M_lay (M : fv_M) (i0 : Nat) : Option (Int32 × fv_M) := (g_M_fault M i0).bind fun q1 => if q1.1 = (-4 : Int32) then (if (q1.2 i0 21) = 0 then (some ((-2 : Int32), q1.2)) else (if (q1.2 i0 25) = 0 then (some ((-2 : Int32), q1.2)) else ((g_M_settles q1.2 i0).bind fun q2 => some ((q2 i0 4), q2)))) else (some ((-2 : Int32), q1.2))
theorem v_M_lay {X : fv_X} {sh : fv_Sh} {k : Nat × Nat} {M : fv_M} {i0 : Nat} {r : Int32 × fv_M} (h0 : fx_atM sh i0) (h : g_M_lay M i0 = some r) : fv_Rn X 128 0 [some (.ref i0)] [] k sh M (some (.int r.1), sh, r.2) := by
  unfold g_M_lay at h
  refine fx_aload rfl rfl ?_
  obtain ⟨q1, e_q1, h⟩ := fx_bd h
  refine fx_call [.ref i0] [] rfl (by decide) rfl rfl rfl rfl rfl (Nat.le_of_ble_eq_true rfl) (fx_rcv h0.1 rfl) (v_M_fault h0 e_q1) ?_
  refine fx_const rfl (show Int32.ofInt (-4) = (-4 : Int32) by decide) ?_
  by_cases c_1 : q1.1 = (-4 : Int32)
  · replace h := (if_pos c_1).symm.trans h
    refine fx_icne_s rfl c_1 ?_
    refine fx_aload rfl rfl ?_
    refine fx_getI rfl h0.1 rfl rfl ?_
    by_cases c_2 : (q1.2 i0 21) = 0
    · replace h := (if_pos c_2).symm.trans h
      refine fx_ifeq_j rfl rfl c_2 ?_
      refine fx_const rfl (show Int32.ofInt (-2) = (-2 : Int32) by decide) ?_
      obtain rfl := Option.some.inj h
      exact fx_ret rfl rfl
    · replace h := (if_neg c_2).symm.trans h
      refine fx_ifeq_s rfl c_2 ?_
      refine fx_aload rfl rfl ?_
      refine fx_getI rfl h0.1 rfl rfl ?_
      by_cases c_3 : (q1.2 i0 25) = 0
      · replace h := (if_pos c_3).symm.trans h
        refine fx_ifne_s rfl c_3 ?_
        refine fx_const rfl (show Int32.ofInt (-2) = (-2 : Int32) by decide) ?_
        obtain rfl := Option.some.inj h
        exact fx_ret rfl rfl
      · replace h := (if_neg c_3).symm.trans h
        refine fx_ifne_j rfl rfl c_3 ?_
        refine fx_aload rfl rfl ?_
        obtain ⟨q2, e_q2, h⟩ := fx_bd h
        refine fx_call [.ref i0] [] rfl (by decide) rfl rfl rfl rfl rfl (Nat.le_of_ble_eq_true rfl) (fx_rcv h0.1 rfl) (v_M_settles h0 e_q2) ?_
        refine fx_aload rfl rfl ?_
        refine fx_getI rfl h0.1 rfl rfl ?_
        obtain rfl := Option.some.inj h
        exact fx_ret rfl rfl
  · replace h := (if_neg c_1).symm.trans h
    refine fx_icne_j rfl rfl c_1 ?_
    refine fx_const rfl (show Int32.ofInt (-2) = (-2 : Int32) by decide) ?_
    obtain rfl := Option.some.inj h
    exact fx_ret rfl rfl

def g_M_readings (M : fv_M) (i0 : Nat) (a1 : Int32) : Option (Int32) := (g_M_in M a1 (1 : Int32) (((1 : Int32) <<< ((M i0 2) &&& 31)) - (1 : Int32))).bind fun q1 => if q1 = 0 then (some (-1 : Int32)) else ((g_M_readingsOf M i0 a1).bind fun q2 => some q2)
theorem v_M_readings {X : fv_X} {sh : fv_Sh} {k : Nat × Nat} {M : fv_M} {i0 : Nat} {a1 : Int32} {r : Int32} (h0 : fx_atM sh i0) (h : g_M_readings M i0 a1 = some r) : fv_Rn X 132 0 [some (.ref i0), some (.int a1)] [] k sh M (some (.int r), sh, M) := by
  unfold g_M_readings at h
  refine fx_iload rfl rfl ?_
  refine fx_const rfl (show Int32.ofInt 1 = (1 : Int32) by decide) ?_
  refine fx_const rfl (show Int32.ofInt 1 = (1 : Int32) by decide) ?_
  refine fx_aload rfl rfl ?_
  refine fx_getI rfl h0.1 rfl rfl ?_
  refine fx_ishl rfl ?_
  refine fx_const rfl (show Int32.ofInt 1 = (1 : Int32) by decide) ?_
  refine fx_isub rfl ?_
  obtain ⟨q1, e_q1, h⟩ := fx_bd h
  refine fx_call [.int a1, .int (1 : Int32), .int (((1 : Int32) <<< ((M i0 2) &&& 31)) - (1 : Int32))] [] rfl (by decide) rfl rfl rfl rfl rfl (Nat.le_of_ble_eq_true rfl) rfl (v_M_in  e_q1) ?_
  by_cases c_1 : q1 = 0
  · replace h := (if_pos c_1).symm.trans h
    refine fx_ifeq_j rfl rfl c_1 ?_
    refine fx_const rfl (show Int32.ofInt (-1) = (-1 : Int32) by decide) ?_
    obtain rfl := Option.some.inj h
    exact fx_ret rfl rfl
  · replace h := (if_neg c_1).symm.trans h
    refine fx_ifeq_s rfl c_1 ?_
    refine fx_aload rfl rfl ?_
    refine fx_iload rfl rfl ?_
    obtain ⟨q2, e_q2, h⟩ := fx_bd h
    refine fx_call [.ref i0, .int a1] [] rfl (by decide) rfl rfl rfl rfl rfl (Nat.le_of_ble_eq_true rfl) (fx_rcv h0.1 rfl) (v_M_readingsOf h0 e_q2) ?_
    refine fx_goto rfl rfl ?_
    obtain rfl := Option.some.inj h
    exact fx_ret rfl rfl

def g_M_say_24 (M : fv_M) (i0 : Nat) (a1 : Int32) (a2 : Int32) : Nat → Int32 → Int32 → (Int32 → Int32 → Option (Int32)) → Option (Int32)
  | 0, _, _, _ => none
  | n + 1, a3, a4, kk => if ((1 : Int32) <<< ((M i0 2) &&& 31)) ≤ a4 then (kk a3 a4) else (fx_ck (a1 < 0 ∨ 4 ≤ (a1).toNatClampNeg) (if (a4 &&& ((M (i0 + 3) (a1).toNatClampNeg) ^^^ (-1 : Int32))) = 0 then ((g_M_readingsOf M i0 a4).bind fun q3 => if q3 = ((1 : Int32) <<< (a2 &&& 31)) then (if a3 = (-4 : Int32) then (g_M_say_24 M i0 a1 a2 n a4 (a4 + (1 : Int32)) kk) else ((g_M_bits M a4).bind fun q4 => (g_M_bits M a3).bind fun q5 => if q5 ≤ q4 then (g_M_say_24 M i0 a1 a2 n a3 (a4 + (1 : Int32)) kk) else (g_M_say_24 M i0 a1 a2 n a4 (a4 + (1 : Int32)) kk))) else (g_M_say_24 M i0 a1 a2 n a3 (a4 + (1 : Int32)) kk)) else (g_M_say_24 M i0 a1 a2 n a3 (a4 + (1 : Int32)) kk)))
theorem v_M_say_24 {X : fv_X} {sh : fv_Sh} {k : Nat × Nat} {M : fv_M} {i0 : Nat} {a1 : Int32} {a2 : Int32} {r : Int32} {kk : Int32 → Int32 → Option (Int32)} (h0 : fx_atM sh i0) (K : ∀ (a3 a4 : Int32), kk a3 a4 = some r → fv_Rn X 133 104 [some (.ref i0), some (.int a1), some (.int a2), some (.int a3), some (.int a4)] [] k sh M (some (.int r), sh, M)) : ∀ (n : Nat) (a3 a4 : Int32), g_M_say_24 M i0 a1 a2 n a3 a4 kk = some r → fv_Rn X 133 24 [some (.ref i0), some (.int a1), some (.int a2), some (.int a3), some (.int a4)] [] k sh M (some (.int r), sh, M) := by
  intro n
  induction n with
  | zero =>
    intro a3 a4 h
    replace h : (none : Option (Int32)) = some r := h
    cases h
  | succ n ih =>
    intro a3 a4 h
    rw [g_M_say_24] at h
    refine fx_iload rfl rfl ?_
    refine fx_const rfl (show Int32.ofInt 1 = (1 : Int32) by decide) ?_
    refine fx_aload rfl rfl ?_
    refine fx_getI rfl h0.1 rfl rfl ?_
    refine fx_ishl rfl ?_
    by_cases c_3 : ((1 : Int32) <<< ((M i0 2) &&& 31)) ≤ a4
    · replace h := (if_pos c_3).symm.trans h
      refine fx_icge_j rfl rfl c_3 ?_
      exact K _ _ h
    · replace h := (if_neg c_3).symm.trans h
      refine fx_icge_s rfl c_3 ?_
      refine fx_iload rfl rfl ?_
      refine fx_aload rfl rfl ?_
      refine fx_getV rfl h0.1 rfl rfl ?_
      refine fx_iload rfl rfl ?_
      obtain ⟨c_4, h⟩ := fx_ck_some h
      refine fx_iaload rfl (fun z => absurd z.1 (by decide)) h0.2.2.2.1 c_4 ?_
      refine fx_const rfl (show Int32.ofInt (-1) = (-1 : Int32) by decide) ?_
      refine fx_ixor rfl ?_
      refine fx_iand rfl ?_
      by_cases c_5 : (a4 &&& ((M (i0 + 3) (a1).toNatClampNeg) ^^^ (-1 : Int32))) = 0
      · replace h := (if_pos c_5).symm.trans h
        refine fx_ifne_s rfl c_5 ?_
        refine fx_aload rfl rfl ?_
        refine fx_iload rfl rfl ?_
        obtain ⟨q3, e_q3, h⟩ := fx_bd h
        refine fx_call [.ref i0, .int a4] [] rfl (by decide) rfl rfl rfl rfl rfl (Nat.le_of_ble_eq_true rfl) (fx_rcv h0.1 rfl) (v_M_readingsOf h0 e_q3) ?_
        refine fx_const rfl (show Int32.ofInt 1 = (1 : Int32) by decide) ?_
        refine fx_iload rfl rfl ?_
        refine fx_ishl rfl ?_
        by_cases c_6 : q3 = ((1 : Int32) <<< (a2 &&& 31))
        · replace h := (if_pos c_6).symm.trans h
          refine fx_icne_s rfl c_6 ?_
          refine fx_const rfl (show Int32.ofInt 1 = (1 : Int32) by decide) ?_
          refine fx_goto rfl rfl ?_
          refine fx_istore rfl rfl ?_
          refine fx_iload rfl rfl ?_
          refine fx_ifeq_s rfl (by decide) ?_
          refine fx_iload rfl rfl ?_
          refine fx_const rfl (show Int32.ofInt (-4) = (-4 : Int32) by decide) ?_
          by_cases c_7 : a3 = (-4 : Int32)
          · replace h := (if_pos c_7).symm.trans h
            refine fx_iceq_j rfl rfl c_7 ?_
            refine fx_iload rfl rfl ?_
            refine fx_goto rfl rfl ?_
            refine fx_istore rfl rfl ?_
            refine fx_iinc rfl (show Int32.ofInt 1 = (1 : Int32) by decide) rfl rfl ?_
            refine fx_back rfl rfl rfl ?_
            exact ih _ _ h
          · replace h := (if_neg c_7).symm.trans h
            refine fx_iceq_s rfl c_7 ?_
            refine fx_iload rfl rfl ?_
            obtain ⟨q4, e_q4, h⟩ := fx_bd h
            refine fx_call [.int a4] [] rfl (by decide) rfl rfl rfl rfl rfl (Nat.le_of_ble_eq_true rfl) rfl (v_M_bits  e_q4) ?_
            refine fx_iload rfl rfl ?_
            obtain ⟨q5, e_q5, h⟩ := fx_bd h
            refine fx_call [.int a3] [.int q4] rfl (by decide) rfl rfl rfl rfl rfl (Nat.le_of_ble_eq_true rfl) rfl (v_M_bits  e_q5) ?_
            by_cases c_8 : q5 ≤ q4
            · replace h := (if_pos c_8).symm.trans h
              refine fx_icge_j rfl rfl c_8 ?_
              refine fx_iload rfl rfl ?_
              refine fx_istore rfl rfl ?_
              refine fx_iinc rfl (show Int32.ofInt 1 = (1 : Int32) by decide) rfl rfl ?_
              refine fx_back rfl rfl rfl ?_
              exact ih _ _ h
            · replace h := (if_neg c_8).symm.trans h
              refine fx_icge_s rfl c_8 ?_
              refine fx_iload rfl rfl ?_
              refine fx_goto rfl rfl ?_
              refine fx_istore rfl rfl ?_
              refine fx_iinc rfl (show Int32.ofInt 1 = (1 : Int32) by decide) rfl rfl ?_
              refine fx_back rfl rfl rfl ?_
              exact ih _ _ h
        · replace h := (if_neg c_6).symm.trans h
          refine fx_icne_j rfl rfl c_6 ?_
          refine fx_const rfl (show Int32.ofInt 0 = (0 : Int32) by decide) ?_
          refine fx_istore rfl rfl ?_
          refine fx_iload rfl rfl ?_
          refine fx_ifeq_j rfl rfl (by decide) ?_
          refine fx_iload rfl rfl ?_
          refine fx_istore rfl rfl ?_
          refine fx_iinc rfl (show Int32.ofInt 1 = (1 : Int32) by decide) rfl rfl ?_
          refine fx_back rfl rfl rfl ?_
          exact ih _ _ h
      · replace h := (if_neg c_5).symm.trans h
        refine fx_ifne_j rfl rfl c_5 ?_
        refine fx_const rfl (show Int32.ofInt 0 = (0 : Int32) by decide) ?_
        refine fx_istore rfl rfl ?_
        refine fx_iload rfl rfl ?_
        refine fx_ifeq_j rfl rfl (by decide) ?_
        refine fx_iload rfl rfl ?_
        refine fx_istore rfl rfl ?_
        refine fx_iinc rfl (show Int32.ofInt 1 = (1 : Int32) by decide) rfl rfl ?_
        refine fx_back rfl rfl rfl ?_
        exact ih _ _ h
def g_M_say (M : fv_M) (i0 : Nat) (a1 : Int32) (a2 : Int32) : Option (Int32) := (g_M_isVillage M i0 a1).bind fun q1 => if q1 = 0 then (some (-1 : Int32)) else ((g_M_isVerb M i0 a2).bind fun q2 => if q2 = 0 then (some (-1 : Int32)) else (g_M_say_24 M i0 a1 a2 fx_FU (-4 : Int32) (1 : Int32) (fun b3_6 b4_6 => some b3_6)))
theorem v_M_say {X : fv_X} {sh : fv_Sh} {k : Nat × Nat} {M : fv_M} {i0 : Nat} {a1 : Int32} {a2 : Int32} {r : Int32} (h0 : fx_atM sh i0) (h : g_M_say M i0 a1 a2 = some r) : fv_Rn X 133 0 [some (.ref i0), some (.int a1), some (.int a2)] [] k sh M (some (.int r), sh, M) := by
  unfold g_M_say at h
  refine fx_aload rfl rfl ?_
  refine fx_iload rfl rfl ?_
  obtain ⟨q1, e_q1, h⟩ := fx_bd h
  refine fx_call [.ref i0, .int a1] [] rfl (by decide) rfl rfl rfl rfl rfl (Nat.le_of_ble_eq_true rfl) (fx_rcv h0.1 rfl) (v_M_isVillage h0 e_q1) ?_
  by_cases c_1 : q1 = 0
  · replace h := (if_pos c_1).symm.trans h
    refine fx_ifeq_j rfl rfl c_1 ?_
    refine fx_const rfl (show Int32.ofInt (-1) = (-1 : Int32) by decide) ?_
    obtain rfl := Option.some.inj h
    exact fx_ret rfl rfl
  · replace h := (if_neg c_1).symm.trans h
    refine fx_ifeq_s rfl c_1 ?_
    refine fx_aload rfl rfl ?_
    refine fx_iload rfl rfl ?_
    obtain ⟨q2, e_q2, h⟩ := fx_bd h
    refine fx_call [.ref i0, .int a2] [] rfl (by decide) rfl rfl rfl rfl rfl (Nat.le_of_ble_eq_true rfl) (fx_rcv h0.1 rfl) (v_M_isVerb h0 e_q2) ?_
    by_cases c_2 : q2 = 0
    · replace h := (if_pos c_2).symm.trans h
      refine fx_ifne_s rfl c_2 ?_
      refine fx_const rfl (show Int32.ofInt (-1) = (-1 : Int32) by decide) ?_
      obtain rfl := Option.some.inj h
      exact fx_ret rfl rfl
    · replace h := (if_neg c_2).symm.trans h
      refine fx_ifne_j rfl rfl c_2 ?_
      refine fx_const rfl (show Int32.ofInt (-4) = (-4 : Int32) by decide) ?_
      refine fx_istore rfl rfl ?_
      refine fx_const rfl (show Int32.ofInt 1 = (1 : Int32) by decide) ?_
      refine fx_istore rfl rfl ?_
      refine v_M_say_24 h0 (fun b3_6 b4_6 h => ?_) fx_FU _ _ h
      refine fx_iload rfl rfl ?_
      obtain rfl := Option.some.inj h
      exact fx_ret rfl rfl

def g_M_tells_37 (M : fv_M) (i0 : Nat) (a1 : Int32) (a2 : Int32) : Nat → Int32 → Int32 → Int32 → (Int32 → Int32 → Int32 → Option (Int32)) → Option (Int32)
  | 0, _, _, _, _ => none
  | n + 1, a3, a4, a5, kk => if (M i0 2) ≤ a5 then (kk a3 a4 a5) else ((g_M_isIn M a1 a5).bind fun q3 => if q3 = 0 then ((g_M_readingsOf M i0 a1).bind fun q4 => fx_ck (a5 < 0 ∨ 8 ≤ (a5).toNatClampNeg) ((g_M_bits M (q4 &&& (M (i0 + 2) (a5).toNatClampNeg))).bind fun q5 => if q5 ≤ 0 then (g_M_tells_37 M i0 a1 a2 n a3 a4 (a5 + (1 : Int32)) kk) else (if a3 = (-4 : Int32) then (g_M_tells_37 M i0 a1 a2 n a5 q5 (a5 + (1 : Int32)) kk) else (if a4 ≤ q5 then (g_M_tells_37 M i0 a1 a2 n a3 a4 (a5 + (1 : Int32)) kk) else (g_M_tells_37 M i0 a1 a2 n a5 q5 (a5 + (1 : Int32)) kk))))) else (g_M_tells_37 M i0 a1 a2 n a3 a4 (a5 + (1 : Int32)) kk))
theorem v_M_tells_37 {X : fv_X} {sh : fv_Sh} {k : Nat × Nat} {M : fv_M} {i0 : Nat} {a1 : Int32} {a2 : Int32} {r : Int32} {kk : Int32 → Int32 → Int32 → Option (Int32)} (h0 : fx_atM sh i0) (K : ∀ (a3 a4 a5 : Int32), kk a3 a4 a5 = some r → fv_Rn X 134 134 [some (.ref i0), some (.int a1), some (.int a2), some (.int a3), some (.int a4), some (.int a5)] [] k sh M (some (.int r), sh, M)) : ∀ (n : Nat) (a3 a4 a5 : Int32), g_M_tells_37 M i0 a1 a2 n a3 a4 a5 kk = some r → fv_Rn X 134 37 [some (.ref i0), some (.int a1), some (.int a2), some (.int a3), some (.int a4), some (.int a5)] [] k sh M (some (.int r), sh, M) := by
  intro n
  induction n with
  | zero =>
    intro a3 a4 a5 h
    replace h : (none : Option (Int32)) = some r := h
    cases h
  | succ n ih =>
    intro a3 a4 a5 h
    rw [g_M_tells_37] at h
    refine fx_iload rfl rfl ?_
    refine fx_aload rfl rfl ?_
    refine fx_getI rfl h0.1 rfl rfl ?_
    by_cases c_3 : (M i0 2) ≤ a5
    · replace h := (if_pos c_3).symm.trans h
      refine fx_icge_j rfl rfl c_3 ?_
      exact K _ _ _ h
    · replace h := (if_neg c_3).symm.trans h
      refine fx_icge_s rfl c_3 ?_
      refine fx_iload rfl rfl ?_
      refine fx_iload rfl rfl ?_
      obtain ⟨q3, e_q3, h⟩ := fx_bd h
      refine fx_call [.int a1, .int a5] [] rfl (by decide) rfl rfl rfl rfl rfl (Nat.le_of_ble_eq_true rfl) rfl (v_M_isIn  e_q3) ?_
      by_cases c_4 : q3 = 0
      · replace h := (if_pos c_4).symm.trans h
        refine fx_ifeq_j rfl rfl c_4 ?_
        refine fx_aload rfl rfl ?_
        refine fx_iload rfl rfl ?_
        obtain ⟨q4, e_q4, h⟩ := fx_bd h
        refine fx_call [.ref i0, .int a1] [] rfl (by decide) rfl rfl rfl rfl rfl (Nat.le_of_ble_eq_true rfl) (fx_rcv h0.1 rfl) (v_M_readingsOf h0 e_q4) ?_
        refine fx_aload rfl rfl ?_
        refine fx_getV rfl h0.1 rfl rfl ?_
        refine fx_iload rfl rfl ?_
        obtain ⟨c_5, h⟩ := fx_ck_some h
        refine fx_iaload rfl (fun z => absurd z.1 (by decide)) h0.2.2.1 c_5 ?_
        refine fx_iand rfl ?_
        obtain ⟨q5, e_q5, h⟩ := fx_bd h
        refine fx_call [.int (q4 &&& (M (i0 + 2) (a5).toNatClampNeg))] [] rfl (by decide) rfl rfl rfl rfl rfl (Nat.le_of_ble_eq_true rfl) rfl (v_M_bits  e_q5) ?_
        refine fx_istore rfl rfl ?_
        refine fx_iload rfl rfl ?_
        by_cases c_6 : q5 ≤ 0
        · replace h := (if_pos c_6).symm.trans h
          refine fx_ifle_j rfl rfl c_6 ?_
          refine fx_const rfl (show Int32.ofInt 0 = (0 : Int32) by decide) ?_
          refine fx_istore rfl rfl ?_
          refine fx_iload rfl rfl ?_
          refine fx_ifeq_j rfl rfl (by decide) ?_
          refine fx_iload rfl rfl ?_
          refine fx_istore rfl rfl ?_
          refine fx_iload rfl rfl ?_
          refine fx_ifeq_j rfl rfl (by decide) ?_
          refine fx_iload rfl rfl ?_
          refine fx_istore rfl rfl ?_
          refine fx_iinc rfl (show Int32.ofInt 1 = (1 : Int32) by decide) rfl rfl ?_
          refine fx_back rfl rfl rfl ?_
          exact ih _ _ _ h
        · replace h := (if_neg c_6).symm.trans h
          refine fx_ifle_s rfl c_6 ?_
          refine fx_iload rfl rfl ?_
          refine fx_const rfl (show Int32.ofInt (-4) = (-4 : Int32) by decide) ?_
          by_cases c_7 : a3 = (-4 : Int32)
          · replace h := (if_pos c_7).symm.trans h
            refine fx_iceq_j rfl rfl c_7 ?_
            refine fx_const rfl (show Int32.ofInt 1 = (1 : Int32) by decide) ?_
            refine fx_goto rfl rfl ?_
            refine fx_istore rfl rfl ?_
            refine fx_iload rfl rfl ?_
            refine fx_ifeq_s rfl (by decide) ?_
            refine fx_iload rfl rfl ?_
            refine fx_goto rfl rfl ?_
            refine fx_istore rfl rfl ?_
            refine fx_iload rfl rfl ?_
            refine fx_ifeq_s rfl (by decide) ?_
            refine fx_iload rfl rfl ?_
            refine fx_goto rfl rfl ?_
            refine fx_istore rfl rfl ?_
            refine fx_iinc rfl (show Int32.ofInt 1 = (1 : Int32) by decide) rfl rfl ?_
            refine fx_back rfl rfl rfl ?_
            exact ih _ _ _ h
          · replace h := (if_neg c_7).symm.trans h
            refine fx_iceq_s rfl c_7 ?_
            refine fx_iload rfl rfl ?_
            refine fx_iload rfl rfl ?_
            by_cases c_8 : a4 ≤ q5
            · replace h := (if_pos c_8).symm.trans h
              refine fx_icge_j rfl rfl c_8 ?_
              refine fx_const rfl (show Int32.ofInt 0 = (0 : Int32) by decide) ?_
              refine fx_istore rfl rfl ?_
              refine fx_iload rfl rfl ?_
              refine fx_ifeq_j rfl rfl (by decide) ?_
              refine fx_iload rfl rfl ?_
              refine fx_istore rfl rfl ?_
              refine fx_iload rfl rfl ?_
              refine fx_ifeq_j rfl rfl (by decide) ?_
              refine fx_iload rfl rfl ?_
              refine fx_istore rfl rfl ?_
              refine fx_iinc rfl (show Int32.ofInt 1 = (1 : Int32) by decide) rfl rfl ?_
              refine fx_back rfl rfl rfl ?_
              exact ih _ _ _ h
            · replace h := (if_neg c_8).symm.trans h
              refine fx_icge_s rfl c_8 ?_
              refine fx_const rfl (show Int32.ofInt 1 = (1 : Int32) by decide) ?_
              refine fx_goto rfl rfl ?_
              refine fx_istore rfl rfl ?_
              refine fx_iload rfl rfl ?_
              refine fx_ifeq_s rfl (by decide) ?_
              refine fx_iload rfl rfl ?_
              refine fx_goto rfl rfl ?_
              refine fx_istore rfl rfl ?_
              refine fx_iload rfl rfl ?_
              refine fx_ifeq_s rfl (by decide) ?_
              refine fx_iload rfl rfl ?_
              refine fx_goto rfl rfl ?_
              refine fx_istore rfl rfl ?_
              refine fx_iinc rfl (show Int32.ofInt 1 = (1 : Int32) by decide) rfl rfl ?_
              refine fx_back rfl rfl rfl ?_
              exact ih _ _ _ h
      · replace h := (if_neg c_4).symm.trans h
        refine fx_ifeq_s rfl c_4 ?_
        refine fx_const rfl (show Int32.ofInt 0 = (0 : Int32) by decide) ?_
        refine fx_goto rfl rfl ?_
        refine fx_istore rfl rfl ?_
        refine fx_iload rfl rfl ?_
        refine fx_ifle_j rfl rfl (by decide) ?_
        refine fx_const rfl (show Int32.ofInt 0 = (0 : Int32) by decide) ?_
        refine fx_istore rfl rfl ?_
        refine fx_iload rfl rfl ?_
        refine fx_ifeq_j rfl rfl (by decide) ?_
        refine fx_iload rfl rfl ?_
        refine fx_istore rfl rfl ?_
        refine fx_iload rfl rfl ?_
        refine fx_ifeq_j rfl rfl (by decide) ?_
        refine fx_iload rfl rfl ?_
        refine fx_istore rfl rfl ?_
        refine fx_iinc rfl (show Int32.ofInt 1 = (1 : Int32) by decide) rfl rfl ?_
        refine fx_back rfl rfl rfl ?_
        exact ih _ _ _ h
def g_M_tells (M : fv_M) (i0 : Nat) (a1 : Int32) (a2 : Int32) : Option (Int32) := (g_M_in M a1 (1 : Int32) (((1 : Int32) <<< ((M i0 2) &&& 31)) - (1 : Int32))).bind fun q1 => if q1 = 0 then (some (-1 : Int32)) else ((g_M_in M a2 (0 : Int32) (1 : Int32)).bind fun q2 => if q2 = 0 then (some (-1 : Int32)) else (g_M_tells_37 M i0 a1 a2 fx_FU (-4 : Int32) (-4 : Int32) (0 : Int32) (fun b3_6 b4_6 b5_6 => if a2 = 0 then (some b3_6) else (some b4_6))))
theorem v_M_tells {X : fv_X} {sh : fv_Sh} {k : Nat × Nat} {M : fv_M} {i0 : Nat} {a1 : Int32} {a2 : Int32} {r : Int32} (h0 : fx_atM sh i0) (h : g_M_tells M i0 a1 a2 = some r) : fv_Rn X 134 0 [some (.ref i0), some (.int a1), some (.int a2)] [] k sh M (some (.int r), sh, M) := by
  unfold g_M_tells at h
  refine fx_iload rfl rfl ?_
  refine fx_const rfl (show Int32.ofInt 1 = (1 : Int32) by decide) ?_
  refine fx_const rfl (show Int32.ofInt 1 = (1 : Int32) by decide) ?_
  refine fx_aload rfl rfl ?_
  refine fx_getI rfl h0.1 rfl rfl ?_
  refine fx_ishl rfl ?_
  refine fx_const rfl (show Int32.ofInt 1 = (1 : Int32) by decide) ?_
  refine fx_isub rfl ?_
  obtain ⟨q1, e_q1, h⟩ := fx_bd h
  refine fx_call [.int a1, .int (1 : Int32), .int (((1 : Int32) <<< ((M i0 2) &&& 31)) - (1 : Int32))] [] rfl (by decide) rfl rfl rfl rfl rfl (Nat.le_of_ble_eq_true rfl) rfl (v_M_in  e_q1) ?_
  by_cases c_1 : q1 = 0
  · replace h := (if_pos c_1).symm.trans h
    refine fx_ifeq_j rfl rfl c_1 ?_
    refine fx_const rfl (show Int32.ofInt (-1) = (-1 : Int32) by decide) ?_
    obtain rfl := Option.some.inj h
    exact fx_ret rfl rfl
  · replace h := (if_neg c_1).symm.trans h
    refine fx_ifeq_s rfl c_1 ?_
    refine fx_iload rfl rfl ?_
    refine fx_const rfl (show Int32.ofInt 0 = (0 : Int32) by decide) ?_
    refine fx_const rfl (show Int32.ofInt 1 = (1 : Int32) by decide) ?_
    obtain ⟨q2, e_q2, h⟩ := fx_bd h
    refine fx_call [.int a2, .int (0 : Int32), .int (1 : Int32)] [] rfl (by decide) rfl rfl rfl rfl rfl (Nat.le_of_ble_eq_true rfl) rfl (v_M_in  e_q2) ?_
    by_cases c_2 : q2 = 0
    · replace h := (if_pos c_2).symm.trans h
      refine fx_ifne_s rfl c_2 ?_
      refine fx_const rfl (show Int32.ofInt (-1) = (-1 : Int32) by decide) ?_
      obtain rfl := Option.some.inj h
      exact fx_ret rfl rfl
    · replace h := (if_neg c_2).symm.trans h
      refine fx_ifne_j rfl rfl c_2 ?_
      refine fx_const rfl (show Int32.ofInt (-4) = (-4 : Int32) by decide) ?_
      refine fx_istore rfl rfl ?_
      refine fx_const rfl (show Int32.ofInt (-4) = (-4 : Int32) by decide) ?_
      refine fx_istore rfl rfl ?_
      refine fx_const rfl (show Int32.ofInt 0 = (0 : Int32) by decide) ?_
      refine fx_istore rfl rfl ?_
      refine v_M_tells_37 h0 (fun b3_6 b4_6 b5_6 h => ?_) fx_FU _ _ _ h
      refine fx_iload rfl rfl ?_
      by_cases c_9 : a2 = 0
      · replace h := (if_pos c_9).symm.trans h
        refine fx_ifne_s rfl c_9 ?_
        refine fx_iload rfl rfl ?_
        refine fx_goto rfl rfl ?_
        obtain rfl := Option.some.inj h
        exact fx_ret rfl rfl
      · replace h := (if_neg c_9).symm.trans h
        refine fx_ifne_j rfl rfl c_9 ?_
        refine fx_iload rfl rfl ?_
        obtain rfl := Option.some.inj h
        exact fx_ret rfl rfl

def g_M_verb_24 (M : fv_M) (i0 : Nat) (a1 : Int32) (a2 : Int32) : Nat → Int32 → Int32 → (Int32 → Int32 → Option (Int32)) → Option (Int32)
  | 0, _, _, _ => none
  | n + 1, a3, a4, kk => if (M i0 4) ≤ a4 then (kk a3 a4) else (fx_ck ((((6 : Int32) * a4) + a1) < 0 ∨ 45 ≤ ((((6 : Int32) * a4) + a1)).toNatClampNeg) (g_M_verb_24 M i0 a1 a2 n (a3 + (M (i0 + 6) ((((6 : Int32) * a4) + a1)).toNatClampNeg)) (a4 + (1 : Int32)) kk))
theorem v_M_verb_24 {X : fv_X} {sh : fv_Sh} {k : Nat × Nat} {M : fv_M} {i0 : Nat} {a1 : Int32} {a2 : Int32} {r : Int32} {kk : Int32 → Int32 → Option (Int32)} (h0 : fx_atM sh i0) (K : ∀ (a3 a4 : Int32), kk a3 a4 = some r → fv_Rn X 135 54 [some (.ref i0), some (.int a1), some (.int a2), some (.int a3), some (.int a4)] [] k sh M (some (.int r), sh, M)) : ∀ (n : Nat) (a3 a4 : Int32), g_M_verb_24 M i0 a1 a2 n a3 a4 kk = some r → fv_Rn X 135 24 [some (.ref i0), some (.int a1), some (.int a2), some (.int a3), some (.int a4)] [] k sh M (some (.int r), sh, M) := by
  intro n
  induction n with
  | zero =>
    intro a3 a4 h
    replace h : (none : Option (Int32)) = some r := h
    cases h
  | succ n ih =>
    intro a3 a4 h
    rw [g_M_verb_24] at h
    refine fx_iload rfl rfl ?_
    refine fx_aload rfl rfl ?_
    refine fx_getI rfl h0.1 rfl rfl ?_
    by_cases c_3 : (M i0 4) ≤ a4
    · replace h := (if_pos c_3).symm.trans h
      refine fx_icge_j rfl rfl c_3 ?_
      exact K _ _ h
    · replace h := (if_neg c_3).symm.trans h
      refine fx_icge_s rfl c_3 ?_
      refine fx_iload rfl rfl ?_
      refine fx_aload rfl rfl ?_
      refine fx_getV rfl h0.1 rfl rfl ?_
      refine fx_const rfl (show Int32.ofInt 6 = (6 : Int32) by decide) ?_
      refine fx_iload rfl rfl ?_
      refine fx_imul rfl ?_
      refine fx_iload rfl rfl ?_
      refine fx_iadd rfl ?_
      obtain ⟨c_4, h⟩ := fx_ck_some h
      refine fx_iaload rfl (fun z => absurd z.1 (by decide)) h0.2.2.2.2.2.2.1 c_4 ?_
      refine fx_iadd rfl ?_
      refine fx_istore rfl rfl ?_
      refine fx_iinc rfl (show Int32.ofInt 1 = (1 : Int32) by decide) rfl rfl ?_
      refine fx_back rfl rfl rfl ?_
      exact ih _ _ h
def g_M_verb (M : fv_M) (i0 : Nat) (a1 : Int32) (a2 : Int32) : Option (Int32) := (g_M_isVerb M i0 a1).bind fun q1 => if q1 = 0 then (some (-1 : Int32)) else ((g_M_in M a2 (0 : Int32) (2 : Int32)).bind fun q2 => if q2 = 0 then (some (-1 : Int32)) else (g_M_verb_24 M i0 a1 a2 fx_FU (0 : Int32) (0 : Int32) (fun b3_3 b4_3 => if a2 = (2 : Int32) then (some b3_3) else (fx_ck ((((2 : Int32) * a1) + a2) < 0 ∨ 12 ≤ ((((2 : Int32) * a1) + a2)).toNatClampNeg) (some (M (i0 + 1) ((((2 : Int32) * a1) + a2)).toNatClampNeg))))))
theorem v_M_verb {X : fv_X} {sh : fv_Sh} {k : Nat × Nat} {M : fv_M} {i0 : Nat} {a1 : Int32} {a2 : Int32} {r : Int32} (h0 : fx_atM sh i0) (h : g_M_verb M i0 a1 a2 = some r) : fv_Rn X 135 0 [some (.ref i0), some (.int a1), some (.int a2)] [] k sh M (some (.int r), sh, M) := by
  unfold g_M_verb at h
  refine fx_aload rfl rfl ?_
  refine fx_iload rfl rfl ?_
  obtain ⟨q1, e_q1, h⟩ := fx_bd h
  refine fx_call [.ref i0, .int a1] [] rfl (by decide) rfl rfl rfl rfl rfl (Nat.le_of_ble_eq_true rfl) (fx_rcv h0.1 rfl) (v_M_isVerb h0 e_q1) ?_
  by_cases c_1 : q1 = 0
  · replace h := (if_pos c_1).symm.trans h
    refine fx_ifeq_j rfl rfl c_1 ?_
    refine fx_const rfl (show Int32.ofInt (-1) = (-1 : Int32) by decide) ?_
    obtain rfl := Option.some.inj h
    exact fx_ret rfl rfl
  · replace h := (if_neg c_1).symm.trans h
    refine fx_ifeq_s rfl c_1 ?_
    refine fx_iload rfl rfl ?_
    refine fx_const rfl (show Int32.ofInt 0 = (0 : Int32) by decide) ?_
    refine fx_const rfl (show Int32.ofInt 2 = (2 : Int32) by decide) ?_
    obtain ⟨q2, e_q2, h⟩ := fx_bd h
    refine fx_call [.int a2, .int (0 : Int32), .int (2 : Int32)] [] rfl (by decide) rfl rfl rfl rfl rfl (Nat.le_of_ble_eq_true rfl) rfl (v_M_in  e_q2) ?_
    by_cases c_2 : q2 = 0
    · replace h := (if_pos c_2).symm.trans h
      refine fx_ifne_s rfl c_2 ?_
      refine fx_const rfl (show Int32.ofInt (-1) = (-1 : Int32) by decide) ?_
      obtain rfl := Option.some.inj h
      exact fx_ret rfl rfl
    · replace h := (if_neg c_2).symm.trans h
      refine fx_ifne_j rfl rfl c_2 ?_
      refine fx_const rfl (show Int32.ofInt 0 = (0 : Int32) by decide) ?_
      refine fx_istore rfl rfl ?_
      refine fx_const rfl (show Int32.ofInt 0 = (0 : Int32) by decide) ?_
      refine fx_istore rfl rfl ?_
      refine v_M_verb_24 h0 (fun b3_3 b4_3 h => ?_) fx_FU _ _ h
      refine fx_iload rfl rfl ?_
      refine fx_const rfl (show Int32.ofInt 2 = (2 : Int32) by decide) ?_
      by_cases c_5 : a2 = (2 : Int32)
      · replace h := (if_pos c_5).symm.trans h
        refine fx_icne_s rfl c_5 ?_
        refine fx_iload rfl rfl ?_
        refine fx_goto rfl rfl ?_
        obtain rfl := Option.some.inj h
        exact fx_ret rfl rfl
      · replace h := (if_neg c_5).symm.trans h
        refine fx_icne_j rfl rfl c_5 ?_
        refine fx_aload rfl rfl ?_
        refine fx_getV rfl h0.1 rfl rfl ?_
        refine fx_const rfl (show Int32.ofInt 2 = (2 : Int32) by decide) ?_
        refine fx_iload rfl rfl ?_
        refine fx_imul rfl ?_
        refine fx_iload rfl rfl ?_
        refine fx_iadd rfl ?_
        obtain ⟨c_6, h⟩ := fx_ck_some h
        refine fx_iaload rfl (fun z => absurd z.1 (by decide)) h0.2.1 c_6 ?_
        obtain rfl := Option.some.inj h
        exact fx_ret rfl rfl

def g_M_noun (M : fv_M) (i0 : Nat) (a1 : Int32) : Option (Int32) := (g_M_in M a1 (0 : Int32) ((M i0 2) - (1 : Int32))).bind fun q1 => if q1 = 0 then (some (-1 : Int32)) else (fx_ck (a1 < 0 ∨ 8 ≤ (a1).toNatClampNeg) (some (M (i0 + 2) (a1).toNatClampNeg)))
theorem v_M_noun {X : fv_X} {sh : fv_Sh} {k : Nat × Nat} {M : fv_M} {i0 : Nat} {a1 : Int32} {r : Int32} (h0 : fx_atM sh i0) (h : g_M_noun M i0 a1 = some r) : fv_Rn X 136 0 [some (.ref i0), some (.int a1)] [] k sh M (some (.int r), sh, M) := by
  unfold g_M_noun at h
  refine fx_iload rfl rfl ?_
  refine fx_const rfl (show Int32.ofInt 0 = (0 : Int32) by decide) ?_
  refine fx_aload rfl rfl ?_
  refine fx_getI rfl h0.1 rfl rfl ?_
  refine fx_const rfl (show Int32.ofInt 1 = (1 : Int32) by decide) ?_
  refine fx_isub rfl ?_
  obtain ⟨q1, e_q1, h⟩ := fx_bd h
  refine fx_call [.int a1, .int (0 : Int32), .int ((M i0 2) - (1 : Int32))] [] rfl (by decide) rfl rfl rfl rfl rfl (Nat.le_of_ble_eq_true rfl) rfl (v_M_in  e_q1) ?_
  by_cases c_1 : q1 = 0
  · replace h := (if_pos c_1).symm.trans h
    refine fx_ifeq_j rfl rfl c_1 ?_
    refine fx_const rfl (show Int32.ofInt (-1) = (-1 : Int32) by decide) ?_
    obtain rfl := Option.some.inj h
    exact fx_ret rfl rfl
  · replace h := (if_neg c_1).symm.trans h
    refine fx_ifeq_s rfl c_1 ?_
    refine fx_aload rfl rfl ?_
    refine fx_getV rfl h0.1 rfl rfl ?_
    refine fx_iload rfl rfl ?_
    obtain ⟨c_2, h⟩ := fx_ck_some h
    refine fx_iaload rfl (fun z => absurd z.1 (by decide)) h0.2.2.1 c_2 ?_
    refine fx_goto rfl rfl ?_
    obtain rfl := Option.some.inj h
    exact fx_ret rfl rfl

def g_M_village (M : fv_M) (i0 : Nat) (a1 : Int32) (a2 : Int32) : Option (Int32) := (g_M_isVillage M i0 a1).bind fun q1 => if q1 = 0 then (some (-1 : Int32)) else ((g_M_in M a2 (0 : Int32) (2 : Int32)).bind fun q2 => if q2 = 0 then (some (-1 : Int32)) else (if a2 = 0 then (fx_ck (a1 < 0 ∨ 4 ≤ (a1).toNatClampNeg) (some (M (i0 + 3) (a1).toNatClampNeg))) else (if a2 = (2 : Int32) then (fx_ck (a1 < 0 ∨ 4 ≤ (a1).toNatClampNeg) (some (M (i0 + 5) (a1).toNatClampNeg))) else (fx_ck (((24 : Int32) + a1) < 0 ∨ 45 ≤ (((24 : Int32) + a1)).toNatClampNeg) (if 0 ≤ (M (i0 + 6) (((24 : Int32) + a1)).toNatClampNeg) then (some (M (i0 + 6) (((24 : Int32) + a1)).toNatClampNeg)) else (some (-4 : Int32)))))))
theorem v_M_village {X : fv_X} {sh : fv_Sh} {k : Nat × Nat} {M : fv_M} {i0 : Nat} {a1 : Int32} {a2 : Int32} {r : Int32} (h0 : fx_atM sh i0) (h : g_M_village M i0 a1 a2 = some r) : fv_Rn X 137 0 [some (.ref i0), some (.int a1), some (.int a2)] [] k sh M (some (.int r), sh, M) := by
  unfold g_M_village at h
  refine fx_aload rfl rfl ?_
  refine fx_iload rfl rfl ?_
  obtain ⟨q1, e_q1, h⟩ := fx_bd h
  refine fx_call [.ref i0, .int a1] [] rfl (by decide) rfl rfl rfl rfl rfl (Nat.le_of_ble_eq_true rfl) (fx_rcv h0.1 rfl) (v_M_isVillage h0 e_q1) ?_
  by_cases c_1 : q1 = 0
  · replace h := (if_pos c_1).symm.trans h
    refine fx_ifeq_j rfl rfl c_1 ?_
    refine fx_const rfl (show Int32.ofInt (-1) = (-1 : Int32) by decide) ?_
    obtain rfl := Option.some.inj h
    exact fx_ret rfl rfl
  · replace h := (if_neg c_1).symm.trans h
    refine fx_ifeq_s rfl c_1 ?_
    refine fx_iload rfl rfl ?_
    refine fx_const rfl (show Int32.ofInt 0 = (0 : Int32) by decide) ?_
    refine fx_const rfl (show Int32.ofInt 2 = (2 : Int32) by decide) ?_
    obtain ⟨q2, e_q2, h⟩ := fx_bd h
    refine fx_call [.int a2, .int (0 : Int32), .int (2 : Int32)] [] rfl (by decide) rfl rfl rfl rfl rfl (Nat.le_of_ble_eq_true rfl) rfl (v_M_in  e_q2) ?_
    by_cases c_2 : q2 = 0
    · replace h := (if_pos c_2).symm.trans h
      refine fx_ifne_s rfl c_2 ?_
      refine fx_const rfl (show Int32.ofInt (-1) = (-1 : Int32) by decide) ?_
      obtain rfl := Option.some.inj h
      exact fx_ret rfl rfl
    · replace h := (if_neg c_2).symm.trans h
      refine fx_ifne_j rfl rfl c_2 ?_
      refine fx_iload rfl rfl ?_
      by_cases c_3 : a2 = 0
      · replace h := (if_pos c_3).symm.trans h
        refine fx_ifne_s rfl c_3 ?_
        refine fx_aload rfl rfl ?_
        refine fx_getV rfl h0.1 rfl rfl ?_
        refine fx_iload rfl rfl ?_
        obtain ⟨c_4, h⟩ := fx_ck_some h
        refine fx_iaload rfl (fun z => absurd z.1 (by decide)) h0.2.2.2.1 c_4 ?_
        refine fx_goto rfl rfl ?_
        obtain rfl := Option.some.inj h
        exact fx_ret rfl rfl
      · replace h := (if_neg c_3).symm.trans h
        refine fx_ifne_j rfl rfl c_3 ?_
        refine fx_iload rfl rfl ?_
        refine fx_const rfl (show Int32.ofInt 2 = (2 : Int32) by decide) ?_
        by_cases c_5 : a2 = (2 : Int32)
        · replace h := (if_pos c_5).symm.trans h
          refine fx_icne_s rfl c_5 ?_
          refine fx_aload rfl rfl ?_
          refine fx_getV rfl h0.1 rfl rfl ?_
          refine fx_iload rfl rfl ?_
          obtain ⟨c_6, h⟩ := fx_ck_some h
          refine fx_iaload rfl (fun z => absurd z.1 (by decide)) h0.2.2.2.2.2.1 c_6 ?_
          refine fx_goto rfl rfl ?_
          obtain rfl := Option.some.inj h
          exact fx_ret rfl rfl
        · replace h := (if_neg c_5).symm.trans h
          refine fx_icne_j rfl rfl c_5 ?_
          refine fx_aload rfl rfl ?_
          refine fx_getV rfl h0.1 rfl rfl ?_
          refine fx_const rfl (show Int32.ofInt 24 = (24 : Int32) by decide) ?_
          refine fx_iload rfl rfl ?_
          refine fx_iadd rfl ?_
          obtain ⟨c_7, h⟩ := fx_ck_some h
          refine fx_iaload rfl (fun z => absurd z.1 (by decide)) h0.2.2.2.2.2.2.1 c_7 ?_
          by_cases c_8 : 0 ≤ (M (i0 + 6) (((24 : Int32) + a1)).toNatClampNeg)
          · replace h := (if_pos c_8).symm.trans h
            refine fx_ifge_j rfl rfl c_8 ?_
            refine fx_aload rfl rfl ?_
            refine fx_getV rfl h0.1 rfl rfl ?_
            refine fx_const rfl (show Int32.ofInt 24 = (24 : Int32) by decide) ?_
            refine fx_iload rfl rfl ?_
            refine fx_iadd rfl ?_
            refine fx_iaload rfl (fun z => absurd z.1 (by decide)) h0.2.2.2.2.2.2.1 c_7 ?_
            obtain rfl := Option.some.inj h
            exact fx_ret rfl rfl
          · replace h := (if_neg c_8).symm.trans h
            refine fx_ifge_s rfl c_8 ?_
            refine fx_const rfl (show Int32.ofInt (-4) = (-4 : Int32) by decide) ?_
            refine fx_goto rfl rfl ?_
            obtain rfl := Option.some.inj h
            exact fx_ret rfl rfl

def g_M_stock (M : fv_M) (i0 : Nat) (a1 : Int32) (a2 : Int32) : Option (Int32) := (g_M_isVillage M i0 a1).bind fun q1 => if q1 = 0 then (some (-1 : Int32)) else ((g_M_isVerb M i0 a2).bind fun q2 => if q2 = 0 then (some (-1 : Int32)) else (fx_ck ((((6 : Int32) * a1) + a2) < 0 ∨ 45 ≤ ((((6 : Int32) * a1) + a2)).toNatClampNeg) (some (M (i0 + 6) ((((6 : Int32) * a1) + a2)).toNatClampNeg))))
theorem v_M_stock {X : fv_X} {sh : fv_Sh} {k : Nat × Nat} {M : fv_M} {i0 : Nat} {a1 : Int32} {a2 : Int32} {r : Int32} (h0 : fx_atM sh i0) (h : g_M_stock M i0 a1 a2 = some r) : fv_Rn X 138 0 [some (.ref i0), some (.int a1), some (.int a2)] [] k sh M (some (.int r), sh, M) := by
  unfold g_M_stock at h
  refine fx_aload rfl rfl ?_
  refine fx_iload rfl rfl ?_
  obtain ⟨q1, e_q1, h⟩ := fx_bd h
  refine fx_call [.ref i0, .int a1] [] rfl (by decide) rfl rfl rfl rfl rfl (Nat.le_of_ble_eq_true rfl) (fx_rcv h0.1 rfl) (v_M_isVillage h0 e_q1) ?_
  by_cases c_1 : q1 = 0
  · replace h := (if_pos c_1).symm.trans h
    refine fx_ifeq_j rfl rfl c_1 ?_
    refine fx_const rfl (show Int32.ofInt (-1) = (-1 : Int32) by decide) ?_
    obtain rfl := Option.some.inj h
    exact fx_ret rfl rfl
  · replace h := (if_neg c_1).symm.trans h
    refine fx_ifeq_s rfl c_1 ?_
    refine fx_aload rfl rfl ?_
    refine fx_iload rfl rfl ?_
    obtain ⟨q2, e_q2, h⟩ := fx_bd h
    refine fx_call [.ref i0, .int a2] [] rfl (by decide) rfl rfl rfl rfl rfl (Nat.le_of_ble_eq_true rfl) (fx_rcv h0.1 rfl) (v_M_isVerb h0 e_q2) ?_
    by_cases c_2 : q2 = 0
    · replace h := (if_pos c_2).symm.trans h
      refine fx_ifeq_j rfl rfl c_2 ?_
      refine fx_const rfl (show Int32.ofInt (-1) = (-1 : Int32) by decide) ?_
      obtain rfl := Option.some.inj h
      exact fx_ret rfl rfl
    · replace h := (if_neg c_2).symm.trans h
      refine fx_ifeq_s rfl c_2 ?_
      refine fx_aload rfl rfl ?_
      refine fx_getV rfl h0.1 rfl rfl ?_
      refine fx_const rfl (show Int32.ofInt 6 = (6 : Int32) by decide) ?_
      refine fx_iload rfl rfl ?_
      refine fx_imul rfl ?_
      refine fx_iload rfl rfl ?_
      refine fx_iadd rfl ?_
      obtain ⟨c_3, h⟩ := fx_ck_some h
      refine fx_iaload rfl (fun z => absurd z.1 (by decide)) h0.2.2.2.2.2.2.1 c_3 ?_
      refine fx_goto rfl rfl ?_
      obtain rfl := Option.some.inj h
      exact fx_ret rfl rfl

def g_M_work (M : fv_M) (i0 : Nat) (a1 : Int32) (a2 : Int32) : Option (Int32) := (g_M_in M a1 (0 : Int32) ((M i0 6) - (1 : Int32))).bind fun q1 => if q1 = 0 then (some (-1 : Int32)) else ((g_M_in M a2 (0 : Int32) (4 : Int32)).bind fun q2 => if q2 = 0 then (some (-1 : Int32)) else (if a2 = (3 : Int32) then (fx_ck (((28 : Int32) + a1) < 0 ∨ 45 ≤ (((28 : Int32) + a1)).toNatClampNeg) (some (M (i0 + 6) (((28 : Int32) + a1)).toNatClampNeg))) else (if a2 = (4 : Int32) then (fx_ck (((36 : Int32) + a1) < 0 ∨ 45 ≤ (((36 : Int32) + a1)).toNatClampNeg) (some (M (i0 + 6) (((36 : Int32) + a1)).toNatClampNeg))) else (fx_ck ((((3 : Int32) * a1) + a2) < 0 ∨ 24 ≤ ((((3 : Int32) * a1) + a2)).toNatClampNeg) (some (M (i0 + 4) ((((3 : Int32) * a1) + a2)).toNatClampNeg))))))
theorem v_M_work {X : fv_X} {sh : fv_Sh} {k : Nat × Nat} {M : fv_M} {i0 : Nat} {a1 : Int32} {a2 : Int32} {r : Int32} (h0 : fx_atM sh i0) (h : g_M_work M i0 a1 a2 = some r) : fv_Rn X 139 0 [some (.ref i0), some (.int a1), some (.int a2)] [] k sh M (some (.int r), sh, M) := by
  unfold g_M_work at h
  refine fx_iload rfl rfl ?_
  refine fx_const rfl (show Int32.ofInt 0 = (0 : Int32) by decide) ?_
  refine fx_aload rfl rfl ?_
  refine fx_getI rfl h0.1 rfl rfl ?_
  refine fx_const rfl (show Int32.ofInt 1 = (1 : Int32) by decide) ?_
  refine fx_isub rfl ?_
  obtain ⟨q1, e_q1, h⟩ := fx_bd h
  refine fx_call [.int a1, .int (0 : Int32), .int ((M i0 6) - (1 : Int32))] [] rfl (by decide) rfl rfl rfl rfl rfl (Nat.le_of_ble_eq_true rfl) rfl (v_M_in  e_q1) ?_
  by_cases c_1 : q1 = 0
  · replace h := (if_pos c_1).symm.trans h
    refine fx_ifeq_j rfl rfl c_1 ?_
    refine fx_const rfl (show Int32.ofInt (-1) = (-1 : Int32) by decide) ?_
    obtain rfl := Option.some.inj h
    exact fx_ret rfl rfl
  · replace h := (if_neg c_1).symm.trans h
    refine fx_ifeq_s rfl c_1 ?_
    refine fx_iload rfl rfl ?_
    refine fx_const rfl (show Int32.ofInt 0 = (0 : Int32) by decide) ?_
    refine fx_const rfl (show Int32.ofInt 4 = (4 : Int32) by decide) ?_
    obtain ⟨q2, e_q2, h⟩ := fx_bd h
    refine fx_call [.int a2, .int (0 : Int32), .int (4 : Int32)] [] rfl (by decide) rfl rfl rfl rfl rfl (Nat.le_of_ble_eq_true rfl) rfl (v_M_in  e_q2) ?_
    by_cases c_2 : q2 = 0
    · replace h := (if_pos c_2).symm.trans h
      refine fx_ifne_s rfl c_2 ?_
      refine fx_const rfl (show Int32.ofInt (-1) = (-1 : Int32) by decide) ?_
      obtain rfl := Option.some.inj h
      exact fx_ret rfl rfl
    · replace h := (if_neg c_2).symm.trans h
      refine fx_ifne_j rfl rfl c_2 ?_
      refine fx_iload rfl rfl ?_
      refine fx_const rfl (show Int32.ofInt 3 = (3 : Int32) by decide) ?_
      by_cases c_3 : a2 = (3 : Int32)
      · replace h := (if_pos c_3).symm.trans h
        refine fx_icne_s rfl c_3 ?_
        refine fx_aload rfl rfl ?_
        refine fx_getV rfl h0.1 rfl rfl ?_
        refine fx_const rfl (show Int32.ofInt 28 = (28 : Int32) by decide) ?_
        refine fx_iload rfl rfl ?_
        refine fx_iadd rfl ?_
        obtain ⟨c_4, h⟩ := fx_ck_some h
        refine fx_iaload rfl (fun z => absurd z.1 (by decide)) h0.2.2.2.2.2.2.1 c_4 ?_
        refine fx_goto rfl rfl ?_
        obtain rfl := Option.some.inj h
        exact fx_ret rfl rfl
      · replace h := (if_neg c_3).symm.trans h
        refine fx_icne_j rfl rfl c_3 ?_
        refine fx_iload rfl rfl ?_
        refine fx_const rfl (show Int32.ofInt 4 = (4 : Int32) by decide) ?_
        by_cases c_5 : a2 = (4 : Int32)
        · replace h := (if_pos c_5).symm.trans h
          refine fx_icne_s rfl c_5 ?_
          refine fx_aload rfl rfl ?_
          refine fx_getV rfl h0.1 rfl rfl ?_
          refine fx_const rfl (show Int32.ofInt 36 = (36 : Int32) by decide) ?_
          refine fx_iload rfl rfl ?_
          refine fx_iadd rfl ?_
          obtain ⟨c_6, h⟩ := fx_ck_some h
          refine fx_iaload rfl (fun z => absurd z.1 (by decide)) h0.2.2.2.2.2.2.1 c_6 ?_
          refine fx_goto rfl rfl ?_
          obtain rfl := Option.some.inj h
          exact fx_ret rfl rfl
        · replace h := (if_neg c_5).symm.trans h
          refine fx_icne_j rfl rfl c_5 ?_
          refine fx_aload rfl rfl ?_
          refine fx_getV rfl h0.1 rfl rfl ?_
          refine fx_const rfl (show Int32.ofInt 3 = (3 : Int32) by decide) ?_
          refine fx_iload rfl rfl ?_
          refine fx_imul rfl ?_
          refine fx_iload rfl rfl ?_
          refine fx_iadd rfl ?_
          obtain ⟨c_7, h⟩ := fx_ck_some h
          refine fx_iaload rfl (fun z => absurd z.1 (by decide)) h0.2.2.2.2.1 c_7 ?_
          obtain rfl := Option.some.inj h
          exact fx_ret rfl rfl

def g_M_from (M : fv_M) (i0 : Nat) (c1 : Nat) (n1 : Nat) : Option (fv_M) := (g_M_put M (i0 + 18) 45 (0 : Int32) c1 n1 (45 : Int32)).bind fun q1 => some q1
theorem v_M_from {X : fv_X} {sh : fv_Sh} {k : Nat × Nat} {M : fv_M} {i0 : Nat} {c1 : Nat} {n1 : Nat} {r : fv_M} (h0 : fx_atM sh i0) (h1 : sh[c1]? = some (.inl (0, n1))) (h : g_M_from M i0 c1 n1 = some r) : fv_Rn X 140 0 [some (.ref i0), some (.ref c1)] [] k sh M (none, sh, r) := by
  unfold g_M_from at h
  refine fx_aload rfl rfl ?_
  refine fx_getV rfl h0.1 rfl rfl ?_
  refine fx_const rfl (show Int32.ofInt 0 = (0 : Int32) by decide) ?_
  refine fx_aload rfl rfl ?_
  refine fx_const rfl (show Int32.ofInt 45 = (45 : Int32) by decide) ?_
  obtain ⟨q1, e_q1, h⟩ := fx_bd h
  refine fx_call [.ref (i0 + 18), .int (0 : Int32), .ref c1, .int (45 : Int32)] [] rfl (by decide) rfl rfl rfl rfl rfl (Nat.le_of_ble_eq_true rfl) rfl (v_M_put h0.2.2.2.2.2.2.2.2.2.2.2.2.2.2.2.2.2.2 h1 e_q1) ?_
  obtain rfl := Option.some.inj h
  exact fx_vret rfl rfl

def g_M_isSaid (M : fv_M) (i0 : Nat) (a1 : Int32) : Option (Int32 × fv_M) := fx_ck (((3 : Int32) * a1) < 0 ∨ 24 ≤ (((3 : Int32) * a1)).toNatClampNeg) (fx_ck ((((3 : Int32) * a1) + (1 : Int32)) < 0 ∨ 24 ≤ ((((3 : Int32) * a1) + (1 : Int32))).toNatClampNeg) (fx_ck ((((6 : Int32) * (M (i0 + 4) (((3 : Int32) * a1)).toNatClampNeg)) + (M (i0 + 4) ((((3 : Int32) * a1) + (1 : Int32))).toNatClampNeg)) < 0 ∨ 45 ≤ ((((6 : Int32) * (M (i0 + 4) (((3 : Int32) * a1)).toNatClampNeg)) + (M (i0 + 4) ((((3 : Int32) * a1) + (1 : Int32))).toNatClampNeg))).toNatClampNeg) (fx_ck (((2 : Int32) * (M (i0 + 4) ((((3 : Int32) * a1) + (1 : Int32))).toNatClampNeg)) < 0 ∨ 12 ≤ (((2 : Int32) * (M (i0 + 4) ((((3 : Int32) * a1) + (1 : Int32))).toNatClampNeg))).toNatClampNeg) (if (M (i0 + 18) ((((6 : Int32) * (M (i0 + 4) (((3 : Int32) * a1)).toNatClampNeg)) + (M (i0 + 4) ((((3 : Int32) * a1) + (1 : Int32))).toNatClampNeg))).toNatClampNeg) = 0 then (fx_ck ((M (i0 + 4) (((3 : Int32) * a1)).toNatClampNeg) < 0 ∨ 4 ≤ ((M (i0 + 4) (((3 : Int32) * a1)).toNatClampNeg)).toNatClampNeg) ((g_M_isIn M (M (i0 + 5) ((M (i0 + 4) (((3 : Int32) * a1)).toNatClampNeg)).toNatClampNeg) (M (i0 + 4) ((((3 : Int32) * a1) + (1 : Int32))).toNatClampNeg)).bind fun q1 => fx_ck (¬ (q1 = 0 ∨ q1 = 1)) (some (q1, M)))) else (if (M (i0 + 1) (((2 : Int32) * (M (i0 + 4) ((((3 : Int32) * a1) + (1 : Int32))).toNatClampNeg))).toNatClampNeg) = (1 : Int32) then (some ((1 : Int32), (fv_set M (i0 + 18) ((((6 : Int32) * (M (i0 + 4) (((3 : Int32) * a1)).toNatClampNeg)) + (M (i0 + 4) ((((3 : Int32) * a1) + (1 : Int32))).toNatClampNeg))).toNatClampNeg ((M (i0 + 18) ((((6 : Int32) * (M (i0 + 4) (((3 : Int32) * a1)).toNatClampNeg)) + (M (i0 + 4) ((((3 : Int32) * a1) + (1 : Int32))).toNatClampNeg))).toNatClampNeg) - ((M (i0 + 18) ((44 : Int32)).toNatClampNeg) - (M (i0 + 18) ((44 : Int32)).toNatClampNeg) / (2 : Int32) * (2 : Int32)))))) else (if (M (i0 + 1) (((2 : Int32) * (M (i0 + 4) ((((3 : Int32) * a1) + (1 : Int32))).toNatClampNeg))).toNatClampNeg) = (3 : Int32) then (if (M (i0 + 18) ((((6 : Int32) * (M (i0 + 4) (((3 : Int32) * a1)).toNatClampNeg)) + (M (i0 + 4) ((((3 : Int32) * a1) + (1 : Int32))).toNatClampNeg))).toNatClampNeg) ≤ (1 : Int32) then (some ((1 : Int32), (fv_set M (i0 + 18) ((((6 : Int32) * (M (i0 + 4) (((3 : Int32) * a1)).toNatClampNeg)) + (M (i0 + 4) ((((3 : Int32) * a1) + (1 : Int32))).toNatClampNeg))).toNatClampNeg ((M (i0 + 18) ((((6 : Int32) * (M (i0 + 4) (((3 : Int32) * a1)).toNatClampNeg)) + (M (i0 + 4) ((((3 : Int32) * a1) + (1 : Int32))).toNatClampNeg))).toNatClampNeg) - (1 : Int32))))) else (some ((1 : Int32), (fv_set M (i0 + 18) ((((6 : Int32) * (M (i0 + 4) (((3 : Int32) * a1)).toNatClampNeg)) + (M (i0 + 4) ((((3 : Int32) * a1) + (1 : Int32))).toNatClampNeg))).toNatClampNeg ((M (i0 + 18) ((((6 : Int32) * (M (i0 + 4) (((3 : Int32) * a1)).toNatClampNeg)) + (M (i0 + 4) ((((3 : Int32) * a1) + (1 : Int32))).toNatClampNeg))).toNatClampNeg) - (2 : Int32)))))) else (some ((1 : Int32), (fv_set M (i0 + 18) ((((6 : Int32) * (M (i0 + 4) (((3 : Int32) * a1)).toNatClampNeg)) + (M (i0 + 4) ((((3 : Int32) * a1) + (1 : Int32))).toNatClampNeg))).toNatClampNeg ((M (i0 + 18) ((((6 : Int32) * (M (i0 + 4) (((3 : Int32) * a1)).toNatClampNeg)) + (M (i0 + 4) ((((3 : Int32) * a1) + (1 : Int32))).toNatClampNeg))).toNatClampNeg) - (1 : Int32)))))))))))
theorem v_M_isSaid {X : fv_X} {sh : fv_Sh} {k : Nat × Nat} {M : fv_M} {i0 : Nat} {a1 : Int32} {r : Int32 × fv_M} (h0 : fx_atM sh i0) (h : g_M_isSaid M i0 a1 = some r) : fv_Rn X 141 0 [some (.ref i0), some (.int a1)] [] k sh M (some (.int r.1), sh, r.2) := by
  unfold g_M_isSaid at h
  refine fx_aload rfl rfl ?_
  refine fx_getV rfl h0.1 rfl rfl ?_
  refine fx_const rfl (show Int32.ofInt 3 = (3 : Int32) by decide) ?_
  refine fx_iload rfl rfl ?_
  refine fx_imul rfl ?_
  obtain ⟨c_1, h⟩ := fx_ck_some h
  refine fx_iaload rfl (fun z => absurd z.1 (by decide)) h0.2.2.2.2.1 c_1 ?_
  refine fx_istore rfl rfl ?_
  refine fx_aload rfl rfl ?_
  refine fx_getV rfl h0.1 rfl rfl ?_
  refine fx_const rfl (show Int32.ofInt 3 = (3 : Int32) by decide) ?_
  refine fx_iload rfl rfl ?_
  refine fx_imul rfl ?_
  refine fx_const rfl (show Int32.ofInt 1 = (1 : Int32) by decide) ?_
  refine fx_iadd rfl ?_
  obtain ⟨c_2, h⟩ := fx_ck_some h
  refine fx_iaload rfl (fun z => absurd z.1 (by decide)) h0.2.2.2.2.1 c_2 ?_
  refine fx_istore rfl rfl ?_
  refine fx_aload rfl rfl ?_
  refine fx_getV rfl h0.1 rfl rfl ?_
  refine fx_const rfl (show Int32.ofInt 6 = (6 : Int32) by decide) ?_
  refine fx_iload rfl rfl ?_
  refine fx_imul rfl ?_
  refine fx_iload rfl rfl ?_
  refine fx_iadd rfl ?_
  obtain ⟨c_3, h⟩ := fx_ck_some h
  refine fx_iaload rfl (fun z => absurd z.1 (by decide)) h0.2.2.2.2.2.2.2.2.2.2.2.2.2.2.2.2.2.2 c_3 ?_
  refine fx_istore rfl rfl ?_
  refine fx_aload rfl rfl ?_
  refine fx_getV rfl h0.1 rfl rfl ?_
  refine fx_const rfl (show Int32.ofInt 2 = (2 : Int32) by decide) ?_
  refine fx_iload rfl rfl ?_
  refine fx_imul rfl ?_
  obtain ⟨c_4, h⟩ := fx_ck_some h
  refine fx_iaload rfl (fun z => absurd z.1 (by decide)) h0.2.1 c_4 ?_
  refine fx_istore rfl rfl ?_
  refine fx_iload rfl rfl ?_
  by_cases c_5 : (M (i0 + 18) ((((6 : Int32) * (M (i0 + 4) (((3 : Int32) * a1)).toNatClampNeg)) + (M (i0 + 4) ((((3 : Int32) * a1) + (1 : Int32))).toNatClampNeg))).toNatClampNeg) = 0
  · replace h := (if_pos c_5).symm.trans h
    refine fx_ifne_s rfl c_5 ?_
    refine fx_aload rfl rfl ?_
    refine fx_getV rfl h0.1 rfl rfl ?_
    refine fx_iload rfl rfl ?_
    obtain ⟨c_6, h⟩ := fx_ck_some h
    refine fx_iaload rfl (fun z => absurd z.1 (by decide)) h0.2.2.2.2.2.1 c_6 ?_
    refine fx_iload rfl rfl ?_
    obtain ⟨q1, e_q1, h⟩ := fx_bd h
    refine fx_call [.int (M (i0 + 5) ((M (i0 + 4) (((3 : Int32) * a1)).toNatClampNeg)).toNatClampNeg), .int (M (i0 + 4) ((((3 : Int32) * a1) + (1 : Int32))).toNatClampNeg)] [] rfl (by decide) rfl rfl rfl rfl rfl (Nat.le_of_ble_eq_true rfl) rfl (v_M_isIn  e_q1) ?_
    obtain ⟨c_7, h⟩ := fx_ck_some h
    obtain rfl := Option.some.inj h
    exact fx_ret rfl (decide_eq_true (Decidable.not_not.mp c_7))
  · replace h := (if_neg c_5).symm.trans h
    refine fx_ifne_j rfl rfl c_5 ?_
    refine fx_iload rfl rfl ?_
    refine fx_const rfl (show Int32.ofInt 1 = (1 : Int32) by decide) ?_
    by_cases c_8 : (M (i0 + 1) (((2 : Int32) * (M (i0 + 4) ((((3 : Int32) * a1) + (1 : Int32))).toNatClampNeg))).toNatClampNeg) = (1 : Int32)
    · replace h := (if_pos c_8).symm.trans h
      refine fx_icne_s rfl c_8 ?_
      refine fx_aload rfl rfl ?_
      refine fx_getV rfl h0.1 rfl rfl ?_
      refine fx_const rfl (show Int32.ofInt 44 = (44 : Int32) by decide) ?_
      refine fx_iaload rfl (fun z => absurd z.1 (by decide)) h0.2.2.2.2.2.2.2.2.2.2.2.2.2.2.2.2.2.2 (by decide) ?_
      refine fx_const rfl (show Int32.ofInt 2 = (2 : Int32) by decide) ?_
      refine fx_irem rfl (by decide) ?_
      refine fx_goto rfl rfl ?_
      refine fx_istore rfl rfl ?_
      refine fx_aload rfl rfl ?_
      refine fx_getV rfl h0.1 rfl rfl ?_
      refine fx_const rfl (show Int32.ofInt 6 = (6 : Int32) by decide) ?_
      refine fx_iload rfl rfl ?_
      refine fx_imul rfl ?_
      refine fx_iload rfl rfl ?_
      refine fx_iadd rfl ?_
      refine fx_iload rfl rfl ?_
      refine fx_iload rfl rfl ?_
      refine fx_isub rfl ?_
      refine fx_iastore rfl h0.2.2.2.2.2.2.2.2.2.2.2.2.2.2.2.2.2.2 c_3 ?_
      refine fx_const rfl (show Int32.ofInt 1 = (1 : Int32) by decide) ?_
      obtain rfl := Option.some.inj h
      exact fx_ret rfl rfl
    · replace h := (if_neg c_8).symm.trans h
      refine fx_icne_j rfl rfl c_8 ?_
      refine fx_iload rfl rfl ?_
      refine fx_const rfl (show Int32.ofInt 3 = (3 : Int32) by decide) ?_
      by_cases c_9 : (M (i0 + 1) (((2 : Int32) * (M (i0 + 4) ((((3 : Int32) * a1) + (1 : Int32))).toNatClampNeg))).toNatClampNeg) = (3 : Int32)
      · replace h := (if_pos c_9).symm.trans h
        refine fx_icne_s rfl c_9 ?_
        refine fx_iload rfl rfl ?_
        refine fx_const rfl (show Int32.ofInt 1 = (1 : Int32) by decide) ?_
        by_cases c_10 : (M (i0 + 18) ((((6 : Int32) * (M (i0 + 4) (((3 : Int32) * a1)).toNatClampNeg)) + (M (i0 + 4) ((((3 : Int32) * a1) + (1 : Int32))).toNatClampNeg))).toNatClampNeg) ≤ (1 : Int32)
        · replace h := (if_pos c_10).symm.trans h
          refine fx_icle_j rfl rfl c_10 ?_
          refine fx_const rfl (show Int32.ofInt 1 = (1 : Int32) by decide) ?_
          refine fx_istore rfl rfl ?_
          refine fx_aload rfl rfl ?_
          refine fx_getV rfl h0.1 rfl rfl ?_
          refine fx_const rfl (show Int32.ofInt 6 = (6 : Int32) by decide) ?_
          refine fx_iload rfl rfl ?_
          refine fx_imul rfl ?_
          refine fx_iload rfl rfl ?_
          refine fx_iadd rfl ?_
          refine fx_iload rfl rfl ?_
          refine fx_iload rfl rfl ?_
          refine fx_isub rfl ?_
          refine fx_iastore rfl h0.2.2.2.2.2.2.2.2.2.2.2.2.2.2.2.2.2.2 c_3 ?_
          refine fx_const rfl (show Int32.ofInt 1 = (1 : Int32) by decide) ?_
          obtain rfl := Option.some.inj h
          exact fx_ret rfl rfl
        · replace h := (if_neg c_10).symm.trans h
          refine fx_icle_s rfl c_10 ?_
          refine fx_const rfl (show Int32.ofInt 2 = (2 : Int32) by decide) ?_
          refine fx_goto rfl rfl ?_
          refine fx_istore rfl rfl ?_
          refine fx_aload rfl rfl ?_
          refine fx_getV rfl h0.1 rfl rfl ?_
          refine fx_const rfl (show Int32.ofInt 6 = (6 : Int32) by decide) ?_
          refine fx_iload rfl rfl ?_
          refine fx_imul rfl ?_
          refine fx_iload rfl rfl ?_
          refine fx_iadd rfl ?_
          refine fx_iload rfl rfl ?_
          refine fx_iload rfl rfl ?_
          refine fx_isub rfl ?_
          refine fx_iastore rfl h0.2.2.2.2.2.2.2.2.2.2.2.2.2.2.2.2.2.2 c_3 ?_
          refine fx_const rfl (show Int32.ofInt 1 = (1 : Int32) by decide) ?_
          obtain rfl := Option.some.inj h
          exact fx_ret rfl rfl
      · replace h := (if_neg c_9).symm.trans h
        refine fx_icne_j rfl rfl c_9 ?_
        refine fx_const rfl (show Int32.ofInt 1 = (1 : Int32) by decide) ?_
        refine fx_istore rfl rfl ?_
        refine fx_aload rfl rfl ?_
        refine fx_getV rfl h0.1 rfl rfl ?_
        refine fx_const rfl (show Int32.ofInt 6 = (6 : Int32) by decide) ?_
        refine fx_iload rfl rfl ?_
        refine fx_imul rfl ?_
        refine fx_iload rfl rfl ?_
        refine fx_iadd rfl ?_
        refine fx_iload rfl rfl ?_
        refine fx_iload rfl rfl ?_
        refine fx_isub rfl ?_
        refine fx_iastore rfl h0.2.2.2.2.2.2.2.2.2.2.2.2.2.2.2.2.2.2 c_3 ?_
        refine fx_const rfl (show Int32.ofInt 1 = (1 : Int32) by decide) ?_
        obtain rfl := Option.some.inj h
        exact fx_ret rfl rfl

def g_M_goes_184 (i0 : Nat) (a1 : Int32) (a2 : Int32) (a3 : Int32) : Nat → fv_M → Int32 → (fv_M → Int32 → Option (Int32 × fv_M)) → Option (Int32 × fv_M)
  | 0, _, _, _ => none
  | n + 1, M, a4, kk => if (M i0 0) ≤ a4 then (kk M a4) else (fx_ck ((((6 : Int32) * a2) + a4) < 0 ∨ 45 ≤ ((((6 : Int32) * a2) + a4)).toNatClampNeg) (if (M (i0 + 18) ((((6 : Int32) * a2) + a4)).toNatClampNeg) < (40 : Int32) then (g_M_goes_184 i0 a1 a2 a3 n (fv_set M (i0 + 18) ((((6 : Int32) * a2) + a4)).toNatClampNeg (M (i0 + 18) ((((6 : Int32) * a2) + a4)).toNatClampNeg)) (a4 + (1 : Int32)) kk) else (g_M_goes_184 i0 a1 a2 a3 n (fv_set M (i0 + 18) ((((6 : Int32) * a2) + a4)).toNatClampNeg ((M (i0 + 18) ((((6 : Int32) * a2) + a4)).toNatClampNeg) - ((M (i0 + 18) ((((6 : Int32) * a2) + a4)).toNatClampNeg) / (10 : Int32)))) (a4 + (1 : Int32)) kk)))
theorem v_M_goes_184 {X : fv_X} {sh : fv_Sh} {k : Nat × Nat} {i0 : Nat} {a1 : Int32} {a2 : Int32} {a3 : Int32} {r : Int32 × fv_M} {kk : fv_M → Int32 → Option (Int32 × fv_M)} (h0 : fx_atM sh i0) (K : ∀ (M : fv_M) (a4 : Int32), kk M a4 = some r → fv_Rn X 142 245 [some (.ref i0), some (.int a1), some (.int a2), some (.int a3), some (.int a4)] [] k sh M (some (.int r.1), sh, r.2)) : ∀ (n : Nat) (M : fv_M) (a4 : Int32), g_M_goes_184 i0 a1 a2 a3 n M a4 kk = some r → fv_Rn X 142 184 [some (.ref i0), some (.int a1), some (.int a2), some (.int a3), some (.int a4)] [] k sh M (some (.int r.1), sh, r.2) := by
  intro n
  induction n with
  | zero =>
    intro M a4 h
    replace h : (none : Option (Int32 × fv_M)) = some r := h
    cases h
  | succ n ih =>
    intro M a4 h
    rw [g_M_goes_184] at h
    refine fx_iload rfl rfl ?_
    refine fx_aload rfl rfl ?_
    refine fx_getI rfl h0.1 rfl rfl ?_
    by_cases c_10 : (M i0 0) ≤ a4
    · replace h := (if_pos c_10).symm.trans h
      refine fx_icge_j rfl rfl c_10 ?_
      exact K _ _ h
    · replace h := (if_neg c_10).symm.trans h
      refine fx_icge_s rfl c_10 ?_
      refine fx_aload rfl rfl ?_
      refine fx_getV rfl h0.1 rfl rfl ?_
      refine fx_const rfl (show Int32.ofInt 6 = (6 : Int32) by decide) ?_
      refine fx_iload rfl rfl ?_
      refine fx_imul rfl ?_
      refine fx_iload rfl rfl ?_
      refine fx_iadd rfl ?_
      obtain ⟨c_11, h⟩ := fx_ck_some h
      refine fx_iaload rfl (fun z => absurd z.1 (by decide)) h0.2.2.2.2.2.2.2.2.2.2.2.2.2.2.2.2.2.2 c_11 ?_
      refine fx_istore rfl rfl ?_
      refine fx_aload rfl rfl ?_
      refine fx_getV rfl h0.1 rfl rfl ?_
      refine fx_const rfl (show Int32.ofInt 6 = (6 : Int32) by decide) ?_
      refine fx_iload rfl rfl ?_
      refine fx_imul rfl ?_
      refine fx_iload rfl rfl ?_
      refine fx_iadd rfl ?_
      refine fx_iload rfl rfl ?_
      refine fx_const rfl (show Int32.ofInt 40 = (40 : Int32) by decide) ?_
      by_cases c_12 : (M (i0 + 18) ((((6 : Int32) * a2) + a4)).toNatClampNeg) < (40 : Int32)
      · replace h := (if_pos c_12).symm.trans h
        refine fx_iclt_j rfl rfl c_12 ?_
        refine fx_iload rfl rfl ?_
        refine fx_iastore rfl h0.2.2.2.2.2.2.2.2.2.2.2.2.2.2.2.2.2.2 c_11 ?_
        refine fx_iinc rfl (show Int32.ofInt 1 = (1 : Int32) by decide) rfl rfl ?_
        refine fx_back rfl rfl rfl ?_
        exact ih _ _ h
      · replace h := (if_neg c_12).symm.trans h
        refine fx_iclt_s rfl c_12 ?_
        refine fx_iload rfl rfl ?_
        refine fx_iload rfl rfl ?_
        refine fx_const rfl (show Int32.ofInt 10 = (10 : Int32) by decide) ?_
        refine fx_idiv rfl (by decide) ?_
        refine fx_isub rfl ?_
        refine fx_goto rfl rfl ?_
        refine fx_iastore rfl h0.2.2.2.2.2.2.2.2.2.2.2.2.2.2.2.2.2.2 c_11 ?_
        refine fx_iinc rfl (show Int32.ofInt 1 = (1 : Int32) by decide) rfl rfl ?_
        refine fx_back rfl rfl rfl ?_
        exact ih _ _ h
def g_M_goes_82 (i0 : Nat) (a1 : Int32) : Nat → fv_M → Int32 → (fv_M → Int32 → Option (Int32 × fv_M)) → Option (Int32 × fv_M)
  | 0, _, _, _ => none
  | n + 1, M, a2, kk => if (M i0 4) ≤ a2 then (kk M a2) else (fx_ck (((24 : Int32) + a2) < 0 ∨ 45 ≤ (((24 : Int32) + a2)).toNatClampNeg) (if (M (i0 + 18) (((24 : Int32) + a2)).toNatClampNeg) < 0 then (g_M_goes_184 i0 a1 a2 (M (i0 + 18) (((24 : Int32) + a2)).toNatClampNeg) fx_FU M (0 : Int32) (fun M_3 b4_3 => g_M_goes_82 i0 a1 n M_3 (a2 + (1 : Int32)) kk)) else (fx_ck ((((6 : Int32) * a2) + (M (i0 + 18) (((24 : Int32) + a2)).toNatClampNeg)) < 0 ∨ 45 ≤ ((((6 : Int32) * a2) + (M (i0 + 18) (((24 : Int32) + a2)).toNatClampNeg))).toNatClampNeg) (fx_ck ((((2 : Int32) * (M (i0 + 18) (((24 : Int32) + a2)).toNatClampNeg)) + (1 : Int32)) < 0 ∨ 12 ≤ ((((2 : Int32) * (M (i0 + 18) (((24 : Int32) + a2)).toNatClampNeg)) + (1 : Int32))).toNatClampNeg) (fx_ck (((2 : Int32) * (M (i0 + 18) (((24 : Int32) + a2)).toNatClampNeg)) < 0 ∨ 12 ≤ (((2 : Int32) * (M (i0 + 18) (((24 : Int32) + a2)).toNatClampNeg))).toNatClampNeg) (if (M (i0 + 1) (((2 : Int32) * (M (i0 + 18) (((24 : Int32) + a2)).toNatClampNeg))).toNatClampNeg) = (2 : Int32) then (if ((M (i0 + 18) ((((6 : Int32) * a2) + (M (i0 + 18) (((24 : Int32) + a2)).toNatClampNeg))).toNatClampNeg) + ((M (i0 + 1) ((((2 : Int32) * (M (i0 + 18) (((24 : Int32) + a2)).toNatClampNeg)) + (1 : Int32))).toNatClampNeg) * (2 : Int32))) ≤ (60 : Int32) then (g_M_goes_184 i0 a1 a2 (M (i0 + 18) (((24 : Int32) + a2)).toNatClampNeg) fx_FU (fv_set (fv_set M (i0 + 18) ((((6 : Int32) * a2) + (M (i0 + 18) (((24 : Int32) + a2)).toNatClampNeg))).toNatClampNeg ((M (i0 + 18) ((((6 : Int32) * a2) + (M (i0 + 18) (((24 : Int32) + a2)).toNatClampNeg))).toNatClampNeg) + ((M (i0 + 1) ((((2 : Int32) * (M (i0 + 18) (((24 : Int32) + a2)).toNatClampNeg)) + (1 : Int32))).toNatClampNeg) * (2 : Int32)))) (i0 + 18) (((24 : Int32) + a2)).toNatClampNeg (-1 : Int32)) (0 : Int32) (fun M_4 b4_4 => g_M_goes_82 i0 a1 n M_4 (a2 + (1 : Int32)) kk)) else (g_M_goes_184 i0 a1 a2 (M (i0 + 18) (((24 : Int32) + a2)).toNatClampNeg) fx_FU (fv_set (fv_set M (i0 + 18) ((((6 : Int32) * a2) + (M (i0 + 18) (((24 : Int32) + a2)).toNatClampNeg))).toNatClampNeg (60 : Int32)) (i0 + 18) (((24 : Int32) + a2)).toNatClampNeg (-1 : Int32)) (0 : Int32) (fun M_5 b4_5 => g_M_goes_82 i0 a1 n M_5 (a2 + (1 : Int32)) kk))) else (if ((M (i0 + 18) ((((6 : Int32) * a2) + (M (i0 + 18) (((24 : Int32) + a2)).toNatClampNeg))).toNatClampNeg) + ((M (i0 + 1) ((((2 : Int32) * (M (i0 + 18) (((24 : Int32) + a2)).toNatClampNeg)) + (1 : Int32))).toNatClampNeg) * (1 : Int32))) ≤ (60 : Int32) then (g_M_goes_184 i0 a1 a2 (M (i0 + 18) (((24 : Int32) + a2)).toNatClampNeg) fx_FU (fv_set (fv_set M (i0 + 18) ((((6 : Int32) * a2) + (M (i0 + 18) (((24 : Int32) + a2)).toNatClampNeg))).toNatClampNeg ((M (i0 + 18) ((((6 : Int32) * a2) + (M (i0 + 18) (((24 : Int32) + a2)).toNatClampNeg))).toNatClampNeg) + ((M (i0 + 1) ((((2 : Int32) * (M (i0 + 18) (((24 : Int32) + a2)).toNatClampNeg)) + (1 : Int32))).toNatClampNeg) * (1 : Int32)))) (i0 + 18) (((24 : Int32) + a2)).toNatClampNeg (-1 : Int32)) (0 : Int32) (fun M_6 b4_6 => g_M_goes_82 i0 a1 n M_6 (a2 + (1 : Int32)) kk)) else (g_M_goes_184 i0 a1 a2 (M (i0 + 18) (((24 : Int32) + a2)).toNatClampNeg) fx_FU (fv_set (fv_set M (i0 + 18) ((((6 : Int32) * a2) + (M (i0 + 18) (((24 : Int32) + a2)).toNatClampNeg))).toNatClampNeg (60 : Int32)) (i0 + 18) (((24 : Int32) + a2)).toNatClampNeg (-1 : Int32)) (0 : Int32) (fun M_7 b4_7 => g_M_goes_82 i0 a1 n M_7 (a2 + (1 : Int32)) kk)))))))))
theorem v_M_goes_82 {X : fv_X} {sh : fv_Sh} {k : Nat × Nat} {i0 : Nat} {a1 : Int32} {r : Int32 × fv_M} {kk : fv_M → Int32 → Option (Int32 × fv_M)} (h0 : fx_atM sh i0) (K : ∀ (M : fv_M) (a2 : Int32), kk M a2 = some r → fv_Rn X 142 251 [some (.ref i0), some (.int a1), some (.int a2)] [] k sh M (some (.int r.1), sh, r.2)) : ∀ (n : Nat) (M : fv_M) (a2 : Int32), g_M_goes_82 i0 a1 n M a2 kk = some r → fv_Rn X 142 82 [some (.ref i0), some (.int a1), some (.int a2)] [] k sh M (some (.int r.1), sh, r.2) := by
  intro n
  induction n with
  | zero =>
    intro M a2 h
    replace h : (none : Option (Int32 × fv_M)) = some r := h
    cases h
  | succ n ih =>
    intro M a2 h
    rw [g_M_goes_82] at h
    refine fx_iload rfl rfl ?_
    refine fx_aload rfl rfl ?_
    refine fx_getI rfl h0.1 rfl rfl ?_
    by_cases c_7 : (M i0 4) ≤ a2
    · replace h := (if_pos c_7).symm.trans h
      refine fx_icge_j rfl rfl c_7 ?_
      exact K _ _ h
    · replace h := (if_neg c_7).symm.trans h
      refine fx_icge_s rfl c_7 ?_
      refine fx_aload rfl rfl ?_
      refine fx_getV rfl h0.1 rfl rfl ?_
      refine fx_const rfl (show Int32.ofInt 24 = (24 : Int32) by decide) ?_
      refine fx_iload rfl rfl ?_
      refine fx_iadd rfl ?_
      obtain ⟨c_8, h⟩ := fx_ck_some h
      refine fx_iaload rfl (fun z => absurd z.1 (by decide)) h0.2.2.2.2.2.2.2.2.2.2.2.2.2.2.2.2.2.2 c_8 ?_
      refine fx_istore rfl rfl ?_
      refine fx_iload rfl rfl ?_
      by_cases c_9 : (M (i0 + 18) (((24 : Int32) + a2)).toNatClampNeg) < 0
      · replace h := (if_pos c_9).symm.trans h
        refine fx_iflt_j rfl rfl c_9 ?_
        refine fx_const rfl (show Int32.ofInt 0 = (0 : Int32) by decide) ?_
        refine fx_istore rfl rfl ?_
        refine v_M_goes_184 h0 (fun M_3 b4_3 h => ?_) fx_FU _ _ h
        refine fx_iinc rfl (show Int32.ofInt 1 = (1 : Int32) by decide) rfl rfl ?_
        refine fx_back rfl rfl rfl ?_
        exact ih _ _ h
      · replace h := (if_neg c_9).symm.trans h
        refine fx_iflt_s rfl c_9 ?_
        refine fx_aload rfl rfl ?_
        refine fx_getV rfl h0.1 rfl rfl ?_
        refine fx_const rfl (show Int32.ofInt 6 = (6 : Int32) by decide) ?_
        refine fx_iload rfl rfl ?_
        refine fx_imul rfl ?_
        refine fx_iload rfl rfl ?_
        refine fx_iadd rfl ?_
        obtain ⟨c_13, h⟩ := fx_ck_some h
        refine fx_iaload rfl (fun z => absurd z.1 (by decide)) h0.2.2.2.2.2.2.2.2.2.2.2.2.2.2.2.2.2.2 c_13 ?_
        refine fx_aload rfl rfl ?_
        refine fx_getV rfl h0.1 rfl rfl ?_
        refine fx_const rfl (show Int32.ofInt 2 = (2 : Int32) by decide) ?_
        refine fx_iload rfl rfl ?_
        refine fx_imul rfl ?_
        refine fx_const rfl (show Int32.ofInt 1 = (1 : Int32) by decide) ?_
        refine fx_iadd rfl ?_
        obtain ⟨c_14, h⟩ := fx_ck_some h
        refine fx_iaload rfl (fun z => absurd z.1 (by decide)) h0.2.1 c_14 ?_
        refine fx_aload rfl rfl ?_
        refine fx_getV rfl h0.1 rfl rfl ?_
        refine fx_const rfl (show Int32.ofInt 2 = (2 : Int32) by decide) ?_
        refine fx_iload rfl rfl ?_
        refine fx_imul rfl ?_
        obtain ⟨c_15, h⟩ := fx_ck_some h
        refine fx_iaload rfl (fun z => absurd z.1 (by decide)) h0.2.1 c_15 ?_
        refine fx_const rfl (show Int32.ofInt 2 = (2 : Int32) by decide) ?_
        by_cases c_16 : (M (i0 + 1) (((2 : Int32) * (M (i0 + 18) (((24 : Int32) + a2)).toNatClampNeg))).toNatClampNeg) = (2 : Int32)
        · replace h := (if_pos c_16).symm.trans h
          refine fx_icne_s rfl c_16 ?_
          refine fx_const rfl (show Int32.ofInt 2 = (2 : Int32) by decide) ?_
          refine fx_goto rfl rfl ?_
          refine fx_imul rfl ?_
          refine fx_iadd rfl ?_
          refine fx_istore rfl rfl ?_
          refine fx_aload rfl rfl ?_
          refine fx_getV rfl h0.1 rfl rfl ?_
          refine fx_const rfl (show Int32.ofInt 6 = (6 : Int32) by decide) ?_
          refine fx_iload rfl rfl ?_
          refine fx_imul rfl ?_
          refine fx_iload rfl rfl ?_
          refine fx_iadd rfl ?_
          refine fx_iload rfl rfl ?_
          refine fx_const rfl (show Int32.ofInt 60 = (60 : Int32) by decide) ?_
          by_cases c_17 : ((M (i0 + 18) ((((6 : Int32) * a2) + (M (i0 + 18) (((24 : Int32) + a2)).toNatClampNeg))).toNatClampNeg) + ((M (i0 + 1) ((((2 : Int32) * (M (i0 + 18) (((24 : Int32) + a2)).toNatClampNeg)) + (1 : Int32))).toNatClampNeg) * (2 : Int32))) ≤ (60 : Int32)
          · replace h := (if_pos c_17).symm.trans h
            refine fx_icle_j rfl rfl c_17 ?_
            refine fx_iload rfl rfl ?_
            refine fx_iastore rfl h0.2.2.2.2.2.2.2.2.2.2.2.2.2.2.2.2.2.2 c_13 ?_
            refine fx_aload rfl rfl ?_
            refine fx_getV rfl h0.1 rfl rfl ?_
            refine fx_const rfl (show Int32.ofInt 24 = (24 : Int32) by decide) ?_
            refine fx_iload rfl rfl ?_
            refine fx_iadd rfl ?_
            refine fx_const rfl (show Int32.ofInt (-1) = (-1 : Int32) by decide) ?_
            refine fx_iastore rfl h0.2.2.2.2.2.2.2.2.2.2.2.2.2.2.2.2.2.2 c_8 ?_
            refine fx_const rfl (show Int32.ofInt 0 = (0 : Int32) by decide) ?_
            refine fx_istore rfl rfl ?_
            refine v_M_goes_184 h0 (fun M_4 b4_4 h => ?_) fx_FU _ _ h
            refine fx_iinc rfl (show Int32.ofInt 1 = (1 : Int32) by decide) rfl rfl ?_
            refine fx_back rfl rfl rfl ?_
            exact ih _ _ h
          · replace h := (if_neg c_17).symm.trans h
            refine fx_icle_s rfl c_17 ?_
            refine fx_const rfl (show Int32.ofInt 60 = (60 : Int32) by decide) ?_
            refine fx_goto rfl rfl ?_
            refine fx_iastore rfl h0.2.2.2.2.2.2.2.2.2.2.2.2.2.2.2.2.2.2 c_13 ?_
            refine fx_aload rfl rfl ?_
            refine fx_getV rfl h0.1 rfl rfl ?_
            refine fx_const rfl (show Int32.ofInt 24 = (24 : Int32) by decide) ?_
            refine fx_iload rfl rfl ?_
            refine fx_iadd rfl ?_
            refine fx_const rfl (show Int32.ofInt (-1) = (-1 : Int32) by decide) ?_
            refine fx_iastore rfl h0.2.2.2.2.2.2.2.2.2.2.2.2.2.2.2.2.2.2 c_8 ?_
            refine fx_const rfl (show Int32.ofInt 0 = (0 : Int32) by decide) ?_
            refine fx_istore rfl rfl ?_
            refine v_M_goes_184 h0 (fun M_5 b4_5 h => ?_) fx_FU _ _ h
            refine fx_iinc rfl (show Int32.ofInt 1 = (1 : Int32) by decide) rfl rfl ?_
            refine fx_back rfl rfl rfl ?_
            exact ih _ _ h
        · replace h := (if_neg c_16).symm.trans h
          refine fx_icne_j rfl rfl c_16 ?_
          refine fx_const rfl (show Int32.ofInt 1 = (1 : Int32) by decide) ?_
          refine fx_imul rfl ?_
          refine fx_iadd rfl ?_
          refine fx_istore rfl rfl ?_
          refine fx_aload rfl rfl ?_
          refine fx_getV rfl h0.1 rfl rfl ?_
          refine fx_const rfl (show Int32.ofInt 6 = (6 : Int32) by decide) ?_
          refine fx_iload rfl rfl ?_
          refine fx_imul rfl ?_
          refine fx_iload rfl rfl ?_
          refine fx_iadd rfl ?_
          refine fx_iload rfl rfl ?_
          refine fx_const rfl (show Int32.ofInt 60 = (60 : Int32) by decide) ?_
          by_cases c_18 : ((M (i0 + 18) ((((6 : Int32) * a2) + (M (i0 + 18) (((24 : Int32) + a2)).toNatClampNeg))).toNatClampNeg) + ((M (i0 + 1) ((((2 : Int32) * (M (i0 + 18) (((24 : Int32) + a2)).toNatClampNeg)) + (1 : Int32))).toNatClampNeg) * (1 : Int32))) ≤ (60 : Int32)
          · replace h := (if_pos c_18).symm.trans h
            refine fx_icle_j rfl rfl c_18 ?_
            refine fx_iload rfl rfl ?_
            refine fx_iastore rfl h0.2.2.2.2.2.2.2.2.2.2.2.2.2.2.2.2.2.2 c_13 ?_
            refine fx_aload rfl rfl ?_
            refine fx_getV rfl h0.1 rfl rfl ?_
            refine fx_const rfl (show Int32.ofInt 24 = (24 : Int32) by decide) ?_
            refine fx_iload rfl rfl ?_
            refine fx_iadd rfl ?_
            refine fx_const rfl (show Int32.ofInt (-1) = (-1 : Int32) by decide) ?_
            refine fx_iastore rfl h0.2.2.2.2.2.2.2.2.2.2.2.2.2.2.2.2.2.2 c_8 ?_
            refine fx_const rfl (show Int32.ofInt 0 = (0 : Int32) by decide) ?_
            refine fx_istore rfl rfl ?_
            refine v_M_goes_184 h0 (fun M_6 b4_6 h => ?_) fx_FU _ _ h
            refine fx_iinc rfl (show Int32.ofInt 1 = (1 : Int32) by decide) rfl rfl ?_
            refine fx_back rfl rfl rfl ?_
            exact ih _ _ h
          · replace h := (if_neg c_18).symm.trans h
            refine fx_icle_s rfl c_18 ?_
            refine fx_const rfl (show Int32.ofInt 60 = (60 : Int32) by decide) ?_
            refine fx_goto rfl rfl ?_
            refine fx_iastore rfl h0.2.2.2.2.2.2.2.2.2.2.2.2.2.2.2.2.2.2 c_13 ?_
            refine fx_aload rfl rfl ?_
            refine fx_getV rfl h0.1 rfl rfl ?_
            refine fx_const rfl (show Int32.ofInt 24 = (24 : Int32) by decide) ?_
            refine fx_iload rfl rfl ?_
            refine fx_iadd rfl ?_
            refine fx_const rfl (show Int32.ofInt (-1) = (-1 : Int32) by decide) ?_
            refine fx_iastore rfl h0.2.2.2.2.2.2.2.2.2.2.2.2.2.2.2.2.2.2 c_8 ?_
            refine fx_const rfl (show Int32.ofInt 0 = (0 : Int32) by decide) ?_
            refine fx_istore rfl rfl ?_
            refine v_M_goes_184 h0 (fun M_7 b4_7 h => ?_) fx_FU _ _ h
            refine fx_iinc rfl (show Int32.ofInt 1 = (1 : Int32) by decide) rfl rfl ?_
            refine fx_back rfl rfl rfl ?_
            exact ih _ _ h
def g_M_goes_4 (i0 : Nat) : Nat → fv_M → Int32 → Int32 → (fv_M → Int32 → Int32 → Option (Int32 × fv_M)) → Option (Int32 × fv_M)
  | 0, _, _, _, _ => none
  | n + 1, M, a1, a2, kk => if (M i0 6) ≤ a2 then (kk M a1 a2) else ((g_M_isSaid M i0 a2).bind fun q1 => if q1.1 = 0 then (fx_ck (((28 : Int32) + a2) < 0 ∨ 45 ≤ (((28 : Int32) + a2)).toNatClampNeg) (fx_ck (((36 : Int32) + a2) < 0 ∨ 45 ≤ (((36 : Int32) + a2)).toNatClampNeg) (g_M_goes_4 i0 n (fv_set (fv_set q1.2 (i0 + 18) (((28 : Int32) + a2)).toNatClampNeg ((q1.2 (i0 + 18) (((28 : Int32) + a2)).toNatClampNeg) + (0 : Int32))) (i0 + 18) (((36 : Int32) + a2)).toNatClampNeg (((fv_set q1.2 (i0 + 18) (((28 : Int32) + a2)).toNatClampNeg ((q1.2 (i0 + 18) (((28 : Int32) + a2)).toNatClampNeg) + (0 : Int32))) (i0 + 18) (((36 : Int32) + a2)).toNatClampNeg) + (1 : Int32))) (a1 ||| (0 : Int32)) (a2 + (1 : Int32)) kk))) else (fx_ck (((28 : Int32) + a2) < 0 ∨ 45 ≤ (((28 : Int32) + a2)).toNatClampNeg) (fx_ck (((36 : Int32) + a2) < 0 ∨ 45 ≤ (((36 : Int32) + a2)).toNatClampNeg) (g_M_goes_4 i0 n (fv_set (fv_set q1.2 (i0 + 18) (((28 : Int32) + a2)).toNatClampNeg ((q1.2 (i0 + 18) (((28 : Int32) + a2)).toNatClampNeg) + (1 : Int32))) (i0 + 18) (((36 : Int32) + a2)).toNatClampNeg (((fv_set q1.2 (i0 + 18) (((28 : Int32) + a2)).toNatClampNeg ((q1.2 (i0 + 18) (((28 : Int32) + a2)).toNatClampNeg) + (1 : Int32))) (i0 + 18) (((36 : Int32) + a2)).toNatClampNeg) + (0 : Int32))) (a1 ||| ((1 : Int32) <<< (a2 &&& 31))) (a2 + (1 : Int32)) kk))))
theorem v_M_goes_4 {X : fv_X} {sh : fv_Sh} {k : Nat × Nat} {i0 : Nat} {r : Int32 × fv_M} {kk : fv_M → Int32 → Int32 → Option (Int32 × fv_M)} (h0 : fx_atM sh i0) (K : ∀ (M : fv_M) (a1 a2 : Int32), kk M a1 a2 = some r → fv_Rn X 142 80 [some (.ref i0), some (.int a1), some (.int a2)] [] k sh M (some (.int r.1), sh, r.2)) : ∀ (n : Nat) (M : fv_M) (a1 a2 : Int32), g_M_goes_4 i0 n M a1 a2 kk = some r → fv_Rn X 142 4 [some (.ref i0), some (.int a1), some (.int a2)] [] k sh M (some (.int r.1), sh, r.2) := by
  intro n
  induction n with
  | zero =>
    intro M a1 a2 h
    replace h : (none : Option (Int32 × fv_M)) = some r := h
    cases h
  | succ n ih =>
    intro M a1 a2 h
    rw [g_M_goes_4] at h
    refine fx_iload rfl rfl ?_
    refine fx_aload rfl rfl ?_
    refine fx_getI rfl h0.1 rfl rfl ?_
    by_cases c_1 : (M i0 6) ≤ a2
    · replace h := (if_pos c_1).symm.trans h
      refine fx_icge_j rfl rfl c_1 ?_
      exact K _ _ _ h
    · replace h := (if_neg c_1).symm.trans h
      refine fx_icge_s rfl c_1 ?_
      refine fx_aload rfl rfl ?_
      refine fx_iload rfl rfl ?_
      obtain ⟨q1, e_q1, h⟩ := fx_bd h
      refine fx_call [.ref i0, .int a2] [] rfl (by decide) rfl rfl rfl rfl rfl (Nat.le_of_ble_eq_true rfl) (fx_rcv h0.1 rfl) (v_M_isSaid h0 e_q1) ?_
      refine fx_istore rfl rfl ?_
      refine fx_iload rfl rfl ?_
      refine fx_iload rfl rfl ?_
      by_cases c_2 : q1.1 = 0
      · replace h := (if_pos c_2).symm.trans h
        refine fx_ifeq_j rfl rfl c_2 ?_
        refine fx_const rfl (show Int32.ofInt 0 = (0 : Int32) by decide) ?_
        refine fx_ior rfl ?_
        refine fx_istore rfl rfl ?_
        refine fx_aload rfl rfl ?_
        refine fx_getV rfl h0.1 rfl rfl ?_
        refine fx_const rfl (show Int32.ofInt 28 = (28 : Int32) by decide) ?_
        refine fx_iload rfl rfl ?_
        refine fx_iadd rfl ?_
        refine fx_dup2 rfl ⟨rfl, rfl⟩ ?_
        obtain ⟨c_3, h⟩ := fx_ck_some h
        refine fx_iaload rfl (fun z => absurd z.1 (by decide)) h0.2.2.2.2.2.2.2.2.2.2.2.2.2.2.2.2.2.2 c_3 ?_
        refine fx_iload rfl rfl ?_
        refine fx_ifeq_j rfl rfl c_2 ?_
        refine fx_const rfl (show Int32.ofInt 0 = (0 : Int32) by decide) ?_
        refine fx_iadd rfl ?_
        refine fx_iastore rfl h0.2.2.2.2.2.2.2.2.2.2.2.2.2.2.2.2.2.2 c_3 ?_
        refine fx_aload rfl rfl ?_
        refine fx_getV rfl h0.1 rfl rfl ?_
        refine fx_const rfl (show Int32.ofInt 36 = (36 : Int32) by decide) ?_
        refine fx_iload rfl rfl ?_
        refine fx_iadd rfl ?_
        refine fx_dup2 rfl ⟨rfl, rfl⟩ ?_
        obtain ⟨c_4, h⟩ := fx_ck_some h
        refine fx_iaload rfl (fun z => absurd z.1 (by decide)) h0.2.2.2.2.2.2.2.2.2.2.2.2.2.2.2.2.2.2 c_4 ?_
        refine fx_iload rfl rfl ?_
        refine fx_ifeq_j rfl rfl c_2 ?_
        refine fx_const rfl (show Int32.ofInt 1 = (1 : Int32) by decide) ?_
        refine fx_iadd rfl ?_
        refine fx_iastore rfl h0.2.2.2.2.2.2.2.2.2.2.2.2.2.2.2.2.2.2 c_4 ?_
        refine fx_iinc rfl (show Int32.ofInt 1 = (1 : Int32) by decide) rfl rfl ?_
        refine fx_back rfl rfl rfl ?_
        exact ih _ _ _ h
      · replace h := (if_neg c_2).symm.trans h
        refine fx_ifeq_s rfl c_2 ?_
        refine fx_const rfl (show Int32.ofInt 1 = (1 : Int32) by decide) ?_
        refine fx_iload rfl rfl ?_
        refine fx_ishl rfl ?_
        refine fx_goto rfl rfl ?_
        refine fx_ior rfl ?_
        refine fx_istore rfl rfl ?_
        refine fx_aload rfl rfl ?_
        refine fx_getV rfl h0.1 rfl rfl ?_
        refine fx_const rfl (show Int32.ofInt 28 = (28 : Int32) by decide) ?_
        refine fx_iload rfl rfl ?_
        refine fx_iadd rfl ?_
        refine fx_dup2 rfl ⟨rfl, rfl⟩ ?_
        obtain ⟨c_5, h⟩ := fx_ck_some h
        refine fx_iaload rfl (fun z => absurd z.1 (by decide)) h0.2.2.2.2.2.2.2.2.2.2.2.2.2.2.2.2.2.2 c_5 ?_
        refine fx_iload rfl rfl ?_
        refine fx_ifeq_s rfl c_2 ?_
        refine fx_const rfl (show Int32.ofInt 1 = (1 : Int32) by decide) ?_
        refine fx_goto rfl rfl ?_
        refine fx_iadd rfl ?_
        refine fx_iastore rfl h0.2.2.2.2.2.2.2.2.2.2.2.2.2.2.2.2.2.2 c_5 ?_
        refine fx_aload rfl rfl ?_
        refine fx_getV rfl h0.1 rfl rfl ?_
        refine fx_const rfl (show Int32.ofInt 36 = (36 : Int32) by decide) ?_
        refine fx_iload rfl rfl ?_
        refine fx_iadd rfl ?_
        refine fx_dup2 rfl ⟨rfl, rfl⟩ ?_
        obtain ⟨c_6, h⟩ := fx_ck_some h
        refine fx_iaload rfl (fun z => absurd z.1 (by decide)) h0.2.2.2.2.2.2.2.2.2.2.2.2.2.2.2.2.2.2 c_6 ?_
        refine fx_iload rfl rfl ?_
        refine fx_ifeq_s rfl c_2 ?_
        refine fx_const rfl (show Int32.ofInt 0 = (0 : Int32) by decide) ?_
        refine fx_goto rfl rfl ?_
        refine fx_iadd rfl ?_
        refine fx_iastore rfl h0.2.2.2.2.2.2.2.2.2.2.2.2.2.2.2.2.2.2 c_6 ?_
        refine fx_iinc rfl (show Int32.ofInt 1 = (1 : Int32) by decide) rfl rfl ?_
        refine fx_back rfl rfl rfl ?_
        exact ih _ _ _ h
def g_M_goes (M : fv_M) (i0 : Nat) : Option (Int32 × fv_M) := g_M_goes_4 i0 fx_FU M (0 : Int32) (0 : Int32) (fun M_2 b1_2 b2_2 => g_M_goes_82 i0 b1_2 fx_FU M_2 (0 : Int32) (fun M_8 b2_8 => some (b1_2, (fv_set M_8 (i0 + 18) ((44 : Int32)).toNatClampNeg ((M_8 (i0 + 18) ((44 : Int32)).toNatClampNeg) + (1 : Int32))))))
theorem v_M_goes {X : fv_X} {sh : fv_Sh} {k : Nat × Nat} {M : fv_M} {i0 : Nat} {r : Int32 × fv_M} (h0 : fx_atM sh i0) (h : g_M_goes M i0 = some r) : fv_Rn X 142 0 [some (.ref i0)] [] k sh M (some (.int r.1), sh, r.2) := by
  unfold g_M_goes at h
  refine fx_const rfl (show Int32.ofInt 0 = (0 : Int32) by decide) ?_
  refine fx_istore rfl rfl ?_
  refine fx_const rfl (show Int32.ofInt 0 = (0 : Int32) by decide) ?_
  refine fx_istore rfl rfl ?_
  refine v_M_goes_4 h0 (fun M_2 b1_2 b2_2 h => ?_) fx_FU _ _ _ h
  refine fx_const rfl (show Int32.ofInt 0 = (0 : Int32) by decide) ?_
  refine fx_istore rfl rfl ?_
  refine v_M_goes_82 h0 (fun M_8 b2_8 h => ?_) fx_FU _ _ h
  refine fx_aload rfl rfl ?_
  refine fx_getV rfl h0.1 rfl rfl ?_
  refine fx_const rfl (show Int32.ofInt 44 = (44 : Int32) by decide) ?_
  refine fx_dup2 rfl ⟨rfl, rfl⟩ ?_
  refine fx_iaload rfl (fun z => absurd z.1 (by decide)) h0.2.2.2.2.2.2.2.2.2.2.2.2.2.2.2.2.2.2 (by decide) ?_
  refine fx_const rfl (show Int32.ofInt 1 = (1 : Int32) by decide) ?_
  refine fx_iadd rfl ?_
  refine fx_iastore rfl h0.2.2.2.2.2.2.2.2.2.2.2.2.2.2.2.2.2.2 (by decide) ?_
  refine fx_iload rfl rfl ?_
  obtain rfl := Option.some.inj h
  exact fx_ret rfl rfl

def g_M_goesOn_2 (i0 : Nat) (a1 : Int32) : Nat → fv_M → Int32 → (fv_M → Int32 → Option (fv_M)) → Option (fv_M)
  | 0, _, _, _ => none
  | n + 1, M, a2, kk => if a1 ≤ a2 then (kk M a2) else ((g_M_goes M i0).bind fun q1 => g_M_goesOn_2 i0 a1 n q1.2 (a2 + (1 : Int32)) kk)
theorem v_M_goesOn_2 {X : fv_X} {sh : fv_Sh} {k : Nat × Nat} {i0 : Nat} {a1 : Int32} {r : fv_M} {kk : fv_M → Int32 → Option (fv_M)} (h0 : fx_atM sh i0) (K : ∀ (M : fv_M) (a2 : Int32), kk M a2 = some r → fv_Rn X 143 18 [some (.ref i0), some (.int a1), some (.int a2)] [] k sh M (none, sh, r)) : ∀ (n : Nat) (M : fv_M) (a2 : Int32), g_M_goesOn_2 i0 a1 n M a2 kk = some r → fv_Rn X 143 2 [some (.ref i0), some (.int a1), some (.int a2)] [] k sh M (none, sh, r) := by
  intro n
  induction n with
  | zero =>
    intro M a2 h
    replace h : (none : Option (fv_M)) = some r := h
    cases h
  | succ n ih =>
    intro M a2 h
    rw [g_M_goesOn_2] at h
    refine fx_iload rfl rfl ?_
    refine fx_iload rfl rfl ?_
    by_cases c_1 : a1 ≤ a2
    · replace h := (if_pos c_1).symm.trans h
      refine fx_icge_j rfl rfl c_1 ?_
      exact K _ _ h
    · replace h := (if_neg c_1).symm.trans h
      refine fx_icge_s rfl c_1 ?_
      refine fx_aload rfl rfl ?_
      obtain ⟨q1, e_q1, h⟩ := fx_bd h
      refine fx_call [.ref i0] [] rfl (by decide) rfl rfl rfl rfl rfl (Nat.le_of_ble_eq_true rfl) (fx_rcv h0.1 rfl) (v_M_goes h0 e_q1) ?_
      refine fx_pop rfl rfl ?_
      refine fx_iinc rfl (show Int32.ofInt 1 = (1 : Int32) by decide) rfl rfl ?_
      refine fx_back rfl rfl rfl ?_
      exact ih _ _ h
def g_M_goesOn (M : fv_M) (i0 : Nat) (a1 : Int32) : Option (fv_M) := g_M_goesOn_2 i0 a1 fx_FU M (0 : Int32) (fun M_2 b2_2 => some M_2)
theorem v_M_goesOn {X : fv_X} {sh : fv_Sh} {k : Nat × Nat} {M : fv_M} {i0 : Nat} {a1 : Int32} {r : fv_M} (h0 : fx_atM sh i0) (h : g_M_goesOn M i0 a1 = some r) : fv_Rn X 143 0 [some (.ref i0), some (.int a1)] [] k sh M (none, sh, r) := by
  unfold g_M_goesOn at h
  refine fx_const rfl (show Int32.ofInt 0 = (0 : Int32) by decide) ?_
  refine fx_istore rfl rfl ?_
  refine v_M_goesOn_2 h0 (fun M_2 b2_2 h => ?_) fx_FU _ _ h
  obtain rfl := Option.some.inj h
  exact fx_vret rfl rfl

def g_M_worthOf_4 (M : fv_M) (i0 : Nat) (a1 : Int32) : Nat → Int32 → Int32 → (Int32 → Int32 → Option (Int32)) → Option (Int32)
  | 0, _, _, _ => none
  | n + 1, a2, a3, kk => if (M i0 6) ≤ a3 then (kk a2 a3) else (if a1 < 0 then (fx_ck ((((3 : Int32) * a3) + (2 : Int32)) < 0 ∨ 24 ≤ ((((3 : Int32) * a3) + (2 : Int32))).toNatClampNeg) (fx_ck (((28 : Int32) + a3) < 0 ∨ 45 ≤ (((28 : Int32) + a3)).toNatClampNeg) (g_M_worthOf_4 M i0 a1 n (a2 + ((M (i0 + 4) ((((3 : Int32) * a3) + (2 : Int32))).toNatClampNeg) * ((M (i0 + 18) (((28 : Int32) + a3)).toNatClampNeg) - (M (i0 + 6) (((28 : Int32) + a3)).toNatClampNeg)))) (a3 + (1 : Int32)) kk))) else (fx_ck (((3 : Int32) * a3) < 0 ∨ 24 ≤ (((3 : Int32) * a3)).toNatClampNeg) (if (M (i0 + 4) (((3 : Int32) * a3)).toNatClampNeg) = a1 then (fx_ck ((((3 : Int32) * a3) + (2 : Int32)) < 0 ∨ 24 ≤ ((((3 : Int32) * a3) + (2 : Int32))).toNatClampNeg) (fx_ck (((28 : Int32) + a3) < 0 ∨ 45 ≤ (((28 : Int32) + a3)).toNatClampNeg) (g_M_worthOf_4 M i0 a1 n (a2 + ((M (i0 + 4) ((((3 : Int32) * a3) + (2 : Int32))).toNatClampNeg) * ((M (i0 + 18) (((28 : Int32) + a3)).toNatClampNeg) - (M (i0 + 6) (((28 : Int32) + a3)).toNatClampNeg)))) (a3 + (1 : Int32)) kk))) else (g_M_worthOf_4 M i0 a1 n (a2 + (0 : Int32)) (a3 + (1 : Int32)) kk))))
theorem v_M_worthOf_4 {X : fv_X} {sh : fv_Sh} {k : Nat × Nat} {M : fv_M} {i0 : Nat} {a1 : Int32} {r : Int32} {kk : Int32 → Int32 → Option (Int32)} (h0 : fx_atM sh i0) (K : ∀ (a2 a3 : Int32), kk a2 a3 = some r → fv_Rn X 144 71 [some (.ref i0), some (.int a1), some (.int a2), some (.int a3)] [] k sh M (some (.int r), sh, M)) : ∀ (n : Nat) (a2 a3 : Int32), g_M_worthOf_4 M i0 a1 n a2 a3 kk = some r → fv_Rn X 144 4 [some (.ref i0), some (.int a1), some (.int a2), some (.int a3)] [] k sh M (some (.int r), sh, M) := by
  intro n
  induction n with
  | zero =>
    intro a2 a3 h
    replace h : (none : Option (Int32)) = some r := h
    cases h
  | succ n ih =>
    intro a2 a3 h
    rw [g_M_worthOf_4] at h
    refine fx_iload rfl rfl ?_
    refine fx_aload rfl rfl ?_
    refine fx_getI rfl h0.1 rfl rfl ?_
    by_cases c_1 : (M i0 6) ≤ a3
    · replace h := (if_pos c_1).symm.trans h
      refine fx_icge_j rfl rfl c_1 ?_
      exact K _ _ h
    · replace h := (if_neg c_1).symm.trans h
      refine fx_icge_s rfl c_1 ?_
      refine fx_iload rfl rfl ?_
      refine fx_iload rfl rfl ?_
      by_cases c_2 : a1 < 0
      · replace h := (if_pos c_2).symm.trans h
        refine fx_iflt_j rfl rfl c_2 ?_
        refine fx_aload rfl rfl ?_
        refine fx_getV rfl h0.1 rfl rfl ?_
        refine fx_const rfl (show Int32.ofInt 3 = (3 : Int32) by decide) ?_
        refine fx_iload rfl rfl ?_
        refine fx_imul rfl ?_
        refine fx_const rfl (show Int32.ofInt 2 = (2 : Int32) by decide) ?_
        refine fx_iadd rfl ?_
        obtain ⟨c_3, h⟩ := fx_ck_some h
        refine fx_iaload rfl (fun z => absurd z.1 (by decide)) h0.2.2.2.2.1 c_3 ?_
        refine fx_aload rfl rfl ?_
        refine fx_getV rfl h0.1 rfl rfl ?_
        refine fx_const rfl (show Int32.ofInt 28 = (28 : Int32) by decide) ?_
        refine fx_iload rfl rfl ?_
        refine fx_iadd rfl ?_
        obtain ⟨c_4, h⟩ := fx_ck_some h
        refine fx_iaload rfl (fun z => absurd z.1 (by decide)) h0.2.2.2.2.2.2.2.2.2.2.2.2.2.2.2.2.2.2 c_4 ?_
        refine fx_aload rfl rfl ?_
        refine fx_getV rfl h0.1 rfl rfl ?_
        refine fx_const rfl (show Int32.ofInt 28 = (28 : Int32) by decide) ?_
        refine fx_iload rfl rfl ?_
        refine fx_iadd rfl ?_
        refine fx_iaload rfl (fun z => absurd z.1 (by decide)) h0.2.2.2.2.2.2.1 c_4 ?_
        refine fx_isub rfl ?_
        refine fx_imul rfl ?_
        refine fx_goto rfl rfl ?_
        refine fx_iadd rfl ?_
        refine fx_istore rfl rfl ?_
        refine fx_iinc rfl (show Int32.ofInt 1 = (1 : Int32) by decide) rfl rfl ?_
        refine fx_back rfl rfl rfl ?_
        exact ih _ _ h
      · replace h := (if_neg c_2).symm.trans h
        refine fx_iflt_s rfl c_2 ?_
        refine fx_aload rfl rfl ?_
        refine fx_getV rfl h0.1 rfl rfl ?_
        refine fx_const rfl (show Int32.ofInt 3 = (3 : Int32) by decide) ?_
        refine fx_iload rfl rfl ?_
        refine fx_imul rfl ?_
        obtain ⟨c_5, h⟩ := fx_ck_some h
        refine fx_iaload rfl (fun z => absurd z.1 (by decide)) h0.2.2.2.2.1 c_5 ?_
        refine fx_iload rfl rfl ?_
        by_cases c_6 : (M (i0 + 4) (((3 : Int32) * a3)).toNatClampNeg) = a1
        · replace h := (if_pos c_6).symm.trans h
          refine fx_icne_s rfl c_6 ?_
          refine fx_aload rfl rfl ?_
          refine fx_getV rfl h0.1 rfl rfl ?_
          refine fx_const rfl (show Int32.ofInt 3 = (3 : Int32) by decide) ?_
          refine fx_iload rfl rfl ?_
          refine fx_imul rfl ?_
          refine fx_const rfl (show Int32.ofInt 2 = (2 : Int32) by decide) ?_
          refine fx_iadd rfl ?_
          obtain ⟨c_7, h⟩ := fx_ck_some h
          refine fx_iaload rfl (fun z => absurd z.1 (by decide)) h0.2.2.2.2.1 c_7 ?_
          refine fx_aload rfl rfl ?_
          refine fx_getV rfl h0.1 rfl rfl ?_
          refine fx_const rfl (show Int32.ofInt 28 = (28 : Int32) by decide) ?_
          refine fx_iload rfl rfl ?_
          refine fx_iadd rfl ?_
          obtain ⟨c_8, h⟩ := fx_ck_some h
          refine fx_iaload rfl (fun z => absurd z.1 (by decide)) h0.2.2.2.2.2.2.2.2.2.2.2.2.2.2.2.2.2.2 c_8 ?_
          refine fx_aload rfl rfl ?_
          refine fx_getV rfl h0.1 rfl rfl ?_
          refine fx_const rfl (show Int32.ofInt 28 = (28 : Int32) by decide) ?_
          refine fx_iload rfl rfl ?_
          refine fx_iadd rfl ?_
          refine fx_iaload rfl (fun z => absurd z.1 (by decide)) h0.2.2.2.2.2.2.1 c_8 ?_
          refine fx_isub rfl ?_
          refine fx_imul rfl ?_
          refine fx_goto rfl rfl ?_
          refine fx_iadd rfl ?_
          refine fx_istore rfl rfl ?_
          refine fx_iinc rfl (show Int32.ofInt 1 = (1 : Int32) by decide) rfl rfl ?_
          refine fx_back rfl rfl rfl ?_
          exact ih _ _ h
        · replace h := (if_neg c_6).symm.trans h
          refine fx_icne_j rfl rfl c_6 ?_
          refine fx_const rfl (show Int32.ofInt 0 = (0 : Int32) by decide) ?_
          refine fx_iadd rfl ?_
          refine fx_istore rfl rfl ?_
          refine fx_iinc rfl (show Int32.ofInt 1 = (1 : Int32) by decide) rfl rfl ?_
          refine fx_back rfl rfl rfl ?_
          exact ih _ _ h
def g_M_worthOf (M : fv_M) (i0 : Nat) (a1 : Int32) : Option (Int32) := g_M_worthOf_4 M i0 a1 fx_FU (0 : Int32) (0 : Int32) (fun b2_1 b3_1 => some b2_1)
theorem v_M_worthOf {X : fv_X} {sh : fv_Sh} {k : Nat × Nat} {M : fv_M} {i0 : Nat} {a1 : Int32} {r : Int32} (h0 : fx_atM sh i0) (h : g_M_worthOf M i0 a1 = some r) : fv_Rn X 144 0 [some (.ref i0), some (.int a1)] [] k sh M (some (.int r), sh, M) := by
  unfold g_M_worthOf at h
  refine fx_const rfl (show Int32.ofInt 0 = (0 : Int32) by decide) ?_
  refine fx_istore rfl rfl ?_
  refine fx_const rfl (show Int32.ofInt 0 = (0 : Int32) by decide) ?_
  refine fx_istore rfl rfl ?_
  refine v_M_worthOf_4 h0 (fun b2_1 b3_1 h => ?_) fx_FU _ _ h
  refine fx_iload rfl rfl ?_
  obtain rfl := Option.some.inj h
  exact fx_ret rfl rfl

def g_M_forgottenOf_4 (M : fv_M) (i0 : Nat) (a1 : Int32) : Nat → Int32 → Int32 → (Int32 → Int32 → Option (Int32)) → Option (Int32)
  | 0, _, _, _ => none
  | n + 1, a2, a3, kk => if (M i0 6) ≤ a3 then (kk a2 a3) else (if a1 < 0 then (fx_ck (((36 : Int32) + a3) < 0 ∨ 45 ≤ (((36 : Int32) + a3)).toNatClampNeg) (g_M_forgottenOf_4 M i0 a1 n (a2 + ((M (i0 + 18) (((36 : Int32) + a3)).toNatClampNeg) - (M (i0 + 6) (((36 : Int32) + a3)).toNatClampNeg))) (a3 + (1 : Int32)) kk)) else (fx_ck (((3 : Int32) * a3) < 0 ∨ 24 ≤ (((3 : Int32) * a3)).toNatClampNeg) (if (M (i0 + 4) (((3 : Int32) * a3)).toNatClampNeg) = a1 then (fx_ck (((36 : Int32) + a3) < 0 ∨ 45 ≤ (((36 : Int32) + a3)).toNatClampNeg) (g_M_forgottenOf_4 M i0 a1 n (a2 + ((M (i0 + 18) (((36 : Int32) + a3)).toNatClampNeg) - (M (i0 + 6) (((36 : Int32) + a3)).toNatClampNeg))) (a3 + (1 : Int32)) kk)) else (g_M_forgottenOf_4 M i0 a1 n (a2 + (0 : Int32)) (a3 + (1 : Int32)) kk))))
theorem v_M_forgottenOf_4 {X : fv_X} {sh : fv_Sh} {k : Nat × Nat} {M : fv_M} {i0 : Nat} {a1 : Int32} {r : Int32} {kk : Int32 → Int32 → Option (Int32)} (h0 : fx_atM sh i0) (K : ∀ (a2 a3 : Int32), kk a2 a3 = some r → fv_Rn X 145 60 [some (.ref i0), some (.int a1), some (.int a2), some (.int a3)] [] k sh M (some (.int r), sh, M)) : ∀ (n : Nat) (a2 a3 : Int32), g_M_forgottenOf_4 M i0 a1 n a2 a3 kk = some r → fv_Rn X 145 4 [some (.ref i0), some (.int a1), some (.int a2), some (.int a3)] [] k sh M (some (.int r), sh, M) := by
  intro n
  induction n with
  | zero =>
    intro a2 a3 h
    replace h : (none : Option (Int32)) = some r := h
    cases h
  | succ n ih =>
    intro a2 a3 h
    rw [g_M_forgottenOf_4] at h
    refine fx_iload rfl rfl ?_
    refine fx_aload rfl rfl ?_
    refine fx_getI rfl h0.1 rfl rfl ?_
    by_cases c_1 : (M i0 6) ≤ a3
    · replace h := (if_pos c_1).symm.trans h
      refine fx_icge_j rfl rfl c_1 ?_
      exact K _ _ h
    · replace h := (if_neg c_1).symm.trans h
      refine fx_icge_s rfl c_1 ?_
      refine fx_iload rfl rfl ?_
      refine fx_iload rfl rfl ?_
      by_cases c_2 : a1 < 0
      · replace h := (if_pos c_2).symm.trans h
        refine fx_iflt_j rfl rfl c_2 ?_
        refine fx_aload rfl rfl ?_
        refine fx_getV rfl h0.1 rfl rfl ?_
        refine fx_const rfl (show Int32.ofInt 36 = (36 : Int32) by decide) ?_
        refine fx_iload rfl rfl ?_
        refine fx_iadd rfl ?_
        obtain ⟨c_3, h⟩ := fx_ck_some h
        refine fx_iaload rfl (fun z => absurd z.1 (by decide)) h0.2.2.2.2.2.2.2.2.2.2.2.2.2.2.2.2.2.2 c_3 ?_
        refine fx_aload rfl rfl ?_
        refine fx_getV rfl h0.1 rfl rfl ?_
        refine fx_const rfl (show Int32.ofInt 36 = (36 : Int32) by decide) ?_
        refine fx_iload rfl rfl ?_
        refine fx_iadd rfl ?_
        refine fx_iaload rfl (fun z => absurd z.1 (by decide)) h0.2.2.2.2.2.2.1 c_3 ?_
        refine fx_isub rfl ?_
        refine fx_goto rfl rfl ?_
        refine fx_iadd rfl ?_
        refine fx_istore rfl rfl ?_
        refine fx_iinc rfl (show Int32.ofInt 1 = (1 : Int32) by decide) rfl rfl ?_
        refine fx_back rfl rfl rfl ?_
        exact ih _ _ h
      · replace h := (if_neg c_2).symm.trans h
        refine fx_iflt_s rfl c_2 ?_
        refine fx_aload rfl rfl ?_
        refine fx_getV rfl h0.1 rfl rfl ?_
        refine fx_const rfl (show Int32.ofInt 3 = (3 : Int32) by decide) ?_
        refine fx_iload rfl rfl ?_
        refine fx_imul rfl ?_
        obtain ⟨c_4, h⟩ := fx_ck_some h
        refine fx_iaload rfl (fun z => absurd z.1 (by decide)) h0.2.2.2.2.1 c_4 ?_
        refine fx_iload rfl rfl ?_
        by_cases c_5 : (M (i0 + 4) (((3 : Int32) * a3)).toNatClampNeg) = a1
        · replace h := (if_pos c_5).symm.trans h
          refine fx_icne_s rfl c_5 ?_
          refine fx_aload rfl rfl ?_
          refine fx_getV rfl h0.1 rfl rfl ?_
          refine fx_const rfl (show Int32.ofInt 36 = (36 : Int32) by decide) ?_
          refine fx_iload rfl rfl ?_
          refine fx_iadd rfl ?_
          obtain ⟨c_6, h⟩ := fx_ck_some h
          refine fx_iaload rfl (fun z => absurd z.1 (by decide)) h0.2.2.2.2.2.2.2.2.2.2.2.2.2.2.2.2.2.2 c_6 ?_
          refine fx_aload rfl rfl ?_
          refine fx_getV rfl h0.1 rfl rfl ?_
          refine fx_const rfl (show Int32.ofInt 36 = (36 : Int32) by decide) ?_
          refine fx_iload rfl rfl ?_
          refine fx_iadd rfl ?_
          refine fx_iaload rfl (fun z => absurd z.1 (by decide)) h0.2.2.2.2.2.2.1 c_6 ?_
          refine fx_isub rfl ?_
          refine fx_goto rfl rfl ?_
          refine fx_iadd rfl ?_
          refine fx_istore rfl rfl ?_
          refine fx_iinc rfl (show Int32.ofInt 1 = (1 : Int32) by decide) rfl rfl ?_
          refine fx_back rfl rfl rfl ?_
          exact ih _ _ h
        · replace h := (if_neg c_5).symm.trans h
          refine fx_icne_j rfl rfl c_5 ?_
          refine fx_const rfl (show Int32.ofInt 0 = (0 : Int32) by decide) ?_
          refine fx_iadd rfl ?_
          refine fx_istore rfl rfl ?_
          refine fx_iinc rfl (show Int32.ofInt 1 = (1 : Int32) by decide) rfl rfl ?_
          refine fx_back rfl rfl rfl ?_
          exact ih _ _ h
def g_M_forgottenOf (M : fv_M) (i0 : Nat) (a1 : Int32) : Option (Int32) := g_M_forgottenOf_4 M i0 a1 fx_FU (0 : Int32) (0 : Int32) (fun b2_1 b3_1 => some b2_1)
theorem v_M_forgottenOf {X : fv_X} {sh : fv_Sh} {k : Nat × Nat} {M : fv_M} {i0 : Nat} {a1 : Int32} {r : Int32} (h0 : fx_atM sh i0) (h : g_M_forgottenOf M i0 a1 = some r) : fv_Rn X 145 0 [some (.ref i0), some (.int a1)] [] k sh M (some (.int r), sh, M) := by
  unfold g_M_forgottenOf at h
  refine fx_const rfl (show Int32.ofInt 0 = (0 : Int32) by decide) ?_
  refine fx_istore rfl rfl ?_
  refine fx_const rfl (show Int32.ofInt 0 = (0 : Int32) by decide) ?_
  refine fx_istore rfl rfl ?_
  refine v_M_forgottenOf_4 h0 (fun b2_1 b3_1 h => ?_) fx_FU _ _ h
  refine fx_iload rfl rfl ?_
  obtain rfl := Option.some.inj h
  exact fx_ret rfl rfl

def g_M_remembers_11 (i0 : Nat) : Nat → fv_M → Int32 → (fv_M → Int32 → Option (fv_M)) → Option (fv_M)
  | 0, _, _, _ => none
  | n + 1, M, a1, kk => if (315 : Int32) ≤ a1 then (kk M a1) else (fx_ck ((a1 + (45 : Int32)) < 0 ∨ 360 ≤ ((a1 + (45 : Int32))).toNatClampNeg) (fx_ck (a1 < 0 ∨ 360 ≤ (a1).toNatClampNeg) (g_M_remembers_11 i0 n (fv_set M (i0 + 8) (a1).toNatClampNeg (M (i0 + 8) ((a1 + (45 : Int32))).toNatClampNeg)) (a1 + (1 : Int32)) kk)))
theorem v_M_remembers_11 {X : fv_X} {sh : fv_Sh} {k : Nat × Nat} {i0 : Nat} {r : fv_M} {kk : fv_M → Int32 → Option (fv_M)} (h0 : fx_atM sh i0) (K : ∀ (M : fv_M) (a1 : Int32), kk M a1 = some r → fv_Rn X 146 39 [some (.ref i0), some (.int a1)] [] k sh M (none, sh, r)) : ∀ (n : Nat) (M : fv_M) (a1 : Int32), g_M_remembers_11 i0 n M a1 kk = some r → fv_Rn X 146 11 [some (.ref i0), some (.int a1)] [] k sh M (none, sh, r) := by
  intro n
  induction n with
  | zero =>
    intro M a1 h
    replace h : (none : Option (fv_M)) = some r := h
    cases h
  | succ n ih =>
    intro M a1 h
    rw [g_M_remembers_11] at h
    refine fx_iload rfl rfl ?_
    refine fx_const rfl (show Int32.ofInt 315 = (315 : Int32) by decide) ?_
    by_cases c_2 : (315 : Int32) ≤ a1
    · replace h := (if_pos c_2).symm.trans h
      refine fx_icge_j rfl rfl c_2 ?_
      exact K _ _ h
    · replace h := (if_neg c_2).symm.trans h
      refine fx_icge_s rfl c_2 ?_
      refine fx_aload rfl rfl ?_
      refine fx_getV rfl h0.1 rfl rfl ?_
      refine fx_iload rfl rfl ?_
      refine fx_aload rfl rfl ?_
      refine fx_getV rfl h0.1 rfl rfl ?_
      refine fx_iload rfl rfl ?_
      refine fx_const rfl (show Int32.ofInt 45 = (45 : Int32) by decide) ?_
      refine fx_iadd rfl ?_
      obtain ⟨c_3, h⟩ := fx_ck_some h
      refine fx_iaload rfl (fun z => absurd z.1 (by decide)) h0.2.2.2.2.2.2.2.2.1 c_3 ?_
      obtain ⟨c_4, h⟩ := fx_ck_some h
      refine fx_iastore rfl h0.2.2.2.2.2.2.2.2.1 c_4 ?_
      refine fx_iinc rfl (show Int32.ofInt 1 = (1 : Int32) by decide) rfl rfl ?_
      refine fx_back rfl rfl rfl ?_
      exact ih _ _ h
def g_M_remembers (M : fv_M) (i0 : Nat) : Option (fv_M) := if (M i0 11) = (8 : Int32) then (g_M_remembers_11 i0 fx_FU M (0 : Int32) (fun M_1 b1_1 => (g_M_put (fv_set M_1 i0 11 ((M_1 i0 11) - (1 : Int32))) (i0 + 8) 360 ((45 : Int32) * ((fv_set M_1 i0 11 ((M_1 i0 11) - (1 : Int32))) i0 11)) (i0 + 6) 45 (45 : Int32)).bind fun q2 => some (fv_set q2 i0 11 ((q2 i0 11) + (1 : Int32))))) else ((g_M_put M (i0 + 8) 360 ((45 : Int32) * (M i0 11)) (i0 + 6) 45 (45 : Int32)).bind fun q3 => some (fv_set q3 i0 11 ((q3 i0 11) + (1 : Int32))))
theorem v_M_remembers {X : fv_X} {sh : fv_Sh} {k : Nat × Nat} {M : fv_M} {i0 : Nat} {r : fv_M} (h0 : fx_atM sh i0) (h : g_M_remembers M i0 = some r) : fv_Rn X 146 0 [some (.ref i0)] [] k sh M (none, sh, r) := by
  unfold g_M_remembers at h
  refine fx_aload rfl rfl ?_
  refine fx_getI rfl h0.1 rfl rfl ?_
  refine fx_const rfl (show Int32.ofInt 8 = (8 : Int32) by decide) ?_
  by_cases c_1 : (M i0 11) = (8 : Int32)
  · replace h := (if_pos c_1).symm.trans h
    refine fx_icne_s rfl c_1 ?_
    refine fx_const rfl (show Int32.ofInt 0 = (0 : Int32) by decide) ?_
    refine fx_istore rfl rfl ?_
    refine v_M_remembers_11 h0 (fun M_1 b1_1 h => ?_) fx_FU _ _ h
    refine fx_aload rfl rfl ?_
    refine fx_dup rfl rfl ?_
    refine fx_getI rfl h0.1 rfl rfl ?_
    refine fx_const rfl (show Int32.ofInt 1 = (1 : Int32) by decide) ?_
    refine fx_isub rfl ?_
    refine fx_putI rfl h0.1 rfl rfl rfl ?_
    refine fx_aload rfl rfl ?_
    refine fx_getV rfl h0.1 rfl rfl ?_
    refine fx_const rfl (show Int32.ofInt 45 = (45 : Int32) by decide) ?_
    refine fx_aload rfl rfl ?_
    refine fx_getI rfl h0.1 rfl rfl ?_
    refine fx_imul rfl ?_
    refine fx_aload rfl rfl ?_
    refine fx_getV rfl h0.1 rfl rfl ?_
    refine fx_const rfl (show Int32.ofInt 45 = (45 : Int32) by decide) ?_
    obtain ⟨q2, e_q2, h⟩ := fx_bd h
    refine fx_call [.ref (i0 + 8), .int ((45 : Int32) * ((fv_set M_1 i0 11 ((M_1 i0 11) - (1 : Int32))) i0 11)), .ref (i0 + 6), .int (45 : Int32)] [] rfl (by decide) rfl rfl rfl rfl rfl (Nat.le_of_ble_eq_true rfl) rfl (v_M_put h0.2.2.2.2.2.2.2.2.1 h0.2.2.2.2.2.2.1 e_q2) ?_
    refine fx_aload rfl rfl ?_
    refine fx_dup rfl rfl ?_
    refine fx_getI rfl h0.1 rfl rfl ?_
    refine fx_const rfl (show Int32.ofInt 1 = (1 : Int32) by decide) ?_
    refine fx_iadd rfl ?_
    refine fx_putI rfl h0.1 rfl rfl rfl ?_
    obtain rfl := Option.some.inj h
    exact fx_vret rfl rfl
  · replace h := (if_neg c_1).symm.trans h
    refine fx_icne_j rfl rfl c_1 ?_
    refine fx_aload rfl rfl ?_
    refine fx_getV rfl h0.1 rfl rfl ?_
    refine fx_const rfl (show Int32.ofInt 45 = (45 : Int32) by decide) ?_
    refine fx_aload rfl rfl ?_
    refine fx_getI rfl h0.1 rfl rfl ?_
    refine fx_imul rfl ?_
    refine fx_aload rfl rfl ?_
    refine fx_getV rfl h0.1 rfl rfl ?_
    refine fx_const rfl (show Int32.ofInt 45 = (45 : Int32) by decide) ?_
    obtain ⟨q3, e_q3, h⟩ := fx_bd h
    refine fx_call [.ref (i0 + 8), .int ((45 : Int32) * (M i0 11)), .ref (i0 + 6), .int (45 : Int32)] [] rfl (by decide) rfl rfl rfl rfl rfl (Nat.le_of_ble_eq_true rfl) rfl (v_M_put h0.2.2.2.2.2.2.2.2.1 h0.2.2.2.2.2.2.1 e_q3) ?_
    refine fx_aload rfl rfl ?_
    refine fx_dup rfl rfl ?_
    refine fx_getI rfl h0.1 rfl rfl ?_
    refine fx_const rfl (show Int32.ofInt 1 = (1 : Int32) by decide) ?_
    refine fx_iadd rfl ?_
    refine fx_putI rfl h0.1 rfl rfl rfl ?_
    obtain rfl := Option.some.inj h
    exact fx_vret rfl rfl

def g_M_pass (M : fv_M) (i0 : Nat) (a1 : Int32) : Option (Int32 × fv_M) := (g_M_in M a1 (1 : Int32) (10 : Int32)).bind fun q1 => if q1 = 0 then (some ((-1 : Int32), M)) else ((g_M_remembers M i0).bind fun q2 => (g_M_from q2 i0 (i0 + 6) 45).bind fun q3 => (g_M_goesOn q3 i0 a1).bind fun q4 => (g_M_put q4 (i0 + 6) 45 (0 : Int32) (i0 + 18) 45 (45 : Int32)).bind fun q5 => some ((q5 (i0 + 6) ((44 : Int32)).toNatClampNeg), q5))
theorem v_M_pass {X : fv_X} {sh : fv_Sh} {k : Nat × Nat} {M : fv_M} {i0 : Nat} {a1 : Int32} {r : Int32 × fv_M} (h0 : fx_atM sh i0) (h : g_M_pass M i0 a1 = some r) : fv_Rn X 147 0 [some (.ref i0), some (.int a1)] [] k sh M (some (.int r.1), sh, r.2) := by
  unfold g_M_pass at h
  refine fx_iload rfl rfl ?_
  refine fx_const rfl (show Int32.ofInt 1 = (1 : Int32) by decide) ?_
  refine fx_const rfl (show Int32.ofInt 10 = (10 : Int32) by decide) ?_
  obtain ⟨q1, e_q1, h⟩ := fx_bd h
  refine fx_call [.int a1, .int (1 : Int32), .int (10 : Int32)] [] rfl (by decide) rfl rfl rfl rfl rfl (Nat.le_of_ble_eq_true rfl) rfl (v_M_in  e_q1) ?_
  by_cases c_1 : q1 = 0
  · replace h := (if_pos c_1).symm.trans h
    refine fx_ifne_s rfl c_1 ?_
    refine fx_const rfl (show Int32.ofInt (-1) = (-1 : Int32) by decide) ?_
    obtain rfl := Option.some.inj h
    exact fx_ret rfl rfl
  · replace h := (if_neg c_1).symm.trans h
    refine fx_ifne_j rfl rfl c_1 ?_
    refine fx_aload rfl rfl ?_
    obtain ⟨q2, e_q2, h⟩ := fx_bd h
    refine fx_call [.ref i0] [] rfl (by decide) rfl rfl rfl rfl rfl (Nat.le_of_ble_eq_true rfl) (fx_rcv h0.1 rfl) (v_M_remembers h0 e_q2) ?_
    refine fx_aload rfl rfl ?_
    refine fx_aload rfl rfl ?_
    refine fx_getV rfl h0.1 rfl rfl ?_
    obtain ⟨q3, e_q3, h⟩ := fx_bd h
    refine fx_call [.ref i0, .ref (i0 + 6)] [] rfl (by decide) rfl rfl rfl rfl rfl (Nat.le_of_ble_eq_true rfl) (fx_rcv h0.1 rfl) (v_M_from h0 h0.2.2.2.2.2.2.1 e_q3) ?_
    refine fx_aload rfl rfl ?_
    refine fx_iload rfl rfl ?_
    obtain ⟨q4, e_q4, h⟩ := fx_bd h
    refine fx_call [.ref i0, .int a1] [] rfl (by decide) rfl rfl rfl rfl rfl (Nat.le_of_ble_eq_true rfl) (fx_rcv h0.1 rfl) (v_M_goesOn h0 e_q4) ?_
    refine fx_aload rfl rfl ?_
    refine fx_getV rfl h0.1 rfl rfl ?_
    refine fx_const rfl (show Int32.ofInt 0 = (0 : Int32) by decide) ?_
    refine fx_aload rfl rfl ?_
    refine fx_getV rfl h0.1 rfl rfl ?_
    refine fx_const rfl (show Int32.ofInt 45 = (45 : Int32) by decide) ?_
    obtain ⟨q5, e_q5, h⟩ := fx_bd h
    refine fx_call [.ref (i0 + 6), .int (0 : Int32), .ref (i0 + 18), .int (45 : Int32)] [] rfl (by decide) rfl rfl rfl rfl rfl (Nat.le_of_ble_eq_true rfl) rfl (v_M_put h0.2.2.2.2.2.2.1 h0.2.2.2.2.2.2.2.2.2.2.2.2.2.2.2.2.2.2 e_q5) ?_
    refine fx_aload rfl rfl ?_
    refine fx_getV rfl h0.1 rfl rfl ?_
    refine fx_const rfl (show Int32.ofInt 44 = (44 : Int32) by decide) ?_
    refine fx_iaload rfl (fun z => absurd z.1 (by decide)) h0.2.2.2.2.2.2.1 (by decide) ?_
    obtain rfl := Option.some.inj h
    exact fx_ret rfl rfl

def g_M_give (M : fv_M) (i0 : Nat) (a1 : Int32) (a2 : Int32) (a3 : Int32) (a4 : Int32) : Option (Int32 × fv_M) := (g_M_isVillage M i0 a1).bind fun q1 => if q1 = 0 then (some ((-1 : Int32), M)) else ((g_M_isVillage M i0 a2).bind fun q2 => if q2 = 0 then (some ((-1 : Int32), M)) else (if a1 = a2 then (some ((-1 : Int32), M)) else ((g_M_isVerb M i0 a3).bind fun q3 => if q3 = 0 then (some ((-1 : Int32), M)) else ((g_M_in M a4 (1 : Int32) (60 : Int32)).bind fun q4 => if q4 = 0 then (some ((-1 : Int32), M)) else (fx_ck ((((6 : Int32) * a1) + a3) < 0 ∨ 45 ≤ ((((6 : Int32) * a1) + a3)).toNatClampNeg) (if a4 ≤ (M (i0 + 6) ((((6 : Int32) * a1) + a3)).toNatClampNeg) then (fx_ck ((((6 : Int32) * a2) + a3) < 0 ∨ 45 ≤ ((((6 : Int32) * a2) + a3)).toNatClampNeg) (if ((M (i0 + 6) ((((6 : Int32) * a2) + a3)).toNatClampNeg) + a4) ≤ (60 : Int32) then ((g_M_remembers M i0).bind fun q5 => some (((fv_set (fv_set q5 (i0 + 6) ((((6 : Int32) * a1) + a3)).toNatClampNeg ((q5 (i0 + 6) ((((6 : Int32) * a1) + a3)).toNatClampNeg) - a4)) (i0 + 6) ((((6 : Int32) * a2) + a3)).toNatClampNeg (((fv_set q5 (i0 + 6) ((((6 : Int32) * a1) + a3)).toNatClampNeg ((q5 (i0 + 6) ((((6 : Int32) * a1) + a3)).toNatClampNeg) - a4)) (i0 + 6) ((((6 : Int32) * a2) + a3)).toNatClampNeg) + a4)) (i0 + 6) ((((6 : Int32) * a2) + a3)).toNatClampNeg), (fv_set (fv_set q5 (i0 + 6) ((((6 : Int32) * a1) + a3)).toNatClampNeg ((q5 (i0 + 6) ((((6 : Int32) * a1) + a3)).toNatClampNeg) - a4)) (i0 + 6) ((((6 : Int32) * a2) + a3)).toNatClampNeg (((fv_set q5 (i0 + 6) ((((6 : Int32) * a1) + a3)).toNatClampNeg ((q5 (i0 + 6) ((((6 : Int32) * a1) + a3)).toNatClampNeg) - a4)) (i0 + 6) ((((6 : Int32) * a2) + a3)).toNatClampNeg) + a4)))) else (some ((-3 : Int32), M)))) else (some ((-2 : Int32), M))))))))
theorem v_M_give {X : fv_X} {sh : fv_Sh} {k : Nat × Nat} {M : fv_M} {i0 : Nat} {a1 : Int32} {a2 : Int32} {a3 : Int32} {a4 : Int32} {r : Int32 × fv_M} (h0 : fx_atM sh i0) (h : g_M_give M i0 a1 a2 a3 a4 = some r) : fv_Rn X 148 0 [some (.ref i0), some (.int a1), some (.int a2), some (.int a3), some (.int a4)] [] k sh M (some (.int r.1), sh, r.2) := by
  unfold g_M_give at h
  refine fx_aload rfl rfl ?_
  refine fx_iload rfl rfl ?_
  obtain ⟨q1, e_q1, h⟩ := fx_bd h
  refine fx_call [.ref i0, .int a1] [] rfl (by decide) rfl rfl rfl rfl rfl (Nat.le_of_ble_eq_true rfl) (fx_rcv h0.1 rfl) (v_M_isVillage h0 e_q1) ?_
  by_cases c_1 : q1 = 0
  · replace h := (if_pos c_1).symm.trans h
    refine fx_ifeq_j rfl rfl c_1 ?_
    refine fx_const rfl (show Int32.ofInt (-1) = (-1 : Int32) by decide) ?_
    obtain rfl := Option.some.inj h
    exact fx_ret rfl rfl
  · replace h := (if_neg c_1).symm.trans h
    refine fx_ifeq_s rfl c_1 ?_
    refine fx_aload rfl rfl ?_
    refine fx_iload rfl rfl ?_
    obtain ⟨q2, e_q2, h⟩ := fx_bd h
    refine fx_call [.ref i0, .int a2] [] rfl (by decide) rfl rfl rfl rfl rfl (Nat.le_of_ble_eq_true rfl) (fx_rcv h0.1 rfl) (v_M_isVillage h0 e_q2) ?_
    by_cases c_2 : q2 = 0
    · replace h := (if_pos c_2).symm.trans h
      refine fx_ifeq_j rfl rfl c_2 ?_
      refine fx_const rfl (show Int32.ofInt (-1) = (-1 : Int32) by decide) ?_
      obtain rfl := Option.some.inj h
      exact fx_ret rfl rfl
    · replace h := (if_neg c_2).symm.trans h
      refine fx_ifeq_s rfl c_2 ?_
      refine fx_iload rfl rfl ?_
      refine fx_iload rfl rfl ?_
      by_cases c_3 : a1 = a2
      · replace h := (if_pos c_3).symm.trans h
        refine fx_iceq_j rfl rfl c_3 ?_
        refine fx_const rfl (show Int32.ofInt (-1) = (-1 : Int32) by decide) ?_
        obtain rfl := Option.some.inj h
        exact fx_ret rfl rfl
      · replace h := (if_neg c_3).symm.trans h
        refine fx_iceq_s rfl c_3 ?_
        refine fx_aload rfl rfl ?_
        refine fx_iload rfl rfl ?_
        obtain ⟨q3, e_q3, h⟩ := fx_bd h
        refine fx_call [.ref i0, .int a3] [] rfl (by decide) rfl rfl rfl rfl rfl (Nat.le_of_ble_eq_true rfl) (fx_rcv h0.1 rfl) (v_M_isVerb h0 e_q3) ?_
        by_cases c_4 : q3 = 0
        · replace h := (if_pos c_4).symm.trans h
          refine fx_ifeq_j rfl rfl c_4 ?_
          refine fx_const rfl (show Int32.ofInt (-1) = (-1 : Int32) by decide) ?_
          obtain rfl := Option.some.inj h
          exact fx_ret rfl rfl
        · replace h := (if_neg c_4).symm.trans h
          refine fx_ifeq_s rfl c_4 ?_
          refine fx_iload rfl rfl ?_
          refine fx_const rfl (show Int32.ofInt 1 = (1 : Int32) by decide) ?_
          refine fx_const rfl (show Int32.ofInt 60 = (60 : Int32) by decide) ?_
          obtain ⟨q4, e_q4, h⟩ := fx_bd h
          refine fx_call [.int a4, .int (1 : Int32), .int (60 : Int32)] [] rfl (by decide) rfl rfl rfl rfl rfl (Nat.le_of_ble_eq_true rfl) rfl (v_M_in  e_q4) ?_
          by_cases c_5 : q4 = 0
          · replace h := (if_pos c_5).symm.trans h
            refine fx_ifne_s rfl c_5 ?_
            refine fx_const rfl (show Int32.ofInt (-1) = (-1 : Int32) by decide) ?_
            obtain rfl := Option.some.inj h
            exact fx_ret rfl rfl
          · replace h := (if_neg c_5).symm.trans h
            refine fx_ifne_j rfl rfl c_5 ?_
            refine fx_aload rfl rfl ?_
            refine fx_getV rfl h0.1 rfl rfl ?_
            refine fx_const rfl (show Int32.ofInt 6 = (6 : Int32) by decide) ?_
            refine fx_iload rfl rfl ?_
            refine fx_imul rfl ?_
            refine fx_iload rfl rfl ?_
            refine fx_iadd rfl ?_
            obtain ⟨c_6, h⟩ := fx_ck_some h
            refine fx_iaload rfl (fun z => absurd z.1 (by decide)) h0.2.2.2.2.2.2.1 c_6 ?_
            refine fx_iload rfl rfl ?_
            by_cases c_7 : a4 ≤ (M (i0 + 6) ((((6 : Int32) * a1) + a3)).toNatClampNeg)
            · replace h := (if_pos c_7).symm.trans h
              refine fx_icge_j rfl rfl c_7 ?_
              refine fx_aload rfl rfl ?_
              refine fx_getV rfl h0.1 rfl rfl ?_
              refine fx_const rfl (show Int32.ofInt 6 = (6 : Int32) by decide) ?_
              refine fx_iload rfl rfl ?_
              refine fx_imul rfl ?_
              refine fx_iload rfl rfl ?_
              refine fx_iadd rfl ?_
              obtain ⟨c_8, h⟩ := fx_ck_some h
              refine fx_iaload rfl (fun z => absurd z.1 (by decide)) h0.2.2.2.2.2.2.1 c_8 ?_
              refine fx_iload rfl rfl ?_
              refine fx_iadd rfl ?_
              refine fx_const rfl (show Int32.ofInt 60 = (60 : Int32) by decide) ?_
              by_cases c_9 : ((M (i0 + 6) ((((6 : Int32) * a2) + a3)).toNatClampNeg) + a4) ≤ (60 : Int32)
              · replace h := (if_pos c_9).symm.trans h
                refine fx_icle_j rfl rfl c_9 ?_
                refine fx_aload rfl rfl ?_
                obtain ⟨q5, e_q5, h⟩ := fx_bd h
                refine fx_call [.ref i0] [] rfl (by decide) rfl rfl rfl rfl rfl (Nat.le_of_ble_eq_true rfl) (fx_rcv h0.1 rfl) (v_M_remembers h0 e_q5) ?_
                refine fx_aload rfl rfl ?_
                refine fx_getV rfl h0.1 rfl rfl ?_
                refine fx_const rfl (show Int32.ofInt 6 = (6 : Int32) by decide) ?_
                refine fx_iload rfl rfl ?_
                refine fx_imul rfl ?_
                refine fx_iload rfl rfl ?_
                refine fx_iadd rfl ?_
                refine fx_dup2 rfl ⟨rfl, rfl⟩ ?_
                refine fx_iaload rfl (fun z => absurd z.1 (by decide)) h0.2.2.2.2.2.2.1 c_6 ?_
                refine fx_iload rfl rfl ?_
                refine fx_isub rfl ?_
                refine fx_iastore rfl h0.2.2.2.2.2.2.1 c_6 ?_
                refine fx_aload rfl rfl ?_
                refine fx_getV rfl h0.1 rfl rfl ?_
                refine fx_const rfl (show Int32.ofInt 6 = (6 : Int32) by decide) ?_
                refine fx_iload rfl rfl ?_
                refine fx_imul rfl ?_
                refine fx_iload rfl rfl ?_
                refine fx_iadd rfl ?_
                refine fx_dup2 rfl ⟨rfl, rfl⟩ ?_
                refine fx_iaload rfl (fun z => absurd z.1 (by decide)) h0.2.2.2.2.2.2.1 c_8 ?_
                refine fx_iload rfl rfl ?_
                refine fx_iadd rfl ?_
                refine fx_iastore rfl h0.2.2.2.2.2.2.1 c_8 ?_
                refine fx_aload rfl rfl ?_
                refine fx_getV rfl h0.1 rfl rfl ?_
                refine fx_const rfl (show Int32.ofInt 6 = (6 : Int32) by decide) ?_
                refine fx_iload rfl rfl ?_
                refine fx_imul rfl ?_
                refine fx_iload rfl rfl ?_
                refine fx_iadd rfl ?_
                refine fx_iaload rfl (fun z => absurd z.1 (by decide)) h0.2.2.2.2.2.2.1 c_8 ?_
                obtain rfl := Option.some.inj h
                exact fx_ret rfl rfl
              · replace h := (if_neg c_9).symm.trans h
                refine fx_icle_s rfl c_9 ?_
                refine fx_const rfl (show Int32.ofInt (-3) = (-3 : Int32) by decide) ?_
                obtain rfl := Option.some.inj h
                exact fx_ret rfl rfl
            · replace h := (if_neg c_7).symm.trans h
              refine fx_icge_s rfl c_7 ?_
              refine fx_const rfl (show Int32.ofInt (-2) = (-2 : Int32) by decide) ?_
              obtain rfl := Option.some.inj h
              exact fx_ret rfl rfl

def g_M_smallOf_2 (M : fv_M) (i0 : Nat) (a1 : Int32) : Nat → Int32 → (Int32 → Option (Int32)) → Option (Int32)
  | 0, _, _ => none
  | n + 1, a2, kk => if (M i0 0) ≤ a2 then (kk a2) else (fx_ck (((2 : Int32) * a2) < 0 ∨ 12 ≤ (((2 : Int32) * a2)).toNatClampNeg) (if (M (i0 + 1) (((2 : Int32) * a2)).toNatClampNeg) = (1 : Int32) then (fx_ck ((((6 : Int32) * a1) + a2) < 0 ∨ 45 ≤ ((((6 : Int32) * a1) + a2)).toNatClampNeg) (if (M (i0 + 6) ((((6 : Int32) * a1) + a2)).toNatClampNeg) ≤ (1 : Int32) then (g_M_smallOf_2 M i0 a1 n (a2 + (1 : Int32)) kk) else (some a2))) else (g_M_smallOf_2 M i0 a1 n (a2 + (1 : Int32)) kk)))
theorem v_M_smallOf_2 {X : fv_X} {sh : fv_Sh} {k : Nat × Nat} {M : fv_M} {i0 : Nat} {a1 : Int32} {r : Int32} {kk : Int32 → Option (Int32)} (h0 : fx_atM sh i0) (K : ∀ (a2 : Int32), kk a2 = some r → fv_Rn X 149 45 [some (.ref i0), some (.int a1), some (.int a2)] [] k sh M (some (.int r), sh, M)) : ∀ (n : Nat) (a2 : Int32), g_M_smallOf_2 M i0 a1 n a2 kk = some r → fv_Rn X 149 2 [some (.ref i0), some (.int a1), some (.int a2)] [] k sh M (some (.int r), sh, M) := by
  intro n
  induction n with
  | zero =>
    intro a2 h
    replace h : (none : Option (Int32)) = some r := h
    cases h
  | succ n ih =>
    intro a2 h
    rw [g_M_smallOf_2] at h
    refine fx_iload rfl rfl ?_
    refine fx_aload rfl rfl ?_
    refine fx_getI rfl h0.1 rfl rfl ?_
    by_cases c_1 : (M i0 0) ≤ a2
    · replace h := (if_pos c_1).symm.trans h
      refine fx_icge_j rfl rfl c_1 ?_
      exact K _ h
    · replace h := (if_neg c_1).symm.trans h
      refine fx_icge_s rfl c_1 ?_
      refine fx_aload rfl rfl ?_
      refine fx_getV rfl h0.1 rfl rfl ?_
      refine fx_const rfl (show Int32.ofInt 2 = (2 : Int32) by decide) ?_
      refine fx_iload rfl rfl ?_
      refine fx_imul rfl ?_
      obtain ⟨c_2, h⟩ := fx_ck_some h
      refine fx_iaload rfl (fun z => absurd z.1 (by decide)) h0.2.1 c_2 ?_
      refine fx_const rfl (show Int32.ofInt 1 = (1 : Int32) by decide) ?_
      by_cases c_3 : (M (i0 + 1) (((2 : Int32) * a2)).toNatClampNeg) = (1 : Int32)
      · replace h := (if_pos c_3).symm.trans h
        refine fx_icne_s rfl c_3 ?_
        refine fx_aload rfl rfl ?_
        refine fx_getV rfl h0.1 rfl rfl ?_
        refine fx_const rfl (show Int32.ofInt 6 = (6 : Int32) by decide) ?_
        refine fx_iload rfl rfl ?_
        refine fx_imul rfl ?_
        refine fx_iload rfl rfl ?_
        refine fx_iadd rfl ?_
        obtain ⟨c_4, h⟩ := fx_ck_some h
        refine fx_iaload rfl (fun z => absurd z.1 (by decide)) h0.2.2.2.2.2.2.1 c_4 ?_
        refine fx_const rfl (show Int32.ofInt 1 = (1 : Int32) by decide) ?_
        by_cases c_5 : (M (i0 + 6) ((((6 : Int32) * a1) + a2)).toNatClampNeg) ≤ (1 : Int32)
        · replace h := (if_pos c_5).symm.trans h
          refine fx_icle_j rfl rfl c_5 ?_
          refine fx_iinc rfl (show Int32.ofInt 1 = (1 : Int32) by decide) rfl rfl ?_
          refine fx_back rfl rfl rfl ?_
          exact ih _ h
        · replace h := (if_neg c_5).symm.trans h
          refine fx_icle_s rfl c_5 ?_
          refine fx_iload rfl rfl ?_
          obtain rfl := Option.some.inj h
          exact fx_ret rfl rfl
      · replace h := (if_neg c_3).symm.trans h
        refine fx_icne_j rfl rfl c_3 ?_
        refine fx_iinc rfl (show Int32.ofInt 1 = (1 : Int32) by decide) rfl rfl ?_
        refine fx_back rfl rfl rfl ?_
        exact ih _ h
def g_M_smallOf (M : fv_M) (i0 : Nat) (a1 : Int32) : Option (Int32) := g_M_smallOf_2 M i0 a1 fx_FU (0 : Int32) (fun b2_1 => some (-1 : Int32))
theorem v_M_smallOf {X : fv_X} {sh : fv_Sh} {k : Nat × Nat} {M : fv_M} {i0 : Nat} {a1 : Int32} {r : Int32} (h0 : fx_atM sh i0) (h : g_M_smallOf M i0 a1 = some r) : fv_Rn X 149 0 [some (.ref i0), some (.int a1)] [] k sh M (some (.int r), sh, M) := by
  unfold g_M_smallOf at h
  refine fx_const rfl (show Int32.ofInt 0 = (0 : Int32) by decide) ?_
  refine fx_istore rfl rfl ?_
  refine v_M_smallOf_2 h0 (fun b2_1 h => ?_) fx_FU _ h
  refine fx_const rfl (show Int32.ofInt (-1) = (-1 : Int32) by decide) ?_
  obtain rfl := Option.some.inj h
  exact fx_ret rfl rfl

def g_M_sow (M : fv_M) (i0 : Nat) (a1 : Int32) (a2 : Int32) : Option (Int32 × fv_M) := (g_M_isVillage M i0 a1).bind fun q1 => if q1 = 0 then (some ((-1 : Int32), M)) else ((g_M_isVerb M i0 a2).bind fun q2 => if q2 = 0 then (some ((-1 : Int32), M)) else (fx_ck ((((6 : Int32) * a1) + a2) < 0 ∨ 45 ≤ ((((6 : Int32) * a1) + a2)).toNatClampNeg) (if (M (i0 + 6) ((((6 : Int32) * a1) + a2)).toNatClampNeg) ≤ 0 then ((g_M_smallOf M i0 a1).bind fun q3 => fx_ck (((24 : Int32) + a1) < 0 ∨ 45 ≤ (((24 : Int32) + a1)).toNatClampNeg) (if 0 ≤ (M (i0 + 6) (((24 : Int32) + a1)).toNatClampNeg) then (some ((-2 : Int32), M)) else (if 0 ≤ q3 then ((g_M_remembers M i0).bind fun q4 => fx_ck ((((6 : Int32) * a1) + q3) < 0 ∨ 45 ≤ ((((6 : Int32) * a1) + q3)).toNatClampNeg) (if q3 = a2 then (some (((fv_set (fv_set q4 (i0 + 6) ((((6 : Int32) * a1) + q3)).toNatClampNeg ((q4 (i0 + 6) ((((6 : Int32) * a1) + q3)).toNatClampNeg) - (1 : Int32))) (i0 + 6) (((24 : Int32) + a1)).toNatClampNeg a2) (i0 + 6) ((((6 : Int32) * a1) + a2)).toNatClampNeg), (fv_set (fv_set q4 (i0 + 6) ((((6 : Int32) * a1) + q3)).toNatClampNeg ((q4 (i0 + 6) ((((6 : Int32) * a1) + q3)).toNatClampNeg) - (1 : Int32))) (i0 + 6) (((24 : Int32) + a1)).toNatClampNeg a2))) else (some (((fv_set (fv_set q4 (i0 + 6) ((((6 : Int32) * a1) + q3)).toNatClampNeg ((q4 (i0 + 6) ((((6 : Int32) * a1) + q3)).toNatClampNeg) - (2 : Int32))) (i0 + 6) (((24 : Int32) + a1)).toNatClampNeg a2) (i0 + 6) ((((6 : Int32) * a1) + a2)).toNatClampNeg), (fv_set (fv_set q4 (i0 + 6) ((((6 : Int32) * a1) + q3)).toNatClampNeg ((q4 (i0 + 6) ((((6 : Int32) * a1) + q3)).toNatClampNeg) - (2 : Int32))) (i0 + 6) (((24 : Int32) + a1)).toNatClampNeg a2))))) else (some ((-2 : Int32), M))))) else (fx_ck (((24 : Int32) + a1) < 0 ∨ 45 ≤ (((24 : Int32) + a1)).toNatClampNeg) (if 0 ≤ (M (i0 + 6) (((24 : Int32) + a1)).toNatClampNeg) then (some ((-2 : Int32), M)) else (if 0 ≤ a2 then ((g_M_remembers M i0).bind fun q5 => if a2 = a2 then (some (((fv_set (fv_set q5 (i0 + 6) ((((6 : Int32) * a1) + a2)).toNatClampNeg ((q5 (i0 + 6) ((((6 : Int32) * a1) + a2)).toNatClampNeg) - (1 : Int32))) (i0 + 6) (((24 : Int32) + a1)).toNatClampNeg a2) (i0 + 6) ((((6 : Int32) * a1) + a2)).toNatClampNeg), (fv_set (fv_set q5 (i0 + 6) ((((6 : Int32) * a1) + a2)).toNatClampNeg ((q5 (i0 + 6) ((((6 : Int32) * a1) + a2)).toNatClampNeg) - (1 : Int32))) (i0 + 6) (((24 : Int32) + a1)).toNatClampNeg a2))) else (some (((fv_set (fv_set q5 (i0 + 6) ((((6 : Int32) * a1) + a2)).toNatClampNeg ((q5 (i0 + 6) ((((6 : Int32) * a1) + a2)).toNatClampNeg) - (2 : Int32))) (i0 + 6) (((24 : Int32) + a1)).toNatClampNeg a2) (i0 + 6) ((((6 : Int32) * a1) + a2)).toNatClampNeg), (fv_set (fv_set q5 (i0 + 6) ((((6 : Int32) * a1) + a2)).toNatClampNeg ((q5 (i0 + 6) ((((6 : Int32) * a1) + a2)).toNatClampNeg) - (2 : Int32))) (i0 + 6) (((24 : Int32) + a1)).toNatClampNeg a2)))) else (some ((-2 : Int32), M))))))))
theorem v_M_sow {X : fv_X} {sh : fv_Sh} {k : Nat × Nat} {M : fv_M} {i0 : Nat} {a1 : Int32} {a2 : Int32} {r : Int32 × fv_M} (h0 : fx_atM sh i0) (h : g_M_sow M i0 a1 a2 = some r) : fv_Rn X 150 0 [some (.ref i0), some (.int a1), some (.int a2)] [] k sh M (some (.int r.1), sh, r.2) := by
  unfold g_M_sow at h
  refine fx_aload rfl rfl ?_
  refine fx_iload rfl rfl ?_
  obtain ⟨q1, e_q1, h⟩ := fx_bd h
  refine fx_call [.ref i0, .int a1] [] rfl (by decide) rfl rfl rfl rfl rfl (Nat.le_of_ble_eq_true rfl) (fx_rcv h0.1 rfl) (v_M_isVillage h0 e_q1) ?_
  by_cases c_1 : q1 = 0
  · replace h := (if_pos c_1).symm.trans h
    refine fx_ifeq_j rfl rfl c_1 ?_
    refine fx_const rfl (show Int32.ofInt (-1) = (-1 : Int32) by decide) ?_
    obtain rfl := Option.some.inj h
    exact fx_ret rfl rfl
  · replace h := (if_neg c_1).symm.trans h
    refine fx_ifeq_s rfl c_1 ?_
    refine fx_aload rfl rfl ?_
    refine fx_iload rfl rfl ?_
    obtain ⟨q2, e_q2, h⟩ := fx_bd h
    refine fx_call [.ref i0, .int a2] [] rfl (by decide) rfl rfl rfl rfl rfl (Nat.le_of_ble_eq_true rfl) (fx_rcv h0.1 rfl) (v_M_isVerb h0 e_q2) ?_
    by_cases c_2 : q2 = 0
    · replace h := (if_pos c_2).symm.trans h
      refine fx_ifne_s rfl c_2 ?_
      refine fx_const rfl (show Int32.ofInt (-1) = (-1 : Int32) by decide) ?_
      obtain rfl := Option.some.inj h
      exact fx_ret rfl rfl
    · replace h := (if_neg c_2).symm.trans h
      refine fx_ifne_j rfl rfl c_2 ?_
      refine fx_aload rfl rfl ?_
      refine fx_getV rfl h0.1 rfl rfl ?_
      refine fx_const rfl (show Int32.ofInt 6 = (6 : Int32) by decide) ?_
      refine fx_iload rfl rfl ?_
      refine fx_imul rfl ?_
      refine fx_iload rfl rfl ?_
      refine fx_iadd rfl ?_
      obtain ⟨c_3, h⟩ := fx_ck_some h
      refine fx_iaload rfl (fun z => absurd z.1 (by decide)) h0.2.2.2.2.2.2.1 c_3 ?_
      by_cases c_4 : (M (i0 + 6) ((((6 : Int32) * a1) + a2)).toNatClampNeg) ≤ 0
      · replace h := (if_pos c_4).symm.trans h
        refine fx_ifle_j rfl rfl c_4 ?_
        refine fx_aload rfl rfl ?_
        refine fx_iload rfl rfl ?_
        obtain ⟨q3, e_q3, h⟩ := fx_bd h
        refine fx_call [.ref i0, .int a1] [] rfl (by decide) rfl rfl rfl rfl rfl (Nat.le_of_ble_eq_true rfl) (fx_rcv h0.1 rfl) (v_M_smallOf h0 e_q3) ?_
        refine fx_istore rfl rfl ?_
        refine fx_aload rfl rfl ?_
        refine fx_getV rfl h0.1 rfl rfl ?_
        refine fx_const rfl (show Int32.ofInt 24 = (24 : Int32) by decide) ?_
        refine fx_iload rfl rfl ?_
        refine fx_iadd rfl ?_
        obtain ⟨c_5, h⟩ := fx_ck_some h
        refine fx_iaload rfl (fun z => absurd z.1 (by decide)) h0.2.2.2.2.2.2.1 c_5 ?_
        by_cases c_6 : 0 ≤ (M (i0 + 6) (((24 : Int32) + a1)).toNatClampNeg)
        · replace h := (if_pos c_6).symm.trans h
          refine fx_ifge_j rfl rfl c_6 ?_
          refine fx_const rfl (show Int32.ofInt (-2) = (-2 : Int32) by decide) ?_
          obtain rfl := Option.some.inj h
          exact fx_ret rfl rfl
        · replace h := (if_neg c_6).symm.trans h
          refine fx_ifge_s rfl c_6 ?_
          refine fx_iload rfl rfl ?_
          by_cases c_7 : 0 ≤ q3
          · replace h := (if_pos c_7).symm.trans h
            refine fx_ifge_j rfl rfl c_7 ?_
            refine fx_aload rfl rfl ?_
            obtain ⟨q4, e_q4, h⟩ := fx_bd h
            refine fx_call [.ref i0] [] rfl (by decide) rfl rfl rfl rfl rfl (Nat.le_of_ble_eq_true rfl) (fx_rcv h0.1 rfl) (v_M_remembers h0 e_q4) ?_
            refine fx_aload rfl rfl ?_
            refine fx_getV rfl h0.1 rfl rfl ?_
            refine fx_const rfl (show Int32.ofInt 6 = (6 : Int32) by decide) ?_
            refine fx_iload rfl rfl ?_
            refine fx_imul rfl ?_
            refine fx_iload rfl rfl ?_
            refine fx_iadd rfl ?_
            refine fx_dup2 rfl ⟨rfl, rfl⟩ ?_
            obtain ⟨c_8, h⟩ := fx_ck_some h
            refine fx_iaload rfl (fun z => absurd z.1 (by decide)) h0.2.2.2.2.2.2.1 c_8 ?_
            refine fx_iload rfl rfl ?_
            refine fx_iload rfl rfl ?_
            by_cases c_9 : q3 = a2
            · replace h := (if_pos c_9).symm.trans h
              refine fx_icne_s rfl c_9 ?_
              refine fx_const rfl (show Int32.ofInt 1 = (1 : Int32) by decide) ?_
              refine fx_goto rfl rfl ?_
              refine fx_isub rfl ?_
              refine fx_iastore rfl h0.2.2.2.2.2.2.1 c_8 ?_
              refine fx_aload rfl rfl ?_
              refine fx_getV rfl h0.1 rfl rfl ?_
              refine fx_const rfl (show Int32.ofInt 24 = (24 : Int32) by decide) ?_
              refine fx_iload rfl rfl ?_
              refine fx_iadd rfl ?_
              refine fx_iload rfl rfl ?_
              refine fx_iastore rfl h0.2.2.2.2.2.2.1 c_5 ?_
              refine fx_aload rfl rfl ?_
              refine fx_getV rfl h0.1 rfl rfl ?_
              refine fx_const rfl (show Int32.ofInt 6 = (6 : Int32) by decide) ?_
              refine fx_iload rfl rfl ?_
              refine fx_imul rfl ?_
              refine fx_iload rfl rfl ?_
              refine fx_iadd rfl ?_
              refine fx_iaload rfl (fun z => absurd z.1 (by decide)) h0.2.2.2.2.2.2.1 c_3 ?_
              obtain rfl := Option.some.inj h
              exact fx_ret rfl rfl
            · replace h := (if_neg c_9).symm.trans h
              refine fx_icne_j rfl rfl c_9 ?_
              refine fx_const rfl (show Int32.ofInt 2 = (2 : Int32) by decide) ?_
              refine fx_isub rfl ?_
              refine fx_iastore rfl h0.2.2.2.2.2.2.1 c_8 ?_
              refine fx_aload rfl rfl ?_
              refine fx_getV rfl h0.1 rfl rfl ?_
              refine fx_const rfl (show Int32.ofInt 24 = (24 : Int32) by decide) ?_
              refine fx_iload rfl rfl ?_
              refine fx_iadd rfl ?_
              refine fx_iload rfl rfl ?_
              refine fx_iastore rfl h0.2.2.2.2.2.2.1 c_5 ?_
              refine fx_aload rfl rfl ?_
              refine fx_getV rfl h0.1 rfl rfl ?_
              refine fx_const rfl (show Int32.ofInt 6 = (6 : Int32) by decide) ?_
              refine fx_iload rfl rfl ?_
              refine fx_imul rfl ?_
              refine fx_iload rfl rfl ?_
              refine fx_iadd rfl ?_
              refine fx_iaload rfl (fun z => absurd z.1 (by decide)) h0.2.2.2.2.2.2.1 c_3 ?_
              obtain rfl := Option.some.inj h
              exact fx_ret rfl rfl
          · replace h := (if_neg c_7).symm.trans h
            refine fx_ifge_s rfl c_7 ?_
            refine fx_const rfl (show Int32.ofInt (-2) = (-2 : Int32) by decide) ?_
            obtain rfl := Option.some.inj h
            exact fx_ret rfl rfl
      · replace h := (if_neg c_4).symm.trans h
        refine fx_ifle_s rfl c_4 ?_
        refine fx_iload rfl rfl ?_
        refine fx_goto rfl rfl ?_
        refine fx_istore rfl rfl ?_
        refine fx_aload rfl rfl ?_
        refine fx_getV rfl h0.1 rfl rfl ?_
        refine fx_const rfl (show Int32.ofInt 24 = (24 : Int32) by decide) ?_
        refine fx_iload rfl rfl ?_
        refine fx_iadd rfl ?_
        obtain ⟨c_10, h⟩ := fx_ck_some h
        refine fx_iaload rfl (fun z => absurd z.1 (by decide)) h0.2.2.2.2.2.2.1 c_10 ?_
        by_cases c_11 : 0 ≤ (M (i0 + 6) (((24 : Int32) + a1)).toNatClampNeg)
        · replace h := (if_pos c_11).symm.trans h
          refine fx_ifge_j rfl rfl c_11 ?_
          refine fx_const rfl (show Int32.ofInt (-2) = (-2 : Int32) by decide) ?_
          obtain rfl := Option.some.inj h
          exact fx_ret rfl rfl
        · replace h := (if_neg c_11).symm.trans h
          refine fx_ifge_s rfl c_11 ?_
          refine fx_iload rfl rfl ?_
          by_cases c_12 : 0 ≤ a2
          · replace h := (if_pos c_12).symm.trans h
            refine fx_ifge_j rfl rfl c_12 ?_
            refine fx_aload rfl rfl ?_
            obtain ⟨q5, e_q5, h⟩ := fx_bd h
            refine fx_call [.ref i0] [] rfl (by decide) rfl rfl rfl rfl rfl (Nat.le_of_ble_eq_true rfl) (fx_rcv h0.1 rfl) (v_M_remembers h0 e_q5) ?_
            refine fx_aload rfl rfl ?_
            refine fx_getV rfl h0.1 rfl rfl ?_
            refine fx_const rfl (show Int32.ofInt 6 = (6 : Int32) by decide) ?_
            refine fx_iload rfl rfl ?_
            refine fx_imul rfl ?_
            refine fx_iload rfl rfl ?_
            refine fx_iadd rfl ?_
            refine fx_dup2 rfl ⟨rfl, rfl⟩ ?_
            refine fx_iaload rfl (fun z => absurd z.1 (by decide)) h0.2.2.2.2.2.2.1 c_3 ?_
            refine fx_iload rfl rfl ?_
            refine fx_iload rfl rfl ?_
            by_cases c_13 : a2 = a2
            · replace h := (if_pos c_13).symm.trans h
              refine fx_icne_s rfl c_13 ?_
              refine fx_const rfl (show Int32.ofInt 1 = (1 : Int32) by decide) ?_
              refine fx_goto rfl rfl ?_
              refine fx_isub rfl ?_
              refine fx_iastore rfl h0.2.2.2.2.2.2.1 c_3 ?_
              refine fx_aload rfl rfl ?_
              refine fx_getV rfl h0.1 rfl rfl ?_
              refine fx_const rfl (show Int32.ofInt 24 = (24 : Int32) by decide) ?_
              refine fx_iload rfl rfl ?_
              refine fx_iadd rfl ?_
              refine fx_iload rfl rfl ?_
              refine fx_iastore rfl h0.2.2.2.2.2.2.1 c_10 ?_
              refine fx_aload rfl rfl ?_
              refine fx_getV rfl h0.1 rfl rfl ?_
              refine fx_const rfl (show Int32.ofInt 6 = (6 : Int32) by decide) ?_
              refine fx_iload rfl rfl ?_
              refine fx_imul rfl ?_
              refine fx_iload rfl rfl ?_
              refine fx_iadd rfl ?_
              refine fx_iaload rfl (fun z => absurd z.1 (by decide)) h0.2.2.2.2.2.2.1 c_3 ?_
              obtain rfl := Option.some.inj h
              exact fx_ret rfl rfl
            · replace h := (if_neg c_13).symm.trans h
              refine fx_icne_j rfl rfl c_13 ?_
              refine fx_const rfl (show Int32.ofInt 2 = (2 : Int32) by decide) ?_
              refine fx_isub rfl ?_
              refine fx_iastore rfl h0.2.2.2.2.2.2.1 c_3 ?_
              refine fx_aload rfl rfl ?_
              refine fx_getV rfl h0.1 rfl rfl ?_
              refine fx_const rfl (show Int32.ofInt 24 = (24 : Int32) by decide) ?_
              refine fx_iload rfl rfl ?_
              refine fx_iadd rfl ?_
              refine fx_iload rfl rfl ?_
              refine fx_iastore rfl h0.2.2.2.2.2.2.1 c_10 ?_
              refine fx_aload rfl rfl ?_
              refine fx_getV rfl h0.1 rfl rfl ?_
              refine fx_const rfl (show Int32.ofInt 6 = (6 : Int32) by decide) ?_
              refine fx_iload rfl rfl ?_
              refine fx_imul rfl ?_
              refine fx_iload rfl rfl ?_
              refine fx_iadd rfl ?_
              refine fx_iaload rfl (fun z => absurd z.1 (by decide)) h0.2.2.2.2.2.2.1 c_3 ?_
              obtain rfl := Option.some.inj h
              exact fx_ret rfl rfl
          · replace h := (if_neg c_12).symm.trans h
            refine fx_ifge_s rfl c_12 ?_
            refine fx_const rfl (show Int32.ofInt (-2) = (-2 : Int32) by decide) ?_
            obtain rfl := Option.some.inj h
            exact fx_ret rfl rfl

def g_M_undo_22 (i0 : Nat) : Nat → fv_M → Int32 → (fv_M → Int32 → Option (Int32 × fv_M)) → Option (Int32 × fv_M)
  | 0, _, _, _ => none
  | n + 1, M, a1, kk => if (45 : Int32) ≤ a1 then (kk M a1) else (fx_ck ((((45 : Int32) * (M i0 11)) + a1) < 0 ∨ 360 ≤ ((((45 : Int32) * (M i0 11)) + a1)).toNatClampNeg) (fx_ck (a1 < 0 ∨ 45 ≤ (a1).toNatClampNeg) (g_M_undo_22 i0 n (fv_set M (i0 + 6) (a1).toNatClampNeg (M (i0 + 8) ((((45 : Int32) * (M i0 11)) + a1)).toNatClampNeg)) (a1 + (1 : Int32)) kk)))
theorem v_M_undo_22 {X : fv_X} {sh : fv_Sh} {k : Nat × Nat} {i0 : Nat} {r : Int32 × fv_M} {kk : fv_M → Int32 → Option (Int32 × fv_M)} (h0 : fx_atM sh i0) (K : ∀ (M : fv_M) (a1 : Int32), kk M a1 = some r → fv_Rn X 151 54 [some (.ref i0), some (.int a1)] [] k sh M (some (.int r.1), sh, r.2)) : ∀ (n : Nat) (M : fv_M) (a1 : Int32), g_M_undo_22 i0 n M a1 kk = some r → fv_Rn X 151 22 [some (.ref i0), some (.int a1)] [] k sh M (some (.int r.1), sh, r.2) := by
  intro n
  induction n with
  | zero =>
    intro M a1 h
    replace h : (none : Option (Int32 × fv_M)) = some r := h
    cases h
  | succ n ih =>
    intro M a1 h
    rw [g_M_undo_22] at h
    refine fx_iload rfl rfl ?_
    refine fx_const rfl (show Int32.ofInt 45 = (45 : Int32) by decide) ?_
    by_cases c_2 : (45 : Int32) ≤ a1
    · replace h := (if_pos c_2).symm.trans h
      refine fx_icge_j rfl rfl c_2 ?_
      exact K _ _ h
    · replace h := (if_neg c_2).symm.trans h
      refine fx_icge_s rfl c_2 ?_
      refine fx_aload rfl rfl ?_
      refine fx_getV rfl h0.1 rfl rfl ?_
      refine fx_iload rfl rfl ?_
      refine fx_aload rfl rfl ?_
      refine fx_getV rfl h0.1 rfl rfl ?_
      refine fx_const rfl (show Int32.ofInt 45 = (45 : Int32) by decide) ?_
      refine fx_aload rfl rfl ?_
      refine fx_getI rfl h0.1 rfl rfl ?_
      refine fx_imul rfl ?_
      refine fx_iload rfl rfl ?_
      refine fx_iadd rfl ?_
      obtain ⟨c_3, h⟩ := fx_ck_some h
      refine fx_iaload rfl (fun z => absurd z.1 (by decide)) h0.2.2.2.2.2.2.2.2.1 c_3 ?_
      obtain ⟨c_4, h⟩ := fx_ck_some h
      refine fx_iastore rfl h0.2.2.2.2.2.2.1 c_4 ?_
      refine fx_iinc rfl (show Int32.ofInt 1 = (1 : Int32) by decide) rfl rfl ?_
      refine fx_back rfl rfl rfl ?_
      exact ih _ _ h
def g_M_undo (M : fv_M) (i0 : Nat) : Option (Int32 × fv_M) := if (M i0 11) = 0 then (some ((-2 : Int32), M)) else (g_M_undo_22 i0 fx_FU (fv_set M i0 11 ((M i0 11) - (1 : Int32))) (0 : Int32) (fun M_1 b1_1 => some ((M_1 i0 11), M_1)))
theorem v_M_undo {X : fv_X} {sh : fv_Sh} {k : Nat × Nat} {M : fv_M} {i0 : Nat} {r : Int32 × fv_M} (h0 : fx_atM sh i0) (h : g_M_undo M i0 = some r) : fv_Rn X 151 0 [some (.ref i0)] [] k sh M (some (.int r.1), sh, r.2) := by
  unfold g_M_undo at h
  refine fx_aload rfl rfl ?_
  refine fx_getI rfl h0.1 rfl rfl ?_
  by_cases c_1 : (M i0 11) = 0
  · replace h := (if_pos c_1).symm.trans h
    refine fx_ifne_s rfl c_1 ?_
    refine fx_const rfl (show Int32.ofInt (-2) = (-2 : Int32) by decide) ?_
    obtain rfl := Option.some.inj h
    exact fx_ret rfl rfl
  · replace h := (if_neg c_1).symm.trans h
    refine fx_ifne_j rfl rfl c_1 ?_
    refine fx_aload rfl rfl ?_
    refine fx_dup rfl rfl ?_
    refine fx_getI rfl h0.1 rfl rfl ?_
    refine fx_const rfl (show Int32.ofInt 1 = (1 : Int32) by decide) ?_
    refine fx_isub rfl ?_
    refine fx_putI rfl h0.1 rfl rfl rfl ?_
    refine fx_const rfl (show Int32.ofInt 0 = (0 : Int32) by decide) ?_
    refine fx_istore rfl rfl ?_
    refine v_M_undo_22 h0 (fun M_1 b1_1 h => ?_) fx_FU _ _ h
    refine fx_aload rfl rfl ?_
    refine fx_getI rfl h0.1 rfl rfl ?_
    obtain rfl := Option.some.inj h
    exact fx_ret rfl rfl

def g_M_behind (M : fv_M) (i0 : Nat) (a1 : Int32) (a2 : Int32) (a3 : Int32) (a4 : Int32) : Option (Int32 × fv_M) := (g_M_in M a1 (0 : Int32) (40 : Int32)).bind fun q1 => if q1 = 0 then (some ((-1 : Int32), M)) else ((g_M_isVillage M i0 a2).bind fun q2 => if q2 = 0 then (some ((-1 : Int32), M)) else ((g_M_isVerb M i0 a3).bind fun q3 => if q3 = 0 then (some ((-1 : Int32), M)) else ((g_M_in M a4 (0 : Int32) (2 : Int32)).bind fun q4 => if q4 = 0 then (some ((-1 : Int32), M)) else ((g_M_from M i0 (i0 + 6) 45).bind fun q5 => (g_M_goesOn q5 i0 a1).bind fun q6 => if a4 = 0 then (fx_ck ((((6 : Int32) * a2) + a3) < 0 ∨ 45 ≤ ((((6 : Int32) * a2) + a3)).toNatClampNeg) (some ((q6 (i0 + 18) ((((6 : Int32) * a2) + a3)).toNatClampNeg), q6))) else (if a4 = (1 : Int32) then ((g_M_worthOf q6 i0 a2).bind fun q7 => some (q7, q6)) else ((g_M_forgottenOf q6 i0 a2).bind fun q8 => some (q8, q6)))))))
theorem v_M_behind {X : fv_X} {sh : fv_Sh} {k : Nat × Nat} {M : fv_M} {i0 : Nat} {a1 : Int32} {a2 : Int32} {a3 : Int32} {a4 : Int32} {r : Int32 × fv_M} (h0 : fx_atM sh i0) (h : g_M_behind M i0 a1 a2 a3 a4 = some r) : fv_Rn X 152 0 [some (.ref i0), some (.int a1), some (.int a2), some (.int a3), some (.int a4)] [] k sh M (some (.int r.1), sh, r.2) := by
  unfold g_M_behind at h
  refine fx_iload rfl rfl ?_
  refine fx_const rfl (show Int32.ofInt 0 = (0 : Int32) by decide) ?_
  refine fx_const rfl (show Int32.ofInt 40 = (40 : Int32) by decide) ?_
  obtain ⟨q1, e_q1, h⟩ := fx_bd h
  refine fx_call [.int a1, .int (0 : Int32), .int (40 : Int32)] [] rfl (by decide) rfl rfl rfl rfl rfl (Nat.le_of_ble_eq_true rfl) rfl (v_M_in  e_q1) ?_
  by_cases c_1 : q1 = 0
  · replace h := (if_pos c_1).symm.trans h
    refine fx_ifeq_j rfl rfl c_1 ?_
    refine fx_const rfl (show Int32.ofInt (-1) = (-1 : Int32) by decide) ?_
    obtain rfl := Option.some.inj h
    exact fx_ret rfl rfl
  · replace h := (if_neg c_1).symm.trans h
    refine fx_ifeq_s rfl c_1 ?_
    refine fx_aload rfl rfl ?_
    refine fx_iload rfl rfl ?_
    obtain ⟨q2, e_q2, h⟩ := fx_bd h
    refine fx_call [.ref i0, .int a2] [] rfl (by decide) rfl rfl rfl rfl rfl (Nat.le_of_ble_eq_true rfl) (fx_rcv h0.1 rfl) (v_M_isVillage h0 e_q2) ?_
    by_cases c_2 : q2 = 0
    · replace h := (if_pos c_2).symm.trans h
      refine fx_ifeq_j rfl rfl c_2 ?_
      refine fx_const rfl (show Int32.ofInt (-1) = (-1 : Int32) by decide) ?_
      obtain rfl := Option.some.inj h
      exact fx_ret rfl rfl
    · replace h := (if_neg c_2).symm.trans h
      refine fx_ifeq_s rfl c_2 ?_
      refine fx_aload rfl rfl ?_
      refine fx_iload rfl rfl ?_
      obtain ⟨q3, e_q3, h⟩ := fx_bd h
      refine fx_call [.ref i0, .int a3] [] rfl (by decide) rfl rfl rfl rfl rfl (Nat.le_of_ble_eq_true rfl) (fx_rcv h0.1 rfl) (v_M_isVerb h0 e_q3) ?_
      by_cases c_3 : q3 = 0
      · replace h := (if_pos c_3).symm.trans h
        refine fx_ifeq_j rfl rfl c_3 ?_
        refine fx_const rfl (show Int32.ofInt (-1) = (-1 : Int32) by decide) ?_
        obtain rfl := Option.some.inj h
        exact fx_ret rfl rfl
      · replace h := (if_neg c_3).symm.trans h
        refine fx_ifeq_s rfl c_3 ?_
        refine fx_iload rfl rfl ?_
        refine fx_const rfl (show Int32.ofInt 0 = (0 : Int32) by decide) ?_
        refine fx_const rfl (show Int32.ofInt 2 = (2 : Int32) by decide) ?_
        obtain ⟨q4, e_q4, h⟩ := fx_bd h
        refine fx_call [.int a4, .int (0 : Int32), .int (2 : Int32)] [] rfl (by decide) rfl rfl rfl rfl rfl (Nat.le_of_ble_eq_true rfl) rfl (v_M_in  e_q4) ?_
        by_cases c_4 : q4 = 0
        · replace h := (if_pos c_4).symm.trans h
          refine fx_ifne_s rfl c_4 ?_
          refine fx_const rfl (show Int32.ofInt (-1) = (-1 : Int32) by decide) ?_
          obtain rfl := Option.some.inj h
          exact fx_ret rfl rfl
        · replace h := (if_neg c_4).symm.trans h
          refine fx_ifne_j rfl rfl c_4 ?_
          refine fx_aload rfl rfl ?_
          refine fx_aload rfl rfl ?_
          refine fx_getV rfl h0.1 rfl rfl ?_
          obtain ⟨q5, e_q5, h⟩ := fx_bd h
          refine fx_call [.ref i0, .ref (i0 + 6)] [] rfl (by decide) rfl rfl rfl rfl rfl (Nat.le_of_ble_eq_true rfl) (fx_rcv h0.1 rfl) (v_M_from h0 h0.2.2.2.2.2.2.1 e_q5) ?_
          refine fx_aload rfl rfl ?_
          refine fx_iload rfl rfl ?_
          obtain ⟨q6, e_q6, h⟩ := fx_bd h
          refine fx_call [.ref i0, .int a1] [] rfl (by decide) rfl rfl rfl rfl rfl (Nat.le_of_ble_eq_true rfl) (fx_rcv h0.1 rfl) (v_M_goesOn h0 e_q6) ?_
          refine fx_iload rfl rfl ?_
          by_cases c_5 : a4 = 0
          · replace h := (if_pos c_5).symm.trans h
            refine fx_ifne_s rfl c_5 ?_
            refine fx_aload rfl rfl ?_
            refine fx_getV rfl h0.1 rfl rfl ?_
            refine fx_const rfl (show Int32.ofInt 6 = (6 : Int32) by decide) ?_
            refine fx_iload rfl rfl ?_
            refine fx_imul rfl ?_
            refine fx_iload rfl rfl ?_
            refine fx_iadd rfl ?_
            obtain ⟨c_6, h⟩ := fx_ck_some h
            refine fx_iaload rfl (fun z => absurd z.1 (by decide)) h0.2.2.2.2.2.2.2.2.2.2.2.2.2.2.2.2.2.2 c_6 ?_
            refine fx_goto rfl rfl ?_
            obtain rfl := Option.some.inj h
            exact fx_ret rfl rfl
          · replace h := (if_neg c_5).symm.trans h
            refine fx_ifne_j rfl rfl c_5 ?_
            refine fx_iload rfl rfl ?_
            refine fx_const rfl (show Int32.ofInt 1 = (1 : Int32) by decide) ?_
            by_cases c_7 : a4 = (1 : Int32)
            · replace h := (if_pos c_7).symm.trans h
              refine fx_icne_s rfl c_7 ?_
              refine fx_aload rfl rfl ?_
              refine fx_iload rfl rfl ?_
              obtain ⟨q7, e_q7, h⟩ := fx_bd h
              refine fx_call [.ref i0, .int a2] [] rfl (by decide) rfl rfl rfl rfl rfl (Nat.le_of_ble_eq_true rfl) (fx_rcv h0.1 rfl) (v_M_worthOf h0 e_q7) ?_
              refine fx_goto rfl rfl ?_
              obtain rfl := Option.some.inj h
              exact fx_ret rfl rfl
            · replace h := (if_neg c_7).symm.trans h
              refine fx_icne_j rfl rfl c_7 ?_
              refine fx_aload rfl rfl ?_
              refine fx_iload rfl rfl ?_
              obtain ⟨q8, e_q8, h⟩ := fx_bd h
              refine fx_call [.ref i0, .int a2] [] rfl (by decide) rfl rfl rfl rfl rfl (Nat.le_of_ble_eq_true rfl) (fx_rcv h0.1 rfl) (v_M_forgottenOf h0 e_q8) ?_
              obtain rfl := Option.some.inj h
              exact fx_ret rfl rfl

def g_M_silent_35 (M : fv_M) (i0 : Nat) (a1 : Int32) (a2 : Int32) (a3 : Int32) : Nat → Int32 → (Int32 → Option (Int32 × fv_M)) → Option (Int32 × fv_M)
  | 0, _, _ => none
  | n + 1, a4, kk => if (M i0 6) ≤ a4 then (kk a4) else ((g_M_isIn M a3 a4).bind fun q4 => if q4 = 0 then (if a1 = 0 then (some (a4, M)) else (some (a2, M))) else (g_M_silent_35 M i0 a1 a2 a3 n (a4 + (1 : Int32)) kk))
theorem v_M_silent_35 {X : fv_X} {sh : fv_Sh} {k : Nat × Nat} {M : fv_M} {i0 : Nat} {a1 : Int32} {a2 : Int32} {a3 : Int32} {r : Int32 × fv_M} {kk : Int32 → Option (Int32 × fv_M)} (h0 : fx_atM sh i0) (K : ∀ (a4 : Int32), kk a4 = some r → fv_Rn X 153 70 [some (.ref i0), some (.int a1), some (.int a2), some (.int a3), some (.int a4)] [] k sh M (some (.int r.1), sh, r.2)) : ∀ (n : Nat) (a4 : Int32), g_M_silent_35 M i0 a1 a2 a3 n a4 kk = some r → fv_Rn X 153 35 [some (.ref i0), some (.int a1), some (.int a2), some (.int a3), some (.int a4)] [] k sh M (some (.int r.1), sh, r.2) := by
  intro n
  induction n with
  | zero =>
    intro a4 h
    replace h : (none : Option (Int32 × fv_M)) = some r := h
    cases h
  | succ n ih =>
    intro a4 h
    rw [g_M_silent_35] at h
    refine fx_iload rfl rfl ?_
    refine fx_aload rfl rfl ?_
    refine fx_getI rfl h0.1 rfl rfl ?_
    by_cases c_3 : (M i0 6) ≤ a4
    · replace h := (if_pos c_3).symm.trans h
      refine fx_icge_j rfl rfl c_3 ?_
      exact K _ h
    · replace h := (if_neg c_3).symm.trans h
      refine fx_icge_s rfl c_3 ?_
      refine fx_iload rfl rfl ?_
      refine fx_iload rfl rfl ?_
      obtain ⟨q4, e_q4, h⟩ := fx_bd h
      refine fx_call [.int a3, .int a4] [] rfl (by decide) rfl rfl rfl rfl rfl (Nat.le_of_ble_eq_true rfl) rfl (v_M_isIn  e_q4) ?_
      by_cases c_4 : q4 = 0
      · replace h := (if_pos c_4).symm.trans h
        refine fx_ifne_s rfl c_4 ?_
        refine fx_iload rfl rfl ?_
        by_cases c_5 : a1 = 0
        · replace h := (if_pos c_5).symm.trans h
          refine fx_ifne_s rfl c_5 ?_
          refine fx_iload rfl rfl ?_
          refine fx_goto rfl rfl ?_
          obtain rfl := Option.some.inj h
          exact fx_ret rfl rfl
        · replace h := (if_neg c_5).symm.trans h
          refine fx_ifne_j rfl rfl c_5 ?_
          refine fx_iload rfl rfl ?_
          obtain rfl := Option.some.inj h
          exact fx_ret rfl rfl
      · replace h := (if_neg c_4).symm.trans h
        refine fx_ifne_j rfl rfl c_4 ?_
        refine fx_iinc rfl (show Int32.ofInt 1 = (1 : Int32) by decide) rfl rfl ?_
        refine fx_back rfl rfl rfl ?_
        exact ih _ h
def g_M_silent_21 (i0 : Nat) (a1 : Int32) : Nat → fv_M → Int32 → (fv_M → Int32 → Option (Int32 × fv_M)) → Option (Int32 × fv_M)
  | 0, _, _, _ => none
  | n + 1, M, a2, kk => if (40 : Int32) < a2 then (kk M a2) else ((g_M_goes M i0).bind fun q3 => g_M_silent_35 q3.2 i0 a1 a2 q3.1 fx_FU (0 : Int32) (fun b4_5 => g_M_silent_21 i0 a1 n q3.2 (a2 + (1 : Int32)) kk))
theorem v_M_silent_21 {X : fv_X} {sh : fv_Sh} {k : Nat × Nat} {i0 : Nat} {a1 : Int32} {r : Int32 × fv_M} {kk : fv_M → Int32 → Option (Int32 × fv_M)} (h0 : fx_atM sh i0) (K : ∀ (M : fv_M) (a2 : Int32), kk M a2 = some r → fv_Rn X 153 76 [some (.ref i0), some (.int a1), some (.int a2)] [] k sh M (some (.int r.1), sh, r.2)) : ∀ (n : Nat) (M : fv_M) (a2 : Int32), g_M_silent_21 i0 a1 n M a2 kk = some r → fv_Rn X 153 21 [some (.ref i0), some (.int a1), some (.int a2)] [] k sh M (some (.int r.1), sh, r.2) := by
  intro n
  induction n with
  | zero =>
    intro M a2 h
    replace h : (none : Option (Int32 × fv_M)) = some r := h
    cases h
  | succ n ih =>
    intro M a2 h
    rw [g_M_silent_21] at h
    refine fx_iload rfl rfl ?_
    refine fx_const rfl (show Int32.ofInt 40 = (40 : Int32) by decide) ?_
    by_cases c_2 : (40 : Int32) < a2
    · replace h := (if_pos c_2).symm.trans h
      refine fx_icgt_j rfl rfl c_2 ?_
      exact K _ _ h
    · replace h := (if_neg c_2).symm.trans h
      refine fx_icgt_s rfl c_2 ?_
      refine fx_aload rfl rfl ?_
      obtain ⟨q3, e_q3, h⟩ := fx_bd h
      refine fx_call [.ref i0] [] rfl (by decide) rfl rfl rfl rfl rfl (Nat.le_of_ble_eq_true rfl) (fx_rcv h0.1 rfl) (v_M_goes h0 e_q3) ?_
      refine fx_istore rfl rfl ?_
      refine fx_const rfl (show Int32.ofInt 0 = (0 : Int32) by decide) ?_
      refine fx_istore rfl rfl ?_
      refine v_M_silent_35 h0 (fun b4_5 h => ?_) fx_FU _ h
      refine fx_iinc rfl (show Int32.ofInt 1 = (1 : Int32) by decide) rfl rfl ?_
      refine fx_back rfl rfl rfl ?_
      exact ih _ _ h
def g_M_silent (M : fv_M) (i0 : Nat) (a1 : Int32) : Option (Int32 × fv_M) := (g_M_in M a1 (0 : Int32) (1 : Int32)).bind fun q1 => if q1 = 0 then (some ((-1 : Int32), M)) else ((g_M_from M i0 (i0 + 6) 45).bind fun q2 => g_M_silent_21 i0 a1 fx_FU q2 (1 : Int32) (fun M_6 b2_6 => some ((-4 : Int32), M_6)))
theorem v_M_silent {X : fv_X} {sh : fv_Sh} {k : Nat × Nat} {M : fv_M} {i0 : Nat} {a1 : Int32} {r : Int32 × fv_M} (h0 : fx_atM sh i0) (h : g_M_silent M i0 a1 = some r) : fv_Rn X 153 0 [some (.ref i0), some (.int a1)] [] k sh M (some (.int r.1), sh, r.2) := by
  unfold g_M_silent at h
  refine fx_iload rfl rfl ?_
  refine fx_const rfl (show Int32.ofInt 0 = (0 : Int32) by decide) ?_
  refine fx_const rfl (show Int32.ofInt 1 = (1 : Int32) by decide) ?_
  obtain ⟨q1, e_q1, h⟩ := fx_bd h
  refine fx_call [.int a1, .int (0 : Int32), .int (1 : Int32)] [] rfl (by decide) rfl rfl rfl rfl rfl (Nat.le_of_ble_eq_true rfl) rfl (v_M_in  e_q1) ?_
  by_cases c_1 : q1 = 0
  · replace h := (if_pos c_1).symm.trans h
    refine fx_ifne_s rfl c_1 ?_
    refine fx_const rfl (show Int32.ofInt (-1) = (-1 : Int32) by decide) ?_
    obtain rfl := Option.some.inj h
    exact fx_ret rfl rfl
  · replace h := (if_neg c_1).symm.trans h
    refine fx_ifne_j rfl rfl c_1 ?_
    refine fx_aload rfl rfl ?_
    refine fx_aload rfl rfl ?_
    refine fx_getV rfl h0.1 rfl rfl ?_
    obtain ⟨q2, e_q2, h⟩ := fx_bd h
    refine fx_call [.ref i0, .ref (i0 + 6)] [] rfl (by decide) rfl rfl rfl rfl rfl (Nat.le_of_ble_eq_true rfl) (fx_rcv h0.1 rfl) (v_M_from h0 h0.2.2.2.2.2.2.1 e_q2) ?_
    refine fx_const rfl (show Int32.ofInt 1 = (1 : Int32) by decide) ?_
    refine fx_istore rfl rfl ?_
    refine v_M_silent_21 h0 (fun M_6 b2_6 h => ?_) fx_FU _ _ h
    refine fx_const rfl (show Int32.ofInt (-4) = (-4 : Int32) by decide) ?_
    obtain rfl := Option.some.inj h
    exact fx_ret rfl rfl

def g_M_lasts_20 (i0 : Nat) (a1 : Int32) : Nat → fv_M → Int32 → (fv_M → Int32 → Option (Int32 × fv_M)) → Option (Int32 × fv_M)
  | 0, _, _, _ => none
  | n + 1, M, a2, kk => if (41 : Int32) ≤ a2 then (kk M a2) else ((g_M_goes M i0).bind fun q3 => (g_M_forgottenOf q3.2 i0 a1).bind fun q4 => if q4 ≤ 0 then (g_M_lasts_20 i0 a1 n q3.2 (a2 + (1 : Int32)) kk) else (some (a2, q3.2)))
theorem v_M_lasts_20 {X : fv_X} {sh : fv_Sh} {k : Nat × Nat} {i0 : Nat} {a1 : Int32} {r : Int32 × fv_M} {kk : fv_M → Int32 → Option (Int32 × fv_M)} (h0 : fx_atM sh i0) (K : ∀ (M : fv_M) (a2 : Int32), kk M a2 = some r → fv_Rn X 154 47 [some (.ref i0), some (.int a1), some (.int a2)] [] k sh M (some (.int r.1), sh, r.2)) : ∀ (n : Nat) (M : fv_M) (a2 : Int32), g_M_lasts_20 i0 a1 n M a2 kk = some r → fv_Rn X 154 20 [some (.ref i0), some (.int a1), some (.int a2)] [] k sh M (some (.int r.1), sh, r.2) := by
  intro n
  induction n with
  | zero =>
    intro M a2 h
    replace h : (none : Option (Int32 × fv_M)) = some r := h
    cases h
  | succ n ih =>
    intro M a2 h
    rw [g_M_lasts_20] at h
    refine fx_iload rfl rfl ?_
    refine fx_const rfl (show Int32.ofInt 41 = (41 : Int32) by decide) ?_
    by_cases c_2 : (41 : Int32) ≤ a2
    · replace h := (if_pos c_2).symm.trans h
      refine fx_icge_j rfl rfl c_2 ?_
      exact K _ _ h
    · replace h := (if_neg c_2).symm.trans h
      refine fx_icge_s rfl c_2 ?_
      refine fx_aload rfl rfl ?_
      obtain ⟨q3, e_q3, h⟩ := fx_bd h
      refine fx_call [.ref i0] [] rfl (by decide) rfl rfl rfl rfl rfl (Nat.le_of_ble_eq_true rfl) (fx_rcv h0.1 rfl) (v_M_goes h0 e_q3) ?_
      refine fx_pop rfl rfl ?_
      refine fx_aload rfl rfl ?_
      refine fx_iload rfl rfl ?_
      obtain ⟨q4, e_q4, h⟩ := fx_bd h
      refine fx_call [.ref i0, .int a1] [] rfl (by decide) rfl rfl rfl rfl rfl (Nat.le_of_ble_eq_true rfl) (fx_rcv h0.1 rfl) (v_M_forgottenOf h0 e_q4) ?_
      by_cases c_3 : q4 ≤ 0
      · replace h := (if_pos c_3).symm.trans h
        refine fx_ifle_j rfl rfl c_3 ?_
        refine fx_iinc rfl (show Int32.ofInt 1 = (1 : Int32) by decide) rfl rfl ?_
        refine fx_back rfl rfl rfl ?_
        exact ih _ _ h
      · replace h := (if_neg c_3).symm.trans h
        refine fx_ifle_s rfl c_3 ?_
        refine fx_iload rfl rfl ?_
        obtain rfl := Option.some.inj h
        exact fx_ret rfl rfl
def g_M_lasts (M : fv_M) (i0 : Nat) (a1 : Int32) : Option (Int32 × fv_M) := (g_M_isVillage M i0 a1).bind fun q1 => if q1 = 0 then (some ((-1 : Int32), M)) else ((g_M_from M i0 (i0 + 6) 45).bind fun q2 => g_M_lasts_20 i0 a1 fx_FU q2 (0 : Int32) (fun M_5 b2_5 => some (b2_5, M_5)))
theorem v_M_lasts {X : fv_X} {sh : fv_Sh} {k : Nat × Nat} {M : fv_M} {i0 : Nat} {a1 : Int32} {r : Int32 × fv_M} (h0 : fx_atM sh i0) (h : g_M_lasts M i0 a1 = some r) : fv_Rn X 154 0 [some (.ref i0), some (.int a1)] [] k sh M (some (.int r.1), sh, r.2) := by
  unfold g_M_lasts at h
  refine fx_aload rfl rfl ?_
  refine fx_iload rfl rfl ?_
  obtain ⟨q1, e_q1, h⟩ := fx_bd h
  refine fx_call [.ref i0, .int a1] [] rfl (by decide) rfl rfl rfl rfl rfl (Nat.le_of_ble_eq_true rfl) (fx_rcv h0.1 rfl) (v_M_isVillage h0 e_q1) ?_
  by_cases c_1 : q1 = 0
  · replace h := (if_pos c_1).symm.trans h
    refine fx_ifne_s rfl c_1 ?_
    refine fx_const rfl (show Int32.ofInt (-1) = (-1 : Int32) by decide) ?_
    obtain rfl := Option.some.inj h
    exact fx_ret rfl rfl
  · replace h := (if_neg c_1).symm.trans h
    refine fx_ifne_j rfl rfl c_1 ?_
    refine fx_aload rfl rfl ?_
    refine fx_aload rfl rfl ?_
    refine fx_getV rfl h0.1 rfl rfl ?_
    obtain ⟨q2, e_q2, h⟩ := fx_bd h
    refine fx_call [.ref i0, .ref (i0 + 6)] [] rfl (by decide) rfl rfl rfl rfl rfl (Nat.le_of_ble_eq_true rfl) (fx_rcv h0.1 rfl) (v_M_from h0 h0.2.2.2.2.2.2.1 e_q2) ?_
    refine fx_const rfl (show Int32.ofInt 0 = (0 : Int32) by decide) ?_
    refine fx_istore rfl rfl ?_
    refine v_M_lasts_20 h0 (fun M_5 b2_5 h => ?_) fx_FU _ _ h
    refine fx_iload rfl rfl ?_
    obtain rfl := Option.some.inj h
    exact fx_ret rfl rfl

def g_M_needOf_5 (M : fv_M) (i0 : Nat) (a1 : Int32) (a2 : Int32) : Nat → Int32 → Int32 → (Int32 → Int32 → Option (Int32)) → Option (Int32)
  | 0, _, _, _ => none
  | n + 1, a3, a4, kk => if (M i0 6) ≤ a4 then (kk a3 a4) else (fx_ck (((3 : Int32) * a4) < 0 ∨ 24 ≤ (((3 : Int32) * a4)).toNatClampNeg) (if (M (i0 + 4) (((3 : Int32) * a4)).toNatClampNeg) = a1 then (fx_ck ((((3 : Int32) * a4) + (1 : Int32)) < 0 ∨ 24 ≤ ((((3 : Int32) * a4) + (1 : Int32))).toNatClampNeg) (if (M (i0 + 4) ((((3 : Int32) * a4) + (1 : Int32))).toNatClampNeg) = a2 then (g_M_needOf_5 M i0 a1 a2 n (a3 + (1 : Int32)) (a4 + (1 : Int32)) kk) else (g_M_needOf_5 M i0 a1 a2 n (a3 + (0 : Int32)) (a4 + (1 : Int32)) kk))) else (g_M_needOf_5 M i0 a1 a2 n (a3 + (0 : Int32)) (a4 + (1 : Int32)) kk)))
theorem v_M_needOf_5 {X : fv_X} {sh : fv_Sh} {k : Nat × Nat} {M : fv_M} {i0 : Nat} {a1 : Int32} {a2 : Int32} {r : Int32} {kk : Int32 → Int32 → Option (Int32)} (h0 : fx_atM sh i0) (K : ∀ (a3 a4 : Int32), kk a3 a4 = some r → fv_Rn X 155 56 [some (.ref i0), some (.int a1), some (.int a2), some (.int a3), some (.int a4)] [] k sh M (some (.int r), sh, M)) : ∀ (n : Nat) (a3 a4 : Int32), g_M_needOf_5 M i0 a1 a2 n a3 a4 kk = some r → fv_Rn X 155 5 [some (.ref i0), some (.int a1), some (.int a2), some (.int a3), some (.int a4)] [] k sh M (some (.int r), sh, M) := by
  intro n
  induction n with
  | zero =>
    intro a3 a4 h
    replace h : (none : Option (Int32)) = some r := h
    cases h
  | succ n ih =>
    intro a3 a4 h
    rw [g_M_needOf_5] at h
    refine fx_iload rfl rfl ?_
    refine fx_aload rfl rfl ?_
    refine fx_getI rfl h0.1 rfl rfl ?_
    by_cases c_1 : (M i0 6) ≤ a4
    · replace h := (if_pos c_1).symm.trans h
      refine fx_icge_j rfl rfl c_1 ?_
      exact K _ _ h
    · replace h := (if_neg c_1).symm.trans h
      refine fx_icge_s rfl c_1 ?_
      refine fx_iload rfl rfl ?_
      refine fx_aload rfl rfl ?_
      refine fx_getV rfl h0.1 rfl rfl ?_
      refine fx_const rfl (show Int32.ofInt 3 = (3 : Int32) by decide) ?_
      refine fx_iload rfl rfl ?_
      refine fx_imul rfl ?_
      obtain ⟨c_2, h⟩ := fx_ck_some h
      refine fx_iaload rfl (fun z => absurd z.1 (by decide)) h0.2.2.2.2.1 c_2 ?_
      refine fx_iload rfl rfl ?_
      by_cases c_3 : (M (i0 + 4) (((3 : Int32) * a4)).toNatClampNeg) = a1
      · replace h := (if_pos c_3).symm.trans h
        refine fx_icne_s rfl c_3 ?_
        refine fx_aload rfl rfl ?_
        refine fx_getV rfl h0.1 rfl rfl ?_
        refine fx_const rfl (show Int32.ofInt 3 = (3 : Int32) by decide) ?_
        refine fx_iload rfl rfl ?_
        refine fx_imul rfl ?_
        refine fx_const rfl (show Int32.ofInt 1 = (1 : Int32) by decide) ?_
        refine fx_iadd rfl ?_
        obtain ⟨c_4, h⟩ := fx_ck_some h
        refine fx_iaload rfl (fun z => absurd z.1 (by decide)) h0.2.2.2.2.1 c_4 ?_
        refine fx_iload rfl rfl ?_
        by_cases c_5 : (M (i0 + 4) ((((3 : Int32) * a4) + (1 : Int32))).toNatClampNeg) = a2
        · replace h := (if_pos c_5).symm.trans h
          refine fx_icne_s rfl c_5 ?_
          refine fx_const rfl (show Int32.ofInt 1 = (1 : Int32) by decide) ?_
          refine fx_goto rfl rfl ?_
          refine fx_iadd rfl ?_
          refine fx_istore rfl rfl ?_
          refine fx_iinc rfl (show Int32.ofInt 1 = (1 : Int32) by decide) rfl rfl ?_
          refine fx_back rfl rfl rfl ?_
          exact ih _ _ h
        · replace h := (if_neg c_5).symm.trans h
          refine fx_icne_j rfl rfl c_5 ?_
          refine fx_const rfl (show Int32.ofInt 0 = (0 : Int32) by decide) ?_
          refine fx_iadd rfl ?_
          refine fx_istore rfl rfl ?_
          refine fx_iinc rfl (show Int32.ofInt 1 = (1 : Int32) by decide) rfl rfl ?_
          refine fx_back rfl rfl rfl ?_
          exact ih _ _ h
      · replace h := (if_neg c_3).symm.trans h
        refine fx_icne_j rfl rfl c_3 ?_
        refine fx_const rfl (show Int32.ofInt 0 = (0 : Int32) by decide) ?_
        refine fx_iadd rfl ?_
        refine fx_istore rfl rfl ?_
        refine fx_iinc rfl (show Int32.ofInt 1 = (1 : Int32) by decide) rfl rfl ?_
        refine fx_back rfl rfl rfl ?_
        exact ih _ _ h
def g_M_needOf (M : fv_M) (i0 : Nat) (a1 : Int32) (a2 : Int32) : Option (Int32) := g_M_needOf_5 M i0 a1 a2 fx_FU (0 : Int32) (0 : Int32) (fun b3_1 b4_1 => if b3_1 = 0 then (some (0 : Int32)) else (fx_ck (a1 < 0 ∨ 4 ≤ (a1).toNatClampNeg) ((g_M_isIn M (M (i0 + 5) (a1).toNatClampNeg) a2).bind fun q2 => if q2 = 0 then (fx_ck (((2 : Int32) * a2) < 0 ∨ 12 ≤ (((2 : Int32) * a2)).toNatClampNeg) (if (M (i0 + 1) (((2 : Int32) * a2)).toNatClampNeg) = (3 : Int32) then (some (((2 : Int32) * b3_1) - (1 : Int32))) else (if (M (i0 + 1) (((2 : Int32) * a2)).toNatClampNeg) = (1 : Int32) then (if ((M (i0 + 6) ((44 : Int32)).toNatClampNeg) - (M (i0 + 6) ((44 : Int32)).toNatClampNeg) / (2 : Int32) * (2 : Int32)) = 0 then (some (1 : Int32)) else (some b3_1)) else (some b3_1)))) else (some (0 : Int32)))))
theorem v_M_needOf {X : fv_X} {sh : fv_Sh} {k : Nat × Nat} {M : fv_M} {i0 : Nat} {a1 : Int32} {a2 : Int32} {r : Int32} (h0 : fx_atM sh i0) (h : g_M_needOf M i0 a1 a2 = some r) : fv_Rn X 155 0 [some (.ref i0), some (.int a1), some (.int a2)] [] k sh M (some (.int r), sh, M) := by
  unfold g_M_needOf at h
  refine fx_const rfl (show Int32.ofInt 0 = (0 : Int32) by decide) ?_
  refine fx_istore rfl rfl ?_
  refine fx_const rfl (show Int32.ofInt 0 = (0 : Int32) by decide) ?_
  refine fx_istore rfl rfl ?_
  refine v_M_needOf_5 h0 (fun b3_1 b4_1 h => ?_) fx_FU _ _ h
  refine fx_iload rfl rfl ?_
  by_cases c_6 : b3_1 = 0
  · replace h := (if_pos c_6).symm.trans h
    refine fx_ifeq_j rfl rfl c_6 ?_
    refine fx_const rfl (show Int32.ofInt 0 = (0 : Int32) by decide) ?_
    obtain rfl := Option.some.inj h
    exact fx_ret rfl rfl
  · replace h := (if_neg c_6).symm.trans h
    refine fx_ifeq_s rfl c_6 ?_
    refine fx_aload rfl rfl ?_
    refine fx_getV rfl h0.1 rfl rfl ?_
    refine fx_iload rfl rfl ?_
    obtain ⟨c_7, h⟩ := fx_ck_some h
    refine fx_iaload rfl (fun z => absurd z.1 (by decide)) h0.2.2.2.2.2.1 c_7 ?_
    refine fx_iload rfl rfl ?_
    obtain ⟨q2, e_q2, h⟩ := fx_bd h
    refine fx_call [.int (M (i0 + 5) (a1).toNatClampNeg), .int a2] [] rfl (by decide) rfl rfl rfl rfl rfl (Nat.le_of_ble_eq_true rfl) rfl (v_M_isIn  e_q2) ?_
    by_cases c_8 : q2 = 0
    · replace h := (if_pos c_8).symm.trans h
      refine fx_ifeq_j rfl rfl c_8 ?_
      refine fx_aload rfl rfl ?_
      refine fx_getV rfl h0.1 rfl rfl ?_
      refine fx_const rfl (show Int32.ofInt 2 = (2 : Int32) by decide) ?_
      refine fx_iload rfl rfl ?_
      refine fx_imul rfl ?_
      obtain ⟨c_9, h⟩ := fx_ck_some h
      refine fx_iaload rfl (fun z => absurd z.1 (by decide)) h0.2.1 c_9 ?_
      refine fx_const rfl (show Int32.ofInt 3 = (3 : Int32) by decide) ?_
      by_cases c_10 : (M (i0 + 1) (((2 : Int32) * a2)).toNatClampNeg) = (3 : Int32)
      · replace h := (if_pos c_10).symm.trans h
        refine fx_icne_s rfl c_10 ?_
        refine fx_const rfl (show Int32.ofInt 2 = (2 : Int32) by decide) ?_
        refine fx_iload rfl rfl ?_
        refine fx_imul rfl ?_
        refine fx_const rfl (show Int32.ofInt 1 = (1 : Int32) by decide) ?_
        refine fx_isub rfl ?_
        refine fx_goto rfl rfl ?_
        obtain rfl := Option.some.inj h
        exact fx_ret rfl rfl
      · replace h := (if_neg c_10).symm.trans h
        refine fx_icne_j rfl rfl c_10 ?_
        refine fx_aload rfl rfl ?_
        refine fx_getV rfl h0.1 rfl rfl ?_
        refine fx_const rfl (show Int32.ofInt 2 = (2 : Int32) by decide) ?_
        refine fx_iload rfl rfl ?_
        refine fx_imul rfl ?_
        refine fx_iaload rfl (fun z => absurd z.1 (by decide)) h0.2.1 c_9 ?_
        refine fx_const rfl (show Int32.ofInt 1 = (1 : Int32) by decide) ?_
        by_cases c_11 : (M (i0 + 1) (((2 : Int32) * a2)).toNatClampNeg) = (1 : Int32)
        · replace h := (if_pos c_11).symm.trans h
          refine fx_icne_s rfl c_11 ?_
          refine fx_aload rfl rfl ?_
          refine fx_getV rfl h0.1 rfl rfl ?_
          refine fx_const rfl (show Int32.ofInt 44 = (44 : Int32) by decide) ?_
          refine fx_iaload rfl (fun z => absurd z.1 (by decide)) h0.2.2.2.2.2.2.1 (by decide) ?_
          refine fx_const rfl (show Int32.ofInt 2 = (2 : Int32) by decide) ?_
          refine fx_irem rfl (by decide) ?_
          by_cases c_12 : ((M (i0 + 6) ((44 : Int32)).toNatClampNeg) - (M (i0 + 6) ((44 : Int32)).toNatClampNeg) / (2 : Int32) * (2 : Int32)) = 0
          · replace h := (if_pos c_12).symm.trans h
            refine fx_ifne_s rfl c_12 ?_
            refine fx_const rfl (show Int32.ofInt 1 = (1 : Int32) by decide) ?_
            refine fx_goto rfl rfl ?_
            obtain rfl := Option.some.inj h
            exact fx_ret rfl rfl
          · replace h := (if_neg c_12).symm.trans h
            refine fx_ifne_j rfl rfl c_12 ?_
            refine fx_iload rfl rfl ?_
            obtain rfl := Option.some.inj h
            exact fx_ret rfl rfl
        · replace h := (if_neg c_11).symm.trans h
          refine fx_icne_j rfl rfl c_11 ?_
          refine fx_iload rfl rfl ?_
          obtain rfl := Option.some.inj h
          exact fx_ret rfl rfl
    · replace h := (if_neg c_8).symm.trans h
      refine fx_ifeq_s rfl c_8 ?_
      refine fx_const rfl (show Int32.ofInt 0 = (0 : Int32) by decide) ?_
      obtain rfl := Option.some.inj h
      exact fx_ret rfl rfl

def g_M_sent_20 (M : fv_M) (i0 : Nat) (a2 : Int32) : Nat → Int32 → Int32 → Int32 → Int32 → (Int32 → Int32 → Int32 → Int32 → Option (Int32)) → Option (Int32)
  | 0, _, _, _, _, _ => none
  | n + 1, a1, a3, a4, a5, kk => if (M i0 4) ≤ a5 then (kk a1 a3 a4 a5) else ((g_M_needOf M i0 a5 a2).bind fun q1 => fx_ck ((((6 : Int32) * a5) + a2) < 0 ∨ 45 ≤ ((((6 : Int32) * a5) + a2)).toNatClampNeg) ((g_M_needOf M i0 a5 a2).bind fun q2 => if (q1 - (M (i0 + 6) ((((6 : Int32) * a5) + a2)).toNatClampNeg)) ≤ 0 then (g_M_sent_20 M i0 a2 n (a1 + (0 : Int32)) (a3 + q2) (a4 + (M (i0 + 6) ((((6 : Int32) * a5) + a2)).toNatClampNeg)) (a5 + (1 : Int32)) kk) else (g_M_sent_20 M i0 a2 n (a1 + (q1 - (M (i0 + 6) ((((6 : Int32) * a5) + a2)).toNatClampNeg))) (a3 + q2) (a4 + (M (i0 + 6) ((((6 : Int32) * a5) + a2)).toNatClampNeg)) (a5 + (1 : Int32)) kk)))
theorem v_M_sent_20 {X : fv_X} {sh : fv_Sh} {k : Nat × Nat} {M : fv_M} {i0 : Nat} {a2 : Int32} {r : Int32} {kk : Int32 → Int32 → Int32 → Int32 → Option (Int32)} (h0 : fx_atM sh i0) (K : ∀ (a1 a3 a4 a5 : Int32), kk a1 a3 a4 a5 = some r → fv_Rn X 156 98 [some (.ref i0), some (.int a1), some (.int a2), some (.int a3), some (.int a4), some (.int a5)] [] k sh M (some (.int r), sh, M)) : ∀ (n : Nat) (a1 a3 a4 a5 : Int32), g_M_sent_20 M i0 a2 n a1 a3 a4 a5 kk = some r → fv_Rn X 156 20 [some (.ref i0), some (.int a1), some (.int a2), some (.int a3), some (.int a4), some (.int a5)] [] k sh M (some (.int r), sh, M) := by
  intro n
  induction n with
  | zero =>
    intro a1 a3 a4 a5 h
    replace h : (none : Option (Int32)) = some r := h
    cases h
  | succ n ih =>
    intro a1 a3 a4 a5 h
    rw [g_M_sent_20] at h
    refine fx_iload rfl rfl ?_
    refine fx_aload rfl rfl ?_
    refine fx_getI rfl h0.1 rfl rfl ?_
    by_cases c_2 : (M i0 4) ≤ a5
    · replace h := (if_pos c_2).symm.trans h
      refine fx_icge_j rfl rfl c_2 ?_
      exact K _ _ _ _ h
    · replace h := (if_neg c_2).symm.trans h
      refine fx_icge_s rfl c_2 ?_
      refine fx_aload rfl rfl ?_
      refine fx_iload rfl rfl ?_
      refine fx_iload rfl rfl ?_
      obtain ⟨q1, e_q1, h⟩ := fx_bd h
      refine fx_call [.ref i0, .int a5, .int a2] [] rfl (by decide) rfl rfl rfl rfl rfl (Nat.le_of_ble_eq_true rfl) (fx_rcv h0.1 rfl) (v_M_needOf h0 e_q1) ?_
      refine fx_aload rfl rfl ?_
      refine fx_getV rfl h0.1 rfl rfl ?_
      refine fx_const rfl (show Int32.ofInt 6 = (6 : Int32) by decide) ?_
      refine fx_iload rfl rfl ?_
      refine fx_imul rfl ?_
      refine fx_iload rfl rfl ?_
      refine fx_iadd rfl ?_
      obtain ⟨c_3, h⟩ := fx_ck_some h
      refine fx_iaload rfl (fun z => absurd z.1 (by decide)) h0.2.2.2.2.2.2.1 c_3 ?_
      refine fx_isub rfl ?_
      refine fx_istore rfl rfl ?_
      refine fx_iload rfl rfl ?_
      refine fx_aload rfl rfl ?_
      refine fx_iload rfl rfl ?_
      refine fx_iload rfl rfl ?_
      obtain ⟨q2, e_q2, h⟩ := fx_bd h
      refine fx_call [.ref i0, .int a5, .int a2] [.int a3] rfl (by decide) rfl rfl rfl rfl rfl (Nat.le_of_ble_eq_true rfl) (fx_rcv h0.1 rfl) (v_M_needOf h0 e_q2) ?_
      refine fx_iadd rfl ?_
      refine fx_istore rfl rfl ?_
      refine fx_iload rfl rfl ?_
      refine fx_aload rfl rfl ?_
      refine fx_getV rfl h0.1 rfl rfl ?_
      refine fx_const rfl (show Int32.ofInt 6 = (6 : Int32) by decide) ?_
      refine fx_iload rfl rfl ?_
      refine fx_imul rfl ?_
      refine fx_iload rfl rfl ?_
      refine fx_iadd rfl ?_
      refine fx_iaload rfl (fun z => absurd z.1 (by decide)) h0.2.2.2.2.2.2.1 c_3 ?_
      refine fx_iadd rfl ?_
      refine fx_istore rfl rfl ?_
      refine fx_iload rfl rfl ?_
      refine fx_iload rfl rfl ?_
      by_cases c_4 : (q1 - (M (i0 + 6) ((((6 : Int32) * a5) + a2)).toNatClampNeg)) ≤ 0
      · replace h := (if_pos c_4).symm.trans h
        refine fx_ifle_j rfl rfl c_4 ?_
        refine fx_const rfl (show Int32.ofInt 0 = (0 : Int32) by decide) ?_
        refine fx_iadd rfl ?_
        refine fx_istore rfl rfl ?_
        refine fx_iinc rfl (show Int32.ofInt 1 = (1 : Int32) by decide) rfl rfl ?_
        refine fx_back rfl rfl rfl ?_
        exact ih _ _ _ _ h
      · replace h := (if_neg c_4).symm.trans h
        refine fx_ifle_s rfl c_4 ?_
        refine fx_iload rfl rfl ?_
        refine fx_goto rfl rfl ?_
        refine fx_iadd rfl ?_
        refine fx_istore rfl rfl ?_
        refine fx_iinc rfl (show Int32.ofInt 1 = (1 : Int32) by decide) rfl rfl ?_
        refine fx_back rfl rfl rfl ?_
        exact ih _ _ _ _ h
def g_M_sent_4 (M : fv_M) (i0 : Nat) : Nat → Int32 → Int32 → (Int32 → Int32 → Option (Int32)) → Option (Int32)
  | 0, _, _, _ => none
  | n + 1, a1, a2, kk => if (M i0 0) ≤ a2 then (kk a1 a2) else (g_M_sent_20 M i0 a2 fx_FU a1 (0 : Int32) (0 : Int32) (0 : Int32) (fun b1_3 b3_3 b4_3 b5_3 => if b3_3 ≤ b4_3 then (g_M_sent_4 M i0 n b1_3 (a2 + (1 : Int32)) kk) else (some (-4 : Int32))))
theorem v_M_sent_4 {X : fv_X} {sh : fv_Sh} {k : Nat × Nat} {M : fv_M} {i0 : Nat} {r : Int32} {kk : Int32 → Int32 → Option (Int32)} (h0 : fx_atM sh i0) (K : ∀ (a1 a2 : Int32), kk a1 a2 = some r → fv_Rn X 156 113 [some (.ref i0), some (.int a1), some (.int a2)] [] k sh M (some (.int r), sh, M)) : ∀ (n : Nat) (a1 a2 : Int32), g_M_sent_4 M i0 n a1 a2 kk = some r → fv_Rn X 156 4 [some (.ref i0), some (.int a1), some (.int a2)] [] k sh M (some (.int r), sh, M) := by
  intro n
  induction n with
  | zero =>
    intro a1 a2 h
    replace h : (none : Option (Int32)) = some r := h
    cases h
  | succ n ih =>
    intro a1 a2 h
    rw [g_M_sent_4] at h
    refine fx_iload rfl rfl ?_
    refine fx_aload rfl rfl ?_
    refine fx_getI rfl h0.1 rfl rfl ?_
    by_cases c_1 : (M i0 0) ≤ a2
    · replace h := (if_pos c_1).symm.trans h
      refine fx_icge_j rfl rfl c_1 ?_
      exact K _ _ h
    · replace h := (if_neg c_1).symm.trans h
      refine fx_icge_s rfl c_1 ?_
      refine fx_const rfl (show Int32.ofInt 0 = (0 : Int32) by decide) ?_
      refine fx_istore rfl rfl ?_
      refine fx_const rfl (show Int32.ofInt 0 = (0 : Int32) by decide) ?_
      refine fx_istore rfl rfl ?_
      refine fx_const rfl (show Int32.ofInt 0 = (0 : Int32) by decide) ?_
      refine fx_istore rfl rfl ?_
      refine v_M_sent_20 h0 (fun b1_3 b3_3 b4_3 b5_3 h => ?_) fx_FU _ _ _ _ h
      refine fx_iload rfl rfl ?_
      refine fx_iload rfl rfl ?_
      by_cases c_5 : b3_3 ≤ b4_3
      · replace h := (if_pos c_5).symm.trans h
        refine fx_icle_j rfl rfl c_5 ?_
        refine fx_iinc rfl (show Int32.ofInt 1 = (1 : Int32) by decide) rfl rfl ?_
        refine fx_back rfl rfl rfl ?_
        exact ih _ _ h
      · replace h := (if_neg c_5).symm.trans h
        refine fx_icle_s rfl c_5 ?_
        refine fx_const rfl (show Int32.ofInt (-4) = (-4 : Int32) by decide) ?_
        obtain rfl := Option.some.inj h
        exact fx_ret rfl rfl
def g_M_sent (M : fv_M) (i0 : Nat) : Option (Int32) := g_M_sent_4 M i0 fx_FU (0 : Int32) (0 : Int32) (fun b1_4 b2_4 => some b1_4)
theorem v_M_sent {X : fv_X} {sh : fv_Sh} {k : Nat × Nat} {M : fv_M} {i0 : Nat} {r : Int32} (h0 : fx_atM sh i0) (h : g_M_sent M i0 = some r) : fv_Rn X 156 0 [some (.ref i0)] [] k sh M (some (.int r), sh, M) := by
  unfold g_M_sent at h
  refine fx_const rfl (show Int32.ofInt 0 = (0 : Int32) by decide) ?_
  refine fx_istore rfl rfl ?_
  refine fx_const rfl (show Int32.ofInt 0 = (0 : Int32) by decide) ?_
  refine fx_istore rfl rfl ?_
  refine v_M_sent_4 h0 (fun b1_4 b2_4 h => ?_) fx_FU _ _ h
  refine fx_iload rfl rfl ?_
  obtain rfl := Option.some.inj h
  exact fx_ret rfl rfl

def g_M_share_102 (M : fv_M) (i0 : Nat) (a1 : Int32) (a2 : Int32) (a3 : Int32) (a7 : Int32) (a8 : Int32) : Nat → Int32 → Int32 → Int32 → Int32 → (Int32 → Int32 → Int32 → Int32 → Option (Int32)) → Option (Int32)
  | 0, _, _, _, _, _ => none
  | n + 1, a4, a5, a6, a9, kk => if (M i0 6) ≤ a9 then (kk a4 a5 a6 a9) else (fx_ck (((3 : Int32) * a9) < 0 ∨ 24 ≤ (((3 : Int32) * a9)).toNatClampNeg) (if (M (i0 + 4) (((3 : Int32) * a9)).toNatClampNeg) = a8 then (fx_ck ((((3 : Int32) * a9) + (1 : Int32)) < 0 ∨ 24 ≤ ((((3 : Int32) * a9) + (1 : Int32))).toNatClampNeg) (if (M (i0 + 4) ((((3 : Int32) * a9) + (1 : Int32))).toNatClampNeg) = a1 then (fx_ck ((((3 : Int32) * a9) + (2 : Int32)) < 0 ∨ 24 ≤ ((((3 : Int32) * a9) + (2 : Int32))).toNatClampNeg) (if (M (i0 + 4) ((((3 : Int32) * a9) + (2 : Int32))).toNatClampNeg) = a7 then (if a2 ≤ a4 then (if a8 = a3 then (g_M_share_102 M i0 a1 a2 a3 a7 a8 n (a4 - a2) (a5 + (a2 * a7)) (a6 + a2) (a9 + (1 : Int32)) kk) else (g_M_share_102 M i0 a1 a2 a3 a7 a8 n (a4 - a2) (a5 + (a2 * a7)) (a6 + (0 : Int32)) (a9 + (1 : Int32)) kk)) else (if a8 = a3 then (g_M_share_102 M i0 a1 a2 a3 a7 a8 n (a4 - a4) (a5 + (a4 * a7)) (a6 + a4) (a9 + (1 : Int32)) kk) else (g_M_share_102 M i0 a1 a2 a3 a7 a8 n (a4 - a4) (a5 + (a4 * a7)) (a6 + (0 : Int32)) (a9 + (1 : Int32)) kk))) else (if a8 = a3 then (g_M_share_102 M i0 a1 a2 a3 a7 a8 n (a4 - (0 : Int32)) (a5 + ((0 : Int32) * a7)) (a6 + (0 : Int32)) (a9 + (1 : Int32)) kk) else (g_M_share_102 M i0 a1 a2 a3 a7 a8 n (a4 - (0 : Int32)) (a5 + ((0 : Int32) * a7)) (a6 + (0 : Int32)) (a9 + (1 : Int32)) kk)))) else (if a8 = a3 then (g_M_share_102 M i0 a1 a2 a3 a7 a8 n (a4 - (0 : Int32)) (a5 + ((0 : Int32) * a7)) (a6 + (0 : Int32)) (a9 + (1 : Int32)) kk) else (g_M_share_102 M i0 a1 a2 a3 a7 a8 n (a4 - (0 : Int32)) (a5 + ((0 : Int32) * a7)) (a6 + (0 : Int32)) (a9 + (1 : Int32)) kk)))) else (if a8 = a3 then (g_M_share_102 M i0 a1 a2 a3 a7 a8 n (a4 - (0 : Int32)) (a5 + ((0 : Int32) * a7)) (a6 + (0 : Int32)) (a9 + (1 : Int32)) kk) else (g_M_share_102 M i0 a1 a2 a3 a7 a8 n (a4 - (0 : Int32)) (a5 + ((0 : Int32) * a7)) (a6 + (0 : Int32)) (a9 + (1 : Int32)) kk))))
theorem v_M_share_102 {X : fv_X} {sh : fv_Sh} {k : Nat × Nat} {M : fv_M} {i0 : Nat} {a1 : Int32} {a2 : Int32} {a3 : Int32} {a7 : Int32} {a8 : Int32} {r : Int32} {kk : Int32 → Int32 → Int32 → Int32 → Option (Int32)} (h0 : fx_atM sh i0) (K : ∀ (a4 a5 a6 a9 : Int32), kk a4 a5 a6 a9 = some r → fv_Rn X 157 226 [some (.ref i0), some (.int a1), some (.int a2), some (.int a3), some (.int a4), some (.int a5), some (.int a6), some (.int a7), some (.int a8), some (.int a9)] [] k sh M (some (.int r), sh, M)) : ∀ (n : Nat) (a4 a5 a6 a9 : Int32), g_M_share_102 M i0 a1 a2 a3 a7 a8 n a4 a5 a6 a9 kk = some r → fv_Rn X 157 102 [some (.ref i0), some (.int a1), some (.int a2), some (.int a3), some (.int a4), some (.int a5), some (.int a6), some (.int a7), some (.int a8), some (.int a9)] [] k sh M (some (.int r), sh, M) := by
  intro n
  induction n with
  | zero =>
    intro a4 a5 a6 a9 h
    replace h : (none : Option (Int32)) = some r := h
    cases h
  | succ n ih =>
    intro a4 a5 a6 a9 h
    rw [g_M_share_102] at h
    refine fx_iload rfl rfl ?_
    refine fx_aload rfl rfl ?_
    refine fx_getI rfl h0.1 rfl rfl ?_
    by_cases c_8 : (M i0 6) ≤ a9
    · replace h := (if_pos c_8).symm.trans h
      refine fx_icge_j rfl rfl c_8 ?_
      exact K _ _ _ _ h
    · replace h := (if_neg c_8).symm.trans h
      refine fx_icge_s rfl c_8 ?_
      refine fx_aload rfl rfl ?_
      refine fx_getV rfl h0.1 rfl rfl ?_
      refine fx_const rfl (show Int32.ofInt 3 = (3 : Int32) by decide) ?_
      refine fx_iload rfl rfl ?_
      refine fx_imul rfl ?_
      obtain ⟨c_9, h⟩ := fx_ck_some h
      refine fx_iaload rfl (fun z => absurd z.1 (by decide)) h0.2.2.2.2.1 c_9 ?_
      refine fx_iload rfl rfl ?_
      by_cases c_10 : (M (i0 + 4) (((3 : Int32) * a9)).toNatClampNeg) = a8
      · replace h := (if_pos c_10).symm.trans h
        refine fx_icne_s rfl c_10 ?_
        refine fx_aload rfl rfl ?_
        refine fx_getV rfl h0.1 rfl rfl ?_
        refine fx_const rfl (show Int32.ofInt 3 = (3 : Int32) by decide) ?_
        refine fx_iload rfl rfl ?_
        refine fx_imul rfl ?_
        refine fx_const rfl (show Int32.ofInt 1 = (1 : Int32) by decide) ?_
        refine fx_iadd rfl ?_
        obtain ⟨c_11, h⟩ := fx_ck_some h
        refine fx_iaload rfl (fun z => absurd z.1 (by decide)) h0.2.2.2.2.1 c_11 ?_
        refine fx_iload rfl rfl ?_
        by_cases c_12 : (M (i0 + 4) ((((3 : Int32) * a9) + (1 : Int32))).toNatClampNeg) = a1
        · replace h := (if_pos c_12).symm.trans h
          refine fx_icne_s rfl c_12 ?_
          refine fx_aload rfl rfl ?_
          refine fx_getV rfl h0.1 rfl rfl ?_
          refine fx_const rfl (show Int32.ofInt 3 = (3 : Int32) by decide) ?_
          refine fx_iload rfl rfl ?_
          refine fx_imul rfl ?_
          refine fx_const rfl (show Int32.ofInt 2 = (2 : Int32) by decide) ?_
          refine fx_iadd rfl ?_
          obtain ⟨c_13, h⟩ := fx_ck_some h
          refine fx_iaload rfl (fun z => absurd z.1 (by decide)) h0.2.2.2.2.1 c_13 ?_
          refine fx_iload rfl rfl ?_
          by_cases c_14 : (M (i0 + 4) ((((3 : Int32) * a9) + (2 : Int32))).toNatClampNeg) = a7
          · replace h := (if_pos c_14).symm.trans h
            refine fx_icne_s rfl c_14 ?_
            refine fx_const rfl (show Int32.ofInt 1 = (1 : Int32) by decide) ?_
            refine fx_goto rfl rfl ?_
            refine fx_istore rfl rfl ?_
            refine fx_iload rfl rfl ?_
            refine fx_ifne_j rfl rfl (by decide) ?_
            refine fx_iload rfl rfl ?_
            refine fx_iload rfl rfl ?_
            by_cases c_15 : a2 ≤ a4
            · replace h := (if_pos c_15).symm.trans h
              refine fx_icge_j rfl rfl c_15 ?_
              refine fx_iload rfl rfl ?_
              refine fx_istore rfl rfl ?_
              refine fx_iload rfl rfl ?_
              refine fx_iload rfl rfl ?_
              refine fx_isub rfl ?_
              refine fx_istore rfl rfl ?_
              refine fx_iload rfl rfl ?_
              refine fx_iload rfl rfl ?_
              refine fx_iload rfl rfl ?_
              refine fx_imul rfl ?_
              refine fx_iadd rfl ?_
              refine fx_istore rfl rfl ?_
              refine fx_iload rfl rfl ?_
              refine fx_iload rfl rfl ?_
              refine fx_iload rfl rfl ?_
              by_cases c_16 : a8 = a3
              · replace h := (if_pos c_16).symm.trans h
                refine fx_icne_s rfl c_16 ?_
                refine fx_iload rfl rfl ?_
                refine fx_goto rfl rfl ?_
                refine fx_iadd rfl ?_
                refine fx_istore rfl rfl ?_
                refine fx_iinc rfl (show Int32.ofInt 1 = (1 : Int32) by decide) rfl rfl ?_
                refine fx_back rfl rfl rfl ?_
                exact ih _ _ _ _ h
              · replace h := (if_neg c_16).symm.trans h
                refine fx_icne_j rfl rfl c_16 ?_
                refine fx_const rfl (show Int32.ofInt 0 = (0 : Int32) by decide) ?_
                refine fx_iadd rfl ?_
                refine fx_istore rfl rfl ?_
                refine fx_iinc rfl (show Int32.ofInt 1 = (1 : Int32) by decide) rfl rfl ?_
                refine fx_back rfl rfl rfl ?_
                exact ih _ _ _ _ h
            · replace h := (if_neg c_15).symm.trans h
              refine fx_icge_s rfl c_15 ?_
              refine fx_iload rfl rfl ?_
              refine fx_goto rfl rfl ?_
              refine fx_istore rfl rfl ?_
              refine fx_iload rfl rfl ?_
              refine fx_iload rfl rfl ?_
              refine fx_isub rfl ?_
              refine fx_istore rfl rfl ?_
              refine fx_iload rfl rfl ?_
              refine fx_iload rfl rfl ?_
              refine fx_iload rfl rfl ?_
              refine fx_imul rfl ?_
              refine fx_iadd rfl ?_
              refine fx_istore rfl rfl ?_
              refine fx_iload rfl rfl ?_
              refine fx_iload rfl rfl ?_
              refine fx_iload rfl rfl ?_
              by_cases c_17 : a8 = a3
              · replace h := (if_pos c_17).symm.trans h
                refine fx_icne_s rfl c_17 ?_
                refine fx_iload rfl rfl ?_
                refine fx_goto rfl rfl ?_
                refine fx_iadd rfl ?_
                refine fx_istore rfl rfl ?_
                refine fx_iinc rfl (show Int32.ofInt 1 = (1 : Int32) by decide) rfl rfl ?_
                refine fx_back rfl rfl rfl ?_
                exact ih _ _ _ _ h
              · replace h := (if_neg c_17).symm.trans h
                refine fx_icne_j rfl rfl c_17 ?_
                refine fx_const rfl (show Int32.ofInt 0 = (0 : Int32) by decide) ?_
                refine fx_iadd rfl ?_
                refine fx_istore rfl rfl ?_
                refine fx_iinc rfl (show Int32.ofInt 1 = (1 : Int32) by decide) rfl rfl ?_
                refine fx_back rfl rfl rfl ?_
                exact ih _ _ _ _ h
          · replace h := (if_neg c_14).symm.trans h
            refine fx_icne_j rfl rfl c_14 ?_
            refine fx_const rfl (show Int32.ofInt 0 = (0 : Int32) by decide) ?_
            refine fx_istore rfl rfl ?_
            refine fx_iload rfl rfl ?_
            refine fx_ifne_s rfl (by decide) ?_
            refine fx_const rfl (show Int32.ofInt 0 = (0 : Int32) by decide) ?_
            refine fx_goto rfl rfl ?_
            refine fx_istore rfl rfl ?_
            refine fx_iload rfl rfl ?_
            refine fx_iload rfl rfl ?_
            refine fx_isub rfl ?_
            refine fx_istore rfl rfl ?_
            refine fx_iload rfl rfl ?_
            refine fx_iload rfl rfl ?_
            refine fx_iload rfl rfl ?_
            refine fx_imul rfl ?_
            refine fx_iadd rfl ?_
            refine fx_istore rfl rfl ?_
            refine fx_iload rfl rfl ?_
            refine fx_iload rfl rfl ?_
            refine fx_iload rfl rfl ?_
            by_cases c_18 : a8 = a3
            · replace h := (if_pos c_18).symm.trans h
              refine fx_icne_s rfl c_18 ?_
              refine fx_iload rfl rfl ?_
              refine fx_goto rfl rfl ?_
              refine fx_iadd rfl ?_
              refine fx_istore rfl rfl ?_
              refine fx_iinc rfl (show Int32.ofInt 1 = (1 : Int32) by decide) rfl rfl ?_
              refine fx_back rfl rfl rfl ?_
              exact ih _ _ _ _ h
            · replace h := (if_neg c_18).symm.trans h
              refine fx_icne_j rfl rfl c_18 ?_
              refine fx_const rfl (show Int32.ofInt 0 = (0 : Int32) by decide) ?_
              refine fx_iadd rfl ?_
              refine fx_istore rfl rfl ?_
              refine fx_iinc rfl (show Int32.ofInt 1 = (1 : Int32) by decide) rfl rfl ?_
              refine fx_back rfl rfl rfl ?_
              exact ih _ _ _ _ h
        · replace h := (if_neg c_12).symm.trans h
          refine fx_icne_j rfl rfl c_12 ?_
          refine fx_const rfl (show Int32.ofInt 0 = (0 : Int32) by decide) ?_
          refine fx_istore rfl rfl ?_
          refine fx_iload rfl rfl ?_
          refine fx_ifne_s rfl (by decide) ?_
          refine fx_const rfl (show Int32.ofInt 0 = (0 : Int32) by decide) ?_
          refine fx_goto rfl rfl ?_
          refine fx_istore rfl rfl ?_
          refine fx_iload rfl rfl ?_
          refine fx_iload rfl rfl ?_
          refine fx_isub rfl ?_
          refine fx_istore rfl rfl ?_
          refine fx_iload rfl rfl ?_
          refine fx_iload rfl rfl ?_
          refine fx_iload rfl rfl ?_
          refine fx_imul rfl ?_
          refine fx_iadd rfl ?_
          refine fx_istore rfl rfl ?_
          refine fx_iload rfl rfl ?_
          refine fx_iload rfl rfl ?_
          refine fx_iload rfl rfl ?_
          by_cases c_19 : a8 = a3
          · replace h := (if_pos c_19).symm.trans h
            refine fx_icne_s rfl c_19 ?_
            refine fx_iload rfl rfl ?_
            refine fx_goto rfl rfl ?_
            refine fx_iadd rfl ?_
            refine fx_istore rfl rfl ?_
            refine fx_iinc rfl (show Int32.ofInt 1 = (1 : Int32) by decide) rfl rfl ?_
            refine fx_back rfl rfl rfl ?_
            exact ih _ _ _ _ h
          · replace h := (if_neg c_19).symm.trans h
            refine fx_icne_j rfl rfl c_19 ?_
            refine fx_const rfl (show Int32.ofInt 0 = (0 : Int32) by decide) ?_
            refine fx_iadd rfl ?_
            refine fx_istore rfl rfl ?_
            refine fx_iinc rfl (show Int32.ofInt 1 = (1 : Int32) by decide) rfl rfl ?_
            refine fx_back rfl rfl rfl ?_
            exact ih _ _ _ _ h
      · replace h := (if_neg c_10).symm.trans h
        refine fx_icne_j rfl rfl c_10 ?_
        refine fx_const rfl (show Int32.ofInt 0 = (0 : Int32) by decide) ?_
        refine fx_istore rfl rfl ?_
        refine fx_iload rfl rfl ?_
        refine fx_ifne_s rfl (by decide) ?_
        refine fx_const rfl (show Int32.ofInt 0 = (0 : Int32) by decide) ?_
        refine fx_goto rfl rfl ?_
        refine fx_istore rfl rfl ?_
        refine fx_iload rfl rfl ?_
        refine fx_iload rfl rfl ?_
        refine fx_isub rfl ?_
        refine fx_istore rfl rfl ?_
        refine fx_iload rfl rfl ?_
        refine fx_iload rfl rfl ?_
        refine fx_iload rfl rfl ?_
        refine fx_imul rfl ?_
        refine fx_iadd rfl ?_
        refine fx_istore rfl rfl ?_
        refine fx_iload rfl rfl ?_
        refine fx_iload rfl rfl ?_
        refine fx_iload rfl rfl ?_
        by_cases c_20 : a8 = a3
        · replace h := (if_pos c_20).symm.trans h
          refine fx_icne_s rfl c_20 ?_
          refine fx_iload rfl rfl ?_
          refine fx_goto rfl rfl ?_
          refine fx_iadd rfl ?_
          refine fx_istore rfl rfl ?_
          refine fx_iinc rfl (show Int32.ofInt 1 = (1 : Int32) by decide) rfl rfl ?_
          refine fx_back rfl rfl rfl ?_
          exact ih _ _ _ _ h
        · replace h := (if_neg c_20).symm.trans h
          refine fx_icne_j rfl rfl c_20 ?_
          refine fx_const rfl (show Int32.ofInt 0 = (0 : Int32) by decide) ?_
          refine fx_iadd rfl ?_
          refine fx_istore rfl rfl ?_
          refine fx_iinc rfl (show Int32.ofInt 1 = (1 : Int32) by decide) rfl rfl ?_
          refine fx_back rfl rfl rfl ?_
          exact ih _ _ _ _ h
def g_M_share_90 (M : fv_M) (i0 : Nat) (a1 : Int32) (a2 : Int32) (a3 : Int32) (a7 : Int32) : Nat → Int32 → Int32 → Int32 → Int32 → (Int32 → Int32 → Int32 → Int32 → Option (Int32)) → Option (Int32)
  | 0, _, _, _, _, _ => none
  | n + 1, a4, a5, a6, a8, kk => if (M i0 4) ≤ a8 then (kk a4 a5 a6 a8) else (g_M_share_102 M i0 a1 a2 a3 a7 a8 fx_FU a4 a5 a6 (0 : Int32) (fun b4_5 b5_5 b6_5 b9_5 => g_M_share_90 M i0 a1 a2 a3 a7 n b4_5 b5_5 b6_5 (a8 + (1 : Int32)) kk))
theorem v_M_share_90 {X : fv_X} {sh : fv_Sh} {k : Nat × Nat} {M : fv_M} {i0 : Nat} {a1 : Int32} {a2 : Int32} {a3 : Int32} {a7 : Int32} {r : Int32} {kk : Int32 → Int32 → Int32 → Int32 → Option (Int32)} (h0 : fx_atM sh i0) (K : ∀ (a4 a5 a6 a8 : Int32), kk a4 a5 a6 a8 = some r → fv_Rn X 157 232 [some (.ref i0), some (.int a1), some (.int a2), some (.int a3), some (.int a4), some (.int a5), some (.int a6), some (.int a7), some (.int a8)] [] k sh M (some (.int r), sh, M)) : ∀ (n : Nat) (a4 a5 a6 a8 : Int32), g_M_share_90 M i0 a1 a2 a3 a7 n a4 a5 a6 a8 kk = some r → fv_Rn X 157 90 [some (.ref i0), some (.int a1), some (.int a2), some (.int a3), some (.int a4), some (.int a5), some (.int a6), some (.int a7), some (.int a8)] [] k sh M (some (.int r), sh, M) := by
  intro n
  induction n with
  | zero =>
    intro a4 a5 a6 a8 h
    replace h : (none : Option (Int32)) = some r := h
    cases h
  | succ n ih =>
    intro a4 a5 a6 a8 h
    rw [g_M_share_90] at h
    refine fx_iload rfl rfl ?_
    refine fx_aload rfl rfl ?_
    refine fx_getI rfl h0.1 rfl rfl ?_
    by_cases c_7 : (M i0 4) ≤ a8
    · replace h := (if_pos c_7).symm.trans h
      refine fx_icge_j rfl rfl c_7 ?_
      exact K _ _ _ _ h
    · replace h := (if_neg c_7).symm.trans h
      refine fx_icge_s rfl c_7 ?_
      refine fx_const rfl (show Int32.ofInt 0 = (0 : Int32) by decide) ?_
      refine fx_istore rfl rfl ?_
      refine v_M_share_102 h0 (fun b4_5 b5_5 b6_5 b9_5 h => ?_) fx_FU _ _ _ _ h
      refine fx_iinc rfl (show Int32.ofInt 1 = (1 : Int32) by decide) rfl rfl ?_
      refine fx_back rfl rfl rfl ?_
      exact ih _ _ _ _ h
def g_M_share_82 (M : fv_M) (i0 : Nat) (a1 : Int32) (a2 : Int32) (a3 : Int32) : Nat → Int32 → Int32 → Int32 → Int32 → (Int32 → Int32 → Int32 → Int32 → Option (Int32)) → Option (Int32)
  | 0, _, _, _, _, _ => none
  | n + 1, a4, a5, a6, a7, kk => if a7 ≤ 0 then (kk a4 a5 a6 a7) else (g_M_share_90 M i0 a1 a2 a3 a7 fx_FU a4 a5 a6 (0 : Int32) (fun b4_6 b5_6 b6_6 b8_6 => g_M_share_82 M i0 a1 a2 a3 n b4_6 b5_6 b6_6 (a7 + (-1 : Int32)) kk))
theorem v_M_share_82 {X : fv_X} {sh : fv_Sh} {k : Nat × Nat} {M : fv_M} {i0 : Nat} {a1 : Int32} {a2 : Int32} {a3 : Int32} {r : Int32} {kk : Int32 → Int32 → Int32 → Int32 → Option (Int32)} (h0 : fx_atM sh i0) (K : ∀ (a4 a5 a6 a7 : Int32), kk a4 a5 a6 a7 = some r → fv_Rn X 157 238 [some (.ref i0), some (.int a1), some (.int a2), some (.int a3), some (.int a4), some (.int a5), some (.int a6), some (.int a7)] [] k sh M (some (.int r), sh, M)) : ∀ (n : Nat) (a4 a5 a6 a7 : Int32), g_M_share_82 M i0 a1 a2 a3 n a4 a5 a6 a7 kk = some r → fv_Rn X 157 82 [some (.ref i0), some (.int a1), some (.int a2), some (.int a3), some (.int a4), some (.int a5), some (.int a6), some (.int a7)] [] k sh M (some (.int r), sh, M) := by
  intro n
  induction n with
  | zero =>
    intro a4 a5 a6 a7 h
    replace h : (none : Option (Int32)) = some r := h
    cases h
  | succ n ih =>
    intro a4 a5 a6 a7 h
    rw [g_M_share_82] at h
    refine fx_iload rfl rfl ?_
    by_cases c_6 : a7 ≤ 0
    · replace h := (if_pos c_6).symm.trans h
      refine fx_ifle_j rfl rfl c_6 ?_
      exact K _ _ _ _ h
    · replace h := (if_neg c_6).symm.trans h
      refine fx_ifle_s rfl c_6 ?_
      refine fx_const rfl (show Int32.ofInt 0 = (0 : Int32) by decide) ?_
      refine fx_istore rfl rfl ?_
      refine v_M_share_90 h0 (fun b4_6 b5_6 b6_6 b8_6 h => ?_) fx_FU _ _ _ _ h
      refine fx_iinc rfl (show Int32.ofInt (-1) = (-1 : Int32) by decide) rfl rfl ?_
      refine fx_back rfl rfl rfl ?_
      exact ih _ _ _ _ h
def g_M_share_40 (M : fv_M) (i0 : Nat) (a1 : Int32) (a2 : Int32) (a3 : Int32) : Nat → Int32 → Int32 → (Int32 → Int32 → Option (Int32)) → Option (Int32)
  | 0, _, _, _ => none
  | n + 1, a4, a5, kk => if (M i0 4) ≤ a5 then (kk a4 a5) else (fx_ck ((((6 : Int32) * a5) + a1) < 0 ∨ 45 ≤ ((((6 : Int32) * a5) + a1)).toNatClampNeg) (g_M_share_40 M i0 a1 a2 a3 n (a4 + (M (i0 + 6) ((((6 : Int32) * a5) + a1)).toNatClampNeg)) (a5 + (1 : Int32)) kk))
theorem v_M_share_40 {X : fv_X} {sh : fv_Sh} {k : Nat × Nat} {M : fv_M} {i0 : Nat} {a1 : Int32} {a2 : Int32} {a3 : Int32} {r : Int32} {kk : Int32 → Int32 → Option (Int32)} (h0 : fx_atM sh i0) (K : ∀ (a4 a5 : Int32), kk a4 a5 = some r → fv_Rn X 157 72 [some (.ref i0), some (.int a1), some (.int a2), some (.int a3), some (.int a4), some (.int a5)] [] k sh M (some (.int r), sh, M)) : ∀ (n : Nat) (a4 a5 : Int32), g_M_share_40 M i0 a1 a2 a3 n a4 a5 kk = some r → fv_Rn X 157 40 [some (.ref i0), some (.int a1), some (.int a2), some (.int a3), some (.int a4), some (.int a5)] [] k sh M (some (.int r), sh, M) := by
  intro n
  induction n with
  | zero =>
    intro a4 a5 h
    replace h : (none : Option (Int32)) = some r := h
    cases h
  | succ n ih =>
    intro a4 a5 h
    rw [g_M_share_40] at h
    refine fx_iload rfl rfl ?_
    refine fx_aload rfl rfl ?_
    refine fx_getI rfl h0.1 rfl rfl ?_
    by_cases c_4 : (M i0 4) ≤ a5
    · replace h := (if_pos c_4).symm.trans h
      refine fx_icge_j rfl rfl c_4 ?_
      exact K _ _ h
    · replace h := (if_neg c_4).symm.trans h
      refine fx_icge_s rfl c_4 ?_
      refine fx_iload rfl rfl ?_
      refine fx_aload rfl rfl ?_
      refine fx_getV rfl h0.1 rfl rfl ?_
      refine fx_const rfl (show Int32.ofInt 6 = (6 : Int32) by decide) ?_
      refine fx_iload rfl rfl ?_
      refine fx_imul rfl ?_
      refine fx_iload rfl rfl ?_
      refine fx_iadd rfl ?_
      obtain ⟨c_5, h⟩ := fx_ck_some h
      refine fx_iaload rfl (fun z => absurd z.1 (by decide)) h0.2.2.2.2.2.2.1 c_5 ?_
      refine fx_iadd rfl ?_
      refine fx_istore rfl rfl ?_
      refine fx_iinc rfl (show Int32.ofInt 1 = (1 : Int32) by decide) rfl rfl ?_
      refine fx_back rfl rfl rfl ?_
      exact ih _ _ h
def g_M_share (M : fv_M) (i0 : Nat) (a1 : Int32) (a2 : Int32) (a3 : Int32) : Option (Int32) := (g_M_isVerb M i0 a1).bind fun q1 => if q1 = 0 then (some (-1 : Int32)) else ((g_M_in M a2 (1 : Int32) (9 : Int32)).bind fun q2 => if q2 = 0 then (some (-1 : Int32)) else ((g_M_in M a3 (-1 : Int32) ((M i0 4) - (1 : Int32))).bind fun q3 => if q3 = 0 then (some (-1 : Int32)) else (g_M_share_40 M i0 a1 a2 a3 fx_FU (0 : Int32) (0 : Int32) (fun b4_4 b5_4 => g_M_share_82 M i0 a1 a2 a3 fx_FU b4_4 (0 : Int32) (0 : Int32) (9 : Int32) (fun b4_7 b5_7 b6_7 b7_7 => if 0 ≤ a3 then (some b6_7) else (some b5_7))))))
theorem v_M_share {X : fv_X} {sh : fv_Sh} {k : Nat × Nat} {M : fv_M} {i0 : Nat} {a1 : Int32} {a2 : Int32} {a3 : Int32} {r : Int32} (h0 : fx_atM sh i0) (h : g_M_share M i0 a1 a2 a3 = some r) : fv_Rn X 157 0 [some (.ref i0), some (.int a1), some (.int a2), some (.int a3)] [] k sh M (some (.int r), sh, M) := by
  unfold g_M_share at h
  refine fx_aload rfl rfl ?_
  refine fx_iload rfl rfl ?_
  obtain ⟨q1, e_q1, h⟩ := fx_bd h
  refine fx_call [.ref i0, .int a1] [] rfl (by decide) rfl rfl rfl rfl rfl (Nat.le_of_ble_eq_true rfl) (fx_rcv h0.1 rfl) (v_M_isVerb h0 e_q1) ?_
  by_cases c_1 : q1 = 0
  · replace h := (if_pos c_1).symm.trans h
    refine fx_ifeq_j rfl rfl c_1 ?_
    refine fx_const rfl (show Int32.ofInt (-1) = (-1 : Int32) by decide) ?_
    obtain rfl := Option.some.inj h
    exact fx_ret rfl rfl
  · replace h := (if_neg c_1).symm.trans h
    refine fx_ifeq_s rfl c_1 ?_
    refine fx_iload rfl rfl ?_
    refine fx_const rfl (show Int32.ofInt 1 = (1 : Int32) by decide) ?_
    refine fx_const rfl (show Int32.ofInt 9 = (9 : Int32) by decide) ?_
    obtain ⟨q2, e_q2, h⟩ := fx_bd h
    refine fx_call [.int a2, .int (1 : Int32), .int (9 : Int32)] [] rfl (by decide) rfl rfl rfl rfl rfl (Nat.le_of_ble_eq_true rfl) rfl (v_M_in  e_q2) ?_
    by_cases c_2 : q2 = 0
    · replace h := (if_pos c_2).symm.trans h
      refine fx_ifeq_j rfl rfl c_2 ?_
      refine fx_const rfl (show Int32.ofInt (-1) = (-1 : Int32) by decide) ?_
      obtain rfl := Option.some.inj h
      exact fx_ret rfl rfl
    · replace h := (if_neg c_2).symm.trans h
      refine fx_ifeq_s rfl c_2 ?_
      refine fx_iload rfl rfl ?_
      refine fx_const rfl (show Int32.ofInt (-1) = (-1 : Int32) by decide) ?_
      refine fx_aload rfl rfl ?_
      refine fx_getI rfl h0.1 rfl rfl ?_
      refine fx_const rfl (show Int32.ofInt 1 = (1 : Int32) by decide) ?_
      refine fx_isub rfl ?_
      obtain ⟨q3, e_q3, h⟩ := fx_bd h
      refine fx_call [.int a3, .int (-1 : Int32), .int ((M i0 4) - (1 : Int32))] [] rfl (by decide) rfl rfl rfl rfl rfl (Nat.le_of_ble_eq_true rfl) rfl (v_M_in  e_q3) ?_
      by_cases c_3 : q3 = 0
      · replace h := (if_pos c_3).symm.trans h
        refine fx_ifne_s rfl c_3 ?_
        refine fx_const rfl (show Int32.ofInt (-1) = (-1 : Int32) by decide) ?_
        obtain rfl := Option.some.inj h
        exact fx_ret rfl rfl
      · replace h := (if_neg c_3).symm.trans h
        refine fx_ifne_j rfl rfl c_3 ?_
        refine fx_const rfl (show Int32.ofInt 0 = (0 : Int32) by decide) ?_
        refine fx_istore rfl rfl ?_
        refine fx_const rfl (show Int32.ofInt 0 = (0 : Int32) by decide) ?_
        refine fx_istore rfl rfl ?_
        refine v_M_share_40 h0 (fun b4_4 b5_4 h => ?_) fx_FU _ _ h
        refine fx_const rfl (show Int32.ofInt 0 = (0 : Int32) by decide) ?_
        refine fx_istore rfl rfl ?_
        refine fx_const rfl (show Int32.ofInt 0 = (0 : Int32) by decide) ?_
        refine fx_istore rfl rfl ?_
        refine fx_const rfl (show Int32.ofInt 9 = (9 : Int32) by decide) ?_
        refine fx_istore rfl rfl ?_
        refine v_M_share_82 h0 (fun b4_7 b5_7 b6_7 b7_7 h => ?_) fx_FU _ _ _ _ h
        refine fx_iload rfl rfl ?_
        by_cases c_21 : 0 ≤ a3
        · replace h := (if_pos c_21).symm.trans h
          refine fx_ifge_j rfl rfl c_21 ?_
          refine fx_iload rfl rfl ?_
          obtain rfl := Option.some.inj h
          exact fx_ret rfl rfl
        · replace h := (if_neg c_21).symm.trans h
          refine fx_ifge_s rfl c_21 ?_
          refine fx_iload rfl rfl ?_
          refine fx_goto rfl rfl ?_
          obtain rfl := Option.some.inj h
          exact fx_ret rfl rfl

def g_M_bred_14 (M : fv_M) (i0 : Nat) (a1 : Int32) : Nat → Int32 → Int32 → (Int32 → Int32 → Option (Int32)) → Option (Int32)
  | 0, _, _, _ => none
  | n + 1, a2, a3, kk => if (M i0 0) ≤ a3 then (kk a2 a3) else (fx_ck (((24 : Int32) + a1) < 0 ∨ 45 ≤ (((24 : Int32) + a1)).toNatClampNeg) (if 0 ≤ (M (i0 + 6) (((24 : Int32) + a1)).toNatClampNeg) then (g_M_bred_14 M i0 a1 n (a2 ||| (0 : Int32)) (a3 + (1 : Int32)) kk) else (fx_ck ((((6 : Int32) * a1) + a3) < 0 ∨ 45 ≤ ((((6 : Int32) * a1) + a3)).toNatClampNeg) (if 0 < (M (i0 + 6) ((((6 : Int32) * a1) + a3)).toNatClampNeg) then (g_M_bred_14 M i0 a1 n (a2 ||| ((1 : Int32) <<< (a3 &&& 31))) (a3 + (1 : Int32)) kk) else ((g_M_smallOf M i0 a1).bind fun q2 => if q2 < 0 then (g_M_bred_14 M i0 a1 n (a2 ||| (0 : Int32)) (a3 + (1 : Int32)) kk) else (g_M_bred_14 M i0 a1 n (a2 ||| ((1 : Int32) <<< (a3 &&& 31))) (a3 + (1 : Int32)) kk))))))
theorem v_M_bred_14 {X : fv_X} {sh : fv_Sh} {k : Nat × Nat} {M : fv_M} {i0 : Nat} {a1 : Int32} {r : Int32} {kk : Int32 → Int32 → Option (Int32)} (h0 : fx_atM sh i0) (K : ∀ (a2 a3 : Int32), kk a2 a3 = some r → fv_Rn X 158 84 [some (.ref i0), some (.int a1), some (.int a2), some (.int a3)] [] k sh M (some (.int r), sh, M)) : ∀ (n : Nat) (a2 a3 : Int32), g_M_bred_14 M i0 a1 n a2 a3 kk = some r → fv_Rn X 158 14 [some (.ref i0), some (.int a1), some (.int a2), some (.int a3)] [] k sh M (some (.int r), sh, M) := by
  intro n
  induction n with
  | zero =>
    intro a2 a3 h
    replace h : (none : Option (Int32)) = some r := h
    cases h
  | succ n ih =>
    intro a2 a3 h
    rw [g_M_bred_14] at h
    refine fx_iload rfl rfl ?_
    refine fx_aload rfl rfl ?_
    refine fx_getI rfl h0.1 rfl rfl ?_
    by_cases c_2 : (M i0 0) ≤ a3
    · replace h := (if_pos c_2).symm.trans h
      refine fx_icge_j rfl rfl c_2 ?_
      exact K _ _ h
    · replace h := (if_neg c_2).symm.trans h
      refine fx_icge_s rfl c_2 ?_
      refine fx_aload rfl rfl ?_
      refine fx_getV rfl h0.1 rfl rfl ?_
      refine fx_const rfl (show Int32.ofInt 24 = (24 : Int32) by decide) ?_
      refine fx_iload rfl rfl ?_
      refine fx_iadd rfl ?_
      obtain ⟨c_3, h⟩ := fx_ck_some h
      refine fx_iaload rfl (fun z => absurd z.1 (by decide)) h0.2.2.2.2.2.2.1 c_3 ?_
      by_cases c_4 : 0 ≤ (M (i0 + 6) (((24 : Int32) + a1)).toNatClampNeg)
      · replace h := (if_pos c_4).symm.trans h
        refine fx_ifge_j rfl rfl c_4 ?_
        refine fx_const rfl (show Int32.ofInt 0 = (0 : Int32) by decide) ?_
        refine fx_istore rfl rfl ?_
        refine fx_iload rfl rfl ?_
        refine fx_iload rfl rfl ?_
        refine fx_ifeq_j rfl rfl (by decide) ?_
        refine fx_const rfl (show Int32.ofInt 0 = (0 : Int32) by decide) ?_
        refine fx_ior rfl ?_
        refine fx_istore rfl rfl ?_
        refine fx_iinc rfl (show Int32.ofInt 1 = (1 : Int32) by decide) rfl rfl ?_
        refine fx_back rfl rfl rfl ?_
        exact ih _ _ h
      · replace h := (if_neg c_4).symm.trans h
        refine fx_ifge_s rfl c_4 ?_
        refine fx_aload rfl rfl ?_
        refine fx_getV rfl h0.1 rfl rfl ?_
        refine fx_const rfl (show Int32.ofInt 6 = (6 : Int32) by decide) ?_
        refine fx_iload rfl rfl ?_
        refine fx_imul rfl ?_
        refine fx_iload rfl rfl ?_
        refine fx_iadd rfl ?_
        obtain ⟨c_5, h⟩ := fx_ck_some h
        refine fx_iaload rfl (fun z => absurd z.1 (by decide)) h0.2.2.2.2.2.2.1 c_5 ?_
        by_cases c_6 : 0 < (M (i0 + 6) ((((6 : Int32) * a1) + a3)).toNatClampNeg)
        · replace h := (if_pos c_6).symm.trans h
          refine fx_ifgt_j rfl rfl c_6 ?_
          refine fx_const rfl (show Int32.ofInt 1 = (1 : Int32) by decide) ?_
          refine fx_goto rfl rfl ?_
          refine fx_istore rfl rfl ?_
          refine fx_iload rfl rfl ?_
          refine fx_iload rfl rfl ?_
          refine fx_ifeq_s rfl (by decide) ?_
          refine fx_const rfl (show Int32.ofInt 1 = (1 : Int32) by decide) ?_
          refine fx_iload rfl rfl ?_
          refine fx_ishl rfl ?_
          refine fx_goto rfl rfl ?_
          refine fx_ior rfl ?_
          refine fx_istore rfl rfl ?_
          refine fx_iinc rfl (show Int32.ofInt 1 = (1 : Int32) by decide) rfl rfl ?_
          refine fx_back rfl rfl rfl ?_
          exact ih _ _ h
        · replace h := (if_neg c_6).symm.trans h
          refine fx_ifgt_s rfl c_6 ?_
          refine fx_aload rfl rfl ?_
          refine fx_iload rfl rfl ?_
          obtain ⟨q2, e_q2, h⟩ := fx_bd h
          refine fx_call [.ref i0, .int a1] [] rfl (by decide) rfl rfl rfl rfl rfl (Nat.le_of_ble_eq_true rfl) (fx_rcv h0.1 rfl) (v_M_smallOf h0 e_q2) ?_
          by_cases c_7 : q2 < 0
          · replace h := (if_pos c_7).symm.trans h
            refine fx_iflt_j rfl rfl c_7 ?_
            refine fx_const rfl (show Int32.ofInt 0 = (0 : Int32) by decide) ?_
            refine fx_istore rfl rfl ?_
            refine fx_iload rfl rfl ?_
            refine fx_iload rfl rfl ?_
            refine fx_ifeq_j rfl rfl (by decide) ?_
            refine fx_const rfl (show Int32.ofInt 0 = (0 : Int32) by decide) ?_
            refine fx_ior rfl ?_
            refine fx_istore rfl rfl ?_
            refine fx_iinc rfl (show Int32.ofInt 1 = (1 : Int32) by decide) rfl rfl ?_
            refine fx_back rfl rfl rfl ?_
            exact ih _ _ h
          · replace h := (if_neg c_7).symm.trans h
            refine fx_iflt_s rfl c_7 ?_
            refine fx_const rfl (show Int32.ofInt 1 = (1 : Int32) by decide) ?_
            refine fx_goto rfl rfl ?_
            refine fx_istore rfl rfl ?_
            refine fx_iload rfl rfl ?_
            refine fx_iload rfl rfl ?_
            refine fx_ifeq_s rfl (by decide) ?_
            refine fx_const rfl (show Int32.ofInt 1 = (1 : Int32) by decide) ?_
            refine fx_iload rfl rfl ?_
            refine fx_ishl rfl ?_
            refine fx_goto rfl rfl ?_
            refine fx_ior rfl ?_
            refine fx_istore rfl rfl ?_
            refine fx_iinc rfl (show Int32.ofInt 1 = (1 : Int32) by decide) rfl rfl ?_
            refine fx_back rfl rfl rfl ?_
            exact ih _ _ h
def g_M_bred (M : fv_M) (i0 : Nat) (a1 : Int32) : Option (Int32) := (g_M_isVillage M i0 a1).bind fun q1 => if q1 = 0 then (some (-1 : Int32)) else (g_M_bred_14 M i0 a1 fx_FU (0 : Int32) (0 : Int32) (fun b2_3 b3_3 => some b2_3))
theorem v_M_bred {X : fv_X} {sh : fv_Sh} {k : Nat × Nat} {M : fv_M} {i0 : Nat} {a1 : Int32} {r : Int32} (h0 : fx_atM sh i0) (h : g_M_bred M i0 a1 = some r) : fv_Rn X 158 0 [some (.ref i0), some (.int a1)] [] k sh M (some (.int r), sh, M) := by
  unfold g_M_bred at h
  refine fx_aload rfl rfl ?_
  refine fx_iload rfl rfl ?_
  obtain ⟨q1, e_q1, h⟩ := fx_bd h
  refine fx_call [.ref i0, .int a1] [] rfl (by decide) rfl rfl rfl rfl rfl (Nat.le_of_ble_eq_true rfl) (fx_rcv h0.1 rfl) (v_M_isVillage h0 e_q1) ?_
  by_cases c_1 : q1 = 0
  · replace h := (if_pos c_1).symm.trans h
    refine fx_ifne_s rfl c_1 ?_
    refine fx_const rfl (show Int32.ofInt (-1) = (-1 : Int32) by decide) ?_
    obtain rfl := Option.some.inj h
    exact fx_ret rfl rfl
  · replace h := (if_neg c_1).symm.trans h
    refine fx_ifne_j rfl rfl c_1 ?_
    refine fx_const rfl (show Int32.ofInt 0 = (0 : Int32) by decide) ?_
    refine fx_istore rfl rfl ?_
    refine fx_const rfl (show Int32.ofInt 0 = (0 : Int32) by decide) ?_
    refine fx_istore rfl rfl ?_
    refine v_M_bred_14 h0 (fun b2_3 b3_3 h => ?_) fx_FU _ _ h
    refine fx_iload rfl rfl ?_
    obtain rfl := Option.some.inj h
    exact fx_ret rfl rfl

def g_M_hear (M : fv_M) (i0 : Nat) (a1 : Int32) (a2 : Int32) (a3 : Int32) : Option (Int32 × fv_M) := (g_M_in M a1 (0 : Int32) ((M i0 6) - (1 : Int32))).bind fun q1 => if q1 = 0 then (some ((-1 : Int32), M)) else ((g_M_in M a2 (1 : Int32) (9 : Int32)).bind fun q2 => if q2 = 0 then (some ((-1 : Int32), M)) else (if (M i0 15) = (6 : Int32) then (some ((-3 : Int32), M)) else (fx_ck (((3 : Int32) * (M i0 15)) < 0 ∨ 18 ≤ (((3 : Int32) * (M i0 15))).toNatClampNeg) (fx_ck ((((3 : Int32) * ((fv_set M (i0 + 10) (((3 : Int32) * (M i0 15))).toNatClampNeg a1) i0 15)) + (1 : Int32)) < 0 ∨ 18 ≤ ((((3 : Int32) * ((fv_set M (i0 + 10) (((3 : Int32) * (M i0 15))).toNatClampNeg a1) i0 15)) + (1 : Int32))).toNatClampNeg) (if a3 = 0 then (fx_ck ((((3 : Int32) * ((fv_set (fv_set M (i0 + 10) (((3 : Int32) * (M i0 15))).toNatClampNeg a1) (i0 + 10) ((((3 : Int32) * ((fv_set M (i0 + 10) (((3 : Int32) * (M i0 15))).toNatClampNeg a1) i0 15)) + (1 : Int32))).toNatClampNeg a2) i0 15)) + (2 : Int32)) < 0 ∨ 18 ≤ ((((3 : Int32) * ((fv_set (fv_set M (i0 + 10) (((3 : Int32) * (M i0 15))).toNatClampNeg a1) (i0 + 10) ((((3 : Int32) * ((fv_set M (i0 + 10) (((3 : Int32) * (M i0 15))).toNatClampNeg a1) i0 15)) + (1 : Int32))).toNatClampNeg a2) i0 15)) + (2 : Int32))).toNatClampNeg) (some (((fv_set (fv_set (fv_set (fv_set M (i0 + 10) (((3 : Int32) * (M i0 15))).toNatClampNeg a1) (i0 + 10) ((((3 : Int32) * ((fv_set M (i0 + 10) (((3 : Int32) * (M i0 15))).toNatClampNeg a1) i0 15)) + (1 : Int32))).toNatClampNeg a2) (i0 + 10) ((((3 : Int32) * ((fv_set (fv_set M (i0 + 10) (((3 : Int32) * (M i0 15))).toNatClampNeg a1) (i0 + 10) ((((3 : Int32) * ((fv_set M (i0 + 10) (((3 : Int32) * (M i0 15))).toNatClampNeg a1) i0 15)) + (1 : Int32))).toNatClampNeg a2) i0 15)) + (2 : Int32))).toNatClampNeg (0 : Int32)) i0 15 (((fv_set (fv_set (fv_set M (i0 + 10) (((3 : Int32) * (M i0 15))).toNatClampNeg a1) (i0 + 10) ((((3 : Int32) * ((fv_set M (i0 + 10) (((3 : Int32) * (M i0 15))).toNatClampNeg a1) i0 15)) + (1 : Int32))).toNatClampNeg a2) (i0 + 10) ((((3 : Int32) * ((fv_set (fv_set M (i0 + 10) (((3 : Int32) * (M i0 15))).toNatClampNeg a1) (i0 + 10) ((((3 : Int32) * ((fv_set M (i0 + 10) (((3 : Int32) * (M i0 15))).toNatClampNeg a1) i0 15)) + (1 : Int32))).toNatClampNeg a2) i0 15)) + (2 : Int32))).toNatClampNeg (0 : Int32)) i0 15) + (1 : Int32))) i0 15), (fv_set (fv_set (fv_set (fv_set M (i0 + 10) (((3 : Int32) * (M i0 15))).toNatClampNeg a1) (i0 + 10) ((((3 : Int32) * ((fv_set M (i0 + 10) (((3 : Int32) * (M i0 15))).toNatClampNeg a1) i0 15)) + (1 : Int32))).toNatClampNeg a2) (i0 + 10) ((((3 : Int32) * ((fv_set (fv_set M (i0 + 10) (((3 : Int32) * (M i0 15))).toNatClampNeg a1) (i0 + 10) ((((3 : Int32) * ((fv_set M (i0 + 10) (((3 : Int32) * (M i0 15))).toNatClampNeg a1) i0 15)) + (1 : Int32))).toNatClampNeg a2) i0 15)) + (2 : Int32))).toNatClampNeg (0 : Int32)) i0 15 (((fv_set (fv_set (fv_set M (i0 + 10) (((3 : Int32) * (M i0 15))).toNatClampNeg a1) (i0 + 10) ((((3 : Int32) * ((fv_set M (i0 + 10) (((3 : Int32) * (M i0 15))).toNatClampNeg a1) i0 15)) + (1 : Int32))).toNatClampNeg a2) (i0 + 10) ((((3 : Int32) * ((fv_set (fv_set M (i0 + 10) (((3 : Int32) * (M i0 15))).toNatClampNeg a1) (i0 + 10) ((((3 : Int32) * ((fv_set M (i0 + 10) (((3 : Int32) * (M i0 15))).toNatClampNeg a1) i0 15)) + (1 : Int32))).toNatClampNeg a2) i0 15)) + (2 : Int32))).toNatClampNeg (0 : Int32)) i0 15) + (1 : Int32)))))) else (fx_ck ((((3 : Int32) * ((fv_set (fv_set M (i0 + 10) (((3 : Int32) * (M i0 15))).toNatClampNeg a1) (i0 + 10) ((((3 : Int32) * ((fv_set M (i0 + 10) (((3 : Int32) * (M i0 15))).toNatClampNeg a1) i0 15)) + (1 : Int32))).toNatClampNeg a2) i0 15)) + (2 : Int32)) < 0 ∨ 18 ≤ ((((3 : Int32) * ((fv_set (fv_set M (i0 + 10) (((3 : Int32) * (M i0 15))).toNatClampNeg a1) (i0 + 10) ((((3 : Int32) * ((fv_set M (i0 + 10) (((3 : Int32) * (M i0 15))).toNatClampNeg a1) i0 15)) + (1 : Int32))).toNatClampNeg a2) i0 15)) + (2 : Int32))).toNatClampNeg) (some (((fv_set (fv_set (fv_set (fv_set M (i0 + 10) (((3 : Int32) * (M i0 15))).toNatClampNeg a1) (i0 + 10) ((((3 : Int32) * ((fv_set M (i0 + 10) (((3 : Int32) * (M i0 15))).toNatClampNeg a1) i0 15)) + (1 : Int32))).toNatClampNeg a2) (i0 + 10) ((((3 : Int32) * ((fv_set (fv_set M (i0 + 10) (((3 : Int32) * (M i0 15))).toNatClampNeg a1) (i0 + 10) ((((3 : Int32) * ((fv_set M (i0 + 10) (((3 : Int32) * (M i0 15))).toNatClampNeg a1) i0 15)) + (1 : Int32))).toNatClampNeg a2) i0 15)) + (2 : Int32))).toNatClampNeg (1 : Int32)) i0 15 (((fv_set (fv_set (fv_set M (i0 + 10) (((3 : Int32) * (M i0 15))).toNatClampNeg a1) (i0 + 10) ((((3 : Int32) * ((fv_set M (i0 + 10) (((3 : Int32) * (M i0 15))).toNatClampNeg a1) i0 15)) + (1 : Int32))).toNatClampNeg a2) (i0 + 10) ((((3 : Int32) * ((fv_set (fv_set M (i0 + 10) (((3 : Int32) * (M i0 15))).toNatClampNeg a1) (i0 + 10) ((((3 : Int32) * ((fv_set M (i0 + 10) (((3 : Int32) * (M i0 15))).toNatClampNeg a1) i0 15)) + (1 : Int32))).toNatClampNeg a2) i0 15)) + (2 : Int32))).toNatClampNeg (1 : Int32)) i0 15) + (1 : Int32))) i0 15), (fv_set (fv_set (fv_set (fv_set M (i0 + 10) (((3 : Int32) * (M i0 15))).toNatClampNeg a1) (i0 + 10) ((((3 : Int32) * ((fv_set M (i0 + 10) (((3 : Int32) * (M i0 15))).toNatClampNeg a1) i0 15)) + (1 : Int32))).toNatClampNeg a2) (i0 + 10) ((((3 : Int32) * ((fv_set (fv_set M (i0 + 10) (((3 : Int32) * (M i0 15))).toNatClampNeg a1) (i0 + 10) ((((3 : Int32) * ((fv_set M (i0 + 10) (((3 : Int32) * (M i0 15))).toNatClampNeg a1) i0 15)) + (1 : Int32))).toNatClampNeg a2) i0 15)) + (2 : Int32))).toNatClampNeg (1 : Int32)) i0 15 (((fv_set (fv_set (fv_set M (i0 + 10) (((3 : Int32) * (M i0 15))).toNatClampNeg a1) (i0 + 10) ((((3 : Int32) * ((fv_set M (i0 + 10) (((3 : Int32) * (M i0 15))).toNatClampNeg a1) i0 15)) + (1 : Int32))).toNatClampNeg a2) (i0 + 10) ((((3 : Int32) * ((fv_set (fv_set M (i0 + 10) (((3 : Int32) * (M i0 15))).toNatClampNeg a1) (i0 + 10) ((((3 : Int32) * ((fv_set M (i0 + 10) (((3 : Int32) * (M i0 15))).toNatClampNeg a1) i0 15)) + (1 : Int32))).toNatClampNeg a2) i0 15)) + (2 : Int32))).toNatClampNeg (1 : Int32)) i0 15) + (1 : Int32)))))))))))
theorem v_M_hear {X : fv_X} {sh : fv_Sh} {k : Nat × Nat} {M : fv_M} {i0 : Nat} {a1 : Int32} {a2 : Int32} {a3 : Int32} {r : Int32 × fv_M} (h0 : fx_atM sh i0) (h : g_M_hear M i0 a1 a2 a3 = some r) : fv_Rn X 159 0 [some (.ref i0), some (.int a1), some (.int a2), some (.int a3)] [] k sh M (some (.int r.1), sh, r.2) := by
  unfold g_M_hear at h
  refine fx_iload rfl rfl ?_
  refine fx_const rfl (show Int32.ofInt 0 = (0 : Int32) by decide) ?_
  refine fx_aload rfl rfl ?_
  refine fx_getI rfl h0.1 rfl rfl ?_
  refine fx_const rfl (show Int32.ofInt 1 = (1 : Int32) by decide) ?_
  refine fx_isub rfl ?_
  obtain ⟨q1, e_q1, h⟩ := fx_bd h
  refine fx_call [.int a1, .int (0 : Int32), .int ((M i0 6) - (1 : Int32))] [] rfl (by decide) rfl rfl rfl rfl rfl (Nat.le_of_ble_eq_true rfl) rfl (v_M_in  e_q1) ?_
  by_cases c_1 : q1 = 0
  · replace h := (if_pos c_1).symm.trans h
    refine fx_ifeq_j rfl rfl c_1 ?_
    refine fx_const rfl (show Int32.ofInt (-1) = (-1 : Int32) by decide) ?_
    obtain rfl := Option.some.inj h
    exact fx_ret rfl rfl
  · replace h := (if_neg c_1).symm.trans h
    refine fx_ifeq_s rfl c_1 ?_
    refine fx_iload rfl rfl ?_
    refine fx_const rfl (show Int32.ofInt 1 = (1 : Int32) by decide) ?_
    refine fx_const rfl (show Int32.ofInt 9 = (9 : Int32) by decide) ?_
    obtain ⟨q2, e_q2, h⟩ := fx_bd h
    refine fx_call [.int a2, .int (1 : Int32), .int (9 : Int32)] [] rfl (by decide) rfl rfl rfl rfl rfl (Nat.le_of_ble_eq_true rfl) rfl (v_M_in  e_q2) ?_
    by_cases c_2 : q2 = 0
    · replace h := (if_pos c_2).symm.trans h
      refine fx_ifne_s rfl c_2 ?_
      refine fx_const rfl (show Int32.ofInt (-1) = (-1 : Int32) by decide) ?_
      obtain rfl := Option.some.inj h
      exact fx_ret rfl rfl
    · replace h := (if_neg c_2).symm.trans h
      refine fx_ifne_j rfl rfl c_2 ?_
      refine fx_aload rfl rfl ?_
      refine fx_getI rfl h0.1 rfl rfl ?_
      refine fx_const rfl (show Int32.ofInt 6 = (6 : Int32) by decide) ?_
      by_cases c_3 : (M i0 15) = (6 : Int32)
      · replace h := (if_pos c_3).symm.trans h
        refine fx_icne_s rfl c_3 ?_
        refine fx_const rfl (show Int32.ofInt (-3) = (-3 : Int32) by decide) ?_
        obtain rfl := Option.some.inj h
        exact fx_ret rfl rfl
      · replace h := (if_neg c_3).symm.trans h
        refine fx_icne_j rfl rfl c_3 ?_
        refine fx_aload rfl rfl ?_
        refine fx_getV rfl h0.1 rfl rfl ?_
        refine fx_const rfl (show Int32.ofInt 3 = (3 : Int32) by decide) ?_
        refine fx_aload rfl rfl ?_
        refine fx_getI rfl h0.1 rfl rfl ?_
        refine fx_imul rfl ?_
        refine fx_iload rfl rfl ?_
        obtain ⟨c_4, h⟩ := fx_ck_some h
        refine fx_iastore rfl h0.2.2.2.2.2.2.2.2.2.2.1 c_4 ?_
        refine fx_aload rfl rfl ?_
        refine fx_getV rfl h0.1 rfl rfl ?_
        refine fx_const rfl (show Int32.ofInt 3 = (3 : Int32) by decide) ?_
        refine fx_aload rfl rfl ?_
        refine fx_getI rfl h0.1 rfl rfl ?_
        refine fx_imul rfl ?_
        refine fx_const rfl (show Int32.ofInt 1 = (1 : Int32) by decide) ?_
        refine fx_iadd rfl ?_
        refine fx_iload rfl rfl ?_
        obtain ⟨c_5, h⟩ := fx_ck_some h
        refine fx_iastore rfl h0.2.2.2.2.2.2.2.2.2.2.1 c_5 ?_
        refine fx_aload rfl rfl ?_
        refine fx_getV rfl h0.1 rfl rfl ?_
        refine fx_const rfl (show Int32.ofInt 3 = (3 : Int32) by decide) ?_
        refine fx_aload rfl rfl ?_
        refine fx_getI rfl h0.1 rfl rfl ?_
        refine fx_imul rfl ?_
        refine fx_const rfl (show Int32.ofInt 2 = (2 : Int32) by decide) ?_
        refine fx_iadd rfl ?_
        refine fx_iload rfl rfl ?_
        by_cases c_6 : a3 = 0
        · replace h := (if_pos c_6).symm.trans h
          refine fx_ifeq_j rfl rfl c_6 ?_
          refine fx_const rfl (show Int32.ofInt 0 = (0 : Int32) by decide) ?_
          obtain ⟨c_7, h⟩ := fx_ck_some h
          refine fx_iastore rfl h0.2.2.2.2.2.2.2.2.2.2.1 c_7 ?_
          refine fx_aload rfl rfl ?_
          refine fx_dup rfl rfl ?_
          refine fx_getI rfl h0.1 rfl rfl ?_
          refine fx_const rfl (show Int32.ofInt 1 = (1 : Int32) by decide) ?_
          refine fx_iadd rfl ?_
          refine fx_putI rfl h0.1 rfl rfl rfl ?_
          refine fx_aload rfl rfl ?_
          refine fx_getI rfl h0.1 rfl rfl ?_
          obtain rfl := Option.some.inj h
          exact fx_ret rfl rfl
        · replace h := (if_neg c_6).symm.trans h
          refine fx_ifeq_s rfl c_6 ?_
          refine fx_const rfl (show Int32.ofInt 1 = (1 : Int32) by decide) ?_
          refine fx_goto rfl rfl ?_
          obtain ⟨c_8, h⟩ := fx_ck_some h
          refine fx_iastore rfl h0.2.2.2.2.2.2.2.2.2.2.1 c_8 ?_
          refine fx_aload rfl rfl ?_
          refine fx_dup rfl rfl ?_
          refine fx_getI rfl h0.1 rfl rfl ?_
          refine fx_const rfl (show Int32.ofInt 1 = (1 : Int32) by decide) ?_
          refine fx_iadd rfl ?_
          refine fx_putI rfl h0.1 rfl rfl rfl ?_
          refine fx_aload rfl rfl ?_
          refine fx_getI rfl h0.1 rfl rfl ?_
          obtain rfl := Option.some.inj h
          exact fx_ret rfl rfl

def g_M_forget (M : fv_M) (i0 : Nat) : Option (Int32 × fv_M) := some ((M i0 15), (fv_set M i0 15 (0 : Int32)))
theorem v_M_forget {X : fv_X} {sh : fv_Sh} {k : Nat × Nat} {M : fv_M} {i0 : Nat} {r : Int32 × fv_M} (h0 : fx_atM sh i0) (h : g_M_forget M i0 = some r) : fv_Rn X 160 0 [some (.ref i0)] [] k sh M (some (.int r.1), sh, r.2) := by
  unfold g_M_forget at h
  refine fx_aload rfl rfl ?_
  refine fx_getI rfl h0.1 rfl rfl ?_
  refine fx_istore rfl rfl ?_
  refine fx_aload rfl rfl ?_
  refine fx_const rfl (show Int32.ofInt 0 = (0 : Int32) by decide) ?_
  refine fx_putI rfl h0.1 rfl rfl rfl ?_
  refine fx_iload rfl rfl ?_
  obtain rfl := Option.some.inj h
  exact fx_ret rfl rfl

def g_M_hoard_86 (M : fv_M) (i0 : Nat) (a1 : Int32) (a2 : Int32) (a3 : Int32) (a4 : Int32) (a5 : Int32) (a6 : Int32) (a8 : Int32) (a9 : Int32) : Nat → Int32 → Int32 → (Int32 → Int32 → Option (Int32 × fv_M)) → Option (Int32 × fv_M)
  | 0, _, _, _ => none
  | n + 1, a7, a10, kk => if (M i0 15) ≤ a10 then (kk a7 a10) else (if a7 = 0 then (g_M_hoard_86 M i0 a1 a2 a3 a4 a5 a6 a8 a9 n (0 : Int32) (a10 + (1 : Int32)) kk) else (fx_ck ((((3 : Int32) * a10) + (1 : Int32)) < 0 ∨ 18 ≤ ((((3 : Int32) * a10) + (1 : Int32))).toNatClampNeg) (if (M (i0 + 10) ((((3 : Int32) * a10) + (1 : Int32))).toNatClampNeg) = a8 then (fx_ck (((3 : Int32) * a10) < 0 ∨ 18 ≤ (((3 : Int32) * a10)).toNatClampNeg) (fx_ck ((((3 : Int32) * a10) + (2 : Int32)) < 0 ∨ 18 ≤ ((((3 : Int32) * a10) + (2 : Int32))).toNatClampNeg) (if ((a9 >>> ((M (i0 + 10) (((3 : Int32) * a10)).toNatClampNeg) &&& 31)) &&& (1 : Int32)) = (M (i0 + 10) ((((3 : Int32) * a10) + (2 : Int32))).toNatClampNeg) then (g_M_hoard_86 M i0 a1 a2 a3 a4 a5 a6 a8 a9 n (1 : Int32) (a10 + (1 : Int32)) kk) else (g_M_hoard_86 M i0 a1 a2 a3 a4 a5 a6 a8 a9 n (0 : Int32) (a10 + (1 : Int32)) kk)))) else (g_M_hoard_86 M i0 a1 a2 a3 a4 a5 a6 a8 a9 n (1 : Int32) (a10 + (1 : Int32)) kk))))
theorem v_M_hoard_86 {X : fv_X} {sh : fv_Sh} {k : Nat × Nat} {M : fv_M} {i0 : Nat} {a1 : Int32} {a2 : Int32} {a3 : Int32} {a4 : Int32} {a5 : Int32} {a6 : Int32} {a8 : Int32} {a9 : Int32} {r : Int32 × fv_M} {kk : Int32 → Int32 → Option (Int32 × fv_M)} (h0 : fx_atM sh i0) (K : ∀ (a7 a10 : Int32), kk a7 a10 = some r → fv_Rn X 161 157 [some (.ref i0), some (.int a1), some (.int a2), some (.int a3), some (.int a4), some (.int a5), some (.int a6), some (.int a7), some (.int a8), some (.int a9), some (.int a10)] [] k sh M (some (.int r.1), sh, r.2)) : ∀ (n : Nat) (a7 a10 : Int32), g_M_hoard_86 M i0 a1 a2 a3 a4 a5 a6 a8 a9 n a7 a10 kk = some r → fv_Rn X 161 86 [some (.ref i0), some (.int a1), some (.int a2), some (.int a3), some (.int a4), some (.int a5), some (.int a6), some (.int a7), some (.int a8), some (.int a9), some (.int a10)] [] k sh M (some (.int r.1), sh, r.2) := by
  intro n
  induction n with
  | zero =>
    intro a7 a10 h
    replace h : (none : Option (Int32 × fv_M)) = some r := h
    cases h
  | succ n ih =>
    intro a7 a10 h
    rw [g_M_hoard_86] at h
    refine fx_iload rfl rfl ?_
    refine fx_aload rfl rfl ?_
    refine fx_getI rfl h0.1 rfl rfl ?_
    by_cases c_7 : (M i0 15) ≤ a10
    · replace h := (if_pos c_7).symm.trans h
      refine fx_icge_j rfl rfl c_7 ?_
      exact K _ _ h
    · replace h := (if_neg c_7).symm.trans h
      refine fx_icge_s rfl c_7 ?_
      refine fx_iload rfl rfl ?_
      by_cases c_8 : a7 = 0
      · replace h := (if_pos c_8).symm.trans h
        refine fx_ifeq_j rfl rfl c_8 ?_
        refine fx_const rfl (show Int32.ofInt 0 = (0 : Int32) by decide) ?_
        refine fx_istore rfl rfl ?_
        refine fx_iinc rfl (show Int32.ofInt 1 = (1 : Int32) by decide) rfl rfl ?_
        refine fx_back rfl rfl rfl ?_
        exact ih _ _ h
      · replace h := (if_neg c_8).symm.trans h
        refine fx_ifeq_s rfl c_8 ?_
        refine fx_aload rfl rfl ?_
        refine fx_getV rfl h0.1 rfl rfl ?_
        refine fx_const rfl (show Int32.ofInt 3 = (3 : Int32) by decide) ?_
        refine fx_iload rfl rfl ?_
        refine fx_imul rfl ?_
        refine fx_const rfl (show Int32.ofInt 1 = (1 : Int32) by decide) ?_
        refine fx_iadd rfl ?_
        obtain ⟨c_9, h⟩ := fx_ck_some h
        refine fx_iaload rfl (fun z => absurd z.1 (by decide)) h0.2.2.2.2.2.2.2.2.2.2.1 c_9 ?_
        refine fx_iload rfl rfl ?_
        by_cases c_10 : (M (i0 + 10) ((((3 : Int32) * a10) + (1 : Int32))).toNatClampNeg) = a8
        · replace h := (if_pos c_10).symm.trans h
          refine fx_icne_s rfl c_10 ?_
          refine fx_iload rfl rfl ?_
          refine fx_aload rfl rfl ?_
          refine fx_getV rfl h0.1 rfl rfl ?_
          refine fx_const rfl (show Int32.ofInt 3 = (3 : Int32) by decide) ?_
          refine fx_iload rfl rfl ?_
          refine fx_imul rfl ?_
          obtain ⟨c_11, h⟩ := fx_ck_some h
          refine fx_iaload rfl (fun z => absurd z.1 (by decide)) h0.2.2.2.2.2.2.2.2.2.2.1 c_11 ?_
          refine fx_ishr rfl ?_
          refine fx_const rfl (show Int32.ofInt 1 = (1 : Int32) by decide) ?_
          refine fx_iand rfl ?_
          refine fx_aload rfl rfl ?_
          refine fx_getV rfl h0.1 rfl rfl ?_
          refine fx_const rfl (show Int32.ofInt 3 = (3 : Int32) by decide) ?_
          refine fx_iload rfl rfl ?_
          refine fx_imul rfl ?_
          refine fx_const rfl (show Int32.ofInt 2 = (2 : Int32) by decide) ?_
          refine fx_iadd rfl ?_
          obtain ⟨c_12, h⟩ := fx_ck_some h
          refine fx_iaload rfl (fun z => absurd z.1 (by decide)) h0.2.2.2.2.2.2.2.2.2.2.1 c_12 ?_
          by_cases c_13 : ((a9 >>> ((M (i0 + 10) (((3 : Int32) * a10)).toNatClampNeg) &&& 31)) &&& (1 : Int32)) = (M (i0 + 10) ((((3 : Int32) * a10) + (2 : Int32))).toNatClampNeg)
          · replace h := (if_pos c_13).symm.trans h
            refine fx_icne_s rfl c_13 ?_
            refine fx_const rfl (show Int32.ofInt 1 = (1 : Int32) by decide) ?_
            refine fx_goto rfl rfl ?_
            refine fx_istore rfl rfl ?_
            refine fx_iinc rfl (show Int32.ofInt 1 = (1 : Int32) by decide) rfl rfl ?_
            refine fx_back rfl rfl rfl ?_
            exact ih _ _ h
          · replace h := (if_neg c_13).symm.trans h
            refine fx_icne_j rfl rfl c_13 ?_
            refine fx_const rfl (show Int32.ofInt 0 = (0 : Int32) by decide) ?_
            refine fx_istore rfl rfl ?_
            refine fx_iinc rfl (show Int32.ofInt 1 = (1 : Int32) by decide) rfl rfl ?_
            refine fx_back rfl rfl rfl ?_
            exact ih _ _ h
        · replace h := (if_neg c_10).symm.trans h
          refine fx_icne_j rfl rfl c_10 ?_
          refine fx_const rfl (show Int32.ofInt 1 = (1 : Int32) by decide) ?_
          refine fx_goto rfl rfl ?_
          refine fx_istore rfl rfl ?_
          refine fx_iinc rfl (show Int32.ofInt 1 = (1 : Int32) by decide) rfl rfl ?_
          refine fx_back rfl rfl rfl ?_
          exact ih _ _ h
def g_M_hoard_70 (i0 : Nat) (a1 : Int32) (a2 : Int32) (a3 : Int32) (a4 : Int32) (a5 : Int32) (a6 : Int32) : Nat → fv_M → Int32 → Int32 → (fv_M → Int32 → Int32 → Option (Int32 × fv_M)) → Option (Int32 × fv_M)
  | 0, _, _, _, _ => none
  | n + 1, M, a7, a8, kk => if (9 : Int32) < a8 then (kk M a7 a8) else ((g_M_goes M i0).bind fun q5 => g_M_hoard_86 q5.2 i0 a1 a2 a3 a4 a5 a6 a8 q5.1 fx_FU a7 (0 : Int32) (fun b7_6 b10_6 => g_M_hoard_70 i0 a1 a2 a3 a4 a5 a6 n q5.2 b7_6 (a8 + (1 : Int32)) kk))
theorem v_M_hoard_70 {X : fv_X} {sh : fv_Sh} {k : Nat × Nat} {i0 : Nat} {a1 : Int32} {a2 : Int32} {a3 : Int32} {a4 : Int32} {a5 : Int32} {a6 : Int32} {r : Int32 × fv_M} {kk : fv_M → Int32 → Int32 → Option (Int32 × fv_M)} (h0 : fx_atM sh i0) (K : ∀ (M : fv_M) (a7 a8 : Int32), kk M a7 a8 = some r → fv_Rn X 161 163 [some (.ref i0), some (.int a1), some (.int a2), some (.int a3), some (.int a4), some (.int a5), some (.int a6), some (.int a7), some (.int a8)] [] k sh M (some (.int r.1), sh, r.2)) : ∀ (n : Nat) (M : fv_M) (a7 a8 : Int32), g_M_hoard_70 i0 a1 a2 a3 a4 a5 a6 n M a7 a8 kk = some r → fv_Rn X 161 70 [some (.ref i0), some (.int a1), some (.int a2), some (.int a3), some (.int a4), some (.int a5), some (.int a6), some (.int a7), some (.int a8)] [] k sh M (some (.int r.1), sh, r.2) := by
  intro n
  induction n with
  | zero =>
    intro M a7 a8 h
    replace h : (none : Option (Int32 × fv_M)) = some r := h
    cases h
  | succ n ih =>
    intro M a7 a8 h
    rw [g_M_hoard_70] at h
    refine fx_iload rfl rfl ?_
    refine fx_const rfl (show Int32.ofInt 9 = (9 : Int32) by decide) ?_
    by_cases c_6 : (9 : Int32) < a8
    · replace h := (if_pos c_6).symm.trans h
      refine fx_icgt_j rfl rfl c_6 ?_
      exact K _ _ _ h
    · replace h := (if_neg c_6).symm.trans h
      refine fx_icgt_s rfl c_6 ?_
      refine fx_aload rfl rfl ?_
      obtain ⟨q5, e_q5, h⟩ := fx_bd h
      refine fx_call [.ref i0] [] rfl (by decide) rfl rfl rfl rfl rfl (Nat.le_of_ble_eq_true rfl) (fx_rcv h0.1 rfl) (v_M_goes h0 e_q5) ?_
      refine fx_istore rfl rfl ?_
      refine fx_const rfl (show Int32.ofInt 0 = (0 : Int32) by decide) ?_
      refine fx_istore rfl rfl ?_
      refine v_M_hoard_86 h0 (fun b7_6 b10_6 h => ?_) fx_FU _ _ h
      refine fx_iinc rfl (show Int32.ofInt 1 = (1 : Int32) by decide) rfl rfl ?_
      refine fx_back rfl rfl rfl ?_
      exact ih _ _ _ h
def g_M_hoard_38 (i0 : Nat) (a1 : Int32) (a2 : Int32) (a3 : Int32) : Nat → fv_M → Int32 → Int32 → Int32 → (fv_M → Int32 → Int32 → Int32 → Option (Int32 × fv_M)) → Option (Int32 × fv_M)
  | 0, _, _, _, _, _ => none
  | n + 1, M, a4, a5, a6, kk => if a6 < 0 then (kk M a4 a5 a6) else ((g_M_from M i0 (i0 + 7) 45).bind fun q4 => fx_ck ((((6 : Int32) * a1) + a2) < 0 ∨ 45 ≤ ((((6 : Int32) * a1) + a2)).toNatClampNeg) (g_M_hoard_70 i0 a1 a2 a3 a4 a5 a6 fx_FU (fv_set q4 (i0 + 18) ((((6 : Int32) * a1) + a2)).toNatClampNeg a6) (1 : Int32) (1 : Int32) (fun M_7 b7_7 b8_7 => if b7_7 = 0 then (g_M_hoard_38 i0 a1 a2 a3 n M_7 (a4 + (0 : Int32)) a5 (a6 + (-1 : Int32)) kk) else (g_M_hoard_38 i0 a1 a2 a3 n M_7 (a4 + (1 : Int32)) a6 (a6 + (-1 : Int32)) kk))))
theorem v_M_hoard_38 {X : fv_X} {sh : fv_Sh} {k : Nat × Nat} {i0 : Nat} {a1 : Int32} {a2 : Int32} {a3 : Int32} {r : Int32 × fv_M} {kk : fv_M → Int32 → Int32 → Int32 → Option (Int32 × fv_M)} (h0 : fx_atM sh i0) (K : ∀ (M : fv_M) (a4 a5 a6 : Int32), kk M a4 a5 a6 = some r → fv_Rn X 161 198 [some (.ref i0), some (.int a1), some (.int a2), some (.int a3), some (.int a4), some (.int a5), some (.int a6)] [] k sh M (some (.int r.1), sh, r.2)) : ∀ (n : Nat) (M : fv_M) (a4 a5 a6 : Int32), g_M_hoard_38 i0 a1 a2 a3 n M a4 a5 a6 kk = some r → fv_Rn X 161 38 [some (.ref i0), some (.int a1), some (.int a2), some (.int a3), some (.int a4), some (.int a5), some (.int a6)] [] k sh M (some (.int r.1), sh, r.2) := by
  intro n
  induction n with
  | zero =>
    intro M a4 a5 a6 h
    replace h : (none : Option (Int32 × fv_M)) = some r := h
    cases h
  | succ n ih =>
    intro M a4 a5 a6 h
    rw [g_M_hoard_38] at h
    refine fx_iload rfl rfl ?_
    by_cases c_4 : a6 < 0
    · replace h := (if_pos c_4).symm.trans h
      refine fx_iflt_j rfl rfl c_4 ?_
      exact K _ _ _ _ h
    · replace h := (if_neg c_4).symm.trans h
      refine fx_iflt_s rfl c_4 ?_
      refine fx_aload rfl rfl ?_
      refine fx_aload rfl rfl ?_
      refine fx_getV rfl h0.1 rfl rfl ?_
      obtain ⟨q4, e_q4, h⟩ := fx_bd h
      refine fx_call [.ref i0, .ref (i0 + 7)] [] rfl (by decide) rfl rfl rfl rfl rfl (Nat.le_of_ble_eq_true rfl) (fx_rcv h0.1 rfl) (v_M_from h0 h0.2.2.2.2.2.2.2.1 e_q4) ?_
      refine fx_aload rfl rfl ?_
      refine fx_getV rfl h0.1 rfl rfl ?_
      refine fx_const rfl (show Int32.ofInt 6 = (6 : Int32) by decide) ?_
      refine fx_iload rfl rfl ?_
      refine fx_imul rfl ?_
      refine fx_iload rfl rfl ?_
      refine fx_iadd rfl ?_
      refine fx_iload rfl rfl ?_
      obtain ⟨c_5, h⟩ := fx_ck_some h
      refine fx_iastore rfl h0.2.2.2.2.2.2.2.2.2.2.2.2.2.2.2.2.2.2 c_5 ?_
      refine fx_const rfl (show Int32.ofInt 1 = (1 : Int32) by decide) ?_
      refine fx_istore rfl rfl ?_
      refine fx_const rfl (show Int32.ofInt 1 = (1 : Int32) by decide) ?_
      refine fx_istore rfl rfl ?_
      refine v_M_hoard_70 h0 (fun M_7 b7_7 b8_7 h => ?_) fx_FU _ _ _ h
      refine fx_iload rfl rfl ?_
      refine fx_iload rfl rfl ?_
      by_cases c_14 : b7_7 = 0
      · replace h := (if_pos c_14).symm.trans h
        refine fx_ifeq_j rfl rfl c_14 ?_
        refine fx_const rfl (show Int32.ofInt 0 = (0 : Int32) by decide) ?_
        refine fx_iadd rfl ?_
        refine fx_istore rfl rfl ?_
        refine fx_iload rfl rfl ?_
        refine fx_ifeq_j rfl rfl c_14 ?_
        refine fx_iload rfl rfl ?_
        refine fx_istore rfl rfl ?_
        refine fx_iinc rfl (show Int32.ofInt (-1) = (-1 : Int32) by decide) rfl rfl ?_
        refine fx_back rfl rfl rfl ?_
        exact ih _ _ _ _ h
      · replace h := (if_neg c_14).symm.trans h
        refine fx_ifeq_s rfl c_14 ?_
        refine fx_const rfl (show Int32.ofInt 1 = (1 : Int32) by decide) ?_
        refine fx_goto rfl rfl ?_
        refine fx_iadd rfl ?_
        refine fx_istore rfl rfl ?_
        refine fx_iload rfl rfl ?_
        refine fx_ifeq_s rfl c_14 ?_
        refine fx_iload rfl rfl ?_
        refine fx_goto rfl rfl ?_
        refine fx_istore rfl rfl ?_
        refine fx_iinc rfl (show Int32.ofInt (-1) = (-1 : Int32) by decide) rfl rfl ?_
        refine fx_back rfl rfl rfl ?_
        exact ih _ _ _ _ h
def g_M_hoard (M : fv_M) (i0 : Nat) (a1 : Int32) (a2 : Int32) (a3 : Int32) : Option (Int32 × fv_M) := (g_M_isVillage M i0 a1).bind fun q1 => if q1 = 0 then (some ((-1 : Int32), M)) else ((g_M_isVerb M i0 a2).bind fun q2 => if q2 = 0 then (some ((-1 : Int32), M)) else ((g_M_in M a3 (0 : Int32) (1 : Int32)).bind fun q3 => if q3 = 0 then (some ((-1 : Int32), M)) else (g_M_hoard_38 i0 a1 a2 a3 fx_FU M (0 : Int32) (-4 : Int32) (30 : Int32) (fun M_8 b4_8 b5_8 b6_8 => if a3 = 0 then (some (b4_8, M_8)) else (some (b5_8, M_8))))))
theorem v_M_hoard {X : fv_X} {sh : fv_Sh} {k : Nat × Nat} {M : fv_M} {i0 : Nat} {a1 : Int32} {a2 : Int32} {a3 : Int32} {r : Int32 × fv_M} (h0 : fx_atM sh i0) (h : g_M_hoard M i0 a1 a2 a3 = some r) : fv_Rn X 161 0 [some (.ref i0), some (.int a1), some (.int a2), some (.int a3)] [] k sh M (some (.int r.1), sh, r.2) := by
  unfold g_M_hoard at h
  refine fx_aload rfl rfl ?_
  refine fx_iload rfl rfl ?_
  obtain ⟨q1, e_q1, h⟩ := fx_bd h
  refine fx_call [.ref i0, .int a1] [] rfl (by decide) rfl rfl rfl rfl rfl (Nat.le_of_ble_eq_true rfl) (fx_rcv h0.1 rfl) (v_M_isVillage h0 e_q1) ?_
  by_cases c_1 : q1 = 0
  · replace h := (if_pos c_1).symm.trans h
    refine fx_ifeq_j rfl rfl c_1 ?_
    refine fx_const rfl (show Int32.ofInt (-1) = (-1 : Int32) by decide) ?_
    obtain rfl := Option.some.inj h
    exact fx_ret rfl rfl
  · replace h := (if_neg c_1).symm.trans h
    refine fx_ifeq_s rfl c_1 ?_
    refine fx_aload rfl rfl ?_
    refine fx_iload rfl rfl ?_
    obtain ⟨q2, e_q2, h⟩ := fx_bd h
    refine fx_call [.ref i0, .int a2] [] rfl (by decide) rfl rfl rfl rfl rfl (Nat.le_of_ble_eq_true rfl) (fx_rcv h0.1 rfl) (v_M_isVerb h0 e_q2) ?_
    by_cases c_2 : q2 = 0
    · replace h := (if_pos c_2).symm.trans h
      refine fx_ifeq_j rfl rfl c_2 ?_
      refine fx_const rfl (show Int32.ofInt (-1) = (-1 : Int32) by decide) ?_
      obtain rfl := Option.some.inj h
      exact fx_ret rfl rfl
    · replace h := (if_neg c_2).symm.trans h
      refine fx_ifeq_s rfl c_2 ?_
      refine fx_iload rfl rfl ?_
      refine fx_const rfl (show Int32.ofInt 0 = (0 : Int32) by decide) ?_
      refine fx_const rfl (show Int32.ofInt 1 = (1 : Int32) by decide) ?_
      obtain ⟨q3, e_q3, h⟩ := fx_bd h
      refine fx_call [.int a3, .int (0 : Int32), .int (1 : Int32)] [] rfl (by decide) rfl rfl rfl rfl rfl (Nat.le_of_ble_eq_true rfl) rfl (v_M_in  e_q3) ?_
      by_cases c_3 : q3 = 0
      · replace h := (if_pos c_3).symm.trans h
        refine fx_ifne_s rfl c_3 ?_
        refine fx_const rfl (show Int32.ofInt (-1) = (-1 : Int32) by decide) ?_
        obtain rfl := Option.some.inj h
        exact fx_ret rfl rfl
      · replace h := (if_neg c_3).symm.trans h
        refine fx_ifne_j rfl rfl c_3 ?_
        refine fx_const rfl (show Int32.ofInt 0 = (0 : Int32) by decide) ?_
        refine fx_istore rfl rfl ?_
        refine fx_const rfl (show Int32.ofInt (-4) = (-4 : Int32) by decide) ?_
        refine fx_istore rfl rfl ?_
        refine fx_const rfl (show Int32.ofInt 30 = (30 : Int32) by decide) ?_
        refine fx_istore rfl rfl ?_
        refine v_M_hoard_38 h0 (fun M_8 b4_8 b5_8 b6_8 h => ?_) fx_FU _ _ _ _ h
        refine fx_iload rfl rfl ?_
        by_cases c_15 : a3 = 0
        · replace h := (if_pos c_15).symm.trans h
          refine fx_ifne_s rfl c_15 ?_
          refine fx_iload rfl rfl ?_
          refine fx_goto rfl rfl ?_
          obtain rfl := Option.some.inj h
          exact fx_ret rfl rfl
        · replace h := (if_neg c_15).symm.trans h
          refine fx_ifne_j rfl rfl c_15 ?_
          refine fx_iload rfl rfl ?_
          obtain rfl := Option.some.inj h
          exact fx_ret rfl rfl

def g_M_caravan (M : fv_M) (i0 : Nat) (a1 : Int32) (a2 : Int32) (a3 : Int32) (a4 : Int32) : Option (Int32 × fv_M) := (g_M_isVillage M i0 a1).bind fun q1 => if q1 = 0 then (some ((-1 : Int32), M)) else ((g_M_isVillage M i0 a2).bind fun q2 => if q2 = 0 then (some ((-1 : Int32), M)) else (if a1 = a2 then (some ((-1 : Int32), M)) else ((g_M_isVerb M i0 a3).bind fun q3 => if q3 = 0 then (some ((-1 : Int32), M)) else ((g_M_in M a4 (1 : Int32) (9 : Int32)).bind fun q4 => if q4 = 0 then (some ((-1 : Int32), M)) else (fx_ck ((((6 : Int32) * a1) + a3) < 0 ∨ 45 ≤ ((((6 : Int32) * a1) + a3)).toNatClampNeg) (if a4 ≤ (M (i0 + 6) ((((6 : Int32) * a1) + a3)).toNatClampNeg) then (fx_ck ((((6 : Int32) * a2) + a3) < 0 ∨ 45 ≤ ((((6 : Int32) * a2) + a3)).toNatClampNeg) (if ((M (i0 + 6) ((((6 : Int32) * a2) + a3)).toNatClampNeg) + a4) ≤ (60 : Int32) then ((g_M_from M i0 (i0 + 6) 45).bind fun q5 => (g_M_goesOn q5 i0 (8 : Int32)).bind fun q6 => (g_M_worthOf q6 i0 (-1 : Int32)).bind fun q7 => (g_M_from q6 i0 (i0 + 6) 45).bind fun q8 => (g_M_goesOn (fv_set (fv_set q8 (i0 + 18) ((((6 : Int32) * a1) + a3)).toNatClampNeg ((q8 (i0 + 18) ((((6 : Int32) * a1) + a3)).toNatClampNeg) - a4)) (i0 + 18) ((((6 : Int32) * a2) + a3)).toNatClampNeg (((fv_set q8 (i0 + 18) ((((6 : Int32) * a1) + a3)).toNatClampNeg ((q8 (i0 + 18) ((((6 : Int32) * a1) + a3)).toNatClampNeg) - a4)) (i0 + 18) ((((6 : Int32) * a2) + a3)).toNatClampNeg) + a4)) i0 (8 : Int32)).bind fun q9 => (g_M_worthOf q9 i0 (-1 : Int32)).bind fun q10 => some ((((1000 : Int32) + q10) - q7), q9)) else (some ((-3 : Int32), M)))) else (some ((-2 : Int32), M))))))))
theorem v_M_caravan {X : fv_X} {sh : fv_Sh} {k : Nat × Nat} {M : fv_M} {i0 : Nat} {a1 : Int32} {a2 : Int32} {a3 : Int32} {a4 : Int32} {r : Int32 × fv_M} (h0 : fx_atM sh i0) (h : g_M_caravan M i0 a1 a2 a3 a4 = some r) : fv_Rn X 162 0 [some (.ref i0), some (.int a1), some (.int a2), some (.int a3), some (.int a4)] [] k sh M (some (.int r.1), sh, r.2) := by
  unfold g_M_caravan at h
  refine fx_aload rfl rfl ?_
  refine fx_iload rfl rfl ?_
  obtain ⟨q1, e_q1, h⟩ := fx_bd h
  refine fx_call [.ref i0, .int a1] [] rfl (by decide) rfl rfl rfl rfl rfl (Nat.le_of_ble_eq_true rfl) (fx_rcv h0.1 rfl) (v_M_isVillage h0 e_q1) ?_
  by_cases c_1 : q1 = 0
  · replace h := (if_pos c_1).symm.trans h
    refine fx_ifeq_j rfl rfl c_1 ?_
    refine fx_const rfl (show Int32.ofInt (-1) = (-1 : Int32) by decide) ?_
    obtain rfl := Option.some.inj h
    exact fx_ret rfl rfl
  · replace h := (if_neg c_1).symm.trans h
    refine fx_ifeq_s rfl c_1 ?_
    refine fx_aload rfl rfl ?_
    refine fx_iload rfl rfl ?_
    obtain ⟨q2, e_q2, h⟩ := fx_bd h
    refine fx_call [.ref i0, .int a2] [] rfl (by decide) rfl rfl rfl rfl rfl (Nat.le_of_ble_eq_true rfl) (fx_rcv h0.1 rfl) (v_M_isVillage h0 e_q2) ?_
    by_cases c_2 : q2 = 0
    · replace h := (if_pos c_2).symm.trans h
      refine fx_ifeq_j rfl rfl c_2 ?_
      refine fx_const rfl (show Int32.ofInt (-1) = (-1 : Int32) by decide) ?_
      obtain rfl := Option.some.inj h
      exact fx_ret rfl rfl
    · replace h := (if_neg c_2).symm.trans h
      refine fx_ifeq_s rfl c_2 ?_
      refine fx_iload rfl rfl ?_
      refine fx_iload rfl rfl ?_
      by_cases c_3 : a1 = a2
      · replace h := (if_pos c_3).symm.trans h
        refine fx_iceq_j rfl rfl c_3 ?_
        refine fx_const rfl (show Int32.ofInt (-1) = (-1 : Int32) by decide) ?_
        obtain rfl := Option.some.inj h
        exact fx_ret rfl rfl
      · replace h := (if_neg c_3).symm.trans h
        refine fx_iceq_s rfl c_3 ?_
        refine fx_aload rfl rfl ?_
        refine fx_iload rfl rfl ?_
        obtain ⟨q3, e_q3, h⟩ := fx_bd h
        refine fx_call [.ref i0, .int a3] [] rfl (by decide) rfl rfl rfl rfl rfl (Nat.le_of_ble_eq_true rfl) (fx_rcv h0.1 rfl) (v_M_isVerb h0 e_q3) ?_
        by_cases c_4 : q3 = 0
        · replace h := (if_pos c_4).symm.trans h
          refine fx_ifeq_j rfl rfl c_4 ?_
          refine fx_const rfl (show Int32.ofInt (-1) = (-1 : Int32) by decide) ?_
          obtain rfl := Option.some.inj h
          exact fx_ret rfl rfl
        · replace h := (if_neg c_4).symm.trans h
          refine fx_ifeq_s rfl c_4 ?_
          refine fx_iload rfl rfl ?_
          refine fx_const rfl (show Int32.ofInt 1 = (1 : Int32) by decide) ?_
          refine fx_const rfl (show Int32.ofInt 9 = (9 : Int32) by decide) ?_
          obtain ⟨q4, e_q4, h⟩ := fx_bd h
          refine fx_call [.int a4, .int (1 : Int32), .int (9 : Int32)] [] rfl (by decide) rfl rfl rfl rfl rfl (Nat.le_of_ble_eq_true rfl) rfl (v_M_in  e_q4) ?_
          by_cases c_5 : q4 = 0
          · replace h := (if_pos c_5).symm.trans h
            refine fx_ifne_s rfl c_5 ?_
            refine fx_const rfl (show Int32.ofInt (-1) = (-1 : Int32) by decide) ?_
            obtain rfl := Option.some.inj h
            exact fx_ret rfl rfl
          · replace h := (if_neg c_5).symm.trans h
            refine fx_ifne_j rfl rfl c_5 ?_
            refine fx_aload rfl rfl ?_
            refine fx_getV rfl h0.1 rfl rfl ?_
            refine fx_const rfl (show Int32.ofInt 6 = (6 : Int32) by decide) ?_
            refine fx_iload rfl rfl ?_
            refine fx_imul rfl ?_
            refine fx_iload rfl rfl ?_
            refine fx_iadd rfl ?_
            obtain ⟨c_6, h⟩ := fx_ck_some h
            refine fx_iaload rfl (fun z => absurd z.1 (by decide)) h0.2.2.2.2.2.2.1 c_6 ?_
            refine fx_iload rfl rfl ?_
            by_cases c_7 : a4 ≤ (M (i0 + 6) ((((6 : Int32) * a1) + a3)).toNatClampNeg)
            · replace h := (if_pos c_7).symm.trans h
              refine fx_icge_j rfl rfl c_7 ?_
              refine fx_aload rfl rfl ?_
              refine fx_getV rfl h0.1 rfl rfl ?_
              refine fx_const rfl (show Int32.ofInt 6 = (6 : Int32) by decide) ?_
              refine fx_iload rfl rfl ?_
              refine fx_imul rfl ?_
              refine fx_iload rfl rfl ?_
              refine fx_iadd rfl ?_
              obtain ⟨c_8, h⟩ := fx_ck_some h
              refine fx_iaload rfl (fun z => absurd z.1 (by decide)) h0.2.2.2.2.2.2.1 c_8 ?_
              refine fx_iload rfl rfl ?_
              refine fx_iadd rfl ?_
              refine fx_const rfl (show Int32.ofInt 60 = (60 : Int32) by decide) ?_
              by_cases c_9 : ((M (i0 + 6) ((((6 : Int32) * a2) + a3)).toNatClampNeg) + a4) ≤ (60 : Int32)
              · replace h := (if_pos c_9).symm.trans h
                refine fx_icle_j rfl rfl c_9 ?_
                refine fx_aload rfl rfl ?_
                refine fx_aload rfl rfl ?_
                refine fx_getV rfl h0.1 rfl rfl ?_
                obtain ⟨q5, e_q5, h⟩ := fx_bd h
                refine fx_call [.ref i0, .ref (i0 + 6)] [] rfl (by decide) rfl rfl rfl rfl rfl (Nat.le_of_ble_eq_true rfl) (fx_rcv h0.1 rfl) (v_M_from h0 h0.2.2.2.2.2.2.1 e_q5) ?_
                refine fx_aload rfl rfl ?_
                refine fx_const rfl (show Int32.ofInt 8 = (8 : Int32) by decide) ?_
                obtain ⟨q6, e_q6, h⟩ := fx_bd h
                refine fx_call [.ref i0, .int (8 : Int32)] [] rfl (by decide) rfl rfl rfl rfl rfl (Nat.le_of_ble_eq_true rfl) (fx_rcv h0.1 rfl) (v_M_goesOn h0 e_q6) ?_
                refine fx_aload rfl rfl ?_
                refine fx_const rfl (show Int32.ofInt (-1) = (-1 : Int32) by decide) ?_
                obtain ⟨q7, e_q7, h⟩ := fx_bd h
                refine fx_call [.ref i0, .int (-1 : Int32)] [] rfl (by decide) rfl rfl rfl rfl rfl (Nat.le_of_ble_eq_true rfl) (fx_rcv h0.1 rfl) (v_M_worthOf h0 e_q7) ?_
                refine fx_istore rfl rfl ?_
                refine fx_aload rfl rfl ?_
                refine fx_aload rfl rfl ?_
                refine fx_getV rfl h0.1 rfl rfl ?_
                obtain ⟨q8, e_q8, h⟩ := fx_bd h
                refine fx_call [.ref i0, .ref (i0 + 6)] [] rfl (by decide) rfl rfl rfl rfl rfl (Nat.le_of_ble_eq_true rfl) (fx_rcv h0.1 rfl) (v_M_from h0 h0.2.2.2.2.2.2.1 e_q8) ?_
                refine fx_aload rfl rfl ?_
                refine fx_getV rfl h0.1 rfl rfl ?_
                refine fx_const rfl (show Int32.ofInt 6 = (6 : Int32) by decide) ?_
                refine fx_iload rfl rfl ?_
                refine fx_imul rfl ?_
                refine fx_iload rfl rfl ?_
                refine fx_iadd rfl ?_
                refine fx_dup2 rfl ⟨rfl, rfl⟩ ?_
                refine fx_iaload rfl (fun z => absurd z.1 (by decide)) h0.2.2.2.2.2.2.2.2.2.2.2.2.2.2.2.2.2.2 c_6 ?_
                refine fx_iload rfl rfl ?_
                refine fx_isub rfl ?_
                refine fx_iastore rfl h0.2.2.2.2.2.2.2.2.2.2.2.2.2.2.2.2.2.2 c_6 ?_
                refine fx_aload rfl rfl ?_
                refine fx_getV rfl h0.1 rfl rfl ?_
                refine fx_const rfl (show Int32.ofInt 6 = (6 : Int32) by decide) ?_
                refine fx_iload rfl rfl ?_
                refine fx_imul rfl ?_
                refine fx_iload rfl rfl ?_
                refine fx_iadd rfl ?_
                refine fx_dup2 rfl ⟨rfl, rfl⟩ ?_
                refine fx_iaload rfl (fun z => absurd z.1 (by decide)) h0.2.2.2.2.2.2.2.2.2.2.2.2.2.2.2.2.2.2 c_8 ?_
                refine fx_iload rfl rfl ?_
                refine fx_iadd rfl ?_
                refine fx_iastore rfl h0.2.2.2.2.2.2.2.2.2.2.2.2.2.2.2.2.2.2 c_8 ?_
                refine fx_aload rfl rfl ?_
                refine fx_const rfl (show Int32.ofInt 8 = (8 : Int32) by decide) ?_
                obtain ⟨q9, e_q9, h⟩ := fx_bd h
                refine fx_call [.ref i0, .int (8 : Int32)] [] rfl (by decide) rfl rfl rfl rfl rfl (Nat.le_of_ble_eq_true rfl) (fx_rcv h0.1 rfl) (v_M_goesOn h0 e_q9) ?_
                refine fx_const rfl (show Int32.ofInt 1000 = (1000 : Int32) by decide) ?_
                refine fx_aload rfl rfl ?_
                refine fx_const rfl (show Int32.ofInt (-1) = (-1 : Int32) by decide) ?_
                obtain ⟨q10, e_q10, h⟩ := fx_bd h
                refine fx_call [.ref i0, .int (-1 : Int32)] [.int (1000 : Int32)] rfl (by decide) rfl rfl rfl rfl rfl (Nat.le_of_ble_eq_true rfl) (fx_rcv h0.1 rfl) (v_M_worthOf h0 e_q10) ?_
                refine fx_iadd rfl ?_
                refine fx_iload rfl rfl ?_
                refine fx_isub rfl ?_
                obtain rfl := Option.some.inj h
                exact fx_ret rfl rfl
              · replace h := (if_neg c_9).symm.trans h
                refine fx_icle_s rfl c_9 ?_
                refine fx_const rfl (show Int32.ofInt (-3) = (-3 : Int32) by decide) ?_
                obtain rfl := Option.some.inj h
                exact fx_ret rfl rfl
            · replace h := (if_neg c_7).symm.trans h
              refine fx_icge_s rfl c_7 ?_
              refine fx_const rfl (show Int32.ofInt (-2) = (-2 : Int32) by decide) ?_
              obtain rfl := Option.some.inj h
              exact fx_ret rfl rfl

def g_M_decade_43 (i0 : Nat) (a1 : Int32) (a2 : Int32) (a3 : Int32) : Nat → fv_M → Int32 → (fv_M → Int32 → Option (Int32 × fv_M)) → Option (Int32 × fv_M)
  | 0, _, _, _ => none
  | n + 1, M, a4, kk => if a2 ≤ a4 then (kk M a4) else (fx_ck ((M i0 4) = 0) (fx_ck ((M i0 0) = 0) (fx_ck ((((6 : Int32) * ((((((((7919 : Int64) * a1.toInt64) + ((6151 : Int64) * a4.toInt64)) + (1 : Int64)) * ((((7919 : Int64) * a1.toInt64) + ((6151 : Int64) * a4.toInt64)) + (1 : Int64))) - (((((7919 : Int64) * a1.toInt64) + ((6151 : Int64) * a4.toInt64)) + (1 : Int64)) * ((((7919 : Int64) * a1.toInt64) + ((6151 : Int64) * a4.toInt64)) + (1 : Int64))) / (65521 : Int64) * (65521 : Int64)) / (8 : Int64)).toInt32 - (((((((7919 : Int64) * a1.toInt64) + ((6151 : Int64) * a4.toInt64)) + (1 : Int64)) * ((((7919 : Int64) * a1.toInt64) + ((6151 : Int64) * a4.toInt64)) + (1 : Int64))) - (((((7919 : Int64) * a1.toInt64) + ((6151 : Int64) * a4.toInt64)) + (1 : Int64)) * ((((7919 : Int64) * a1.toInt64) + ((6151 : Int64) * a4.toInt64)) + (1 : Int64))) / (65521 : Int64) * (65521 : Int64)) / (8 : Int64)).toInt32 / (M i0 4) * (M i0 4))) + (((((((((7919 : Int64) * a1.toInt64) + ((6151 : Int64) * a4.toInt64)) + (1 : Int64)) * ((((7919 : Int64) * a1.toInt64) + ((6151 : Int64) * a4.toInt64)) + (1 : Int64))) - (((((7919 : Int64) * a1.toInt64) + ((6151 : Int64) * a4.toInt64)) + (1 : Int64)) * ((((7919 : Int64) * a1.toInt64) + ((6151 : Int64) * a4.toInt64)) + (1 : Int64))) / (65521 : Int64) * (65521 : Int64)) / (8 : Int64)).toInt32 / (16 : Int32)) - ((((((((7919 : Int64) * a1.toInt64) + ((6151 : Int64) * a4.toInt64)) + (1 : Int64)) * ((((7919 : Int64) * a1.toInt64) + ((6151 : Int64) * a4.toInt64)) + (1 : Int64))) - (((((7919 : Int64) * a1.toInt64) + ((6151 : Int64) * a4.toInt64)) + (1 : Int64)) * ((((7919 : Int64) * a1.toInt64) + ((6151 : Int64) * a4.toInt64)) + (1 : Int64))) / (65521 : Int64) * (65521 : Int64)) / (8 : Int64)).toInt32 / (16 : Int32)) / (M i0 0) * (M i0 0))) < 0 ∨ 45 ≤ ((((6 : Int32) * ((((((((7919 : Int64) * a1.toInt64) + ((6151 : Int64) * a4.toInt64)) + (1 : Int64)) * ((((7919 : Int64) * a1.toInt64) + ((6151 : Int64) * a4.toInt64)) + (1 : Int64))) - (((((7919 : Int64) * a1.toInt64) + ((6151 : Int64) * a4.toInt64)) + (1 : Int64)) * ((((7919 : Int64) * a1.toInt64) + ((6151 : Int64) * a4.toInt64)) + (1 : Int64))) / (65521 : Int64) * (65521 : Int64)) / (8 : Int64)).toInt32 - (((((((7919 : Int64) * a1.toInt64) + ((6151 : Int64) * a4.toInt64)) + (1 : Int64)) * ((((7919 : Int64) * a1.toInt64) + ((6151 : Int64) * a4.toInt64)) + (1 : Int64))) - (((((7919 : Int64) * a1.toInt64) + ((6151 : Int64) * a4.toInt64)) + (1 : Int64)) * ((((7919 : Int64) * a1.toInt64) + ((6151 : Int64) * a4.toInt64)) + (1 : Int64))) / (65521 : Int64) * (65521 : Int64)) / (8 : Int64)).toInt32 / (M i0 4) * (M i0 4))) + (((((((((7919 : Int64) * a1.toInt64) + ((6151 : Int64) * a4.toInt64)) + (1 : Int64)) * ((((7919 : Int64) * a1.toInt64) + ((6151 : Int64) * a4.toInt64)) + (1 : Int64))) - (((((7919 : Int64) * a1.toInt64) + ((6151 : Int64) * a4.toInt64)) + (1 : Int64)) * ((((7919 : Int64) * a1.toInt64) + ((6151 : Int64) * a4.toInt64)) + (1 : Int64))) / (65521 : Int64) * (65521 : Int64)) / (8 : Int64)).toInt32 / (16 : Int32)) - ((((((((7919 : Int64) * a1.toInt64) + ((6151 : Int64) * a4.toInt64)) + (1 : Int64)) * ((((7919 : Int64) * a1.toInt64) + ((6151 : Int64) * a4.toInt64)) + (1 : Int64))) - (((((7919 : Int64) * a1.toInt64) + ((6151 : Int64) * a4.toInt64)) + (1 : Int64)) * ((((7919 : Int64) * a1.toInt64) + ((6151 : Int64) * a4.toInt64)) + (1 : Int64))) / (65521 : Int64) * (65521 : Int64)) / (8 : Int64)).toInt32 / (16 : Int32)) / (M i0 0) * (M i0 0)))).toNatClampNeg) (if (((((((((7919 : Int64) * a1.toInt64) + ((6151 : Int64) * a4.toInt64)) + (1 : Int64)) * ((((7919 : Int64) * a1.toInt64) + ((6151 : Int64) * a4.toInt64)) + (1 : Int64))) - (((((7919 : Int64) * a1.toInt64) + ((6151 : Int64) * a4.toInt64)) + (1 : Int64)) * ((((7919 : Int64) * a1.toInt64) + ((6151 : Int64) * a4.toInt64)) + (1 : Int64))) / (65521 : Int64) * (65521 : Int64)) / (8 : Int64)).toInt32 / (8 : Int32)) - ((((((((7919 : Int64) * a1.toInt64) + ((6151 : Int64) * a4.toInt64)) + (1 : Int64)) * ((((7919 : Int64) * a1.toInt64) + ((6151 : Int64) * a4.toInt64)) + (1 : Int64))) - (((((7919 : Int64) * a1.toInt64) + ((6151 : Int64) * a4.toInt64)) + (1 : Int64)) * ((((7919 : Int64) * a1.toInt64) + ((6151 : Int64) * a4.toInt64)) + (1 : Int64))) / (65521 : Int64) * (65521 : Int64)) / (8 : Int64)).toInt32 / (8 : Int32)) / (2 : Int32) * (2 : Int32)) = (1 : Int32) then (if 0 ≤ ((M (i0 + 18) ((((6 : Int32) * ((((((((7919 : Int64) * a1.toInt64) + ((6151 : Int64) * a4.toInt64)) + (1 : Int64)) * ((((7919 : Int64) * a1.toInt64) + ((6151 : Int64) * a4.toInt64)) + (1 : Int64))) - (((((7919 : Int64) * a1.toInt64) + ((6151 : Int64) * a4.toInt64)) + (1 : Int64)) * ((((7919 : Int64) * a1.toInt64) + ((6151 : Int64) * a4.toInt64)) + (1 : Int64))) / (65521 : Int64) * (65521 : Int64)) / (8 : Int64)).toInt32 - (((((((7919 : Int64) * a1.toInt64) + ((6151 : Int64) * a4.toInt64)) + (1 : Int64)) * ((((7919 : Int64) * a1.toInt64) + ((6151 : Int64) * a4.toInt64)) + (1 : Int64))) - (((((7919 : Int64) * a1.toInt64) + ((6151 : Int64) * a4.toInt64)) + (1 : Int64)) * ((((7919 : Int64) * a1.toInt64) + ((6151 : Int64) * a4.toInt64)) + (1 : Int64))) / (65521 : Int64) * (65521 : Int64)) / (8 : Int64)).toInt32 / (M i0 4) * (M i0 4))) + (((((((((7919 : Int64) * a1.toInt64) + ((6151 : Int64) * a4.toInt64)) + (1 : Int64)) * ((((7919 : Int64) * a1.toInt64) + ((6151 : Int64) * a4.toInt64)) + (1 : Int64))) - (((((7919 : Int64) * a1.toInt64) + ((6151 : Int64) * a4.toInt64)) + (1 : Int64)) * ((((7919 : Int64) * a1.toInt64) + ((6151 : Int64) * a4.toInt64)) + (1 : Int64))) / (65521 : Int64) * (65521 : Int64)) / (8 : Int64)).toInt32 / (16 : Int32)) - ((((((((7919 : Int64) * a1.toInt64) + ((6151 : Int64) * a4.toInt64)) + (1 : Int64)) * ((((7919 : Int64) * a1.toInt64) + ((6151 : Int64) * a4.toInt64)) + (1 : Int64))) - (((((7919 : Int64) * a1.toInt64) + ((6151 : Int64) * a4.toInt64)) + (1 : Int64)) * ((((7919 : Int64) * a1.toInt64) + ((6151 : Int64) * a4.toInt64)) + (1 : Int64))) / (65521 : Int64) * (65521 : Int64)) / (8 : Int64)).toInt32 / (16 : Int32)) / (M i0 0) * (M i0 0)))).toNatClampNeg) + (1 : Int32)) then (if ((M (i0 + 18) ((((6 : Int32) * ((((((((7919 : Int64) * a1.toInt64) + ((6151 : Int64) * a4.toInt64)) + (1 : Int64)) * ((((7919 : Int64) * a1.toInt64) + ((6151 : Int64) * a4.toInt64)) + (1 : Int64))) - (((((7919 : Int64) * a1.toInt64) + ((6151 : Int64) * a4.toInt64)) + (1 : Int64)) * ((((7919 : Int64) * a1.toInt64) + ((6151 : Int64) * a4.toInt64)) + (1 : Int64))) / (65521 : Int64) * (65521 : Int64)) / (8 : Int64)).toInt32 - (((((((7919 : Int64) * a1.toInt64) + ((6151 : Int64) * a4.toInt64)) + (1 : Int64)) * ((((7919 : Int64) * a1.toInt64) + ((6151 : Int64) * a4.toInt64)) + (1 : Int64))) - (((((7919 : Int64) * a1.toInt64) + ((6151 : Int64) * a4.toInt64)) + (1 : Int64)) * ((((7919 : Int64) * a1.toInt64) + ((6151 : Int64) * a4.toInt64)) + (1 : Int64))) / (65521 : Int64) * (65521 : Int64)) / (8 : Int64)).toInt32 / (M i0 4) * (M i0 4))) + (((((((((7919 : Int64) * a1.toInt64) + ((6151 : Int64) * a4.toInt64)) + (1 : Int64)) * ((((7919 : Int64) * a1.toInt64) + ((6151 : Int64) * a4.toInt64)) + (1 : Int64))) - (((((7919 : Int64) * a1.toInt64) + ((6151 : Int64) * a4.toInt64)) + (1 : Int64)) * ((((7919 : Int64) * a1.toInt64) + ((6151 : Int64) * a4.toInt64)) + (1 : Int64))) / (65521 : Int64) * (65521 : Int64)) / (8 : Int64)).toInt32 / (16 : Int32)) - ((((((((7919 : Int64) * a1.toInt64) + ((6151 : Int64) * a4.toInt64)) + (1 : Int64)) * ((((7919 : Int64) * a1.toInt64) + ((6151 : Int64) * a4.toInt64)) + (1 : Int64))) - (((((7919 : Int64) * a1.toInt64) + ((6151 : Int64) * a4.toInt64)) + (1 : Int64)) * ((((7919 : Int64) * a1.toInt64) + ((6151 : Int64) * a4.toInt64)) + (1 : Int64))) / (65521 : Int64) * (65521 : Int64)) / (8 : Int64)).toInt32 / (16 : Int32)) / (M i0 0) * (M i0 0)))).toNatClampNeg) + (1 : Int32)) ≤ (60 : Int32) then ((g_M_goes (fv_set M (i0 + 18) ((((6 : Int32) * ((((((((7919 : Int64) * a1.toInt64) + ((6151 : Int64) * a4.toInt64)) + (1 : Int64)) * ((((7919 : Int64) * a1.toInt64) + ((6151 : Int64) * a4.toInt64)) + (1 : Int64))) - (((((7919 : Int64) * a1.toInt64) + ((6151 : Int64) * a4.toInt64)) + (1 : Int64)) * ((((7919 : Int64) * a1.toInt64) + ((6151 : Int64) * a4.toInt64)) + (1 : Int64))) / (65521 : Int64) * (65521 : Int64)) / (8 : Int64)).toInt32 - (((((((7919 : Int64) * a1.toInt64) + ((6151 : Int64) * a4.toInt64)) + (1 : Int64)) * ((((7919 : Int64) * a1.toInt64) + ((6151 : Int64) * a4.toInt64)) + (1 : Int64))) - (((((7919 : Int64) * a1.toInt64) + ((6151 : Int64) * a4.toInt64)) + (1 : Int64)) * ((((7919 : Int64) * a1.toInt64) + ((6151 : Int64) * a4.toInt64)) + (1 : Int64))) / (65521 : Int64) * (65521 : Int64)) / (8 : Int64)).toInt32 / (M i0 4) * (M i0 4))) + (((((((((7919 : Int64) * a1.toInt64) + ((6151 : Int64) * a4.toInt64)) + (1 : Int64)) * ((((7919 : Int64) * a1.toInt64) + ((6151 : Int64) * a4.toInt64)) + (1 : Int64))) - (((((7919 : Int64) * a1.toInt64) + ((6151 : Int64) * a4.toInt64)) + (1 : Int64)) * ((((7919 : Int64) * a1.toInt64) + ((6151 : Int64) * a4.toInt64)) + (1 : Int64))) / (65521 : Int64) * (65521 : Int64)) / (8 : Int64)).toInt32 / (16 : Int32)) - ((((((((7919 : Int64) * a1.toInt64) + ((6151 : Int64) * a4.toInt64)) + (1 : Int64)) * ((((7919 : Int64) * a1.toInt64) + ((6151 : Int64) * a4.toInt64)) + (1 : Int64))) - (((((7919 : Int64) * a1.toInt64) + ((6151 : Int64) * a4.toInt64)) + (1 : Int64)) * ((((7919 : Int64) * a1.toInt64) + ((6151 : Int64) * a4.toInt64)) + (1 : Int64))) / (65521 : Int64) * (65521 : Int64)) / (8 : Int64)).toInt32 / (16 : Int32)) / (M i0 0) * (M i0 0)))).toNatClampNeg ((M (i0 + 18) ((((6 : Int32) * ((((((((7919 : Int64) * a1.toInt64) + ((6151 : Int64) * a4.toInt64)) + (1 : Int64)) * ((((7919 : Int64) * a1.toInt64) + ((6151 : Int64) * a4.toInt64)) + (1 : Int64))) - (((((7919 : Int64) * a1.toInt64) + ((6151 : Int64) * a4.toInt64)) + (1 : Int64)) * ((((7919 : Int64) * a1.toInt64) + ((6151 : Int64) * a4.toInt64)) + (1 : Int64))) / (65521 : Int64) * (65521 : Int64)) / (8 : Int64)).toInt32 - (((((((7919 : Int64) * a1.toInt64) + ((6151 : Int64) * a4.toInt64)) + (1 : Int64)) * ((((7919 : Int64) * a1.toInt64) + ((6151 : Int64) * a4.toInt64)) + (1 : Int64))) - (((((7919 : Int64) * a1.toInt64) + ((6151 : Int64) * a4.toInt64)) + (1 : Int64)) * ((((7919 : Int64) * a1.toInt64) + ((6151 : Int64) * a4.toInt64)) + (1 : Int64))) / (65521 : Int64) * (65521 : Int64)) / (8 : Int64)).toInt32 / (M i0 4) * (M i0 4))) + (((((((((7919 : Int64) * a1.toInt64) + ((6151 : Int64) * a4.toInt64)) + (1 : Int64)) * ((((7919 : Int64) * a1.toInt64) + ((6151 : Int64) * a4.toInt64)) + (1 : Int64))) - (((((7919 : Int64) * a1.toInt64) + ((6151 : Int64) * a4.toInt64)) + (1 : Int64)) * ((((7919 : Int64) * a1.toInt64) + ((6151 : Int64) * a4.toInt64)) + (1 : Int64))) / (65521 : Int64) * (65521 : Int64)) / (8 : Int64)).toInt32 / (16 : Int32)) - ((((((((7919 : Int64) * a1.toInt64) + ((6151 : Int64) * a4.toInt64)) + (1 : Int64)) * ((((7919 : Int64) * a1.toInt64) + ((6151 : Int64) * a4.toInt64)) + (1 : Int64))) - (((((7919 : Int64) * a1.toInt64) + ((6151 : Int64) * a4.toInt64)) + (1 : Int64)) * ((((7919 : Int64) * a1.toInt64) + ((6151 : Int64) * a4.toInt64)) + (1 : Int64))) / (65521 : Int64) * (65521 : Int64)) / (8 : Int64)).toInt32 / (16 : Int32)) / (M i0 0) * (M i0 0)))).toNatClampNeg) + (1 : Int32))) i0).bind fun q5 => g_M_decade_43 i0 a1 a2 a3 n q5.2 (a4 + (1 : Int32)) kk) else ((g_M_goes (fv_set M (i0 + 18) ((((6 : Int32) * ((((((((7919 : Int64) * a1.toInt64) + ((6151 : Int64) * a4.toInt64)) + (1 : Int64)) * ((((7919 : Int64) * a1.toInt64) + ((6151 : Int64) * a4.toInt64)) + (1 : Int64))) - (((((7919 : Int64) * a1.toInt64) + ((6151 : Int64) * a4.toInt64)) + (1 : Int64)) * ((((7919 : Int64) * a1.toInt64) + ((6151 : Int64) * a4.toInt64)) + (1 : Int64))) / (65521 : Int64) * (65521 : Int64)) / (8 : Int64)).toInt32 - (((((((7919 : Int64) * a1.toInt64) + ((6151 : Int64) * a4.toInt64)) + (1 : Int64)) * ((((7919 : Int64) * a1.toInt64) + ((6151 : Int64) * a4.toInt64)) + (1 : Int64))) - (((((7919 : Int64) * a1.toInt64) + ((6151 : Int64) * a4.toInt64)) + (1 : Int64)) * ((((7919 : Int64) * a1.toInt64) + ((6151 : Int64) * a4.toInt64)) + (1 : Int64))) / (65521 : Int64) * (65521 : Int64)) / (8 : Int64)).toInt32 / (M i0 4) * (M i0 4))) + (((((((((7919 : Int64) * a1.toInt64) + ((6151 : Int64) * a4.toInt64)) + (1 : Int64)) * ((((7919 : Int64) * a1.toInt64) + ((6151 : Int64) * a4.toInt64)) + (1 : Int64))) - (((((7919 : Int64) * a1.toInt64) + ((6151 : Int64) * a4.toInt64)) + (1 : Int64)) * ((((7919 : Int64) * a1.toInt64) + ((6151 : Int64) * a4.toInt64)) + (1 : Int64))) / (65521 : Int64) * (65521 : Int64)) / (8 : Int64)).toInt32 / (16 : Int32)) - ((((((((7919 : Int64) * a1.toInt64) + ((6151 : Int64) * a4.toInt64)) + (1 : Int64)) * ((((7919 : Int64) * a1.toInt64) + ((6151 : Int64) * a4.toInt64)) + (1 : Int64))) - (((((7919 : Int64) * a1.toInt64) + ((6151 : Int64) * a4.toInt64)) + (1 : Int64)) * ((((7919 : Int64) * a1.toInt64) + ((6151 : Int64) * a4.toInt64)) + (1 : Int64))) / (65521 : Int64) * (65521 : Int64)) / (8 : Int64)).toInt32 / (16 : Int32)) / (M i0 0) * (M i0 0)))).toNatClampNeg (60 : Int32)) i0).bind fun q6 => g_M_decade_43 i0 a1 a2 a3 n q6.2 (a4 + (1 : Int32)) kk)) else ((g_M_goes (fv_set M (i0 + 18) ((((6 : Int32) * ((((((((7919 : Int64) * a1.toInt64) + ((6151 : Int64) * a4.toInt64)) + (1 : Int64)) * ((((7919 : Int64) * a1.toInt64) + ((6151 : Int64) * a4.toInt64)) + (1 : Int64))) - (((((7919 : Int64) * a1.toInt64) + ((6151 : Int64) * a4.toInt64)) + (1 : Int64)) * ((((7919 : Int64) * a1.toInt64) + ((6151 : Int64) * a4.toInt64)) + (1 : Int64))) / (65521 : Int64) * (65521 : Int64)) / (8 : Int64)).toInt32 - (((((((7919 : Int64) * a1.toInt64) + ((6151 : Int64) * a4.toInt64)) + (1 : Int64)) * ((((7919 : Int64) * a1.toInt64) + ((6151 : Int64) * a4.toInt64)) + (1 : Int64))) - (((((7919 : Int64) * a1.toInt64) + ((6151 : Int64) * a4.toInt64)) + (1 : Int64)) * ((((7919 : Int64) * a1.toInt64) + ((6151 : Int64) * a4.toInt64)) + (1 : Int64))) / (65521 : Int64) * (65521 : Int64)) / (8 : Int64)).toInt32 / (M i0 4) * (M i0 4))) + (((((((((7919 : Int64) * a1.toInt64) + ((6151 : Int64) * a4.toInt64)) + (1 : Int64)) * ((((7919 : Int64) * a1.toInt64) + ((6151 : Int64) * a4.toInt64)) + (1 : Int64))) - (((((7919 : Int64) * a1.toInt64) + ((6151 : Int64) * a4.toInt64)) + (1 : Int64)) * ((((7919 : Int64) * a1.toInt64) + ((6151 : Int64) * a4.toInt64)) + (1 : Int64))) / (65521 : Int64) * (65521 : Int64)) / (8 : Int64)).toInt32 / (16 : Int32)) - ((((((((7919 : Int64) * a1.toInt64) + ((6151 : Int64) * a4.toInt64)) + (1 : Int64)) * ((((7919 : Int64) * a1.toInt64) + ((6151 : Int64) * a4.toInt64)) + (1 : Int64))) - (((((7919 : Int64) * a1.toInt64) + ((6151 : Int64) * a4.toInt64)) + (1 : Int64)) * ((((7919 : Int64) * a1.toInt64) + ((6151 : Int64) * a4.toInt64)) + (1 : Int64))) / (65521 : Int64) * (65521 : Int64)) / (8 : Int64)).toInt32 / (16 : Int32)) / (M i0 0) * (M i0 0)))).toNatClampNeg (0 : Int32)) i0).bind fun q7 => g_M_decade_43 i0 a1 a2 a3 n q7.2 (a4 + (1 : Int32)) kk)) else (if 0 ≤ ((M (i0 + 18) ((((6 : Int32) * ((((((((7919 : Int64) * a1.toInt64) + ((6151 : Int64) * a4.toInt64)) + (1 : Int64)) * ((((7919 : Int64) * a1.toInt64) + ((6151 : Int64) * a4.toInt64)) + (1 : Int64))) - (((((7919 : Int64) * a1.toInt64) + ((6151 : Int64) * a4.toInt64)) + (1 : Int64)) * ((((7919 : Int64) * a1.toInt64) + ((6151 : Int64) * a4.toInt64)) + (1 : Int64))) / (65521 : Int64) * (65521 : Int64)) / (8 : Int64)).toInt32 - (((((((7919 : Int64) * a1.toInt64) + ((6151 : Int64) * a4.toInt64)) + (1 : Int64)) * ((((7919 : Int64) * a1.toInt64) + ((6151 : Int64) * a4.toInt64)) + (1 : Int64))) - (((((7919 : Int64) * a1.toInt64) + ((6151 : Int64) * a4.toInt64)) + (1 : Int64)) * ((((7919 : Int64) * a1.toInt64) + ((6151 : Int64) * a4.toInt64)) + (1 : Int64))) / (65521 : Int64) * (65521 : Int64)) / (8 : Int64)).toInt32 / (M i0 4) * (M i0 4))) + (((((((((7919 : Int64) * a1.toInt64) + ((6151 : Int64) * a4.toInt64)) + (1 : Int64)) * ((((7919 : Int64) * a1.toInt64) + ((6151 : Int64) * a4.toInt64)) + (1 : Int64))) - (((((7919 : Int64) * a1.toInt64) + ((6151 : Int64) * a4.toInt64)) + (1 : Int64)) * ((((7919 : Int64) * a1.toInt64) + ((6151 : Int64) * a4.toInt64)) + (1 : Int64))) / (65521 : Int64) * (65521 : Int64)) / (8 : Int64)).toInt32 / (16 : Int32)) - ((((((((7919 : Int64) * a1.toInt64) + ((6151 : Int64) * a4.toInt64)) + (1 : Int64)) * ((((7919 : Int64) * a1.toInt64) + ((6151 : Int64) * a4.toInt64)) + (1 : Int64))) - (((((7919 : Int64) * a1.toInt64) + ((6151 : Int64) * a4.toInt64)) + (1 : Int64)) * ((((7919 : Int64) * a1.toInt64) + ((6151 : Int64) * a4.toInt64)) + (1 : Int64))) / (65521 : Int64) * (65521 : Int64)) / (8 : Int64)).toInt32 / (16 : Int32)) / (M i0 0) * (M i0 0)))).toNatClampNeg) + (-1 : Int32)) then (if ((M (i0 + 18) ((((6 : Int32) * ((((((((7919 : Int64) * a1.toInt64) + ((6151 : Int64) * a4.toInt64)) + (1 : Int64)) * ((((7919 : Int64) * a1.toInt64) + ((6151 : Int64) * a4.toInt64)) + (1 : Int64))) - (((((7919 : Int64) * a1.toInt64) + ((6151 : Int64) * a4.toInt64)) + (1 : Int64)) * ((((7919 : Int64) * a1.toInt64) + ((6151 : Int64) * a4.toInt64)) + (1 : Int64))) / (65521 : Int64) * (65521 : Int64)) / (8 : Int64)).toInt32 - (((((((7919 : Int64) * a1.toInt64) + ((6151 : Int64) * a4.toInt64)) + (1 : Int64)) * ((((7919 : Int64) * a1.toInt64) + ((6151 : Int64) * a4.toInt64)) + (1 : Int64))) - (((((7919 : Int64) * a1.toInt64) + ((6151 : Int64) * a4.toInt64)) + (1 : Int64)) * ((((7919 : Int64) * a1.toInt64) + ((6151 : Int64) * a4.toInt64)) + (1 : Int64))) / (65521 : Int64) * (65521 : Int64)) / (8 : Int64)).toInt32 / (M i0 4) * (M i0 4))) + (((((((((7919 : Int64) * a1.toInt64) + ((6151 : Int64) * a4.toInt64)) + (1 : Int64)) * ((((7919 : Int64) * a1.toInt64) + ((6151 : Int64) * a4.toInt64)) + (1 : Int64))) - (((((7919 : Int64) * a1.toInt64) + ((6151 : Int64) * a4.toInt64)) + (1 : Int64)) * ((((7919 : Int64) * a1.toInt64) + ((6151 : Int64) * a4.toInt64)) + (1 : Int64))) / (65521 : Int64) * (65521 : Int64)) / (8 : Int64)).toInt32 / (16 : Int32)) - ((((((((7919 : Int64) * a1.toInt64) + ((6151 : Int64) * a4.toInt64)) + (1 : Int64)) * ((((7919 : Int64) * a1.toInt64) + ((6151 : Int64) * a4.toInt64)) + (1 : Int64))) - (((((7919 : Int64) * a1.toInt64) + ((6151 : Int64) * a4.toInt64)) + (1 : Int64)) * ((((7919 : Int64) * a1.toInt64) + ((6151 : Int64) * a4.toInt64)) + (1 : Int64))) / (65521 : Int64) * (65521 : Int64)) / (8 : Int64)).toInt32 / (16 : Int32)) / (M i0 0) * (M i0 0)))).toNatClampNeg) + (-1 : Int32)) ≤ (60 : Int32) then ((g_M_goes (fv_set M (i0 + 18) ((((6 : Int32) * ((((((((7919 : Int64) * a1.toInt64) + ((6151 : Int64) * a4.toInt64)) + (1 : Int64)) * ((((7919 : Int64) * a1.toInt64) + ((6151 : Int64) * a4.toInt64)) + (1 : Int64))) - (((((7919 : Int64) * a1.toInt64) + ((6151 : Int64) * a4.toInt64)) + (1 : Int64)) * ((((7919 : Int64) * a1.toInt64) + ((6151 : Int64) * a4.toInt64)) + (1 : Int64))) / (65521 : Int64) * (65521 : Int64)) / (8 : Int64)).toInt32 - (((((((7919 : Int64) * a1.toInt64) + ((6151 : Int64) * a4.toInt64)) + (1 : Int64)) * ((((7919 : Int64) * a1.toInt64) + ((6151 : Int64) * a4.toInt64)) + (1 : Int64))) - (((((7919 : Int64) * a1.toInt64) + ((6151 : Int64) * a4.toInt64)) + (1 : Int64)) * ((((7919 : Int64) * a1.toInt64) + ((6151 : Int64) * a4.toInt64)) + (1 : Int64))) / (65521 : Int64) * (65521 : Int64)) / (8 : Int64)).toInt32 / (M i0 4) * (M i0 4))) + (((((((((7919 : Int64) * a1.toInt64) + ((6151 : Int64) * a4.toInt64)) + (1 : Int64)) * ((((7919 : Int64) * a1.toInt64) + ((6151 : Int64) * a4.toInt64)) + (1 : Int64))) - (((((7919 : Int64) * a1.toInt64) + ((6151 : Int64) * a4.toInt64)) + (1 : Int64)) * ((((7919 : Int64) * a1.toInt64) + ((6151 : Int64) * a4.toInt64)) + (1 : Int64))) / (65521 : Int64) * (65521 : Int64)) / (8 : Int64)).toInt32 / (16 : Int32)) - ((((((((7919 : Int64) * a1.toInt64) + ((6151 : Int64) * a4.toInt64)) + (1 : Int64)) * ((((7919 : Int64) * a1.toInt64) + ((6151 : Int64) * a4.toInt64)) + (1 : Int64))) - (((((7919 : Int64) * a1.toInt64) + ((6151 : Int64) * a4.toInt64)) + (1 : Int64)) * ((((7919 : Int64) * a1.toInt64) + ((6151 : Int64) * a4.toInt64)) + (1 : Int64))) / (65521 : Int64) * (65521 : Int64)) / (8 : Int64)).toInt32 / (16 : Int32)) / (M i0 0) * (M i0 0)))).toNatClampNeg ((M (i0 + 18) ((((6 : Int32) * ((((((((7919 : Int64) * a1.toInt64) + ((6151 : Int64) * a4.toInt64)) + (1 : Int64)) * ((((7919 : Int64) * a1.toInt64) + ((6151 : Int64) * a4.toInt64)) + (1 : Int64))) - (((((7919 : Int64) * a1.toInt64) + ((6151 : Int64) * a4.toInt64)) + (1 : Int64)) * ((((7919 : Int64) * a1.toInt64) + ((6151 : Int64) * a4.toInt64)) + (1 : Int64))) / (65521 : Int64) * (65521 : Int64)) / (8 : Int64)).toInt32 - (((((((7919 : Int64) * a1.toInt64) + ((6151 : Int64) * a4.toInt64)) + (1 : Int64)) * ((((7919 : Int64) * a1.toInt64) + ((6151 : Int64) * a4.toInt64)) + (1 : Int64))) - (((((7919 : Int64) * a1.toInt64) + ((6151 : Int64) * a4.toInt64)) + (1 : Int64)) * ((((7919 : Int64) * a1.toInt64) + ((6151 : Int64) * a4.toInt64)) + (1 : Int64))) / (65521 : Int64) * (65521 : Int64)) / (8 : Int64)).toInt32 / (M i0 4) * (M i0 4))) + (((((((((7919 : Int64) * a1.toInt64) + ((6151 : Int64) * a4.toInt64)) + (1 : Int64)) * ((((7919 : Int64) * a1.toInt64) + ((6151 : Int64) * a4.toInt64)) + (1 : Int64))) - (((((7919 : Int64) * a1.toInt64) + ((6151 : Int64) * a4.toInt64)) + (1 : Int64)) * ((((7919 : Int64) * a1.toInt64) + ((6151 : Int64) * a4.toInt64)) + (1 : Int64))) / (65521 : Int64) * (65521 : Int64)) / (8 : Int64)).toInt32 / (16 : Int32)) - ((((((((7919 : Int64) * a1.toInt64) + ((6151 : Int64) * a4.toInt64)) + (1 : Int64)) * ((((7919 : Int64) * a1.toInt64) + ((6151 : Int64) * a4.toInt64)) + (1 : Int64))) - (((((7919 : Int64) * a1.toInt64) + ((6151 : Int64) * a4.toInt64)) + (1 : Int64)) * ((((7919 : Int64) * a1.toInt64) + ((6151 : Int64) * a4.toInt64)) + (1 : Int64))) / (65521 : Int64) * (65521 : Int64)) / (8 : Int64)).toInt32 / (16 : Int32)) / (M i0 0) * (M i0 0)))).toNatClampNeg) + (-1 : Int32))) i0).bind fun q8 => g_M_decade_43 i0 a1 a2 a3 n q8.2 (a4 + (1 : Int32)) kk) else ((g_M_goes (fv_set M (i0 + 18) ((((6 : Int32) * ((((((((7919 : Int64) * a1.toInt64) + ((6151 : Int64) * a4.toInt64)) + (1 : Int64)) * ((((7919 : Int64) * a1.toInt64) + ((6151 : Int64) * a4.toInt64)) + (1 : Int64))) - (((((7919 : Int64) * a1.toInt64) + ((6151 : Int64) * a4.toInt64)) + (1 : Int64)) * ((((7919 : Int64) * a1.toInt64) + ((6151 : Int64) * a4.toInt64)) + (1 : Int64))) / (65521 : Int64) * (65521 : Int64)) / (8 : Int64)).toInt32 - (((((((7919 : Int64) * a1.toInt64) + ((6151 : Int64) * a4.toInt64)) + (1 : Int64)) * ((((7919 : Int64) * a1.toInt64) + ((6151 : Int64) * a4.toInt64)) + (1 : Int64))) - (((((7919 : Int64) * a1.toInt64) + ((6151 : Int64) * a4.toInt64)) + (1 : Int64)) * ((((7919 : Int64) * a1.toInt64) + ((6151 : Int64) * a4.toInt64)) + (1 : Int64))) / (65521 : Int64) * (65521 : Int64)) / (8 : Int64)).toInt32 / (M i0 4) * (M i0 4))) + (((((((((7919 : Int64) * a1.toInt64) + ((6151 : Int64) * a4.toInt64)) + (1 : Int64)) * ((((7919 : Int64) * a1.toInt64) + ((6151 : Int64) * a4.toInt64)) + (1 : Int64))) - (((((7919 : Int64) * a1.toInt64) + ((6151 : Int64) * a4.toInt64)) + (1 : Int64)) * ((((7919 : Int64) * a1.toInt64) + ((6151 : Int64) * a4.toInt64)) + (1 : Int64))) / (65521 : Int64) * (65521 : Int64)) / (8 : Int64)).toInt32 / (16 : Int32)) - ((((((((7919 : Int64) * a1.toInt64) + ((6151 : Int64) * a4.toInt64)) + (1 : Int64)) * ((((7919 : Int64) * a1.toInt64) + ((6151 : Int64) * a4.toInt64)) + (1 : Int64))) - (((((7919 : Int64) * a1.toInt64) + ((6151 : Int64) * a4.toInt64)) + (1 : Int64)) * ((((7919 : Int64) * a1.toInt64) + ((6151 : Int64) * a4.toInt64)) + (1 : Int64))) / (65521 : Int64) * (65521 : Int64)) / (8 : Int64)).toInt32 / (16 : Int32)) / (M i0 0) * (M i0 0)))).toNatClampNeg (60 : Int32)) i0).bind fun q9 => g_M_decade_43 i0 a1 a2 a3 n q9.2 (a4 + (1 : Int32)) kk)) else ((g_M_goes (fv_set M (i0 + 18) ((((6 : Int32) * ((((((((7919 : Int64) * a1.toInt64) + ((6151 : Int64) * a4.toInt64)) + (1 : Int64)) * ((((7919 : Int64) * a1.toInt64) + ((6151 : Int64) * a4.toInt64)) + (1 : Int64))) - (((((7919 : Int64) * a1.toInt64) + ((6151 : Int64) * a4.toInt64)) + (1 : Int64)) * ((((7919 : Int64) * a1.toInt64) + ((6151 : Int64) * a4.toInt64)) + (1 : Int64))) / (65521 : Int64) * (65521 : Int64)) / (8 : Int64)).toInt32 - (((((((7919 : Int64) * a1.toInt64) + ((6151 : Int64) * a4.toInt64)) + (1 : Int64)) * ((((7919 : Int64) * a1.toInt64) + ((6151 : Int64) * a4.toInt64)) + (1 : Int64))) - (((((7919 : Int64) * a1.toInt64) + ((6151 : Int64) * a4.toInt64)) + (1 : Int64)) * ((((7919 : Int64) * a1.toInt64) + ((6151 : Int64) * a4.toInt64)) + (1 : Int64))) / (65521 : Int64) * (65521 : Int64)) / (8 : Int64)).toInt32 / (M i0 4) * (M i0 4))) + (((((((((7919 : Int64) * a1.toInt64) + ((6151 : Int64) * a4.toInt64)) + (1 : Int64)) * ((((7919 : Int64) * a1.toInt64) + ((6151 : Int64) * a4.toInt64)) + (1 : Int64))) - (((((7919 : Int64) * a1.toInt64) + ((6151 : Int64) * a4.toInt64)) + (1 : Int64)) * ((((7919 : Int64) * a1.toInt64) + ((6151 : Int64) * a4.toInt64)) + (1 : Int64))) / (65521 : Int64) * (65521 : Int64)) / (8 : Int64)).toInt32 / (16 : Int32)) - ((((((((7919 : Int64) * a1.toInt64) + ((6151 : Int64) * a4.toInt64)) + (1 : Int64)) * ((((7919 : Int64) * a1.toInt64) + ((6151 : Int64) * a4.toInt64)) + (1 : Int64))) - (((((7919 : Int64) * a1.toInt64) + ((6151 : Int64) * a4.toInt64)) + (1 : Int64)) * ((((7919 : Int64) * a1.toInt64) + ((6151 : Int64) * a4.toInt64)) + (1 : Int64))) / (65521 : Int64) * (65521 : Int64)) / (8 : Int64)).toInt32 / (16 : Int32)) / (M i0 0) * (M i0 0)))).toNatClampNeg (0 : Int32)) i0).bind fun q10 => g_M_decade_43 i0 a1 a2 a3 n q10.2 (a4 + (1 : Int32)) kk))))))
theorem v_M_decade_43 {X : fv_X} {sh : fv_Sh} {k : Nat × Nat} {i0 : Nat} {a1 : Int32} {a2 : Int32} {a3 : Int32} {r : Int32 × fv_M} {kk : fv_M → Int32 → Option (Int32 × fv_M)} (h0 : fx_atM sh i0) (K : ∀ (M : fv_M) (a4 : Int32), kk M a4 = some r → fv_Rn X 163 173 [some (.ref i0), some (.int a1), some (.int a2), some (.int a3), some (.int a4)] [] k sh M (some (.int r.1), sh, r.2)) : ∀ (n : Nat) (M : fv_M) (a4 : Int32), g_M_decade_43 i0 a1 a2 a3 n M a4 kk = some r → fv_Rn X 163 43 [some (.ref i0), some (.int a1), some (.int a2), some (.int a3), some (.int a4)] [] k sh M (some (.int r.1), sh, r.2) := by
  intro n
  induction n with
  | zero =>
    intro M a4 h
    replace h : (none : Option (Int32 × fv_M)) = some r := h
    cases h
  | succ n ih =>
    intro M a4 h
    rw [g_M_decade_43] at h
    refine fx_iload rfl rfl ?_
    refine fx_iload rfl rfl ?_
    by_cases c_4 : a2 ≤ a4
    · replace h := (if_pos c_4).symm.trans h
      refine fx_icge_j rfl rfl c_4 ?_
      exact K _ _ h
    · replace h := (if_neg c_4).symm.trans h
      refine fx_icge_s rfl c_4 ?_
      refine fx_lconst rfl (show Int64.ofNat 7919 = (7919 : Int64) by decide) ?_
      refine fx_iload rfl rfl ?_
      refine fx_i2l rfl ?_
      refine fx_lmul rfl ?_
      refine fx_lconst rfl (show Int64.ofNat 6151 = (6151 : Int64) by decide) ?_
      refine fx_iload rfl rfl ?_
      refine fx_i2l rfl ?_
      refine fx_lmul rfl ?_
      refine fx_ladd rfl ?_
      refine fx_lconst rfl (show Int64.ofNat 1 = (1 : Int64) by decide) ?_
      refine fx_ladd rfl ?_
      refine fx_lstore rfl rfl ?_
      refine fx_lload rfl rfl ?_
      refine fx_lload rfl rfl ?_
      refine fx_lmul rfl ?_
      refine fx_lconst rfl (show Int64.ofNat 65521 = (65521 : Int64) by decide) ?_
      refine fx_lrem rfl (by decide) ?_
      refine fx_lconst rfl (show Int64.ofNat 8 = (8 : Int64) by decide) ?_
      refine fx_ldiv rfl (by decide) ?_
      refine fx_l2i rfl ?_
      refine fx_istore rfl rfl ?_
      refine fx_const rfl (show Int32.ofInt 6 = (6 : Int32) by decide) ?_
      refine fx_iload rfl rfl ?_
      refine fx_aload rfl rfl ?_
      refine fx_getI rfl h0.1 rfl rfl ?_
      obtain ⟨c_5, h⟩ := fx_ck_some h
      refine fx_irem rfl c_5 ?_
      refine fx_imul rfl ?_
      refine fx_iload rfl rfl ?_
      refine fx_const rfl (show Int32.ofInt 16 = (16 : Int32) by decide) ?_
      refine fx_idiv rfl (by decide) ?_
      refine fx_aload rfl rfl ?_
      refine fx_getI rfl h0.1 rfl rfl ?_
      obtain ⟨c_6, h⟩ := fx_ck_some h
      refine fx_irem rfl c_6 ?_
      refine fx_iadd rfl ?_
      refine fx_istore rfl rfl ?_
      refine fx_aload rfl rfl ?_
      refine fx_getV rfl h0.1 rfl rfl ?_
      refine fx_iload rfl rfl ?_
      obtain ⟨c_7, h⟩ := fx_ck_some h
      refine fx_iaload rfl (fun z => absurd z.1 (by decide)) h0.2.2.2.2.2.2.2.2.2.2.2.2.2.2.2.2.2.2 c_7 ?_
      refine fx_iload rfl rfl ?_
      refine fx_const rfl (show Int32.ofInt 8 = (8 : Int32) by decide) ?_
      refine fx_idiv rfl (by decide) ?_
      refine fx_const rfl (show Int32.ofInt 2 = (2 : Int32) by decide) ?_
      refine fx_irem rfl (by decide) ?_
      refine fx_const rfl (show Int32.ofInt 1 = (1 : Int32) by decide) ?_
      by_cases c_8 : (((((((((7919 : Int64) * a1.toInt64) + ((6151 : Int64) * a4.toInt64)) + (1 : Int64)) * ((((7919 : Int64) * a1.toInt64) + ((6151 : Int64) * a4.toInt64)) + (1 : Int64))) - (((((7919 : Int64) * a1.toInt64) + ((6151 : Int64) * a4.toInt64)) + (1 : Int64)) * ((((7919 : Int64) * a1.toInt64) + ((6151 : Int64) * a4.toInt64)) + (1 : Int64))) / (65521 : Int64) * (65521 : Int64)) / (8 : Int64)).toInt32 / (8 : Int32)) - ((((((((7919 : Int64) * a1.toInt64) + ((6151 : Int64) * a4.toInt64)) + (1 : Int64)) * ((((7919 : Int64) * a1.toInt64) + ((6151 : Int64) * a4.toInt64)) + (1 : Int64))) - (((((7919 : Int64) * a1.toInt64) + ((6151 : Int64) * a4.toInt64)) + (1 : Int64)) * ((((7919 : Int64) * a1.toInt64) + ((6151 : Int64) * a4.toInt64)) + (1 : Int64))) / (65521 : Int64) * (65521 : Int64)) / (8 : Int64)).toInt32 / (8 : Int32)) / (2 : Int32) * (2 : Int32)) = (1 : Int32)
      · replace h := (if_pos c_8).symm.trans h
        refine fx_icne_s rfl c_8 ?_
        refine fx_const rfl (show Int32.ofInt 1 = (1 : Int32) by decide) ?_
        refine fx_goto rfl rfl ?_
        refine fx_iadd rfl ?_
        refine fx_istore rfl rfl ?_
        refine fx_aload rfl rfl ?_
        refine fx_getV rfl h0.1 rfl rfl ?_
        refine fx_iload rfl rfl ?_
        refine fx_iload rfl rfl ?_
        by_cases c_9 : 0 ≤ ((M (i0 + 18) ((((6 : Int32) * ((((((((7919 : Int64) * a1.toInt64) + ((6151 : Int64) * a4.toInt64)) + (1 : Int64)) * ((((7919 : Int64) * a1.toInt64) + ((6151 : Int64) * a4.toInt64)) + (1 : Int64))) - (((((7919 : Int64) * a1.toInt64) + ((6151 : Int64) * a4.toInt64)) + (1 : Int64)) * ((((7919 : Int64) * a1.toInt64) + ((6151 : Int64) * a4.toInt64)) + (1 : Int64))) / (65521 : Int64) * (65521 : Int64)) / (8 : Int64)).toInt32 - (((((((7919 : Int64) * a1.toInt64) + ((6151 : Int64) * a4.toInt64)) + (1 : Int64)) * ((((7919 : Int64) * a1.toInt64) + ((6151 : Int64) * a4.toInt64)) + (1 : Int64))) - (((((7919 : Int64) * a1.toInt64) + ((6151 : Int64) * a4.toInt64)) + (1 : Int64)) * ((((7919 : Int64) * a1.toInt64) + ((6151 : Int64) * a4.toInt64)) + (1 : Int64))) / (65521 : Int64) * (65521 : Int64)) / (8 : Int64)).toInt32 / (M i0 4) * (M i0 4))) + (((((((((7919 : Int64) * a1.toInt64) + ((6151 : Int64) * a4.toInt64)) + (1 : Int64)) * ((((7919 : Int64) * a1.toInt64) + ((6151 : Int64) * a4.toInt64)) + (1 : Int64))) - (((((7919 : Int64) * a1.toInt64) + ((6151 : Int64) * a4.toInt64)) + (1 : Int64)) * ((((7919 : Int64) * a1.toInt64) + ((6151 : Int64) * a4.toInt64)) + (1 : Int64))) / (65521 : Int64) * (65521 : Int64)) / (8 : Int64)).toInt32 / (16 : Int32)) - ((((((((7919 : Int64) * a1.toInt64) + ((6151 : Int64) * a4.toInt64)) + (1 : Int64)) * ((((7919 : Int64) * a1.toInt64) + ((6151 : Int64) * a4.toInt64)) + (1 : Int64))) - (((((7919 : Int64) * a1.toInt64) + ((6151 : Int64) * a4.toInt64)) + (1 : Int64)) * ((((7919 : Int64) * a1.toInt64) + ((6151 : Int64) * a4.toInt64)) + (1 : Int64))) / (65521 : Int64) * (65521 : Int64)) / (8 : Int64)).toInt32 / (16 : Int32)) / (M i0 0) * (M i0 0)))).toNatClampNeg) + (1 : Int32))
        · replace h := (if_pos c_9).symm.trans h
          refine fx_ifge_j rfl rfl c_9 ?_
          refine fx_iload rfl rfl ?_
          refine fx_const rfl (show Int32.ofInt 60 = (60 : Int32) by decide) ?_
          by_cases c_10 : ((M (i0 + 18) ((((6 : Int32) * ((((((((7919 : Int64) * a1.toInt64) + ((6151 : Int64) * a4.toInt64)) + (1 : Int64)) * ((((7919 : Int64) * a1.toInt64) + ((6151 : Int64) * a4.toInt64)) + (1 : Int64))) - (((((7919 : Int64) * a1.toInt64) + ((6151 : Int64) * a4.toInt64)) + (1 : Int64)) * ((((7919 : Int64) * a1.toInt64) + ((6151 : Int64) * a4.toInt64)) + (1 : Int64))) / (65521 : Int64) * (65521 : Int64)) / (8 : Int64)).toInt32 - (((((((7919 : Int64) * a1.toInt64) + ((6151 : Int64) * a4.toInt64)) + (1 : Int64)) * ((((7919 : Int64) * a1.toInt64) + ((6151 : Int64) * a4.toInt64)) + (1 : Int64))) - (((((7919 : Int64) * a1.toInt64) + ((6151 : Int64) * a4.toInt64)) + (1 : Int64)) * ((((7919 : Int64) * a1.toInt64) + ((6151 : Int64) * a4.toInt64)) + (1 : Int64))) / (65521 : Int64) * (65521 : Int64)) / (8 : Int64)).toInt32 / (M i0 4) * (M i0 4))) + (((((((((7919 : Int64) * a1.toInt64) + ((6151 : Int64) * a4.toInt64)) + (1 : Int64)) * ((((7919 : Int64) * a1.toInt64) + ((6151 : Int64) * a4.toInt64)) + (1 : Int64))) - (((((7919 : Int64) * a1.toInt64) + ((6151 : Int64) * a4.toInt64)) + (1 : Int64)) * ((((7919 : Int64) * a1.toInt64) + ((6151 : Int64) * a4.toInt64)) + (1 : Int64))) / (65521 : Int64) * (65521 : Int64)) / (8 : Int64)).toInt32 / (16 : Int32)) - ((((((((7919 : Int64) * a1.toInt64) + ((6151 : Int64) * a4.toInt64)) + (1 : Int64)) * ((((7919 : Int64) * a1.toInt64) + ((6151 : Int64) * a4.toInt64)) + (1 : Int64))) - (((((7919 : Int64) * a1.toInt64) + ((6151 : Int64) * a4.toInt64)) + (1 : Int64)) * ((((7919 : Int64) * a1.toInt64) + ((6151 : Int64) * a4.toInt64)) + (1 : Int64))) / (65521 : Int64) * (65521 : Int64)) / (8 : Int64)).toInt32 / (16 : Int32)) / (M i0 0) * (M i0 0)))).toNatClampNeg) + (1 : Int32)) ≤ (60 : Int32)
          · replace h := (if_pos c_10).symm.trans h
            refine fx_icle_j rfl rfl c_10 ?_
            refine fx_iload rfl rfl ?_
            refine fx_iastore rfl h0.2.2.2.2.2.2.2.2.2.2.2.2.2.2.2.2.2.2 c_7 ?_
            refine fx_aload rfl rfl ?_
            obtain ⟨q5, e_q5, h⟩ := fx_bd h
            refine fx_call [.ref i0] [] rfl (by decide) rfl rfl rfl rfl rfl (Nat.le_of_ble_eq_true rfl) (fx_rcv h0.1 rfl) (v_M_goes h0 e_q5) ?_
            refine fx_pop rfl rfl ?_
            refine fx_iinc rfl (show Int32.ofInt 1 = (1 : Int32) by decide) rfl rfl ?_
            refine fx_back rfl rfl rfl ?_
            exact ih _ _ h
          · replace h := (if_neg c_10).symm.trans h
            refine fx_icle_s rfl c_10 ?_
            refine fx_const rfl (show Int32.ofInt 60 = (60 : Int32) by decide) ?_
            refine fx_goto rfl rfl ?_
            refine fx_iastore rfl h0.2.2.2.2.2.2.2.2.2.2.2.2.2.2.2.2.2.2 c_7 ?_
            refine fx_aload rfl rfl ?_
            obtain ⟨q6, e_q6, h⟩ := fx_bd h
            refine fx_call [.ref i0] [] rfl (by decide) rfl rfl rfl rfl rfl (Nat.le_of_ble_eq_true rfl) (fx_rcv h0.1 rfl) (v_M_goes h0 e_q6) ?_
            refine fx_pop rfl rfl ?_
            refine fx_iinc rfl (show Int32.ofInt 1 = (1 : Int32) by decide) rfl rfl ?_
            refine fx_back rfl rfl rfl ?_
            exact ih _ _ h
        · replace h := (if_neg c_9).symm.trans h
          refine fx_ifge_s rfl c_9 ?_
          refine fx_const rfl (show Int32.ofInt 0 = (0 : Int32) by decide) ?_
          refine fx_goto rfl rfl ?_
          refine fx_iastore rfl h0.2.2.2.2.2.2.2.2.2.2.2.2.2.2.2.2.2.2 c_7 ?_
          refine fx_aload rfl rfl ?_
          obtain ⟨q7, e_q7, h⟩ := fx_bd h
          refine fx_call [.ref i0] [] rfl (by decide) rfl rfl rfl rfl rfl (Nat.le_of_ble_eq_true rfl) (fx_rcv h0.1 rfl) (v_M_goes h0 e_q7) ?_
          refine fx_pop rfl rfl ?_
          refine fx_iinc rfl (show Int32.ofInt 1 = (1 : Int32) by decide) rfl rfl ?_
          refine fx_back rfl rfl rfl ?_
          exact ih _ _ h
      · replace h := (if_neg c_8).symm.trans h
        refine fx_icne_j rfl rfl c_8 ?_
        refine fx_const rfl (show Int32.ofInt (-1) = (-1 : Int32) by decide) ?_
        refine fx_iadd rfl ?_
        refine fx_istore rfl rfl ?_
        refine fx_aload rfl rfl ?_
        refine fx_getV rfl h0.1 rfl rfl ?_
        refine fx_iload rfl rfl ?_
        refine fx_iload rfl rfl ?_
        by_cases c_11 : 0 ≤ ((M (i0 + 18) ((((6 : Int32) * ((((((((7919 : Int64) * a1.toInt64) + ((6151 : Int64) * a4.toInt64)) + (1 : Int64)) * ((((7919 : Int64) * a1.toInt64) + ((6151 : Int64) * a4.toInt64)) + (1 : Int64))) - (((((7919 : Int64) * a1.toInt64) + ((6151 : Int64) * a4.toInt64)) + (1 : Int64)) * ((((7919 : Int64) * a1.toInt64) + ((6151 : Int64) * a4.toInt64)) + (1 : Int64))) / (65521 : Int64) * (65521 : Int64)) / (8 : Int64)).toInt32 - (((((((7919 : Int64) * a1.toInt64) + ((6151 : Int64) * a4.toInt64)) + (1 : Int64)) * ((((7919 : Int64) * a1.toInt64) + ((6151 : Int64) * a4.toInt64)) + (1 : Int64))) - (((((7919 : Int64) * a1.toInt64) + ((6151 : Int64) * a4.toInt64)) + (1 : Int64)) * ((((7919 : Int64) * a1.toInt64) + ((6151 : Int64) * a4.toInt64)) + (1 : Int64))) / (65521 : Int64) * (65521 : Int64)) / (8 : Int64)).toInt32 / (M i0 4) * (M i0 4))) + (((((((((7919 : Int64) * a1.toInt64) + ((6151 : Int64) * a4.toInt64)) + (1 : Int64)) * ((((7919 : Int64) * a1.toInt64) + ((6151 : Int64) * a4.toInt64)) + (1 : Int64))) - (((((7919 : Int64) * a1.toInt64) + ((6151 : Int64) * a4.toInt64)) + (1 : Int64)) * ((((7919 : Int64) * a1.toInt64) + ((6151 : Int64) * a4.toInt64)) + (1 : Int64))) / (65521 : Int64) * (65521 : Int64)) / (8 : Int64)).toInt32 / (16 : Int32)) - ((((((((7919 : Int64) * a1.toInt64) + ((6151 : Int64) * a4.toInt64)) + (1 : Int64)) * ((((7919 : Int64) * a1.toInt64) + ((6151 : Int64) * a4.toInt64)) + (1 : Int64))) - (((((7919 : Int64) * a1.toInt64) + ((6151 : Int64) * a4.toInt64)) + (1 : Int64)) * ((((7919 : Int64) * a1.toInt64) + ((6151 : Int64) * a4.toInt64)) + (1 : Int64))) / (65521 : Int64) * (65521 : Int64)) / (8 : Int64)).toInt32 / (16 : Int32)) / (M i0 0) * (M i0 0)))).toNatClampNeg) + (-1 : Int32))
        · replace h := (if_pos c_11).symm.trans h
          refine fx_ifge_j rfl rfl c_11 ?_
          refine fx_iload rfl rfl ?_
          refine fx_const rfl (show Int32.ofInt 60 = (60 : Int32) by decide) ?_
          by_cases c_12 : ((M (i0 + 18) ((((6 : Int32) * ((((((((7919 : Int64) * a1.toInt64) + ((6151 : Int64) * a4.toInt64)) + (1 : Int64)) * ((((7919 : Int64) * a1.toInt64) + ((6151 : Int64) * a4.toInt64)) + (1 : Int64))) - (((((7919 : Int64) * a1.toInt64) + ((6151 : Int64) * a4.toInt64)) + (1 : Int64)) * ((((7919 : Int64) * a1.toInt64) + ((6151 : Int64) * a4.toInt64)) + (1 : Int64))) / (65521 : Int64) * (65521 : Int64)) / (8 : Int64)).toInt32 - (((((((7919 : Int64) * a1.toInt64) + ((6151 : Int64) * a4.toInt64)) + (1 : Int64)) * ((((7919 : Int64) * a1.toInt64) + ((6151 : Int64) * a4.toInt64)) + (1 : Int64))) - (((((7919 : Int64) * a1.toInt64) + ((6151 : Int64) * a4.toInt64)) + (1 : Int64)) * ((((7919 : Int64) * a1.toInt64) + ((6151 : Int64) * a4.toInt64)) + (1 : Int64))) / (65521 : Int64) * (65521 : Int64)) / (8 : Int64)).toInt32 / (M i0 4) * (M i0 4))) + (((((((((7919 : Int64) * a1.toInt64) + ((6151 : Int64) * a4.toInt64)) + (1 : Int64)) * ((((7919 : Int64) * a1.toInt64) + ((6151 : Int64) * a4.toInt64)) + (1 : Int64))) - (((((7919 : Int64) * a1.toInt64) + ((6151 : Int64) * a4.toInt64)) + (1 : Int64)) * ((((7919 : Int64) * a1.toInt64) + ((6151 : Int64) * a4.toInt64)) + (1 : Int64))) / (65521 : Int64) * (65521 : Int64)) / (8 : Int64)).toInt32 / (16 : Int32)) - ((((((((7919 : Int64) * a1.toInt64) + ((6151 : Int64) * a4.toInt64)) + (1 : Int64)) * ((((7919 : Int64) * a1.toInt64) + ((6151 : Int64) * a4.toInt64)) + (1 : Int64))) - (((((7919 : Int64) * a1.toInt64) + ((6151 : Int64) * a4.toInt64)) + (1 : Int64)) * ((((7919 : Int64) * a1.toInt64) + ((6151 : Int64) * a4.toInt64)) + (1 : Int64))) / (65521 : Int64) * (65521 : Int64)) / (8 : Int64)).toInt32 / (16 : Int32)) / (M i0 0) * (M i0 0)))).toNatClampNeg) + (-1 : Int32)) ≤ (60 : Int32)
          · replace h := (if_pos c_12).symm.trans h
            refine fx_icle_j rfl rfl c_12 ?_
            refine fx_iload rfl rfl ?_
            refine fx_iastore rfl h0.2.2.2.2.2.2.2.2.2.2.2.2.2.2.2.2.2.2 c_7 ?_
            refine fx_aload rfl rfl ?_
            obtain ⟨q8, e_q8, h⟩ := fx_bd h
            refine fx_call [.ref i0] [] rfl (by decide) rfl rfl rfl rfl rfl (Nat.le_of_ble_eq_true rfl) (fx_rcv h0.1 rfl) (v_M_goes h0 e_q8) ?_
            refine fx_pop rfl rfl ?_
            refine fx_iinc rfl (show Int32.ofInt 1 = (1 : Int32) by decide) rfl rfl ?_
            refine fx_back rfl rfl rfl ?_
            exact ih _ _ h
          · replace h := (if_neg c_12).symm.trans h
            refine fx_icle_s rfl c_12 ?_
            refine fx_const rfl (show Int32.ofInt 60 = (60 : Int32) by decide) ?_
            refine fx_goto rfl rfl ?_
            refine fx_iastore rfl h0.2.2.2.2.2.2.2.2.2.2.2.2.2.2.2.2.2.2 c_7 ?_
            refine fx_aload rfl rfl ?_
            obtain ⟨q9, e_q9, h⟩ := fx_bd h
            refine fx_call [.ref i0] [] rfl (by decide) rfl rfl rfl rfl rfl (Nat.le_of_ble_eq_true rfl) (fx_rcv h0.1 rfl) (v_M_goes h0 e_q9) ?_
            refine fx_pop rfl rfl ?_
            refine fx_iinc rfl (show Int32.ofInt 1 = (1 : Int32) by decide) rfl rfl ?_
            refine fx_back rfl rfl rfl ?_
            exact ih _ _ h
        · replace h := (if_neg c_11).symm.trans h
          refine fx_ifge_s rfl c_11 ?_
          refine fx_const rfl (show Int32.ofInt 0 = (0 : Int32) by decide) ?_
          refine fx_goto rfl rfl ?_
          refine fx_iastore rfl h0.2.2.2.2.2.2.2.2.2.2.2.2.2.2.2.2.2.2 c_7 ?_
          refine fx_aload rfl rfl ?_
          obtain ⟨q10, e_q10, h⟩ := fx_bd h
          refine fx_call [.ref i0] [] rfl (by decide) rfl rfl rfl rfl rfl (Nat.le_of_ble_eq_true rfl) (fx_rcv h0.1 rfl) (v_M_goes h0 e_q10) ?_
          refine fx_pop rfl rfl ?_
          refine fx_iinc rfl (show Int32.ofInt 1 = (1 : Int32) by decide) rfl rfl ?_
          refine fx_back rfl rfl rfl ?_
          exact ih _ _ h
def g_M_decade (M : fv_M) (i0 : Nat) (a1 : Int32) (a2 : Int32) (a3 : Int32) : Option (Int32 × fv_M) := (g_M_in M a1 (0 : Int32) (9999 : Int32)).bind fun q1 => if q1 = 0 then (some ((-1 : Int32), M)) else ((g_M_in M a2 (1 : Int32) (40 : Int32)).bind fun q2 => if q2 = 0 then (some ((-1 : Int32), M)) else ((g_M_in M a3 (0 : Int32) (1 : Int32)).bind fun q3 => if q3 = 0 then (some ((-1 : Int32), M)) else ((g_M_from M i0 (i0 + 6) 45).bind fun q4 => g_M_decade_43 i0 a1 a2 a3 fx_FU q4 (0 : Int32) (fun M_11 b4_11 => if a3 = 0 then ((g_M_worthOf M_11 i0 (-1 : Int32)).bind fun q12 => some (q12, M_11)) else ((g_M_forgottenOf M_11 i0 (-1 : Int32)).bind fun q13 => some (q13, M_11))))))
theorem v_M_decade {X : fv_X} {sh : fv_Sh} {k : Nat × Nat} {M : fv_M} {i0 : Nat} {a1 : Int32} {a2 : Int32} {a3 : Int32} {r : Int32 × fv_M} (h0 : fx_atM sh i0) (h : g_M_decade M i0 a1 a2 a3 = some r) : fv_Rn X 163 0 [some (.ref i0), some (.int a1), some (.int a2), some (.int a3)] [] k sh M (some (.int r.1), sh, r.2) := by
  unfold g_M_decade at h
  refine fx_iload rfl rfl ?_
  refine fx_const rfl (show Int32.ofInt 0 = (0 : Int32) by decide) ?_
  refine fx_const rfl (show Int32.ofInt 9999 = (9999 : Int32) by decide) ?_
  obtain ⟨q1, e_q1, h⟩ := fx_bd h
  refine fx_call [.int a1, .int (0 : Int32), .int (9999 : Int32)] [] rfl (by decide) rfl rfl rfl rfl rfl (Nat.le_of_ble_eq_true rfl) rfl (v_M_in  e_q1) ?_
  by_cases c_1 : q1 = 0
  · replace h := (if_pos c_1).symm.trans h
    refine fx_ifeq_j rfl rfl c_1 ?_
    refine fx_const rfl (show Int32.ofInt (-1) = (-1 : Int32) by decide) ?_
    obtain rfl := Option.some.inj h
    exact fx_ret rfl rfl
  · replace h := (if_neg c_1).symm.trans h
    refine fx_ifeq_s rfl c_1 ?_
    refine fx_iload rfl rfl ?_
    refine fx_const rfl (show Int32.ofInt 1 = (1 : Int32) by decide) ?_
    refine fx_const rfl (show Int32.ofInt 40 = (40 : Int32) by decide) ?_
    obtain ⟨q2, e_q2, h⟩ := fx_bd h
    refine fx_call [.int a2, .int (1 : Int32), .int (40 : Int32)] [] rfl (by decide) rfl rfl rfl rfl rfl (Nat.le_of_ble_eq_true rfl) rfl (v_M_in  e_q2) ?_
    by_cases c_2 : q2 = 0
    · replace h := (if_pos c_2).symm.trans h
      refine fx_ifeq_j rfl rfl c_2 ?_
      refine fx_const rfl (show Int32.ofInt (-1) = (-1 : Int32) by decide) ?_
      obtain rfl := Option.some.inj h
      exact fx_ret rfl rfl
    · replace h := (if_neg c_2).symm.trans h
      refine fx_ifeq_s rfl c_2 ?_
      refine fx_iload rfl rfl ?_
      refine fx_const rfl (show Int32.ofInt 0 = (0 : Int32) by decide) ?_
      refine fx_const rfl (show Int32.ofInt 1 = (1 : Int32) by decide) ?_
      obtain ⟨q3, e_q3, h⟩ := fx_bd h
      refine fx_call [.int a3, .int (0 : Int32), .int (1 : Int32)] [] rfl (by decide) rfl rfl rfl rfl rfl (Nat.le_of_ble_eq_true rfl) rfl (v_M_in  e_q3) ?_
      by_cases c_3 : q3 = 0
      · replace h := (if_pos c_3).symm.trans h
        refine fx_ifne_s rfl c_3 ?_
        refine fx_const rfl (show Int32.ofInt (-1) = (-1 : Int32) by decide) ?_
        obtain rfl := Option.some.inj h
        exact fx_ret rfl rfl
      · replace h := (if_neg c_3).symm.trans h
        refine fx_ifne_j rfl rfl c_3 ?_
        refine fx_aload rfl rfl ?_
        refine fx_aload rfl rfl ?_
        refine fx_getV rfl h0.1 rfl rfl ?_
        obtain ⟨q4, e_q4, h⟩ := fx_bd h
        refine fx_call [.ref i0, .ref (i0 + 6)] [] rfl (by decide) rfl rfl rfl rfl rfl (Nat.le_of_ble_eq_true rfl) (fx_rcv h0.1 rfl) (v_M_from h0 h0.2.2.2.2.2.2.1 e_q4) ?_
        refine fx_const rfl (show Int32.ofInt 0 = (0 : Int32) by decide) ?_
        refine fx_istore rfl rfl ?_
        refine v_M_decade_43 h0 (fun M_11 b4_11 h => ?_) fx_FU _ _ h
        refine fx_iload rfl rfl ?_
        by_cases c_13 : a3 = 0
        · replace h := (if_pos c_13).symm.trans h
          refine fx_ifne_s rfl c_13 ?_
          refine fx_aload rfl rfl ?_
          refine fx_const rfl (show Int32.ofInt (-1) = (-1 : Int32) by decide) ?_
          obtain ⟨q12, e_q12, h⟩ := fx_bd h
          refine fx_call [.ref i0, .int (-1 : Int32)] [] rfl (by decide) rfl rfl rfl rfl rfl (Nat.le_of_ble_eq_true rfl) (fx_rcv h0.1 rfl) (v_M_worthOf h0 e_q12) ?_
          refine fx_goto rfl rfl ?_
          obtain rfl := Option.some.inj h
          exact fx_ret rfl rfl
        · replace h := (if_neg c_13).symm.trans h
          refine fx_ifne_j rfl rfl c_13 ?_
          refine fx_aload rfl rfl ?_
          refine fx_const rfl (show Int32.ofInt (-1) = (-1 : Int32) by decide) ?_
          obtain ⟨q13, e_q13, h⟩ := fx_bd h
          refine fx_call [.ref i0, .int (-1 : Int32)] [] rfl (by decide) rfl rfl rfl rfl rfl (Nat.le_of_ble_eq_true rfl) (fx_rcv h0.1 rfl) (v_M_forgottenOf h0 e_q13) ?_
          obtain rfl := Option.some.inj h
          exact fx_ret rfl rfl

def g_M_keep (M : fv_M) (i0 : Nat) : Option (Int32 × fv_M) := if (M i0 13) = (2 : Int32) then (some ((-3 : Int32), M)) else ((g_M_put M (i0 + 9) 90 ((45 : Int32) * (M i0 13)) (i0 + 6) 45 (45 : Int32)).bind fun q1 => some (((fv_set q1 i0 13 ((q1 i0 13) + (1 : Int32))) i0 13), (fv_set q1 i0 13 ((q1 i0 13) + (1 : Int32)))))
theorem v_M_keep {X : fv_X} {sh : fv_Sh} {k : Nat × Nat} {M : fv_M} {i0 : Nat} {r : Int32 × fv_M} (h0 : fx_atM sh i0) (h : g_M_keep M i0 = some r) : fv_Rn X 164 0 [some (.ref i0)] [] k sh M (some (.int r.1), sh, r.2) := by
  unfold g_M_keep at h
  refine fx_aload rfl rfl ?_
  refine fx_getI rfl h0.1 rfl rfl ?_
  refine fx_const rfl (show Int32.ofInt 2 = (2 : Int32) by decide) ?_
  by_cases c_1 : (M i0 13) = (2 : Int32)
  · replace h := (if_pos c_1).symm.trans h
    refine fx_icne_s rfl c_1 ?_
    refine fx_const rfl (show Int32.ofInt (-3) = (-3 : Int32) by decide) ?_
    obtain rfl := Option.some.inj h
    exact fx_ret rfl rfl
  · replace h := (if_neg c_1).symm.trans h
    refine fx_icne_j rfl rfl c_1 ?_
    refine fx_aload rfl rfl ?_
    refine fx_getV rfl h0.1 rfl rfl ?_
    refine fx_const rfl (show Int32.ofInt 45 = (45 : Int32) by decide) ?_
    refine fx_aload rfl rfl ?_
    refine fx_getI rfl h0.1 rfl rfl ?_
    refine fx_imul rfl ?_
    refine fx_aload rfl rfl ?_
    refine fx_getV rfl h0.1 rfl rfl ?_
    refine fx_const rfl (show Int32.ofInt 45 = (45 : Int32) by decide) ?_
    obtain ⟨q1, e_q1, h⟩ := fx_bd h
    refine fx_call [.ref (i0 + 9), .int ((45 : Int32) * (M i0 13)), .ref (i0 + 6), .int (45 : Int32)] [] rfl (by decide) rfl rfl rfl rfl rfl (Nat.le_of_ble_eq_true rfl) rfl (v_M_put h0.2.2.2.2.2.2.2.2.2.1 h0.2.2.2.2.2.2.1 e_q1) ?_
    refine fx_aload rfl rfl ?_
    refine fx_dup rfl rfl ?_
    refine fx_getI rfl h0.1 rfl rfl ?_
    refine fx_const rfl (show Int32.ofInt 1 = (1 : Int32) by decide) ?_
    refine fx_iadd rfl ?_
    refine fx_putI rfl h0.1 rfl rfl rfl ?_
    refine fx_aload rfl rfl ?_
    refine fx_getI rfl h0.1 rfl rfl ?_
    obtain rfl := Option.some.inj h
    exact fx_ret rfl rfl

def g_M_back_22 (i0 : Nat) : Nat → fv_M → Int32 → (fv_M → Int32 → Option (Int32 × fv_M)) → Option (Int32 × fv_M)
  | 0, _, _, _ => none
  | n + 1, M, a1, kk => if (45 : Int32) ≤ a1 then (kk M a1) else (fx_ck ((((45 : Int32) * (M i0 13)) + a1) < 0 ∨ 90 ≤ ((((45 : Int32) * (M i0 13)) + a1)).toNatClampNeg) (fx_ck (a1 < 0 ∨ 45 ≤ (a1).toNatClampNeg) (g_M_back_22 i0 n (fv_set M (i0 + 6) (a1).toNatClampNeg (M (i0 + 9) ((((45 : Int32) * (M i0 13)) + a1)).toNatClampNeg)) (a1 + (1 : Int32)) kk)))
theorem v_M_back_22 {X : fv_X} {sh : fv_Sh} {k : Nat × Nat} {i0 : Nat} {r : Int32 × fv_M} {kk : fv_M → Int32 → Option (Int32 × fv_M)} (h0 : fx_atM sh i0) (K : ∀ (M : fv_M) (a1 : Int32), kk M a1 = some r → fv_Rn X 165 54 [some (.ref i0), some (.int a1)] [] k sh M (some (.int r.1), sh, r.2)) : ∀ (n : Nat) (M : fv_M) (a1 : Int32), g_M_back_22 i0 n M a1 kk = some r → fv_Rn X 165 22 [some (.ref i0), some (.int a1)] [] k sh M (some (.int r.1), sh, r.2) := by
  intro n
  induction n with
  | zero =>
    intro M a1 h
    replace h : (none : Option (Int32 × fv_M)) = some r := h
    cases h
  | succ n ih =>
    intro M a1 h
    rw [g_M_back_22] at h
    refine fx_iload rfl rfl ?_
    refine fx_const rfl (show Int32.ofInt 45 = (45 : Int32) by decide) ?_
    by_cases c_2 : (45 : Int32) ≤ a1
    · replace h := (if_pos c_2).symm.trans h
      refine fx_icge_j rfl rfl c_2 ?_
      exact K _ _ h
    · replace h := (if_neg c_2).symm.trans h
      refine fx_icge_s rfl c_2 ?_
      refine fx_aload rfl rfl ?_
      refine fx_getV rfl h0.1 rfl rfl ?_
      refine fx_iload rfl rfl ?_
      refine fx_aload rfl rfl ?_
      refine fx_getV rfl h0.1 rfl rfl ?_
      refine fx_const rfl (show Int32.ofInt 45 = (45 : Int32) by decide) ?_
      refine fx_aload rfl rfl ?_
      refine fx_getI rfl h0.1 rfl rfl ?_
      refine fx_imul rfl ?_
      refine fx_iload rfl rfl ?_
      refine fx_iadd rfl ?_
      obtain ⟨c_3, h⟩ := fx_ck_some h
      refine fx_iaload rfl (fun z => absurd z.1 (by decide)) h0.2.2.2.2.2.2.2.2.2.1 c_3 ?_
      obtain ⟨c_4, h⟩ := fx_ck_some h
      refine fx_iastore rfl h0.2.2.2.2.2.2.1 c_4 ?_
      refine fx_iinc rfl (show Int32.ofInt 1 = (1 : Int32) by decide) rfl rfl ?_
      refine fx_back rfl rfl rfl ?_
      exact ih _ _ h
def g_M_back (M : fv_M) (i0 : Nat) : Option (Int32 × fv_M) := if (M i0 13) = 0 then (some ((-2 : Int32), M)) else (g_M_back_22 i0 fx_FU (fv_set M i0 13 ((M i0 13) - (1 : Int32))) (0 : Int32) (fun M_1 b1_1 => some (((fv_set M_1 i0 11 (0 : Int32)) i0 13), (fv_set M_1 i0 11 (0 : Int32)))))
theorem v_M_back {X : fv_X} {sh : fv_Sh} {k : Nat × Nat} {M : fv_M} {i0 : Nat} {r : Int32 × fv_M} (h0 : fx_atM sh i0) (h : g_M_back M i0 = some r) : fv_Rn X 165 0 [some (.ref i0)] [] k sh M (some (.int r.1), sh, r.2) := by
  unfold g_M_back at h
  refine fx_aload rfl rfl ?_
  refine fx_getI rfl h0.1 rfl rfl ?_
  by_cases c_1 : (M i0 13) = 0
  · replace h := (if_pos c_1).symm.trans h
    refine fx_ifne_s rfl c_1 ?_
    refine fx_const rfl (show Int32.ofInt (-2) = (-2 : Int32) by decide) ?_
    obtain rfl := Option.some.inj h
    exact fx_ret rfl rfl
  · replace h := (if_neg c_1).symm.trans h
    refine fx_ifne_j rfl rfl c_1 ?_
    refine fx_aload rfl rfl ?_
    refine fx_dup rfl rfl ?_
    refine fx_getI rfl h0.1 rfl rfl ?_
    refine fx_const rfl (show Int32.ofInt 1 = (1 : Int32) by decide) ?_
    refine fx_isub rfl ?_
    refine fx_putI rfl h0.1 rfl rfl rfl ?_
    refine fx_const rfl (show Int32.ofInt 0 = (0 : Int32) by decide) ?_
    refine fx_istore rfl rfl ?_
    refine v_M_back_22 h0 (fun M_1 b1_1 h => ?_) fx_FU _ _ h
    refine fx_aload rfl rfl ?_
    refine fx_const rfl (show Int32.ofInt 0 = (0 : Int32) by decide) ?_
    refine fx_putI rfl h0.1 rfl rfl rfl ?_
    refine fx_aload rfl rfl ?_
    refine fx_getI rfl h0.1 rfl rfl ?_
    obtain rfl := Option.some.inj h
    exact fx_ret rfl rfl

theorem v_sw_M_count (x : Int32) (h0 : ¬ x = (0 : Int32)) (h1 : ¬ x = (1 : Int32)) (h2 : ¬ x = (2 : Int32)) (h3 : ¬ x = (3 : Int32)) (h4 : ¬ x = (4 : Int32)) (h5 : ¬ x = (5 : Int32)) (h6 : ¬ x = (6 : Int32)) (h7 : ¬ x = (7 : Int32)) (h8 : ¬ x = (8 : Int32)) (h9 : ¬ x = (9 : Int32)) : fv_tgt 130 0 9 #[80, 85, 90, 95, 100, 108, 110, 115, 120, 125] x = some 130 := by
  unfold fv_tgt
  split
  · rfl
  · rename_i hx
    rcases (by omega : x.toInt = 0 ∨ x.toInt = 1 ∨ x.toInt = 2 ∨ x.toInt = 3 ∨ x.toInt = 4 ∨ x.toInt = 5 ∨ x.toInt = 6 ∨ x.toInt = 7 ∨ x.toInt = 8 ∨ x.toInt = 9) with e | e | e | e | e | e | e | e | e | e
    · exact absurd (Int32.toInt_inj.mp (e.trans (show (0 : Int) = ((0 : Int32)).toInt by decide))) h0
    · exact absurd (Int32.toInt_inj.mp (e.trans (show (1 : Int) = ((1 : Int32)).toInt by decide))) h1
    · exact absurd (Int32.toInt_inj.mp (e.trans (show (2 : Int) = ((2 : Int32)).toInt by decide))) h2
    · exact absurd (Int32.toInt_inj.mp (e.trans (show (3 : Int) = ((3 : Int32)).toInt by decide))) h3
    · exact absurd (Int32.toInt_inj.mp (e.trans (show (4 : Int) = ((4 : Int32)).toInt by decide))) h4
    · exact absurd (Int32.toInt_inj.mp (e.trans (show (5 : Int) = ((5 : Int32)).toInt by decide))) h5
    · exact absurd (Int32.toInt_inj.mp (e.trans (show (6 : Int) = ((6 : Int32)).toInt by decide))) h6
    · exact absurd (Int32.toInt_inj.mp (e.trans (show (7 : Int) = ((7 : Int32)).toInt by decide))) h7
    · exact absurd (Int32.toInt_inj.mp (e.trans (show (8 : Int) = ((8 : Int32)).toInt by decide))) h8
    · exact absurd (Int32.toInt_inj.mp (e.trans (show (9 : Int) = ((9 : Int32)).toInt by decide))) h9
def g_M_count_4 (M : fv_M) (i0 : Nat) (a1 : Int32) : Nat → Int32 → Int32 → (Int32 → Int32 → Option (Int32)) → Option (Int32)
  | 0, _, _, _ => none
  | n + 1, a2, a3, kk => if (24 : Int32) ≤ a3 then (kk a2 a3) else (fx_ck (a3 < 0 ∨ 45 ≤ (a3).toNatClampNeg) (g_M_count_4 M i0 a1 n (a2 + (M (i0 + 6) (a3).toNatClampNeg)) (a3 + (1 : Int32)) kk))
theorem v_M_count_4 {X : fv_X} {sh : fv_Sh} {k : Nat × Nat} {M : fv_M} {i0 : Nat} {a1 : Int32} {r : Int32} {kk : Int32 → Int32 → Option (Int32)} (h0 : fx_atM sh i0) (K : ∀ (a2 a3 : Int32), kk a2 a3 = some r → fv_Rn X 166 25 [some (.ref i0), some (.int a1), some (.int a2), some (.int a3)] [] k sh M (some (.int r), sh, M)) : ∀ (n : Nat) (a2 a3 : Int32), g_M_count_4 M i0 a1 n a2 a3 kk = some r → fv_Rn X 166 4 [some (.ref i0), some (.int a1), some (.int a2), some (.int a3)] [] k sh M (some (.int r), sh, M) := by
  intro n
  induction n with
  | zero =>
    intro a2 a3 h
    replace h : (none : Option (Int32)) = some r := h
    cases h
  | succ n ih =>
    intro a2 a3 h
    rw [g_M_count_4] at h
    refine fx_iload rfl rfl ?_
    refine fx_const rfl (show Int32.ofInt 24 = (24 : Int32) by decide) ?_
    by_cases c_1 : (24 : Int32) ≤ a3
    · replace h := (if_pos c_1).symm.trans h
      refine fx_icge_j rfl rfl c_1 ?_
      exact K _ _ h
    · replace h := (if_neg c_1).symm.trans h
      refine fx_icge_s rfl c_1 ?_
      refine fx_iload rfl rfl ?_
      refine fx_aload rfl rfl ?_
      refine fx_getV rfl h0.1 rfl rfl ?_
      refine fx_iload rfl rfl ?_
      obtain ⟨c_2, h⟩ := fx_ck_some h
      refine fx_iaload rfl (fun z => absurd z.1 (by decide)) h0.2.2.2.2.2.2.1 c_2 ?_
      refine fx_iadd rfl ?_
      refine fx_istore rfl rfl ?_
      refine fx_iinc rfl (show Int32.ofInt 1 = (1 : Int32) by decide) rfl rfl ?_
      refine fx_back rfl rfl rfl ?_
      exact ih _ _ h
def g_M_count (M : fv_M) (i0 : Nat) (a1 : Int32) : Option (Int32) := g_M_count_4 M i0 a1 fx_FU (0 : Int32) (0 : Int32) (fun b2_1 b3_1 => if a1 = (0 : Int32) then (some (M i0 0)) else (if a1 = (1 : Int32) then (some (M i0 2)) else (if a1 = (2 : Int32) then (some (M i0 4)) else (if a1 = (3 : Int32) then (some (M i0 6)) else (if a1 = (4 : Int32) then (some (M (i0 + 6) ((44 : Int32)).toNatClampNeg)) else (if a1 = (5 : Int32) then (some b2_1) else (if a1 = (6 : Int32) then (some (M i0 15)) else (if a1 = (7 : Int32) then (some (M i0 11)) else (if a1 = (8 : Int32) then (some (M i0 13)) else (if a1 = (9 : Int32) then (some (M i0 18)) else (some (-1 : Int32))))))))))))
theorem v_M_count {X : fv_X} {sh : fv_Sh} {k : Nat × Nat} {M : fv_M} {i0 : Nat} {a1 : Int32} {r : Int32} (h0 : fx_atM sh i0) (h : g_M_count M i0 a1 = some r) : fv_Rn X 166 0 [some (.ref i0), some (.int a1)] [] k sh M (some (.int r), sh, M) := by
  unfold g_M_count at h
  refine fx_const rfl (show Int32.ofInt 0 = (0 : Int32) by decide) ?_
  refine fx_istore rfl rfl ?_
  refine fx_const rfl (show Int32.ofInt 0 = (0 : Int32) by decide) ?_
  refine fx_istore rfl rfl ?_
  refine v_M_count_4 h0 (fun b2_1 b3_1 h => ?_) fx_FU _ _ h
  refine fx_iload rfl rfl ?_
  by_cases c_3 : a1 = (0 : Int32)
  · replace h := (if_pos c_3).symm.trans h
    refine fx_tsw (t := 80) rfl (by rw [c_3]; rfl) ?_
    refine fx_aload rfl rfl ?_
    refine fx_getI rfl h0.1 rfl rfl ?_
    obtain rfl := Option.some.inj h
    exact fx_ret rfl rfl
  · replace h := (if_neg c_3).symm.trans h
    by_cases c_4 : a1 = (1 : Int32)
    · replace h := (if_pos c_4).symm.trans h
      refine fx_tsw (t := 85) rfl (by rw [c_4]; rfl) ?_
      refine fx_aload rfl rfl ?_
      refine fx_getI rfl h0.1 rfl rfl ?_
      obtain rfl := Option.some.inj h
      exact fx_ret rfl rfl
    · replace h := (if_neg c_4).symm.trans h
      by_cases c_5 : a1 = (2 : Int32)
      · replace h := (if_pos c_5).symm.trans h
        refine fx_tsw (t := 90) rfl (by rw [c_5]; rfl) ?_
        refine fx_aload rfl rfl ?_
        refine fx_getI rfl h0.1 rfl rfl ?_
        obtain rfl := Option.some.inj h
        exact fx_ret rfl rfl
      · replace h := (if_neg c_5).symm.trans h
        by_cases c_6 : a1 = (3 : Int32)
        · replace h := (if_pos c_6).symm.trans h
          refine fx_tsw (t := 95) rfl (by rw [c_6]; rfl) ?_
          refine fx_aload rfl rfl ?_
          refine fx_getI rfl h0.1 rfl rfl ?_
          obtain rfl := Option.some.inj h
          exact fx_ret rfl rfl
        · replace h := (if_neg c_6).symm.trans h
          by_cases c_7 : a1 = (4 : Int32)
          · replace h := (if_pos c_7).symm.trans h
            refine fx_tsw (t := 100) rfl (by rw [c_7]; rfl) ?_
            refine fx_aload rfl rfl ?_
            refine fx_getV rfl h0.1 rfl rfl ?_
            refine fx_const rfl (show Int32.ofInt 44 = (44 : Int32) by decide) ?_
            refine fx_iaload rfl (fun z => absurd z.1 (by decide)) h0.2.2.2.2.2.2.1 (by decide) ?_
            obtain rfl := Option.some.inj h
            exact fx_ret rfl rfl
          · replace h := (if_neg c_7).symm.trans h
            by_cases c_8 : a1 = (5 : Int32)
            · replace h := (if_pos c_8).symm.trans h
              refine fx_tsw (t := 108) rfl (by rw [c_8]; rfl) ?_
              refine fx_iload rfl rfl ?_
              obtain rfl := Option.some.inj h
              exact fx_ret rfl rfl
            · replace h := (if_neg c_8).symm.trans h
              by_cases c_9 : a1 = (6 : Int32)
              · replace h := (if_pos c_9).symm.trans h
                refine fx_tsw (t := 110) rfl (by rw [c_9]; rfl) ?_
                refine fx_aload rfl rfl ?_
                refine fx_getI rfl h0.1 rfl rfl ?_
                obtain rfl := Option.some.inj h
                exact fx_ret rfl rfl
              · replace h := (if_neg c_9).symm.trans h
                by_cases c_10 : a1 = (7 : Int32)
                · replace h := (if_pos c_10).symm.trans h
                  refine fx_tsw (t := 115) rfl (by rw [c_10]; rfl) ?_
                  refine fx_aload rfl rfl ?_
                  refine fx_getI rfl h0.1 rfl rfl ?_
                  obtain rfl := Option.some.inj h
                  exact fx_ret rfl rfl
                · replace h := (if_neg c_10).symm.trans h
                  by_cases c_11 : a1 = (8 : Int32)
                  · replace h := (if_pos c_11).symm.trans h
                    refine fx_tsw (t := 120) rfl (by rw [c_11]; rfl) ?_
                    refine fx_aload rfl rfl ?_
                    refine fx_getI rfl h0.1 rfl rfl ?_
                    obtain rfl := Option.some.inj h
                    exact fx_ret rfl rfl
                  · replace h := (if_neg c_11).symm.trans h
                    by_cases c_12 : a1 = (9 : Int32)
                    · replace h := (if_pos c_12).symm.trans h
                      refine fx_tsw (t := 125) rfl (by rw [c_12]; rfl) ?_
                      refine fx_aload rfl rfl ?_
                      refine fx_getI rfl h0.1 rfl rfl ?_
                      obtain rfl := Option.some.inj h
                      exact fx_ret rfl rfl
                    · replace h := (if_neg c_12).symm.trans h
                      refine fx_tsw rfl (v_sw_M_count a1 c_3 c_4 c_5 c_6 c_7 c_8 c_9 c_10 c_11 c_12) ?_
                      refine fx_const rfl (show Int32.ofInt (-1) = (-1 : Int32) by decide) ?_
                      obtain rfl := Option.some.inj h
                      exact fx_ret rfl rfl
