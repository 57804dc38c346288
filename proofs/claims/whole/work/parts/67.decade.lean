/-! decade -/
def fa_dr (a1 a4 : Int32) : Int32 := (((((((7919 : Int64) * a1.toInt64) + ((6151 : Int64) * a4.toInt64)) + (1 : Int64)) * ((((7919 : Int64) * a1.toInt64) + ((6151 : Int64) * a4.toInt64)) + (1 : Int64))) - (((((7919 : Int64) * a1.toInt64) + ((6151 : Int64) * a4.toInt64)) + (1 : Int64)) * ((((7919 : Int64) * a1.toInt64) + ((6151 : Int64) * a4.toInt64)) + (1 : Int64))) / (65521 : Int64) * (65521 : Int64)) / (8 : Int64)).toInt32
def fa_dn (z k : Nat) : Nat := ((7919 * z + 6151 * k + 1) * (7919 * z + 6151 * k + 1) % 65521) / 8
theorem fa_ldiv {a b : Nat} (ha : a < 2 ^ 63) (hb : b < 2 ^ 63) : lN a / lN b = lN (a / b) := (Int64.ofNat_div ha hb).symm
theorem fa_draw {z k : Nat} (hz : z ≤ 9999) (hk : k ≤ 1000) : fa_dr (nI z) (nI k) = nI (fa_dn z k) := by
  unfold fa_dr fa_dn
  rw [nI_l (by omega), nI_l (by omega), show (7919 : Int64) = lN 7919 from rfl, show (6151 : Int64) = lN 6151 from rfl, show (1 : Int64) = lN 1 from rfl, show (65521 : Int64) = lN 65521 from rfl, show (8 : Int64) = lN 8 from rfl, lN_mul, lN_mul, lN_add, lN_add, lN_mul]
  have hX : 7919 * z + 6151 * k + 1 ≤ 90000000 := by omega
  have hXX : (7919 * z + 6151 * k + 1) * (7919 * z + 6151 * k + 1) ≤ 90000000 * 90000000 := Nat.mul_le_mul hX hX
  generalize (7919 * z + 6151 * k + 1) * (7919 * z + 6151 * k + 1) = Y at hXX ⊢
  rw [fa_ldiv (by omega) (by omega), lN_mul, lN_sub (by omega), fa_ldiv (by omega) (by omega), lN_i]
  congr 1
  omega
theorem fa_dn_lt (z k : Nat) : fa_dn z k ≤ 8190 := by
  unfold fa_dn
  have := Nat.mod_lt ((7919 * z + 6151 * k + 1) * (7919 * z + 6151 * k + 1)) (show 0 < 65521 by omega)
  omega
theorem fa_idiv {a b : Nat} (ha : a < 2 ^ 31) (hb : b < 2 ^ 31) : nI a / nI b = nI (a / b) := (Int32.ofNat_div ha hb).symm
theorem fa_imod {a b : Nat} (ha : a < 2 ^ 31) (hb : b < 2 ^ 31) : nI a - nI a / nI b * nI b = nI (a % b) := by
  have h := Nat.div_add_mod a b
  rw [Nat.mul_comm] at h
  rw [fa_idiv ha hb, fa_mul, fa_sub (by omega)]
  congr 1
  omega
def fa_cl (x : Int32) : Int32 := if 0 ≤ x then (if x ≤ (60 : Int32) then x else 60) else 0
theorem fa_cl_eq (x : Int32) : (if (0 : Int32) < (if x < (60 : Int32) then x else (60 : Int32)) then (if x < (60 : Int32) then x else (60 : Int32)) else (0 : Int32)) = fa_cl x := by
  rw [fa_min60]
  unfold fa_cl
  by_cases h : x ≤ (60 : Int32)
  · rw [if_pos h]
    by_cases h0 : (0 : Int32) < x
    · rw [if_pos h0, if_pos (Int32.le_of_lt h0)]
    · rw [if_neg h0]
      by_cases h1 : (0 : Int32) ≤ x
      · rw [if_pos h1]
        exact Int32.le_antisymm h1 (Int32.not_lt.mp h0)
      · rw [if_neg h1]
  · rw [if_neg h, if_pos (show (0 : Int32) < 60 by decide), if_pos]
    have h1 := Int32.not_le.mp h
    exact Int32.le_trans (show (0 : Int32) ≤ 60 by decide) (Int32.le_of_lt h1)
def fa_mo (d : Nat) : Int32 := if d / 8 % 2 = 1 then 1 else -1
def fa_ch (l : fa_L) (σ : Nat → Int32) (d : Nat) : Nat → Int32 := upd σ (6 * (d % l.nt) + d / 16 % l.nv) (fa_cl (σ (6 * (d % l.nt) + d / 16 % l.nv) + fa_mo d))
theorem fa_wS.ch {l : fa_L} {σ : Nat → Int32} {B d : Nat} (hl : fa_wl l) (hw : fa_wS l σ B) (hv : 1 ≤ l.nv) (ht : 1 ≤ l.nt) : fa_wS l (fa_ch l σ d) B := by
  have g1 := hl.nt
  have g2 := hl.nv
  have m1 := Nat.mod_lt d (show 0 < l.nt by omega)
  have m2 := Nat.mod_lt (d / 16) (show 0 < l.nv by omega)
  obtain ⟨a, ha, ea⟩ := hw.sk (6 * (d % l.nt) + d / 16 % l.nv) (by omega)
  refine hw.stk hl m1 m2 ?_
  rw [ea]
  unfold fa_mo
  by_cases q : d / 8 % 2 = 1
  · rw [if_pos q, nI_1]
    unfold fa_cl
    rw [if_pos (nI_pos' (by omega))]
    by_cases h : nI (a + 1) ≤ (60 : Int32)
    · rw [if_pos h]; exact ⟨a + 1, (nI_leI (a := a + 1) (b := 60) (by omega) (by omega)).mp h, rfl⟩
    · rw [if_neg h]; exact ⟨60, by omega, rfl⟩
  · rw [if_neg q]
    by_cases h0 : a = 0
    · subst h0; exact ⟨0, by omega, by decide⟩
    · rw [show nI a + (-1 : Int32) = nI (a - 1) from by rw [← fa_sub (a := a) (b := 1) (by omega), Int32.sub_eq_add_neg]; rfl]
      unfold fa_cl
      rw [if_pos (nI_pos' (by omega)), if_pos (show nI (a - 1) ≤ (60 : Int32) from nI_le (a := a - 1) (b := 60) (by omega) (by omega))]
      exact ⟨a - 1, by omega, rfl⟩
def fa_dc (l : fa_L) (σ : Nat → Int32) (z : Nat) : Nat → (Nat → Int32)
  | 0 => σ
  | k + 1 => fa_goS l (fa_ch l (fa_dc l σ z k) (fa_dn z k))
theorem fa_wS.dc {l : fa_L} {σ : Nat → Int32} {B z : Nat} (hl : fa_wl l) (hw : fa_wS l σ B) (hv : 1 ≤ l.nv) (ht : 1 ≤ l.nt) : ∀ k, B + k ≤ 100000 → fa_wS l (fa_dc l σ z k) (B + k) := by
  intro k
  induction k with
  | zero => exact fun _ => hw
  | succ k ih =>
    intro hk
    have h2 := fa_wS.goS (B := B + k) hl (by omega) ((ih (by omega)).ch (d := fa_dn z k) hl hv ht)
    exact h2
theorem fa_change {M : fv_M} {L D : Nat} {l : fa_L} {σ : Nat → Int32} {d : Nat} (hl : fa_wl l) (hL : fa_lc M L l) (hv : 1 ≤ l.nv) (ht : 1 ≤ l.nt) (hc : fa_c M 29 σ) (hd : d ≤ 8190) : ∃ M', g_X_changeByDraw M L D (nI d) = some M' ∧ fa_c M' 29 (fa_ch l σ d) ∧ ∀ j, (j < 29 ∨ 34 ≤ j) → M' j = M j := by
  have g1 := hl.nt
  have g2 := hl.nv
  have m1 := Nat.mod_lt d (show 0 < l.nt by omega)
  have m2 := Nat.mod_lt (d / 16) (show 0 < l.nv by omega)
  refine ⟨fv_set M (29 + 1) (6 * (d % l.nt) + d / 16 % l.nv) (fa_cl (σ (6 * (d % l.nt) + d / 16 % l.nv) + fa_mo d)), ?_, hc.stk (by omega), fun j hj => fv_set_ne _ _ _ _ j (by omega)⟩
  unfold g_X_changeByDraw g_X_remainder
  rw [hL.nt, hL.nv, if_neg (nI_nle (by omega) (by omega)), fa_ck (nI_ne0 (by omega) (by omega)), fa_imod (by omega) (by omega), Option.bind_some, if_neg (nI_nle (by omega) (by omega)), fa_ck (nI_ne0 (by omega) (by omega)), show nI d / (16 : Int32) = nI (d / 16) from fa_idiv (a := d) (b := 16) (by omega) (by omega), fa_imod (by omega) (by omega), Option.bind_some, show nI d / (8 : Int32) = nI (d / 8) from fa_idiv (a := d) (b := 8) (by omega) (by omega), fa_div2 (by omega), fa_stock hc (by omega) (by omega), Option.bind_some, Option.bind_some, fa_setStock (by omega) (by omega), fa_setStock (by omega) (by omega), Option.bind_some, Option.bind_some, fa_cl_eq, fa_cl_eq]
  unfold fa_mo
  have e1 : (nI (d / 8 % 2) = (1 : Int32)) ↔ d / 8 % 2 = 1 := nI_eq (a := d / 8 % 2) (b := 1) (by omega) (by omega)
  by_cases q : d / 8 % 2 = 1
  · rw [if_pos (e1.mpr q), if_pos q]
  · rw [if_neg (fun w => q (e1.mp w)), if_neg q]
theorem fa_dec_46 {L D : Nat} {l : fa_L} {σ : Nat → Int32} {B N z : Nat} {a3 : Int32} (hs : L + 10 ≤ 29) (hl : fa_wl l) (hv : 1 ≤ l.nv) (ht : 1 ≤ l.nt) (hz : z ≤ 9999) (hw : fa_wS l σ B) (hB : B + N ≤ 100000) (hN : N ≤ 900) : ∀ (d k f : Nat) (M : fv_M), k + d = N → d < f → fa_lc M L l → fa_ls M L l → fa_c M 29 (fa_dc l σ z k) →
    ∃ M', (∀ kk, g_X_decade_46 L D (nI z) (nI N) a3 f M (nI k) kk = kk M' (nI N)) ∧ fa_c M' 29 (fa_dc l σ z N) ∧ ∀ j, (j < 29 ∨ 34 ≤ j) → M' j = M j := by
  intro d
  induction d with
  | zero =>
    intro k f M hk hf hL hS hc
    obtain ⟨f, rfl⟩ : ∃ g, f = g + 1 := ⟨f - 1, by omega⟩
    have : k = N := by omega
    subst this
    exact ⟨M, fun kk => by rw [g_X_decade_46, if_pos (nI_le (Nat.le_refl _) (by omega))], hc, fun _ _ => rfl⟩
  | succ d ih =>
    intro k f M hk hf hL hS hc
    obtain ⟨f, rfl⟩ : ∃ g, f = g + 1 := ⟨f - 1, by omega⟩
    obtain ⟨M1, e1, c1, f1⟩ := fa_change (D := D) hl hL hv ht hc (fa_dn_lt z k)
    have hL1 := hL.fr hs (fun j hj => f1 j (by omega))
    have hS1 := hS.fr hs (fun j hj => f1 j (by omega))
    have wk := (hw.dc (z := z) hl hv ht k (by omega)).ch (d := fa_dn z k) hl hv ht
    obtain ⟨M2, e2, c2, f2⟩ := fa_goBy hs hl wk.so hL1 hS1 c1
    obtain ⟨M3, e3, c3, f3⟩ := ih (k + 1) f M2 (by omega) (by omega) (hL1.fr hs f2) (hS1.fr hs f2) c2
    refine ⟨M3, fun kk => ?_, c3, fun j hj => by rw [f3 j hj, f2 j (by omega), f1 j hj]⟩
    rw [g_X_decade_46, if_neg (nI_ge (by omega) (by omega)), show g_X_drawOf M (nI z) (nI k) = some (fa_dr (nI z) (nI k)) from rfl, fa_draw hz (by omega), Option.bind_some, e1, Option.bind_some, e2, Option.bind_some, nI_1, e3]
set_option maxHeartbeats 4000000 in
theorem fa_dec_43 {l : fa_L} {σ : Nat → Int32} {B N z : Nat} {a3 : Int32} (hl : fa_wl l) (hv : 1 ≤ l.nv) (ht : 1 ≤ l.nt) (hz : z ≤ 9999) (hw : fa_wS l σ B) (hB : B + N ≤ 100000) (hN : N ≤ 900) : ∀ (d k f : Nat) (M : fv_M), k + d = N → d < f → fa_lm M l → fa_m M (92 + 18) (fa_dc l σ z k) →
    ∃ M', (∀ kk, g_M_decade_43 92 (nI z) (nI N) a3 f M (nI k) kk = kk M' (nI N)) ∧ fa_m M' (92 + 18) (fa_dc l σ z N) ∧ ∀ j, j ≠ 92 + 18 → M' j = M j := by
  have g1 := hl.nt
  have g2 := hl.nv
  intro d
  induction d with
  | zero =>
    intro k f M hk hf hL hc
    obtain ⟨f, rfl⟩ : ∃ g, f = g + 1 := ⟨f - 1, by omega⟩
    have : k = N := by omega
    subst this
    exact ⟨M, fun kk => by rw [g_M_decade_43, if_pos (nI_le (Nat.le_refl _) (by omega))], hc, fun _ _ => rfl⟩
  | succ d ih =>
    intro k f M hk hf hL hc
    obtain ⟨f, rfl⟩ : ∃ g, f = g + 1 := ⟨f - 1, by omega⟩
    have hdl := fa_dn_lt z k
    have m1 := Nat.mod_lt (fa_dn z k) (show 0 < l.nt by omega)
    have m2 := Nat.mod_lt (fa_dn z k / 16) (show 0 < l.nv by omega)
    have wk := (hw.dc (z := z) hl hv ht k (by omega)).ch (d := fa_dn z k) hl hv ht
    have hstep : ∀ x, x = fa_cl (fa_dc l σ z k (6 * (fa_dn z k % l.nt) + fa_dn z k / 16 % l.nv) + fa_mo (fa_dn z k)) → ∃ M', (∀ kk, ((g_M_goes (fv_set M (92 + 18) (6 * (fa_dn z k % l.nt) + fa_dn z k / 16 % l.nv) x) 92).bind fun q5 => g_M_decade_43 92 (nI z) (nI N) a3 f q5.2 (nI (k + 1)) kk) = kk M' (nI N)) ∧ fa_m M' (92 + 18) (fa_dc l σ z N) ∧ ∀ j, j ≠ 92 + 18 → M' j = M j := by
      intro x hx
      have c1 : fa_m (fv_set M (92 + 18) (6 * (fa_dn z k % l.nt) + fa_dn z k / 16 % l.nv) x) (92 + 18) (fa_ch l (fa_dc l σ z k) (fa_dn z k)) := by rw [hx]; exact hc.put
      have f1 : ∀ j, j ≠ 92 + 18 → (fv_set M (92 + 18) (6 * (fa_dn z k % l.nt) + fa_dn z k / 16 % l.nv) x) j = M j := fun j hj => fv_set_ne _ _ _ _ j hj
      obtain ⟨M2, e2, c2, f2⟩ := fa_goes hl (B := B + k) (by omega) wk (hL.fr f1) c1
      obtain ⟨M3, e3, c3, f3⟩ := ih (k + 1) f M2 (by omega) (by omega) ((hL.fr f1).fr f2) c2
      exact ⟨M3, fun kk => by rw [e2, Option.bind_some, e3], c3, fun j hj => by rw [f3 j hj, f2 j hj, f1 j hj]⟩
    obtain ⟨M3, e3, c3, f3⟩ := hstep _ rfl
    refine ⟨M3, fun kk => ?_, c3, f3⟩
    rw [← e3 kk, g_M_decade_43, if_neg (nI_ge (by omega) (by omega)), hL.nt, hL.nv, fa_ck (nI_ne0 (by omega) (by omega)), fa_ck (nI_ne0 (by omega) (by omega))]
    rw [show (((((((7919 : Int64) * (nI z).toInt64) + ((6151 : Int64) * (nI k).toInt64)) + (1 : Int64)) * ((((7919 : Int64) * (nI z).toInt64) + ((6151 : Int64) * (nI k).toInt64)) + (1 : Int64))) - (((((7919 : Int64) * (nI z).toInt64) + ((6151 : Int64) * (nI k).toInt64)) + (1 : Int64)) * ((((7919 : Int64) * (nI z).toInt64) + ((6151 : Int64) * (nI k).toInt64)) + (1 : Int64))) / (65521 : Int64) * (65521 : Int64)) / (8 : Int64)).toInt32 = nI (fa_dn z k) from fa_draw hz (by omega)]
    rw [fa_imod (by omega) (by omega), show nI (fa_dn z k) / (16 : Int32) = nI (fa_dn z k / 16) from fa_idiv (a := fa_dn z k) (b := 16) (by omega) (by omega), fa_imod (by omega) (by omega), show nI (fa_dn z k) / (8 : Int32) = nI (fa_dn z k / 8) from fa_idiv (a := fa_dn z k) (b := 8) (by omega) (by omega), fa_div2 (by omega)]
    simp (disch := omega) only [fa_m6, nI_add, nI_1, nI_clamp, fa_ckn, hc (6 * (fa_dn z k % l.nt) + fa_dn z k / 16 % l.nv)]
    have e1 : (nI (fa_dn z k / 8 % 2) = (1 : Int32)) ↔ fa_dn z k / 8 % 2 = 1 := nI_eq (a := fa_dn z k / 8 % 2) (b := 1) (by omega) (by omega)
    unfold fa_mo fa_cl
    by_cases q : fa_dn z k / 8 % 2 = 1
    · rw [if_pos (e1.mpr q), if_pos q]
      by_cases p0 : 0 ≤ fa_dc l σ z k (6 * (fa_dn z k % l.nt) + fa_dn z k / 16 % l.nv) + 1
      · rw [if_pos p0, if_pos p0]
        by_cases p6 : fa_dc l σ z k (6 * (fa_dn z k % l.nt) + fa_dn z k / 16 % l.nv) + 1 ≤ (60 : Int32)
        · rw [if_pos p6, if_pos p6]
        · rw [if_neg p6, if_neg p6]
      · rw [if_neg p0, if_neg p0]
    · rw [if_neg (fun w => q (e1.mp w)), if_neg q]
      by_cases p0 : 0 ≤ fa_dc l σ z k (6 * (fa_dn z k % l.nt) + fa_dn z k / 16 % l.nv) + (-1 : Int32)
      · rw [if_pos p0, if_pos p0]
        by_cases p6 : fa_dc l σ z k (6 * (fa_dn z k % l.nt) + fa_dn z k / 16 % l.nv) + (-1 : Int32) ≤ (60 : Int32)
        · rw [if_pos p6, if_pos p6]
        · rw [if_neg p6, if_neg p6]
      · rw [if_neg p0, if_neg p0]
theorem fa_p_decade {M : fv_M} {L D : Nat} {l : fa_L} {σ : Nat → Int32} {B : Nat} (R : fa_R M L D l σ B) (hB : B ≤ 90000) (a1 a2 a3 : Int32) :
    ∃ r M1 M2, g_X_decade M L D a1 a2 a3 = some (r, M1) ∧ g_M_decade M1 92 a1 a2 a3 = some (r, M2) ∧ ∀ j, (j < 29 ∨ 34 ≤ j) → j ≠ 92 + 18 → M2 j = M j := by
  have hLD := fa_LD.le R.LD
  have hl := R.Q.wl
  unfold g_X_decade g_M_decade
  by_cases c1 : (0 : Int32) ≤ a1 ∧ a1 ≤ (9999 : Int32)
  rotate_left
  · exact ⟨-1, M, M, by rw [fa_wi0 c1]; rfl, by rw [fa_mi0 c1]; rfl, fun _ _ _ => rfl⟩
  by_cases c2 : (1 : Int32) ≤ a2 ∧ a2 ≤ (40 : Int32)
  rotate_left
  · exact ⟨-1, M, M, by rw [fa_wi1 c1, fa_wi0 c2]; rfl, by rw [fa_mi1 c1, fa_mi0 c2]; rfl, fun _ _ _ => rfl⟩
  by_cases c3 : (0 : Int32) ≤ a3 ∧ a3 ≤ (1 : Int32)
  rotate_left
  · exact ⟨-1, M, M, by rw [fa_wi1 c1, fa_wi1 c2, fa_wi0 c3]; rfl, by rw [fa_mi1 c1, fa_mi1 c2, fa_mi0 c3]; rfl, fun _ _ _ => rfl⟩
  obtain ⟨z, -, hz, rfl⟩ := fa_rngI (lo := 0) (hi := 9999) (by omega) c1 (by omega)
  obtain ⟨N, hN1, hN, rfl⟩ := fa_rngI (lo := 1) (hi := 40) (by omega) c2 (by omega)
  obtain ⟨M0, e0, x0, f0⟩ := fa_become (M := M) (s := 29) (o := 24) (by omega) R.Q.cS
  have R0 := R.c29 (fun j hj => f0 j (by omega))
  obtain ⟨M1, e1, x1, f1⟩ := fa_dec_46 (L := L) (D := D) (a3 := a3) (by omega) hl R.pv R.pt hz R.Q.wS (N := N) (by omega) (by omega) N 0 fx_FU M0 (by omega) (by unfold fx_FU; omega) R0.Q.lc R0.Q.ls x0
  have R1 := R0.c29 f1
  obtain ⟨M2, e2, x2, f2⟩ := fa_from (M := M1) (a := 92 + 6) (by omega) R1.Q.mS
  have lm2 := R1.Q.lm.fr f2
  obtain ⟨M3, e3, x3, f3⟩ := fa_dec_43 (a3 := a3) hl R.pv R.pt hz R.Q.wS (N := N) (by omega) (by omega) N 0 fx_FU M2 (by omega) (by unfold fx_FU; omega) lm2 x2
  have lm3 := lm2.fr f3
  have m3 : fa_m M3 (92 + 6) σ := fun k hk => by rw [f3 _ (by omega), f2 _ (by omega)]; exact R1.Q.mS k hk
  have hFR : ∀ j, (j < 29 ∨ 34 ≤ j) → j ≠ 92 + 18 → M3 j = M j := fun j q1 q2 => by rw [f3 j q2, f2 j q2, f1 j q1, f0 j (by omega)]
  have E1 := e1
  have E3 := e3
  rw [show nI 0 = (0 : Int32) from rfl] at E1 E3
  by_cases h0 : a3 = 0
  · refine ⟨fa_WH l σ (fa_dc l σ z N) (fun _ => true), M1, M3, ?_, ?_, hFR⟩
    · rw [fa_wi1 c1, Option.bind_some, if_neg fa_10, fa_wi1 c2, Option.bind_some, if_neg fa_10, fa_wi1 c3, Option.bind_some, if_neg fa_10, e0, Option.bind_some, E1, if_pos h0, fa_allWorks hl R1.Q.lc, Option.bind_some, fa_WHallc hl R1.Q.lc R1.Q.cS x1, Option.bind_some]
    · rw [fa_mi1 c1, Option.bind_some, if_neg fa_10, fa_mi1 c2, Option.bind_some, if_neg fa_10, fa_mi1 c3, Option.bind_some, if_neg fa_10, e2, Option.bind_some, E3, if_pos h0, fa_WHallm hl lm3 m3 x3, Option.bind_some]
  · refine ⟨fa_FH l σ (fa_dc l σ z N) (fun _ => true), M1, M3, ?_, ?_, hFR⟩
    · rw [fa_wi1 c1, Option.bind_some, if_neg fa_10, fa_wi1 c2, Option.bind_some, if_neg fa_10, fa_wi1 c3, Option.bind_some, if_neg fa_10, e0, Option.bind_some, E1, if_neg h0, fa_allWorks hl R1.Q.lc, Option.bind_some, fa_FHallc hl R1.Q.lc R1.Q.cS x1, Option.bind_some]
    · rw [fa_mi1 c1, Option.bind_some, if_neg fa_10, fa_mi1 c2, Option.bind_some, if_neg fa_10, fa_mi1 c3, Option.bind_some, if_neg fa_10, e2, Option.bind_some, E3, if_neg h0, fa_FHallm hl lm3 m3 x3, Option.bind_some]
