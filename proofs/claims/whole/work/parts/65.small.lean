/-! write, wipe, hear, forget, sow -/
theorem fa_chr_all : (List.range 127).all (fun i => decide (vp_nar .char ((nI i).toUInt32 % 65536).toInt32 = nI i)) = true := by decide +kernel
theorem fa_chr {i : Nat} (h : i ≤ 126) : vp_nar .char ((nI i).toUInt32 % 65536).toInt32 = nI i := of_decide_eq_true (List.all_eq_true.mp fa_chr_all i (List.mem_range.mpr (by omega)))
theorem fa_r10 (M : fv_M) (k : Nat) (x : Int32) : (fv_set M (92 + 10) k x) 92 = M 92 := fv_set_ne _ _ _ _ _ (by omega)
theorem fa_r11 (M : fv_M) (k : Nat) (x : Int32) : (fv_set M (92 + 11) k x) 92 = M 92 := fv_set_ne _ _ _ _ _ (by omega)
/-- only the text, or what is heard, changes -/
theorem fa_R.re3 {M M' : fv_M} {L D : Nat} {l : fa_L} {σ : Nat → Int32} {B : Nat} (R : fa_R M L D l σ B) (hlo : ∀ j, 3 ≤ j → j < 88 → M' j = M j) (hfl : ∀ f, f < 14 → M' 92 f = M 92 f) (hmd : ∀ j, 93 ≤ j → j < 102 → M' j = M j) (ht : fa_tx M') (hh : fa_hr M' l) : fa_R M' L D l σ B := by
  have hLD := fa_LD.le R.LD
  exact ⟨⟨R.Q.wl, R.Q.lc.go (fun j q1 q2 _ => hlo j (by omega) (by omega)), fun t ht => by rw [hlo (L + 5) (by omega) (by omega)]; exact R.Q.ls t ht, R.Q.lm.go2 (fun f hf => hfl f (by omega)) (fun j q1 q2 q3 => hmd j q1 (by omega)), R.Q.wS, R.Q.cS.go (fun j q1 q2 => hlo j (by omega) (by omega)), fun k hk => by rw [hmd _ (by omega) (by omega)]; exact R.Q.mS k hk⟩, R.LD, R.pv, R.pt, ht,
    R.pa.go (by omega) (fun j q1 q2 => hlo j (by omega) (by omega)) (hfl 11 (by omega)) (hmd _ (by omega) (by omega)),
    R.ke.go (by omega) (fun j q1 q2 => hlo j (by omega) (by omega)) (hfl 13 (by omega)) (hmd _ (by omega) (by omega)), hh⟩
theorem fa_p_write {M : fv_M} {L D : Nat} {l : fa_L} {σ : Nat → Int32} {B : Nat} (R : fa_R M L D l σ B) (a1 : Int32) :
    ∃ r M1 M2, g_X_write M L D a1 = some (r, M1) ∧ g_M_write M1 92 a1 = some (r, M2) ∧ fa_R M2 L D l σ B := by
  unfold g_X_write g_M_write
  by_cases c1 : (32 : Int32) ≤ a1 ∧ a1 ≤ (126 : Int32)
  rotate_left
  · exact ⟨-1, M, M, by rw [fa_wi0 c1]; rfl, by rw [fa_mi0 c1]; rfl, R⟩
  obtain ⟨i, hi1, hi2, rfl⟩ := fa_rngI (lo := 32) (hi := 126) (by omega) c1 (by omega)
  obtain ⟨n, tx, a1, a2, a3, a4⟩ := R.tx
  rw [fa_wi1 c1, Option.bind_some, if_neg fa_10]
  unfold g_T_append
  by_cases h : n = 200
  · subst h
    refine ⟨-3, M, M, ?_, ?_, R⟩
    · rw [a2, if_neg (nI_pos (by omega)), if_neg (by decide), Option.bind_some]; rfl
    · rw [fa_mi1 c1, Option.bind_some, if_neg fa_10, a3, if_pos (by decide)]
  · refine ⟨nI (n + 1), fv_set (fv_set M 2 n (nI i)) 1 2 (nI (n + 1)), fv_set (fv_set (fv_set (fv_set M 2 n (nI i)) 1 2 (nI (n + 1))) (92 + 11) n (nI i)) 92 18 (nI (n + 1)), ?_, ?_, ?_⟩
    · rw [a2, if_neg (nI_pos (by omega)), if_pos (show nI n < (200 : Int32) from nI_lt (a := n) (b := 200) (by omega) (by omega)), fa_cki (by omega) (by omega), nI_clamp (by omega), fa_chr hi2, fv_set_ne _ _ _ _ 1 (by omega), a2, nI_1, Option.bind_some]
      dsimp only
      rw [if_neg fa_10, fv_set_at, fa_upd_same]
    · have h92 : (fv_set (fv_set M 2 n (nI i)) 1 2 (nI (n + 1))) 92 = M 92 := by rw [fv_set_ne _ _ _ _ 92 (by omega), fv_set_ne _ _ _ _ 92 (by omega)]
      rw [fa_mi1 c1, Option.bind_some, if_neg fa_10, h92, a3, if_neg (show ¬ nI n = (200 : Int32) from fun z => h ((nI_eq (a := n) (b := 200) (by omega) (by omega)).mp z)), fa_cki (by omega) (by omega), nI_clamp (by omega), fa_r11, h92, a3, nI_1, fv_set_at, fa_upd_same]
    · refine R.re3 (fun j q1 q2 => ?_) (fun f hf => ?_) (fun j q1 q2 => ?_) ⟨n + 1, fun k => if k = n then i else tx k, by omega, ?_, ?_, fun k hk => ?_⟩ (R.he.go (fun j q1 q2 => ?_) ?_ ?_)
      · rw [fv_set_ne _ _ _ _ j (by omega), fv_set_ne _ _ _ _ j (by omega), fv_set_ne _ _ _ _ j (by omega), fv_set_ne _ _ _ _ j (by omega)]
      · rw [fv_set_at, fa_upd_ne _ _ (by omega), fv_set_ne _ _ _ _ 92 (by omega), fv_set_ne _ _ _ _ 92 (by omega), fv_set_ne _ _ _ _ 92 (by omega)]
      · rw [fv_set_ne _ _ _ _ j (by omega), fv_set_ne _ _ _ _ j (by omega), fv_set_ne _ _ _ _ j (by omega), fv_set_ne _ _ _ _ j (by omega)]
      · rw [fv_set_ne _ _ _ _ 1 (by omega), fv_set_ne _ _ _ _ 1 (by omega), fv_set_at, fa_upd_same]
      · rw [fv_set_at, fa_upd_same]
      · rw [fv_set_ne _ _ _ _ 2 (by omega), fv_set_ne _ _ _ _ 2 (by omega), fv_set_ne _ _ _ _ 2 (by omega), fv_set_at, fv_set_ne _ _ _ _ (92 + 11) (by omega), fv_set_at, fv_set_ne _ _ _ _ (92 + 11) (by omega), fv_set_ne _ _ _ _ (92 + 11) (by omega)]
        dsimp only
        by_cases e : k = n
        · subst e; rw [fa_upd_same, fa_upd_same, if_pos rfl]; exact ⟨rfl, rfl, hi1, hi2⟩
        · rw [fa_upd_ne _ _ e, fa_upd_ne _ _ e, if_neg e]; exact a4 k (by omega)
      · rw [fv_set_ne _ _ _ _ j (by omega), fv_set_ne _ _ _ _ j (by omega), fv_set_ne _ _ _ _ j (by omega), fv_set_ne _ _ _ _ j (by omega)]
      · rw [fv_set_at, fa_upd_ne _ _ (by omega), fv_set_ne _ _ _ _ 92 (by omega), fv_set_ne _ _ _ _ 92 (by omega), fv_set_ne _ _ _ _ 92 (by omega)]
      · rw [fv_set_ne _ _ _ _ _ (by omega), fv_set_ne _ _ _ _ _ (by omega), fv_set_ne _ _ _ _ _ (by omega), fv_set_ne _ _ _ _ _ (by omega)]
theorem fa_p_wipe {M : fv_M} {L D : Nat} {l : fa_L} {σ : Nat → Int32} {B : Nat} (R : fa_R M L D l σ B) :
    ∃ r M1 M2, g_X_wipe M L D = some (r, M1) ∧ g_M_wipe M1 92 = some (r, M2) ∧ fa_R M2 L D l σ B := by
  unfold g_X_wipe g_M_wipe
  obtain ⟨n, tx, a1, a2, a3, a4⟩ := R.tx
  refine ⟨nI n, _, fv_set (fv_set M 1 2 (0 : Int32)) 92 18 (0 : Int32), by rw [a2], by rw [fv_set_ne _ _ _ _ 92 (by omega), a3], ?_⟩
  refine R.re3 (fun j q1 q2 => ?_) (fun f hf => ?_) (fun j q1 q2 => ?_) ⟨0, tx, by omega, ?_, ?_, fun k hk => absurd hk (by omega)⟩ (R.he.go (fun j q1 q2 => ?_) ?_ ?_)
  · rw [fv_set_ne _ _ _ _ j (by omega), fv_set_ne _ _ _ _ j (by omega)]
  · rw [fv_set_at, fa_upd_ne _ _ (by omega), fv_set_ne _ _ _ _ 92 (by omega)]
  · rw [fv_set_ne _ _ _ _ j (by omega), fv_set_ne _ _ _ _ j (by omega)]
  · rw [fv_set_ne _ _ _ _ 1 (by omega), fv_set_at, fa_upd_same]; rfl
  · rw [fv_set_at, fa_upd_same]; rfl
  · rw [fv_set_ne _ _ _ _ j (by omega), fv_set_ne _ _ _ _ j (by omega)]
  · rw [fv_set_at, fa_upd_ne _ _ (by omega), fv_set_ne _ _ _ _ 92 (by omega)]
  · rw [fv_set_ne _ _ _ _ _ (by omega), fv_set_ne _ _ _ _ _ (by omega)]
theorem fa_p_forget {M : fv_M} {L D : Nat} {l : fa_L} {σ : Nat → Int32} {B : Nat} (R : fa_R M L D l σ B) :
    ∃ r M1 M2, g_X_forget M L D = some (r, M1) ∧ g_M_forget M1 92 = some (r, M2) ∧ fa_R M2 L D l σ B := by
  unfold g_X_forget g_M_forget
  obtain ⟨n, w, s, d, a1, a2, a3, a4⟩ := R.he
  refine ⟨nI n, _, fv_set (fv_set M 88 3 (0 : Int32)) 92 15 (0 : Int32), by rw [a2], by rw [fv_set_ne _ _ _ _ 92 (by omega), a3], ?_⟩
  refine R.re3 (fun j q1 q2 => ?_) (fun f hf => ?_) (fun j q1 q2 => ?_) (R.tx.go ?_ ?_ ?_ ?_) ⟨0, w, s, d, by omega, ?_, ?_, fun k hk => absurd hk (by omega)⟩
  · rw [fv_set_ne _ _ _ _ j (by omega), fv_set_ne _ _ _ _ j (by omega)]
  · rw [fv_set_at, fa_upd_ne _ _ (by omega), fv_set_ne _ _ _ _ 92 (by omega)]
  · rw [fv_set_ne _ _ _ _ j (by omega), fv_set_ne _ _ _ _ j (by omega)]
  · rw [fv_set_ne _ _ _ _ 1 (by omega), fv_set_ne _ _ _ _ 1 (by omega)]
  · rw [fv_set_ne _ _ _ _ 2 (by omega), fv_set_ne _ _ _ _ 2 (by omega)]
  · rw [fv_set_at, fa_upd_ne _ _ (by omega), fv_set_ne _ _ _ _ 92 (by omega)]
  · rw [fv_set_ne _ _ _ _ _ (by omega), fv_set_ne _ _ _ _ _ (by omega)]
  · rw [fv_set_ne _ _ _ _ 88 (by omega), fv_set_at, fa_upd_same]; rfl
  · rw [fv_set_at, fa_upd_same]; rfl
theorem fa_bool {a3 : Int32} (h : a3 = 0 ∨ a3 = 1) : vp_nar .boolean a3 = a3 ∧ ∃ e, e ≤ 1 ∧ a3 = nI e := by
  rcases h with rfl | rfl
  · exact ⟨by decide, 0, by omega, rfl⟩
  · exact ⟨by decide, 1, by omega, rfl⟩
set_option maxHeartbeats 4000000 in
theorem fa_p_hear {M : fv_M} {L D : Nat} {l : fa_L} {σ : Nat → Int32} {B : Nat} (R : fa_R M L D l σ B) (a1 a2 a3 : Int32) (h3 : a3 = 0 ∨ a3 = 1) :
    ∃ r M1 M2, g_X_hear M L D a1 a2 a3 = some (r, M1) ∧ g_M_hear M1 92 a1 a2 a3 = some (r, M2) ∧ fa_R M2 L D l σ B := by
  have hnw := R.Q.wl.nw
  unfold g_X_hear
  by_cases c1 : 0 ≤ a1 ∧ a1 ≤ nI l.nw - 1
  rotate_left
  · refine ⟨-1, M, M, by rw [fa_xW, R.Q.lc.nw, if_neg c1]; rfl, ?_, R⟩
    unfold g_M_hear
    rw [R.Q.lm.nw, fa_mi0 c1]; rfl
  rw [fa_xW, R.Q.lc.nw, if_pos c1, Option.bind_some, if_neg fa_10]
  by_cases c2 : (1 : Int32) ≤ a2 ∧ a2 ≤ (9 : Int32)
  rotate_left
  · refine ⟨-1, M, M, by rw [fa_wi0 c2]; rfl, ?_, R⟩
    unfold g_M_hear
    rw [R.Q.lm.nw, fa_mi1 c1, Option.bind_some, if_neg fa_10, fa_mi0 c2]; rfl
  rw [fa_wi1 c2, Option.bind_some, if_neg fa_10]
  obtain ⟨wn, hwn, rfl⟩ := fa_idx (by omega) c1
  obtain ⟨sn, hs1, hs9, rfl⟩ := fa_rngI (lo := 1) (hi := 9) (by omega) c2 (by omega)
  obtain ⟨n, w, s, d, b1, b2, b3, b4⟩ := R.he
  obtain ⟨hb, e, he, hee⟩ := fa_bool h3
  unfold g_H_add
  by_cases h : n = 6
  · subst h
    refine ⟨-3, M, M, ?_, ?_, R⟩
    · rw [b2, if_neg (nI_pos (by omega)), if_neg (by decide), Option.bind_some]; rfl
    · unfold g_M_hear
      rw [R.Q.lm.nw, fa_mi1 c1, Option.bind_some, if_neg fa_10, fa_mi1 c2, Option.bind_some, if_neg fa_10, b3, if_pos (by decide)]
  · have g1 : (fv_set M (88 + 1) n (nI wn)) 88 = M 88 := fv_set_ne _ _ _ _ _ (by omega)
    have g2 : (fv_set (fv_set M (88 + 1) n (nI wn)) (88 + 2) n (nI sn)) 88 = M 88 := by rw [fv_set_ne _ _ _ _ _ (by omega), g1]
    have g3 : (fv_set (fv_set (fv_set M (88 + 1) n (nI wn)) (88 + 2) n (nI sn)) (88 + 3) n a3) 88 = M 88 := by rw [fv_set_ne _ _ _ _ _ (by omega), g2]
    obtain ⟨M1, eM1⟩ : ∃ M1, M1 = fv_set (fv_set (fv_set (fv_set M (88 + 1) n (nI wn)) (88 + 2) n (nI sn)) (88 + 3) n a3) 88 3 (nI (n + 1)) := ⟨_, rfl⟩
    have h1lo : ∀ j, (j < 88 ∨ 92 ≤ j) → M1 j = M j := fun j hj => by rw [eM1, fv_set_ne _ _ _ _ j (by omega), fv_set_ne _ _ _ _ j (by omega), fv_set_ne _ _ _ _ j (by omega), fv_set_ne _ _ _ _ j (by omega)]
    refine ⟨nI (n + 1), M1, fv_set (fv_set (fv_set (fv_set M1 (92 + 10) (3 * n) (nI wn)) (92 + 10) (3 * n + 1) (nI sn)) (92 + 10) (3 * n + 2) a3) 92 15 (nI (n + 1)), ?_, ?_, ?_⟩
    · rw [b2, if_neg (nI_pos (by omega)), if_pos (show nI n < (6 : Int32) from nI_lt (a := n) (b := 6) (by omega) (by omega)), fa_put (by omega) (by omega), Option.bind_some, g1, b2, fa_put (by omega) (by omega), Option.bind_some, g2, b2, fa_cki (by omega) (by omega), nI_clamp (by omega), hb, g3, b2, nI_1, ← eM1, Option.bind_some]
      dsimp only
      rw [if_neg fa_10, eM1, fv_set_at, fa_upd_same]
    · have e15 : M1 92 15 = nI n := by rw [h1lo 92 (by omega)]; exact b3
      have e6 : M1 92 6 = nI l.nw := by rw [h1lo 92 (by omega)]; exact R.Q.lm.nw
      unfold g_M_hear
      rw [e6, fa_mi1 c1, Option.bind_some, if_neg fa_10, fa_mi1 c2, Option.bind_some, if_neg fa_10, e15, if_neg (show ¬ nI n = (6 : Int32) from fun z => h ((nI_eq (a := n) (b := 6) (by omega) (by omega)).mp z))]
      simp (disch := omega) only [fa_r10, e15, fa_m3, fa_p2, nI_1, nI_clamp, fa_ckn, fv_set_at, fa_upd_same]
      rcases h3 with z | z
      · rw [if_pos z, z]
      · rw [if_neg (show ¬ a3 = 0 by rw [z]; exact fa_10), z]
    · refine R.re3 (fun j q1 q2 => ?_) (fun f hf => ?_) (fun j q1 q2 => ?_) (R.tx.go ?_ ?_ ?_ ?_) ⟨n + 1, fun k => if k = n then wn else w k, fun k => if k = n then sn else s k, fun k => if k = n then e else d k, by omega, ?_, ?_, fun k hk => ?_⟩
      · rw [fv_set_ne _ _ _ _ j (by omega), fv_set_ne _ _ _ _ j (by omega), fv_set_ne _ _ _ _ j (by omega), fv_set_ne _ _ _ _ j (by omega), h1lo j (by omega)]
      · rw [fv_set_at, fa_upd_ne _ _ (by omega), fa_r10, fa_r10, fa_r10, h1lo 92 (by omega)]
      · rw [fv_set_ne _ _ _ _ j (by omega), fv_set_ne _ _ _ _ j (by omega), fv_set_ne _ _ _ _ j (by omega), fv_set_ne _ _ _ _ j (by omega), h1lo j (by omega)]
      · rw [fv_set_ne _ _ _ _ 1 (by omega), fv_set_ne _ _ _ _ 1 (by omega), fv_set_ne _ _ _ _ 1 (by omega), fv_set_ne _ _ _ _ 1 (by omega), h1lo 1 (by omega)]
      · rw [fv_set_ne _ _ _ _ 2 (by omega), fv_set_ne _ _ _ _ 2 (by omega), fv_set_ne _ _ _ _ 2 (by omega), fv_set_ne _ _ _ _ 2 (by omega), h1lo 2 (by omega)]
      · rw [fv_set_at, fa_upd_ne _ _ (by omega), fa_r10, fa_r10, fa_r10, h1lo 92 (by omega)]
      · rw [fv_set_ne _ _ _ _ _ (by omega), fv_set_ne _ _ _ _ _ (by omega), fv_set_ne _ _ _ _ _ (by omega), fv_set_ne _ _ _ _ _ (by omega), h1lo _ (by omega)]
      · rw [fv_set_ne _ _ _ _ 88 (by omega), fv_set_ne _ _ _ _ 88 (by omega), fv_set_ne _ _ _ _ 88 (by omega), fv_set_ne _ _ _ _ 88 (by omega), eM1, fv_set_at, fa_upd_same]
      · rw [fv_set_at, fa_upd_same]
      · have k89 : ∀ j, 88 < j → j < 92 → (fv_set (fv_set (fv_set (fv_set M1 (92 + 10) (3 * n) (nI wn)) (92 + 10) (3 * n + 1) (nI sn)) (92 + 10) (3 * n + 2) a3) 92 15 (nI (n + 1))) j = (fv_set (fv_set (fv_set M (88 + 1) n (nI wn)) (88 + 2) n (nI sn)) (88 + 3) n a3) j := fun j q1 q2 => by rw [fv_set_ne _ _ _ _ j (by omega), fv_set_ne _ _ _ _ j (by omega), fv_set_ne _ _ _ _ j (by omega), fv_set_ne _ _ _ _ j (by omega), eM1, fv_set_ne _ _ _ _ j (by omega)]
        have x1 : (fv_set (fv_set (fv_set M (88 + 1) n (nI wn)) (88 + 2) n (nI sn)) (88 + 3) n a3) 89 = upd (M 89) n (nI wn) := by rw [fv_set_ne _ _ _ _ _ (by omega), fv_set_ne _ _ _ _ _ (by omega), fv_set_at]
        have x2 : (fv_set (fv_set (fv_set M (88 + 1) n (nI wn)) (88 + 2) n (nI sn)) (88 + 3) n a3) 90 = upd (M 90) n (nI sn) := by rw [fv_set_ne _ _ _ _ _ (by omega), fv_set_at, fv_set_ne _ _ _ _ _ (by omega)]
        have x3 : (fv_set (fv_set (fv_set M (88 + 1) n (nI wn)) (88 + 2) n (nI sn)) (88 + 3) n a3) 91 = upd (M 91) n a3 := by rw [fv_set_at, fv_set_ne _ _ _ _ _ (by omega), fv_set_ne _ _ _ _ _ (by omega)]
        rw [k89 89 (by omega) (by omega), k89 90 (by omega) (by omega), k89 91 (by omega) (by omega), x1, x2, x3, fv_set_ne _ _ _ _ (92 + 10) (by omega), fv_set_at, fv_set_at, fv_set_at, h1lo (92 + 10) (by omega)]
        dsimp only
        by_cases q : k = n
        · subst q
          rw [if_pos rfl, if_pos rfl, if_pos rfl, fa_upd_same, fa_upd_same, fa_upd_same, fa_upd_same, fa_upd_ne _ _ (by omega), fa_upd_ne _ _ (by omega), fa_upd_same, fa_upd_ne _ _ (by omega), fa_upd_same, hee]
          exact ⟨hwn, ⟨hs1, hs9⟩, he, ⟨rfl, rfl, rfl⟩, rfl, rfl, rfl⟩
        · rw [if_neg q, if_neg q, if_neg q, fa_upd_ne _ _ q, fa_upd_ne _ _ q, fa_upd_ne _ _ q, fa_upd_ne _ _ (by omega), fa_upd_ne _ _ (by omega), fa_upd_ne _ _ (by omega), fa_upd_ne _ _ (by omega), fa_upd_ne _ _ (by omega), fa_upd_ne _ _ (by omega), fa_upd_ne _ _ (by omega), fa_upd_ne _ _ (by omega), fa_upd_ne _ _ (by omega)]
          exact b4 k (by omega)
