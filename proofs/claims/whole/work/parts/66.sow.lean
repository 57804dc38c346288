/-! sow -/
def fa_sow (σ : Nat → Int32) (t v s : Nat) : Nat → Int32 := upd (upd σ (6 * t + s) (σ (6 * t + s) - if s = v then (1 : Int32) else 2)) (24 + t) (nI v)
theorem fa_wS.sown {l : fa_L} {σ : Nat → Int32} {B t v s : Nat} (hl : fa_wl l) (hw : fa_wS l σ B) (ht : t < l.nt) (hv : v < l.nv) (hs : s < l.nv) (h : ¬ σ (6 * t + s) < (if s = v then (1 : Int32) else 2)) : fa_wS l (fa_sow σ t v s) B := by
  have g1 := hl.nt
  have g2 := hl.nv
  obtain ⟨a, ha, ea⟩ := hw.sk (6 * t + s) (by omega)
  unfold fa_sow
  refine (hw.stk hl ht hs ?_).sw (by omega) (Or.inr ⟨v, hv, ht, rfl⟩)
  rw [ea] at h ⊢
  by_cases q : s = v
  · rw [if_pos q] at h ⊢
    have : ¬ a < 1 := fun z => h (nI_lt (a := a) (b := 1) z (by omega))
    exact ⟨a - 1, by omega, fa_sub (a := a) (b := 1) (by omega)⟩
  · rw [if_neg q] at h ⊢
    have : ¬ a < 2 := fun z => h (nI_lt (a := a) (b := 2) z (by omega))
    exact ⟨a - 2, by omega, fa_sub (a := a) (b := 2) (by omega)⟩
set_option maxHeartbeats 4000000 in
theorem fa_p_sow {M : fv_M} {L D : Nat} {l : fa_L} {σ : Nat → Int32} {B : Nat} (R : fa_R M L D l σ B) (a1 a2 : Int32) :
    ∃ r M1 M2 τ, g_X_sow M L D a1 a2 = some (r, M1) ∧ g_M_sow M1 92 a1 a2 = some (r, M2) ∧ fa_R M2 L D l τ B := by
  have hl := R.Q.wl
  have h1 := hl.nt
  have h2 := hl.nv
  have hLD := fa_LD.le R.LD
  unfold g_X_sow g_M_sow
  by_cases c1 : 0 ≤ a1 ∧ a1 ≤ nI l.nt - 1
  rotate_left
  · exact ⟨-1, M, M, σ, by rw [fa_xT0 R.Q.lc.nt c1]; rfl, by rw [fa_mT0 R.Q.lm.nt c1]; rfl, R⟩
  by_cases c2 : 0 ≤ a2 ∧ a2 ≤ nI l.nv - 1
  rotate_left
  · exact ⟨-1, M, M, σ, by rw [fa_xT1 R.Q.lc.nt c1, fa_xV0 R.Q.lc.nv c2]; rfl, by rw [fa_mT1 R.Q.lm.nt c1, fa_mV0 R.Q.lm.nv c2]; rfl, R⟩
  rw [fa_xT1 R.Q.lc.nt c1, Option.bind_some, if_neg fa_10, fa_xV1 R.Q.lc.nv c2, Option.bind_some, if_neg fa_10]
  obtain ⟨t, ht, rfl⟩ := fa_idx (by omega) c1
  obtain ⟨v, hv, rfl⟩ := fa_idx (by omega) c2
  rw [fa_seedFor hl R.Q.wS R.Q.lc R.Q.cS ht hv, Option.bind_some]
  cases hs : fa_seed l σ t v with
  | none =>
    refine ⟨-2, M, M, σ, by rw [if_pos (show fa_oI (-4) none = (-4 : Int32) from rfl)], ?_, R⟩
    rw [fa_mT1 R.Q.lm.nt c1, Option.bind_some, if_neg fa_10, fa_mV1 R.Q.lm.nv c2, Option.bind_some, if_neg fa_10]
    simp (disch := omega) only [fa_m6, fa_24, nI_add, nI_clamp, fa_ckn, R.Q.mS (6 * t + v), R.Q.mS (24 + t)]
    unfold fa_seed at hs
    by_cases q : σ (24 + t) < 0
    · rw [if_pos q] at hs
      by_cases q1 : σ (6 * t + v) < (1 : Int32)
      · rw [if_pos q1] at hs
        rw [if_pos (Int32.not_lt.mp ((fa_lt1 _).mp q1)), fa_smallOf hl R.Q.lm R.Q.mS (by omega), hs, Option.bind_some, if_neg (Int32.not_le.mpr q), if_neg (show ¬ (0 : Int32) ≤ fa_oI (-1) none by decide)]
      · rw [if_neg q1] at hs; cases hs
    · have q' := Int32.not_lt.mp q
      by_cases q1 : σ (6 * t + v) ≤ 0
      · rw [if_pos q1, fa_smallOf hl R.Q.lm R.Q.mS (by omega), Option.bind_some, if_pos q']
      · rw [if_neg q1, if_pos q']
  | some s =>
    have hsl := fa_seed_lt hv hs
    have hso : σ (24 + t) < 0 := by
      unfold fa_seed at hs
      by_cases q : σ (24 + t) < 0
      · exact q
      · rw [if_neg q] at hs; cases hs
    have henough : ¬ σ (6 * t + s) < (if s = v then (1 : Int32) else 2) := by
      unfold fa_seed at hs
      rw [if_pos hso] at hs
      by_cases q1 : σ (6 * t + v) < (1 : Int32)
      · rw [if_pos q1] at hs
        have := (fa_sm_lt hs).2
        by_cases e : s = v
        · rw [if_pos e]
          intro z
          rw [fa_lt1] at z
          rw [fa_lt2] at this
          exact this (Int32.le_of_lt (by
            rw [Int32.lt_iff_toInt_lt] at z ⊢
            have g1 : ((1 : Int32)).toInt = 1 := by decide
            have g0 : ((0 : Int32)).toInt = 0 := by decide
            omega))
        · rw [if_neg e]; exact this
      · rw [if_neg q1] at hs
        cases hs
        rw [if_pos rfl]; exact q1
    obtain ⟨M1, e1, f1, K⟩ := fa_past R
    have c1' : fa_c M1 24 σ := R.Q.cS.go (fun j q1 q2 => f1 j (by omega))
    obtain ⟨M2, eM2⟩ : ∃ M2, M2 = fv_set (fv_set M1 (24 + 1) (6 * t + s) (σ (6 * t + s) - if s = v then (1 : Int32) else 2)) (24 + 2) t (nI v) := ⟨_, rfl⟩
    have x2 : fa_c M2 24 (fa_sow σ t v s) := by
      rw [eM2]
      exact (c1'.stk (by omega)).sow (by omega) (by rw [if_neg (nI_pos (by omega))])
    have f2 : ∀ j, (j < 24 ∨ 29 ≤ j) → M2 j = M1 j := fun j hj => by rw [eM2, fv_set_ne _ _ _ _ j (by omega), fv_set_ne _ _ _ _ j (by omega)]
    have f2h : ∀ j, 76 ≤ j → M2 j = M j := fun j hj => by rw [f2 j (by omega), f1 j (by omega)]
    obtain ⟨M3, e3, g3, f3, K2⟩ := K M2 (fun j q1 q2 => f2 j (by omega)) (by rw [f2h 92 (by omega)]) (fun j hj => f2h j (by omega))
    have m2 : fa_m M2 (92 + 6) σ := fun k hk => by rw [f2h _ (by omega)]; exact R.Q.mS k hk
    have lm2 : fa_lm M2 l := R.Q.lm.go (fun j q1 q2 _ => f2h j (by omega))
    have m3 : fa_m M3 (92 + 6) σ := fun k hk => by rw [f3 _ (by omega) (by omega)]; exact m2 k hk
    obtain ⟨M4, eM4⟩ : ∃ M4, M4 = fv_set (fv_set M3 (92 + 6) (6 * t + s) (σ (6 * t + s) - if s = v then (1 : Int32) else 2)) (92 + 6) (24 + t) (nI v) := ⟨_, rfl⟩
    have m4 : fa_m M4 (92 + 6) (fa_sow σ t v s) := by rw [eM4]; exact m3.put.put
    have f4 : ∀ j, j ≠ 92 + 6 → M4 j = M3 j := fun j hj => by rw [eM4, fv_set_ne _ _ _ _ j hj, fv_set_ne _ _ _ _ j hj]
    refine ⟨fa_sow σ t v s (6 * t + v), M2, M4, fa_sow σ t v s, ?_, ?_, ?_⟩
    · rw [if_neg (show ¬ fa_oI (-4) (some s) = (-4 : Int32) from fa_ne4 (by omega)), e1, Option.bind_some, show fa_oI (-4) (some s) = nI s from rfl, fa_stock c1' (by omega) (by omega), Option.bind_some]
      have es : (nI s = nI v) ↔ s = v := nI_eq (by omega) (by omega)
      by_cases e : s = v
      · rw [if_pos e] at eM2
        rw [if_pos (es.mpr e), fa_setStock (by omega) (by omega), Option.bind_some, fa_put (by omega) (by omega), Option.bind_some, ← eM2, fa_stock x2 (by omega) (by omega), Option.bind_some]
      · rw [if_neg e] at eM2
        rw [if_neg (fun z => e (es.mp z)), fa_setStock (by omega) (by omega), Option.bind_some, fa_put (by omega) (by omega), Option.bind_some, ← eM2, fa_stock x2 (by omega) (by omega), Option.bind_some]
    · rw [fa_mT1 lm2.nt c1, Option.bind_some, if_neg fa_10, fa_mV1 lm2.nv c2, Option.bind_some, if_neg fa_10]
      have es : (nI s = nI v) ↔ s = v := nI_eq (by omega) (by omega)
      have hrem : ∀ (kk : fv_M → Option (Int32 × fv_M)), (g_M_remembers M2 92).bind kk = kk M3 := fun kk => by rw [e3, Option.bind_some]
      unfold fa_seed at hs
      rw [if_pos hso] at hs
      by_cases q1 : σ (6 * t + v) < (1 : Int32)
      · rw [if_pos q1] at hs
        rw [fa_smallOf hl lm2 m2 (by omega), hs, show fa_oI (-1) (some s) = nI s from rfl, Option.bind_some, hrem, hrem]
        simp (disch := omega) only [fa_m6, fa_24, nI_add, nI_clamp, fa_ckn, m2 (6 * t + v), m2 (24 + t), m3 (6 * t + s)]
        rw [if_pos (Int32.not_lt.mp ((fa_lt1 _).mp q1)), if_neg (Int32.not_le.mpr hso), if_pos (nI_pos' (by omega))]
        by_cases e : s = v
        · rw [if_pos e] at eM4
          rw [if_pos (es.mpr e), ← eM4, m4 (6 * t + v) (by omega)]
        · rw [if_neg e] at eM4
          rw [if_neg (fun z => e (es.mp z)), ← eM4, m4 (6 * t + v) (by omega)]
      · rw [if_neg q1] at hs
        cases hs
        rw [if_pos rfl] at eM4
        rw [hrem]
        simp (disch := omega) only [fa_m6, fa_24, nI_add, nI_clamp, fa_ckn, m2 (6 * t + v), m2 (24 + t), m3 (6 * t + v)]
        rw [if_neg (show ¬ σ (6 * t + v) ≤ 0 from fun z => q1 ((fa_lt1 _).mpr (Int32.not_lt.mpr z))), if_neg (Int32.not_le.mpr hso), if_pos (nI_pos' (by omega)), if_pos trivial, ← eM4, m4 (6 * t + v) (by omega)]
    · refine R.re (fun j hj => ?_) (fun j q1 q2 => ?_) (fun f hf => ?_) (fun j q1 q2 q3 q4 => ?_) (Nat.le_refl _) (R.Q.wS.sown hl ht hv hsl henough) (x2.go (fun j q1 q2 => ?_)) m4 (K2 _ (fun j q1 q2 => ?_) ?_ ?_)
      · rw [f4 j (by omega), f3 j (by omega) (by omega), f2 j (by omega), f1 j (by omega)]
      · rw [f4 j (by omega), f3 j (by omega) (by omega), f2h j (by omega)]
      · rw [f4 92 (by omega), g3 f hf, f2h 92 (by omega)]
      · rw [f4 j q2, f3 j (by omega) q3, f2h j (by omega)]
      · rw [f4 j (by omega), f3 j (by omega) (by omega)]
      · exact f4 j (by omega)
      · rw [f4 92 (by omega)]
      · exact f4 _ (by omega)
