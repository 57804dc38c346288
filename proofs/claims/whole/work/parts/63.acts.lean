/-! pass, give, sow -/
theorem fa_lm.go2 {M M' : fv_M} {l : fa_L} (h0 : ∀ f, f < 7 → M' 92 f = M 92 f) (hf : ∀ j, 93 ≤ j → j < 100 → j ≠ 98 → M' j = M j) (h : fa_lm M l) : fa_lm M' l := ⟨
  (by rw [h0 0 (by omega)]; exact h.nv),
  (by rw [h0 2 (by omega)]; exact h.nn),
  (by rw [h0 4 (by omega)]; exact h.nt),
  (by rw [h0 6 (by omega)]; exact h.nw),
  (fun i hi => by rw [hf (92 + 1) (by omega) (by omega) (by omega)]; exact h.kd i hi),
  (fun i hi => by rw [hf (92 + 1) (by omega) (by omega) (by omega)]; exact h.cr i hi),
  (fun i hi => by rw [hf (92 + 2) (by omega) (by omega) (by omega)]; exact h.mi i hi),
  (fun i hi => by rw [hf (92 + 3) (by omega) (by omega) (by omega)]; exact h.ow i hi),
  (fun i hi => by rw [hf (92 + 4) (by omega) (by omega) (by omega)]; exact h.wt i hi),
  (fun i hi => by rw [hf (92 + 4) (by omega) (by omega) (by omega)]; exact h.wv i hi),
  (fun i hi => by rw [hf (92 + 4) (by omega) (by omega) (by omega)]; exact h.ww i hi),
  (fun i hi => by rw [hf (92 + 5) (by omega) (by omega) (by omega)]; exact h.sd i hi),
  (fun i hi => by rw [hf (92 + 7) (by omega) (by omega) (by omega)]; exact h.fs i hi)⟩
theorem fa_R.re {M M' : fv_M} {L D : Nat} {l : fa_L} {σ τ : Nat → Int32} {B C : Nat} (R : fa_R M L D l σ B) (h24 : ∀ j, j < 24 → M' j = M j) (h76 : ∀ j, 76 ≤ j → j < 92 → M' j = M j) (hfl : ∀ f, f ≠ 11 → M' 92 f = M 92 f) (hmd : ∀ j, 93 ≤ j → j ≠ 92 + 6 → j ≠ 92 + 8 → j ≠ 92 + 18 → M' j = M j) (hBC : B ≤ C) (hw : fa_wS l τ C) (hc : fa_c M' 24 τ) (hm : fa_m M' (92 + 6) τ) (hp : fa_rg M' 34 8 (92 + 8) 11 l B) : fa_R M' L D l τ C := by
  have hLD := fa_LD.le R.LD
  exact ⟨⟨R.Q.wl, R.Q.lc.go (fun j q1 q2 _ => h24 j (by omega)), fun t ht => by rw [h24 (L + 5) (by omega)]; exact R.Q.ls t ht, R.Q.lm.go2 (fun f hf => hfl f (by omega)) (fun j q1 q2 q3 => hmd j q1 (by omega) (by omega) (by omega)), hw, hc, hm⟩, R.LD, R.pv, R.pt,
    R.tx.go (by rw [h24 1 (by omega)]) (h24 2 (by omega)) (hfl 18 (by omega)) (hmd _ (by omega) (by omega) (by omega) (by omega)), hp.mono hBC,
    (R.ke.go (by omega) (fun j q1 q2 => h76 j q1 (by omega)) (hfl 13 (by omega)) (hmd _ (by omega) (by omega) (by omega) (by omega))).mono hBC,
    R.he.go (fun j q1 q2 => h76 j (by omega) q2) (hfl 15 (by omega)) (hmd _ (by omega) (by omega) (by omega) (by omega))⟩
theorem fa_p_pass {M : fv_M} {L D : Nat} {l : fa_L} {σ : Nat → Int32} {B : Nat} (R : fa_R M L D l σ B) (hB : B ≤ 90000) (a1 : Int32) :
    ∃ r M1 M2 τ, g_X_pass M L D a1 = some (r, M1) ∧ g_M_pass M1 92 a1 = some (r, M2) ∧ fa_R M2 L D l τ (B + 10) := by
  have hLD := fa_LD.le R.LD
  unfold g_X_pass g_M_pass
  by_cases c1 : (1 : Int32) ≤ a1 ∧ a1 ≤ (10 : Int32)
  rotate_left
  · exact ⟨-1, M, M, σ, by rw [fa_wi0 c1]; rfl, by rw [fa_mi0 c1]; rfl, R.mono (by omega)⟩
  obtain ⟨n, hn1, hn10, rfl⟩ := fa_rngI (lo := 1) (hi := 10) (by omega) c1 (by omega)
  obtain ⟨M1, e1, f1, K⟩ := fa_past R
  have c1' : fa_c M1 24 σ := R.Q.cS.go (fun j q1 q2 => f1 j (by omega))
  obtain ⟨M2, e2, c2, f2⟩ := fa_goAhead (L := L) (D := D) (s := 24) (N := n) (by omega) R.Q.wl R.Q.wS (by omega) (by omega) (R.Q.lc.go (fun j q1 q2 _ => f1 j (by omega))) (fun t ht => by rw [f1 (L + 5) (by omega)]; exact R.Q.ls t ht) c1'
  have f2h : ∀ j, 76 ≤ j → M2 j = M j := fun j hj => by rw [f2 j (by omega), f1 j (by omega)]
  obtain ⟨M3, e3, g3, f3, K2⟩ := K M2 (fun j q1 q2 => f2 j (by omega)) (by rw [f2h 92 (by omega)]) (fun j hj => f2h j (by omega))
  have m3 : fa_m M3 (92 + 6) σ := fun k hk => by rw [f3 _ (by omega) (by omega), f2h _ (by omega)]; exact R.Q.mS k hk
  have lm3 : fa_lm M3 l := R.Q.lm.go2 (fun f hf => by rw [g3 f (by omega), f2h 92 (by omega)]) (fun j q1 q2 q3 => by rw [f3 j (by omega) (by omega), f2h j (by omega)])
  obtain ⟨M4, M5, e4, e5, y5, f5⟩ := fa_mh (n := n) R.Q.wl lm3 R.Q.wS m3 (by omega) (by omega)
  obtain ⟨M6, e6, z1, z2, z3⟩ := fa_mput (M := M5) (a := 92 + 18) (b := 92 + 6) (n := 45) (N0 := 45) (N2 := 45) (o := 0) (by omega) (by omega) (by omega) (by omega) (by omega) (by omega)
  have f63 : ∀ j, j ≠ 92 + 6 → j ≠ 92 + 18 → M6 j = M3 j := fun j q1 q2 => by rw [z3 j q1, f5 j q2]
  have m6 : fa_m M6 (92 + 6) (fa_goN l σ n) := fun k hk => by
    have := z1 k hk
    rw [Nat.zero_add] at this
    rw [this, y5 k hk]
  refine ⟨fa_goN l σ n 44, M2, M6, fa_goN l σ n, ?_, ?_, ?_⟩
  · rw [fa_wi1 c1, Option.bind_some, if_neg fa_10, e1, Option.bind_some, e2, Option.bind_some, c2.se]
  · rw [fa_mi1 c1, Option.bind_some, if_neg fa_10, e3, Option.bind_some, e4, Option.bind_some, e5, Option.bind_some, show g_M_put M5 (92 + 6) 45 (0 : Int32) (92 + 18) 45 (45 : Int32) = some M6 from e6, Option.bind_some, fa_44, m6 44 (by omega)]
  · refine R.re (fun j hj => ?_) (fun j q1 q2 => ?_) (fun f hf => ?_) (fun j q1 q2 q3 q4 => ?_) (by omega) ((R.Q.wS.goN R.Q.wl n (by omega)).mono (by omega)) (c2.go (fun j q1 q2 => ?_)) m6 (K2 M6 (fun j q1 q2 => ?_) ?_ ?_)
    · rw [f63 j (by omega) (by omega), f3 j (by omega) (by omega), f2 j (by omega), f1 j (by omega)]
    · rw [f63 j (by omega) (by omega), f3 j (by omega) (by omega), f2h j (by omega)]
    · rw [f63 92 (by omega) (by omega), g3 f hf, f2h 92 (by omega)]
    · rw [f63 j q2 q4, f3 j (by omega) q3, f2h j (by omega)]
    · rw [f63 j (by omega) (by omega), f3 j (by omega) (by omega)]
    · exact f63 j (by omega) (by omega)
    · rw [f63 92 (by omega) (by omega)]
    · exact f63 _ (by omega) (by omega)
theorem fa_p_give {M : fv_M} {L D : Nat} {l : fa_L} {σ : Nat → Int32} {B : Nat} (R : fa_R M L D l σ B) (a1 a2 a3 a4 : Int32) :
    ∃ r M1 M2 τ, g_X_give M L D a1 a2 a3 a4 = some (r, M1) ∧ g_M_give M1 92 a1 a2 a3 a4 = some (r, M2) ∧ fa_R M2 L D l τ B := by
  have hl := R.Q.wl
  have h1 := hl.nt
  have h2 := hl.nv
  have hLD := fa_LD.le R.LD
  unfold g_X_give g_M_give g_X_refusalOfGift
  by_cases c1 : 0 ≤ a1 ∧ a1 ≤ nI l.nt - 1
  rotate_left
  · exact ⟨-1, M, M, σ, by rw [fa_xT0 R.Q.lc.nt c1]; rfl, by rw [fa_mT0 R.Q.lm.nt c1]; rfl, R⟩
  by_cases c2 : 0 ≤ a2 ∧ a2 ≤ nI l.nt - 1
  rotate_left
  · exact ⟨-1, M, M, σ, by rw [fa_xT1 R.Q.lc.nt c1, fa_xT0 R.Q.lc.nt c2]; rfl, by rw [fa_mT1 R.Q.lm.nt c1, fa_mT0 R.Q.lm.nt c2]; rfl, R⟩
  by_cases c3 : a1 = a2
  · refine ⟨-1, M, M, σ, ?_, ?_, R⟩
    · rw [fa_xT1 R.Q.lc.nt c1, Option.bind_some, if_neg fa_10, fa_xT1 R.Q.lc.nt c2, Option.bind_some, if_neg fa_10, if_pos c3]; rfl
    · rw [fa_mT1 R.Q.lm.nt c1, Option.bind_some, if_neg fa_10, fa_mT1 R.Q.lm.nt c2, Option.bind_some, if_neg fa_10, if_pos c3]
  by_cases c4 : 0 ≤ a3 ∧ a3 ≤ nI l.nv - 1
  rotate_left
  · refine ⟨-1, M, M, σ, ?_, ?_, R⟩
    · rw [fa_xT1 R.Q.lc.nt c1, Option.bind_some, if_neg fa_10, fa_xT1 R.Q.lc.nt c2, Option.bind_some, if_neg fa_10, if_neg c3, fa_xV0 R.Q.lc.nv c4]; rfl
    · rw [fa_mT1 R.Q.lm.nt c1, Option.bind_some, if_neg fa_10, fa_mT1 R.Q.lm.nt c2, Option.bind_some, if_neg fa_10, if_neg c3, fa_mV0 R.Q.lm.nv c4]; rfl
  by_cases c5 : (1 : Int32) ≤ a4 ∧ a4 ≤ (60 : Int32)
  rotate_left
  · refine ⟨-1, M, M, σ, ?_, ?_, R⟩
    · rw [fa_xT1 R.Q.lc.nt c1, Option.bind_some, if_neg fa_10, fa_xT1 R.Q.lc.nt c2, Option.bind_some, if_neg fa_10, if_neg c3, fa_xV1 R.Q.lc.nv c4, Option.bind_some, if_neg fa_10, fa_wi0 c5]; rfl
    · rw [fa_mT1 R.Q.lm.nt c1, Option.bind_some, if_neg fa_10, fa_mT1 R.Q.lm.nt c2, Option.bind_some, if_neg fa_10, if_neg c3, fa_mV1 R.Q.lm.nv c4, Option.bind_some, if_neg fa_10, fa_mi0 c5]; rfl
  obtain ⟨t, ht, rfl⟩ := fa_idx (by omega) c1
  obtain ⟨u, hu, rfl⟩ := fa_idx (by omega) c2
  obtain ⟨v, hv, rfl⟩ := fa_idx (by omega) c4
  obtain ⟨n, hn1, hn9, rfl⟩ := fa_rngI (lo := 1) (hi := 60) (by omega) c5 (by omega)
  have htu : t ≠ u := fun q => c3 (by rw [q])
  have hX : ∀ (K : Int32 → Option (Int32 × fv_M)), ((g_X_isVillage M L D (nI t)).bind fun q1 => if q1 = 0 then (some (-1 : Int32)) else ((g_X_isVillage M L D (nI u)).bind fun q2 => if q2 = 0 then (some (-1 : Int32)) else (if nI t = nI u then (some (-1 : Int32)) else ((g_X_isVerb M L D (nI v)).bind fun q3 => if q3 = 0 then (some (-1 : Int32)) else ((g_X_within M (nI n) (1 : Int32) (60 : Int32)).bind fun q4 => if q4 = 0 then (some (-1 : Int32)) else ((g_S_stockOf M 24 (nI t) (nI v)).bind fun q5 => if nI n ≤ q5 then ((g_S_stockOf M 24 (nI u) (nI v)).bind fun q6 => if (q6 + nI n) ≤ (60 : Int32) then (some (0 : Int32)) else (some (-3 : Int32))) else (some (-2 : Int32)))))))).bind K = K (if nI n ≤ σ (6 * t + v) then (if σ (6 * u + v) + nI n ≤ (60 : Int32) then 0 else -3) else -2) := by
    intro K
    rw [fa_xT1 R.Q.lc.nt c1, Option.bind_some, if_neg fa_10, fa_xT1 R.Q.lc.nt c2, Option.bind_some, if_neg fa_10, if_neg c3, fa_xV1 R.Q.lc.nv c4, Option.bind_some, if_neg fa_10, fa_wi1 c5, Option.bind_some, if_neg fa_10, fa_stock R.Q.cS (by omega) (by omega), Option.bind_some, fa_stock R.Q.cS (by omega) (by omega), Option.bind_some]
    by_cases d1 : nI n ≤ σ (6 * t + v)
    · rw [if_pos d1, if_pos d1]
      by_cases d2 : σ (6 * u + v) + nI n ≤ (60 : Int32)
      · rw [if_pos d2, if_pos d2]; rfl
      · rw [if_neg d2, if_neg d2]; rfl
    · rw [if_neg d1, if_neg d1]; rfl
  rw [hX]
  by_cases d1 : nI n ≤ σ (6 * t + v)
  rotate_left
  · refine ⟨-2, M, M, σ, by rw [if_neg d1]; rfl, ?_, R⟩
    rw [fa_mT1 R.Q.lm.nt c1, Option.bind_some, if_neg fa_10, fa_mT1 R.Q.lm.nt c2, Option.bind_some, if_neg fa_10, if_neg c3, fa_mV1 R.Q.lm.nv c4, Option.bind_some, if_neg fa_10, fa_mi1 c5, Option.bind_some, if_neg fa_10]
    simp (disch := omega) only [fa_m6, nI_add, nI_clamp, fa_ckn, R.Q.mS (6 * t + v)]
    rw [if_neg d1]
  by_cases d2 : σ (6 * u + v) + nI n ≤ (60 : Int32)
  rotate_left
  · refine ⟨-3, M, M, σ, by rw [if_pos d1, if_neg d2]; rfl, ?_, R⟩
    rw [fa_mT1 R.Q.lm.nt c1, Option.bind_some, if_neg fa_10, fa_mT1 R.Q.lm.nt c2, Option.bind_some, if_neg fa_10, if_neg c3, fa_mV1 R.Q.lm.nv c4, Option.bind_some, if_neg fa_10, fa_mi1 c5, Option.bind_some, if_neg fa_10]
    simp (disch := omega) only [fa_m6, nI_add, nI_clamp, fa_ckn, R.Q.mS (6 * t + v), R.Q.mS (6 * u + v)]
    rw [if_pos d1, if_neg d2]
  rw [if_pos d1, if_pos d2, if_pos rfl]
  obtain ⟨M1, e1, f1, K⟩ := fa_past R
  have c1' : fa_c M1 24 σ := R.Q.cS.go (fun j q1 q2 => f1 j (by omega))
  obtain ⟨M2, e2, x2, f2⟩ := fa_move (n := nI n) c1' (t := t) (u := u) (v := v) (by omega) (by omega) htu (by omega)
  have f2h : ∀ j, 76 ≤ j → M2 j = M j := fun j hj => by rw [f2 j (by omega), f1 j (by omega)]
  obtain ⟨M3, e3, g3, f3, K2⟩ := K M2 (fun j q1 q2 => f2 j (by omega)) (by rw [f2h 92 (by omega)]) (fun j hj => f2h j (by omega))
  have m2 : fa_m M2 (92 + 6) σ := fun k hk => by rw [f2h _ (by omega)]; exact R.Q.mS k hk
  have m3 : fa_m M3 (92 + 6) σ := fun k hk => by rw [f3 _ (by omega) (by omega)]; exact m2 k hk
  have m4 : fa_m (fv_set (fv_set M3 (92 + 6) (6 * t + v) (σ (6 * t + v) - nI n)) (92 + 6) (6 * u + v) (σ (6 * u + v) + nI n)) (92 + 6) (fa_mv σ t u v (nI n)) := m3.put.put
  have f4 : ∀ j, j ≠ 92 + 6 → (fv_set (fv_set M3 (92 + 6) (6 * t + v) (σ (6 * t + v) - nI n)) (92 + 6) (6 * u + v) (σ (6 * u + v) + nI n)) j = M3 j := fun j hj => by rw [fv_set_ne _ _ _ _ j hj, fv_set_ne _ _ _ _ j hj]
  refine ⟨fa_mv σ t u v (nI n) (6 * u + v), M2, fv_set (fv_set M3 (92 + 6) (6 * t + v) (σ (6 * t + v) - nI n)) (92 + 6) (6 * u + v) (σ (6 * u + v) + nI n), fa_mv σ t u v (nI n), ?_, ?_, ?_⟩
  · rw [e1, Option.bind_some, e2, Option.bind_some, fa_stock x2 (by omega) (by omega), Option.bind_some]
  · have nt2 : M2 92 4 = nI l.nt := by rw [f2h 92 (by omega)]; exact R.Q.lm.nt
    have nv2 : M2 92 0 = nI l.nv := by rw [f2h 92 (by omega)]; exact R.Q.lm.nv
    rw [fa_mT1 nt2 c1, Option.bind_some, if_neg fa_10, fa_mT1 nt2 c2, Option.bind_some, if_neg fa_10, if_neg c3, fa_mV1 nv2 c4, Option.bind_some, if_neg fa_10, fa_mi1 c5, Option.bind_some, if_neg fa_10]
    simp (disch := omega) only [fa_m6, nI_add, nI_clamp, fa_ckn, m2 (6 * t + v), m2 (6 * u + v)]
    rw [if_pos d1, if_pos d2, e3, Option.bind_some, m3 (6 * t + v) (by omega)]
    have e5 : (fv_set M3 (92 + 6) (6 * t + v) (σ (6 * t + v) - nI n)) (92 + 6) (6 * u + v) = σ (6 * u + v) := by rw [fv_set_at, fa_upd_ne _ _ (by omega), m3 _ (by omega)]
    rw [e5, m4 _ (by omega)]
  · refine R.re (fun j hj => ?_) (fun j q1 q2 => ?_) (fun f hf => ?_) (fun j q1 q2 q3 q4 => ?_) (Nat.le_refl _) (R.Q.wS.mv hl ht hu htu hv hn9 d1 d2) (x2.go (fun j q1 q2 => ?_)) m4 (K2 _ (fun j q1 q2 => ?_) ?_ ?_)
    · rw [f4 j (by omega), f3 j (by omega) (by omega), f2 j (by omega), f1 j (by omega)]
    · rw [f4 j (by omega), f3 j (by omega) (by omega), f2h j (by omega)]
    · rw [f4 92 (by omega), g3 f hf, f2h 92 (by omega)]
    · rw [f4 j q2, f3 j (by omega) q3, f2h j (by omega)]
    · rw [f4 j (by omega), f3 j (by omega) (by omega)]
    · exact f4 j (by omega)
    · rw [f4 92 (by omega)]
    · exact f4 _ (by omega)
