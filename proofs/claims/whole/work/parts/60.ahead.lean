/-! calls that look ahead -/
theorem fa_ah {M : fv_M} {L D : Nat} {l : fa_L} {σ : Nat → Int32} {B n : Nat} (R : fa_R M L D l σ B) (hB : B + n ≤ 100000) (hn : n ≤ 900) :
    ∃ M0 M1, g_S_become M 29 24 = some M0 ∧ g_X_goAhead M0 L D 29 (nI n) = some M1 ∧ fa_c M1 29 (fa_goN l σ n) ∧ ∀ j, (j < 29 ∨ 34 ≤ j) → M1 j = M j := by
  have hLD := fa_LD.le R.LD
  obtain ⟨M0, e0, c0, f0⟩ := fa_become (M := M) (s := 29) (o := 24) (by omega) R.Q.cS
  obtain ⟨M1, e1, c1, f1⟩ := fa_goAhead (D := D) (s := 29) (by omega) R.Q.wl R.Q.wS hB hn (R.Q.lc.fr (s := 29) (by omega) f0) (R.Q.ls.fr (s := 29) (by omega) f0) c0
  exact ⟨M0, M1, e0, e1, c1, fun j hj => by rw [f1 j (by omega), f0 j (by omega)]⟩
theorem fa_mh {M : fv_M} {l : fa_L} {σ : Nat → Int32} {B n : Nat} (hl : fa_wl l) (hL : fa_lm M l) (hw : fa_wS l σ B) (hm : fa_m M (92 + 6) σ) (hB : B + n ≤ 100000) (hn : n ≤ 900) :
    ∃ M0 M1, g_M_from M 92 (92 + 6) 45 = some M0 ∧ g_M_goesOn M0 92 (nI n) = some M1 ∧ fa_m M1 (92 + 18) (fa_goN l σ n) ∧ ∀ j, j ≠ 92 + 18 → M1 j = M j := by
  obtain ⟨M0, e0, c0, f0⟩ := fa_from (M := M) (a := 92 + 6) (by omega) hm
  obtain ⟨M1, e1, c1, f1⟩ := fa_goesOn hl hw hB hn (hL.fr f0) c0
  exact ⟨M0, M1, e0, e1, c1, fun j hj => by rw [f1 j hj, f0 j hj]⟩
theorem fa_R.c29 {M M' : fv_M} {L D : Nat} {l : fa_L} {σ : Nat → Int32} {B : Nat} (h : fa_R M L D l σ B) (hf : ∀ j, (j < 29 ∨ 34 ≤ j) → M' j = M j) : fa_R M' L D l σ B := h.free (fun j hj _ => hf j hj)
theorem fa_mFR {M M1 M2 : fv_M} (h1 : ∀ j, (j < 29 ∨ 34 ≤ j) → M1 j = M j) (h2 : ∀ j, j ≠ 92 + 18 → M2 j = M1 j) : ∀ j, (j < 29 ∨ 34 ≤ j) → j ≠ 92 + 18 → M2 j = M j := fun j q1 q2 => by rw [h2 j q2, h1 j q1]
theorem fa_xV1 {M : fv_M} {L D : Nat} {l : fa_L} {a : Int32} (h : M L 0 = nI l.nv) (c : 0 ≤ a ∧ a ≤ nI l.nv - 1) : g_X_isVerb M L D a = some 1 := by rw [fa_xV, h, if_pos c]
theorem fa_xV0 {M : fv_M} {L D : Nat} {l : fa_L} {a : Int32} (h : M L 0 = nI l.nv) (c : ¬ (0 ≤ a ∧ a ≤ nI l.nv - 1)) : g_X_isVerb M L D a = some 0 := by rw [fa_xV, h, if_neg c]
theorem fa_xT1 {M : fv_M} {L D : Nat} {l : fa_L} {a : Int32} (h : M L 2 = nI l.nt) (c : 0 ≤ a ∧ a ≤ nI l.nt - 1) : g_X_isVillage M L D a = some 1 := by rw [fa_xT, h, if_pos c]
theorem fa_xT0 {M : fv_M} {L D : Nat} {l : fa_L} {a : Int32} (h : M L 2 = nI l.nt) (c : ¬ (0 ≤ a ∧ a ≤ nI l.nt - 1)) : g_X_isVillage M L D a = some 0 := by rw [fa_xT, h, if_neg c]
theorem fa_mV1 {M : fv_M} {l : fa_L} {a : Int32} (h : M 92 0 = nI l.nv) (c : 0 ≤ a ∧ a ≤ nI l.nv - 1) : g_M_isVerb M 92 a = some 1 := by rw [fa_mV, h, if_pos c]
theorem fa_mV0 {M : fv_M} {l : fa_L} {a : Int32} (h : M 92 0 = nI l.nv) (c : ¬ (0 ≤ a ∧ a ≤ nI l.nv - 1)) : g_M_isVerb M 92 a = some 0 := by rw [fa_mV, h, if_neg c]
theorem fa_mT1 {M : fv_M} {l : fa_L} {a : Int32} (h : M 92 4 = nI l.nt) (c : 0 ≤ a ∧ a ≤ nI l.nt - 1) : g_M_isVillage M 92 a = some 1 := by rw [fa_mT, h, if_pos c]
theorem fa_mT0 {M : fv_M} {l : fa_L} {a : Int32} (h : M 92 4 = nI l.nt) (c : ¬ (0 ≤ a ∧ a ≤ nI l.nt - 1)) : g_M_isVillage M 92 a = some 0 := by rw [fa_mT, h, if_neg c]
theorem fa_wi1 {M : fv_M} {a lo hi : Int32} (c : lo ≤ a ∧ a ≤ hi) : g_X_within M a lo hi = some 1 := by rw [fa_wi, if_pos c]
theorem fa_wi0 {M : fv_M} {a lo hi : Int32} (c : ¬ (lo ≤ a ∧ a ≤ hi)) : g_X_within M a lo hi = some 0 := by rw [fa_wi, if_neg c]
theorem fa_mi1 {M : fv_M} {a lo hi : Int32} (c : lo ≤ a ∧ a ≤ hi) : g_M_in M a lo hi = some 1 := by rw [fa_mi, if_pos c]
theorem fa_mi0 {M : fv_M} {a lo hi : Int32} (c : ¬ (lo ≤ a ∧ a ≤ hi)) : g_M_in M a lo hi = some 0 := by rw [fa_mi, if_neg c]
theorem fa_wi'_lt8 {l : fa_L} (hl : fa_wl l) (t : Nat) : fa_wi' l t l.nw < 256 := Nat.lt_of_lt_of_le (fa_wi'_lt l t l.nw) (show 2 ^ l.nw ≤ 2 ^ 8 from Nat.pow_le_pow_right (by omega) hl.nw)
theorem fa_p_behind {M : fv_M} {L D : Nat} {l : fa_L} {σ : Nat → Int32} {B : Nat} (R : fa_R M L D l σ B) (hB : B ≤ 90000) (a1 a2 a3 a4 : Int32) :
    ∃ r M1 M2, g_X_behind M L D a1 a2 a3 a4 = some (r, M1) ∧ g_M_behind M1 92 a1 a2 a3 a4 = some (r, M2) ∧ ∀ j, (j < 29 ∨ 34 ≤ j) → j ≠ 92 + 18 → M2 j = M j := by
  have hl := R.Q.wl
  have h1 := hl.nt
  have h2 := hl.nv
  unfold g_X_behind g_M_behind
  by_cases c1 : (0 : Int32) ≤ a1 ∧ a1 ≤ (40 : Int32)
  rotate_left
  · exact ⟨-1, M, M, by rw [fa_wi0 c1]; rfl, by rw [fa_mi0 c1]; rfl, fun _ _ _ => rfl⟩
  by_cases c2 : 0 ≤ a2 ∧ a2 ≤ nI l.nt - 1
  rotate_left
  · exact ⟨-1, M, M, by rw [fa_wi1 c1, fa_xT0 R.Q.lc.nt c2]; rfl, by rw [fa_mi1 c1, fa_mT0 R.Q.lm.nt c2]; rfl, fun _ _ _ => rfl⟩
  by_cases c3 : 0 ≤ a3 ∧ a3 ≤ nI l.nv - 1
  rotate_left
  · exact ⟨-1, M, M, by rw [fa_wi1 c1, fa_xT1 R.Q.lc.nt c2, fa_xV0 R.Q.lc.nv c3]; rfl, by rw [fa_mi1 c1, fa_mT1 R.Q.lm.nt c2, fa_mV0 R.Q.lm.nv c3]; rfl, fun _ _ _ => rfl⟩
  by_cases c4 : (0 : Int32) ≤ a4 ∧ a4 ≤ (2 : Int32)
  rotate_left
  · exact ⟨-1, M, M, by rw [fa_wi1 c1, fa_xT1 R.Q.lc.nt c2, fa_xV1 R.Q.lc.nv c3, fa_wi0 c4]; rfl, by rw [fa_mi1 c1, fa_mT1 R.Q.lm.nt c2, fa_mV1 R.Q.lm.nv c3, fa_mi0 c4]; rfl, fun _ _ _ => rfl⟩
  obtain ⟨n, -, hn, rfl⟩ := fa_rngI (lo := 0) (hi := 40) (by omega) c1 (by omega)
  obtain ⟨t, ht, rfl⟩ := fa_idx (by omega) c2
  obtain ⟨v, hv, rfl⟩ := fa_idx (by omega) c3
  obtain ⟨M0, M1, e0, e1, x1, f1⟩ := fa_ah (n := n) R (by omega) (by omega)
  have R1 := R.c29 f1
  obtain ⟨M2, M3, e2, e3, x3, f3⟩ := fa_mh (n := n) hl R1.Q.lm R.Q.wS R1.Q.mS (by omega) (by omega)
  have lm3 := R1.Q.lm.fr f3
  have m3 : fa_m M3 (92 + 6) σ := fun k hk => by rw [f3 _ (by omega)]; exact R1.Q.mS k hk
  have hok : ∀ w, w < l.nw → ((fa_wi' l t l.nw).testBit w = true ↔ decide (l.wt w = t) = true) := fun w hw => by rw [fa_wi'_bit, decide_eq_true_eq]; exact ⟨fun q => q.2, fun q => ⟨hw, q⟩⟩
  have hok2 : ∀ w, w < l.nw → (decide (l.wt w = t) = true ↔ (nI t < 0 ∨ nI (l.wt w) = nI t)) := fun w hw => by
    have := hl.wt w hw
    rw [decide_eq_true_eq, nI_eq (by omega) (by omega)]
    exact ⟨Or.inr, fun q => q.elim (fun z => absurd z (nI_pos (by omega))) id⟩
  have hnw := hl.nw
  have eW : g_X_worthAhead M1 L D (nI (fa_wi' l t l.nw)) = some (fa_WH l σ (fa_goN l σ n) (fun w => decide (l.wt w = t))) := by
    unfold g_X_worthAhead
    exact fa_whc hl R1.Q.lc R1.Q.cS x1 (fa_wi'_lt8 hl t) hok l.nw 0 fx_FU 0 (by omega) (by unfold fx_FU; omega) _
  have eF : g_X_forgottenAhead M1 L D (nI (fa_wi' l t l.nw)) = some (fa_FH l σ (fa_goN l σ n) (fun w => decide (l.wt w = t))) := by
    unfold g_X_forgottenAhead
    exact fa_fhc hl R1.Q.lc R1.Q.cS x1 (fa_wi'_lt8 hl t) hok l.nw 0 fx_FU 0 (by omega) (by unfold fx_FU; omega) _
  have eW' : g_M_worthOf M3 92 (nI t) = some (fa_WH l σ (fa_goN l σ n) (fun w => decide (l.wt w = t))) := by
    unfold g_M_worthOf
    exact fa_whm hl lm3 m3 x3 hok2 l.nw 0 fx_FU 0 (by omega) (by unfold fx_FU; omega) _
  have eF' : g_M_forgottenOf M3 92 (nI t) = some (fa_FH l σ (fa_goN l σ n) (fun w => decide (l.wt w = t))) := by
    unfold g_M_forgottenOf
    exact fa_fhm hl lm3 m3 x3 hok2 l.nw 0 fx_FU 0 (by omega) (by unfold fx_FU; omega) _
  have hFR := fa_mFR f1 f3
  obtain ⟨i, -, hi, rfl⟩ := fa_rngI (lo := 0) (hi := 2) (by omega) c4 (by omega)
  rw [fa_wi1 c1, Option.bind_some, if_neg fa_10, fa_xT1 R.Q.lc.nt c2, Option.bind_some, if_neg fa_10, fa_xV1 R.Q.lc.nv c3, Option.bind_some, if_neg fa_10, fa_wi1 c4, Option.bind_some, if_neg fa_10, e0, Option.bind_some, e1, Option.bind_some, fa_stock x1 (by omega) (by omega), fa_worksIn hl R1.Q.lc (by omega)]
  rcases (by omega : i = 0 ∨ i = 1 ∨ i = 2) with rfl | rfl | rfl
  · refine ⟨_, M1, M3, by rw [if_pos (show nI 0 = (0 : Int32) from rfl)]; rfl, ?_, hFR⟩
    rw [fa_mi1 c1, Option.bind_some, if_neg fa_10, fa_mT1 R1.Q.lm.nt c2, Option.bind_some, if_neg fa_10, fa_mV1 R1.Q.lm.nv c3, Option.bind_some, if_neg fa_10, fa_mi1 c4, Option.bind_some, if_neg fa_10, e2, Option.bind_some, e3, Option.bind_some, if_pos (show nI 0 = (0 : Int32) from rfl)]
    simp (disch := omega) only [fa_m6, nI_add, nI_clamp, fa_ckn, x3 (6 * t + v)]
  · refine ⟨_, M1, M3, by rw [if_neg (by decide), Option.bind_some, if_pos (show nI 1 = (1 : Int32) from rfl), eW]; rfl, ?_, hFR⟩
    rw [fa_mi1 c1, Option.bind_some, if_neg fa_10, fa_mT1 R1.Q.lm.nt c2, Option.bind_some, if_neg fa_10, fa_mV1 R1.Q.lm.nv c3, Option.bind_some, if_neg fa_10, fa_mi1 c4, Option.bind_some, if_neg fa_10, e2, Option.bind_some, e3, Option.bind_some, if_neg (by decide), if_pos (show nI 1 = (1 : Int32) from rfl), eW', Option.bind_some]
  · refine ⟨_, M1, M3, by rw [if_neg (by decide), Option.bind_some, if_neg (by decide), eF]; rfl, ?_, hFR⟩
    rw [fa_mi1 c1, Option.bind_some, if_neg fa_10, fa_mT1 R1.Q.lm.nt c2, Option.bind_some, if_neg fa_10, fa_mV1 R1.Q.lm.nv c3, Option.bind_some, if_neg fa_10, fa_mi1 c4, Option.bind_some, if_neg fa_10, e2, Option.bind_some, e3, Option.bind_some, if_neg (by decide), if_neg (by decide), eF', Option.bind_some]
/-! giving -/
def fa_mv (σ : Nat → Int32) (t u v : Nat) (n : Int32) : Nat → Int32 := upd (upd σ (6 * t + v) (σ (6 * t + v) - n)) (6 * u + v) (σ (6 * u + v) + n)
theorem fa_move {M : fv_M} {s t u v : Nat} {σ : Nat → Int32} {n : Int32} (hc : fa_c M s σ) (ht : t < 4) (hu : u < 4) (htu : t ≠ u) (hv : v < 6) : ∃ M', g_S_move M s (nI t) (nI u) (nI v) n = some M' ∧ fa_c M' s (fa_mv σ t u v n) ∧ ∀ j, (j < s ∨ s + 5 ≤ j) → M' j = M j := by
  have c1 := hc.stk (k := 6 * t + v) (x := σ (6 * t + v) - n) (by omega)
  refine ⟨fv_set (fv_set M (s + 1) (6 * t + v) (σ (6 * t + v) - n)) (s + 1) (6 * u + v) (σ (6 * u + v) + n), ?_, c1.stk (by omega), fun j hj => by rw [fv_set_ne _ _ _ _ j (by omega), fv_set_ne _ _ _ _ j (by omega)]⟩
  unfold g_S_move
  rw [fa_stock hc ht hv, Option.bind_some, fa_setStock ht hv, Option.bind_some, fa_stock c1 hu hv, Option.bind_some, fa_setStock hu hv, Option.bind_some, fa_upd_ne _ _ (by omega)]
theorem fa_wS.mv {l : fa_L} {σ : Nat → Int32} {B t u v n : Nat} (hl : fa_wl l) (hw : fa_wS l σ B) (ht : t < l.nt) (hu : u < l.nt) (htu : t ≠ u) (hv : v < l.nv) (hn : n ≤ 60) (h1 : nI n ≤ σ (6 * t + v)) (h2 : σ (6 * u + v) + nI n ≤ (60 : Int32)) : fa_wS l (fa_mv σ t u v (nI n)) B := by
  have g1 := hl.nt
  have g2 := hl.nv
  obtain ⟨a, ha, ea⟩ := hw.sk (6 * t + v) (by omega)
  obtain ⟨b, hb, eb⟩ := hw.sk (6 * u + v) (by omega)
  unfold fa_mv
  rw [ea] at h1
  rw [eb, nI_add] at h2
  rw [ea, eb]
  have q1 := (nI_leI (by omega) (by omega)).mp h1
  have q2 : b + n ≤ 60 := (nI_leI (a := b + n) (b := 60) (by omega) (by omega)).mp h2
  exact (hw.stk hl ht hv ⟨a - n, by omega, fa_sub q1⟩).stk hl hu hv ⟨b + n, q2, nI_add _ _⟩
theorem fa_allWorks {M : fv_M} {L : Nat} {l : fa_L} (hl : fa_wl l) (hL : fa_lc M L l) : g_L_allWorks M L = some (nI (2 ^ l.nw - 1)) := by
  have := hl.nw
  unfold g_L_allWorks
  rw [hL.nw, fa_mask (by omega)]
theorem fa_aw_lt {l : fa_L} (hl : fa_wl l) : 2 ^ l.nw - 1 < 256 := by
  have : 2 ^ l.nw ≤ 2 ^ 8 := Nat.pow_le_pow_right (by omega) hl.nw
  have := Nat.two_pow_pos l.nw
  omega
theorem fa_aw_bit (n k : Nat) : (2 ^ n - 1).testBit k = true ↔ k < n := by rw [Nat.testBit_two_pow_sub_one, decide_eq_true_eq]
theorem fa_WHallc {M : fv_M} {L D : Nat} {l : fa_L} {σ τ : Nat → Int32} (hl : fa_wl l) (hL : fa_lc M L l) (hc : fa_c M 24 σ) (hd : fa_c M 29 τ) : g_X_worthAhead M L D (nI (2 ^ l.nw - 1)) = some (fa_WH l σ τ (fun _ => true)) := by
  have hnw := hl.nw
  unfold g_X_worthAhead
  exact fa_whc hl hL hc hd (fa_aw_lt hl) (fun w hw => by rw [fa_aw_bit]; exact ⟨fun _ => rfl, fun _ => hw⟩) l.nw 0 fx_FU 0 (by omega) (by unfold fx_FU; omega) _
theorem fa_FHallc {M : fv_M} {L D : Nat} {l : fa_L} {σ τ : Nat → Int32} (hl : fa_wl l) (hL : fa_lc M L l) (hc : fa_c M 24 σ) (hd : fa_c M 29 τ) : g_X_forgottenAhead M L D (nI (2 ^ l.nw - 1)) = some (fa_FH l σ τ (fun _ => true)) := by
  have hnw := hl.nw
  unfold g_X_forgottenAhead
  exact fa_fhc hl hL hc hd (fa_aw_lt hl) (fun w hw => by rw [fa_aw_bit]; exact ⟨fun _ => rfl, fun _ => hw⟩) l.nw 0 fx_FU 0 (by omega) (by unfold fx_FU; omega) _
theorem fa_WHallm {M : fv_M} {l : fa_L} {σ τ : Nat → Int32} (hl : fa_wl l) (hL : fa_lm M l) (hc : fa_m M (92 + 6) σ) (hd : fa_m M (92 + 18) τ) : g_M_worthOf M 92 (-1 : Int32) = some (fa_WH l σ τ (fun _ => true)) := by
  have hnw := hl.nw
  unfold g_M_worthOf
  exact fa_whm hl hL hc hd (fun w hw => ⟨fun _ => Or.inl fa_m1, fun _ => rfl⟩) l.nw 0 fx_FU 0 (by omega) (by unfold fx_FU; omega) _
theorem fa_FHallm {M : fv_M} {l : fa_L} {σ τ : Nat → Int32} (hl : fa_wl l) (hL : fa_lm M l) (hc : fa_m M (92 + 6) σ) (hd : fa_m M (92 + 18) τ) : g_M_forgottenOf M 92 (-1 : Int32) = some (fa_FH l σ τ (fun _ => true)) := by
  have hnw := hl.nw
  unfold g_M_forgottenOf
  exact fa_fhm hl hL hc hd (fun w hw => ⟨fun _ => Or.inl fa_m1, fun _ => rfl⟩) l.nw 0 fx_FU 0 (by omega) (by unfold fx_FU; omega) _
theorem fa_1000 (x y : Int32) : x - y + (1000 : Int32) = (1000 : Int32) + x - y := by rw [Int32.sub_eq_add_neg, Int32.sub_eq_add_neg, Int32.add_comm _ (1000 : Int32), ← Int32.add_assoc]
theorem fa_p_caravan {M : fv_M} {L D : Nat} {l : fa_L} {σ : Nat → Int32} {B : Nat} (R : fa_R M L D l σ B) (hB : B ≤ 90000) (a1 a2 a3 a4 : Int32) :
    ∃ r M1 M2, g_X_caravan M L D a1 a2 a3 a4 = some (r, M1) ∧ g_M_caravan M1 92 a1 a2 a3 a4 = some (r, M2) ∧ ∀ j, (j < 29 ∨ 34 ≤ j) → j ≠ 92 + 18 → M2 j = M j := by
  have hl := R.Q.wl
  have h1 := hl.nt
  have h2 := hl.nv
  have hLD := fa_LD.le R.LD
  unfold g_X_caravan g_M_caravan g_X_refusalOfGift
  by_cases c1 : 0 ≤ a1 ∧ a1 ≤ nI l.nt - 1
  rotate_left
  · exact ⟨-1, M, M, by rw [fa_xT0 R.Q.lc.nt c1]; rfl, by rw [fa_mT0 R.Q.lm.nt c1]; rfl, fun _ _ _ => rfl⟩
  by_cases c2 : 0 ≤ a2 ∧ a2 ≤ nI l.nt - 1
  rotate_left
  · exact ⟨-1, M, M, by rw [fa_xT1 R.Q.lc.nt c1, fa_xT0 R.Q.lc.nt c2]; rfl, by rw [fa_mT1 R.Q.lm.nt c1, fa_mT0 R.Q.lm.nt c2]; rfl, fun _ _ _ => rfl⟩
  by_cases c3 : a1 = a2
  · refine ⟨-1, M, M, ?_, ?_, fun _ _ _ => rfl⟩
    · rw [fa_xT1 R.Q.lc.nt c1, Option.bind_some, if_neg fa_10, fa_xT1 R.Q.lc.nt c2, Option.bind_some, if_neg fa_10, if_pos c3]; rfl
    · rw [fa_mT1 R.Q.lm.nt c1, Option.bind_some, if_neg fa_10, fa_mT1 R.Q.lm.nt c2, Option.bind_some, if_neg fa_10, if_pos c3]
  by_cases c4 : 0 ≤ a3 ∧ a3 ≤ nI l.nv - 1
  rotate_left
  · refine ⟨-1, M, M, ?_, ?_, fun _ _ _ => rfl⟩
    · rw [fa_xT1 R.Q.lc.nt c1, Option.bind_some, if_neg fa_10, fa_xT1 R.Q.lc.nt c2, Option.bind_some, if_neg fa_10, if_neg c3, fa_xV0 R.Q.lc.nv c4]; rfl
    · rw [fa_mT1 R.Q.lm.nt c1, Option.bind_some, if_neg fa_10, fa_mT1 R.Q.lm.nt c2, Option.bind_some, if_neg fa_10, if_neg c3, fa_mV0 R.Q.lm.nv c4]; rfl
  by_cases c5 : (1 : Int32) ≤ a4 ∧ a4 ≤ (9 : Int32)
  rotate_left
  · refine ⟨-1, M, M, ?_, ?_, fun _ _ _ => rfl⟩
    · rw [fa_xT1 R.Q.lc.nt c1, Option.bind_some, if_neg fa_10, fa_xT1 R.Q.lc.nt c2, Option.bind_some, if_neg fa_10, if_neg c3, fa_xV1 R.Q.lc.nv c4, Option.bind_some, if_neg fa_10, fa_wi0 c5]; rfl
    · rw [fa_mT1 R.Q.lm.nt c1, Option.bind_some, if_neg fa_10, fa_mT1 R.Q.lm.nt c2, Option.bind_some, if_neg fa_10, if_neg c3, fa_mV1 R.Q.lm.nv c4, Option.bind_some, if_neg fa_10, fa_mi0 c5]; rfl
  have X : ∀ {α : Type} (K : α) , True := fun _ => trivial
  obtain ⟨t, ht, rfl⟩ := fa_idx (by omega) c1
  obtain ⟨u, hu, rfl⟩ := fa_idx (by omega) c2
  obtain ⟨v, hv, rfl⟩ := fa_idx (by omega) c4
  obtain ⟨n, hn1, hn9, rfl⟩ := fa_rngI (lo := 1) (hi := 9) (by omega) c5 (by omega)
  have htu : t ≠ u := fun q => c3 (by rw [q])
  have hX : ∀ (K : Int32 → Option (Int32 × fv_M)), ((g_X_isVillage M L D (nI t)).bind fun q1 => if q1 = 0 then (some (-1 : Int32)) else ((g_X_isVillage M L D (nI u)).bind fun q2 => if q2 = 0 then (some (-1 : Int32)) else (if nI t = nI u then (some (-1 : Int32)) else ((g_X_isVerb M L D (nI v)).bind fun q3 => if q3 = 0 then (some (-1 : Int32)) else ((g_X_within M (nI n) (1 : Int32) (9 : Int32)).bind fun q4 => if q4 = 0 then (some (-1 : Int32)) else ((g_S_stockOf M 24 (nI t) (nI v)).bind fun q5 => if nI n ≤ q5 then ((g_S_stockOf M 24 (nI u) (nI v)).bind fun q6 => if (q6 + nI n) ≤ (60 : Int32) then (some (0 : Int32)) else (some (-3 : Int32))) else (some (-2 : Int32)))))))).bind K = K (if nI n ≤ σ (6 * t + v) then (if σ (6 * u + v) + nI n ≤ (60 : Int32) then 0 else -3) else -2) := by
    intro K
    rw [fa_xT1 R.Q.lc.nt c1, Option.bind_some, if_neg fa_10, fa_xT1 R.Q.lc.nt c2, Option.bind_some, if_neg fa_10, if_neg c3, fa_xV1 R.Q.lc.nv c4, Option.bind_some, if_neg fa_10, fa_wi1 c5, Option.bind_some, if_neg fa_10, fa_stock R.Q.cS (by omega) (by omega), Option.bind_some, fa_stock R.Q.cS (by omega) (by omega), Option.bind_some]
    by_cases d1 : nI n ≤ σ (6 * t + v)
    · rw [if_pos d1, if_pos d1]
      by_cases d2 : σ (6 * u + v) + nI n ≤ (60 : Int32)
      · rw [if_pos d2, if_pos d2]; rfl
      · rw [if_neg d2, if_neg d2]; rfl
    · rw [if_neg d1, if_neg d1]; rfl
  rw [hX]
  by_cases d1 : nI n ≤ σ (6 * t + v)
  rotate_left
  · refine ⟨-2, M, M, by rw [if_neg d1]; rfl, ?_, fun _ _ _ => rfl⟩
    rw [fa_mT1 R.Q.lm.nt c1, Option.bind_some, if_neg fa_10, fa_mT1 R.Q.lm.nt c2, Option.bind_some, if_neg fa_10, if_neg c3, fa_mV1 R.Q.lm.nv c4, Option.bind_some, if_neg fa_10, fa_mi1 c5, Option.bind_some, if_neg fa_10]
    simp (disch := omega) only [fa_m6, nI_add, nI_clamp, fa_ckn, R.Q.mS (6 * t + v)]
    rw [if_neg d1]
  by_cases d2 : σ (6 * u + v) + nI n ≤ (60 : Int32)
  rotate_left
  · refine ⟨-3, M, M, by rw [if_pos d1, if_neg d2]; rfl, ?_, fun _ _ _ => rfl⟩
    rw [fa_mT1 R.Q.lm.nt c1, Option.bind_some, if_neg fa_10, fa_mT1 R.Q.lm.nt c2, Option.bind_some, if_neg fa_10, if_neg c3, fa_mV1 R.Q.lm.nv c4, Option.bind_some, if_neg fa_10, fa_mi1 c5, Option.bind_some, if_neg fa_10]
    simp (disch := omega) only [fa_m6, nI_add, nI_clamp, fa_ckn, R.Q.mS (6 * t + v), R.Q.mS (6 * u + v)]
    rw [if_pos d1, if_neg d2]
  rw [if_pos d1, if_pos d2, if_pos rfl]
  obtain ⟨M0, M1, e0, e1, x1, f1⟩ := fa_ah (n := 8) R (by omega) (by omega)
  have R1 := R.c29 f1
  obtain ⟨M2, e2, x2, f2⟩ := fa_become (M := M1) (s := 29) (o := 24) (by omega) R1.Q.cS
  obtain ⟨M3, e3, x3, f3⟩ := fa_move (n := nI n) x2 (t := t) (u := u) (v := v) (by omega) (by omega) htu (by omega)
  have f23 : ∀ j, (j < 29 ∨ 34 ≤ j) → M3 j = M1 j := fun j hj => by rw [f3 j (by omega), f2 j (by omega)]
  have R3 := R1.c29 f23
  have wm := R.Q.wS.mv hl ht hu htu hv (by omega) d1 d2
  obtain ⟨M4, e4, x4, f4⟩ := fa_goAhead (D := D) (s := 29) (N := 8) (by omega) hl wm (by omega) (by omega) R3.Q.lc R3.Q.ls x3
  have R4 := R3.c29 (fun j hj => f4 j (by omega))
  have f14 : ∀ j, (j < 29 ∨ 34 ≤ j) → M4 j = M j := fun j hj => by rw [f4 j (by omega), f23 j hj, f1 j hj]
  obtain ⟨N0, N1, g0, g1, y1, k1⟩ := fa_mh (n := 8) hl R4.Q.lm R.Q.wS R4.Q.mS (by omega) (by omega)
  have lm1 := R4.Q.lm.fr k1
  have m1 : fa_m N1 (92 + 6) σ := fun k hk => by rw [k1 _ (by omega)]; exact R4.Q.mS k hk
  obtain ⟨N2, g2, y2, k2⟩ := fa_from (M := N1) (a := 92 + 6) (by omega) m1
  have lm2 := lm1.fr k2
  have m2 : fa_m N2 (92 + 6) σ := fun k hk => by rw [k2 _ (by omega)]; exact m1 k hk
  have y3 : fa_m (fv_set (fv_set N2 (92 + 18) (6 * t + v) (σ (6 * t + v) - nI n)) (92 + 18) (6 * u + v) (σ (6 * u + v) + nI n)) (92 + 18) (fa_mv σ t u v (nI n)) := y2.put.put
  have k3 : ∀ j, j ≠ 92 + 18 → (fv_set (fv_set N2 (92 + 18) (6 * t + v) (σ (6 * t + v) - nI n)) (92 + 18) (6 * u + v) (σ (6 * u + v) + nI n)) j = N2 j := fun j hj => by rw [fv_set_ne _ _ _ _ j hj, fv_set_ne _ _ _ _ j hj]
  obtain ⟨N4, g4, y4, k4⟩ := fa_goesOn (N := 8) hl wm (by omega) (by omega) (lm2.fr k3) y3
  have lm4 := (lm2.fr k3).fr k4
  have m4 : fa_m N4 (92 + 6) σ := fun k hk => by rw [k4 _ (by omega), k3 _ (by omega)]; exact m2 k hk
  refine ⟨fa_WH l σ (fa_goN l (fa_mv σ t u v (nI n)) 8) (fun _ => true) - fa_WH l σ (fa_goN l σ 8) (fun _ => true) + (1000 : Int32), M4, N4, ?_, ?_, fun j q1 q2 => by rw [k4 j q2, k3 j q2, k2 j q2, k1 j q2, f14 j q1]⟩
  · rw [e0, Option.bind_some, show g_X_goAhead M0 L D 29 (8 : Int32) = some M1 from e1, Option.bind_some, fa_allWorks hl R1.Q.lc, Option.bind_some, fa_WHallc hl R1.Q.lc R1.Q.cS x1, Option.bind_some, e2, Option.bind_some, e3, Option.bind_some, show g_X_goAhead M3 L D 29 (8 : Int32) = some M4 from e4, Option.bind_some, fa_allWorks hl R4.Q.lc, Option.bind_some, fa_WHallc hl R4.Q.lc R4.Q.cS x4, Option.bind_some]
  · rw [fa_mT1 R4.Q.lm.nt c1, Option.bind_some, if_neg fa_10, fa_mT1 R4.Q.lm.nt c2, Option.bind_some, if_neg fa_10, if_neg c3, fa_mV1 R4.Q.lm.nv c4, Option.bind_some, if_neg fa_10, fa_mi1 c5, Option.bind_some, if_neg fa_10]
    simp (disch := omega) only [fa_m6, nI_add, nI_clamp, fa_ckn, R4.Q.mS (6 * t + v), R4.Q.mS (6 * u + v)]
    rw [if_pos d1, if_pos d2, g0, Option.bind_some, show g_M_goesOn N0 92 (8 : Int32) = some N1 from g1, Option.bind_some, fa_WHallm hl lm1 m1 y1, Option.bind_some, g2, Option.bind_some, y2 (6 * t + v) (by omega), fv_set_at, fa_upd_ne _ _ (show 6 * u + v ≠ 6 * t + v by omega), y2 (6 * u + v) (by omega), show g_M_goesOn (fv_set (fv_set N2 (92 + 18) (6 * t + v) (σ (6 * t + v) - nI n)) (92 + 18) (6 * u + v) (σ (6 * u + v) + nI n)) 92 (8 : Int32) = some N4 from g4, Option.bind_some, fa_WHallm hl lm4 m4 y4, Option.bind_some]
    exact congrArg (fun z => some (z, N4)) (fa_1000 _ _).symm
