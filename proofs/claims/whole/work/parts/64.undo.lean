/-! sow, undo, keep, back -/
theorem fa_R.re2 {M M' : fv_M} {L D : Nat} {l : fa_L} {σ τ : Nat → Int32} {B : Nat} (R : fa_R M L D l σ B) (h24 : ∀ j, j < 24 → M' j = M j) (h88 : ∀ j, 88 ≤ j → j < 92 → M' j = M j) (hfl : ∀ f, f ≠ 11 → f ≠ 13 → M' 92 f = M 92 f) (hmd : ∀ j, 93 ≤ j → j ≠ 92 + 6 → j ≠ 92 + 8 → j ≠ 92 + 9 → M' j = M j) (hw : fa_wS l τ B) (hc : fa_c M' 24 τ) (hm : fa_m M' (92 + 6) τ) (hp : fa_rg M' 34 8 (92 + 8) 11 l B) (hk : fa_rg M' 76 2 (92 + 9) 13 l B) : fa_R M' L D l τ B := by
  have hLD := fa_LD.le R.LD
  exact ⟨⟨R.Q.wl, R.Q.lc.go (fun j q1 q2 _ => h24 j (by omega)), fun t ht => by rw [h24 (L + 5) (by omega)]; exact R.Q.ls t ht, R.Q.lm.go2 (fun f hf => hfl f (by omega) (by omega)) (fun j q1 q2 q3 => hmd j q1 (by omega) (by omega) (by omega)), hw, hc, hm⟩, R.LD, R.pv, R.pt,
    R.tx.go (by rw [h24 1 (by omega)]) (h24 2 (by omega)) (hfl 18 (by omega) (by omega)) (hmd _ (by omega) (by omega) (by omega) (by omega)), hp, hk,
    R.he.go (fun j q1 q2 => h88 j (by omega) q2) (hfl 15 (by omega) (by omega)) (hmd _ (by omega) (by omega) (by omega) (by omega))⟩
theorem fa_take0 {M : fv_M} {c N x : Nat} (hN : N = 8 ∨ N = 2) (hx : x < N) (h1 : M c 1 = nI 0) (h2 : M c 2 = nI x) : g_F_takeInto M c N 24 = some (0, M) := by
  unfold g_F_takeInto
  rw [h1, h2, if_pos (show nI 0 ≤ (0 : Int32) by decide), if_pos (show nI 0 ≤ (0 : Int32) by decide)]
  split <;> rfl
theorem fa_take {M : fv_M} {c N n x : Nat} {τ : Nat → Int32} (hN : N = 8 ∨ N = 2) (hc : 34 ≤ c) (hn0 : 0 < n) (hn : n ≤ N) (hx : x < N) (h1 : M c 1 = nI n) (h2 : M c 2 = nI x) (hP : fa_c M (c + 2 + 5 * ((x + N - 1) % N)) τ) :
    ∃ M', g_F_takeInto M c N 24 = some (1, M') ∧ fa_c M' 24 τ ∧ M' c 1 = nI (n - 1) ∧ M' c 2 = nI ((x + N - 1) % N) ∧ ∀ j, (j < 24 ∨ 29 ≤ j) → j ≠ c → M' j = M j := by
  have hm : (x + N - 1) % N < N := Nat.mod_lt _ (by omega)
  obtain ⟨M1, e1, x1, f1⟩ := fa_become (M := M) (s := 24) (o := c + 2 + 5 * ((x + N - 1) % N)) (by omega) hP
  have hcc : M1 c = M c := f1 c (by omega)
  refine ⟨fv_set (fv_set M1 c 2 (nI ((x + N - 1) % N))) c 1 (nI (n - 1)), ?_, x1.go (fun j q1 q2 => by rw [fv_set_ne _ _ _ _ j (by omega), fv_set_ne _ _ _ _ j (by omega)]), by rw [fv_set_at, fa_upd_same], by rw [fv_set_at, fa_upd_ne _ _ (by omega), fv_set_at, fa_upd_same], fun j hj hjc => by rw [fv_set_ne _ _ _ _ j hjc, fv_set_ne _ _ _ _ j hjc, f1 j hj]⟩
  have ev : ∀ y : Int32, (fv_set M1 c 2 y) c 1 - (1 : Int32) = nI (n - 1) := fun y => by
    rw [fv_set_at, fa_upd_ne _ _ (by omega), hcc, h1]
    exact fa_sub (a := n) (b := 1) (by omega)
  have en : Int32.ofNat N - (1 : Int32) = nI (N - 1) := fa_sub (a := N) (b := 1) (by omega)
  unfold g_F_takeInto
  by_cases q : x = 0
  · subst q
    have em : (0 + N - 1) % N = N - 1 := by rcases hN with rfl | rfl <;> rfl
    rw [em] at e1 ⊢
    rw [h1, h2, if_pos (show nI 0 ≤ (0 : Int32) by decide), if_neg (nI_nle hn0 (by omega)), en, if_neg (nI_pos (by omega)), if_neg (show ¬ Int32.ofNat N ≤ nI (N - 1) from nI_ge (by omega) (by omega)), fa_cki (by omega) (by omega), nI_clamp (by omega), e1, Option.bind_some, ev]
  · have em : (x + N - 1) % N = x - 1 := by rcases hN with rfl | rfl <;> omega
    have ex : nI x - (1 : Int32) = nI (x - 1) := fa_sub (a := x) (b := 1) (by omega)
    rw [em] at e1 ⊢
    rw [h1, h2, if_neg (nI_nle (by omega) (by omega)), if_neg (nI_nle hn0 (by omega)), ex, if_neg (nI_pos (by omega)), if_neg (show ¬ Int32.ofNat N ≤ nI (x - 1) from nI_ge (by omega) (by omega)), fa_cki (by omega) (by omega), nI_clamp (by omega), e1, Option.bind_some, ev]
theorem fa_undo_22 {r : Nat} (hr : r < 8) : ∀ (d k f : Nat) (M : fv_M), M 92 11 = nI r → k + d = 45 → d < f →
    ∃ M', (∀ kk, g_M_undo_22 92 f M (nI k) kk = kk M' (nI 45)) ∧ (∀ i, k ≤ i → i < 45 → M' (92 + 6) i = M (92 + 8) (45 * r + i)) ∧ (∀ i, (i < k ∨ 45 ≤ i) → M' (92 + 6) i = M (92 + 6) i) ∧ ∀ j, j ≠ 92 + 6 → M' j = M j := by
  intro d
  induction d with
  | zero =>
    intro k f M hM hk hf
    obtain ⟨f, rfl⟩ : ∃ g, f = g + 1 := ⟨f - 1, by omega⟩
    have : k = 45 := by omega
    subst this
    exact ⟨M, fun kk => by rw [g_M_undo_22, if_pos (by decide)], fun i h1 h2 => by omega, fun _ _ => rfl, fun _ _ => rfl⟩
  | succ d ih =>
    intro k f M hM hk hf
    obtain ⟨f, rfl⟩ : ∃ g, f = g + 1 := ⟨f - 1, by omega⟩
    obtain ⟨M1, e1, h1, h2, h3⟩ := ih (k + 1) f (fv_set M (92 + 6) k (M (92 + 8) (45 * r + k))) (by rw [fv_set_ne _ _ _ _ _ (by omega)]; exact hM) (by omega) (by omega)
    refine ⟨M1, fun kk => ?_, fun i q1 q2 => ?_, fun i q => ?_, fun j hj => by rw [h3 j hj, fv_set_ne _ _ _ _ j hj]⟩
    · rw [g_M_undo_22, if_neg (show ¬ (45 : Int32) ≤ nI k from nI_ge (a := k) (b := 45) (by omega) (by omega)), hM, fa_45, nI_add, fa_cki (by omega) (by omega), fa_cki (by omega) (by omega), nI_clamp (by omega), nI_clamp (by omega), nI_1, e1]
    · by_cases e : i = k
      · subst e; rw [h2 _ (Or.inl (by omega)), fv_set_at, fa_upd_same]
      · rw [h1 i (by omega) q2, fv_set_ne _ _ _ _ _ (by omega)]
    · rw [h2 i (by omega), fv_set_at, fa_upd_ne _ _ (by omega)]
theorem fa_back_22 {r : Nat} (hr : r < 2) : ∀ (d k f : Nat) (M : fv_M), M 92 13 = nI r → k + d = 45 → d < f →
    ∃ M', (∀ kk, g_M_back_22 92 f M (nI k) kk = kk M' (nI 45)) ∧ (∀ i, k ≤ i → i < 45 → M' (92 + 6) i = M (92 + 9) (45 * r + i)) ∧ (∀ i, (i < k ∨ 45 ≤ i) → M' (92 + 6) i = M (92 + 6) i) ∧ ∀ j, j ≠ 92 + 6 → M' j = M j := by
  intro d
  induction d with
  | zero =>
    intro k f M hM hk hf
    obtain ⟨f, rfl⟩ : ∃ g, f = g + 1 := ⟨f - 1, by omega⟩
    have : k = 45 := by omega
    subst this
    exact ⟨M, fun kk => by rw [g_M_back_22, if_pos (by decide)], fun i h1 h2 => by omega, fun _ _ => rfl, fun _ _ => rfl⟩
  | succ d ih =>
    intro k f M hM hk hf
    obtain ⟨f, rfl⟩ : ∃ g, f = g + 1 := ⟨f - 1, by omega⟩
    obtain ⟨M1, e1, h1, h2, h3⟩ := ih (k + 1) f (fv_set M (92 + 6) k (M (92 + 9) (45 * r + k))) (by rw [fv_set_ne _ _ _ _ _ (by omega)]; exact hM) (by omega) (by omega)
    refine ⟨M1, fun kk => ?_, fun i q1 q2 => ?_, fun i q => ?_, fun j hj => by rw [h3 j hj, fv_set_ne _ _ _ _ j hj]⟩
    · rw [g_M_back_22, if_neg (show ¬ (45 : Int32) ≤ nI k from nI_ge (a := k) (b := 45) (by omega) (by omega)), hM, fa_45, nI_add, fa_cki (by omega) (by omega), fa_cki (by omega) (by omega), nI_clamp (by omega), nI_clamp (by omega), nI_1, e1]
    · by_cases e : i = k
      · subst e; rw [h2 _ (Or.inl (by omega)), fv_set_at, fa_upd_same]
      · rw [h1 i (by omega) q2, fv_set_ne _ _ _ _ _ (by omega)]
    · rw [h2 i (by omega), fv_set_at, fa_upd_ne _ _ (by omega)]
theorem fa_p_undo {M : fv_M} {L D : Nat} {l : fa_L} {σ : Nat → Int32} {B : Nat} (R : fa_R M L D l σ B) :
    ∃ r M1 M2 τ, g_X_undo M L D = some (r, M1) ∧ g_M_undo M1 92 = some (r, M2) ∧ fa_R M2 L D l τ B := by
  unfold g_X_undo g_M_undo
  obtain ⟨n, x, P, a1, a2, a3, a4, a5, a6⟩ := R.pa
  by_cases h0 : n = 0
  · subst h0
    refine ⟨-2, M, M, σ, ?_, ?_, R⟩
    · rw [fa_take0 (Or.inl rfl) a2 a3 a4, Option.bind_some]; rfl
    · rw [a5]; rfl
  · obtain ⟨b1, b2, b3⟩ := a6 (n - 1) (by omega)
    rw [show x + 8 - n + (n - 1) = x + 8 - 1 by omega] at b2
    obtain ⟨M1, e1, x1, c1, c2, f1⟩ := fa_take (Or.inl rfl) (by omega) (by omega) a1 a2 a3 a4 b2
    have h92 : M1 92 = M 92 := f1 92 (by omega) (by omega)
    obtain ⟨M2, e2, d1, d2, d3⟩ := fa_undo_22 (r := n - 1) (by omega) 45 0 fx_FU (fv_set M1 92 11 (nI (n - 1))) (by rw [fv_set_at, fa_upd_same]) (by omega) (by unfold fx_FU; omega)
    have m2 : fa_m M2 (92 + 6) (P (n - 1)) := fun k hk => by rw [d1 k (by omega) hk, fv_set_ne _ _ _ _ _ (by omega), f1 _ (by omega) (by omega)]; exact b3 k hk
    have f2 : ∀ j, j ≠ 92 → j ≠ 92 + 6 → M2 j = M1 j := fun j q1 q2 => by rw [d3 j q2, fv_set_ne _ _ _ _ j q1]
    have hx' := Nat.mod_lt (x + 8 - 1) (show 0 < 8 by omega)
    refine ⟨nI (n - 1), M1, M2, P (n - 1), ?_, ?_, ?_⟩
    · rw [e1, Option.bind_some]
      dsimp only
      rw [if_neg fa_10, c1]
    · rw [h92, a5, if_neg (nI_ne0 (by omega) (by omega)), show nI n - (1 : Int32) = nI (n - 1) from fa_sub (a := n) (b := 1) (by omega), show (0 : Int32) = nI 0 from rfl, e2, d3 92 (by omega), fv_set_at, fa_upd_same]
    · refine R.re2 (fun j hj => ?_) (fun j q1 q2 => ?_) (fun f g1 g2 => ?_) (fun j q1 q2 q3 q4 => ?_) b1 (x1.go (fun j q1 q2 => f2 j (by omega) (by omega))) m2 ?_ (R.ke.go (by omega) (fun j q1 q2 => ?_) ?_ ?_)
      · rw [f2 j (by omega) (by omega), f1 j (by omega) (by omega)]
      · rw [f2 j (by omega) (by omega), f1 j (by omega) (by omega)]
      · rw [d3 92 (by omega), fv_set_at, fa_upd_ne _ _ g1, h92]
      · rw [f2 j (by omega) q2, f1 j (by omega) (by omega)]
      · refine ⟨n - 1, (x + 8 - 1) % 8, P, by omega, hx', by rw [f2 34 (by omega) (by omega)]; exact c1, by rw [f2 34 (by omega) (by omega)]; exact c2, by rw [d3 92 (by omega), fv_set_at, fa_upd_same], fun k hk => ?_⟩
        obtain ⟨g1, g2, g3⟩ := a6 k (by omega)
        have hm := Nat.mod_lt (x + 8 - n + k) (show 0 < 8 by omega)
        refine ⟨g1, ?_, fun j hj => by rw [f2 _ (by omega) (by omega), f1 _ (by omega) (by omega)]; exact g3 j hj⟩
        rw [show ((x + 8 - 1) % 8 + 8 - (n - 1) + k) % 8 = (x + 8 - n + k) % 8 by omega]
        exact g2.go (fun j q1 q2 => by rw [f2 j (by omega) (by omega), f1 j (by omega) (by omega)])
      · rw [f2 j (by omega) (by omega), f1 j (by omega) (by omega)]
      · rw [d3 92 (by omega), fv_set_at, fa_upd_ne _ _ (by omega), h92]
      · rw [f2 _ (by omega) (by omega), f1 _ (by omega) (by omega)]
theorem fa_p_back {M : fv_M} {L D : Nat} {l : fa_L} {σ : Nat → Int32} {B : Nat} (R : fa_R M L D l σ B) :
    ∃ r M1 M2 τ, g_X_back M L D = some (r, M1) ∧ g_M_back M1 92 = some (r, M2) ∧ fa_R M2 L D l τ B := by
  unfold g_X_back g_M_back
  obtain ⟨n, x, P, a1, a2, a3, a4, a5, a6⟩ := R.ke
  obtain ⟨pn, px, PP, p1, p2, p3, p4, p5, p6⟩ := R.pa
  by_cases h0 : n = 0
  · subst h0
    refine ⟨-2, M, M, σ, ?_, ?_, R⟩
    · rw [fa_take0 (Or.inr rfl) a2 a3 a4, Option.bind_some]; rfl
    · rw [a5]; rfl
  · obtain ⟨b1, b2, b3⟩ := a6 (n - 1) (by omega)
    rw [show x + 2 - n + (n - 1) = x + 2 - 1 by omega] at b2
    obtain ⟨M1, e1, x1, c1, c2, f1⟩ := fa_take (Or.inr rfl) (by omega) (by omega) a1 a2 a3 a4 b2
    have f1' : ∀ j, j ≠ 34 → (fv_set M1 34 1 (0 : Int32)) j = M1 j := fun j hj => fv_set_ne _ _ _ _ j hj
    have h92 : M1 92 = M 92 := f1 92 (by omega) (by omega)
    obtain ⟨M2, e2, d1, d2, d3⟩ := fa_back_22 (r := n - 1) (by omega) 45 0 fx_FU (fv_set (fv_set M1 34 1 (0 : Int32)) 92 13 (nI (n - 1))) (by rw [fv_set_at, fa_upd_same]) (by omega) (by unfold fx_FU; omega)
    have m2 : fa_m M2 (92 + 6) (P (n - 1)) := fun k hk => by rw [d1 k (by omega) hk, fv_set_ne _ _ _ _ _ (by omega), fv_set_ne _ _ _ _ _ (by omega), f1 _ (by omega) (by omega)]; exact b3 k hk
    have f2 : ∀ j, j ≠ 34 → j ≠ 92 → j ≠ 92 + 6 → (fv_set M2 92 11 (0 : Int32)) j = M1 j := fun j q0 q1 q2 => by rw [fv_set_ne _ _ _ _ j q1, d3 j q2, fv_set_ne _ _ _ _ j q1, fv_set_ne _ _ _ _ j q0]
    have hx' := Nat.mod_lt (x + 2 - 1) (show 0 < 2 by omega)
    refine ⟨nI (n - 1), fv_set M1 34 1 (0 : Int32), fv_set M2 92 11 (0 : Int32), P (n - 1), ?_, ?_, ?_⟩
    · rw [e1, Option.bind_some]
      dsimp only
      rw [if_neg fa_10, fv_set_ne _ _ _ _ 76 (by omega), c1]
    · rw [fv_set_ne _ _ _ _ 92 (by omega), h92, a5, if_neg (nI_ne0 (by omega) (by omega)), show nI n - (1 : Int32) = nI (n - 1) from fa_sub (a := n) (b := 1) (by omega), show (0 : Int32) = nI 0 from rfl]
      have e2' := e2 (fun M_1 b1_1 => some (((fv_set M_1 92 11 (nI 0)) 92 13), (fv_set M_1 92 11 (nI 0))))
      rw [show (0 : Int32) = nI 0 from rfl] at e2'
      rw [e2', fv_set_at, fa_upd_ne _ _ (by omega), d3 92 (by omega), fv_set_at, fa_upd_same]
    · have g92 : ∀ f, f ≠ 11 → f ≠ 13 → (fv_set M2 92 11 (0 : Int32)) 92 f = M 92 f := fun f g1 g2 => by rw [fv_set_at, fa_upd_ne _ _ g1, d3 92 (by omega), fv_set_at, fa_upd_ne _ _ g2, fv_set_ne _ _ _ _ 92 (by omega), h92]
      have g34 : (fv_set M2 92 11 (0 : Int32)) 34 = (fv_set M1 34 1 (0 : Int32)) 34 := by rw [fv_set_ne _ _ _ _ 34 (by omega), d3 34 (by omega), fv_set_ne _ _ _ _ 34 (by omega)]
      refine R.re2 (fun j hj => ?_) (fun j q1 q2 => ?_) g92 (fun j q1 q2 q3 q4 => ?_) b1 (x1.go (fun j q1 q2 => f2 j (by omega) (by omega) (by omega))) (fun k hk => ?_) ?_ ?_
      · rw [f2 j (by omega) (by omega) (by omega), f1 j (by omega) (by omega)]
      · rw [f2 j (by omega) (by omega) (by omega), f1 j (by omega) (by omega)]
      · rw [f2 j (by omega) (by omega) q2, f1 j (by omega) (by omega)]
      · rw [fv_set_ne _ _ _ _ _ (by omega)]; exact m2 k hk
      · refine ⟨0, px, PP, by omega, p2, by rw [g34, fv_set_at, fa_upd_same]; rfl, by rw [g34, fv_set_at, fa_upd_ne _ _ (by omega), f1 34 (by omega) (by omega)]; exact p4, by rw [fv_set_at, fa_upd_same]; rfl, fun k hk => absurd hk (by omega)⟩
      · refine ⟨n - 1, (x + 2 - 1) % 2, P, by omega, hx', by rw [f2 76 (by omega) (by omega) (by omega)]; exact c1, by rw [f2 76 (by omega) (by omega) (by omega)]; exact c2, by rw [fv_set_at, fa_upd_ne _ _ (by omega), d3 92 (by omega), fv_set_at, fa_upd_same], fun k hk => ?_⟩
        obtain ⟨g1, g2, g3⟩ := a6 k (by omega)
        have hm := Nat.mod_lt (x + 2 - n + k) (show 0 < 2 by omega)
        refine ⟨g1, ?_, fun j hj => by rw [f2 _ (by omega) (by omega) (by omega), f1 _ (by omega) (by omega)]; exact g3 j hj⟩
        rw [show ((x + 2 - 1) % 2 + 2 - (n - 1) + k) % 2 = (x + 2 - n + k) % 2 by omega]
        exact g2.go (fun j q1 q2 => by rw [f2 j (by omega) (by omega) (by omega), f1 j (by omega) (by omega)])
theorem fa_p_keep {M : fv_M} {L D : Nat} {l : fa_L} {σ : Nat → Int32} {B : Nat} (R : fa_R M L D l σ B) :
    ∃ r M1 M2, g_X_keep M L D = some (r, M1) ∧ g_M_keep M1 92 = some (r, M2) ∧ fa_R M2 L D l σ B := by
  unfold g_X_keep g_M_keep
  obtain ⟨n, x, P, a1, a2, a3, a4, a5, a6⟩ := R.ke
  by_cases h2 : n = 2
  · subst h2
    refine ⟨-3, M, M, ?_, ?_, R⟩
    · rw [a3]; rfl
    · rw [a5]; rfl
  · obtain ⟨M1, n', x', e1, b1, b2, b3, b4, b5, b6⟩ := fa_shelve (M := M) (c := 76) (N := 2) (P := P) (Or.inr rfl) (by omega) a1 a2 a3 a4 R.Q.cS (fun k hk => (a6 k hk).2.1)
    have h92 : M1 92 = M 92 := b6 92 (by omega)
    obtain ⟨M2, e2, d1, d2, d3⟩ := fa_mput (M := M1) (a := 92 + 6) (b := 92 + 9) (n := 45) (N0 := 90) (N2 := 45) (o := 45 * n) (by omega) (by omega) (by omega) (by omega) (by omega) (by omega)
    have hn' : n' = n + 1 := by omega
    refine ⟨nI (n + 1), M1, fv_set M2 92 13 (nI (n + 1)), ?_, ?_, ?_⟩
    · rw [a3, if_pos (show nI n < (2 : Int32) from nI_lt (a := n) (b := 2) (by omega) (by omega)), e1, Option.bind_some, b1, hn']
    · rw [h92, a5, if_neg (show ¬ nI n = (2 : Int32) from fun z => h2 ((nI_eq (a := n) (b := 2) (by omega) (by omega)).mp z)), fa_45, show g_M_put M1 (92 + 9) 90 (nI (45 * n)) (92 + 6) 45 (45 : Int32) = some M2 from e2, Option.bind_some, d3 92 (by omega), h92, a5, nI_1, fv_set_at, fa_upd_same]
    · have f2 : ∀ j, j ≠ 92 → j ≠ 92 + 9 → (fv_set M2 92 13 (nI (n + 1))) j = M1 j := fun j q1 q2 => by rw [fv_set_ne _ _ _ _ j q1, d3 j q2]
      refine R.re2 (fun j hj => ?_) (fun j q1 q2 => ?_) (fun f g1 g2 => ?_) (fun j q1 q2 q3 q4 => ?_) R.Q.wS (R.Q.cS.go (fun j q1 q2 => ?_)) (fun k hk => ?_) (R.pa.go (by omega) (fun j q1 q2 => ?_) ?_ ?_) ?_
      · rw [f2 j (by omega) (by omega), b6 j (by omega)]
      · rw [f2 j (by omega) (by omega), b6 j (by omega)]
      · rw [fv_set_at, fa_upd_ne _ _ g2, d3 92 (by omega), h92]
      · rw [f2 j (by omega) q4, b6 j (by omega)]
      · rw [f2 j (by omega) (by omega), b6 j (by omega)]
      · rw [f2 _ (by omega) (by omega), b6 _ (by omega)]; exact R.Q.mS k hk
      · rw [f2 j (by omega) (by omega), b6 j (by omega)]
      · rw [fv_set_at, fa_upd_ne _ _ (by omega), d3 92 (by omega), h92]
      · rw [f2 _ (by omega) (by omega), b6 _ (by omega)]
      · refine ⟨n', x', fa_psh 2 n P σ, by omega, b3, by rw [f2 76 (by omega) (by omega)]; exact b1, by rw [f2 76 (by omega) (by omega)]; exact b2, by rw [fv_set_at, fa_upd_same, hn'], fun k hk => ⟨fa_psh_wS a1 R.Q.wS (fun k hk => (a6 k hk).1) k (by omega), ?_, fun j hj => ?_⟩⟩
        · have hm := Nat.mod_lt (x' + 2 - n' + k) (show 0 < 2 by omega)
          exact (b5 k hk).go (fun j q1 q2 => f2 j (by omega) (by omega))
        · rw [fv_set_ne _ _ _ _ _ (by omega)]
          unfold fa_psh
          rw [if_pos (by omega)]
          by_cases q : k < n
          · rw [if_pos q, d2 _ (by omega), b6 _ (by omega)]
            exact (a6 k q).2.2 j hj
          · rw [if_neg q, show 45 * k + j = 45 * n + j by omega, d1 j hj, b6 _ (by omega)]
            exact R.Q.mS j hj
