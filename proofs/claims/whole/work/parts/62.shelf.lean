/-! what is remembered -/
def fa_psh (N n : Nat) (P : Nat → Nat → Int32) (σ : Nat → Int32) (k : Nat) : Nat → Int32 := if n < N then (if k < n then P k else σ) else (if k + 1 < N then P (k + 1) else σ)
theorem fa_shelve {M : fv_M} {c N n x : Nat} {P : Nat → Nat → Int32} {σ : Nat → Int32} (hN : N = 8 ∨ N = 2) (hc : 34 ≤ c) (hn : n ≤ N) (hx : x < N) (h1 : M c 1 = nI n) (h2 : M c 2 = nI x) (hS : fa_c M 24 σ) (hP : ∀ k, k < n → fa_c M (c + 2 + 5 * ((x + N - n + k) % N)) (P k)) :
    ∃ M' n' x', g_F_shelve M c N 24 = some M' ∧ M' c 1 = nI n' ∧ M' c 2 = nI x' ∧ x' < N ∧ n' = min (n + 1) N ∧ (∀ k, k < n' → fa_c M' (c + 2 + 5 * ((x' + N - n' + k) % N)) (fa_psh N n P σ k)) ∧ ∀ j, (j < c ∨ c + 2 + 5 * N ≤ j) → M' j = M j := by
  obtain ⟨M1, e1, x1, f1⟩ := fa_become (M := M) (s := c + 2 + 5 * x) (o := 24) (by omega) hS
  have hc1 : M1 c = M c := f1 c (by omega)
  refine ⟨fv_set (fv_set M1 c 2 (nI (if N ≤ x + 1 then 0 else x + 1))) c 1 (nI (min (n + 1) N)), min (n + 1) N, if N ≤ x + 1 then 0 else x + 1, ?_, ?_, ?_, ?_, rfl, fun k hk => ?_, fun j hj => ?_⟩
  · unfold g_F_shelve
    have hin : ¬ (nI x < 0 ∨ N ≤ (nI x).toNatClampNeg) := nI_in hx (by omega)
    rw [h2, if_neg (nI_pos (by omega)), if_neg (show ¬ Int32.ofNat N ≤ nI x from nI_ge hx (by omega)), fa_ck hin, nI_clamp (by omega), e1, Option.bind_some, hc1, h2, nI_1]
    have em : ∀ y : Int32, (if Int32.ofNat N < (fv_set M1 c 2 y) c 1 + 1 then Int32.ofNat N else (fv_set M1 c 2 y) c 1 + 1) = nI (min (n + 1) N) := by
      intro y
      rw [fv_set_at, fa_upd_ne _ _ (by omega), hc1, h1, nI_1]
      by_cases q : N < n + 1
      · rw [if_pos (show Int32.ofNat N < nI (n + 1) from nI_lt q (by omega)), Nat.min_eq_right (by omega)]; rfl
      · rw [if_neg (show ¬ Int32.ofNat N < nI (n + 1) from nI_nlt (by omega) (by omega)), Nat.min_eq_left (by omega)]
    by_cases q : N ≤ x + 1
    · rw [if_pos (show Int32.ofNat N ≤ nI (x + 1) from nI_le q (by omega)), if_pos q, em]; rfl
    · rw [if_neg (show ¬ Int32.ofNat N ≤ nI (x + 1) from nI_ge (by omega) (by omega)), if_neg q, em]
  · rw [fv_set_at, fa_upd_same]
  · rw [fv_set_at, fa_upd_ne _ _ (by omega), fv_set_at, fa_upd_same]
  · split <;> omega
  · have hgo : ∀ (y : Nat) (τ : Nat → Int32), c + 2 ≤ y → fa_c M1 y τ → fa_c (fv_set (fv_set M1 c 2 (nI (if N ≤ x + 1 then 0 else x + 1))) c 1 (nI (min (n + 1) N))) y τ := fun y τ hy h => h.go (fun j q1 q2 => by rw [fv_set_ne _ _ _ _ j (by omega), fv_set_ne _ _ _ _ j (by omega)])
    have hold : ∀ (y : Nat), y < N → y ≠ x → ∀ τ, fa_c M (c + 2 + 5 * y) τ → fa_c M1 (c + 2 + 5 * y) τ := fun y hy hyx τ h => h.go (fun j q1 q2 => f1 j (by omega))
    refine hgo _ _ (by omega) ?_
    unfold fa_psh
    rcases hN with rfl | rfl
    · by_cases q : n < 8
      · rw [if_pos q]
        by_cases q2 : k < n
        · rw [if_pos q2]
          have e : ((if 8 ≤ x + 1 then 0 else x + 1) + 8 - min (n + 1) 8 + k) % 8 = (x + 8 - n + k) % 8 := by split <;> omega
          rw [e]
          exact hold _ (by omega) (by omega) _ (hP k q2)
        · rw [if_neg q2]
          have e : ((if 8 ≤ x + 1 then 0 else x + 1) + 8 - min (n + 1) 8 + k) % 8 = x := by split <;> omega
          rw [e]
          exact x1
      · rw [if_neg q]
        by_cases q2 : k + 1 < 8
        · rw [if_pos q2]
          have e : ((if 8 ≤ x + 1 then 0 else x + 1) + 8 - min (n + 1) 8 + k) % 8 = (x + 8 - n + (k + 1)) % 8 := by split <;> omega
          rw [e]
          exact hold _ (by omega) (by omega) _ (hP (k + 1) (by omega))
        · rw [if_neg q2]
          have e : ((if 8 ≤ x + 1 then 0 else x + 1) + 8 - min (n + 1) 8 + k) % 8 = x := by split <;> omega
          rw [e]
          exact x1
    · by_cases q : n < 2
      · rw [if_pos q]
        by_cases q2 : k < n
        · rw [if_pos q2]
          have e : ((if 2 ≤ x + 1 then 0 else x + 1) + 2 - min (n + 1) 2 + k) % 2 = (x + 2 - n + k) % 2 := by split <;> omega
          rw [e]
          exact hold _ (by omega) (by omega) _ (hP k q2)
        · rw [if_neg q2]
          have e : ((if 2 ≤ x + 1 then 0 else x + 1) + 2 - min (n + 1) 2 + k) % 2 = x := by split <;> omega
          rw [e]
          exact x1
      · rw [if_neg q]
        by_cases q2 : k + 1 < 2
        · rw [if_pos q2]
          have e : ((if 2 ≤ x + 1 then 0 else x + 1) + 2 - min (n + 1) 2 + k) % 2 = (x + 2 - n + (k + 1)) % 2 := by split <;> omega
          rw [e]
          exact hold _ (by omega) (by omega) _ (hP (k + 1) (by omega))
        · rw [if_neg q2]
          have e : ((if 2 ≤ x + 1 then 0 else x + 1) + 2 - min (n + 1) 2 + k) % 2 = x := by split <;> omega
          rw [e]
          exact x1
  · rw [fv_set_ne _ _ _ _ j (by omega), fv_set_ne _ _ _ _ j (by omega), f1 j (by omega)]
theorem fa_rem_11 : ∀ (d k f : Nat) (M : fv_M), k + d = 315 → d < f →
    ∃ M', (∀ kk, g_M_remembers_11 92 f M (nI k) kk = kk M' (nI 315)) ∧ (∀ i, k ≤ i → i < 315 → M' (92 + 8) i = M (92 + 8) (i + 45)) ∧ (∀ i, (i < k ∨ 315 ≤ i) → M' (92 + 8) i = M (92 + 8) i) ∧ ∀ j, j ≠ 92 + 8 → M' j = M j := by
  intro d
  induction d with
  | zero =>
    intro k f M hk hf
    obtain ⟨f, rfl⟩ : ∃ g, f = g + 1 := ⟨f - 1, by omega⟩
    have : k = 315 := by omega
    subst this
    exact ⟨M, fun kk => by rw [g_M_remembers_11, if_pos (by decide)], fun i h1 h2 => by omega, fun _ _ => rfl, fun _ _ => rfl⟩
  | succ d ih =>
    intro k f M hk hf
    obtain ⟨f, rfl⟩ : ∃ g, f = g + 1 := ⟨f - 1, by omega⟩
    obtain ⟨M1, e1, h1, h2, h3⟩ := ih (k + 1) f (fv_set M (92 + 8) k (M (92 + 8) (k + 45))) (by omega) (by omega)
    refine ⟨M1, fun kk => ?_, fun i q1 q2 => ?_, fun i q => ?_, fun j hj => by rw [h3 j hj, fv_set_ne _ _ _ _ j hj]⟩
    · rw [g_M_remembers_11, if_neg (show ¬ (315 : Int32) ≤ nI k from nI_ge (a := k) (b := 315) (by omega) (by omega)), show (45 : Int32) = nI 45 from rfl, nI_add, fa_cki (by omega) (by omega), fa_cki (by omega) (by omega), nI_clamp (by omega), nI_clamp (by omega), nI_1, e1]
    · by_cases e : i = k
      · subst e; rw [h2 _ (Or.inl (by omega)), fv_set_at, fa_upd_same]
      · rw [h1 i (by omega) q2, fv_set_at, fa_upd_ne _ _ (by omega)]
    · rw [h2 i (by omega), fv_set_at, fa_upd_ne _ _ (by omega)]
theorem fa_45 (a : Nat) : (45 : Int32) * nI a = nI (45 * a) := fa_mul 45 a
theorem fa_rem {M : fv_M} {n : Nat} {P : Nat → Nat → Int32} {σ : Nat → Int32} (hn : n ≤ 8) (h1 : M 92 11 = nI n) (hm : fa_m M (92 + 6) σ) (hP : ∀ k, k < n → ∀ j, j < 45 → M (92 + 8) (45 * k + j) = P k j) :
    ∃ M', g_M_remembers M 92 = some M' ∧ M' 92 11 = nI (min (n + 1) 8) ∧ (∀ f, f ≠ 11 → M' 92 f = M 92 f) ∧ (∀ k, k < min (n + 1) 8 → ∀ j, j < 45 → M' (92 + 8) (45 * k + j) = fa_psh 8 n P σ k j) ∧ ∀ j, j ≠ 92 → j ≠ 92 + 8 → M' j = M j := by
  unfold g_M_remembers
  by_cases q : n = 8
  · subst q
    rw [h1, if_pos (show nI 8 = (8 : Int32) from rfl)]
    obtain ⟨M1, e1, a1, a2, a3⟩ := fa_rem_11 315 0 fx_FU M (by omega) (by unfold fx_FU; omega)
    have h92 : M1 92 11 = nI 8 := by rw [a3 92 (by omega), h1]
    obtain ⟨M2, e2, b1, b2, b3⟩ := fa_mput (M := fv_set M1 92 11 (nI 7)) (a := 92 + 6) (b := 92 + 8) (n := 45) (N0 := 360) (N2 := 45) (o := 315) (by omega) (by omega) (by omega) (by omega) (by omega) (by omega)
    have c7 : M2 92 11 = nI 7 := by rw [b3 92 (by omega), fv_set_at, fa_upd_same]
    refine ⟨fv_set M2 92 11 (nI 8), ?_, ?_, fun f hf => ?_, fun k hk j hj => ?_, fun j j1 j2 => ?_⟩
    · rw [show (0 : Int32) = nI 0 from rfl, e1, h92, show nI 8 - (1 : Int32) = nI 7 from rfl, fv_set_at, fa_upd_same, fa_45]
      rw [show g_M_put (fv_set M1 92 11 (nI 7)) (92 + 8) 360 (nI (45 * 7)) (92 + 6) 45 (45 : Int32) = some M2 from e2, Option.bind_some, c7, nI_1]
    · rw [fv_set_at, fa_upd_same]; rfl
    · rw [fv_set_at, fa_upd_ne _ _ hf, b3 92 (by omega), fv_set_at, fa_upd_ne _ _ hf, a3 92 (by omega)]
    · rw [fv_set_ne _ _ _ _ _ (by omega)]
      unfold fa_psh
      rw [if_neg (by omega)]
      by_cases q2 : k + 1 < 8
      · rw [if_pos q2, b2 _ (by omega), fv_set_ne _ _ _ _ _ (by omega), a1 _ (by omega) (by omega), ← hP (k + 1) q2 j hj, show 45 * k + j + 45 = 45 * (k + 1) + j by omega]
      · rw [if_neg q2]
        have := b1 j hj
        rw [fv_set_ne _ _ _ _ _ (by omega), a3 _ (by omega)] at this
        rw [show 45 * k + j = 315 + j by omega, this, hm j hj]
    · rw [fv_set_ne _ _ _ _ j j1, b3 j j2, fv_set_ne _ _ _ _ j j1, a3 j j2]
  · rw [h1, if_neg (show ¬ nI n = (8 : Int32) from fun z => q ((nI_eq (a := n) (b := 8) (by omega) (by omega)).mp z)), fa_45]
    obtain ⟨M2, e2, b1, b2, b3⟩ := fa_mput (M := M) (a := 92 + 6) (b := 92 + 8) (n := 45) (N0 := 360) (N2 := 45) (o := 45 * n) (by omega) (by omega) (by omega) (by omega) (by omega) (by omega)
    refine ⟨fv_set M2 92 11 (nI (n + 1)), ?_, ?_, fun f hf => ?_, fun k hk j hj => ?_, fun j j1 j2 => ?_⟩
    · rw [show g_M_put M (92 + 8) 360 (nI (45 * n)) (92 + 6) 45 (45 : Int32) = some M2 from e2, Option.bind_some, b3 92 (by omega), h1, nI_1]
    · rw [fv_set_at, fa_upd_same, Nat.min_eq_left (by omega)]
    · rw [fv_set_at, fa_upd_ne _ _ hf, b3 92 (by omega)]
    · rw [fv_set_ne _ _ _ _ _ (by omega)]
      unfold fa_psh
      rw [if_pos (by omega)]
      by_cases q2 : k < n
      · rw [if_pos q2, b2 _ (by omega), hP k q2 j hj]
      · rw [if_neg q2, show 45 * k + j = 45 * n + j by omega, b1 j hj, hm j hj]
    · rw [fv_set_ne _ _ _ _ j j1, b3 j j2]
theorem fa_psh_wS {l : fa_L} {B N n : Nat} {P : Nat → Nat → Int32} {σ : Nat → Int32} (hn : n ≤ N) (hσ : fa_wS l σ B) (hP : ∀ k, k < n → fa_wS l (P k) B) : ∀ k, k < min (n + 1) N → fa_wS l (fa_psh N n P σ k) B := by
  intro k hk
  unfold fa_psh
  split
  · split
    · exact hP k (by assumption)
    · exact hσ
  · split
    · exact hP (k + 1) (by omega)
    · exact hσ
/-- the class's past and the reference's are gone on with alike: first the one, then the other -/
theorem fa_past {M : fv_M} {L D : Nat} {l : fa_L} {σ : Nat → Int32} {B : Nat} (R : fa_R M L D l σ B) : ∃ M1, g_F_shelve M 34 8 24 = some M1 ∧ (∀ j, (j < 34 ∨ 76 ≤ j) → M1 j = M j) ∧
    ∀ M2 : fv_M, (∀ j, 34 ≤ j → j < 76 → M2 j = M1 j) → (M2 92 11 = M 92 11) → (∀ j, j = 92 + 6 ∨ j = 92 + 8 → M2 j = M j) → ∃ M3, g_M_remembers M2 92 = some M3 ∧ (∀ f, f ≠ 11 → M3 92 f = M2 92 f) ∧ (∀ j, j ≠ 92 → j ≠ 92 + 8 → M3 j = M2 j) ∧
      ∀ M4 : fv_M, (∀ j, 34 ≤ j → j < 76 → M4 j = M3 j) → M4 92 11 = M3 92 11 → M4 (92 + 8) = M3 (92 + 8) → fa_rg M4 34 8 (92 + 8) 11 l B := by
  obtain ⟨n, x, P, a1, a2, a3, a4, a5, a6⟩ := R.pa
  obtain ⟨M1, n', x', e1, b1, b2, b3, b4, b5, b6⟩ := fa_shelve (M := M) (c := 34) (N := 8) (P := P) (Or.inl rfl) (by omega) a1 a2 a3 a4 R.Q.cS (fun k hk => (a6 k hk).2.1)
  refine ⟨M1, e1, fun j hj => b6 j (by omega), fun M2 g1 g2 g3 => ?_⟩
  obtain ⟨M3, e3, c1, c2, c3, c4⟩ := fa_rem (M := M2) (n := n) (P := P) (σ := σ) a1 (by rw [g2, a5]) (fun k hk => by rw [g3 _ (Or.inl rfl)]; exact R.Q.mS k hk) (fun k hk j hj => by rw [g3 _ (Or.inr rfl)]; exact (a6 k hk).2.2 j hj)
  refine ⟨M3, e3, c2, c4, fun M4 k1 k2 k3 => ?_⟩
  have hM : ∀ j, 34 ≤ j → j < 76 → M4 j = M1 j := fun j q1 q2 => by rw [k1 j q1 q2, c4 j (by omega) (by omega), g1 j q1 q2]
  refine ⟨n', x', fa_psh 8 n P σ, by omega, b3, by rw [hM 34 (by omega) (by omega)]; exact b1, by rw [hM 34 (by omega) (by omega)]; exact b2, by rw [k2, c1, b4], fun k hk => ⟨fa_psh_wS a1 R.Q.wS (fun k hk => (a6 k hk).1) k (by omega), ?_, fun j hj => by rw [k3]; exact c3 k (by omega) j hj⟩⟩
  have hm := Nat.mod_lt (x' + 8 - n' + k) (show 0 < 8 by omega)
  exact (b5 k hk).go (fun j q1 q2 => hM j (by omega) (by omega))
