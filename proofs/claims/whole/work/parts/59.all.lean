/-! copies; the whole of what both sides hold -/
theorem fa_copy_2 {a b n : Nat} (hab : a ≠ b) (hn : n ≤ 900) : ∀ (d k f : Nat) (M : fv_M), k + d = n → d < f →
    ∃ M', (∀ kk, g_X_copy_2 a n b n f M (nI k) kk = kk M' (nI n)) ∧ (∀ i, k ≤ i → i < n → M' b i = M a i) ∧ (∀ i, (i < k ∨ n ≤ i) → M' b i = M b i) ∧ ∀ j, j ≠ b → M' j = M j := by
  intro d
  induction d with
  | zero =>
    intro k f M hk hf
    obtain ⟨f, rfl⟩ : ∃ g, f = g + 1 := ⟨f - 1, by omega⟩
    have : k = n := by omega
    subst this
    exact ⟨M, fun kk => by rw [g_X_copy_2, if_pos (show Int32.ofNat k ≤ nI k from nI_le (Nat.le_refl _) (by omega))], fun i h1 h2 => by omega, fun _ _ => rfl, fun _ _ => rfl⟩
  | succ d ih =>
    intro k f M hk hf
    obtain ⟨f, rfl⟩ : ∃ g, f = g + 1 := ⟨f - 1, by omega⟩
    obtain ⟨M1, e1, h1, h2, h3⟩ := ih (k + 1) f (fv_set M b k (M a k)) (by omega) (by omega)
    refine ⟨M1, fun kk => ?_, fun i q1 q2 => ?_, fun i q => ?_, fun j hj => by rw [h3 j hj, fv_set_ne _ _ _ _ j hj]⟩
    · rw [g_X_copy_2, if_neg (show ¬ Int32.ofNat n ≤ nI k from nI_ge (by omega) (by omega)), if_neg (show ¬ Int32.ofNat n ≤ nI k from nI_ge (by omega) (by omega)), fa_cki (by omega) (by omega), fa_cki (by omega) (by omega), nI_clamp (by omega), nI_1, e1]
    · by_cases e : i = k
      · subst e; rw [h2 i (Or.inl (by omega)), fv_set_at, fa_upd_same]
      · rw [h1 i (by omega) q2, fv_set_ne _ _ _ _ a hab]
    · rw [h2 i (by omega), fv_set_at, fa_upd_ne _ _ (by omega)]
theorem fa_copy {M : fv_M} {a b n : Nat} (hab : a ≠ b) (hn : n ≤ 900) : ∃ M', g_X_copy M a n b n = some M' ∧ (∀ i, i < n → M' b i = M a i) ∧ ∀ j, j ≠ b → M' j = M j := by
  obtain ⟨M1, e1, h1, h2, h3⟩ := fa_copy_2 hab hn n 0 fx_FU M (by omega) (by unfold fx_FU; omega)
  exact ⟨M1, by unfold g_X_copy; exact e1 _, fun i hi => h1 i (by omega) hi, h3⟩
theorem fa_become {M : fv_M} {s o : Nat} {σ : Nat → Int32} (hso : s + 5 ≤ o ∨ o + 5 ≤ s) (hc : fa_c M o σ) : ∃ M', g_S_become M s o = some M' ∧ fa_c M' s σ ∧ ∀ j, (j < s ∨ s + 5 ≤ j) → M' j = M j := by
  obtain ⟨M1, e1, a1, f1⟩ := fa_copy (M := fv_set M s 0 (M o 0)) (a := o + 1) (b := s + 1) (n := 24) (by omega) (by omega)
  obtain ⟨M2, e2, a2, f2⟩ := fa_copy (M := M1) (a := o + 2) (b := s + 2) (n := 4) (by omega) (by omega)
  obtain ⟨M3, e3, a3, f3⟩ := fa_copy (M := M2) (a := o + 3) (b := s + 3) (n := 8) (by omega) (by omega)
  obtain ⟨M4, e4, a4, f4⟩ := fa_copy (M := M3) (a := o + 4) (b := s + 4) (n := 8) (by omega) (by omega)
  refine ⟨M4, ?_, ⟨?_, fun k hk => ?_, fun k hk => ?_, fun k hk => ?_, fun k hk => ?_⟩, fun j hj => ?_⟩
  · unfold g_S_become
    rw [e1, Option.bind_some, e2, Option.bind_some, e3, Option.bind_some, e4, Option.bind_some]
  · rw [f4 s (by omega), f3 s (by omega), f2 s (by omega), f1 s (by omega), fv_set_at, fa_upd_same, hc.se]
  · rw [f4 _ (by omega), f3 _ (by omega), f2 _ (by omega), a1 k hk, fv_set_ne _ _ _ _ _ (by omega), hc.sk k hk]
  · rw [f4 _ (by omega), f3 _ (by omega), a2 k hk, f1 _ (by omega), fv_set_ne _ _ _ _ _ (by omega), hc.so k hk]
  · rw [f4 _ (by omega), a3 k hk, f2 _ (by omega), f1 _ (by omega), fv_set_ne _ _ _ _ _ (by omega), hc.dn k hk]
  · rw [a4 k hk, f3 _ (by omega), f2 _ (by omega), f1 _ (by omega), fv_set_ne _ _ _ _ _ (by omega), hc.fg k hk]
  · rw [f4 j (by omega), f3 j (by omega), f2 j (by omega), f1 j (by omega), fv_set_ne _ _ _ _ j (by omega)]
theorem fa_put_3 {a b n N0 N2 o : Nat} (hab : a ≠ b) (hn : n ≤ 900) (h0 : o + n ≤ N0) (h02 : N0 ≤ 900) (h2 : n ≤ N2) (h22 : N2 ≤ 900) : ∀ (d k f : Nat) (M : fv_M), k + d = n → d < f →
    ∃ M', (∀ kk, g_M_put_3 b N0 a N2 (nI o) (nI n) f M (nI k) kk = kk M' (nI n)) ∧ (∀ i, k ≤ i → i < n → M' b (o + i) = M a i) ∧ (∀ i, (i < o + k ∨ o + n ≤ i) → M' b i = M b i) ∧ ∀ j, j ≠ b → M' j = M j := by
  intro d
  induction d with
  | zero =>
    intro k f M hk hf
    obtain ⟨f, rfl⟩ : ∃ g, f = g + 1 := ⟨f - 1, by omega⟩
    have : k = n := by omega
    subst this
    exact ⟨M, fun kk => by rw [g_M_put_3, if_pos (nI_le (Nat.le_refl _) (by omega))], fun i h1 h2 => by omega, fun _ _ => rfl, fun _ _ => rfl⟩
  | succ d ih =>
    intro k f M hk hf
    obtain ⟨f, rfl⟩ : ∃ g, f = g + 1 := ⟨f - 1, by omega⟩
    obtain ⟨M1, e1, h1, h2, h3⟩ := ih (k + 1) f (fv_set M b (o + k) (M a k)) (by omega) (by omega)
    refine ⟨M1, fun kk => ?_, fun i q1 q2 => ?_, fun i q => ?_, fun j hj => by rw [h3 j hj, fv_set_ne _ _ _ _ j hj]⟩
    · rw [g_M_put_3, if_neg (nI_ge (by omega) (by omega)), fa_cki (by omega) (by omega), nI_add, fa_cki (by omega) (by omega), nI_clamp (by omega), nI_clamp (by omega), nI_1, e1]
    · by_cases e : i = k
      · subst e; rw [h2 _ (Or.inl (by omega)), fv_set_at, fa_upd_same]
      · rw [h1 i (by omega) q2, fv_set_ne _ _ _ _ a hab]
    · rw [h2 i (by omega), fv_set_at, fa_upd_ne _ _ (by omega)]
theorem fa_mput {M : fv_M} {a b n N0 N2 o : Nat} (hab : a ≠ b) (hn : n ≤ 900) (h0 : o + n ≤ N0) (h02 : N0 ≤ 900) (h2 : n ≤ N2) (h22 : N2 ≤ 900) : ∃ M', g_M_put M b N0 (nI o) a N2 (nI n) = some M' ∧ (∀ i, i < n → M' b (o + i) = M a i) ∧ (∀ i, (i < o ∨ o + n ≤ i) → M' b i = M b i) ∧ ∀ j, j ≠ b → M' j = M j := by
  obtain ⟨M1, e1, a1, a2, a3⟩ := fa_put_3 hab hn h0 h02 h2 h22 n 0 fx_FU M (by omega) (by unfold fx_FU; omega)
  exact ⟨M1, by unfold g_M_put; exact e1 _, fun i hi => a1 i (by omega) hi, fun i hi => a2 i (by omega), a3⟩
theorem fa_from {M : fv_M} {a : Nat} {σ : Nat → Int32} (ha : a ≠ 92 + 18) (hc : fa_m M a σ) : ∃ M', g_M_from M 92 a 45 = some M' ∧ fa_m M' (92 + 18) σ ∧ ∀ j, j ≠ 92 + 18 → M' j = M j := by
  obtain ⟨M1, e1, a1, a2, a3⟩ := fa_mput (M := M) (a := a) (b := 92 + 18) (n := 45) (N0 := 45) (N2 := 45) (o := 0) ha (by omega) (by omega) (by omega) (by omega) (by omega)
  refine ⟨M1, ?_, fun k hk => ?_, a3⟩
  · unfold g_M_from
    rw [show g_M_put M (92 + 18) 45 (0 : Int32) a 45 (45 : Int32) = some M1 from e1, Option.bind_some]
  · have := a1 k hk
    rw [Nat.zero_add] at this
    rw [this, hc k hk]
def fa_tx (M : fv_M) : Prop := ∃ (n : Nat) (tx : Nat → Nat), n ≤ 200 ∧ M 1 2 = nI n ∧ M 92 18 = nI n ∧ ∀ i, i < n → M 2 i = nI (tx i) ∧ M (92 + 11) i = nI (tx i) ∧ 32 ≤ tx i ∧ tx i ≤ 126
def fa_rg (M : fv_M) (c N mc mf : Nat) (l : fa_L) (B : Nat) : Prop := ∃ (n x : Nat) (P : Nat → Nat → Int32), n ≤ N ∧ x < N ∧ M c 1 = nI n ∧ M c 2 = nI x ∧ M 92 mf = nI n ∧ ∀ k, k < n → fa_wS l (P k) B ∧ fa_c M (c + 2 + 5 * ((x + N - n + k) % N)) (P k) ∧ ∀ j, j < 45 → M mc (45 * k + j) = P k j
def fa_hr (M : fv_M) (l : fa_L) : Prop := ∃ (n : Nat) (w s d : Nat → Nat), n ≤ 6 ∧ M 88 3 = nI n ∧ M 92 15 = nI n ∧ ∀ k, k < n → w k < l.nw ∧ (1 ≤ s k ∧ s k ≤ 9) ∧ d k ≤ 1 ∧ (M 89 k = nI (w k) ∧ M 90 k = nI (s k) ∧ M 91 k = nI (d k)) ∧ M (92 + 10) (3 * k) = nI (w k) ∧ M (92 + 10) (3 * k + 1) = nI (s k) ∧ M (92 + 10) (3 * k + 2) = nI (d k)
def fa_R (M : fv_M) (L : Nat) (D : Nat) (l : fa_L) (σ : Nat → Int32) (B : Nat) : Prop := (fa_Q M L l σ B) ∧ (fx_LD L D) ∧ (1 ≤ l.nv) ∧ (1 ≤ l.nt) ∧ (fa_tx M) ∧ (fa_rg M 34 8 (92 + 8) 11 l B) ∧ (fa_rg M 76 2 (92 + 9) 13 l B) ∧ (fa_hr M l)
theorem fa_R.Q {M : fv_M} {L : Nat} {D : Nat} {l : fa_L} {σ : Nat → Int32} {B : Nat} (h : fa_R M L D l σ B) : fa_Q M L l σ B := h.1
theorem fa_R.LD {M : fv_M} {L : Nat} {D : Nat} {l : fa_L} {σ : Nat → Int32} {B : Nat} (h : fa_R M L D l σ B) : fx_LD L D := h.2.1
theorem fa_R.pv {M : fv_M} {L : Nat} {D : Nat} {l : fa_L} {σ : Nat → Int32} {B : Nat} (h : fa_R M L D l σ B) : 1 ≤ l.nv := h.2.2.1
theorem fa_R.pt {M : fv_M} {L : Nat} {D : Nat} {l : fa_L} {σ : Nat → Int32} {B : Nat} (h : fa_R M L D l σ B) : 1 ≤ l.nt := h.2.2.2.1
theorem fa_R.tx {M : fv_M} {L : Nat} {D : Nat} {l : fa_L} {σ : Nat → Int32} {B : Nat} (h : fa_R M L D l σ B) : fa_tx M := h.2.2.2.2.1
theorem fa_R.pa {M : fv_M} {L : Nat} {D : Nat} {l : fa_L} {σ : Nat → Int32} {B : Nat} (h : fa_R M L D l σ B) : fa_rg M 34 8 (92 + 8) 11 l B := h.2.2.2.2.2.1
theorem fa_R.ke {M : fv_M} {L : Nat} {D : Nat} {l : fa_L} {σ : Nat → Int32} {B : Nat} (h : fa_R M L D l σ B) : fa_rg M 76 2 (92 + 9) 13 l B := h.2.2.2.2.2.2.1
theorem fa_R.he {M : fv_M} {L : Nat} {D : Nat} {l : fa_L} {σ : Nat → Int32} {B : Nat} (h : fa_R M L D l σ B) : fa_hr M l := h.2.2.2.2.2.2.2
theorem fa_tx.go {M M' : fv_M} (h : fa_tx M) (h1 : M' 1 2 = M 1 2) (h2 : M' 2 = M 2) (h3 : M' 92 18 = M 92 18) (h4 : M' (92 + 11) = M (92 + 11)) : fa_tx M' := by
  obtain ⟨n, tx, a1, a2, a3, a4⟩ := h
  exact ⟨n, tx, a1, by rw [h1]; exact a2, by rw [h3]; exact a3, fun i hi => by rw [h2, h4]; exact a4 i hi⟩
theorem fa_rg.go {M M' : fv_M} {c N mc mf : Nat} {l : fa_L} {B : Nat} (h : fa_rg M c N mc mf l B) (hN : 0 < N) (h1 : ∀ j, c ≤ j → j < c + 2 + 5 * N → M' j = M j) (h2 : M' 92 mf = M 92 mf) (h3 : M' mc = M mc) : fa_rg M' c N mc mf l B := by
  obtain ⟨n, x, P, a1, a2, a3, a4, a5, a6⟩ := h
  refine ⟨n, x, P, a1, a2, by rw [h1 c (by omega) (by omega)]; exact a3, by rw [h1 c (by omega) (by omega)]; exact a4, by rw [h2]; exact a5, fun k hk => ?_⟩
  obtain ⟨b1, b2, b3⟩ := a6 k hk
  have hm := Nat.mod_lt (x + N - n + k) hN
  exact ⟨b1, b2.go (fun j q1 q2 => h1 j (by omega) (by omega)), fun j hj => by rw [h3]; exact b3 j hj⟩
theorem fa_rg.mono {M : fv_M} {c N mc mf : Nat} {l : fa_L} {B C : Nat} (hBC : B ≤ C) (h : fa_rg M c N mc mf l B) : fa_rg M c N mc mf l C := by
  obtain ⟨n, x, P, a1, a2, a3, a4, a5, a6⟩ := h
  exact ⟨n, x, P, a1, a2, a3, a4, a5, fun k hk => ⟨(a6 k hk).1.mono hBC, (a6 k hk).2⟩⟩
theorem fa_hr.go {M M' : fv_M} {l : fa_L} (h : fa_hr M l) (h1 : ∀ j, 88 ≤ j → j < 92 → M' j = M j) (h2 : M' 92 15 = M 92 15) (h3 : M' (92 + 10) = M (92 + 10)) : fa_hr M' l := by
  obtain ⟨n, w, s, d, a1, a2, a3, a4⟩ := h
  refine ⟨n, w, s, d, a1, by rw [h1 88 (by omega) (by omega)]; exact a2, by rw [h2]; exact a3, fun k hk => ?_⟩
  rw [h1 89 (by omega) (by omega), h1 90 (by omega) (by omega), h1 91 (by omega) (by omega), h3]
  exact a4 k hk
theorem fa_Q.go {M M' : fv_M} {L : Nat} {l : fa_L} {σ : Nat → Int32} {B : Nat} (h : fa_Q M L l σ B) (h1 : ∀ j, L ≤ j → j < L + 10 → M' j = M j) (h2 : ∀ j, 24 ≤ j → j < 29 → M' j = M j) (h3 : ∀ j, 92 ≤ j → j < 100 → M' j = M j) : fa_Q M' L l σ B :=
  ⟨h.wl, h.lc.go (fun j q1 q2 _ => h1 j q1 q2), fun t ht => by rw [h1 (L + 5) (by omega) (by omega)]; exact h.ls t ht, h.lm.go (fun j q1 q2 _ => h3 j q1 q2), h.wS, h.cS.go (fun j q1 q2 => h2 j q1 (by omega)), fun k hk => by rw [h3 (92 + 6) (by omega) (by omega)]; exact h.mS k hk⟩
theorem fa_LD.le {L D : Nat} (h : fx_LD L D) : (L = 4 ∨ L = 14) ∧ (D = 4 ∨ D = 14) ∧ L ≠ D := by
  rcases h with ⟨rfl, rfl⟩ | ⟨rfl, rfl⟩
  · exact ⟨Or.inl rfl, Or.inr rfl, by omega⟩
  · exact ⟨Or.inr rfl, Or.inl rfl, by omega⟩
theorem fa_R.mono {M : fv_M} {L D : Nat} {l : fa_L} {σ : Nat → Int32} {B C : Nat} (hBC : B ≤ C) (h : fa_R M L D l σ B) : fa_R M L D l σ C :=
  ⟨⟨h.Q.wl, h.Q.lc, h.Q.ls, h.Q.lm, h.Q.wS.mono hBC, h.Q.cS, h.Q.mS⟩, h.LD, h.pv, h.pt, h.tx, h.pa.mono hBC, h.ke.mono hBC, h.he⟩
/-- what is only looked ahead changes nothing that lasts -/
theorem fa_R.free {M M' : fv_M} {L D : Nat} {l : fa_L} {σ : Nat → Int32} {B : Nat} (h : fa_R M L D l σ B) (hf : ∀ j, (j < 29 ∨ 34 ≤ j) → j ≠ 92 + 18 → M' j = M j) : fa_R M' L D l σ B := by
  have hLD := fa_LD.le h.LD
  refine ⟨h.Q.go (fun j q1 q2 => hf j (by omega) (by omega)) (fun j q1 q2 => hf j (by omega) (by omega)) (fun j q1 q2 => hf j (by omega) (by omega)), h.LD, h.pv, h.pt, h.tx.go ?_ ?_ ?_ ?_, h.pa.go (by omega) (fun j q1 q2 => hf j (by omega) (by omega)) ?_ ?_, h.ke.go (by omega) (fun j q1 q2 => hf j (by omega) (by omega)) ?_ ?_, h.he.go (fun j q1 q2 => hf j (by omega) (by omega)) ?_ ?_⟩
  all_goals first | rw [hf _ (by omega) (by omega)] | exact hf _ (by omega) (by omega)
/-! worth and what is forgotten ahead -/
def fa_wh (l : fa_L) (σ τ : Nat → Int32) (ok : Nat → Bool) (s : Int32) (w : Nat) : Int32 := if ok w = true then s + nI (l.ww w) * (τ (28 + w) - σ (28 + w)) else s
def fa_fh (σ τ : Nat → Int32) (ok : Nat → Bool) (s : Int32) (w : Nat) : Int32 := if ok w = true then s + (τ (36 + w) - σ (36 + w)) else s
theorem fa_whc {M : fv_M} {L D : Nat} {l : fa_L} {σ τ : Nat → Int32} {b : Nat} {ok : Nat → Bool} (hl : fa_wl l) (hL : fa_lc M L l) (hc : fa_c M 24 σ) (hd : fa_c M 29 τ) (hb : b < 256) (hok : ∀ w, w < l.nw → (b.testBit w = true ↔ ok w = true)) : ∀ (d k f : Nat) (a : Int32), k + d = l.nw → d < f → ∀ kk, g_X_worthAhead_4 M L D (nI b) f a (nI k) kk = kk ((List.range' k d).foldl (fa_wh l σ τ ok) a) (nI l.nw) := by
  have h1 := hl.nw
  intro d
  induction d with
  | zero =>
    intro k f a hk hf kk
    obtain ⟨f, rfl⟩ : ∃ g, f = g + 1 := ⟨f - 1, by omega⟩
    have : k = l.nw := by omega
    subst this
    rw [g_X_worthAhead_4, hL.nw, if_pos (nI_le (Nat.le_refl _) (by omega))]
    rfl
  | succ d ih =>
    intro k f a hk hf kk
    obtain ⟨f, rfl⟩ : ∃ g, f = g + 1 := ⟨f - 1, by omega⟩
    have ih := ih (k + 1) f (fa_wh l σ τ ok a k) (by omega) (by omega) kk
    rw [g_X_worthAhead_4, hL.nw, if_neg (nI_ge (by omega) (by omega)), fa_has hb (by omega), Option.bind_some, List.range'_succ, List.foldl_cons, ← ih]
    unfold fa_wh
    by_cases q : b.testBit k = true
    · rw [if_pos q, if_neg fa_10, if_pos ((hok k (by omega)).mp q), fa_at (by omega) (by omega), Option.bind_some, fa_at (by omega) (by omega), Option.bind_some, fa_at (by omega) (by omega), Option.bind_some, hL.ww k (by omega), hd.dn k (by omega), hc.dn k (by omega), nI_1]
    · rw [if_neg q, if_pos rfl, if_neg (fun z => q ((hok k (by omega)).mpr z)), nI_1]
theorem fa_fhc {M : fv_M} {L D : Nat} {l : fa_L} {σ τ : Nat → Int32} {b : Nat} {ok : Nat → Bool} (hl : fa_wl l) (hL : fa_lc M L l) (hc : fa_c M 24 σ) (hd : fa_c M 29 τ) (hb : b < 256) (hok : ∀ w, w < l.nw → (b.testBit w = true ↔ ok w = true)) : ∀ (d k f : Nat) (a : Int32), k + d = l.nw → d < f → ∀ kk, g_X_forgottenAhead_4 M L D (nI b) f a (nI k) kk = kk ((List.range' k d).foldl (fa_fh σ τ ok) a) (nI l.nw) := by
  have h1 := hl.nw
  intro d
  induction d with
  | zero =>
    intro k f a hk hf kk
    obtain ⟨f, rfl⟩ : ∃ g, f = g + 1 := ⟨f - 1, by omega⟩
    have : k = l.nw := by omega
    subst this
    rw [g_X_forgottenAhead_4, hL.nw, if_pos (nI_le (Nat.le_refl _) (by omega))]
    rfl
  | succ d ih =>
    intro k f a hk hf kk
    obtain ⟨f, rfl⟩ : ∃ g, f = g + 1 := ⟨f - 1, by omega⟩
    have ih := ih (k + 1) f (fa_fh σ τ ok a k) (by omega) (by omega) kk
    rw [g_X_forgottenAhead_4, hL.nw, if_neg (nI_ge (by omega) (by omega)), fa_has hb (by omega), Option.bind_some, List.range'_succ, List.foldl_cons, ← ih]
    unfold fa_fh
    by_cases q : b.testBit k = true
    · rw [if_pos q, if_neg fa_10, if_pos ((hok k (by omega)).mp q), fa_at (by omega) (by omega), Option.bind_some, fa_at (by omega) (by omega), Option.bind_some, hd.fg k (by omega), hc.fg k (by omega), nI_1]
    · rw [if_neg q, if_pos rfl, if_neg (fun z => q ((hok k (by omega)).mpr z)), nI_1]
theorem fa_whm {M : fv_M} {l : fa_L} {σ τ : Nat → Int32} {a1 : Int32} {ok : Nat → Bool} (hl : fa_wl l) (hL : fa_lm M l) (hc : fa_m M (92 + 6) σ) (hd : fa_m M (92 + 18) τ) (hok : ∀ w, w < l.nw → (ok w = true ↔ (a1 < 0 ∨ nI (l.wt w) = a1))) : ∀ (d k f : Nat) (a : Int32), k + d = l.nw → d < f → ∀ kk, g_M_worthOf_4 M 92 a1 f a (nI k) kk = kk ((List.range' k d).foldl (fa_wh l σ τ ok) a) (nI l.nw) := by
  have h1 := hl.nw
  intro d
  induction d with
  | zero =>
    intro k f a hk hf kk
    obtain ⟨f, rfl⟩ : ∃ g, f = g + 1 := ⟨f - 1, by omega⟩
    have : k = l.nw := by omega
    subst this
    rw [g_M_worthOf_4, hL.nw, if_pos (nI_le (Nat.le_refl _) (by omega))]
    rfl
  | succ d ih =>
    intro k f a hk hf kk
    obtain ⟨f, rfl⟩ : ∃ g, f = g + 1 := ⟨f - 1, by omega⟩
    have ih := ih (k + 1) f (fa_wh l σ τ ok a k) (by omega) (by omega) kk
    rw [g_M_worthOf_4, hL.nw, if_neg (nI_ge (by omega) (by omega)), List.range'_succ, List.foldl_cons, ← ih]
    simp (disch := omega) only [fa_m3, fa_p2, fa_28, nI_1, nI_clamp, fa_ckn, hL.wt k (by omega), hL.ww k (by omega), hc (28 + k), hd (28 + k), Int32.add_zero]
    unfold fa_wh
    by_cases q : a1 < 0
    · rw [if_pos q, if_pos ((hok k (by omega)).mpr (Or.inl q))]
    · rw [if_neg q]
      by_cases q2 : nI (l.wt k) = a1
      · rw [if_pos q2, if_pos ((hok k (by omega)).mpr (Or.inr q2))]
      · rw [if_neg q2, if_neg (fun z => ((hok k (by omega)).mp z).elim q q2)]
theorem fa_fhm {M : fv_M} {l : fa_L} {σ τ : Nat → Int32} {a1 : Int32} {ok : Nat → Bool} (hl : fa_wl l) (hL : fa_lm M l) (hc : fa_m M (92 + 6) σ) (hd : fa_m M (92 + 18) τ) (hok : ∀ w, w < l.nw → (ok w = true ↔ (a1 < 0 ∨ nI (l.wt w) = a1))) : ∀ (d k f : Nat) (a : Int32), k + d = l.nw → d < f → ∀ kk, g_M_forgottenOf_4 M 92 a1 f a (nI k) kk = kk ((List.range' k d).foldl (fa_fh σ τ ok) a) (nI l.nw) := by
  have h1 := hl.nw
  intro d
  induction d with
  | zero =>
    intro k f a hk hf kk
    obtain ⟨f, rfl⟩ : ∃ g, f = g + 1 := ⟨f - 1, by omega⟩
    have : k = l.nw := by omega
    subst this
    rw [g_M_forgottenOf_4, hL.nw, if_pos (nI_le (Nat.le_refl _) (by omega))]
    rfl
  | succ d ih =>
    intro k f a hk hf kk
    obtain ⟨f, rfl⟩ : ∃ g, f = g + 1 := ⟨f - 1, by omega⟩
    have ih := ih (k + 1) f (fa_fh σ τ ok a k) (by omega) (by omega) kk
    rw [g_M_forgottenOf_4, hL.nw, if_neg (nI_ge (by omega) (by omega)), List.range'_succ, List.foldl_cons, ← ih]
    simp (disch := omega) only [fa_m3, fa_36, nI_1, nI_clamp, fa_ckn, hL.wt k (by omega), hc (36 + k), hd (36 + k), Int32.add_zero]
    unfold fa_fh
    by_cases q : a1 < 0
    · rw [if_pos q, if_pos ((hok k (by omega)).mpr (Or.inl q))]
    · rw [if_neg q]
      by_cases q2 : nI (l.wt k) = a1
      · rw [if_pos q2, if_pos ((hok k (by omega)).mpr (Or.inr q2))]
      · rw [if_neg q2, if_neg (fun z => ((hok k (by omega)).mp z).elim q q2)]
def fa_WH (l : fa_L) (σ τ : Nat → Int32) (ok : Nat → Bool) : Int32 := (List.range' 0 l.nw).foldl (fa_wh l σ τ ok) 0
def fa_FH (l : fa_L) (σ τ : Nat → Int32) (ok : Nat → Bool) : Int32 := (List.range' 0 l.nw).foldl (fa_fh σ τ ok) 0
/-- the works of one village, as bits -/
def fa_wi' (l : fa_L) (t : Nat) : Nat → Nat
  | 0 => 0
  | w + 1 => if l.wt w = t then fa_wi' l t w ||| 2 ^ w else fa_wi' l t w
theorem fa_wi'_bit (l : fa_L) (t : Nat) : ∀ n k, (fa_wi' l t n).testBit k = true ↔ (k < n ∧ l.wt k = t) := by
  intro n
  induction n with
  | zero => intro k; rw [fa_wi', Nat.zero_testBit]; exact ⟨fun h => absurd h (by decide), fun h => absurd h.1 (by omega)⟩
  | succ n ih =>
    intro k
    rw [fa_wi']
    by_cases q : l.wt n = t
    · rw [if_pos q, Nat.testBit_or, Nat.testBit_two_pow, Bool.or_eq_true, ih k, decide_eq_true_eq]
      constructor
      · rintro (h | h)
        · exact ⟨by omega, h.2⟩
        · subst h; exact ⟨by omega, q⟩
      · intro h
        by_cases e : n = k
        · exact Or.inr e
        · exact Or.inl ⟨by omega, h.2⟩
    · rw [if_neg q, ih k]
      constructor
      · exact fun h => ⟨by omega, h.2⟩
      · intro h
        refine ⟨?_, h.2⟩
        rcases Nat.lt_or_ge k n with z | z
        · exact z
        · exfalso
          have : k = n := by omega
          subst this
          exact q h.2
theorem fa_wi'_lt (l : fa_L) (t : Nat) : ∀ n, fa_wi' l t n < 2 ^ n := by
  intro n
  induction n with
  | zero => exact (by decide : (0 : Nat) < 2 ^ 0)
  | succ n ih =>
    rw [fa_wi']
    have h2 : 2 ^ n < 2 ^ (n + 1) := Nat.pow_lt_pow_right (by omega) (by omega)
    split
    · exact Nat.or_lt_two_pow (by omega) h2
    · omega
theorem fa_worksIn {M : fv_M} {L : Nat} {l : fa_L} {t : Nat} (hl : fa_wl l) (hL : fa_lc M L l) (ht : t < 4) : g_L_worksIn M L (nI t) = some (nI (fa_wi' l t l.nw)) := by
  have h1 := hl.nw
  have h2 := hl.nt
  have key : ∀ (d k f : Nat), k + d = l.nw → d < f → ∀ kk, g_L_worksIn_4 M L (nI t) f (nI (fa_wi' l t k)) (nI k) kk = kk (nI (fa_wi' l t l.nw)) (nI l.nw) := by
    intro d
    induction d with
    | zero =>
      intro k f hk hf kk
      obtain ⟨f, rfl⟩ : ∃ g, f = g + 1 := ⟨f - 1, by omega⟩
      have : k = l.nw := by omega
      subst this
      rw [g_L_worksIn_4, hL.nw, if_pos (nI_le (Nat.le_refl _) (by omega))]
    | succ d ih =>
      intro k f hk hf kk
      obtain ⟨f, rfl⟩ : ∃ g, f = g + 1 := ⟨f - 1, by omega⟩
      have ih := ih (k + 1) f (by omega) (by omega) kk
      have w1 := hl.wt k (by omega)
      have e1 : (nI (l.wt k) = nI t) ↔ l.wt k = t := nI_eq (by omega) (by omega)
      rw [g_L_worksIn_4, hL.nw, if_neg (nI_ge (by omega) (by omega)), fa_at (by omega) (by omega), Option.bind_some, hL.wt k (by omega), fa_shl (by omega), fa_or, fa_or0, nI_1]
      rw [fa_wi'] at ih
      by_cases q : l.wt k = t
      · rw [if_pos (e1.mpr q)]
        rw [if_pos q] at ih
        exact ih
      · rw [if_neg (fun z => q (e1.mp z))]
        rw [if_neg q] at ih
        exact ih
  unfold g_L_worksIn
  exact key l.nw 0 fx_FU (by omega) (by unfold fx_FU; omega) _
