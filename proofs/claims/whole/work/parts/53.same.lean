/-! both seasons are the same; what a standing keeps to is kept -/
theorem fa_wS.sok {l : fa_L} {σ : Nat → Int32} {B : Nat} (h : fa_wS l σ B) : fa_sok l σ := h.so
theorem fa_div10 {a : Nat} (h : a < 2 ^ 31) : nI a - nI a / (10 : Int32) = nI (a - a / 10) := by
  have e : nI a / (10 : Int32) = nI (a / 10) := (Int32.ofNat_div h (by decide)).symm
  rw [e, fa_sub (by omega)]
theorem fa_lo1_nI {a : Nat} (h : a ≤ 60) : ∃ b, b ≤ 60 ∧ fa_lo1 (nI a) = nI b := by
  unfold fa_lo1
  split
  · exact ⟨a, h, rfl⟩
  · exact ⟨a - a / 10, by omega, fa_div10 (by omega)⟩
theorem fa_lo1_0 : fa_lo1 0 = 0 := by decide
theorem fa_used_nI {kd a : Nat} {se : Int32} (ha : ¬ nI a = 0) (h6 : a ≤ 60) (hse : ∃ b, b ≤ 100000 ∧ se = nI b) : ∃ b, b ≤ 60 ∧ nI a - fa_used kd (nI a) se = nI b := by
  have h0 : a ≠ 0 := fun q => ha (by rw [q]; rfl)
  by_cases h1 : kd = 1
  · obtain ⟨b, hb, rfl⟩ := hse
    rw [fa_usedS ⟨b, hb, rfl⟩ h1, fa_div2 (by omega), fa_sub (by omega)]
    exact ⟨_, by omega, rfl⟩
  · unfold fa_used
    rw [if_neg h1]
    by_cases h3 : kd = 3
    · rw [if_pos h3]
      by_cases h2 : nI a < (2 : Int32)
      · rw [if_pos h2, show (1 : Int32) = nI 1 from rfl, fa_sub (by omega)]
        exact ⟨_, by omega, rfl⟩
      · rw [if_neg h2, show (2 : Int32) = nI 2 from rfl, fa_sub (by
          rcases Nat.lt_or_ge a 2 with q | q
          · exact absurd (show nI a < nI 2 from nI_lt q (by omega)) h2
          · exact q)]
        exact ⟨_, by omega, rfl⟩
    · rw [if_neg h3, show (1 : Int32) = nI 1 from rfl, fa_sub (by omega)]
      exact ⟨_, by omega, rfl⟩
/-- a stock of the land's own is changed for one that may be -/
theorem fa_wS.stk {l : fa_L} {σ : Nat → Int32} {B t v : Nat} {x : Int32} (hl : fa_wl l) (h : fa_wS l σ B) (ht : t < l.nt) (hv : v < l.nv) (hx : ∃ b, b ≤ 60 ∧ x = nI b) : fa_wS l (upd σ (6 * t + v) x) B := by
  have h1 := hl.nt
  have h2 := hl.nv
  refine ⟨fun k hk => ?_, fun t2 v2 ht2 hv2 hz => ?_, fun t2 ht2 => ?_, ?_⟩
  · by_cases e : k = 6 * t + v
    · rw [e, fa_upd_same]; exact hx
    · rw [fa_upd_ne _ _ e]; exact h.sk k hk
  · rw [fa_upd_ne _ _ (by omega)]; exact h.s0 t2 v2 ht2 hv2 hz
  · rw [fa_upd_ne _ _ (by omega)]; exact h.so t2 ht2
  · rw [fa_upd_ne _ _ (by omega)]; exact h.se
theorem fa_wS.oth {l : fa_L} {σ : Nat → Int32} {B k : Nat} {x : Int32} (h : fa_wS l σ B) (hk : 28 ≤ k) (hk2 : k < 44) : fa_wS l (upd σ k x) B :=
  ⟨fun j hj => by rw [fa_upd_ne _ _ (by omega)]; exact h.sk j hj, fun t v ht hv hz => by rw [fa_upd_ne _ _ (by omega)]; exact h.s0 t v ht hv hz, fun t ht => by rw [fa_upd_ne _ _ (by omega)]; exact h.so t ht, by rw [fa_upd_ne _ _ (by omega)]; exact h.se⟩
theorem fa_wS.sw {l : fa_L} {σ : Nat → Int32} {B t : Nat} {x : Int32} (h : fa_wS l σ B) (ht : t < 4) (hx : x = -1 ∨ ∃ v, v < l.nv ∧ t < l.nt ∧ x = nI v) : fa_wS l (upd σ (24 + t) x) B :=
  ⟨fun j hj => by rw [fa_upd_ne _ _ (by omega)]; exact h.sk j hj, fun t v ht hv hz => by rw [fa_upd_ne _ _ (by omega)]; exact h.s0 t v ht hv hz, fun j hj => by
    by_cases e : j = t
    · subst e; rw [fa_upd_same]; exact hx
    · rw [fa_upd_ne _ _ (by omega)]; exact h.so j hj, by rw [fa_upd_ne _ _ (by omega)]; exact h.se⟩
theorem fa_wS.mono {l : fa_L} {σ : Nat → Int32} {B C : Nat} (hBC : B ≤ C) (h : fa_wS l σ B) : fa_wS l σ C := ⟨h.sk, h.s0, h.so, by obtain ⟨a, h1, h2⟩ := h.se; exact ⟨a, by omega, h2⟩⟩
theorem fa_wS.eq {l : fa_L} {σ τ : Nat → Int32} {B : Nat} (hf : ∀ k, k < 45 → τ k = σ k) (h : fa_wS l σ B) : fa_wS l τ B :=
  ⟨fun j hj => by rw [hf j (by omega)]; exact h.sk j hj, fun t v ht hv hz => by rw [hf _ (by omega)]; exact h.s0 t v ht hv hz, fun j hj => by rw [hf _ (by omega)]; exact h.so j hj, by rw [hf _ (by omega)]; exact h.se⟩
theorem fa_wS.w1 {l : fa_L} {σ : Nat → Int32} {B w : Nat} (hl : fa_wl l) (hB : B ≤ 100000) (h : fa_wS l σ B) (hw : w < l.nw) : fa_wS l (fa_w1 l σ w).2 B := by
  have h3 := hl.nw
  have h1 := hl.nt
  have h2 := hl.nv
  have ht := hl.wt w hw
  have hv := hl.wv w hw
  have e : fa_wS l (fa_tw l σ w).2 B := by
    unfold fa_tw
    split
    · exact h
    · rename_i h0
      obtain ⟨a, ha, ea⟩ := h.sk (6 * l.wt w + l.wv w) (by omega)
      rw [ea] at h0 ⊢
      obtain ⟨b, hb, eb⟩ := h.se
      exact h.stk hl ht hv (fa_used_nI h0 ha ⟨b, by omega, eb⟩)
  unfold fa_w1
  dsimp only
  split
  · exact e.oth (by omega) (by omega)
  · exact e.oth (by omega) (by omega)
theorem fa_wS.ws {l : fa_L} {σ : Nat → Int32} {B : Nat} (hl : fa_wl l) (hB : B ≤ 100000) (h : fa_wS l σ B) : ∀ w, w ≤ l.nw → fa_wS l (fa_ws l σ w).2 B := by
  intro w
  induction w with
  | zero => exact fun _ => h
  | succ w ih => exact fun hw => (ih (by omega)).w1 hl hB (by omega)
theorem fa_wS.reap {l : fa_L} {σ : Nat → Int32} {B t : Nat} (hl : fa_wl l) (h : fa_wS l σ B) (ht : t < 4) : fa_wS l (fa_reap l σ t) B := by
  have h1 := hl.nt
  have h2 := hl.nv
  unfold fa_reap
  split
  · exact h
  · rename_i hn
    rcases h.so t ht with q | ⟨v, hv, htt, q⟩
    · rw [q] at hn; exact absurd fa_m1 hn
    · rw [q, nI_clamp (by omega)]
      refine (h.stk hl htt hv ?_).sw ht (Or.inl rfl)
      obtain ⟨a, ha, ea⟩ := h.sk (6 * t + v) (by omega)
      have hc := hl.cr v hv
      rw [ea]
      have e : ∃ m, m ≤ 18 ∧ nI (l.cr v) * (if l.kd v = 2 then (2 : Int32) else 1) = nI m := by
        split
        · exact ⟨l.cr v * 2, by omega, fa_mul _ 2⟩
        · exact ⟨l.cr v, by omega, by rw [Int32.mul_one]⟩
      obtain ⟨m, hm, em⟩ := e
      rw [em, nI_add]
      split
      · rename_i q6
        exact ⟨a + m, by
          have := (nI_ltI (a := a + m) (b := 60) (by omega) (by omega)).mp q6
          omega, rfl⟩
      · exact ⟨60, by omega, rfl⟩
theorem fa_wS.rs {l : fa_L} {σ : Nat → Int32} {B : Nat} (hl : fa_wl l) (h : fa_wS l σ B) : ∀ t, t ≤ 4 → fa_wS l (fa_rs l σ t) B := by
  intro t
  induction t with
  | zero => exact fun _ => h
  | succ t ih => exact fun ht => (ih (by omega)).reap hl (by omega)
theorem fa_wS.loc {l : fa_L} {σ : Nat → Int32} {B : Nat} (h : fa_wS l σ B) : fa_wS l (fa_loc σ 24) B := by
  refine ⟨fun j hj => ?_, fun t v ht hv hz => ?_, fun j hj => ?_, ?_⟩
  · show ∃ a, a ≤ 60 ∧ (if j < 24 then fa_lo1 (σ j) else σ j) = nI a
    rw [if_pos hj]
    obtain ⟨a, ha, ea⟩ := h.sk j hj
    rw [ea]
    exact fa_lo1_nI ha
  · show (if _ then fa_lo1 _ else _) = _
    rw [if_pos (by omega), h.s0 t v ht hv hz]
    exact fa_lo1_0
  · have hz : fa_loc σ 24 (24 + j) = σ (24 + j) := if_neg (by omega)
    rw [hz]
    exact h.so j hj
  · have hz : fa_loc σ 24 44 = σ 44 := if_neg (by omega)
    rw [hz]
    exact h.se
theorem fa_wS.goS {l : fa_L} {σ : Nat → Int32} {B : Nat} (hl : fa_wl l) (hB : B ≤ 100000) (h : fa_wS l σ B) : fa_wS l (fa_goS l σ) (B + 1) := by
  have e := ((h.ws hl hB l.nw (Nat.le_refl _)).rs hl l.nt hl.nt).loc
  obtain ⟨a, ha, ea⟩ := h.se
  refine ⟨fun j hj => ?_, fun t v ht hv hz => ?_, fun j hj => ?_, ⟨a + 1, by omega, ?_⟩⟩
  · show ∃ a, a ≤ 60 ∧ upd _ _ _ _ = _
    rw [fa_upd_ne _ _ (by omega)]; exact e.sk j hj
  · show upd _ _ _ _ = _
    rw [fa_upd_ne _ _ (by omega)]; exact e.s0 t v ht hv hz
  · show upd _ _ _ _ = _ ∨ ∃ v, _ ∧ _ ∧ upd _ _ _ _ = _
    rw [fa_upd_ne _ _ (by omega)]; exact e.so j hj
  · show upd _ _ _ _ = _
    rw [fa_upd_same, ea, nI_1]
/-- what a reaping does, place by place -/
theorem fa_reap_lo {l : fa_L} {σ : Nat → Int32} {t k : Nat} (hk : k < 6 * t) (ht : t < 4) (hv : σ (24 + t) < 0 ∨ (σ (24 + t)).toNatClampNeg < 6) : fa_reap l σ t k = σ k := by
  unfold fa_reap
  split
  · rfl
  · rw [fa_upd_ne _ _ (by omega), fa_upd_ne _ _ (by omega)]
theorem fa_reap_eq {l : fa_L} {σ τ : Nat → Int32} {t k : Nat} (ht : t < 4) (hv : τ (24 + t) < 0 ∨ (τ (24 + t)).toNatClampNeg < 6) (h : ∀ j, 6 * t ≤ j → j < 45 → σ j = τ j) (hk : 6 * t ≤ k) (hk2 : k < 45) : fa_reap l σ t k = fa_reap l τ t k := by
  unfold fa_reap
  rw [h (24 + t) (by omega) (by omega)]
  split
  · exact h k hk hk2
  · rename_i hn
    have h6 := hv.resolve_left hn
    rw [h (6 * t + (τ (24 + t)).toNatClampNeg) (by omega) (by omega)]
    by_cases e : k = 24 + t
    · rw [e, fa_upd_same, fa_upd_same]
    · rw [fa_upd_ne _ _ e, fa_upd_ne _ _ e]
      by_cases e2 : k = 6 * t + (τ (24 + t)).toNatClampNeg
      · rw [e2, fa_upd_same, fa_upd_same]
      · rw [fa_upd_ne _ _ e2, fa_upd_ne _ _ e2]; exact h k hk hk2
theorem fa_mt_at {l : fa_L} {σ : Nat → Int32} (hl : fa_wl l) (hso : fa_sok l σ) : ∀ t, t ≤ 4 → ∀ k, k < 45 → fa_mt l σ t k = if k < 24 ∧ k < 6 * t ∧ k % 6 < l.nv then fa_lo1 (fa_rs l σ t k) else fa_rs l σ t k := by
  have h2 := hl.nv
  intro t
  induction t with
  | zero => intro _ k _; rw [if_neg (by omega)]; rfl
  | succ t ih =>
    intro ht k hk
    have ih := ih (by omega)
    have hrs := ((hso.rs hl) t (by omega)).lt hl (t := t) (by omega)
    have hmt := (fa_mt_so hl hso t (by omega)).lt hl (t := t) (by omega)
    have hsame : ∀ j, 6 * t ≤ j → j < 45 → fa_mt l σ t j = fa_rs l σ t j := fun j h1 h3 => by rw [ih j h3, if_neg (by omega)]
    show (if 6 * t ≤ k ∧ k < 6 * t + l.nv then fa_lo1 (fa_reap l (fa_mt l σ t) t k) else fa_reap l (fa_mt l σ t) t k) = if _ then fa_lo1 (fa_reap l (fa_rs l σ t) t k) else fa_reap l (fa_rs l σ t) t k
    by_cases hlo : k < 6 * t
    · rw [if_neg (by omega), fa_reap_lo hlo (by omega) hmt, fa_reap_lo hlo (by omega) hrs, ih k hk]
      by_cases q : k < 24 ∧ k < 6 * t ∧ k % 6 < l.nv
      · rw [if_pos q, if_pos (by omega)]
      · rw [if_neg q, if_neg (by omega)]
    · rw [fa_reap_eq (by omega) hrs hsame (by omega) hk]
      by_cases q : 6 * t ≤ k ∧ k < 6 * t + l.nv
      · rw [if_pos q, if_pos (by omega)]
      · rw [if_neg q, if_neg (by omega)]
theorem fa_mt_loc {l : fa_L} {σ : Nat → Int32} {B : Nat} (hl : fa_wl l) (h : fa_wS l σ B) {k : Nat} (hk : k < 45) : fa_mt l σ l.nt k = fa_loc (fa_rs l σ l.nt) 24 k := by
  have h1 := hl.nt
  have h2 := hl.nv
  rw [fa_mt_at hl h.so _ h1 k hk]
  unfold fa_loc
  by_cases h24 : k < 24
  · rw [if_pos h24]
    by_cases q : k < 24 ∧ k < 6 * l.nt ∧ k % 6 < l.nv
    · rw [if_pos q]
    · rw [if_neg q]
      have e := (h.rs hl l.nt h1).s0 (k / 6) (k % 6) (by omega) (by omega) (by omega)
      rw [show 6 * (k / 6) + k % 6 = k by omega] at e
      rw [e]
      exact fa_lo1_0.symm
  · rw [if_neg h24, if_neg (by omega)]
/-- one season of the reference -/
theorem fa_goes {M : fv_M} {l : fa_L} {σ : Nat → Int32} {B : Nat} (hl : fa_wl l) (hB : B ≤ 100000) (hw : fa_wS l σ B) (hL : fa_lm M l) (hc : fa_m M (92 + 18) σ) :
    ∃ M', g_M_goes M 92 = some (nI (fa_goB l σ), M') ∧ fa_m M' (92 + 18) (fa_goS l σ) ∧ ∀ j, j ≠ 92 + 18 → M' j = M j := by
  have h3 := hl.nw
  have h4 := hl.nt
  obtain ⟨a, ha, ea⟩ := hw.se
  obtain ⟨M1, e1, c1, f1⟩ := fa_goes_4 (σ := σ) hl ⟨a, by omega, ea⟩ l.nw 0 fx_FU M (by omega) (by unfold fx_FU; omega) hL hc
  have w1 := hw.ws hl hB l.nw (Nat.le_refl _)
  obtain ⟨M2, e2, c2, f2⟩ := fa_goes_82 (σ := (fa_ws l σ l.nw).2) (a1 := nI (fa_ws l σ l.nw).1) hl w1.so l.nt 0 fx_FU M1 (by omega) (by unfold fx_FU; omega) (hL.fr f1) c1
  have c2' : fa_m M2 (92 + 18) (fa_loc (fa_rs l (fa_ws l σ l.nw).2 l.nt) 24) := c2.eq (fun k hk => (fa_mt_loc hl w1 hk).symm)
  have h44 : M2 (92 + 18) 44 = σ 44 := by
    rw [c2' 44 (by omega)]
    unfold fa_loc
    rw [if_neg (by omega), fa_rs_44 hl w1.so _ h4, fa_ws_44 hl _ (Nat.le_refl _)]
  refine ⟨fv_set M2 (92 + 18) 44 (M2 (92 + 18) 44 + 1), ?_, ?_, fun j hj => by rw [fv_set_ne _ _ _ _ j hj, f2 j hj, f1 j hj]⟩
  · unfold g_M_goes
    have e1' := e1
    rw [show nI (fa_ws l σ 0).1 = nI 0 from rfl] at e1'
    rw [show (0 : Int32) = nI 0 from rfl, e1', e2, fa_44]
    rfl
  · have := c2'.put (k := 44) (x := M2 (92 + 18) 44 + 1)
    rw [h44] at this ⊢
    exact this
/-- many seasons -/
def fa_goN (l : fa_L) (σ : Nat → Int32) : Nat → (Nat → Int32)
  | 0 => σ
  | n + 1 => fa_goS l (fa_goN l σ n)
theorem fa_wS.goN {l : fa_L} {σ : Nat → Int32} {B : Nat} (hl : fa_wl l) (h : fa_wS l σ B) : ∀ n, B + n ≤ 100000 → fa_wS l (fa_goN l σ n) (B + n) := by
  intro n
  induction n with
  | zero => exact fun _ => h
  | succ n ih =>
    intro hn
    have h2 := fa_wS.goS (B := B + n) hl (by omega) (ih (by omega))
    exact h2
theorem fa_goAhead_2 {L D s : Nat} {l : fa_L} {σ : Nat → Int32} {B N : Nat} (hs : L + 10 ≤ s) (hl : fa_wl l) (hw : fa_wS l σ B) (hB : B + N ≤ 100000) : ∀ (d k f : Nat) (M : fv_M), k + d = N → d < f → fa_lc M L l → fa_ls M L l → fa_c M s (fa_goN l σ k) →
    ∃ M', (∀ kk, g_X_goAhead_2 L D s (nI N) f M (nI k) kk = kk M' (nI N)) ∧ fa_c M' s (fa_goN l σ N) ∧ ∀ j, (j < s ∨ s + 5 ≤ j) → M' j = M j := by
  intro d
  induction d with
  | zero =>
    intro k f M hk hf hL hS hc
    obtain ⟨f, rfl⟩ : ∃ g, f = g + 1 := ⟨f - 1, by omega⟩
    have : k = N := by omega
    subst this
    refine ⟨M, fun kk => ?_, hc, fun _ _ => rfl⟩
    rw [g_X_goAhead_2, if_pos (nI_le (Nat.le_refl _) (by omega))]
  | succ d ih =>
    intro k f M hk hf hL hS hc
    obtain ⟨f, rfl⟩ : ∃ g, f = g + 1 := ⟨f - 1, by omega⟩
    obtain ⟨M1, e1, c1, f1⟩ := fa_goBy hs hl (hw.goN hl k (by omega)).so hL hS hc
    obtain ⟨M3, e3, c3, f3⟩ := ih (k + 1) f M1 (by omega) (by omega) (hL.fr hs f1) (hS.fr hs f1) c1
    exact ⟨M3, fun kk => by rw [g_X_goAhead_2, if_neg (nI_ge (by omega) (by omega)), e1, Option.bind_some, nI_1, e3], c3, fun j hj => by rw [f3 j hj, f1 j hj]⟩
theorem fa_goAhead {M : fv_M} {L D s : Nat} {l : fa_L} {σ : Nat → Int32} {B N : Nat} (hs : L + 10 ≤ s) (hl : fa_wl l) (hw : fa_wS l σ B) (hB : B + N ≤ 100000) (hN : N ≤ 900) (hL : fa_lc M L l) (hS : fa_ls M L l) (hc : fa_c M s σ) :
    ∃ M', g_X_goAhead M L D s (nI N) = some M' ∧ fa_c M' s (fa_goN l σ N) ∧ ∀ j, (j < s ∨ s + 5 ≤ j) → M' j = M j := by
  obtain ⟨M1, e1, c1, f1⟩ := fa_goAhead_2 (L := L) (D := D) hs hl hw hB N 0 fx_FU M (by omega) (by unfold fx_FU; omega) hL hS hc
  exact ⟨M1, by unfold g_X_goAhead; rw [show (0 : Int32) = nI 0 from rfl, e1], c1, f1⟩
theorem fa_goesOn_2 {l : fa_L} {σ : Nat → Int32} {B N : Nat} (hl : fa_wl l) (hw : fa_wS l σ B) (hB : B + N ≤ 100000) : ∀ (d k f : Nat) (M : fv_M), k + d = N → d < f → fa_lm M l → fa_m M (92 + 18) (fa_goN l σ k) →
    ∃ M', (∀ kk, g_M_goesOn_2 92 (nI N) f M (nI k) kk = kk M' (nI N)) ∧ fa_m M' (92 + 18) (fa_goN l σ N) ∧ ∀ j, j ≠ 92 + 18 → M' j = M j := by
  intro d
  induction d with
  | zero =>
    intro k f M hk hf hL hc
    obtain ⟨f, rfl⟩ : ∃ g, f = g + 1 := ⟨f - 1, by omega⟩
    have : k = N := by omega
    subst this
    refine ⟨M, fun kk => ?_, hc, fun _ _ => rfl⟩
    rw [g_M_goesOn_2, if_pos (nI_le (Nat.le_refl _) (by omega))]
  | succ d ih =>
    intro k f M hk hf hL hc
    obtain ⟨f, rfl⟩ : ∃ g, f = g + 1 := ⟨f - 1, by omega⟩
    obtain ⟨M1, e1, c1, f1⟩ := fa_goes hl (by omega) (hw.goN hl k (by omega)) hL hc
    obtain ⟨M3, e3, c3, f3⟩ := ih (k + 1) f M1 (by omega) (by omega) (hL.fr f1) c1
    exact ⟨M3, fun kk => by rw [g_M_goesOn_2, if_neg (nI_ge (by omega) (by omega)), e1, Option.bind_some, nI_1, e3], c3, fun j hj => by rw [f3 j hj, f1 j hj]⟩
theorem fa_goesOn {M : fv_M} {l : fa_L} {σ : Nat → Int32} {B N : Nat} (hl : fa_wl l) (hw : fa_wS l σ B) (hB : B + N ≤ 100000) (hN : N ≤ 900) (hL : fa_lm M l) (hc : fa_m M (92 + 18) σ) :
    ∃ M', g_M_goesOn M 92 (nI N) = some M' ∧ fa_m M' (92 + 18) (fa_goN l σ N) ∧ ∀ j, j ≠ 92 + 18 → M' j = M j := by
  obtain ⟨M1, e1, c1, f1⟩ := fa_goesOn_2 hl hw hB N 0 fx_FU M (by omega) (by unfold fx_FU; omega) hL hc
  exact ⟨M1, by unfold g_M_goesOn; rw [show (0 : Int32) = nI 0 from rfl, e1], c1, f1⟩
