/-! one season of the class is the abstract one -/
theorem fa_canSay {M : fv_M} {L : Nat} {l : fa_L} {t v : Nat} (hl : fa_wl l) (hS : fa_ls M L l) (ht : t < l.nt) (hv : v < l.nv) : g_L_canSay M L (nI t) (nI v) = some (if (fa_sd l t).testBit v = true then (1 : Int32) else 0) := by
  have h1 := hl.nt
  have h2 := hl.nv
  have h3 := fa_sd_lt hl t
  unfold g_L_canSay
  rw [fa_at (by omega) (by omega), Option.bind_some, hS t ht, fa_has (by omega) (by omega), Option.bind_some, fa_ckb]
theorem fa_usedOf {M : fv_M} {s : Nat} {σ : Nat → Int32} {kd : Nat} {n : Int32} (hk : kd < 2 ^ 31) (h : M s 0 = σ 44) : g_S_usedOf M s (nI kd) n = some (fa_used kd n (σ 44)) := by
  unfold g_S_usedOf g_S_usesSmall fa_used
  rw [h]
  have e1 : (nI kd = (1 : Int32)) ↔ kd = 1 := nI_eq hk (by decide)
  have e3 : (nI kd = (3 : Int32)) ↔ kd = 3 := nI_eq hk (by decide)
  by_cases h1 : kd = 1
  · rw [if_pos (e1.mpr h1), if_pos h1]
    by_cases h2 : σ 44 - σ 44 / (2 : Int32) * (2 : Int32) = (1 : Int32)
    · rw [if_pos h2, if_pos h2, Option.bind_some, if_neg fa_10]
    · rw [if_neg h2, if_neg h2, Option.bind_some, if_pos rfl]
  · rw [if_neg (fun q => h1 (e1.mp q)), if_neg h1]
    by_cases h2 : kd = 3
    · rw [if_pos (e3.mpr h2), if_pos h2]
      by_cases h3 : n < (2 : Int32)
      · rw [if_pos h3, if_pos h3]
      · rw [if_neg h3, if_neg h3]
    · rw [if_neg (fun q => h2 (e3.mp q)), if_neg h2]
theorem fa_tryWork {M : fv_M} {L s : Nat} {l : fa_L} {σ : Nat → Int32} {w : Nat} (hl : fa_wl l) (hL : fa_lc M L l) (hS : fa_ls M L l) (hc : fa_c M s σ) (hw : w < l.nw) :
    ∃ M', g_S_tryWork M s L (nI w) = some (if (fa_tw l σ w).1 = true then (1 : Int32) else 0, M') ∧ fa_c M' s (fa_tw l σ w).2 ∧ ∀ j, j ≠ s + 1 → M' j = M j := by
  have h1 := hl.nt
  have h2 := hl.nv
  have h3 := hl.nw
  have ht := hl.wt w hw
  have hv := hl.wv w hw
  have hk := hl.kd _ hv
  unfold g_S_tryWork
  rw [fa_at (by omega) (by omega), Option.bind_some, hL.wt w hw, fa_at (by omega) (by omega), Option.bind_some, hL.wv w hw, fa_stock hc (by omega) (by omega), Option.bind_some]
  unfold fa_tw
  by_cases h0 : σ (6 * l.wt w + l.wv w) = 0
  · rw [if_pos h0, if_pos h0, fa_canSay hl hS ht hv, Option.bind_some, fa_ckb]
    exact ⟨M, rfl, hc, fun _ _ => rfl⟩
  · rw [if_neg h0, if_neg h0, fa_at (by omega) (by omega), Option.bind_some, hL.kd _ hv, fa_usedOf (by omega) hc.se, Option.bind_some, fa_setStock (by omega) (by omega), Option.bind_some]
    exact ⟨_, rfl, hc.stk (by omega), fun j hj => fv_set_ne _ _ _ _ j hj⟩
theorem fa_lc.fr {M M' : fv_M} {L s : Nat} {l : fa_L} (hs : L + 10 ≤ s) (hf : ∀ j, (j < s ∨ s + 5 ≤ j) → M' j = M j) (h : fa_lc M L l) : fa_lc M' L l := h.go (fun j _ _ _ => hf j (Or.inl (by omega)))
theorem fa_ls.fr {M M' : fv_M} {L s : Nat} {l : fa_L} (hs : L + 10 ≤ s) (hf : ∀ j, (j < s ∨ s + 5 ≤ j) → M' j = M j) (h : fa_ls M L l) : fa_ls M' L l := fun t ht => by rw [hf (L + 5) (Or.inl (by omega))]; exact h t ht
theorem fa_goBy_4 {L s : Nat} {l : fa_L} {σ : Nat → Int32} (hs : L + 10 ≤ s) (hl : fa_wl l) : ∀ (d k f : Nat) (M : fv_M), k + d = l.nw → d < f → fa_lc M L l → fa_ls M L l → fa_c M s (fa_ws l σ k).2 →
    ∃ M', (∀ kk, g_S_goBy_4 s L f M (nI (fa_ws l σ k).1) (nI k) kk = kk M' (nI (fa_ws l σ l.nw).1) (nI l.nw)) ∧ fa_c M' s (fa_ws l σ l.nw).2 ∧ ∀ j, (j < s ∨ s + 5 ≤ j) → M' j = M j := by
  have h3 := hl.nw
  intro d
  induction d with
  | zero =>
    intro k f M hk hf hL hS hc
    obtain ⟨f, rfl⟩ : ∃ g, f = g + 1 := ⟨f - 1, by omega⟩
    have : k = l.nw := by omega
    subst this
    refine ⟨M, fun kk => ?_, hc, fun _ _ => rfl⟩
    rw [g_S_goBy_4, hL.nw, if_pos (nI_le (Nat.le_refl _) (by omega))]
  | succ d ih =>
    intro k f M hk hf hL hS hc
    obtain ⟨f, rfl⟩ : ∃ g, f = g + 1 := ⟨f - 1, by omega⟩
    obtain ⟨M1, e1, c1, f1⟩ := fa_tryWork hl hL hS hc (w := k) (by omega)
    have hstep : ∃ M2, (∀ kk, g_S_goBy_4 s L (f + 1) M (nI (fa_ws l σ k).1) (nI k) kk = g_S_goBy_4 s L f M2 (nI (fa_ws l σ (k + 1)).1) (nI (k + 1)) kk) ∧ fa_c M2 s (fa_ws l σ (k + 1)).2 ∧ ∀ j, (j < s ∨ s + 5 ≤ j) → M2 j = M j := by
      by_cases hb : (fa_tw l (fa_ws l σ k).2 k).1 = true
      · refine ⟨fv_set M1 (s + 3) k (M1 (s + 3) k + 1), fun kk => ?_, ?_, fun j hj => ?_⟩
        · rw [g_S_goBy_4, hL.nw, if_neg (nI_ge (by omega) (by omega)), e1, Option.bind_some, if_pos hb, if_neg fa_10, fa_at (by omega) (by omega), Option.bind_some, fa_put (by omega) (by omega), Option.bind_some, fa_shl (by omega), fa_or, nI_1]
          show _ = g_S_goBy_4 s L f _ (nI (if (fa_w1 l (fa_ws l σ k).2 k).1 = true then (fa_ws l σ k).1 ||| 2 ^ k else (fa_ws l σ k).1)) (nI (k + 1)) kk
          rw [if_pos (show (fa_w1 l (fa_ws l σ k).2 k).1 = true from hb)]
        · show fa_c _ s (fa_w1 l (fa_ws l σ k).2 k).2
          unfold fa_w1
          rw [if_pos hb, ← c1.dn k (by omega)]
          exact c1.don (by omega)
        · rw [fv_set_ne _ _ _ _ j (by omega), f1 j (by omega)]
      · refine ⟨fv_set M1 (s + 4) k (M1 (s + 4) k + 1), fun kk => ?_, ?_, fun j hj => ?_⟩
        · rw [g_S_goBy_4, hL.nw, if_neg (nI_ge (by omega) (by omega)), e1, Option.bind_some, if_neg hb, if_pos rfl, fa_at (by omega) (by omega), Option.bind_some, fa_put (by omega) (by omega), Option.bind_some, nI_1]
          show _ = g_S_goBy_4 s L f _ (nI (if (fa_w1 l (fa_ws l σ k).2 k).1 = true then (fa_ws l σ k).1 ||| 2 ^ k else (fa_ws l σ k).1)) (nI (k + 1)) kk
          rw [if_neg (show ¬ (fa_w1 l (fa_ws l σ k).2 k).1 = true from hb)]
        · show fa_c _ s (fa_w1 l (fa_ws l σ k).2 k).2
          unfold fa_w1
          rw [if_neg hb, ← c1.fg k (by omega)]
          exact c1.fgt (by omega)
        · rw [fv_set_ne _ _ _ _ j (by omega), f1 j (by omega)]
    obtain ⟨M2, e2, c2, f2⟩ := hstep
    obtain ⟨M3, e3, c3, f3⟩ := ih (k + 1) f M2 (by omega) (by omega) (hL.fr hs f2) (hS.fr hs f2) c2
    exact ⟨M3, fun kk => by rw [e2, e3], c3, fun j hj => by rw [f3 j hj, f2 j hj]⟩
theorem fa_nI_nn {n : Nat} (h : n < 2 ^ 31) : ¬ nI n < 0 := nI_pos h
theorem fa_m1 : ((-1 : Int32) < 0) := by decide
theorem fa_reapc {M : fv_M} {L s : Nat} {l : fa_L} {σ : Nat → Int32} {t : Nat} (hl : fa_wl l) (hL : fa_lc M L l) (hc : fa_c M s σ) (ht : t < l.nt) (hso : σ (24 + t) = -1 ∨ ∃ v, v < l.nv ∧ σ (24 + t) = nI v) :
    ∃ M', g_S_reap M s L (nI t) = some M' ∧ fa_c M' s (fa_reap l σ t) ∧ ∀ j, (j < s ∨ s + 5 ≤ j) → M' j = M j := by
  have h1 := hl.nt
  have h2 := hl.nv
  unfold g_S_reap
  rw [fa_at (by omega) (by omega), Option.bind_some, hc.so t (by omega)]
  unfold fa_reap
  rcases hso with hso | ⟨v, hv, hso⟩
  · rw [hso, if_pos fa_m1, if_pos rfl, if_pos fa_m1]
    exact ⟨M, rfl, hc, fun _ _ => rfl⟩
  · have hk := hl.kd v hv
    have e2 : (nI (l.kd v) = (2 : Int32)) ↔ l.kd v = 2 := nI_eq (by omega) (by decide)
    rw [hso, if_neg (nI_pos (by omega)), if_neg (show ¬ nI v = (-4 : Int32) from fun q => by
      have := congrArg Int32.toInt q
      rw [nI_toInt (by omega)] at this
      have h4 : ((-4 : Int32)).toInt = -4 := by decide
      omega), if_neg (nI_pos (by omega)), nI_clamp (by omega), fa_at (by omega) (by omega), Option.bind_some, hL.cr v hv, fa_at (by omega) (by omega), Option.bind_some, hL.kd v hv]
    have hsow : ∀ (M : fv_M) (τ : Nat → Int32), fa_c M s τ → fa_c (fv_set M (s + 2) t (-4)) s (upd τ (24 + t) (-1)) := fun M τ h => h.sow (by omega) (by rw [if_pos fa_m1])
    by_cases hk2 : l.kd v = 2
    · rw [if_pos (e2.mpr hk2), if_pos hk2, fa_stock hc (by omega) (by omega), Option.bind_some, fa_setStock (by omega) (by omega), Option.bind_some, fa_put (by omega) (by omega), Option.bind_some]
      exact ⟨_, rfl, hsow _ _ (hc.stk (by omega)), fun j hj => by rw [fv_set_ne _ _ _ _ j (by omega), fv_set_ne _ _ _ _ j (by omega)]⟩
    · rw [if_neg (fun q => hk2 (e2.mp q)), if_neg hk2, fa_stock hc (by omega) (by omega), Option.bind_some, fa_setStock (by omega) (by omega), Option.bind_some, fa_put (by omega) (by omega), Option.bind_some]
      exact ⟨_, rfl, hsow _ _ (hc.stk (by omega)), fun j hj => by rw [fv_set_ne _ _ _ _ j (by omega), fv_set_ne _ _ _ _ j (by omega)]⟩
theorem fa_reap_so {l : fa_L} {σ : Nat → Int32} {t j : Nat} (hj : j < 4) (hv : σ (24 + t) < 0 ∨ (σ (24 + t)).toNatClampNeg < 6) (ht : t < 4) : fa_reap l σ t (24 + j) = if j = t ∧ ¬ σ (24 + t) < 0 then -1 else σ (24 + j) := by
  unfold fa_reap
  by_cases h : σ (24 + t) < 0
  · rw [if_pos h, if_neg (fun q => q.2 h)]
  · rw [if_neg h]
    by_cases e : j = t
    · subst e
      rw [fa_upd_same, if_pos ⟨rfl, h⟩]
    · rw [fa_upd_ne _ _ (by omega), fa_upd_ne _ _ (by have := hv.resolve_left h; omega), if_neg (fun q => e q.1)]
def fa_sok (l : fa_L) (σ : Nat → Int32) : Prop := ∀ t, t < 4 → σ (24 + t) = -1 ∨ ∃ v, v < l.nv ∧ t < l.nt ∧ σ (24 + t) = nI v
theorem fa_sok.lt {l : fa_L} {σ : Nat → Int32} (hl : fa_wl l) (h : fa_sok l σ) {t : Nat} (ht : t < 4) : σ (24 + t) < 0 ∨ (σ (24 + t)).toNatClampNeg < 6 := by
  have := hl.nv
  rcases h t ht with q | ⟨v, hv, -, q⟩
  · rw [q]; exact Or.inl fa_m1
  · rw [q, nI_clamp (by omega)]; exact Or.inr (by omega)
theorem fa_sok.reap {l : fa_L} {σ : Nat → Int32} {t : Nat} (hl : fa_wl l) (h : fa_sok l σ) (ht : t < 4) : fa_sok l (fa_reap l σ t) := by
  intro j hj
  rw [fa_reap_so hj (h.lt hl ht) ht]
  split
  · exact Or.inl rfl
  · exact h j hj
theorem fa_sok.rs {l : fa_L} {σ : Nat → Int32} (hl : fa_wl l) (h : fa_sok l σ) : ∀ t, t ≤ 4 → fa_sok l (fa_rs l σ t) := by
  intro t
  induction t with
  | zero => exact fun _ => h
  | succ t ih => exact fun ht => (ih (by omega)).reap hl (by omega)
theorem fa_sok.one {l : fa_L} {τ σ : Nat → Int32} (h : fa_sok l σ) (e : ∀ t, t < 4 → τ (24 + t) = σ (24 + t)) : fa_sok l τ := fun t ht => by rw [e t ht]; exact h t ht
theorem fa_w1_so {l : fa_L} (hl : fa_wl l) {σ : Nat → Int32} {w t : Nat} (hw : w < l.nw) (ht : t < 4) : (fa_w1 l σ w).2 (24 + t) = σ (24 + t) := by
  have h1 := hl.nt
  have h2 := hl.nv
  have h3 := hl.nw
  have h4 := hl.wt w hw
  have h5 := hl.wv w hw
  have e : (fa_tw l σ w).2 (24 + t) = σ (24 + t) := by
    unfold fa_tw
    split
    · rfl
    · exact fa_upd_ne _ _ (by omega)
  unfold fa_w1
  dsimp only
  split
  · rw [fa_upd_ne _ _ (by omega), e]
  · rw [fa_upd_ne _ _ (by omega), e]
theorem fa_ws_so {l : fa_L} (hl : fa_wl l) {σ : Nat → Int32} {t : Nat} (ht : t < 4) : ∀ w, w ≤ l.nw → (fa_ws l σ w).2 (24 + t) = σ (24 + t) := by
  intro w
  induction w with
  | zero => exact fun _ => rfl
  | succ w ih =>
    intro hw
    show (fa_w1 l (fa_ws l σ w).2 w).2 (24 + t) = _
    rw [fa_w1_so hl (by omega) ht, ih (by omega)]
theorem fa_goBy_74 {L s : Nat} {l : fa_L} {σ : Nat → Int32} {a2 : Int32} (hs : L + 10 ≤ s) (hl : fa_wl l) (hso : fa_sok l σ) : ∀ (d k f : Nat) (M : fv_M), k + d = l.nt → d < f → fa_lc M L l → fa_c M s (fa_rs l σ k) →
    ∃ M', (∀ kk, g_S_goBy_74 s L a2 f M (nI k) kk = kk M' (nI l.nt)) ∧ fa_c M' s (fa_rs l σ l.nt) ∧ ∀ j, (j < s ∨ s + 5 ≤ j) → M' j = M j := by
  have h3 := hl.nt
  intro d
  induction d with
  | zero =>
    intro k f M hk hf hL hc
    obtain ⟨f, rfl⟩ : ∃ g, f = g + 1 := ⟨f - 1, by omega⟩
    have : k = l.nt := by omega
    subst this
    refine ⟨M, fun kk => ?_, hc, fun _ _ => rfl⟩
    rw [g_S_goBy_74, hL.nt, if_pos (nI_le (Nat.le_refl _) (by omega))]
  | succ d ih =>
    intro k f M hk hf hL hc
    obtain ⟨f, rfl⟩ : ∃ g, f = g + 1 := ⟨f - 1, by omega⟩
    obtain ⟨M1, e1, c1, f1⟩ := fa_reapc hl hL hc (t := k) (by omega) (((hso.rs hl) k (by omega) k (by omega)).imp id (fun ⟨v, q1, _, q3⟩ => ⟨v, q1, q3⟩))
    obtain ⟨M3, e3, c3, f3⟩ := ih (k + 1) f M1 (by omega) (by omega) (hL.fr hs f1) c1
    exact ⟨M3, fun kk => by rw [g_S_goBy_74, hL.nt, if_neg (nI_ge (by omega) (by omega)), e1, Option.bind_some, nI_1, e3], c3, fun j hj => by rw [f3 j hj, f1 j hj]⟩
theorem fa_feed_2 {s : Nat} {σ : Nat → Int32} : ∀ (d k f : Nat) (M : fv_M), k + d = 24 → d < f → fa_c M s (fa_loc σ k) →
    ∃ M', (∀ kk, g_S_feedLocusts_2 s f M (nI k) kk = kk M' (nI 24)) ∧ fa_c M' s (fa_loc σ 24) ∧ ∀ j, (j < s ∨ s + 5 ≤ j) → M' j = M j := by
  intro d
  induction d with
  | zero =>
    intro k f M hk hf hc
    obtain ⟨f, rfl⟩ : ∃ g, f = g + 1 := ⟨f - 1, by omega⟩
    have : k = 24 := by omega
    subst this
    refine ⟨M, fun kk => ?_, hc, fun _ _ => rfl⟩
    rw [g_S_feedLocusts_2, if_pos (show (24 : Int32) ≤ nI 24 from nI_le (Nat.le_refl _) (by omega))]
  | succ d ih =>
    intro k f M hk hf hc
    obtain ⟨f, rfl⟩ : ∃ g, f = g + 1 := ⟨f - 1, by omega⟩
    have hk0 : fa_loc σ k k = σ k := if_neg (by omega)
    have hm : M (s + 1) k = σ k := by rw [hc.sk k (by omega), hk0]
    have hne : ∀ x, x = fa_lo1 (σ k) → ∀ j, j < 45 → fa_loc σ (k + 1) j = upd (fa_loc σ k) k x j := by
      intro x hx j hj
      by_cases e : j = k
      · subst e; rw [fa_upd_same, hx]; exact if_pos (by omega)
      · rw [fa_upd_ne _ _ e]
        unfold fa_loc
        by_cases q : j < k
        · rw [if_pos q, if_pos (by omega)]
        · rw [if_neg q, if_neg (by omega)]
    by_cases h40 : σ k < (40 : Int32)
    · obtain ⟨M3, e3, c3, f3⟩ := ih (k + 1) f M (by omega) (by omega) (hc.eq (fun j hj => by
        rw [hne (σ k) (by unfold fa_lo1; rw [if_pos h40]) j hj]
        by_cases e : j = k
        · subst e; rw [fa_upd_same, hk0]
        · exact fa_upd_ne _ _ e))
      exact ⟨M3, fun kk => by rw [g_S_feedLocusts_2, if_neg (show ¬ (24 : Int32) ≤ nI k from nI_ge (a := k) (b := 24) (by omega) (by omega)), fa_cki (by omega) (by omega), nI_clamp (by omega), hm, if_pos h40, nI_1, e3], c3, fun j hj => by rw [f3 j hj]⟩
    · obtain ⟨M3, e3, c3, f3⟩ := ih (k + 1) f (fv_set M (s + 1) k (σ k - σ k / (10 : Int32))) (by omega) (by omega) ((hc.stk (by omega)).eq (fun j hj => hne _ (by unfold fa_lo1; rw [if_neg h40]) j hj))
      exact ⟨M3, fun kk => by rw [g_S_feedLocusts_2, if_neg (show ¬ (24 : Int32) ≤ nI k from nI_ge (a := k) (b := 24) (by omega) (by omega)), fa_cki (by omega) (by omega), nI_clamp (by omega), hm, if_neg h40, nI_1, e3], c3, fun j hj => by rw [f3 j hj, fv_set_ne _ _ _ _ j (by omega)]⟩
theorem fa_ws_44 {l : fa_L} (hl : fa_wl l) {σ : Nat → Int32} : ∀ w, w ≤ l.nw → (fa_ws l σ w).2 44 = σ 44 := by
  have h1 := hl.nt
  have h2 := hl.nv
  have h3 := hl.nw
  intro w
  induction w with
  | zero => exact fun _ => rfl
  | succ w ih =>
    intro hw
    have h4 := hl.wt w (by omega)
    have h5 := hl.wv w (by omega)
    show (fa_w1 l (fa_ws l σ w).2 w).2 44 = _
    have e : (fa_tw l (fa_ws l σ w).2 w).2 44 = σ 44 := by
      unfold fa_tw
      split
      · exact ih (by omega)
      · show upd _ _ _ 44 = _
        rw [fa_upd_ne _ _ (by omega)]; exact ih (by omega)
    unfold fa_w1
    dsimp only
    split
    · rw [fa_upd_ne _ _ (by omega), e]
    · rw [fa_upd_ne _ _ (by omega), e]
theorem fa_rs_44 {l : fa_L} {σ : Nat → Int32} (hl : fa_wl l) (h : fa_sok l σ) : ∀ t, t ≤ 4 → fa_rs l σ t 44 = σ 44 := by
  intro t
  induction t with
  | zero => exact fun _ => rfl
  | succ t ih =>
    intro ht
    show fa_reap l (fa_rs l σ t) t 44 = _
    unfold fa_reap
    have := (h.rs hl t (by omega)).lt hl (t := t) (by omega)
    split
    · exact ih (by omega)
    · rename_i hn
      rw [fa_upd_ne _ _ (by omega), fa_upd_ne _ _ (by have := this.resolve_left hn; omega)]
      exact ih (by omega)
/-- one season of the class -/
theorem fa_goBy {M : fv_M} {L s : Nat} {l : fa_L} {σ : Nat → Int32} (hs : L + 10 ≤ s) (hl : fa_wl l) (hso : fa_sok l σ) (hL : fa_lc M L l) (hS : fa_ls M L l) (hc : fa_c M s σ) :
    ∃ M', g_S_goBy M s L = some (nI (fa_goB l σ), M') ∧ fa_c M' s (fa_goS l σ) ∧ ∀ j, (j < s ∨ s + 5 ≤ j) → M' j = M j := by
  have h3 := hl.nw
  have h4 := hl.nt
  obtain ⟨M1, e1, c1, f1⟩ := fa_goBy_4 (σ := σ) hs hl l.nw 0 fx_FU M (by omega) (by unfold fx_FU; omega) hL hS hc
  have so1 : fa_sok l (fa_ws l σ l.nw).2 := hso.one (fun t ht => fa_ws_so hl ht _ (Nat.le_refl _))
  obtain ⟨M2, e2, c2, f2⟩ := fa_goBy_74 (σ := (fa_ws l σ l.nw).2) (a2 := nI (fa_ws l σ l.nw).1) hs hl so1 l.nt 0 fx_FU M1 (by omega) (by unfold fx_FU; omega) (hL.fr hs f1) c1
  obtain ⟨M3, e3, c3, f3⟩ := fa_feed_2 (s := s) (σ := fa_rs l (fa_ws l σ l.nw).2 l.nt) 24 0 fx_FU M2 (by omega) (by unfold fx_FU; omega) (c2.eq (fun k _ => if_neg (by omega)))
  have h44 : M3 s 0 = σ 44 := by
    rw [c3.se]
    unfold fa_loc
    rw [if_neg (by omega), fa_rs_44 hl so1 _ h4, fa_ws_44 hl _ (Nat.le_refl _)]
  refine ⟨fv_set M3 s 0 (M3 s 0 + 1), ?_, ?_, fun j hj => by rw [fv_set_ne _ _ _ _ j (by omega), f3 j hj, f2 j hj, f1 j hj]⟩
  · unfold g_S_goBy
    rw [show (0 : Int32) = nI (fa_ws l σ 0).1 from rfl, show (nI (fa_ws l σ 0).1) = nI 0 from rfl]
    have e1' := e1
    rw [show nI (fa_ws l σ 0).1 = nI 0 from rfl] at e1'
    rw [e1', e2]
    unfold g_S_feedLocusts
    rw [show (0 : Int32) = nI 0 from rfl, e3, Option.bind_some]
    rfl
  · have := c3.sea (x := M3 s 0 + 1)
    rw [h44] at this ⊢
    exact this
