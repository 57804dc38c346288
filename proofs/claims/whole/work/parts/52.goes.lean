/-! one season of the reference is the abstract one -/
theorem fa_m2 (a : Nat) : (2 : Int32) * nI a = nI (2 * a) := fa_mul 2 a
theorem fa_m3 (a : Nat) : (3 : Int32) * nI a = nI (3 * a) := fa_mul 3 a
theorem fa_m6 (a : Nat) : (6 : Int32) * nI a = nI (6 * a) := fa_mul 6 a
theorem fa_p2 (a : Nat) : nI a + (2 : Int32) = nI (a + 2) := nI_add a 2
theorem fa_24 (a : Nat) : (24 : Int32) + nI a = nI (24 + a) := nI_add 24 a
theorem fa_28 (a : Nat) : (28 : Int32) + nI a = nI (28 + a) := nI_add 28 a
theorem fa_36 (a : Nat) : (36 : Int32) + nI a = nI (36 + a) := nI_add 36 a
theorem fa_44 : ((44 : Int32)).toNatClampNeg = 44 := by decide
theorem fa_ckn {α : Type} {i n : Nat} {x : Option α} [Decidable (nI i < 0 ∨ n ≤ i)] (h : i < n) (hn : n < 2 ^ 31) : fx_ck (nI i < 0 ∨ n ≤ i) x = x := by
  unfold fx_ck
  rw [if_neg]
  rintro (q | q)
  · exact nI_pos (by omega) q
  · omega
def fa_row0 (l : fa_L) : Nat → Int32 := fun k => if k < 24 then nI (l.sk k) else if k < 28 then (-1 : Int32) else 0
def fa_lm (M : fv_M) (l : fa_L) : Prop := (M 92 0 = nI l.nv) ∧ (M 92 2 = nI l.nn) ∧ (M 92 4 = nI l.nt) ∧ (M 92 6 = nI l.nw) ∧ (∀ v, v < l.nv → M (92 + 1) (2 * v) = nI (l.kd v)) ∧ (∀ v, v < l.nv → M (92 + 1) (2 * v + 1) = nI (l.cr v)) ∧ (∀ n, n < l.nn → M (92 + 2) n = nI (l.mi n &&& (2 ^ l.nv - 1))) ∧ (∀ t, t < l.nt → M (92 + 3) t = nI (fa_own l t)) ∧ (∀ w, w < l.nw → M (92 + 4) (3 * w) = nI (l.wt w)) ∧ (∀ w, w < l.nw → M (92 + 4) (3 * w + 1) = nI (l.wv w)) ∧ (∀ w, w < l.nw → M (92 + 4) (3 * w + 2) = nI (l.ww w)) ∧ (∀ t, t < l.nt → M (92 + 5) t = nI (fa_sd l t)) ∧ (∀ k, k < 45 → M (92 + 7) k = fa_row0 l k)
theorem fa_lm.nv {M : fv_M} {l : fa_L} (h : fa_lm M l) : M 92 0 = nI l.nv := h.1
theorem fa_lm.nn {M : fv_M} {l : fa_L} (h : fa_lm M l) : M 92 2 = nI l.nn := h.2.1
theorem fa_lm.nt {M : fv_M} {l : fa_L} (h : fa_lm M l) : M 92 4 = nI l.nt := h.2.2.1
theorem fa_lm.nw {M : fv_M} {l : fa_L} (h : fa_lm M l) : M 92 6 = nI l.nw := h.2.2.2.1
theorem fa_lm.kd {M : fv_M} {l : fa_L} (h : fa_lm M l) : ∀ v, v < l.nv → M (92 + 1) (2 * v) = nI (l.kd v) := h.2.2.2.2.1
theorem fa_lm.cr {M : fv_M} {l : fa_L} (h : fa_lm M l) : ∀ v, v < l.nv → M (92 + 1) (2 * v + 1) = nI (l.cr v) := h.2.2.2.2.2.1
theorem fa_lm.mi {M : fv_M} {l : fa_L} (h : fa_lm M l) : ∀ n, n < l.nn → M (92 + 2) n = nI (l.mi n &&& (2 ^ l.nv - 1)) := h.2.2.2.2.2.2.1
theorem fa_lm.ow {M : fv_M} {l : fa_L} (h : fa_lm M l) : ∀ t, t < l.nt → M (92 + 3) t = nI (fa_own l t) := h.2.2.2.2.2.2.2.1
theorem fa_lm.wt {M : fv_M} {l : fa_L} (h : fa_lm M l) : ∀ w, w < l.nw → M (92 + 4) (3 * w) = nI (l.wt w) := h.2.2.2.2.2.2.2.2.1
theorem fa_lm.wv {M : fv_M} {l : fa_L} (h : fa_lm M l) : ∀ w, w < l.nw → M (92 + 4) (3 * w + 1) = nI (l.wv w) := h.2.2.2.2.2.2.2.2.2.1
theorem fa_lm.ww {M : fv_M} {l : fa_L} (h : fa_lm M l) : ∀ w, w < l.nw → M (92 + 4) (3 * w + 2) = nI (l.ww w) := h.2.2.2.2.2.2.2.2.2.2.1
theorem fa_lm.sd {M : fv_M} {l : fa_L} (h : fa_lm M l) : ∀ t, t < l.nt → M (92 + 5) t = nI (fa_sd l t) := h.2.2.2.2.2.2.2.2.2.2.2.1
theorem fa_lm.fs {M : fv_M} {l : fa_L} (h : fa_lm M l) : ∀ k, k < 45 → M (92 + 7) k = fa_row0 l k := h.2.2.2.2.2.2.2.2.2.2.2.2
theorem fa_lm.go {M M' : fv_M} {l : fa_L} (hf : ∀ j, 92 ≤ j → j < 100 → j ≠ 98 → M' j = M j) (h : fa_lm M l) : fa_lm M' l := ⟨
  (by rw [hf 92 (by omega) (by omega) (by omega)]; exact h.nv),
  (by rw [hf 92 (by omega) (by omega) (by omega)]; exact h.nn),
  (by rw [hf 92 (by omega) (by omega) (by omega)]; exact h.nt),
  (by rw [hf 92 (by omega) (by omega) (by omega)]; exact h.nw),
  (fun i hi => by rw [hf (92 + 1) (by omega) (by omega) (by omega)]; exact h.kd i hi),
  (fun i hi => by rw [hf (92 + 1) (by omega) (by omega) (by omega)]; exact h.cr i hi),
  (fun i hi => by rw [hf (92 + 2) (by omega) (by omega) (by omega)]; exact h.mi i hi),
  (fun i hi => by rw [hf (92 + 3) (by omega) (by omega) (by omega)]; exact h.ow i hi),
  (fun i hi => by rw [hf (92 + 4) (by omega) (by omega) (by omega)]; exact h.wt i hi),
  (fun i hi => by rw [hf (92 + 4) (by omega) (by omega) (by omega)]; exact h.wv i hi),
  (fun i hi => by rw [hf (92 + 4) (by omega) (by omega) (by omega)]; exact h.ww i hi),
  (fun i hi => by rw [hf (92 + 5) (by omega) (by omega) (by omega)]; exact h.sd i hi),
  (fun i hi => by rw [hf (92 + 7) (by omega) (by omega) (by omega)]; exact h.fs i hi)⟩
def fa_m (M : fv_M) (c : Nat) (σ : Nat → Int32) : Prop := ∀ k, k < 45 → M c k = σ k
theorem fa_m.put {M : fv_M} {c : Nat} {σ : Nat → Int32} {k : Nat} {x : Int32} (h : fa_m M c σ) : fa_m (fv_set M c k x) c (upd σ k x) := by
  intro j hj
  rw [fv_set_at]
  by_cases e : j = k
  · subst e; rw [fa_upd_same, fa_upd_same]
  · rw [fa_upd_ne _ _ e, fa_upd_ne _ _ e]; exact h j hj
theorem fa_m.eq {M : fv_M} {c : Nat} {σ τ : Nat → Int32} (hf : ∀ k, k < 45 → τ k = σ k) (h : fa_m M c σ) : fa_m M c τ := fun k hk => by rw [hf k hk]; exact h k hk
theorem fa_div2 {a : Nat} (h : a < 2 ^ 31) : nI a - nI a / (2 : Int32) * (2 : Int32) = nI (a % 2) := by
  have e : nI a / (2 : Int32) = nI (a / 2) := (Int32.ofNat_div h (by decide)).symm
  rw [e, show (2 : Int32) = nI 2 from rfl, fa_mul, fa_sub (by omega)]
  congr 1
  omega
theorem fa_usedS {kd : Nat} {n se : Int32} (h : ∃ a, a ≤ 100000 ∧ se = nI a) (h1 : kd = 1) : fa_used kd n se = se - se / (2 : Int32) * (2 : Int32) := by
  obtain ⟨a, ha, rfl⟩ := h
  unfold fa_used
  rw [if_pos h1, fa_div2 (by omega)]
  rcases Nat.mod_two_eq_zero_or_one a with q | q
  · rw [q]; rfl
  · rw [q]; rfl
theorem fa_lt2 (n : Int32) : n < (2 : Int32) ↔ n ≤ (1 : Int32) := by
  rw [Int32.lt_iff_toInt_lt, Int32.le_iff_toInt_le]
  have h1 : ((2 : Int32)).toInt = 2 := by decide
  have h2 : ((1 : Int32)).toInt = 1 := by decide
  omega
theorem fa_min60 (x : Int32) : (if x < (60 : Int32) then x else (60 : Int32)) = (if x ≤ (60 : Int32) then x else (60 : Int32)) := by
  by_cases h : x < (60 : Int32)
  · rw [if_pos h, if_pos (Int32.le_of_lt h)]
  · rw [if_neg h]
    by_cases h2 : x ≤ (60 : Int32)
    · rw [if_pos h2]
      exact Int32.le_antisymm (Int32.not_lt.mp h) h2
    · rw [if_neg h2]
set_option maxHeartbeats 4000000 in
theorem fa_isSaid {M : fv_M} {l : fa_L} {σ : Nat → Int32} {w : Nat} (hl : fa_wl l) (hL : fa_lm M l) (hc : fa_m M (92 + 18) σ) (hse : ∃ a, a ≤ 100000 ∧ σ 44 = nI a) (hw : w < l.nw) :
    ∃ M', g_M_isSaid M 92 (nI w) = some (if (fa_tw l σ w).1 = true then (1 : Int32) else 0, M') ∧ fa_m M' (92 + 18) (fa_tw l σ w).2 ∧ ∀ j, j ≠ 92 + 18 → M' j = M j := by
  have h1 := hl.nt
  have h2 := hl.nv
  have h3 := hl.nw
  have ht := hl.wt w hw
  have hv := hl.wv w hw
  have hk := hl.kd _ hv
  have hsd := fa_sd_lt hl (l.wt w)
  have e1 : (nI (l.kd (l.wv w)) = (1 : Int32)) ↔ l.kd (l.wv w) = 1 := nI_eq (by omega) (by decide)
  have e3 : (nI (l.kd (l.wv w)) = (3 : Int32)) ↔ l.kd (l.wv w) = 3 := nI_eq (by omega) (by decide)
  unfold g_M_isSaid
  simp (disch := omega) only [fa_m3, nI_1, nI_clamp, hL.wt w hw, hL.wv w hw, fa_m6, fa_m2, nI_add, fa_ckn, fa_44, hc (6 * l.wt w + l.wv w), hL.kd _ hv, hL.sd _ ht, hc 44]
  unfold fa_tw
  by_cases h0 : σ (6 * l.wt w + l.wv w) = 0
  · rw [if_pos h0, if_pos h0, fa_isIn (by omega) (by omega), Option.bind_some, fa_ckb]
    exact ⟨M, rfl, hc, fun _ _ => rfl⟩
  · rw [if_neg h0, if_neg h0]
    by_cases k1 : l.kd (l.wv w) = 1
    · rw [if_pos (e1.mpr k1), fa_usedS hse k1]
      exact ⟨_, rfl, hc.put, fun j hj => fv_set_ne _ _ _ _ j hj⟩
    · rw [if_neg (fun q => k1 (e1.mp q))]
      by_cases k3 : l.kd (l.wv w) = 3
      · rw [if_pos (e3.mpr k3)]
        have eu : fa_used (l.kd (l.wv w)) (σ (6 * l.wt w + l.wv w)) (σ 44) = if σ (6 * l.wt w + l.wv w) < (2 : Int32) then 1 else 2 := by unfold fa_used; rw [if_neg k1, if_pos k3]
        rw [eu]
        by_cases n1 : σ (6 * l.wt w + l.wv w) ≤ (1 : Int32)
        · rw [if_pos n1, if_pos ((fa_lt2 _).mpr n1)]
          exact ⟨_, rfl, hc.put, fun j hj => fv_set_ne _ _ _ _ j hj⟩
        · rw [if_neg n1, if_neg (fun q => n1 ((fa_lt2 _).mp q))]
          exact ⟨_, rfl, hc.put, fun j hj => fv_set_ne _ _ _ _ j hj⟩
      · rw [if_neg (fun q => k3 (e3.mp q))]
        have eu : fa_used (l.kd (l.wv w)) (σ (6 * l.wt w + l.wv w)) (σ 44) = 1 := by unfold fa_used; rw [if_neg k1, if_neg k3]
        rw [eu]
        exact ⟨_, rfl, hc.put, fun j hj => fv_set_ne _ _ _ _ j hj⟩
theorem fa_lm.fr {M M' : fv_M} {l : fa_L} (hf : ∀ j, j ≠ 92 + 18 → M' j = M j) (h : fa_lm M l) : fa_lm M' l := h.go (fun j _ _ _ => hf j (by omega))
theorem fa_or0 (a : Nat) : nI a ||| (0 : Int32) = nI a := by rw [show (0 : Int32) = nI 0 from rfl, fa_or, Nat.or_zero]
theorem fa_goes_4 {l : fa_L} {σ : Nat → Int32} (hl : fa_wl l) (hse : ∃ a, a ≤ 100000 ∧ σ 44 = nI a) : ∀ (d k f : Nat) (M : fv_M), k + d = l.nw → d < f → fa_lm M l → fa_m M (92 + 18) (fa_ws l σ k).2 →
    ∃ M', (∀ kk, g_M_goes_4 92 f M (nI (fa_ws l σ k).1) (nI k) kk = kk M' (nI (fa_ws l σ l.nw).1) (nI l.nw)) ∧ fa_m M' (92 + 18) (fa_ws l σ l.nw).2 ∧ ∀ j, j ≠ 92 + 18 → M' j = M j := by
  have h3 := hl.nw
  intro d
  induction d with
  | zero =>
    intro k f M hk hf hL hc
    obtain ⟨f, rfl⟩ : ∃ g, f = g + 1 := ⟨f - 1, by omega⟩
    have : k = l.nw := by omega
    subst this
    refine ⟨M, fun kk => ?_, hc, fun _ _ => rfl⟩
    rw [g_M_goes_4, hL.nw, if_pos (nI_le (Nat.le_refl _) (by omega))]
  | succ d ih =>
    intro k f M hk hf hL hc
    obtain ⟨f, rfl⟩ : ∃ g, f = g + 1 := ⟨f - 1, by omega⟩
    obtain ⟨M1, e1, c1, f1⟩ := fa_isSaid hl hL hc (by rw [fa_ws_44 hl k (by omega)]; exact hse) (w := k) (by omega)
    have hstep : ∃ M2, (∀ kk, g_M_goes_4 92 (f + 1) M (nI (fa_ws l σ k).1) (nI k) kk = g_M_goes_4 92 f M2 (nI (fa_ws l σ (k + 1)).1) (nI (k + 1)) kk) ∧ fa_m M2 (92 + 18) (fa_ws l σ (k + 1)).2 ∧ ∀ j, j ≠ 92 + 18 → M2 j = M j := by
      by_cases hb : (fa_tw l (fa_ws l σ k).2 k).1 = true
      · refine ⟨fv_set (fv_set M1 (92 + 18) (28 + k) (M1 (92 + 18) (28 + k) + (1 : Int32))) (92 + 18) (36 + k) ((fv_set M1 (92 + 18) (28 + k) (M1 (92 + 18) (28 + k) + (1 : Int32))) (92 + 18) (36 + k) + (0 : Int32)), fun kk => ?_, ?_, fun j hj => ?_⟩
        · rw [g_M_goes_4, hL.nw, if_neg (nI_ge (by omega) (by omega)), e1, Option.bind_some, if_pos hb, if_neg fa_10, fa_shl (by omega), fa_or, nI_1]
          simp (disch := omega) only [fa_28, fa_36, nI_clamp, fa_ckn]
          rw [show nI (fa_ws l σ (k + 1)).1 = nI (if (fa_w1 l (fa_ws l σ k).2 k).1 = true then (fa_ws l σ k).1 ||| 2 ^ k else (fa_ws l σ k).1) from rfl, if_pos (show (fa_w1 l (fa_ws l σ k).2 k).1 = true from hb)]
        · refine (c1.put.put).eq (fun j hj => ?_)
          show (fa_w1 l (fa_ws l σ k).2 k).2 j = _
          unfold fa_w1
          rw [if_pos hb]
          dsimp only
          rw [c1 (28 + k) (by omega)]
          by_cases e : j = 36 + k
          · subst e; rw [fa_upd_same, fv_set_at, fa_upd_ne _ _ (by omega), fa_upd_ne _ _ (by omega), c1 _ hj, Int32.add_zero]
          · rw [fa_upd_ne _ _ e]
        · rw [fv_set_ne _ _ _ _ j hj, fv_set_ne _ _ _ _ j hj, f1 j hj]
      · refine ⟨fv_set (fv_set M1 (92 + 18) (28 + k) (M1 (92 + 18) (28 + k) + (0 : Int32))) (92 + 18) (36 + k) ((fv_set M1 (92 + 18) (28 + k) (M1 (92 + 18) (28 + k) + (0 : Int32))) (92 + 18) (36 + k) + (1 : Int32)), fun kk => ?_, ?_, fun j hj => ?_⟩
        · rw [g_M_goes_4, hL.nw, if_neg (nI_ge (by omega) (by omega)), e1, Option.bind_some, if_neg hb, if_pos rfl, fa_or0, nI_1]
          simp (disch := omega) only [fa_28, fa_36, nI_clamp, fa_ckn]
          rw [show nI (fa_ws l σ (k + 1)).1 = nI (if (fa_w1 l (fa_ws l σ k).2 k).1 = true then (fa_ws l σ k).1 ||| 2 ^ k else (fa_ws l σ k).1) from rfl, if_neg (show ¬ (fa_w1 l (fa_ws l σ k).2 k).1 = true from hb)]
        · refine (c1.put.put).eq (fun j hj => ?_)
          show (fa_w1 l (fa_ws l σ k).2 k).2 j = _
          unfold fa_w1
          rw [if_neg hb]
          dsimp only
          rw [fv_set_at, fa_upd_ne _ _ (show 36 + k ≠ 28 + k by omega), c1 (36 + k) (by omega), c1 (28 + k) (by omega), Int32.add_zero]
          by_cases e : j = 36 + k
          · subst e; rw [fa_upd_same, fa_upd_same]
          · rw [fa_upd_ne _ _ e, fa_upd_ne _ _ e]
            by_cases e2 : j = 28 + k
            · subst e2; rw [fa_upd_same]
            · rw [fa_upd_ne _ _ e2]
        · rw [fv_set_ne _ _ _ _ j hj, fv_set_ne _ _ _ _ j hj, f1 j hj]
    obtain ⟨M2, e2, c2, f2⟩ := hstep
    obtain ⟨M3, e3, c3, f3⟩ := ih (k + 1) f M2 (by omega) (by omega) (hL.fr f2) c2
    exact ⟨M3, fun kk => by rw [e2, e3], c3, fun j hj => by rw [f3 j hj, f2 j hj]⟩
def fa_lr (t n : Nat) (σ : Nat → Int32) : Nat → Int32 := fun k => if 6 * t ≤ k ∧ k < 6 * t + n then fa_lo1 (σ k) else σ k
theorem fa_goes_184 {l : fa_L} {σ : Nat → Int32} {t : Nat} {a1 a3 : Int32} (hl : fa_wl l) (ht : t < 4) : ∀ (d k f : Nat) (M : fv_M), k + d = l.nv → d < f → fa_lm M l → fa_m M (92 + 18) (fa_lr t k σ) →
    ∃ M', (∀ kk, g_M_goes_184 92 a1 (nI t) a3 f M (nI k) kk = kk M' (nI l.nv)) ∧ fa_m M' (92 + 18) (fa_lr t l.nv σ) ∧ ∀ j, j ≠ 92 + 18 → M' j = M j := by
  have h3 := hl.nv
  intro d
  induction d with
  | zero =>
    intro k f M hk hf hL hc
    obtain ⟨f, rfl⟩ : ∃ g, f = g + 1 := ⟨f - 1, by omega⟩
    have : k = l.nv := by omega
    subst this
    refine ⟨M, fun kk => ?_, hc, fun _ _ => rfl⟩
    rw [g_M_goes_184, hL.nv, if_pos (nI_le (Nat.le_refl _) (by omega))]
  | succ d ih =>
    intro k f M hk hf hL hc
    obtain ⟨f, rfl⟩ : ∃ g, f = g + 1 := ⟨f - 1, by omega⟩
    have hm : M (92 + 18) (6 * t + k) = σ (6 * t + k) := by rw [hc _ (by omega)]; exact if_neg (by omega)
    have hne : ∀ x, x = fa_lo1 (σ (6 * t + k)) → ∀ j, j < 45 → fa_lr t (k + 1) σ j = upd (fa_lr t k σ) (6 * t + k) x j := by
      intro x hx j hj
      by_cases e : j = 6 * t + k
      · subst e; rw [fa_upd_same, hx]; exact if_pos (by omega)
      · rw [fa_upd_ne _ _ e]
        unfold fa_lr
        by_cases q : 6 * t ≤ j ∧ j < 6 * t + k
        · rw [if_pos q, if_pos (by omega)]
        · rw [if_neg q, if_neg (by omega)]
    have hstep : ∀ x, x = fa_lo1 (σ (6 * t + k)) → ∃ M', (∀ kk, g_M_goes_184 92 a1 (nI t) a3 f (fv_set M (92 + 18) (6 * t + k) x) (nI (k + 1)) kk = kk M' (nI l.nv)) ∧ fa_m M' (92 + 18) (fa_lr t l.nv σ) ∧ ∀ j, j ≠ 92 + 18 → M' j = M j := by
      intro x hx
      obtain ⟨M3, e3, c3, f3⟩ := ih (k + 1) f (fv_set M (92 + 18) (6 * t + k) x) (by omega) (by omega) (hL.fr (fun j hj => fv_set_ne _ _ _ _ j hj)) (hc.put.eq (hne x hx))
      exact ⟨M3, e3, c3, fun j hj => by rw [f3 j hj, fv_set_ne _ _ _ _ j hj]⟩
    by_cases h40 : σ (6 * t + k) < (40 : Int32)
    · obtain ⟨M3, e3, c3, f3⟩ := hstep (σ (6 * t + k)) (by unfold fa_lo1; rw [if_pos h40])
      refine ⟨M3, fun kk => ?_, c3, f3⟩
      rw [g_M_goes_184, hL.nv, if_neg (nI_ge (by omega) (by omega))]
      simp (disch := omega) only [fa_m6, nI_add, nI_clamp, fa_ckn, hm, nI_1]
      rw [if_pos h40, e3]
    · obtain ⟨M3, e3, c3, f3⟩ := hstep (σ (6 * t + k) - σ (6 * t + k) / (10 : Int32)) (by unfold fa_lo1; rw [if_neg h40])
      refine ⟨M3, fun kk => ?_, c3, f3⟩
      rw [g_M_goes_184, hL.nv, if_neg (nI_ge (by omega) (by omega))]
      simp (disch := omega) only [fa_m6, nI_add, nI_clamp, fa_ckn, hm, nI_1]
      rw [if_neg h40, e3]
def fa_mt (l : fa_L) (σ : Nat → Int32) : Nat → (Nat → Int32)
  | 0 => σ
  | t + 1 => fa_lr t l.nv (fa_reap l (fa_mt l σ t) t)
theorem fa_mt_so {l : fa_L} {σ : Nat → Int32} (hl : fa_wl l) (h : fa_sok l σ) : ∀ t, t ≤ 4 → fa_sok l (fa_mt l σ t) := by
  have := hl.nv
  intro t
  induction t with
  | zero => exact fun _ => h
  | succ t ih =>
    intro ht
    exact ((ih (by omega)).reap hl (by omega)).one (fun j hj => if_neg (by omega))
set_option maxHeartbeats 4000000 in
theorem fa_goes_82 {l : fa_L} {σ : Nat → Int32} {a1 : Int32} (hl : fa_wl l) (hso : fa_sok l σ) : ∀ (d k f : Nat) (M : fv_M), k + d = l.nt → d < f → fa_lm M l → fa_m M (92 + 18) (fa_mt l σ k) →
    ∃ M', (∀ kk, g_M_goes_82 92 a1 f M (nI k) kk = kk M' (nI l.nt)) ∧ fa_m M' (92 + 18) (fa_mt l σ l.nt) ∧ ∀ j, j ≠ 92 + 18 → M' j = M j := by
  have h3 := hl.nt
  have h4 := hl.nv
  intro d
  induction d with
  | zero =>
    intro k f M hk hf hL hc
    obtain ⟨f, rfl⟩ : ∃ g, f = g + 1 := ⟨f - 1, by omega⟩
    have : k = l.nt := by omega
    subst this
    refine ⟨M, fun kk => ?_, hc, fun _ _ => rfl⟩
    rw [g_M_goes_82, hL.nt, if_pos (nI_le (Nat.le_refl _) (by omega))]
  | succ d ih =>
    intro k f M hk hf hL hc
    obtain ⟨f, rfl⟩ : ∃ g, f = g + 1 := ⟨f - 1, by omega⟩
    have hstep : ∀ M1, fa_m M1 (92 + 18) (fa_reap l (fa_mt l σ k) k) → (∀ j, j ≠ 92 + 18 → M1 j = M j) → ∀ a3 : Int32, ∃ M', (∀ kk, g_M_goes_184 92 a1 (nI k) a3 fx_FU M1 0 (fun M_3 b4_3 => g_M_goes_82 92 a1 f M_3 (nI (k + 1)) kk) = kk M' (nI l.nt)) ∧ fa_m M' (92 + 18) (fa_mt l σ l.nt) ∧ ∀ j, j ≠ 92 + 18 → M' j = M j := by
      intro M1 c1 f1 a3
      obtain ⟨M2, e2, c2, f2⟩ := fa_goes_184 (l := l) (σ := fa_reap l (fa_mt l σ k) k) (t := k) (a1 := a1) (a3 := a3) hl (by omega) l.nv 0 fx_FU M1 (by omega) (by unfold fx_FU; omega) (hL.fr f1) (c1.eq (fun j hj => if_neg (by omega)))
      obtain ⟨M3, e3, c3, f3⟩ := ih (k + 1) f M2 (by omega) (by omega) ((hL.fr f1).fr f2) c2
      exact ⟨M3, fun kk => by rw [show (0 : Int32) = nI 0 from rfl, e2, e3], c3, fun j hj => by rw [f3 j hj, f2 j hj, f1 j hj]⟩
    rcases fa_mt_so hl hso k (by omega) k (by omega) with q | ⟨v, hv, -, q⟩
    · obtain ⟨M3, e3, c3, f3⟩ := hstep M (hc.eq (fun j hj => by unfold fa_reap; rw [q, if_pos fa_m1])) (fun _ _ => rfl) (-1)
      refine ⟨M3, fun kk => ?_, c3, f3⟩
      rw [g_M_goes_82, hL.nt, if_neg (nI_ge (by omega) (by omega))]
      simp (disch := omega) only [fa_24, nI_clamp, fa_ckn, hc (24 + k), q, nI_1]
      rw [if_pos fa_m1, e3]
    · have hk2 := hl.kd v hv
      have e2 : (nI (l.kd v) = (2 : Int32)) ↔ l.kd v = 2 := nI_eq (by omega) (by decide)
      have hq : ¬ fa_mt l σ k (24 + k) < 0 := by rw [q]; exact nI_pos (by omega)
      have hqc : (fa_mt l σ k (24 + k)).toNatClampNeg = v := by rw [q, nI_clamp (by omega)]
      by_cases k2 : l.kd v = 2
      · by_cases h60 : fa_mt l σ k (6 * k + v) + nI (l.cr v) * (2 : Int32) ≤ (60 : Int32)
        · obtain ⟨M3, e3, c3, f3⟩ := hstep _ ((hc.put (k := 6 * k + v) (x := fa_mt l σ k (6 * k + v) + nI (l.cr v) * (2 : Int32))).put (k := 24 + k) (x := -1) |>.eq (fun j hj => by unfold fa_reap; rw [if_neg hq, hqc, if_pos k2, fa_min60, if_pos h60])) (fun j hj => by rw [fv_set_ne _ _ _ _ j hj, fv_set_ne _ _ _ _ j hj]) (nI v)
          refine ⟨M3, fun kk => ?_, c3, f3⟩
          rw [g_M_goes_82, hL.nt, if_neg (nI_ge (by omega) (by omega))]
          simp (disch := omega) only [fa_24, nI_clamp, fa_ckn, hc (24 + k), q, nI_1, fa_m6, fa_m2, nI_add, hL.kd v hv, hL.cr v hv, hc (6 * k + v)]
          rw [if_neg (nI_pos (by omega)), if_pos (e2.mpr k2), if_pos h60, e3]
        · obtain ⟨M3, e3, c3, f3⟩ := hstep _ ((hc.put (k := 6 * k + v) (x := (60 : Int32))).put (k := 24 + k) (x := -1) |>.eq (fun j hj => by unfold fa_reap; rw [if_neg hq, hqc, if_pos k2, fa_min60, if_neg h60])) (fun j hj => by rw [fv_set_ne _ _ _ _ j hj, fv_set_ne _ _ _ _ j hj]) (nI v)
          refine ⟨M3, fun kk => ?_, c3, f3⟩
          rw [g_M_goes_82, hL.nt, if_neg (nI_ge (by omega) (by omega))]
          simp (disch := omega) only [fa_24, nI_clamp, fa_ckn, hc (24 + k), q, nI_1, fa_m6, fa_m2, nI_add, hL.kd v hv, hL.cr v hv, hc (6 * k + v)]
          rw [if_neg (nI_pos (by omega)), if_pos (e2.mpr k2), if_neg h60, e3]
      · by_cases h60 : fa_mt l σ k (6 * k + v) + nI (l.cr v) * (1 : Int32) ≤ (60 : Int32)
        · obtain ⟨M3, e3, c3, f3⟩ := hstep _ ((hc.put (k := 6 * k + v) (x := fa_mt l σ k (6 * k + v) + nI (l.cr v) * (1 : Int32))).put (k := 24 + k) (x := -1) |>.eq (fun j hj => by unfold fa_reap; rw [if_neg hq, hqc, if_neg k2, fa_min60, if_pos h60])) (fun j hj => by rw [fv_set_ne _ _ _ _ j hj, fv_set_ne _ _ _ _ j hj]) (nI v)
          refine ⟨M3, fun kk => ?_, c3, f3⟩
          rw [g_M_goes_82, hL.nt, if_neg (nI_ge (by omega) (by omega))]
          simp (disch := omega) only [fa_24, nI_clamp, fa_ckn, hc (24 + k), q, nI_1, fa_m6, fa_m2, nI_add, hL.kd v hv, hL.cr v hv, hc (6 * k + v)]
          rw [if_neg (nI_pos (by omega)), if_neg (fun z => k2 (e2.mp z)), if_pos h60, e3]
        · obtain ⟨M3, e3, c3, f3⟩ := hstep _ ((hc.put (k := 6 * k + v) (x := (60 : Int32))).put (k := 24 + k) (x := -1) |>.eq (fun j hj => by unfold fa_reap; rw [if_neg hq, hqc, if_neg k2, fa_min60, if_neg h60])) (fun j hj => by rw [fv_set_ne _ _ _ _ j hj, fv_set_ne _ _ _ _ j hj]) (nI v)
          refine ⟨M3, fun kk => ?_, c3, f3⟩
          rw [g_M_goes_82, hL.nt, if_neg (nI_ge (by omega) (by omega))]
          simp (disch := omega) only [fa_24, nI_clamp, fa_ckn, hc (24 + k), q, nI_1, fa_m6, fa_m2, nI_add, hL.kd v hv, hL.cr v hv, hc (6 * k + v)]
          rw [if_neg (nI_pos (by omega)), if_neg (fun z => k2 (e2.mp z)), if_neg h60, e3]
