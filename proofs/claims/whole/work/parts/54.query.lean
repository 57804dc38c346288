/-! calls that change nothing -/
theorem fa_wi (M : fv_M) (a lo hi : Int32) : g_X_within M a lo hi = some (if lo ≤ a ∧ a ≤ hi then (1 : Int32) else 0) := by
  unfold g_X_within
  by_cases h1 : a < lo
  · rw [if_pos h1, if_neg (fun q => absurd h1 (Int32.not_lt.mpr q.1))]
  · rw [if_neg h1]
    by_cases h2 : hi < a
    · rw [if_pos h2, if_neg (fun q => absurd h2 (Int32.not_lt.mpr q.2))]
    · rw [if_neg h2, if_pos ⟨Int32.not_lt.mp h1, Int32.not_lt.mp h2⟩]
theorem fa_mi (M : fv_M) (a lo hi : Int32) : g_M_in M a lo hi = some (if lo ≤ a ∧ a ≤ hi then (1 : Int32) else 0) := fa_wi M a lo hi
theorem fa_ckp {α : Type} {p : Prop} [Decidable p] {x : Option α} : fx_ck (¬ ((if p then (1 : Int32) else 0) = 0 ∨ (if p then (1 : Int32) else 0) = 1)) x = x := by
  unfold fx_ck
  rw [if_neg]
  by_cases h : p
  · rw [if_pos h]; exact fun q => q (Or.inr rfl)
  · rw [if_neg h]; exact fun q => q (Or.inl rfl)
theorem fa_xV (M : fv_M) (L D : Nat) (a : Int32) : g_X_isVerb M L D a = some (if 0 ≤ a ∧ a ≤ M L 0 - 1 then (1 : Int32) else 0) := by unfold g_X_isVerb; rw [fa_wi, Option.bind_some, fa_ckp]
theorem fa_xT (M : fv_M) (L D : Nat) (a : Int32) : g_X_isVillage M L D a = some (if 0 ≤ a ∧ a ≤ M L 2 - 1 then (1 : Int32) else 0) := by unfold g_X_isVillage; rw [fa_wi, Option.bind_some, fa_ckp]
theorem fa_xW (M : fv_M) (L D : Nat) (a : Int32) : g_X_isWork M L D a = some (if 0 ≤ a ∧ a ≤ M L 3 - 1 then (1 : Int32) else 0) := by unfold g_X_isWork; rw [fa_wi, Option.bind_some, fa_ckp]
theorem fa_mV (M : fv_M) (a : Int32) : g_M_isVerb M 92 a = some (if 0 ≤ a ∧ a ≤ M 92 0 - 1 then (1 : Int32) else 0) := by unfold g_M_isVerb; rw [fa_mi, Option.bind_some, fa_ckp]
theorem fa_mT (M : fv_M) (a : Int32) : g_M_isVillage M 92 a = some (if 0 ≤ a ∧ a ≤ M 92 4 - 1 then (1 : Int32) else 0) := by unfold g_M_isVillage; rw [fa_mi, Option.bind_some, fa_ckp]
theorem fa_idx {a : Int32} {n : Nat} (hn : n ≤ 1000) (h : 0 ≤ a ∧ a ≤ nI n - 1) : ∃ i, i < n ∧ a = nI i := by
  obtain ⟨j, hj, rfl⟩ := nI_of (Int32.not_lt.mpr h.1)
  rcases Nat.eq_zero_or_pos n with q | q
  · subst q
    exfalso
    have h2 := Int32.le_iff_toInt_le.mp h.2
    rw [nI_toInt hj, show (nI 0 - 1 : Int32).toInt = -1 by decide] at h2
    omega
  · refine ⟨j, ?_, rfl⟩
    have h2 := h.2
    rw [show (1 : Int32) = nI 1 from rfl, fa_sub q] at h2
    have := (nI_leI hj (by omega)).mp h2
    omega
theorem fa_rngI {a : Int32} {lo hi : Nat} (hn : hi ≤ 100000) (h : nI lo ≤ a ∧ a ≤ nI hi) (hlo : lo ≤ hi) : ∃ i, lo ≤ i ∧ i ≤ hi ∧ a = nI i := by
  have h0 : (0 : Int32) ≤ a := Int32.le_trans (nI_pos' (by omega)) h.1
  obtain ⟨j, hj, rfl⟩ := nI_of (Int32.not_lt.mpr h0)
  exact ⟨j, (nI_leI (by omega) hj).mp h.1, (nI_leI hj (by omega)).mp h.2, rfl⟩
theorem fa_010 : ((0 : Int32) = 0) = True := eq_self _
def fa_Q (M : fv_M) (L : Nat) (l : fa_L) (σ : Nat → Int32) (B : Nat) : Prop := (fa_wl l) ∧ (fa_lc M L l) ∧ (fa_ls M L l) ∧ (fa_lm M l) ∧ (fa_wS l σ B) ∧ (fa_c M 24 σ) ∧ (fa_m M (92 + 6) σ)
theorem fa_Q.wl {M : fv_M} {L : Nat} {l : fa_L} {σ : Nat → Int32} {B : Nat} (h : fa_Q M L l σ B) : fa_wl l := h.1
theorem fa_Q.lc {M : fv_M} {L : Nat} {l : fa_L} {σ : Nat → Int32} {B : Nat} (h : fa_Q M L l σ B) : fa_lc M L l := h.2.1
theorem fa_Q.ls {M : fv_M} {L : Nat} {l : fa_L} {σ : Nat → Int32} {B : Nat} (h : fa_Q M L l σ B) : fa_ls M L l := h.2.2.1
theorem fa_Q.lm {M : fv_M} {L : Nat} {l : fa_L} {σ : Nat → Int32} {B : Nat} (h : fa_Q M L l σ B) : fa_lm M l := h.2.2.2.1
theorem fa_Q.wS {M : fv_M} {L : Nat} {l : fa_L} {σ : Nat → Int32} {B : Nat} (h : fa_Q M L l σ B) : fa_wS l σ B := h.2.2.2.2.1
theorem fa_Q.cS {M : fv_M} {L : Nat} {l : fa_L} {σ : Nat → Int32} {B : Nat} (h : fa_Q M L l σ B) : fa_c M 24 σ := h.2.2.2.2.2.1
theorem fa_Q.mS {M : fv_M} {L : Nat} {l : fa_L} {σ : Nat → Int32} {B : Nat} (h : fa_Q M L l σ B) : fa_m M (92 + 6) σ := h.2.2.2.2.2.2
theorem fa_sumc_4 {M : fv_M} {L D : Nat} {l : fa_L} {σ : Nat → Int32} {v : Nat} (hl : fa_wl l) (hL : fa_lc M L l) (hc : fa_c M 24 σ) (hv : v < 6) : ∀ (d k f : Nat) (a : Int32), k + d = l.nt → d < f → ∀ kk, g_X_stockOfAll_4 M L D (nI v) f a (nI k) kk = kk ((List.range' k d).foldl (fun s t => s + σ (6 * t + v)) a) (nI l.nt) := by
  have h1 := hl.nt
  intro d
  induction d with
  | zero =>
    intro k f a hk hf kk
    obtain ⟨f, rfl⟩ : ∃ g, f = g + 1 := ⟨f - 1, by omega⟩
    have : k = l.nt := by omega
    subst this
    rw [g_X_stockOfAll_4, hL.nt, if_pos (nI_le (Nat.le_refl _) (by omega))]
    rfl
  | succ d ih =>
    intro k f a hk hf kk
    obtain ⟨f, rfl⟩ : ∃ g, f = g + 1 := ⟨f - 1, by omega⟩
    rw [g_X_stockOfAll_4, hL.nt, if_neg (nI_ge (by omega) (by omega)), fa_stock hc (by omega) hv, Option.bind_some, nI_1, ih (k + 1) f _ (by omega) (by omega)]
    rfl
def fa_sum (l : fa_L) (σ : Nat → Int32) (v : Nat) : Int32 := (List.range' 0 l.nt).foldl (fun s t => s + σ (6 * t + v)) 0
theorem fa_sumc {M : fv_M} {L D : Nat} {l : fa_L} {σ : Nat → Int32} {v : Nat} (hl : fa_wl l) (hL : fa_lc M L l) (hc : fa_c M 24 σ) (hv : v < 6) : g_X_stockOfAll M L D (nI v) = some (fa_sum l σ v) := by
  have h1 := hl.nt
  unfold g_X_stockOfAll
  exact fa_sumc_4 hl hL hc hv l.nt 0 fx_FU 0 (by omega) (by unfold fx_FU; omega) _
theorem fa_summ_24 {M : fv_M} {l : fa_L} {σ : Nat → Int32} {v : Nat} {a2 : Int32} (hl : fa_wl l) (hL : fa_lm M l) (hc : fa_m M (92 + 6) σ) (hv : v < 6) : ∀ (d k f : Nat) (a : Int32), k + d = l.nt → d < f → ∀ kk, g_M_verb_24 M 92 (nI v) a2 f a (nI k) kk = kk ((List.range' k d).foldl (fun s t => s + σ (6 * t + v)) a) (nI l.nt) := by
  have h1 := hl.nt
  intro d
  induction d with
  | zero =>
    intro k f a hk hf kk
    obtain ⟨f, rfl⟩ : ∃ g, f = g + 1 := ⟨f - 1, by omega⟩
    have : k = l.nt := by omega
    subst this
    rw [g_M_verb_24, hL.nt, if_pos (nI_le (Nat.le_refl _) (by omega))]
    rfl
  | succ d ih =>
    intro k f a hk hf kk
    obtain ⟨f, rfl⟩ : ∃ g, f = g + 1 := ⟨f - 1, by omega⟩
    rw [g_M_verb_24, hL.nt, if_neg (nI_ge (by omega) (by omega))]
    simp (disch := omega) only [fa_m6, nI_add, nI_clamp, fa_ckn, hc (6 * k + v), nI_1]
    rw [ih (k + 1) f _ (by omega) (by omega)]
    rfl
theorem fa_summ {M : fv_M} {l : fa_L} {σ : Nat → Int32} {v : Nat} {a2 : Int32} (hl : fa_wl l) (hL : fa_lm M l) (hc : fa_m M (92 + 6) σ) (hv : v < 6) (kk : Int32 → Int32 → Option Int32) : g_M_verb_24 M 92 (nI v) a2 fx_FU (0 : Int32) (0 : Int32) kk = kk (fa_sum l σ v) (nI l.nt) := by
  have h1 := hl.nt
  exact fa_summ_24 hl hL hc hv l.nt 0 fx_FU 0 (by omega) (by unfold fx_FU; omega) kk
theorem fa_o_verb {M : fv_M} {L D : Nat} {l : fa_L} {σ : Nat → Int32} {B : Nat} (Q : fa_Q M L l σ B) (a1 a2 : Int32) : ∃ r, g_X_verb M L D a1 a2 = some r ∧ g_M_verb M 92 a1 a2 = some r := by
  have hl := Q.wl
  have h1 := hl.nt
  have h2 := hl.nv
  unfold g_X_verb g_M_verb
  rw [fa_xV, fa_mV, Q.lc.nv, Q.lm.nv, Option.bind_some, Option.bind_some]
  by_cases h : 0 ≤ a1 ∧ a1 ≤ nI l.nv - 1
  · rw [if_pos h, if_neg fa_10, if_neg fa_10, fa_wi, fa_mi, Option.bind_some, Option.bind_some]
    obtain ⟨v, hv, rfl⟩ := fa_idx (by omega) h
    by_cases hw : (0 : Int32) ≤ a2 ∧ a2 ≤ (2 : Int32)
    · rw [if_pos hw, if_neg fa_10, if_neg fa_10]
      obtain ⟨i, hi0, hi, rfl⟩ := fa_rngI (lo := 0) (hi := 2) (by omega) hw (by omega)
      rw [fa_sumc hl Q.lc Q.cS (by omega), fa_at (by omega) (by omega), fa_at (by omega) (by omega), fa_summ hl Q.lm Q.mS (by omega)]
      rcases (by omega : i = 0 ∨ i = 1 ∨ i = 2) with rfl | rfl | rfl
      · simp (decide := true) (disch := omega) only [↓reduceIte, Option.bind_some, fa_m2, nI_add, nI_clamp, fa_ckn, Nat.add_zero, Q.lm.kd v hv, Q.lc.kd v hv]
        exact ⟨_, rfl, rfl⟩
      · simp (decide := true) (disch := omega) only [↓reduceIte, Option.bind_some, fa_m2, nI_add, nI_clamp, fa_ckn, Q.lm.cr v hv, Q.lc.cr v hv]
        exact ⟨_, rfl, rfl⟩
      · simp (decide := true) (disch := omega) only [↓reduceIte, Option.bind_some]
        exact ⟨_, rfl, rfl⟩
    · rw [if_neg hw, if_pos rfl, if_pos rfl]
      exact ⟨_, rfl, rfl⟩
  · rw [if_neg h, if_pos rfl, if_pos rfl]
    exact ⟨_, rfl, rfl⟩
theorem fa_nouns {M : fv_M} {L : Nat} {l : fa_L} {t : Nat} (hl : fa_wl l) (hL : fa_lc M L l) (ht : t < l.nt) : g_L_nounsOf M L (nI t) = some (nI (fa_own l t)) := by
  have h1 := hl.nt
  have h2 := hl.nn
  unfold g_L_nounsOf g_L_allNouns
  rw [fa_at (by omega) (by omega), Option.bind_some, hL.ow t ht, Option.bind_some, hL.nn, fa_mask (by omega), show (192 : Int32) = nI 192 from rfl, fa_or, fa_and]
  rfl
theorem fa_mind {M : fv_M} {L : Nat} {l : fa_L} {n : Nat} (hl : fa_wl l) (hL : fa_lc M L l) (hn : n < l.nn) : g_L_mindOf M L (nI n) = some (nI (l.mi n &&& (2 ^ l.nv - 1))) := by
  have h1 := hl.nv
  have h2 := hl.nn
  unfold g_L_mindOf
  rw [fa_at (by omega) (by omega), Option.bind_some, hL.mi n hn, hL.nv, fa_mask (by omega), fa_and]
theorem fa_o_noun {M : fv_M} {L D : Nat} {l : fa_L} {σ : Nat → Int32} {B : Nat} (Q : fa_Q M L l σ B) (a1 : Int32) : ∃ r, g_X_noun M L D a1 = some r ∧ g_M_noun M 92 a1 = some r := by
  have hl := Q.wl
  have h2 := hl.nn
  unfold g_X_noun g_M_noun
  rw [fa_wi, fa_mi, Q.lc.nn, Q.lm.nn, Option.bind_some, Option.bind_some]
  by_cases h : 0 ≤ a1 ∧ a1 ≤ nI l.nn - 1
  · rw [if_pos h, if_neg fa_10, if_neg fa_10]
    obtain ⟨n, hn, rfl⟩ := fa_idx (by omega) h
    rw [fa_mind hl Q.lc hn]
    simp (disch := omega) only [Option.bind_some, nI_clamp, fa_ckn, Q.lm.mi n hn]
    exact ⟨_, rfl, rfl⟩
  · rw [if_neg h, if_pos rfl, if_pos rfl]
    exact ⟨_, rfl, rfl⟩
theorem fa_o_village {M : fv_M} {L D : Nat} {l : fa_L} {σ : Nat → Int32} {B : Nat} (Q : fa_Q M L l σ B) (a1 a2 : Int32) : ∃ r, g_X_village M L D a1 a2 = some r ∧ g_M_village M 92 a1 a2 = some r := by
  have hl := Q.wl
  have h2 := hl.nt
  unfold g_X_village g_M_village
  rw [fa_xT, fa_mT, Q.lc.nt, Q.lm.nt, Option.bind_some, Option.bind_some]
  by_cases h : 0 ≤ a1 ∧ a1 ≤ nI l.nt - 1
  · rw [if_pos h, if_neg fa_10, if_neg fa_10, fa_wi, fa_mi, Option.bind_some, Option.bind_some]
    obtain ⟨t, ht, rfl⟩ := fa_idx (by omega) h
    by_cases hw : (0 : Int32) ≤ a2 ∧ a2 ≤ (2 : Int32)
    · rw [if_pos hw, if_neg fa_10, if_neg fa_10]
      obtain ⟨i, hi0, hi, rfl⟩ := fa_rngI (lo := 0) (hi := 2) (by omega) hw (by omega)
      rw [fa_nouns hl Q.lc ht, fa_at (by omega) (by omega), fa_at (by omega) (by omega)]
      rcases (by omega : i = 0 ∨ i = 1 ∨ i = 2) with rfl | rfl | rfl
      · simp (decide := true) (disch := omega) only [↓reduceIte, Option.bind_some, nI_clamp, fa_ckn, Q.lm.ow t ht]
        exact ⟨_, rfl, rfl⟩
      · simp (decide := true) (disch := omega) only [↓reduceIte, Option.bind_some, fa_24, nI_clamp, fa_ckn, Q.mS (24 + t), Q.cS.so t]
        refine ⟨_, rfl, ?_⟩
        by_cases q : σ (24 + t) < 0
        · rw [if_pos q, if_neg (Int32.not_le.mpr q)]
        · rw [if_neg q, if_pos (Int32.not_lt.mp q)]
      · simp (decide := true) (disch := omega) only [↓reduceIte, Option.bind_some, nI_clamp, fa_ckn, Q.lm.sd t ht, Q.ls t ht]
        exact ⟨_, rfl, rfl⟩
    · rw [if_neg hw, if_pos rfl, if_pos rfl]
      exact ⟨_, rfl, rfl⟩
  · rw [if_neg h, if_pos rfl, if_pos rfl]
    exact ⟨_, rfl, rfl⟩
theorem fa_o_stock {M : fv_M} {L D : Nat} {l : fa_L} {σ : Nat → Int32} {B : Nat} (Q : fa_Q M L l σ B) (a1 a2 : Int32) : ∃ r, g_X_stock M L D a1 a2 = some r ∧ g_M_stock M 92 a1 a2 = some r := by
  have hl := Q.wl
  have h1 := hl.nt
  have h2 := hl.nv
  unfold g_X_stock g_M_stock
  rw [fa_xT, fa_mT, Q.lc.nt, Q.lm.nt, Option.bind_some, Option.bind_some]
  by_cases h : 0 ≤ a1 ∧ a1 ≤ nI l.nt - 1
  · rw [if_pos h, if_neg fa_10, if_neg fa_10, fa_xV, fa_mV, Q.lc.nv, Q.lm.nv, Option.bind_some, Option.bind_some]
    obtain ⟨t, ht, rfl⟩ := fa_idx (by omega) h
    by_cases hw : 0 ≤ a2 ∧ a2 ≤ nI l.nv - 1
    · rw [if_pos hw, if_neg fa_10, if_neg fa_10]
      obtain ⟨v, hv, rfl⟩ := fa_idx (by omega) hw
      rw [fa_stock Q.cS (by omega) (by omega)]
      simp (disch := omega) only [Option.bind_some, fa_m6, nI_add, nI_clamp, fa_ckn, Q.mS (6 * t + v)]
      exact ⟨_, rfl, rfl⟩
    · rw [if_neg hw, if_pos rfl, if_pos rfl]
      exact ⟨_, rfl, rfl⟩
  · rw [if_neg h, if_pos rfl, if_pos rfl]
    exact ⟨_, rfl, rfl⟩
theorem fa_o_work {M : fv_M} {L D : Nat} {l : fa_L} {σ : Nat → Int32} {B : Nat} (Q : fa_Q M L l σ B) (a1 a2 : Int32) : ∃ r, g_X_work M L D a1 a2 = some r ∧ g_M_work M 92 a1 a2 = some r := by
  have hl := Q.wl
  have h1 := hl.nw
  unfold g_X_work g_M_work
  rw [fa_xW, fa_mi, Q.lc.nw, Q.lm.nw, Option.bind_some, Option.bind_some]
  by_cases h : 0 ≤ a1 ∧ a1 ≤ nI l.nw - 1
  · rw [if_pos h, if_neg fa_10, if_neg fa_10, fa_mi, Option.bind_some]
    obtain ⟨w, hw, rfl⟩ := fa_idx (by omega) h
    by_cases h4 : (0 : Int32) ≤ a2 ∧ a2 ≤ (4 : Int32)
    · rw [if_pos h4, if_neg fa_10]
      obtain ⟨i, hi0, hi, rfl⟩ := fa_rngI (lo := 0) (hi := 4) (by omega) h4 (by omega)
      rw [fa_at (by omega) (by omega), fa_at (by omega) (by omega), fa_at (by omega) (by omega), fa_at (by omega) (by omega), fa_at (by omega) (by omega)]
      rcases (by omega : i = 0 ∨ i = 1 ∨ i = 2 ∨ i = 3 ∨ i = 4) with rfl | rfl | rfl | rfl | rfl
      · simp (decide := true) (disch := omega) only [↓reduceIte, Option.bind_some, fa_m3, nI_add, nI_clamp, fa_ckn, Nat.add_zero, Q.lm.wt w hw, Q.lc.wt w hw]
        exact ⟨_, rfl, rfl⟩
      · simp (decide := true) (disch := omega) only [↓reduceIte, Option.bind_some, fa_m3, nI_add, nI_clamp, fa_ckn, Nat.add_zero, Q.lm.wv w hw, Q.lc.wv w hw]
        exact ⟨_, rfl, rfl⟩
      · simp (decide := true) (disch := omega) only [↓reduceIte, Option.bind_some, fa_m3, nI_add, nI_clamp, fa_ckn, Nat.add_zero, Q.lm.ww w hw, Q.lc.ww w hw]
        exact ⟨_, rfl, rfl⟩
      · simp (decide := true) (disch := omega) only [↓reduceIte, Option.bind_some, fa_28, nI_add, nI_clamp, fa_ckn, Q.mS (28 + w), Q.cS.dn w]
        exact ⟨_, rfl, rfl⟩
      · simp (decide := true) (disch := omega) only [↓reduceIte, Option.bind_some, fa_36, nI_add, nI_clamp, fa_ckn, Q.mS (36 + w), Q.cS.fg w]
        exact ⟨_, rfl, rfl⟩
    · rw [if_neg h4, if_pos rfl, if_neg (fun q => h4 (by rw [q]; decide)), if_neg (fun q => h4 (by rw [q]; decide)), if_neg (fun q => h4 (by rw [q]; decide)), if_neg (fun q => h4 (by rw [q]; decide)), if_neg (fun q => h4 (by rw [q]; decide))]
      exact ⟨_, rfl, rfl⟩
  · rw [if_neg h, if_pos rfl, if_pos rfl]
    exact ⟨_, rfl, rfl⟩
