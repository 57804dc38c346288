/-! sent and share -/
def fa_lk (l : fa_L) (t v x : Nat) : Nat → Nat
  | 0 => 0
  | w + 1 => fa_lk l t v x w + if l.wt w = t ∧ l.wv w = v ∧ l.ww w = x then 1 else 0
def fa_ct (l : fa_L) (t v : Nat) : Nat → Nat
  | 0 => 0
  | w + 1 => fa_ct l t v w + if l.wt w = t ∧ l.wv w = v then 1 else 0
theorem fa_lk_le (l : fa_L) (t v x : Nat) : ∀ w, fa_lk l t v x w ≤ w := by
  intro w
  induction w with
  | zero => exact Nat.le_refl _
  | succ w ih =>
    rw [fa_lk]
    split <;> omega
theorem fa_ct_le (l : fa_L) (t v : Nat) : ∀ w, fa_ct l t v w ≤ w := by
  intro w
  induction w with
  | zero => exact Nat.le_refl _
  | succ w ih =>
    rw [fa_ct]
    split <;> omega
theorem fa_like_6 {M : fv_M} {L : Nat} {l : fa_L} {t v x : Nat} (hl : fa_wl l) (hL : fa_lc M L l) (ht : t < 4) (hv : v < 6) (hx : x ≤ 9) : ∀ (d k f : Nat), k + d = l.nw → d < f → ∀ kk, g_L_worksLike_6 M L (nI t) (nI v) (nI x) f (nI (fa_lk l t v x k)) (nI k) kk = kk (nI (fa_lk l t v x l.nw)) (nI l.nw) := by
  have h1 := hl.nw
  have h2 := hl.nt
  have h3 := hl.nv
  intro d
  induction d with
  | zero =>
    intro k f hk hf kk
    obtain ⟨f, rfl⟩ : ∃ g, f = g + 1 := ⟨f - 1, by omega⟩
    have : k = l.nw := by omega
    subst this
    rw [g_L_worksLike_6, hL.nw, if_pos (nI_le (Nat.le_refl _) (by omega))]
  | succ d ih =>
    intro k f hk hf kk
    obtain ⟨f, rfl⟩ : ∃ g, f = g + 1 := ⟨f - 1, by omega⟩
    have ih := ih (k + 1) f (by omega) (by omega) kk
    have w1 := hl.wt k (by omega)
    have w2 := hl.wv k (by omega)
    have w3 := hl.ww k (by omega)
    have e1 : (nI (l.wt k) = nI t) ↔ l.wt k = t := nI_eq (by omega) (by omega)
    have e2 : (nI (l.wv k) = nI v) ↔ l.wv k = v := nI_eq (by omega) (by omega)
    have e3 : (nI (l.ww k) = nI x) ↔ l.ww k = x := nI_eq (by omega) (by omega)
    rw [g_L_worksLike_6, hL.nw, if_neg (nI_ge (by omega) (by omega)), fa_at (by omega) (by omega), Option.bind_some, hL.wt k (by omega), fa_at (by omega) (by omega), Option.bind_some, hL.wv k (by omega), fa_at (by omega) (by omega), Option.bind_some, hL.ww k (by omega), nI_1, nI_1]
    rw [fa_lk] at ih
    by_cases q1 : l.wt k = t
    · rw [if_pos (e1.mpr q1)]
      by_cases q2 : l.wv k = v
      · rw [if_pos (e2.mpr q2)]
        by_cases q3 : l.ww k = x
        · rw [if_pos (e3.mpr q3)]
          rw [if_pos ⟨q1, q2, q3⟩] at ih
          exact ih
        · rw [if_neg (fun z => q3 (e3.mp z))]
          rw [if_neg (fun z => q3 z.2.2), Nat.add_zero] at ih
          exact ih
      · rw [if_neg (fun z => q2 (e2.mp z))]
        rw [if_neg (fun z => q2 z.2.1), Nat.add_zero] at ih
        exact ih
    · rw [if_neg (fun z => q1 (e1.mp z))]
      rw [if_neg (fun z => q1 z.1), Nat.add_zero] at ih
      exact ih
theorem fa_like {M : fv_M} {L : Nat} {l : fa_L} {t v x : Nat} (hl : fa_wl l) (hL : fa_lc M L l) (ht : t < 4) (hv : v < 6) (hx : x ≤ 9) : g_L_worksLike M L (nI t) (nI v) (nI x) = some (nI (fa_lk l t v x l.nw)) := by
  have h1 := hl.nw
  unfold g_L_worksLike
  exact fa_like_6 hl hL ht hv hx l.nw 0 fx_FU (by omega) (by unfold fx_FU; omega) _
theorem fa_lk_sum {l : fa_L} (hl : fa_wl l) (t v : Nat) : ∀ w, w ≤ l.nw → fa_lk l t v 1 w + fa_lk l t v 2 w + fa_lk l t v 3 w + fa_lk l t v 4 w + fa_lk l t v 5 w + fa_lk l t v 6 w + fa_lk l t v 7 w + fa_lk l t v 8 w + fa_lk l t v 9 w = fa_ct l t v w := by
  intro w
  induction w with
  | zero => exact fun _ => rfl
  | succ w ih =>
    intro hw
    have ih := ih (by omega)
    have w3 := hl.ww w (by omega)
    simp only [fa_lk, fa_ct]
    by_cases q1 : l.wt w = t
    · by_cases q2 : l.wv w = v
      · rcases (by omega : l.ww w = 1 ∨ l.ww w = 2 ∨ l.ww w = 3 ∨ l.ww w = 4 ∨ l.ww w = 5 ∨ l.ww w = 6 ∨ l.ww w = 7 ∨ l.ww w = 8 ∨ l.ww w = 9) with e | e | e | e | e | e | e | e | e <;> (simp (decide := true) only [q1, q2, e, true_and, and_true, if_true, if_false, ↓reduceIte]; omega)
      · simp only [q2, false_and, and_false, if_false]; omega
    · simp only [q1, false_and, if_false]; omega
theorem fa_saidBy {M : fv_M} {L : Nat} {l : fa_L} {t v : Nat} (hl : fa_wl l) (hL : fa_lc M L l) (ht : t < 4) (hv : v < 6) : g_L_worksSaidBy M L (nI t) (nI v) = some (nI (fa_ct l t v l.nw)) := by
  have hk : ∀ (f s x : Nat), x ≤ 9 → ∀ kk, g_L_worksSaidBy_5 M L (nI t) (nI v) (f + 1) (nI s) (nI x) kk = g_L_worksSaidBy_5 M L (nI t) (nI v) f (nI (s + fa_lk l t v x l.nw)) (nI (x + 1)) kk := by
    intro f s x hx kk
    rw [g_L_worksSaidBy_5, if_neg (show ¬ (9 : Int32) < nI x from nI_nlt (a := 9) (b := x) hx (by omega)), fa_like hl hL ht hv hx, Option.bind_some, nI_add, nI_1]
  unfold g_L_worksSaidBy
  rw [show fx_FU = 990 + 1 + 1 + 1 + 1 + 1 + 1 + 1 + 1 + 1 + 1 from rfl, show (0 : Int32) = nI 0 from rfl, show (1 : Int32) = nI 1 from rfl]
  rw [hk _ _ _ (by omega), hk _ _ _ (by omega), hk _ _ _ (by omega), hk _ _ _ (by omega), hk _ _ _ (by omega), hk _ _ _ (by omega), hk _ _ _ (by omega), hk _ _ _ (by omega), hk _ _ _ (by omega), g_L_worksSaidBy_5, if_pos (by decide), ← fa_lk_sum hl t v l.nw (Nat.le_refl _), Nat.zero_add]
def fa_need (l : fa_L) (σ : Nat → Int32) (t v : Nat) : Int32 :=
  if fa_ct l t v l.nw = 0 then 0 else if (fa_sd l t).testBit v = true then 0 else if l.kd v = 1 then (if σ 44 - σ 44 / (2 : Int32) * (2 : Int32) = (1 : Int32) then nI (fa_ct l t v l.nw) else 1) else if l.kd v = 3 then (2 : Int32) * nI (fa_ct l t v l.nw) - 1 else nI (fa_ct l t v l.nw)
theorem fa_needc {M : fv_M} {L D : Nat} {l : fa_L} {σ : Nat → Int32} {t v : Nat} (hl : fa_wl l) (hL : fa_lc M L l) (hS : fa_ls M L l) (hc : fa_c M 24 σ) (ht : t < l.nt) (hv : v < l.nv) : g_X_needOf M L D (nI t) (nI v) = some (fa_need l σ t v) := by
  have h1 := hl.nt
  have h2 := hl.nv
  have h3 := hl.nw
  have h4 := fa_ct_le l t v l.nw
  have hk := hl.kd v hv
  have e1 : (nI (l.kd v) = (1 : Int32)) ↔ l.kd v = 1 := nI_eq (by omega) (by decide)
  have e3 : (nI (l.kd v) = (3 : Int32)) ↔ l.kd v = 3 := nI_eq (by omega) (by decide)
  have e0 : (nI (fa_ct l t v l.nw) = (0 : Int32)) ↔ fa_ct l t v l.nw = 0 := nI_eq (by omega) (by decide)
  unfold g_X_needOf fa_need
  rw [fa_saidBy hl hL (by omega) (by omega), Option.bind_some]
  by_cases c0 : fa_ct l t v l.nw = 0
  · rw [if_pos (e0.mpr c0), if_pos c0]
  · rw [if_neg (fun z => c0 (e0.mp z)), if_neg c0, fa_canSay hl hS ht hv, Option.bind_some]
    by_cases cs : (fa_sd l t).testBit v = true
    · rw [if_pos cs, if_pos cs, if_neg fa_10]
    · rw [if_neg cs, if_neg cs, if_pos rfl, fa_at (by omega) (by omega), Option.bind_some, hL.kd v hv]
      by_cases k1 : l.kd v = 1
      · rw [if_pos (e1.mpr k1), if_pos k1]
        unfold g_S_usesSmall
        rw [hc.se]
        by_cases s1 : σ 44 - σ 44 / (2 : Int32) * (2 : Int32) = (1 : Int32)
        · rw [if_pos s1, if_pos s1, Option.bind_some, if_neg fa_10, if_neg (fun z => by have := e3.mp z; omega)]
        · rw [if_neg s1, if_neg s1, Option.bind_some, if_pos rfl]
      · rw [if_neg (fun z => k1 (e1.mp z)), if_neg k1]
        by_cases k3 : l.kd v = 3
        · rw [if_pos (e3.mpr k3), if_pos k3]
        · rw [if_neg (fun z => k3 (e3.mp z)), if_neg k3]
theorem fa_needm_5 {M : fv_M} {l : fa_L} {t v : Nat} (hl : fa_wl l) (hL : fa_lm M l) (ht : t < 4) (hv : v < 6) : ∀ (d k f : Nat), k + d = l.nw → d < f → ∀ kk, g_M_needOf_5 M 92 (nI t) (nI v) f (nI (fa_ct l t v k)) (nI k) kk = kk (nI (fa_ct l t v l.nw)) (nI l.nw) := by
  have h1 := hl.nw
  have h2 := hl.nt
  have h3 := hl.nv
  intro d
  induction d with
  | zero =>
    intro k f hk hf kk
    obtain ⟨f, rfl⟩ : ∃ g, f = g + 1 := ⟨f - 1, by omega⟩
    have : k = l.nw := by omega
    subst this
    rw [g_M_needOf_5, hL.nw, if_pos (nI_le (Nat.le_refl _) (by omega))]
  | succ d ih =>
    intro k f hk hf kk
    obtain ⟨f, rfl⟩ : ∃ g, f = g + 1 := ⟨f - 1, by omega⟩
    have ih := ih (k + 1) f (by omega) (by omega) kk
    have w1 := hl.wt k (by omega)
    have w2 := hl.wv k (by omega)
    have e1 : (nI (l.wt k) = nI t) ↔ l.wt k = t := nI_eq (by omega) (by omega)
    have e2 : (nI (l.wv k) = nI v) ↔ l.wv k = v := nI_eq (by omega) (by omega)
    rw [g_M_needOf_5, hL.nw, if_neg (nI_ge (by omega) (by omega))]
    simp (disch := omega) only [fa_m3, nI_1, nI_clamp, fa_ckn, hL.wt k (by omega), hL.wv k (by omega), Int32.add_zero]
    rw [fa_ct] at ih
    by_cases q1 : l.wt k = t
    · rw [if_pos (e1.mpr q1)]
      by_cases q2 : l.wv k = v
      · rw [if_pos (e2.mpr q2)]
        rw [if_pos ⟨q1, q2⟩] at ih
        exact ih
      · rw [if_neg (fun z => q2 (e2.mp z))]
        rw [if_neg (fun z => q2 z.2), Nat.add_zero] at ih
        exact ih
    · rw [if_neg (fun z => q1 (e1.mp z))]
      rw [if_neg (fun z => q1 z.1), Nat.add_zero] at ih
      exact ih
theorem fa_needm {M : fv_M} {l : fa_L} {σ : Nat → Int32} {t v : Nat} (hl : fa_wl l) (hL : fa_lm M l) (hc : fa_m M (92 + 6) σ) (hse : ∃ a, a ≤ 100000 ∧ σ 44 = nI a) (ht : t < l.nt) (hv : v < l.nv) : g_M_needOf M 92 (nI t) (nI v) = some (fa_need l σ t v) := by
  have h1 := hl.nt
  have h2 := hl.nv
  have h3 := hl.nw
  have h4 := fa_ct_le l t v l.nw
  have hk := hl.kd v hv
  have hsd := fa_sd_lt hl t
  have e1 : (nI (l.kd v) = (1 : Int32)) ↔ l.kd v = 1 := nI_eq (by omega) (by decide)
  have e3 : (nI (l.kd v) = (3 : Int32)) ↔ l.kd v = 3 := nI_eq (by omega) (by decide)
  have e0 : (nI (fa_ct l t v l.nw) = (0 : Int32)) ↔ fa_ct l t v l.nw = 0 := nI_eq (by omega) (by decide)
  unfold g_M_needOf fa_need
  have e := fa_needm_5 (M := M) hl hL (t := t) (v := v) (by omega) (by omega) l.nw 0 fx_FU (by omega) (by unfold fx_FU; omega)
  rw [show nI (fa_ct l t v 0) = (0 : Int32) from rfl, show nI 0 = (0 : Int32) from rfl] at e
  rw [e]
  by_cases c0 : fa_ct l t v l.nw = 0
  · rw [if_pos (e0.mpr c0), if_pos c0]
  · rw [if_neg (fun z => c0 (e0.mp z)), if_neg c0]
    simp (disch := omega) only [fa_m2, nI_clamp, fa_ckn, hL.sd t ht, hL.kd v hv, fa_44, hc 44, fa_isIn, Option.bind_some]
    by_cases cs : (fa_sd l t).testBit v = true
    · rw [if_pos cs, if_pos cs, if_neg fa_10]
    · rw [if_neg cs, if_neg cs, if_pos rfl]
      by_cases k3 : l.kd v = 3
      · rw [if_pos (e3.mpr k3), if_neg (show ¬ l.kd v = 1 by omega), if_pos k3]
      · rw [if_neg (fun z => k3 (e3.mp z))]
        by_cases k1 : l.kd v = 1
        · rw [if_pos (e1.mpr k1), if_pos k1]
          obtain ⟨a, ha, ea⟩ := hse
          rw [ea, fa_div2 (by omega)]
          rcases Nat.mod_two_eq_zero_or_one a with q | q
          · rw [q, if_pos (show nI 0 = (0 : Int32) from rfl), if_neg (by decide)]
          · rw [q, if_neg (by decide), if_pos (by decide)]
        · rw [if_neg (fun z => k1 (e1.mp z)), if_neg k1, if_neg k3]
theorem fa_foldl_add (f : Nat → Int32) (xs : List Nat) (a b : Int32) : xs.foldl (fun s j => s + f j) (a + b) = a + xs.foldl (fun s j => s + f j) b := by
  induction xs generalizing b with
  | nil => rfl
  | cons x xs ih => simp only [List.foldl_cons]; rw [Int32.add_assoc, ih]
def fa_lack (l : fa_L) (σ : Nat → Int32) (v t : Nat) : Int32 := if (0 : Int32) < fa_need l σ t v - σ (6 * t + v) then fa_need l σ t v - σ (6 * t + v) else 0
theorem fa_sentc_23 {M : fv_M} {L D : Nat} {l : fa_L} {σ : Nat → Int32} {v : Nat} {a1 : Int32} (hl : fa_wl l) (hL : fa_lc M L l) (hS : fa_ls M L l) (hc : fa_c M 24 σ) (hv : v < l.nv) : ∀ (d k f : Nat) (a b : Int32), k + d = l.nt → d < f → ∀ kk, g_X_sent_23 M L D a1 (nI v) f a b (nI k) kk = kk ((List.range' k d).foldl (fun s t => s + fa_lack l σ v t) a) ((List.range' k d).foldl (fun s t => s + fa_need l σ t v) b) (nI l.nt) := by
  have h1 := hl.nt
  have h2 := hl.nv
  intro d
  induction d with
  | zero =>
    intro k f a b hk hf kk
    obtain ⟨f, rfl⟩ : ∃ g, f = g + 1 := ⟨f - 1, by omega⟩
    have : k = l.nt := by omega
    subst this
    rw [g_X_sent_23, hL.nt, if_pos (nI_le (Nat.le_refl _) (by omega))]
    rfl
  | succ d ih =>
    intro k f a b hk hf kk
    obtain ⟨f, rfl⟩ : ∃ g, f = g + 1 := ⟨f - 1, by omega⟩
    rw [g_X_sent_23, hL.nt, if_neg (nI_ge (by omega) (by omega)), fa_needc hl hL hS hc (by omega) hv, Option.bind_some, fa_stock hc (by omega) (by omega), Option.bind_some, nI_1, ih (k + 1) f _ _ (by omega) (by omega)]
    rfl
theorem fa_sentm_20 {M : fv_M} {l : fa_L} {σ : Nat → Int32} {v : Nat} (hl : fa_wl l) (hL : fa_lm M l) (hc : fa_m M (92 + 6) σ) (hse : ∃ a, a ≤ 100000 ∧ σ 44 = nI a) (hv : v < l.nv) : ∀ (d k f : Nat) (a b c : Int32), k + d = l.nt → d < f → ∀ kk, g_M_sent_20 M 92 (nI v) f a b c (nI k) kk = kk ((List.range' k d).foldl (fun s t => s + fa_lack l σ v t) a) ((List.range' k d).foldl (fun s t => s + fa_need l σ t v) b) ((List.range' k d).foldl (fun s t => s + σ (6 * t + v)) c) (nI l.nt) := by
  have h1 := hl.nt
  have h2 := hl.nv
  intro d
  induction d with
  | zero =>
    intro k f a b c hk hf kk
    obtain ⟨f, rfl⟩ : ∃ g, f = g + 1 := ⟨f - 1, by omega⟩
    have : k = l.nt := by omega
    subst this
    rw [g_M_sent_20, hL.nt, if_pos (nI_le (Nat.le_refl _) (by omega))]
    rfl
  | succ d ih =>
    intro k f a b c hk hf kk
    obtain ⟨f, rfl⟩ : ∃ g, f = g + 1 := ⟨f - 1, by omega⟩
    rw [g_M_sent_20, hL.nt, if_neg (nI_ge (by omega) (by omega)), fa_needm hl hL hc hse (by omega) hv, Option.bind_some, Option.bind_some]
    simp (disch := omega) only [fa_m6, nI_add, nI_1, nI_clamp, fa_ckn, hc (6 * k + v)]
    by_cases q : fa_need l σ k v - σ (6 * k + v) ≤ 0
    · rw [if_pos q, ih (k + 1) f _ _ _ (by omega) (by omega), show (0 : Int32) = fa_lack l σ v k from (if_neg (Int32.not_lt.mpr q)).symm]
      rfl
    · rw [if_neg q, ih (k + 1) f _ _ _ (by omega) (by omega), show fa_need l σ k v - σ (6 * k + v) = fa_lack l σ v k from (if_pos (Int32.not_le.mp q)).symm]
      rfl
def fa_nds (l : fa_L) (σ : Nat → Int32) (v : Nat) : Int32 := (List.range' 0 l.nt).foldl (fun s t => s + fa_need l σ t v) 0
def fa_lcs (l : fa_L) (σ : Nat → Int32) (v : Nat) : Int32 := (List.range' 0 l.nt).foldl (fun s t => s + fa_lack l σ v t) 0
def fa_sn (l : fa_L) (σ : Nat → Int32) : Nat → Nat → Int32 → Int32
  | 0, _, a => a
  | d + 1, v, a => if fa_nds l σ v ≤ fa_sum l σ v then fa_sn l σ d (v + 1) (a + fa_lcs l σ v) else (-4 : Int32)
theorem fa_sentc {M : fv_M} {L D : Nat} {l : fa_L} {σ : Nat → Int32} (hl : fa_wl l) (hL : fa_lc M L l) (hS : fa_ls M L l) (hc : fa_c M 24 σ) : ∀ (d k f : Nat) (a : Int32), k + d = l.nv → d < f → g_X_sent_4 M L D f a (nI k) (fun b1_5 b2_5 => some b1_5) = some (fa_sn l σ d k a) := by
  have h1 := hl.nv
  have h2 := hl.nt
  intro d
  induction d with
  | zero =>
    intro k f a hk hf
    obtain ⟨f, rfl⟩ : ∃ g, f = g + 1 := ⟨f - 1, by omega⟩
    have : k = l.nv := by omega
    subst this
    rw [g_X_sent_4, hL.nv, if_pos (nI_le (Nat.le_refl _) (by omega))]
    rfl
  | succ d ih =>
    intro k f a hk hf
    obtain ⟨f, rfl⟩ : ∃ g, f = g + 1 := ⟨f - 1, by omega⟩
    have e := fa_sentc_23 (D := D) (a1 := a) hl hL hS hc (v := k) (by omega) l.nt 0 fx_FU 0 0 (by omega) (by unfold fx_FU; omega)
    rw [show nI 0 = (0 : Int32) from rfl] at e
    rw [g_X_sent_4, hL.nv, if_neg (nI_ge (by omega) (by omega)), e, fa_sumc hl hL hc (by omega), Option.bind_some, nI_1, ih (k + 1) f _ (by omega) (by omega), fa_sn]
    show (if fa_nds l σ k ≤ fa_sum l σ k then _ else _) = _
    by_cases q : fa_nds l σ k ≤ fa_sum l σ k
    · rw [if_pos q, if_pos q]; rfl
    · rw [if_neg q, if_neg q]
theorem fa_sentm {M : fv_M} {l : fa_L} {σ : Nat → Int32} (hl : fa_wl l) (hL : fa_lm M l) (hc : fa_m M (92 + 6) σ) (hse : ∃ a, a ≤ 100000 ∧ σ 44 = nI a) : ∀ (d k f : Nat) (a : Int32), k + d = l.nv → d < f → g_M_sent_4 M 92 f a (nI k) (fun b1_4 b2_4 => some b1_4) = some (fa_sn l σ d k a) := by
  have h1 := hl.nv
  have h2 := hl.nt
  intro d
  induction d with
  | zero =>
    intro k f a hk hf
    obtain ⟨f, rfl⟩ : ∃ g, f = g + 1 := ⟨f - 1, by omega⟩
    have : k = l.nv := by omega
    subst this
    rw [g_M_sent_4, hL.nv, if_pos (nI_le (Nat.le_refl _) (by omega))]
    rfl
  | succ d ih =>
    intro k f a hk hf
    obtain ⟨f, rfl⟩ : ∃ g, f = g + 1 := ⟨f - 1, by omega⟩
    have e := fa_sentm_20 hl hL hc hse (v := k) (by omega) l.nt 0 fx_FU a 0 0 (by omega) (by unfold fx_FU; omega)
    rw [show nI 0 = (0 : Int32) from rfl] at e
    rw [g_M_sent_4, hL.nv, if_neg (nI_ge (by omega) (by omega)), e, nI_1, ih (k + 1) f _ (by omega) (by omega), fa_sn]
    have ea : (List.range' 0 l.nt).foldl (fun s t => s + fa_lack l σ k t) a = a + fa_lcs l σ k := by
      have := fa_foldl_add (fa_lack l σ k) (List.range' 0 l.nt) a 0
      rw [Int32.add_zero] at this
      exact this
    rw [ea]
    show (if fa_nds l σ k ≤ fa_sum l σ k then _ else _) = _
    by_cases q : fa_nds l σ k ≤ fa_sum l σ k
    · rw [if_pos q, if_pos q]
    · rw [if_neg q, if_neg q]
theorem fa_o_sent {M : fv_M} {L D : Nat} {l : fa_L} {σ : Nat → Int32} {B : Nat} (hB : B ≤ 100000) (Q : fa_Q M L l σ B) : ∃ r, g_X_sent M L D = some r ∧ g_M_sent M 92 = some r := by
  have hl := Q.wl
  have h1 := hl.nv
  obtain ⟨a, ha, ea⟩ := Q.wS.se
  exact ⟨_, fa_sentc hl Q.lc Q.ls Q.cS l.nv 0 fx_FU 0 (by omega) (by unfold fx_FU; omega), fa_sentm hl Q.lm Q.mS ⟨a, by omega, ea⟩ l.nv 0 fx_FU 0 (by omega) (by unfold fx_FU; omega)⟩
