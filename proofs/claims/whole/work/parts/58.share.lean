/-! share -/
/-- what is left, the worth, what the one village uses -/
def fa_h1 (l : fa_L) (n v : Nat) (a3 : Int32) (e : Nat) (p : Nat × Nat × Nat) (u : Nat) : Nat × Nat × Nat :=
  (p.1 - min (n * fa_lk l u v e l.nw) p.1, p.2.1 + min (n * fa_lk l u v e l.nw) p.1 * e, p.2.2 + if nI u = a3 then min (n * fa_lk l u v e l.nw) p.1 else 0)
def fa_hu (l : fa_L) (n v : Nat) (a3 : Int32) (e : Nat) (p : Nat × Nat × Nat) : Nat × Nat × Nat := (List.range' 0 l.nt).foldl (fa_h1 l n v a3 e) p
def fa_he (l : fa_L) (n v : Nat) (a3 : Int32) : Nat → Nat × Nat × Nat → Nat × Nat × Nat
  | 0, p => p
  | e + 1, p => fa_he l n v a3 e (fa_hu l n v a3 (e + 1) p)
theorem fa_h1_le (l : fa_L) (n v : Nat) (a3 : Int32) (e : Nat) (p : Nat × Nat × Nat) (u : Nat) : (fa_h1 l n v a3 e p u).1 ≤ p.1 := Nat.sub_le _ _
theorem fa_hus_le (l : fa_L) (n v : Nat) (a3 : Int32) (e : Nat) (xs : List Nat) : ∀ p : Nat × Nat × Nat, (xs.foldl (fa_h1 l n v a3 e) p).1 ≤ p.1 := by
  induction xs with
  | nil => exact fun p => Nat.le_refl _
  | cons x xs ih => exact fun p => Nat.le_trans (ih _) (fa_h1_le _ _ _ _ _ _ _)
theorem fa_mulle {n c : Nat} (hn : n ≤ 9) (hc : c ≤ 8) : n * c ≤ 72 := Nat.mul_le_mul hn hc
theorem fa_shc_63 {M : fv_M} {L D : Nat} {l : fa_L} {n v e : Nat} {a3 : Int32} (hl : fa_wl l) (hL : fa_lc M L l) (hn : n ≤ 9) (hv : v < l.nv) (he : e ≤ 9) : ∀ (d k f : Nat) (p : Nat × Nat × Nat), p.1 ≤ 100000 → k + d = l.nt → d < f → ∀ kk, g_X_share_63 M L D (nI v) (nI n) a3 (nI e) f (nI p.1) (nI p.2.1) (nI p.2.2) (nI k) kk = kk (nI ((List.range' k d).foldl (fa_h1 l n v a3 e) p).1) (nI ((List.range' k d).foldl (fa_h1 l n v a3 e) p).2.1) (nI ((List.range' k d).foldl (fa_h1 l n v a3 e) p).2.2) (nI l.nt) := by
  have h1 := hl.nt
  have h2 := hl.nv
  have h3 := hl.nw
  intro d
  induction d with
  | zero =>
    intro k f p hp hk hf kk
    obtain ⟨f, rfl⟩ : ∃ g, f = g + 1 := ⟨f - 1, by omega⟩
    have : k = l.nt := by omega
    subst this
    rw [g_X_share_63, hL.nt, if_pos (nI_le (Nat.le_refl _) (by omega))]
    rfl
  | succ d ih =>
    intro k f p hp hk hf kk
    obtain ⟨f, rfl⟩ : ∃ g, f = g + 1 := ⟨f - 1, by omega⟩
    have ih := ih (k + 1) f (fa_h1 l n v a3 e p k) (Nat.le_trans (fa_h1_le _ _ _ _ _ _ _) hp) (by omega) (by omega) kk
    have hc := fa_lk_le l k v e l.nw
    have hm := fa_mulle (n := n) (c := fa_lk l k v e l.nw) hn (by omega)
    have em : (if nI n * nI (fa_lk l k v e l.nw) < nI p.1 then nI n * nI (fa_lk l k v e l.nw) else nI p.1) = nI (min (n * fa_lk l k v e l.nw) p.1) := by
      rw [fa_mul]
      by_cases q : n * fa_lk l k v e l.nw < p.1
      · rw [if_pos (nI_lt q (by omega)), Nat.min_eq_left (by omega)]
      · rw [if_neg (nI_nlt (by omega) (by omega)), Nat.min_eq_right (by omega)]
    rw [g_X_share_63, hL.nt, if_neg (nI_ge (by omega) (by omega)), fa_like hl hL (by omega) (by omega) he, Option.bind_some, em, fa_sub (Nat.min_le_right _ _), fa_mul, nI_add, nI_1]
    rw [List.range'_succ, List.foldl_cons]
    by_cases q : nI k = a3
    · rw [if_pos q, nI_add, show nI (p.2.2 + min (n * fa_lk l k v e l.nw) p.1) = nI (fa_h1 l n v a3 e p k).2.2 from by
        show _ = nI (p.2.2 + if nI k = a3 then _ else 0)
        rw [if_pos q]]
      exact ih
    · rw [if_neg q, Int32.add_zero, show nI p.2.2 = nI (fa_h1 l n v a3 e p k).2.2 from by
        show _ = nI (p.2.2 + if nI k = a3 then _ else 0)
        rw [if_neg q, Nat.add_zero]]
      exact ih
theorem fa_shc_54 {M : fv_M} {L D : Nat} {l : fa_L} {n v : Nat} {a3 : Int32} (hl : fa_wl l) (hL : fa_lc M L l) (hn : n ≤ 9) (hv : v < l.nv) : ∀ (e f : Nat) (p : Nat × Nat × Nat), p.1 ≤ 100000 → e ≤ 9 → e < f → ∀ kk, g_X_share_54 M L D (nI v) (nI n) a3 f (nI p.1) (nI p.2.1) (nI p.2.2) (nI e) kk = kk (nI (fa_he l n v a3 e p).1) (nI (fa_he l n v a3 e p).2.1) (nI (fa_he l n v a3 e p).2.2) (nI 0) := by
  have h1 := hl.nt
  intro e
  induction e with
  | zero =>
    intro f p hp he hf kk
    obtain ⟨f, rfl⟩ : ∃ g, f = g + 1 := ⟨f - 1, by omega⟩
    rw [g_X_share_54, if_pos (by decide)]
    rfl
  | succ e ih =>
    intro f p hp he hf kk
    obtain ⟨f, rfl⟩ : ∃ g, f = g + 1 := ⟨f - 1, by omega⟩
    have e1 := fa_shc_63 (D := D) (a3 := a3) (e := e + 1) hl hL hn hv he l.nt 0 fx_FU p hp (by omega) (by unfold fx_FU; omega)
    rw [show nI 0 = (0 : Int32) from rfl] at e1
    rw [g_X_share_54, if_neg (show ¬ nI (e + 1) < (1 : Int32) from nI_nlt (a := e + 1) (b := 1) (by omega) (by omega)), e1, show nI (e + 1) + (-1 : Int32) = nI e from by
      rw [← nI_pred e, Int32.sub_eq_add_neg]]
    exact ih f _ (Nat.le_trans (fa_hus_le l n v a3 (e + 1) (List.range' 0 l.nt) p) hp) (by omega) (by omega) kk
/-- of a pile x, one takes n at a time, j times -/
def fa_tk (n x : Nat) : Nat → Nat
  | 0 => x
  | j + 1 => fa_tk n x j - min n (fa_tk n x j)
theorem fa_tk_eq (n x : Nat) : ∀ j, fa_tk n x j = x - min (n * j) x := by
  intro j
  induction j with
  | zero => rw [Nat.mul_zero]; show x = _; omega
  | succ j ih =>
    show fa_tk n x j - min n (fa_tk n x j) = _
    rw [ih, Nat.mul_succ]
    generalize n * j = p
    omega
theorem fa_shm_102 {M : fv_M} {l : fa_L} {n v e u x W U : Nat} {a3 : Int32} (hl : fa_wl l) (hL : fa_lm M l) (hx : x ≤ 100000) (hn : n ≤ 9) (hv : v < l.nv) (hu : u < 4) (he : e ≤ 9) : ∀ (d k f : Nat), k + d = l.nw → d < f → ∀ kk,
    g_M_share_102 M 92 (nI v) (nI n) a3 (nI e) (nI u) f (nI (x - min (n * fa_lk l u v e k) x)) (nI (W + min (n * fa_lk l u v e k) x * e)) (nI (U + if nI u = a3 then min (n * fa_lk l u v e k) x else 0)) (nI k) kk = kk (nI (x - min (n * fa_lk l u v e l.nw) x)) (nI (W + min (n * fa_lk l u v e l.nw) x * e)) (nI (U + if nI u = a3 then min (n * fa_lk l u v e l.nw) x else 0)) (nI l.nw) := by
  have h1 := hl.nw
  have h2 := hl.nt
  have h3 := hl.nv
  intro d
  induction d with
  | zero =>
    intro k f hk hf kk
    obtain ⟨f, rfl⟩ : ∃ g, f = g + 1 := ⟨f - 1, by omega⟩
    have : k = l.nw := by omega
    subst this
    rw [g_M_share_102, hL.nw, if_pos (nI_le (Nat.le_refl _) (by omega))]
  | succ d ih =>
    intro k f hk hf kk
    obtain ⟨f, rfl⟩ : ∃ g, f = g + 1 := ⟨f - 1, by omega⟩
    have ih := ih (k + 1) f (by omega) (by omega) kk
    have w1 := hl.wt k (by omega)
    have w2 := hl.wv k (by omega)
    have w3 := hl.ww k (by omega)
    have e1 : (nI (l.wt k) = nI u) ↔ l.wt k = u := nI_eq (by omega) (by omega)
    have e2 : (nI (l.wv k) = nI v) ↔ l.wv k = v := nI_eq (by omega) (by omega)
    have e3 : (nI (l.ww k) = nI e) ↔ l.ww k = e := nI_eq (by omega) (by omega)
    rw [g_M_share_102, hL.nw, if_neg (nI_ge (by omega) (by omega))]
    simp (disch := omega) only [fa_m3, fa_p2, nI_1, nI_clamp, fa_ckn, hL.wt k (by omega), hL.wv k (by omega), hL.ww k (by omega), Int32.add_zero, Int32.sub_zero, Int32.zero_mul, ite_self]
    rw [fa_lk] at ih
    by_cases q1 : l.wt k = u
    · rw [if_pos (e1.mpr q1)]
      by_cases q2 : l.wv k = v
      · rw [if_pos (e2.mpr q2)]
        by_cases q3 : l.ww k = e
        · rw [if_pos (e3.mpr q3)]
          rw [if_pos ⟨q1, q2, q3⟩, Nat.mul_succ] at ih
          generalize n * fa_lk l u v e k = m at ih ⊢
          by_cases q4 : n ≤ x - min m x
          · have a1 : min (m + n) x = min m x + n := by omega
            rw [if_pos (nI_le q4 (by omega)), fa_sub q4, fa_mul, nI_add]
            rw [a1, Nat.sub_add_eq, Nat.add_mul, ← Nat.add_assoc W] at ih
            by_cases q5 : nI u = a3
            · rw [if_pos q5, if_pos q5, nI_add]
              rw [if_pos q5, ← Nat.add_assoc U] at ih
              exact ih
            · rw [if_neg q5, if_neg q5]
              rw [if_neg q5] at ih
              exact ih
          · have a1 : min (m + n) x = min m x + (x - min m x) := by omega
            rw [if_neg (nI_ge (by omega) (by omega)), fa_sub (Nat.le_refl _), fa_mul, nI_add]
            rw [a1, Nat.sub_add_eq, Nat.add_mul, ← Nat.add_assoc W] at ih
            by_cases q5 : nI u = a3
            · rw [if_pos q5, if_pos q5, nI_add]
              rw [if_pos q5, ← Nat.add_assoc U] at ih
              exact ih
            · rw [if_neg q5, if_neg q5]
              rw [if_neg q5] at ih
              exact ih
        · rw [if_neg (fun z => q3 (e3.mp z))]
          rw [if_neg (fun z => q3 z.2.2), Nat.add_zero] at ih
          exact ih
      · rw [if_neg (fun z => q2 (e2.mp z))]
        rw [if_neg (fun z => q2 z.2.1), Nat.add_zero] at ih
        exact ih
    · rw [if_neg (fun z => q1 (e1.mp z))]
      rw [if_neg (fun z => q1 z.1), Nat.add_zero] at ih
      exact ih
theorem fa_shm_90 {M : fv_M} {l : fa_L} {n v e : Nat} {a3 : Int32} (hl : fa_wl l) (hL : fa_lm M l) (hn : n ≤ 9) (hv : v < l.nv) (he : e ≤ 9) : ∀ (d k f : Nat) (p : Nat × Nat × Nat), p.1 ≤ 100000 → k + d = l.nt → d < f → ∀ kk, g_M_share_90 M 92 (nI v) (nI n) a3 (nI e) f (nI p.1) (nI p.2.1) (nI p.2.2) (nI k) kk = kk (nI ((List.range' k d).foldl (fa_h1 l n v a3 e) p).1) (nI ((List.range' k d).foldl (fa_h1 l n v a3 e) p).2.1) (nI ((List.range' k d).foldl (fa_h1 l n v a3 e) p).2.2) (nI l.nt) := by
  have h1 := hl.nt
  have h2 := hl.nv
  have h3 := hl.nw
  intro d
  induction d with
  | zero =>
    intro k f p hp hk hf kk
    obtain ⟨f, rfl⟩ : ∃ g, f = g + 1 := ⟨f - 1, by omega⟩
    have : k = l.nt := by omega
    subst this
    rw [g_M_share_90, hL.nt, if_pos (nI_le (Nat.le_refl _) (by omega))]
    rfl
  | succ d ih =>
    intro k f p hp hk hf kk
    obtain ⟨f, rfl⟩ : ∃ g, f = g + 1 := ⟨f - 1, by omega⟩
    have ih := ih (k + 1) f (fa_h1 l n v a3 e p k) (Nat.le_trans (fa_h1_le _ _ _ _ _ _ _) hp) (by omega) (by omega) kk
    have e1 := fa_shm_102 (M := M) (u := k) (x := p.1) (W := p.2.1) (U := p.2.2) (a3 := a3) hl hL hp hn hv (by omega) he l.nw 0 fx_FU (by omega) (by unfold fx_FU; omega)
    simp only [fa_lk, Nat.mul_zero, Nat.zero_min, Nat.sub_zero, Nat.zero_mul, Nat.add_zero, ite_self] at e1
    rw [show nI 0 = (0 : Int32) from rfl] at e1
    rw [g_M_share_90, hL.nt, if_neg (nI_ge (by omega) (by omega)), e1, nI_1, List.range'_succ, List.foldl_cons]
    exact ih
theorem fa_shm_82 {M : fv_M} {l : fa_L} {n v : Nat} {a3 : Int32} (hl : fa_wl l) (hL : fa_lm M l) (hn : n ≤ 9) (hv : v < l.nv) : ∀ (e f : Nat) (p : Nat × Nat × Nat), p.1 ≤ 100000 → e ≤ 9 → e < f → ∀ kk, g_M_share_82 M 92 (nI v) (nI n) a3 f (nI p.1) (nI p.2.1) (nI p.2.2) (nI e) kk = kk (nI (fa_he l n v a3 e p).1) (nI (fa_he l n v a3 e p).2.1) (nI (fa_he l n v a3 e p).2.2) (nI 0) := by
  have h1 := hl.nt
  intro e
  induction e with
  | zero =>
    intro f p hp he hf kk
    obtain ⟨f, rfl⟩ : ∃ g, f = g + 1 := ⟨f - 1, by omega⟩
    rw [g_M_share_82, if_pos (by decide)]
    rfl
  | succ e ih =>
    intro f p hp he hf kk
    obtain ⟨f, rfl⟩ : ∃ g, f = g + 1 := ⟨f - 1, by omega⟩
    have e1 := fa_shm_90 (a3 := a3) (e := e + 1) hl hL hn hv he l.nt 0 fx_FU p hp (by omega) (by unfold fx_FU; omega)
    rw [show nI 0 = (0 : Int32) from rfl] at e1
    rw [g_M_share_82, if_neg (nI_nle (by omega) (by omega)), e1, show nI (e + 1) + (-1 : Int32) = nI e from by
      rw [← nI_pred e, Int32.sub_eq_add_neg]]
    exact ih f _ (Nat.le_trans (fa_hus_le l n v a3 (e + 1) (List.range' 0 l.nt) p) hp) (by omega) (by omega) kk
theorem fa_shm_40 {M : fv_M} {l : fa_L} {σ : Nat → Int32} {v : Nat} {a2 a3 : Int32} (hl : fa_wl l) (hL : fa_lm M l) (hc : fa_m M (92 + 6) σ) (hv : v < 6) : ∀ (d k f : Nat) (a : Int32), k + d = l.nt → d < f → ∀ kk, g_M_share_40 M 92 (nI v) a2 a3 f a (nI k) kk = kk ((List.range' k d).foldl (fun s t => s + σ (6 * t + v)) a) (nI l.nt) := by
  have h1 := hl.nt
  intro d
  induction d with
  | zero =>
    intro k f a hk hf kk
    obtain ⟨f, rfl⟩ : ∃ g, f = g + 1 := ⟨f - 1, by omega⟩
    have : k = l.nt := by omega
    subst this
    rw [g_M_share_40, hL.nt, if_pos (nI_le (Nat.le_refl _) (by omega))]
    rfl
  | succ d ih =>
    intro k f a hk hf kk
    obtain ⟨f, rfl⟩ : ∃ g, f = g + 1 := ⟨f - 1, by omega⟩
    rw [g_M_share_40, hL.nt, if_neg (nI_ge (by omega) (by omega))]
    simp (disch := omega) only [fa_m6, nI_add, nI_clamp, fa_ckn, hc (6 * k + v), nI_1]
    rw [ih (k + 1) f _ (by omega) (by omega)]
    rfl
theorem fa_sum_nI {l : fa_L} {σ : Nat → Int32} {B v : Nat} (hl : fa_wl l) (hw : fa_wS l σ B) (hv : v < 6) : ∃ x, x ≤ 240 ∧ fa_sum l σ v = nI x := by
  have h1 := hl.nt
  have key : ∀ (d k s : Nat), k + d ≤ 4 → ∃ x, x ≤ s + 60 * d ∧ (List.range' k d).foldl (fun s t => s + σ (6 * t + v)) (nI s) = nI x := by
    intro d
    induction d with
    | zero => exact fun k s _ => ⟨s, by omega, rfl⟩
    | succ d ih =>
      intro k s hk
      obtain ⟨a, ha, ea⟩ := hw.sk (6 * k + v) (by omega)
      obtain ⟨x, hx, ex⟩ := ih (k + 1) (s + a) (by omega)
      refine ⟨x, by omega, ?_⟩
      rw [List.range'_succ, List.foldl_cons, ea, nI_add]
      exact ex
  obtain ⟨x, hx, ex⟩ := key l.nt 0 0 (by omega)
  exact ⟨x, by omega, ex⟩
theorem fa_o_share {M : fv_M} {L D : Nat} {l : fa_L} {σ : Nat → Int32} {B : Nat} (Q : fa_Q M L l σ B) (a1 a2 a3 : Int32) : ∃ r, g_X_share M L D a1 a2 a3 = some r ∧ g_M_share M 92 a1 a2 a3 = some r := by
  have hl := Q.wl
  have h1 := hl.nt
  have h2 := hl.nv
  unfold g_X_share g_M_share
  rw [fa_xV, fa_mV, Q.lc.nv, Q.lm.nv, Option.bind_some, Option.bind_some]
  by_cases h : 0 ≤ a1 ∧ a1 ≤ nI l.nv - 1
  · rw [if_pos h, if_neg fa_10, if_neg fa_10, fa_wi, fa_mi, Option.bind_some, Option.bind_some]
    obtain ⟨v, hv, rfl⟩ := fa_idx (by omega) h
    by_cases hn : (1 : Int32) ≤ a2 ∧ a2 ≤ (9 : Int32)
    · rw [if_pos hn, if_neg fa_10, if_neg fa_10, fa_wi, fa_mi, Q.lc.nt, Q.lm.nt, Option.bind_some, Option.bind_some]
      obtain ⟨n, hn1, hn9, rfl⟩ := fa_rngI (lo := 1) (hi := 9) (by omega) hn (by omega)
      by_cases ht : (-1 : Int32) ≤ a3 ∧ a3 ≤ nI l.nt - 1
      · rw [if_pos ht, if_neg fa_10, if_neg fa_10, fa_sumc hl Q.lc Q.cS (by omega), Option.bind_some]
        obtain ⟨x, hx, ex⟩ := fa_sum_nI hl Q.wS (v := v) (by omega)
        have e0 := fa_shm_40 (M := M) (v := v) (a2 := nI n) (a3 := a3) hl Q.lm Q.mS (by omega) l.nt 0 fx_FU 0 (by omega) (by unfold fx_FU; omega)
        rw [show nI 0 = (0 : Int32) from rfl] at e0
        have e1 := fa_shc_54 (M := M) (L := L) (D := D) (v := v) (a3 := a3) hl Q.lc hn9 hv 9 fx_FU (x, 0, 0) (by omega) (by omega) (by unfold fx_FU; omega)
        have e2 := fa_shm_82 (M := M) (v := v) (a3 := a3) hl Q.lm hn9 hv 9 fx_FU (x, 0, 0) (by omega) (by omega) (by unfold fx_FU; omega)
        rw [show nI (x, 0, 0).1 = nI x from rfl, show nI (x, 0, 0).2.1 = (0 : Int32) from rfl, show nI 9 = (9 : Int32) from rfl] at e1 e2
        rw [e0, show (List.range' 0 l.nt).foldl (fun s t => s + σ (6 * t + v)) 0 = nI x from ex, ex, e1, e2]
        by_cases hm : a3 = (-1 : Int32)
        · rw [if_pos hm, if_neg (show ¬ (0 : Int32) ≤ a3 by rw [hm]; decide)]
          exact ⟨_, rfl, rfl⟩
        · rw [if_neg hm, if_pos (show (0 : Int32) ≤ a3 from by
            have g1 := Int32.le_iff_toInt_le.mp ht.1
            have g2 : a3.toInt ≠ -1 := fun z => hm (Int32.toInt_inj.mp (by rw [z]; decide))
            have g3 : ((-1 : Int32)).toInt = -1 := by decide
            have g4 : ((0 : Int32)).toInt = 0 := by decide
            rw [Int32.le_iff_toInt_le]
            omega)]
          exact ⟨_, rfl, rfl⟩
      · rw [if_neg ht, if_pos rfl, if_pos rfl]
        exact ⟨_, rfl, rfl⟩
    · rw [if_neg hn, if_pos rfl, if_pos rfl]
      exact ⟨_, rfl, rfl⟩
  · rw [if_neg h, if_pos rfl, if_pos rfl]
    exact ⟨_, rfl, rfl⟩
