/-! tells, bred, sent, count -/
def fa_D (l : fa_L) (n : Nat) : Nat := l.mi n &&& (2 ^ l.nv - 1)
theorem fa_mto_or {l : fa_L} {set n : Nat} (h : ¬ set.testBit n = true) : ∀ m, fa_mto l (set ||| 2 ^ n) m = if n < m then fa_mto l set m &&& fa_D l n else fa_mto l set m := by
  intro m
  induction m with
  | zero => rw [if_neg (by omega)]; rfl
  | succ m ih =>
    unfold fa_mto
    rw [ih, Nat.testBit_or, Nat.testBit_two_pow]
    by_cases e : n = m
    · subst e
      rw [if_neg (show ¬ n < n by omega), if_pos (show n < n + 1 by omega), if_neg h, if_pos (by simp)]
      rfl
    · have hd : decide (n = m) = false := decide_eq_false e
      rw [hd, Bool.or_false]
      by_cases q : n < m
      · rw [if_pos q, if_pos (show n < m + 1 by omega)]
        by_cases hb : set.testBit m = true
        · rw [if_pos hb, if_pos hb, Nat.and_assoc, Nat.and_assoc, Nat.and_comm (fa_D l n)]
        · rw [if_neg hb, if_neg hb]
      · rw [if_neg q, if_neg (show ¬ n < m + 1 by omega)]
theorem fa_mean_or {l : fa_L} {set n : Nat} (h : ¬ set.testBit n = true) (hn : n < l.nn) : fa_mean l (set ||| 2 ^ n) = fa_mean l set &&& fa_D l n := by
  unfold fa_mean
  rw [fa_mto_or h, if_pos hn]
def fa_tl (l : fa_L) (set : Nat) : Nat → Int32 × Int32
  | 0 => (-4, -4)
  | n + 1 => if set.testBit n = true then fa_tl l set n else if fa_pc (fa_mean l set &&& fa_D l n) = 0 then fa_tl l set n else if (fa_tl l set n).1 = (-4 : Int32) then (nI n, nI (fa_pc (fa_mean l set &&& fa_D l n))) else if (fa_tl l set n).2 ≤ nI (fa_pc (fa_mean l set &&& fa_D l n)) then fa_tl l set n else (nI n, nI (fa_pc (fa_mean l set &&& fa_D l n)))
theorem fa_tellc {M : fv_M} {L D : Nat} {l : fa_L} {set : Nat} {a2 : Int32} (hl : fa_wl l) (hL : fa_lc M L l) (hs : set < 256) : ∀ (d k f : Nat), k + d = l.nn → d < f → ∀ kk, g_X_tells_29 M L D (nI set) a2 f (fa_tl l set k).1 (fa_tl l set k).2 (nI k) kk = kk (fa_tl l set l.nn).1 (fa_tl l set l.nn).2 (nI l.nn) := by
  have h1 := hl.nn
  intro d
  induction d with
  | zero =>
    intro k f hk hf kk
    obtain ⟨f, rfl⟩ : ∃ g, f = g + 1 := ⟨f - 1, by omega⟩
    have : k = l.nn := by omega
    subst this
    rw [g_X_tells_29, hL.nn, if_pos (nI_le (Nat.le_refl _) (by omega))]
  | succ d ih =>
    intro k f hk hf kk
    obtain ⟨f, rfl⟩ : ∃ g, f = g + 1 := ⟨f - 1, by omega⟩
    have ih := ih (k + 1) f (by omega) (by omega) kk
    have hp : 2 ^ k < 2 ^ 8 := Nat.pow_lt_pow_right (by omega) (by omega)
    have hlt : set ||| 2 ^ k < 256 := Nat.or_lt_two_pow (n := 8) hs hp
    have hml := fa_mean_lt hl (set ||| 2 ^ k)
    rw [g_X_tells_29, hL.nn, if_neg (nI_ge (by omega) (by omega)), fa_shl (by omega), fa_or, fa_meant hl hL hlt, Option.bind_some, fa_bc (by omega), Option.bind_some, fa_has hs (by omega), Option.bind_some]
    rw [fa_tl] at ih
    by_cases hb : set.testBit k = true
    · rw [if_pos hb] at ih ⊢
      rw [if_neg fa_10, nI_1, ih]
    · rw [if_neg hb] at ih ⊢
      rw [if_pos rfl, fa_mean_or hb (by omega)]
      have hpc := fa_pc_lt (fa_mean l set &&& fa_D l k)
      by_cases h0 : fa_pc (fa_mean l set &&& fa_D l k) = 0
      · rw [if_pos h0] at ih
        rw [if_pos (show nI (fa_pc (fa_mean l set &&& fa_D l k)) < (1 : Int32) from nI_lt (a := fa_pc (fa_mean l set &&& fa_D l k)) (b := 1) (by omega) (by omega)), nI_1, ih]
      · rw [if_neg h0] at ih
        rw [if_neg (show ¬ nI (fa_pc (fa_mean l set &&& fa_D l k)) < (1 : Int32) from nI_nlt (a := fa_pc (fa_mean l set &&& fa_D l k)) (b := 1) (by omega) (by omega))]
        by_cases h4 : (fa_tl l set k).1 = (-4 : Int32)
        · rw [if_pos h4] at ih ⊢
          rw [nI_1, ih]
        · rw [if_neg h4] at ih ⊢
          by_cases h5 : (fa_tl l set k).2 ≤ nI (fa_pc (fa_mean l set &&& fa_D l k))
          · rw [if_pos h5] at ih ⊢
            rw [nI_1, ih]
          · rw [if_neg h5] at ih ⊢
            rw [nI_1, ih]
theorem fa_tellm {M : fv_M} {l : fa_L} {set : Nat} {a2 : Int32} (hl : fa_wl l) (hL : fa_lm M l) (hs : set < 256) : ∀ (d k f : Nat), k + d = l.nn → d < f → ∀ kk, g_M_tells_37 M 92 (nI set) a2 f (fa_tl l set k).1 (fa_tl l set k).2 (nI k) kk = kk (fa_tl l set l.nn).1 (fa_tl l set l.nn).2 (nI l.nn) := by
  have h1 := hl.nn
  intro d
  induction d with
  | zero =>
    intro k f hk hf kk
    obtain ⟨f, rfl⟩ : ∃ g, f = g + 1 := ⟨f - 1, by omega⟩
    have : k = l.nn := by omega
    subst this
    rw [g_M_tells_37, hL.nn, if_pos (nI_le (Nat.le_refl _) (by omega))]
  | succ d ih =>
    intro k f hk hf kk
    obtain ⟨f, rfl⟩ : ∃ g, f = g + 1 := ⟨f - 1, by omega⟩
    have ih := ih (k + 1) f (by omega) (by omega) kk
    have hml := fa_mean_lt hl set
    have hal : fa_mean l set &&& fa_D l k ≤ fa_mean l set := Nat.and_le_left
    rw [g_M_tells_37, hL.nn, if_neg (nI_ge (by omega) (by omega)), fa_isIn hs (by omega), Option.bind_some]
    rw [fa_tl] at ih
    by_cases hb : set.testBit k = true
    · rw [if_pos hb] at ih ⊢
      rw [if_neg fa_10, nI_1, ih]
    · rw [if_neg hb] at ih ⊢
      rw [if_pos rfl, fa_rof hl hL hs, Option.bind_some, fa_cki (by omega) (by omega), nI_clamp (by omega), hL.mi k (by omega), fa_and, show l.mi k &&& (2 ^ l.nv - 1) = fa_D l k from rfl, fa_bits (by omega), Option.bind_some]
      have hpc := fa_pc_lt (fa_mean l set &&& fa_D l k)
      by_cases h0 : fa_pc (fa_mean l set &&& fa_D l k) = 0
      · rw [if_pos h0] at ih
        rw [if_pos (show nI (fa_pc (fa_mean l set &&& fa_D l k)) ≤ 0 by rw [h0]; decide), nI_1, ih]
      · rw [if_neg h0] at ih
        rw [if_neg (nI_nle (by omega) (by omega))]
        by_cases h4 : (fa_tl l set k).1 = (-4 : Int32)
        · rw [if_pos h4] at ih ⊢
          rw [nI_1, ih]
        · rw [if_neg h4] at ih ⊢
          by_cases h5 : (fa_tl l set k).2 ≤ nI (fa_pc (fa_mean l set &&& fa_D l k))
          · rw [if_pos h5] at ih ⊢
            rw [nI_1, ih]
          · rw [if_neg h5] at ih ⊢
            rw [nI_1, ih]
theorem fa_o_tells {M : fv_M} {L D : Nat} {l : fa_L} {σ : Nat → Int32} {B : Nat} (Q : fa_Q M L l σ B) (a1 a2 : Int32) : ∃ r, g_X_tells M L D a1 a2 = some r ∧ g_M_tells M 92 a1 a2 = some r := by
  have hl := Q.wl
  have h1 := hl.nn
  have h8 := fa_p8 hl
  unfold g_X_tells g_M_tells
  rw [fa_xR hl Q.lc, fa_mi, Q.lm.nn, fa_mask (by omega), Option.bind_some, Option.bind_some]
  by_cases h : (1 : Int32) ≤ a1 ∧ a1 ≤ nI (2 ^ l.nn - 1)
  · rw [if_pos h, if_neg fa_10, if_neg fa_10, fa_wi, fa_mi, Option.bind_some, Option.bind_some]
    have hp := Nat.two_pow_pos l.nn
    rcases Nat.lt_or_ge (2 ^ l.nn - 1) 1 with q | q
    · exfalso
      have := Int32.le_trans h.1 h.2
      rw [show (1 : Int32) = nI 1 from rfl, nI_leI (by omega) (by omega)] at this
      omega
    · obtain ⟨s, hs1, hs2, rfl⟩ := fa_rngI (lo := 1) (by omega) h q
      by_cases hw : (0 : Int32) ≤ a2 ∧ a2 ≤ (1 : Int32)
      · rw [if_pos hw, if_neg fa_10, if_neg fa_10]
        have e1 := fa_tellc (M := M) (L := L) (D := D) (set := s) (a2 := a2) hl Q.lc (by omega) l.nn 0 fx_FU (by omega) (by unfold fx_FU; omega) (fun b3_6 b4_6 b5_6 => if a2 = 0 then (some b3_6) else (some b4_6))
        have e2 := fa_tellm (M := M) (set := s) (a2 := a2) hl Q.lm (by omega) l.nn 0 fx_FU (by omega) (by unfold fx_FU; omega) (fun b3_6 b4_6 b5_6 => if a2 = 0 then (some b3_6) else (some b4_6))
        by_cases h0 : a2 = 0
        · rw [if_pos h0] at e1 e2
          exact ⟨_, e1, e2⟩
        · rw [if_neg h0] at e1 e2
          exact ⟨_, e1, e2⟩
      · rw [if_neg hw, if_pos rfl, if_pos rfl]
        exact ⟨_, rfl, rfl⟩
  · rw [if_neg h, if_pos rfl, if_pos rfl]
    exact ⟨_, rfl, rfl⟩
/-! what can be sown -/
def fa_smP (l : fa_L) (σ : Nat → Int32) (t v : Nat) : Bool := decide (l.kd v = 1 ∧ ¬ σ (6 * t + v) < (2 : Int32))
def fa_sm (l : fa_L) (σ : Nat → Int32) (t : Nat) : Option Nat := (List.range' 0 l.nv).find? (fa_smP l σ t)
theorem fa_seed_31 {M : fv_M} {L s : Nat} {l : fa_L} {σ : Nat → Int32} {t : Nat} {a3 : Int32} (hl : fa_wl l) (hL : fa_lc M L l) (hc : fa_c M s σ) (ht : t < 4) : ∀ (d k f : Nat), k + d = l.nv → d < f → ∀ kk, g_S_seedFor_31 M s L (nI t) a3 f (nI k) kk = match (List.range' k d).find? (fa_smP l σ t) with | some v => some (nI v) | none => kk (nI l.nv) := by
  have h1 := hl.nv
  intro d
  induction d with
  | zero =>
    intro k f hk hf kk
    obtain ⟨f, rfl⟩ : ∃ g, f = g + 1 := ⟨f - 1, by omega⟩
    have : k = l.nv := by omega
    subst this
    rw [g_S_seedFor_31, hL.nv, if_pos (nI_le (Nat.le_refl _) (by omega))]
    rfl
  | succ d ih =>
    intro k f hk hf kk
    obtain ⟨f, rfl⟩ : ∃ g, f = g + 1 := ⟨f - 1, by omega⟩
    have ih := ih (k + 1) f (by omega) (by omega) kk
    have hk3 := hl.kd k (by omega)
    have e1 : (nI (l.kd k) = (1 : Int32)) ↔ l.kd k = 1 := nI_eq (by omega) (by decide)
    rw [g_S_seedFor_31, hL.nv, if_neg (nI_ge (by omega) (by omega)), fa_at (by omega) (by omega), Option.bind_some, hL.kd k (by omega), fa_stock hc ht (by omega), Option.bind_some, nI_1, List.range'_succ, List.find?_cons]
    by_cases k1 : l.kd k = 1
    · rw [if_pos (e1.mpr k1)]
      by_cases n2 : σ (6 * t + k) < (2 : Int32)
      · rw [if_pos n2, show fa_smP l σ t k = false from decide_eq_false (fun q => q.2 n2)]
        exact ih
      · rw [if_neg n2, show fa_smP l σ t k = true from decide_eq_true ⟨k1, n2⟩]
    · rw [if_neg (fun q => k1 (e1.mp q)), show fa_smP l σ t k = false from decide_eq_false (fun q => k1 q.1)]
      exact ih
def fa_seed (l : fa_L) (σ : Nat → Int32) (t v : Nat) : Option Nat := if σ (24 + t) < 0 then (if σ (6 * t + v) < (1 : Int32) then fa_sm l σ t else some v) else none
def fa_oI (n : Int32) (o : Option Nat) : Int32 := match o with
  | some v => nI v
  | none => n
theorem fa_seedFor {M : fv_M} {L s : Nat} {l : fa_L} {σ : Nat → Int32} {B t v : Nat} (hl : fa_wl l) (hw : fa_wS l σ B) (hL : fa_lc M L l) (hc : fa_c M s σ) (ht : t < l.nt) (hv : v < l.nv) : g_S_seedFor M s L (nI t) (nI v) = some (fa_oI (-4) (fa_seed l σ t v)) := by
  have h1 := hl.nv
  have h2 := hl.nt
  unfold g_S_seedFor fa_seed
  rw [fa_at (by omega) (by omega), Option.bind_some, hc.so t (by omega)]
  by_cases q : σ (24 + t) < 0
  · rw [if_pos q, if_pos q, if_pos rfl, fa_stock hc (by omega) (by omega), Option.bind_some]
    by_cases n1 : σ (6 * t + v) < (1 : Int32)
    · rw [if_pos n1, if_pos n1, show (0 : Int32) = nI 0 from rfl, fa_seed_31 hl hL hc (by omega) l.nv 0 fx_FU (by omega) (by unfold fx_FU; omega)]
      show _ = some (fa_oI (-4) ((List.range' 0 l.nv).find? (fa_smP l σ t)))
      cases (List.range' 0 l.nv).find? (fa_smP l σ t) <;> rfl
    · rw [if_neg n1, if_neg n1]
      rfl
  · rw [if_neg q, if_neg q]
    rcases hw.so t (by omega) with e | ⟨u, hu, -, e⟩
    · rw [e] at q; exact absurd fa_m1 q
    · rw [e, if_neg (fa_ne4 (by omega))]
      rfl
theorem fa_small_2 {M : fv_M} {l : fa_L} {σ : Nat → Int32} {t : Nat} (hl : fa_wl l) (hL : fa_lm M l) (hc : fa_m M (92 + 6) σ) (ht : t < 4) : ∀ (d k f : Nat), k + d = l.nv → d < f → ∀ kk, g_M_smallOf_2 M 92 (nI t) f (nI k) kk = match (List.range' k d).find? (fa_smP l σ t) with | some v => some (nI v) | none => kk (nI l.nv) := by
  have h1 := hl.nv
  intro d
  induction d with
  | zero =>
    intro k f hk hf kk
    obtain ⟨f, rfl⟩ : ∃ g, f = g + 1 := ⟨f - 1, by omega⟩
    have : k = l.nv := by omega
    subst this
    rw [g_M_smallOf_2, hL.nv, if_pos (nI_le (Nat.le_refl _) (by omega))]
    rfl
  | succ d ih =>
    intro k f hk hf kk
    obtain ⟨f, rfl⟩ : ∃ g, f = g + 1 := ⟨f - 1, by omega⟩
    have ih := ih (k + 1) f (by omega) (by omega) kk
    have hk3 := hl.kd k (by omega)
    have e1 : (nI (l.kd k) = (1 : Int32)) ↔ l.kd k = 1 := nI_eq (by omega) (by decide)
    rw [g_M_smallOf_2, hL.nv, if_neg (nI_ge (by omega) (by omega))]
    simp (disch := omega) only [fa_m2, fa_m6, nI_add, nI_clamp, fa_ckn, hL.kd k (by omega), hc (6 * t + k), nI_1]
    rw [List.range'_succ, List.find?_cons]
    by_cases k1 : l.kd k = 1
    · rw [if_pos (e1.mpr k1)]
      by_cases n2 : σ (6 * t + k) < (2 : Int32)
      · rw [if_pos ((fa_lt2 _).mp n2), show fa_smP l σ t k = false from decide_eq_false (fun q => q.2 n2)]
        exact ih
      · rw [if_neg (fun q => n2 ((fa_lt2 _).mpr q)), show fa_smP l σ t k = true from decide_eq_true ⟨k1, n2⟩]
    · rw [if_neg (fun q => k1 (e1.mp q)), show fa_smP l σ t k = false from decide_eq_false (fun q => k1 q.1)]
      exact ih
theorem fa_smallOf {M : fv_M} {l : fa_L} {σ : Nat → Int32} {t : Nat} (hl : fa_wl l) (hL : fa_lm M l) (hc : fa_m M (92 + 6) σ) (ht : t < 4) : g_M_smallOf M 92 (nI t) = some (fa_oI (-1) (fa_sm l σ t)) := by
  have h1 := hl.nv
  unfold g_M_smallOf
  rw [show (0 : Int32) = nI 0 from rfl, fa_small_2 hl hL hc ht l.nv 0 fx_FU (by omega) (by unfold fx_FU; omega)]
  show _ = some (fa_oI (-1) ((List.range' 0 l.nv).find? (fa_smP l σ t)))
  cases (List.range' 0 l.nv).find? (fa_smP l σ t) <;> rfl
theorem fa_sm_lt {l : fa_L} {σ : Nat → Int32} {t v : Nat} (h : fa_sm l σ t = some v) : v < l.nv ∧ ¬ σ (6 * t + v) < (2 : Int32) := by
  have h1 := List.mem_of_find?_eq_some h
  have h2 := List.find?_some h
  rw [List.mem_range'_1] at h1
  exact ⟨by omega, (of_decide_eq_true h2).2⟩
theorem fa_seed_lt {l : fa_L} {σ : Nat → Int32} {t v u : Nat} (hv : v < l.nv) (h : fa_seed l σ t v = some u) : u < l.nv := by
  unfold fa_seed at h
  split at h
  · split at h
    · exact (fa_sm_lt h).1
    · cases h; exact hv
  · cases h
theorem fa_lt1 (n : Int32) : n < (1 : Int32) ↔ ¬ 0 < n := by
  rw [Int32.lt_iff_toInt_lt, Int32.lt_iff_toInt_lt]
  have h1 : ((1 : Int32)).toInt = 1 := by decide
  have h2 : ((0 : Int32)).toInt = 0 := by decide
  omega
def fa_br (l : fa_L) (σ : Nat → Int32) (t : Nat) : Nat → Nat
  | 0 => 0
  | v + 1 => if (fa_seed l σ t v).isSome = true then fa_br l σ t v ||| 2 ^ v else fa_br l σ t v
theorem fa_bredc {M : fv_M} {L D : Nat} {l : fa_L} {σ : Nat → Int32} {B t : Nat} (hl : fa_wl l) (hw : fa_wS l σ B) (hL : fa_lc M L l) (hc : fa_c M 24 σ) (ht : t < l.nt) : ∀ (d k f : Nat), k + d = l.nv → d < f → ∀ kk, g_X_bred_14 M L D (nI t) f (nI (fa_br l σ t k)) (nI k) kk = kk (nI (fa_br l σ t l.nv)) (nI l.nv) := by
  have h1 := hl.nv
  intro d
  induction d with
  | zero =>
    intro k f hk hf kk
    obtain ⟨f, rfl⟩ : ∃ g, f = g + 1 := ⟨f - 1, by omega⟩
    have : k = l.nv := by omega
    subst this
    rw [g_X_bred_14, hL.nv, if_pos (nI_le (Nat.le_refl _) (by omega))]
  | succ d ih =>
    intro k f hk hf kk
    obtain ⟨f, rfl⟩ : ∃ g, f = g + 1 := ⟨f - 1, by omega⟩
    have ih := ih (k + 1) f (by omega) (by omega) kk
    rw [g_X_bred_14, hL.nv, if_neg (nI_ge (by omega) (by omega)), fa_seedFor hl hw hL hc ht (by omega), Option.bind_some, nI_1, fa_shl (by omega), fa_or]
    rw [fa_br] at ih
    cases e : fa_seed l σ t k with
    | none =>
      rw [e, if_neg (by simp)] at ih
      rw [if_pos (show fa_oI (-4) none = (-4 : Int32) from rfl), ih]
    | some u =>
      rw [e, if_pos (by simp)] at ih
      have := fa_seed_lt (by omega) e
      rw [if_neg (show ¬ fa_oI (-4) (some u) = (-4 : Int32) from fa_ne4 (by omega)), ih]
theorem fa_bredm {M : fv_M} {l : fa_L} {σ : Nat → Int32} {B t : Nat} (hl : fa_wl l) (hw : fa_wS l σ B) (hL : fa_lm M l) (hc : fa_m M (92 + 6) σ) (ht : t < l.nt) : ∀ (d k f : Nat), k + d = l.nv → d < f → ∀ kk, g_M_bred_14 M 92 (nI t) f (nI (fa_br l σ t k)) (nI k) kk = kk (nI (fa_br l σ t l.nv)) (nI l.nv) := by
  have h1 := hl.nv
  have h2 := hl.nt
  intro d
  induction d with
  | zero =>
    intro k f hk hf kk
    obtain ⟨f, rfl⟩ : ∃ g, f = g + 1 := ⟨f - 1, by omega⟩
    have : k = l.nv := by omega
    subst this
    rw [g_M_bred_14, hL.nv, if_pos (nI_le (Nat.le_refl _) (by omega))]
  | succ d ih =>
    intro k f hk hf kk
    obtain ⟨f, rfl⟩ : ∃ g, f = g + 1 := ⟨f - 1, by omega⟩
    have ih := ih (k + 1) f (by omega) (by omega) kk
    rw [g_M_bred_14, hL.nv, if_neg (nI_ge (by omega) (by omega))]
    simp (disch := omega) only [fa_24, fa_m6, nI_add, nI_clamp, fa_ckn, hc (24 + t), hc (6 * t + k), nI_1, fa_or0, fa_shl, fa_or]
    rw [fa_br] at ih
    unfold fa_seed at ih
    by_cases q : σ (24 + t) < 0
    · rw [if_neg (Int32.not_le.mpr q)]
      rw [if_pos q] at ih
      by_cases n1 : σ (6 * t + k) < (1 : Int32)
      · rw [if_neg ((fa_lt1 _).mp n1), fa_smallOf hl hL hc (by omega), Option.bind_some]
        rw [if_pos n1] at ih
        cases e : fa_sm l σ t with
        | none =>
          rw [e, if_neg (by simp)] at ih
          rw [if_pos (show fa_oI (-1) none < 0 from fa_m1), ih]
        | some u =>
          rw [e, if_pos (by simp)] at ih
          have := (fa_sm_lt e).1
          rw [if_neg (show ¬ fa_oI (-1) (some u) < 0 from nI_pos (by omega)), ih]
      · rw [if_pos (Classical.not_not.mp (fun z => n1 ((fa_lt1 _).mpr z)))]
        rw [if_neg n1, if_pos (by simp)] at ih
        rw [ih]
    · rw [if_pos (Int32.not_lt.mp q)]
      rw [if_neg q, if_neg (by simp)] at ih
      rw [ih]
theorem fa_o_bred {M : fv_M} {L D : Nat} {l : fa_L} {σ : Nat → Int32} {B : Nat} (Q : fa_Q M L l σ B) (a1 : Int32) : ∃ r, g_X_bred M L D a1 = some r ∧ g_M_bred M 92 a1 = some r := by
  have hl := Q.wl
  have h1 := hl.nt
  have h2 := hl.nv
  unfold g_X_bred g_M_bred
  rw [fa_xT, fa_mT, Q.lc.nt, Q.lm.nt, Option.bind_some, Option.bind_some]
  by_cases h : 0 ≤ a1 ∧ a1 ≤ nI l.nt - 1
  · rw [if_pos h, if_neg fa_10, if_neg fa_10]
    obtain ⟨t, ht, rfl⟩ := fa_idx (by omega) h
    exact ⟨_, fa_bredc hl Q.wS Q.lc Q.cS ht l.nv 0 fx_FU (by omega) (by unfold fx_FU; omega) _, fa_bredm hl Q.wS Q.lm Q.mS ht l.nv 0 fx_FU (by omega) (by unfold fx_FU; omega) _⟩
  · rw [if_neg h, if_pos rfl, if_pos rfl]
    exact ⟨_, rfl, rfl⟩
/-! the sum of all stocks -/
theorem fa_sumOf_10 {M : fv_M} {c : Nat} : ∀ (d k f : Nat) (a : Int32), k + d = 24 → d < f → ∀ kk, g_X_sumOf_10 M c 24 (Int32.ofNat 24) f a (nI k) kk = kk ((List.range' k d).foldl (fun s j => s + M c j) a) (nI 24) := by
  intro d
  induction d with
  | zero =>
    intro k f a hk hf kk
    obtain ⟨f, rfl⟩ : ∃ g, f = g + 1 := ⟨f - 1, by omega⟩
    have : k = 24 := by omega
    subst this
    rw [g_X_sumOf_10, if_pos (by decide)]
    rfl
  | succ d ih =>
    intro k f a hk hf kk
    obtain ⟨f, rfl⟩ : ∃ g, f = g + 1 := ⟨f - 1, by omega⟩
    rw [g_X_sumOf_10, if_neg (show ¬ Int32.ofNat 24 ≤ nI k from nI_ge (a := k) (b := 24) (by omega) (by omega)), fa_cki (by omega) (by omega), nI_clamp (by omega), nI_1, ih (k + 1) f _ (by omega) (by omega)]
    rfl
theorem fa_count_4 {M : fv_M} {a1 : Int32} : ∀ (d k f : Nat) (a : Int32), k + d = 24 → d < f → ∀ kk, g_M_count_4 M 92 a1 f a (nI k) kk = kk ((List.range' k d).foldl (fun s j => s + M (92 + 6) j) a) (nI 24) := by
  intro d
  induction d with
  | zero =>
    intro k f a hk hf kk
    obtain ⟨f, rfl⟩ : ∃ g, f = g + 1 := ⟨f - 1, by omega⟩
    have : k = 24 := by omega
    subst this
    rw [g_M_count_4, if_pos (by decide)]
    rfl
  | succ d ih =>
    intro k f a hk hf kk
    obtain ⟨f, rfl⟩ : ∃ g, f = g + 1 := ⟨f - 1, by omega⟩
    rw [g_M_count_4, if_neg (show ¬ (24 : Int32) ≤ nI k from nI_ge (a := k) (b := 24) (by omega) (by omega)), fa_cki (by omega) (by omega), nI_clamp (by omega), nI_1, ih (k + 1) f _ (by omega) (by omega)]
    rfl
theorem fa_foldl_eq {f g : Nat → Int32} {xs : List Nat} (h : ∀ j, j ∈ xs → f j = g j) (a : Int32) : xs.foldl (fun s j => s + f j) a = xs.foldl (fun s j => s + g j) a := by
  induction xs generalizing a with
  | nil => rfl
  | cons x xs ih =>
    simp only [List.foldl_cons]
    rw [h x List.mem_cons_self, ih (fun j hj => h j (List.mem_cons_of_mem _ hj))]
theorem fa_o_count {M : fv_M} {L D : Nat} {l : fa_L} {σ : Nat → Int32} {B : Nat} (Q : fa_Q M L l σ B) (h6 : M 88 3 = M 92 15) (h7 : M 34 1 = M 92 11) (h8 : M 76 1 = M 92 13) (h9 : M 1 2 = M 92 18) (a1 : Int32) : ∃ r, g_X_count M L D a1 = some r ∧ g_M_count M 92 a1 = some r := by
  unfold g_X_count g_M_count g_X_sumOf
  rw [show (0 : Int32) = nI 0 from rfl, fa_count_4 24 0 fx_FU _ (by omega) (by unfold fx_FU; omega), fa_sumOf_10 24 0 fx_FU _ (by omega) (by unfold fx_FU; omega)]
  rw [fa_44, Q.lc.nv, Q.lc.nn, Q.lc.nt, Q.lc.nw, Q.lm.nv, Q.lm.nn, Q.lm.nt, Q.lm.nw, Q.cS.se, Q.mS 44 (by omega), h6, h7, h8, h9]
  rw [fa_foldl_eq (f := M (24 + 1)) (g := M (92 + 6)) (fun j hj => by
    have := (List.mem_range'_1.mp hj).2
    rw [Q.cS.sk j (by omega), Q.mS j (by omega)])]
  repeat' split
  all_goals exact ⟨_, rfl, rfl⟩
