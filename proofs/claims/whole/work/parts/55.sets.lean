/-! sets of nouns: what they mean, the smallest that says a verb, what tells most -/
theorem fa_bc_all : (List.range 256).all (fun a => decide (g_I_bitCount (fun _ _ => 0) (nI a) = some (nI (fa_pc a)))) = true := by decide +kernel
theorem fa_bc {M : fv_M} {a : Nat} (ha : a < 256) : g_I_bitCount M (nI a) = some (nI (fa_pc a)) := of_decide_eq_true (List.all_eq_true.mp fa_bc_all a (List.mem_range.mpr ha))
theorem fa_bit1_all : (List.range 256).all (fun a => (List.range 8).all (fun k => decide ((nI a >>> (nI k &&& 31)) &&& (1 : Int32) = nI (if a.testBit k = true then 1 else 0)))) = true := by decide +kernel
theorem fa_bit1 {a k : Nat} (ha : a < 256) (hk : k < 8) : (nI a >>> (nI k &&& 31)) &&& (1 : Int32) = nI (if a.testBit k = true then 1 else 0) :=
  of_decide_eq_true (List.all_eq_true.mp (List.all_eq_true.mp fa_bit1_all a (List.mem_range.mpr ha)) k (List.mem_range.mpr hk))
theorem fa_bits_4 {M : fv_M} {a : Nat} (ha : a < 256) : ∀ (d k f s : Nat), k + d = 8 → d < f → ∀ kk, g_M_bits_4 M (nI a) f (nI s) (nI k) kk = kk (nI ((List.range' k d).foldl (fun s k => s + (if a.testBit k = true then 1 else 0)) s)) (nI 8) := by
  intro d
  induction d with
  | zero =>
    intro k f s hk hf kk
    obtain ⟨f, rfl⟩ : ∃ g, f = g + 1 := ⟨f - 1, by omega⟩
    have : k = 8 := by omega
    subst this
    rw [g_M_bits_4, if_pos (show (8 : Int32) ≤ nI 8 by decide)]
    rfl
  | succ d ih =>
    intro k f s hk hf kk
    obtain ⟨f, rfl⟩ : ∃ g, f = g + 1 := ⟨f - 1, by omega⟩
    rw [g_M_bits_4, if_neg (show ¬ (8 : Int32) ≤ nI k from nI_ge (a := k) (b := 8) (by omega) (by omega)), fa_bit1 ha (by omega), nI_add, nI_1, ih (k + 1) f _ (by omega) (by omega)]
    rfl
theorem fa_bits {M : fv_M} {a : Nat} (ha : a < 256) : g_M_bits M (nI a) = some (nI (fa_pc a)) := by
  unfold g_M_bits
  exact fa_bits_4 ha 8 0 fx_FU 0 (by omega) (by unfold fx_FU; omega) _
theorem fa_meant_11 {M : fv_M} {L : Nat} {l : fa_L} {set : Nat} (hl : fa_wl l) (hL : fa_lc M L l) (hs : set < 256) : ∀ (d k f : Nat), k + d = l.nn → d < f → ∀ kk, g_L_meantBy_11 M L (nI set) f (nI (fa_mto l set k)) (nI k) kk = kk (nI (fa_mean l set)) (nI l.nn) := by
  have h1 := hl.nn
  intro d
  induction d with
  | zero =>
    intro k f hk hf kk
    obtain ⟨f, rfl⟩ : ∃ g, f = g + 1 := ⟨f - 1, by omega⟩
    have : k = l.nn := by omega
    subst this
    rw [g_L_meantBy_11, hL.nn, if_pos (nI_le (Nat.le_refl _) (by omega))]
    rfl
  | succ d ih =>
    intro k f hk hf kk
    obtain ⟨f, rfl⟩ : ∃ g, f = g + 1 := ⟨f - 1, by omega⟩
    have ih := ih (k + 1) f (by omega) (by omega) kk
    rw [g_L_meantBy_11, hL.nn, if_neg (nI_ge (by omega) (by omega)), fa_has hs (by omega), Option.bind_some]
    unfold fa_mto at ih
    by_cases h : set.testBit k = true
    · rw [if_pos h] at ih ⊢
      rw [if_neg fa_10, fa_mind hl hL (by omega), Option.bind_some, fa_and, nI_1, ih]
    · rw [if_neg h] at ih ⊢
      rw [if_pos rfl, nI_1, ih]
theorem fa_meant {M : fv_M} {L : Nat} {l : fa_L} {set : Nat} (hl : fa_wl l) (hL : fa_lc M L l) (hs : set < 256) : g_L_meantBy M L (nI set) = some (nI (fa_mean l set)) := by
  have h1 := hl.nn
  have h2 := hl.nv
  unfold g_L_meantBy
  rw [hL.nv, fa_mask (by omega)]
  exact fa_meant_11 hl hL hs l.nn 0 fx_FU (by omega) (by unfold fx_FU; omega) _
theorem fa_rof_11 {M : fv_M} {l : fa_L} {set : Nat} (hl : fa_wl l) (hnn : M 92 2 = nI l.nn) (hmi : ∀ n, n < l.nn → M (92 + 2) n = nI (l.mi n &&& (2 ^ l.nv - 1))) (hs : set < 256) : ∀ (d k f : Nat), k + d = l.nn → d < f → ∀ kk, g_M_readingsOf_11 M 92 (nI set) f (nI (fa_mto l set k)) (nI k) kk = kk (nI (fa_mean l set)) (nI l.nn) := by
  have h1 := hl.nn
  intro d
  induction d with
  | zero =>
    intro k f hk hf kk
    obtain ⟨f, rfl⟩ : ∃ g, f = g + 1 := ⟨f - 1, by omega⟩
    have : k = l.nn := by omega
    subst this
    rw [g_M_readingsOf_11, hnn, if_pos (nI_le (Nat.le_refl _) (by omega))]
    rfl
  | succ d ih =>
    intro k f hk hf kk
    obtain ⟨f, rfl⟩ : ∃ g, f = g + 1 := ⟨f - 1, by omega⟩
    have ih := ih (k + 1) f (by omega) (by omega) kk
    rw [g_M_readingsOf_11, hnn, if_neg (nI_ge (by omega) (by omega)), fa_isIn hs (by omega), Option.bind_some]
    unfold fa_mto at ih
    by_cases h : set.testBit k = true
    · rw [if_pos h] at ih ⊢
      rw [if_neg fa_10, fa_cki (by omega) (by omega), nI_clamp (by omega), hmi k (by omega), fa_and, nI_1, ih]
    · rw [if_neg h] at ih ⊢
      rw [if_pos rfl, nI_1, fa_and, Nat.and_self, ih]
theorem fa_rof' {M : fv_M} {l : fa_L} {set : Nat} (hl : fa_wl l) (hnv : M 92 0 = nI l.nv) (hnn : M 92 2 = nI l.nn) (hmi : ∀ n, n < l.nn → M (92 + 2) n = nI (l.mi n &&& (2 ^ l.nv - 1))) (hs : set < 256) : g_M_readingsOf M 92 (nI set) = some (nI (fa_mean l set)) := by
  have h1 := hl.nn
  have h2 := hl.nv
  unfold g_M_readingsOf
  rw [hnv, fa_mask (by omega)]
  exact fa_rof_11 hl hnn hmi hs l.nn 0 fx_FU (by omega) (by unfold fx_FU; omega) _
theorem fa_rof {M : fv_M} {l : fa_L} {set : Nat} (hl : fa_wl l) (hL : fa_lm M l) (hs : set < 256) : g_M_readingsOf M 92 (nI set) = some (nI (fa_mean l set)) := fa_rof' hl hL.nv hL.nn hL.mi hs
theorem fa_xR {M : fv_M} {L D : Nat} {l : fa_L} (hl : fa_wl l) (hL : fa_lc M L l) (a : Int32) : g_X_isRow M L D a = some (if (1 : Int32) ≤ a ∧ a ≤ nI (2 ^ l.nn - 1) then (1 : Int32) else 0) := by
  have h1 := hl.nn
  unfold g_X_isRow g_L_allNouns
  rw [Option.bind_some, hL.nn, fa_mask (by omega), fa_wi, Option.bind_some, fa_ckp]
theorem fa_o_readings {M : fv_M} {L D : Nat} {l : fa_L} {σ : Nat → Int32} {B : Nat} (Q : fa_Q M L l σ B) (a1 : Int32) : ∃ r, g_X_readings M L D a1 = some r ∧ g_M_readings M 92 a1 = some r := by
  have hl := Q.wl
  have h1 := hl.nn
  have h8 := fa_p8 hl
  unfold g_X_readings g_M_readings
  rw [fa_xR hl Q.lc, fa_mi, Q.lm.nn, fa_mask (by omega), Option.bind_some, Option.bind_some]
  by_cases h : (1 : Int32) ≤ a1 ∧ a1 ≤ nI (2 ^ l.nn - 1)
  · rw [if_pos h, if_neg fa_10, if_neg fa_10]
    have hp := Nat.two_pow_pos l.nn
    rcases Nat.lt_or_ge (2 ^ l.nn - 1) 1 with q | q
    · exfalso
      have := Int32.le_trans h.1 h.2
      rw [show (1 : Int32) = nI 1 from rfl, nI_leI (by omega) (by omega)] at this
      omega
    · obtain ⟨s, hs1, hs2, rfl⟩ := fa_rngI (lo := 1) (by omega) h q
      rw [fa_meant hl Q.lc (by omega), fa_rof hl Q.lm (by omega)]
      exact ⟨_, rfl, rfl⟩
  · rw [if_neg h, if_pos rfl, if_pos rfl]
    exact ⟨_, rfl, rfl⟩
/-! the smallest row -/
def fa_sy (l : fa_L) (t v : Nat) : Nat → Nat
  | 0 => 0
  | s + 1 => if fa_in (s + 1) (fa_own l t) ∧ fa_mean l (s + 1) = 2 ^ v ∧ (fa_sy l t v s = 0 ∨ fa_pc (s + 1) < fa_pc (fa_sy l t v s)) then s + 1 else fa_sy l t v s
def fa_syI (b : Nat) : Int32 := if b = 0 then (-4 : Int32) else nI b
theorem fa_sy_le (l : fa_L) (t v : Nat) : ∀ s, fa_sy l t v s ≤ s := by
  intro s
  induction s with
  | zero => exact Nat.le_refl _
  | succ s ih =>
    unfold fa_sy
    split
    · exact Nat.le_refl _
    · omega
theorem fa_ne4 {n : Nat} (h : n < 2 ^ 31) : ¬ nI n = (-4 : Int32) := fun q => by
  have := congrArg Int32.toInt q
  rw [nI_toInt h] at this
  have h4 : ((-4 : Int32)).toInt = -4 := by decide
  omega
theorem fa_pc_lt (a : Nat) : fa_pc a ≤ 8 := by
  unfold fa_pc
  simp only [List.range, List.range.loop, List.foldl]
  repeat' split
  all_goals omega
theorem fa_syI_4 (b : Nat) (h : b < 2 ^ 31) : (fa_syI b = (-4 : Int32)) ↔ b = 0 := by
  unfold fa_syI
  by_cases q : b = 0
  · rw [if_pos q]; exact ⟨fun _ => q, fun _ => rfl⟩
  · rw [if_neg q]; exact ⟨fun z => absurd z (fa_ne4 h), fun z => absurd z q⟩
theorem fa_rowc {M : fv_M} {L : Nat} {l : fa_L} {t v : Nat} {a1 : Int32} (hl : fa_wl l) (hL : fa_lc M L l) (hv : v < l.nv) : ∀ (d k f : Nat), k + d = 2 ^ l.nn - 1 → d < f → ∀ kk, g_L_smallestRow_13 M L a1 (nI v) (nI (fa_own l t)) f (fa_syI (fa_sy l t v k)) (nI (k + 1)) kk = kk (fa_syI (fa_sy l t v (2 ^ l.nn - 1))) (nI (2 ^ l.nn - 1 + 1)) := by
  have h1 := hl.nn
  have h2 := hl.nv
  have h8 := fa_p8 hl
  intro d
  induction d with
  | zero =>
    intro k f hk hf kk
    obtain ⟨f, rfl⟩ : ∃ g, f = g + 1 := ⟨f - 1, by omega⟩
    have : k = 2 ^ l.nn - 1 := by omega
    subst this
    rw [g_L_smallestRow_13]
    unfold g_L_allNouns
    rw [Option.bind_some, hL.nn, fa_mask (by omega), if_pos (nI_lt (by omega) (by omega))]
  | succ d ih =>
    intro k f hk hf kk
    obtain ⟨f, rfl⟩ : ∃ g, f = g + 1 := ⟨f - 1, by omega⟩
    have ih := ih (k + 1) f (by omega) (by omega) kk
    have hle := fa_sy_le l t v k
    have hm := fa_mean_lt hl (k + 1)
    have hp : 2 ^ v ≤ 2 ^ 6 := Nat.pow_le_pow_right (n := 2) (by omega) (by omega)
    rw [g_L_smallestRow_13]
    unfold g_L_allNouns
    rw [Option.bind_some, hL.nn, fa_mask (by omega), if_neg (nI_nlt (by omega) (by omega)), fa_meant hl hL (by omega), Option.bind_some, fa_shl (by omega), nI_1]
    have em : (nI (fa_mean l (k + 1)) = nI (2 ^ v)) ↔ fa_mean l (k + 1) = 2 ^ v := nI_eq (by omega) (by omega)
    have hold : (¬ (fa_in (k + 1) (fa_own l t) ∧ fa_mean l (k + 1) = 2 ^ v ∧ (fa_sy l t v k = 0 ∨ fa_pc (k + 1) < fa_pc (fa_sy l t v k)))) → fa_sy l t v (k + 1) = fa_sy l t v k := fun q => if_neg q
    have hnew : (fa_in (k + 1) (fa_own l t) ∧ fa_mean l (k + 1) = 2 ^ v ∧ (fa_sy l t v k = 0 ∨ fa_pc (k + 1) < fa_pc (fa_sy l t v k))) → fa_sy l t v (k + 1) = k + 1 := fun q => if_pos q
    by_cases hi : fa_in (k + 1) (fa_own l t)
    · rw [if_pos hi]
      by_cases he : fa_mean l (k + 1) = 2 ^ v
      · rw [if_pos (em.mpr he)]
        by_cases h0 : fa_sy l t v k = 0
        · rw [if_pos ((fa_syI_4 _ (by omega)).mpr h0)]
          rw [hnew ⟨hi, he, Or.inl h0⟩, show fa_syI (k + 1) = nI (k + 1) from if_neg (by omega)] at ih
          exact ih
        · rw [if_neg (fun q => h0 ((fa_syI_4 _ (by omega)).mp q)), show fa_syI (fa_sy l t v k) = nI (fa_sy l t v k) from if_neg h0, fa_bc (by omega), Option.bind_some, fa_bc (by omega), Option.bind_some]
          have p1 := fa_pc_lt (k + 1)
          have p2 := fa_pc_lt (fa_sy l t v k)
          by_cases hc : fa_pc (k + 1) < fa_pc (fa_sy l t v k)
          · rw [if_neg (nI_ge hc (by omega))]
            rw [hnew ⟨hi, he, Or.inr hc⟩, show fa_syI (k + 1) = nI (k + 1) from if_neg (by omega)] at ih
            exact ih
          · rw [if_pos (nI_le (by omega) (by omega))]
            rw [hold (fun q => q.2.2.elim h0 hc), show fa_syI (fa_sy l t v k) = nI (fa_sy l t v k) from if_neg h0] at ih
            exact ih
      · rw [if_neg (fun q => he (em.mp q))]
        rw [hold (fun q => he q.2.1)] at ih
        exact ih
    · rw [if_neg hi]
      rw [hold (fun q => hi q.1)] at ih
      exact ih
theorem fa_rowm {M : fv_M} {l : fa_L} {t v : Nat} (hl : fa_wl l) (hL : fa_lm M l) (hv : v < l.nv) (ht : t < l.nt) : ∀ (d k f : Nat), k + d = 2 ^ l.nn - 1 → d < f → ∀ kk, g_M_say_24 M 92 (nI t) (nI v) f (fa_syI (fa_sy l t v k)) (nI (k + 1)) kk = kk (fa_syI (fa_sy l t v (2 ^ l.nn - 1))) (nI (2 ^ l.nn - 1 + 1)) := by
  have h1 := hl.nn
  have h2 := hl.nv
  have h3 := hl.nt
  have h8 := fa_p8 hl
  have hpos := Nat.two_pow_pos l.nn
  intro d
  induction d with
  | zero =>
    intro k f hk hf kk
    obtain ⟨f, rfl⟩ : ∃ g, f = g + 1 := ⟨f - 1, by omega⟩
    have : k = 2 ^ l.nn - 1 := by omega
    subst this
    rw [g_M_say_24, hL.nn, fa_shl (by omega), if_pos (nI_le (by omega) (by omega))]
  | succ d ih =>
    intro k f hk hf kk
    obtain ⟨f, rfl⟩ : ∃ g, f = g + 1 := ⟨f - 1, by omega⟩
    have ih := ih (k + 1) f (by omega) (by omega) kk
    have hle := fa_sy_le l t v k
    have hm := fa_mean_lt hl (k + 1)
    have hp : 2 ^ v ≤ 2 ^ 6 := Nat.pow_le_pow_right (n := 2) (by omega) (by omega)
    rw [g_M_say_24, hL.nn, fa_shl (by omega), if_neg (nI_ge (by omega) (by omega)), fa_rof hl hL (by omega), Option.bind_some, fa_shl (by omega), nI_1, fa_cki (by omega) (by omega), nI_clamp (by omega), hL.ow t ht]
    have em : (nI (fa_mean l (k + 1)) = nI (2 ^ v)) ↔ fa_mean l (k + 1) = 2 ^ v := nI_eq (by omega) (by omega)
    have hold : (¬ (fa_in (k + 1) (fa_own l t) ∧ fa_mean l (k + 1) = 2 ^ v ∧ (fa_sy l t v k = 0 ∨ fa_pc (k + 1) < fa_pc (fa_sy l t v k)))) → fa_sy l t v (k + 1) = fa_sy l t v k := fun q => if_neg q
    have hnew : (fa_in (k + 1) (fa_own l t) ∧ fa_mean l (k + 1) = 2 ^ v ∧ (fa_sy l t v k = 0 ∨ fa_pc (k + 1) < fa_pc (fa_sy l t v k))) → fa_sy l t v (k + 1) = k + 1 := fun q => if_pos q
    by_cases hi : fa_in (k + 1) (fa_own l t)
    · rw [if_pos hi]
      by_cases he : fa_mean l (k + 1) = 2 ^ v
      · rw [if_pos (em.mpr he)]
        by_cases h0 : fa_sy l t v k = 0
        · rw [if_pos ((fa_syI_4 _ (by omega)).mpr h0)]
          rw [hnew ⟨hi, he, Or.inl h0⟩, show fa_syI (k + 1) = nI (k + 1) from if_neg (by omega)] at ih
          exact ih
        · rw [if_neg (fun q => h0 ((fa_syI_4 _ (by omega)).mp q)), show fa_syI (fa_sy l t v k) = nI (fa_sy l t v k) from if_neg h0, fa_bits (by omega), Option.bind_some, fa_bits (by omega), Option.bind_some]
          have p1 := fa_pc_lt (k + 1)
          have p2 := fa_pc_lt (fa_sy l t v k)
          by_cases hc : fa_pc (k + 1) < fa_pc (fa_sy l t v k)
          · rw [if_neg (nI_ge hc (by omega))]
            rw [hnew ⟨hi, he, Or.inr hc⟩, show fa_syI (k + 1) = nI (k + 1) from if_neg (by omega)] at ih
            exact ih
          · rw [if_pos (nI_le (by omega) (by omega))]
            rw [hold (fun q => q.2.2.elim h0 hc), show fa_syI (fa_sy l t v k) = nI (fa_sy l t v k) from if_neg h0] at ih
            exact ih
      · rw [if_neg (fun q => he (em.mp q))]
        rw [hold (fun q => he q.2.1)] at ih
        exact ih
    · rw [if_neg hi]
      rw [hold (fun q => hi q.1)] at ih
      exact ih
theorem fa_o_say {M : fv_M} {L D : Nat} {l : fa_L} {σ : Nat → Int32} {B : Nat} (Q : fa_Q M L l σ B) (a1 a2 : Int32) : ∃ r, g_X_say M L D a1 a2 = some r ∧ g_M_say M 92 a1 a2 = some r := by
  have hl := Q.wl
  have h1 := hl.nt
  have h2 := hl.nv
  have h8 := fa_p8 hl
  unfold g_X_say g_M_say
  rw [fa_xT, fa_mT, Q.lc.nt, Q.lm.nt, Option.bind_some, Option.bind_some]
  by_cases h : 0 ≤ a1 ∧ a1 ≤ nI l.nt - 1
  · rw [if_pos h, if_neg fa_10, if_neg fa_10, fa_xV, fa_mV, Q.lc.nv, Q.lm.nv, Option.bind_some, Option.bind_some]
    obtain ⟨t, ht, rfl⟩ := fa_idx (by omega) h
    by_cases hw : 0 ≤ a2 ∧ a2 ≤ nI l.nv - 1
    · rw [if_pos hw, if_neg fa_10, if_neg fa_10]
      obtain ⟨v, hv, rfl⟩ := fa_idx (by omega) hw
      unfold g_L_smallestRow
      rw [fa_nouns hl Q.lc ht, Option.bind_some]
      have e1 := fa_rowc (M := M) (L := L) (t := t) (v := v) (a1 := nI t) hl Q.lc hv (2 ^ l.nn - 1) 0 fx_FU (by omega) (by unfold fx_FU; omega) (fun b4_6 b5_6 => some b4_6)
      have e2 := fa_rowm (M := M) (t := t) (v := v) hl Q.lm hv ht (2 ^ l.nn - 1) 0 fx_FU (by omega) (by unfold fx_FU; omega) (fun b3_6 b4_6 => some b3_6)
      refine ⟨fa_syI (fa_sy l t v (2 ^ l.nn - 1)), ?_, e2⟩
      rw [show g_L_smallestRow_13 M L (nI t) (nI v) (nI (fa_own l t)) fx_FU (-4 : Int32) (1 : Int32) (fun b4_6 b5_6 => some b4_6) = _ from e1]
      rfl
    · rw [if_neg hw, if_pos rfl, if_pos rfl]
      exact ⟨_, rfl, rfl⟩
  · rw [if_neg h, if_pos rfl, if_pos rfl]
    exact ⟨_, rfl, rfl⟩
