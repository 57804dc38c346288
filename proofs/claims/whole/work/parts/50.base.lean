/-! what the program means: a land and a standing as functions on numbers, and the small parts that both sides use -/
theorem fa_bit_all : (List.range 256).all (fun a => (List.range 8).all (fun k => decide (((nI a >>> (nI k &&& 31)) &&& (1 : Int32) = (1 : Int32)) ↔ a.testBit k = true))) = true := by decide +kernel
theorem fa_bit {a k : Nat} (ha : a < 256) (hk : k < 8) : ((nI a >>> (nI k &&& 31)) &&& (1 : Int32) = (1 : Int32)) ↔ a.testBit k = true :=
  of_decide_eq_true (List.all_eq_true.mp (List.all_eq_true.mp fa_bit_all a (List.mem_range.mpr ha)) k (List.mem_range.mpr hk))
theorem fa_shl_all : (List.range 31).all (fun k => decide ((1 : Int32) <<< (nI k &&& 31) = nI (2 ^ k))) = true := by decide +kernel
theorem fa_shl {k : Nat} (hk : k < 31) : (1 : Int32) <<< (nI k &&& 31) = nI (2 ^ k) := of_decide_eq_true (List.all_eq_true.mp fa_shl_all k (List.mem_range.mpr hk))
theorem fa_or (a b : Nat) : nI a ||| nI b = nI (a ||| b) := by
  apply Int32.toBitVec_inj.mp
  show BitVec.ofNat 32 a ||| BitVec.ofNat 32 b = BitVec.ofNat 32 (a ||| b)
  apply BitVec.eq_of_getLsbD_eq
  intro i hi
  simp [BitVec.getLsbD_ofNat, Nat.testBit_or, hi]
theorem fa_and (a b : Nat) : nI a &&& nI b = nI (a &&& b) := by
  apply Int32.toBitVec_inj.mp
  show BitVec.ofNat 32 a &&& BitVec.ofNat 32 b = BitVec.ofNat 32 (a &&& b)
  apply BitVec.eq_of_getLsbD_eq
  intro i hi
  simp [BitVec.getLsbD_ofNat, Nat.testBit_and, hi]
theorem fa_sub {a b : Nat} (h : b ≤ a) : nI a - nI b = nI (a - b) := by
  have e : nI a = nI (a - b) + nI b := by rw [nI_add, Nat.sub_add_cancel h]
  rw [e]
  exact Int32.add_sub_cancel _ _
theorem fa_mul (a b : Nat) : nI a * nI b = nI (a * b) := (Int32.ofNat_mul a b).symm
theorem fa_mask {k : Nat} (hk : k < 31) : ((1 : Int32) <<< (nI k &&& 31)) - (1 : Int32) = nI (2 ^ k - 1) := by
  rw [fa_shl hk, show (1 : Int32) = nI 1 from rfl, fa_sub (Nat.one_le_two_pow)]
theorem fa_at {M : fv_M} {c n i : Nat} (h : i < n) (hn : n < 2 ^ 31) : g_X_at M c n (nI i) = some (M c i) := by
  unfold g_X_at fx_ck
  rw [if_neg (nI_pos (by omega)), if_neg (show ¬ Int32.ofNat n ≤ nI i from nI_ge h hn), if_neg (nI_in h hn), nI_clamp (by omega)]
theorem fa_put {M : fv_M} {c n i : Nat} {x : Int32} (h : i < n) (hn : n < 2 ^ 31) : g_X_put M c n (nI i) x = some (fv_set M c i x) := by
  unfold g_X_put fx_ck
  rw [if_neg (nI_pos (by omega)), if_neg (show ¬ Int32.ofNat n ≤ nI i from nI_ge h hn), if_neg (nI_in h hn), nI_clamp (by omega)]
theorem fa_cell {M : fv_M} (t v : Nat) : g_X_cell M (nI t) (nI v) = some (nI (6 * t + v)) := by
  unfold g_X_cell
  rw [show (6 : Int32) = nI 6 from rfl, fa_mul, nI_add, Nat.mul_comm]
theorem fa_has {M : fv_M} {a k : Nat} (ha : a < 256) (hk : k < 8) : g_X_has M (nI a) (nI k) = some (if a.testBit k = true then (1 : Int32) else 0) := by
  unfold g_X_has
  by_cases h : a.testBit k = true
  · rw [if_pos ((fa_bit ha hk).mpr h), if_pos h]
  · rw [if_neg (fun q => h ((fa_bit ha hk).mp q)), if_neg h]
theorem fa_isIn {M : fv_M} {a k : Nat} (ha : a < 256) (hk : k < 8) : g_M_isIn M (nI a) (nI k) = some (if a.testBit k = true then (1 : Int32) else 0) := by
  unfold g_M_isIn
  by_cases h : a.testBit k = true
  · rw [if_pos ((fa_bit ha hk).mpr h), if_pos h]
  · rw [if_neg (fun q => h ((fa_bit ha hk).mp q)), if_neg h]
theorem fa_10 : ¬ (1 : Int32) = 0 := by decide
theorem fa_ckb {α : Type} {b : Bool} {x : Option α} : fx_ck (¬ ((if b = true then (1 : Int32) else 0) = 0 ∨ (if b = true then (1 : Int32) else 0) = 1)) x = x := by
  unfold fx_ck
  rw [if_neg]
  cases b
  · exact fun h => h (Or.inl rfl)
  · exact fun h => h (Or.inr rfl)
theorem fa_ck {α : Type} {p : Prop} [Decidable p] {x : Option α} (h : ¬ p) : fx_ck p x = x := if_neg h
theorem fa_cki {α : Type} {i n : Nat} {x : Option α} (h : i < n) (hn : n < 2 ^ 31) : fx_ck (nI i < 0 ∨ n ≤ (nI i).toNatClampNeg) x = x := if_neg (nI_in h hn)
/-! a land -/
def fa_L : Type := (Nat → Nat) × (Nat → Nat → Nat)
def fa_L.nv (l : fa_L) : Nat := l.1 0
def fa_L.nn (l : fa_L) : Nat := l.1 1
def fa_L.nt (l : fa_L) : Nat := l.1 2
def fa_L.nw (l : fa_L) : Nat := l.1 3
def fa_L.kd (l : fa_L) : Nat → Nat := l.2 0
def fa_L.cr (l : fa_L) : Nat → Nat := l.2 1
def fa_L.mi (l : fa_L) : Nat → Nat := l.2 2
def fa_L.ow (l : fa_L) : Nat → Nat := l.2 3
def fa_L.sk (l : fa_L) : Nat → Nat := l.2 4
def fa_L.wt (l : fa_L) : Nat → Nat := l.2 5
def fa_L.wv (l : fa_L) : Nat → Nat := l.2 6
def fa_L.ww (l : fa_L) : Nat → Nat := l.2 7
def fa_L.mk (nv : Nat) (nn : Nat) (nt : Nat) (nw : Nat) (kd : Nat → Nat) (cr : Nat → Nat) (mi : Nat → Nat) (ow : Nat → Nat) (sk : Nat → Nat) (wt : Nat → Nat) (wv : Nat → Nat) (ww : Nat → Nat) : fa_L := (fun k => match k with | 0 => nv | 1 => nn | 2 => nt | _ => nw, fun k => match k with | 0 => kd | 1 => cr | 2 => mi | 3 => ow | 4 => sk | 5 => wt | 6 => wv | _ => ww)
def fa_wl (l : fa_L) : Prop := (l.nv ≤ 6) ∧ (l.nn ≤ 8) ∧ (l.nt ≤ 4) ∧ (l.nw ≤ 8) ∧ (∀ v, v < l.nv → l.kd v ≤ 3) ∧ (∀ v, v < l.nv → l.cr v ≤ 9) ∧ (∀ n, n < l.nn → l.mi n ≤ 63) ∧ (∀ t, t < l.nt → l.ow t ≤ 63) ∧ (∀ k, k < 24 → l.sk k ≤ 30) ∧ (∀ t v, t < 4 → v < 6 → (l.nt ≤ t ∨ l.nv ≤ v) → l.sk (6 * t + v) = 0) ∧ (∀ w, w < l.nw → l.wt w < l.nt) ∧ (∀ w, w < l.nw → l.wv w < l.nv) ∧ (∀ w, w < l.nw → 1 ≤ l.ww w ∧ l.ww w ≤ 9)
theorem fa_wl.nv {l : fa_L} (h : fa_wl l) : l.nv ≤ 6 := h.1
theorem fa_wl.nn {l : fa_L} (h : fa_wl l) : l.nn ≤ 8 := h.2.1
theorem fa_wl.nt {l : fa_L} (h : fa_wl l) : l.nt ≤ 4 := h.2.2.1
theorem fa_wl.nw {l : fa_L} (h : fa_wl l) : l.nw ≤ 8 := h.2.2.2.1
theorem fa_wl.kd {l : fa_L} (h : fa_wl l) : ∀ v, v < l.nv → l.kd v ≤ 3 := h.2.2.2.2.1
theorem fa_wl.cr {l : fa_L} (h : fa_wl l) : ∀ v, v < l.nv → l.cr v ≤ 9 := h.2.2.2.2.2.1
theorem fa_wl.mi {l : fa_L} (h : fa_wl l) : ∀ n, n < l.nn → l.mi n ≤ 63 := h.2.2.2.2.2.2.1
theorem fa_wl.ow {l : fa_L} (h : fa_wl l) : ∀ t, t < l.nt → l.ow t ≤ 63 := h.2.2.2.2.2.2.2.1
theorem fa_wl.sk {l : fa_L} (h : fa_wl l) : ∀ k, k < 24 → l.sk k ≤ 30 := h.2.2.2.2.2.2.2.2.1
theorem fa_wl.s0 {l : fa_L} (h : fa_wl l) : ∀ t v, t < 4 → v < 6 → (l.nt ≤ t ∨ l.nv ≤ v) → l.sk (6 * t + v) = 0 := h.2.2.2.2.2.2.2.2.2.1
theorem fa_wl.wt {l : fa_L} (h : fa_wl l) : ∀ w, w < l.nw → l.wt w < l.nt := h.2.2.2.2.2.2.2.2.2.2.1
theorem fa_wl.wv {l : fa_L} (h : fa_wl l) : ∀ w, w < l.nw → l.wv w < l.nv := h.2.2.2.2.2.2.2.2.2.2.2.1
theorem fa_wl.ww {l : fa_L} (h : fa_wl l) : ∀ w, w < l.nw → 1 ≤ l.ww w ∧ l.ww w ≤ 9 := h.2.2.2.2.2.2.2.2.2.2.2.2
def fa_lc (M : fv_M) (L : Nat) (l : fa_L) : Prop := (M L 0 = nI l.nv) ∧ (M L 1 = nI l.nn) ∧ (M L 2 = nI l.nt) ∧ (M L 3 = nI l.nw) ∧ (∀ v, v < l.nv → M (L + 1) v = nI (l.kd v)) ∧ (∀ v, v < l.nv → M (L + 2) v = nI (l.cr v)) ∧ (∀ n, n < l.nn → M (L + 3) n = nI (l.mi n)) ∧ (∀ t, t < l.nt → M (L + 4) t = nI (l.ow t)) ∧ (∀ k, k < 24 → M (L + 6) k = nI (l.sk k)) ∧ (∀ w, w < l.nw → M (L + 7) w = nI (l.wt w)) ∧ (∀ w, w < l.nw → M (L + 8) w = nI (l.wv w)) ∧ (∀ w, w < l.nw → M (L + 9) w = nI (l.ww w))
theorem fa_lc.nv {M : fv_M} {L : Nat} {l : fa_L} (h : fa_lc M L l) : M L 0 = nI l.nv := h.1
theorem fa_lc.nn {M : fv_M} {L : Nat} {l : fa_L} (h : fa_lc M L l) : M L 1 = nI l.nn := h.2.1
theorem fa_lc.nt {M : fv_M} {L : Nat} {l : fa_L} (h : fa_lc M L l) : M L 2 = nI l.nt := h.2.2.1
theorem fa_lc.nw {M : fv_M} {L : Nat} {l : fa_L} (h : fa_lc M L l) : M L 3 = nI l.nw := h.2.2.2.1
theorem fa_lc.kd {M : fv_M} {L : Nat} {l : fa_L} (h : fa_lc M L l) : ∀ v, v < l.nv → M (L + 1) v = nI (l.kd v) := h.2.2.2.2.1
theorem fa_lc.cr {M : fv_M} {L : Nat} {l : fa_L} (h : fa_lc M L l) : ∀ v, v < l.nv → M (L + 2) v = nI (l.cr v) := h.2.2.2.2.2.1
theorem fa_lc.mi {M : fv_M} {L : Nat} {l : fa_L} (h : fa_lc M L l) : ∀ n, n < l.nn → M (L + 3) n = nI (l.mi n) := h.2.2.2.2.2.2.1
theorem fa_lc.ow {M : fv_M} {L : Nat} {l : fa_L} (h : fa_lc M L l) : ∀ t, t < l.nt → M (L + 4) t = nI (l.ow t) := h.2.2.2.2.2.2.2.1
theorem fa_lc.sk {M : fv_M} {L : Nat} {l : fa_L} (h : fa_lc M L l) : ∀ k, k < 24 → M (L + 6) k = nI (l.sk k) := h.2.2.2.2.2.2.2.2.1
theorem fa_lc.wt {M : fv_M} {L : Nat} {l : fa_L} (h : fa_lc M L l) : ∀ w, w < l.nw → M (L + 7) w = nI (l.wt w) := h.2.2.2.2.2.2.2.2.2.1
theorem fa_lc.wv {M : fv_M} {L : Nat} {l : fa_L} (h : fa_lc M L l) : ∀ w, w < l.nw → M (L + 8) w = nI (l.wv w) := h.2.2.2.2.2.2.2.2.2.2.1
theorem fa_lc.ww {M : fv_M} {L : Nat} {l : fa_L} (h : fa_lc M L l) : ∀ w, w < l.nw → M (L + 9) w = nI (l.ww w) := h.2.2.2.2.2.2.2.2.2.2.2
theorem fa_lc.go {M M' : fv_M} {L : Nat} {l : fa_L} (hf : ∀ j, L ≤ j → j < L + 10 → j ≠ L + 5 → M' j = M j) (h : fa_lc M L l) : fa_lc M' L l := ⟨
  (by rw [hf L (by omega) (by omega) (by omega)]; exact h.nv),
  (by rw [hf L (by omega) (by omega) (by omega)]; exact h.nn),
  (by rw [hf L (by omega) (by omega) (by omega)]; exact h.nt),
  (by rw [hf L (by omega) (by omega) (by omega)]; exact h.nw),
  (fun i hi => by rw [hf (L + 1) (by omega) (by omega) (by omega)]; exact h.kd i hi),
  (fun i hi => by rw [hf (L + 2) (by omega) (by omega) (by omega)]; exact h.cr i hi),
  (fun i hi => by rw [hf (L + 3) (by omega) (by omega) (by omega)]; exact h.mi i hi),
  (fun i hi => by rw [hf (L + 4) (by omega) (by omega) (by omega)]; exact h.ow i hi),
  (fun i hi => by rw [hf (L + 6) (by omega) (by omega) (by omega)]; exact h.sk i hi),
  (fun i hi => by rw [hf (L + 7) (by omega) (by omega) (by omega)]; exact h.wt i hi),
  (fun i hi => by rw [hf (L + 8) (by omega) (by omega) (by omega)]; exact h.wv i hi),
  (fun i hi => by rw [hf (L + 9) (by omega) (by omega) (by omega)]; exact h.ww i hi)⟩
def fa_pc (a : Nat) : Nat := (List.range 8).foldl (fun s k => s + (if a.testBit k = true then 1 else 0)) 0
def fa_own (l : fa_L) (t : Nat) : Nat := (l.ow t ||| 192) &&& (2 ^ l.nn - 1)
def fa_mto (l : fa_L) (set : Nat) : Nat → Nat
  | 0 => 2 ^ l.nv - 1
  | n + 1 => if set.testBit n = true then fa_mto l set n &&& (l.mi n &&& (2 ^ l.nv - 1)) else fa_mto l set n
def fa_mean (l : fa_L) (set : Nat) : Nat := fa_mto l set l.nn
abbrev fa_in (set own : Nat) : Prop := nI set &&& (nI own ^^^ (-1 : Int32)) = 0
def fa_sdto (l : fa_L) (t : Nat) : Nat → Nat
  | 0 => 0
  | s + 1 => if fa_pc (fa_mean l (s + 1)) = 1 ∧ fa_in (s + 1) (fa_own l t) then fa_sdto l t s ||| fa_mean l (s + 1) else fa_sdto l t s
def fa_sd (l : fa_L) (t : Nat) : Nat := fa_sdto l t (2 ^ l.nn - 1)
def fa_ls (M : fv_M) (L : Nat) (l : fa_L) : Prop := ∀ t, t < l.nt → M (L + 5) t = nI (fa_sd l t)
theorem fa_mto_le (l : fa_L) (set n : Nat) : fa_mto l set n ≤ 2 ^ l.nv - 1 := by
  induction n with
  | zero => exact Nat.le_refl _
  | succ n ih =>
    unfold fa_mto
    by_cases h : set.testBit n = true
    · rw [if_pos h]; exact Nat.le_trans Nat.and_le_left ih
    · rw [if_neg h]; exact ih
theorem fa_p6 {l : fa_L} (h : fa_wl l) : 2 ^ l.nv ≤ 64 := Nat.pow_le_pow_right (n := 2) (by omega) h.nv
theorem fa_p8 {l : fa_L} (h : fa_wl l) : 2 ^ l.nn ≤ 256 := Nat.pow_le_pow_right (n := 2) (by omega) h.nn
theorem fa_mean_lt {l : fa_L} (h : fa_wl l) (set : Nat) : fa_mean l set < 64 := by
  have h1 := fa_mto_le l set l.nn
  have h2 := fa_p6 h
  have h3 : 0 < 2 ^ l.nv := Nat.two_pow_pos _
  unfold fa_mean
  omega
theorem fa_sdto_lt {l : fa_L} (h : fa_wl l) (t n : Nat) : fa_sdto l t n < 64 := by
  induction n with
  | zero => exact (by decide : (0 : Nat) < 64)
  | succ n ih =>
    unfold fa_sdto
    split
    · exact Nat.or_lt_two_pow (n := 6) ih (fa_mean_lt h _)
    · exact ih
theorem fa_sd_lt {l : fa_L} (h : fa_wl l) (t : Nat) : fa_sd l t < 64 := fa_sdto_lt h t _
/-! a standing: 24 stocks, 4 sown (less than 0: nothing), 8 done, 8 forgotten, the season -/
def fa_c (M : fv_M) (s : Nat) (σ : Nat → Int32) : Prop := (M s 0 = σ 44) ∧ (∀ k, k < 24 → M (s + 1) k = σ k) ∧ (∀ t, t < 4 → M (s + 2) t = if σ (24 + t) < 0 then (-4 : Int32) else σ (24 + t)) ∧ (∀ w, w < 8 → M (s + 3) w = σ (28 + w)) ∧ (∀ w, w < 8 → M (s + 4) w = σ (36 + w))
theorem fa_c.se {M : fv_M} {s : Nat} {σ : Nat → Int32} (h : fa_c M s σ) : M s 0 = σ 44 := h.1
theorem fa_c.sk {M : fv_M} {s : Nat} {σ : Nat → Int32} (h : fa_c M s σ) : ∀ k, k < 24 → M (s + 1) k = σ k := h.2.1
theorem fa_c.so {M : fv_M} {s : Nat} {σ : Nat → Int32} (h : fa_c M s σ) : ∀ t, t < 4 → M (s + 2) t = if σ (24 + t) < 0 then (-4 : Int32) else σ (24 + t) := h.2.2.1
theorem fa_c.dn {M : fv_M} {s : Nat} {σ : Nat → Int32} (h : fa_c M s σ) : ∀ w, w < 8 → M (s + 3) w = σ (28 + w) := h.2.2.2.1
theorem fa_c.fg {M : fv_M} {s : Nat} {σ : Nat → Int32} (h : fa_c M s σ) : ∀ w, w < 8 → M (s + 4) w = σ (36 + w) := h.2.2.2.2
theorem fa_c.go {M M' : fv_M} {s : Nat} {σ : Nat → Int32} (hf : ∀ j, s ≤ j → j < s + 5 → M' j = M j) (h : fa_c M s σ) : fa_c M' s σ := ⟨
  (by rw [hf s (by omega) (by omega)]; exact h.se),
  (fun i hi => by rw [hf (s + 1) (by omega) (by omega)]; exact h.sk i hi),
  (fun i hi => by rw [hf (s + 2) (by omega) (by omega)]; exact h.so i hi),
  (fun i hi => by rw [hf (s + 3) (by omega) (by omega)]; exact h.dn i hi),
  (fun i hi => by rw [hf (s + 4) (by omega) (by omega)]; exact h.fg i hi)⟩
theorem fa_c.eq {M : fv_M} {s : Nat} {σ τ : Nat → Int32} (hf : ∀ k, k < 45 → τ k = σ k) (h : fa_c M s σ) : fa_c M s τ := ⟨
  (by rw [hf 44 (by omega)]; exact h.se),
  (fun i hi => by rw [hf i (by omega)]; exact h.sk i hi),
  (fun i hi => by rw [hf (24 + i) (by omega)]; exact h.so i hi),
  (fun i hi => by rw [hf (28 + i) (by omega)]; exact h.dn i hi),
  (fun i hi => by rw [hf (36 + i) (by omega)]; exact h.fg i hi)⟩
theorem fa_upd_same (f : Nat → Int32) (k : Nat) (x : Int32) : upd f k x k = x := if_pos rfl
theorem fa_upd_ne (f : Nat → Int32) {k j : Nat} (x : Int32) (h : j ≠ k) : upd f k x j = f j := if_neg h
theorem fa_c.stk {M : fv_M} {s : Nat} {σ : Nat → Int32} {k : Nat} {x : Int32} (hk : k < 24) (h : fa_c M s σ) : fa_c (fv_set M (s + 1) k x) s (upd σ k x) := ⟨
  (by rw [fv_set_ne _ _ _ _ s (by omega), fa_upd_ne _ _ (by omega)]; exact h.se),
  (fun i hi => by
    rw [fv_set_at]
    by_cases e : i = k
    · subst e; rw [fa_upd_same, fa_upd_same]
    · rw [fa_upd_ne _ _ e, fa_upd_ne _ _ e]; exact h.sk i hi),
  (fun i hi => by rw [fv_set_ne _ _ _ _ (s + 2) (by omega), fa_upd_ne _ _ (by omega)]; exact h.so i hi),
  (fun i hi => by rw [fv_set_ne _ _ _ _ (s + 3) (by omega), fa_upd_ne _ _ (by omega)]; exact h.dn i hi),
  (fun i hi => by rw [fv_set_ne _ _ _ _ (s + 4) (by omega), fa_upd_ne _ _ (by omega)]; exact h.fg i hi)⟩
theorem fa_c.sow {M : fv_M} {s : Nat} {σ : Nat → Int32} {t : Nat} {x y : Int32} (ht : t < 4) (hxy : y = if x < 0 then (-4 : Int32) else x) (h : fa_c M s σ) : fa_c (fv_set M (s + 2) t y) s (upd σ (24 + t) x) := ⟨
  (by rw [fv_set_ne _ _ _ _ s (by omega), fa_upd_ne _ _ (by omega)]; exact h.se),
  (fun i hi => by rw [fv_set_ne _ _ _ _ (s + 1) (by omega), fa_upd_ne _ _ (by omega)]; exact h.sk i hi),
  (fun i hi => by
    rw [fv_set_at]
    by_cases e : i = t
    · subst e; rw [fa_upd_same, fa_upd_same]; exact hxy
    · rw [fa_upd_ne _ _ e, fa_upd_ne _ _ (by omega)]; exact h.so i hi),
  (fun i hi => by rw [fv_set_ne _ _ _ _ (s + 3) (by omega), fa_upd_ne _ _ (by omega)]; exact h.dn i hi),
  (fun i hi => by rw [fv_set_ne _ _ _ _ (s + 4) (by omega), fa_upd_ne _ _ (by omega)]; exact h.fg i hi)⟩
theorem fa_c.don {M : fv_M} {s : Nat} {σ : Nat → Int32} {w : Nat} {x : Int32} (hw : w < 8) (h : fa_c M s σ) : fa_c (fv_set M (s + 3) w x) s (upd σ (28 + w) x) := ⟨
  (by rw [fv_set_ne _ _ _ _ s (by omega), fa_upd_ne _ _ (by omega)]; exact h.se),
  (fun i hi => by rw [fv_set_ne _ _ _ _ (s + 1) (by omega), fa_upd_ne _ _ (by omega)]; exact h.sk i hi),
  (fun i hi => by rw [fv_set_ne _ _ _ _ (s + 2) (by omega), fa_upd_ne _ _ (by omega)]; exact h.so i hi),
  (fun i hi => by
    rw [fv_set_at]
    by_cases e : i = w
    · subst e; rw [fa_upd_same, fa_upd_same]
    · rw [fa_upd_ne _ _ e, fa_upd_ne _ _ (by omega)]; exact h.dn i hi),
  (fun i hi => by rw [fv_set_ne _ _ _ _ (s + 4) (by omega), fa_upd_ne _ _ (by omega)]; exact h.fg i hi)⟩
theorem fa_c.fgt {M : fv_M} {s : Nat} {σ : Nat → Int32} {w : Nat} {x : Int32} (hw : w < 8) (h : fa_c M s σ) : fa_c (fv_set M (s + 4) w x) s (upd σ (36 + w) x) := ⟨
  (by rw [fv_set_ne _ _ _ _ s (by omega), fa_upd_ne _ _ (by omega)]; exact h.se),
  (fun i hi => by rw [fv_set_ne _ _ _ _ (s + 1) (by omega), fa_upd_ne _ _ (by omega)]; exact h.sk i hi),
  (fun i hi => by rw [fv_set_ne _ _ _ _ (s + 2) (by omega), fa_upd_ne _ _ (by omega)]; exact h.so i hi),
  (fun i hi => by rw [fv_set_ne _ _ _ _ (s + 3) (by omega), fa_upd_ne _ _ (by omega)]; exact h.dn i hi),
  (fun i hi => by
    rw [fv_set_at]
    by_cases e : i = w
    · subst e; rw [fa_upd_same, fa_upd_same]
    · rw [fa_upd_ne _ _ e, fa_upd_ne _ _ (by omega)]; exact h.fg i hi)⟩
theorem fa_c.sea {M : fv_M} {s : Nat} {σ : Nat → Int32} {x : Int32} (h : fa_c M s σ) : fa_c (fv_set M s 0 x) s (upd σ 44 x) := ⟨
  (by rw [fv_set_at, fa_upd_same, fa_upd_same]),
  (fun i hi => by rw [fv_set_ne _ _ _ _ (s + 1) (by omega), fa_upd_ne _ _ (by omega)]; exact h.sk i hi),
  (fun i hi => by rw [fv_set_ne _ _ _ _ (s + 2) (by omega), fa_upd_ne _ _ (by omega)]; exact h.so i hi),
  (fun i hi => by rw [fv_set_ne _ _ _ _ (s + 3) (by omega), fa_upd_ne _ _ (by omega)]; exact h.dn i hi),
  (fun i hi => by rw [fv_set_ne _ _ _ _ (s + 4) (by omega), fa_upd_ne _ _ (by omega)]; exact h.fg i hi)⟩
theorem fa_stock {M : fv_M} {s t v : Nat} {σ : Nat → Int32} (h : fa_c M s σ) (ht : t < 4) (hv : v < 6) : g_S_stockOf M s (nI t) (nI v) = some (σ (6 * t + v)) := by
  unfold g_S_stockOf
  rw [fa_cell, Option.bind_some, fa_at (by omega) (by omega), Option.bind_some, h.sk _ (by omega)]
theorem fa_setStock {M : fv_M} {s t v : Nat} {x : Int32} (ht : t < 4) (hv : v < 6) : g_S_setStock M s (nI t) (nI v) x = some (fv_set M (s + 1) (6 * t + v) x) := by
  unfold g_S_setStock
  rw [fa_cell, Option.bind_some, fa_put (by omega) (by omega), Option.bind_some]
/-! one season -/
def fa_used (kd : Nat) (n se : Int32) : Int32 := if kd = 1 then (if se - se / (2 : Int32) * (2 : Int32) = (1 : Int32) then 1 else 0) else if kd = 3 then (if n < (2 : Int32) then 1 else 2) else 1
def fa_tw (l : fa_L) (σ : Nat → Int32) (w : Nat) : Bool × (Nat → Int32) :=
  if σ (6 * l.wt w + l.wv w) = 0 then ((fa_sd l (l.wt w)).testBit (l.wv w), σ) else (true, upd σ (6 * l.wt w + l.wv w) (σ (6 * l.wt w + l.wv w) - fa_used (l.kd (l.wv w)) (σ (6 * l.wt w + l.wv w)) (σ 44)))
def fa_w1 (l : fa_L) (σ : Nat → Int32) (w : Nat) : Bool × (Nat → Int32) :=
  ((fa_tw l σ w).1, if (fa_tw l σ w).1 = true then upd (fa_tw l σ w).2 (28 + w) ((fa_tw l σ w).2 (28 + w) + 1) else upd (fa_tw l σ w).2 (36 + w) ((fa_tw l σ w).2 (36 + w) + 1))
def fa_ws (l : fa_L) (σ : Nat → Int32) : Nat → Nat × (Nat → Int32)
  | 0 => (0, σ)
  | w + 1 => (if (fa_w1 l (fa_ws l σ w).2 w).1 = true then (fa_ws l σ w).1 ||| 2 ^ w else (fa_ws l σ w).1, (fa_w1 l (fa_ws l σ w).2 w).2)
def fa_reap (l : fa_L) (σ : Nat → Int32) (t : Nat) : Nat → Int32 :=
  if σ (24 + t) < 0 then σ else
    upd (upd σ (6 * t + (σ (24 + t)).toNatClampNeg) (if σ (6 * t + (σ (24 + t)).toNatClampNeg) + nI (l.cr (σ (24 + t)).toNatClampNeg) * (if l.kd (σ (24 + t)).toNatClampNeg = 2 then (2 : Int32) else 1) < (60 : Int32) then σ (6 * t + (σ (24 + t)).toNatClampNeg) + nI (l.cr (σ (24 + t)).toNatClampNeg) * (if l.kd (σ (24 + t)).toNatClampNeg = 2 then (2 : Int32) else 1) else (60 : Int32))) (24 + t) (-1 : Int32)
def fa_rs (l : fa_L) (σ : Nat → Int32) : Nat → (Nat → Int32)
  | 0 => σ
  | t + 1 => fa_reap l (fa_rs l σ t) t
def fa_lo1 (x : Int32) : Int32 := if x < (40 : Int32) then x else x - x / (10 : Int32)
def fa_loc (σ : Nat → Int32) (n : Nat) : Nat → Int32 := fun k => if k < n then fa_lo1 (σ k) else σ k
def fa_goS (l : fa_L) (σ : Nat → Int32) : Nat → Int32 := upd (fa_loc (fa_rs l (fa_ws l σ l.nw).2 l.nt) 24) 44 (σ 44 + 1)
def fa_goB (l : fa_L) (σ : Nat → Int32) : Nat := (fa_ws l σ l.nw).1
/-- what a standing keeps to -/
def fa_wS (l : fa_L) (σ : Nat → Int32) (B : Nat) : Prop := (∀ k, k < 24 → ∃ a, a ≤ 60 ∧ σ k = nI a) ∧ (∀ t v, t < 4 → v < 6 → (l.nt ≤ t ∨ l.nv ≤ v) → σ (6 * t + v) = 0) ∧ (∀ t, t < 4 → σ (24 + t) = -1 ∨ ∃ v, v < l.nv ∧ t < l.nt ∧ σ (24 + t) = nI v) ∧ (∃ a, a ≤ B ∧ σ 44 = nI a)
theorem fa_wS.sk {l : fa_L} {σ : Nat → Int32} {B : Nat} (h : fa_wS l σ B) : ∀ k, k < 24 → ∃ a, a ≤ 60 ∧ σ k = nI a := h.1
theorem fa_wS.s0 {l : fa_L} {σ : Nat → Int32} {B : Nat} (h : fa_wS l σ B) : ∀ t v, t < 4 → v < 6 → (l.nt ≤ t ∨ l.nv ≤ v) → σ (6 * t + v) = 0 := h.2.1
theorem fa_wS.so {l : fa_L} {σ : Nat → Int32} {B : Nat} (h : fa_wS l σ B) : ∀ t, t < 4 → σ (24 + t) = -1 ∨ ∃ v, v < l.nv ∧ t < l.nt ∧ σ (24 + t) = nI v := h.2.2.1
theorem fa_wS.se {l : fa_L} {σ : Nat → Int32} {B : Nat} (h : fa_wS l σ B) : ∃ a, a ≤ B ∧ σ 44 = nI a := h.2.2.2
