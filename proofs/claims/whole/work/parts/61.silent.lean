/-! silent and lasts -/
theorem fa_ws_bit (l : fa_L) (σ : Nat → Int32) : ∀ n k, (fa_ws l σ n).1.testBit k = true ↔ (k < n ∧ (fa_w1 l (fa_ws l σ k).2 k).1 = true) := by
  intro n
  induction n with
  | zero => intro k; rw [show (fa_ws l σ 0).1 = 0 from rfl, Nat.zero_testBit]; exact ⟨fun h => absurd h (by decide), fun h => absurd h.1 (by omega)⟩
  | succ n ih =>
    intro k
    show (if (fa_w1 l (fa_ws l σ n).2 n).1 = true then (fa_ws l σ n).1 ||| 2 ^ n else (fa_ws l σ n).1).testBit k = true ↔ _
    by_cases q : (fa_w1 l (fa_ws l σ n).2 n).1 = true
    · rw [if_pos q, Nat.testBit_or, Nat.testBit_two_pow, Bool.or_eq_true, ih k, decide_eq_true_eq]
      constructor
      · rintro (h | h)
        · exact ⟨by omega, h.2⟩
        · subst h; exact ⟨by omega, q⟩
      · intro h
        by_cases e : n = k
        · exact Or.inr e
        · exact Or.inl ⟨by omega, h.2⟩
    · rw [if_neg q, ih k]
      constructor
      · exact fun h => ⟨by omega, h.2⟩
      · intro h
        refine ⟨?_, h.2⟩
        rcases Nat.lt_or_ge k n with z | z
        · exact z
        · exfalso
          have : k = n := by omega
          subst this
          exact q h.2
theorem fa_ws_lt (l : fa_L) (σ : Nat → Int32) : ∀ n, (fa_ws l σ n).1 < 2 ^ n := by
  intro n
  induction n with
  | zero => exact (by decide : (0 : Nat) < 2 ^ 0)
  | succ n ih =>
    show (if (fa_w1 l (fa_ws l σ n).2 n).1 = true then (fa_ws l σ n).1 ||| 2 ^ n else (fa_ws l σ n).1) < _
    have h2 : 2 ^ n < 2 ^ (n + 1) := Nat.pow_lt_pow_right (by omega) (by omega)
    split
    · exact Nat.or_lt_two_pow (by omega) h2
    · omega
theorem fa_goB_lt {l : fa_L} (hl : fa_wl l) (σ : Nat → Int32) : fa_goB l σ < 256 := Nat.lt_of_lt_of_le (fa_ws_lt l σ l.nw) (show 2 ^ l.nw ≤ 2 ^ 8 from Nat.pow_le_pow_right (by omega) hl.nw)
theorem fa_tw_hi {l : fa_L} (hl : fa_wl l) {σ : Nat → Int32} {w j : Nat} (hw : w < l.nw) (hj : 24 ≤ j) : (fa_tw l σ w).2 j = σ j := by
  have h1 := hl.nt
  have h2 := hl.nv
  have h4 := hl.wt w hw
  have h5 := hl.wv w hw
  unfold fa_tw
  split
  · rfl
  · exact fa_upd_ne _ _ (by omega)
theorem fa_ws_fg {l : fa_L} (hl : fa_wl l) {σ : Nat → Int32} {k : Nat} (hk : k < 8) : ∀ n, n ≤ l.nw → (fa_ws l σ n).2 (36 + k) = if k < n ∧ ¬ (fa_w1 l (fa_ws l σ k).2 k).1 = true then σ (36 + k) + 1 else σ (36 + k) := by
  have h3 := hl.nw
  intro n
  induction n with
  | zero => intro _; rw [if_neg (by omega)]; rfl
  | succ n ih =>
    intro hn
    have ih := ih (by omega)
    show (fa_w1 l (fa_ws l σ n).2 n).2 (36 + k) = _
    by_cases e : k = n
    · subst e
      rw [if_neg (by omega)] at ih
      by_cases q : (fa_tw l (fa_ws l σ k).2 k).1 = true
      · rw [if_neg (fun z => z.2 q)]
        unfold fa_w1
        rw [if_pos q]
        dsimp only
        rw [fa_upd_ne _ _ (by omega), fa_tw_hi hl (by omega) (by omega), ih]
      · rw [if_pos ⟨by omega, q⟩]
        unfold fa_w1
        rw [if_neg q]
        dsimp only
        rw [fa_upd_same, fa_tw_hi hl (by omega) (by omega), ih]
    · have ee : (fa_w1 l (fa_ws l σ n).2 n).2 (36 + k) = (fa_ws l σ n).2 (36 + k) := by
        unfold fa_w1
        dsimp only
        split
        · rw [fa_upd_ne _ _ (by omega), fa_tw_hi hl (by omega) (by omega)]
        · rw [fa_upd_ne _ _ (by omega), fa_tw_hi hl (by omega) (by omega)]
      rw [ee, ih]
      by_cases q : k < n ∧ ¬ (fa_w1 l (fa_ws l σ k).2 k).1 = true
      · rw [if_pos q, if_pos ⟨by omega, q.2⟩]
      · rw [if_neg q, if_neg (fun z => q ⟨by omega, z.2⟩)]
theorem fa_rs_hi {l : fa_L} {σ : Nat → Int32} (hl : fa_wl l) (h : fa_sok l σ) {j : Nat} (hj : 28 ≤ j) : ∀ t, t ≤ 4 → fa_rs l σ t j = σ j := by
  intro t
  induction t with
  | zero => exact fun _ => rfl
  | succ t ih =>
    intro ht
    show fa_reap l (fa_rs l σ t) t j = _
    unfold fa_reap
    have := (h.rs hl t (by omega)).lt hl (t := t) (by omega)
    split
    · exact ih (by omega)
    · rename_i hn
      rw [fa_upd_ne _ _ (by omega), fa_upd_ne _ _ (by have := this.resolve_left hn; omega)]
      exact ih (by omega)
theorem fa_goS_fg {l : fa_L} {σ : Nat → Int32} {B k : Nat} (hl : fa_wl l) (hB : B ≤ 100000) (hw : fa_wS l σ B) (hk : k < l.nw) : fa_goS l σ (36 + k) = if (fa_goB l σ).testBit k = true then σ (36 + k) else σ (36 + k) + 1 := by
  have h3 := hl.nw
  have h4 := hl.nt
  have w1 := hw.ws hl hB l.nw (Nat.le_refl _)
  show upd (fa_loc (fa_rs l (fa_ws l σ l.nw).2 l.nt) 24) 44 _ (36 + k) = _
  rw [fa_upd_ne _ _ (by omega)]
  unfold fa_loc
  rw [if_neg (by omega), fa_rs_hi hl w1.so (by omega) _ h4, fa_ws_fg hl (by omega) _ (Nat.le_refl _)]
  have hb := fa_ws_bit l σ l.nw k
  unfold fa_goB
  by_cases q : (fa_w1 l (fa_ws l σ k).2 k).1 = true
  · rw [if_neg (fun z => z.2 q), if_pos (hb.mpr ⟨hk, q⟩)]
  · rw [if_pos ⟨hk, q⟩, if_neg (fun z => q (hb.mp z).2)]
theorem fa_andn {a b : Nat} (ha : a < 256) (hb : b < 256) : nI a &&& (nI b ^^^ (-1 : Int32)) = nI (a &&& (255 ^^^ b)) := by
  apply Int32.toBitVec_inj.mp
  show BitVec.ofNat 32 a &&& (BitVec.ofNat 32 b ^^^ (-1 : Int32).toBitVec) = BitVec.ofNat 32 (a &&& (255 ^^^ b))
  rw [show ((-1 : Int32)).toBitVec = BitVec.allOnes 32 by decide]
  apply BitVec.eq_of_getLsbD_eq
  intro i hi
  rw [BitVec.getLsbD_and, BitVec.getLsbD_xor, BitVec.getLsbD_ofNat, BitVec.getLsbD_ofNat, BitVec.getLsbD_ofNat, BitVec.getLsbD_allOnes, Nat.testBit_and, Nat.testBit_xor]
  by_cases h8 : i < 8
  · have : (255 : Nat).testBit i = true := by rw [show (255 : Nat) = 2 ^ 8 - 1 by decide, Nat.testBit_two_pow_sub_one]; exact decide_eq_true h8
    rw [this]
    simp only [hi, decide_true, Bool.true_and, Bool.xor_true, Bool.true_xor]
  · have : a.testBit i = false := Nat.testBit_lt_two_pow (Nat.lt_of_lt_of_le ha (show 2 ^ 8 ≤ 2 ^ i from Nat.pow_le_pow_right (by omega) (by omega)))
    rw [this]
    simp
theorem fa_andn_bit {a b k : Nat} (hk : k < 8) : (a &&& (255 ^^^ b)).testBit k = true ↔ (a.testBit k = true ∧ ¬ b.testBit k = true) := by
  rw [Nat.testBit_and, Nat.testBit_xor]
  have : (255 : Nat).testBit k = true := by rw [show (255 : Nat) = 2 ^ 8 - 1 by decide, Nat.testBit_two_pow_sub_one]; exact decide_eq_true hk
  rw [this]
  cases a.testBit k <;> cases b.testBit k <;> decide
theorem fa_andn_lt {a b : Nat} (ha : a < 256) : a &&& (255 ^^^ b) < 256 := Nat.lt_of_le_of_lt Nat.and_le_left ha
theorem fa_zero8 {m : Nat} (hm : m < 256) (h : ∀ k, k < 8 → ¬ m.testBit k = true) : m = 0 := by
  apply Nat.eq_of_testBit_eq
  intro i
  rw [Nat.zero_testBit]
  by_cases h8 : i < 8
  · exact Bool.eq_false_iff.mpr (h i h8)
  · exact Nat.testBit_lt_two_pow (Nat.lt_of_lt_of_le hm (show 2 ^ 8 ≤ 2 ^ i from Nat.pow_le_pow_right (by omega) (by omega)))
theorem fa_low {M : fv_M} {m w : Nat} (hm : m < 256) (hw : w < 8) (hb : m.testBit w = true) (hlo : ∀ i, i < w → ¬ m.testBit i = true) : g_X_lowestIn M (nI m) = some (nI w) := by
  have key : ∀ (d k f : Nat), k + d = w → d < f → ∀ kk, g_X_lowestIn_2 M (nI m) f (nI k) kk = some (nI w) := by
    intro d
    induction d with
    | zero =>
      intro k f hk hf kk
      obtain ⟨f, rfl⟩ : ∃ g, f = g + 1 := ⟨f - 1, by omega⟩
      have : k = w := by omega
      subst this
      rw [g_X_lowestIn_2, if_neg (show ¬ (31 : Int32) ≤ nI k from nI_ge (a := k) (b := 31) (by omega) (by omega)), fa_has hm hw, Option.bind_some, if_pos hb, if_neg fa_10]
    | succ d ih =>
      intro k f hk hf kk
      obtain ⟨f, rfl⟩ : ∃ g, f = g + 1 := ⟨f - 1, by omega⟩
      rw [g_X_lowestIn_2, if_neg (show ¬ (31 : Int32) ≤ nI k from nI_ge (a := k) (b := 31) (by omega) (by omega)), fa_has hm (by omega), Option.bind_some, if_neg (hlo k (by omega)), if_pos rfl, nI_1]
      exact ih (k + 1) f (by omega) (by omega) kk
  unfold g_X_lowestIn
  exact key w 0 fx_FU (by omega) (by unfold fx_FU; omega) _
def fa_1st (l : fa_L) (b : Nat) : Option Nat := (List.range' 0 l.nw).find? (fun w => !b.testBit w)
theorem fa_1st_none {l : fa_L} {b : Nat} (h : fa_1st l b = none) : ∀ w, w < l.nw → b.testBit w = true := by
  intro w hw
  have := List.find?_eq_none.mp h w (List.mem_range'_1.mpr (by omega))
  simpa using this
theorem fa_1st_some {l : fa_L} {b w : Nat} (h : fa_1st l b = some w) : w < l.nw ∧ ¬ b.testBit w = true ∧ ∀ i, i < w → b.testBit i = true := by
  obtain ⟨h1, h2, h3⟩ := List.find?_range'_eq_some.mp h
  have := (List.mem_range'_1.mp h2).2
  refine ⟨by omega, by simpa using h1, fun i hi => ?_⟩
  have := h3 i (by omega) hi
  simpa using this
def fa_sil (l : fa_L) (σ : Nat → Int32) (a1 : Int32) : Nat → Nat → Int32
  | 0, _ => -4
  | d + 1, k => match fa_1st l (fa_goB l (fa_goN l σ k)) with
    | some w => if a1 = 0 then nI w else nI (k + 1)
    | none => fa_sil l σ a1 d (k + 1)
theorem fa_silc {L D : Nat} {l : fa_L} {σ : Nat → Int32} {B : Nat} {a1 : Int32} (hs : L + 10 ≤ 29) (hl : fa_wl l) (hw : fa_wS l σ B) (hB : B ≤ 90000) : ∀ (d k f : Nat) (M : fv_M), k + d = 40 → d < f → fa_lc M L l → fa_ls M L l → fa_c M 29 (fa_goN l σ k) →
    ∃ M', g_X_silent_24 L D a1 f M (nI (k + 1)) (fun M_6 b2_6 => some ((-4 : Int32), M_6)) = some (fa_sil l σ a1 d k, M') ∧ ∀ j, (j < 29 ∨ 34 ≤ j) → M' j = M j := by
  have hnw := hl.nw
  intro d
  induction d with
  | zero =>
    intro k f M hk hf hL hS hc
    obtain ⟨f, rfl⟩ : ∃ g, f = g + 1 := ⟨f - 1, by omega⟩
    have : k = 40 := by omega
    subst this
    exact ⟨M, by rw [g_X_silent_24, if_pos (by decide)]; rfl, fun _ _ => rfl⟩
  | succ d ih =>
    intro k f M hk hf hL hS hc
    obtain ⟨f, rfl⟩ : ∃ g, f = g + 1 := ⟨f - 1, by omega⟩
    obtain ⟨M1, e1, c1, f1⟩ := fa_goBy hs hl (hw.goN hl k (by omega)).so hL hS hc
    have hb := fa_goB_lt hl (fa_goN l σ k)
    have ha := fa_aw_lt hl
    rw [g_X_silent_24, if_neg (show ¬ (40 : Int32) < nI (k + 1) from nI_nlt (a := 40) (b := k + 1) (by omega) (by omega)), fa_allWorks hl hL, Option.bind_some, e1, Option.bind_some]
    dsimp only
    rw [fa_andn ha hb]
    have hlt := fa_andn_lt (b := fa_goB l (fa_goN l σ k)) ha
    rw [fa_sil]
    cases hf1 : fa_1st l (fa_goB l (fa_goN l σ k)) with
    | none =>
      have h0 : (2 ^ l.nw - 1) &&& (255 ^^^ fa_goB l (fa_goN l σ k)) = 0 := fa_zero8 hlt (fun i hi z => by
        have := (fa_andn_bit hi).mp z
        exact this.2 (fa_1st_none hf1 i ((fa_aw_bit _ _).mp this.1)))
      obtain ⟨M3, e3, f3⟩ := ih (k + 1) f M1 (by omega) (by omega) (hL.fr hs (fun j hj => f1 j (by omega))) (hS.fr hs (fun j hj => f1 j (by omega))) c1
      refine ⟨M3, ?_, fun j hj => by rw [f3 j hj, f1 j (by omega)]⟩
      rw [h0, if_pos (show nI 0 = (0 : Int32) from rfl), nI_1, e3]
    | some w =>
      obtain ⟨q1, q2, q3⟩ := fa_1st_some hf1
      have hbit : ((2 ^ l.nw - 1) &&& (255 ^^^ fa_goB l (fa_goN l σ k))).testBit w = true := (fa_andn_bit (by omega)).mpr ⟨(fa_aw_bit _ _).mpr q1, q2⟩
      have hne : (2 ^ l.nw - 1) &&& (255 ^^^ fa_goB l (fa_goN l σ k)) ≠ 0 := fun z => by rw [z, Nat.zero_testBit] at hbit; exact absurd hbit (by decide)
      refine ⟨M1, ?_, fun j hj => f1 j (by omega)⟩
      rw [if_neg (nI_ne0 (Nat.pos_of_ne_zero hne) (by omega)), fa_low hlt (by omega) hbit (fun i hi z => ((fa_andn_bit (by omega)).mp z).2 (q3 i hi)), Option.bind_some]
      dsimp only
      by_cases z : a1 = 0
      · rw [if_pos z, if_pos z]
      · rw [if_neg z, if_neg z]
theorem fa_sil35 {M : fv_M} {l : fa_L} {a1 a2 : Int32} {b : Nat} (hl : fa_wl l) (hL : fa_lm M l) (hb : b < 256) : ∀ (d k f : Nat), k + d = l.nw → d < f → ∀ kk, g_M_silent_35 M 92 a1 a2 (nI b) f (nI k) kk = match (List.range' k d).find? (fun w => !b.testBit w) with | some w => some (if a1 = 0 then nI w else a2, M) | none => kk (nI l.nw) := by
  have hnw := hl.nw
  intro d
  induction d with
  | zero =>
    intro k f hk hf kk
    obtain ⟨f, rfl⟩ : ∃ g, f = g + 1 := ⟨f - 1, by omega⟩
    have : k = l.nw := by omega
    subst this
    rw [g_M_silent_35, hL.nw, if_pos (nI_le (Nat.le_refl _) (by omega))]
    rfl
  | succ d ih =>
    intro k f hk hf kk
    obtain ⟨f, rfl⟩ : ∃ g, f = g + 1 := ⟨f - 1, by omega⟩
    have ih := ih (k + 1) f (by omega) (by omega) kk
    rw [g_M_silent_35, hL.nw, if_neg (nI_ge (by omega) (by omega)), fa_isIn hb (by omega), Option.bind_some, List.range'_succ, List.find?_cons]
    by_cases q : b.testBit k = true
    · rw [if_pos q, if_neg fa_10, q, nI_1]
      exact ih
    · rw [if_neg q, if_pos rfl, Bool.eq_false_iff.mpr q]
      show _ = some (if a1 = 0 then nI k else a2, M)
      by_cases z : a1 = 0
      · rw [if_pos z, if_pos z]
      · rw [if_neg z, if_neg z]
theorem fa_silm {l : fa_L} {σ : Nat → Int32} {B : Nat} {a1 : Int32} (hl : fa_wl l) (hw : fa_wS l σ B) (hB : B ≤ 90000) : ∀ (d k f : Nat) (M : fv_M), k + d = 40 → d < f → fa_lm M l → fa_m M (92 + 18) (fa_goN l σ k) →
    ∃ M', g_M_silent_21 92 a1 f M (nI (k + 1)) (fun M_6 b2_6 => some ((-4 : Int32), M_6)) = some (fa_sil l σ a1 d k, M') ∧ ∀ j, j ≠ 92 + 18 → M' j = M j := by
  have hnw := hl.nw
  intro d
  induction d with
  | zero =>
    intro k f M hk hf hL hc
    obtain ⟨f, rfl⟩ : ∃ g, f = g + 1 := ⟨f - 1, by omega⟩
    have : k = 40 := by omega
    subst this
    exact ⟨M, by rw [g_M_silent_21, if_pos (by decide)]; rfl, fun _ _ => rfl⟩
  | succ d ih =>
    intro k f M hk hf hL hc
    obtain ⟨f, rfl⟩ : ∃ g, f = g + 1 := ⟨f - 1, by omega⟩
    obtain ⟨M1, e1, c1, f1⟩ := fa_goes hl (B := B + k) (by omega) (hw.goN hl k (by omega)) hL hc
    have hb := fa_goB_lt hl (fa_goN l σ k)
    obtain ⟨M3, e3, f3⟩ := ih (k + 1) f M1 (by omega) (by omega) (hL.fr f1) c1
    rw [g_M_silent_21, if_neg (show ¬ (40 : Int32) < nI (k + 1) from nI_nlt (a := 40) (b := k + 1) (by omega) (by omega)), e1, Option.bind_some]
    dsimp only
    rw [show (0 : Int32) = nI 0 from rfl, fa_sil35 hl (hL.fr f1) hb l.nw 0 fx_FU (by omega) (by unfold fx_FU; omega), nI_1, fa_sil]
    rw [show (List.range' 0 l.nw).find? (fun w => !(fa_goB l (fa_goN l σ k)).testBit w) = fa_1st l (fa_goB l (fa_goN l σ k)) from rfl]
    cases hf1 : fa_1st l (fa_goB l (fa_goN l σ k)) with
    | none => exact ⟨M3, e3, fun j hj => by rw [f3 j hj, f1 j hj]⟩
    | some w => exact ⟨M1, rfl, f1⟩
theorem fa_p_silent {M : fv_M} {L D : Nat} {l : fa_L} {σ : Nat → Int32} {B : Nat} (R : fa_R M L D l σ B) (hB : B ≤ 90000) (a1 : Int32) :
    ∃ r M1 M2, g_X_silent M L D a1 = some (r, M1) ∧ g_M_silent M1 92 a1 = some (r, M2) ∧ ∀ j, (j < 29 ∨ 34 ≤ j) → j ≠ 92 + 18 → M2 j = M j := by
  have hLD := fa_LD.le R.LD
  unfold g_X_silent g_M_silent
  by_cases c1 : (0 : Int32) ≤ a1 ∧ a1 ≤ (1 : Int32)
  rotate_left
  · exact ⟨-1, M, M, by rw [fa_wi0 c1]; rfl, by rw [fa_mi0 c1]; rfl, fun _ _ _ => rfl⟩
  obtain ⟨M0, e0, x0, f0⟩ := fa_become (M := M) (s := 29) (o := 24) (by omega) R.Q.cS
  have R0 := R.c29 (fun j hj => f0 j (by omega))
  obtain ⟨M1, e1, f1⟩ := fa_silc (L := L) (D := D) (a1 := a1) (by omega) R.Q.wl R.Q.wS hB 40 0 fx_FU M0 (by omega) (by unfold fx_FU; omega) R0.Q.lc R0.Q.ls x0
  have R1 := R0.c29 f1
  obtain ⟨M2, e2, x2, f2⟩ := fa_from (M := M1) (a := 92 + 6) (by omega) R1.Q.mS
  obtain ⟨M3, e3, f3⟩ := fa_silm (a1 := a1) R.Q.wl R.Q.wS hB 40 0 fx_FU M2 (by omega) (by unfold fx_FU; omega) (R1.Q.lm.fr f2) x2
  refine ⟨fa_sil l σ a1 40 0, M1, M3, ?_, ?_, fun j q1 q2 => by rw [f3 j q2, f2 j q2, f1 j q1, f0 j (by omega)]⟩
  · rw [fa_wi1 c1, Option.bind_some, if_neg fa_10, e0, Option.bind_some]; exact e1
  · rw [fa_mi1 c1, Option.bind_some, if_neg fa_10, e2, Option.bind_some]; exact e3
/-! lasts -/
def fa_mis (l : fa_L) (b t : Nat) : Bool := (List.range' 0 l.nw).any (fun w => decide (l.wt w = t) && !b.testBit w)
def fa_las (l : fa_L) (σ : Nat → Int32) (t : Nat) : Nat → Nat → Int32
  | 0, _ => 41
  | d + 1, k => if fa_mis l (fa_goB l (fa_goN l σ k)) t = true then nI k else fa_las l σ t d (k + 1)
theorem fa_mis_iff (l : fa_L) (b t : Nat) : fa_mis l b t = true ↔ ∃ w, w < l.nw ∧ l.wt w = t ∧ ¬ b.testBit w = true := by
  unfold fa_mis
  rw [List.any_eq_true]
  constructor
  · rintro ⟨w, h1, h2⟩
    rw [Bool.and_eq_true, decide_eq_true_eq] at h2
    exact ⟨w, by have := (List.mem_range'_1.mp h1).2; omega, h2.1, by simpa using h2.2⟩
  · rintro ⟨w, h1, h2, h3⟩
    exact ⟨w, List.mem_range'_1.mpr (by omega), by rw [Bool.and_eq_true, decide_eq_true_eq]; exact ⟨h2, by simpa using h3⟩⟩
theorem fa_lasc {L D : Nat} {l : fa_L} {σ : Nat → Int32} {B t : Nat} {a1 : Int32} (hs : L + 10 ≤ 29) (hl : fa_wl l) (hw : fa_wS l σ B) (hB : B ≤ 90000) : ∀ (d k f : Nat) (M : fv_M), k + d = 41 → d < f → fa_lc M L l → fa_ls M L l → fa_c M 29 (fa_goN l σ k) →
    ∃ M', g_X_lasts_32 L D a1 (nI (fa_wi' l t l.nw)) f M (nI k) (fun M_5 b3_5 => some ((41 : Int32), M_5)) = some (fa_las l σ t d k, M') ∧ ∀ j, (j < 29 ∨ 34 ≤ j) → M' j = M j := by
  have hnw := hl.nw
  intro d
  induction d with
  | zero =>
    intro k f M hk hf hL hS hc
    obtain ⟨f, rfl⟩ : ∃ g, f = g + 1 := ⟨f - 1, by omega⟩
    have : k = 41 := by omega
    subst this
    exact ⟨M, by rw [g_X_lasts_32, if_pos (by decide)]; rfl, fun _ _ => rfl⟩
  | succ d ih =>
    intro k f M hk hf hL hS hc
    obtain ⟨f, rfl⟩ : ∃ g, f = g + 1 := ⟨f - 1, by omega⟩
    obtain ⟨M1, e1, c1, f1⟩ := fa_goBy hs hl (hw.goN hl k (by omega)).so hL hS hc
    have hb := fa_goB_lt hl (fa_goN l σ k)
    have ha := fa_wi'_lt8 hl t
    have hlt := fa_andn_lt (b := fa_goB l (fa_goN l σ k)) ha
    rw [g_X_lasts_32, if_neg (show ¬ (40 : Int32) < nI k from nI_nlt (a := 40) (b := k) (by omega) (by omega)), e1, Option.bind_some]
    dsimp only
    rw [fa_andn ha hb, fa_las]
    by_cases q : fa_mis l (fa_goB l (fa_goN l σ k)) t = true
    · obtain ⟨w, q1, q2, q3⟩ := (fa_mis_iff _ _ _).mp q
      have hbit : (fa_wi' l t l.nw &&& (255 ^^^ fa_goB l (fa_goN l σ k))).testBit w = true := (fa_andn_bit (by omega)).mpr ⟨(fa_wi'_bit _ _ _ _).mpr ⟨q1, q2⟩, q3⟩
      have hne : fa_wi' l t l.nw &&& (255 ^^^ fa_goB l (fa_goN l σ k)) ≠ 0 := fun z => by rw [z, Nat.zero_testBit] at hbit; exact absurd hbit (by decide)
      exact ⟨M1, by rw [if_neg (nI_ne0 (Nat.pos_of_ne_zero hne) (by omega)), if_pos q], fun j hj => f1 j (by omega)⟩
    · have h0 : fa_wi' l t l.nw &&& (255 ^^^ fa_goB l (fa_goN l σ k)) = 0 := fa_zero8 hlt (fun i hi z => by
        have z2 := (fa_andn_bit hi).mp z
        have z3 := (fa_wi'_bit _ _ _ _).mp z2.1
        exact q ((fa_mis_iff _ _ _).mpr ⟨i, z3.1, z3.2, z2.2⟩))
      obtain ⟨M3, e3, f3⟩ := ih (k + 1) f M1 (by omega) (by omega) (hL.fr hs (fun j hj => f1 j (by omega))) (hS.fr hs (fun j hj => f1 j (by omega))) c1
      refine ⟨M3, ?_, fun j hj => by rw [f3 j hj, f1 j (by omega)]⟩
      rw [h0, if_pos (show nI 0 = (0 : Int32) from rfl), if_neg q, nI_1, e3]
theorem fa_fh_cnt {l : fa_L} {σ τ : Nat → Int32} {b t : Nat} (h : ∀ w, w < l.nw → l.wt w = t → τ (36 + w) = if b.testBit w = true then σ (36 + w) else σ (36 + w) + 1) : ∀ (d k s : Nat), k + d ≤ l.nw → ∃ c, s ≤ c ∧ c ≤ s + d ∧ (List.range' k d).foldl (fa_fh σ τ (fun w => decide (l.wt w = t))) (nI s) = nI c ∧ (c = s ↔ ∀ w, k ≤ w → w < k + d → l.wt w = t → b.testBit w = true) := by
  intro d
  induction d with
  | zero => exact fun k s _ => ⟨s, Nat.le_refl _, Nat.le_refl _, rfl, fun _ w h1 h2 => by omega, fun _ => rfl⟩
  | succ d ih =>
    intro k s hk
    rw [List.range'_succ, List.foldl_cons]
    by_cases q : l.wt k = t
    · have e := h k (by omega) q
      by_cases qb : b.testBit k = true
      · rw [if_pos qb] at e
        obtain ⟨c, c1, c2, c3, c4⟩ := ih (k + 1) s (by omega)
        refine ⟨c, c1, by omega, ?_, ?_⟩
        · rw [← c3]
          unfold fa_fh
          rw [if_pos (decide_eq_true q), e, Int32.sub_self, Int32.add_zero]
        · rw [c4]
          constructor
          · intro z w w1 w2 w3
            by_cases e2 : w = k
            · rw [e2]; exact qb
            · exact z w (by omega) (by omega) w3
          · exact fun z w w1 w2 w3 => z w (by omega) (by omega) w3
      · rw [if_neg qb] at e
        obtain ⟨c, c1, c2, c3, c4⟩ := ih (k + 1) (s + 1) (by omega)
        refine ⟨c, by omega, by omega, ?_, ?_⟩
        · rw [← c3]
          unfold fa_fh
          rw [if_pos (decide_eq_true q), e, Int32.add_comm (σ (36 + k)), Int32.add_sub_cancel, show (1 : Int32) = nI 1 from rfl, nI_add]
        · constructor
          · intro z; omega
          · intro z; exact absurd (z k (by omega) (by omega) q) qb
    · obtain ⟨c, c1, c2, c3, c4⟩ := ih (k + 1) s (by omega)
      refine ⟨c, c1, by omega, ?_, ?_⟩
      · rw [← c3]
        unfold fa_fh
        rw [if_neg (by rw [decide_eq_true_eq]; exact q)]
      · rw [c4]
        constructor
        · intro z w w1 w2 w3
          by_cases e2 : w = k
          · rw [e2] at w3; exact absurd w3 q
          · exact z w (by omega) (by omega) w3
        · exact fun z w w1 w2 w3 => z w (by omega) (by omega) w3
theorem fa_lasm {l : fa_L} {σ : Nat → Int32} {B t : Nat} (hl : fa_wl l) (hw : fa_wS l σ B) (hB : B ≤ 90000) (ht : t < 4) : ∀ (d k f : Nat) (M : fv_M), k + d = 41 → d < f → fa_lm M l → fa_m M (92 + 6) σ → fa_m M (92 + 18) (fa_goN l σ k) → (∀ w, w < l.nw → l.wt w = t → fa_goN l σ k (36 + w) = σ (36 + w)) →
    ∃ M', g_M_lasts_20 92 (nI t) f M (nI k) (fun M_5 b2_5 => some (b2_5, M_5)) = some (fa_las l σ t d k, M') ∧ ∀ j, j ≠ 92 + 18 → M' j = M j := by
  have hnw := hl.nw
  have hnt := hl.nt
  intro d
  induction d with
  | zero =>
    intro k f M hk hf hL hm hc hi
    obtain ⟨f, rfl⟩ : ∃ g, f = g + 1 := ⟨f - 1, by omega⟩
    have : k = 41 := by omega
    subst this
    exact ⟨M, by rw [g_M_lasts_20, if_pos (by decide)]; rfl, fun _ _ => rfl⟩
  | succ d ih =>
    intro k f M hk hf hL hm hc hi
    obtain ⟨f, rfl⟩ : ∃ g, f = g + 1 := ⟨f - 1, by omega⟩
    have hwk := hw.goN hl k (by omega)
    obtain ⟨M1, e1, c1, f1⟩ := fa_goes hl (B := B + k) (by omega) hwk hL hc
    have hm1 : fa_m M1 (92 + 6) σ := fun j hj => by rw [f1 _ (by omega)]; exact hm j hj
    have hok2 : ∀ w, w < l.nw → (decide (l.wt w = t) = true ↔ (nI t < 0 ∨ nI (l.wt w) = nI t)) := fun w hw => by
      have := hl.wt w hw
      rw [decide_eq_true_eq, nI_eq (by omega) (by omega)]
      exact ⟨Or.inr, fun q => q.elim (fun z => absurd z (nI_pos (by omega))) id⟩
    have eF : g_M_forgottenOf M1 92 (nI t) = some (fa_FH l σ (fa_goS l (fa_goN l σ k)) (fun w => decide (l.wt w = t))) := by
      unfold g_M_forgottenOf
      exact fa_fhm hl (hL.fr f1) hm1 c1 hok2 l.nw 0 fx_FU 0 (by omega) (by unfold fx_FU; omega) _
    have hst : ∀ w, w < l.nw → l.wt w = t → fa_goS l (fa_goN l σ k) (36 + w) = if (fa_goB l (fa_goN l σ k)).testBit w = true then σ (36 + w) else σ (36 + w) + 1 := fun w h1 h2 => by
      rw [fa_goS_fg hl (B := B + k) (by omega) hwk h1, hi w h1 h2]
    obtain ⟨c, c2, c3, c4, c5⟩ := fa_fh_cnt (b := fa_goB l (fa_goN l σ k)) hst l.nw 0 0 (by omega)
    have eFH : fa_FH l σ (fa_goS l (fa_goN l σ k)) (fun w => decide (l.wt w = t)) = nI c := c4
    rw [g_M_lasts_20, if_neg (show ¬ (41 : Int32) ≤ nI k from nI_ge (a := k) (b := 41) (by omega) (by omega)), e1, Option.bind_some]
    dsimp only
    rw [eF, Option.bind_some, eFH, fa_las]
    by_cases q : fa_mis l (fa_goB l (fa_goN l σ k)) t = true
    · obtain ⟨w, q1, q2, q3⟩ := (fa_mis_iff _ _ _).mp q
      have hc0 : c ≠ 0 := fun z => q3 (c5.mp z w (by omega) (by omega) q2)
      exact ⟨M1, by rw [if_neg (nI_nle (Nat.pos_of_ne_zero hc0) (by omega)), if_pos q], f1⟩
    · have hall : ∀ w, w < l.nw → l.wt w = t → (fa_goB l (fa_goN l σ k)).testBit w = true := fun w h1 h2 => Classical.not_not.mp (fun z => q ((fa_mis_iff _ _ _).mpr ⟨w, h1, h2, z⟩))
      have hc0 : c = 0 := c5.mpr (fun w _ h2 h3 => hall w (by omega) h3)
      obtain ⟨M3, e3, f3⟩ := ih (k + 1) f M1 (by omega) (by omega) (hL.fr f1) hm1 c1 (fun w h1 h2 => by
        show fa_goS l (fa_goN l σ k) (36 + w) = _
        rw [hst w h1 h2, if_pos (hall w h1 h2)])
      refine ⟨M3, ?_, fun j hj => by rw [f3 j hj, f1 j hj]⟩
      rw [hc0, if_pos (show nI 0 ≤ (0 : Int32) by decide), if_neg q, nI_1, e3]
theorem fa_p_lasts {M : fv_M} {L D : Nat} {l : fa_L} {σ : Nat → Int32} {B : Nat} (R : fa_R M L D l σ B) (hB : B ≤ 90000) (a1 : Int32) :
    ∃ r M1 M2, g_X_lasts M L D a1 = some (r, M1) ∧ g_M_lasts M1 92 a1 = some (r, M2) ∧ ∀ j, (j < 29 ∨ 34 ≤ j) → j ≠ 92 + 18 → M2 j = M j := by
  have hLD := fa_LD.le R.LD
  have hnt := R.Q.wl.nt
  unfold g_X_lasts g_M_lasts
  by_cases c1 : 0 ≤ a1 ∧ a1 ≤ nI l.nt - 1
  rotate_left
  · exact ⟨-1, M, M, by rw [fa_xT0 R.Q.lc.nt c1]; rfl, by rw [fa_mT0 R.Q.lm.nt c1]; rfl, fun _ _ _ => rfl⟩
  obtain ⟨t, ht, rfl⟩ := fa_idx (by omega) c1
  obtain ⟨M0, e0, x0, f0⟩ := fa_become (M := M) (s := 29) (o := 24) (by omega) R.Q.cS
  have R0 := R.c29 (fun j hj => f0 j (by omega))
  obtain ⟨M1, e1, f1⟩ := fa_lasc (L := L) (D := D) (t := t) (a1 := nI t) (by omega) R.Q.wl R.Q.wS hB 41 0 fx_FU M0 (by omega) (by unfold fx_FU; omega) R0.Q.lc R0.Q.ls x0
  have R1 := R0.c29 f1
  obtain ⟨M2, e2, x2, f2⟩ := fa_from (M := M1) (a := 92 + 6) (by omega) R1.Q.mS
  obtain ⟨M3, e3, f3⟩ := fa_lasm (t := t) R.Q.wl R.Q.wS hB (by omega) 41 0 fx_FU M2 (by omega) (by unfold fx_FU; omega) (R1.Q.lm.fr f2) (fun k hk => by rw [f2 _ (by omega)]; exact R1.Q.mS k hk) x2 (fun _ _ _ => rfl)
  refine ⟨fa_las l σ t 41 0, M1, M3, ?_, ?_, fun j q1 q2 => by rw [f3 j q2, f2 j q2, f1 j q1, f0 j (by omega)]⟩
  · rw [fa_xT1 R.Q.lc.nt c1, Option.bind_some, if_neg fa_10, fa_worksIn R.Q.wl R.Q.lc (by omega), Option.bind_some, e0, Option.bind_some]; exact e1
  · rw [fa_mT1 R1.Q.lm.nt c1, Option.bind_some, if_neg fa_10, e2, Option.bind_some]; exact e3
