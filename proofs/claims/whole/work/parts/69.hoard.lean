/-! hoard, the outer loops -/
def fa_bI (b : Bool) : Int32 := if b = true then 1 else 0
def fa_hm (M : fv_M) (n : Nat) (w : Nat → Nat) (s : Nat → Nat) (d : Nat → Nat) : Prop := (n ≤ 6) ∧ (M 92 15 = nI n) ∧ (∀ k, k < n → w k < 8 ∧ (1 ≤ s k ∧ s k ≤ 9) ∧ d k ≤ 1) ∧ (∀ k, k < n → M (92 + 10) (3 * k) = nI (w k)) ∧ (∀ k, k < n → M (92 + 10) (3 * k + 1) = nI (s k)) ∧ (∀ k, k < n → M (92 + 10) (3 * k + 2) = nI (d k))
theorem fa_hm.n6 {M : fv_M} {n : Nat} {w : Nat → Nat} {s : Nat → Nat} {d : Nat → Nat} (h : fa_hm M n w s d) : n ≤ 6 := h.1
theorem fa_hm.mn {M : fv_M} {n : Nat} {w : Nat → Nat} {s : Nat → Nat} {d : Nat → Nat} (h : fa_hm M n w s d) : M 92 15 = nI n := h.2.1
theorem fa_hm.sm {M : fv_M} {n : Nat} {w : Nat → Nat} {s : Nat → Nat} {d : Nat → Nat} (h : fa_hm M n w s d) : ∀ k, k < n → w k < 8 ∧ (1 ≤ s k ∧ s k ≤ 9) ∧ d k ≤ 1 := h.2.2.1
theorem fa_hm.mw {M : fv_M} {n : Nat} {w : Nat → Nat} {s : Nat → Nat} {d : Nat → Nat} (h : fa_hm M n w s d) : ∀ k, k < n → M (92 + 10) (3 * k) = nI (w k) := h.2.2.2.1
theorem fa_hm.ms {M : fv_M} {n : Nat} {w : Nat → Nat} {s : Nat → Nat} {d : Nat → Nat} (h : fa_hm M n w s d) : ∀ k, k < n → M (92 + 10) (3 * k + 1) = nI (s k) := h.2.2.2.2.1
theorem fa_hm.md {M : fv_M} {n : Nat} {w : Nat → Nat} {s : Nat → Nat} {d : Nat → Nat} (h : fa_hm M n w s d) : ∀ k, k < n → M (92 + 10) (3 * k + 2) = nI (d k) := h.2.2.2.2.2
theorem fa_hm.go {M M' : fv_M} {n : Nat} {w s d : Nat → Nat} (hf : ∀ j, j ≠ 92 + 18 → M' j = M j) (h : fa_hm M n w s d) : fa_hm M' n w s d :=
  ⟨h.n6, by rw [hf 92 (by omega)]; exact h.mn, h.sm, fun k hk => by rw [hf _ (by omega)]; exact h.mw k hk, fun k hk => by rw [hf _ (by omega)]; exact h.ms k hk, fun k hk => by rw [hf _ (by omega)]; exact h.md k hk⟩
theorem fa_h86 {M : fv_M} {n b q : Nat} {w s d : Nat → Nat} {a1 a2 a3 a4 a5 a6 : Int32} (hH : fa_hm M n w s d) (hb : b < 256) (hq : q ≤ 1000) : ∀ (e k f : Nat) (is : Bool), k + e = n → e < f → ∀ kk, g_M_hoard_86 M 92 a1 a2 a3 a4 a5 a6 (nI q) (nI b) f (fa_bI is) (nI k) kk = kk (fa_bI (is && (List.range' k e).all (fa_okP w s d b q))) (nI n) := by
  have h6 := hH.n6
  intro e
  induction e with
  | zero =>
    intro k f is hk hf kk
    obtain ⟨f, rfl⟩ : ∃ g, f = g + 1 := ⟨f - 1, by omega⟩
    have : k = n := by omega
    subst this
    rw [g_M_hoard_86, hH.mn, if_pos (nI_le (Nat.le_refl _) (by omega))]
    show _ = kk (fa_bI (is && true)) _
    rw [Bool.and_true]
  | succ e ih =>
    intro k f is hk hf kk
    obtain ⟨f, rfl⟩ : ∃ g, f = g + 1 := ⟨f - 1, by omega⟩
    obtain ⟨s1, s2, s3⟩ := hH.sm k (by omega)
    have iht := ih (k + 1) f true (by omega) (by omega) kk
    have ihf := ih (k + 1) f false (by omega) (by omega) kk
    rw [g_M_hoard_86, hH.mn, if_neg (nI_ge (by omega) (by omega)), List.range'_succ, List.all_cons]
    simp (disch := omega) only [fa_m3, fa_p2, nI_1, nI_clamp, fa_ckn, hH.ms k (by omega), hH.mw k (by omega), hH.md k (by omega), fa_bit1]
    have es : (nI (s k) = nI q) ↔ s k = q := nI_eq (by omega) (by omega)
    have ed : (nI (if b.testBit (w k) = true then 1 else 0) = nI (d k)) ↔ (if b.testBit (w k) = true then 1 else 0) = d k := nI_eq (by split <;> omega) (by omega)
    cases is with
    | false =>
      rw [if_pos (show fa_bI false = 0 from rfl), Bool.false_and]
      rw [Bool.false_and] at ihf
      exact ihf
    | true =>
      rw [if_neg (show ¬ fa_bI true = 0 from fa_10), Bool.true_and]
      rw [Bool.true_and] at iht
      rw [Bool.false_and] at ihf
      by_cases c1 : s k = q
      · rw [if_pos (es.mpr c1)]
        by_cases c2 : (if b.testBit (w k) = true then 1 else 0) = d k
        · rw [if_pos (ed.mpr c2), show fa_okP w s d b q k = true by unfold fa_okP; rw [decide_eq_true c2, Bool.or_true], Bool.true_and]
          exact iht
        · rw [if_neg (fun z => c2 (ed.mp z)), show fa_okP w s d b q k = false by unfold fa_okP; rw [decide_eq_false c2, Bool.or_false]; exact decide_eq_false (fun z => z c1), Bool.false_and]
          exact ihf
      · rw [if_neg (fun z => c1 (es.mp z)), show fa_okP w s d b q k = true by unfold fa_okP; rw [decide_eq_true c1, Bool.true_or], Bool.true_and]
        exact iht
theorem fa_h70 {l : fa_L} {σ : Nat → Int32} {B n : Nat} {w s d : Nat → Nat} {a1 a2 a3 a4 a5 a6 : Int32} (hl : fa_wl l) (hw : fa_wS l σ B) (hB : B ≤ 90000) : ∀ (e k f : Nat) (M : fv_M) (is : Bool), k + e = 9 → e < f → fa_lm M l → fa_hm M n w s d → fa_m M (92 + 18) (fa_goN l σ k) →
    ∃ M', (∀ kk, g_M_hoard_70 92 a1 a2 a3 a4 a5 a6 f M (fa_bI is) (nI (k + 1)) kk = kk M' (fa_bI (is && fa_okA l n w s d σ e k)) (nI 10)) ∧ ∀ j, j ≠ 92 + 18 → M' j = M j := by
  intro e
  induction e with
  | zero =>
    intro k f M is hk hf hL hH hc
    obtain ⟨f, rfl⟩ : ∃ g, f = g + 1 := ⟨f - 1, by omega⟩
    have : k = 9 := by omega
    subst this
    exact ⟨M, fun kk => by rw [g_M_hoard_70, if_pos (by decide)]; show _ = kk M (fa_bI (is && true)) _; rw [Bool.and_true], fun _ _ => rfl⟩
  | succ e ih =>
    intro k f M is hk hf hL hH hc
    obtain ⟨f, rfl⟩ : ∃ g, f = g + 1 := ⟨f - 1, by omega⟩
    obtain ⟨M1, e1, c1, f1⟩ := fa_goes hl (B := B + k) (by omega) (hw.goN hl k (by omega)) hL hc
    have hb := fa_goB_lt hl (fa_goN l σ k)
    have hH1 := hH.go f1
    have h6 := hH.n6
    obtain ⟨M3, e3, f3⟩ := ih (k + 1) f M1 (is && fa_okS n w s d (fa_goB l (fa_goN l σ k)) (k + 1)) (by omega) (by omega) (hL.fr f1) hH1 c1
    refine ⟨M3, fun kk => ?_, fun j hj => by rw [f3 j hj, f1 j hj]⟩
    rw [g_M_hoard_70, if_neg (show ¬ (9 : Int32) < nI (k + 1) from nI_nlt (a := 9) (b := k + 1) (by omega) (by omega)), e1, Option.bind_some]
    dsimp only
    have e86 := fa_h86 (a1 := a1) (a2 := a2) (a3 := a3) (a4 := a4) (a5 := a5) (a6 := a6) hH1 hb (q := k + 1) (by omega) n 0 fx_FU is (by omega) (by unfold fx_FU; omega)
    rw [show nI 0 = (0 : Int32) from rfl] at e86
    rw [e86, nI_1]
    have := e3 kk
    rw [Bool.and_assoc] at this
    rw [fa_okA]
    exact this
def fa_cnt (ok : Nat → Bool) : Nat → Nat → Nat
  | 0, _ => 0
  | e + 1, k => fa_cnt ok e (k + 1) + if ok k = true then 1 else 0
def fa_lo (ok : Nat → Bool) : Nat → Nat → Option Nat
  | 0, _ => none
  | e + 1, k => if ok k = true then some k else fa_lo ok e (k + 1)
def fa_or1 (a b : Option Nat) : Option Nat := match a with
  | some y => some y
  | none => b
theorem fa_h37 {L D : Nat} {l : fa_L} {n t v : Nat} {w s d : Nat → Nat} {a3 : Int32} (hs : L + 10 ≤ 29) (hl : fa_wl l) (ht : t < l.nt) (hv : v < l.nv) : ∀ (e m f : Nat) (M : fv_M) (c : Nat) (lo : Option Nat), (∀ y, lo = some y → y ≤ 100) → m + e = 31 → e < f → fa_lc M L l → fa_ls M L l → fa_hc M n w s d →
    ∃ M', (∀ kk, g_X_hoard_37 L D (nI t) (nI v) a3 f M (nI c) (fa_oI (-4) lo) (nI m) kk = kk M' (nI (c + fa_cnt (fa_okN l n w s d (6 * t + v)) e m)) (fa_oI (-4) (fa_or1 lo (fa_lo (fa_okN l n w s d (6 * t + v)) e m))) (nI 31)) ∧ ∀ j, (j < 29 ∨ 34 ≤ j) → M' j = M j := by
  intro e
  induction e with
  | zero =>
    intro m f M c lo hlo hm hf hL hS hH
    obtain ⟨f, rfl⟩ : ∃ g, f = g + 1 := ⟨f - 1, by omega⟩
    have : m = 31 := by omega
    subst this
    exact ⟨M, fun kk => by rw [g_X_hoard_37, if_pos (by decide)]; cases lo <;> rfl, fun _ _ => rfl⟩
  | succ e ih =>
    intro m f M c lo hlo hm hf hL hS hH
    obtain ⟨f, rfl⟩ : ∃ g, f = g + 1 := ⟨f - 1, by omega⟩
    obtain ⟨M1, e1, f1⟩ := fa_could (D := D) hs hl hL hS hH ht hv (m := m) (by omega)
    have hL1 := hL.fr hs (fun j hj => f1 j (by omega))
    have hS1 := hS.fr hs (fun j hj => f1 j (by omega))
    have hH1 := hH.go (M' := M1) (fun j hj => f1 j (by omega))
    by_cases q : fa_okN l n w s d (6 * t + v) m = true
    · cases lo with
      | none =>
        obtain ⟨M3, e3, f3⟩ := ih (m + 1) f M1 (c + 1) (some m) (fun y hy => by cases hy; omega) (by omega) (by omega) hL1 hS1 hH1
        refine ⟨M3, fun kk => ?_, fun j hj => by rw [f3 j hj, f1 j hj]⟩
        rw [g_X_hoard_37, if_neg (show ¬ (30 : Int32) < nI m from nI_nlt (a := 30) (b := m) (by omega) (by omega)), e1, Option.bind_some]
        dsimp only
        rw [if_pos q, if_neg fa_10, if_pos (show fa_oI (-4) none = (-4 : Int32) from rfl), nI_1, nI_1, show nI m = fa_oI (-4) (some m) from rfl, e3, fa_cnt, fa_lo, if_pos q, if_pos q, show c + 1 + fa_cnt (fa_okN l n w s d (6 * t + v)) e (m + 1) = c + (fa_cnt (fa_okN l n w s d (6 * t + v)) e (m + 1) + 1) by omega]
        rfl
      | some y =>
        obtain ⟨M3, e3, f3⟩ := ih (m + 1) f M1 (c + 1) (some y) hlo (by omega) (by omega) hL1 hS1 hH1
        have := hlo y rfl
        refine ⟨M3, fun kk => ?_, fun j hj => by rw [f3 j hj, f1 j hj]⟩
        rw [g_X_hoard_37, if_neg (show ¬ (30 : Int32) < nI m from nI_nlt (a := 30) (b := m) (by omega) (by omega)), e1, Option.bind_some]
        dsimp only
        rw [if_pos q, if_neg fa_10, if_neg (show ¬ fa_oI (-4) (some y) = (-4 : Int32) from fa_ne4 (by omega)), nI_1, nI_1, e3, fa_cnt, if_pos q, show c + 1 + fa_cnt (fa_okN l n w s d (6 * t + v)) e (m + 1) = c + (fa_cnt (fa_okN l n w s d (6 * t + v)) e (m + 1) + 1) by omega]
        rfl
    · obtain ⟨M3, e3, f3⟩ := ih (m + 1) f M1 c lo hlo (by omega) (by omega) hL1 hS1 hH1
      refine ⟨M3, fun kk => ?_, fun j hj => by rw [f3 j hj, f1 j hj]⟩
      rw [g_X_hoard_37, if_neg (show ¬ (30 : Int32) < nI m from nI_nlt (a := 30) (b := m) (by omega) (by omega)), e1, Option.bind_some]
      dsimp only
      rw [if_neg q, if_pos rfl, nI_1, e3, fa_cnt, fa_lo, if_neg q, if_neg q]
      rfl
theorem fa_h38 {l : fa_L} {n t v : Nat} {w s d : Nat → Nat} {a3 : Int32} (hl : fa_wl l) (ht : t < l.nt) (hv : v < l.nv) : ∀ (m f : Nat) (M : fv_M), m ≤ 30 → m + 1 < f → fa_lm M l → fa_hm M n w s d →
    ∃ M', (∀ kk, g_M_hoard_38 92 (nI t) (nI v) a3 f M (nI (fa_cnt (fa_okN l n w s d (6 * t + v)) (30 - m) (m + 1))) (fa_oI (-4) (fa_lo (fa_okN l n w s d (6 * t + v)) (30 - m) (m + 1))) (nI m) kk = kk M' (nI (fa_cnt (fa_okN l n w s d (6 * t + v)) 31 0)) (fa_oI (-4) (fa_lo (fa_okN l n w s d (6 * t + v)) 31 0)) (-1)) ∧ ∀ j, j ≠ 92 + 18 → M' j = M j := by
  have g1 := hl.nt
  have g2 := hl.nv
  have hone : ∀ (m f : Nat) (M : fv_M) (c a5 : Int32), m ≤ 30 → fa_lm M l → fa_hm M n w s d → ∃ M', (∀ kk, g_M_hoard_38 92 (nI t) (nI v) a3 (f + 1) M c a5 (nI m) kk = g_M_hoard_38 92 (nI t) (nI v) a3 f M' (if fa_okN l n w s d (6 * t + v) m = true then c + 1 else c) (if fa_okN l n w s d (6 * t + v) m = true then nI m else a5) (nI m + (-1 : Int32)) kk) ∧ ∀ j, j ≠ 92 + 18 → M' j = M j := by
    intro m f M c a5 hm hL hH
    obtain ⟨M1, e1, c1, f1⟩ := fa_from (M := M) (a := 92 + 7) (by omega) hL.fs
    have c2 : fa_m (fv_set M1 (92 + 18) (6 * t + v) (nI m)) (92 + 18) (upd (fa_row0 l) (6 * t + v) (nI m)) := c1.put
    have f2 : ∀ j, j ≠ 92 + 18 → (fv_set M1 (92 + 18) (6 * t + v) (nI m)) j = M j := fun j hj => by rw [fv_set_ne _ _ _ _ j hj, f1 j hj]
    obtain ⟨M3, e3, f3⟩ := fa_h70 (a1 := nI t) (a2 := nI v) (a3 := a3) (a4 := c) (a5 := a5) (a6 := nI m) hl (fa_rowm_wS hl ht hv (show m ≤ 60 by omega)) (by omega) 9 0 fx_FU _ true (by omega) (by unfold fx_FU; omega) (hL.fr f2) (hH.go f2) c2
    refine ⟨M3, fun kk => ?_, fun j hj => by rw [f3 j hj, f2 j hj]⟩
    rw [g_M_hoard_38, if_neg (nI_pos (by omega)), e1, Option.bind_some]
    simp (disch := omega) only [fa_m6, nI_add, nI_clamp, fa_ckn]
    have e3' := e3
    rw [show fa_bI true = (1 : Int32) from rfl, show nI (0 + 1) = (1 : Int32) from rfl, Bool.true_and] at e3'
    rw [e3']
    show (if fa_bI (fa_okN l n w s d (6 * t + v) m) = 0 then _ else _) = _
    by_cases q : fa_okN l n w s d (6 * t + v) m = true
    · rw [q, if_neg (show ¬ fa_bI true = 0 from fa_10), if_pos rfl, if_pos rfl]
    · rw [Bool.eq_false_iff.mpr q, if_pos (show fa_bI false = 0 from rfl), Int32.add_zero]
      rfl
  intro m
  induction m with
  | zero =>
    intro f M hm hf hL hH
    obtain ⟨f, rfl⟩ : ∃ g, f = g + 1 + 1 := ⟨f - 2, by omega⟩
    obtain ⟨M1, e1, f1⟩ := hone 0 (f + 1) M _ _ (by omega) hL hH
    refine ⟨M1, fun kk => ?_, f1⟩
    rw [e1, g_M_hoard_38, if_pos (by decide)]
    rw [show fa_cnt (fa_okN l n w s d (6 * t + v)) 31 0 = fa_cnt (fa_okN l n w s d (6 * t + v)) 30 1 + (if fa_okN l n w s d (6 * t + v) 0 = true then 1 else 0) from rfl, show fa_lo (fa_okN l n w s d (6 * t + v)) 31 0 = (if fa_okN l n w s d (6 * t + v) 0 = true then some 0 else fa_lo (fa_okN l n w s d (6 * t + v)) 30 1) from rfl]
    by_cases q : fa_okN l n w s d (6 * t + v) 0 = true
    · rw [if_pos q, if_pos q, if_pos q, if_pos q, nI_1]; rfl
    · rw [if_neg q, if_neg q, if_neg q, if_neg q]; rfl
  | succ m ih =>
    intro f M hm hf hL hH
    obtain ⟨f, rfl⟩ : ∃ g, f = g + 1 := ⟨f - 1, by omega⟩
    obtain ⟨M1, e1, f1⟩ := hone (m + 1) f M (nI (fa_cnt (fa_okN l n w s d (6 * t + v)) (30 - (m + 1)) (m + 1 + 1))) (fa_oI (-4) (fa_lo (fa_okN l n w s d (6 * t + v)) (30 - (m + 1)) (m + 1 + 1))) hm hL hH
    obtain ⟨M3, e3, f3⟩ := ih f M1 (by omega) (by omega) (hL.fr f1) (hH.go f1)
    refine ⟨M3, fun kk => ?_, fun j hj => by rw [f3 j hj, f1 j hj]⟩
    have e3k := e3 kk
    rw [show 30 - m = 30 - (m + 1) + 1 by omega, fa_cnt, fa_lo] at e3k
    rw [e1, show nI (m + 1) + (-1 : Int32) = nI m from by rw [← nI_pred m, Int32.sub_eq_add_neg]]
    by_cases q : fa_okN l n w s d (6 * t + v) (m + 1) = true
    · rw [if_pos q, if_pos q, nI_1]
      rw [if_pos q, if_pos q] at e3k
      exact e3k
    · rw [if_neg q, if_neg q]
      rw [if_neg q, if_neg q, Nat.add_zero] at e3k
      exact e3k
theorem fa_p_hoard {M : fv_M} {L D : Nat} {l : fa_L} {σ : Nat → Int32} {B : Nat} (R : fa_R M L D l σ B) (a1 a2 a3 : Int32) :
    ∃ r M1 M2, g_X_hoard M L D a1 a2 a3 = some (r, M1) ∧ g_M_hoard M1 92 a1 a2 a3 = some (r, M2) ∧ ∀ j, (j < 29 ∨ 34 ≤ j) → j ≠ 92 + 18 → M2 j = M j := by
  have hLD := fa_LD.le R.LD
  have hl := R.Q.wl
  have g1 := hl.nt
  have g2 := hl.nv
  have g3 := hl.nw
  unfold g_X_hoard g_M_hoard
  by_cases c1 : 0 ≤ a1 ∧ a1 ≤ nI l.nt - 1
  rotate_left
  · exact ⟨-1, M, M, by rw [fa_xT0 R.Q.lc.nt c1]; rfl, by rw [fa_mT0 R.Q.lm.nt c1]; rfl, fun _ _ _ => rfl⟩
  by_cases c2 : 0 ≤ a2 ∧ a2 ≤ nI l.nv - 1
  rotate_left
  · exact ⟨-1, M, M, by rw [fa_xT1 R.Q.lc.nt c1, fa_xV0 R.Q.lc.nv c2]; rfl, by rw [fa_mT1 R.Q.lm.nt c1, fa_mV0 R.Q.lm.nv c2]; rfl, fun _ _ _ => rfl⟩
  by_cases c3 : (0 : Int32) ≤ a3 ∧ a3 ≤ (1 : Int32)
  rotate_left
  · exact ⟨-1, M, M, by rw [fa_xT1 R.Q.lc.nt c1, fa_xV1 R.Q.lc.nv c2, fa_wi0 c3]; rfl, by rw [fa_mT1 R.Q.lm.nt c1, fa_mV1 R.Q.lm.nv c2, fa_mi0 c3]; rfl, fun _ _ _ => rfl⟩
  obtain ⟨t, ht, rfl⟩ := fa_idx (by omega) c1
  obtain ⟨v, hv, rfl⟩ := fa_idx (by omega) c2
  obtain ⟨n, w, s, d, b1, b2, b3, b4⟩ := R.he
  have hH : fa_hc M n w s d := ⟨b1, b2, fun k hk => ⟨by have := (b4 k hk).1; omega, (b4 k hk).2.1, (b4 k hk).2.2.1⟩, fun k hk => (b4 k hk).2.2.2.1.1, fun k hk => (b4 k hk).2.2.2.1.2.1, fun k hk => (b4 k hk).2.2.2.1.2.2⟩
  obtain ⟨M1, e1, f1⟩ := fa_h37 (L := L) (D := D) (a3 := a3) (by omega) hl ht hv 31 0 fx_FU M 0 none (fun y hy => by cases hy) (by omega) (by unfold fx_FU; omega) R.Q.lc R.Q.ls hH
  have R1 := R.c29 f1
  have hm : fa_hm M1 n w s d := ⟨b1, by rw [f1 92 (by omega)]; exact b3, hH.sm, fun k hk => by rw [f1 _ (by omega)]; exact (b4 k hk).2.2.2.2.1, fun k hk => by rw [f1 _ (by omega)]; exact (b4 k hk).2.2.2.2.2.1, fun k hk => by rw [f1 _ (by omega)]; exact (b4 k hk).2.2.2.2.2.2⟩
  obtain ⟨M2, e2, f2⟩ := fa_h38 (a3 := a3) hl ht hv 30 fx_FU M1 (by omega) (by unfold fx_FU; omega) R1.Q.lm hm
  have hFR : ∀ j, (j < 29 ∨ 34 ≤ j) → j ≠ 92 + 18 → M2 j = M j := fun j q1 q2 => by rw [f2 j q2, f1 j q1]
  rw [Nat.zero_add] at e1
  have E1 : ∀ kk, g_X_hoard_37 L D (nI t) (nI v) a3 fx_FU M (0 : Int32) (-4 : Int32) (0 : Int32) kk = kk M1 (nI (fa_cnt (fa_okN l n w s d (6 * t + v)) 31 0)) (fa_oI (-4) (fa_lo (fa_okN l n w s d (6 * t + v)) 31 0)) (nI 31) := e1
  have E2 : ∀ kk, g_M_hoard_38 92 (nI t) (nI v) a3 fx_FU M1 (0 : Int32) (-4 : Int32) (30 : Int32) kk = kk M2 (nI (fa_cnt (fa_okN l n w s d (6 * t + v)) 31 0)) (fa_oI (-4) (fa_lo (fa_okN l n w s d (6 * t + v)) 31 0)) (-1) := e2
  by_cases h0 : a3 = 0
  · refine ⟨nI (fa_cnt (fa_okN l n w s d (6 * t + v)) 31 0), M1, M2, ?_, ?_, hFR⟩
    · rw [fa_xT1 R.Q.lc.nt c1, Option.bind_some, if_neg fa_10, fa_xV1 R.Q.lc.nv c2, Option.bind_some, if_neg fa_10, fa_wi1 c3, Option.bind_some, if_neg fa_10, E1, if_pos h0]
    · rw [fa_mT1 R1.Q.lm.nt c1, Option.bind_some, if_neg fa_10, fa_mV1 R1.Q.lm.nv c2, Option.bind_some, if_neg fa_10, fa_mi1 c3, Option.bind_some, if_neg fa_10, E2, if_pos h0]
  · refine ⟨fa_oI (-4) (fa_lo (fa_okN l n w s d (6 * t + v)) 31 0), M1, M2, ?_, ?_, hFR⟩
    · rw [fa_xT1 R.Q.lc.nt c1, Option.bind_some, if_neg fa_10, fa_xV1 R.Q.lc.nv c2, Option.bind_some, if_neg fa_10, fa_wi1 c3, Option.bind_some, if_neg fa_10, E1, if_neg h0]
    · rw [fa_mT1 R1.Q.lm.nt c1, Option.bind_some, if_neg fa_10, fa_mV1 R1.Q.lm.nv c2, Option.bind_some, if_neg fa_10, fa_mi1 c3, Option.bind_some, if_neg fa_10, E2, if_neg h0]
