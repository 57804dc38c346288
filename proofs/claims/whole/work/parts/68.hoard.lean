/-! hoard -/
theorem fa_fill_2 {c n : Nat} {x : Int32} (hn : n ≤ 900) : ∀ (d k f : Nat) (M : fv_M), k + d = n → d < f →
    ∃ M', (∀ kk, g_X_fill_2 c n x f M (nI k) kk = kk M' (nI n)) ∧ (∀ i, k ≤ i → i < n → M' c i = x) ∧ (∀ i, (i < k ∨ n ≤ i) → M' c i = M c i) ∧ ∀ j, j ≠ c → M' j = M j := by
  intro d
  induction d with
  | zero =>
    intro k f M hk hf
    obtain ⟨f, rfl⟩ : ∃ g, f = g + 1 := ⟨f - 1, by omega⟩
    have : k = n := by omega
    subst this
    exact ⟨M, fun kk => by rw [g_X_fill_2, if_pos (show Int32.ofNat k ≤ nI k from nI_le (Nat.le_refl _) (by omega))], fun i h1 h2 => by omega, fun _ _ => rfl, fun _ _ => rfl⟩
  | succ d ih =>
    intro k f M hk hf
    obtain ⟨f, rfl⟩ : ∃ g, f = g + 1 := ⟨f - 1, by omega⟩
    obtain ⟨M1, e1, h1, h2, h3⟩ := ih (k + 1) f (fv_set M c k x) (by omega) (by omega)
    refine ⟨M1, fun kk => ?_, fun i q1 q2 => ?_, fun i q => ?_, fun j hj => by rw [h3 j hj, fv_set_ne _ _ _ _ j hj]⟩
    · rw [g_X_fill_2, if_neg (show ¬ Int32.ofNat n ≤ nI k from nI_ge (by omega) (by omega)), fa_cki (by omega) (by omega), nI_clamp (by omega), nI_1, e1]
    · by_cases e : i = k
      · subst e; rw [h2 i (Or.inl (by omega)), fv_set_at, fa_upd_same]
      · exact h1 i (by omega) q2
    · rw [h2 i (by omega), fv_set_at, fa_upd_ne _ _ (by omega)]
theorem fa_fill {M : fv_M} {c n : Nat} {x : Int32} (hn : n ≤ 900) : ∃ M', g_X_fill M c n x = some M' ∧ (∀ i, i < n → M' c i = x) ∧ ∀ j, j ≠ c → M' j = M j := by
  obtain ⟨M1, e1, h1, h2, h3⟩ := fa_fill_2 (c := c) (x := x) hn n 0 fx_FU M (by omega) (by unfold fx_FU; omega)
  exact ⟨M1, by unfold g_X_fill; exact e1 _, fun i hi => h1 i (by omega) hi, h3⟩
theorem fa_begin {M : fv_M} {s L : Nat} {l : fa_L} (hs : L + 10 ≤ s) (hsk : ∀ k, k < 24 → M (L + 6) k = nI (l.sk k)) : ∃ M', g_S_begin M s L = some M' ∧ fa_c M' s (fa_row0 l) ∧ ∀ j, (j < s ∨ s + 5 ≤ j) → M' j = M j := by
  obtain ⟨M1, e1, a1, f1⟩ := fa_copy (M := fv_set M s 0 (0 : Int32)) (a := L + 6) (b := s + 1) (n := 24) (by omega) (by omega)
  obtain ⟨M2, e2, a2, f2⟩ := fa_fill (M := M1) (c := s + 2) (n := 4) (x := (-4 : Int32)) (by omega)
  obtain ⟨M3, e3, a3, f3⟩ := fa_fill (M := M2) (c := s + 3) (n := 8) (x := (0 : Int32)) (by omega)
  obtain ⟨M4, e4, a4, f4⟩ := fa_fill (M := M3) (c := s + 4) (n := 8) (x := (0 : Int32)) (by omega)
  refine ⟨M4, ?_, ⟨?_, fun k hk => ?_, fun k hk => ?_, fun k hk => ?_, fun k hk => ?_⟩, fun j hj => ?_⟩
  · unfold g_S_begin
    rw [e1, Option.bind_some, e2, Option.bind_some, e3, Option.bind_some, e4, Option.bind_some]
  · rw [f4 s (by omega), f3 s (by omega), f2 s (by omega), f1 s (by omega), fv_set_at, fa_upd_same]
    unfold fa_row0
    rw [if_neg (by omega), if_neg (by omega)]
  · rw [f4 _ (by omega), f3 _ (by omega), f2 _ (by omega), a1 k hk, fv_set_ne _ _ _ _ _ (by omega), hsk k hk]
    unfold fa_row0
    rw [if_pos hk]
  · rw [f4 _ (by omega), f3 _ (by omega), a2 k hk]
    have : fa_row0 l (24 + k) = -1 := by unfold fa_row0; rw [if_neg (by omega), if_pos (by omega)]
    rw [this, if_pos fa_m1]
  · rw [f4 _ (by omega), a3 k hk]
    unfold fa_row0
    rw [if_neg (by omega), if_neg (by omega)]
  · rw [a4 k hk]
    unfold fa_row0
    rw [if_neg (by omega), if_neg (by omega)]
  · rw [f4 j (by omega), f3 j (by omega), f2 j (by omega), f1 j (by omega), fv_set_ne _ _ _ _ j (by omega)]
theorem fa_row0_wS {l : fa_L} (hl : fa_wl l) : fa_wS l (fa_row0 l) 0 := by
  refine ⟨fun k hk => ⟨l.sk k, by have := hl.sk k hk; omega, by unfold fa_row0; rw [if_pos hk]⟩, fun t v ht hv hz => ?_, fun t ht => Or.inl ?_, ⟨0, by omega, ?_⟩⟩
  · unfold fa_row0
    rw [if_pos (by omega), hl.s0 t v ht hv hz]; rfl
  · unfold fa_row0
    rw [if_neg (by omega), if_pos (by omega)]
  · unfold fa_row0
    rw [if_neg (by omega), if_neg (by omega)]; rfl
/-! what is heard -/
def fa_okP (w s d : Nat → Nat) (b q k : Nat) : Bool := decide (s k ≠ q) || decide ((if b.testBit (w k) = true then 1 else 0) = d k)
def fa_okS (n : Nat) (w s d : Nat → Nat) (b q : Nat) : Bool := (List.range' 0 n).all (fa_okP w s d b q)
def fa_hc (M : fv_M) (n : Nat) (w : Nat → Nat) (s : Nat → Nat) (d : Nat → Nat) : Prop := (n ≤ 6) ∧ (M 88 3 = nI n) ∧ (∀ k, k < n → w k < 8 ∧ (1 ≤ s k ∧ s k ≤ 9) ∧ d k ≤ 1) ∧ (∀ k, k < n → M (88 + 1) k = nI (w k)) ∧ (∀ k, k < n → M (88 + 2) k = nI (s k)) ∧ (∀ k, k < n → M (88 + 3) k = nI (d k))
theorem fa_hc.n6 {M : fv_M} {n : Nat} {w : Nat → Nat} {s : Nat → Nat} {d : Nat → Nat} (h : fa_hc M n w s d) : n ≤ 6 := h.1
theorem fa_hc.mn {M : fv_M} {n : Nat} {w : Nat → Nat} {s : Nat → Nat} {d : Nat → Nat} (h : fa_hc M n w s d) : M 88 3 = nI n := h.2.1
theorem fa_hc.sm {M : fv_M} {n : Nat} {w : Nat → Nat} {s : Nat → Nat} {d : Nat → Nat} (h : fa_hc M n w s d) : ∀ k, k < n → w k < 8 ∧ (1 ≤ s k ∧ s k ≤ 9) ∧ d k ≤ 1 := h.2.2.1
theorem fa_hc.mw {M : fv_M} {n : Nat} {w : Nat → Nat} {s : Nat → Nat} {d : Nat → Nat} (h : fa_hc M n w s d) : ∀ k, k < n → M (88 + 1) k = nI (w k) := h.2.2.2.1
theorem fa_hc.ms {M : fv_M} {n : Nat} {w : Nat → Nat} {s : Nat → Nat} {d : Nat → Nat} (h : fa_hc M n w s d) : ∀ k, k < n → M (88 + 2) k = nI (s k) := h.2.2.2.2.1
theorem fa_hc.md {M : fv_M} {n : Nat} {w : Nat → Nat} {s : Nat → Nat} {d : Nat → Nat} (h : fa_hc M n w s d) : ∀ k, k < n → M (88 + 3) k = nI (d k) := h.2.2.2.2.2
theorem fa_hc.go {M M' : fv_M} {n : Nat} {w s d : Nat → Nat} (hf : ∀ j, 34 ≤ j → M' j = M j) (h : fa_hc M n w s d) : fa_hc M' n w s d :=
  ⟨h.n6, by rw [hf 88 (by omega)]; exact h.mn, h.sm, fun k hk => by rw [hf _ (by omega)]; exact h.mw k hk, fun k hk => by rw [hf _ (by omega)]; exact h.ms k hk, fun k hk => by rw [hf _ (by omega)]; exact h.md k hk⟩
theorem fa_agr_2 {M : fv_M} {n b q : Nat} {w s d : Nat → Nat} (hH : fa_hc M n w s d) (hb : b < 256) (hq : q ≤ 1000) : ∀ (e k f : Nat), k + e = n → e < f → g_H_agrees_2 M 88 (nI q) (nI b) f (nI k) (fun b3_4 => some (1 : Int32)) = some (if (List.range' k e).all (fa_okP w s d b q) = true then 1 else 0) := by
  have h6 := hH.n6
  intro e
  induction e with
  | zero =>
    intro k f hk hf
    obtain ⟨f, rfl⟩ : ∃ g, f = g + 1 := ⟨f - 1, by omega⟩
    have : k = n := by omega
    subst this
    rw [g_H_agrees_2, hH.mn, if_pos (nI_le (Nat.le_refl _) (by omega))]
    rfl
  | succ e ih =>
    intro k f hk hf
    obtain ⟨f, rfl⟩ : ∃ g, f = g + 1 := ⟨f - 1, by omega⟩
    have ih := ih (k + 1) f (by omega) (by omega)
    obtain ⟨s1, s2, s3⟩ := hH.sm k (by omega)
    rw [g_H_agrees_2, hH.mn, if_neg (nI_ge (by omega) (by omega)), if_neg (show ¬ (6 : Int32) ≤ nI k from nI_ge (a := k) (b := 6) (by omega) (by omega)), fa_at (by omega) (by omega), Option.bind_some, hH.ms k (by omega), fa_at (by omega) (by omega), Option.bind_some, hH.mw k (by omega), fa_has hb s1, Option.bind_some, fa_cki (by omega) (by omega), nI_clamp (by omega), hH.md k (by omega), nI_1, List.range'_succ, List.all_cons]
    have es : (nI (s k) = nI q) ↔ s k = q := nI_eq (by omega) (by omega)
    by_cases c1 : s k = q
    · rw [if_pos (es.mpr c1)]
      have ed : ((if b.testBit (w k) = true then (1 : Int32) else 0) = nI (d k)) ↔ (if b.testBit (w k) = true then 1 else 0) = d k := by
        rw [show (if b.testBit (w k) = true then (1 : Int32) else 0) = nI (if b.testBit (w k) = true then 1 else 0) from by split <;> rfl]
        exact nI_eq (by split <;> omega) (by omega)
      by_cases c2 : (if b.testBit (w k) = true then 1 else 0) = d k
      · rw [if_pos (ed.mpr c2), ih, show fa_okP w s d b q k = true by unfold fa_okP; rw [decide_eq_true c2, Bool.or_true], Bool.true_and]
      · rw [if_neg (fun z => c2 (ed.mp z)), show fa_okP w s d b q k = false by unfold fa_okP; rw [decide_eq_false c2, Bool.or_false]; exact decide_eq_false (fun z => z c1), Bool.false_and]; rfl
    · rw [if_neg (fun z => c1 (es.mp z)), ih, show fa_okP w s d b q k = true by unfold fa_okP; rw [decide_eq_true c1, Bool.true_or], Bool.true_and]
theorem fa_agrees {M : fv_M} {n b q : Nat} {w s d : Nat → Nat} (hH : fa_hc M n w s d) (hb : b < 256) (hq : q ≤ 1000) : g_H_agrees M 88 (nI q) (nI b) = some (if fa_okS n w s d b q = true then 1 else 0) := by
  have h6 := hH.n6
  unfold g_H_agrees
  exact fa_agr_2 hH hb hq n 0 fx_FU (by omega) (by unfold fx_FU; omega)
theorem fa_latest {M : fv_M} {n : Nat} {w s d : Nat → Nat} (hH : fa_hc M n w s d) : ∃ x, x ≤ 9 ∧ g_H_latestSeason M 88 = some (nI x) ∧ ∀ k, k < n → s k ≤ x := by
  have h6 := hH.n6
  have key : ∀ (e k f x : Nat), k + e = n → e < f → x ≤ 9 → (∀ i, i < k → s i ≤ x) → ∃ y, y ≤ 9 ∧ g_H_latestSeason_4 M 88 f (nI x) (nI k) (fun b1_2 b2_2 => some b1_2) = some (nI y) ∧ ∀ i, i < n → s i ≤ y := by
    intro e
    induction e with
    | zero =>
      intro k f x hk hf hx hi
      obtain ⟨f, rfl⟩ : ∃ g, f = g + 1 := ⟨f - 1, by omega⟩
      have : k = n := by omega
      subst this
      exact ⟨x, hx, by rw [g_H_latestSeason_4, hH.mn, if_pos (nI_le (Nat.le_refl _) (by omega))], hi⟩
    | succ e ih =>
      intro k f x hk hf hx hi
      obtain ⟨f, rfl⟩ : ∃ g, f = g + 1 := ⟨f - 1, by omega⟩
      obtain ⟨s1, s2, s3⟩ := hH.sm k (by omega)
      rw [g_H_latestSeason_4, hH.mn, if_neg (nI_ge (by omega) (by omega)), fa_at (by omega) (by omega), Option.bind_some, hH.ms k (by omega), nI_1]
      by_cases c : x < s k
      · rw [if_pos (nI_lt c (by omega))]
        exact ih (k + 1) f (s k) (by omega) (by omega) (by omega) (fun i hik => by
          rcases Nat.lt_or_ge i k with z | z
          · have := hi i z; omega
          · have : i = k := by omega
            subst this; omega)
      · rw [if_neg (nI_nlt (by omega) (by omega))]
        exact ih (k + 1) f x (by omega) (by omega) hx (fun i hik => by
          rcases Nat.lt_or_ge i k with z | z
          · exact hi i z
          · have : i = k := by omega
            subst this; omega)
  obtain ⟨y, hy, e1, e2⟩ := key n 0 fx_FU 0 (by omega) (by unfold fx_FU; omega) (by omega) (fun i hi => absurd hi (by omega))
  exact ⟨y, hy, by unfold g_H_latestSeason; exact e1, e2⟩
def fa_okA (l : fa_L) (n : Nat) (w s d : Nat → Nat) (σ : Nat → Int32) : Nat → Nat → Bool
  | 0, _ => true
  | e + 1, k => fa_okS n w s d (fa_goB l (fa_goN l σ k)) (k + 1) && fa_okA l n w s d σ e (k + 1)
theorem fa_okA_late {l : fa_L} {n x : Nat} {w s d : Nat → Nat} {σ : Nat → Int32} (h : ∀ k, k < n → s k ≤ x) : ∀ e k, x ≤ k → fa_okA l n w s d σ e k = true := by
  intro e
  induction e with
  | zero => exact fun _ _ => rfl
  | succ e ih =>
    intro k hk
    rw [fa_okA, ih (k + 1) (by omega), Bool.and_true]
    unfold fa_okS
    rw [List.all_eq_true]
    intro i hi
    have := (List.mem_range'_1.mp hi).2
    have := h i (by omega)
    unfold fa_okP
    rw [decide_eq_true (show s i ≠ k + 1 by omega), Bool.true_or]
theorem fa_could_38 {L D : Nat} {l : fa_L} {σ : Nat → Int32} {B n x : Nat} {w s d : Nat → Nat} {a1 a2 a3 : Int32} (hs : L + 10 ≤ 29) (hl : fa_wl l) (hw : fa_wS l σ B) (hB : B ≤ 90000) (hx : x ≤ 9) : ∀ (e k f : Nat) (M : fv_M), k + e = x → e < f → fa_lc M L l → fa_ls M L l → fa_hc M n w s d → fa_c M 29 (fa_goN l σ k) →
    ∃ M', g_X_couldHaveHad_38 L D a1 a2 a3 (nI x) f M (nI (k + 1)) (fun M_6 b5_6 => some ((1 : Int32), M_6)) = some (if fa_okA l n w s d σ e k = true then 1 else 0, M') ∧ ∀ j, (j < 29 ∨ 34 ≤ j) → M' j = M j := by
  intro e
  induction e with
  | zero =>
    intro k f M hk hf hL hS hH hc
    obtain ⟨f, rfl⟩ : ∃ g, f = g + 1 := ⟨f - 1, by omega⟩
    have : k = x := by omega
    subst this
    exact ⟨M, by rw [g_X_couldHaveHad_38, if_pos (nI_lt (by omega) (by omega))]; rfl, fun _ _ => rfl⟩
  | succ e ih =>
    intro k f M hk hf hL hS hH hc
    obtain ⟨f, rfl⟩ : ∃ g, f = g + 1 := ⟨f - 1, by omega⟩
    obtain ⟨M1, e1, c1, f1⟩ := fa_goBy hs hl (hw.goN hl k (by omega)).so hL hS hc
    have hb := fa_goB_lt hl (fa_goN l σ k)
    have hH1 := hH.go (M' := M1) (fun j hj => f1 j (by omega))
    rw [g_X_couldHaveHad_38, if_neg (nI_nlt (by omega) (by omega)), e1, Option.bind_some]
    dsimp only
    rw [fa_agrees hH1 hb (by omega), Option.bind_some, fa_okA]
    by_cases q : fa_okS n w s d (fa_goB l (fa_goN l σ k)) (k + 1) = true
    · obtain ⟨M3, e3, f3⟩ := ih (k + 1) f M1 (by omega) (by omega) (hL.fr hs (fun j hj => f1 j (by omega))) (hS.fr hs (fun j hj => f1 j (by omega))) hH1 c1
      refine ⟨M3, ?_, fun j hj => by rw [f3 j hj, f1 j (by omega)]⟩
      rw [if_pos q, if_neg fa_10, nI_1, e3, q, Bool.true_and]
    · refine ⟨M1, ?_, fun j hj => f1 j (by omega)⟩
      rw [if_neg q, if_pos rfl, Bool.eq_false_iff.mpr q, Bool.false_and]; rfl
def fa_okN (l : fa_L) (n : Nat) (w s d : Nat → Nat) (i m : Nat) : Bool := fa_okA l n w s d (upd (fa_row0 l) i (nI m)) 9 0
theorem fa_okA_split {l : fa_L} {n : Nat} {w s d : Nat → Nat} {σ : Nat → Int32} : ∀ e f k, fa_okA l n w s d σ (e + f) k = (fa_okA l n w s d σ e k && fa_okA l n w s d σ f (k + e)) := by
  intro e
  induction e with
  | zero => intro f k; rw [Nat.zero_add]; rfl
  | succ e ih =>
    intro f k
    rw [show e + 1 + f = (e + f) + 1 by omega, fa_okA, fa_okA, ih, Bool.and_assoc, show k + 1 + e = k + (e + 1) by omega]
theorem fa_rowm_wS {l : fa_L} {t v m : Nat} (hl : fa_wl l) (ht : t < l.nt) (hv : v < l.nv) (hm : m ≤ 60) : fa_wS l (upd (fa_row0 l) (6 * t + v) (nI m)) 0 := (fa_row0_wS hl).stk hl ht hv ⟨m, hm, rfl⟩
theorem fa_could {M : fv_M} {L D : Nat} {l : fa_L} {n t v m : Nat} {w s d : Nat → Nat} (hs : L + 10 ≤ 29) (hl : fa_wl l) (hL : fa_lc M L l) (hS : fa_ls M L l) (hH : fa_hc M n w s d) (ht : t < l.nt) (hv : v < l.nv) (hm : m ≤ 30) :
    ∃ M', g_X_couldHaveHad M L D (nI t) (nI v) (nI m) = some (if fa_okN l n w s d (6 * t + v) m = true then 1 else 0, M') ∧ ∀ j, (j < 29 ∨ 34 ≤ j) → M' j = M j := by
  have g1 := hl.nt
  have g2 := hl.nv
  obtain ⟨M1, e1, c1, f1⟩ := fa_begin (M := M) (s := 29) hs hL.sk
  have c2 := c1.stk (k := 6 * t + v) (x := nI m) (by omega)
  obtain ⟨M2, eM2⟩ : ∃ M2, M2 = fv_set M1 (29 + 1) (6 * t + v) (nI m) := ⟨_, rfl⟩
  rw [← eM2] at c2
  have f2 : ∀ j, (j < 29 ∨ 34 ≤ j) → M2 j = M j := fun j hj => by rw [eM2, fv_set_ne _ _ _ _ j (by omega), f1 j (by omega)]
  have hH2 := hH.go (M' := M2) (fun j hj => f2 j (by omega))
  obtain ⟨x, hx, ex, hlat⟩ := fa_latest hH2
  obtain ⟨M3, e3, f3⟩ := fa_could_38 (D := D) (a1 := nI t) (a2 := nI v) (a3 := nI m) hs hl (fa_rowm_wS hl ht hv (show m ≤ 60 by omega)) (by omega) hx x 0 fx_FU M2 (by omega) (by unfold fx_FU; omega) (hL.fr hs (fun j hj => f2 j (by omega))) (hS.fr hs (fun j hj => f2 j (by omega))) hH2 c2
  refine ⟨M3, ?_, fun j hj => by rw [f3 j hj, f2 j hj]⟩
  unfold g_X_couldHaveHad
  rw [e1, Option.bind_some, fa_setStock (by omega) (by omega), Option.bind_some, ← eM2, ex, Option.bind_some]
  have em : (if nI x < (9 : Int32) then nI x else (9 : Int32)) = nI x := by
    by_cases q : x < 9
    · rw [if_pos (show nI x < (9 : Int32) from nI_lt (a := x) (b := 9) q (by omega))]
    · have : x = 9 := by omega
      subst this; decide
  rw [em]
  have hsp := fa_okA_split (l := l) (n := n) (w := w) (s := s) (d := d) (σ := upd (fa_row0 l) (6 * t + v) (nI m)) x (9 - x) 0
  rw [show x + (9 - x) = 9 by omega, fa_okA_late hlat (9 - x) (0 + x) (by omega), Bool.and_true] at hsp
  unfold fa_okN
  rw [hsp]
  exact e3
