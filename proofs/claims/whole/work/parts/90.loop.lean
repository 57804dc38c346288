/-! every call answers alike, so the law's loop holds (fault and lay are asked for here; they stand in part 7x) -/
def fa_Inv (j : Nat) (M : fv_M) (L D : Nat) : Prop := ∃ l σ, fa_R M L D l σ (10 * j)
def fa_wF : Prop := ∀ (M : fv_M) (L D : Nat) (l : fa_L) (σ : Nat → Int32) (B : Nat), fa_R M L D l σ B → ∃ r M1 M2, g_X_fault M L D = some (r, M1) ∧ g_M_fault M1 92 = some (r, M2) ∧ fa_R M2 L D l σ B
def fa_wY : Prop := ∀ (M : fv_M) (L D : Nat) (l : fa_L) (σ : Nat → Int32) (B : Nat), fa_R M L D l σ B → ∃ r M1 M2 L2 D2 l2 σ2, g_X_lay M L D = some (r, M1, L2, D2) ∧ g_M_lay M1 92 = some (r, M2) ∧ fa_R M2 L2 D2 l2 σ2 B
theorem fa_q {M : fv_M} {L D : Nat} {l : fa_L} {σ : Nat → Int32} {j c : Nat} {a1 a2 a3 a4 : Int32} (R : fa_R M L D l σ (10 * j)) (h : fx_one M L D a1 a2 a3 a4 M L D c) : ∃ M2 L2 D2, fx_one M L D a1 a2 a3 a4 M2 L2 D2 c ∧ fa_Inv (j + 1) M2 L2 D2 := ⟨M, L, D, h, l, σ, R.mono (by omega)⟩
theorem fa_q2 {M M2 : fv_M} {L D : Nat} {l : fa_L} {σ : Nat → Int32} {j c : Nat} {a1 a2 a3 a4 : Int32} (R : fa_R M2 L D l σ (10 * j)) (h : fx_one M L D a1 a2 a3 a4 M2 L D c) : ∃ M2 L2 D2, fx_one M L D a1 a2 a3 a4 M2 L2 D2 c ∧ fa_Inv (j + 1) M2 L2 D2 := ⟨M2, L, D, h, l, σ, R.mono (by omega)⟩
theorem fa_q3 {M M2 : fv_M} {L D : Nat} {l : fa_L} {σ : Nat → Int32} {j c : Nat} {a1 a2 a3 a4 : Int32} (R : fa_R M L D l σ (10 * j)) (hf : ∀ j, (j < 29 ∨ 34 ≤ j) → j ≠ 92 + 18 → M2 j = M j) (h : fx_one M L D a1 a2 a3 a4 M2 L D c) : ∃ M2 L2 D2, fx_one M L D a1 a2 a3 a4 M2 L2 D2 c ∧ fa_Inv (j + 1) M2 L2 D2 := fa_q2 (R.free hf) h
theorem fa_hs (hF : fa_wF) (hY : fa_wY) : ∀ j M L D, j < 64 → fa_Inv j M L D → ∀ (c : Nat) (a1 a2 a3 a4 : Int32), ∃ M2 L2 D2, fx_one M L D a1 a2 a3 a4 M2 L2 D2 c ∧ fa_Inv (j + 1) M2 L2 D2 := by
  intro j M L D hj ⟨l, σ, R⟩ c a1 a2 a3 a4
  have hc6 : M 88 3 = M 92 15 := by obtain ⟨n, w, s, d, b1, b2, b3, b4⟩ := R.he; rw [b2, b3]
  have hc7 : M 34 1 = M 92 11 := by obtain ⟨n, x, P, b1, b2, b3, b4, b5, b6⟩ := R.pa; rw [b3, b5]
  have hc8 : M 76 1 = M 92 13 := by obtain ⟨n, x, P, b1, b2, b3, b4, b5, b6⟩ := R.ke; rw [b3, b5]
  have hc9 : M 1 2 = M 92 18 := by obtain ⟨n, x, b1, b2, b3, b4⟩ := R.tx; rw [b2, b3]
  match c with
  | 0 => obtain ⟨r, M1, M2, e1, e2, R2⟩ := fa_p_write R a1; exact fa_q2 R2 ⟨r, M1, e1, e2, rfl, rfl⟩
  | 1 => obtain ⟨r, M1, M2, e1, e2, R2⟩ := fa_p_wipe R; exact fa_q2 R2 ⟨r, M1, e1, e2, rfl, rfl⟩
  | 2 => obtain ⟨r, M1, M2, e1, e2, R2⟩ := hF _ _ _ _ _ _ R; exact fa_q2 R2 ⟨r, M1, e1, e2, rfl, rfl⟩
  | 3 => obtain ⟨r, M1, M2, L2, D2, l2, σ2, e1, e2, R2⟩ := hY _ _ _ _ _ _ R; exact ⟨M2, L2, D2, ⟨r, M1, e1, e2⟩, l2, σ2, R2.mono (by omega)⟩
  | 4 => obtain ⟨r, e1, e2⟩ := fa_o_verb (D := D) R.Q a1 a2; exact fa_q R ⟨r, e1, e2, rfl, rfl, rfl⟩
  | 5 => obtain ⟨r, e1, e2⟩ := fa_o_noun (D := D) R.Q a1; exact fa_q R ⟨r, e1, e2, rfl, rfl, rfl⟩
  | 6 => obtain ⟨r, e1, e2⟩ := fa_o_village (D := D) R.Q a1 a2; exact fa_q R ⟨r, e1, e2, rfl, rfl, rfl⟩
  | 7 => obtain ⟨r, e1, e2⟩ := fa_o_stock (D := D) R.Q a1 a2; exact fa_q R ⟨r, e1, e2, rfl, rfl, rfl⟩
  | 8 => obtain ⟨r, e1, e2⟩ := fa_o_work (D := D) R.Q a1 a2; exact fa_q R ⟨r, e1, e2, rfl, rfl, rfl⟩
  | 9 => obtain ⟨r, M1, M2, τ, e1, e2, R2⟩ := fa_p_pass R (by omega) a1; exact ⟨M2, L, D, ⟨r, M1, e1, e2, rfl, rfl⟩, l, τ, R2.mono (by omega)⟩
  | 10 => obtain ⟨r, M1, M2, τ, e1, e2, R2⟩ := fa_p_give R a1 a2 a3 a4; exact fa_q2 R2 ⟨r, M1, e1, e2, rfl, rfl⟩
  | 11 => obtain ⟨r, M1, M2, τ, e1, e2, R2⟩ := fa_p_sow R a1 a2; exact fa_q2 R2 ⟨r, M1, e1, e2, rfl, rfl⟩
  | 12 => obtain ⟨r, M1, M2, τ, e1, e2, R2⟩ := fa_p_undo R; exact fa_q2 R2 ⟨r, M1, e1, e2, rfl, rfl⟩
  | 13 => obtain ⟨r, M1, M2, e1, e2, f⟩ := fa_p_behind R (by omega) a1 a2 a3 a4; exact fa_q3 R f ⟨r, M1, e1, e2, rfl, rfl⟩
  | 14 => obtain ⟨r, M1, M2, e1, e2, f⟩ := fa_p_silent R (by omega) a1; exact fa_q3 R f ⟨r, M1, e1, e2, rfl, rfl⟩
  | 15 => obtain ⟨r, M1, M2, e1, e2, f⟩ := fa_p_lasts R (by omega) a1; exact fa_q3 R f ⟨r, M1, e1, e2, rfl, rfl⟩
  | 16 => obtain ⟨r, e1, e2⟩ := fa_o_sent (D := D) (show 10 * j ≤ 100000 by omega) R.Q; exact fa_q R ⟨r, e1, e2, rfl, rfl, rfl⟩
  | 17 => obtain ⟨r, e1, e2⟩ := fa_o_share (D := D) R.Q a1 a2 a3; exact fa_q R ⟨r, e1, e2, rfl, rfl, rfl⟩
  | 18 => obtain ⟨r, e1, e2⟩ := fa_o_readings (D := D) R.Q a1; exact fa_q R ⟨r, e1, e2, rfl, rfl, rfl⟩
  | 19 => obtain ⟨r, e1, e2⟩ := fa_o_say (D := D) R.Q a1 a2; exact fa_q R ⟨r, e1, e2, rfl, rfl, rfl⟩
  | 20 => obtain ⟨r, e1, e2⟩ := fa_o_tells (D := D) R.Q a1 a2; exact fa_q R ⟨r, e1, e2, rfl, rfl, rfl⟩
  | 21 => obtain ⟨r, e1, e2⟩ := fa_o_bred (D := D) R.Q a1; exact fa_q R ⟨r, e1, e2, rfl, rfl, rfl⟩
  | 22 => obtain ⟨r, M1, M2, e1, e2, R2⟩ := fa_p_hear R a1 a2 (if a3 = 0 then (0 : Int32) else (1 : Int32)) (by split; exact Or.inl rfl; exact Or.inr rfl); exact fa_q2 R2 ⟨r, M1, e1, e2, rfl, rfl⟩
  | 23 => obtain ⟨r, M1, M2, e1, e2, R2⟩ := fa_p_forget R; exact fa_q2 R2 ⟨r, M1, e1, e2, rfl, rfl⟩
  | 24 => obtain ⟨r, M1, M2, e1, e2, f⟩ := fa_p_hoard R a1 a2 a3; exact fa_q3 R f ⟨r, M1, e1, e2, rfl, rfl⟩
  | 25 => obtain ⟨r, M1, M2, e1, e2, f⟩ := fa_p_caravan R (by omega) a1 a2 a3 a4; exact fa_q3 R f ⟨r, M1, e1, e2, rfl, rfl⟩
  | 26 => obtain ⟨r, M1, M2, e1, e2, f⟩ := fa_p_decade R (by omega) a1 a2 a3; exact fa_q3 R f ⟨r, M1, e1, e2, rfl, rfl⟩
  | 27 => obtain ⟨r, M1, M2, e1, e2, R2⟩ := fa_p_keep R; exact fa_q2 R2 ⟨r, M1, e1, e2, rfl, rfl⟩
  | 28 => obtain ⟨r, M1, M2, τ, e1, e2, R2⟩ := fa_p_back R; exact fa_q2 R2 ⟨r, M1, e1, e2, rfl, rfl⟩
  | 29 => obtain ⟨r, e1, e2⟩ := fa_o_count (D := D) R.Q hc6 hc7 hc8 hc9 a1; exact fa_q R ⟨r, e1, e2, rfl, rfl, rfl⟩
  | c + 30 => exact fa_q R ⟨rfl, rfl, rfl⟩
theorem fa_loop (hF : fa_wF) (hY : fa_wY) {X : fv_X} {k : Nat × Nat} (hX : X.1 ≤ 320) {M : fv_M} {L D : Nat} (h : fa_Inv 0 M L D) : ∃ sh2 M2, fv_Rn X 168 18 [some (.ref fv_SCR), some (.ref 0), some (.ref 92), some (.int 0)] [] k (fx_sh L D) M (some (.int 1), sh2, M2) :=
  v_law_loop hX fa_Inv (fun j M L D hi => by obtain ⟨l, σ, R⟩ := hi; exact R.LD) (fa_hs hF hY) 65 0 M L D h (by omega) (by omega)
