/-! an item of the text, the class's way -/
def fa_kb (c : Nat) : Nat := if c = 110 then 1 else if c = 115 then 3 else if c = 116 then 1 else if c = 118 then 2 else if c = 119 then 3 else 0
theorem fa_kb_le (c : Nat) : fa_kb c ≤ 3 := by
  unfold fa_kb
  repeat' split
  all_goals omega
/-- what an item makes of a draft -/
def fa_ad (c a b d : Nat) (l : fa_L) : Option fa_L :=
  if c = 110 then (if l.nn < 8 ∧ 1 ≤ a ∧ a ≤ 63 then some (fa_aN l a) else none)
  else if c = 115 then (if (a < l.nt ∧ b < l.nv) ∧ d ≤ 30 then some (fa_aS l a b d) else none)
  else if c = 116 then (if l.nt < 4 ∧ a ≤ 63 then some (fa_aT l a) else none)
  else if c = 118 then (if l.nv < 6 ∧ a ≤ 3 ∧ b ≤ 9 then some (fa_aV l a b) else none)
  else if c = 119 then (if l.nw < 8 ∧ (a < l.nt ∧ b < l.nv) ∧ 1 ≤ d ∧ d ≤ 9 then some (fa_aW l a b d) else none)
  else none
/-- the number k of the item at p -/
def fa_nu (tx : Nat → Nat) (n p k : Nat) : Nat := fa_nv tx n (fa_st tx n (p + 1) k)
def fa_it (tx : Nat → Nat) (n p : Nat) (l : fa_L) : Option fa_L :=
  if fa_nok tx n (fa_kb (fa_la tx n p)) (p + 1) = true then fa_ad (fa_la tx n p) (fa_nu tx n p 0) (fa_nu tx n p 1) (fa_nu tx n p 2) l else none
/-- the place behind it -/
def fa_nx (tx : Nat → Nat) (n p : Nat) : Nat := fa_st tx n (p + 1) (fa_kb (fa_la tx n p))
theorem fa_ad_wl {c a b d : Nat} {l l2 : fa_L} (hl : fa_wl l) (h : fa_ad c a b d l = some l2) : fa_wl l2 := by
  unfold fa_ad at h
  by_cases c1 : c = 110
  · rw [if_pos c1] at h
    by_cases z : l.nn < 8 ∧ 1 ≤ a ∧ a ≤ 63
    · rw [if_pos z] at h; cases h; exact hl.aN z.1 z.2.2
    · rw [if_neg z] at h; cases h
  rw [if_neg c1] at h
  by_cases c2 : c = 115
  · rw [if_pos c2] at h
    by_cases z : (a < l.nt ∧ b < l.nv) ∧ d ≤ 30
    · rw [if_pos z] at h; cases h; exact hl.aS z.1 z.2
    · rw [if_neg z] at h; cases h
  rw [if_neg c2] at h
  by_cases c3 : c = 116
  · rw [if_pos c3] at h
    by_cases z : l.nt < 4 ∧ a ≤ 63
    · rw [if_pos z] at h; cases h; exact hl.aT z.1 z.2
    · rw [if_neg z] at h; cases h
  rw [if_neg c3] at h
  by_cases c4 : c = 118
  · rw [if_pos c4] at h
    by_cases z : l.nv < 6 ∧ a ≤ 3 ∧ b ≤ 9
    · rw [if_pos z] at h; cases h; exact hl.aV z.1 z.2.1 z.2.2
    · rw [if_neg z] at h; cases h
  rw [if_neg c4] at h
  by_cases c5 : c = 119
  · rw [if_pos c5] at h
    by_cases z : l.nw < 8 ∧ (a < l.nt ∧ b < l.nv) ∧ 1 ≤ d ∧ d ≤ 9
    · rw [if_pos z] at h; cases h; exact hl.aW z.1 z.2.1 z.2.2
    · rw [if_neg z] at h; cases h
  rw [if_neg c5] at h
  cases h
theorem fa_it_wl {tx : Nat → Nat} {n p : Nat} {l l2 : fa_L} (hl : fa_wl l) (h : fa_it tx n p l = some l2) : fa_wl l2 := by
  unfold fa_it at h
  by_cases z : fa_nok tx n (fa_kb (fa_la tx n p)) (p + 1) = true
  · rw [if_pos z] at h; exact fa_ad_wl hl h
  · rw [if_neg z] at h; cases h
theorem fa_nu_le {tx : Nat → Nat} {n m p k : Nat} (h : fa_nok tx n m (p + 1) = true) (hk : k < m) : fa_nu tx n p k ≤ 99 := by
  have h2 := List.all_eq_true.mp h k (List.mem_range'_1.mpr ⟨Nat.zero_le _, by omega⟩)
  have h3 := (of_decide_eq_true h2).1
  unfold fa_nu
  generalize fa_st tx n (p + 1) k = q at h3 ⊢
  unfold fa_fn at h3
  by_cases f : fa_fig (fa_la tx n q) = true
  · have f' := of_decide_eq_true f
    unfold fa_nv
    by_cases g : fa_fig (fa_la tx n (q + 1)) = true
    · have g' := of_decide_eq_true g
      rw [if_pos g]; omega
    · rw [if_neg g]; omega
  · rw [if_neg f] at h3; exact absurd rfl h3
theorem fa_behindN {M : fv_M} {c : Nat} (hc : c ≤ 126) : g_T_numbersBehind M (nI c) = some (nI (fa_kb c)) := by
  unfold g_T_numbersBehind fa_kb
  have e : ∀ q : Nat, q ≤ 126 → ((nI c = nI q) ↔ c = q) := fun q hq => nI_eq (by omega) (by omega)
  by_cases c1 : c = 110
  · rw [if_pos (show nI c = (110 : Int32) from (e 110 (by omega)).mpr c1), if_pos c1]; rfl
  rw [if_neg (show ¬ nI c = (110 : Int32) from fun z => c1 ((e 110 (by omega)).mp z)), if_neg c1]
  by_cases c2 : c = 115
  · rw [if_pos (show nI c = (115 : Int32) from (e 115 (by omega)).mpr c2), if_pos c2]; rfl
  rw [if_neg (show ¬ nI c = (115 : Int32) from fun z => c2 ((e 115 (by omega)).mp z)), if_neg c2]
  by_cases c3 : c = 116
  · rw [if_pos (show nI c = (116 : Int32) from (e 116 (by omega)).mpr c3), if_pos c3]; rfl
  rw [if_neg (show ¬ nI c = (116 : Int32) from fun z => c3 ((e 116 (by omega)).mp z)), if_neg c3]
  by_cases c4 : c = 118
  · rw [if_pos (show nI c = (118 : Int32) from (e 118 (by omega)).mpr c4), if_pos c4]; rfl
  rw [if_neg (show ¬ nI c = (118 : Int32) from fun z => c4 ((e 118 (by omega)).mp z)), if_neg c4]
  by_cases c5 : c = 119
  · rw [if_pos (show nI c = (119 : Int32) from (e 119 (by omega)).mpr c5), if_pos c5]; rfl
  rw [if_neg (show ¬ nI c = (119 : Int32) from fun z => c5 ((e 119 (by omega)).mp z)), if_neg c5]; rfl
theorem fa_tki {M : fv_M} {D c a b d : Nat} {l : fa_L} (hl : fa_wl l) (h : fa_lc M D l) (hc : c ≤ 126) (h0 : 1 ≤ fa_kb c → M 3 0 = nI a ∧ a ≤ 99) (h1 : 2 ≤ fa_kb c → M 3 1 = nI b ∧ b ≤ 99) (h2 : 3 ≤ fa_kb c → M 3 2 = nI d ∧ d ≤ 99) :
    ∃ M', (∀ j, (j < D ∨ D + 10 ≤ j) → M' j = M j) ∧ ((∃ l2, fa_ad c a b d l = some l2 ∧ g_T_take M 1 D (nI c) = some (1, M') ∧ fa_lc M' D l2) ∨ (fa_ad c a b d l = none ∧ g_T_take M 1 D (nI c) = some (0, M'))) := by
  have e : ∀ q : Nat, q ≤ 126 → ((nI c = nI q) ↔ c = q) := fun q hq => nI_eq (by omega) (by omega)
  have e0 : g_X_at M (1 + 2) 3 (0 : Int32) = some (M 3 0) := fa_at (M := M) (c := 3) (i := 0) (n := 3) (by omega) (by omega)
  have e1 : g_X_at M (1 + 2) 3 (1 : Int32) = some (M 3 1) := fa_at (M := M) (c := 3) (i := 1) (n := 3) (by omega) (by omega)
  have e2 : g_X_at M (1 + 2) 3 (2 : Int32) = some (M 3 2) := fa_at (M := M) (c := 3) (i := 2) (n := 3) (by omega) (by omega)
  unfold g_T_take fa_ad
  rw [e0, Option.bind_some, e1, Option.bind_some, e2, Option.bind_some]
  by_cases c1 : c = 110
  · obtain ⟨q0, qa⟩ := h0 (by subst c1; decide)
    obtain ⟨M', f, g⟩ := fa_addNoun hl h qa
    refine ⟨M', f, ?_⟩
    rw [if_pos (show nI c = (110 : Int32) from (e 110 (by omega)).mpr c1), if_pos c1, q0]
    by_cases z : l.nn < 8 ∧ 1 ≤ a ∧ a ≤ 63
    · rw [if_pos z] at g ⊢
      exact Or.inl ⟨_, rfl, by rw [g.1, Option.bind_some]; exact fa_ck (fun z => z (Or.inr rfl)), g.2⟩
    · rw [if_neg z] at g ⊢
      exact Or.inr ⟨rfl, by rw [g, Option.bind_some]; exact fa_ck (fun z => z (Or.inl rfl))⟩
  rw [if_neg (show ¬ nI c = (110 : Int32) from fun z => c1 ((e 110 (by omega)).mp z)), if_neg c1]
  by_cases c2 : c = 115
  · obtain ⟨q0, qa⟩ := h0 (by subst c2; decide)
    obtain ⟨q1, qb⟩ := h1 (by subst c2; decide)
    obtain ⟨q2, qd⟩ := h2 (by subst c2; decide)
    obtain ⟨M', f, g⟩ := fa_addStock hl h qa qb qd
    refine ⟨M', f, ?_⟩
    rw [if_pos (show nI c = (115 : Int32) from (e 115 (by omega)).mpr c2), if_pos c2, q0, q1, q2]
    by_cases z : (a < l.nt ∧ b < l.nv) ∧ d ≤ 30
    · rw [if_pos z] at g ⊢
      exact Or.inl ⟨_, rfl, by rw [g.1, Option.bind_some]; exact fa_ck (fun z => z (Or.inr rfl)), g.2⟩
    · rw [if_neg z] at g ⊢
      exact Or.inr ⟨rfl, by rw [g, Option.bind_some]; exact fa_ck (fun z => z (Or.inl rfl))⟩
  rw [if_neg (show ¬ nI c = (115 : Int32) from fun z => c2 ((e 115 (by omega)).mp z)), if_neg c2]
  by_cases c3 : c = 116
  · obtain ⟨q0, qa⟩ := h0 (by subst c3; decide)
    obtain ⟨M', f, g⟩ := fa_addVillage hl h qa
    refine ⟨M', f, ?_⟩
    rw [if_pos (show nI c = (116 : Int32) from (e 116 (by omega)).mpr c3), if_pos c3, q0]
    by_cases z : l.nt < 4 ∧ a ≤ 63
    · rw [if_pos z] at g ⊢
      exact Or.inl ⟨_, rfl, by rw [g.1, Option.bind_some]; exact fa_ck (fun z => z (Or.inr rfl)), g.2⟩
    · rw [if_neg z] at g ⊢
      exact Or.inr ⟨rfl, by rw [g, Option.bind_some]; exact fa_ck (fun z => z (Or.inl rfl))⟩
  rw [if_neg (show ¬ nI c = (116 : Int32) from fun z => c3 ((e 116 (by omega)).mp z)), if_neg c3]
  by_cases c4 : c = 118
  · obtain ⟨q0, qa⟩ := h0 (by subst c4; decide)
    obtain ⟨q1, qb⟩ := h1 (by subst c4; decide)
    obtain ⟨M', f, g⟩ := fa_addVerb hl h qa qb
    refine ⟨M', f, ?_⟩
    rw [if_pos (show nI c = (118 : Int32) from (e 118 (by omega)).mpr c4), if_pos c4, q0, q1]
    by_cases z : l.nv < 6 ∧ a ≤ 3 ∧ b ≤ 9
    · rw [if_pos z] at g ⊢
      exact Or.inl ⟨_, rfl, by rw [g.1, Option.bind_some]; exact fa_ck (fun z => z (Or.inr rfl)), g.2⟩
    · rw [if_neg z] at g ⊢
      exact Or.inr ⟨rfl, by rw [g, Option.bind_some]; exact fa_ck (fun z => z (Or.inl rfl))⟩
  rw [if_neg (show ¬ nI c = (118 : Int32) from fun z => c4 ((e 118 (by omega)).mp z)), if_neg c4]
  by_cases c5 : c = 119
  · obtain ⟨q0, qa⟩ := h0 (by subst c5; decide)
    obtain ⟨q1, qb⟩ := h1 (by subst c5; decide)
    obtain ⟨q2, qd⟩ := h2 (by subst c5; decide)
    obtain ⟨M', f, g⟩ := fa_addWork hl h qa qb qd
    refine ⟨M', f, ?_⟩
    rw [if_pos (show nI c = (119 : Int32) from (e 119 (by omega)).mpr c5), if_pos c5, q0, q1, q2]
    by_cases z : l.nw < 8 ∧ (a < l.nt ∧ b < l.nv) ∧ 1 ≤ d ∧ d ≤ 9
    · rw [if_pos z] at g ⊢
      exact Or.inl ⟨_, rfl, by rw [g.1, Option.bind_some]; exact fa_ck (fun z => z (Or.inr rfl)), g.2⟩
    · rw [if_neg z] at g ⊢
      exact Or.inr ⟨rfl, by rw [g, Option.bind_some]; exact fa_ck (fun z => z (Or.inl rfl))⟩
  rw [if_neg (show ¬ nI c = (119 : Int32) from fun z => c5 ((e 119 (by omega)).mp z)), if_neg c5]
  exact ⟨M, fun _ _ => rfl, Or.inr ⟨rfl, rfl⟩⟩
theorem fa_item {M : fv_M} {D n p : Nat} {tx : Nat → Nat} {l : fa_L} (hl : fa_wl l) (h : fa_lc M D l) (T : fa_tc M n tx) (hp : p ≤ 200) (hD : 4 ≤ D) :
    ∃ M', (∀ j, j ≠ 3 → (j < D ∨ D + 10 ≤ j) → M' j = M j) ∧ ((∃ l2, fa_it tx n p l = some l2 ∧ g_T_readItem M 1 D (nI p) = some (nI (fa_nx tx n p), M') ∧ fa_lc M' D l2) ∨ (fa_it tx n p l = none ∧ g_T_readItem M 1 D (nI p) = some (-4, M'))) := by
  have hc := fa_la_le T p
  have hm := fa_kb_le (fa_la tx n p)
  obtain ⟨M1, f0, f1, g⟩ := fa_nums_20 (D := D) (n := n) (m := fa_kb (fa_la tx n p)) (p0 := p + 1) (tx := tx) (a2 := nI p) (a3 := nI (fa_la tx n p)) hm (by omega) (fa_kb (fa_la tx n p)) 0 fx_FU M T (by omega) (by unfold fx_FU; omega)
  unfold g_T_readItem fa_it
  rw [fa_letter T (by omega), Option.bind_some, fa_behindN hc, Option.bind_some, nI_1]
  by_cases z : fa_nok tx n (fa_kb (fa_la tx n p)) (p + 1) = true
  · rw [if_pos (show (List.range' 0 (fa_kb (fa_la tx n p))).all (fa_nk tx n (fa_kb (fa_la tx n p)) (p + 1)) = true from z)] at g
    rw [if_pos z]
    obtain ⟨g1, g2⟩ := g
    have h1 : fa_lc M1 D l := h.go (fun j q1 q2 _ => f1 j (by omega))
    obtain ⟨M2, f2, q⟩ := fa_tki (M := M1) (D := D) (c := fa_la tx n p) (a := fa_nu tx n p 0) (b := fa_nu tx n p 1) (d := fa_nu tx n p 2) hl h1 hc (fun w => ⟨g1 0 (Nat.zero_le _) (by omega), fa_nu_le z (by omega)⟩) (fun w => ⟨g1 1 (Nat.zero_le _) (by omega), fa_nu_le z (by omega)⟩) (fun w => ⟨g1 2 (Nat.zero_le _) (by omega), fa_nu_le z (by omega)⟩)
    refine ⟨M2, fun j j1 j2 => by rw [f2 j j2, f1 j j1], ?_⟩
    rcases q with ⟨l2, a1, a2, a3⟩ | ⟨a1, a2⟩
    · refine Or.inl ⟨l2, a1, (g2 _).trans ?_, a3⟩
      rw [a2, Option.bind_some, if_neg fa_10]
      rfl
    · refine Or.inr ⟨a1, (g2 _).trans ?_⟩
      rw [a2, Option.bind_some, if_pos rfl]
  · rw [if_neg (show ¬ (List.range' 0 (fa_kb (fa_la tx n p))).all (fa_nk tx n (fa_kb (fa_la tx n p)) (p + 1)) = true from z)] at g
    rw [if_neg z]
    exact ⟨M1, fun j j1 _ => f1 j j1, Or.inr ⟨rfl, g _⟩⟩
