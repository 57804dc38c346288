/-! an item of the text, the reference's way: the five letters -/
theorem fa_snd (x : Int32) (M : fv_M) : (x, M).2 = M := rfl
def fa_res (M : fv_M) (tx : Nat → Nat) (n p c : Nat) (l : fa_L) (x : Option (Int32 × fv_M)) : Prop := ∃ M', fa_fr M M' ∧ ((∃ l2, fa_itc tx n p c l = some l2 ∧ x = some (1, M') ∧ fa_rm M' l2 ∧ M' 92 19 = nI (fa_st tx n (p + 1) (fa_kb c))) ∨ (fa_itc tx n p c l = none ∧ x = some (0, M')))
theorem fa_itc_no {tx : Nat → Nat} {n p c : Nat} {l : fa_L} (h : ∀ a b d, fa_ad c a b d l = none) : fa_itc tx n p c l = none := by
  unfold fa_itc
  by_cases z : fa_nok tx n (fa_kb c) (p + 1) = true
  · rw [if_pos z, h]
  · rw [if_neg z]
theorem fa_mrv {M : fv_M} {n p : Nat} {tx : Nat → Nat} {l : fa_L} (hl : fa_wl l) (h : fa_rm M l) (T : fa_tm M n tx) (hp : p ≤ 200) (h19 : M 92 19 = nI (p + 1)) : fa_res M tx n p 118 l (g_M_readVerbOf M 92) := by
  have h6 := hl.nv
  unfold g_M_readVerbOf
  rw [h.nv]
  by_cases c1 : l.nv < 6
  rotate_left
  · rw [if_pos (show nI l.nv = (6 : Int32) from (nI_eq (b := 6) (by omega) (by omega)).mpr (by omega))]
    exact ⟨M, fa_fr_rfl, Or.inr ⟨fa_itc_no (fun a b d => by rw [fa_ad_118, if_neg (fun z => c1 z.1)]), rfl⟩⟩
  rw [if_neg (show ¬ nI l.nv = (6 : Int32) from fun z => absurd ((nI_eq (b := 6) (by omega) (by omega)).mp z) (by omega))]
  obtain ⟨M1, f1, r1, q⟩ := fa_mnum (m := 2) (p := p + 1) h T (by omega) (by omega) h19
  rcases q with ⟨k, v, p19, e⟩ | ⟨k, e⟩
  rotate_left
  · rw [show g_M_readNumbers M 92 (2 : Int32) = some (0, M1) from e, Option.bind_some, if_pos rfl]
    exact ⟨M1, f1, Or.inr ⟨by unfold fa_itc; rw [if_neg (show ¬ fa_nok tx n (fa_kb 118) (p + 1) = true from k)], rfl⟩⟩
  rw [show g_M_readNumbers M 92 (2 : Int32) = some (1, M1) from e, Option.bind_some, if_neg fa_10]
  have ei : ∀ q, fa_ad 118 (fa_nu tx n p 0) (fa_nu tx n p 1) (fa_nu tx n p 2) l = q → fa_itc tx n p 118 l = q := fun q hq => by unfold fa_itc; rw [if_pos (show fa_nok tx n (fa_kb 118) (p + 1) = true from k)]; exact hq
  have v0 : M1 (92 + 12) 0 = nI (fa_nu tx n p 0) := v 0 (by omega)
  have v1 : M1 (92 + 12) 1 = nI (fa_nu tx n p 1) := v 1 (by omega)
  have u0 : fa_nu tx n p 0 ≤ 99 := fa_nu_le k (by omega)
  have u1 : fa_nu tx n p 1 ≤ 99 := fa_nu_le k (by omega)
  rw [fa_ad_118] at ei
  rw [fa_snd, show g_M_isTold M1 92 (0 : Int32) (0 : Int32) (3 : Int32) = _ from fa_mtd (k := 0) (lo := 0) (hi := 3) (by omega) v0 (by omega) (by omega) (by omega), Option.bind_some]
  by_cases c2 : fa_nu tx n p 0 ≤ 3
  rotate_left
  · rw [if_neg (show ¬ (0 ≤ fa_nu tx n p 0 ∧ fa_nu tx n p 0 ≤ 3) from fun z => c2 z.2), if_pos rfl]
    exact ⟨M1, f1, Or.inr ⟨ei none (by rw [if_neg (fun z => c2 z.2.1)]), rfl⟩⟩
  rw [if_pos (show 0 ≤ fa_nu tx n p 0 ∧ fa_nu tx n p 0 ≤ 3 from ⟨Nat.zero_le _, c2⟩), if_neg fa_10, show g_M_isTold M1 92 (1 : Int32) (0 : Int32) (9 : Int32) = _ from fa_mtd (k := 1) (lo := 0) (hi := 9) (by omega) v1 (by omega) (by omega) (by omega), Option.bind_some]
  by_cases c3 : fa_nu tx n p 1 ≤ 9
  rotate_left
  · rw [if_neg (show ¬ (0 ≤ fa_nu tx n p 1 ∧ fa_nu tx n p 1 ≤ 9) from fun z => c3 z.2), if_pos rfl]
    exact ⟨M1, f1, Or.inr ⟨ei none (by rw [if_neg (fun z => c3 z.2.2)]), rfl⟩⟩
  rw [if_pos (show 0 ≤ fa_nu tx n p 1 ∧ fa_nu tx n p 1 ≤ 9 from ⟨Nat.zero_le _, c3⟩), if_neg fa_10]
  obtain ⟨M2, e2, r2, f2, g2⟩ := fa_tV (a := fa_nu tx n p 0) (b := fa_nu tx n p 1) r1 c1
  rw [show M1 (92 + 12) ((0 : Int32)).toNatClampNeg = nI (fa_nu tx n p 0) from v0, show M1 (92 + 12) ((1 : Int32)).toNatClampNeg = nI (fa_nu tx n p 1) from v1, e2, Option.bind_some]
  exact ⟨M2, f1.trans ⟨fun j a b => f2 j a (by omega), fun g _ a _ _ _ => g2 g a⟩, Or.inl ⟨_, ei _ (if_pos ⟨c1, c2, c3⟩), rfl, r2, by rw [g2 19 (by omega)]; exact p19⟩⟩
theorem fa_mrn {M : fv_M} {n p : Nat} {tx : Nat → Nat} {l : fa_L} (hl : fa_wl l) (h : fa_rm M l) (T : fa_tm M n tx) (hp : p ≤ 200) (h19 : M 92 19 = nI (p + 1)) : fa_res M tx n p 110 l (g_M_readNounOf M 92) := by
  have h6 := hl.nn
  unfold g_M_readNounOf
  rw [h.nn]
  by_cases c1 : l.nn < 8
  rotate_left
  · rw [if_pos (show nI l.nn = (8 : Int32) from (nI_eq (b := 8) (by omega) (by omega)).mpr (by omega))]
    exact ⟨M, fa_fr_rfl, Or.inr ⟨fa_itc_no (fun a b d => by rw [fa_ad_110, if_neg (fun z => c1 z.1)]), rfl⟩⟩
  rw [if_neg (show ¬ nI l.nn = (8 : Int32) from fun z => absurd ((nI_eq (b := 8) (by omega) (by omega)).mp z) (by omega))]
  obtain ⟨M1, f1, r1, q⟩ := fa_mnum (m := 1) (p := p + 1) h T (by omega) (by omega) h19
  rcases q with ⟨k, v, p19, e⟩ | ⟨k, e⟩
  rotate_left
  · rw [show g_M_readNumbers M 92 (1 : Int32) = some (0, M1) from e, Option.bind_some, if_pos rfl]
    exact ⟨M1, f1, Or.inr ⟨by unfold fa_itc; rw [if_neg (show ¬ fa_nok tx n (fa_kb 110) (p + 1) = true from k)], rfl⟩⟩
  rw [show g_M_readNumbers M 92 (1 : Int32) = some (1, M1) from e, Option.bind_some, if_neg fa_10]
  have ei : ∀ q, fa_ad 110 (fa_nu tx n p 0) (fa_nu tx n p 1) (fa_nu tx n p 2) l = q → fa_itc tx n p 110 l = q := fun q hq => by unfold fa_itc; rw [if_pos (show fa_nok tx n (fa_kb 110) (p + 1) = true from k)]; exact hq
  have v0 : M1 (92 + 12) 0 = nI (fa_nu tx n p 0) := v 0 (by omega)
  have u0 : fa_nu tx n p 0 ≤ 99 := fa_nu_le k (by omega)
  rw [fa_ad_110] at ei
  rw [fa_snd, show g_M_isTold M1 92 (0 : Int32) (1 : Int32) (63 : Int32) = _ from fa_mtd (k := 0) (lo := 1) (hi := 63) (by omega) v0 (by omega) (by omega) (by omega), Option.bind_some]
  by_cases c2 : 1 ≤ fa_nu tx n p 0 ∧ fa_nu tx n p 0 ≤ 63
  rotate_left
  · rw [if_neg c2, if_pos rfl]
    exact ⟨M1, f1, Or.inr ⟨ei none (by rw [if_neg (fun z => c2 z.2)]), rfl⟩⟩
  rw [if_pos c2, if_neg fa_10, r1.nn, nI_clamp (by omega), fa_ckn (by omega) (by omega), fa_rr _ _ _ _ (by omega), r1.nn, show M1 (92 + 12) ((0 : Int32)).toNatClampNeg = nI (fa_nu tx n p 0) from v0, nI_1]
  exact ⟨_, f1.trans ⟨fun j a b => by rw [fv_set_ne _ _ _ _ j a, fv_set_ne _ _ _ _ j (by omega)], fun g _ _ a _ _ => by rw [fv_set_at, fa_upd_ne _ _ a, fa_rr _ _ _ _ (by omega)]⟩, Or.inl ⟨_, ei _ (if_pos ⟨c1, c2⟩), rfl, fa_tN r1, by rw [fv_set_at, fa_upd_ne _ _ (by omega), fa_rr _ _ _ _ (by omega)]; exact p19⟩⟩
theorem fa_mrt {M : fv_M} {n p : Nat} {tx : Nat → Nat} {l : fa_L} (hl : fa_wl l) (h : fa_rm M l) (T : fa_tm M n tx) (hp : p ≤ 200) (h19 : M 92 19 = nI (p + 1)) : fa_res M tx n p 116 l (g_M_readVillageOf M 92) := by
  have h6 := hl.nt
  unfold g_M_readVillageOf
  rw [h.nt]
  by_cases c1 : l.nt < 4
  rotate_left
  · rw [if_pos (show nI l.nt = (4 : Int32) from (nI_eq (b := 4) (by omega) (by omega)).mpr (by omega))]
    exact ⟨M, fa_fr_rfl, Or.inr ⟨fa_itc_no (fun a b d => by rw [fa_ad_116, if_neg (fun z => c1 z.1)]), rfl⟩⟩
  rw [if_neg (show ¬ nI l.nt = (4 : Int32) from fun z => absurd ((nI_eq (b := 4) (by omega) (by omega)).mp z) (by omega))]
  obtain ⟨M1, f1, r1, q⟩ := fa_mnum (m := 1) (p := p + 1) h T (by omega) (by omega) h19
  rcases q with ⟨k, v, p19, e⟩ | ⟨k, e⟩
  rotate_left
  · rw [show g_M_readNumbers M 92 (1 : Int32) = some (0, M1) from e, Option.bind_some, if_pos rfl]
    exact ⟨M1, f1, Or.inr ⟨by unfold fa_itc; rw [if_neg (show ¬ fa_nok tx n (fa_kb 116) (p + 1) = true from k)], rfl⟩⟩
  rw [show g_M_readNumbers M 92 (1 : Int32) = some (1, M1) from e, Option.bind_some, if_neg fa_10]
  have ei : ∀ q, fa_ad 116 (fa_nu tx n p 0) (fa_nu tx n p 1) (fa_nu tx n p 2) l = q → fa_itc tx n p 116 l = q := fun q hq => by unfold fa_itc; rw [if_pos (show fa_nok tx n (fa_kb 116) (p + 1) = true from k)]; exact hq
  have v0 : M1 (92 + 12) 0 = nI (fa_nu tx n p 0) := v 0 (by omega)
  have u0 : fa_nu tx n p 0 ≤ 99 := fa_nu_le k (by omega)
  rw [fa_ad_116] at ei
  rw [fa_snd, show g_M_isTold M1 92 (0 : Int32) (0 : Int32) (63 : Int32) = _ from fa_mtd (k := 0) (lo := 0) (hi := 63) (by omega) v0 (by omega) (by omega) (by omega), Option.bind_some]
  by_cases c2 : fa_nu tx n p 0 ≤ 63
  rotate_left
  · rw [if_neg (show ¬ (0 ≤ fa_nu tx n p 0 ∧ fa_nu tx n p 0 ≤ 63) from fun z => c2 z.2), if_pos rfl]
    exact ⟨M1, f1, Or.inr ⟨ei none (by rw [if_neg (fun z => c2 z.2)]), rfl⟩⟩
  rw [if_pos (show 0 ≤ fa_nu tx n p 0 ∧ fa_nu tx n p 0 ≤ 63 from ⟨Nat.zero_le _, c2⟩), if_neg fa_10, r1.nt, nI_clamp (by omega), fa_ckn (by omega) (by omega), fa_rr _ _ _ _ (by omega), r1.nt, show M1 (92 + 12) ((0 : Int32)).toNatClampNeg = nI (fa_nu tx n p 0) from v0, nI_1]
  exact ⟨_, f1.trans ⟨fun j a b => by rw [fv_set_ne _ _ _ _ j a, fv_set_ne _ _ _ _ j (by omega)], fun g _ _ _ a _ => by rw [fv_set_at, fa_upd_ne _ _ a, fa_rr _ _ _ _ (by omega)]⟩, Or.inl ⟨_, ei _ (if_pos ⟨c1, c2⟩), rfl, fa_tT r1, by rw [fv_set_at, fa_upd_ne _ _ (by omega), fa_rr _ _ _ _ (by omega)]; exact p19⟩⟩
theorem fa_mrs {M : fv_M} {n p : Nat} {tx : Nat → Nat} {l : fa_L} (hl : fa_wl l) (h : fa_rm M l) (T : fa_tm M n tx) (hp : p ≤ 200) (h19 : M 92 19 = nI (p + 1)) : fa_res M tx n p 115 l (g_M_readStockOf M 92) := by
  have h4 := hl.nt
  have h6 := hl.nv
  unfold g_M_readStockOf
  obtain ⟨M1, f1, r1, q⟩ := fa_mnum (m := 3) (p := p + 1) h T (by omega) (by omega) h19
  rcases q with ⟨k, v, p19, e⟩ | ⟨k, e⟩
  rotate_left
  · rw [show g_M_readNumbers M 92 (3 : Int32) = some (0, M1) from e, Option.bind_some, if_pos rfl]
    exact ⟨M1, f1, Or.inr ⟨by unfold fa_itc; rw [if_neg (show ¬ fa_nok tx n (fa_kb 115) (p + 1) = true from k)], rfl⟩⟩
  rw [show g_M_readNumbers M 92 (3 : Int32) = some (1, M1) from e, Option.bind_some, if_neg fa_10]
  have ei : ∀ q, fa_ad 115 (fa_nu tx n p 0) (fa_nu tx n p 1) (fa_nu tx n p 2) l = q → fa_itc tx n p 115 l = q := fun q hq => by unfold fa_itc; rw [if_pos (show fa_nok tx n (fa_kb 115) (p + 1) = true from k)]; exact hq
  have v0 : M1 (92 + 12) 0 = nI (fa_nu tx n p 0) := v 0 (by omega)
  have v1 : M1 (92 + 12) 1 = nI (fa_nu tx n p 1) := v 1 (by omega)
  have v2 : M1 (92 + 12) 2 = nI (fa_nu tx n p 2) := v 2 (by omega)
  have u0 : fa_nu tx n p 0 ≤ 99 := fa_nu_le k (by omega)
  have u1 : fa_nu tx n p 1 ≤ 99 := fa_nu_le k (by omega)
  have u2 : fa_nu tx n p 2 ≤ 99 := fa_nu_le k (by omega)
  rw [fa_ad_115] at ei
  rw [fa_snd, fa_mtv hl r1 v0 (by omega) v1 (by omega), Option.bind_some]
  by_cases c1 : fa_nu tx n p 0 < l.nt ∧ fa_nu tx n p 1 < l.nv
  rotate_left
  · rw [if_neg c1, if_pos rfl]
    exact ⟨M1, f1, Or.inr ⟨ei none (by rw [if_neg (fun z => c1 z.1)]), rfl⟩⟩
  rw [if_pos c1, if_neg fa_10, show g_M_isTold M1 92 (2 : Int32) (0 : Int32) (30 : Int32) = _ from fa_mtd (k := 2) (lo := 0) (hi := 30) (by omega) v2 (by omega) (by omega) (by omega), Option.bind_some]
  by_cases c2 : fa_nu tx n p 2 ≤ 30
  rotate_left
  · rw [if_neg (show ¬ (0 ≤ fa_nu tx n p 2 ∧ fa_nu tx n p 2 ≤ 30) from fun z => c2 z.2), if_pos rfl]
    exact ⟨M1, f1, Or.inr ⟨ei none (by rw [if_neg (fun z => c2 z.2)]), rfl⟩⟩
  rw [if_pos (show 0 ≤ fa_nu tx n p 2 ∧ fa_nu tx n p 2 ≤ 30 from ⟨Nat.zero_le _, c2⟩), if_neg fa_10, show M1 (92 + 12) ((0 : Int32)).toNatClampNeg = nI (fa_nu tx n p 0) from v0, show M1 (92 + 12) ((1 : Int32)).toNatClampNeg = nI (fa_nu tx n p 1) from v1, show M1 (92 + 12) ((2 : Int32)).toNatClampNeg = nI (fa_nu tx n p 2) from v2, show (6 : Int32) * nI (fa_nu tx n p 0) = nI (6 * fa_nu tx n p 0) from fa_mul 6 _, nI_add, nI_clamp (by omega), fa_ckn (by omega) (by omega)]
  exact ⟨_, f1.trans ⟨fun j a b => by rw [fv_set_ne _ _ _ _ j (by omega)], fun g _ _ _ a _ => by rw [fa_rr _ _ _ _ (by omega)]⟩, Or.inl ⟨_, ei _ (if_pos ⟨c1, c2⟩), rfl, fa_tS r1 rfl (by omega), by rw [fa_rr _ _ _ _ (by omega)]; exact p19⟩⟩
theorem fa_mrw {M : fv_M} {n p : Nat} {tx : Nat → Nat} {l : fa_L} (hl : fa_wl l) (h : fa_rm M l) (T : fa_tm M n tx) (hp : p ≤ 200) (h19 : M 92 19 = nI (p + 1)) : fa_res M tx n p 119 l (g_M_readWorkOf M 92) := by
  have h6 := hl.nw
  unfold g_M_readWorkOf
  rw [h.nw]
  by_cases c0 : l.nw < 8
  rotate_left
  · rw [if_pos (show nI l.nw = (8 : Int32) from (nI_eq (b := 8) (by omega) (by omega)).mpr (by omega))]
    exact ⟨M, fa_fr_rfl, Or.inr ⟨fa_itc_no (fun a b d => by rw [fa_ad_119, if_neg (fun z => c0 z.1)]), rfl⟩⟩
  rw [if_neg (show ¬ nI l.nw = (8 : Int32) from fun z => absurd ((nI_eq (b := 8) (by omega) (by omega)).mp z) (by omega))]
  obtain ⟨M1, f1, r1, q⟩ := fa_mnum (m := 3) (p := p + 1) h T (by omega) (by omega) h19
  rcases q with ⟨k, v, p19, e⟩ | ⟨k, e⟩
  rotate_left
  · rw [show g_M_readNumbers M 92 (3 : Int32) = some (0, M1) from e, Option.bind_some, if_pos rfl]
    exact ⟨M1, f1, Or.inr ⟨by unfold fa_itc; rw [if_neg (show ¬ fa_nok tx n (fa_kb 119) (p + 1) = true from k)], rfl⟩⟩
  rw [show g_M_readNumbers M 92 (3 : Int32) = some (1, M1) from e, Option.bind_some, if_neg fa_10]
  have ei : ∀ q, fa_ad 119 (fa_nu tx n p 0) (fa_nu tx n p 1) (fa_nu tx n p 2) l = q → fa_itc tx n p 119 l = q := fun q hq => by unfold fa_itc; rw [if_pos (show fa_nok tx n (fa_kb 119) (p + 1) = true from k)]; exact hq
  have v0 : M1 (92 + 12) 0 = nI (fa_nu tx n p 0) := v 0 (by omega)
  have v1 : M1 (92 + 12) 1 = nI (fa_nu tx n p 1) := v 1 (by omega)
  have v2 : M1 (92 + 12) 2 = nI (fa_nu tx n p 2) := v 2 (by omega)
  have u0 : fa_nu tx n p 0 ≤ 99 := fa_nu_le k (by omega)
  have u1 : fa_nu tx n p 1 ≤ 99 := fa_nu_le k (by omega)
  have u2 : fa_nu tx n p 2 ≤ 99 := fa_nu_le k (by omega)
  rw [fa_ad_119] at ei
  rw [fa_snd, fa_mtv hl r1 v0 (by omega) v1 (by omega), Option.bind_some]
  by_cases c1 : fa_nu tx n p 0 < l.nt ∧ fa_nu tx n p 1 < l.nv
  rotate_left
  · rw [if_neg c1, if_pos rfl]
    exact ⟨M1, f1, Or.inr ⟨ei none (by rw [if_neg (fun z => c1 z.2.1)]), rfl⟩⟩
  rw [if_pos c1, if_neg fa_10, show g_M_isTold M1 92 (2 : Int32) (1 : Int32) (9 : Int32) = _ from fa_mtd (k := 2) (lo := 1) (hi := 9) (by omega) v2 (by omega) (by omega) (by omega), Option.bind_some]
  by_cases c2 : 1 ≤ fa_nu tx n p 2 ∧ fa_nu tx n p 2 ≤ 9
  rotate_left
  · rw [if_neg c2, if_pos rfl]
    exact ⟨M1, f1, Or.inr ⟨ei none (by rw [if_neg (fun z => c2 z.2.2)]), rfl⟩⟩
  obtain ⟨M2, e2, r2, f2, g2⟩ := fa_tW (a := fa_nu tx n p 0) (b := fa_nu tx n p 1) (d := fa_nu tx n p 2) r1 c0
  rw [if_pos c2, if_neg fa_10, show M1 (92 + 12) ((0 : Int32)).toNatClampNeg = nI (fa_nu tx n p 0) from v0, show M1 (92 + 12) ((1 : Int32)).toNatClampNeg = nI (fa_nu tx n p 1) from v1, show M1 (92 + 12) ((2 : Int32)).toNatClampNeg = nI (fa_nu tx n p 2) from v2, e2, Option.bind_some]
  exact ⟨M2, f1.trans ⟨fun j a b => f2 j a (by omega), fun g _ _ _ _ a => g2 g a⟩, Or.inl ⟨_, ei _ (if_pos ⟨c0, c1, c2⟩), rfl, r2, by rw [g2 19 (by omega)]; exact p19⟩⟩
theorem fa_res.ck {M M0 : fv_M} {tx : Nat → Nat} {n p c : Nat} {l : fa_L} {x : Option (Int32 × fv_M)} (f : fa_fr M0 M) (h : fa_res M tx n p c l x) : fa_res M0 tx n p c l (x.bind fun q => fx_ck (¬ (q.1 = 0 ∨ q.1 = 1)) (some (q.1, q.2))) := by
  obtain ⟨M', f1, h⟩ := h
  refine ⟨M', f.trans f1, ?_⟩
  rcases h with ⟨l2, a, b, r⟩ | ⟨a, b⟩
  · exact Or.inl ⟨l2, a, by rw [b, Option.bind_some]; exact fa_ck (fun z => z (Or.inr rfl)), r⟩
  · exact Or.inr ⟨a, by rw [b, Option.bind_some]; exact fa_ck (fun z => z (Or.inl rfl))⟩
theorem fa_mitem {M : fv_M} {n p : Nat} {tx : Nat → Nat} {l : fa_L} (hl : fa_wl l) (h : fa_rm M l) (T : fa_tm M n tx) (hp : p ≤ 200) (h19 : M 92 19 = nI p) : fa_res M tx n p (fa_la tx n p) l (g_M_readItem M 92) := by
  have e : ∀ c, 0 < c → c ≤ 126 → ((fa_li tx n p = nI c) ↔ fa_la tx n p = c) := fun c h1 h2 => fa_li_eq T.lt h1 h2
  obtain ⟨M1, eM⟩ : ∃ M1, M1 = fv_set M 92 19 (nI (p + 1)) := ⟨_, rfl⟩
  have f1 : fa_fr M M1 := ⟨fun j a _ => by rw [eM, fv_set_ne _ _ _ _ j a], fun g a _ _ _ _ => by rw [eM, fv_set_at, fa_upd_ne _ _ a]⟩
  have T1 : fa_tm M1 n tx := f1.tm T
  have r1 : fa_rm M1 l := h.go (fun g hg => by rw [eM, fv_set_at, fa_upd_ne _ _ (by omega)]) (fun j a b => by rw [eM, fv_set_ne _ _ _ _ j (by omega)])
  have p1 : M1 92 19 = nI (p + 1) := by rw [eM, fv_set_at, fa_upd_same]
  unfold g_M_readItem
  rw [h19, fa_mlet T (by omega), Option.bind_some, nI_1, ← eM]
  by_cases c1 : fa_la tx n p = 110
  · rw [if_pos (show fa_li tx n p = (110 : Int32) from (e 110 (by omega) (by omega)).mpr c1), c1]
    exact (fa_mrn hl r1 T1 hp p1).ck f1
  rw [if_neg (show ¬ fa_li tx n p = (110 : Int32) from fun z => c1 ((e 110 (by omega) (by omega)).mp z))]
  by_cases c2 : fa_la tx n p = 115
  · rw [if_pos (show fa_li tx n p = (115 : Int32) from (e 115 (by omega) (by omega)).mpr c2), c2]
    exact (fa_mrs hl r1 T1 hp p1).ck f1
  rw [if_neg (show ¬ fa_li tx n p = (115 : Int32) from fun z => c2 ((e 115 (by omega) (by omega)).mp z))]
  by_cases c3 : fa_la tx n p = 116
  · rw [if_pos (show fa_li tx n p = (116 : Int32) from (e 116 (by omega) (by omega)).mpr c3), c3]
    exact (fa_mrt hl r1 T1 hp p1).ck f1
  rw [if_neg (show ¬ fa_li tx n p = (116 : Int32) from fun z => c3 ((e 116 (by omega) (by omega)).mp z))]
  by_cases c4 : fa_la tx n p = 118
  · rw [if_pos (show fa_li tx n p = (118 : Int32) from (e 118 (by omega) (by omega)).mpr c4), c4]
    exact (fa_mrv hl r1 T1 hp p1).ck f1
  rw [if_neg (show ¬ fa_li tx n p = (118 : Int32) from fun z => c4 ((e 118 (by omega) (by omega)).mp z))]
  by_cases c5 : fa_la tx n p = 119
  · rw [if_pos (show fa_li tx n p = (119 : Int32) from (e 119 (by omega) (by omega)).mpr c5), c5]
    exact (fa_mrw hl r1 T1 hp p1).ck f1
  rw [if_neg (show ¬ fa_li tx n p = (119 : Int32) from fun z => c5 ((e 119 (by omega) (by omega)).mp z))]
  refine ⟨M1, f1, Or.inr ⟨fa_itc_no (fun a b d => ?_), rfl⟩⟩
  unfold fa_ad
  rw [if_neg c1, if_neg c2, if_neg c3, if_neg c4, if_neg c5]
