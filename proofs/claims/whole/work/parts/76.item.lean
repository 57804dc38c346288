/-! an item of the text, the reference's way -/
def fa_itc (tx : Nat → Nat) (n p c : Nat) (l : fa_L) : Option fa_L :=
  if fa_nok tx n (fa_kb c) (p + 1) = true then fa_ad c (fa_nu tx n p 0) (fa_nu tx n p 1) (fa_nu tx n p 2) l else none
theorem fa_ad_110 {a b d : Nat} {l : fa_L} : fa_ad 110 a b d l = if l.nn < 8 ∧ 1 ≤ a ∧ a ≤ 63 then some (fa_aN l a) else none := by
  unfold fa_ad; rw [if_pos rfl]
theorem fa_ad_115 {a b d : Nat} {l : fa_L} : fa_ad 115 a b d l = if (a < l.nt ∧ b < l.nv) ∧ d ≤ 30 then some (fa_aS l a b d) else none := by
  unfold fa_ad; rw [if_neg (by decide), if_pos rfl]
theorem fa_ad_116 {a b d : Nat} {l : fa_L} : fa_ad 116 a b d l = if l.nt < 4 ∧ a ≤ 63 then some (fa_aT l a) else none := by
  unfold fa_ad; rw [if_neg (by decide), if_neg (by decide), if_pos rfl]
theorem fa_ad_118 {a b d : Nat} {l : fa_L} : fa_ad 118 a b d l = if l.nv < 6 ∧ a ≤ 3 ∧ b ≤ 9 then some (fa_aV l a b) else none := by
  unfold fa_ad; rw [if_neg (by decide), if_neg (by decide), if_neg (by decide), if_pos rfl]
theorem fa_ad_119 {a b d : Nat} {l : fa_L} : fa_ad 119 a b d l = if l.nw < 8 ∧ (a < l.nt ∧ b < l.nv) ∧ 1 ≤ d ∧ d ≤ 9 then some (fa_aW l a b d) else none := by
  unfold fa_ad; rw [if_neg (by decide), if_neg (by decide), if_neg (by decide), if_neg (by decide), if_pos rfl]
def fa_fr (M M' : fv_M) : Prop := (∀ j, j ≠ 92 → (j < 104 ∨ 110 ≤ j) → M' j = M j) ∧ ∀ g, g ≠ 19 → g ≠ 21 → g ≠ 23 → g ≠ 25 → g ≠ 27 → M' 92 g = M 92 g
theorem fa_fr_rfl {M : fv_M} : fa_fr M M := ⟨fun _ _ _ => rfl, fun _ _ _ _ _ _ => rfl⟩
theorem fa_fr.trans {M M1 M2 : fv_M} (h : fa_fr M M1) (k : fa_fr M1 M2) : fa_fr M M2 :=
  ⟨fun j a b => by rw [k.1 j a b, h.1 j a b], fun g a b c d e => by rw [k.2 g a b c d e, h.2 g a b c d e]⟩
theorem fa_fr.tm {M M' : fv_M} {n : Nat} {tx : Nat → Nat} (h : fa_fr M M') (T : fa_tm M n tx) : fa_tm M' n tx :=
  ⟨T.n2, by rw [h.2 18 (by omega) (by omega) (by omega) (by omega) (by omega)]; exact T.mn, fun i hi => by rw [h.1 (92 + 11) (by omega) (by omega)]; exact T.ml i hi, T.lt⟩
theorem fa_rm.go {M M' : fv_M} {l : fa_L} (h : fa_rm M l) (hg : ∀ g, (g = 21 ∨ g = 23 ∨ g = 25 ∨ g = 27) → M' 92 g = M 92 g) (hj : ∀ j, 105 ≤ j → j < 110 → M' j = M j) : fa_rm M' l :=
  ⟨by rw [hg 21 (by omega)]; exact h.nv, by rw [hg 23 (by omega)]; exact h.nn, by rw [hg 25 (by omega)]; exact h.nt, by rw [hg 27 (by omega)]; exact h.nw,
   fun v hv => by rw [hj (92 + 13) (by omega) (by omega)]; exact h.kd v hv, fun v hv => by rw [hj (92 + 13) (by omega) (by omega)]; exact h.cr v hv,
   fun v hv => by rw [hj (92 + 14) (by omega) (by omega)]; exact h.mi v hv, fun v hv => by rw [hj (92 + 15) (by omega) (by omega)]; exact h.ow v hv,
   fun v hv => by rw [hj (92 + 16) (by omega) (by omega)]; exact h.wt v hv, fun v hv => by rw [hj (92 + 16) (by omega) (by omega)]; exact h.wv v hv, fun v hv => by rw [hj (92 + 16) (by omega) (by omega)]; exact h.ww v hv,
   fun v hv => by rw [hj (92 + 17) (by omega) (by omega)]; exact h.rd v hv⟩
theorem fa_mnum {M : fv_M} {n m p : Nat} {tx : Nat → Nat} {l : fa_L} (h : fa_rm M l) (T : fa_tm M n tx) (hm : m ≤ 3) (hp : p ≤ 300) (h19 : M 92 19 = nI p) :
    ∃ M', fa_fr M M' ∧ fa_rm M' l ∧ ((fa_nok tx n m p = true ∧ (∀ i, i < m → M' (92 + 12) i = nI (fa_nv tx n (fa_st tx n p i))) ∧ M' 92 19 = nI (fa_st tx n p m) ∧ g_M_readNumbers M 92 (nI m) = some (1, M')) ∨ (¬ fa_nok tx n m p = true ∧ g_M_readNumbers M 92 (nI m) = some (0, M'))) := by
  obtain ⟨M1, _, f1, f2, g⟩ := fa_mnums (n := n) (m := m) (p0 := p) (tx := tx) hm hp m 0 fx_FU M T h19 (by omega) (by unfold fx_FU; omega)
  refine ⟨M1, ⟨fun j a b => f1 j a (by omega), fun k a _ _ _ _ => f2 k a⟩, h.go (fun k hk => f2 k (by omega)) (fun j a b => f1 j (by omega) (by omega)), ?_⟩
  by_cases z : fa_nok tx n m p = true
  · rw [if_pos (show (List.range' 0 m).all (fa_nk tx n m p) = true from z)] at g
    exact Or.inl ⟨z, fun i hi => g.1 i (Nat.zero_le _) hi, g.2.1, by unfold g_M_readNumbers; exact g.2.2 _⟩
  · rw [if_neg (show ¬ (List.range' 0 m).all (fa_nk tx n m p) = true from z)] at g
    exact Or.inr ⟨z, by unfold g_M_readNumbers; exact g _⟩
theorem fa_mtd {M : fv_M} {k a lo hi : Nat} (hk : k < 3) (ha : M (92 + 12) k = nI a) (ha2 : a ≤ 1000) (h1 : lo ≤ 1000) (h2 : hi ≤ 1000) : g_M_isTold M 92 (nI k) (nI lo) (nI hi) = some (if lo ≤ a ∧ a ≤ hi then (1 : Int32) else 0) := by
  unfold g_M_isTold
  rw [fa_cki (by omega) (by omega), nI_clamp (by omega), fa_mi, Option.bind_some, fa_ckp, ha]
  have e : (nI lo ≤ nI a ∧ nI a ≤ nI hi) ↔ (lo ≤ a ∧ a ≤ hi) := by rw [nI_leI (by omega) (by omega), nI_leI (by omega) (by omega)]
  by_cases z : lo ≤ a ∧ a ≤ hi
  · rw [if_pos (e.mpr z), if_pos z]
  · rw [if_neg (fun y => z (e.mp y)), if_neg z]
theorem fa_mtn {M : fv_M} {k a n : Nat} (hk : k < 3) (ha : M (92 + 12) k = nI a) (ha2 : a ≤ 1000) (h2 : n ≤ 1000) : g_M_isTold M 92 (nI k) (0 : Int32) (nI n - (1 : Int32)) = some (if a < n then (1 : Int32) else 0) := by
  unfold g_M_isTold
  rw [fa_cki (by omega) (by omega), nI_clamp (by omega), fa_mi, Option.bind_some, fa_ckp, ha]
  have e : ((0 : Int32) ≤ nI a ∧ nI a ≤ nI n - (1 : Int32)) ↔ a < n := by
    constructor
    · intro z
      obtain ⟨i, hi, ei⟩ := fa_idx h2 z
      have := (nI_eq (by omega) (by omega)).mp ei
      omega
    · intro z
      exact ⟨nI_pos' (by omega), by rw [show nI n - (1 : Int32) = nI (n - 1) from fa_sub (a := n) (b := 1) (by omega)]; exact nI_le (by omega) (by omega)⟩
  by_cases z : a < n
  · rw [if_pos (e.mpr z), if_pos z]
  · rw [if_neg (fun y => z (e.mp y)), if_neg z]
theorem fa_mtv {M : fv_M} {a b : Nat} {l : fa_L} (hl : fa_wl l) (h : fa_rm M l) (ha : M (92 + 12) 0 = nI a) (ha2 : a ≤ 1000) (hb : M (92 + 12) 1 = nI b) (hb2 : b ≤ 1000) : g_M_isToldVillage M 92 = some (if a < l.nt ∧ b < l.nv then (1 : Int32) else 0) := by
  have h1 := hl.nt
  have h2 := hl.nv
  unfold g_M_isToldVillage
  rw [h.nt, h.nv, show g_M_isTold M 92 (0 : Int32) (0 : Int32) (nI l.nt - (1 : Int32)) = _ from fa_mtn (k := 0) (by omega) ha ha2 (by omega), Option.bind_some, show g_M_isTold M 92 (1 : Int32) (0 : Int32) (nI l.nv - (1 : Int32)) = _ from fa_mtn (k := 1) (by omega) hb hb2 (by omega)]
  by_cases z : a < l.nt
  · rw [if_pos z, if_neg fa_10, Option.bind_some]
    by_cases y : b < l.nv
    · rw [if_pos y, if_neg fa_10, if_pos ⟨z, y⟩]
    · rw [if_neg y, if_pos rfl, if_neg (fun x => y x.2)]
  · rw [if_neg z, if_pos rfl, if_neg (fun x => z x.1)]
theorem fa_u2 {f : Nat → Int32} {g : Nat → Nat} {n a o : Nat} (h : ∀ v, v < n → f (2 * v + o) = nI (g v)) : ∀ v, v < n + 1 → upd f (2 * n + o) (nI a) (2 * v + o) = nI (fa_ap g n a v) := by
  intro v hv
  unfold fa_ap
  by_cases e : v = n
  · rw [e, fa_upd_same, if_pos rfl]
  · rw [fa_upd_ne _ _ (by omega), if_neg e]; exact h v (by omega)
theorem fa_u3 {f : Nat → Int32} {g : Nat → Nat} {n a o : Nat} (h : ∀ v, v < n → f (3 * v + o) = nI (g v)) : ∀ v, v < n + 1 → upd f (3 * n + o) (nI a) (3 * v + o) = nI (fa_ap g n a v) := by
  intro v hv
  unfold fa_ap
  by_cases e : v = n
  · rw [e, fa_upd_same, if_pos rfl]
  · rw [fa_upd_ne _ _ (by omega), if_neg e]; exact h v (by omega)
theorem fa_rr (M : fv_M) (c k : Nat) (x : Int32) (hc : c ≠ 92) : (fv_set M c k x) 92 = M 92 := fv_set_ne _ _ _ _ _ (by omega)
theorem fa_tV {M : fv_M} {a b : Nat} {l : fa_L} (h : fa_rm M l) (c1 : l.nv < 6) : ∃ M', g_M_tellsVerb M 92 (nI a) (nI b) = some M' ∧ fa_rm M' (fa_aV l a b) ∧ (∀ j, j ≠ 92 → j ≠ 92 + 13 → M' j = M j) ∧ ∀ g, g ≠ 21 → M' 92 g = M 92 g := by
  have e1 : ((2 : Int32) * nI l.nv) = nI (2 * l.nv) := fa_mul 2 l.nv
  refine ⟨fv_set (fv_set (fv_set M (92 + 13) (2 * l.nv) (nI a)) (92 + 13) (2 * l.nv + 1) (nI b)) 92 21 (nI (l.nv + 1)), ?_, ?_, fun j j1 j2 => by rw [fv_set_ne _ _ _ _ j j1, fv_set_ne _ _ _ _ j j2, fv_set_ne _ _ _ _ j j2], fun g hg => by rw [fv_set_at, fa_upd_ne _ _ hg, fa_rr _ _ _ _ (by omega), fa_rr _ _ _ _ (by omega)]⟩
  · unfold g_M_tellsVerb
    rw [fa_rr _ _ _ _ (by omega), fa_rr _ _ _ _ (by omega), fa_rr _ _ _ _ (by omega), h.nv, e1, fa_cki (by omega) (by omega), nI_1, fa_cki (by omega) (by omega), nI_clamp (by omega), nI_clamp (by omega), nI_1]
  · have hr : ∀ j, j ≠ 92 → j ≠ 92 + 13 → (fv_set (fv_set (fv_set M (92 + 13) (2 * l.nv) (nI a)) (92 + 13) (2 * l.nv + 1) (nI b)) 92 21 (nI (l.nv + 1))) j = M j := fun j j1 j2 => by rw [fv_set_ne _ _ _ _ j j1, fv_set_ne _ _ _ _ j j2, fv_set_ne _ _ _ _ j j2]
    have h0 : ∀ k, k ≠ 21 → (fv_set (fv_set (fv_set M (92 + 13) (2 * l.nv) (nI a)) (92 + 13) (2 * l.nv + 1) (nI b)) 92 21 (nI (l.nv + 1))) 92 k = M 92 k := fun k hk => by rw [fv_set_at, fa_upd_ne _ _ hk, fa_rr _ _ _ _ (by omega), fa_rr _ _ _ _ (by omega)]
    refine ⟨by rw [fv_set_at, fa_upd_same]; rfl, by rw [h0 23 (by omega)]; exact h.nn, by rw [h0 25 (by omega)]; exact h.nt, by rw [h0 27 (by omega)]; exact h.nw, fun v hv => ?_, fun v hv => ?_, fun v hv => by rw [hr _ (by omega) (by omega)]; exact h.mi v hv, fun v hv => by rw [hr _ (by omega) (by omega)]; exact h.ow v hv, fun v hv => by rw [hr _ (by omega) (by omega)]; exact h.wt v hv, fun v hv => by rw [hr _ (by omega) (by omega)]; exact h.wv v hv, fun v hv => by rw [hr _ (by omega) (by omega)]; exact h.ww v hv, fun v hv => by rw [hr _ (by omega) (by omega)]; exact h.rd v hv⟩
    · rw [fv_set_ne _ _ _ _ (92 + 13) (by omega), fv_set_at, fa_upd_ne _ _ (by omega), fv_set_at]
      exact fa_u2 (o := 0) h.kd v hv
    · rw [fv_set_ne _ _ _ _ (92 + 13) (by omega), fv_set_at]
      refine fa_u2 (o := 1) (f := (fv_set M (92 + 13) (2 * l.nv) (nI a)) (92 + 13)) (fun v hv => ?_) v hv
      rw [fv_set_at, fa_upd_ne _ _ (by omega)]
      exact h.cr v hv
theorem fa_tW {M : fv_M} {a b d : Nat} {l : fa_L} (h : fa_rm M l) (c1 : l.nw < 8) : ∃ M', g_M_tellsWork M 92 (nI a) (nI b) (nI d) = some M' ∧ fa_rm M' (fa_aW l a b d) ∧ (∀ j, j ≠ 92 → j ≠ 92 + 16 → M' j = M j) ∧ ∀ g, g ≠ 27 → M' 92 g = M 92 g := by
  have e1 : ((3 : Int32) * nI l.nw) = nI (3 * l.nw) := fa_mul 3 l.nw
  have e2 : nI (3 * l.nw) + (2 : Int32) = nI (3 * l.nw + 2) := nI_add (3 * l.nw) 2
  obtain ⟨MA, eA⟩ : ∃ MA, MA = fv_set M (92 + 16) (3 * l.nw) (nI a) := ⟨_, rfl⟩
  obtain ⟨MB, eB⟩ : ∃ MB, MB = fv_set MA (92 + 16) (3 * l.nw + 1) (nI b) := ⟨_, rfl⟩
  obtain ⟨MC, eC⟩ : ∃ MC, MC = fv_set MB (92 + 16) (3 * l.nw + 2) (nI d) := ⟨_, rfl⟩
  have rA : MA 92 = M 92 := by rw [eA, fa_rr _ _ _ _ (by omega)]
  have rB : MB 92 = M 92 := by rw [eB, fa_rr _ _ _ _ (by omega), rA]
  have rC : MC 92 = M 92 := by rw [eC, fa_rr _ _ _ _ (by omega), rB]
  have rj : ∀ j, j ≠ 92 + 16 → MC j = M j := fun j hj => by rw [eC, fv_set_ne _ _ _ _ j hj, eB, fv_set_ne _ _ _ _ j hj, eA, fv_set_ne _ _ _ _ j hj]
  have hr : ∀ j, j ≠ 92 → j ≠ 92 + 16 → (fv_set MC 92 27 (nI (l.nw + 1))) j = M j := fun j j1 j2 => by rw [fv_set_ne _ _ _ _ j j1, rj j j2]
  have h0 : ∀ k, k ≠ 27 → (fv_set MC 92 27 (nI (l.nw + 1))) 92 k = M 92 k := fun k hk => by rw [fv_set_at, fa_upd_ne _ _ hk, rC]
  refine ⟨fv_set MC 92 27 (nI (l.nw + 1)), ?_, ?_, hr, h0⟩
  · unfold g_M_tellsWork
    rw [h.nw, e1, nI_clamp (by omega), ← eA, rA, h.nw, e1, nI_1, nI_clamp (by omega), ← eB, rB, h.nw, e1, e2, nI_clamp (by omega), ← eC, rC, h.nw, nI_1, fa_ckn (by omega) (by omega), fa_ckn (by omega) (by omega), fa_ckn (by omega) (by omega)]
  · refine ⟨by rw [h0 21 (by omega)]; exact h.nv, by rw [h0 23 (by omega)]; exact h.nn, by rw [h0 25 (by omega)]; exact h.nt, by rw [fv_set_at, fa_upd_same]; rfl, fun v hv => by rw [hr _ (by omega) (by omega)]; exact h.kd v hv, fun v hv => by rw [hr _ (by omega) (by omega)]; exact h.cr v hv, fun v hv => by rw [hr _ (by omega) (by omega)]; exact h.mi v hv, fun v hv => by rw [hr _ (by omega) (by omega)]; exact h.ow v hv, fun v hv => ?_, fun v hv => ?_, fun v hv => ?_, fun v hv => by rw [hr _ (by omega) (by omega)]; exact h.rd v hv⟩
    · rw [fv_set_ne _ _ _ _ (92 + 16) (by omega), eC, fv_set_at, fa_upd_ne _ _ (by omega), eB, fv_set_at, fa_upd_ne _ _ (by omega), eA, fv_set_at]
      exact fa_u3 (o := 0) h.wt v hv
    · rw [fv_set_ne _ _ _ _ (92 + 16) (by omega), eC, fv_set_at, fa_upd_ne _ _ (by omega), eB, fv_set_at]
      refine fa_u3 (o := 1) (f := MA (92 + 16)) (fun v hv => ?_) v hv
      rw [eA, fv_set_at, fa_upd_ne _ _ (by omega)]
      exact h.wv v hv
    · rw [fv_set_ne _ _ _ _ (92 + 16) (by omega), eC, fv_set_at]
      refine fa_u3 (o := 2) (f := MB (92 + 16)) (fun v hv => ?_) v hv
      rw [eB, fv_set_at, fa_upd_ne _ _ (by omega), eA, fv_set_at, fa_upd_ne _ _ (by omega)]
      exact h.ww v hv
theorem fa_tN {M : fv_M} {a : Nat} {l : fa_L} (h : fa_rm M l) : fa_rm (fv_set (fv_set M (92 + 14) l.nn (nI a)) 92 23 (nI (l.nn + 1))) (fa_aN l a) := by
  have hr : ∀ j, j ≠ 92 → j ≠ 92 + 14 → (fv_set (fv_set M (92 + 14) l.nn (nI a)) 92 23 (nI (l.nn + 1))) j = M j := fun j j1 j2 => by rw [fv_set_ne _ _ _ _ j j1, fv_set_ne _ _ _ _ j j2]
  have h0 : ∀ k, k ≠ 23 → (fv_set (fv_set M (92 + 14) l.nn (nI a)) 92 23 (nI (l.nn + 1))) 92 k = M 92 k := fun k hk => by rw [fv_set_at, fa_upd_ne _ _ hk, fa_rr _ _ _ _ (by omega)]
  refine ⟨by rw [h0 21 (by omega)]; exact h.nv, by rw [fv_set_at, fa_upd_same]; rfl, by rw [h0 25 (by omega)]; exact h.nt, by rw [h0 27 (by omega)]; exact h.nw, fun v hv => by rw [hr _ (by omega) (by omega)]; exact h.kd v hv, fun v hv => by rw [hr _ (by omega) (by omega)]; exact h.cr v hv, fun v hv => ?_, fun v hv => by rw [hr _ (by omega) (by omega)]; exact h.ow v hv, fun v hv => by rw [hr _ (by omega) (by omega)]; exact h.wt v hv, fun v hv => by rw [hr _ (by omega) (by omega)]; exact h.wv v hv, fun v hv => by rw [hr _ (by omega) (by omega)]; exact h.ww v hv, fun v hv => by rw [hr _ (by omega) (by omega)]; exact h.rd v hv⟩
  rw [fv_set_ne _ _ _ _ (92 + 14) (by omega), fv_set_at]
  exact fa_ap_upd h.mi v hv
theorem fa_tT {M : fv_M} {a : Nat} {l : fa_L} (h : fa_rm M l) : fa_rm (fv_set (fv_set M (92 + 15) l.nt (nI a)) 92 25 (nI (l.nt + 1))) (fa_aT l a) := by
  have hr : ∀ j, j ≠ 92 → j ≠ 92 + 15 → (fv_set (fv_set M (92 + 15) l.nt (nI a)) 92 25 (nI (l.nt + 1))) j = M j := fun j j1 j2 => by rw [fv_set_ne _ _ _ _ j j1, fv_set_ne _ _ _ _ j j2]
  have h0 : ∀ k, k ≠ 25 → (fv_set (fv_set M (92 + 15) l.nt (nI a)) 92 25 (nI (l.nt + 1))) 92 k = M 92 k := fun k hk => by rw [fv_set_at, fa_upd_ne _ _ hk, fa_rr _ _ _ _ (by omega)]
  refine ⟨by rw [h0 21 (by omega)]; exact h.nv, by rw [h0 23 (by omega)]; exact h.nn, by rw [fv_set_at, fa_upd_same]; rfl, by rw [h0 27 (by omega)]; exact h.nw, fun v hv => by rw [hr _ (by omega) (by omega)]; exact h.kd v hv, fun v hv => by rw [hr _ (by omega) (by omega)]; exact h.cr v hv, fun v hv => by rw [hr _ (by omega) (by omega)]; exact h.mi v hv, fun v hv => ?_, fun v hv => by rw [hr _ (by omega) (by omega)]; exact h.wt v hv, fun v hv => by rw [hr _ (by omega) (by omega)]; exact h.wv v hv, fun v hv => by rw [hr _ (by omega) (by omega)]; exact h.ww v hv, fun v hv => by rw [hr _ (by omega) (by omega)]; exact h.rd v hv⟩
  rw [fv_set_ne _ _ _ _ (92 + 15) (by omega), fv_set_at]
  exact fa_ap_upd h.ow v hv
theorem fa_tS {M : fv_M} {k x : Nat} {l : fa_L} {a b : Nat} (h : fa_rm M l) (hk : k = 6 * a + b) (hk2 : k < 24) : fa_rm (fv_set M (92 + 17) k (nI x)) (fa_aS l a b x) := by
  have hr : ∀ j, j ≠ 92 + 17 → (fv_set M (92 + 17) k (nI x)) j = M j := fun j j1 => by rw [fv_set_ne _ _ _ _ j j1]
  refine ⟨by rw [hr _ (by omega)]; exact h.nv, by rw [hr _ (by omega)]; exact h.nn, by rw [hr _ (by omega)]; exact h.nt, by rw [hr _ (by omega)]; exact h.nw, fun v hv => by rw [hr _ (by omega)]; exact h.kd v hv, fun v hv => by rw [hr _ (by omega)]; exact h.cr v hv, fun v hv => by rw [hr _ (by omega)]; exact h.mi v hv, fun v hv => by rw [hr _ (by omega)]; exact h.ow v hv, fun v hv => by rw [hr _ (by omega)]; exact h.wt v hv, fun v hv => by rw [hr _ (by omega)]; exact h.wv v hv, fun v hv => by rw [hr _ (by omega)]; exact h.ww v hv, fun v hv => ?_⟩
  have hrd := h.rd v hv
  rw [fv_set_at]
  show _ = if v < 24 then nI (fa_ap l.sk (6 * a + b) x v) else if v < 28 then (-1 : Int32) else 0
  unfold fa_row0 at hrd
  unfold fa_ap
  by_cases e : v = k
  · rw [e, fa_upd_same, if_pos hk2, if_pos hk]
  · rw [fa_upd_ne _ _ e, hrd]
    by_cases e2 : v < 24
    · rw [if_pos e2, if_pos e2, if_neg (by omega)]
    · rw [if_neg e2, if_neg e2]
