/-! what an item adds keeps to the bounds -/
theorem fa_ap_le {f : Nat → Nat} {n a B : Nat} (h : ∀ v, v < n → f v ≤ B) (ha : a ≤ B) : ∀ v, v < n + 1 → fa_ap f n a v ≤ B := by
  intro v hv
  unfold fa_ap
  by_cases e : v = n
  · rw [if_pos e]; exact ha
  · rw [if_neg e]; exact h v (by omega)
theorem fa_wl.aV {l : fa_L} {a b : Nat} (h : fa_wl l) (c1 : l.nv < 6) (c2 : a ≤ 3) (c3 : b ≤ 9) : fa_wl (fa_aV l a b) :=
  ⟨c1, h.nn, h.nt, h.nw, fa_ap_le h.kd c2, fa_ap_le h.cr c3, h.mi, h.ow, h.sk, fun t v ht hv hz => h.s0 t v ht hv (hz.imp id (fun z => Nat.le_of_succ_le z)), h.wt, fun w hw => Nat.lt_succ_of_lt (h.wv w hw), h.ww⟩
theorem fa_wl.aN {l : fa_L} {a : Nat} (h : fa_wl l) (c1 : l.nn < 8) (c2 : a ≤ 63) : fa_wl (fa_aN l a) :=
  ⟨h.nv, c1, h.nt, h.nw, h.kd, h.cr, fa_ap_le h.mi c2, h.ow, h.sk, h.s0, h.wt, h.wv, h.ww⟩
theorem fa_wl.aT {l : fa_L} {a : Nat} (h : fa_wl l) (c1 : l.nt < 4) (c2 : a ≤ 63) : fa_wl (fa_aT l a) :=
  ⟨h.nv, h.nn, c1, h.nw, h.kd, h.cr, h.mi, fa_ap_le h.ow c2, h.sk, fun t v ht hv hz => h.s0 t v ht hv (hz.imp (fun z => Nat.le_of_succ_le z) id), fun w hw => Nat.lt_succ_of_lt (h.wt w hw), h.wv, h.ww⟩
theorem fa_wl.aS {l : fa_L} {t v x : Nat} (h : fa_wl l) (c1 : t < l.nt ∧ v < l.nv) (c2 : x ≤ 30) : fa_wl (fa_aS l t v x) :=
  ⟨h.nv, h.nn, h.nt, h.nw, h.kd, h.cr, h.mi, h.ow, fun k hk => by
    show fa_ap l.sk (6 * t + v) x k ≤ 30
    unfold fa_ap
    by_cases e : k = 6 * t + v
    · rw [if_pos e]; exact c2
    · rw [if_neg e]; exact h.sk k hk, fun t2 v2 ht hv hz => by
    show fa_ap l.sk (6 * t + v) x (6 * t2 + v2) = 0
    have hz : l.nt ≤ t2 ∨ l.nv ≤ v2 := hz
    have h2 := h.nv
    unfold fa_ap
    rw [if_neg (by omega)]
    exact h.s0 t2 v2 ht hv hz, h.wt, h.wv, h.ww⟩
theorem fa_wl.aW {l : fa_L} {t v x : Nat} (h : fa_wl l) (c0 : l.nw < 8) (c1 : t < l.nt ∧ v < l.nv) (c2 : 1 ≤ x ∧ x ≤ 9) : fa_wl (fa_aW l t v x) :=
  ⟨h.nv, h.nn, h.nt, c0, h.kd, h.cr, h.mi, h.ow, h.sk, h.s0, fun w hw => by
    show fa_ap l.wt l.nw t w < l.nt
    have hw : w < l.nw + 1 := hw
    unfold fa_ap
    by_cases e : w = l.nw
    · rw [if_pos e]; exact c1.1
    · rw [if_neg e]; exact h.wt w (by omega), fun w hw => by
    show fa_ap l.wv l.nw v w < l.nv
    have hw : w < l.nw + 1 := hw
    unfold fa_ap
    by_cases e : w = l.nw
    · rw [if_pos e]; exact c1.2
    · rw [if_neg e]; exact h.wv w (by omega), fun w hw => by
    show 1 ≤ fa_ap l.ww l.nw x w ∧ fa_ap l.ww l.nw x w ≤ 9
    have hw : w < l.nw + 1 := hw
    unfold fa_ap
    by_cases e : w = l.nw
    · rw [if_pos e]; exact c2
    · rw [if_neg e]; exact h.ww w (by omega)⟩
