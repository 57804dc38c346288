/-! the steps that touch the heap -/
theorem fv_isI_n {t : FieldType} (h : fv_isI t = true) (x : Int32) : narrow t (.int x) = .int x ∧ fits t (.int x) = true := by
  cases t <;> first | (exact ⟨rfl, rfl⟩) | (exact (Bool.false_ne_true h).elim)
theorem fv_isR_n {t : FieldType} (h : fv_isR t = true) (r : Nat) : narrow t (.ref r) = .ref r ∧ fits t (.ref r) = true := by
  cases t <;> first | (exact ⟨rfl, rfl⟩) | (exact (Bool.false_ne_true h).elim)
theorem fv_ty_all : (List.range 7).all (fun ci => (List.range (fv_NF ci)).all (fun j => fv_isI (fv_Y ci j) || fv_isR (fv_Y ci j))) = true := by decide +kernel
def fv_fs0 (ci : Nat) : List Value := (List.range (fv_NF ci)).map (fun k => match fv_Y ci k with | .int => .int 0 | _ => .null)
theorem fv_fs0_at {ci j : Nat} (hci : ci < 7) (h : j < fv_NF ci) : defaultValue (fv_Y ci j) = vp_V (fv_fs0 ci) j := by
  have h1 := List.all_eq_true.mp (List.all_eq_true.mp fv_ty_all ci (List.mem_range.mpr hci)) j (List.mem_range.mpr h)
  simp only [vp_V, fv_fs0, List.getD_eq_getElem?_getD, List.getElem?_map, List.getElem?_range h, Option.map_some, Option.getD_some]
  generalize fv_Y ci j = t at h1
  cases t <;> first | rfl | (exact (Bool.false_ne_true h1).elim)
theorem fv_sl0_map {ad : Nat → Nat} {M : fv_M} {n ci : Nat} : (fv_sl0 ci).mapIdx (fun k o => fv_slv ad (fv_new M n) n k o) = fv_fs0 ci := by
  apply List.ext_getElem?
  intro j
  rw [List.getElem?_mapIdx]
  simp only [fv_sl0, fv_fs0, List.getElem?_map]
  by_cases h : j < fv_NF ci
  · rw [List.getElem?_range h]
    simp only [Option.map_some, Option.some.injEq]
    generalize fv_Y ci j = t
    cases t <;> simp [fv_slv, fv_new, fv_cv]
  · rw [List.getElem?_eq_none (by rw [List.length_range]; omega)]
    rfl
theorem fv_map_eq {ad ad' : Nat → Nat} {n : Nat} (ha : ∀ i, i < n ∨ fv_SCR ≤ i → ad' i = ad i) {st : List Value} (h : st.all (fv_belV n) = true) : st.map (fv_cv ad') = st.map (fv_cv ad) :=
  List.map_congr_left (fun v hv => fv_cv_eq ha (List.all_eq_true.mp h v hv))
theorem fv_lv_eq {ad ad' : Nat → Nat} {n : Nat} (ha : ∀ i, i < n ∨ fv_SCR ≤ i → ad' i = ad i) {ls : fv_Sl} (h : ls.all (fv_belO n) = true) : ∀ q ∈ fv_lv ad' ls, q ∈ fv_lv ad ls := by
  intro q hq
  obtain ⟨i, v, hv, rfl⟩ := fv_lv_mem.mp hq
  exact fv_lv_mem.mpr ⟨i, v, hv, by rw [fv_cv_eq ha (List.all_eq_true.mp h _ (List.mem_of_getElem? hv))]⟩
def fv_ad (ad : Nat → Nat) (n q : Nat) : Nat → Nat := fun j => if j = n then q else ad j
theorem fv_ad_ok (ad : Nat → Nat) {n : Nat} (q : Nat) (hn : n < fv_SCR) : ∀ i, i < n ∨ fv_SCR ≤ i → fv_ad ad n q i = ad i := fun i hi => if_neg (by omega)
theorem fv_new_ne (M : fv_M) (n : Nat) : ∀ j, j < n → fv_new M n j = M j := fun j hj => if_neg (by omega)
theorem fv_new_at (M : fv_M) (n : Nat) : fv_new M n n = fun _ => 0 := if_pos rfl
theorem fv_room8 {m : MethodId} {pc : Nat} {ls : Array Slot} {st st2 : List Value} (h : (st.map fun v => v.category).sum ≤ 8) : 2 * (F0 m pc ls st2).monitorRoom + (st.map fun v => v.category).sum ≤ 8 := lv_room h
section
variable {X : fv_X} {bS bT : Nat} {p : Program} {l : Launch} {e : Env} {R : Room} {s : State} {m : MethodId} {args : Array Value} {below : List Frame} {meth : Method} {c : Code} {Q : State → Prop} {y : Nat} {D : va_G} {tc : Nat → ClassId} {A : Nat → Prop} {mc ms : Nat}
set_option maxHeartbeats 4000000 in
set_option maxRecDepth 20000 in
theorem fv_step2 {pc np : Nat} {i : Instr} {ls : fv_Sl} {st : List Value} {k : Nat × Nat} {sh : fv_Sh} {M : fv_M} {q : Nat × fv_Sl × List Value × (Nat × Nat) × fv_Sh × fv_M} {ad : Nat → Nat} {H : Heap} {locs : List Loc} {cells slots : Nat} {lsA : Array Slot}
    (S : fv_St X bS p R s m args meth c y D tc A mc ms) (hstr : y = fv_XI → fv_strL p l e R s m args below meth c bT ∧ fv_strR p l e R s m args below meth c A bT) (Dn : fv_Dy bS bT s y D tc A mc ms ls k sh M ad H locs cells slots lsA) (hlk : fv_lk y pc = some (i, np)) (hh : fv_heapI i = true) (h : fv_nx X y pc ls st k sh M = some (.inl q)) (K : fv_K X bS bT p l e R s m args below meth c Q y D tc A mc ms ad k sh q) : W p l e R s m args below meth c H locs cells slots Q (F0 m pc lsA (st.map (fv_cv ad))) := by
  obtain ⟨hx, hb, hml, hown, hts, hAO, hnm, hK, hA, hRc, hRs, hRf, hRl, hy, hscr⟩ := id S
  obtain ⟨hl, hw, hP, hD, hS, hkc, hks, hbS, hbT⟩ := id Dn
  unfold fv_nx at h
  rw [hlk] at h
  obtain ⟨raw, hd, hk⟩ := fv_row hy hlk
  cases i with
  | iaload =>
      dsimp only at h
      simp only [fv_rk, fv_npc, Bool.and_eq_true, decide_eq_true_eq] at hk
      obtain ⟨rfl, rfl⟩ := hk
      rw [Nat.add_sub_cancel_left] at hd
      split at h
      · rename_i j c0 st1
        split at h
        · rename_i hc0
          split at h
          · rename_i hcc
            cases h
            obtain ⟨hyl, rfl⟩ := hc0
            obtain ⟨hX, hbl, hbA⟩ := hscr hyl
            show W p l e R s m args below meth c H locs cells slots Q (F0 m pc lsA (.int j :: .ref (ad fv_SCR) :: st1.map (fv_cv ad)))
            rw [hbS]
            exact va_sld hx hb hX hbl hbA hS hcc hd (K _ _ _ _ _ _ fv_agr.rf Dn)
          · cases h
        · split at h
          · rename_i n hs
            split at h
            · cases h
            · rename_i hin
              cases h
              exact va_iald hx hb hK hP c0 0 (fv_w_c hs) rfl hin hd (K _ _ _ _ _ _ fv_agr.rf Dn)
          · cases h
      · cases h
  | baload =>
      dsimp only at h
      simp only [fv_rk, fv_npc, Bool.and_eq_true, decide_eq_true_eq] at hk
      obtain ⟨rfl, rfl⟩ := hk
      rw [Nat.add_sub_cancel_left] at hd
      split at h
      · rename_i j c0 st1
        split at h
        · rename_i n hs
          split at h
          · cases h
          · rename_i hin
            cases h
            exact va_zald hx hb hK hP c0 1 (fv_w_c hs) rfl hin hd (K _ _ _ _ _ _ fv_agr.rf Dn)
        · cases h
      · cases h
  | caload =>
      dsimp only at h
      simp only [fv_rk, fv_npc, Bool.and_eq_true, decide_eq_true_eq] at hk
      obtain ⟨rfl, rfl⟩ := hk
      rw [Nat.add_sub_cancel_left] at hd
      split at h
      · rename_i j c0 st1
        split at h
        · rename_i n hs
          split at h
          · cases h
          · rename_i hin
            cases h
            exact va_cald hx hb hK hP c0 2 (fv_w_c hs) rfl hin hd (K _ _ _ _ _ _ fv_agr.rf Dn)
        · cases h
      · cases h
  | iastore =>
      dsimp only at h
      simp only [fv_rk, fv_npc, Bool.and_eq_true, decide_eq_true_eq] at hk
      obtain ⟨rfl, rfl⟩ := hk
      rw [Nat.add_sub_cancel_left] at hd
      split at h
      · rename_i x j c0 st1
        split at h
        · rename_i n hs
          split at h
          · cases h
          · rename_i hin
            cases h
            have ew := fv_w_row (ad := ad) (tc := tc) (M := M) (k := j.toNatClampNeg) (x := x) hs
            exact va_iast hx hb hK hP hD hS c0 0 (fv_w_c hs) rfl hin hd (fun H1 locs1 hP1 hD1 hS1 => K ad H1 locs1 cells slots lsA fv_agr.rf ⟨hl, hw, by rw [← ew]; exact hP1, by rw [← ew]; exact hD1, hS1, hkc, hks, hbS, hbT⟩)
        · cases h
      · cases h
  | bastore =>
      dsimp only at h
      simp only [fv_rk, fv_npc, Bool.and_eq_true, decide_eq_true_eq] at hk
      obtain ⟨rfl, rfl⟩ := hk
      rw [Nat.add_sub_cancel_left] at hd
      split at h
      · rename_i x j c0 st1
        split at h
        · rename_i n hs
          split at h
          · cases h
          · rename_i hin
            cases h
            have ew := fv_w_row (ad := ad) (tc := tc) (M := M) (k := j.toNatClampNeg) (x := vp_nar .boolean x) hs
            exact va_zast hx hb hK hP hD hS c0 1 (fv_w_c hs) rfl hin hd (fun H1 locs1 hP1 hD1 hS1 => K ad H1 locs1 cells slots lsA fv_agr.rf ⟨hl, hw, by rw [← ew]; exact hP1, by rw [← ew]; exact hD1, hS1, hkc, hks, hbS, hbT⟩)
        · cases h
      · cases h
  | castore =>
      dsimp only at h
      simp only [fv_rk, fv_npc, Bool.and_eq_true, decide_eq_true_eq] at hk
      obtain ⟨rfl, rfl⟩ := hk
      rw [Nat.add_sub_cancel_left] at hd
      split at h
      · rename_i x j c0 st1
        split at h
        · rename_i n hs
          split at h
          · cases h
          · rename_i hin
            cases h
            have ew := fv_w_row (ad := ad) (tc := tc) (M := M) (k := j.toNatClampNeg) (x := vp_nar .char x) hs
            exact va_cast hx hb hK hP hD hS c0 2 (fv_w_c hs) rfl hin hd (fun H1 locs1 hP1 hD1 hS1 => K ad H1 locs1 cells slots lsA fv_agr.rf ⟨hl, hw, by rw [← ew]; exact hP1, by rw [← ew]; exact hD1, hS1, hkc, hks, hbS, hbT⟩)
        · cases h
      · cases h
  | aaload =>
      dsimp only at h
      simp only [fv_rk, fv_npc, Bool.and_eq_true, decide_eq_true_eq] at hk
      obtain ⟨rfl, rfl⟩ := hk
      rw [Nat.add_sub_cancel_left] at hd
      split at h
      · rename_i j c0 st1
        split at h
        · rename_i sl hs
          split at h
          · cases h
          · rename_i hin
            have he := fv_w_c (ad := ad) (tc := tc) (M := M) hs
            rw [fv_ce_objs] at he
            split at h
            · rename_i r hr
              cases h
              refine va_aldq hx hb hK hP c0 3 he rfl hin hd ?_
              rw [hr]
              exact K _ _ _ _ _ _ fv_agr.rf Dn
            · rename_i hr
              cases h
              refine va_aldq hx hb hK hP c0 3 he rfl hin hd ?_
              rw [hr]
              exact K _ _ _ _ _ _ fv_agr.rf Dn
            · cases h
        · cases h
      · cases h
  | aastore =>
      dsimp only at h
      simp only [fv_rk, fv_npc, Bool.and_eq_true, decide_eq_true_eq] at hk
      obtain ⟨rfl, rfl⟩ := hk
      rw [Nat.add_sub_cancel_left] at hd
      split at h
      · rename_i v j c0 st1
        split at h
        · rename_i sl vs hs hv
          split at h
          · cases h
          · rename_i hin
            cases h
            have he := fv_w_c (ad := ad) (tc := tc) (M := M) hs
            rw [fv_ce_objs] at he
            have hev := fv_w_c (ad := ad) (tc := tc) (M := M) hv
            rw [fv_ce_obj _ _ _ _ _ _ (by decide)] at hev
            have hjl : j.toNatClampNeg < sl.length := by
              rcases Nat.lt_or_ge j.toNatClampNeg sl.length with g | g
              · exact g
              · exact absurd (Or.inr g) hin
            have ew := fv_w_refs (ad := ad) (tc := tc) (sh := sh) (M := M) (c := c0) (r := v) hjl
            exact va_astq hx hb hK hP hD hS c0 3 v 3 he rfl hev (fv_kind_at 3 (by decide)) hin hd (fun H1 locs1 hP1 hD1 hS1 => K ad H1 locs1 cells slots lsA (fv_agr.ln (by rw [List.length_set])) ⟨hl, hw, by rw [← ew]; exact hP1, by rw [← ew]; exact hD1, hS1, hkc, hks, hbS, hbT⟩)
        · cases h
      · cases h
  | arraylength =>
      dsimp only at h
      simp only [fv_rk, fv_npc, Bool.and_eq_true, decide_eq_true_eq] at hk
      obtain ⟨rfl, rfl⟩ := hk
      rw [Nat.add_sub_cancel_left] at hd
      split at h
      · rename_i c0 st1
        split at h
        · rename_i hc0
          cases h
          obtain ⟨hyl, rfl⟩ := hc0
          obtain ⟨hX, hbl, hbA⟩ := hscr hyl
          show W p l e R s m args below meth c H locs cells slots Q (F0 m pc lsA (.ref (ad fv_SCR) :: st1.map (fv_cv ad)))
          rw [hbS]
          exact va_slen hx hb hX hbl hbA hS hd (K _ _ _ _ _ _ fv_agr.rf Dn)
        · split at h
          · rename_i t n hs
            split at h
            · rename_i ht
              cases h
              rcases (by omega : t = 0 ∨ t = 1 ∨ t = 2) with rfl | rfl | rfl
              · exact va_alen hx hb hK hP c0 0 (fv_w_c hs) rfl rfl hd (K _ _ _ _ _ _ fv_agr.rf Dn)
              · exact va_alen hx hb hK hP c0 1 (fv_w_c hs) rfl rfl hd (K _ _ _ _ _ _ fv_agr.rf Dn)
              · exact va_alen hx hb hK hP c0 2 (fv_w_c hs) rfl rfl hd (K _ _ _ _ _ _ fv_agr.rf Dn)
            · cases h
          · rename_i sl hs
            cases h
            have he := fv_w_c (ad := ad) (tc := tc) (M := M) hs
            rw [fv_ce_objs] at he
            exact va_alen hx hb hK hP c0 3 he rfl rfl hd (K _ _ _ _ _ _ fv_agr.rf Dn)
          · cases h
      · cases h
  | getfield f =>
      dsimp only at h
      dsimp only [fv_rk] at hk
      cases raw with
      | getfield i =>
        simp only [fv_npc, Bool.and_eq_true, decide_eq_true_eq] at hk
        obtain ⟨hfs, rfl⟩ := hk
        rw [Nat.add_sub_cancel_left] at hd
        obtain ⟨hlink, hdec, h7, hkn⟩ := fv_fs_in hfs
        split at h
        · rename_i c0 st1
          split at h
          · rename_i ci sl hs
            split at h
            · rename_i hci
              subst hci
              have he := fv_w_c (ad := ad) (tc := tc) (M := M) hs
              rw [fv_ce_obj _ _ _ _ _ _ (by omega)] at he
              split at h
              · rename_i hq
                cases h
                exact va_get (v := .int (M c0 (f % 100))) hx hb hts (fv_lay_in h7) hown hK hP c0 he (fv_kind_at _ h7) (f % 100) hkn (hts _ hlink) (fun _ z => by rw [hdec] at z; exact z) (by rw [List.getElem?_mapIdx, hq]; rfl) hd (K _ _ _ _ _ _ fv_agr.rf Dn)
              · rename_i v hq
                cases h
                exact va_get (v := fv_cv ad v) hx hb hts (fv_lay_in h7) hown hK hP c0 he (fv_kind_at _ h7) (f % 100) hkn (hts _ hlink) (fun _ z => by rw [hdec] at z; exact z) (by rw [List.getElem?_mapIdx, hq]; rfl) hd (K _ _ _ _ _ _ fv_agr.rf Dn)
              · cases h
            · cases h
          · cases h
        · cases h
      | _ => exact (Bool.false_ne_true hk).elim
  | putfield f =>
      dsimp only at h
      dsimp only [fv_rk] at hk
      cases raw with
      | putfield i =>
        rw [Bool.and_eq_true, Bool.and_eq_true] at hk
        obtain ⟨hfs, hn3, hfn⟩ := hk
        simp only [fv_npc, decide_eq_true_eq] at hn3
        subst hn3
        rw [Nat.add_sub_cancel_left] at hd
        obtain ⟨hlink, hdec, h7, hkn⟩ := fv_fs_in hfs
        split at h
        · rename_i v0 c0 st1
          split at h
          · rename_i ci sl hs
            split at h
            · rename_i hci
              subst hci
              have he := fv_w_c (ad := ad) (tc := tc) (M := M) hs
              rw [fv_ce_obj _ _ _ _ _ _ (by omega)] at he
              split at h
              · rename_i x hq
                split at h
                · rename_i ht
                  cases h
                  have ew := fv_w_fld (ad := ad) (tc := tc) (M := M) (x := x) (by omega) hs hq
                  have hlen : f % 100 < (sl.mapIdx (fun k o => fv_slv ad M c0 k o)).length := by rw [List.length_mapIdx]; exact (List.getElem?_eq_some_iff.mp hq).1
                  have hft := fv_isI_n ht x
                  cases hfin : ((fv_T (f / 100)) (f % 100)).2.2.2 with
                  | false => exact va_put (v := .int x) hx hb hts (fv_lay_in h7) (fv_Y (f / 100)) (fv_lay_ty h7) (fv_lay_nm h7) hown hK hP hD hS c0 he (fv_kind_at _ h7) (f % 100) hkn (hts _ hlink) (fun _ z => by rw [hdec] at z; exact z) hfin (fv_lay_ty h7 _ hkn) hft.1 hft.2 hlen hd (fun H1 locs1 hP1 hD1 hS1 => K ad H1 locs1 cells slots lsA fv_agr.rf ⟨hl, hw, by rw [← ew]; exact hP1, by rw [← ew]; exact hD1, hS1, hkc, hks, hbS, hbT⟩)
                  | true =>
                    rw [hfin] at hfn
                    simp only [Bool.not_true, Bool.false_or, Bool.and_eq_true, decide_eq_true_eq] at hfn
                    exact va_putF (v := .int x) hx hb hts (fv_lay_in h7) (fv_Y (f / 100)) (fv_lay_ty h7) (fv_lay_nm h7) hown hK hP hD hS c0 he (fv_kind_at _ h7) (f % 100) hkn (hts _ hlink) (fun _ z => by rw [hdec] at z; exact z) hfin ((hnm (fun q => absurd hfn.1 (by rw [q]; decide))).trans hfn.1) (by rw [hdec, hfn.2]) (fv_lay_ty h7 _ hkn) hft.1 hft.2 hlen hd (fun H1 locs1 hP1 hD1 hS1 => K ad H1 locs1 cells slots lsA fv_agr.rf ⟨hl, hw, by rw [← ew]; exact hP1, by rw [← ew]; exact hD1, hS1, hkc, hks, hbS, hbT⟩)
                · cases h
              · rename_i w0 r hq
                split at h
                · rename_i ht
                  cases h
                  have ew := fv_w_ref (ad := ad) (tc := tc) (sh := sh) (M := M) (c := c0) (k := f % 100) (r := r) (sl := sl) (show f / 100 < 100 by omega)
                  have hlen : f % 100 < (sl.mapIdx (fun k o => fv_slv ad M c0 k o)).length := by rw [List.length_mapIdx]; exact (List.getElem?_eq_some_iff.mp hq).1
                  have hft := fv_isR_n ht (ad r)
                  cases hfin : ((fv_T (f / 100)) (f % 100)).2.2.2 with
                  | false => exact va_put (v := .ref (ad r)) hx hb hts (fv_lay_in h7) (fv_Y (f / 100)) (fv_lay_ty h7) (fv_lay_nm h7) hown hK hP hD hS c0 he (fv_kind_at _ h7) (f % 100) hkn (hts _ hlink) (fun _ z => by rw [hdec] at z; exact z) hfin (fv_lay_ty h7 _ hkn) hft.1 hft.2 hlen hd (fun H1 locs1 hP1 hD1 hS1 => K ad H1 locs1 cells slots lsA (fv_agr.ln (by rw [List.length_set])) ⟨hl, hw, by rw [← ew]; exact hP1, by rw [← ew]; exact hD1, hS1, hkc, hks, hbS, hbT⟩)
                  | true =>
                    rw [hfin] at hfn
                    simp only [Bool.not_true, Bool.false_or, Bool.and_eq_true, decide_eq_true_eq] at hfn
                    exact va_putF (v := .ref (ad r)) hx hb hts (fv_lay_in h7) (fv_Y (f / 100)) (fv_lay_ty h7) (fv_lay_nm h7) hown hK hP hD hS c0 he (fv_kind_at _ h7) (f % 100) hkn (hts _ hlink) (fun _ z => by rw [hdec] at z; exact z) hfin ((hnm (fun q => absurd hfn.1 (by rw [q]; decide))).trans hfn.1) (by rw [hdec, hfn.2]) (fv_lay_ty h7 _ hkn) hft.1 hft.2 hlen hd (fun H1 locs1 hP1 hD1 hS1 => K ad H1 locs1 cells slots lsA (fv_agr.ln (by rw [List.length_set])) ⟨hl, hw, by rw [← ew]; exact hP1, by rw [← ew]; exact hD1, hS1, hkc, hks, hbS, hbT⟩)
                · cases h
              · cases h
            · cases h
          · cases h
        · cases h
      | _ => exact (Bool.false_ne_true hk).elim
  | new ci =>
      dsimp only at h
      dsimp only [fv_rk] at hk
      cases raw with
      | new i =>
        simp only [fv_npc, Bool.and_eq_true, decide_eq_true_eq] at hk
        obtain ⟨hu, rfl⟩ := hk
        rw [Nat.add_sub_cancel_left] at hd
        obtain ⟨ix, hq⟩ := fv_mem3 (by simpa only [Bool.and_eq_true, decide_eq_true_eq] using hu)
        have h3 := List.all_eq_true.mp fv_NS_ok _ hq
        simp only [Bool.and_eq_true, decide_eq_true_eq] at h3
        split at h
        · rename_i hcnd
          obtain ⟨h7, hk1, hk2, hnS, hbL, hbV, hbC⟩ := hcnd
          cases h
          have hi := List.all_eq_true.mp fv_inst_all ci (List.mem_range.mpr h7)
          simp only [Bool.and_eq_true, decide_eq_true_eq] at hi
          refine va_new hx hb hts (fv_lay_in h7) (fv_Y ci) (fv_lay_ty h7) hown (hts _ (fv_GL_in h3.1 rfl)) (hts _ (fv_GL_in hi.1 rfl)) (hts _ (fv_GL_in hi.2 rfl)) hK hP hD hS hA (fv_kind_at ci h7) (fs := fv_fs0 ci) (fun j hj => fv_fs0_at h7 hj) (by omega) (by omega) hd (fun q1 H1 hP1 hD1 hS1 => ?_)
          · have hao := fv_ad_ok ad q1 hnS
            have epush := fv_w_push (ad := ad) (ad' := fv_ad ad sh.length q1) (tc := tc) (M := M) (M' := fv_new M sh.length) (x := .inr (ci, fv_sl0 ci)) hao hbC (fv_new_ne M _)
            have eq1 : fv_ad ad sh.length q1 sh.length = q1 := if_pos rfl
            rw [fv_ce_obj _ _ _ _ _ _ (by omega), fv_sl0_map, eq1] at epush
            have := K (fv_ad ad sh.length q1) H1 locs (cells + 1) (slots + fv_NF ci) lsA ⟨hao, fun z => absurd z (by omega), by rw [List.length_append]; exact Nat.le_add_right _ _, Nat.sub_le _ _⟩ ⟨fv_lv_sub hl (fv_lv_eq hao hbL), hw, by rw [epush]; exact hP1, by rw [epush]; exact hD1, hS1, by dsimp only; omega, by dsimp only; omega, by rw [hao _ (Or.inr (Nat.le_refl _))]; exact hbS, by rw [hao _ (Or.inr (by decide))]; exact hbT⟩
            dsimp only at this
            rw [List.map_cons, fv_map_eq hao hbV] at this
            simp only [fv_cv, eq1] at this
            exact this
        · cases h
      | _ => exact (Bool.false_ne_true hk).elim
  | newarray t =>
      dsimp only at h
      simp only [fv_rk, fv_npc, Bool.and_eq_true, decide_eq_true_eq] at hk
      obtain ⟨rfl, rfl⟩ := hk
      rw [Nat.add_sub_cancel_left] at hd
      split at h
      · rename_i n st1 tcd hat
        split at h
        · rename_i hcnd
          cases h
          cases t with
          | int =>
            cases hat
            exact (by
            obtain ⟨h0, hk1, hk2, hk3, hnS, hbL, hbV, hbC⟩ := hcnd
            refine va_newa (atype := .int) (ty := .int) hx hb (hts _ fv_ac_int) rfl hK hP hD hS hA (a0 := (n.toNatClampNeg, .inl (fun _ => 0))) (fun _ => rfl) h0 rfl (by show n.toNatClampNeg * 4 ≤ _; omega) (by omega) (by omega) hd (fun q1 cA H1 hK1 hP1 hD1 hS1 => ?_)
            · have ecA : cA = tc 0 := by
                have g1 := (hK1.2 4 (cA, .int) rfl).2
                have g2 := (hK.2 0 (tc 0, .int) rfl).2
                exact Option.some.inj (g1.symm.trans g2)
              subst ecA
              have hao := fv_ad_ok ad q1 hnS
              have epush := fv_w_push (ad := ad) (ad' := fv_ad ad sh.length q1) (tc := tc) (M := M) (M' := fv_new M sh.length) (x := .inl (0, n.toNatClampNeg)) hao hbC (fv_new_ne M _)
              have eq1 : fv_ad ad sh.length q1 sh.length = q1 := if_pos rfl
              rw [fv_ce_row, fv_new_at, eq1] at epush
              have := K (fv_ad ad sh.length q1) H1 locs (cells + 1) (slots + n.toNatClampNeg) lsA ⟨hao, fun z => absurd z (by omega), by rw [List.length_append]; exact Nat.le_add_right _ _, Nat.sub_le _ _⟩ ⟨fv_lv_sub hl (fv_lv_eq hao hbL), hw, by rw [epush]; exact hP1, by rw [epush]; exact hD1, hS1, by dsimp only; omega, by dsimp only; omega, by rw [hao _ (Or.inr (Nat.le_refl _))]; exact hbS, by rw [hao _ (Or.inr (by decide))]; exact hbT⟩
              dsimp only at this
              rw [List.map_cons, fv_map_eq hao hbV] at this
              simp only [fv_cv, eq1] at this
              exact this)
          | boolean =>
            cases hat
            exact (by
            obtain ⟨h0, hk1, hk2, hk3, hnS, hbL, hbV, hbC⟩ := hcnd
            refine va_newa (atype := .boolean) (ty := .boolean) hx hb (hts _ fv_ac_boolean) rfl hK hP hD hS hA (a0 := (n.toNatClampNeg, .inl (fun _ => 0))) (fun _ => rfl) h0 rfl (by show n.toNatClampNeg * 1 ≤ _; omega) (by omega) (by omega) hd (fun q1 cA H1 hK1 hP1 hD1 hS1 => ?_)
            · have ecA : cA = tc 1 := by
                have g1 := (hK1.2 4 (cA, .boolean) rfl).2
                have g2 := (hK.2 1 (tc 1, .boolean) rfl).2
                exact Option.some.inj (g1.symm.trans g2)
              subst ecA
              have hao := fv_ad_ok ad q1 hnS
              have epush := fv_w_push (ad := ad) (ad' := fv_ad ad sh.length q1) (tc := tc) (M := M) (M' := fv_new M sh.length) (x := .inl (1, n.toNatClampNeg)) hao hbC (fv_new_ne M _)
              have eq1 : fv_ad ad sh.length q1 sh.length = q1 := if_pos rfl
              rw [fv_ce_row, fv_new_at, eq1] at epush
              have := K (fv_ad ad sh.length q1) H1 locs (cells + 1) (slots + n.toNatClampNeg) lsA ⟨hao, fun z => absurd z (by omega), by rw [List.length_append]; exact Nat.le_add_right _ _, Nat.sub_le _ _⟩ ⟨fv_lv_sub hl (fv_lv_eq hao hbL), hw, by rw [epush]; exact hP1, by rw [epush]; exact hD1, hS1, by dsimp only; omega, by dsimp only; omega, by rw [hao _ (Or.inr (Nat.le_refl _))]; exact hbS, by rw [hao _ (Or.inr (by decide))]; exact hbT⟩
              dsimp only at this
              rw [List.map_cons, fv_map_eq hao hbV] at this
              simp only [fv_cv, eq1] at this
              exact this)
          | char =>
            cases hat
            exact (by
            obtain ⟨h0, hk1, hk2, hk3, hnS, hbL, hbV, hbC⟩ := hcnd
            refine va_newa (atype := .char) (ty := .char) hx hb (hts _ fv_ac_char) rfl hK hP hD hS hA (a0 := (n.toNatClampNeg, .inl (fun _ => 0))) (fun _ => rfl) h0 rfl (by show n.toNatClampNeg * 2 ≤ _; omega) (by omega) (by omega) hd (fun q1 cA H1 hK1 hP1 hD1 hS1 => ?_)
            · have ecA : cA = tc 2 := by
                have g1 := (hK1.2 4 (cA, .char) rfl).2
                have g2 := (hK.2 2 (tc 2, .char) rfl).2
                exact Option.some.inj (g1.symm.trans g2)
              subst ecA
              have hao := fv_ad_ok ad q1 hnS
              have epush := fv_w_push (ad := ad) (ad' := fv_ad ad sh.length q1) (tc := tc) (M := M) (M' := fv_new M sh.length) (x := .inl (2, n.toNatClampNeg)) hao hbC (fv_new_ne M _)
              have eq1 : fv_ad ad sh.length q1 sh.length = q1 := if_pos rfl
              rw [fv_ce_row, fv_new_at, eq1] at epush
              have := K (fv_ad ad sh.length q1) H1 locs (cells + 1) (slots + n.toNatClampNeg) lsA ⟨hao, fun z => absurd z (by omega), by rw [List.length_append]; exact Nat.le_add_right _ _, Nat.sub_le _ _⟩ ⟨fv_lv_sub hl (fv_lv_eq hao hbL), hw, by rw [epush]; exact hP1, by rw [epush]; exact hD1, hS1, by dsimp only; omega, by dsimp only; omega, by rw [hao _ (Or.inr (Nat.le_refl _))]; exact hbS, by rw [hao _ (Or.inr (by decide))]; exact hbT⟩
              dsimp only at this
              rw [List.map_cons, fv_map_eq hao hbV] at this
              simp only [fv_cv, eq1] at this
              exact this)
          | _ => cases hat
        · cases h
      · cases h
  | anewarray ci =>
      dsimp only at h
      dsimp only [fv_rk] at hk
      cases raw with
      | anewarray i =>
        simp only [fv_npc, Bool.and_eq_true, decide_eq_true_eq] at hk
        obtain ⟨hu, rfl⟩ := hk
        rw [Nat.add_sub_cancel_left] at hd
        obtain ⟨ix, hq⟩ := fv_mem3 (by simpa only [Bool.and_eq_true, decide_eq_true_eq] using hu)
        have h3 := List.all_eq_true.mp fv_NS_ok _ hq
        simp only [Bool.and_eq_true, decide_eq_true_eq] at h3
        split at h
        · rename_i n st1
          split at h
          · rename_i hcnd
            obtain ⟨rfl, h0, hk1, hk2, hk3, hnS, hbL, hbV, hbC⟩ := hcnd
            cases h
            refine va_newq hx hb hown (hts _ (fv_GL_in h3.1 rfl)) hAO hK hP hD hS hA h0 rfl (by omega) (by omega) (by omega) hd (fun q1 cA H1 hK1 hP1 hD1 hS1 => ?_)
            have ecA : cA = tc 103 := by
              obtain ⟨_, _, _, _, _, g1⟩ := (hK1.2 4 (cA, .object (fv_RN 3)) rfl).2
              obtain ⟨_, _, _, _, _, g2⟩ := (hK.2 3 (tc 103, .object (fv_RN 3)) rfl).2
              exact Option.some.inj (g1.symm.trans g2)
            subst ecA
            have efn : (fun j : Nat => fv_ro (fv_ad ad sh.length q1) (List.replicate n.toNatClampNeg (some Value.null))[j]?) = fun _ => none := by
              funext j
              rw [List.getElem?_replicate]
              split <;> rfl
            have hao := fv_ad_ok ad q1 hnS
            have epush := fv_w_push (ad := ad) (ad' := fv_ad ad sh.length q1) (tc := tc) (M := M) (M' := M) (x := .inr (103, List.replicate n.toNatClampNeg (some .null))) hao hbC (fun _ _ => rfl)
            have eq1 : fv_ad ad sh.length q1 sh.length = q1 := if_pos rfl
            rw [fv_ce_objs, List.length_replicate, efn, eq1] at epush
            have := K (fv_ad ad sh.length q1) H1 locs (cells + 1) (slots + n.toNatClampNeg) lsA ⟨hao, fun z => absurd z (by omega), by rw [List.length_append]; exact Nat.le_add_right _ _, Nat.sub_le _ _⟩ ⟨fv_lv_sub hl (fv_lv_eq hao hbL), hw, by rw [epush]; exact hP1, by rw [epush]; exact hD1, hS1, by dsimp only; omega, by dsimp only; omega, by rw [hao _ (Or.inr (Nat.le_refl _))]; exact hbS, by rw [hao _ (Or.inr (by decide))]; exact hbT⟩
            dsimp only at this
            rw [List.map_cons, fv_map_eq hao hbV] at this
            simp only [fv_cv, eq1] at this
            exact this
          · cases h
        · cases h
      | _ => exact (Bool.false_ne_true hk).elim
  | nop =>
      dsimp only at h
      dsimp only [fv_rk] at hk
      cases raw with
      | invokespecial i =>
        simp only [fv_npc, Bool.and_eq_true, decide_eq_true_eq] at hk
        obtain ⟨hu, rfl, hlo, hfr⟩ := hk
        rw [Nat.add_sub_cancel_left] at hd
        obtain ⟨⟨q1, q2, q3⟩, hq, hu⟩ := List.any_eq_true.mp hu
        simp only [Bool.and_eq_true, decide_eq_true_eq] at hu
        obtain ⟨rfl, rfl⟩ := hu
        have h3 := List.all_eq_true.mp fv_OS_ok _ hq
        simp only [decide_eq_true_eq] at h3
        split at h
        · rename_i c0 st1
          split at h
          · rename_i hc8
            cases h
            have h8 : 2 * (F0 m pc lsA (.ref (ad c0) :: st1.map (fv_cv ad))).monitorRoom + ((st1.map (fv_cv ad)).map fun v => v.category).sum ≤ 8 := fv_room8 (by rw [fv_cs_map]; exact hc8)
            refine W.objInit hx hb hown (hts _ (fv_GL_in h3 rfl)) (hts _ fv_oi_in) (hts _ fv_oi_co) (g := F0 m pc lsA (.ref (ad c0) :: st1.map (fv_cv ad))) rfl (by rw [hml]; exact hl.1) rfl hd (by omega) (by omega) ?_
            exact W.eq rfl (K _ _ _ _ _ _ fv_agr.rf Dn)
          · cases h
        · cases h
      | _ => exact (Bool.false_ne_true hk).elim
  | dadd =>
      dsimp only at h
      dsimp only [fv_rk] at hk
      cases raw with
      | invokestatic i =>
        simp only [fv_npc, Bool.and_eq_true, decide_eq_true_eq] at hk
        obtain ⟨hu, rfl, hlo, hfr⟩ := hk
        rw [Nat.add_sub_cancel_left] at hd
        obtain ⟨ix, hq⟩ := fv_mem3 (by simpa only [Bool.and_eq_true, decide_eq_true_eq] using hu)
        have h3 := List.all_eq_true.mp fv_AS_ok _ hq
        simp only [Bool.and_eq_true, decide_eq_true_eq] at h3
        split at h
        · rename_i b a st1
          split at h
          · rename_i hc8
            cases h
            have h8 : ((st1.map (fv_cv ad)).map fun v => v.category).sum ≤ 8 := by rw [fv_cs_map]; exact hc8
            exact va_mmax hx hb (by rw [hml]; exact hl.1.symm) hown (hts _ (fv_GL_in h3.1 rfl)) (hts _ fv_max_st) (hts _ fv_math_in) (hts _ fv_max_co) (by omega) (by omega) (by omega) (by omega) hd (K _ _ _ _ _ _ fv_agr.rf Dn)
          · cases h
        · cases h
      | _ => exact (Bool.false_ne_true hk).elim
  | dsub =>
      dsimp only at h
      dsimp only [fv_rk] at hk
      cases raw with
      | invokestatic i =>
        simp only [fv_npc, Bool.and_eq_true, decide_eq_true_eq] at hk
        obtain ⟨hu, rfl, hlo, hfr⟩ := hk
        rw [Nat.add_sub_cancel_left] at hd
        obtain ⟨ix, hq⟩ := fv_mem3 (by simpa only [Bool.and_eq_true, decide_eq_true_eq] using hu)
        have h3 := List.all_eq_true.mp fv_AS_ok _ hq
        simp only [Bool.and_eq_true, decide_eq_true_eq] at h3
        split at h
        · rename_i b a st1
          split at h
          · rename_i hc8
            cases h
            have h8 : ((st1.map (fv_cv ad)).map fun v => v.category).sum ≤ 8 := by rw [fv_cs_map]; exact hc8
            exact va_mmin hx hb (by rw [hml]; exact hl.1.symm) hown (hts _ (fv_GL_in h3.1 rfl)) (hts _ fv_min_st) (hts _ fv_math_in) (hts _ fv_min_co) (by omega) (by omega) (by omega) (by omega) hd (K _ _ _ _ _ _ fv_agr.rf Dn)
          · cases h
        · cases h
      | _ => exact (Bool.false_ne_true hk).elim
  | monitorenter =>
      dsimp only at h
      simp only [fv_rk, fv_npc, Bool.and_eq_true, decide_eq_true_eq] at hk
      obtain ⟨rfl, rfl⟩ := hk
      rw [Nat.add_sub_cancel_left] at hd
      split at h
      · rename_i c0 st1
        split at h
        · rename_i hcc
          obtain ⟨rfl, hyx, hc8⟩ := hcc
          cases h
          have h8 : ((st1.map (fv_cv ad)).map fun v => v.category).sum ≤ 8 := by rw [fv_cs_map]; exact hc8
          show W p l e R s m args below meth c H locs cells slots Q (F0 m pc lsA (.ref (ad fv_STR) :: st1.map (fv_cv ad)))
          rw [hbT]
          exact ((hstr hyx).2 Q H locs cells slots pc lsA _ hS (by rw [hml]; exact hl.1) (by omega) (by omega) h8).1 (by rw [hb]; exact hd) (fun locs' hS' => K _ _ _ _ _ _ fv_agr.rf ⟨hl, hw, hP, hD, hS', hkc, hks, hbS, hbT⟩)
        · cases h
      · cases h
  | monitorexit =>
      dsimp only at h
      simp only [fv_rk, fv_npc, Bool.and_eq_true, decide_eq_true_eq] at hk
      obtain ⟨rfl, rfl⟩ := hk
      rw [Nat.add_sub_cancel_left] at hd
      split at h
      · rename_i j c0 st1
        split at h
        · rename_i hcc
          obtain ⟨rfl, hyx, hc8, hin⟩ := hcc
          cases h
          have h8 : ((st1.map (fv_cv ad)).map fun v => v.category).sum ≤ 8 := by rw [fv_cs_map]; exact hc8
          show W p l e R s m args below meth c H locs cells slots Q (F0 m pc lsA (.int j :: .ref (ad fv_STR) :: st1.map (fv_cv ad)))
          rw [hbT]
          exact ((hstr hyx).2 Q H locs cells slots pc lsA _ hS (by rw [hml]; exact hl.1) (by omega) (by omega) h8).2 j hin (by rw [hb]; exact hd) (fun locs' hS' => K _ _ _ _ _ _ fv_agr.rf ⟨hl, hw, hP, hD, hS', hkc, hks, hbS, hbT⟩)
        · cases h
      · cases h
  | invokestatic z => dsimp only at h; split at h <;> cases h
  | ireturn =>
      dsimp only at h
      split at h
      · split at h <;> cases h
      · cases h
  | return_ =>
      dsimp only at h
      split at h
      · split at h <;> cases h
      · cases h
  | _ => cases hh
theorem fv_step {pc : Nat} {ls : fv_Sl} {st : List Value} {k : Nat × Nat} {sh : fv_Sh} {M : fv_M} {q : Nat × fv_Sl × List Value × (Nat × Nat) × fv_Sh × fv_M} {ad : Nat → Nat} {H : Heap} {locs : List Loc} {cells slots : Nat} {lsA : Array Slot}
    (S : fv_St X bS p R s m args meth c y D tc A mc ms) (hstr : y = fv_XI → fv_strL p l e R s m args below meth c bT ∧ fv_strR p l e R s m args below meth c A bT) (Dn : fv_Dy bS bT s y D tc A mc ms ls k sh M ad H locs cells slots lsA) (h : fv_nx X y pc ls st k sh M = some (.inl q)) (K : fv_K X bS bT p l e R s m args below meth c Q y D tc A mc ms ad k sh q) : W p l e R s m args below meth c H locs cells slots Q (F0 m pc lsA (st.map (fv_cv ad))) := by
  cases hlk : fv_lk y pc with
  | none =>
    unfold fv_nx at h
    rw [hlk] at h
    cases h
  | some x =>
    obtain ⟨i, np⟩ := x
    cases hh : fv_heapI i with
    | false => exact fv_step1 S hstr Dn hlk hh h K
    | true => exact fv_step2 S hstr Dn hlk hh h K
end
