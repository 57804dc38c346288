/-! the first text: its land -/
def fm_tx (i : Nat) : Nat := fv_TXT.getD i 0
theorem fm_tx_all : (List.range 113).all (fun i => decide (fm_tx i ≤ 126)) = true := by decide +kernel
theorem fm_tx_le {i : Nat} (h : i < 113) : fm_tx i ≤ 126 := of_decide_eq_true (List.all_eq_true.mp fm_tx_all i (List.mem_range.mpr h))
theorem fm_it {p c a b d : Nat} {l l2 : fa_L} (h1 : fa_la fm_tx 113 p = c) (h2 : fa_nok fm_tx 113 (fa_kb c) (p + 1) = true) (h3 : fa_nu fm_tx 113 p 0 = a) (h4 : fa_nu fm_tx 113 p 1 = b) (h5 : fa_nu fm_tx 113 p 2 = d) (e : fa_ad c a b d l = some l2) : fa_it fm_tx 113 p l = some l2 := by
  unfold fa_it
  rw [h1, if_pos h2, h3, h4, h5, e]
theorem fm_go {p p2 f : Nat} {l l2 : fa_L} (hp : ¬ 113 ≤ p) (he : fa_it fm_tx 113 p l = some l2) (hx : fa_nx fm_tx 113 p = p2) : fa_run fm_tx 113 (f + 1) p l = fa_run fm_tx 113 f p2 l2 := by
  rw [fa_run_ok hp he, hx]
def fm_l0 : fa_L := fa_e
def fm_l1 : fa_L := fa_aV fm_l0 0 2
theorem fm_i0 : fa_it fm_tx 113 0 fm_l0 = some fm_l1 := fm_it (c := 118) (a := 0) (b := 2) (d := 701) (by decide +kernel) (by decide +kernel) (by decide +kernel) (by decide +kernel) (by decide +kernel) (by rw [fa_ad_118]; exact if_pos (by decide +kernel))
def fm_l2 : fa_L := fa_aV fm_l1 1 0
theorem fm_i1 : fa_it fm_tx 113 5 fm_l1 = some fm_l2 := fm_it (c := 118) (a := 1) (b := 0) (d := 702) (by decide +kernel) (by decide +kernel) (by decide +kernel) (by decide +kernel) (by decide +kernel) (by rw [fa_ad_118]; exact if_pos (by decide +kernel))
def fm_l3 : fa_L := fa_aV fm_l2 2 3
theorem fm_i2 : fa_it fm_tx 113 10 fm_l2 = some fm_l3 := fm_it (c := 118) (a := 2) (b := 3) (d := 703) (by decide +kernel) (by decide +kernel) (by decide +kernel) (by decide +kernel) (by decide +kernel) (by rw [fa_ad_118]; exact if_pos (by decide +kernel))
def fm_l4 : fa_L := fa_aV fm_l3 3 1
theorem fm_i3 : fa_it fm_tx 113 15 fm_l3 = some fm_l4 := fm_it (c := 118) (a := 3) (b := 1) (d := 623) (by decide +kernel) (by decide +kernel) (by decide +kernel) (by decide +kernel) (by decide +kernel) (by rw [fa_ad_118]; exact if_pos (by decide +kernel))
def fm_l5 : fa_L := fa_aN fm_l4 3
theorem fm_i4 : fa_it fm_tx 113 20 fm_l4 = some fm_l5 := fm_it (c := 110) (a := 3) (b := 626) (d := 6) (by decide +kernel) (by decide +kernel) (by decide +kernel) (by decide +kernel) (by decide +kernel) (by rw [fa_ad_110]; exact if_pos (by decide +kernel))
def fm_l6 : fa_L := fa_aN fm_l5 6
theorem fm_i5 : fa_it fm_tx 113 23 fm_l5 = some fm_l6 := fm_it (c := 110) (a := 6) (b := 621) (d := 13) (by decide +kernel) (by decide +kernel) (by decide +kernel) (by decide +kernel) (by decide +kernel) (by rw [fa_ad_110]; exact if_pos (by decide +kernel))
def fm_l7 : fa_L := fa_aN fm_l6 13
theorem fm_i6 : fa_it fm_tx 113 26 fm_l6 = some fm_l7 := fm_it (c := 110) (a := 13) (b := 629) (d := 9) (by decide +kernel) (by decide +kernel) (by decide +kernel) (by decide +kernel) (by decide +kernel) (by rw [fa_ad_110]; exact if_pos (by decide +kernel))
def fm_l8 : fa_L := fa_aN fm_l7 9
theorem fm_i7 : fa_it fm_tx 113 30 fm_l7 = some fm_l8 := fm_it (c := 110) (a := 9) (b := 624) (d := 4) (by decide +kernel) (by decide +kernel) (by decide +kernel) (by decide +kernel) (by decide +kernel) (by rw [fa_ad_110]; exact if_pos (by decide +kernel))
def fm_l9 : fa_L := fa_aN fm_l8 4
theorem fm_i8 : fa_it fm_tx 113 33 fm_l8 = some fm_l9 := fm_it (c := 110) (a := 4) (b := 687) (d := 7) (by decide +kernel) (by decide +kernel) (by decide +kernel) (by decide +kernel) (by decide +kernel) (by rw [fa_ad_110]; exact if_pos (by decide +kernel))
def fm_l10 : fa_L := fa_aT fm_l9 7
theorem fm_i9 : fa_it fm_tx 113 36 fm_l9 = some fm_l10 := fm_it (c := 116) (a := 7) (b := 682) (d := 25) (by decide +kernel) (by decide +kernel) (by decide +kernel) (by decide +kernel) (by decide +kernel) (by rw [fa_ad_116]; exact if_pos (by decide +kernel))
def fm_l11 : fa_L := fa_aT fm_l10 25
theorem fm_i10 : fa_it fm_tx 113 39 fm_l10 = some fm_l11 := fm_it (c := 116) (a := 25) (b := 670) (d := 0) (by decide +kernel) (by decide +kernel) (by decide +kernel) (by decide +kernel) (by decide +kernel) (by rw [fa_ad_116]; exact if_pos (by decide +kernel))
def fm_l12 : fa_L := fa_aS fm_l11 0 0 4
theorem fm_i11 : fa_it fm_tx 113 43 fm_l11 = some fm_l12 := fm_it (c := 115) (a := 0) (b := 0) (d := 4) (by decide +kernel) (by decide +kernel) (by decide +kernel) (by decide +kernel) (by decide +kernel) (by rw [fa_ad_115]; exact if_pos (by decide +kernel))
def fm_l13 : fa_L := fa_aS fm_l12 0 2 2
theorem fm_i12 : fa_it fm_tx 113 50 fm_l12 = some fm_l13 := fm_it (c := 115) (a := 0) (b := 2) (d := 2) (by decide +kernel) (by decide +kernel) (by decide +kernel) (by decide +kernel) (by decide +kernel) (by rw [fa_ad_115]; exact if_pos (by decide +kernel))
def fm_l14 : fa_L := fa_aS fm_l13 1 1 3
theorem fm_i13 : fa_it fm_tx 113 57 fm_l13 = some fm_l14 := fm_it (c := 115) (a := 1) (b := 1) (d := 3) (by decide +kernel) (by decide +kernel) (by decide +kernel) (by decide +kernel) (by decide +kernel) (by rw [fa_ad_115]; exact if_pos (by decide +kernel))
def fm_l15 : fa_L := fa_aS fm_l14 1 3 5
theorem fm_i14 : fa_it fm_tx 113 64 fm_l14 = some fm_l15 := fm_it (c := 115) (a := 1) (b := 3) (d := 5) (by decide +kernel) (by decide +kernel) (by decide +kernel) (by decide +kernel) (by decide +kernel) (by rw [fa_ad_115]; exact if_pos (by decide +kernel))
def fm_l16 : fa_L := fa_aS fm_l15 1 0 1
theorem fm_i15 : fa_it fm_tx 113 71 fm_l15 = some fm_l16 := fm_it (c := 115) (a := 1) (b := 0) (d := 1) (by decide +kernel) (by decide +kernel) (by decide +kernel) (by decide +kernel) (by decide +kernel) (by rw [fa_ad_115]; exact if_pos (by decide +kernel))
def fm_l17 : fa_L := fa_aW fm_l16 0 0 4
theorem fm_i16 : fa_it fm_tx 113 78 fm_l16 = some fm_l17 := fm_it (c := 119) (a := 0) (b := 0) (d := 4) (by decide +kernel) (by decide +kernel) (by decide +kernel) (by decide +kernel) (by decide +kernel) (by rw [fa_ad_119]; exact if_pos (by decide +kernel))
def fm_l18 : fa_L := fa_aW fm_l17 0 2 6
theorem fm_i17 : fa_it fm_tx 113 85 fm_l17 = some fm_l18 := fm_it (c := 119) (a := 0) (b := 2) (d := 6) (by decide +kernel) (by decide +kernel) (by decide +kernel) (by decide +kernel) (by decide +kernel) (by rw [fa_ad_119]; exact if_pos (by decide +kernel))
def fm_l19 : fa_L := fa_aW fm_l18 1 3 5
theorem fm_i18 : fa_it fm_tx 113 92 fm_l18 = some fm_l19 := fm_it (c := 119) (a := 1) (b := 3) (d := 5) (by decide +kernel) (by decide +kernel) (by decide +kernel) (by decide +kernel) (by decide +kernel) (by rw [fa_ad_119]; exact if_pos (by decide +kernel))
def fm_l20 : fa_L := fa_aW fm_l19 0 1 2
theorem fm_i19 : fa_it fm_tx 113 99 fm_l19 = some fm_l20 := fm_it (c := 119) (a := 0) (b := 1) (d := 2) (by decide +kernel) (by decide +kernel) (by decide +kernel) (by decide +kernel) (by decide +kernel) (by rw [fa_ad_119]; exact if_pos (by decide +kernel))
def fm_l21 : fa_L := fa_aW fm_l20 1 0 7
theorem fm_i20 : fa_it fm_tx 113 106 fm_l20 = some fm_l21 := fm_it (c := 119) (a := 1) (b := 0) (d := 7) (by decide +kernel) (by decide +kernel) (by decide +kernel) (by decide +kernel) (by decide +kernel) (by rw [fa_ad_119]; exact if_pos (by decide +kernel))
theorem fm_run : fa_run fm_tx 113 113 0 fa_e = (none, fm_l21) := by
  refine (fm_go (p := 0) (p2 := 5) (f := 112) (l := fm_l0) (by decide) fm_i0 (by decide +kernel)).trans ?_
  refine (fm_go (p := 5) (p2 := 10) (f := 111) (l := fm_l1) (by decide) fm_i1 (by decide +kernel)).trans ?_
  refine (fm_go (p := 10) (p2 := 15) (f := 110) (l := fm_l2) (by decide) fm_i2 (by decide +kernel)).trans ?_
  refine (fm_go (p := 15) (p2 := 20) (f := 109) (l := fm_l3) (by decide) fm_i3 (by decide +kernel)).trans ?_
  refine (fm_go (p := 20) (p2 := 23) (f := 108) (l := fm_l4) (by decide) fm_i4 (by decide +kernel)).trans ?_
  refine (fm_go (p := 23) (p2 := 26) (f := 107) (l := fm_l5) (by decide) fm_i5 (by decide +kernel)).trans ?_
  refine (fm_go (p := 26) (p2 := 30) (f := 106) (l := fm_l6) (by decide) fm_i6 (by decide +kernel)).trans ?_
  refine (fm_go (p := 30) (p2 := 33) (f := 105) (l := fm_l7) (by decide) fm_i7 (by decide +kernel)).trans ?_
  refine (fm_go (p := 33) (p2 := 36) (f := 104) (l := fm_l8) (by decide) fm_i8 (by decide +kernel)).trans ?_
  refine (fm_go (p := 36) (p2 := 39) (f := 103) (l := fm_l9) (by decide) fm_i9 (by decide +kernel)).trans ?_
  refine (fm_go (p := 39) (p2 := 43) (f := 102) (l := fm_l10) (by decide) fm_i10 (by decide +kernel)).trans ?_
  refine (fm_go (p := 43) (p2 := 50) (f := 101) (l := fm_l11) (by decide) fm_i11 (by decide +kernel)).trans ?_
  refine (fm_go (p := 50) (p2 := 57) (f := 100) (l := fm_l12) (by decide) fm_i12 (by decide +kernel)).trans ?_
  refine (fm_go (p := 57) (p2 := 64) (f := 99) (l := fm_l13) (by decide) fm_i13 (by decide +kernel)).trans ?_
  refine (fm_go (p := 64) (p2 := 71) (f := 98) (l := fm_l14) (by decide) fm_i14 (by decide +kernel)).trans ?_
  refine (fm_go (p := 71) (p2 := 78) (f := 97) (l := fm_l15) (by decide) fm_i15 (by decide +kernel)).trans ?_
  refine (fm_go (p := 78) (p2 := 85) (f := 96) (l := fm_l16) (by decide) fm_i16 (by decide +kernel)).trans ?_
  refine (fm_go (p := 85) (p2 := 92) (f := 95) (l := fm_l17) (by decide) fm_i17 (by decide +kernel)).trans ?_
  refine (fm_go (p := 92) (p2 := 99) (f := 94) (l := fm_l18) (by decide) fm_i18 (by decide +kernel)).trans ?_
  refine (fm_go (p := 99) (p2 := 106) (f := 93) (l := fm_l19) (by decide) fm_i19 (by decide +kernel)).trans ?_
  refine (fm_go (p := 106) (p2 := 113) (f := 92) (l := fm_l20) (by decide) fm_i20 (by decide +kernel)).trans ?_
  exact fa_run_end (by decide)
theorem fm_l_wl : fa_wl fm_l21 := by
  have h := fa_run_wl fm_tx 113 113 0 fa_e fa_e_wl
  rw [fm_run] at h
  exact h
theorem fm_l_nv : fm_l21.nv = 4 := rfl
theorem fm_l_nt : fm_l21.nt = 2 := rfl
