/-! whatever the linked program does, the machine does  -/
theorem fv_cs_in {y i z kd : Nat} (h : fv_csin y i z kd = true) : ∃ ix, (fv_ow y, i, z, kd, ix) ∈ fv_CS := by
  obtain ⟨⟨a, b, c0, d, ix⟩, hq, h⟩ := List.any_eq_true.mp h
  simp only [Bool.and_eq_true, decide_eq_true_eq] at h
  obtain ⟨rfl, rfl, rfl, rfl⟩ := h
  exact ⟨ix, hq⟩
theorem fv_cs_link {y i z kd ix : Nat} (h : (fv_ow y, i, z, kd, ix) ∈ fv_CS) (h1 : kd ≠ 1) (h4 : kd ≠ 4) : Cond.methodLink (fv_RN (fv_ow y)) i (fv_y z) ∈ fv_GL := by
  have h2 := List.all_eq_true.mp fv_CS_ok _ h
  simp only [fv_csok, Bool.and_eq_true] at h2
  obtain ⟨⟨a1, a2⟩, a3⟩ := h2
  rw [if_neg (by omega)] at a2
  exact fv_GL_in (of_decide_eq_true a2) rfl
theorem fv_cs_nest {y i z kd ix : Nat} {s : State} (hN : ∀ w ∈ fv_nests, va_Nw w s) (h : (fv_ow y, i, z, kd, ix) ∈ fv_CS) (h1 : kd = 1 ∨ kd = 4) : va_Nw (Cond.methodLinkNest (fv_RN (fv_ow y)) i (fv_y z) "FamineOfVerbs") s :=
  hN _ (List.mem_map.mpr ⟨_, List.mem_filter.mpr ⟨h, decide_eq_true h1⟩, rfl⟩)
theorem fv_cs_kind {y i z kd ix : Nat} (h : (fv_ow y, i, z, kd, ix) ∈ fv_CS) : ((kd = 0 ∨ kd = 1) → fv_st z = true) ∧ (kd = 2 → fv_st z = false ∧ (fv_y z).name ≠ "<init>" ∧ fv_ow z < 7) ∧ ((kd = 3 ∨ kd = 4) → fv_st z = false ∧ (fv_y z).name = "<init>" ∧ fv_rt z = none) := by
  have h2 := List.all_eq_true.mp fv_CS_ok _ h
  simp only [fv_csok, Bool.and_eq_true] at h2
  obtain ⟨⟨a1, a2⟩, a3⟩ := h2
  refine ⟨fun hk => ?_, fun hk => ?_, fun hk => ?_⟩
  · rw [if_pos hk] at a3; exact a3
  · subst hk
    rw [if_neg (by omega), if_pos rfl] at a3
    simp only [Bool.and_eq_true, Bool.not_eq_true', decide_eq_true_eq] at a3
    exact a3
  · rw [if_neg (by omega), if_neg (by omega)] at a3
    simp only [Bool.and_eq_true, Bool.not_eq_true', decide_eq_true_eq] at a3
    exact ⟨a3.1.1, a3.1.2, a3.2⟩
set_option maxHeartbeats 8000000 in
theorem fv_call_ok {X : fv_X} {l : Launch} {n : Nat} (IH : fv_SA X l n) {bS bT : Nat} {p : Program} {e : Env} {R : Room} {s : State} {m : MethodId} {args : Array Value} {below : List Frame} {meth : Method} {c : Code} {Q : State → Prop} {y : Nat} {D : va_G} {tc : Nat → ClassId} {A : Nat → Prop} {mc ms : Nat} {pc : Nat} {ls : fv_Sl} {st : List Value} {k : Nat × Nat} {sh : fv_Sh} {M : fv_M} {r r2 : fv_R} {ad : Nat → Nat} {H : Heap} {locs : List Loc} {cells slots : Nat} {lsA : Array Slot} {z np : Nat} {as rest : List Value}
    (S : fv_St X bS p R s m args meth c y D tc A mc ms) (hN : ∀ w ∈ fv_nests, va_Nw w s) (hstr : y = fv_XI → fv_strL p l e R s m args below meth c bT ∧ fv_strR p l e R s m args below meth c A bT) (hlaw : y = fv_LAW → fv_strP bT A s s.heap) (Dn : fv_Dy bS bT s y D tc A mc ms ls k sh M ad H locs cells slots lsA)
    (hnx : fv_nx X y pc ls st k sh M = some (.inr (.inr (z, as, np, rest)))) (hcok : fv_cokb z as ls rest k sh = true) (hrcv : fv_rcv z as sh = true) (e2 : fv_run X n z 0 (as.map some) [] (fv_mc z, fv_ms z) sh M = some r2) (hrun : fv_run X n y np ls (r2.1.toList ++ rest) (k.1 - fv_mc z, k.2 - fv_ms z) r2.2.1 r2.2.2 = some r)
    (RH : fv_RH p l e R s m args below meth c Q y D tc A mc ms ad k sh r) : W p l e R s m args below meth c H locs cells slots Q (F0 m pc lsA (st.map (fv_cv ad))) := by
  obtain ⟨hx, hb, hml, hown, hts, hAO, hnm, hK, hA, hRc, hRs, hRf, hRl, hy, hscr⟩ := id S
  obtain ⟨hl, hw, hP, hD, hS, hkc, hks, hbS, hbT⟩ := id Dn
  obtain ⟨hlk, hz, hst, hlen⟩ := fv_nx_call hnx
  dsimp only at hlk hz hst hlen
  obtain ⟨c1, c2, hcat, h8, hbel⟩ := fv_cokb_iff.mp hcok
  have hzl : z < 168 := hz
  have hf := fv_mfacts hzl
  obtain ⟨f1, f2, f3, f4, f5, f6, f7, f8⟩ := hf
  have hM := fv_met IH hzl D tc ad as sh M H.size bT r2 hbT hlen hcat e2
  obtain ⟨raw, hd, hk⟩ := fv_row hy hlk
  have hfree : ∀ q, va_A (fv_w ad tc sh M) H.size q → A q := fun q h => by
    rcases h with ⟨j, x, h⟩ | h
    · exact hD.2 j (q, x) h
    · exact hA q (Nat.le_trans hS.1 h)
  have hpre : ∀ U : State, U.heap = H → s.WarmedH U.vm → fv_Pc D tc ad as sh M H.size z bT (as.map (fv_cv ad)).toArray U := fun U hU hW =>
    ⟨rfl, by rw [hU], by rw [hU]; exact hP, va_K.moved hW.alike hK, hD.weaken (fun _ _ _ _ => trivial), fv_nests_warm hW hN, va_AO.moved hW.alike hAO, fun q => by
      subst q
      exact (hlaw (fv_xi_law hy hlk)).go hW (fun a h1 h2 => by rw [hU]; exact hS.2.1 a h1 h2) hfree⟩
  have hstk : st.map (fv_cv ad) = (as.map (fv_cv ad)).reverse ++ rest.map (fv_cv ad) := by rw [hst, List.map_append, List.map_reverse]
  have h8m : 2 * (F0 m pc lsA (st.map (fv_cv ad))).monitorRoom + ((rest.map (fv_cv ad)).map fun v => v.category).sum ≤ 8 := fv_room8 (by rw [fv_cs_map]; exact h8)
  dsimp only [fv_rk] at hk
  rw [Bool.and_eq_true, Bool.and_eq_true] at hk
  obtain ⟨hroom, hnp, hkd⟩ := hk
  simp only [fv_roomok, Bool.and_eq_true, decide_eq_true_eq] at hroom
  simp only [fv_npc, decide_eq_true_eq] at hnp
  subst hnp
  rw [Nat.add_sub_cancel_left] at hd
  have hR : (fv_rm z).frames + 1 ≤ R.frames ∧ 8 + (fv_ml z + 11) + (fv_rm z).locals ≤ R.locals := ⟨Nat.le_trans hroom.1 hRf, Nat.le_trans hroom.2 hRl⟩
  have hfits : cells + fv_mc z ≤ R.cells ∧ slots + fv_ms z ≤ R.slots := ⟨by omega, by omega⟩
  have CF : CallFix p m c (fv_cc y) (fv_ml y) s args fv_GL (fv_RN (fv_ow y)) := ⟨hx, hb, hml, hown, hts⟩
  have gws : GoodIn fv_GL (fv_ws z) := fv_good (fun w hw => by
    rcases List.mem_cons.mp hw with rfl | hw
    · exact fv_code hzl
    · exact hw)
  have go : va_Run p l e R s m args below meth c H locs cells slots (fv_mc z) (fv_ms z) (F0 m pc lsA (st.map (fv_cv ad))) (rest.map (fv_cv ad)) (fv_Qc D tc ad r2 sh (fv_mc z, fv_ms z) (va_A (fv_w ad tc sh M) H.size) (as.map (fv_cv ad)).toArray) (va_A (fv_w ad tc sh M) H.size) → W p l e R s m args below meth c H locs cells slots Q (F0 m pc lsA (st.map (fv_cv ad))) := by
    intro hr
    refine fv_callG (A1 := va_A (fv_w ad tc sh M) H.size) (P := fun v t => v = r2.1 ∧ (r2.1 = none ∨ ∃ x : Int32, r2.1 = some (.int x)) ∧ ∃ ad' : Nat → Nat, fv_agr ad ad' (fv_mc z, fv_ms z) (0, 0) sh r2.2.1 ∧ va_P D fv_kinds (fv_w ad' tc r2.2.1 r2.2.2) t.heap ∧ va_D (va_A (fv_w ad tc sh M) H.size) (fv_w ad' tc r2.2.1 r2.2.2)) hr ?_ hS (fun q _ h => hfree q h) hfree ?_
    · intro st₀ v t h
      obtain ⟨⟨ad', hv, hr1, hag, hP1, hD1⟩, hF⟩ := h
      cases hv
      exact ⟨⟨rfl, hr1, ad', hag, hP1, hD1⟩, hF⟩
    · intro v t H1 locs1 ht hp hS1
      obtain ⟨rfl, hr1, ad', hag, hP1, hD1⟩ := hp
      rw [ht] at hP1
      have hsame : (∀ q ∈ fv_lv ad' ls, q ∈ fv_lv ad ls) ∧ rest.map (fv_cv ad') = rest.map (fv_cv ad) := by
        rcases hbel with h0 | ⟨hb1, hb2, -⟩
        · have := hag.2.1 h0
          subst this
          exact ⟨fun _ h => h, rfl⟩
        · exact ⟨fv_lv_eq hag.1 hb1, fv_map_eq hag.1 hb2⟩
      have hag2 : fv_agr ad ad' k (k.1 - fv_mc z, k.2 - fv_ms z) sh r2.2.1 := ⟨hag.1, fun h0 => hag.2.1 (by show fv_mc z = 0; omega), hag.2.2.1, Nat.sub_le _ _⟩
      have Dn2 : fv_Dy bS bT s y D tc A mc ms ls (k.1 - fv_mc z, k.2 - fv_ms z) r2.2.1 r2.2.2 ad' H1 locs1 (cells + fv_mc z) (slots + fv_ms z) lsA :=
        ⟨fv_lv_sub hl hsame.1, hw, hP1, hD1.weaken (fun _ q _ h => hfree q.1 h), hS1, by dsimp only; omega, by dsimp only; omega, by rw [hag.1 _ (Or.inr (Nat.le_refl _))]; exact hbS, by rw [hag.1 _ (Or.inr (by decide))]; exact hbT⟩
      have K := IH bS bT p e R s m args below meth c Q y D tc A mc ms (pc + 3) ls (r2.1.toList ++ rest) _ r2.2.1 r2.2.2 r ad' H1 locs1 _ _ lsA S hN hstr hlaw Dn2 hrun (fun ad3 H3 locs3 pc3 lsA3 hg3 hP3 hD3 hS3 hv3 => RH ad3 H3 locs3 pc3 lsA3 (hag2.tr hg3) hP3 hD3 hS3 hv3)
      have hvm : r2.1.toList.map (fv_cv ad') = r2.1.toList := by
        rcases hr1 with h | ⟨x, h⟩ <;> rw [h] <;> rfl
      rw [List.map_append, hvm, hsame.2] at K
      exact K
  have hstat : fv_st z = true → (parseMethodDescriptor (fv_y z).desc).map (fun d => d.parameters.length) = some (fv_np z) := fun h => by
    rw [h] at f8
    exact f8
  have hinst : fv_st z = false → ∃ as' : List Value, ∃ c0 ci : Nat, ∃ sl : List (Option Value), as = .ref c0 :: as' ∧ sh[c0]? = some (.inr (ci, sl)) ∧ ci = fv_ow z ∧ (parseMethodDescriptor (fv_y z).desc).map (fun d => d.parameters.length) = some as'.length := fun h => by
    unfold fv_rcv at hrcv
    rw [h, Bool.false_or] at hrcv
    split at hrcv
    · rename_i c0 as'
      split at hrcv
      · rename_i ci sl hs
        refine ⟨as', c0, ci, sl, rfl, hs, by simpa only [beq_iff_eq] using hrcv, ?_⟩
        rw [h] at f8
        cases hp : parseMethodDescriptor (fv_y z).desc with
        | none => rw [hp] at f8; cases f8
        | some d =>
          rw [hp] at f8
          simp only [Option.map_some, Option.some.injEq, Bool.false_eq_true, if_false] at f8 ⊢
          simp only [List.length_cons] at hlen
          omega
      · exact (Bool.false_ne_true hrcv).elim
    · exact (Bool.false_ne_true hrcv).elim
  cases raw with
  | invokestatic i =>
    simp only [Bool.or_eq_true] at hkd
    rcases hkd with hkd | hkd
    · obtain ⟨ix, hcs⟩ := fv_cs_in hkd
      have hs := (fv_cs_kind hcs).1 (Or.inl rfl)
      have gl := fv_cs_link hcs (by omega) (by omega)
      refine go (va_runS CF hM (va_cwS (fv_np z) hts (fv_good (fun w hw => ?_)) rfl rfl rfl ⟨f4, f5, hstat hs⟩ hR) ⟨fv_Pc_blind, hpre⟩ rfl (by rw [List.length_map]; exact hlen) hl.1 hstk h8m hd hfits)
      unfold va_wsS at hw
      rcases List.mem_append.mp hw with hw | hw
      · rcases List.mem_cons.mp hw with rfl | hw
        · exact gl
        · rcases List.mem_cons.mp hw with rfl | hw
          · exact f2 hs
          · rw [List.mem_singleton.mp hw]; exact f1
      · exact (gws w hw).1
    · obtain ⟨ix, hcs⟩ := fv_cs_in hkd
      have hs := (fv_cs_kind hcs).1 (Or.inr rfl)
      have gn := fv_cs_nest hN hcs (Or.inl rfl)
      exact go (va_runSN CF hM ⟨va_cnB (fv_np z) hts gws rfl rfl rfl gn (hts _ f1) ⟨f4, f5, hstat hs⟩ hR, hts _ (f2 hs), trivial⟩ ⟨fv_Pc_blind, hpre⟩ rfl (by rw [List.length_map]; exact hlen) hl.1 hstk h8m hd hfits)
  | invokevirtual i =>
    obtain ⟨ix, hcs⟩ := fv_cs_in hkd
    have hs := (fv_cs_kind hcs).2.1 rfl
    have gl := fv_cs_link hcs (by omega) (by omega)
    obtain ⟨as', c0, ci, sl, rfl, hsh, rfl, hpn⟩ := hinst hs.1
    have hsel := (f3 hs.1).2.resolve_left hs.2.1
    have h7 : fv_ow z < 7 := hs.2.2
    have he := fv_w_c (ad := ad) (tc := tc) (M := M) hsh
    rw [fv_ce_obj _ _ _ _ _ _ (by omega)] at he
    have hrec := va_recv hK hP (fv_kind_at _ h7) he
    refine go (va_runV (As := as'.map (fv_cv ad)) (b := ad c0) (C := (fv_y z).cls) CF hM (cwV as'.length hts (fv_good (fun w hw => ?_)) rfl rfl rfl ⟨rfl, f4, f5, hpn⟩ hR) ⟨fv_Pc_blind, by rw [f7]; exact hrec, hpre⟩ rfl (by rw [List.length_map]) hl.1 (by rw [hstk, List.map_cons, List.reverse_cons, List.append_assoc]; rfl) h8m hd hfits)
    unfold wsV at hw
    rcases List.mem_append.mp hw with hw | hw
    · rcases List.mem_cons.mp hw with rfl | hw
      · exact gl
      · rcases List.mem_cons.mp hw with rfl | hw
        · exact (f3 hs.1).1
        · rcases List.mem_cons.mp hw with rfl | hw
          · exact hsel
          · rw [List.mem_singleton.mp hw]; exact f1
    · exact (gws w hw).1
  | invokespecial i =>
    simp only [Bool.or_eq_true] at hkd
    rcases hkd with hkd | hkd
    · obtain ⟨ix, hcs⟩ := fv_cs_in hkd
      have hs := (fv_cs_kind hcs).2.2 (Or.inl rfl)
      have gl := fv_cs_link hcs (by omega) (by omega)
      obtain ⟨as', c0, ci, sl, rfl, hsh, rfl, hpn⟩ := hinst hs.1
      exact go (va_runI (As := as'.map (fv_cv ad)) (b := ad c0) CF hM (cwI as'.length hts gws (ws' := fv_GL) (bytes := fv_cc z) (maxL := fv_ml z) (by unfold fv_ws; rw [hs.2.2]) rfl rfl (hts _ f1) (hts _ gl) (hts _ (f3 hs.1).1) hs.2.1 ⟨f4, f5, hpn⟩ hR) ⟨fv_Pc_blind, hpre⟩ rfl (by rw [List.length_map]) hl.1 (by rw [hstk, List.map_cons, List.reverse_cons, List.append_assoc]; rfl) h8m hd hfits)
    · obtain ⟨ix, hcs⟩ := fv_cs_in hkd
      have hs := (fv_cs_kind hcs).2.2 (Or.inr rfl)
      have gn := fv_cs_nest hN hcs (Or.inr rfl)
      obtain ⟨as', c0, ci, sl, rfl, hsh, rfl, hpn⟩ := hinst hs.1
      exact go (va_runIN (As := as'.map (fv_cv ad)) (b := ad c0) CF hM ⟨va_cnB as'.length hts gws (ws' := fv_GL) (bytes := fv_cc z) (maxL := fv_ml z) (by unfold fv_ws; rw [hs.2.2]) rfl rfl gn (hts _ f1) ⟨f4, f5, hpn⟩ hR, hs.2.1, hts _ (f3 hs.1).1⟩ ⟨fv_Pc_blind, hpre⟩ rfl (by rw [List.length_map]) hl.1 (by rw [hstk, List.map_cons, List.reverse_cons, List.append_assoc]; rfl) h8m hd hfits)
  | _ => exact (Bool.false_ne_true hkd).elim
/-- WHATEVER THE LINKED PROGRAM DOES, THE MACHINE DOES -/
theorem fv_sound (X : fv_X) (l : Launch) : ∀ n, fv_SA X l n := by
  intro n
  induction n with
  | zero =>
    intro bS bT p e R s m args below meth c Q y D tc A mc ms pc ls st k sh M r ad H locs cells slots lsA S hN hstr hlaw Dn hrun RH
    cases hrun
  | succ n ih =>
    intro bS bT p e R s m args below meth c Q y D tc A mc ms pc ls st k sh M r ad H locs cells slots lsA S hN hstr hlaw Dn hrun RH
    unfold fv_run at hrun
    cases en : fv_nx X y pc ls st k sh M with
    | none => rw [en] at hrun; cases hrun
    | some q =>
      rw [en] at hrun
      cases q with
      | inl q =>
        exact fv_step S hstr Dn en (fun ad' H' locs' cells' slots' lsA' hag hDn => ih bS bT p e R s m args below meth c Q y D tc A mc ms _ _ _ _ _ _ r ad' H' locs' cells' slots' lsA' S hN hstr hlaw hDn hrun (fun ad3 H3 locs3 pc3 lsA3 hg3 hP3 hD3 hS3 hv3 => RH ad3 H3 locs3 pc3 lsA3 (hag.tr hg3) hP3 hD3 hS3 hv3))
      | inr q =>
        cases q with
        | inl v =>
          cases hrun
          obtain ⟨hrv, hst⟩ := fv_nx_ret S.2.2.2.2.2.2.2.2.2.2.2.2.2.1 en
          obtain ⟨hl, hw, hP, hD, hS, hkc, hks, hbS, hbT⟩ := Dn
          have K := RH ad H locs pc lsA ⟨fun _ _ => rfl, fun _ => rfl, Nat.le_refl _, Nat.zero_le _⟩ hP hD hS hrv
          have hvm : v.toList.map (fv_cv ad) = v.toList := by
            rcases hrv with ⟨x, h, -⟩ | ⟨h, -⟩ <;> rw [h] <;> rfl
          rw [hst, hvm]
          exact W.widen (by omega) (by omega) K
        | inr q =>
          obtain ⟨z, as, np, rest⟩ := q
          dsimp only at hrun
          by_cases hc : (fv_cokb z as ls rest k sh && fv_rcv z as sh) = true
          · rw [if_pos hc] at hrun
            obtain ⟨hc1, hc2⟩ := Bool.and_eq_true_iff.mp hc
            cases e2 : fv_run X n z 0 (as.map some) [] (fv_mc z, fv_ms z) sh M with
            | none => rw [e2] at hrun; cases hrun
            | some r2 =>
              rw [e2] at hrun
              exact fv_call_ok ih S hN hstr hlaw Dn en hc1 hc2 e2 hrun RH
          · rw [if_neg hc] at hrun
            cases hrun
