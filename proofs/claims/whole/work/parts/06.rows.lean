/-! each row of code: what the class file has there, and the words that its links rest on -/
def fv_npc (r : fv_Row) (d : Nat) : Bool := decide (r.2.2.1 = r.1 + d)
def fv_off (r : fv_Row) (off t : Int) : Bool := decide ((r.1 : Int) + off = t) && decide (0 ≤ t)
def fv_roomok (y z : Nat) : Bool := decide (fv_fr z + 1 ≤ fv_fr y) && decide (8 + (fv_ml z + 11) + fv_lo z ≤ fv_lo y)
def fv_csin (y idx z kd : Nat) : Bool := fv_CS.any (fun q => decide (q.1 = fv_ow y) && (decide (q.2.1 = idx) && (decide (q.2.2.1 = z) && decide (q.2.2.2.1 = kd))))
def fv_fsin (y idx ci k : Nat) : Bool := fv_FS.any (fun q => decide (q.1 = fv_ow y) && (decide (q.2.1 = idx) && (decide (q.2.2.1 = ci) && decide (q.2.2.2.1 = k))))
def fv_rk (y : Nat) (r : fv_Row) : Bool := match r.2.2.2 with
  | .iconst v => (match r.2.1 with
    | .iconst u => decide (v = u) && fv_npc r 1
    | .bipush u => decide ((Int8.ofInt u).toInt32 = Int32.ofInt v) && fv_npc r 2
    | .sipush u => decide ((Int16.ofInt u).toInt32 = Int32.ofInt v) && fv_npc r 3
    | .ldc_w i => fv_IS.any (fun q => decide (q.1 = fv_ow y) && (decide (q.2.1 = i) && decide (q.2.2.1 = v))) && fv_npc r 3
    | _ => false)
  | .ldc2_w v => (match r.2.1 with
    | .lconst u => decide ((u : Nat) = v) && fv_npc r 1
    | .ldc2_w i => fv_JS.any (fun q => decide (q.1 = fv_ow y) && (decide (q.2.1 = i) && decide (q.2.2.1 = v))) && fv_npc r 3
    | _ => false)
  | .ldc _ => (match r.2.1 with
    | .ldc i => decide (i = 55) && fv_npc r 2
    | _ => false)
  | .iload j => (match r.2.1 with
    | .iload i => decide (i = j) && fv_npc r 2
    | .iload_n i => decide ((i : Nat) = j) && fv_npc r 1
    | _ => false)
  | .aload j => (match r.2.1 with
    | .aload i => decide (i = j) && fv_npc r 2
    | .aload_n i => decide ((i : Nat) = j) && fv_npc r 1
    | _ => false)
  | .lload j => (match r.2.1 with
    | .lload i => decide (i = j) && fv_npc r 2
    | .lload_n i => decide ((i : Nat) = j) && fv_npc r 1
    | _ => false)
  | .istore j => decide (j < fv_ml y) && (match r.2.1 with
    | .istore i => decide (i = j) && fv_npc r 2
    | .istore_n i => decide ((i : Nat) = j) && fv_npc r 1
    | _ => false)
  | .astore j => decide (j < fv_ml y) && (match r.2.1 with
    | .astore i => decide (i = j) && fv_npc r 2
    | .astore_n i => decide ((i : Nat) = j) && fv_npc r 1
    | _ => false)
  | .lstore j => decide (j + 1 < fv_ml y) && (match r.2.1 with
    | .lstore i => decide (i = j) && fv_npc r 2
    | .lstore_n i => decide ((i : Nat) = j) && fv_npc r 1
    | _ => false)
  | .iinc j c => decide (r.2.1 = .iinc j c) && fv_npc r 3
  | .goto t => (match r.2.1 with
    | .goto off => fv_off r off t && fv_npc r 3
    | _ => false)
  | .multianewarray t _ => (match r.2.1 with
    | .goto off => fv_off r off t && fv_npc r 3
    | _ => false)
  | .ifCond c t => (match r.2.1 with
    | .ifCond c' off => decide (c = c') && (fv_off r off t && fv_npc r 3)
    | _ => false)
  | .if_icmp c t => (match r.2.1 with
    | .if_icmp c' off => decide (c = c') && (fv_off r off t && fv_npc r 3)
    | _ => false)
  | .ifnull t => (match r.2.1 with
    | .ifnull off => fv_off r off t && fv_npc r 3
    | _ => false)
  | .ifnonnull t => (match r.2.1 with
    | .ifnonnull off => fv_off r off t && fv_npc r 3
    | _ => false)
  | .tableswitch d lo hi offs => (match r.2.1 with
    | .tableswitch d' lo' hi' offs' => decide (lo = lo') && (decide (hi = hi') && (fv_off r d' d && (decide (offs = offs'.map (fun o => (r.1 : Int) + o)) && offs'.all (fun o => decide (0 ≤ (r.1 : Int) + o)))))
    | _ => false)
  | .getfield q => (match r.2.1 with
    | .getfield i => fv_fsin y i (q / 100) (q % 100) && fv_npc r 3
    | _ => false)
  | .putfield q => (match r.2.1 with
    | .putfield i => fv_fsin y i (q / 100) (q % 100) && (fv_npc r 3 && (!((fv_T (q / 100)) (q % 100)).2.2.2 || (decide ((fv_y y).name = "<init>") && decide (fv_ow y = q / 100))))
    | _ => false)
  | .invokestatic z => fv_roomok y z && (fv_npc r 3 && (match r.2.1 with
    | .invokestatic i => fv_csin y i z 0 || fv_csin y i z 1
    | .invokevirtual i => fv_csin y i z 2
    | .invokespecial i => fv_csin y i z 3 || fv_csin y i z 4
    | _ => false))
  | .nop => (match r.2.1 with
    | .invokespecial i => fv_OS.any (fun q => decide (q.1 = fv_ow y) && decide (q.2.1 = i)) && (fv_npc r 3 && (decide (20 ≤ fv_lo y) && decide (1 ≤ fv_fr y)))
    | _ => false)
  | .dadd => (match r.2.1 with
    | .invokestatic i => fv_AS.any (fun q => decide (q.1 = fv_ow y) && (decide (q.2.1 = i) && decide (q.2.2.1 = 0))) && (fv_npc r 3 && (decide (21 ≤ fv_lo y) && decide (1 ≤ fv_fr y)))
    | _ => false)
  | .dsub => (match r.2.1 with
    | .invokestatic i => fv_AS.any (fun q => decide (q.1 = fv_ow y) && (decide (q.2.1 = i) && decide (q.2.2.1 = 1))) && (fv_npc r 3 && (decide (21 ≤ fv_lo y) && decide (1 ≤ fv_fr y)))
    | _ => false)
  | .monitorenter => decide (r.2.1 = .invokevirtual 57) && fv_npc r 3
  | .monitorexit => decide (r.2.1 = .invokevirtual 63) && fv_npc r 3
  | .new ci => (match r.2.1 with
    | .new i => fv_NS.any (fun q => decide (q.1 = fv_ow y) && (decide (q.2.1 = i) && decide (q.2.2.1 = ci))) && fv_npc r 3
    | _ => false)
  | .anewarray ci => (match r.2.1 with
    | .anewarray i => fv_NS.any (fun q => decide (q.1 = fv_ow y) && (decide (q.2.1 = i) && decide (q.2.2.1 = ci))) && fv_npc r 3
    | _ => false)
  | .newarray t => decide (r.2.1 = .newarray t) && fv_npc r 2
  | a => decide (r.2.1 = a) && fv_npc r 1
set_option maxRecDepth 100000 in
theorem fv_rk_0 : (List.range 13).all (fun i => (fv_rows.getD (0 + i) []).all (fv_rk (0 + i))) = true := by decide +kernel
set_option maxRecDepth 100000 in
theorem fv_rk_13 : (List.range 13).all (fun i => (fv_rows.getD (13 + i) []).all (fv_rk (13 + i))) = true := by decide +kernel
set_option maxRecDepth 100000 in
theorem fv_rk_26 : (List.range 13).all (fun i => (fv_rows.getD (26 + i) []).all (fv_rk (26 + i))) = true := by decide +kernel
set_option maxRecDepth 100000 in
theorem fv_rk_39 : (List.range 13).all (fun i => (fv_rows.getD (39 + i) []).all (fv_rk (39 + i))) = true := by decide +kernel
set_option maxRecDepth 100000 in
theorem fv_rk_52 : (List.range 13).all (fun i => (fv_rows.getD (52 + i) []).all (fv_rk (52 + i))) = true := by decide +kernel
set_option maxRecDepth 100000 in
theorem fv_rk_65 : (List.range 13).all (fun i => (fv_rows.getD (65 + i) []).all (fv_rk (65 + i))) = true := by decide +kernel
set_option maxRecDepth 100000 in
theorem fv_rk_78 : (List.range 13).all (fun i => (fv_rows.getD (78 + i) []).all (fv_rk (78 + i))) = true := by decide +kernel
set_option maxRecDepth 100000 in
theorem fv_rk_91 : (List.range 13).all (fun i => (fv_rows.getD (91 + i) []).all (fv_rk (91 + i))) = true := by decide +kernel
set_option maxRecDepth 100000 in
theorem fv_rk_104 : (List.range 13).all (fun i => (fv_rows.getD (104 + i) []).all (fv_rk (104 + i))) = true := by decide +kernel
set_option maxRecDepth 100000 in
theorem fv_rk_117 : (List.range 13).all (fun i => (fv_rows.getD (117 + i) []).all (fv_rk (117 + i))) = true := by decide +kernel
set_option maxRecDepth 100000 in
theorem fv_rk_130 : (List.range 13).all (fun i => (fv_rows.getD (130 + i) []).all (fv_rk (130 + i))) = true := by decide +kernel
set_option maxRecDepth 100000 in
theorem fv_rk_143 : (List.range 13).all (fun i => (fv_rows.getD (143 + i) []).all (fv_rk (143 + i))) = true := by decide +kernel
set_option maxRecDepth 100000 in
theorem fv_rk_156 : (List.range 13).all (fun i => (fv_rows.getD (156 + i) []).all (fv_rk (156 + i))) = true := by decide +kernel
theorem fv_rk_all {y : Nat} (h : y < 169) : (fv_rows.getD y []).all (fv_rk y) = true := by
  have f : ∀ (a n : Nat), (List.range n).all (fun i => (fv_rows.getD (a + i) []).all (fv_rk (a + i))) = true → a ≤ y → y < a + n → (fv_rows.getD y []).all (fv_rk y) = true := fun a n e h1 h2 => by
    have h3 := List.all_eq_true.mp e (y - a) (List.mem_range.mpr (by omega))
    rwa [show a + (y - a) = y by omega] at h3
  rcases (by omega : (0 ≤ y ∧ y < 13) ∨ (13 ≤ y ∧ y < 26) ∨ (26 ≤ y ∧ y < 39) ∨ (39 ≤ y ∧ y < 52) ∨ (52 ≤ y ∧ y < 65) ∨ (65 ≤ y ∧ y < 78) ∨ (78 ≤ y ∧ y < 91) ∨ (91 ≤ y ∧ y < 104) ∨ (104 ≤ y ∧ y < 117) ∨ (117 ≤ y ∧ y < 130) ∨ (130 ≤ y ∧ y < 143) ∨ (143 ≤ y ∧ y < 156) ∨ (156 ≤ y ∧ y < 169)) with g | g | g | g | g | g | g | g | g | g | g | g | g
  · exact f 0 13 fv_rk_0 g.1 g.2
  · exact f 13 13 fv_rk_13 g.1 g.2
  · exact f 26 13 fv_rk_26 g.1 g.2
  · exact f 39 13 fv_rk_39 g.1 g.2
  · exact f 52 13 fv_rk_52 g.1 g.2
  · exact f 65 13 fv_rk_65 g.1 g.2
  · exact f 78 13 fv_rk_78 g.1 g.2
  · exact f 91 13 fv_rk_91 g.1 g.2
  · exact f 104 13 fv_rk_104 g.1 g.2
  · exact f 117 13 fv_rk_117 g.1 g.2
  · exact f 130 13 fv_rk_130 g.1 g.2
  · exact f 143 13 fv_rk_143 g.1 g.2
  · exact f 156 13 fv_rk_156 g.1 g.2
set_option maxRecDepth 100000 in
theorem fv_dc_13 : ∀ y : Nat, y < 13 → (fv_rows.getD y []).all (fun r => decide (decode (fv_cc y) r.1 = .ok (r.2.1, r.2.2.1 - r.1))) = true := lt_s (lt_s (lt_s (lt_s (lt_s (lt_s (lt_s (lt_s (lt_s (lt_s (lt_s (lt_s (lt_s (lt_0) fv_d0) fv_d1) fv_d2) fv_d3) fv_d4) fv_d5) fv_d6) fv_d7) fv_d8) fv_d9) fv_d10) fv_d11) fv_d12
set_option maxRecDepth 100000 in
theorem fv_dc_26 : ∀ y : Nat, y < 26 → (fv_rows.getD y []).all (fun r => decide (decode (fv_cc y) r.1 = .ok (r.2.1, r.2.2.1 - r.1))) = true := lt_s (lt_s (lt_s (lt_s (lt_s (lt_s (lt_s (lt_s (lt_s (lt_s (lt_s (lt_s (lt_s (fv_dc_13) fv_d13) fv_d14) fv_d15) fv_d16) fv_d17) fv_d18) fv_d19) fv_d20) fv_d21) fv_d22) fv_d23) fv_d24) fv_d25
set_option maxRecDepth 100000 in
theorem fv_dc_39 : ∀ y : Nat, y < 39 → (fv_rows.getD y []).all (fun r => decide (decode (fv_cc y) r.1 = .ok (r.2.1, r.2.2.1 - r.1))) = true := lt_s (lt_s (lt_s (lt_s (lt_s (lt_s (lt_s (lt_s (lt_s (lt_s (lt_s (lt_s (lt_s (fv_dc_26) fv_d26) fv_d27) fv_d28) fv_d29) fv_d30) fv_d31) fv_d32) fv_d33) fv_d34) fv_d35) fv_d36) fv_d37) fv_d38
set_option maxRecDepth 100000 in
theorem fv_dc_52 : ∀ y : Nat, y < 52 → (fv_rows.getD y []).all (fun r => decide (decode (fv_cc y) r.1 = .ok (r.2.1, r.2.2.1 - r.1))) = true := lt_s (lt_s (lt_s (lt_s (lt_s (lt_s (lt_s (lt_s (lt_s (lt_s (lt_s (lt_s (lt_s (fv_dc_39) fv_d39) fv_d40) fv_d41) fv_d42) fv_d43) fv_d44) fv_d45) fv_d46) fv_d47) fv_d48) fv_d49) fv_d50) fv_d51
set_option maxRecDepth 100000 in
theorem fv_dc_65 : ∀ y : Nat, y < 65 → (fv_rows.getD y []).all (fun r => decide (decode (fv_cc y) r.1 = .ok (r.2.1, r.2.2.1 - r.1))) = true := lt_s (lt_s (lt_s (lt_s (lt_s (lt_s (lt_s (lt_s (lt_s (lt_s (lt_s (lt_s (lt_s (fv_dc_52) fv_d52) fv_d53) fv_d54) fv_d55) fv_d56) fv_d57) fv_d58) fv_d59) fv_d60) fv_d61) fv_d62) fv_d63) fv_d64
set_option maxRecDepth 100000 in
theorem fv_dc_78 : ∀ y : Nat, y < 78 → (fv_rows.getD y []).all (fun r => decide (decode (fv_cc y) r.1 = .ok (r.2.1, r.2.2.1 - r.1))) = true := lt_s (lt_s (lt_s (lt_s (lt_s (lt_s (lt_s (lt_s (lt_s (lt_s (lt_s (lt_s (lt_s (fv_dc_65) fv_d65) fv_d66) fv_d67) fv_d68) fv_d69) fv_d70) fv_d71) fv_d72) fv_d73) fv_d74) fv_d75) fv_d76) fv_d77
set_option maxRecDepth 100000 in
theorem fv_dc_91 : ∀ y : Nat, y < 91 → (fv_rows.getD y []).all (fun r => decide (decode (fv_cc y) r.1 = .ok (r.2.1, r.2.2.1 - r.1))) = true := lt_s (lt_s (lt_s (lt_s (lt_s (lt_s (lt_s (lt_s (lt_s (lt_s (lt_s (lt_s (lt_s (fv_dc_78) fv_d78) fv_d79) fv_d80) fv_d81) fv_d82) fv_d83) fv_d84) fv_d85) fv_d86) fv_d87) fv_d88) fv_d89) fv_d90
set_option maxRecDepth 100000 in
theorem fv_dc_104 : ∀ y : Nat, y < 104 → (fv_rows.getD y []).all (fun r => decide (decode (fv_cc y) r.1 = .ok (r.2.1, r.2.2.1 - r.1))) = true := lt_s (lt_s (lt_s (lt_s (lt_s (lt_s (lt_s (lt_s (lt_s (lt_s (lt_s (lt_s (lt_s (fv_dc_91) fv_d91) fv_d92) fv_d93) fv_d94) fv_d95) fv_d96) fv_d97) fv_d98) fv_d99) fv_d100) fv_d101) fv_d102) fv_d103
set_option maxRecDepth 100000 in
theorem fv_dc_117 : ∀ y : Nat, y < 117 → (fv_rows.getD y []).all (fun r => decide (decode (fv_cc y) r.1 = .ok (r.2.1, r.2.2.1 - r.1))) = true := lt_s (lt_s (lt_s (lt_s (lt_s (lt_s (lt_s (lt_s (lt_s (lt_s (lt_s (lt_s (lt_s (fv_dc_104) fv_d104) fv_d105) fv_d106) fv_d107) fv_d108) fv_d109) fv_d110) fv_d111) fv_d112) fv_d113) fv_d114) fv_d115) fv_d116
set_option maxRecDepth 100000 in
theorem fv_dc_130 : ∀ y : Nat, y < 130 → (fv_rows.getD y []).all (fun r => decide (decode (fv_cc y) r.1 = .ok (r.2.1, r.2.2.1 - r.1))) = true := lt_s (lt_s (lt_s (lt_s (lt_s (lt_s (lt_s (lt_s (lt_s (lt_s (lt_s (lt_s (lt_s (fv_dc_117) fv_d117) fv_d118) fv_d119) fv_d120) fv_d121) fv_d122) fv_d123) fv_d124) fv_d125) fv_d126) fv_d127) fv_d128) fv_d129
set_option maxRecDepth 100000 in
theorem fv_dc_143 : ∀ y : Nat, y < 143 → (fv_rows.getD y []).all (fun r => decide (decode (fv_cc y) r.1 = .ok (r.2.1, r.2.2.1 - r.1))) = true := lt_s (lt_s (lt_s (lt_s (lt_s (lt_s (lt_s (lt_s (lt_s (lt_s (lt_s (lt_s (lt_s (fv_dc_130) fv_d130) fv_d131) fv_d132) fv_d133) fv_d134) fv_d135) fv_d136) fv_d137) fv_d138) fv_d139) fv_d140) fv_d141) fv_d142
set_option maxRecDepth 100000 in
theorem fv_dc_156 : ∀ y : Nat, y < 156 → (fv_rows.getD y []).all (fun r => decide (decode (fv_cc y) r.1 = .ok (r.2.1, r.2.2.1 - r.1))) = true := lt_s (lt_s (lt_s (lt_s (lt_s (lt_s (lt_s (lt_s (lt_s (lt_s (lt_s (lt_s (lt_s (fv_dc_143) fv_d143) fv_d144) fv_d145) fv_d146) fv_d147) fv_d148) fv_d149) fv_d150) fv_d151) fv_d152) fv_d153) fv_d154) fv_d155
set_option maxRecDepth 100000 in
theorem fv_dc_169 : ∀ y : Nat, y < 169 → (fv_rows.getD y []).all (fun r => decide (decode (fv_cc y) r.1 = .ok (r.2.1, r.2.2.1 - r.1))) = true := lt_s (lt_s (lt_s (lt_s (lt_s (lt_s (lt_s (lt_s (lt_s (lt_s (lt_s (lt_s (lt_s (fv_dc_156) fv_d156) fv_d157) fv_d158) fv_d159) fv_d160) fv_d161) fv_d162) fv_d163) fv_d164) fv_d165) fv_d166) fv_d167) fv_d168
theorem fv_row {y pc np : Nat} {i : Instr} (hy : y < 169) (h : fv_lk y pc = some (i, np)) : ∃ raw : Instr, decode (fv_cc y) pc = .ok (raw, np - pc) ∧ fv_rk y (pc, raw, np, i) = true := by
  unfold fv_lk at h
  cases e : (fv_rows.getD y []).find? (fun r => r.1 == pc) with
  | none => rw [e] at h; cases h
  | some r =>
    rw [e] at h
    obtain ⟨a, raw, b, j⟩ := r
    have h1 := List.find?_some e
    have h2 := List.mem_of_find?_eq_some e
    simp only [beq_iff_eq] at h1
    simp only [Option.map_some, Option.some.injEq, Prod.mk.injEq] at h
    obtain ⟨rfl, rfl⟩ := h
    subst h1
    have h3 := List.all_eq_true.mp (fv_dc_169 y hy) _ h2
    have h4 := List.all_eq_true.mp (fv_rk_all hy) _ h2
    dsimp only at h3
    exact ⟨raw, of_decide_eq_true h3, h4⟩
