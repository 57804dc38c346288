/-! sites: fields, calls, kinds of objects, constants, by their place in the pool; own program gen/p01.py -/
/-- kind of the user, place in its pool, kind of the object, field, place of the word -/
def fv_FS : List (Nat × Nat × Nat × Nat × Nat) := [(0, 9, 0, 0, 208), (0, 15, 0, 1, 209), (0, 18, 0, 2, 210), (0, 22, 0, 3, 211), (1, 9, 1, 4, 108), (1, 15, 1, 5, 111), (1, 18, 1, 6, 114), (1, 21, 1, 7, 115), (1, 24, 1, 8, 116), (1, 27, 1, 9, 118), (1, 30, 1, 10, 120), (1, 33, 1, 11, 123), (1, 36, 1, 12, 126), (1, 39, 1, 0, 97), (1, 43, 1, 1, 100), (1, 46, 1, 2, 102), (1, 49, 1, 3, 105), (2, 7, 2, 0, 191), (2, 16, 2, 2, 194), (2, 24, 2, 1, 192), (3, 9, 3, 1, 163), (3, 15, 3, 2, 165), (3, 18, 3, 3, 167), (3, 21, 3, 4, 169), (3, 24, 3, 0, 161), (3, 28, 1, 9, 119), (3, 58, 1, 0, 98), (3, 61, 1, 4, 110), (3, 64, 1, 3, 106), (3, 71, 1, 2, 104), (3, 81, 1, 10, 121), (3, 84, 1, 11, 124), (3, 98, 1, 5, 113), (4, 9, 4, 0, 78), (4, 15, 4, 1, 79), (4, 19, 4, 2, 81), (5, 10, 5, 0, 397), (5, 19, 5, 1, 398), (5, 23, 5, 2, 399), (5, 29, 5, 3, 400), (5, 33, 5, 4, 401), (5, 41, 5, 5, 402), (5, 45, 5, 6, 403), (5, 51, 5, 7, 404), (5, 75, 4, 2, 80), (5, 86, 1, 2, 103), (5, 96, 1, 4, 109), (5, 100, 1, 5, 112), (5, 107, 1, 1, 101), (5, 119, 3, 2, 166), (5, 122, 1, 8, 117), (5, 132, 1, 10, 122), (5, 135, 1, 11, 125), (5, 138, 1, 12, 127), (5, 141, 3, 3, 168), (5, 144, 3, 4, 170), (5, 155, 3, 0, 162), (5, 182, 2, 1, 193), (5, 206, 1, 0, 99), (5, 246, 0, 3, 212), (5, 259, 1, 3, 107), (5, 262, 3, 1, 164), (6, 7, 6, 1, 761), (6, 13, 6, 3, 763), (6, 16, 6, 5, 765), (6, 19, 6, 7, 767), (6, 22, 6, 8, 768), (6, 25, 6, 9, 769), (6, 28, 6, 10, 770), (6, 31, 6, 12, 772), (6, 34, 6, 14, 774), (6, 37, 6, 16, 776), (6, 40, 6, 17, 777), (6, 43, 6, 20, 780), (6, 46, 6, 22, 782), (6, 49, 6, 24, 784), (6, 52, 6, 26, 786), (6, 55, 6, 28, 788), (6, 58, 6, 29, 789), (6, 61, 6, 30, 790), (6, 71, 6, 23, 783), (6, 75, 6, 25, 785), (6, 85, 6, 21, 781), (6, 88, 6, 27, 787), (6, 91, 6, 0, 760), (6, 98, 6, 4, 764), (6, 101, 6, 18, 778), (6, 104, 6, 19, 779), (6, 147, 6, 2, 762), (6, 150, 6, 6, 766), (6, 163, 6, 11, 771), (6, 166, 6, 13, 773), (6, 169, 6, 15, 775)]
def fv_fsok (q : Nat × Nat × Nat × Nat × Nat) : Bool := decide (lw_tbl[q.2.2.2.2]? = some (Cond.fieldLink (fv_RN q.1) q.2.1 (fv_RN q.2.2.1) ((fv_T q.2.2.1) q.2.2.2.1).2.1 ((fv_T q.2.2.1) q.2.2.2.1).2.2.1)) && decide (((fv_T q.2.2.1) q.2.2.2.1).1 = fv_RN q.2.2.1) && decide (q.2.2.1 < 7) && decide (q.2.2.2.1 < fv_NF q.2.2.1)
theorem fv_FS_ok : fv_FS.all fv_fsok = true := by decide +kernel
/-- kind of the user, place in its pool, method, how (0 static, 1 static of a mate, 2 virtual, 3 constructor, 4 constructor of a mate), place of the word -/
def fv_CS : List (Nat × Nat × Nat × Nat × Nat) := [(0, 26, 100, 1, 664), (0, 30, 99, 1, 681), (0, 40, 97, 1, 687), (1, 52, 101, 1, 288), (1, 56, 96, 1, 330), (1, 60, 100, 1, 331), (1, 64, 11, 2, 344), (1, 68, 104, 1, 348), (1, 72, 99, 1, 374), (1, 76, 12, 2, 359), (1, 80, 97, 1, 367), (1, 83, 14, 2, 370), (1, 87, 16, 2, 363), (1, 90, 167, 0, 375), (1, 95, 18, 2, 381), (1, 99, 15, 2, 385), (1, 102, 23, 2, 614), (2, 15, 27, 4, 190), (2, 20, 29, 2, 493), (3, 31, 102, 1, 393), (3, 35, 101, 1, 396), (3, 39, 104, 1, 456), (3, 43, 99, 1, 457), (3, 47, 100, 1, 529), (3, 51, 30, 2, 512), (3, 54, 31, 2, 525), (3, 67, 36, 2, 508), (3, 74, 38, 2, 530), (3, 78, 39, 2, 535), (3, 87, 19, 2, 513), (3, 91, 37, 2, 517), (3, 94, 33, 2, 521), (4, 23, 5, 2, 284), (4, 28, 43, 2, 291), (4, 32, 46, 2, 295), (4, 36, 45, 0, 299), (4, 39, 47, 2, 302), (4, 42, 48, 2, 312), (4, 46, 100, 1, 316), (4, 50, 44, 2, 319), (4, 54, 99, 1, 323), (4, 58, 6, 2, 326), (4, 62, 7, 2, 332), (4, 66, 8, 2, 336), (4, 69, 9, 2, 340), (4, 73, 10, 2, 351), (4, 76, 49, 0, 306), (4, 79, 96, 1, 309), (5, 9, 40, 4, 74), (5, 18, 4, 4, 93), (5, 28, 27, 4, 157), (5, 38, 24, 3, 185), (5, 50, 0, 4, 204), (5, 67, 41, 2, 272), (5, 71, 86, 2, 276), (5, 78, 96, 0, 427), (5, 82, 42, 2, 280), (5, 89, 81, 2, 444), (5, 92, 88, 2, 448), (5, 103, 99, 0, 458), (5, 110, 14, 2, 463), (5, 113, 82, 2, 468), (5, 116, 15, 2, 472), (5, 125, 30, 2, 452), (5, 129, 83, 2, 481), (5, 147, 25, 2, 489), (5, 151, 87, 2, 500), (5, 158, 85, 2, 543), (5, 162, 32, 2, 547), (5, 166, 34, 2, 555), (5, 170, 31, 2, 559), (5, 174, 100, 0, 560), (5, 178, 26, 2, 565), (5, 185, 29, 2, 573), (5, 188, 21, 2, 574), (5, 191, 89, 2, 578), (5, 194, 90, 2, 583), (5, 197, 13, 2, 591), (5, 200, 35, 2, 504), (5, 203, 98, 0, 595), (5, 209, 91, 2, 606), (5, 217, 23, 2, 627), (5, 224, 84, 2, 633), (5, 227, 16, 2, 638), (5, 230, 20, 2, 643), (5, 233, 167, 0, 651), (5, 238, 97, 0, 582), (5, 242, 1, 2, 660), (5, 249, 92, 2, 673), (5, 252, 94, 0, 696), (5, 255, 93, 2, 703), (5, 265, 103, 0, 722), (5, 269, 12, 2, 637), (5, 272, 17, 2, 355), (5, 275, 28, 2, 389), (5, 279, 22, 2, 610), (5, 282, 19, 2, 618), (5, 285, 33, 2, 619), (5, 288, 2, 2, 677), (5, 291, 3, 2, 683), (5, 294, 95, 0, 707), (6, 64, 119, 2, 731), (6, 67, 106, 2, 735), (6, 78, 107, 2, 739), (6, 82, 129, 2, 743), (6, 94, 108, 0, 858), (6, 107, 114, 2, 873), (6, 111, 115, 0, 885), (6, 115, 116, 2, 881), (6, 118, 117, 2, 888), (6, 121, 123, 2, 904), (6, 125, 120, 2, 877), (6, 128, 121, 2, 892), (6, 131, 122, 2, 896), (6, 134, 124, 2, 900), (6, 137, 125, 2, 908), (6, 140, 126, 2, 869), (6, 143, 127, 2, 916), (6, 153, 118, 0, 747), (6, 157, 131, 2, 750), (6, 160, 130, 0, 757), (6, 172, 109, 0, 754), (6, 176, 111, 2, 925), (6, 179, 110, 2, 929), (6, 182, 141, 2, 977), (6, 185, 142, 2, 973), (6, 188, 146, 2, 961), (6, 191, 140, 2, 965), (6, 195, 143, 2, 969), (6, 199, 149, 2, 989), (6, 202, 144, 2, 1001), (6, 205, 145, 2, 1005), (6, 208, 155, 2, 1021), (7, 9, 50, 3, 66), (7, 12, 105, 3, 727), (7, 13, 51, 2, 423), (7, 17, 112, 2, 854), (7, 18, 52, 2, 428), (7, 22, 113, 2, 861), (7, 23, 53, 2, 432), (7, 26, 127, 2, 865), (7, 27, 54, 2, 436), (7, 30, 128, 2, 912), (7, 31, 55, 2, 440), (7, 35, 135, 2, 937), (7, 36, 56, 2, 459), (7, 39, 136, 2, 941), (7, 40, 57, 2, 464), (7, 43, 137, 2, 945), (7, 44, 58, 2, 473), (7, 47, 138, 2, 949), (7, 48, 59, 2, 477), (7, 51, 139, 2, 953), (7, 52, 60, 2, 485), (7, 55, 147, 2, 957), (7, 56, 61, 2, 539), (7, 60, 148, 2, 981), (7, 61, 62, 2, 551), (7, 64, 150, 2, 985), (7, 65, 63, 2, 561), (7, 68, 151, 2, 993), (7, 69, 64, 2, 569), (7, 72, 152, 2, 997), (7, 73, 65, 2, 587), (7, 76, 153, 2, 1009), (7, 77, 66, 2, 598), (7, 80, 154, 2, 1013), (7, 81, 67, 2, 602), (7, 84, 156, 2, 1017), (7, 85, 68, 2, 623), (7, 89, 157, 2, 1025), (7, 90, 69, 2, 629), (7, 93, 132, 2, 917), (7, 94, 70, 2, 639), (7, 97, 133, 2, 921), (7, 98, 71, 2, 647), (7, 101, 134, 2, 933), (7, 102, 72, 2, 652), (7, 105, 158, 2, 1029), (7, 106, 73, 2, 656), (7, 110, 159, 2, 1033), (7, 111, 74, 2, 665), (7, 114, 160, 2, 1037), (7, 115, 75, 2, 669), (7, 118, 161, 2, 1041), (7, 119, 76, 2, 688), (7, 122, 162, 2, 1045), (7, 123, 77, 2, 692), (7, 126, 163, 2, 1049), (7, 127, 78, 2, 710), (7, 130, 164, 2, 1057), (7, 131, 79, 2, 714), (7, 134, 165, 2, 1061), (7, 135, 80, 2, 718), (7, 138, 166, 2, 1065)]
def fv_csok (q : Nat × Nat × Nat × Nat × Nat) : Bool := decide (q.2.2.1 < 168) && (if q.2.2.2.1 = 1 ∨ q.2.2.2.1 = 4 then true else decide (lw_tbl[q.2.2.2.2]? = some (Cond.methodLink (fv_RN q.1) q.2.1 (fv_y q.2.2.1)))) && (if q.2.2.2.1 = 0 ∨ q.2.2.2.1 = 1 then fv_st q.2.2.1 else if q.2.2.2.1 = 2 then !fv_st q.2.2.1 && (decide ((fv_y q.2.2.1).name ≠ "<init>") && decide (fv_ow q.2.2.1 < 7)) else !fv_st q.2.2.1 && decide ((fv_y q.2.2.1).name = "<init>") && decide (fv_rt q.2.2.1 = none))
theorem fv_CS_ok : fv_CS.all fv_csok = true := by decide +kernel
/-- words of the mates, which pass beside the others -/
def fv_nests : List Cond := (fv_CS.filter (fun q => q.2.2.2.1 = 1 ∨ q.2.2.2.1 = 4)).map (fun q => Cond.methodLinkNest (fv_RN q.1) q.2.1 (fv_y q.2.2.1) "FamineOfVerbs")
theorem fv_nests_all : (fv_CS.filter (fun q => q.2.2.2.1 = 1 ∨ q.2.2.2.1 = 4)).all (fun q => decide (lw_tbl[q.2.2.2.2]? = some (Cond.methodLinkNest (fv_RN q.1) q.2.1 (fv_y q.2.2.1) "FamineOfVerbs"))) = true := by decide +kernel
theorem fv_nests_in : ∀ w ∈ fv_nests, w ∈ lw_tbl := by
  intro w h
  obtain ⟨q, hq, rfl⟩ := List.mem_map.mp h
  have h1 := List.all_eq_true.mp fv_nests_all q hq
  exact List.mem_of_getElem? (of_decide_eq_true h1)
/-- Object.<init> -/
def fv_OS : List (Nat × Nat × Nat) := [(0, 3, 207), (1, 3, 96), (2, 1, 188), (3, 3, 160), (4, 3, 77), (5, 1, 69), (6, 1, 730)]
theorem fv_OS_ok : fv_OS.all (fun q => decide (lw_tbl[q.2.2]? = some (Cond.methodLink (fv_RN q.1) q.2.1 Lib.objectInit))) = true := by decide +kernel
/-- Math.max (0), Math.min (1) -/
def fv_AS : List (Nat × Nat × Nat × Nat) := [(0, 34, 0, 682), (2, 27, 1, 497), (3, 101, 1, 534), (5, 212, 0, 620), (5, 221, 1, 628)]
theorem fv_AS_ok : fv_AS.all (fun q => decide (lw_tbl[q.2.2.2]? = some (Cond.methodLink (fv_RN q.1) q.2.1 (if q.2.2.1 = 0 then Lib.Math.max.name else Lib.Math.min.name))) && decide (q.2.2.1 < 2)) = true := by decide +kernel
theorem fv_max_st : Cond.static Lib.Math.max.name ∈ fv_GL := fv_GL_in (i := 621) (by decide +kernel) rfl
theorem fv_min_st : Cond.static Lib.Math.min.name ∈ fv_GL := fv_GL_in (i := 498) (by decide +kernel) rfl
theorem fv_math_in : Cond.initialized "java/lang/Math" ∈ fv_GL := fv_GL_in (i := 63) (by decide +kernel) rfl
set_option maxRecDepth 100000 in
theorem fv_max_co : Cond.code Lib.Math.max.name Lib.Math.max.code 2 (some .int) ∈ fv_GL := fv_GL_in (i := 622) rfl rfl
set_option maxRecDepth 100000 in
theorem fv_min_co : Cond.code Lib.Math.min.name Lib.Math.min.code 2 (some .int) ∈ fv_GL := fv_GL_in (i := 499) rfl rfl
theorem fv_oi_in : Cond.instanceMethod Lib.objectInit ∈ fv_GL := fv_GL_in (i := 70) (by decide +kernel) rfl
set_option maxRecDepth 100000 in
theorem fv_oi_co : Cond.code Lib.objectInit ⟨#[0xb1]⟩ 1 none ∈ fv_GL := fv_GL_in (i := 71) rfl rfl
theorem fv_ac_int : Cond.arrayClass .int ∈ fv_GL := fv_GL_in (i := 90) (by decide +kernel) rfl
theorem fv_ac_boolean : Cond.arrayClass .boolean ∈ fv_GL := fv_GL_in (i := 222) (by decide +kernel) rfl
theorem fv_ac_char : Cond.arrayClass .char ∈ fv_GL := fv_GL_in (i := 89) (by decide +kernel) rfl
theorem fv_ao : Cond.arrayOver (.object (fv_RN 3)) ∈ lw_tbl := List.mem_of_getElem? (i := 184) (by decide +kernel)
/-- new, and arrays of objects -/
def fv_NS : List (Nat × Nat × Nat × Nat) := [(2, 13, 3, 189), (5, 7, 4, 72), (5, 16, 1, 91), (5, 26, 3, 155), (5, 36, 2, 182), (5, 48, 0, 202), (7, 7, 5, 64), (7, 10, 6, 725)]
theorem fv_NS_ok : fv_NS.all (fun q => decide (lw_tbl[q.2.2.2]? = some (Cond.classLink (fv_RN q.1) q.2.1 (fv_RN q.2.2.1))) && decide (q.2.2.1 < 7)) = true := by decide +kernel
def fv_JS : List (Nat × Nat × Nat × Nat) := [(5, 297, 7919, 699), (5, 299, 6151, 700), (5, 301, 65521, 701), (5, 303, 8, 702), (6, 212, 7919, 1053), (6, 214, 6151, 1054), (6, 216, 65521, 1055), (6, 218, 8, 1056)]
theorem fv_JS_ok : fv_JS.all (fun q => decide (lw_tbl[q.2.2.2]? = some (Cond.constantLong (fv_RN q.1) q.2.1 (Int64.ofNat q.2.2.1)))) = true := by decide +kernel
def fv_IS : List (Nat × Nat × Int × Nat) := [(8, 265, 1431655765, 378), (8, 266, 858993459, 379), (8, 267, 252645135, 380)]
theorem fv_IS_ok : fv_IS.all (fun q => decide (lw_tbl[q.2.2.2]? = some (Cond.constant (fv_RN q.1) q.2.1 (Int32.ofInt q.2.2.1)))) = true := by decide +kernel
theorem fv_kind_at : ∀ ci, ci < 7 → fv_kinds[ci]? = some (fv_RN ci, fv_T ci, fv_NF ci) := by
  intro ci h
  rcases (by omega : ci = 0 ∨ ci = 1 ∨ ci = 2 ∨ ci = 3 ∨ ci = 4 ∨ ci = 5 ∨ ci = 6) with rfl | rfl | rfl | rfl | rfl | rfl | rfl <;> rfl
def fv_lix : Nat → List Nat := fun ci => match ci with
  | 0 => [213, 215, 217, 219]
  | 1 => [128, 130, 132, 134, 136, 138, 140, 142, 144, 146, 148, 150, 152]
  | 2 => [195, 197, 199]
  | 3 => [171, 173, 175, 177, 179]
  | 4 => [82, 84, 86]
  | 5 => [405, 407, 409, 411, 413, 415, 417, 419]
  | _ => [791, 793, 795, 797, 799, 801, 803, 805, 807, 809, 811, 813, 815, 817, 819, 821, 823, 825, 827, 829, 831, 833, 835, 837, 839, 841, 843, 845, 847, 849, 851]
def fv_layok (ci : Nat) : Bool := (List.range (fv_NF ci)).all (fun k => decide (lw_tbl[(fv_lix ci).getD k 0]? = some (u_lay (fv_RN ci) (fv_T ci) k)) && decide (parseFieldDescriptor ((fv_T ci) k).2.2.1 = some (fv_Y ci k)) && (List.range (fv_NF ci)).all (fun j => decide (k = j) || decide (((fv_T ci) k).2.1 ≠ ((fv_T ci) j).2.1)))
theorem fv_lay_0 : fv_layok 0 = true := by decide +kernel
theorem fv_lay_1 : fv_layok 1 = true := by decide +kernel
theorem fv_lay_2 : fv_layok 2 = true := by decide +kernel
theorem fv_lay_3 : fv_layok 3 = true := by decide +kernel
theorem fv_lay_4 : fv_layok 4 = true := by decide +kernel
theorem fv_lay_5 : fv_layok 5 = true := by decide +kernel
theorem fv_lay_6 : fv_layok 6 = true := by decide +kernel
theorem fv_lay_all : ∀ ci, ci < 7 → fv_layok ci = true := by
  intro ci h
  rcases (by omega : ci = 0 ∨ ci = 1 ∨ ci = 2 ∨ ci = 3 ∨ ci = 4 ∨ ci = 5 ∨ ci = 6) with rfl | rfl | rfl | rfl | rfl | rfl | rfl
  · exact fv_lay_0
  · exact fv_lay_1
  · exact fv_lay_2
  · exact fv_lay_3
  · exact fv_lay_4
  · exact fv_lay_5
  · exact fv_lay_6
def fv_inix : Nat → Nat × Nat := fun ci => match ci with
  | 0 => (203, 56)
  | 1 => (92, 53)
  | 2 => (183, 55)
  | 3 => (156, 54)
  | 4 => (73, 52)
  | 5 => (65, 51)
  | _ => (726, 62)
theorem fv_inst_all : (List.range 7).all (fun ci => decide (lw_tbl[(fv_inix ci).1]? = some (Cond.instantiable (fv_RN ci) (fv_NF ci))) && decide (lw_tbl[(fv_inix ci).2]? = some (Cond.initialized (fv_RN ci)))) = true := by decide +kernel
