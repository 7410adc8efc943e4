def ML0 : List (Int × Int × Int) := []
def ML1 : List (Int × Int × Int) := ML0
def ML2 : List (Int × Int × Int) := (115, 1, 117) :: (115, 0, 116) :: (207, 3, 211) :: (207, 2, 210) :: (207, 1, 209) :: (207, 0, 208) :: ML1
def ML3 : List (Int × Int × Int) := (118, 1, 120) :: (118, 0, 119) :: (210, 0, 115) :: ML2
def ML4 : List (Int × Int × Int) := (121, 1, 123) :: (121, 0, 122) :: (210, 1, 118) :: ML3
def ML5 : List (Int × Int × Int) := (124, 1, 126) :: (124, 0, 125) :: (210, 2, 121) :: ML4
def ML6 : List (Int × Int × Int) := (127, 1, 129) :: (127, 0, 128) :: (210, 3, 124) :: ML5
def ML7 : List (Int × Int × Int) := (130, 1, 132) :: (130, 0, 131) :: (210, 4, 127) :: ML6
def ML8 : List (Int × Int × Int) := (133, 1, 135) :: (133, 0, 134) :: (210, 5, 130) :: ML7
def ML9 : List (Int × Int × Int) := (136, 1, 138) :: (136, 0, 137) :: (210, 6, 133) :: ML8
def ML10 : List (Int × Int × Int) := (139, 1, 141) :: (139, 0, 140) :: (210, 7, 136) :: ML9
def ML11 : List (Int × Int × Int) := (142, 1, 144) :: (142, 0, 143) :: (210, 8, 139) :: ML10
def ML12 : List (Int × Int × Int) := (145, 1, 147) :: (145, 0, 146) :: (210, 9, 142) :: ML11
def ML13 : List (Int × Int × Int) := (148, 1, 150) :: (148, 0, 149) :: (210, 10, 145) :: ML12
def ML14 : List (Int × Int × Int) := (151, 1, 153) :: (151, 0, 152) :: (210, 11, 148) :: ML13
def ML15 : List (Int × Int × Int) := (154, 1, 156) :: (154, 0, 155) :: (210, 12, 151) :: ML14
def ML16 : List (Int × Int × Int) := (157, 1, 159) :: (157, 0, 158) :: (210, 13, 154) :: ML15
def ML17 : List (Int × Int × Int) := (160, 1, 162) :: (160, 0, 161) :: (210, 14, 157) :: ML16
def ML18 : List (Int × Int × Int) := (163, 1, 165) :: (163, 0, 164) :: (210, 15, 160) :: ML17
def ML19 : List (Int × Int × Int) := (166, 1, 168) :: (166, 0, 167) :: (210, 16, 163) :: ML18
def ML20 : List (Int × Int × Int) := (211, 83, 1) :: (210, 17, 166) :: ML19
def ML21 : List (Int × Int × Int) := ML20
def ML22 : List (Int × Int × Int) := (206, 0, 207) :: ML21
def ML23 : List (Int × Int × Int) := (169, 1, 171) :: (169, 0, 170) :: (212, 2, 207) :: (212, 1, 214) :: (212, 0, 213) :: ML22
def ML24 : List (Int × Int × Int) := (172, 1, 174) :: (172, 0, 173) :: (214, 0, 169) :: ML23
def ML25 : List (Int × Int × Int) := (175, 1, 177) :: (175, 0, 176) :: (214, 1, 172) :: ML24
def ML26 : List (Int × Int × Int) := (214, 2, 175) :: ML25
def ML27 : List (Int × Int × Int) := ML26
def ML28 : List (Int × Int × Int) := (206, 1, 212) :: ML27
def ML29 : List (Int × Int × Int) := (215, 0, 207) :: (215, 7, 221) :: (215, 6, 220) :: (215, 5, 219) :: (215, 4, 218) :: (215, 3, 217) :: (215, 1, 216) :: ML28
def ML30 : List (Int × Int × Int) := ML29
def ML31 : List (Int × Int × Int) := (206, 2, 215) :: ML30
def ML32 : List (Int × Int × Int) := (226, 3, 1) :: (223, 3, 122) :: (226, 2, 1) :: (223, 2, 121) :: (226, 1, 1) :: (223, 1, 120) :: (226, 0, 1) :: (223, 0, 90) :: (222, 0, 207) :: (222, 10, 232) :: (222, 9, 231) :: (222, 8, 230) :: (222, 7, 229) :: (222, 6, 228) :: (222, 5, 227) :: (222, 4, 226) :: (222, 3, 225) :: (222, 2, 224) :: (222, 1, 223) :: ML31
def ML33 : List (Int × Int × Int) := ML32
def ML34 : List (Int × Int × Int) := (206, 3, 222) :: ML33
def ML35 : List (Int × Int × Int) := (233, 1, 235) :: (233, 0, 234) :: ML34
def ML36 : List (Int × Int × Int) := ML35
def ML37 : List (Int × Int × Int) := (206, 4, 233) :: ML36
def ML38 : List (Int × Int × Int) := (236, 0, 207) :: (236, 1, 237) :: ML37
def ML39 : List (Int × Int × Int) := ML38
def ML40 : List (Int × Int × Int) := ML39
def ML41 : List (Int × Int × Int) := (181, 1, 183) :: (181, 0, 182) :: (238, 0, 239) :: ML40
def ML42 : List (Int × Int × Int) := (187, 1, 4) :: (4, 1, 6) :: (4, 0, 5) :: (187, 0, 1) :: (1, 1, 3) :: (1, 0, 2) :: (238, 3, 236) :: (238, 2, 233) :: (238, 4, 181) :: ML41
def ML43 : List (Int × Int × Int) := (188, 1, 10) :: (10, 1, 12) :: (10, 0, 11) :: (188, 0, 7) :: (7, 1, 9) :: (7, 0, 8) :: (239, 0, 187) :: ML42
def ML44 : List (Int × Int × Int) := (189, 1, 16) :: (16, 1, 18) :: (16, 0, 17) :: (189, 0, 13) :: (13, 1, 15) :: (13, 0, 14) :: (239, 1, 188) :: ML43
def ML45 : List (Int × Int × Int) := (190, 1, 22) :: (22, 1, 24) :: (22, 0, 23) :: (190, 0, 19) :: (19, 1, 21) :: (19, 0, 20) :: (239, 2, 189) :: ML44
def ML46 : List (Int × Int × Int) := (191, 1, 28) :: (28, 1, 30) :: (28, 0, 29) :: (191, 0, 25) :: (25, 1, 27) :: (25, 0, 26) :: (239, 3, 190) :: ML45
def ML47 : List (Int × Int × Int) := (192, 1, 34) :: (34, 1, 36) :: (34, 0, 35) :: (192, 0, 31) :: (31, 1, 33) :: (31, 0, 32) :: (239, 4, 191) :: ML46
def ML48 : List (Int × Int × Int) := (193, 1, 40) :: (40, 1, 42) :: (40, 0, 41) :: (193, 0, 37) :: (37, 1, 39) :: (37, 0, 38) :: (239, 5, 192) :: ML47
def ML49 : List (Int × Int × Int) := (194, 1, 46) :: (46, 1, 48) :: (46, 0, 47) :: (194, 0, 43) :: (43, 1, 45) :: (43, 0, 44) :: (239, 6, 193) :: ML48
def ML50 : List (Int × Int × Int) := (239, 7, 194) :: ML49
def ML51 : List (Int × Int × Int) := ML50
def ML52 : List (Int × Int × Int) := (206, 5, 238) :: ML51
def ML53 : List (Int × Int × Int) := (240, 2, 243) :: (240, 1, 242) :: (240, 0, 241) :: ML52
def ML54 : List (Int × Int × Int) := ML53
def ML55 : List (Int × Int × Int) := (206, 6, 240) :: ML54
def ML56 : List (Int × Int × Int) := (184, 1, 186) :: (184, 0, 185) :: (244, 2, 247) :: (244, 1, 246) :: (244, 0, 245) :: ML55
def ML57 : List (Int × Int × Int) := (195, 1, 52) :: (52, 1, 54) :: (52, 0, 53) :: (195, 0, 49) :: (49, 1, 51) :: (49, 0, 50) :: (244, 9, 240) :: (244, 8, 238) :: (244, 7, 236) :: (244, 6, 222) :: (244, 5, 215) :: (244, 4, 207) :: (244, 3, 184) :: ML56
def ML58 : List (Int × Int × Int) := (198, 1, 70) :: (70, 1, 72) :: (70, 0, 71) :: (198, 0, 67) :: (67, 1, 69) :: (67, 0, 68) :: (245, 0, 195) :: ML57
def ML59 : List (Int × Int × Int) := (201, 1, 88) :: (88, 1, 90) :: (88, 0, 89) :: (201, 0, 85) :: (85, 1, 87) :: (85, 0, 86) :: (246, 0, 198) :: ML58
def ML60 : List (Int × Int × Int) := (196, 1, 58) :: (58, 1, 60) :: (58, 0, 59) :: (196, 0, 55) :: (55, 1, 57) :: (55, 0, 56) :: (247, 0, 201) :: ML59
def ML61 : List (Int × Int × Int) := (199, 1, 76) :: (76, 1, 78) :: (76, 0, 77) :: (199, 0, 73) :: (73, 1, 75) :: (73, 0, 74) :: (245, 1, 196) :: ML60
def ML62 : List (Int × Int × Int) := (202, 1, 94) :: (94, 1, 96) :: (94, 0, 95) :: (202, 0, 91) :: (91, 1, 93) :: (91, 0, 92) :: (246, 1, 199) :: ML61
def ML63 : List (Int × Int × Int) := (197, 1, 64) :: (64, 1, 66) :: (64, 0, 65) :: (197, 0, 61) :: (61, 1, 63) :: (61, 0, 62) :: (247, 1, 202) :: ML62
def ML64 : List (Int × Int × Int) := (200, 1, 82) :: (82, 1, 84) :: (82, 0, 83) :: (200, 0, 79) :: (79, 1, 81) :: (79, 0, 80) :: (245, 2, 197) :: ML63
def ML65 : List (Int × Int × Int) := (203, 1, 100) :: (100, 1, 102) :: (100, 0, 101) :: (203, 0, 97) :: (97, 1, 99) :: (97, 0, 98) :: (246, 2, 200) :: ML64
def ML66 : List (Int × Int × Int) := (247, 2, 203) :: ML65
def ML67 : List (Int × Int × Int) := ML66
def ML68 : List (Int × Int × Int) := (204, 1, 106) :: (106, 1, 108) :: (106, 0, 107) :: (204, 0, 103) :: (103, 1, 105) :: (103, 0, 104) :: (206, 7, 244) :: ML67
def ML69 : List (Int × Int × Int) := (205, 1, 112) :: (112, 1, 114) :: (112, 0, 113) :: (205, 0, 109) :: (109, 1, 111) :: (109, 0, 110) :: (206, 8, 204) :: ML68
def ML70 : List (Int × Int × Int) := (178, 1, 180) :: (178, 0, 179) :: (206, 9, 205) :: ML69
def ML71 : List (Int × Int × Int) := (206, 11, 0) :: (206, 10, 178) :: ML70
def ML72 : List (Int × Int × Int) := ML71
def ML73 : List (Int × Int × Int) := (248, 49, 274) :: (248, 48, 273) :: (248, 47, 272) :: (248, 42, (-9)) :: (248, 41, 271) :: (248, 40, 270) :: (248, 34, 269) :: (248, 33, 268) :: (248, 32, 267) :: (248, 31, 266) :: (248, 27, 265) :: (248, 24, 264) :: (248, 23, 263) :: (248, 21, 262) :: (248, 20, 261) :: (248, 19, 260) :: (248, 18, 259) :: (248, 17, 258) :: (248, 14, 257) :: (248, 11, 256) :: (248, 8, 255) :: (248, 7, 254) :: (248, 6, 253) :: (248, 5, 252) :: (248, 2, 251) :: (248, 1, 250) :: (248, 0, 249) :: ML72
theorem kt_X3_init : zMet yX3_init cX3_init 2 none 2 40 [.inr 207] 2 60 (z_me z_0 ML1) (KZ (z_me z_0 ML20)) := by
  refine zMet_of (L0 := [some (.inr 207), none]) sy_X3_init rfl (nb rfl) (nb rfl) (fun X C hI _ _ hR => ?_)
  have C : zC X cX3_init RX3 2 none 2 40 60 := C
  refine v_aloadn (q := 1) C dX3_init_0 rfl rfl ?_
  refine v_objInit (q := 4) C ml_X3_3 oi oc ⟨by decide +kernel, by decide +kernel⟩ (nb rfl) (nb rfl) dX3_init_1 rfl ?_
  refine v_aloadn (q := 5) C dX3_init_4 rfl rfl ?_
  refine v_bipush (q := 7) C dX3_init_5 rfl (by decide) ?_
  refine k_newarray (q := 9) (n' := 3) (len := 6) (a := 208) C ac_I rfl ⟨nb rfl, nb rfl⟩ (by decide +kernel) (by decide +kernel) rfl (nb rfl) (z_me_0 (by decide +kernel)) dX3_init_7 rfl ?_
  refine k_putF (q := 12) C hI rfl kl3 fl_X3_9 ⟨by decide +kernel, by decide +kernel⟩ (by decide +kernel) rfl rfl (Or.inr ⟨_, rfl⟩) rfl rfl (by decide) dX3_init_9 rfl ?_
  refine v_aloadn (q := 13) C dX3_init_12 rfl rfl ?_
  refine v_bipush (q := 15) C dX3_init_13 rfl (by decide) ?_
  refine k_newarray (q := 17) (n' := 4) (len := 6) (a := 209) C ac_I rfl ⟨nb rfl, nb rfl⟩ (by decide +kernel) (by decide +kernel) rfl (nb rfl) (z_me_0 (by decide +kernel)) dX3_init_15 rfl ?_
  refine k_putF (q := 20) C hI rfl kl3 fl_X3_15 ⟨by decide +kernel, by decide +kernel⟩ (by decide +kernel) rfl rfl (Or.inr ⟨_, rfl⟩) rfl rfl (by decide) dX3_init_17 rfl ?_
  refine v_aloadn (q := 21) C dX3_init_20 rfl rfl ?_
  refine v_bipush (q := 23) C dX3_init_21 rfl (by decide) ?_
  refine k_anewarray (q := 26) (n' := 5) (len := 18) (kd := 14) (a := 210) C (Or.inl rfl) rfl ck_X3_18 rfl ⟨nb rfl, nb rfl⟩ (by decide +kernel) (by decide +kernel) rfl (nb rfl) (z_me_0 (by decide +kernel)) dX3_init_23 rfl ?_
  refine k_putF (q := 29) C hI rfl kl3 fl_X3_20 ⟨by decide +kernel, by decide +kernel⟩ (by decide +kernel) rfl rfl (Or.inr ⟨_, rfl⟩) rfl rfl (by decide) dX3_init_26 rfl ?_
  refine v_aloadn (q := 30) C dX3_init_29 rfl rfl ?_
  refine v_sipush (q := 33) C dX3_init_30 rfl (by decide) ?_
  refine k_newarray (q := 35) (n' := 6) (len := 128) (a := 211) C ac_I rfl ⟨nb rfl, nb rfl⟩ (by decide +kernel) (by decide +kernel) rfl (nb rfl) (z_me_0 (by decide +kernel)) dX3_init_33 rfl ?_
  refine k_putF (q := 38) C hI rfl kl3 fl_X3_24 ⟨by decide +kernel, by decide +kernel⟩ (by decide +kernel) rfl rfl (Or.inr ⟨_, rfl⟩) rfl rfl (by decide) dX3_init_35 rfl ?_
  refine v_iconst (q := 39) C dX3_init_38 rfl (by decide) ?_
  refine v_istoren (q := 40) C dX3_init_39 rfl (nb rfl) (L' := [some (.inr 207), some (.inl 0)]) rfl ?_
  refine v_iloadn (q := 41) C dX3_init_40 rfl rfl ?_
  refine v_bipush (q := 43) C dX3_init_41 rfl (by decide) ?_
  refine v_icmp_ge (q := 46) (tgt := 65) C dX3_init_43 rfl rfl (A := False) (B := True) (by decide) (fun h => h.elim) (fun h => ?_)
  refine v_aloadn (q := 47) C dX3_init_46 rfl rfl ?_
  refine k_get (q := 50) (v := 210) C kl3 fl_X3_20 ⟨by decide +kernel, by decide +kernel⟩ (by decide +kernel) rfl rfl (by decide +kernel) dX3_init_47 rfl ?_
  refine v_iloadn (q := 51) C dX3_init_50 rfl rfl ?_
  refine k_new (q := 54) (n' := 7) (a := 115) C kl10 df10 ck_X3_18 ⟨in_10, it_10⟩ rfl ⟨nb rfl, nb rfl⟩ (by decide +kernel) (by decide +kernel) (z_me_0 (by decide +kernel)) dX3_init_51 rfl ?_
  refine v_dup (q := 55) C dX3_init_54 rfl ?_
  refine k_cN0 (q := 58) (n' := 9) (M2 := z_me z_0 ML2) C (kt_X10_init (t := 115) (by decide) (nb rfl) ⟨by decide +kernel, by decide +kernel⟩ (by decide +kernel) (by decide +kernel) (by decide +kernel) (by decide +kernel)) sy_X10_init si_X10_init rfl mn_X3_27 ⟨by decide +kernel, by decide +kernel⟩ ⟨nb rfl, nb rfl⟩ ⟨nb rfl, nb rfl, nb rfl⟩ (nb rfl) dX3_init_55 rfl ?_
  refine k_aast (q := 59) (kd := 14) (ci := 10) (len := 18) (r := (RX10, TX10, 3)) C ⟨by decide +kernel, by decide +kernel⟩ (Or.inl rfl) (by decide +kernel) ⟨by decide +kernel, by decide +kernel⟩ (by decide +kernel) (by decide) rfl rfl (by decide) (by decide) dX3_init_58 rfl ?_
  refine k_iinc (q := 62) (z := 1) C dX3_init_59 rfl (nb rfl) rfl rfl (L' := [some (.inr 207), some (.inl 1)]) rfl (by decide) ?_
  refine v_goto (q := 40) C dX3_init_62 rfl ?_
  refine v_iloadn (q := 41) C dX3_init_40 rfl rfl ?_
  refine v_bipush (q := 43) C dX3_init_41 rfl (by decide) ?_
  refine v_icmp_ge (q := 46) (tgt := 65) C dX3_init_43 rfl rfl (A := False) (B := True) (by decide) (fun h => h.elim) (fun h => ?_)
  refine v_aloadn (q := 47) C dX3_init_46 rfl rfl ?_
  refine k_get (q := 50) (v := 210) C kl3 fl_X3_20 ⟨by decide +kernel, by decide +kernel⟩ (by decide +kernel) rfl rfl (by decide +kernel) dX3_init_47 rfl ?_
  refine v_iloadn (q := 51) C dX3_init_50 rfl rfl ?_
  refine k_new (q := 54) (n' := 10) (a := 118) C kl10 df10 ck_X3_18 ⟨in_10, it_10⟩ rfl ⟨nb rfl, nb rfl⟩ (by decide +kernel) (by decide +kernel) (z_me_0 (by decide +kernel)) dX3_init_51 rfl ?_
  refine v_dup (q := 55) C dX3_init_54 rfl ?_
  refine k_cN0 (q := 58) (n' := 12) (M2 := z_me z_0 ML3) C (kt_X10_init (t := 118) (by decide) (nb rfl) ⟨by decide +kernel, by decide +kernel⟩ (by decide +kernel) (by decide +kernel) (by decide +kernel) (by decide +kernel)) sy_X10_init si_X10_init rfl mn_X3_27 ⟨by decide +kernel, by decide +kernel⟩ ⟨nb rfl, nb rfl⟩ ⟨nb rfl, nb rfl, nb rfl⟩ (nb rfl) dX3_init_55 rfl ?_
  refine k_aast (q := 59) (kd := 14) (ci := 10) (len := 18) (r := (RX10, TX10, 3)) C ⟨by decide +kernel, by decide +kernel⟩ (Or.inl rfl) (by decide +kernel) ⟨by decide +kernel, by decide +kernel⟩ (by decide +kernel) (by decide) rfl rfl (by decide) (by decide) dX3_init_58 rfl ?_
  refine k_iinc (q := 62) (z := 2) C dX3_init_59 rfl (nb rfl) rfl rfl (L' := [some (.inr 207), some (.inl 2)]) rfl (by decide) ?_
  refine v_goto (q := 40) C dX3_init_62 rfl ?_
  refine v_iloadn (q := 41) C dX3_init_40 rfl rfl ?_
  refine v_bipush (q := 43) C dX3_init_41 rfl (by decide) ?_
  refine v_icmp_ge (q := 46) (tgt := 65) C dX3_init_43 rfl rfl (A := False) (B := True) (by decide) (fun h => h.elim) (fun h => ?_)
  refine v_aloadn (q := 47) C dX3_init_46 rfl rfl ?_
  refine k_get (q := 50) (v := 210) C kl3 fl_X3_20 ⟨by decide +kernel, by decide +kernel⟩ (by decide +kernel) rfl rfl (by decide +kernel) dX3_init_47 rfl ?_
  refine v_iloadn (q := 51) C dX3_init_50 rfl rfl ?_
  refine k_new (q := 54) (n' := 13) (a := 121) C kl10 df10 ck_X3_18 ⟨in_10, it_10⟩ rfl ⟨nb rfl, nb rfl⟩ (by decide +kernel) (by decide +kernel) (z_me_0 (by decide +kernel)) dX3_init_51 rfl ?_
  refine v_dup (q := 55) C dX3_init_54 rfl ?_
  refine k_cN0 (q := 58) (n' := 15) (M2 := z_me z_0 ML4) C (kt_X10_init (t := 121) (by decide) (nb rfl) ⟨by decide +kernel, by decide +kernel⟩ (by decide +kernel) (by decide +kernel) (by decide +kernel) (by decide +kernel)) sy_X10_init si_X10_init rfl mn_X3_27 ⟨by decide +kernel, by decide +kernel⟩ ⟨nb rfl, nb rfl⟩ ⟨nb rfl, nb rfl, nb rfl⟩ (nb rfl) dX3_init_55 rfl ?_
  refine k_aast (q := 59) (kd := 14) (ci := 10) (len := 18) (r := (RX10, TX10, 3)) C ⟨by decide +kernel, by decide +kernel⟩ (Or.inl rfl) (by decide +kernel) ⟨by decide +kernel, by decide +kernel⟩ (by decide +kernel) (by decide) rfl rfl (by decide) (by decide) dX3_init_58 rfl ?_
  refine k_iinc (q := 62) (z := 3) C dX3_init_59 rfl (nb rfl) rfl rfl (L' := [some (.inr 207), some (.inl 3)]) rfl (by decide) ?_
  refine v_goto (q := 40) C dX3_init_62 rfl ?_
  refine v_iloadn (q := 41) C dX3_init_40 rfl rfl ?_
  refine v_bipush (q := 43) C dX3_init_41 rfl (by decide) ?_
  refine v_icmp_ge (q := 46) (tgt := 65) C dX3_init_43 rfl rfl (A := False) (B := True) (by decide) (fun h => h.elim) (fun h => ?_)
  refine v_aloadn (q := 47) C dX3_init_46 rfl rfl ?_
  refine k_get (q := 50) (v := 210) C kl3 fl_X3_20 ⟨by decide +kernel, by decide +kernel⟩ (by decide +kernel) rfl rfl (by decide +kernel) dX3_init_47 rfl ?_
  refine v_iloadn (q := 51) C dX3_init_50 rfl rfl ?_
  refine k_new (q := 54) (n' := 16) (a := 124) C kl10 df10 ck_X3_18 ⟨in_10, it_10⟩ rfl ⟨nb rfl, nb rfl⟩ (by decide +kernel) (by decide +kernel) (z_me_0 (by decide +kernel)) dX3_init_51 rfl ?_
  refine v_dup (q := 55) C dX3_init_54 rfl ?_
  refine k_cN0 (q := 58) (n' := 18) (M2 := z_me z_0 ML5) C (kt_X10_init (t := 124) (by decide) (nb rfl) ⟨by decide +kernel, by decide +kernel⟩ (by decide +kernel) (by decide +kernel) (by decide +kernel) (by decide +kernel)) sy_X10_init si_X10_init rfl mn_X3_27 ⟨by decide +kernel, by decide +kernel⟩ ⟨nb rfl, nb rfl⟩ ⟨nb rfl, nb rfl, nb rfl⟩ (nb rfl) dX3_init_55 rfl ?_
  refine k_aast (q := 59) (kd := 14) (ci := 10) (len := 18) (r := (RX10, TX10, 3)) C ⟨by decide +kernel, by decide +kernel⟩ (Or.inl rfl) (by decide +kernel) ⟨by decide +kernel, by decide +kernel⟩ (by decide +kernel) (by decide) rfl rfl (by decide) (by decide) dX3_init_58 rfl ?_
  refine k_iinc (q := 62) (z := 4) C dX3_init_59 rfl (nb rfl) rfl rfl (L' := [some (.inr 207), some (.inl 4)]) rfl (by decide) ?_
  refine v_goto (q := 40) C dX3_init_62 rfl ?_
  refine v_iloadn (q := 41) C dX3_init_40 rfl rfl ?_
  refine v_bipush (q := 43) C dX3_init_41 rfl (by decide) ?_
  refine v_icmp_ge (q := 46) (tgt := 65) C dX3_init_43 rfl rfl (A := False) (B := True) (by decide) (fun h => h.elim) (fun h => ?_)
  refine v_aloadn (q := 47) C dX3_init_46 rfl rfl ?_
  refine k_get (q := 50) (v := 210) C kl3 fl_X3_20 ⟨by decide +kernel, by decide +kernel⟩ (by decide +kernel) rfl rfl (by decide +kernel) dX3_init_47 rfl ?_
  refine v_iloadn (q := 51) C dX3_init_50 rfl rfl ?_
  refine k_new (q := 54) (n' := 19) (a := 127) C kl10 df10 ck_X3_18 ⟨in_10, it_10⟩ rfl ⟨nb rfl, nb rfl⟩ (by decide +kernel) (by decide +kernel) (z_me_0 (by decide +kernel)) dX3_init_51 rfl ?_
  refine v_dup (q := 55) C dX3_init_54 rfl ?_
  refine k_cN0 (q := 58) (n' := 21) (M2 := z_me z_0 ML6) C (kt_X10_init (t := 127) (by decide) (nb rfl) ⟨by decide +kernel, by decide +kernel⟩ (by decide +kernel) (by decide +kernel) (by decide +kernel) (by decide +kernel)) sy_X10_init si_X10_init rfl mn_X3_27 ⟨by decide +kernel, by decide +kernel⟩ ⟨nb rfl, nb rfl⟩ ⟨nb rfl, nb rfl, nb rfl⟩ (nb rfl) dX3_init_55 rfl ?_
  refine k_aast (q := 59) (kd := 14) (ci := 10) (len := 18) (r := (RX10, TX10, 3)) C ⟨by decide +kernel, by decide +kernel⟩ (Or.inl rfl) (by decide +kernel) ⟨by decide +kernel, by decide +kernel⟩ (by decide +kernel) (by decide) rfl rfl (by decide) (by decide) dX3_init_58 rfl ?_
  refine k_iinc (q := 62) (z := 5) C dX3_init_59 rfl (nb rfl) rfl rfl (L' := [some (.inr 207), some (.inl 5)]) rfl (by decide) ?_
  refine v_goto (q := 40) C dX3_init_62 rfl ?_
  refine v_iloadn (q := 41) C dX3_init_40 rfl rfl ?_
  refine v_bipush (q := 43) C dX3_init_41 rfl (by decide) ?_
  refine v_icmp_ge (q := 46) (tgt := 65) C dX3_init_43 rfl rfl (A := False) (B := True) (by decide) (fun h => h.elim) (fun h => ?_)
  refine v_aloadn (q := 47) C dX3_init_46 rfl rfl ?_
  refine k_get (q := 50) (v := 210) C kl3 fl_X3_20 ⟨by decide +kernel, by decide +kernel⟩ (by decide +kernel) rfl rfl (by decide +kernel) dX3_init_47 rfl ?_
  refine v_iloadn (q := 51) C dX3_init_50 rfl rfl ?_
  refine k_new (q := 54) (n' := 22) (a := 130) C kl10 df10 ck_X3_18 ⟨in_10, it_10⟩ rfl ⟨nb rfl, nb rfl⟩ (by decide +kernel) (by decide +kernel) (z_me_0 (by decide +kernel)) dX3_init_51 rfl ?_
  refine v_dup (q := 55) C dX3_init_54 rfl ?_
  refine k_cN0 (q := 58) (n' := 24) (M2 := z_me z_0 ML7) C (kt_X10_init (t := 130) (by decide) (nb rfl) ⟨by decide +kernel, by decide +kernel⟩ (by decide +kernel) (by decide +kernel) (by decide +kernel) (by decide +kernel)) sy_X10_init si_X10_init rfl mn_X3_27 ⟨by decide +kernel, by decide +kernel⟩ ⟨nb rfl, nb rfl⟩ ⟨nb rfl, nb rfl, nb rfl⟩ (nb rfl) dX3_init_55 rfl ?_
  refine k_aast (q := 59) (kd := 14) (ci := 10) (len := 18) (r := (RX10, TX10, 3)) C ⟨by decide +kernel, by decide +kernel⟩ (Or.inl rfl) (by decide +kernel) ⟨by decide +kernel, by decide +kernel⟩ (by decide +kernel) (by decide) rfl rfl (by decide) (by decide) dX3_init_58 rfl ?_
  refine k_iinc (q := 62) (z := 6) C dX3_init_59 rfl (nb rfl) rfl rfl (L' := [some (.inr 207), some (.inl 6)]) rfl (by decide) ?_
  refine v_goto (q := 40) C dX3_init_62 rfl ?_
  refine v_iloadn (q := 41) C dX3_init_40 rfl rfl ?_
  refine v_bipush (q := 43) C dX3_init_41 rfl (by decide) ?_
  refine v_icmp_ge (q := 46) (tgt := 65) C dX3_init_43 rfl rfl (A := False) (B := True) (by decide) (fun h => h.elim) (fun h => ?_)
  refine v_aloadn (q := 47) C dX3_init_46 rfl rfl ?_
  refine k_get (q := 50) (v := 210) C kl3 fl_X3_20 ⟨by decide +kernel, by decide +kernel⟩ (by decide +kernel) rfl rfl (by decide +kernel) dX3_init_47 rfl ?_
  refine v_iloadn (q := 51) C dX3_init_50 rfl rfl ?_
  refine k_new (q := 54) (n' := 25) (a := 133) C kl10 df10 ck_X3_18 ⟨in_10, it_10⟩ rfl ⟨nb rfl, nb rfl⟩ (by decide +kernel) (by decide +kernel) (z_me_0 (by decide +kernel)) dX3_init_51 rfl ?_
  refine v_dup (q := 55) C dX3_init_54 rfl ?_
  refine k_cN0 (q := 58) (n' := 27) (M2 := z_me z_0 ML8) C (kt_X10_init (t := 133) (by decide) (nb rfl) ⟨by decide +kernel, by decide +kernel⟩ (by decide +kernel) (by decide +kernel) (by decide +kernel) (by decide +kernel)) sy_X10_init si_X10_init rfl mn_X3_27 ⟨by decide +kernel, by decide +kernel⟩ ⟨nb rfl, nb rfl⟩ ⟨nb rfl, nb rfl, nb rfl⟩ (nb rfl) dX3_init_55 rfl ?_
  refine k_aast (q := 59) (kd := 14) (ci := 10) (len := 18) (r := (RX10, TX10, 3)) C ⟨by decide +kernel, by decide +kernel⟩ (Or.inl rfl) (by decide +kernel) ⟨by decide +kernel, by decide +kernel⟩ (by decide +kernel) (by decide) rfl rfl (by decide) (by decide) dX3_init_58 rfl ?_
  refine k_iinc (q := 62) (z := 7) C dX3_init_59 rfl (nb rfl) rfl rfl (L' := [some (.inr 207), some (.inl 7)]) rfl (by decide) ?_
  refine v_goto (q := 40) C dX3_init_62 rfl ?_
  refine v_iloadn (q := 41) C dX3_init_40 rfl rfl ?_
  refine v_bipush (q := 43) C dX3_init_41 rfl (by decide) ?_
  refine v_icmp_ge (q := 46) (tgt := 65) C dX3_init_43 rfl rfl (A := False) (B := True) (by decide) (fun h => h.elim) (fun h => ?_)
  refine v_aloadn (q := 47) C dX3_init_46 rfl rfl ?_
  refine k_get (q := 50) (v := 210) C kl3 fl_X3_20 ⟨by decide +kernel, by decide +kernel⟩ (by decide +kernel) rfl rfl (by decide +kernel) dX3_init_47 rfl ?_
  refine v_iloadn (q := 51) C dX3_init_50 rfl rfl ?_
  refine k_new (q := 54) (n' := 28) (a := 136) C kl10 df10 ck_X3_18 ⟨in_10, it_10⟩ rfl ⟨nb rfl, nb rfl⟩ (by decide +kernel) (by decide +kernel) (z_me_0 (by decide +kernel)) dX3_init_51 rfl ?_
  refine v_dup (q := 55) C dX3_init_54 rfl ?_
  refine k_cN0 (q := 58) (n' := 30) (M2 := z_me z_0 ML9) C (kt_X10_init (t := 136) (by decide) (nb rfl) ⟨by decide +kernel, by decide +kernel⟩ (by decide +kernel) (by decide +kernel) (by decide +kernel) (by decide +kernel)) sy_X10_init si_X10_init rfl mn_X3_27 ⟨by decide +kernel, by decide +kernel⟩ ⟨nb rfl, nb rfl⟩ ⟨nb rfl, nb rfl, nb rfl⟩ (nb rfl) dX3_init_55 rfl ?_
  refine k_aast (q := 59) (kd := 14) (ci := 10) (len := 18) (r := (RX10, TX10, 3)) C ⟨by decide +kernel, by decide +kernel⟩ (Or.inl rfl) (by decide +kernel) ⟨by decide +kernel, by decide +kernel⟩ (by decide +kernel) (by decide) rfl rfl (by decide) (by decide) dX3_init_58 rfl ?_
  refine k_iinc (q := 62) (z := 8) C dX3_init_59 rfl (nb rfl) rfl rfl (L' := [some (.inr 207), some (.inl 8)]) rfl (by decide) ?_
  refine v_goto (q := 40) C dX3_init_62 rfl ?_
  refine v_iloadn (q := 41) C dX3_init_40 rfl rfl ?_
  refine v_bipush (q := 43) C dX3_init_41 rfl (by decide) ?_
  refine v_icmp_ge (q := 46) (tgt := 65) C dX3_init_43 rfl rfl (A := False) (B := True) (by decide) (fun h => h.elim) (fun h => ?_)
  refine v_aloadn (q := 47) C dX3_init_46 rfl rfl ?_
  refine k_get (q := 50) (v := 210) C kl3 fl_X3_20 ⟨by decide +kernel, by decide +kernel⟩ (by decide +kernel) rfl rfl (by decide +kernel) dX3_init_47 rfl ?_
  refine v_iloadn (q := 51) C dX3_init_50 rfl rfl ?_
  refine k_new (q := 54) (n' := 31) (a := 139) C kl10 df10 ck_X3_18 ⟨in_10, it_10⟩ rfl ⟨nb rfl, nb rfl⟩ (by decide +kernel) (by decide +kernel) (z_me_0 (by decide +kernel)) dX3_init_51 rfl ?_
  refine v_dup (q := 55) C dX3_init_54 rfl ?_
  refine k_cN0 (q := 58) (n' := 33) (M2 := z_me z_0 ML10) C (kt_X10_init (t := 139) (by decide) (nb rfl) ⟨by decide +kernel, by decide +kernel⟩ (by decide +kernel) (by decide +kernel) (by decide +kernel) (by decide +kernel)) sy_X10_init si_X10_init rfl mn_X3_27 ⟨by decide +kernel, by decide +kernel⟩ ⟨nb rfl, nb rfl⟩ ⟨nb rfl, nb rfl, nb rfl⟩ (nb rfl) dX3_init_55 rfl ?_
  refine k_aast (q := 59) (kd := 14) (ci := 10) (len := 18) (r := (RX10, TX10, 3)) C ⟨by decide +kernel, by decide +kernel⟩ (Or.inl rfl) (by decide +kernel) ⟨by decide +kernel, by decide +kernel⟩ (by decide +kernel) (by decide) rfl rfl (by decide) (by decide) dX3_init_58 rfl ?_
  refine k_iinc (q := 62) (z := 9) C dX3_init_59 rfl (nb rfl) rfl rfl (L' := [some (.inr 207), some (.inl 9)]) rfl (by decide) ?_
  refine v_goto (q := 40) C dX3_init_62 rfl ?_
  refine v_iloadn (q := 41) C dX3_init_40 rfl rfl ?_
  refine v_bipush (q := 43) C dX3_init_41 rfl (by decide) ?_
  refine v_icmp_ge (q := 46) (tgt := 65) C dX3_init_43 rfl rfl (A := False) (B := True) (by decide) (fun h => h.elim) (fun h => ?_)
  refine v_aloadn (q := 47) C dX3_init_46 rfl rfl ?_
  refine k_get (q := 50) (v := 210) C kl3 fl_X3_20 ⟨by decide +kernel, by decide +kernel⟩ (by decide +kernel) rfl rfl (by decide +kernel) dX3_init_47 rfl ?_
  refine v_iloadn (q := 51) C dX3_init_50 rfl rfl ?_
  refine k_new (q := 54) (n' := 34) (a := 142) C kl10 df10 ck_X3_18 ⟨in_10, it_10⟩ rfl ⟨nb rfl, nb rfl⟩ (by decide +kernel) (by decide +kernel) (z_me_0 (by decide +kernel)) dX3_init_51 rfl ?_
  refine v_dup (q := 55) C dX3_init_54 rfl ?_
  refine k_cN0 (q := 58) (n' := 36) (M2 := z_me z_0 ML11) C (kt_X10_init (t := 142) (by decide) (nb rfl) ⟨by decide +kernel, by decide +kernel⟩ (by decide +kernel) (by decide +kernel) (by decide +kernel) (by decide +kernel)) sy_X10_init si_X10_init rfl mn_X3_27 ⟨by decide +kernel, by decide +kernel⟩ ⟨nb rfl, nb rfl⟩ ⟨nb rfl, nb rfl, nb rfl⟩ (nb rfl) dX3_init_55 rfl ?_
  refine k_aast (q := 59) (kd := 14) (ci := 10) (len := 18) (r := (RX10, TX10, 3)) C ⟨by decide +kernel, by decide +kernel⟩ (Or.inl rfl) (by decide +kernel) ⟨by decide +kernel, by decide +kernel⟩ (by decide +kernel) (by decide) rfl rfl (by decide) (by decide) dX3_init_58 rfl ?_
  refine k_iinc (q := 62) (z := 10) C dX3_init_59 rfl (nb rfl) rfl rfl (L' := [some (.inr 207), some (.inl 10)]) rfl (by decide) ?_
  refine v_goto (q := 40) C dX3_init_62 rfl ?_
  refine v_iloadn (q := 41) C dX3_init_40 rfl rfl ?_
  refine v_bipush (q := 43) C dX3_init_41 rfl (by decide) ?_
  refine v_icmp_ge (q := 46) (tgt := 65) C dX3_init_43 rfl rfl (A := False) (B := True) (by decide) (fun h => h.elim) (fun h => ?_)
  refine v_aloadn (q := 47) C dX3_init_46 rfl rfl ?_
  refine k_get (q := 50) (v := 210) C kl3 fl_X3_20 ⟨by decide +kernel, by decide +kernel⟩ (by decide +kernel) rfl rfl (by decide +kernel) dX3_init_47 rfl ?_
  refine v_iloadn (q := 51) C dX3_init_50 rfl rfl ?_
  refine k_new (q := 54) (n' := 37) (a := 145) C kl10 df10 ck_X3_18 ⟨in_10, it_10⟩ rfl ⟨nb rfl, nb rfl⟩ (by decide +kernel) (by decide +kernel) (z_me_0 (by decide +kernel)) dX3_init_51 rfl ?_
  refine v_dup (q := 55) C dX3_init_54 rfl ?_
  refine k_cN0 (q := 58) (n' := 39) (M2 := z_me z_0 ML12) C (kt_X10_init (t := 145) (by decide) (nb rfl) ⟨by decide +kernel, by decide +kernel⟩ (by decide +kernel) (by decide +kernel) (by decide +kernel) (by decide +kernel)) sy_X10_init si_X10_init rfl mn_X3_27 ⟨by decide +kernel, by decide +kernel⟩ ⟨nb rfl, nb rfl⟩ ⟨nb rfl, nb rfl, nb rfl⟩ (nb rfl) dX3_init_55 rfl ?_
  refine k_aast (q := 59) (kd := 14) (ci := 10) (len := 18) (r := (RX10, TX10, 3)) C ⟨by decide +kernel, by decide +kernel⟩ (Or.inl rfl) (by decide +kernel) ⟨by decide +kernel, by decide +kernel⟩ (by decide +kernel) (by decide) rfl rfl (by decide) (by decide) dX3_init_58 rfl ?_
  refine k_iinc (q := 62) (z := 11) C dX3_init_59 rfl (nb rfl) rfl rfl (L' := [some (.inr 207), some (.inl 11)]) rfl (by decide) ?_
  refine v_goto (q := 40) C dX3_init_62 rfl ?_
  refine v_iloadn (q := 41) C dX3_init_40 rfl rfl ?_
  refine v_bipush (q := 43) C dX3_init_41 rfl (by decide) ?_
  refine v_icmp_ge (q := 46) (tgt := 65) C dX3_init_43 rfl rfl (A := False) (B := True) (by decide) (fun h => h.elim) (fun h => ?_)
  refine v_aloadn (q := 47) C dX3_init_46 rfl rfl ?_
  refine k_get (q := 50) (v := 210) C kl3 fl_X3_20 ⟨by decide +kernel, by decide +kernel⟩ (by decide +kernel) rfl rfl (by decide +kernel) dX3_init_47 rfl ?_
  refine v_iloadn (q := 51) C dX3_init_50 rfl rfl ?_
  refine k_new (q := 54) (n' := 40) (a := 148) C kl10 df10 ck_X3_18 ⟨in_10, it_10⟩ rfl ⟨nb rfl, nb rfl⟩ (by decide +kernel) (by decide +kernel) (z_me_0 (by decide +kernel)) dX3_init_51 rfl ?_
  refine v_dup (q := 55) C dX3_init_54 rfl ?_
  refine k_cN0 (q := 58) (n' := 42) (M2 := z_me z_0 ML13) C (kt_X10_init (t := 148) (by decide) (nb rfl) ⟨by decide +kernel, by decide +kernel⟩ (by decide +kernel) (by decide +kernel) (by decide +kernel) (by decide +kernel)) sy_X10_init si_X10_init rfl mn_X3_27 ⟨by decide +kernel, by decide +kernel⟩ ⟨nb rfl, nb rfl⟩ ⟨nb rfl, nb rfl, nb rfl⟩ (nb rfl) dX3_init_55 rfl ?_
  refine k_aast (q := 59) (kd := 14) (ci := 10) (len := 18) (r := (RX10, TX10, 3)) C ⟨by decide +kernel, by decide +kernel⟩ (Or.inl rfl) (by decide +kernel) ⟨by decide +kernel, by decide +kernel⟩ (by decide +kernel) (by decide) rfl rfl (by decide) (by decide) dX3_init_58 rfl ?_
  refine k_iinc (q := 62) (z := 12) C dX3_init_59 rfl (nb rfl) rfl rfl (L' := [some (.inr 207), some (.inl 12)]) rfl (by decide) ?_
  refine v_goto (q := 40) C dX3_init_62 rfl ?_
  refine v_iloadn (q := 41) C dX3_init_40 rfl rfl ?_
  refine v_bipush (q := 43) C dX3_init_41 rfl (by decide) ?_
  refine v_icmp_ge (q := 46) (tgt := 65) C dX3_init_43 rfl rfl (A := False) (B := True) (by decide) (fun h => h.elim) (fun h => ?_)
  refine v_aloadn (q := 47) C dX3_init_46 rfl rfl ?_
  refine k_get (q := 50) (v := 210) C kl3 fl_X3_20 ⟨by decide +kernel, by decide +kernel⟩ (by decide +kernel) rfl rfl (by decide +kernel) dX3_init_47 rfl ?_
  refine v_iloadn (q := 51) C dX3_init_50 rfl rfl ?_
  refine k_new (q := 54) (n' := 43) (a := 151) C kl10 df10 ck_X3_18 ⟨in_10, it_10⟩ rfl ⟨nb rfl, nb rfl⟩ (by decide +kernel) (by decide +kernel) (z_me_0 (by decide +kernel)) dX3_init_51 rfl ?_
  refine v_dup (q := 55) C dX3_init_54 rfl ?_
  refine k_cN0 (q := 58) (n' := 45) (M2 := z_me z_0 ML14) C (kt_X10_init (t := 151) (by decide) (nb rfl) ⟨by decide +kernel, by decide +kernel⟩ (by decide +kernel) (by decide +kernel) (by decide +kernel) (by decide +kernel)) sy_X10_init si_X10_init rfl mn_X3_27 ⟨by decide +kernel, by decide +kernel⟩ ⟨nb rfl, nb rfl⟩ ⟨nb rfl, nb rfl, nb rfl⟩ (nb rfl) dX3_init_55 rfl ?_
  refine k_aast (q := 59) (kd := 14) (ci := 10) (len := 18) (r := (RX10, TX10, 3)) C ⟨by decide +kernel, by decide +kernel⟩ (Or.inl rfl) (by decide +kernel) ⟨by decide +kernel, by decide +kernel⟩ (by decide +kernel) (by decide) rfl rfl (by decide) (by decide) dX3_init_58 rfl ?_
  refine k_iinc (q := 62) (z := 13) C dX3_init_59 rfl (nb rfl) rfl rfl (L' := [some (.inr 207), some (.inl 13)]) rfl (by decide) ?_
  refine v_goto (q := 40) C dX3_init_62 rfl ?_
  refine v_iloadn (q := 41) C dX3_init_40 rfl rfl ?_
  refine v_bipush (q := 43) C dX3_init_41 rfl (by decide) ?_
  refine v_icmp_ge (q := 46) (tgt := 65) C dX3_init_43 rfl rfl (A := False) (B := True) (by decide) (fun h => h.elim) (fun h => ?_)
  refine v_aloadn (q := 47) C dX3_init_46 rfl rfl ?_
  refine k_get (q := 50) (v := 210) C kl3 fl_X3_20 ⟨by decide +kernel, by decide +kernel⟩ (by decide +kernel) rfl rfl (by decide +kernel) dX3_init_47 rfl ?_
  refine v_iloadn (q := 51) C dX3_init_50 rfl rfl ?_
  refine k_new (q := 54) (n' := 46) (a := 154) C kl10 df10 ck_X3_18 ⟨in_10, it_10⟩ rfl ⟨nb rfl, nb rfl⟩ (by decide +kernel) (by decide +kernel) (z_me_0 (by decide +kernel)) dX3_init_51 rfl ?_
  refine v_dup (q := 55) C dX3_init_54 rfl ?_
  refine k_cN0 (q := 58) (n' := 48) (M2 := z_me z_0 ML15) C (kt_X10_init (t := 154) (by decide) (nb rfl) ⟨by decide +kernel, by decide +kernel⟩ (by decide +kernel) (by decide +kernel) (by decide +kernel) (by decide +kernel)) sy_X10_init si_X10_init rfl mn_X3_27 ⟨by decide +kernel, by decide +kernel⟩ ⟨nb rfl, nb rfl⟩ ⟨nb rfl, nb rfl, nb rfl⟩ (nb rfl) dX3_init_55 rfl ?_
  refine k_aast (q := 59) (kd := 14) (ci := 10) (len := 18) (r := (RX10, TX10, 3)) C ⟨by decide +kernel, by decide +kernel⟩ (Or.inl rfl) (by decide +kernel) ⟨by decide +kernel, by decide +kernel⟩ (by decide +kernel) (by decide) rfl rfl (by decide) (by decide) dX3_init_58 rfl ?_
  refine k_iinc (q := 62) (z := 14) C dX3_init_59 rfl (nb rfl) rfl rfl (L' := [some (.inr 207), some (.inl 14)]) rfl (by decide) ?_
  refine v_goto (q := 40) C dX3_init_62 rfl ?_
  refine v_iloadn (q := 41) C dX3_init_40 rfl rfl ?_
  refine v_bipush (q := 43) C dX3_init_41 rfl (by decide) ?_
  refine v_icmp_ge (q := 46) (tgt := 65) C dX3_init_43 rfl rfl (A := False) (B := True) (by decide) (fun h => h.elim) (fun h => ?_)
  refine v_aloadn (q := 47) C dX3_init_46 rfl rfl ?_
  refine k_get (q := 50) (v := 210) C kl3 fl_X3_20 ⟨by decide +kernel, by decide +kernel⟩ (by decide +kernel) rfl rfl (by decide +kernel) dX3_init_47 rfl ?_
  refine v_iloadn (q := 51) C dX3_init_50 rfl rfl ?_
  refine k_new (q := 54) (n' := 49) (a := 157) C kl10 df10 ck_X3_18 ⟨in_10, it_10⟩ rfl ⟨nb rfl, nb rfl⟩ (by decide +kernel) (by decide +kernel) (z_me_0 (by decide +kernel)) dX3_init_51 rfl ?_
  refine v_dup (q := 55) C dX3_init_54 rfl ?_
  refine k_cN0 (q := 58) (n' := 51) (M2 := z_me z_0 ML16) C (kt_X10_init (t := 157) (by decide) (nb rfl) ⟨by decide +kernel, by decide +kernel⟩ (by decide +kernel) (by decide +kernel) (by decide +kernel) (by decide +kernel)) sy_X10_init si_X10_init rfl mn_X3_27 ⟨by decide +kernel, by decide +kernel⟩ ⟨nb rfl, nb rfl⟩ ⟨nb rfl, nb rfl, nb rfl⟩ (nb rfl) dX3_init_55 rfl ?_
  refine k_aast (q := 59) (kd := 14) (ci := 10) (len := 18) (r := (RX10, TX10, 3)) C ⟨by decide +kernel, by decide +kernel⟩ (Or.inl rfl) (by decide +kernel) ⟨by decide +kernel, by decide +kernel⟩ (by decide +kernel) (by decide) rfl rfl (by decide) (by decide) dX3_init_58 rfl ?_
  refine k_iinc (q := 62) (z := 15) C dX3_init_59 rfl (nb rfl) rfl rfl (L' := [some (.inr 207), some (.inl 15)]) rfl (by decide) ?_
  refine v_goto (q := 40) C dX3_init_62 rfl ?_
  refine v_iloadn (q := 41) C dX3_init_40 rfl rfl ?_
  refine v_bipush (q := 43) C dX3_init_41 rfl (by decide) ?_
  refine v_icmp_ge (q := 46) (tgt := 65) C dX3_init_43 rfl rfl (A := False) (B := True) (by decide) (fun h => h.elim) (fun h => ?_)
  refine v_aloadn (q := 47) C dX3_init_46 rfl rfl ?_
  refine k_get (q := 50) (v := 210) C kl3 fl_X3_20 ⟨by decide +kernel, by decide +kernel⟩ (by decide +kernel) rfl rfl (by decide +kernel) dX3_init_47 rfl ?_
  refine v_iloadn (q := 51) C dX3_init_50 rfl rfl ?_
  refine k_new (q := 54) (n' := 52) (a := 160) C kl10 df10 ck_X3_18 ⟨in_10, it_10⟩ rfl ⟨nb rfl, nb rfl⟩ (by decide +kernel) (by decide +kernel) (z_me_0 (by decide +kernel)) dX3_init_51 rfl ?_
  refine v_dup (q := 55) C dX3_init_54 rfl ?_
  refine k_cN0 (q := 58) (n' := 54) (M2 := z_me z_0 ML17) C (kt_X10_init (t := 160) (by decide) (nb rfl) ⟨by decide +kernel, by decide +kernel⟩ (by decide +kernel) (by decide +kernel) (by decide +kernel) (by decide +kernel)) sy_X10_init si_X10_init rfl mn_X3_27 ⟨by decide +kernel, by decide +kernel⟩ ⟨nb rfl, nb rfl⟩ ⟨nb rfl, nb rfl, nb rfl⟩ (nb rfl) dX3_init_55 rfl ?_
  refine k_aast (q := 59) (kd := 14) (ci := 10) (len := 18) (r := (RX10, TX10, 3)) C ⟨by decide +kernel, by decide +kernel⟩ (Or.inl rfl) (by decide +kernel) ⟨by decide +kernel, by decide +kernel⟩ (by decide +kernel) (by decide) rfl rfl (by decide) (by decide) dX3_init_58 rfl ?_
  refine k_iinc (q := 62) (z := 16) C dX3_init_59 rfl (nb rfl) rfl rfl (L' := [some (.inr 207), some (.inl 16)]) rfl (by decide) ?_
  refine v_goto (q := 40) C dX3_init_62 rfl ?_
  refine v_iloadn (q := 41) C dX3_init_40 rfl rfl ?_
  refine v_bipush (q := 43) C dX3_init_41 rfl (by decide) ?_
  refine v_icmp_ge (q := 46) (tgt := 65) C dX3_init_43 rfl rfl (A := False) (B := True) (by decide) (fun h => h.elim) (fun h => ?_)
  refine v_aloadn (q := 47) C dX3_init_46 rfl rfl ?_
  refine k_get (q := 50) (v := 210) C kl3 fl_X3_20 ⟨by decide +kernel, by decide +kernel⟩ (by decide +kernel) rfl rfl (by decide +kernel) dX3_init_47 rfl ?_
  refine v_iloadn (q := 51) C dX3_init_50 rfl rfl ?_
  refine k_new (q := 54) (n' := 55) (a := 163) C kl10 df10 ck_X3_18 ⟨in_10, it_10⟩ rfl ⟨nb rfl, nb rfl⟩ (by decide +kernel) (by decide +kernel) (z_me_0 (by decide +kernel)) dX3_init_51 rfl ?_
  refine v_dup (q := 55) C dX3_init_54 rfl ?_
  refine k_cN0 (q := 58) (n' := 57) (M2 := z_me z_0 ML18) C (kt_X10_init (t := 163) (by decide) (nb rfl) ⟨by decide +kernel, by decide +kernel⟩ (by decide +kernel) (by decide +kernel) (by decide +kernel) (by decide +kernel)) sy_X10_init si_X10_init rfl mn_X3_27 ⟨by decide +kernel, by decide +kernel⟩ ⟨nb rfl, nb rfl⟩ ⟨nb rfl, nb rfl, nb rfl⟩ (nb rfl) dX3_init_55 rfl ?_
  refine k_aast (q := 59) (kd := 14) (ci := 10) (len := 18) (r := (RX10, TX10, 3)) C ⟨by decide +kernel, by decide +kernel⟩ (Or.inl rfl) (by decide +kernel) ⟨by decide +kernel, by decide +kernel⟩ (by decide +kernel) (by decide) rfl rfl (by decide) (by decide) dX3_init_58 rfl ?_
  refine k_iinc (q := 62) (z := 17) C dX3_init_59 rfl (nb rfl) rfl rfl (L' := [some (.inr 207), some (.inl 17)]) rfl (by decide) ?_
  refine v_goto (q := 40) C dX3_init_62 rfl ?_
  refine v_iloadn (q := 41) C dX3_init_40 rfl rfl ?_
  refine v_bipush (q := 43) C dX3_init_41 rfl (by decide) ?_
  refine v_icmp_ge (q := 46) (tgt := 65) C dX3_init_43 rfl rfl (A := False) (B := True) (by decide) (fun h => h.elim) (fun h => ?_)
  refine v_aloadn (q := 47) C dX3_init_46 rfl rfl ?_
  refine k_get (q := 50) (v := 210) C kl3 fl_X3_20 ⟨by decide +kernel, by decide +kernel⟩ (by decide +kernel) rfl rfl (by decide +kernel) dX3_init_47 rfl ?_
  refine v_iloadn (q := 51) C dX3_init_50 rfl rfl ?_
  refine k_new (q := 54) (n' := 58) (a := 166) C kl10 df10 ck_X3_18 ⟨in_10, it_10⟩ rfl ⟨nb rfl, nb rfl⟩ (by decide +kernel) (by decide +kernel) (z_me_0 (by decide +kernel)) dX3_init_51 rfl ?_
  refine v_dup (q := 55) C dX3_init_54 rfl ?_
  refine k_cN0 (q := 58) (n' := 60) (M2 := z_me z_0 ML19) C (kt_X10_init (t := 166) (by decide) (nb rfl) ⟨by decide +kernel, by decide +kernel⟩ (by decide +kernel) (by decide +kernel) (by decide +kernel) (by decide +kernel)) sy_X10_init si_X10_init rfl mn_X3_27 ⟨by decide +kernel, by decide +kernel⟩ ⟨nb rfl, nb rfl⟩ ⟨nb rfl, nb rfl, nb rfl⟩ (nb rfl) dX3_init_55 rfl ?_
  refine k_aast (q := 59) (kd := 14) (ci := 10) (len := 18) (r := (RX10, TX10, 3)) C ⟨by decide +kernel, by decide +kernel⟩ (Or.inl rfl) (by decide +kernel) ⟨by decide +kernel, by decide +kernel⟩ (by decide +kernel) (by decide) rfl rfl (by decide) (by decide) dX3_init_58 rfl ?_
  refine k_iinc (q := 62) (z := 18) C dX3_init_59 rfl (nb rfl) rfl rfl (L' := [some (.inr 207), some (.inl 18)]) rfl (by decide) ?_
  refine v_goto (q := 40) C dX3_init_62 rfl ?_
  refine v_iloadn (q := 41) C dX3_init_40 rfl rfl ?_
  refine v_bipush (q := 43) C dX3_init_41 rfl (by decide) ?_
  refine v_icmp_ge (q := 46) (tgt := 65) C dX3_init_43 rfl rfl (A := True) (B := False) (by decide) (fun h => ?_) (fun h => h.elim)
  refine v_aloadn (q := 66) C dX3_init_65 rfl rfl ?_
  refine k_get (q := 69) (v := 211) C kl3 fl_X3_24 ⟨by decide +kernel, by decide +kernel⟩ (by decide +kernel) rfl rfl (by decide +kernel) dX3_init_66 rfl ?_
  refine v_bipush (q := 71) C dX3_init_69 rfl (by decide) ?_
  refine v_iconst (q := 72) C dX3_init_71 rfl (by decide) ?_
  refine k_iast (q := 73) (len := 128) C ⟨by decide +kernel, by decide +kernel⟩ (by decide +kernel) (by decide) dX3_init_72 rfl ?_
  exact k_vret hR dX3_init_73
theorem kt_X9_init : zMet yX9_init cX9_init 3 none 2 40 [.inr 212, .inr 207] 61 72 (z_me z_0 ML22) (KZ (z_me z_0 ML26)) := by
  refine zMet_of (L0 := [some (.inr 212), some (.inr 207), none]) sy_X9_init rfl (nb rfl) (nb rfl) (fun X C hI _ _ hR => ?_)
  have C : zC X cX9_init RX9 3 none 2 40 72 := C
  refine v_aloadn (q := 1) C dX9_init_0 rfl rfl ?_
  refine v_objInit (q := 4) C ml_X9_3 oi oc ⟨by decide +kernel, by decide +kernel⟩ (nb rfl) (nb rfl) dX9_init_1 rfl ?_
  refine v_aloadn (q := 5) C dX9_init_4 rfl rfl ?_
  refine v_bipush (q := 7) C dX9_init_5 rfl (by decide) ?_
  refine k_newarray (q := 9) (n' := 62) (len := 48) (a := 213) C ac_I rfl ⟨nb rfl, nb rfl⟩ (by decide +kernel) (by decide +kernel) rfl (nb rfl) (z_me_0 (by decide +kernel)) dX9_init_7 rfl ?_
  refine k_putF (q := 12) C hI rfl kl9 fl_X9_9 ⟨by decide +kernel, by decide +kernel⟩ (by decide +kernel) rfl rfl (Or.inr ⟨_, rfl⟩) rfl rfl (by decide) dX9_init_9 rfl ?_
  refine v_aloadn (q := 13) C dX9_init_12 rfl rfl ?_
  refine v_iconst (q := 14) C dX9_init_13 rfl (by decide) ?_
  refine k_anewarray (q := 17) (n' := 63) (len := 3) (kd := 14) (a := 214) C (Or.inl rfl) rfl ck_X9_15 rfl ⟨nb rfl, nb rfl⟩ (by decide +kernel) (by decide +kernel) rfl (nb rfl) (z_me_0 (by decide +kernel)) dX9_init_14 rfl ?_
  refine k_putF (q := 20) C hI rfl kl9 fl_X9_17 ⟨by decide +kernel, by decide +kernel⟩ (by decide +kernel) rfl rfl (Or.inr ⟨_, rfl⟩) rfl rfl (by decide) dX9_init_17 rfl ?_
  refine v_aloadn (q := 21) C dX9_init_20 rfl rfl ?_
  refine v_aloadn (q := 22) C dX9_init_21 rfl rfl ?_
  refine k_putF (q := 25) C hI rfl kl9 fl_X9_21 ⟨by decide +kernel, by decide +kernel⟩ (by decide +kernel) rfl rfl (Or.inl ⟨_, rfl⟩) rfl rfl (by decide) dX9_init_22 rfl ?_
  refine v_iconst (q := 26) C dX9_init_25 rfl (by decide) ?_
  refine v_istoren (q := 27) C dX9_init_26 rfl (nb rfl) (L' := [some (.inr 212), some (.inr 207), some (.inl 0)]) rfl ?_
  refine v_iloadn (q := 28) C dX9_init_27 rfl rfl ?_
  refine v_iconst (q := 29) C dX9_init_28 rfl (by decide) ?_
  refine v_icmp_ge (q := 32) (tgt := 51) C dX9_init_29 rfl rfl (A := False) (B := True) (by decide) (fun h => h.elim) (fun h => ?_)
  refine v_aloadn (q := 33) C dX9_init_32 rfl rfl ?_
  refine k_get (q := 36) (v := 214) C kl9 fl_X9_17 ⟨by decide +kernel, by decide +kernel⟩ (by decide +kernel) rfl rfl (by decide +kernel) dX9_init_33 rfl ?_
  refine v_iloadn (q := 37) C dX9_init_36 rfl rfl ?_
  refine k_new (q := 40) (n' := 64) (a := 169) C kl10 df10 ck_X9_15 ⟨in_10, it_10⟩ rfl ⟨nb rfl, nb rfl⟩ (by decide +kernel) (by decide +kernel) (z_me_0 (by decide +kernel)) dX9_init_37 rfl ?_
  refine v_dup (q := 41) C dX9_init_40 rfl ?_
  refine k_cN0 (q := 44) (n' := 66) (M2 := z_me z_0 ML23) C (kt_X10_init (t := 169) (by decide) (nb rfl) ⟨by decide +kernel, by decide +kernel⟩ (by decide +kernel) (by decide +kernel) (by decide +kernel) (by decide +kernel)) sy_X10_init si_X10_init rfl mn_X9_25 ⟨by decide +kernel, by decide +kernel⟩ ⟨nb rfl, nb rfl⟩ ⟨nb rfl, nb rfl, nb rfl⟩ (nb rfl) dX9_init_41 rfl ?_
  refine k_aast (q := 45) (kd := 14) (ci := 10) (len := 3) (r := (RX10, TX10, 3)) C ⟨by decide +kernel, by decide +kernel⟩ (Or.inl rfl) (by decide +kernel) ⟨by decide +kernel, by decide +kernel⟩ (by decide +kernel) (by decide) rfl rfl (by decide) (by decide) dX9_init_44 rfl ?_
  refine k_iinc (q := 48) (z := 1) C dX9_init_45 rfl (nb rfl) rfl rfl (L' := [some (.inr 212), some (.inr 207), some (.inl 1)]) rfl (by decide) ?_
  refine v_goto (q := 27) C dX9_init_48 rfl ?_
  refine v_iloadn (q := 28) C dX9_init_27 rfl rfl ?_
  refine v_iconst (q := 29) C dX9_init_28 rfl (by decide) ?_
  refine v_icmp_ge (q := 32) (tgt := 51) C dX9_init_29 rfl rfl (A := False) (B := True) (by decide) (fun h => h.elim) (fun h => ?_)
  refine v_aloadn (q := 33) C dX9_init_32 rfl rfl ?_
  refine k_get (q := 36) (v := 214) C kl9 fl_X9_17 ⟨by decide +kernel, by decide +kernel⟩ (by decide +kernel) rfl rfl (by decide +kernel) dX9_init_33 rfl ?_
  refine v_iloadn (q := 37) C dX9_init_36 rfl rfl ?_
  refine k_new (q := 40) (n' := 67) (a := 172) C kl10 df10 ck_X9_15 ⟨in_10, it_10⟩ rfl ⟨nb rfl, nb rfl⟩ (by decide +kernel) (by decide +kernel) (z_me_0 (by decide +kernel)) dX9_init_37 rfl ?_
  refine v_dup (q := 41) C dX9_init_40 rfl ?_
  refine k_cN0 (q := 44) (n' := 69) (M2 := z_me z_0 ML24) C (kt_X10_init (t := 172) (by decide) (nb rfl) ⟨by decide +kernel, by decide +kernel⟩ (by decide +kernel) (by decide +kernel) (by decide +kernel) (by decide +kernel)) sy_X10_init si_X10_init rfl mn_X9_25 ⟨by decide +kernel, by decide +kernel⟩ ⟨nb rfl, nb rfl⟩ ⟨nb rfl, nb rfl, nb rfl⟩ (nb rfl) dX9_init_41 rfl ?_
  refine k_aast (q := 45) (kd := 14) (ci := 10) (len := 3) (r := (RX10, TX10, 3)) C ⟨by decide +kernel, by decide +kernel⟩ (Or.inl rfl) (by decide +kernel) ⟨by decide +kernel, by decide +kernel⟩ (by decide +kernel) (by decide) rfl rfl (by decide) (by decide) dX9_init_44 rfl ?_
  refine k_iinc (q := 48) (z := 2) C dX9_init_45 rfl (nb rfl) rfl rfl (L' := [some (.inr 212), some (.inr 207), some (.inl 2)]) rfl (by decide) ?_
  refine v_goto (q := 27) C dX9_init_48 rfl ?_
  refine v_iloadn (q := 28) C dX9_init_27 rfl rfl ?_
  refine v_iconst (q := 29) C dX9_init_28 rfl (by decide) ?_
  refine v_icmp_ge (q := 32) (tgt := 51) C dX9_init_29 rfl rfl (A := False) (B := True) (by decide) (fun h => h.elim) (fun h => ?_)
  refine v_aloadn (q := 33) C dX9_init_32 rfl rfl ?_
  refine k_get (q := 36) (v := 214) C kl9 fl_X9_17 ⟨by decide +kernel, by decide +kernel⟩ (by decide +kernel) rfl rfl (by decide +kernel) dX9_init_33 rfl ?_
  refine v_iloadn (q := 37) C dX9_init_36 rfl rfl ?_
  refine k_new (q := 40) (n' := 70) (a := 175) C kl10 df10 ck_X9_15 ⟨in_10, it_10⟩ rfl ⟨nb rfl, nb rfl⟩ (by decide +kernel) (by decide +kernel) (z_me_0 (by decide +kernel)) dX9_init_37 rfl ?_
  refine v_dup (q := 41) C dX9_init_40 rfl ?_
  refine k_cN0 (q := 44) (n' := 72) (M2 := z_me z_0 ML25) C (kt_X10_init (t := 175) (by decide) (nb rfl) ⟨by decide +kernel, by decide +kernel⟩ (by decide +kernel) (by decide +kernel) (by decide +kernel) (by decide +kernel)) sy_X10_init si_X10_init rfl mn_X9_25 ⟨by decide +kernel, by decide +kernel⟩ ⟨nb rfl, nb rfl⟩ ⟨nb rfl, nb rfl, nb rfl⟩ (nb rfl) dX9_init_41 rfl ?_
  refine k_aast (q := 45) (kd := 14) (ci := 10) (len := 3) (r := (RX10, TX10, 3)) C ⟨by decide +kernel, by decide +kernel⟩ (Or.inl rfl) (by decide +kernel) ⟨by decide +kernel, by decide +kernel⟩ (by decide +kernel) (by decide) rfl rfl (by decide) (by decide) dX9_init_44 rfl ?_
  refine k_iinc (q := 48) (z := 3) C dX9_init_45 rfl (nb rfl) rfl rfl (L' := [some (.inr 212), some (.inr 207), some (.inl 3)]) rfl (by decide) ?_
  refine v_goto (q := 27) C dX9_init_48 rfl ?_
  refine v_iloadn (q := 28) C dX9_init_27 rfl rfl ?_
  refine v_iconst (q := 29) C dX9_init_28 rfl (by decide) ?_
  refine v_icmp_ge (q := 32) (tgt := 51) C dX9_init_29 rfl rfl (A := True) (B := False) (by decide) (fun h => ?_) (fun h => h.elim)
  exact k_vret hR dX9_init_51
theorem kt_X2_init : zMet yX2_init cX2_init 2 none 1 20 [.inr 215, .inr 207] 73 79 (z_me z_0 ML28) (KZ (z_me z_0 ML29)) := by
  refine zMet_of (L0 := [some (.inr 215), some (.inr 207)]) sy_X2_init rfl (nb rfl) (nb rfl) (fun X C hI _ _ hR => ?_)
  have C : zC X cX2_init RX2 2 none 1 20 79 := C
  refine v_aloadn (q := 1) C dX2_init_0 rfl rfl ?_
  refine v_objInit (q := 4) C ml_X2_5 oi oc ⟨by decide +kernel, by decide +kernel⟩ (nb rfl) (nb rfl) dX2_init_1 rfl ?_
  refine v_aloadn (q := 5) C dX2_init_4 rfl rfl ?_
  refine v_iconst (q := 6) C dX2_init_5 rfl (by decide) ?_
  refine k_newarray (q := 8) (n' := 74) (len := 3) (a := 216) C ac_I rfl ⟨nb rfl, nb rfl⟩ (by decide +kernel) (by decide +kernel) rfl (nb rfl) (z_me_0 (by decide +kernel)) dX2_init_6 rfl ?_
  refine k_putF (q := 11) C hI rfl kl2 fl_X2_11 ⟨by decide +kernel, by decide +kernel⟩ (by decide +kernel) rfl rfl (Or.inr ⟨_, rfl⟩) rfl rfl (by decide) dX2_init_8 rfl ?_
  refine v_aloadn (q := 12) C dX2_init_11 rfl rfl ?_
  refine v_bipush (q := 14) C dX2_init_12 rfl (by decide) ?_
  refine k_anewarray (q := 17) (n' := 75) (len := 61) (kd := 14) (a := 217) C (Or.inl rfl) rfl ck_X2_15 rfl ⟨nb rfl, nb rfl⟩ (by decide +kernel) (by decide +kernel) rfl (nb rfl) (z_me_0 (by decide +kernel)) dX2_init_14 rfl ?_
  refine k_putF (q := 20) C hI rfl kl2 fl_X2_17 ⟨by decide +kernel, by decide +kernel⟩ (by decide +kernel) rfl rfl (Or.inr ⟨_, rfl⟩) rfl rfl (by decide) dX2_init_17 rfl ?_
  refine v_aloadn (q := 21) C dX2_init_20 rfl rfl ?_
  refine v_bipush (q := 23) C dX2_init_21 rfl (by decide) ?_
  refine k_newarray (q := 25) (n' := 76) (len := 61) (a := 218) C ac_I rfl ⟨nb rfl, nb rfl⟩ (by decide +kernel) (by decide +kernel) rfl (nb rfl) (z_me_0 (by decide +kernel)) dX2_init_23 rfl ?_
  refine k_putF (q := 28) C hI rfl kl2 fl_X2_21 ⟨by decide +kernel, by decide +kernel⟩ (by decide +kernel) rfl rfl (Or.inr ⟨_, rfl⟩) rfl rfl (by decide) dX2_init_25 rfl ?_
  refine v_aloadn (q := 29) C dX2_init_28 rfl rfl ?_
  refine v_bipush (q := 31) C dX2_init_29 rfl (by decide) ?_
  refine k_newarray (q := 33) (n' := 77) (len := 61) (a := 219) C ac_I rfl ⟨nb rfl, nb rfl⟩ (by decide +kernel) (by decide +kernel) rfl (nb rfl) (z_me_0 (by decide +kernel)) dX2_init_31 rfl ?_
  refine k_putF (q := 36) C hI rfl kl2 fl_X2_24 ⟨by decide +kernel, by decide +kernel⟩ (by decide +kernel) rfl rfl (Or.inr ⟨_, rfl⟩) rfl rfl (by decide) dX2_init_33 rfl ?_
  refine v_aloadn (q := 37) C dX2_init_36 rfl rfl ?_
  refine v_bipush (q := 39) C dX2_init_37 rfl (by decide) ?_
  refine k_newarray (q := 41) (n' := 78) (len := 61) (a := 220) C ac_I rfl ⟨nb rfl, nb rfl⟩ (by decide +kernel) (by decide +kernel) rfl (nb rfl) (z_me_0 (by decide +kernel)) dX2_init_39 rfl ?_
  refine k_putF (q := 44) C hI rfl kl2 fl_X2_27 ⟨by decide +kernel, by decide +kernel⟩ (by decide +kernel) rfl rfl (Or.inr ⟨_, rfl⟩) rfl rfl (by decide) dX2_init_41 rfl ?_
  refine v_aloadn (q := 45) C dX2_init_44 rfl rfl ?_
  refine v_sipush (q := 48) C dX2_init_45 rfl (by decide) ?_
  refine k_newarray (q := 50) (n' := 79) (len := 640) (a := 221) C ac_I rfl ⟨nb rfl, nb rfl⟩ (by decide +kernel) (by decide +kernel) rfl (nb rfl) (z_me_0 (by decide +kernel)) dX2_init_48 rfl ?_
  refine k_putF (q := 53) C hI rfl kl2 fl_X2_30 ⟨by decide +kernel, by decide +kernel⟩ (by decide +kernel) rfl rfl (Or.inr ⟨_, rfl⟩) rfl rfl (by decide) dX2_init_50 rfl ?_
  refine v_aloadn (q := 54) C dX2_init_53 rfl rfl ?_
  refine v_aloadn (q := 55) C dX2_init_54 rfl rfl ?_
  refine k_putF (q := 58) C hI rfl kl2 fl_X2_33 ⟨by decide +kernel, by decide +kernel⟩ (by decide +kernel) rfl rfl (Or.inl ⟨_, rfl⟩) rfl rfl (by decide) dX2_init_55 rfl ?_
  exact k_vret hR dX2_init_58
theorem kt_X6_init : zMet yX6_init cX6_init 3 none 1 20 [.inr 222, .inr 207] 80 90 (z_me z_0 ML31) (KZ (z_me z_0 ML32)) := by
  refine zMet_of (L0 := [some (.inr 222), some (.inr 207), none]) sy_X6_init rfl (nb rfl) (nb rfl) (fun X C hI _ _ hR => ?_)
  have C : zC X cX6_init RX6 3 none 1 20 90 := C
  refine v_aloadn (q := 1) C dX6_init_0 rfl rfl ?_
  refine v_objInit (q := 4) C ml_X6_5 oi oc ⟨by decide +kernel, by decide +kernel⟩ (nb rfl) (nb rfl) dX6_init_1 rfl ?_
  refine v_aloadn (q := 5) C dX6_init_4 rfl rfl ?_
  refine v_sipush (q := 8) C dX6_init_5 rfl (by decide) ?_
  refine k_newarray (q := 10) (n' := 81) (len := 546) (a := 223) C ac_I rfl ⟨nb rfl, nb rfl⟩ (by decide +kernel) (by decide +kernel) rfl (nb rfl) (z_me_0 (by decide +kernel)) dX6_init_8 rfl ?_
  refine k_putF (q := 13) C hI rfl kl6 fl_X6_11 ⟨by decide +kernel, by decide +kernel⟩ (by decide +kernel) rfl rfl (Or.inr ⟨_, rfl⟩) rfl rfl (by decide) dX6_init_10 rfl ?_
  refine v_aloadn (q := 14) C dX6_init_13 rfl rfl ?_
  refine v_sipush (q := 17) C dX6_init_14 rfl (by decide) ?_
  refine k_newarray (q := 19) (n' := 82) (len := 546) (a := 224) C ac_I rfl ⟨nb rfl, nb rfl⟩ (by decide +kernel) (by decide +kernel) rfl (nb rfl) (z_me_0 (by decide +kernel)) dX6_init_17 rfl ?_
  refine k_putF (q := 22) C hI rfl kl6 fl_X6_15 ⟨by decide +kernel, by decide +kernel⟩ (by decide +kernel) rfl rfl (Or.inr ⟨_, rfl⟩) rfl rfl (by decide) dX6_init_19 rfl ?_
  refine v_aloadn (q := 23) C dX6_init_22 rfl rfl ?_
  refine v_sipush (q := 26) C dX6_init_23 rfl (by decide) ?_
  refine k_newarray (q := 28) (n' := 83) (len := 546) (a := 225) C ac_I rfl ⟨nb rfl, nb rfl⟩ (by decide +kernel) (by decide +kernel) rfl (nb rfl) (z_me_0 (by decide +kernel)) dX6_init_26 rfl ?_
  refine k_putF (q := 31) C hI rfl kl6 fl_X6_18 ⟨by decide +kernel, by decide +kernel⟩ (by decide +kernel) rfl rfl (Or.inr ⟨_, rfl⟩) rfl rfl (by decide) dX6_init_28 rfl ?_
  refine v_aloadn (q := 32) C dX6_init_31 rfl rfl ?_
  refine v_sipush (q := 35) C dX6_init_32 rfl (by decide) ?_
  refine k_newarray (q := 37) (n' := 84) (len := 546) (a := 226) C ac_I rfl ⟨nb rfl, nb rfl⟩ (by decide +kernel) (by decide +kernel) rfl (nb rfl) (z_me_0 (by decide +kernel)) dX6_init_35 rfl ?_
  refine k_putF (q := 40) C hI rfl kl6 fl_X6_21 ⟨by decide +kernel, by decide +kernel⟩ (by decide +kernel) rfl rfl (Or.inr ⟨_, rfl⟩) rfl rfl (by decide) dX6_init_37 rfl ?_
  refine v_aloadn (q := 41) C dX6_init_40 rfl rfl ?_
  refine v_bipush (q := 43) C dX6_init_41 rfl (by decide) ?_
  refine k_anewarray (q := 46) (n' := 85) (len := 51) (kd := 14) (a := 227) C (Or.inl rfl) rfl ck_X6_24 rfl ⟨nb rfl, nb rfl⟩ (by decide +kernel) (by decide +kernel) rfl (nb rfl) (z_me_0 (by decide +kernel)) dX6_init_43 rfl ?_
  refine k_putF (q := 49) C hI rfl kl6 fl_X6_26 ⟨by decide +kernel, by decide +kernel⟩ (by decide +kernel) rfl rfl (Or.inr ⟨_, rfl⟩) rfl rfl (by decide) dX6_init_46 rfl ?_
  refine v_aloadn (q := 50) C dX6_init_49 rfl rfl ?_
  refine v_bipush (q := 52) C dX6_init_50 rfl (by decide) ?_
  refine k_newarray (q := 54) (n' := 86) (len := 51) (a := 228) C ac_I rfl ⟨nb rfl, nb rfl⟩ (by decide +kernel) (by decide +kernel) rfl (nb rfl) (z_me_0 (by decide +kernel)) dX6_init_52 rfl ?_
  refine k_putF (q := 57) C hI rfl kl6 fl_X6_30 ⟨by decide +kernel, by decide +kernel⟩ (by decide +kernel) rfl rfl (Or.inr ⟨_, rfl⟩) rfl rfl (by decide) dX6_init_54 rfl ?_
  refine v_aloadn (q := 58) C dX6_init_57 rfl rfl ?_
  refine v_bipush (q := 60) C dX6_init_58 rfl (by decide) ?_
  refine k_newarray (q := 62) (n' := 87) (len := 51) (a := 229) C ac_I rfl ⟨nb rfl, nb rfl⟩ (by decide +kernel) (by decide +kernel) rfl (nb rfl) (z_me_0 (by decide +kernel)) dX6_init_60 rfl ?_
  refine k_putF (q := 65) C hI rfl kl6 fl_X6_33 ⟨by decide +kernel, by decide +kernel⟩ (by decide +kernel) rfl rfl (Or.inr ⟨_, rfl⟩) rfl rfl (by decide) dX6_init_62 rfl ?_
  refine v_aloadn (q := 66) C dX6_init_65 rfl rfl ?_
  refine v_bipush (q := 68) C dX6_init_66 rfl (by decide) ?_
  refine k_newarray (q := 70) (n' := 88) (len := 51) (a := 230) C ac_I rfl ⟨nb rfl, nb rfl⟩ (by decide +kernel) (by decide +kernel) rfl (nb rfl) (z_me_0 (by decide +kernel)) dX6_init_68 rfl ?_
  refine k_putF (q := 73) C hI rfl kl6 fl_X6_36 ⟨by decide +kernel, by decide +kernel⟩ (by decide +kernel) rfl rfl (Or.inr ⟨_, rfl⟩) rfl rfl (by decide) dX6_init_70 rfl ?_
  refine v_aloadn (q := 74) C dX6_init_73 rfl rfl ?_
  refine v_sipush (q := 77) C dX6_init_74 rfl (by decide) ?_
  refine k_newarray (q := 79) (n' := 89) (len := 540) (a := 231) C ac_I rfl ⟨nb rfl, nb rfl⟩ (by decide +kernel) (by decide +kernel) rfl (nb rfl) (z_me_0 (by decide +kernel)) dX6_init_77 rfl ?_
  refine k_putF (q := 82) C hI rfl kl6 fl_X6_39 ⟨by decide +kernel, by decide +kernel⟩ (by decide +kernel) rfl rfl (Or.inr ⟨_, rfl⟩) rfl rfl (by decide) dX6_init_79 rfl ?_
  refine v_aloadn (q := 83) C dX6_init_82 rfl rfl ?_
  refine v_iconst (q := 84) C dX6_init_83 rfl (by decide) ?_
  refine k_newarray (q := 86) (n' := 90) (len := 3) (a := 232) C ac_I rfl ⟨nb rfl, nb rfl⟩ (by decide +kernel) (by decide +kernel) rfl (nb rfl) (z_me_0 (by decide +kernel)) dX6_init_84 rfl ?_
  refine k_putF (q := 89) C hI rfl kl6 fl_X6_42 ⟨by decide +kernel, by decide +kernel⟩ (by decide +kernel) rfl rfl (Or.inr ⟨_, rfl⟩) rfl rfl (by decide) dX6_init_86 rfl ?_
  refine v_aloadn (q := 90) C dX6_init_89 rfl rfl ?_
  refine v_aloadn (q := 91) C dX6_init_90 rfl rfl ?_
  refine k_putF (q := 94) C hI rfl kl6 fl_X6_45 ⟨by decide +kernel, by decide +kernel⟩ (by decide +kernel) rfl rfl (Or.inl ⟨_, rfl⟩) rfl rfl (by decide) dX6_init_91 rfl ?_
  refine v_aloadn (q := 95) C dX6_init_94 rfl rfl ?_
  refine k_get (q := 98) (v := 223) C kl6 fl_X6_11 ⟨by decide +kernel, by decide +kernel⟩ (by decide +kernel) rfl rfl (by decide +kernel) dX6_init_95 rfl ?_
  refine v_iconst (q := 99) C dX6_init_98 rfl (by decide) ?_
  refine v_bipush (q := 101) C dX6_init_99 rfl (by decide) ?_
  refine k_iast (q := 102) (len := 546) C ⟨by decide +kernel, by decide +kernel⟩ (by decide +kernel) (by decide) dX6_init_101 rfl ?_
  refine v_aloadn (q := 103) C dX6_init_102 rfl rfl ?_
  refine k_get (q := 106) (v := 226) C kl6 fl_X6_21 ⟨by decide +kernel, by decide +kernel⟩ (by decide +kernel) rfl rfl (by decide +kernel) dX6_init_103 rfl ?_
  refine v_iconst (q := 107) C dX6_init_106 rfl (by decide) ?_
  refine v_iconst (q := 108) C dX6_init_107 rfl (by decide) ?_
  refine k_iast (q := 109) (len := 546) C ⟨by decide +kernel, by decide +kernel⟩ (by decide +kernel) (by decide) dX6_init_108 rfl ?_
  refine v_iconst (q := 110) C dX6_init_109 rfl (by decide) ?_
  refine v_istoren (q := 111) C dX6_init_110 rfl (nb rfl) (L' := [some (.inr 222), some (.inr 207), some (.inl 0)]) rfl ?_
  refine v_iloadn (q := 112) C dX6_init_111 rfl rfl ?_
  refine v_iconst (q := 113) C dX6_init_112 rfl (by decide) ?_
  refine v_icmp_ge (q := 116) (tgt := 143) C dX6_init_113 rfl rfl (A := False) (B := True) (by decide) (fun h => h.elim) (fun h => ?_)
  refine v_aloadn (q := 117) C dX6_init_116 rfl rfl ?_
  refine k_get (q := 120) (v := 223) C kl6 fl_X6_11 ⟨by decide +kernel, by decide +kernel⟩ (by decide +kernel) rfl rfl (by decide +kernel) dX6_init_117 rfl ?_
  refine v_iconst (q := 121) C dX6_init_120 rfl (by decide) ?_
  refine v_iloadn (q := 122) C dX6_init_121 rfl rfl ?_
  refine k_iadd (q := 123) (z := 1) C dX6_init_122 rfl rfl (by decide) ?_
  refine v_bipush (q := 125) C dX6_init_123 rfl (by decide) ?_
  refine v_iloadn (q := 126) C dX6_init_125 rfl rfl ?_
  refine k_iadd (q := 127) (z := 120) C dX6_init_126 rfl rfl (by decide) ?_
  refine k_iast (q := 128) (len := 546) C ⟨by decide +kernel, by decide +kernel⟩ (by decide +kernel) (by decide) dX6_init_127 rfl ?_
  refine v_aloadn (q := 129) C dX6_init_128 rfl rfl ?_
  refine k_get (q := 132) (v := 226) C kl6 fl_X6_21 ⟨by decide +kernel, by decide +kernel⟩ (by decide +kernel) rfl rfl (by decide +kernel) dX6_init_129 rfl ?_
  refine v_iconst (q := 133) C dX6_init_132 rfl (by decide) ?_
  refine v_iloadn (q := 134) C dX6_init_133 rfl rfl ?_
  refine k_iadd (q := 135) (z := 1) C dX6_init_134 rfl rfl (by decide) ?_
  refine v_iconst (q := 136) C dX6_init_135 rfl (by decide) ?_
  refine k_iast (q := 137) (len := 546) C ⟨by decide +kernel, by decide +kernel⟩ (by decide +kernel) (by decide) dX6_init_136 rfl ?_
  refine k_iinc (q := 140) (z := 1) C dX6_init_137 rfl (nb rfl) rfl rfl (L' := [some (.inr 222), some (.inr 207), some (.inl 1)]) rfl (by decide) ?_
  refine v_goto (q := 111) C dX6_init_140 rfl ?_
  refine v_iloadn (q := 112) C dX6_init_111 rfl rfl ?_
  refine v_iconst (q := 113) C dX6_init_112 rfl (by decide) ?_
  refine v_icmp_ge (q := 116) (tgt := 143) C dX6_init_113 rfl rfl (A := False) (B := True) (by decide) (fun h => h.elim) (fun h => ?_)
  refine v_aloadn (q := 117) C dX6_init_116 rfl rfl ?_
  refine k_get (q := 120) (v := 223) C kl6 fl_X6_11 ⟨by decide +kernel, by decide +kernel⟩ (by decide +kernel) rfl rfl (by decide +kernel) dX6_init_117 rfl ?_
  refine v_iconst (q := 121) C dX6_init_120 rfl (by decide) ?_
  refine v_iloadn (q := 122) C dX6_init_121 rfl rfl ?_
  refine k_iadd (q := 123) (z := 2) C dX6_init_122 rfl rfl (by decide) ?_
  refine v_bipush (q := 125) C dX6_init_123 rfl (by decide) ?_
  refine v_iloadn (q := 126) C dX6_init_125 rfl rfl ?_
  refine k_iadd (q := 127) (z := 121) C dX6_init_126 rfl rfl (by decide) ?_
  refine k_iast (q := 128) (len := 546) C ⟨by decide +kernel, by decide +kernel⟩ (by decide +kernel) (by decide) dX6_init_127 rfl ?_
  refine v_aloadn (q := 129) C dX6_init_128 rfl rfl ?_
  refine k_get (q := 132) (v := 226) C kl6 fl_X6_21 ⟨by decide +kernel, by decide +kernel⟩ (by decide +kernel) rfl rfl (by decide +kernel) dX6_init_129 rfl ?_
  refine v_iconst (q := 133) C dX6_init_132 rfl (by decide) ?_
  refine v_iloadn (q := 134) C dX6_init_133 rfl rfl ?_
  refine k_iadd (q := 135) (z := 2) C dX6_init_134 rfl rfl (by decide) ?_
  refine v_iconst (q := 136) C dX6_init_135 rfl (by decide) ?_
  refine k_iast (q := 137) (len := 546) C ⟨by decide +kernel, by decide +kernel⟩ (by decide +kernel) (by decide) dX6_init_136 rfl ?_
  refine k_iinc (q := 140) (z := 2) C dX6_init_137 rfl (nb rfl) rfl rfl (L' := [some (.inr 222), some (.inr 207), some (.inl 2)]) rfl (by decide) ?_
  refine v_goto (q := 111) C dX6_init_140 rfl ?_
  refine v_iloadn (q := 112) C dX6_init_111 rfl rfl ?_
  refine v_iconst (q := 113) C dX6_init_112 rfl (by decide) ?_
  refine v_icmp_ge (q := 116) (tgt := 143) C dX6_init_113 rfl rfl (A := False) (B := True) (by decide) (fun h => h.elim) (fun h => ?_)
  refine v_aloadn (q := 117) C dX6_init_116 rfl rfl ?_
  refine k_get (q := 120) (v := 223) C kl6 fl_X6_11 ⟨by decide +kernel, by decide +kernel⟩ (by decide +kernel) rfl rfl (by decide +kernel) dX6_init_117 rfl ?_
  refine v_iconst (q := 121) C dX6_init_120 rfl (by decide) ?_
  refine v_iloadn (q := 122) C dX6_init_121 rfl rfl ?_
  refine k_iadd (q := 123) (z := 3) C dX6_init_122 rfl rfl (by decide) ?_
  refine v_bipush (q := 125) C dX6_init_123 rfl (by decide) ?_
  refine v_iloadn (q := 126) C dX6_init_125 rfl rfl ?_
  refine k_iadd (q := 127) (z := 122) C dX6_init_126 rfl rfl (by decide) ?_
  refine k_iast (q := 128) (len := 546) C ⟨by decide +kernel, by decide +kernel⟩ (by decide +kernel) (by decide) dX6_init_127 rfl ?_
  refine v_aloadn (q := 129) C dX6_init_128 rfl rfl ?_
  refine k_get (q := 132) (v := 226) C kl6 fl_X6_21 ⟨by decide +kernel, by decide +kernel⟩ (by decide +kernel) rfl rfl (by decide +kernel) dX6_init_129 rfl ?_
  refine v_iconst (q := 133) C dX6_init_132 rfl (by decide) ?_
  refine v_iloadn (q := 134) C dX6_init_133 rfl rfl ?_
  refine k_iadd (q := 135) (z := 3) C dX6_init_134 rfl rfl (by decide) ?_
  refine v_iconst (q := 136) C dX6_init_135 rfl (by decide) ?_
  refine k_iast (q := 137) (len := 546) C ⟨by decide +kernel, by decide +kernel⟩ (by decide +kernel) (by decide) dX6_init_136 rfl ?_
  refine k_iinc (q := 140) (z := 3) C dX6_init_137 rfl (nb rfl) rfl rfl (L' := [some (.inr 222), some (.inr 207), some (.inl 3)]) rfl (by decide) ?_
  refine v_goto (q := 111) C dX6_init_140 rfl ?_
  refine v_iloadn (q := 112) C dX6_init_111 rfl rfl ?_
  refine v_iconst (q := 113) C dX6_init_112 rfl (by decide) ?_
  refine v_icmp_ge (q := 116) (tgt := 143) C dX6_init_113 rfl rfl (A := True) (B := False) (by decide) (fun h => ?_) (fun h => h.elim)
  exact k_vret hR dX6_init_143
theorem kt_X1_init : zMet yX1_init cX1_init 1 none 1 20 [.inr 233] 91 93 (z_me z_0 ML34) (KZ (z_me z_0 ML35)) := by
  refine zMet_of (L0 := [some (.inr 233)]) sy_X1_init rfl (nb rfl) (nb rfl) (fun X C hI _ _ hR => ?_)
  have C : zC X cX1_init RX1 1 none 1 20 93 := C
  refine v_aloadn (q := 1) C dX1_init_0 rfl rfl ?_
  refine v_objInit (q := 4) C ml_X1_3 oi oc ⟨by decide +kernel, by decide +kernel⟩ (nb rfl) (nb rfl) dX1_init_1 rfl ?_
  refine v_aloadn (q := 5) C dX1_init_4 rfl rfl ?_
  refine v_sipush (q := 8) C dX1_init_5 rfl (by decide) ?_
  refine k_newarray (q := 10) (n' := 92) (len := 1600) (a := 234) C ac_I rfl ⟨nb rfl, nb rfl⟩ (by decide +kernel) (by decide +kernel) rfl (nb rfl) (z_me_0 (by decide +kernel)) dX1_init_8 rfl ?_
  refine k_putF (q := 13) C hI rfl kl1 fl_X1_9 ⟨by decide +kernel, by decide +kernel⟩ (by decide +kernel) rfl rfl (Or.inr ⟨_, rfl⟩) rfl rfl (by decide) dX1_init_10 rfl ?_
  refine v_aloadn (q := 14) C dX1_init_13 rfl rfl ?_
  refine v_bipush (q := 16) C dX1_init_14 rfl (by decide) ?_
  refine k_newarray (q := 18) (n' := 93) (len := 40) (a := 235) C ac_I rfl ⟨nb rfl, nb rfl⟩ (by decide +kernel) (by decide +kernel) rfl (nb rfl) (z_me_0 (by decide +kernel)) dX1_init_16 rfl ?_
  refine k_putF (q := 21) C hI rfl kl1 fl_X1_15 ⟨by decide +kernel, by decide +kernel⟩ (by decide +kernel) rfl rfl (Or.inr ⟨_, rfl⟩) rfl rfl (by decide) dX1_init_18 rfl ?_
  exact k_vret hR dX1_init_21
theorem kt_X5_init : zMet yX5_init cX5_init 2 none 1 20 [.inr 236, .inr 207] 94 95 (z_me z_0 ML37) (KZ (z_me z_0 ML38)) := by
  refine zMet_of (L0 := [some (.inr 236), some (.inr 207)]) sy_X5_init rfl (nb rfl) (nb rfl) (fun X C hI _ _ hR => ?_)
  have C : zC X cX5_init RX5 2 none 1 20 95 := C
  refine v_aloadn (q := 1) C dX5_init_0 rfl rfl ?_
  refine v_objInit (q := 4) C ml_X5_3 oi oc ⟨by decide +kernel, by decide +kernel⟩ (nb rfl) (nb rfl) dX5_init_1 rfl ?_
  refine v_aloadn (q := 5) C dX5_init_4 rfl rfl ?_
  refine v_iconst (q := 6) C dX5_init_5 rfl (by decide) ?_
  refine k_newarray (q := 8) (n' := 95) (len := 3) (a := 237) C ac_I rfl ⟨nb rfl, nb rfl⟩ (by decide +kernel) (by decide +kernel) rfl (nb rfl) (z_me_0 (by decide +kernel)) dX5_init_6 rfl ?_
  refine k_putF (q := 11) C hI rfl kl5 fl_X5_9 ⟨by decide +kernel, by decide +kernel⟩ (by decide +kernel) rfl rfl (Or.inr ⟨_, rfl⟩) rfl rfl (by decide) dX5_init_8 rfl ?_
  refine v_aloadn (q := 12) C dX5_init_11 rfl rfl ?_
  refine v_aloadn (q := 13) C dX5_init_12 rfl rfl ?_
  refine k_putF (q := 16) C hI rfl kl5 fl_X5_15 ⟨by decide +kernel, by decide +kernel⟩ (by decide +kernel) rfl rfl (Or.inl ⟨_, rfl⟩) rfl rfl (by decide) dX5_init_13 rfl ?_
  exact k_vret hR dX5_init_16
theorem kt_X4_init : zMet yX4_init cX4_init 4 none 3 60 [.inr 238, .inr 233, .inr 236] 96 156 (z_me z_0 ML40) (KZ (z_me z_0 ML50)) := by
  refine zMet_of (L0 := [some (.inr 238), some (.inr 233), some (.inr 236), none]) sy_X4_init rfl (nb rfl) (nb rfl) (fun X C hI _ _ hR => ?_)
  have C : zC X cX4_init RX4 4 none 3 60 156 := C
  refine v_aloadn (q := 1) C dX4_init_0 rfl rfl ?_
  refine v_objInit (q := 4) C ml_X4_3 oi oc ⟨by decide +kernel, by decide +kernel⟩ (nb rfl) (nb rfl) dX4_init_1 rfl ?_
  refine v_aloadn (q := 5) C dX4_init_4 rfl rfl ?_
  refine v_bipush (q := 7) C dX4_init_5 rfl (by decide) ?_
  refine k_anewarray (q := 10) (n' := 97) (len := 8) (kd := 15) (a := 239) C (Or.inr rfl) rfl ck_X4_9 rfl ⟨nb rfl, nb rfl⟩ (by decide +kernel) (by decide +kernel) rfl (nb rfl) (z_me_0 (by decide +kernel)) dX4_init_7 rfl ?_
  refine k_putF (q := 13) C hI rfl kl4 fl_X4_11 ⟨by decide +kernel, by decide +kernel⟩ (by decide +kernel) rfl rfl (Or.inr ⟨_, rfl⟩) rfl rfl (by decide) dX4_init_10 rfl ?_
  refine v_aloadn (q := 14) C dX4_init_13 rfl rfl ?_
  refine k_new (q := 17) (n' := 98) (a := 181) C kl10 df10 ck_X4_17 ⟨in_10, it_10⟩ rfl ⟨nb rfl, nb rfl⟩ (by decide +kernel) (by decide +kernel) (z_me_0 (by decide +kernel)) dX4_init_14 rfl ?_
  refine v_dup (q := 18) C dX4_init_17 rfl ?_
  refine k_cN0 (q := 21) (n' := 100) (M2 := z_me z_0 ML41) C (kt_X10_init (t := 181) (by decide) (nb rfl) ⟨by decide +kernel, by decide +kernel⟩ (by decide +kernel) (by decide +kernel) (by decide +kernel) (by decide +kernel)) sy_X10_init si_X10_init rfl mn_X4_19 ⟨by decide +kernel, by decide +kernel⟩ ⟨nb rfl, nb rfl⟩ ⟨nb rfl, nb rfl, nb rfl⟩ (nb rfl) dX4_init_18 rfl ?_
  refine k_putF (q := 24) C hI rfl kl4 fl_X4_20 ⟨by decide +kernel, by decide +kernel⟩ (by decide +kernel) rfl rfl (Or.inl ⟨_, rfl⟩) rfl rfl (by decide) dX4_init_21 rfl ?_
  refine v_aloadn (q := 25) C dX4_init_24 rfl rfl ?_
  refine v_aloadn (q := 26) C dX4_init_25 rfl rfl ?_
  refine k_putF (q := 29) C hI rfl kl4 fl_X4_24 ⟨by decide +kernel, by decide +kernel⟩ (by decide +kernel) rfl rfl (Or.inl ⟨_, rfl⟩) rfl rfl (by decide) dX4_init_26 rfl ?_
  refine v_aloadn (q := 30) C dX4_init_29 rfl rfl ?_
  refine v_aloadn (q := 31) C dX4_init_30 rfl rfl ?_
  refine k_putF (q := 34) C hI rfl kl4 fl_X4_28 ⟨by decide +kernel, by decide +kernel⟩ (by decide +kernel) rfl rfl (Or.inl ⟨_, rfl⟩) rfl rfl (by decide) dX4_init_31 rfl ?_
  refine v_iconst (q := 35) C dX4_init_34 rfl (by decide) ?_
  refine v_istoren (q := 36) C dX4_init_35 rfl (nb rfl) (L' := [some (.inr 238), some (.inr 233), some (.inr 236), some (.inl 0)]) rfl ?_
  refine v_iloadn (q := 37) C dX4_init_36 rfl rfl ?_
  refine v_bipush (q := 39) C dX4_init_37 rfl (by decide) ?_
  refine v_icmp_ge (q := 42) (tgt := 61) C dX4_init_39 rfl rfl (A := False) (B := True) (by decide) (fun h => h.elim) (fun h => ?_)
  refine v_aloadn (q := 43) C dX4_init_42 rfl rfl ?_
  refine k_get (q := 46) (v := 239) C kl4 fl_X4_11 ⟨by decide +kernel, by decide +kernel⟩ (by decide +kernel) rfl rfl (by decide +kernel) dX4_init_43 rfl ?_
  refine v_iloadn (q := 47) C dX4_init_46 rfl rfl ?_
  refine k_new (q := 50) (n' := 101) (a := 187) C kl0 df0 ck_X4_9 ⟨in_0, it_0⟩ rfl ⟨nb rfl, nb rfl⟩ (by decide +kernel) (by decide +kernel) (z_me_0 (by decide +kernel)) dX4_init_47 rfl ?_
  refine v_dup (q := 51) C dX4_init_50 rfl ?_
  refine k_cN0 (q := 54) (n' := 107) (M2 := z_me z_0 ML42) C (kt_X0_init (c := 187) (p := 1) (by decide) rfl (nb rfl) ⟨by decide +kernel, by decide +kernel⟩ (by decide +kernel) (by decide +kernel)) sy_X0_init si_X0_init rfl mn_X4_32 ⟨by decide +kernel, by decide +kernel⟩ ⟨nb rfl, nb rfl⟩ ⟨nb rfl, nb rfl, nb rfl⟩ (nb rfl) dX4_init_51 rfl ?_
  refine k_aast (q := 55) (kd := 15) (ci := 0) (len := 8) (r := (RX0, TX0, 2)) C ⟨by decide +kernel, by decide +kernel⟩ (Or.inr rfl) (by decide +kernel) ⟨by decide +kernel, by decide +kernel⟩ (by decide +kernel) (by decide) rfl rfl (by decide) (by decide) dX4_init_54 rfl ?_
  refine k_iinc (q := 58) (z := 1) C dX4_init_55 rfl (nb rfl) rfl rfl (L' := [some (.inr 238), some (.inr 233), some (.inr 236), some (.inl 1)]) rfl (by decide) ?_
  refine v_goto (q := 36) C dX4_init_58 rfl ?_
  refine v_iloadn (q := 37) C dX4_init_36 rfl rfl ?_
  refine v_bipush (q := 39) C dX4_init_37 rfl (by decide) ?_
  refine v_icmp_ge (q := 42) (tgt := 61) C dX4_init_39 rfl rfl (A := False) (B := True) (by decide) (fun h => h.elim) (fun h => ?_)
  refine v_aloadn (q := 43) C dX4_init_42 rfl rfl ?_
  refine k_get (q := 46) (v := 239) C kl4 fl_X4_11 ⟨by decide +kernel, by decide +kernel⟩ (by decide +kernel) rfl rfl (by decide +kernel) dX4_init_43 rfl ?_
  refine v_iloadn (q := 47) C dX4_init_46 rfl rfl ?_
  refine k_new (q := 50) (n' := 108) (a := 188) C kl0 df0 ck_X4_9 ⟨in_0, it_0⟩ rfl ⟨nb rfl, nb rfl⟩ (by decide +kernel) (by decide +kernel) (z_me_0 (by decide +kernel)) dX4_init_47 rfl ?_
  refine v_dup (q := 51) C dX4_init_50 rfl ?_
  refine k_cN0 (q := 54) (n' := 114) (M2 := z_me z_0 ML43) C (kt_X0_init (c := 188) (p := 7) (by decide) rfl (nb rfl) ⟨by decide +kernel, by decide +kernel⟩ (by decide +kernel) (by decide +kernel)) sy_X0_init si_X0_init rfl mn_X4_32 ⟨by decide +kernel, by decide +kernel⟩ ⟨nb rfl, nb rfl⟩ ⟨nb rfl, nb rfl, nb rfl⟩ (nb rfl) dX4_init_51 rfl ?_
  refine k_aast (q := 55) (kd := 15) (ci := 0) (len := 8) (r := (RX0, TX0, 2)) C ⟨by decide +kernel, by decide +kernel⟩ (Or.inr rfl) (by decide +kernel) ⟨by decide +kernel, by decide +kernel⟩ (by decide +kernel) (by decide) rfl rfl (by decide) (by decide) dX4_init_54 rfl ?_
  refine k_iinc (q := 58) (z := 2) C dX4_init_55 rfl (nb rfl) rfl rfl (L' := [some (.inr 238), some (.inr 233), some (.inr 236), some (.inl 2)]) rfl (by decide) ?_
  refine v_goto (q := 36) C dX4_init_58 rfl ?_
  refine v_iloadn (q := 37) C dX4_init_36 rfl rfl ?_
  refine v_bipush (q := 39) C dX4_init_37 rfl (by decide) ?_
  refine v_icmp_ge (q := 42) (tgt := 61) C dX4_init_39 rfl rfl (A := False) (B := True) (by decide) (fun h => h.elim) (fun h => ?_)
  refine v_aloadn (q := 43) C dX4_init_42 rfl rfl ?_
  refine k_get (q := 46) (v := 239) C kl4 fl_X4_11 ⟨by decide +kernel, by decide +kernel⟩ (by decide +kernel) rfl rfl (by decide +kernel) dX4_init_43 rfl ?_
  refine v_iloadn (q := 47) C dX4_init_46 rfl rfl ?_
  refine k_new (q := 50) (n' := 115) (a := 189) C kl0 df0 ck_X4_9 ⟨in_0, it_0⟩ rfl ⟨nb rfl, nb rfl⟩ (by decide +kernel) (by decide +kernel) (z_me_0 (by decide +kernel)) dX4_init_47 rfl ?_
  refine v_dup (q := 51) C dX4_init_50 rfl ?_
  refine k_cN0 (q := 54) (n' := 121) (M2 := z_me z_0 ML44) C (kt_X0_init (c := 189) (p := 13) (by decide) rfl (nb rfl) ⟨by decide +kernel, by decide +kernel⟩ (by decide +kernel) (by decide +kernel)) sy_X0_init si_X0_init rfl mn_X4_32 ⟨by decide +kernel, by decide +kernel⟩ ⟨nb rfl, nb rfl⟩ ⟨nb rfl, nb rfl, nb rfl⟩ (nb rfl) dX4_init_51 rfl ?_
  refine k_aast (q := 55) (kd := 15) (ci := 0) (len := 8) (r := (RX0, TX0, 2)) C ⟨by decide +kernel, by decide +kernel⟩ (Or.inr rfl) (by decide +kernel) ⟨by decide +kernel, by decide +kernel⟩ (by decide +kernel) (by decide) rfl rfl (by decide) (by decide) dX4_init_54 rfl ?_
  refine k_iinc (q := 58) (z := 3) C dX4_init_55 rfl (nb rfl) rfl rfl (L' := [some (.inr 238), some (.inr 233), some (.inr 236), some (.inl 3)]) rfl (by decide) ?_
  refine v_goto (q := 36) C dX4_init_58 rfl ?_
  refine v_iloadn (q := 37) C dX4_init_36 rfl rfl ?_
  refine v_bipush (q := 39) C dX4_init_37 rfl (by decide) ?_
  refine v_icmp_ge (q := 42) (tgt := 61) C dX4_init_39 rfl rfl (A := False) (B := True) (by decide) (fun h => h.elim) (fun h => ?_)
  refine v_aloadn (q := 43) C dX4_init_42 rfl rfl ?_
  refine k_get (q := 46) (v := 239) C kl4 fl_X4_11 ⟨by decide +kernel, by decide +kernel⟩ (by decide +kernel) rfl rfl (by decide +kernel) dX4_init_43 rfl ?_
  refine v_iloadn (q := 47) C dX4_init_46 rfl rfl ?_
  refine k_new (q := 50) (n' := 122) (a := 190) C kl0 df0 ck_X4_9 ⟨in_0, it_0⟩ rfl ⟨nb rfl, nb rfl⟩ (by decide +kernel) (by decide +kernel) (z_me_0 (by decide +kernel)) dX4_init_47 rfl ?_
  refine v_dup (q := 51) C dX4_init_50 rfl ?_
  refine k_cN0 (q := 54) (n' := 128) (M2 := z_me z_0 ML45) C (kt_X0_init (c := 190) (p := 19) (by decide) rfl (nb rfl) ⟨by decide +kernel, by decide +kernel⟩ (by decide +kernel) (by decide +kernel)) sy_X0_init si_X0_init rfl mn_X4_32 ⟨by decide +kernel, by decide +kernel⟩ ⟨nb rfl, nb rfl⟩ ⟨nb rfl, nb rfl, nb rfl⟩ (nb rfl) dX4_init_51 rfl ?_
  refine k_aast (q := 55) (kd := 15) (ci := 0) (len := 8) (r := (RX0, TX0, 2)) C ⟨by decide +kernel, by decide +kernel⟩ (Or.inr rfl) (by decide +kernel) ⟨by decide +kernel, by decide +kernel⟩ (by decide +kernel) (by decide) rfl rfl (by decide) (by decide) dX4_init_54 rfl ?_
  refine k_iinc (q := 58) (z := 4) C dX4_init_55 rfl (nb rfl) rfl rfl (L' := [some (.inr 238), some (.inr 233), some (.inr 236), some (.inl 4)]) rfl (by decide) ?_
  refine v_goto (q := 36) C dX4_init_58 rfl ?_
  refine v_iloadn (q := 37) C dX4_init_36 rfl rfl ?_
  refine v_bipush (q := 39) C dX4_init_37 rfl (by decide) ?_
  refine v_icmp_ge (q := 42) (tgt := 61) C dX4_init_39 rfl rfl (A := False) (B := True) (by decide) (fun h => h.elim) (fun h => ?_)
  refine v_aloadn (q := 43) C dX4_init_42 rfl rfl ?_
  refine k_get (q := 46) (v := 239) C kl4 fl_X4_11 ⟨by decide +kernel, by decide +kernel⟩ (by decide +kernel) rfl rfl (by decide +kernel) dX4_init_43 rfl ?_
  refine v_iloadn (q := 47) C dX4_init_46 rfl rfl ?_
  refine k_new (q := 50) (n' := 129) (a := 191) C kl0 df0 ck_X4_9 ⟨in_0, it_0⟩ rfl ⟨nb rfl, nb rfl⟩ (by decide +kernel) (by decide +kernel) (z_me_0 (by decide +kernel)) dX4_init_47 rfl ?_
  refine v_dup (q := 51) C dX4_init_50 rfl ?_
  refine k_cN0 (q := 54) (n' := 135) (M2 := z_me z_0 ML46) C (kt_X0_init (c := 191) (p := 25) (by decide) rfl (nb rfl) ⟨by decide +kernel, by decide +kernel⟩ (by decide +kernel) (by decide +kernel)) sy_X0_init si_X0_init rfl mn_X4_32 ⟨by decide +kernel, by decide +kernel⟩ ⟨nb rfl, nb rfl⟩ ⟨nb rfl, nb rfl, nb rfl⟩ (nb rfl) dX4_init_51 rfl ?_
  refine k_aast (q := 55) (kd := 15) (ci := 0) (len := 8) (r := (RX0, TX0, 2)) C ⟨by decide +kernel, by decide +kernel⟩ (Or.inr rfl) (by decide +kernel) ⟨by decide +kernel, by decide +kernel⟩ (by decide +kernel) (by decide) rfl rfl (by decide) (by decide) dX4_init_54 rfl ?_
  refine k_iinc (q := 58) (z := 5) C dX4_init_55 rfl (nb rfl) rfl rfl (L' := [some (.inr 238), some (.inr 233), some (.inr 236), some (.inl 5)]) rfl (by decide) ?_
  refine v_goto (q := 36) C dX4_init_58 rfl ?_
  refine v_iloadn (q := 37) C dX4_init_36 rfl rfl ?_
  refine v_bipush (q := 39) C dX4_init_37 rfl (by decide) ?_
  refine v_icmp_ge (q := 42) (tgt := 61) C dX4_init_39 rfl rfl (A := False) (B := True) (by decide) (fun h => h.elim) (fun h => ?_)
  refine v_aloadn (q := 43) C dX4_init_42 rfl rfl ?_
  refine k_get (q := 46) (v := 239) C kl4 fl_X4_11 ⟨by decide +kernel, by decide +kernel⟩ (by decide +kernel) rfl rfl (by decide +kernel) dX4_init_43 rfl ?_
  refine v_iloadn (q := 47) C dX4_init_46 rfl rfl ?_
  refine k_new (q := 50) (n' := 136) (a := 192) C kl0 df0 ck_X4_9 ⟨in_0, it_0⟩ rfl ⟨nb rfl, nb rfl⟩ (by decide +kernel) (by decide +kernel) (z_me_0 (by decide +kernel)) dX4_init_47 rfl ?_
  refine v_dup (q := 51) C dX4_init_50 rfl ?_
  refine k_cN0 (q := 54) (n' := 142) (M2 := z_me z_0 ML47) C (kt_X0_init (c := 192) (p := 31) (by decide) rfl (nb rfl) ⟨by decide +kernel, by decide +kernel⟩ (by decide +kernel) (by decide +kernel)) sy_X0_init si_X0_init rfl mn_X4_32 ⟨by decide +kernel, by decide +kernel⟩ ⟨nb rfl, nb rfl⟩ ⟨nb rfl, nb rfl, nb rfl⟩ (nb rfl) dX4_init_51 rfl ?_
  refine k_aast (q := 55) (kd := 15) (ci := 0) (len := 8) (r := (RX0, TX0, 2)) C ⟨by decide +kernel, by decide +kernel⟩ (Or.inr rfl) (by decide +kernel) ⟨by decide +kernel, by decide +kernel⟩ (by decide +kernel) (by decide) rfl rfl (by decide) (by decide) dX4_init_54 rfl ?_
  refine k_iinc (q := 58) (z := 6) C dX4_init_55 rfl (nb rfl) rfl rfl (L' := [some (.inr 238), some (.inr 233), some (.inr 236), some (.inl 6)]) rfl (by decide) ?_
  refine v_goto (q := 36) C dX4_init_58 rfl ?_
  refine v_iloadn (q := 37) C dX4_init_36 rfl rfl ?_
  refine v_bipush (q := 39) C dX4_init_37 rfl (by decide) ?_
  refine v_icmp_ge (q := 42) (tgt := 61) C dX4_init_39 rfl rfl (A := False) (B := True) (by decide) (fun h => h.elim) (fun h => ?_)
  refine v_aloadn (q := 43) C dX4_init_42 rfl rfl ?_
  refine k_get (q := 46) (v := 239) C kl4 fl_X4_11 ⟨by decide +kernel, by decide +kernel⟩ (by decide +kernel) rfl rfl (by decide +kernel) dX4_init_43 rfl ?_
  refine v_iloadn (q := 47) C dX4_init_46 rfl rfl ?_
  refine k_new (q := 50) (n' := 143) (a := 193) C kl0 df0 ck_X4_9 ⟨in_0, it_0⟩ rfl ⟨nb rfl, nb rfl⟩ (by decide +kernel) (by decide +kernel) (z_me_0 (by decide +kernel)) dX4_init_47 rfl ?_
  refine v_dup (q := 51) C dX4_init_50 rfl ?_
  refine k_cN0 (q := 54) (n' := 149) (M2 := z_me z_0 ML48) C (kt_X0_init (c := 193) (p := 37) (by decide) rfl (nb rfl) ⟨by decide +kernel, by decide +kernel⟩ (by decide +kernel) (by decide +kernel)) sy_X0_init si_X0_init rfl mn_X4_32 ⟨by decide +kernel, by decide +kernel⟩ ⟨nb rfl, nb rfl⟩ ⟨nb rfl, nb rfl, nb rfl⟩ (nb rfl) dX4_init_51 rfl ?_
  refine k_aast (q := 55) (kd := 15) (ci := 0) (len := 8) (r := (RX0, TX0, 2)) C ⟨by decide +kernel, by decide +kernel⟩ (Or.inr rfl) (by decide +kernel) ⟨by decide +kernel, by decide +kernel⟩ (by decide +kernel) (by decide) rfl rfl (by decide) (by decide) dX4_init_54 rfl ?_
  refine k_iinc (q := 58) (z := 7) C dX4_init_55 rfl (nb rfl) rfl rfl (L' := [some (.inr 238), some (.inr 233), some (.inr 236), some (.inl 7)]) rfl (by decide) ?_
  refine v_goto (q := 36) C dX4_init_58 rfl ?_
  refine v_iloadn (q := 37) C dX4_init_36 rfl rfl ?_
  refine v_bipush (q := 39) C dX4_init_37 rfl (by decide) ?_
  refine v_icmp_ge (q := 42) (tgt := 61) C dX4_init_39 rfl rfl (A := False) (B := True) (by decide) (fun h => h.elim) (fun h => ?_)
  refine v_aloadn (q := 43) C dX4_init_42 rfl rfl ?_
  refine k_get (q := 46) (v := 239) C kl4 fl_X4_11 ⟨by decide +kernel, by decide +kernel⟩ (by decide +kernel) rfl rfl (by decide +kernel) dX4_init_43 rfl ?_
  refine v_iloadn (q := 47) C dX4_init_46 rfl rfl ?_
  refine k_new (q := 50) (n' := 150) (a := 194) C kl0 df0 ck_X4_9 ⟨in_0, it_0⟩ rfl ⟨nb rfl, nb rfl⟩ (by decide +kernel) (by decide +kernel) (z_me_0 (by decide +kernel)) dX4_init_47 rfl ?_
  refine v_dup (q := 51) C dX4_init_50 rfl ?_
  refine k_cN0 (q := 54) (n' := 156) (M2 := z_me z_0 ML49) C (kt_X0_init (c := 194) (p := 43) (by decide) rfl (nb rfl) ⟨by decide +kernel, by decide +kernel⟩ (by decide +kernel) (by decide +kernel)) sy_X0_init si_X0_init rfl mn_X4_32 ⟨by decide +kernel, by decide +kernel⟩ ⟨nb rfl, nb rfl⟩ ⟨nb rfl, nb rfl, nb rfl⟩ (nb rfl) dX4_init_51 rfl ?_
  refine k_aast (q := 55) (kd := 15) (ci := 0) (len := 8) (r := (RX0, TX0, 2)) C ⟨by decide +kernel, by decide +kernel⟩ (Or.inr rfl) (by decide +kernel) ⟨by decide +kernel, by decide +kernel⟩ (by decide +kernel) (by decide) rfl rfl (by decide) (by decide) dX4_init_54 rfl ?_
  refine k_iinc (q := 58) (z := 8) C dX4_init_55 rfl (nb rfl) rfl rfl (L' := [some (.inr 238), some (.inr 233), some (.inr 236), some (.inl 8)]) rfl (by decide) ?_
  refine v_goto (q := 36) C dX4_init_58 rfl ?_
  refine v_iloadn (q := 37) C dX4_init_36 rfl rfl ?_
  refine v_bipush (q := 39) C dX4_init_37 rfl (by decide) ?_
  refine v_icmp_ge (q := 42) (tgt := 61) C dX4_init_39 rfl rfl (A := True) (B := False) (by decide) (fun h => ?_) (fun h => h.elim)
  exact k_vret hR dX4_init_61
theorem kt_X7_init : zMet yX7_init cX7_init 1 none 1 20 [.inr 240] 157 160 (z_me z_0 ML52) (KZ (z_me z_0 ML53)) := by
  refine zMet_of (L0 := [some (.inr 240)]) sy_X7_init rfl (nb rfl) (nb rfl) (fun X C hI _ _ hR => ?_)
  have C : zC X cX7_init RX7 1 none 1 20 160 := C
  refine v_aloadn (q := 1) C dX7_init_0 rfl rfl ?_
  refine v_objInit (q := 4) C ml_X7_3 oi oc ⟨by decide +kernel, by decide +kernel⟩ (nb rfl) (nb rfl) dX7_init_1 rfl ?_
  refine v_aloadn (q := 5) C dX7_init_4 rfl rfl ?_
  refine v_bipush (q := 7) C dX7_init_5 rfl (by decide) ?_
  refine k_newarray (q := 9) (n' := 158) (len := 99) (a := 241) C ac_I rfl ⟨nb rfl, nb rfl⟩ (by decide +kernel) (by decide +kernel) rfl (nb rfl) (z_me_0 (by decide +kernel)) dX7_init_7 rfl ?_
  refine k_putF (q := 12) C hI rfl kl7 fl_X7_9 ⟨by decide +kernel, by decide +kernel⟩ (by decide +kernel) rfl rfl (Or.inr ⟨_, rfl⟩) rfl rfl (by decide) dX7_init_9 rfl ?_
  refine v_aloadn (q := 13) C dX7_init_12 rfl rfl ?_
  refine v_bipush (q := 15) C dX7_init_13 rfl (by decide) ?_
  refine k_newarray (q := 17) (n' := 159) (len := 99) (a := 242) C ac_I rfl ⟨nb rfl, nb rfl⟩ (by decide +kernel) (by decide +kernel) rfl (nb rfl) (z_me_0 (by decide +kernel)) dX7_init_15 rfl ?_
  refine k_putF (q := 20) C hI rfl kl7 fl_X7_15 ⟨by decide +kernel, by decide +kernel⟩ (by decide +kernel) rfl rfl (Or.inr ⟨_, rfl⟩) rfl rfl (by decide) dX7_init_17 rfl ?_
  refine v_aloadn (q := 21) C dX7_init_20 rfl rfl ?_
  refine v_iconst (q := 22) C dX7_init_21 rfl (by decide) ?_
  refine k_newarray (q := 24) (n' := 160) (len := 4) (a := 243) C ac_I rfl ⟨nb rfl, nb rfl⟩ (by decide +kernel) (by decide +kernel) rfl (nb rfl) (z_me_0 (by decide +kernel)) dX7_init_22 rfl ?_
  refine k_putF (q := 27) C hI rfl kl7 fl_X7_18 ⟨by decide +kernel, by decide +kernel⟩ (by decide +kernel) rfl rfl (Or.inr ⟨_, rfl⟩) rfl rfl (by decide) dX7_init_24 rfl ?_
  exact k_vret hR dX7_init_27
theorem kt_X8_init : zMet yX8_init cX8_init 8 none 3 60 [.inr 244, .inr 207, .inr 215, .inr 222, .inr 236, .inr 238, .inr 240] 161 230 (z_me z_0 ML55) (KZ (z_me z_0 ML66)) := by
  refine zMet_of (L0 := [some (.inr 244), some (.inr 207), some (.inr 215), some (.inr 222), some (.inr 236), some (.inr 238), some (.inr 240), none]) sy_X8_init rfl (nb rfl) (nb rfl) (fun X C hI _ _ hR => ?_)
  have C : zC X cX8_init RX8 8 none 3 60 230 := C
  refine v_aloadn (q := 1) C dX8_init_0 rfl rfl ?_
  refine v_objInit (q := 4) C ml_X8_3 oi oc ⟨by decide +kernel, by decide +kernel⟩ (nb rfl) (nb rfl) dX8_init_1 rfl ?_
  refine v_aloadn (q := 5) C dX8_init_4 rfl rfl ?_
  refine v_iconst (q := 6) C dX8_init_5 rfl (by decide) ?_
  refine k_anewarray (q := 9) (n' := 162) (len := 3) (kd := 15) (a := 245) C (Or.inr rfl) rfl ck_X8_9 rfl ⟨nb rfl, nb rfl⟩ (by decide +kernel) (by decide +kernel) rfl (nb rfl) (z_me_0 (by decide +kernel)) dX8_init_6 rfl ?_
  refine k_putF (q := 12) C hI rfl kl8 fl_X8_11 ⟨by decide +kernel, by decide +kernel⟩ (by decide +kernel) rfl rfl (Or.inr ⟨_, rfl⟩) rfl rfl (by decide) dX8_init_9 rfl ?_
  refine v_aloadn (q := 13) C dX8_init_12 rfl rfl ?_
  refine v_iconst (q := 14) C dX8_init_13 rfl (by decide) ?_
  refine k_anewarray (q := 17) (n' := 163) (len := 3) (kd := 15) (a := 246) C (Or.inr rfl) rfl ck_X8_9 rfl ⟨nb rfl, nb rfl⟩ (by decide +kernel) (by decide +kernel) rfl (nb rfl) (z_me_0 (by decide +kernel)) dX8_init_14 rfl ?_
  refine k_putF (q := 20) C hI rfl kl8 fl_X8_17 ⟨by decide +kernel, by decide +kernel⟩ (by decide +kernel) rfl rfl (Or.inr ⟨_, rfl⟩) rfl rfl (by decide) dX8_init_17 rfl ?_
  refine v_aloadn (q := 21) C dX8_init_20 rfl rfl ?_
  refine v_iconst (q := 22) C dX8_init_21 rfl (by decide) ?_
  refine k_anewarray (q := 25) (n' := 164) (len := 3) (kd := 15) (a := 247) C (Or.inr rfl) rfl ck_X8_9 rfl ⟨nb rfl, nb rfl⟩ (by decide +kernel) (by decide +kernel) rfl (nb rfl) (z_me_0 (by decide +kernel)) dX8_init_22 rfl ?_
  refine k_putF (q := 28) C hI rfl kl8 fl_X8_20 ⟨by decide +kernel, by decide +kernel⟩ (by decide +kernel) rfl rfl (Or.inr ⟨_, rfl⟩) rfl rfl (by decide) dX8_init_25 rfl ?_
  refine v_aloadn (q := 29) C dX8_init_28 rfl rfl ?_
  refine k_new (q := 32) (n' := 165) (a := 184) C kl10 df10 ck_X8_23 ⟨in_10, it_10⟩ rfl ⟨nb rfl, nb rfl⟩ (by decide +kernel) (by decide +kernel) (z_me_0 (by decide +kernel)) dX8_init_29 rfl ?_
  refine v_dup (q := 33) C dX8_init_32 rfl ?_
  refine k_cN0 (q := 36) (n' := 167) (M2 := z_me z_0 ML56) C (kt_X10_init (t := 184) (by decide) (nb rfl) ⟨by decide +kernel, by decide +kernel⟩ (by decide +kernel) (by decide +kernel) (by decide +kernel) (by decide +kernel)) sy_X10_init si_X10_init rfl mn_X8_25 ⟨by decide +kernel, by decide +kernel⟩ ⟨nb rfl, nb rfl⟩ ⟨nb rfl, nb rfl, nb rfl⟩ (nb rfl) dX8_init_33 rfl ?_
  refine k_putF (q := 39) C hI rfl kl8 fl_X8_26 ⟨by decide +kernel, by decide +kernel⟩ (by decide +kernel) rfl rfl (Or.inl ⟨_, rfl⟩) rfl rfl (by decide) dX8_init_36 rfl ?_
  refine v_aloadn (q := 40) C dX8_init_39 rfl rfl ?_
  refine v_aloadn (q := 41) C dX8_init_40 rfl rfl ?_
  refine k_putF (q := 44) C hI rfl kl8 fl_X8_30 ⟨by decide +kernel, by decide +kernel⟩ (by decide +kernel) rfl rfl (Or.inl ⟨_, rfl⟩) rfl rfl (by decide) dX8_init_41 rfl ?_
  refine v_aloadn (q := 45) C dX8_init_44 rfl rfl ?_
  refine v_aloadn (q := 46) C dX8_init_45 rfl rfl ?_
  refine k_putF (q := 49) C hI rfl kl8 fl_X8_34 ⟨by decide +kernel, by decide +kernel⟩ (by decide +kernel) rfl rfl (Or.inl ⟨_, rfl⟩) rfl rfl (by decide) dX8_init_46 rfl ?_
  refine v_aloadn (q := 50) C dX8_init_49 rfl rfl ?_
  refine v_aloadn (q := 51) C dX8_init_50 rfl rfl ?_
  refine k_putF (q := 54) C hI rfl kl8 fl_X8_38 ⟨by decide +kernel, by decide +kernel⟩ (by decide +kernel) rfl rfl (Or.inl ⟨_, rfl⟩) rfl rfl (by decide) dX8_init_51 rfl ?_
  refine v_aloadn (q := 55) C dX8_init_54 rfl rfl ?_
  refine v_aload (q := 57) C dX8_init_55 rfl rfl ?_
  refine k_putF (q := 60) C hI rfl kl8 fl_X8_42 ⟨by decide +kernel, by decide +kernel⟩ (by decide +kernel) rfl rfl (Or.inl ⟨_, rfl⟩) rfl rfl (by decide) dX8_init_57 rfl ?_
  refine v_aloadn (q := 61) C dX8_init_60 rfl rfl ?_
  refine v_aload (q := 63) C dX8_init_61 rfl rfl ?_
  refine k_putF (q := 66) C hI rfl kl8 fl_X8_46 ⟨by decide +kernel, by decide +kernel⟩ (by decide +kernel) rfl rfl (Or.inl ⟨_, rfl⟩) rfl rfl (by decide) dX8_init_63 rfl ?_
  refine v_aloadn (q := 67) C dX8_init_66 rfl rfl ?_
  refine v_aload (q := 69) C dX8_init_67 rfl rfl ?_
  refine k_putF (q := 72) C hI rfl kl8 fl_X8_50 ⟨by decide +kernel, by decide +kernel⟩ (by decide +kernel) rfl rfl (Or.inl ⟨_, rfl⟩) rfl rfl (by decide) dX8_init_69 rfl ?_
  refine v_iconst (q := 73) C dX8_init_72 rfl (by decide) ?_
  refine v_istore (q := 75) C dX8_init_73 rfl (nb rfl) (L' := [some (.inr 244), some (.inr 207), some (.inr 215), some (.inr 222), some (.inr 236), some (.inr 238), some (.inr 240), some (.inl 0)]) rfl ?_
  refine v_iload (q := 77) C dX8_init_75 rfl rfl ?_
  refine v_iconst (q := 78) C dX8_init_77 rfl (by decide) ?_
  refine v_icmp_ge (q := 81) (tgt := 129) C dX8_init_78 rfl rfl (A := False) (B := True) (by decide) (fun h => h.elim) (fun h => ?_)
  refine v_aloadn (q := 82) C dX8_init_81 rfl rfl ?_
  refine k_get (q := 85) (v := 245) C kl8 fl_X8_11 ⟨by decide +kernel, by decide +kernel⟩ (by decide +kernel) rfl rfl (by decide +kernel) dX8_init_82 rfl ?_
  refine v_iload (q := 87) C dX8_init_85 rfl rfl ?_
  refine k_new (q := 90) (n' := 168) (a := 195) C kl0 df0 ck_X8_9 ⟨in_0, it_0⟩ rfl ⟨nb rfl, nb rfl⟩ (by decide +kernel) (by decide +kernel) (z_me_0 (by decide +kernel)) dX8_init_87 rfl ?_
  refine v_dup (q := 91) C dX8_init_90 rfl ?_
  refine k_cN0 (q := 94) (n' := 174) (M2 := z_me z_0 ML57) C (kt_X0_init (c := 195) (p := 49) (by decide) rfl (nb rfl) ⟨by decide +kernel, by decide +kernel⟩ (by decide +kernel) (by decide +kernel)) sy_X0_init si_X0_init rfl mn_X8_54 ⟨by decide +kernel, by decide +kernel⟩ ⟨nb rfl, nb rfl⟩ ⟨nb rfl, nb rfl, nb rfl⟩ (nb rfl) dX8_init_91 rfl ?_
  refine k_aast (q := 95) (kd := 15) (ci := 0) (len := 3) (r := (RX0, TX0, 2)) C ⟨by decide +kernel, by decide +kernel⟩ (Or.inr rfl) (by decide +kernel) ⟨by decide +kernel, by decide +kernel⟩ (by decide +kernel) (by decide) rfl rfl (by decide) (by decide) dX8_init_94 rfl ?_
  refine v_aloadn (q := 96) C dX8_init_95 rfl rfl ?_
  refine k_get (q := 99) (v := 246) C kl8 fl_X8_17 ⟨by decide +kernel, by decide +kernel⟩ (by decide +kernel) rfl rfl (by decide +kernel) dX8_init_96 rfl ?_
  refine v_iload (q := 101) C dX8_init_99 rfl rfl ?_
  refine k_new (q := 104) (n' := 175) (a := 198) C kl0 df0 ck_X8_9 ⟨in_0, it_0⟩ rfl ⟨nb rfl, nb rfl⟩ (by decide +kernel) (by decide +kernel) (z_me_0 (by decide +kernel)) dX8_init_101 rfl ?_
  refine v_dup (q := 105) C dX8_init_104 rfl ?_
  refine k_cN0 (q := 108) (n' := 181) (M2 := z_me z_0 ML58) C (kt_X0_init (c := 198) (p := 67) (by decide) rfl (nb rfl) ⟨by decide +kernel, by decide +kernel⟩ (by decide +kernel) (by decide +kernel)) sy_X0_init si_X0_init rfl mn_X8_54 ⟨by decide +kernel, by decide +kernel⟩ ⟨nb rfl, nb rfl⟩ ⟨nb rfl, nb rfl, nb rfl⟩ (nb rfl) dX8_init_105 rfl ?_
  refine k_aast (q := 109) (kd := 15) (ci := 0) (len := 3) (r := (RX0, TX0, 2)) C ⟨by decide +kernel, by decide +kernel⟩ (Or.inr rfl) (by decide +kernel) ⟨by decide +kernel, by decide +kernel⟩ (by decide +kernel) (by decide) rfl rfl (by decide) (by decide) dX8_init_108 rfl ?_
  refine v_aloadn (q := 110) C dX8_init_109 rfl rfl ?_
  refine k_get (q := 113) (v := 247) C kl8 fl_X8_20 ⟨by decide +kernel, by decide +kernel⟩ (by decide +kernel) rfl rfl (by decide +kernel) dX8_init_110 rfl ?_
  refine v_iload (q := 115) C dX8_init_113 rfl rfl ?_
  refine k_new (q := 118) (n' := 182) (a := 201) C kl0 df0 ck_X8_9 ⟨in_0, it_0⟩ rfl ⟨nb rfl, nb rfl⟩ (by decide +kernel) (by decide +kernel) (z_me_0 (by decide +kernel)) dX8_init_115 rfl ?_
  refine v_dup (q := 119) C dX8_init_118 rfl ?_
  refine k_cN0 (q := 122) (n' := 188) (M2 := z_me z_0 ML59) C (kt_X0_init (c := 201) (p := 85) (by decide) rfl (nb rfl) ⟨by decide +kernel, by decide +kernel⟩ (by decide +kernel) (by decide +kernel)) sy_X0_init si_X0_init rfl mn_X8_54 ⟨by decide +kernel, by decide +kernel⟩ ⟨nb rfl, nb rfl⟩ ⟨nb rfl, nb rfl, nb rfl⟩ (nb rfl) dX8_init_119 rfl ?_
  refine k_aast (q := 123) (kd := 15) (ci := 0) (len := 3) (r := (RX0, TX0, 2)) C ⟨by decide +kernel, by decide +kernel⟩ (Or.inr rfl) (by decide +kernel) ⟨by decide +kernel, by decide +kernel⟩ (by decide +kernel) (by decide) rfl rfl (by decide) (by decide) dX8_init_122 rfl ?_
  refine k_iinc (q := 126) (z := 1) C dX8_init_123 rfl (nb rfl) rfl rfl (L' := [some (.inr 244), some (.inr 207), some (.inr 215), some (.inr 222), some (.inr 236), some (.inr 238), some (.inr 240), some (.inl 1)]) rfl (by decide) ?_
  refine v_goto (q := 75) C dX8_init_126 rfl ?_
  refine v_iload (q := 77) C dX8_init_75 rfl rfl ?_
  refine v_iconst (q := 78) C dX8_init_77 rfl (by decide) ?_
  refine v_icmp_ge (q := 81) (tgt := 129) C dX8_init_78 rfl rfl (A := False) (B := True) (by decide) (fun h => h.elim) (fun h => ?_)
  refine v_aloadn (q := 82) C dX8_init_81 rfl rfl ?_
  refine k_get (q := 85) (v := 245) C kl8 fl_X8_11 ⟨by decide +kernel, by decide +kernel⟩ (by decide +kernel) rfl rfl (by decide +kernel) dX8_init_82 rfl ?_
  refine v_iload (q := 87) C dX8_init_85 rfl rfl ?_
  refine k_new (q := 90) (n' := 189) (a := 196) C kl0 df0 ck_X8_9 ⟨in_0, it_0⟩ rfl ⟨nb rfl, nb rfl⟩ (by decide +kernel) (by decide +kernel) (z_me_0 (by decide +kernel)) dX8_init_87 rfl ?_
  refine v_dup (q := 91) C dX8_init_90 rfl ?_
  refine k_cN0 (q := 94) (n' := 195) (M2 := z_me z_0 ML60) C (kt_X0_init (c := 196) (p := 55) (by decide) rfl (nb rfl) ⟨by decide +kernel, by decide +kernel⟩ (by decide +kernel) (by decide +kernel)) sy_X0_init si_X0_init rfl mn_X8_54 ⟨by decide +kernel, by decide +kernel⟩ ⟨nb rfl, nb rfl⟩ ⟨nb rfl, nb rfl, nb rfl⟩ (nb rfl) dX8_init_91 rfl ?_
  refine k_aast (q := 95) (kd := 15) (ci := 0) (len := 3) (r := (RX0, TX0, 2)) C ⟨by decide +kernel, by decide +kernel⟩ (Or.inr rfl) (by decide +kernel) ⟨by decide +kernel, by decide +kernel⟩ (by decide +kernel) (by decide) rfl rfl (by decide) (by decide) dX8_init_94 rfl ?_
  refine v_aloadn (q := 96) C dX8_init_95 rfl rfl ?_
  refine k_get (q := 99) (v := 246) C kl8 fl_X8_17 ⟨by decide +kernel, by decide +kernel⟩ (by decide +kernel) rfl rfl (by decide +kernel) dX8_init_96 rfl ?_
  refine v_iload (q := 101) C dX8_init_99 rfl rfl ?_
  refine k_new (q := 104) (n' := 196) (a := 199) C kl0 df0 ck_X8_9 ⟨in_0, it_0⟩ rfl ⟨nb rfl, nb rfl⟩ (by decide +kernel) (by decide +kernel) (z_me_0 (by decide +kernel)) dX8_init_101 rfl ?_
  refine v_dup (q := 105) C dX8_init_104 rfl ?_
  refine k_cN0 (q := 108) (n' := 202) (M2 := z_me z_0 ML61) C (kt_X0_init (c := 199) (p := 73) (by decide) rfl (nb rfl) ⟨by decide +kernel, by decide +kernel⟩ (by decide +kernel) (by decide +kernel)) sy_X0_init si_X0_init rfl mn_X8_54 ⟨by decide +kernel, by decide +kernel⟩ ⟨nb rfl, nb rfl⟩ ⟨nb rfl, nb rfl, nb rfl⟩ (nb rfl) dX8_init_105 rfl ?_
  refine k_aast (q := 109) (kd := 15) (ci := 0) (len := 3) (r := (RX0, TX0, 2)) C ⟨by decide +kernel, by decide +kernel⟩ (Or.inr rfl) (by decide +kernel) ⟨by decide +kernel, by decide +kernel⟩ (by decide +kernel) (by decide) rfl rfl (by decide) (by decide) dX8_init_108 rfl ?_
  refine v_aloadn (q := 110) C dX8_init_109 rfl rfl ?_
  refine k_get (q := 113) (v := 247) C kl8 fl_X8_20 ⟨by decide +kernel, by decide +kernel⟩ (by decide +kernel) rfl rfl (by decide +kernel) dX8_init_110 rfl ?_
  refine v_iload (q := 115) C dX8_init_113 rfl rfl ?_
  refine k_new (q := 118) (n' := 203) (a := 202) C kl0 df0 ck_X8_9 ⟨in_0, it_0⟩ rfl ⟨nb rfl, nb rfl⟩ (by decide +kernel) (by decide +kernel) (z_me_0 (by decide +kernel)) dX8_init_115 rfl ?_
  refine v_dup (q := 119) C dX8_init_118 rfl ?_
  refine k_cN0 (q := 122) (n' := 209) (M2 := z_me z_0 ML62) C (kt_X0_init (c := 202) (p := 91) (by decide) rfl (nb rfl) ⟨by decide +kernel, by decide +kernel⟩ (by decide +kernel) (by decide +kernel)) sy_X0_init si_X0_init rfl mn_X8_54 ⟨by decide +kernel, by decide +kernel⟩ ⟨nb rfl, nb rfl⟩ ⟨nb rfl, nb rfl, nb rfl⟩ (nb rfl) dX8_init_119 rfl ?_
  refine k_aast (q := 123) (kd := 15) (ci := 0) (len := 3) (r := (RX0, TX0, 2)) C ⟨by decide +kernel, by decide +kernel⟩ (Or.inr rfl) (by decide +kernel) ⟨by decide +kernel, by decide +kernel⟩ (by decide +kernel) (by decide) rfl rfl (by decide) (by decide) dX8_init_122 rfl ?_
  refine k_iinc (q := 126) (z := 2) C dX8_init_123 rfl (nb rfl) rfl rfl (L' := [some (.inr 244), some (.inr 207), some (.inr 215), some (.inr 222), some (.inr 236), some (.inr 238), some (.inr 240), some (.inl 2)]) rfl (by decide) ?_
  refine v_goto (q := 75) C dX8_init_126 rfl ?_
  refine v_iload (q := 77) C dX8_init_75 rfl rfl ?_
  refine v_iconst (q := 78) C dX8_init_77 rfl (by decide) ?_
  refine v_icmp_ge (q := 81) (tgt := 129) C dX8_init_78 rfl rfl (A := False) (B := True) (by decide) (fun h => h.elim) (fun h => ?_)
  refine v_aloadn (q := 82) C dX8_init_81 rfl rfl ?_
  refine k_get (q := 85) (v := 245) C kl8 fl_X8_11 ⟨by decide +kernel, by decide +kernel⟩ (by decide +kernel) rfl rfl (by decide +kernel) dX8_init_82 rfl ?_
  refine v_iload (q := 87) C dX8_init_85 rfl rfl ?_
  refine k_new (q := 90) (n' := 210) (a := 197) C kl0 df0 ck_X8_9 ⟨in_0, it_0⟩ rfl ⟨nb rfl, nb rfl⟩ (by decide +kernel) (by decide +kernel) (z_me_0 (by decide +kernel)) dX8_init_87 rfl ?_
  refine v_dup (q := 91) C dX8_init_90 rfl ?_
  refine k_cN0 (q := 94) (n' := 216) (M2 := z_me z_0 ML63) C (kt_X0_init (c := 197) (p := 61) (by decide) rfl (nb rfl) ⟨by decide +kernel, by decide +kernel⟩ (by decide +kernel) (by decide +kernel)) sy_X0_init si_X0_init rfl mn_X8_54 ⟨by decide +kernel, by decide +kernel⟩ ⟨nb rfl, nb rfl⟩ ⟨nb rfl, nb rfl, nb rfl⟩ (nb rfl) dX8_init_91 rfl ?_
  refine k_aast (q := 95) (kd := 15) (ci := 0) (len := 3) (r := (RX0, TX0, 2)) C ⟨by decide +kernel, by decide +kernel⟩ (Or.inr rfl) (by decide +kernel) ⟨by decide +kernel, by decide +kernel⟩ (by decide +kernel) (by decide) rfl rfl (by decide) (by decide) dX8_init_94 rfl ?_
  refine v_aloadn (q := 96) C dX8_init_95 rfl rfl ?_
  refine k_get (q := 99) (v := 246) C kl8 fl_X8_17 ⟨by decide +kernel, by decide +kernel⟩ (by decide +kernel) rfl rfl (by decide +kernel) dX8_init_96 rfl ?_
  refine v_iload (q := 101) C dX8_init_99 rfl rfl ?_
  refine k_new (q := 104) (n' := 217) (a := 200) C kl0 df0 ck_X8_9 ⟨in_0, it_0⟩ rfl ⟨nb rfl, nb rfl⟩ (by decide +kernel) (by decide +kernel) (z_me_0 (by decide +kernel)) dX8_init_101 rfl ?_
  refine v_dup (q := 105) C dX8_init_104 rfl ?_
  refine k_cN0 (q := 108) (n' := 223) (M2 := z_me z_0 ML64) C (kt_X0_init (c := 200) (p := 79) (by decide) rfl (nb rfl) ⟨by decide +kernel, by decide +kernel⟩ (by decide +kernel) (by decide +kernel)) sy_X0_init si_X0_init rfl mn_X8_54 ⟨by decide +kernel, by decide +kernel⟩ ⟨nb rfl, nb rfl⟩ ⟨nb rfl, nb rfl, nb rfl⟩ (nb rfl) dX8_init_105 rfl ?_
  refine k_aast (q := 109) (kd := 15) (ci := 0) (len := 3) (r := (RX0, TX0, 2)) C ⟨by decide +kernel, by decide +kernel⟩ (Or.inr rfl) (by decide +kernel) ⟨by decide +kernel, by decide +kernel⟩ (by decide +kernel) (by decide) rfl rfl (by decide) (by decide) dX8_init_108 rfl ?_
  refine v_aloadn (q := 110) C dX8_init_109 rfl rfl ?_
  refine k_get (q := 113) (v := 247) C kl8 fl_X8_20 ⟨by decide +kernel, by decide +kernel⟩ (by decide +kernel) rfl rfl (by decide +kernel) dX8_init_110 rfl ?_
  refine v_iload (q := 115) C dX8_init_113 rfl rfl ?_
  refine k_new (q := 118) (n' := 224) (a := 203) C kl0 df0 ck_X8_9 ⟨in_0, it_0⟩ rfl ⟨nb rfl, nb rfl⟩ (by decide +kernel) (by decide +kernel) (z_me_0 (by decide +kernel)) dX8_init_115 rfl ?_
  refine v_dup (q := 119) C dX8_init_118 rfl ?_
  refine k_cN0 (q := 122) (n' := 230) (M2 := z_me z_0 ML65) C (kt_X0_init (c := 203) (p := 97) (by decide) rfl (nb rfl) ⟨by decide +kernel, by decide +kernel⟩ (by decide +kernel) (by decide +kernel)) sy_X0_init si_X0_init rfl mn_X8_54 ⟨by decide +kernel, by decide +kernel⟩ ⟨nb rfl, nb rfl⟩ ⟨nb rfl, nb rfl, nb rfl⟩ (nb rfl) dX8_init_119 rfl ?_
  refine k_aast (q := 123) (kd := 15) (ci := 0) (len := 3) (r := (RX0, TX0, 2)) C ⟨by decide +kernel, by decide +kernel⟩ (Or.inr rfl) (by decide +kernel) ⟨by decide +kernel, by decide +kernel⟩ (by decide +kernel) (by decide) rfl rfl (by decide) (by decide) dX8_init_122 rfl ?_
  refine k_iinc (q := 126) (z := 3) C dX8_init_123 rfl (nb rfl) rfl rfl (L' := [some (.inr 244), some (.inr 207), some (.inr 215), some (.inr 222), some (.inr 236), some (.inr 238), some (.inr 240), some (.inl 3)]) rfl (by decide) ?_
  refine v_goto (q := 75) C dX8_init_126 rfl ?_
  refine v_iload (q := 77) C dX8_init_75 rfl rfl ?_
  refine v_iconst (q := 78) C dX8_init_77 rfl (by decide) ?_
  refine v_icmp_ge (q := 81) (tgt := 129) C dX8_init_78 rfl rfl (A := True) (B := False) (by decide) (fun h => ?_) (fun h => h.elim)
  exact k_vret hR dX8_init_129
theorem kt_X11_init : zMet yX11_init cX11_init 2 none 4 87 [.inr 206] 1 247 (z_me z_0 ML0) (KZ (z_me z_0 ML71)) := by
  refine zMet_of (L0 := [some (.inr 206), none]) sy_X11_init rfl (nb rfl) (nb rfl) (fun X C hI _ _ hR => ?_)
  have C : zC X cX11_init RX11 2 none 4 87 247 := C
  refine v_aloadn (q := 1) C dX11_init_0 rfl rfl ?_
  refine v_objInit (q := 4) C ml_X11_3 oi oc ⟨by decide +kernel, by decide +kernel⟩ (nb rfl) (nb rfl) dX11_init_1 rfl ?_
  refine v_aloadn (q := 5) C dX11_init_4 rfl rfl ?_
  refine k_new (q := 8) (n' := 2) (a := 207) C kl3 df3 ck_X11_9 ⟨in_3, it_3⟩ rfl ⟨nb rfl, nb rfl⟩ (by decide +kernel) (by decide +kernel) (z_me_0 (by decide +kernel)) dX11_init_5 rfl ?_
  refine v_dup (q := 9) C dX11_init_8 rfl ?_
  refine k_cI0 (q := 12) (n' := 60) (M2 := z_me z_0 ML21) C kt_X3_init sy_X3_init si_X3_init rfl ml_X11_11 ⟨by decide +kernel, by decide +kernel⟩ ⟨nb rfl, nb rfl⟩ ⟨nb rfl, nb rfl, nb rfl⟩ (nb rfl) dX11_init_9 rfl ?_
  refine k_putF (q := 15) C hI rfl kl11 fl_X11_12 ⟨by decide +kernel, by decide +kernel⟩ (by decide +kernel) rfl rfl (Or.inl ⟨_, rfl⟩) rfl rfl (by decide) dX11_init_12 rfl ?_
  refine v_aloadn (q := 16) C dX11_init_15 rfl rfl ?_
  refine k_new (q := 19) (n' := 61) (a := 212) C kl9 df9 ck_X11_16 ⟨in_9, it_9⟩ rfl ⟨nb rfl, nb rfl⟩ (by decide +kernel) (by decide +kernel) (z_me_0 (by decide +kernel)) dX11_init_16 rfl ?_
  refine v_dup (q := 20) C dX11_init_19 rfl ?_
  refine v_aloadn (q := 21) C dX11_init_20 rfl rfl ?_
  refine k_get (q := 24) (v := 207) C kl11 fl_X11_12 ⟨by decide +kernel, by decide +kernel⟩ (by decide +kernel) rfl rfl (by decide +kernel) dX11_init_21 rfl ?_
  refine k_cI1 (q := 27) (n' := 72) (M2 := z_me z_0 ML27) C kt_X9_init sy_X9_init si_X9_init rfl ml_X11_18 ⟨by decide +kernel, by decide +kernel⟩ ⟨nb rfl, nb rfl⟩ ⟨nb rfl, nb rfl, nb rfl⟩ (nb rfl) dX11_init_24 rfl ?_
  refine k_putF (q := 30) C hI rfl kl11 fl_X11_21 ⟨by decide +kernel, by decide +kernel⟩ (by decide +kernel) rfl rfl (Or.inl ⟨_, rfl⟩) rfl rfl (by decide) dX11_init_27 rfl ?_
  refine v_aloadn (q := 31) C dX11_init_30 rfl rfl ?_
  refine k_new (q := 34) (n' := 73) (a := 215) C kl2 df2 ck_X11_25 ⟨in_2, it_2⟩ rfl ⟨nb rfl, nb rfl⟩ (by decide +kernel) (by decide +kernel) (z_me_0 (by decide +kernel)) dX11_init_31 rfl ?_
  refine v_dup (q := 35) C dX11_init_34 rfl ?_
  refine v_aloadn (q := 36) C dX11_init_35 rfl rfl ?_
  refine k_get (q := 39) (v := 207) C kl11 fl_X11_12 ⟨by decide +kernel, by decide +kernel⟩ (by decide +kernel) rfl rfl (by decide +kernel) dX11_init_36 rfl ?_
  refine k_cI1 (q := 42) (n' := 79) (M2 := z_me z_0 ML30) C kt_X2_init sy_X2_init si_X2_init rfl ml_X11_27 ⟨by decide +kernel, by decide +kernel⟩ ⟨nb rfl, nb rfl⟩ ⟨nb rfl, nb rfl, nb rfl⟩ (nb rfl) dX11_init_39 rfl ?_
  refine k_putF (q := 45) C hI rfl kl11 fl_X11_28 ⟨by decide +kernel, by decide +kernel⟩ (by decide +kernel) rfl rfl (Or.inl ⟨_, rfl⟩) rfl rfl (by decide) dX11_init_42 rfl ?_
  refine v_aloadn (q := 46) C dX11_init_45 rfl rfl ?_
  refine k_new (q := 49) (n' := 80) (a := 222) C kl6 df6 ck_X11_32 ⟨in_6, it_6⟩ rfl ⟨nb rfl, nb rfl⟩ (by decide +kernel) (by decide +kernel) (z_me_0 (by decide +kernel)) dX11_init_46 rfl ?_
  refine v_dup (q := 50) C dX11_init_49 rfl ?_
  refine v_aloadn (q := 51) C dX11_init_50 rfl rfl ?_
  refine k_get (q := 54) (v := 207) C kl11 fl_X11_12 ⟨by decide +kernel, by decide +kernel⟩ (by decide +kernel) rfl rfl (by decide +kernel) dX11_init_51 rfl ?_
  refine k_cI1 (q := 57) (n' := 90) (M2 := z_me z_0 ML33) C kt_X6_init sy_X6_init si_X6_init rfl ml_X11_34 ⟨by decide +kernel, by decide +kernel⟩ ⟨nb rfl, nb rfl⟩ ⟨nb rfl, nb rfl, nb rfl⟩ (nb rfl) dX11_init_54 rfl ?_
  refine k_putF (q := 60) C hI rfl kl11 fl_X11_35 ⟨by decide +kernel, by decide +kernel⟩ (by decide +kernel) rfl rfl (Or.inl ⟨_, rfl⟩) rfl rfl (by decide) dX11_init_57 rfl ?_
  refine v_aloadn (q := 61) C dX11_init_60 rfl rfl ?_
  refine k_new (q := 64) (n' := 91) (a := 233) C kl1 df1 ck_X11_39 ⟨in_1, it_1⟩ rfl ⟨nb rfl, nb rfl⟩ (by decide +kernel) (by decide +kernel) (z_me_0 (by decide +kernel)) dX11_init_61 rfl ?_
  refine v_dup (q := 65) C dX11_init_64 rfl ?_
  refine k_cN0 (q := 68) (n' := 93) (M2 := z_me z_0 ML36) C kt_X1_init sy_X1_init si_X1_init rfl mn_X11_41 ⟨by decide +kernel, by decide +kernel⟩ ⟨nb rfl, nb rfl⟩ ⟨nb rfl, nb rfl, nb rfl⟩ (nb rfl) dX11_init_65 rfl ?_
  refine k_putF (q := 71) C hI rfl kl11 fl_X11_42 ⟨by decide +kernel, by decide +kernel⟩ (by decide +kernel) rfl rfl (Or.inl ⟨_, rfl⟩) rfl rfl (by decide) dX11_init_68 rfl ?_
  refine k_new (q := 74) (n' := 94) (a := 236) C kl5 df5 ck_X11_46 ⟨in_5, it_5⟩ rfl ⟨nb rfl, nb rfl⟩ (by decide +kernel) (by decide +kernel) (z_me_0 (by decide +kernel)) dX11_init_71 rfl ?_
  refine v_dup (q := 75) C dX11_init_74 rfl ?_
  refine v_aloadn (q := 76) C dX11_init_75 rfl rfl ?_
  refine k_get (q := 79) (v := 207) C kl11 fl_X11_12 ⟨by decide +kernel, by decide +kernel⟩ (by decide +kernel) rfl rfl (by decide +kernel) dX11_init_76 rfl ?_
  refine k_cI1 (q := 82) (n' := 95) (M2 := z_me z_0 ML39) C kt_X5_init sy_X5_init si_X5_init rfl ml_X11_48 ⟨by decide +kernel, by decide +kernel⟩ ⟨nb rfl, nb rfl⟩ ⟨nb rfl, nb rfl, nb rfl⟩ (nb rfl) dX11_init_79 rfl ?_
  refine v_astoren (q := 83) C dX11_init_82 rfl (nb rfl) (L' := [some (.inr 206), some (.inr 236)]) rfl ?_
  refine v_aloadn (q := 84) C dX11_init_83 rfl rfl ?_
  refine k_new (q := 87) (n' := 96) (a := 238) C kl4 df4 ck_X11_49 ⟨in_4, it_4⟩ rfl ⟨nb rfl, nb rfl⟩ (by decide +kernel) (by decide +kernel) (z_me_0 (by decide +kernel)) dX11_init_84 rfl ?_
  refine v_dup (q := 88) C dX11_init_87 rfl ?_
  refine v_aloadn (q := 89) C dX11_init_88 rfl rfl ?_
  refine k_get (q := 92) (v := 233) C kl11 fl_X11_42 ⟨by decide +kernel, by decide +kernel⟩ (by decide +kernel) rfl rfl (by decide +kernel) dX11_init_89 rfl ?_
  refine v_aloadn (q := 93) C dX11_init_92 rfl rfl ?_
  refine k_cI2 (q := 96) (n' := 156) (M2 := z_me z_0 ML51) C kt_X4_init sy_X4_init si_X4_init rfl ml_X11_51 ⟨by decide +kernel, by decide +kernel⟩ ⟨nb rfl, nb rfl⟩ ⟨nb rfl, nb rfl, nb rfl⟩ (nb rfl) dX11_init_93 rfl ?_
  refine k_putF (q := 99) C hI rfl kl11 fl_X11_54 ⟨by decide +kernel, by decide +kernel⟩ (by decide +kernel) rfl rfl (Or.inl ⟨_, rfl⟩) rfl rfl (by decide) dX11_init_96 rfl ?_
  refine v_aloadn (q := 100) C dX11_init_99 rfl rfl ?_
  refine k_new (q := 103) (n' := 157) (a := 240) C kl7 df7 ck_X11_58 ⟨in_7, it_7⟩ rfl ⟨nb rfl, nb rfl⟩ (by decide +kernel) (by decide +kernel) (z_me_0 (by decide +kernel)) dX11_init_100 rfl ?_
  refine v_dup (q := 104) C dX11_init_103 rfl ?_
  refine k_cN0 (q := 107) (n' := 160) (M2 := z_me z_0 ML54) C kt_X7_init sy_X7_init si_X7_init rfl mn_X11_60 ⟨by decide +kernel, by decide +kernel⟩ ⟨nb rfl, nb rfl⟩ ⟨nb rfl, nb rfl, nb rfl⟩ (nb rfl) dX11_init_104 rfl ?_
  refine k_putF (q := 110) C hI rfl kl11 fl_X11_61 ⟨by decide +kernel, by decide +kernel⟩ (by decide +kernel) rfl rfl (Or.inl ⟨_, rfl⟩) rfl rfl (by decide) dX11_init_107 rfl ?_
  refine v_aloadn (q := 111) C dX11_init_110 rfl rfl ?_
  refine k_new (q := 114) (n' := 161) (a := 244) C kl8 df8 ck_X11_65 ⟨in_8, it_8⟩ rfl ⟨nb rfl, nb rfl⟩ (by decide +kernel) (by decide +kernel) (z_me_0 (by decide +kernel)) dX11_init_111 rfl ?_
  refine v_dup (q := 115) C dX11_init_114 rfl ?_
  refine v_aloadn (q := 116) C dX11_init_115 rfl rfl ?_
  refine k_get (q := 119) (v := 207) C kl11 fl_X11_12 ⟨by decide +kernel, by decide +kernel⟩ (by decide +kernel) rfl rfl (by decide +kernel) dX11_init_116 rfl ?_
  refine v_aloadn (q := 120) C dX11_init_119 rfl rfl ?_
  refine k_get (q := 123) (v := 215) C kl11 fl_X11_28 ⟨by decide +kernel, by decide +kernel⟩ (by decide +kernel) rfl rfl (by decide +kernel) dX11_init_120 rfl ?_
  refine v_aloadn (q := 124) C dX11_init_123 rfl rfl ?_
  refine k_get (q := 127) (v := 222) C kl11 fl_X11_35 ⟨by decide +kernel, by decide +kernel⟩ (by decide +kernel) rfl rfl (by decide +kernel) dX11_init_124 rfl ?_
  refine v_aloadn (q := 128) C dX11_init_127 rfl rfl ?_
  refine v_aloadn (q := 129) C dX11_init_128 rfl rfl ?_
  refine k_get (q := 132) (v := 238) C kl11 fl_X11_54 ⟨by decide +kernel, by decide +kernel⟩ (by decide +kernel) rfl rfl (by decide +kernel) dX11_init_129 rfl ?_
  refine v_aloadn (q := 133) C dX11_init_132 rfl rfl ?_
  refine k_get (q := 136) (v := 240) C kl11 fl_X11_61 ⟨by decide +kernel, by decide +kernel⟩ (by decide +kernel) rfl rfl (by decide +kernel) dX11_init_133 rfl ?_
  refine k_cI6 (q := 139) (n' := 230) (M2 := z_me z_0 ML67) C kt_X8_init sy_X8_init si_X8_init rfl ml_X11_67 ⟨by decide +kernel, by decide +kernel⟩ ⟨nb rfl, nb rfl⟩ ⟨nb rfl, nb rfl, nb rfl⟩ (nb rfl) dX11_init_136 rfl ?_
  refine k_putF (q := 142) C hI rfl kl11 fl_X11_70 ⟨by decide +kernel, by decide +kernel⟩ (by decide +kernel) rfl rfl (Or.inl ⟨_, rfl⟩) rfl rfl (by decide) dX11_init_139 rfl ?_
  refine v_aloadn (q := 143) C dX11_init_142 rfl rfl ?_
  refine k_new (q := 146) (n' := 231) (a := 204) C kl0 df0 ck_X11_74 ⟨in_0, it_0⟩ rfl ⟨nb rfl, nb rfl⟩ (by decide +kernel) (by decide +kernel) (z_me_0 (by decide +kernel)) dX11_init_143 rfl ?_
  refine v_dup (q := 147) C dX11_init_146 rfl ?_
  refine k_cN0 (q := 150) (n' := 237) (M2 := z_me z_0 ML68) C (kt_X0_init (c := 204) (p := 103) (by decide) rfl (nb rfl) ⟨by decide +kernel, by decide +kernel⟩ (by decide +kernel) (by decide +kernel)) sy_X0_init si_X0_init rfl mn_X11_76 ⟨by decide +kernel, by decide +kernel⟩ ⟨nb rfl, nb rfl⟩ ⟨nb rfl, nb rfl, nb rfl⟩ (nb rfl) dX11_init_147 rfl ?_
  refine k_putF (q := 153) C hI rfl kl11 fl_X11_77 ⟨by decide +kernel, by decide +kernel⟩ (by decide +kernel) rfl rfl (Or.inl ⟨_, rfl⟩) rfl rfl (by decide) dX11_init_150 rfl ?_
  refine v_aloadn (q := 154) C dX11_init_153 rfl rfl ?_
  refine k_new (q := 157) (n' := 238) (a := 205) C kl0 df0 ck_X11_74 ⟨in_0, it_0⟩ rfl ⟨nb rfl, nb rfl⟩ (by decide +kernel) (by decide +kernel) (z_me_0 (by decide +kernel)) dX11_init_154 rfl ?_
  refine v_dup (q := 158) C dX11_init_157 rfl ?_
  refine k_cN0 (q := 161) (n' := 244) (M2 := z_me z_0 ML69) C (kt_X0_init (c := 205) (p := 109) (by decide) rfl (nb rfl) ⟨by decide +kernel, by decide +kernel⟩ (by decide +kernel) (by decide +kernel)) sy_X0_init si_X0_init rfl mn_X11_76 ⟨by decide +kernel, by decide +kernel⟩ ⟨nb rfl, nb rfl⟩ ⟨nb rfl, nb rfl, nb rfl⟩ (nb rfl) dX11_init_158 rfl ?_
  refine k_putF (q := 164) C hI rfl kl11 fl_X11_81 ⟨by decide +kernel, by decide +kernel⟩ (by decide +kernel) rfl rfl (Or.inl ⟨_, rfl⟩) rfl rfl (by decide) dX11_init_161 rfl ?_
  refine v_aloadn (q := 165) C dX11_init_164 rfl rfl ?_
  refine k_new (q := 168) (n' := 245) (a := 178) C kl10 df10 ck_X11_84 ⟨in_10, it_10⟩ rfl ⟨nb rfl, nb rfl⟩ (by decide +kernel) (by decide +kernel) (z_me_0 (by decide +kernel)) dX11_init_165 rfl ?_
  refine v_dup (q := 169) C dX11_init_168 rfl ?_
  refine k_cN0 (q := 172) (n' := 247) (M2 := z_me z_0 ML70) C (kt_X10_init (t := 178) (by decide) (nb rfl) ⟨by decide +kernel, by decide +kernel⟩ (by decide +kernel) (by decide +kernel) (by decide +kernel) (by decide +kernel)) sy_X10_init si_X10_init rfl mn_X11_86 ⟨by decide +kernel, by decide +kernel⟩ ⟨nb rfl, nb rfl⟩ ⟨nb rfl, nb rfl, nb rfl⟩ (nb rfl) dX11_init_169 rfl ?_
  refine k_putF (q := 175) C hI rfl kl11 fl_X11_87 ⟨by decide +kernel, by decide +kernel⟩ (by decide +kernel) rfl rfl (Or.inl ⟨_, rfl⟩) rfl rfl (by decide) dX11_init_172 rfl ?_
  refine v_aloadn (q := 176) C dX11_init_175 rfl rfl ?_
  refine v_iconst (q := 177) C dX11_init_176 rfl (by decide) ?_
  refine k_put (q := 180) C kl11 fl_X11_91 ⟨by decide +kernel, by decide +kernel⟩ (by decide +kernel) rfl rfl (Or.inr ⟨rfl, by decide⟩) rfl dX11_init_177 rfl ?_
  exact k_vret hR dX11_init_180
theorem kt_X12_init : zMet yX12_init cX12_init 1 none 1 20 [.inr 248] 248 274 (z_me z_0 ML72) (KZ (z_me z_0 ML73)) := by
  refine zMet_of (L0 := [some (.inr 248)]) sy_X12_init rfl (nb rfl) (nb rfl) (fun X C hI _ _ hR => ?_)
  have C : zC X cX12_init RX12 1 none 1 20 274 := C
  refine v_aloadn (q := 1) C dX12_init_0 rfl rfl ?_
  refine v_objInit (q := 4) C ml_X12_1 oi oc ⟨by decide +kernel, by decide +kernel⟩ (nb rfl) (nb rfl) dX12_init_1 rfl ?_
  refine v_aloadn (q := 5) C dX12_init_4 rfl rfl ?_
  refine v_sipush (q := 8) C dX12_init_5 rfl (by decide) ?_
  refine k_newarray (q := 10) (n' := 249) (len := 5632) (a := 249) C ac_I rfl ⟨nb rfl, nb rfl⟩ (by decide +kernel) (by decide +kernel) rfl (nb rfl) (z_me_0 (by decide +kernel)) dX12_init_8 rfl ?_
  refine k_putF (q := 13) C hI rfl kl12 fl_X12_7 ⟨by decide +kernel, by decide +kernel⟩ (by decide +kernel) rfl rfl (Or.inr ⟨_, rfl⟩) rfl rfl (by decide) dX12_init_10 rfl ?_
  refine v_aloadn (q := 14) C dX12_init_13 rfl rfl ?_
  refine v_bipush (q := 16) C dX12_init_14 rfl (by decide) ?_
  refine k_newarray (q := 18) (n' := 250) (len := 44) (a := 250) C ac_I rfl ⟨nb rfl, nb rfl⟩ (by decide +kernel) (by decide +kernel) rfl (nb rfl) (z_me_0 (by decide +kernel)) dX12_init_16 rfl ?_
  refine k_putF (q := 21) C hI rfl kl12 fl_X12_13 ⟨by decide +kernel, by decide +kernel⟩ (by decide +kernel) rfl rfl (Or.inr ⟨_, rfl⟩) rfl rfl (by decide) dX12_init_18 rfl ?_
  refine v_aloadn (q := 22) C dX12_init_21 rfl rfl ?_
  refine v_bipush (q := 24) C dX12_init_22 rfl (by decide) ?_
  refine k_newarray (q := 26) (n' := 251) (len := 48) (a := 251) C ac_I rfl ⟨nb rfl, nb rfl⟩ (by decide +kernel) (by decide +kernel) rfl (nb rfl) (z_me_0 (by decide +kernel)) dX12_init_24 rfl ?_
  refine k_putF (q := 29) C hI rfl kl12 fl_X12_16 ⟨by decide +kernel, by decide +kernel⟩ (by decide +kernel) rfl rfl (Or.inr ⟨_, rfl⟩) rfl rfl (by decide) dX12_init_26 rfl ?_
  refine v_aloadn (q := 30) C dX12_init_29 rfl rfl ?_
  refine v_bipush (q := 32) C dX12_init_30 rfl (by decide) ?_
  refine k_newarray (q := 34) (n' := 252) (len := 6) (a := 252) C ac_I rfl ⟨nb rfl, nb rfl⟩ (by decide +kernel) (by decide +kernel) rfl (nb rfl) (z_me_0 (by decide +kernel)) dX12_init_32 rfl ?_
  refine k_putF (q := 37) C hI rfl kl12 fl_X12_19 ⟨by decide +kernel, by decide +kernel⟩ (by decide +kernel) rfl rfl (Or.inr ⟨_, rfl⟩) rfl rfl (by decide) dX12_init_34 rfl ?_
  refine v_aloadn (q := 38) C dX12_init_37 rfl rfl ?_
  refine v_bipush (q := 40) C dX12_init_38 rfl (by decide) ?_
  refine k_newarray (q := 42) (n' := 253) (len := 6) (a := 253) C ac_I rfl ⟨nb rfl, nb rfl⟩ (by decide +kernel) (by decide +kernel) rfl (nb rfl) (z_me_0 (by decide +kernel)) dX12_init_40 rfl ?_
  refine k_putF (q := 45) C hI rfl kl12 fl_X12_22 ⟨by decide +kernel, by decide +kernel⟩ (by decide +kernel) rfl rfl (Or.inr ⟨_, rfl⟩) rfl rfl (by decide) dX12_init_42 rfl ?_
  refine v_aloadn (q := 46) C dX12_init_45 rfl rfl ?_
  refine v_sipush (q := 49) C dX12_init_46 rfl (by decide) ?_
  refine k_newarray (q := 51) (n' := 254) (len := 180) (a := 254) C ac_I rfl ⟨nb rfl, nb rfl⟩ (by decide +kernel) (by decide +kernel) rfl (nb rfl) (z_me_0 (by decide +kernel)) dX12_init_49 rfl ?_
  refine k_putF (q := 54) C hI rfl kl12 fl_X12_25 ⟨by decide +kernel, by decide +kernel⟩ (by decide +kernel) rfl rfl (Or.inr ⟨_, rfl⟩) rfl rfl (by decide) dX12_init_51 rfl ?_
  refine v_aloadn (q := 55) C dX12_init_54 rfl rfl ?_
  refine v_bipush (q := 57) C dX12_init_55 rfl (by decide) ?_
  refine k_newarray (q := 59) (n' := 255) (len := 18) (a := 255) C ac_I rfl ⟨nb rfl, nb rfl⟩ (by decide +kernel) (by decide +kernel) rfl (nb rfl) (z_me_0 (by decide +kernel)) dX12_init_57 rfl ?_
  refine k_putF (q := 62) C hI rfl kl12 fl_X12_28 ⟨by decide +kernel, by decide +kernel⟩ (by decide +kernel) rfl rfl (Or.inr ⟨_, rfl⟩) rfl rfl (by decide) dX12_init_59 rfl ?_
  refine v_aloadn (q := 63) C dX12_init_62 rfl rfl ?_
  refine v_bipush (q := 65) C dX12_init_63 rfl (by decide) ?_
  refine k_newarray (q := 67) (n' := 256) (len := 20) (a := 256) C ac_I rfl ⟨nb rfl, nb rfl⟩ (by decide +kernel) (by decide +kernel) rfl (nb rfl) (z_me_0 (by decide +kernel)) dX12_init_65 rfl ?_
  refine k_putF (q := 70) C hI rfl kl12 fl_X12_31 ⟨by decide +kernel, by decide +kernel⟩ (by decide +kernel) rfl rfl (Or.inr ⟨_, rfl⟩) rfl rfl (by decide) dX12_init_67 rfl ?_
  refine v_aloadn (q := 71) C dX12_init_70 rfl rfl ?_
  refine v_sipush (q := 74) C dX12_init_71 rfl (by decide) ?_
  refine k_newarray (q := 76) (n' := 257) (len := 460) (a := 257) C ac_I rfl ⟨nb rfl, nb rfl⟩ (by decide +kernel) (by decide +kernel) rfl (nb rfl) (z_me_0 (by decide +kernel)) dX12_init_74 rfl ?_
  refine k_putF (q := 79) C hI rfl kl12 fl_X12_34 ⟨by decide +kernel, by decide +kernel⟩ (by decide +kernel) rfl rfl (Or.inr ⟨_, rfl⟩) rfl rfl (by decide) dX12_init_76 rfl ?_
  refine v_aloadn (q := 80) C dX12_init_79 rfl rfl ?_
  refine v_bipush (q := 82) C dX12_init_80 rfl (by decide) ?_
  refine k_newarray (q := 84) (n' := 258) (len := 64) (a := 258) C ac_I rfl ⟨nb rfl, nb rfl⟩ (by decide +kernel) (by decide +kernel) rfl (nb rfl) (z_me_0 (by decide +kernel)) dX12_init_82 rfl ?_
  refine k_putF (q := 87) C hI rfl kl12 fl_X12_37 ⟨by decide +kernel, by decide +kernel⟩ (by decide +kernel) rfl rfl (Or.inr ⟨_, rfl⟩) rfl rfl (by decide) dX12_init_84 rfl ?_
  refine v_aloadn (q := 88) C dX12_init_87 rfl rfl ?_
  refine v_bipush (q := 90) C dX12_init_88 rfl (by decide) ?_
  refine k_newarray (q := 92) (n' := 259) (len := 64) (a := 259) C ac_I rfl ⟨nb rfl, nb rfl⟩ (by decide +kernel) (by decide +kernel) rfl (nb rfl) (z_me_0 (by decide +kernel)) dX12_init_90 rfl ?_
  refine k_putF (q := 95) C hI rfl kl12 fl_X12_40 ⟨by decide +kernel, by decide +kernel⟩ (by decide +kernel) rfl rfl (Or.inr ⟨_, rfl⟩) rfl rfl (by decide) dX12_init_92 rfl ?_
  refine v_aloadn (q := 96) C dX12_init_95 rfl rfl ?_
  refine v_bipush (q := 98) C dX12_init_96 rfl (by decide) ?_
  refine k_newarray (q := 100) (n' := 260) (len := 64) (a := 260) C ac_I rfl ⟨nb rfl, nb rfl⟩ (by decide +kernel) (by decide +kernel) rfl (nb rfl) (z_me_0 (by decide +kernel)) dX12_init_98 rfl ?_
  refine k_putF (q := 103) C hI rfl kl12 fl_X12_43 ⟨by decide +kernel, by decide +kernel⟩ (by decide +kernel) rfl rfl (Or.inr ⟨_, rfl⟩) rfl rfl (by decide) dX12_init_100 rfl ?_
  refine v_aloadn (q := 104) C dX12_init_103 rfl rfl ?_
  refine v_bipush (q := 106) C dX12_init_104 rfl (by decide) ?_
  refine k_newarray (q := 108) (n' := 261) (len := 64) (a := 261) C ac_I rfl ⟨nb rfl, nb rfl⟩ (by decide +kernel) (by decide +kernel) rfl (nb rfl) (z_me_0 (by decide +kernel)) dX12_init_106 rfl ?_
  refine k_putF (q := 111) C hI rfl kl12 fl_X12_46 ⟨by decide +kernel, by decide +kernel⟩ (by decide +kernel) rfl rfl (Or.inr ⟨_, rfl⟩) rfl rfl (by decide) dX12_init_108 rfl ?_
  refine v_aloadn (q := 112) C dX12_init_111 rfl rfl ?_
  refine v_bipush (q := 114) C dX12_init_112 rfl (by decide) ?_
  refine k_newarray (q := 116) (n' := 262) (len := 64) (a := 262) C ac_I rfl ⟨nb rfl, nb rfl⟩ (by decide +kernel) (by decide +kernel) rfl (nb rfl) (z_me_0 (by decide +kernel)) dX12_init_114 rfl ?_
  refine k_putF (q := 119) C hI rfl kl12 fl_X12_49 ⟨by decide +kernel, by decide +kernel⟩ (by decide +kernel) rfl rfl (Or.inr ⟨_, rfl⟩) rfl rfl (by decide) dX12_init_116 rfl ?_
  refine v_aloadn (q := 120) C dX12_init_119 rfl rfl ?_
  refine v_sipush (q := 123) C dX12_init_120 rfl (by decide) ?_
  refine k_newarray (q := 125) (n' := 263) (len := 16400) (a := 263) C ac_I rfl ⟨nb rfl, nb rfl⟩ (by decide +kernel) (by decide +kernel) rfl (nb rfl) (z_me_0 (by decide +kernel)) dX12_init_123 rfl ?_
  refine k_putF (q := 128) C hI rfl kl12 fl_X12_52 ⟨by decide +kernel, by decide +kernel⟩ (by decide +kernel) rfl rfl (Or.inr ⟨_, rfl⟩) rfl rfl (by decide) dX12_init_125 rfl ?_
  refine v_aloadn (q := 129) C dX12_init_128 rfl rfl ?_
  refine v_sipush (q := 132) C dX12_init_129 rfl (by decide) ?_
  refine k_newarray (q := 134) (n' := 264) (len := 440) (a := 264) C ac_I rfl ⟨nb rfl, nb rfl⟩ (by decide +kernel) (by decide +kernel) rfl (nb rfl) (z_me_0 (by decide +kernel)) dX12_init_132 rfl ?_
  refine k_putF (q := 137) C hI rfl kl12 fl_X12_55 ⟨by decide +kernel, by decide +kernel⟩ (by decide +kernel) rfl rfl (Or.inr ⟨_, rfl⟩) rfl rfl (by decide) dX12_init_134 rfl ?_
  refine v_aloadn (q := 138) C dX12_init_137 rfl rfl ?_
  refine v_bipush (q := 140) C dX12_init_138 rfl (by decide) ?_
  refine k_newarray (q := 142) (n' := 265) (len := 64) (a := 265) C ac_I rfl ⟨nb rfl, nb rfl⟩ (by decide +kernel) (by decide +kernel) rfl (nb rfl) (z_me_0 (by decide +kernel)) dX12_init_140 rfl ?_
  refine k_putF (q := 145) C hI rfl kl12 fl_X12_58 ⟨by decide +kernel, by decide +kernel⟩ (by decide +kernel) rfl rfl (Or.inr ⟨_, rfl⟩) rfl rfl (by decide) dX12_init_142 rfl ?_
  refine v_aloadn (q := 146) C dX12_init_145 rfl rfl ?_
  refine v_sipush (q := 149) C dX12_init_146 rfl (by decide) ?_
  refine k_newarray (q := 151) (n' := 266) (len := 1600) (a := 266) C ac_I rfl ⟨nb rfl, nb rfl⟩ (by decide +kernel) (by decide +kernel) rfl (nb rfl) (z_me_0 (by decide +kernel)) dX12_init_149 rfl ?_
  refine k_putF (q := 154) C hI rfl kl12 fl_X12_61 ⟨by decide +kernel, by decide +kernel⟩ (by decide +kernel) rfl rfl (Or.inr ⟨_, rfl⟩) rfl rfl (by decide) dX12_init_151 rfl ?_
  refine v_aloadn (q := 155) C dX12_init_154 rfl rfl ?_
  refine v_bipush (q := 157) C dX12_init_155 rfl (by decide) ?_
  refine k_newarray (q := 159) (n' := 267) (len := 40) (a := 267) C ac_I rfl ⟨nb rfl, nb rfl⟩ (by decide +kernel) (by decide +kernel) rfl (nb rfl) (z_me_0 (by decide +kernel)) dX12_init_157 rfl ?_
  refine k_putF (q := 162) C hI rfl kl12 fl_X12_64 ⟨by decide +kernel, by decide +kernel⟩ (by decide +kernel) rfl rfl (Or.inr ⟨_, rfl⟩) rfl rfl (by decide) dX12_init_159 rfl ?_
  refine v_aloadn (q := 163) C dX12_init_162 rfl rfl ?_
  refine v_iconst (q := 164) C dX12_init_163 rfl (by decide) ?_
  refine k_newarray (q := 166) (n' := 268) (len := 3) (a := 268) C ac_I rfl ⟨nb rfl, nb rfl⟩ (by decide +kernel) (by decide +kernel) rfl (nb rfl) (z_me_0 (by decide +kernel)) dX12_init_164 rfl ?_
  refine k_putF (q := 169) C hI rfl kl12 fl_X12_67 ⟨by decide +kernel, by decide +kernel⟩ (by decide +kernel) rfl rfl (Or.inr ⟨_, rfl⟩) rfl rfl (by decide) dX12_init_166 rfl ?_
  refine v_aloadn (q := 170) C dX12_init_169 rfl rfl ?_
  refine v_iconst (q := 171) C dX12_init_170 rfl (by decide) ?_
  refine k_newarray (q := 173) (n' := 269) (len := 3) (a := 269) C ac_I rfl ⟨nb rfl, nb rfl⟩ (by decide +kernel) (by decide +kernel) rfl (nb rfl) (z_me_0 (by decide +kernel)) dX12_init_171 rfl ?_
  refine k_putF (q := 176) C hI rfl kl12 fl_X12_70 ⟨by decide +kernel, by decide +kernel⟩ (by decide +kernel) rfl rfl (Or.inr ⟨_, rfl⟩) rfl rfl (by decide) dX12_init_173 rfl ?_
  refine v_aloadn (q := 177) C dX12_init_176 rfl rfl ?_
  refine v_bipush (q := 179) C dX12_init_177 rfl (by decide) ?_
  refine k_newarray (q := 181) (n' := 270) (len := 99) (a := 270) C ac_I rfl ⟨nb rfl, nb rfl⟩ (by decide +kernel) (by decide +kernel) rfl (nb rfl) (z_me_0 (by decide +kernel)) dX12_init_179 rfl ?_
  refine k_putF (q := 184) C hI rfl kl12 fl_X12_73 ⟨by decide +kernel, by decide +kernel⟩ (by decide +kernel) rfl rfl (Or.inr ⟨_, rfl⟩) rfl rfl (by decide) dX12_init_181 rfl ?_
  refine v_aloadn (q := 185) C dX12_init_184 rfl rfl ?_
  refine v_bipush (q := 187) C dX12_init_185 rfl (by decide) ?_
  refine k_newarray (q := 189) (n' := 271) (len := 99) (a := 271) C ac_I rfl ⟨nb rfl, nb rfl⟩ (by decide +kernel) (by decide +kernel) rfl (nb rfl) (z_me_0 (by decide +kernel)) dX12_init_187 rfl ?_
  refine k_putF (q := 192) C hI rfl kl12 fl_X12_76 ⟨by decide +kernel, by decide +kernel⟩ (by decide +kernel) rfl rfl (Or.inr ⟨_, rfl⟩) rfl rfl (by decide) dX12_init_189 rfl ?_
  refine v_aloadn (q := 193) C dX12_init_192 rfl rfl ?_
  refine v_bipush (q := 195) C dX12_init_193 rfl (by decide) ?_
  refine k_put (q := 198) C kl12 fl_X12_79 ⟨by decide +kernel, by decide +kernel⟩ (by decide +kernel) rfl rfl (Or.inl rfl) rfl dX12_init_195 rfl ?_
  refine v_aloadn (q := 199) C dX12_init_198 rfl rfl ?_
  refine v_iconst (q := 200) C dX12_init_199 rfl (by decide) ?_
  refine k_newarray (q := 202) (n' := 272) (len := 3) (a := 272) C ac_I rfl ⟨nb rfl, nb rfl⟩ (by decide +kernel) (by decide +kernel) rfl (nb rfl) (z_me_0 (by decide +kernel)) dX12_init_200 rfl ?_
  refine k_putF (q := 205) C hI rfl kl12 fl_X12_83 ⟨by decide +kernel, by decide +kernel⟩ (by decide +kernel) rfl rfl (Or.inr ⟨_, rfl⟩) rfl rfl (by decide) dX12_init_202 rfl ?_
  refine v_aloadn (q := 206) C dX12_init_205 rfl rfl ?_
  refine v_iconst (q := 207) C dX12_init_206 rfl (by decide) ?_
  refine k_newarray (q := 209) (n' := 273) (len := 3) (a := 273) C ac_I rfl ⟨nb rfl, nb rfl⟩ (by decide +kernel) (by decide +kernel) rfl (nb rfl) (z_me_0 (by decide +kernel)) dX12_init_207 rfl ?_
  refine k_putF (q := 212) C hI rfl kl12 fl_X12_86 ⟨by decide +kernel, by decide +kernel⟩ (by decide +kernel) rfl rfl (Or.inr ⟨_, rfl⟩) rfl rfl (by decide) dX12_init_209 rfl ?_
  refine v_aloadn (q := 213) C dX12_init_212 rfl rfl ?_
  refine v_iconst (q := 214) C dX12_init_213 rfl (by decide) ?_
  refine k_newarray (q := 216) (n' := 274) (len := 3) (a := 274) C ac_I rfl ⟨nb rfl, nb rfl⟩ (by decide +kernel) (by decide +kernel) rfl (nb rfl) (z_me_0 (by decide +kernel)) dX12_init_214 rfl ?_
  refine k_putF (q := 219) C hI rfl kl12 fl_X12_89 ⟨by decide +kernel, by decide +kernel⟩ (by decide +kernel) rfl rfl (Or.inr ⟨_, rfl⟩) rfl rfl (by decide) dX12_init_216 rfl ?_
  exact k_vret hR dX12_init_219
