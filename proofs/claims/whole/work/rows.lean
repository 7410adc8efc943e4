section
-- ===== PART A: goes FIRST, ahead of the names: the tables' words, and 'selects' of the private methods out of them =====
/-- a private method of a class that the tables say can be made, by its rows of tables_1 -/
def lw_okq (q : MethodName × Nat) : Prop := (q.1.cls ≠ "java/lang/invoke/MethodHandle" ∧ q.1.cls ≠ "java/lang/invoke/VarHandle") ∧ Cond.instantiable q.1.cls q.2 ∈ tables_1 ∧ Cond.privateMethod q.1 ∈ tables_1 ∧ Cond.instanceMethod q.1 ∈ tables_1
theorem lw_p0 : lw_okq (⟨"SteeredClaims$Reader", "pass", "(I)Z"⟩, 10) := ⟨⟨by decide +kernel, by decide +kernel⟩, List.mem_of_getElem? (i := 98) (by decide +kernel), List.mem_of_getElem? (i := 440) (by decide +kernel), List.mem_of_getElem? (i := 441) (by decide +kernel)⟩
theorem lw_p1 : lw_okq (⟨"SteeredClaims$Reader", "readTerm", "(LSteeredClaims$Term;I)Z"⟩, 10) := ⟨⟨by decide +kernel, by decide +kernel⟩, List.mem_of_getElem? (i := 98) (by decide +kernel), List.mem_of_getElem? (i := 444) (by decide +kernel), List.mem_of_getElem? (i := 445) (by decide +kernel)⟩
theorem lw_p2 : lw_okq (⟨"SteeredClaims$Reader", "argumentsOf", "(I)I"⟩, 10) := ⟨⟨by decide +kernel, by decide +kernel⟩, List.mem_of_getElem? (i := 98) (by decide +kernel), List.mem_of_getElem? (i := 452) (by decide +kernel), List.mem_of_getElem? (i := 453) (by decide +kernel)⟩
theorem lw_p3 : lw_okq (⟨"SteeredClaims$Reader", "isOwn", "(I)Z"⟩, 10) := ⟨⟨by decide +kernel, by decide +kernel⟩, List.mem_of_getElem? (i := 98) (by decide +kernel), List.mem_of_getElem? (i := 456) (by decide +kernel), List.mem_of_getElem? (i := 457) (by decide +kernel)⟩
theorem lw_p4 : lw_okq (⟨"SteeredClaims$Evaluator", "call", "(I)Z"⟩, 10) := ⟨⟨by decide +kernel, by decide +kernel⟩, List.mem_of_getElem? (i := 140) (by decide +kernel), List.mem_of_getElem? (i := 537) (by decide +kernel), List.mem_of_getElem? (i := 538) (by decide +kernel)⟩
theorem lw_p5 : lw_okq (⟨"SteeredClaims$Evaluator", "take", "(II)Z"⟩, 10) := ⟨⟨by decide +kernel, by decide +kernel⟩, List.mem_of_getElem? (i := 140) (by decide +kernel), List.mem_of_getElem? (i := 544) (by decide +kernel), List.mem_of_getElem? (i := 545) (by decide +kernel)⟩
theorem lw_p6 : lw_okq (⟨"SteeredClaims$Normalizer", "make", "(III)I"⟩, 15) := ⟨⟨by decide +kernel, by decide +kernel⟩, List.mem_of_getElem? (i := 180) (by decide +kernel), List.mem_of_getElem? (i := 585) (by decide +kernel), List.mem_of_getElem? (i := 586) (by decide +kernel)⟩
theorem lw_p7 : lw_okq (⟨"SteeredClaims$Normalizer", "run", "(LSteeredClaims$Term;)Z"⟩, 15) := ⟨⟨by decide +kernel, by decide +kernel⟩, List.mem_of_getElem? (i := 180) (by decide +kernel), List.mem_of_getElem? (i := 589) (by decide +kernel), List.mem_of_getElem? (i := 590) (by decide +kernel)⟩
theorem lw_p8 : lw_okq (⟨"SteeredClaims$Normalizer", "apply", "(I)Z"⟩, 15) := ⟨⟨by decide +kernel, by decide +kernel⟩, List.mem_of_getElem? (i := 180) (by decide +kernel), List.mem_of_getElem? (i := 594) (by decide +kernel), List.mem_of_getElem? (i := 595) (by decide +kernel)⟩
theorem lw_p9 : lw_okq (⟨"SteeredClaims$Normalizer", "bodyFor", "(II)I"⟩, 15) := ⟨⟨by decide +kernel, by decide +kernel⟩, List.mem_of_getElem? (i := 180) (by decide +kernel), List.mem_of_getElem? (i := 598) (by decide +kernel), List.mem_of_getElem? (i := 599) (by decide +kernel)⟩
theorem lw_p10 : lw_okq (⟨"SteeredClaims$Normalizer", "push", "(I)Z"⟩, 15) := ⟨⟨by decide +kernel, by decide +kernel⟩, List.mem_of_getElem? (i := 180) (by decide +kernel), List.mem_of_getElem? (i := 602) (by decide +kernel), List.mem_of_getElem? (i := 603) (by decide +kernel)⟩
theorem lw_p11 : lw_okq (⟨"SteeredClaims$Normalizer", "take", "(I)Z"⟩, 15) := ⟨⟨by decide +kernel, by decide +kernel⟩, List.mem_of_getElem? (i := 180) (by decide +kernel), List.mem_of_getElem? (i := 607) (by decide +kernel), List.mem_of_getElem? (i := 608) (by decide +kernel)⟩
theorem lw_p12 : lw_okq (⟨"SteeredClaims$Normalizer", "write", "(LSteeredClaims$Term;)V"⟩, 15) := ⟨⟨by decide +kernel, by decide +kernel⟩, List.mem_of_getElem? (i := 180) (by decide +kernel), List.mem_of_getElem? (i := 611) (by decide +kernel), List.mem_of_getElem? (i := 612) (by decide +kernel)⟩
theorem lw_p13 : lw_okq (⟨"SteeredClaims$Embedding", "findDepths", "(LSteeredClaims$Term;)V"⟩, 2) := ⟨⟨by decide +kernel, by decide +kernel⟩, List.mem_of_getElem? (i := 233) (by decide +kernel), List.mem_of_getElem? (i := 654) (by decide +kernel), List.mem_of_getElem? (i := 655) (by decide +kernel)⟩
theorem lw_p14 : lw_okq (⟨"SteeredClaims$Embedding", "smallestAt", "(LSteeredClaims$Term;ILSteeredClaims$Term;I)I"⟩, 2) := ⟨⟨by decide +kernel, by decide +kernel⟩, List.mem_of_getElem? (i := 233) (by decide +kernel), List.mem_of_getElem? (i := 658) (by decide +kernel), List.mem_of_getElem? (i := 659) (by decide +kernel)⟩
theorem lw_p15 : lw_okq (⟨"SteeredClaims$Lemmas", "rewrites", "(LSteeredClaims$Term;ILSteeredClaims$Claim;I)Z"⟩, 5) := ⟨⟨by decide +kernel, by decide +kernel⟩, List.mem_of_getElem? (i := 259) (by decide +kernel), List.mem_of_getElem? (i := 675) (by decide +kernel), List.mem_of_getElem? (i := 676) (by decide +kernel)⟩
def lw_privs_1 : List (MethodName × Nat) := [(⟨"SteeredClaims$Reader", "pass", "(I)Z"⟩, 10), (⟨"SteeredClaims$Reader", "readTerm", "(LSteeredClaims$Term;I)Z"⟩, 10), (⟨"SteeredClaims$Reader", "argumentsOf", "(I)I"⟩, 10), (⟨"SteeredClaims$Reader", "isOwn", "(I)Z"⟩, 10), (⟨"SteeredClaims$Evaluator", "call", "(I)Z"⟩, 10), (⟨"SteeredClaims$Evaluator", "take", "(II)Z"⟩, 10), (⟨"SteeredClaims$Normalizer", "make", "(III)I"⟩, 15), (⟨"SteeredClaims$Normalizer", "run", "(LSteeredClaims$Term;)Z"⟩, 15), (⟨"SteeredClaims$Normalizer", "apply", "(I)Z"⟩, 15), (⟨"SteeredClaims$Normalizer", "bodyFor", "(II)I"⟩, 15), (⟨"SteeredClaims$Normalizer", "push", "(I)Z"⟩, 15), (⟨"SteeredClaims$Normalizer", "take", "(I)Z"⟩, 15), (⟨"SteeredClaims$Normalizer", "write", "(LSteeredClaims$Term;)V"⟩, 15), (⟨"SteeredClaims$Embedding", "findDepths", "(LSteeredClaims$Term;)V"⟩, 2), (⟨"SteeredClaims$Embedding", "smallestAt", "(LSteeredClaims$Term;ILSteeredClaims$Term;I)I"⟩, 2), (⟨"SteeredClaims$Lemmas", "rewrites", "(LSteeredClaims$Term;ILSteeredClaims$Claim;I)Z"⟩, 5)]
theorem lw_r1 : ∀ q ∈ lw_privs_1, lw_okq q := List.forall_mem_cons.mpr ⟨lw_p0, List.forall_mem_cons.mpr ⟨lw_p1, List.forall_mem_cons.mpr ⟨lw_p2, List.forall_mem_cons.mpr ⟨lw_p3, List.forall_mem_cons.mpr ⟨lw_p4, List.forall_mem_cons.mpr ⟨lw_p5, List.forall_mem_cons.mpr ⟨lw_p6, List.forall_mem_cons.mpr ⟨lw_p7, List.forall_mem_cons.mpr ⟨lw_p8, List.forall_mem_cons.mpr ⟨lw_p9, List.forall_mem_cons.mpr ⟨lw_p10, List.forall_mem_cons.mpr ⟨lw_p11, List.forall_mem_cons.mpr ⟨lw_p12, List.forall_mem_cons.mpr ⟨lw_p13, List.forall_mem_cons.mpr ⟨lw_p14, List.forall_mem_cons.mpr ⟨lw_p15, fun _ h => absurd h List.not_mem_nil⟩⟩⟩⟩⟩⟩⟩⟩⟩⟩⟩⟩⟩⟩⟩⟩
theorem lw_p16 : lw_okq (⟨"SteeredClaims$Claim", "putVariable", "(LSteeredClaims$Term;IILSteeredClaims$Term;)V"⟩, 2) := ⟨⟨by decide +kernel, by decide +kernel⟩, List.mem_of_getElem? (i := 268) (by decide +kernel), List.mem_of_getElem? (i := 738) (by decide +kernel), List.mem_of_getElem? (i := 739) (by decide +kernel)⟩
theorem lw_p17 : lw_okq (⟨"SteeredClaims$Prover", "attempt", "(I)I"⟩, 10) := ⟨⟨by decide +kernel, by decide +kernel⟩, List.mem_of_getElem? (i := 334) (by decide +kernel), List.mem_of_getElem? (i := 751) (by decide +kernel), List.mem_of_getElem? (i := 752) (by decide +kernel)⟩
theorem lw_p18 : lw_okq (⟨"SteeredClaims$Prover", "fail", "(II)I"⟩, 10) := ⟨⟨by decide +kernel, by decide +kernel⟩, List.mem_of_getElem? (i := 334) (by decide +kernel), List.mem_of_getElem? (i := 760) (by decide +kernel), List.mem_of_getElem? (i := 761) (by decide +kernel)⟩
theorem lw_p19 : lw_okq (⟨"SteeredClaims$Prover", "normalize", "(LSteeredClaims$Claim;LSteeredClaims$Claim;IIZ)Z"⟩, 10) := ⟨⟨by decide +kernel, by decide +kernel⟩, List.mem_of_getElem? (i := 334) (by decide +kernel), List.mem_of_getElem? (i := 769) (by decide +kernel), List.mem_of_getElem? (i := 770) (by decide +kernel)⟩
theorem lw_p20 : lw_okq (⟨"SteeredClaims$Prover", "succeed", "(I)I"⟩, 10) := ⟨⟨by decide +kernel, by decide +kernel⟩, List.mem_of_getElem? (i := 334) (by decide +kernel), List.mem_of_getElem? (i := 782) (by decide +kernel), List.mem_of_getElem? (i := 783) (by decide +kernel)⟩
theorem lw_p21 : lw_okq (⟨"SteeredClaims$Prover", "proveCase", "(IIII)I"⟩, 10) := ⟨⟨by decide +kernel, by decide +kernel⟩, List.mem_of_getElem? (i := 334) (by decide +kernel), List.mem_of_getElem? (i := 798) (by decide +kernel), List.mem_of_getElem? (i := 799) (by decide +kernel)⟩
theorem lw_p22 : lw_okq (⟨"SteeredClaims$Prover", "ripple", "(LSteeredClaims$Term;LSteeredClaims$Term;I)V"⟩, 10) := ⟨⟨by decide +kernel, by decide +kernel⟩, List.mem_of_getElem? (i := 334) (by decide +kernel), List.mem_of_getElem? (i := 802) (by decide +kernel), List.mem_of_getElem? (i := 803) (by decide +kernel)⟩
theorem lw_p23 : lw_okq (⟨"SteeredClaims$Prover", "useClaim", "(LSteeredClaims$Claim;LSteeredClaims$Claim;I)Z"⟩, 10) := ⟨⟨by decide +kernel, by decide +kernel⟩, List.mem_of_getElem? (i := 334) (by decide +kernel), List.mem_of_getElem? (i := 807) (by decide +kernel), List.mem_of_getElem? (i := 808) (by decide +kernel)⟩
theorem lw_p24 : lw_okq (⟨"SteeredClaims$Prover", "guess", "(LSteeredClaims$Claim;LSteeredClaims$Claim;)I"⟩, 10) := ⟨⟨by decide +kernel, by decide +kernel⟩, List.mem_of_getElem? (i := 334) (by decide +kernel), List.mem_of_getElem? (i := 819) (by decide +kernel), List.mem_of_getElem? (i := 820) (by decide +kernel)⟩
theorem lw_p25 : lw_okq (⟨"SteeredClaimsModel", "readsFunction", "(II)Z"⟩, 50) := ⟨⟨by decide +kernel, by decide +kernel⟩, List.mem_of_getElem? (i := 855) (by decide +kernel), List.mem_of_getElem? (i := 1027) (by decide +kernel), List.mem_of_getElem? (i := 1028) (by decide +kernel)⟩
theorem lw_p26 : lw_okq (⟨"SteeredClaimsModel", "readsTerm", "(IZZZIZ)Z"⟩, 50) := ⟨⟨by decide +kernel, by decide +kernel⟩, List.mem_of_getElem? (i := 855) (by decide +kernel), List.mem_of_getElem? (i := 1031) (by decide +kernel), List.mem_of_getElem? (i := 1032) (by decide +kernel)⟩
theorem lw_p27 : lw_okq (⟨"SteeredClaimsModel", "partsOf", "(IZZZIZ)I"⟩, 50) := ⟨⟨by decide +kernel, by decide +kernel⟩, List.mem_of_getElem? (i := 855) (by decide +kernel), List.mem_of_getElem? (i := 1035) (by decide +kernel), List.mem_of_getElem? (i := 1036) (by decide +kernel)⟩
theorem lw_p28 : lw_okq (⟨"SteeredClaimsModel", "reads", "(I)Z"⟩, 50) := ⟨⟨by decide +kernel, by decide +kernel⟩, List.mem_of_getElem? (i := 855) (by decide +kernel), List.mem_of_getElem? (i := 1042) (by decide +kernel), List.mem_of_getElem? (i := 1043) (by decide +kernel)⟩
theorem lw_p29 : lw_okq (⟨"SteeredClaimsModel", "keepsBody", "(II)V"⟩, 50) := ⟨⟨by decide +kernel, by decide +kernel⟩, List.mem_of_getElem? (i := 855) (by decide +kernel), List.mem_of_getElem? (i := 1046) (by decide +kernel), List.mem_of_getElem? (i := 1047) (by decide +kernel)⟩
theorem lw_p30 : lw_okq (⟨"SteeredClaimsModel", "isFunction", "(I)Z"⟩, 50) := ⟨⟨by decide +kernel, by decide +kernel⟩, List.mem_of_getElem? (i := 855) (by decide +kernel), List.mem_of_getElem? (i := 1054) (by decide +kernel), List.mem_of_getElem? (i := 1055) (by decide +kernel)⟩
theorem lw_p31 : lw_okq (⟨"SteeredClaimsModel", "bodyLong", "(II)I"⟩, 50) := ⟨⟨by decide +kernel, by decide +kernel⟩, List.mem_of_getElem? (i := 855) (by decide +kernel), List.mem_of_getElem? (i := 1058) (by decide +kernel), List.mem_of_getElem? (i := 1059) (by decide +kernel)⟩
def lw_privs_2 : List (MethodName × Nat) := [(⟨"SteeredClaims$Claim", "putVariable", "(LSteeredClaims$Term;IILSteeredClaims$Term;)V"⟩, 2), (⟨"SteeredClaims$Prover", "attempt", "(I)I"⟩, 10), (⟨"SteeredClaims$Prover", "fail", "(II)I"⟩, 10), (⟨"SteeredClaims$Prover", "normalize", "(LSteeredClaims$Claim;LSteeredClaims$Claim;IIZ)Z"⟩, 10), (⟨"SteeredClaims$Prover", "succeed", "(I)I"⟩, 10), (⟨"SteeredClaims$Prover", "proveCase", "(IIII)I"⟩, 10), (⟨"SteeredClaims$Prover", "ripple", "(LSteeredClaims$Term;LSteeredClaims$Term;I)V"⟩, 10), (⟨"SteeredClaims$Prover", "useClaim", "(LSteeredClaims$Claim;LSteeredClaims$Claim;I)Z"⟩, 10), (⟨"SteeredClaims$Prover", "guess", "(LSteeredClaims$Claim;LSteeredClaims$Claim;)I"⟩, 10), (⟨"SteeredClaimsModel", "readsFunction", "(II)Z"⟩, 50), (⟨"SteeredClaimsModel", "readsTerm", "(IZZZIZ)Z"⟩, 50), (⟨"SteeredClaimsModel", "partsOf", "(IZZZIZ)I"⟩, 50), (⟨"SteeredClaimsModel", "reads", "(I)Z"⟩, 50), (⟨"SteeredClaimsModel", "keepsBody", "(II)V"⟩, 50), (⟨"SteeredClaimsModel", "isFunction", "(I)Z"⟩, 50), (⟨"SteeredClaimsModel", "bodyLong", "(II)I"⟩, 50)]
theorem lw_r2 : ∀ q ∈ lw_privs_2, lw_okq q := List.forall_mem_cons.mpr ⟨lw_p16, List.forall_mem_cons.mpr ⟨lw_p17, List.forall_mem_cons.mpr ⟨lw_p18, List.forall_mem_cons.mpr ⟨lw_p19, List.forall_mem_cons.mpr ⟨lw_p20, List.forall_mem_cons.mpr ⟨lw_p21, List.forall_mem_cons.mpr ⟨lw_p22, List.forall_mem_cons.mpr ⟨lw_p23, List.forall_mem_cons.mpr ⟨lw_p24, List.forall_mem_cons.mpr ⟨lw_p25, List.forall_mem_cons.mpr ⟨lw_p26, List.forall_mem_cons.mpr ⟨lw_p27, List.forall_mem_cons.mpr ⟨lw_p28, List.forall_mem_cons.mpr ⟨lw_p29, List.forall_mem_cons.mpr ⟨lw_p30, List.forall_mem_cons.mpr ⟨lw_p31, fun _ h => absurd h List.not_mem_nil⟩⟩⟩⟩⟩⟩⟩⟩⟩⟩⟩⟩⟩⟩⟩⟩
theorem lw_p32 : lw_okq (⟨"SteeredClaimsModel", "readsClaim", "()Z"⟩, 50) := ⟨⟨by decide +kernel, by decide +kernel⟩, List.mem_of_getElem? (i := 855) (by decide +kernel), List.mem_of_getElem? (i := 1070) (by decide +kernel), List.mem_of_getElem? (i := 1071) (by decide +kernel)⟩
theorem lw_p33 : lw_okq (⟨"SteeredClaimsModel", "keepsSide", "(I)V"⟩, 50) := ⟨⟨by decide +kernel, by decide +kernel⟩, List.mem_of_getElem? (i := 855) (by decide +kernel), List.mem_of_getElem? (i := 1074) (by decide +kernel), List.mem_of_getElem? (i := 1075) (by decide +kernel)⟩
theorem lw_p34 : lw_okq (⟨"SteeredClaimsModel", "puts", "(II)V"⟩, 50) := ⟨⟨by decide +kernel, by decide +kernel⟩, List.mem_of_getElem? (i := 855) (by decide +kernel), List.mem_of_getElem? (i := 1078) (by decide +kernel), List.mem_of_getElem? (i := 1079) (by decide +kernel)⟩
theorem lw_p35 : lw_okq (⟨"SteeredClaimsModel", "copies", "(II)V"⟩, 50) := ⟨⟨by decide +kernel, by decide +kernel⟩, List.mem_of_getElem? (i := 855) (by decide +kernel), List.mem_of_getElem? (i := 1082) (by decide +kernel), List.mem_of_getElem? (i := 1083) (by decide +kernel)⟩
theorem lw_p36 : lw_okq (⟨"SteeredClaimsModel", "at", "(II)I"⟩, 50) := ⟨⟨by decide +kernel, by decide +kernel⟩, List.mem_of_getElem? (i := 855) (by decide +kernel), List.mem_of_getElem? (i := 1086) (by decide +kernel), List.mem_of_getElem? (i := 1087) (by decide +kernel)⟩
theorem lw_p37 : lw_okq (⟨"SteeredClaimsModel", "told", "(II)I"⟩, 50) := ⟨⟨by decide +kernel, by decide +kernel⟩, List.mem_of_getElem? (i := 855) (by decide +kernel), List.mem_of_getElem? (i := 1094) (by decide +kernel), List.mem_of_getElem? (i := 1095) (by decide +kernel)⟩
theorem lw_p38 : lw_okq (⟨"SteeredClaimsModel", "calls", "(III)Z"⟩, 50) := ⟨⟨by decide +kernel, by decide +kernel⟩, List.mem_of_getElem? (i := 855) (by decide +kernel), List.mem_of_getElem? (i := 1106) (by decide +kernel), List.mem_of_getElem? (i := 1107) (by decide +kernel)⟩
theorem lw_p39 : lw_okq (⟨"SteeredClaimsModel", "enters", "(IIIII)V"⟩, 50) := ⟨⟨by decide +kernel, by decide +kernel⟩, List.mem_of_getElem? (i := 855) (by decide +kernel), List.mem_of_getElem? (i := 1110) (by decide +kernel), List.mem_of_getElem? (i := 1111) (by decide +kernel)⟩
theorem lw_p40 : lw_okq (⟨"SteeredClaimsModel", "works", "()I"⟩, 50) := ⟨⟨by decide +kernel, by decide +kernel⟩, List.mem_of_getElem? (i := 855) (by decide +kernel), List.mem_of_getElem? (i := 1114) (by decide +kernel), List.mem_of_getElem? (i := 1115) (by decide +kernel)⟩
theorem lw_p41 : lw_okq (⟨"SteeredClaimsModel", "signOf", "(II)I"⟩, 50) := ⟨⟨by decide +kernel, by decide +kernel⟩, List.mem_of_getElem? (i := 855) (by decide +kernel), List.mem_of_getElem? (i := 1118) (by decide +kernel), List.mem_of_getElem? (i := 1119) (by decide +kernel)⟩
theorem lw_p42 : lw_okq (⟨"SteeredClaimsModel", "takesSign", "(II)Z"⟩, 50) := ⟨⟨by decide +kernel, by decide +kernel⟩, List.mem_of_getElem? (i := 855) (by decide +kernel), List.mem_of_getElem? (i := 1122) (by decide +kernel), List.mem_of_getElem? (i := 1123) (by decide +kernel)⟩
theorem lw_p43 : lw_okq (⟨"SteeredClaimsModel", "holdsBy", "(IIIII)I"⟩, 50) := ⟨⟨by decide +kernel, by decide +kernel⟩, List.mem_of_getElem? (i := 855) (by decide +kernel), List.mem_of_getElem? (i := 1130) (by decide +kernel), List.mem_of_getElem? (i := 1131) (by decide +kernel)⟩
theorem lw_p44 : lw_okq (⟨"SteeredClaimsModel", "valueOf", "(IIII)I"⟩, 50) := ⟨⟨by decide +kernel, by decide +kernel⟩, List.mem_of_getElem? (i := 855) (by decide +kernel), List.mem_of_getElem? (i := 1134) (by decide +kernel), List.mem_of_getElem? (i := 1135) (by decide +kernel)⟩
theorem lw_p45 : lw_okq (⟨"SteeredClaimsModel", "counterexample", "(II)I"⟩, 50) := ⟨⟨by decide +kernel, by decide +kernel⟩, List.mem_of_getElem? (i := 855) (by decide +kernel), List.mem_of_getElem? (i := 1142) (by decide +kernel), List.mem_of_getElem? (i := 1143) (by decide +kernel)⟩
theorem lw_p46 : lw_okq (⟨"SteeredClaimsModel", "upTo", "(III)I"⟩, 50) := ⟨⟨by decide +kernel, by decide +kernel⟩, List.mem_of_getElem? (i := 855) (by decide +kernel), List.mem_of_getElem? (i := 1146) (by decide +kernel), List.mem_of_getElem? (i := 1147) (by decide +kernel)⟩
theorem lw_p47 : lw_okq (⟨"SteeredClaimsModel", "hasSign", "(II)Z"⟩, 50) := ⟨⟨by decide +kernel, by decide +kernel⟩, List.mem_of_getElem? (i := 855) (by decide +kernel), List.mem_of_getElem? (i := 1150) (by decide +kernel), List.mem_of_getElem? (i := 1151) (by decide +kernel)⟩
def lw_privs_3 : List (MethodName × Nat) := [(⟨"SteeredClaimsModel", "readsClaim", "()Z"⟩, 50), (⟨"SteeredClaimsModel", "keepsSide", "(I)V"⟩, 50), (⟨"SteeredClaimsModel", "puts", "(II)V"⟩, 50), (⟨"SteeredClaimsModel", "copies", "(II)V"⟩, 50), (⟨"SteeredClaimsModel", "at", "(II)I"⟩, 50), (⟨"SteeredClaimsModel", "told", "(II)I"⟩, 50), (⟨"SteeredClaimsModel", "calls", "(III)Z"⟩, 50), (⟨"SteeredClaimsModel", "enters", "(IIIII)V"⟩, 50), (⟨"SteeredClaimsModel", "works", "()I"⟩, 50), (⟨"SteeredClaimsModel", "signOf", "(II)I"⟩, 50), (⟨"SteeredClaimsModel", "takesSign", "(II)Z"⟩, 50), (⟨"SteeredClaimsModel", "holdsBy", "(IIIII)I"⟩, 50), (⟨"SteeredClaimsModel", "valueOf", "(IIII)I"⟩, 50), (⟨"SteeredClaimsModel", "counterexample", "(II)I"⟩, 50), (⟨"SteeredClaimsModel", "upTo", "(III)I"⟩, 50), (⟨"SteeredClaimsModel", "hasSign", "(II)Z"⟩, 50)]
theorem lw_r3 : ∀ q ∈ lw_privs_3, lw_okq q := List.forall_mem_cons.mpr ⟨lw_p32, List.forall_mem_cons.mpr ⟨lw_p33, List.forall_mem_cons.mpr ⟨lw_p34, List.forall_mem_cons.mpr ⟨lw_p35, List.forall_mem_cons.mpr ⟨lw_p36, List.forall_mem_cons.mpr ⟨lw_p37, List.forall_mem_cons.mpr ⟨lw_p38, List.forall_mem_cons.mpr ⟨lw_p39, List.forall_mem_cons.mpr ⟨lw_p40, List.forall_mem_cons.mpr ⟨lw_p41, List.forall_mem_cons.mpr ⟨lw_p42, List.forall_mem_cons.mpr ⟨lw_p43, List.forall_mem_cons.mpr ⟨lw_p44, List.forall_mem_cons.mpr ⟨lw_p45, List.forall_mem_cons.mpr ⟨lw_p46, List.forall_mem_cons.mpr ⟨lw_p47, fun _ h => absurd h List.not_mem_nil⟩⟩⟩⟩⟩⟩⟩⟩⟩⟩⟩⟩⟩⟩⟩⟩
theorem lw_p48 : lw_okq (⟨"SteeredClaimsModel", "makesNormal", "(II)Z"⟩, 50) := ⟨⟨by decide +kernel, by decide +kernel⟩, List.mem_of_getElem? (i := 855) (by decide +kernel), List.mem_of_getElem? (i := 1158) (by decide +kernel), List.mem_of_getElem? (i := 1159) (by decide +kernel)⟩
theorem lw_p49 : lw_okq (⟨"SteeredClaimsModel", "falls", "(I)V"⟩, 50) := ⟨⟨by decide +kernel, by decide +kernel⟩, List.mem_of_getElem? (i := 855) (by decide +kernel), List.mem_of_getElem? (i := 1162) (by decide +kernel), List.mem_of_getElem? (i := 1163) (by decide +kernel)⟩
theorem lw_p50 : lw_okq (⟨"SteeredClaimsModel", "longOf", "(I)I"⟩, 50) := ⟨⟨by decide +kernel, by decide +kernel⟩, List.mem_of_getElem? (i := 855) (by decide +kernel), List.mem_of_getElem? (i := 1166) (by decide +kernel), List.mem_of_getElem? (i := 1167) (by decide +kernel)⟩
theorem lw_p51 : lw_okq (⟨"SteeredClaimsModel", "normalizes", "(II)Z"⟩, 50) := ⟨⟨by decide +kernel, by decide +kernel⟩, List.mem_of_getElem? (i := 855) (by decide +kernel), List.mem_of_getElem? (i := 1170) (by decide +kernel), List.mem_of_getElem? (i := 1171) (by decide +kernel)⟩
theorem lw_p52 : lw_okq (⟨"SteeredClaimsModel", "pushes", "(II)V"⟩, 50) := ⟨⟨by decide +kernel, by decide +kernel⟩, List.mem_of_getElem? (i := 855) (by decide +kernel), List.mem_of_getElem? (i := 1174) (by decide +kernel), List.mem_of_getElem? (i := 1175) (by decide +kernel)⟩
theorem lw_p53 : lw_okq (⟨"SteeredClaimsModel", "pushesSign", "(I)V"⟩, 50) := ⟨⟨by decide +kernel, by decide +kernel⟩, List.mem_of_getElem? (i := 855) (by decide +kernel), List.mem_of_getElem? (i := 1178) (by decide +kernel), List.mem_of_getElem? (i := 1179) (by decide +kernel)⟩
theorem lw_p54 : lw_okq (⟨"SteeredClaimsModel", "joins", "(II)Z"⟩, 50) := ⟨⟨by decide +kernel, by decide +kernel⟩, List.mem_of_getElem? (i := 855) (by decide +kernel), List.mem_of_getElem? (i := 1182) (by decide +kernel), List.mem_of_getElem? (i := 1183) (by decide +kernel)⟩
theorem lw_p55 : lw_okq (⟨"SteeredClaimsModel", "bodyFor", "(I)I"⟩, 50) := ⟨⟨by decide +kernel, by decide +kernel⟩, List.mem_of_getElem? (i := 855) (by decide +kernel), List.mem_of_getElem? (i := 1186) (by decide +kernel), List.mem_of_getElem? (i := 1187) (by decide +kernel)⟩
theorem lw_p56 : lw_okq (⟨"SteeredClaimsModel", "findScheme", "(II)Z"⟩, 50) := ⟨⟨by decide +kernel, by decide +kernel⟩, List.mem_of_getElem? (i := 855) (by decide +kernel), List.mem_of_getElem? (i := 1194) (by decide +kernel), List.mem_of_getElem? (i := 1195) (by decide +kernel)⟩
theorem lw_p57 : lw_okq (⟨"SteeredClaimsModel", "callsIn", "(III)I"⟩, 50) := ⟨⟨by decide +kernel, by decide +kernel⟩, List.mem_of_getElem? (i := 855) (by decide +kernel), List.mem_of_getElem? (i := 1198) (by decide +kernel), List.mem_of_getElem? (i := 1199) (by decide +kernel)⟩
theorem lw_p58 : lw_okq (⟨"SteeredClaimsModel", "differenceOf", "(II)I"⟩, 50) := ⟨⟨by decide +kernel, by decide +kernel⟩, List.mem_of_getElem? (i := 855) (by decide +kernel), List.mem_of_getElem? (i := 1209) (by decide +kernel), List.mem_of_getElem? (i := 1210) (by decide +kernel)⟩
theorem lw_p59 : lw_okq (⟨"SteeredClaimsModel", "findDeep", "(I)V"⟩, 50) := ⟨⟨by decide +kernel, by decide +kernel⟩, List.mem_of_getElem? (i := 855) (by decide +kernel), List.mem_of_getElem? (i := 1213) (by decide +kernel), List.mem_of_getElem? (i := 1214) (by decide +kernel)⟩
theorem lw_p60 : lw_okq (⟨"SteeredClaimsModel", "end", "(II)I"⟩, 50) := ⟨⟨by decide +kernel, by decide +kernel⟩, List.mem_of_getElem? (i := 855) (by decide +kernel), List.mem_of_getElem? (i := 1217) (by decide +kernel), List.mem_of_getElem? (i := 1218) (by decide +kernel)⟩
theorem lw_p61 : lw_okq (⟨"SteeredClaimsModel", "arity", "(I)I"⟩, 50) := ⟨⟨by decide +kernel, by decide +kernel⟩, List.mem_of_getElem? (i := 855) (by decide +kernel), List.mem_of_getElem? (i := 1221) (by decide +kernel), List.mem_of_getElem? (i := 1222) (by decide +kernel)⟩
theorem lw_p62 : lw_okq (⟨"SteeredClaimsModel", "heldAt", "(IIII)I"⟩, 50) := ⟨⟨by decide +kernel, by decide +kernel⟩, List.mem_of_getElem? (i := 855) (by decide +kernel), List.mem_of_getElem? (i := 1225) (by decide +kernel), List.mem_of_getElem? (i := 1226) (by decide +kernel)⟩
theorem lw_p63 : lw_okq (⟨"SteeredClaimsModel", "atMost", "(I)I"⟩, 50) := ⟨⟨by decide +kernel, by decide +kernel⟩, List.mem_of_getElem? (i := 855) (by decide +kernel), List.mem_of_getElem? (i := 1230) (by decide +kernel), List.mem_of_getElem? (i := 1231) (by decide +kernel)⟩
def lw_privs_4 : List (MethodName × Nat) := [(⟨"SteeredClaimsModel", "makesNormal", "(II)Z"⟩, 50), (⟨"SteeredClaimsModel", "falls", "(I)V"⟩, 50), (⟨"SteeredClaimsModel", "longOf", "(I)I"⟩, 50), (⟨"SteeredClaimsModel", "normalizes", "(II)Z"⟩, 50), (⟨"SteeredClaimsModel", "pushes", "(II)V"⟩, 50), (⟨"SteeredClaimsModel", "pushesSign", "(I)V"⟩, 50), (⟨"SteeredClaimsModel", "joins", "(II)Z"⟩, 50), (⟨"SteeredClaimsModel", "bodyFor", "(I)I"⟩, 50), (⟨"SteeredClaimsModel", "findScheme", "(II)Z"⟩, 50), (⟨"SteeredClaimsModel", "callsIn", "(III)I"⟩, 50), (⟨"SteeredClaimsModel", "differenceOf", "(II)I"⟩, 50), (⟨"SteeredClaimsModel", "findDeep", "(I)V"⟩, 50), (⟨"SteeredClaimsModel", "end", "(II)I"⟩, 50), (⟨"SteeredClaimsModel", "arity", "(I)I"⟩, 50), (⟨"SteeredClaimsModel", "heldAt", "(IIII)I"⟩, 50), (⟨"SteeredClaimsModel", "atMost", "(I)I"⟩, 50)]
theorem lw_r4 : ∀ q ∈ lw_privs_4, lw_okq q := List.forall_mem_cons.mpr ⟨lw_p48, List.forall_mem_cons.mpr ⟨lw_p49, List.forall_mem_cons.mpr ⟨lw_p50, List.forall_mem_cons.mpr ⟨lw_p51, List.forall_mem_cons.mpr ⟨lw_p52, List.forall_mem_cons.mpr ⟨lw_p53, List.forall_mem_cons.mpr ⟨lw_p54, List.forall_mem_cons.mpr ⟨lw_p55, List.forall_mem_cons.mpr ⟨lw_p56, List.forall_mem_cons.mpr ⟨lw_p57, List.forall_mem_cons.mpr ⟨lw_p58, List.forall_mem_cons.mpr ⟨lw_p59, List.forall_mem_cons.mpr ⟨lw_p60, List.forall_mem_cons.mpr ⟨lw_p61, List.forall_mem_cons.mpr ⟨lw_p62, List.forall_mem_cons.mpr ⟨lw_p63, fun _ h => absurd h List.not_mem_nil⟩⟩⟩⟩⟩⟩⟩⟩⟩⟩⟩⟩⟩⟩⟩⟩
theorem lw_p64 : lw_okq (⟨"SteeredClaimsModel", "steers", "(III)V"⟩, 50) := ⟨⟨by decide +kernel, by decide +kernel⟩, List.mem_of_getElem? (i := 855) (by decide +kernel), List.mem_of_getElem? (i := 1238) (by decide +kernel), List.mem_of_getElem? (i := 1239) (by decide +kernel)⟩
theorem lw_p65 : lw_okq (⟨"SteeredClaimsModel", "steersOnce", "(III)Z"⟩, 50) := ⟨⟨by decide +kernel, by decide +kernel⟩, List.mem_of_getElem? (i := 855) (by decide +kernel), List.mem_of_getElem? (i := 1242) (by decide +kernel), List.mem_of_getElem? (i := 1243) (by decide +kernel)⟩
theorem lw_p66 : lw_okq (⟨"SteeredClaimsModel", "isPattern", "(II)Z"⟩, 50) := ⟨⟨by decide +kernel, by decide +kernel⟩, List.mem_of_getElem? (i := 855) (by decide +kernel), List.mem_of_getElem? (i := 1246) (by decide +kernel), List.mem_of_getElem? (i := 1247) (by decide +kernel)⟩
theorem lw_p67 : lw_okq (⟨"SteeredClaimsModel", "matches", "(IIII)Z"⟩, 50) := ⟨⟨by decide +kernel, by decide +kernel⟩, List.mem_of_getElem? (i := 855) (by decide +kernel), List.mem_of_getElem? (i := 1250) (by decide +kernel), List.mem_of_getElem? (i := 1251) (by decide +kernel)⟩
theorem lw_p68 : lw_okq (⟨"SteeredClaimsModel", "binds", "(III)Z"⟩, 50) := ⟨⟨by decide +kernel, by decide +kernel⟩, List.mem_of_getElem? (i := 855) (by decide +kernel), List.mem_of_getElem? (i := 1254) (by decide +kernel), List.mem_of_getElem? (i := 1255) (by decide +kernel)⟩
theorem lw_p69 : lw_okq (⟨"SteeredClaimsModel", "isSamePart", "(IIIII)Z"⟩, 50) := ⟨⟨by decide +kernel, by decide +kernel⟩, List.mem_of_getElem? (i := 855) (by decide +kernel), List.mem_of_getElem? (i := 1258) (by decide +kernel), List.mem_of_getElem? (i := 1259) (by decide +kernel)⟩
theorem lw_p70 : lw_okq (⟨"SteeredClaimsModel", "replaces", "(III)Z"⟩, 50) := ⟨⟨by decide +kernel, by decide +kernel⟩, List.mem_of_getElem? (i := 855) (by decide +kernel), List.mem_of_getElem? (i := 1262) (by decide +kernel), List.mem_of_getElem? (i := 1263) (by decide +kernel)⟩
theorem lw_p71 : lw_okq (⟨"SteeredClaimsModel", "longWith", "(I)I"⟩, 50) := ⟨⟨by decide +kernel, by decide +kernel⟩, List.mem_of_getElem? (i := 855) (by decide +kernel), List.mem_of_getElem? (i := 1266) (by decide +kernel), List.mem_of_getElem? (i := 1267) (by decide +kernel)⟩
theorem lw_p72 : lw_okq (⟨"SteeredClaimsModel", "notesIt", "(II)V"⟩, 50) := ⟨⟨by decide +kernel, by decide +kernel⟩, List.mem_of_getElem? (i := 855) (by decide +kernel), List.mem_of_getElem? (i := 1270) (by decide +kernel), List.mem_of_getElem? (i := 1271) (by decide +kernel)⟩
theorem lw_p73 : lw_okq (⟨"SteeredClaimsModel", "findCommon", "(II)Z"⟩, 50) := ⟨⟨by decide +kernel, by decide +kernel⟩, List.mem_of_getElem? (i := 855) (by decide +kernel), List.mem_of_getElem? (i := 1278) (by decide +kernel), List.mem_of_getElem? (i := 1279) (by decide +kernel)⟩
theorem lw_p74 : lw_okq (⟨"SteeredClaimsModel", "isPartOf", "(IIII)Z"⟩, 50) := ⟨⟨by decide +kernel, by decide +kernel⟩, List.mem_of_getElem? (i := 855) (by decide +kernel), List.mem_of_getElem? (i := 1282) (by decide +kernel), List.mem_of_getElem? (i := 1283) (by decide +kernel)⟩
theorem lw_p75 : lw_okq (⟨"SteeredClaimsModel", "makesGeneral", "(II)I"⟩, 50) := ⟨⟨by decide +kernel, by decide +kernel⟩, List.mem_of_getElem? (i := 855) (by decide +kernel), List.mem_of_getElem? (i := 1290) (by decide +kernel), List.mem_of_getElem? (i := 1291) (by decide +kernel)⟩
theorem lw_p76 : lw_okq (⟨"SteeredClaimsModel", "generalizes", "(IIII)V"⟩, 50) := ⟨⟨by decide +kernel, by decide +kernel⟩, List.mem_of_getElem? (i := 855) (by decide +kernel), List.mem_of_getElem? (i := 1294) (by decide +kernel), List.mem_of_getElem? (i := 1295) (by decide +kernel)⟩
theorem lw_p77 : lw_okq (⟨"SteeredClaimsModel", "slotOf", "(II)I"⟩, 50) := ⟨⟨by decide +kernel, by decide +kernel⟩, List.mem_of_getElem? (i := 855) (by decide +kernel), List.mem_of_getElem? (i := 1302) (by decide +kernel), List.mem_of_getElem? (i := 1303) (by decide +kernel)⟩
theorem lw_p78 : lw_okq (⟨"SteeredClaimsModel", "begins", "()I"⟩, 50) := ⟨⟨by decide +kernel, by decide +kernel⟩, List.mem_of_getElem? (i := 855) (by decide +kernel), List.mem_of_getElem? (i := 1306) (by decide +kernel), List.mem_of_getElem? (i := 1307) (by decide +kernel)⟩
theorem lw_p79 : lw_okq (⟨"SteeredClaimsModel", "fails", "(IZ)I"⟩, 50) := ⟨⟨by decide +kernel, by decide +kernel⟩, List.mem_of_getElem? (i := 855) (by decide +kernel), List.mem_of_getElem? (i := 1310) (by decide +kernel), List.mem_of_getElem? (i := 1311) (by decide +kernel)⟩
def lw_privs_5 : List (MethodName × Nat) := [(⟨"SteeredClaimsModel", "steers", "(III)V"⟩, 50), (⟨"SteeredClaimsModel", "steersOnce", "(III)Z"⟩, 50), (⟨"SteeredClaimsModel", "isPattern", "(II)Z"⟩, 50), (⟨"SteeredClaimsModel", "matches", "(IIII)Z"⟩, 50), (⟨"SteeredClaimsModel", "binds", "(III)Z"⟩, 50), (⟨"SteeredClaimsModel", "isSamePart", "(IIIII)Z"⟩, 50), (⟨"SteeredClaimsModel", "replaces", "(III)Z"⟩, 50), (⟨"SteeredClaimsModel", "longWith", "(I)I"⟩, 50), (⟨"SteeredClaimsModel", "notesIt", "(II)V"⟩, 50), (⟨"SteeredClaimsModel", "findCommon", "(II)Z"⟩, 50), (⟨"SteeredClaimsModel", "isPartOf", "(IIII)Z"⟩, 50), (⟨"SteeredClaimsModel", "makesGeneral", "(II)I"⟩, 50), (⟨"SteeredClaimsModel", "generalizes", "(IIII)V"⟩, 50), (⟨"SteeredClaimsModel", "slotOf", "(II)I"⟩, 50), (⟨"SteeredClaimsModel", "begins", "()I"⟩, 50), (⟨"SteeredClaimsModel", "fails", "(IZ)I"⟩, 50)]
theorem lw_r5 : ∀ q ∈ lw_privs_5, lw_okq q := List.forall_mem_cons.mpr ⟨lw_p64, List.forall_mem_cons.mpr ⟨lw_p65, List.forall_mem_cons.mpr ⟨lw_p66, List.forall_mem_cons.mpr ⟨lw_p67, List.forall_mem_cons.mpr ⟨lw_p68, List.forall_mem_cons.mpr ⟨lw_p69, List.forall_mem_cons.mpr ⟨lw_p70, List.forall_mem_cons.mpr ⟨lw_p71, List.forall_mem_cons.mpr ⟨lw_p72, List.forall_mem_cons.mpr ⟨lw_p73, List.forall_mem_cons.mpr ⟨lw_p74, List.forall_mem_cons.mpr ⟨lw_p75, List.forall_mem_cons.mpr ⟨lw_p76, List.forall_mem_cons.mpr ⟨lw_p77, List.forall_mem_cons.mpr ⟨lw_p78, List.forall_mem_cons.mpr ⟨lw_p79, fun _ h => absurd h List.not_mem_nil⟩⟩⟩⟩⟩⟩⟩⟩⟩⟩⟩⟩⟩⟩⟩⟩
theorem lw_p80 : lw_okq (⟨"SteeredClaimsModel", "areSame", "(II)Z"⟩, 50) := ⟨⟨by decide +kernel, by decide +kernel⟩, List.mem_of_getElem? (i := 855) (by decide +kernel), List.mem_of_getElem? (i := 1314) (by decide +kernel), List.mem_of_getElem? (i := 1315) (by decide +kernel)⟩
theorem lw_p81 : lw_okq (⟨"SteeredClaimsModel", "proves", "()I"⟩, 50) := ⟨⟨by decide +kernel, by decide +kernel⟩, List.mem_of_getElem? (i := 855) (by decide +kernel), List.mem_of_getElem? (i := 1318) (by decide +kernel), List.mem_of_getElem? (i := 1319) (by decide +kernel)⟩
theorem lw_p82 : lw_okq (⟨"SteeredClaimsModel", "isLemma", "(II)Z"⟩, 50) := ⟨⟨by decide +kernel, by decide +kernel⟩, List.mem_of_getElem? (i := 855) (by decide +kernel), List.mem_of_getElem? (i := 1322) (by decide +kernel), List.mem_of_getElem? (i := 1323) (by decide +kernel)⟩
theorem lw_p83 : lw_okq (⟨"SteeredClaimsModel", "nextCase", "()I"⟩, 50) := ⟨⟨by decide +kernel, by decide +kernel⟩, List.mem_of_getElem? (i := 855) (by decide +kernel), List.mem_of_getElem? (i := 1326) (by decide +kernel), List.mem_of_getElem? (i := 1327) (by decide +kernel)⟩
theorem lw_p84 : lw_okq (⟨"SteeredClaimsModel", "takesCase", "(I)V"⟩, 50) := ⟨⟨by decide +kernel, by decide +kernel⟩, List.mem_of_getElem? (i := 855) (by decide +kernel), List.mem_of_getElem? (i := 1330) (by decide +kernel), List.mem_of_getElem? (i := 1331) (by decide +kernel)⟩
theorem lw_p85 : lw_okq (⟨"SteeredClaimsModel", "normalGoal", "()Z"⟩, 50) := ⟨⟨by decide +kernel, by decide +kernel⟩, List.mem_of_getElem? (i := 855) (by decide +kernel), List.mem_of_getElem? (i := 1334) (by decide +kernel), List.mem_of_getElem? (i := 1335) (by decide +kernel)⟩
theorem lw_p86 : lw_okq (⟨"SteeredClaimsModel", "carries", "()Z"⟩, 50) := ⟨⟨by decide +kernel, by decide +kernel⟩, List.mem_of_getElem? (i := 855) (by decide +kernel), List.mem_of_getElem? (i := 1338) (by decide +kernel), List.mem_of_getElem? (i := 1339) (by decide +kernel)⟩
theorem lw_p87 : lw_okq (⟨"SteeredClaimsModel", "usesClaim", "(I)I"⟩, 50) := ⟨⟨by decide +kernel, by decide +kernel⟩, List.mem_of_getElem? (i := 855) (by decide +kernel), List.mem_of_getElem? (i := 1342) (by decide +kernel), List.mem_of_getElem? (i := 1343) (by decide +kernel)⟩
theorem lw_p88 : lw_okq (⟨"SteeredClaimsModel", "guesses", "()I"⟩, 50) := ⟨⟨by decide +kernel, by decide +kernel⟩, List.mem_of_getElem? (i := 855) (by decide +kernel), List.mem_of_getElem? (i := 1346) (by decide +kernel), List.mem_of_getElem? (i := 1347) (by decide +kernel)⟩
theorem lw_p89 : lw_okq (⟨"SteeredClaimsModel", "isKnown", "(I)Z"⟩, 50) := ⟨⟨by decide +kernel, by decide +kernel⟩, List.mem_of_getElem? (i := 855) (by decide +kernel), List.mem_of_getElem? (i := 1362) (by decide +kernel), List.mem_of_getElem? (i := 1363) (by decide +kernel)⟩
def lw_privs_6 : List (MethodName × Nat) := [(⟨"SteeredClaimsModel", "areSame", "(II)Z"⟩, 50), (⟨"SteeredClaimsModel", "proves", "()I"⟩, 50), (⟨"SteeredClaimsModel", "isLemma", "(II)Z"⟩, 50), (⟨"SteeredClaimsModel", "nextCase", "()I"⟩, 50), (⟨"SteeredClaimsModel", "takesCase", "(I)V"⟩, 50), (⟨"SteeredClaimsModel", "normalGoal", "()Z"⟩, 50), (⟨"SteeredClaimsModel", "carries", "()Z"⟩, 50), (⟨"SteeredClaimsModel", "usesClaim", "(I)I"⟩, 50), (⟨"SteeredClaimsModel", "guesses", "()I"⟩, 50), (⟨"SteeredClaimsModel", "isKnown", "(I)Z"⟩, 50)]
theorem lw_r6 : ∀ q ∈ lw_privs_6, lw_okq q := List.forall_mem_cons.mpr ⟨lw_p80, List.forall_mem_cons.mpr ⟨lw_p81, List.forall_mem_cons.mpr ⟨lw_p82, List.forall_mem_cons.mpr ⟨lw_p83, List.forall_mem_cons.mpr ⟨lw_p84, List.forall_mem_cons.mpr ⟨lw_p85, List.forall_mem_cons.mpr ⟨lw_p86, List.forall_mem_cons.mpr ⟨lw_p87, List.forall_mem_cons.mpr ⟨lw_p88, List.forall_mem_cons.mpr ⟨lw_p89, fun _ h => absurd h List.not_mem_nil⟩⟩⟩⟩⟩⟩⟩⟩⟩⟩
def lw_privs : List (MethodName × Nat) := lw_privs_1 ++ (lw_privs_2 ++ (lw_privs_3 ++ (lw_privs_4 ++ (lw_privs_5 ++ (lw_privs_6)))))
def lw_tbl : List Cond := k2_sels lw_privs ++ tables_1
theorem lw_privs_ok : ∀ q ∈ lw_privs, lw_okq q := by
  show ∀ q ∈ lw_privs_1 ++ (lw_privs_2 ++ (lw_privs_3 ++ (lw_privs_4 ++ (lw_privs_5 ++ (lw_privs_6))))), lw_okq q
  exact List.forall_mem_append.mpr ⟨lw_r1, List.forall_mem_append.mpr ⟨lw_r2, List.forall_mem_append.mpr ⟨lw_r3, List.forall_mem_append.mpr ⟨lw_r4, List.forall_mem_append.mpr ⟨lw_r5, lw_r6⟩⟩⟩⟩⟩

-- ===== names: printed rows of claim/NAMES.whole.lean.txt (names, fields, class list; no word lists) =====
/-! ===== BEGIN printed: names, fields, word lists, decode rows ===== -/
def RX0 : String := "SteeredClaims$Claim"
def TX0 : u_T := fun k => match k with
  | 0 => ("SteeredClaims$Claim", "left", "LSteeredClaims$Term;", true)
  | _ => ("SteeredClaims$Claim", "right", "LSteeredClaims$Term;", true)
def tyX0 : Nat → FieldType := fun k => match k with
  | 0 => .object "SteeredClaims$Term"
  | _ => .object "SteeredClaims$Term"
abbrev wsX00 : List Cond := u_ws RX0 TX0 2
theorem nmX0 : ∀ a, a < 2 → ∀ b, b < 2 → a ≠ b → (TX0 a).2.1 ≠ (TX0 b).2.1 := by decide +kernel
theorem tyX0_ok : ∀ k, k < 2 → parseFieldDescriptor (TX0 k).2.2.1 = some (tyX0 k) := by decide +kernel
abbrev cX0_init : ByteArray := prog_2_method_1_code
def yX0_init : MethodName := ⟨RX0, "<init>", "()V"⟩
abbrev cX0_part : ByteArray := prog_2_method_2_code
def yX0_part : MethodName := ⟨RX0, "part", "(I)LSteeredClaims$Term;"⟩
abbrev cX0_copy : ByteArray := prog_2_method_3_code
def yX0_copy : MethodName := ⟨RX0, "copy", "(LSteeredClaims$Claim;)V"⟩
abbrev cX0_isSame : ByteArray := prog_2_method_4_code
def yX0_isSame : MethodName := ⟨RX0, "isSame", "(LSteeredClaims$Claim;)Z"⟩
abbrev cX0_isTrivial : ByteArray := prog_2_method_5_code
def yX0_isTrivial : MethodName := ⟨RX0, "isTrivial", "()Z"⟩
abbrev cX0_has : ByteArray := prog_2_method_6_code
def yX0_has : MethodName := ⟨RX0, "has", "(I)Z"⟩
abbrev cX0_callsOf : ByteArray := prog_2_method_7_code
def yX0_callsOf : MethodName := ⟨RX0, "callsOf", "(I)I"⟩
abbrev cX0_deepestCall : ByteArray := prog_2_method_8_code
def yX0_deepestCall : MethodName := ⟨RX0, "deepestCall", "(ILSteeredClaims$Functions;)I"⟩
abbrev cX0_inductionVariable : ByteArray := prog_2_method_9_code
def yX0_inductionVariable : MethodName := ⟨RX0, "inductionVariable", "(LSteeredClaims$Functions;)I"⟩
abbrev cX0_commonStart : ByteArray := prog_2_method_10_code
def yX0_commonStart : MethodName := ⟨RX0, "commonStart", "()I"⟩
abbrev cX0_freeVariable : ByteArray := prog_2_method_11_code
def yX0_freeVariable : MethodName := ⟨RX0, "freeVariable", "()I"⟩
abbrev cX0_generalize : ByteArray := prog_2_method_12_code
def yX0_generalize : MethodName := ⟨RX0, "generalize", "(LSteeredClaims$Claim;LSteeredClaims$Functions;)I"⟩
abbrev cX0_putVariable : ByteArray := prog_2_method_13_code
def yX0_putVariable : MethodName := ⟨RX0, "putVariable", "(LSteeredClaims$Term;IILSteeredClaims$Term;)V"⟩
def RX1 : String := "SteeredClaims$Embedding"
def TX1 : u_T := fun k => match k with
  | 0 => ("SteeredClaims$Embedding", "best", "[I", true)
  | _ => ("SteeredClaims$Embedding", "depth", "[I", true)
def tyX1 : Nat → FieldType := fun k => match k with
  | 0 => .array .int
  | _ => .array .int
abbrev wsX10 : List Cond := u_ws RX1 TX1 2
theorem nmX1 : ∀ a, a < 2 → ∀ b, b < 2 → a ≠ b → (TX1 a).2.1 ≠ (TX1 b).2.1 := by decide +kernel
theorem tyX1_ok : ∀ k, k < 2 → parseFieldDescriptor (TX1 k).2.2.1 = some (tyX1 k) := by decide +kernel
abbrev cX1_init : ByteArray := prog_3_method_1_code
def yX1_init : MethodName := ⟨RX1, "<init>", "()V"⟩
abbrev cX1_smallest : ByteArray := prog_3_method_2_code
def yX1_smallest : MethodName := ⟨RX1, "smallest", "(LSteeredClaims$Term;LSteeredClaims$Term;)I"⟩
abbrev cX1_findDepths : ByteArray := prog_3_method_3_code
def yX1_findDepths : MethodName := ⟨RX1, "findDepths", "(LSteeredClaims$Term;)V"⟩
abbrev cX1_smallestAt : ByteArray := prog_3_method_4_code
def yX1_smallestAt : MethodName := ⟨RX1, "smallestAt", "(LSteeredClaims$Term;ILSteeredClaims$Term;I)I"⟩
def RX2 : String := "SteeredClaims$Evaluator"
def TX2 : u_T := fun k => match k with
  | 0 => ("SteeredClaims$Evaluator", "functions", "LSteeredClaims$Functions;", true)
  | 1 => ("SteeredClaims$Evaluator", "example", "[I", true)
  | 2 => ("SteeredClaims$Evaluator", "work", "I", false)
  | 3 => ("SteeredClaims$Evaluator", "text", "[LSteeredClaims$Term;", true)
  | 4 => ("SteeredClaims$Evaluator", "at", "[I", true)
  | 5 => ("SteeredClaims$Evaluator", "xs", "[I", true)
  | 6 => ("SteeredClaims$Evaluator", "ys", "[I", true)
  | 7 => ("SteeredClaims$Evaluator", "stack", "[I", true)
  | 8 => ("SteeredClaims$Evaluator", "open", "I", false)
  | _ => ("SteeredClaims$Evaluator", "top", "I", false)
def tyX2 : Nat → FieldType := fun k => match k with
  | 0 => .object "SteeredClaims$Functions"
  | 1 => .array .int
  | 2 => .int
  | 3 => .array (.object "SteeredClaims$Term")
  | 4 => .array .int
  | 5 => .array .int
  | 6 => .array .int
  | 7 => .array .int
  | 8 => .int
  | _ => .int
abbrev wsX20 : List Cond := u_ws RX2 TX2 10
theorem nmX2 : ∀ a, a < 10 → ∀ b, b < 10 → a ≠ b → (TX2 a).2.1 ≠ (TX2 b).2.1 := by decide +kernel
theorem tyX2_ok : ∀ k, k < 10 → parseFieldDescriptor (TX2 k).2.2.1 = some (tyX2 k) := by decide +kernel
abbrev cX2_init : ByteArray := prog_4_method_1_code
def yX2_init : MethodName := ⟨RX2, "<init>", "(LSteeredClaims$Functions;)V"⟩
abbrev cX2_refutes : ByteArray := prog_4_method_2_code
def yX2_refutes : MethodName := ⟨RX2, "refutes", "(LSteeredClaims$Claim;)Z"⟩
abbrev cX2_countTriples : ByteArray := prog_4_method_3_code
def yX2_countTriples : MethodName := ⟨RX2, "countTriples", "(LSteeredClaims$Claim;I)I"⟩
abbrev cX2_compare : ByteArray := prog_4_method_4_code
def yX2_compare : MethodName := ⟨RX2, "compare", "(LSteeredClaims$Claim;III)I"⟩
abbrev cX2_valueOf : ByteArray := prog_4_method_5_code
def yX2_valueOf : MethodName := ⟨RX2, "valueOf", "(LSteeredClaims$Term;III)I"⟩
abbrev cX2_take : ByteArray := prog_4_method_6_code
def yX2_take : MethodName := ⟨RX2, "take", "(II)Z"⟩
abbrev cX2_call : ByteArray := prog_4_method_7_code
def yX2_call : MethodName := ⟨RX2, "call", "(I)Z"⟩
def RX3 : String := "SteeredClaims$Functions"
def TX3 : u_T := fun k => match k with
  | 0 => ("SteeredClaims$Functions", "arity", "[I", true)
  | 1 => ("SteeredClaims$Functions", "depth", "[I", true)
  | 2 => ("SteeredClaims$Functions", "bodies", "[LSteeredClaims$Term;", true)
  | 3 => ("SteeredClaims$Functions", "arguments", "[I", true)
  | _ => ("SteeredClaims$Functions", "count", "I", false)
def tyX3 : Nat → FieldType := fun k => match k with
  | 0 => .array .int
  | 1 => .array .int
  | 2 => .array (.object "SteeredClaims$Term")
  | 3 => .array .int
  | _ => .int
abbrev wsX30 : List Cond := u_ws RX3 TX3 5
theorem nmX3 : ∀ a, a < 5 → ∀ b, b < 5 → a ≠ b → (TX3 a).2.1 ≠ (TX3 b).2.1 := by decide +kernel
theorem tyX3_ok : ∀ k, k < 5 → parseFieldDescriptor (TX3 k).2.2.1 = some (tyX3 k) := by decide +kernel
abbrev cX3_init : ByteArray := prog_5_method_1_code
def yX3_init : MethodName := ⟨RX3, "<init>", "()V"⟩
abbrev cX3_define : ByteArray := prog_5_method_2_code
def yX3_define : MethodName := ⟨RX3, "define", "(II[LSteeredClaims$Term;)V"⟩
abbrev cX3_forgetAll : ByteArray := prog_5_method_3_code
def yX3_forgetAll : MethodName := ⟨RX3, "forgetAll", "()V"⟩
abbrev cX3_bodyOf : ByteArray := prog_5_method_4_code
def yX3_bodyOf : MethodName := ⟨RX3, "bodyOf", "(II)LSteeredClaims$Term;"⟩
abbrev cX3_depthOf : ByteArray := prog_5_method_5_code
def yX3_depthOf : MethodName := ⟨RX3, "depthOf", "(I)I"⟩
def RX4 : String := "SteeredClaims$Lemmas"
def TX4 : u_T := fun k => match k with
  | 0 => ("SteeredClaims$Lemmas", "list", "[LSteeredClaims$Claim;", true)
  | 1 => ("SteeredClaims$Lemmas", "count", "I", false)
  | 2 => ("SteeredClaims$Lemmas", "embedding", "LSteeredClaims$Embedding;", true)
  | 3 => ("SteeredClaims$Lemmas", "matcher", "LSteeredClaims$Matcher;", true)
  | _ => ("SteeredClaims$Lemmas", "next", "LSteeredClaims$Term;", true)
def tyX4 : Nat → FieldType := fun k => match k with
  | 0 => .array (.object "SteeredClaims$Claim")
  | 1 => .int
  | 2 => .object "SteeredClaims$Embedding"
  | 3 => .object "SteeredClaims$Matcher"
  | _ => .object "SteeredClaims$Term"
abbrev wsX40 : List Cond := u_ws RX4 TX4 5
theorem nmX4 : ∀ a, a < 5 → ∀ b, b < 5 → a ≠ b → (TX4 a).2.1 ≠ (TX4 b).2.1 := by decide +kernel
theorem tyX4_ok : ∀ k, k < 5 → parseFieldDescriptor (TX4 k).2.2.1 = some (tyX4 k) := by decide +kernel
abbrev cX4_init : ByteArray := prog_6_method_1_code
def yX4_init : MethodName := ⟨RX4, "<init>", "(LSteeredClaims$Embedding;LSteeredClaims$Matcher;)V"⟩
abbrev cX4_keep : ByteArray := prog_6_method_2_code
def yX4_keep : MethodName := ⟨RX4, "keep", "(LSteeredClaims$Claim;)V"⟩
abbrev cX4_ripple : ByteArray := prog_6_method_3_code
def yX4_ripple : MethodName := ⟨RX4, "ripple", "(LSteeredClaims$Term;LSteeredClaims$Term;)I"⟩
abbrev cX4_rewrites : ByteArray := prog_6_method_4_code
def yX4_rewrites : MethodName := ⟨RX4, "rewrites", "(LSteeredClaims$Term;ILSteeredClaims$Claim;I)Z"⟩
abbrev cX4_isUsable : ByteArray := prog_6_method_5_code
def yX4_isUsable : MethodName := ⟨RX4, "isUsable", "(LSteeredClaims$Term;LSteeredClaims$Term;)Z"⟩
def RX5 : String := "SteeredClaims$Matcher"
def TX5 : u_T := fun k => match k with
  | 0 => ("SteeredClaims$Matcher", "functions", "LSteeredClaims$Functions;", true)
  | _ => ("SteeredClaims$Matcher", "start", "[I", true)
def tyX5 : Nat → FieldType := fun k => match k with
  | 0 => .object "SteeredClaims$Functions"
  | _ => .array .int
abbrev wsX50 : List Cond := u_ws RX5 TX5 2
theorem nmX5 : ∀ a, a < 2 → ∀ b, b < 2 → a ≠ b → (TX5 a).2.1 ≠ (TX5 b).2.1 := by decide +kernel
theorem tyX5_ok : ∀ k, k < 2 → parseFieldDescriptor (TX5 k).2.2.1 = some (tyX5 k) := by decide +kernel
abbrev cX5_init : ByteArray := prog_7_method_1_code
def yX5_init : MethodName := ⟨RX5, "<init>", "(LSteeredClaims$Functions;)V"⟩
abbrev cX5_matches : ByteArray := prog_7_method_2_code
def yX5_matches : MethodName := ⟨RX5, "matches", "(LSteeredClaims$Term;LSteeredClaims$Term;II)Z"⟩
abbrev cX5_firstMatch : ByteArray := prog_7_method_3_code
def yX5_firstMatch : MethodName := ⟨RX5, "firstMatch", "(LSteeredClaims$Term;LSteeredClaims$Term;I)I"⟩
abbrev cX5_replace : ByteArray := prog_7_method_4_code
def yX5_replace : MethodName := ⟨RX5, "replace", "(LSteeredClaims$Term;LSteeredClaims$Term;ILSteeredClaims$Term;)Z"⟩
def RX6 : String := "SteeredClaims$Normalizer"
def TX6 : u_T := fun k => match k with
  | 0 => ("SteeredClaims$Normalizer", "functions", "LSteeredClaims$Functions;", true)
  | 1 => ("SteeredClaims$Normalizer", "symbol", "[I", true)
  | 2 => ("SteeredClaims$Normalizer", "first", "[I", true)
  | 3 => ("SteeredClaims$Normalizer", "second", "[I", true)
  | 4 => ("SteeredClaims$Normalizer", "weight", "[I", true)
  | 5 => ("SteeredClaims$Normalizer", "text", "[LSteeredClaims$Term;", true)
  | 6 => ("SteeredClaims$Normalizer", "at", "[I", true)
  | 7 => ("SteeredClaims$Normalizer", "xs", "[I", true)
  | 8 => ("SteeredClaims$Normalizer", "ys", "[I", true)
  | 9 => ("SteeredClaims$Normalizer", "stack", "[I", true)
  | 10 => ("SteeredClaims$Normalizer", "meaning", "[I", true)
  | 11 => ("SteeredClaims$Normalizer", "nodes", "I", false)
  | 12 => ("SteeredClaims$Normalizer", "open", "I", false)
  | 13 => ("SteeredClaims$Normalizer", "top", "I", false)
  | _ => ("SteeredClaims$Normalizer", "used", "I", false)
def tyX6 : Nat → FieldType := fun k => match k with
  | 0 => .object "SteeredClaims$Functions"
  | 1 => .array .int
  | 2 => .array .int
  | 3 => .array .int
  | 4 => .array .int
  | 5 => .array (.object "SteeredClaims$Term")
  | 6 => .array .int
  | 7 => .array .int
  | 8 => .array .int
  | 9 => .array .int
  | 10 => .array .int
  | 11 => .int
  | 12 => .int
  | 13 => .int
  | _ => .int
abbrev wsX60 : List Cond := u_ws RX6 TX6 15
theorem nmX6 : ∀ a, a < 15 → ∀ b, b < 15 → a ≠ b → (TX6 a).2.1 ≠ (TX6 b).2.1 := by decide +kernel
theorem tyX6_ok : ∀ k, k < 15 → parseFieldDescriptor (TX6 k).2.2.1 = some (tyX6 k) := by decide +kernel
abbrev cX6_init : ByteArray := prog_8_method_1_code
def yX6_init : MethodName := ⟨RX6, "<init>", "(LSteeredClaims$Functions;)V"⟩
abbrev cX6_rewrite : ByteArray := prog_8_method_2_code
def yX6_rewrite : MethodName := ⟨RX6, "rewrite", "(LSteeredClaims$Term;LSteeredClaims$Term;IIZ)Z"⟩
abbrev cX6_run : ByteArray := prog_8_method_3_code
def yX6_run : MethodName := ⟨RX6, "run", "(LSteeredClaims$Term;)Z"⟩
abbrev cX6_take : ByteArray := prog_8_method_4_code
def yX6_take : MethodName := ⟨RX6, "take", "(I)Z"⟩
abbrev cX6_apply : ByteArray := prog_8_method_5_code
def yX6_apply : MethodName := ⟨RX6, "apply", "(I)Z"⟩
abbrev cX6_bodyFor : ByteArray := prog_8_method_6_code
def yX6_bodyFor : MethodName := ⟨RX6, "bodyFor", "(II)I"⟩
abbrev cX6_make : ByteArray := prog_8_method_7_code
def yX6_make : MethodName := ⟨RX6, "make", "(III)I"⟩
abbrev cX6_push : ByteArray := prog_8_method_8_code
def yX6_push : MethodName := ⟨RX6, "push", "(I)Z"⟩
abbrev cX6_write : ByteArray := prog_8_method_9_code
def yX6_write : MethodName := ⟨RX6, "write", "(LSteeredClaims$Term;)V"⟩
def RX7 : String := "SteeredClaims$Notes"
def TX7 : u_T := fun k => match k with
  | 0 => ("SteeredClaims$Notes", "kind", "[I", true)
  | 1 => ("SteeredClaims$Notes", "number", "[I", true)
  | 2 => ("SteeredClaims$Notes", "cause", "[I", true)
  | 3 => ("SteeredClaims$Notes", "count", "I", false)
  | _ => ("SteeredClaims$Notes", "causes", "I", false)
def tyX7 : Nat → FieldType := fun k => match k with
  | 0 => .array .int
  | 1 => .array .int
  | 2 => .array .int
  | 3 => .int
  | _ => .int
abbrev wsX70 : List Cond := u_ws RX7 TX7 5
theorem nmX7 : ∀ a, a < 5 → ∀ b, b < 5 → a ≠ b → (TX7 a).2.1 ≠ (TX7 b).2.1 := by decide +kernel
theorem tyX7_ok : ∀ k, k < 5 → parseFieldDescriptor (TX7 k).2.2.1 = some (tyX7 k) := by decide +kernel
abbrev cX7_init : ByteArray := prog_9_method_1_code
def yX7_init : MethodName := ⟨RX7, "<init>", "()V"⟩
abbrev cX7_empty : ByteArray := prog_9_method_2_code
def yX7_empty : MethodName := ⟨RX7, "empty", "()V"⟩
abbrev cX7_write : ByteArray := prog_9_method_3_code
def yX7_write : MethodName := ⟨RX7, "write", "(II)V"⟩
abbrev cX7_blame : ByteArray := prog_9_method_4_code
def yX7_blame : MethodName := ⟨RX7, "blame", "(II)V"⟩
def RX8 : String := "SteeredClaims$Prover"
def TX8 : u_T := fun k => match k with
  | 0 => ("SteeredClaims$Prover", "start", "[LSteeredClaims$Claim;", true)
  | 1 => ("SteeredClaims$Prover", "claims", "[LSteeredClaims$Claim;", true)
  | 2 => ("SteeredClaims$Prover", "goals", "[LSteeredClaims$Claim;", true)
  | 3 => ("SteeredClaims$Prover", "draft", "LSteeredClaims$Term;", true)
  | 4 => ("SteeredClaims$Prover", "functions", "LSteeredClaims$Functions;", true)
  | 5 => ("SteeredClaims$Prover", "evaluator", "LSteeredClaims$Evaluator;", true)
  | 6 => ("SteeredClaims$Prover", "normalizer", "LSteeredClaims$Normalizer;", true)
  | 7 => ("SteeredClaims$Prover", "matcher", "LSteeredClaims$Matcher;", true)
  | 8 => ("SteeredClaims$Prover", "lemmas", "LSteeredClaims$Lemmas;", true)
  | _ => ("SteeredClaims$Prover", "notes", "LSteeredClaims$Notes;", true)
def tyX8 : Nat → FieldType := fun k => match k with
  | 0 => .array (.object "SteeredClaims$Claim")
  | 1 => .array (.object "SteeredClaims$Claim")
  | 2 => .array (.object "SteeredClaims$Claim")
  | 3 => .object "SteeredClaims$Term"
  | 4 => .object "SteeredClaims$Functions"
  | 5 => .object "SteeredClaims$Evaluator"
  | 6 => .object "SteeredClaims$Normalizer"
  | 7 => .object "SteeredClaims$Matcher"
  | 8 => .object "SteeredClaims$Lemmas"
  | _ => .object "SteeredClaims$Notes"
abbrev wsX80 : List Cond := u_ws RX8 TX8 10
theorem nmX8 : ∀ a, a < 10 → ∀ b, b < 10 → a ≠ b → (TX8 a).2.1 ≠ (TX8 b).2.1 := by decide +kernel
theorem tyX8_ok : ∀ k, k < 10 → parseFieldDescriptor (TX8 k).2.2.1 = some (tyX8 k) := by decide +kernel
abbrev cX8_init : ByteArray := prog_10_method_1_code
def yX8_init : MethodName := ⟨RX8, "<init>", "(LSteeredClaims$Functions;LSteeredClaims$Evaluator;LSteeredClaims$Normalizer;LSteeredClaims$Matcher;LSteeredClaims$Lemmas;LSteeredClaims$Notes;)V"⟩
abbrev cX8_attempt : ByteArray := prog_10_method_2_code
def yX8_attempt : MethodName := ⟨RX8, "attempt", "(I)I"⟩
abbrev cX8_proveCase : ByteArray := prog_10_method_3_code
def yX8_proveCase : MethodName := ⟨RX8, "proveCase", "(IIII)I"⟩
abbrev cX8_normalize : ByteArray := prog_10_method_4_code
def yX8_normalize : MethodName := ⟨RX8, "normalize", "(LSteeredClaims$Claim;LSteeredClaims$Claim;IIZ)Z"⟩
abbrev cX8_ripple : ByteArray := prog_10_method_5_code
def yX8_ripple : MethodName := ⟨RX8, "ripple", "(LSteeredClaims$Term;LSteeredClaims$Term;I)V"⟩
abbrev cX8_useClaim : ByteArray := prog_10_method_6_code
def yX8_useClaim : MethodName := ⟨RX8, "useClaim", "(LSteeredClaims$Claim;LSteeredClaims$Claim;I)Z"⟩
abbrev cX8_guess : ByteArray := prog_10_method_7_code
def yX8_guess : MethodName := ⟨RX8, "guess", "(LSteeredClaims$Claim;LSteeredClaims$Claim;)I"⟩
abbrev cX8_fail : ByteArray := prog_10_method_8_code
def yX8_fail : MethodName := ⟨RX8, "fail", "(II)I"⟩
abbrev cX8_succeed : ByteArray := prog_10_method_9_code
def yX8_succeed : MethodName := ⟨RX8, "succeed", "(I)I"⟩
def RX9 : String := "SteeredClaims$Reader"
def TX9 : u_T := fun k => match k with
  | 0 => ("SteeredClaims$Reader", "tape", "[I", true)
  | 1 => ("SteeredClaims$Reader", "parts", "[LSteeredClaims$Term;", true)
  | 2 => ("SteeredClaims$Reader", "functions", "LSteeredClaims$Functions;", true)
  | 3 => ("SteeredClaims$Reader", "count", "I", false)
  | 4 => ("SteeredClaims$Reader", "at", "I", false)
  | 5 => ("SteeredClaims$Reader", "ownArity", "I", false)
  | 6 => ("SteeredClaims$Reader", "ownAllowed", "Z", false)
  | 7 => ("SteeredClaims$Reader", "xAllowed", "Z", false)
  | 8 => ("SteeredClaims$Reader", "yAllowed", "Z", false)
  | _ => ("SteeredClaims$Reader", "zAllowed", "Z", false)
def tyX9 : Nat → FieldType := fun k => match k with
  | 0 => .array .int
  | 1 => .array (.object "SteeredClaims$Term")
  | 2 => .object "SteeredClaims$Functions"
  | 3 => .int
  | 4 => .int
  | 5 => .int
  | 6 => .boolean
  | 7 => .boolean
  | 8 => .boolean
  | _ => .boolean
abbrev wsX90 : List Cond := u_ws RX9 TX9 10
theorem nmX9 : ∀ a, a < 10 → ∀ b, b < 10 → a ≠ b → (TX9 a).2.1 ≠ (TX9 b).2.1 := by decide +kernel
theorem tyX9_ok : ∀ k, k < 10 → parseFieldDescriptor (TX9 k).2.2.1 = some (tyX9 k) := by decide +kernel
abbrev cX9_init : ByteArray := prog_11_method_1_code
def yX9_init : MethodName := ⟨RX9, "<init>", "(LSteeredClaims$Functions;)V"⟩
abbrev cX9_put : ByteArray := prog_11_method_2_code
def yX9_put : MethodName := ⟨RX9, "put", "(I)V"⟩
abbrev cX9_readFunction : ByteArray := prog_11_method_3_code
def yX9_readFunction : MethodName := ⟨RX9, "readFunction", "(II)Z"⟩
abbrev cX9_readClaim : ByteArray := prog_11_method_4_code
def yX9_readClaim : MethodName := ⟨RX9, "readClaim", "()Z"⟩
abbrev cX9_pass : ByteArray := prog_11_method_5_code
def yX9_pass : MethodName := ⟨RX9, "pass", "(I)Z"⟩
abbrev cX9_readTerm : ByteArray := prog_11_method_6_code
def yX9_readTerm : MethodName := ⟨RX9, "readTerm", "(LSteeredClaims$Term;I)Z"⟩
abbrev cX9_isOwn : ByteArray := prog_11_method_7_code
def yX9_isOwn : MethodName := ⟨RX9, "isOwn", "(I)Z"⟩
abbrev cX9_argumentsOf : ByteArray := prog_11_method_8_code
def yX9_argumentsOf : MethodName := ⟨RX9, "argumentsOf", "(I)I"⟩
def RX10 : String := "SteeredClaims$Term"
def TX10 : u_T := fun k => match k with
  | 0 => ("SteeredClaims$Term", "code", "[I", true)
  | 1 => ("SteeredClaims$Term", "end", "[I", true)
  | _ => ("SteeredClaims$Term", "size", "I", false)
def tyX10 : Nat → FieldType := fun k => match k with
  | 0 => .array .int
  | 1 => .array .int
  | _ => .int
abbrev wsX100 : List Cond := u_ws RX10 TX10 3
theorem nmX10 : ∀ a, a < 3 → ∀ b, b < 3 → a ≠ b → (TX10 a).2.1 ≠ (TX10 b).2.1 := by decide +kernel
theorem tyX10_ok : ∀ k, k < 3 → parseFieldDescriptor (TX10 k).2.2.1 = some (tyX10 k) := by decide +kernel
abbrev cX10_init : ByteArray := prog_12_method_1_code
def yX10_init : MethodName := ⟨RX10, "<init>", "()V"⟩
abbrev cX10_empty : ByteArray := prog_12_method_2_code
def yX10_empty : MethodName := ⟨RX10, "empty", "()V"⟩
abbrev cX10_add : ByteArray := prog_12_method_3_code
def yX10_add : MethodName := ⟨RX10, "add", "(I)Z"⟩
abbrev cX10_addRange : ByteArray := prog_12_method_4_code
def yX10_addRange : MethodName := ⟨RX10, "addRange", "(LSteeredClaims$Term;II)Z"⟩
abbrev cX10_close : ByteArray := prog_12_method_5_code
def yX10_close : MethodName := ⟨RX10, "close", "([I)V"⟩
abbrev cX10_copy : ByteArray := prog_12_method_6_code
def yX10_copy : MethodName := ⟨RX10, "copy", "(LSteeredClaims$Term;)V"⟩
abbrev cX10_symbolOrSize : ByteArray := prog_12_method_7_code
def yX10_symbolOrSize : MethodName := ⟨RX10, "symbolOrSize", "(I)I"⟩
abbrev cX10_isSame : ByteArray := prog_12_method_8_code
def yX10_isSame : MethodName := ⟨RX10, "isSame", "(LSteeredClaims$Term;)Z"⟩
abbrev cX10_isSameAt : ByteArray := prog_12_method_9_code
def yX10_isSameAt : MethodName := ⟨RX10, "isSameAt", "(ILSteeredClaims$Term;I)Z"⟩
abbrev cX10_has : ByteArray := prog_12_method_10_code
def yX10_has : MethodName := ⟨RX10, "has", "(I)Z"⟩
abbrev cX10_hasSubterm : ByteArray := prog_12_method_11_code
def yX10_hasSubterm : MethodName := ⟨RX10, "hasSubterm", "(LSteeredClaims$Term;I)Z"⟩
abbrev cX10_isCall : ByteArray := prog_12_method_12_code
def yX10_isCall : MethodName := ⟨RX10, "isCall", "(II)Z"⟩
abbrev cX10_isLetter : ByteArray := prog_12_method_13_code
def yX10_isLetter : MethodName := ⟨RX10, "isLetter", "(I)Z"⟩
def RX11 : String := "SteeredClaims"
def TX11 : u_T := fun k => match k with
  | 0 => ("SteeredClaims", "functions", "LSteeredClaims$Functions;", true)
  | 1 => ("SteeredClaims", "reader", "LSteeredClaims$Reader;", true)
  | 2 => ("SteeredClaims", "evaluator", "LSteeredClaims$Evaluator;", true)
  | 3 => ("SteeredClaims", "normalizer", "LSteeredClaims$Normalizer;", true)
  | 4 => ("SteeredClaims", "embedding", "LSteeredClaims$Embedding;", true)
  | 5 => ("SteeredClaims", "lemmas", "LSteeredClaims$Lemmas;", true)
  | 6 => ("SteeredClaims", "notes", "LSteeredClaims$Notes;", true)
  | 7 => ("SteeredClaims", "prover", "LSteeredClaims$Prover;", true)
  | 8 => ("SteeredClaims", "present", "LSteeredClaims$Claim;", true)
  | 9 => ("SteeredClaims", "drafted", "LSteeredClaims$Claim;", true)
  | 10 => ("SteeredClaims", "draft", "LSteeredClaims$Term;", true)
  | _ => ("SteeredClaims", "claimed", "Z", false)
def tyX11 : Nat → FieldType := fun k => match k with
  | 0 => .object "SteeredClaims$Functions"
  | 1 => .object "SteeredClaims$Reader"
  | 2 => .object "SteeredClaims$Evaluator"
  | 3 => .object "SteeredClaims$Normalizer"
  | 4 => .object "SteeredClaims$Embedding"
  | 5 => .object "SteeredClaims$Lemmas"
  | 6 => .object "SteeredClaims$Notes"
  | 7 => .object "SteeredClaims$Prover"
  | 8 => .object "SteeredClaims$Claim"
  | 9 => .object "SteeredClaims$Claim"
  | 10 => .object "SteeredClaims$Term"
  | _ => .boolean
abbrev wsX110 : List Cond := u_ws RX11 TX11 12
theorem nmX11 : ∀ a, a < 12 → ∀ b, b < 12 → a ≠ b → (TX11 a).2.1 ≠ (TX11 b).2.1 := by decide +kernel
theorem tyX11_ok : ∀ k, k < 12 → parseFieldDescriptor (TX11 k).2.2.1 = some (tyX11 k) := by decide +kernel
abbrev cX11_init : ByteArray := prog_1_method_1_code
def yX11_init : MethodName := ⟨RX11, "<init>", "()V"⟩
abbrev cX11_type : ByteArray := prog_1_method_2_code
def yX11_type : MethodName := ⟨RX11, "type", "(I)I"⟩
abbrev cX11_wipe : ByteArray := prog_1_method_3_code
def yX11_wipe : MethodName := ⟨RX11, "wipe", "()I"⟩
abbrev cX11_function : ByteArray := prog_1_method_4_code
def yX11_function : MethodName := ⟨RX11, "function", "(II)I"⟩
abbrev cX11_ofFunction : ByteArray := prog_1_method_5_code
def yX11_ofFunction : MethodName := ⟨RX11, "ofFunction", "(II)I"⟩
abbrev cX11_body : ByteArray := prog_1_method_6_code
def yX11_body : MethodName := ⟨RX11, "body", "(III)I"⟩
abbrev cX11_claim : ByteArray := prog_1_method_7_code
def yX11_claim : MethodName := ⟨RX11, "claim", "()I"⟩
abbrev cX11_side : ByteArray := prog_1_method_8_code
def yX11_side : MethodName := ⟨RX11, "side", "(II)I"⟩
abbrev cX11_anew : ByteArray := prog_1_method_9_code
def yX11_anew : MethodName := ⟨RX11, "anew", "()I"⟩
abbrev cX11_value : ByteArray := prog_1_method_10_code
def yX11_value : MethodName := ⟨RX11, "value", "(IIII)I"⟩
abbrev cX11_holds : ByteArray := prog_1_method_11_code
def yX11_holds : MethodName := ⟨RX11, "holds", "(III)I"⟩
abbrev cX11_counter : ByteArray := prog_1_method_12_code
def yX11_counter : MethodName := ⟨RX11, "counter", "(I)I"⟩
abbrev cX11_normal : ByteArray := prog_1_method_13_code
def yX11_normal : MethodName := ⟨RX11, "normal", "(II)I"⟩
abbrev cX11_scheme : ByteArray := prog_1_method_14_code
def yX11_scheme : MethodName := ⟨RX11, "scheme", "(I)I"⟩
abbrev cX11_difference : ByteArray := prog_1_method_15_code
def yX11_difference : MethodName := ⟨RX11, "difference", "()I"⟩
abbrev cX11_steered : ByteArray := prog_1_method_16_code
def yX11_steered : MethodName := ⟨RX11, "steered", "(I)I"⟩
abbrev cX11_common : ByteArray := prog_1_method_17_code
def yX11_common : MethodName := ⟨RX11, "common", "(I)I"⟩
abbrev cX11_general : ByteArray := prog_1_method_18_code
def yX11_general : MethodName := ⟨RX11, "general", "(II)I"⟩
abbrev cX11_prove : ByteArray := prog_1_method_19_code
def yX11_prove : MethodName := ⟨RX11, "prove", "()I"⟩
abbrev cX11_why : ByteArray := prog_1_method_20_code
def yX11_why : MethodName := ⟨RX11, "why", "(I)I"⟩
abbrev cX11_script : ByteArray := prog_1_method_21_code
def yX11_script : MethodName := ⟨RX11, "script", "(II)I"⟩
abbrev cX11_lemma : ByteArray := prog_1_method_22_code
def yX11_lemma : MethodName := ⟨RX11, "lemma", "(III)I"⟩
abbrev cX11_tested : ByteArray := prog_1_method_23_code
def yX11_tested : MethodName := ⟨RX11, "tested", "(II)I"⟩
abbrev cX11_back : ByteArray := prog_1_method_24_code
def yX11_back : MethodName := ⟨RX11, "back", "()I"⟩
abbrev cX11_many : ByteArray := prog_1_method_25_code
def yX11_many : MethodName := ⟨RX11, "many", "(I)I"⟩
abbrev cX11_isOutside : ByteArray := prog_1_method_26_code
def yX11_isOutside : MethodName := ⟨RX11, "isOutside", "(II)Z"⟩
abbrev cX11_isNoPlace : ByteArray := prog_1_method_27_code
def yX11_isNoPlace : MethodName := ⟨RX11, "isNoPlace", "(II)Z"⟩
def RX12 : String := "SteeredClaimsModel"
def TX12 : u_T := fun k => match k with
  | 0 => ("SteeredClaimsModel", "sign", "[I", true)
  | 1 => ("SteeredClaimsModel", "size", "[I", true)
  | 2 => ("SteeredClaimsModel", "tape", "[I", true)
  | 3 => ("SteeredClaimsModel", "taped", "I", false)
  | 4 => ("SteeredClaimsModel", "functions", "I", false)
  | 5 => ("SteeredClaimsModel", "arityOf", "[I", true)
  | 6 => ("SteeredClaimsModel", "depthOf", "[I", true)
  | 7 => ("SteeredClaimsModel", "bodySign", "[I", true)
  | 8 => ("SteeredClaimsModel", "bodySize", "[I", true)
  | 9 => ("SteeredClaimsModel", "isClaim", "Z", false)
  | 10 => ("SteeredClaimsModel", "place", "I", false)
  | 11 => ("SteeredClaimsModel", "read", "[I", true)
  | 12 => ("SteeredClaimsModel", "reads", "I", false)
  | 13 => ("SteeredClaimsModel", "readArity", "I", false)
  | 14 => ("SteeredClaimsModel", "pile", "[I", true)
  | 15 => ("SteeredClaimsModel", "piled", "I", false)
  | 16 => ("SteeredClaimsModel", "work", "I", false)
  | 17 => ("SteeredClaimsModel", "frameOf", "[I", true)
  | 18 => ("SteeredClaimsModel", "frameAt", "[I", true)
  | 19 => ("SteeredClaimsModel", "frameX", "[I", true)
  | 20 => ("SteeredClaimsModel", "frameY", "[I", true)
  | 21 => ("SteeredClaimsModel", "frameZ", "[I", true)
  | 22 => ("SteeredClaimsModel", "frames", "I", false)
  | 23 => ("SteeredClaimsModel", "heap", "[I", true)
  | 24 => ("SteeredClaimsModel", "from", "[I", true)
  | 25 => ("SteeredClaimsModel", "top", "I", false)
  | 26 => ("SteeredClaimsModel", "bodies", "I", false)
  | 27 => ("SteeredClaimsModel", "frameUnder", "[I", true)
  | 28 => ("SteeredClaimsModel", "schemeVariable", "I", false)
  | 29 => ("SteeredClaimsModel", "schemeDepth", "I", false)
  | 30 => ("SteeredClaimsModel", "schemeCalls", "I", false)
  | 31 => ("SteeredClaimsModel", "held", "[I", true)
  | 32 => ("SteeredClaimsModel", "deep", "[I", true)
  | 33 => ("SteeredClaimsModel", "boundAt", "[I", true)
  | 34 => ("SteeredClaimsModel", "boundLong", "[I", true)
  | 35 => ("SteeredClaimsModel", "lemmas", "I", false)
  | 36 => ("SteeredClaimsModel", "steeredBy", "I", false)
  | 37 => ("SteeredClaimsModel", "commonAt", "I", false)
  | 38 => ("SteeredClaimsModel", "commonLong", "I", false)
  | 39 => ("SteeredClaimsModel", "notes", "I", false)
  | 40 => ("SteeredClaimsModel", "noteKind", "[I", true)
  | 41 => ("SteeredClaimsModel", "noteNumber", "[I", true)
  | 42 => ("SteeredClaimsModel", "outcome", "I", false)
  | 43 => ("SteeredClaimsModel", "failLevel", "I", false)
  | 44 => ("SteeredClaimsModel", "failKind", "I", false)
  | 45 => ("SteeredClaimsModel", "isDeep", "Z", false)
  | 46 => ("SteeredClaimsModel", "level", "I", false)
  | 47 => ("SteeredClaimsModel", "caseOf", "[I", true)
  | 48 => ("SteeredClaimsModel", "variableOf", "[I", true)
  | _ => ("SteeredClaimsModel", "casesOf", "[I", true)
def tyX12 : Nat → FieldType := fun k => match k with
  | 0 => .array .int
  | 1 => .array .int
  | 2 => .array .int
  | 3 => .int
  | 4 => .int
  | 5 => .array .int
  | 6 => .array .int
  | 7 => .array .int
  | 8 => .array .int
  | 9 => .boolean
  | 10 => .int
  | 11 => .array .int
  | 12 => .int
  | 13 => .int
  | 14 => .array .int
  | 15 => .int
  | 16 => .int
  | 17 => .array .int
  | 18 => .array .int
  | 19 => .array .int
  | 20 => .array .int
  | 21 => .array .int
  | 22 => .int
  | 23 => .array .int
  | 24 => .array .int
  | 25 => .int
  | 26 => .int
  | 27 => .array .int
  | 28 => .int
  | 29 => .int
  | 30 => .int
  | 31 => .array .int
  | 32 => .array .int
  | 33 => .array .int
  | 34 => .array .int
  | 35 => .int
  | 36 => .int
  | 37 => .int
  | 38 => .int
  | 39 => .int
  | 40 => .array .int
  | 41 => .array .int
  | 42 => .int
  | 43 => .int
  | 44 => .int
  | 45 => .boolean
  | 46 => .int
  | 47 => .array .int
  | 48 => .array .int
  | _ => .array .int
abbrev wsX120 : List Cond := u_ws RX12 TX12 50
theorem nmX12 : ∀ a, a < 50 → ∀ b, b < 50 → a ≠ b → (TX12 a).2.1 ≠ (TX12 b).2.1 := by decide +kernel
theorem tyX12_ok : ∀ k, k < 50 → parseFieldDescriptor (TX12 k).2.2.1 = some (tyX12 k) := by decide +kernel
abbrev cX12_init : ByteArray := prog_14_method_1_code
def yX12_init : MethodName := ⟨RX12, "<init>", "()V"⟩
abbrev cX12_within : ByteArray := prog_14_method_2_code
def yX12_within : MethodName := ⟨RX12, "within", "(III)Z"⟩
abbrev cX12_at : ByteArray := prog_14_method_3_code
def yX12_at : MethodName := ⟨RX12, "at", "(II)I"⟩
abbrev cX12_puts : ByteArray := prog_14_method_4_code
def yX12_puts : MethodName := ⟨RX12, "puts", "(II)V"⟩
abbrev cX12_copies : ByteArray := prog_14_method_5_code
def yX12_copies : MethodName := ⟨RX12, "copies", "(II)V"⟩
abbrev cX12_isVariable : ByteArray := prog_14_method_6_code
def yX12_isVariable : MethodName := ⟨RX12, "isVariable", "(I)Z"⟩
abbrev cX12_isLetter : ByteArray := prog_14_method_7_code
def yX12_isLetter : MethodName := ⟨RX12, "isLetter", "(I)Z"⟩
abbrev cX12_arity : ByteArray := prog_14_method_8_code
def yX12_arity : MethodName := ⟨RX12, "arity", "(I)I"⟩
abbrev cX12_end : ByteArray := prog_14_method_9_code
def yX12_end : MethodName := ⟨RX12, "end", "(II)I"⟩
abbrev cX12_areSame : ByteArray := prog_14_method_10_code
def yX12_areSame : MethodName := ⟨RX12, "areSame", "(II)Z"⟩
abbrev cX12_isSamePart : ByteArray := prog_14_method_11_code
def yX12_isSamePart : MethodName := ⟨RX12, "isSamePart", "(IIIII)Z"⟩
abbrev cX12_hasSign : ByteArray := prog_14_method_12_code
def yX12_hasSign : MethodName := ⟨RX12, "hasSign", "(II)Z"⟩
abbrev cX12_type : ByteArray := prog_14_method_13_code
def yX12_type : MethodName := ⟨RX12, "type", "(I)I"⟩
abbrev cX12_wipe : ByteArray := prog_14_method_14_code
def yX12_wipe : MethodName := ⟨RX12, "wipe", "()I"⟩
abbrev cX12_partsOf : ByteArray := prog_14_method_15_code
def yX12_partsOf : MethodName := ⟨RX12, "partsOf", "(IZZZIZ)I"⟩
abbrev cX12_readsTerm : ByteArray := prog_14_method_16_code
def yX12_readsTerm : MethodName := ⟨RX12, "readsTerm", "(IZZZIZ)Z"⟩
abbrev cX12_reads : ByteArray := prog_14_method_17_code
def yX12_reads : MethodName := ⟨RX12, "reads", "(I)Z"⟩
abbrev cX12_keepsBody : ByteArray := prog_14_method_18_code
def yX12_keepsBody : MethodName := ⟨RX12, "keepsBody", "(II)V"⟩
abbrev cX12_readsFunction : ByteArray := prog_14_method_19_code
def yX12_readsFunction : MethodName := ⟨RX12, "readsFunction", "(II)Z"⟩
abbrev cX12_function : ByteArray := prog_14_method_20_code
def yX12_function : MethodName := ⟨RX12, "function", "(II)I"⟩
abbrev cX12_isFunction : ByteArray := prog_14_method_21_code
def yX12_isFunction : MethodName := ⟨RX12, "isFunction", "(I)Z"⟩
abbrev cX12_bodyLong : ByteArray := prog_14_method_22_code
def yX12_bodyLong : MethodName := ⟨RX12, "bodyLong", "(II)I"⟩
abbrev cX12_ofFunction : ByteArray := prog_14_method_23_code
def yX12_ofFunction : MethodName := ⟨RX12, "ofFunction", "(II)I"⟩
abbrev cX12_body : ByteArray := prog_14_method_24_code
def yX12_body : MethodName := ⟨RX12, "body", "(III)I"⟩
abbrev cX12_keepsSide : ByteArray := prog_14_method_25_code
def yX12_keepsSide : MethodName := ⟨RX12, "keepsSide", "(I)V"⟩
abbrev cX12_readsClaim : ByteArray := prog_14_method_26_code
def yX12_readsClaim : MethodName := ⟨RX12, "readsClaim", "()Z"⟩
abbrev cX12_claim : ByteArray := prog_14_method_27_code
def yX12_claim : MethodName := ⟨RX12, "claim", "()I"⟩
abbrev cX12_told : ByteArray := prog_14_method_28_code
def yX12_told : MethodName := ⟨RX12, "told", "(II)I"⟩
abbrev cX12_side : ByteArray := prog_14_method_29_code
def yX12_side : MethodName := ⟨RX12, "side", "(II)I"⟩
abbrev cX12_anew : ByteArray := prog_14_method_30_code
def yX12_anew : MethodName := ⟨RX12, "anew", "()I"⟩
abbrev cX12_signOf : ByteArray := prog_14_method_31_code
def yX12_signOf : MethodName := ⟨RX12, "signOf", "(II)I"⟩
abbrev cX12_enters : ByteArray := prog_14_method_32_code
def yX12_enters : MethodName := ⟨RX12, "enters", "(IIIII)V"⟩
abbrev cX12_calls : ByteArray := prog_14_method_33_code
def yX12_calls : MethodName := ⟨RX12, "calls", "(III)Z"⟩
abbrev cX12_takesSign : ByteArray := prog_14_method_34_code
def yX12_takesSign : MethodName := ⟨RX12, "takesSign", "(II)Z"⟩
abbrev cX12_works : ByteArray := prog_14_method_35_code
def yX12_works : MethodName := ⟨RX12, "works", "()I"⟩
abbrev cX12_valueOf : ByteArray := prog_14_method_36_code
def yX12_valueOf : MethodName := ⟨RX12, "valueOf", "(IIII)I"⟩
abbrev cX12_value : ByteArray := prog_14_method_37_code
def yX12_value : MethodName := ⟨RX12, "value", "(IIII)I"⟩
abbrev cX12_holdsBy : ByteArray := prog_14_method_38_code
def yX12_holdsBy : MethodName := ⟨RX12, "holdsBy", "(IIIII)I"⟩
abbrev cX12_holds : ByteArray := prog_14_method_39_code
def yX12_holds : MethodName := ⟨RX12, "holds", "(III)I"⟩
abbrev cX12_upTo : ByteArray := prog_14_method_40_code
def yX12_upTo : MethodName := ⟨RX12, "upTo", "(III)I"⟩
abbrev cX12_counterexample : ByteArray := prog_14_method_41_code
def yX12_counterexample : MethodName := ⟨RX12, "counterexample", "(II)I"⟩
abbrev cX12_counter : ByteArray := prog_14_method_42_code
def yX12_counter : MethodName := ⟨RX12, "counter", "(I)I"⟩
abbrev cX12_longOf : ByteArray := prog_14_method_43_code
def yX12_longOf : MethodName := ⟨RX12, "longOf", "(I)I"⟩
abbrev cX12_pushes : ByteArray := prog_14_method_44_code
def yX12_pushes : MethodName := ⟨RX12, "pushes", "(II)V"⟩
abbrev cX12_pushesSign : ByteArray := prog_14_method_45_code
def yX12_pushesSign : MethodName := ⟨RX12, "pushesSign", "(I)V"⟩
abbrev cX12_falls : ByteArray := prog_14_method_46_code
def yX12_falls : MethodName := ⟨RX12, "falls", "(I)V"⟩
abbrev cX12_joins : ByteArray := prog_14_method_47_code
def yX12_joins : MethodName := ⟨RX12, "joins", "(II)Z"⟩
abbrev cX12_bodyFor : ByteArray := prog_14_method_48_code
def yX12_bodyFor : MethodName := ⟨RX12, "bodyFor", "(I)I"⟩
abbrev cX12_normalizes : ByteArray := prog_14_method_49_code
def yX12_normalizes : MethodName := ⟨RX12, "normalizes", "(II)Z"⟩
abbrev cX12_makesNormal : ByteArray := prog_14_method_50_code
def yX12_makesNormal : MethodName := ⟨RX12, "makesNormal", "(II)Z"⟩
abbrev cX12_normal : ByteArray := prog_14_method_51_code
def yX12_normal : MethodName := ⟨RX12, "normal", "(II)I"⟩
abbrev cX12_callsIn : ByteArray := prog_14_method_52_code
def yX12_callsIn : MethodName := ⟨RX12, "callsIn", "(III)I"⟩
abbrev cX12_findScheme : ByteArray := prog_14_method_53_code
def yX12_findScheme : MethodName := ⟨RX12, "findScheme", "(II)Z"⟩
abbrev cX12_scheme : ByteArray := prog_14_method_54_code
def yX12_scheme : MethodName := ⟨RX12, "scheme", "(I)I"⟩
abbrev cX12_findDeep : ByteArray := prog_14_method_55_code
def yX12_findDeep : MethodName := ⟨RX12, "findDeep", "(I)V"⟩
abbrev cX12_atMost : ByteArray := prog_14_method_56_code
def yX12_atMost : MethodName := ⟨RX12, "atMost", "(I)I"⟩
abbrev cX12_heldAt : ByteArray := prog_14_method_57_code
def yX12_heldAt : MethodName := ⟨RX12, "heldAt", "(IIII)I"⟩
abbrev cX12_differenceOf : ByteArray := prog_14_method_58_code
def yX12_differenceOf : MethodName := ⟨RX12, "differenceOf", "(II)I"⟩
abbrev cX12_difference : ByteArray := prog_14_method_59_code
def yX12_difference : MethodName := ⟨RX12, "difference", "()I"⟩
abbrev cX12_binds : ByteArray := prog_14_method_60_code
def yX12_binds : MethodName := ⟨RX12, "binds", "(III)Z"⟩
abbrev cX12_matches : ByteArray := prog_14_method_61_code
def yX12_matches : MethodName := ⟨RX12, "matches", "(IIII)Z"⟩
abbrev cX12_longWith : ByteArray := prog_14_method_62_code
def yX12_longWith : MethodName := ⟨RX12, "longWith", "(I)I"⟩
abbrev cX12_replaces : ByteArray := prog_14_method_63_code
def yX12_replaces : MethodName := ⟨RX12, "replaces", "(III)Z"⟩
abbrev cX12_isPattern : ByteArray := prog_14_method_64_code
def yX12_isPattern : MethodName := ⟨RX12, "isPattern", "(II)Z"⟩
abbrev cX12_steersOnce : ByteArray := prog_14_method_65_code
def yX12_steersOnce : MethodName := ⟨RX12, "steersOnce", "(III)Z"⟩
abbrev cX12_steers : ByteArray := prog_14_method_66_code
def yX12_steers : MethodName := ⟨RX12, "steers", "(III)V"⟩
abbrev cX12_steered : ByteArray := prog_14_method_67_code
def yX12_steered : MethodName := ⟨RX12, "steered", "(I)I"⟩
abbrev cX12_isPartOf : ByteArray := prog_14_method_68_code
def yX12_isPartOf : MethodName := ⟨RX12, "isPartOf", "(IIII)Z"⟩
abbrev cX12_findCommon : ByteArray := prog_14_method_69_code
def yX12_findCommon : MethodName := ⟨RX12, "findCommon", "(II)Z"⟩
abbrev cX12_common : ByteArray := prog_14_method_70_code
def yX12_common : MethodName := ⟨RX12, "common", "(I)I"⟩
abbrev cX12_generalizes : ByteArray := prog_14_method_71_code
def yX12_generalizes : MethodName := ⟨RX12, "generalizes", "(IIII)V"⟩
abbrev cX12_makesGeneral : ByteArray := prog_14_method_72_code
def yX12_makesGeneral : MethodName := ⟨RX12, "makesGeneral", "(II)I"⟩
abbrev cX12_general : ByteArray := prog_14_method_73_code
def yX12_general : MethodName := ⟨RX12, "general", "(II)I"⟩
abbrev cX12_notesIt : ByteArray := prog_14_method_74_code
def yX12_notesIt : MethodName := ⟨RX12, "notesIt", "(II)V"⟩
abbrev cX12_slotOf : ByteArray := prog_14_method_75_code
def yX12_slotOf : MethodName := ⟨RX12, "slotOf", "(II)I"⟩
abbrev cX12_fails : ByteArray := prog_14_method_76_code
def yX12_fails : MethodName := ⟨RX12, "fails", "(IZ)I"⟩
abbrev cX12_isLemma : ByteArray := prog_14_method_77_code
def yX12_isLemma : MethodName := ⟨RX12, "isLemma", "(II)Z"⟩
abbrev cX12_proves : ByteArray := prog_14_method_78_code
def yX12_proves : MethodName := ⟨RX12, "proves", "()I"⟩
abbrev cX12_begins : ByteArray := prog_14_method_79_code
def yX12_begins : MethodName := ⟨RX12, "begins", "()I"⟩
abbrev cX12_takesCase : ByteArray := prog_14_method_80_code
def yX12_takesCase : MethodName := ⟨RX12, "takesCase", "(I)V"⟩
abbrev cX12_normalGoal : ByteArray := prog_14_method_81_code
def yX12_normalGoal : MethodName := ⟨RX12, "normalGoal", "()Z"⟩
abbrev cX12_usesClaim : ByteArray := prog_14_method_82_code
def yX12_usesClaim : MethodName := ⟨RX12, "usesClaim", "(I)I"⟩
abbrev cX12_carries : ByteArray := prog_14_method_83_code
def yX12_carries : MethodName := ⟨RX12, "carries", "()Z"⟩
abbrev cX12_guesses : ByteArray := prog_14_method_84_code
def yX12_guesses : MethodName := ⟨RX12, "guesses", "()I"⟩
abbrev cX12_nextCase : ByteArray := prog_14_method_85_code
def yX12_nextCase : MethodName := ⟨RX12, "nextCase", "()I"⟩
abbrev cX12_prove : ByteArray := prog_14_method_86_code
def yX12_prove : MethodName := ⟨RX12, "prove", "()I"⟩
abbrev cX12_why : ByteArray := prog_14_method_87_code
def yX12_why : MethodName := ⟨RX12, "why", "(I)I"⟩
abbrev cX12_script : ByteArray := prog_14_method_88_code
def yX12_script : MethodName := ⟨RX12, "script", "(II)I"⟩
abbrev cX12_isKnown : ByteArray := prog_14_method_89_code
def yX12_isKnown : MethodName := ⟨RX12, "isKnown", "(I)Z"⟩
abbrev cX12_lemma : ByteArray := prog_14_method_90_code
def yX12_lemma : MethodName := ⟨RX12, "lemma", "(III)I"⟩
abbrev cX12_tested : ByteArray := prog_14_method_91_code
def yX12_tested : MethodName := ⟨RX12, "tested", "(II)I"⟩
abbrev cX12_back : ByteArray := prog_14_method_92_code
def yX12_back : MethodName := ⟨RX12, "back", "()I"⟩
abbrev cX12_many : ByteArray := prog_14_method_93_code
def yX12_many : MethodName := ⟨RX12, "many", "(I)I"⟩
def RJ9 : String := "java/lang/Math"
def TJ9 : u_T := fun k => match k with
  | _ => ("", "", "", false)
def tyJ9 : Nat → FieldType := fun k => match k with
  | _ => .int
abbrev wsJ90 : List Cond := u_ws RJ9 TJ9 0
theorem nmJ9 : ∀ a, a < 0 → ∀ b, b < 0 → a ≠ b → (TJ9 a).2.1 ≠ (TJ9 b).2.1 := by decide +kernel
theorem tyJ9_ok : ∀ k, k < 0 → parseFieldDescriptor (TJ9 k).2.2.1 = some (tyJ9 k) := by decide +kernel
abbrev cJ9_max_7cf53 : ByteArray := prog_15_method_65_code
def yJ9_max_7cf53 : MethodName := ⟨RJ9, "max", "(II)I"⟩
abbrev cJ9_min_7cf53 : ByteArray := prog_15_method_69_code
def yJ9_min_7cf53 : MethodName := ⟨RJ9, "min", "(II)I"⟩
def RJ10 : String := "java/lang/System"
def TJ10 : u_T := fun k => match k with
  | _ => ("", "", "", false)
def tyJ10 : Nat → FieldType := fun k => match k with
  | _ => .int
abbrev wsJ100 : List Cond := u_ws RJ10 TJ10 0
theorem nmJ10 : ∀ a, a < 0 → ∀ b, b < 0 → a ≠ b → (TJ10 a).2.1 ≠ (TJ10 b).2.1 := by decide +kernel
theorem tyJ10_ok : ∀ k, k < 0 → parseFieldDescriptor (TJ10 k).2.2.1 = some (tyJ10 k) := by decide +kernel
def RL : String := "SteeredClaimsLaw"
abbrev cL_law : ByteArray := code
def yL_law : MethodName := ⟨RL, "law", "([I)Z"⟩
abbrev vwCl : List vw_C := [(RX0, TX0, 2), (RX1, TX1, 2), (RX2, TX2, 10), (RX3, TX3, 5), (RX4, TX4, 5), (RX5, TX5, 2), (RX6, TX6, 15), (RX7, TX7, 5), (RX8, TX8, 10), (RX9, TX9, 10), (RX10, TX10, 3), (RX11, TX11, 12), (RX12, TX12, 50)]
end
section
theorem dX12_init_0 : decode cX12_init 0 = .ok (.aload_n 0, 1) := by decide +kernel
theorem dX12_init_1 : decode cX12_init 1 = .ok (.invokespecial 1, 3) := by decide +kernel
theorem dX12_init_4 : decode cX12_init 4 = .ok (.aload_n 0, 1) := by decide +kernel
theorem dX12_init_5 : decode cX12_init 5 = .ok (.sipush 5632, 3) := by decide +kernel
theorem dX12_init_8 : decode cX12_init 8 = .ok (.newarray .int, 2) := by decide +kernel
theorem dX12_init_10 : decode cX12_init 10 = .ok (.putfield 7, 3) := by decide +kernel
theorem dX12_init_13 : decode cX12_init 13 = .ok (.aload_n 0, 1) := by decide +kernel
theorem dX12_init_14 : decode cX12_init 14 = .ok (.bipush 44, 2) := by decide +kernel
theorem dX12_init_16 : decode cX12_init 16 = .ok (.newarray .int, 2) := by decide +kernel
theorem dX12_init_18 : decode cX12_init 18 = .ok (.putfield 13, 3) := by decide +kernel
theorem dX12_init_21 : decode cX12_init 21 = .ok (.aload_n 0, 1) := by decide +kernel
theorem dX12_init_22 : decode cX12_init 22 = .ok (.bipush 48, 2) := by decide +kernel
theorem dX12_init_24 : decode cX12_init 24 = .ok (.newarray .int, 2) := by decide +kernel
theorem dX12_init_26 : decode cX12_init 26 = .ok (.putfield 16, 3) := by decide +kernel
theorem dX12_init_29 : decode cX12_init 29 = .ok (.aload_n 0, 1) := by decide +kernel
theorem dX12_init_30 : decode cX12_init 30 = .ok (.bipush 6, 2) := by decide +kernel
theorem dX12_init_32 : decode cX12_init 32 = .ok (.newarray .int, 2) := by decide +kernel
theorem dX12_init_34 : decode cX12_init 34 = .ok (.putfield 19, 3) := by decide +kernel
theorem dX12_init_37 : decode cX12_init 37 = .ok (.aload_n 0, 1) := by decide +kernel
theorem dX12_init_38 : decode cX12_init 38 = .ok (.bipush 6, 2) := by decide +kernel
theorem dX12_init_40 : decode cX12_init 40 = .ok (.newarray .int, 2) := by decide +kernel
theorem dX12_init_42 : decode cX12_init 42 = .ok (.putfield 22, 3) := by decide +kernel
theorem dX12_init_45 : decode cX12_init 45 = .ok (.aload_n 0, 1) := by decide +kernel
theorem dX12_init_46 : decode cX12_init 46 = .ok (.sipush 180, 3) := by decide +kernel
theorem dX12_init_49 : decode cX12_init 49 = .ok (.newarray .int, 2) := by decide +kernel
theorem dX12_init_51 : decode cX12_init 51 = .ok (.putfield 25, 3) := by decide +kernel
theorem dX12_init_54 : decode cX12_init 54 = .ok (.aload_n 0, 1) := by decide +kernel
theorem dX12_init_55 : decode cX12_init 55 = .ok (.bipush 18, 2) := by decide +kernel
theorem dX12_init_57 : decode cX12_init 57 = .ok (.newarray .int, 2) := by decide +kernel
theorem dX12_init_59 : decode cX12_init 59 = .ok (.putfield 28, 3) := by decide +kernel
theorem dX12_init_62 : decode cX12_init 62 = .ok (.aload_n 0, 1) := by decide +kernel
theorem dX12_init_63 : decode cX12_init 63 = .ok (.bipush 20, 2) := by decide +kernel
theorem dX12_init_65 : decode cX12_init 65 = .ok (.newarray .int, 2) := by decide +kernel
theorem dX12_init_67 : decode cX12_init 67 = .ok (.putfield 31, 3) := by decide +kernel
theorem dX12_init_70 : decode cX12_init 70 = .ok (.aload_n 0, 1) := by decide +kernel
theorem dX12_init_71 : decode cX12_init 71 = .ok (.sipush 460, 3) := by decide +kernel
theorem dX12_init_74 : decode cX12_init 74 = .ok (.newarray .int, 2) := by decide +kernel
theorem dX12_init_76 : decode cX12_init 76 = .ok (.putfield 34, 3) := by decide +kernel
theorem dX12_init_79 : decode cX12_init 79 = .ok (.aload_n 0, 1) := by decide +kernel
theorem dX12_init_80 : decode cX12_init 80 = .ok (.bipush 64, 2) := by decide +kernel
theorem dX12_init_82 : decode cX12_init 82 = .ok (.newarray .int, 2) := by decide +kernel
theorem dX12_init_84 : decode cX12_init 84 = .ok (.putfield 37, 3) := by decide +kernel
theorem dX12_init_87 : decode cX12_init 87 = .ok (.aload_n 0, 1) := by decide +kernel
theorem dX12_init_88 : decode cX12_init 88 = .ok (.bipush 64, 2) := by decide +kernel
theorem dX12_init_90 : decode cX12_init 90 = .ok (.newarray .int, 2) := by decide +kernel
theorem dX12_init_92 : decode cX12_init 92 = .ok (.putfield 40, 3) := by decide +kernel
theorem dX12_init_95 : decode cX12_init 95 = .ok (.aload_n 0, 1) := by decide +kernel
theorem dX12_init_96 : decode cX12_init 96 = .ok (.bipush 64, 2) := by decide +kernel
theorem dX12_init_98 : decode cX12_init 98 = .ok (.newarray .int, 2) := by decide +kernel
theorem dX12_init_100 : decode cX12_init 100 = .ok (.putfield 43, 3) := by decide +kernel
theorem dX12_init_103 : decode cX12_init 103 = .ok (.aload_n 0, 1) := by decide +kernel
theorem dX12_init_104 : decode cX12_init 104 = .ok (.bipush 64, 2) := by decide +kernel
theorem dX12_init_106 : decode cX12_init 106 = .ok (.newarray .int, 2) := by decide +kernel
theorem dX12_init_108 : decode cX12_init 108 = .ok (.putfield 46, 3) := by decide +kernel
theorem dX12_init_111 : decode cX12_init 111 = .ok (.aload_n 0, 1) := by decide +kernel
theorem dX12_init_112 : decode cX12_init 112 = .ok (.bipush 64, 2) := by decide +kernel
theorem dX12_init_114 : decode cX12_init 114 = .ok (.newarray .int, 2) := by decide +kernel
theorem dX12_init_116 : decode cX12_init 116 = .ok (.putfield 49, 3) := by decide +kernel
theorem dX12_init_119 : decode cX12_init 119 = .ok (.aload_n 0, 1) := by decide +kernel
theorem dX12_init_120 : decode cX12_init 120 = .ok (.sipush 16400, 3) := by decide +kernel
theorem dX12_init_123 : decode cX12_init 123 = .ok (.newarray .int, 2) := by decide +kernel
theorem dX12_init_125 : decode cX12_init 125 = .ok (.putfield 52, 3) := by decide +kernel
theorem dX12_init_128 : decode cX12_init 128 = .ok (.aload_n 0, 1) := by decide +kernel
theorem dX12_init_129 : decode cX12_init 129 = .ok (.sipush 440, 3) := by decide +kernel
theorem dX12_init_132 : decode cX12_init 132 = .ok (.newarray .int, 2) := by decide +kernel
theorem dX12_init_134 : decode cX12_init 134 = .ok (.putfield 55, 3) := by decide +kernel
theorem dX12_init_137 : decode cX12_init 137 = .ok (.aload_n 0, 1) := by decide +kernel
theorem dX12_init_138 : decode cX12_init 138 = .ok (.bipush 64, 2) := by decide +kernel
theorem dX12_init_140 : decode cX12_init 140 = .ok (.newarray .int, 2) := by decide +kernel
theorem dX12_init_142 : decode cX12_init 142 = .ok (.putfield 58, 3) := by decide +kernel
theorem dX12_init_145 : decode cX12_init 145 = .ok (.aload_n 0, 1) := by decide +kernel
theorem dX12_init_146 : decode cX12_init 146 = .ok (.sipush 1600, 3) := by decide +kernel
theorem dX12_init_149 : decode cX12_init 149 = .ok (.newarray .int, 2) := by decide +kernel
theorem dX12_init_151 : decode cX12_init 151 = .ok (.putfield 61, 3) := by decide +kernel
theorem dX12_init_154 : decode cX12_init 154 = .ok (.aload_n 0, 1) := by decide +kernel
theorem dX12_init_155 : decode cX12_init 155 = .ok (.bipush 40, 2) := by decide +kernel
theorem dX12_init_157 : decode cX12_init 157 = .ok (.newarray .int, 2) := by decide +kernel
theorem dX12_init_159 : decode cX12_init 159 = .ok (.putfield 64, 3) := by decide +kernel
theorem dX12_init_162 : decode cX12_init 162 = .ok (.aload_n 0, 1) := by decide +kernel
theorem dX12_init_163 : decode cX12_init 163 = .ok (.iconst 3, 1) := by decide +kernel
theorem dX12_init_164 : decode cX12_init 164 = .ok (.newarray .int, 2) := by decide +kernel
theorem dX12_init_166 : decode cX12_init 166 = .ok (.putfield 67, 3) := by decide +kernel
theorem dX12_init_169 : decode cX12_init 169 = .ok (.aload_n 0, 1) := by decide +kernel
theorem dX12_init_170 : decode cX12_init 170 = .ok (.iconst 3, 1) := by decide +kernel
theorem dX12_init_171 : decode cX12_init 171 = .ok (.newarray .int, 2) := by decide +kernel
theorem dX12_init_173 : decode cX12_init 173 = .ok (.putfield 70, 3) := by decide +kernel
theorem dX12_init_176 : decode cX12_init 176 = .ok (.aload_n 0, 1) := by decide +kernel
theorem dX12_init_177 : decode cX12_init 177 = .ok (.bipush 99, 2) := by decide +kernel
theorem dX12_init_179 : decode cX12_init 179 = .ok (.newarray .int, 2) := by decide +kernel
theorem dX12_init_181 : decode cX12_init 181 = .ok (.putfield 73, 3) := by decide +kernel
theorem dX12_init_184 : decode cX12_init 184 = .ok (.aload_n 0, 1) := by decide +kernel
theorem dX12_init_185 : decode cX12_init 185 = .ok (.bipush 99, 2) := by decide +kernel
theorem dX12_init_187 : decode cX12_init 187 = .ok (.newarray .int, 2) := by decide +kernel
theorem dX12_init_189 : decode cX12_init 189 = .ok (.putfield 76, 3) := by decide +kernel
theorem dX12_init_192 : decode cX12_init 192 = .ok (.aload_n 0, 1) := by decide +kernel
theorem dX12_init_193 : decode cX12_init 193 = .ok (.bipush (-9), 2) := by decide +kernel
theorem dX12_init_195 : decode cX12_init 195 = .ok (.putfield 79, 3) := by decide +kernel
theorem dX12_init_198 : decode cX12_init 198 = .ok (.aload_n 0, 1) := by decide +kernel
theorem dX12_init_199 : decode cX12_init 199 = .ok (.iconst 3, 1) := by decide +kernel
theorem dX12_init_200 : decode cX12_init 200 = .ok (.newarray .int, 2) := by decide +kernel
theorem dX12_init_202 : decode cX12_init 202 = .ok (.putfield 83, 3) := by decide +kernel
theorem dX12_init_205 : decode cX12_init 205 = .ok (.aload_n 0, 1) := by decide +kernel
theorem dX12_init_206 : decode cX12_init 206 = .ok (.iconst 3, 1) := by decide +kernel
theorem dX12_init_207 : decode cX12_init 207 = .ok (.newarray .int, 2) := by decide +kernel
theorem dX12_init_209 : decode cX12_init 209 = .ok (.putfield 86, 3) := by decide +kernel
theorem dX12_init_212 : decode cX12_init 212 = .ok (.aload_n 0, 1) := by decide +kernel
theorem dX12_init_213 : decode cX12_init 213 = .ok (.iconst 3, 1) := by decide +kernel
theorem dX12_init_214 : decode cX12_init 214 = .ok (.newarray .int, 2) := by decide +kernel
theorem dX12_init_216 : decode cX12_init 216 = .ok (.putfield 89, 3) := by decide +kernel
theorem dX12_init_219 : decode cX12_init 219 = .ok (.return_, 1) := by decide +kernel
theorem dX12_within_0 : decode cX12_within 0 = .ok (.iload_n 0, 1) := by decide +kernel
theorem dX12_within_1 : decode cX12_within 1 = .ok (.iload_n 1, 1) := by decide +kernel
theorem dX12_within_2 : decode cX12_within 2 = .ok (.if_icmp .lt 12, 3) := by decide +kernel
theorem dX12_within_5 : decode cX12_within 5 = .ok (.iload_n 0, 1) := by decide +kernel
theorem dX12_within_6 : decode cX12_within 6 = .ok (.iload_n 2, 1) := by decide +kernel
theorem dX12_within_7 : decode cX12_within 7 = .ok (.if_icmp .gt 7, 3) := by decide +kernel
theorem dX12_within_10 : decode cX12_within 10 = .ok (.iconst 1, 1) := by decide +kernel
theorem dX12_within_11 : decode cX12_within 11 = .ok (.goto 4, 3) := by decide +kernel
theorem dX12_within_14 : decode cX12_within 14 = .ok (.iconst 0, 1) := by decide +kernel
theorem dX12_within_15 : decode cX12_within 15 = .ok (.ireturn, 1) := by decide +kernel
theorem dX12_at_0 : decode cX12_at 0 = .ok (.aload_n 0, 1) := by decide +kernel
theorem dX12_at_1 : decode cX12_at 1 = .ok (.getfield 7, 3) := by decide +kernel
theorem dX12_at_4 : decode cX12_at 4 = .ok (.sipush 128, 3) := by decide +kernel
theorem dX12_at_7 : decode cX12_at 7 = .ok (.iload_n 1, 1) := by decide +kernel
theorem dX12_at_8 : decode cX12_at 8 = .ok (.imul, 1) := by decide +kernel
theorem dX12_at_9 : decode cX12_at 9 = .ok (.iload_n 2, 1) := by decide +kernel
theorem dX12_at_10 : decode cX12_at 10 = .ok (.iadd, 1) := by decide +kernel
theorem dX12_at_11 : decode cX12_at 11 = .ok (.iaload, 1) := by decide +kernel
theorem dX12_at_12 : decode cX12_at 12 = .ok (.ireturn, 1) := by decide +kernel
theorem dX12_puts_0 : decode cX12_puts 0 = .ok (.aload_n 0, 1) := by decide +kernel
theorem dX12_puts_1 : decode cX12_puts 1 = .ok (.getfield 7, 3) := by decide +kernel
theorem dX12_puts_4 : decode cX12_puts 4 = .ok (.sipush 128, 3) := by decide +kernel
theorem dX12_puts_7 : decode cX12_puts 7 = .ok (.iload_n 1, 1) := by decide +kernel
theorem dX12_puts_8 : decode cX12_puts 8 = .ok (.imul, 1) := by decide +kernel
theorem dX12_puts_9 : decode cX12_puts 9 = .ok (.aload_n 0, 1) := by decide +kernel
theorem dX12_puts_10 : decode cX12_puts 10 = .ok (.getfield 13, 3) := by decide +kernel
theorem dX12_puts_13 : decode cX12_puts 13 = .ok (.iload_n 1, 1) := by decide +kernel
theorem dX12_puts_14 : decode cX12_puts 14 = .ok (.iaload, 1) := by decide +kernel
theorem dX12_puts_15 : decode cX12_puts 15 = .ok (.iadd, 1) := by decide +kernel
theorem dX12_puts_16 : decode cX12_puts 16 = .ok (.iload_n 2, 1) := by decide +kernel
theorem dX12_puts_17 : decode cX12_puts 17 = .ok (.iastore, 1) := by decide +kernel
theorem dX12_puts_18 : decode cX12_puts 18 = .ok (.aload_n 0, 1) := by decide +kernel
theorem dX12_puts_19 : decode cX12_puts 19 = .ok (.getfield 13, 3) := by decide +kernel
theorem dX12_puts_22 : decode cX12_puts 22 = .ok (.iload_n 1, 1) := by decide +kernel
theorem dX12_puts_23 : decode cX12_puts 23 = .ok (.dup2, 1) := by decide +kernel
theorem dX12_puts_24 : decode cX12_puts 24 = .ok (.iaload, 1) := by decide +kernel
theorem dX12_puts_25 : decode cX12_puts 25 = .ok (.iconst 1, 1) := by decide +kernel
theorem dX12_puts_26 : decode cX12_puts 26 = .ok (.iadd, 1) := by decide +kernel
theorem dX12_puts_27 : decode cX12_puts 27 = .ok (.iastore, 1) := by decide +kernel
theorem dX12_puts_28 : decode cX12_puts 28 = .ok (.return_, 1) := by decide +kernel
theorem dX12_copies_0 : decode cX12_copies 0 = .ok (.aload_n 0, 1) := by decide +kernel
theorem dX12_copies_1 : decode cX12_copies 1 = .ok (.getfield 13, 3) := by decide +kernel
theorem dX12_copies_4 : decode cX12_copies 4 = .ok (.iload_n 2, 1) := by decide +kernel
theorem dX12_copies_5 : decode cX12_copies 5 = .ok (.aload_n 0, 1) := by decide +kernel
theorem dX12_copies_6 : decode cX12_copies 6 = .ok (.getfield 13, 3) := by decide +kernel
theorem dX12_copies_9 : decode cX12_copies 9 = .ok (.iload_n 1, 1) := by decide +kernel
theorem dX12_copies_10 : decode cX12_copies 10 = .ok (.iaload, 1) := by decide +kernel
theorem dX12_copies_11 : decode cX12_copies 11 = .ok (.iastore, 1) := by decide +kernel
theorem dX12_copies_12 : decode cX12_copies 12 = .ok (.iconst 0, 1) := by decide +kernel
theorem dX12_copies_13 : decode cX12_copies 13 = .ok (.istore_n 3, 1) := by decide +kernel
theorem dX12_copies_14 : decode cX12_copies 14 = .ok (.iload_n 3, 1) := by decide +kernel
theorem dX12_copies_15 : decode cX12_copies 15 = .ok (.aload_n 0, 1) := by decide +kernel
theorem dX12_copies_16 : decode cX12_copies 16 = .ok (.getfield 13, 3) := by decide +kernel
theorem dX12_copies_19 : decode cX12_copies 19 = .ok (.iload_n 1, 1) := by decide +kernel
theorem dX12_copies_20 : decode cX12_copies 20 = .ok (.iaload, 1) := by decide +kernel
theorem dX12_copies_21 : decode cX12_copies 21 = .ok (.if_icmp .ge 27, 3) := by decide +kernel
theorem dX12_copies_24 : decode cX12_copies 24 = .ok (.aload_n 0, 1) := by decide +kernel
theorem dX12_copies_25 : decode cX12_copies 25 = .ok (.getfield 7, 3) := by decide +kernel
theorem dX12_copies_28 : decode cX12_copies 28 = .ok (.sipush 128, 3) := by decide +kernel
theorem dX12_copies_31 : decode cX12_copies 31 = .ok (.iload_n 2, 1) := by decide +kernel
theorem dX12_copies_32 : decode cX12_copies 32 = .ok (.imul, 1) := by decide +kernel
theorem dX12_copies_33 : decode cX12_copies 33 = .ok (.iload_n 3, 1) := by decide +kernel
theorem dX12_copies_34 : decode cX12_copies 34 = .ok (.iadd, 1) := by decide +kernel
theorem dX12_copies_35 : decode cX12_copies 35 = .ok (.aload_n 0, 1) := by decide +kernel
theorem dX12_copies_36 : decode cX12_copies 36 = .ok (.iload_n 1, 1) := by decide +kernel
theorem dX12_copies_37 : decode cX12_copies 37 = .ok (.iload_n 3, 1) := by decide +kernel
theorem dX12_copies_38 : decode cX12_copies 38 = .ok (.invokevirtual 92, 3) := by decide +kernel
theorem dX12_copies_41 : decode cX12_copies 41 = .ok (.iastore, 1) := by decide +kernel
theorem dX12_copies_42 : decode cX12_copies 42 = .ok (.iinc 3 1, 3) := by decide +kernel
theorem dX12_copies_45 : decode cX12_copies 45 = .ok (.goto (-31), 3) := by decide +kernel
theorem dX12_copies_48 : decode cX12_copies 48 = .ok (.return_, 1) := by decide +kernel
theorem dX12_isVariable_0 : decode cX12_isVariable 0 = .ok (.iload_n 0, 1) := by decide +kernel
theorem dX12_isVariable_1 : decode cX12_isVariable 1 = .ok (.bipush 120, 2) := by decide +kernel
theorem dX12_isVariable_3 : decode cX12_isVariable 3 = .ok (.bipush 122, 2) := by decide +kernel
theorem dX12_isVariable_5 : decode cX12_isVariable 5 = .ok (.invokestatic 96, 3) := by decide +kernel
theorem dX12_isVariable_8 : decode cX12_isVariable 8 = .ok (.ireturn, 1) := by decide +kernel
theorem dX12_isLetter_0 : decode cX12_isLetter 0 = .ok (.iload_n 0, 1) := by decide +kernel
theorem dX12_isLetter_1 : decode cX12_isLetter 1 = .ok (.bipush 97, 2) := by decide +kernel
theorem dX12_isLetter_3 : decode cX12_isLetter 3 = .ok (.bipush 102, 2) := by decide +kernel
theorem dX12_isLetter_5 : decode cX12_isLetter 5 = .ok (.invokestatic 96, 3) := by decide +kernel
theorem dX12_isLetter_8 : decode cX12_isLetter 8 = .ok (.ireturn, 1) := by decide +kernel
theorem dX12_arity_0 : decode cX12_arity 0 = .ok (.iload_n 1, 1) := by decide +kernel
theorem dX12_arity_1 : decode cX12_arity 1 = .ok (.bipush 83, 2) := by decide +kernel
theorem dX12_arity_3 : decode cX12_arity 3 = .ok (.if_icmp .ne 7, 3) := by decide +kernel
theorem dX12_arity_6 : decode cX12_arity 6 = .ok (.iconst 1, 1) := by decide +kernel
theorem dX12_arity_7 : decode cX12_arity 7 = .ok (.goto 23, 3) := by decide +kernel
theorem dX12_arity_10 : decode cX12_arity 10 = .ok (.iload_n 1, 1) := by decide +kernel
theorem dX12_arity_11 : decode cX12_arity 11 = .ok (.invokestatic 100, 3) := by decide +kernel
theorem dX12_arity_14 : decode cX12_arity 14 = .ok (.ifCond .eq 15, 3) := by decide +kernel
theorem dX12_arity_17 : decode cX12_arity 17 = .ok (.aload_n 0, 1) := by decide +kernel
theorem dX12_arity_18 : decode cX12_arity 18 = .ok (.getfield 19, 3) := by decide +kernel
theorem dX12_arity_21 : decode cX12_arity 21 = .ok (.iload_n 1, 1) := by decide +kernel
theorem dX12_arity_22 : decode cX12_arity 22 = .ok (.bipush 97, 2) := by decide +kernel
theorem dX12_arity_24 : decode cX12_arity 24 = .ok (.isub, 1) := by decide +kernel
theorem dX12_arity_25 : decode cX12_arity 25 = .ok (.iaload, 1) := by decide +kernel
theorem dX12_arity_26 : decode cX12_arity 26 = .ok (.goto 4, 3) := by decide +kernel
theorem dX12_arity_29 : decode cX12_arity 29 = .ok (.iconst 0, 1) := by decide +kernel
theorem dX12_arity_30 : decode cX12_arity 30 = .ok (.ireturn, 1) := by decide +kernel
theorem dX12_end_0 : decode cX12_end 0 = .ok (.iconst 1, 1) := by decide +kernel
theorem dX12_end_1 : decode cX12_end 1 = .ok (.istore_n 3, 1) := by decide +kernel
theorem dX12_end_2 : decode cX12_end 2 = .ok (.iload_n 2, 1) := by decide +kernel
theorem dX12_end_3 : decode cX12_end 3 = .ok (.istore 4, 2) := by decide +kernel
theorem dX12_end_5 : decode cX12_end 5 = .ok (.iload_n 3, 1) := by decide +kernel
theorem dX12_end_6 : decode cX12_end 6 = .ok (.ifCond .le 25, 3) := by decide +kernel
theorem dX12_end_9 : decode cX12_end 9 = .ok (.iload_n 3, 1) := by decide +kernel
theorem dX12_end_10 : decode cX12_end 10 = .ok (.aload_n 0, 1) := by decide +kernel
theorem dX12_end_11 : decode cX12_end 11 = .ok (.aload_n 0, 1) := by decide +kernel
theorem dX12_end_12 : decode cX12_end 12 = .ok (.iload_n 1, 1) := by decide +kernel
theorem dX12_end_13 : decode cX12_end 13 = .ok (.iload 4, 2) := by decide +kernel
theorem dX12_end_15 : decode cX12_end 15 = .ok (.invokevirtual 92, 3) := by decide +kernel
theorem dX12_end_18 : decode cX12_end 18 = .ok (.invokevirtual 104, 3) := by decide +kernel
theorem dX12_end_21 : decode cX12_end 21 = .ok (.iconst 1, 1) := by decide +kernel
theorem dX12_end_22 : decode cX12_end 22 = .ok (.isub, 1) := by decide +kernel
theorem dX12_end_23 : decode cX12_end 23 = .ok (.iadd, 1) := by decide +kernel
theorem dX12_end_24 : decode cX12_end 24 = .ok (.istore_n 3, 1) := by decide +kernel
theorem dX12_end_25 : decode cX12_end 25 = .ok (.iinc 4 1, 3) := by decide +kernel
theorem dX12_end_28 : decode cX12_end 28 = .ok (.goto (-23), 3) := by decide +kernel
theorem dX12_end_31 : decode cX12_end 31 = .ok (.iload 4, 2) := by decide +kernel
theorem dX12_end_33 : decode cX12_end 33 = .ok (.ireturn, 1) := by decide +kernel
theorem dX12_areSame_0 : decode cX12_areSame 0 = .ok (.aload_n 0, 1) := by decide +kernel
theorem dX12_areSame_1 : decode cX12_areSame 1 = .ok (.getfield 13, 3) := by decide +kernel
theorem dX12_areSame_4 : decode cX12_areSame 4 = .ok (.iload_n 1, 1) := by decide +kernel
theorem dX12_areSame_5 : decode cX12_areSame 5 = .ok (.iaload, 1) := by decide +kernel
theorem dX12_areSame_6 : decode cX12_areSame 6 = .ok (.aload_n 0, 1) := by decide +kernel
theorem dX12_areSame_7 : decode cX12_areSame 7 = .ok (.getfield 13, 3) := by decide +kernel
theorem dX12_areSame_10 : decode cX12_areSame 10 = .ok (.iload_n 2, 1) := by decide +kernel
theorem dX12_areSame_11 : decode cX12_areSame 11 = .ok (.iaload, 1) := by decide +kernel
theorem dX12_areSame_12 : decode cX12_areSame 12 = .ok (.if_icmp .ne 7, 3) := by decide +kernel
theorem dX12_areSame_15 : decode cX12_areSame 15 = .ok (.iconst 1, 1) := by decide +kernel
theorem dX12_areSame_16 : decode cX12_areSame 16 = .ok (.goto 4, 3) := by decide +kernel
theorem dX12_areSame_19 : decode cX12_areSame 19 = .ok (.iconst 0, 1) := by decide +kernel
theorem dX12_areSame_20 : decode cX12_areSame 20 = .ok (.istore_n 3, 1) := by decide +kernel
theorem dX12_areSame_21 : decode cX12_areSame 21 = .ok (.iconst 0, 1) := by decide +kernel
theorem dX12_areSame_22 : decode cX12_areSame 22 = .ok (.istore 4, 2) := by decide +kernel
theorem dX12_areSame_24 : decode cX12_areSame 24 = .ok (.iload 4, 2) := by decide +kernel
theorem dX12_areSame_26 : decode cX12_areSame 26 = .ok (.aload_n 0, 1) := by decide +kernel
theorem dX12_areSame_27 : decode cX12_areSame 27 = .ok (.getfield 13, 3) := by decide +kernel
theorem dX12_areSame_30 : decode cX12_areSame 30 = .ok (.iload_n 1, 1) := by decide +kernel
theorem dX12_areSame_31 : decode cX12_areSame 31 = .ok (.iaload, 1) := by decide +kernel
theorem dX12_areSame_32 : decode cX12_areSame 32 = .ok (.if_icmp .ge 36, 3) := by decide +kernel
theorem dX12_areSame_35 : decode cX12_areSame 35 = .ok (.iload_n 3, 1) := by decide +kernel
theorem dX12_areSame_36 : decode cX12_areSame 36 = .ok (.ifCond .eq 32, 3) := by decide +kernel
theorem dX12_areSame_39 : decode cX12_areSame 39 = .ok (.aload_n 0, 1) := by decide +kernel
theorem dX12_areSame_40 : decode cX12_areSame 40 = .ok (.iload_n 1, 1) := by decide +kernel
theorem dX12_areSame_41 : decode cX12_areSame 41 = .ok (.iload 4, 2) := by decide +kernel
theorem dX12_areSame_43 : decode cX12_areSame 43 = .ok (.invokevirtual 92, 3) := by decide +kernel
theorem dX12_areSame_46 : decode cX12_areSame 46 = .ok (.aload_n 0, 1) := by decide +kernel
theorem dX12_areSame_47 : decode cX12_areSame 47 = .ok (.iload_n 2, 1) := by decide +kernel
theorem dX12_areSame_48 : decode cX12_areSame 48 = .ok (.iload 4, 2) := by decide +kernel
theorem dX12_areSame_50 : decode cX12_areSame 50 = .ok (.invokevirtual 92, 3) := by decide +kernel
theorem dX12_areSame_53 : decode cX12_areSame 53 = .ok (.if_icmp .ne 7, 3) := by decide +kernel
theorem dX12_areSame_56 : decode cX12_areSame 56 = .ok (.iconst 1, 1) := by decide +kernel
theorem dX12_areSame_57 : decode cX12_areSame 57 = .ok (.goto 4, 3) := by decide +kernel
theorem dX12_areSame_60 : decode cX12_areSame 60 = .ok (.iconst 0, 1) := by decide +kernel
theorem dX12_areSame_61 : decode cX12_areSame 61 = .ok (.istore_n 3, 1) := by decide +kernel
theorem dX12_areSame_62 : decode cX12_areSame 62 = .ok (.iinc 4 1, 3) := by decide +kernel
theorem dX12_areSame_65 : decode cX12_areSame 65 = .ok (.goto (-41), 3) := by decide +kernel
theorem dX12_areSame_68 : decode cX12_areSame 68 = .ok (.iload_n 3, 1) := by decide +kernel
theorem dX12_areSame_69 : decode cX12_areSame 69 = .ok (.ireturn, 1) := by decide +kernel
theorem dX12_isSamePart_0 : decode cX12_isSamePart 0 = .ok (.iconst 0, 1) := by decide +kernel
theorem dX12_isSamePart_1 : decode cX12_isSamePart 1 = .ok (.istore 6, 2) := by decide +kernel
theorem dX12_isSamePart_3 : decode cX12_isSamePart 3 = .ok (.iload 6, 2) := by decide +kernel
theorem dX12_isSamePart_5 : decode cX12_isSamePart 5 = .ok (.iload 5, 2) := by decide +kernel
theorem dX12_isSamePart_7 : decode cX12_isSamePart 7 = .ok (.if_icmp .ge 33, 3) := by decide +kernel
theorem dX12_isSamePart_10 : decode cX12_isSamePart 10 = .ok (.aload_n 0, 1) := by decide +kernel
theorem dX12_isSamePart_11 : decode cX12_isSamePart 11 = .ok (.iload_n 1, 1) := by decide +kernel
theorem dX12_isSamePart_12 : decode cX12_isSamePart 12 = .ok (.iload_n 2, 1) := by decide +kernel
theorem dX12_isSamePart_13 : decode cX12_isSamePart 13 = .ok (.iload 6, 2) := by decide +kernel
theorem dX12_isSamePart_15 : decode cX12_isSamePart 15 = .ok (.iadd, 1) := by decide +kernel
theorem dX12_isSamePart_16 : decode cX12_isSamePart 16 = .ok (.invokevirtual 92, 3) := by decide +kernel
theorem dX12_isSamePart_19 : decode cX12_isSamePart 19 = .ok (.aload_n 0, 1) := by decide +kernel
theorem dX12_isSamePart_20 : decode cX12_isSamePart 20 = .ok (.iload_n 3, 1) := by decide +kernel
theorem dX12_isSamePart_21 : decode cX12_isSamePart 21 = .ok (.iload 4, 2) := by decide +kernel
theorem dX12_isSamePart_23 : decode cX12_isSamePart 23 = .ok (.iload 6, 2) := by decide +kernel
theorem dX12_isSamePart_25 : decode cX12_isSamePart 25 = .ok (.iadd, 1) := by decide +kernel
theorem dX12_isSamePart_26 : decode cX12_isSamePart 26 = .ok (.invokevirtual 92, 3) := by decide +kernel
theorem dX12_isSamePart_29 : decode cX12_isSamePart 29 = .ok (.if_icmp .eq 5, 3) := by decide +kernel
theorem dX12_isSamePart_32 : decode cX12_isSamePart 32 = .ok (.iconst 0, 1) := by decide +kernel
theorem dX12_isSamePart_33 : decode cX12_isSamePart 33 = .ok (.ireturn, 1) := by decide +kernel
theorem dX12_isSamePart_34 : decode cX12_isSamePart 34 = .ok (.iinc 6 1, 3) := by decide +kernel
theorem dX12_isSamePart_37 : decode cX12_isSamePart 37 = .ok (.goto (-34), 3) := by decide +kernel
theorem dX12_isSamePart_40 : decode cX12_isSamePart 40 = .ok (.iconst 1, 1) := by decide +kernel
theorem dX12_isSamePart_41 : decode cX12_isSamePart 41 = .ok (.ireturn, 1) := by decide +kernel
theorem dX12_hasSign_0 : decode cX12_hasSign 0 = .ok (.iconst 0, 1) := by decide +kernel
theorem dX12_hasSign_1 : decode cX12_hasSign 1 = .ok (.istore_n 3, 1) := by decide +kernel
theorem dX12_hasSign_2 : decode cX12_hasSign 2 = .ok (.iload_n 3, 1) := by decide +kernel
theorem dX12_hasSign_3 : decode cX12_hasSign 3 = .ok (.aload_n 0, 1) := by decide +kernel
theorem dX12_hasSign_4 : decode cX12_hasSign 4 = .ok (.getfield 13, 3) := by decide +kernel
theorem dX12_hasSign_7 : decode cX12_hasSign 7 = .ok (.iload_n 1, 1) := by decide +kernel
theorem dX12_hasSign_8 : decode cX12_hasSign 8 = .ok (.iaload, 1) := by decide +kernel
theorem dX12_hasSign_9 : decode cX12_hasSign 9 = .ok (.if_icmp .ge 21, 3) := by decide +kernel
theorem dX12_hasSign_12 : decode cX12_hasSign 12 = .ok (.aload_n 0, 1) := by decide +kernel
theorem dX12_hasSign_13 : decode cX12_hasSign 13 = .ok (.iload_n 1, 1) := by decide +kernel
theorem dX12_hasSign_14 : decode cX12_hasSign 14 = .ok (.iload_n 3, 1) := by decide +kernel
theorem dX12_hasSign_15 : decode cX12_hasSign 15 = .ok (.invokevirtual 92, 3) := by decide +kernel
theorem dX12_hasSign_18 : decode cX12_hasSign 18 = .ok (.iload_n 2, 1) := by decide +kernel
theorem dX12_hasSign_19 : decode cX12_hasSign 19 = .ok (.if_icmp .ne 5, 3) := by decide +kernel
theorem dX12_hasSign_22 : decode cX12_hasSign 22 = .ok (.iconst 1, 1) := by decide +kernel
theorem dX12_hasSign_23 : decode cX12_hasSign 23 = .ok (.ireturn, 1) := by decide +kernel
theorem dX12_hasSign_24 : decode cX12_hasSign 24 = .ok (.iinc 3 1, 3) := by decide +kernel
theorem dX12_hasSign_27 : decode cX12_hasSign 27 = .ok (.goto (-25), 3) := by decide +kernel
theorem dX12_hasSign_30 : decode cX12_hasSign 30 = .ok (.iconst 0, 1) := by decide +kernel
theorem dX12_hasSign_31 : decode cX12_hasSign 31 = .ok (.ireturn, 1) := by decide +kernel
theorem dX12_type_0 : decode cX12_type 0 = .ok (.iload_n 1, 1) := by decide +kernel
theorem dX12_type_1 : decode cX12_type 1 = .ok (.iconst 0, 1) := by decide +kernel
theorem dX12_type_2 : decode cX12_type 2 = .ok (.bipush 127, 2) := by decide +kernel
theorem dX12_type_4 : decode cX12_type 4 = .ok (.invokestatic 96, 3) := by decide +kernel
theorem dX12_type_7 : decode cX12_type 7 = .ok (.ifCond .ne 6, 3) := by decide +kernel
theorem dX12_type_10 : decode cX12_type 10 = .ok (.bipush (-2), 2) := by decide +kernel
theorem dX12_type_12 : decode cX12_type 12 = .ok (.ireturn, 1) := by decide +kernel
theorem dX12_type_13 : decode cX12_type 13 = .ok (.aload_n 0, 1) := by decide +kernel
theorem dX12_type_14 : decode cX12_type 14 = .ok (.getfield 108, 3) := by decide +kernel
theorem dX12_type_17 : decode cX12_type 17 = .ok (.bipush 48, 2) := by decide +kernel
theorem dX12_type_19 : decode cX12_type 19 = .ok (.if_icmp .ne 6, 3) := by decide +kernel
theorem dX12_type_22 : decode cX12_type 22 = .ok (.bipush (-4), 2) := by decide +kernel
theorem dX12_type_24 : decode cX12_type 24 = .ok (.ireturn, 1) := by decide +kernel
theorem dX12_type_25 : decode cX12_type 25 = .ok (.aload_n 0, 1) := by decide +kernel
theorem dX12_type_26 : decode cX12_type 26 = .ok (.getfield 16, 3) := by decide +kernel
theorem dX12_type_29 : decode cX12_type 29 = .ok (.aload_n 0, 1) := by decide +kernel
theorem dX12_type_30 : decode cX12_type 30 = .ok (.getfield 108, 3) := by decide +kernel
theorem dX12_type_33 : decode cX12_type 33 = .ok (.iload_n 1, 1) := by decide +kernel
theorem dX12_type_34 : decode cX12_type 34 = .ok (.iastore, 1) := by decide +kernel
theorem dX12_type_35 : decode cX12_type 35 = .ok (.aload_n 0, 1) := by decide +kernel
theorem dX12_type_36 : decode cX12_type 36 = .ok (.dup, 1) := by decide +kernel
theorem dX12_type_37 : decode cX12_type 37 = .ok (.getfield 108, 3) := by decide +kernel
theorem dX12_type_40 : decode cX12_type 40 = .ok (.iconst 1, 1) := by decide +kernel
theorem dX12_type_41 : decode cX12_type 41 = .ok (.iadd, 1) := by decide +kernel
theorem dX12_type_42 : decode cX12_type 42 = .ok (.putfield 108, 3) := by decide +kernel
theorem dX12_type_45 : decode cX12_type 45 = .ok (.aload_n 0, 1) := by decide +kernel
theorem dX12_type_46 : decode cX12_type 46 = .ok (.getfield 108, 3) := by decide +kernel
theorem dX12_type_49 : decode cX12_type 49 = .ok (.ireturn, 1) := by decide +kernel
theorem dX12_wipe_0 : decode cX12_wipe 0 = .ok (.aload_n 0, 1) := by decide +kernel
theorem dX12_wipe_1 : decode cX12_wipe 1 = .ok (.getfield 108, 3) := by decide +kernel
theorem dX12_wipe_4 : decode cX12_wipe 4 = .ok (.istore_n 1, 1) := by decide +kernel
theorem dX12_wipe_5 : decode cX12_wipe 5 = .ok (.aload_n 0, 1) := by decide +kernel
theorem dX12_wipe_6 : decode cX12_wipe 6 = .ok (.iconst 0, 1) := by decide +kernel
theorem dX12_wipe_7 : decode cX12_wipe 7 = .ok (.putfield 108, 3) := by decide +kernel
theorem dX12_wipe_10 : decode cX12_wipe 10 = .ok (.iload_n 1, 1) := by decide +kernel
theorem dX12_wipe_11 : decode cX12_wipe 11 = .ok (.ireturn, 1) := by decide +kernel
theorem dX12_partsOf_0 : decode cX12_partsOf 0 = .ok (.iload_n 1, 1) := by decide +kernel
theorem dX12_partsOf_1 : decode cX12_partsOf 1 = .ok (.bipush 90, 2) := by decide +kernel
theorem dX12_partsOf_3 : decode cX12_partsOf 3 = .ok (.if_icmp .eq 9, 3) := by decide +kernel
theorem dX12_partsOf_6 : decode cX12_partsOf 6 = .ok (.iload_n 1, 1) := by decide +kernel
theorem dX12_partsOf_7 : decode cX12_partsOf 7 = .ok (.bipush 83, 2) := by decide +kernel
theorem dX12_partsOf_9 : decode cX12_partsOf 9 = .ok (.if_icmp .ne 15, 3) := by decide +kernel
theorem dX12_partsOf_12 : decode cX12_partsOf 12 = .ok (.iload_n 1, 1) := by decide +kernel
theorem dX12_partsOf_13 : decode cX12_partsOf 13 = .ok (.bipush 83, 2) := by decide +kernel
theorem dX12_partsOf_15 : decode cX12_partsOf 15 = .ok (.if_icmp .ne 7, 3) := by decide +kernel
theorem dX12_partsOf_18 : decode cX12_partsOf 18 = .ok (.iconst 1, 1) := by decide +kernel
theorem dX12_partsOf_19 : decode cX12_partsOf 19 = .ok (.goto 4, 3) := by decide +kernel
theorem dX12_partsOf_22 : decode cX12_partsOf 22 = .ok (.iconst 0, 1) := by decide +kernel
theorem dX12_partsOf_23 : decode cX12_partsOf 23 = .ok (.ireturn, 1) := by decide +kernel
theorem dX12_partsOf_24 : decode cX12_partsOf 24 = .ok (.iload_n 1, 1) := by decide +kernel
theorem dX12_partsOf_25 : decode cX12_partsOf 25 = .ok (.invokestatic 111, 3) := by decide +kernel
theorem dX12_partsOf_28 : decode cX12_partsOf 28 = .ok (.ifCond .eq 39, 3) := by decide +kernel
theorem dX12_partsOf_31 : decode cX12_partsOf 31 = .ok (.iload_n 1, 1) := by decide +kernel
theorem dX12_partsOf_32 : decode cX12_partsOf 32 = .ok (.bipush 120, 2) := by decide +kernel
theorem dX12_partsOf_34 : decode cX12_partsOf 34 = .ok (.if_icmp .ne 7, 3) := by decide +kernel
theorem dX12_partsOf_37 : decode cX12_partsOf 37 = .ok (.iload_n 2, 1) := by decide +kernel
theorem dX12_partsOf_38 : decode cX12_partsOf 38 = .ok (.goto 15, 3) := by decide +kernel
theorem dX12_partsOf_41 : decode cX12_partsOf 41 = .ok (.iload_n 1, 1) := by decide +kernel
theorem dX12_partsOf_42 : decode cX12_partsOf 42 = .ok (.bipush 121, 2) := by decide +kernel
theorem dX12_partsOf_44 : decode cX12_partsOf 44 = .ok (.if_icmp .ne 7, 3) := by decide +kernel
theorem dX12_partsOf_47 : decode cX12_partsOf 47 = .ok (.iload_n 3, 1) := by decide +kernel
theorem dX12_partsOf_48 : decode cX12_partsOf 48 = .ok (.goto 5, 3) := by decide +kernel
theorem dX12_partsOf_51 : decode cX12_partsOf 51 = .ok (.iload 4, 2) := by decide +kernel
theorem dX12_partsOf_53 : decode cX12_partsOf 53 = .ok (.istore 7, 2) := by decide +kernel
theorem dX12_partsOf_55 : decode cX12_partsOf 55 = .ok (.iload 7, 2) := by decide +kernel
theorem dX12_partsOf_57 : decode cX12_partsOf 57 = .ok (.ifCond .eq 7, 3) := by decide +kernel
theorem dX12_partsOf_60 : decode cX12_partsOf 60 = .ok (.iconst 0, 1) := by decide +kernel
theorem dX12_partsOf_61 : decode cX12_partsOf 61 = .ok (.goto 5, 3) := by decide +kernel
theorem dX12_partsOf_64 : decode cX12_partsOf 64 = .ok (.bipush (-9), 2) := by decide +kernel
theorem dX12_partsOf_66 : decode cX12_partsOf 66 = .ok (.ireturn, 1) := by decide +kernel
theorem dX12_partsOf_67 : decode cX12_partsOf 67 = .ok (.iload_n 1, 1) := by decide +kernel
theorem dX12_partsOf_68 : decode cX12_partsOf 68 = .ok (.bipush 97, 2) := by decide +kernel
theorem dX12_partsOf_70 : decode cX12_partsOf 70 = .ok (.bipush 97, 2) := by decide +kernel
theorem dX12_partsOf_72 : decode cX12_partsOf 72 = .ok (.iload 5, 2) := by decide +kernel
theorem dX12_partsOf_74 : decode cX12_partsOf 74 = .ok (.iadd, 1) := by decide +kernel
theorem dX12_partsOf_75 : decode cX12_partsOf 75 = .ok (.iconst 1, 1) := by decide +kernel
theorem dX12_partsOf_76 : decode cX12_partsOf 76 = .ok (.isub, 1) := by decide +kernel
theorem dX12_partsOf_77 : decode cX12_partsOf 77 = .ok (.invokestatic 96, 3) := by decide +kernel
theorem dX12_partsOf_80 : decode cX12_partsOf 80 = .ok (.ifCond .eq 13, 3) := by decide +kernel
theorem dX12_partsOf_83 : decode cX12_partsOf 83 = .ok (.aload_n 0, 1) := by decide +kernel
theorem dX12_partsOf_84 : decode cX12_partsOf 84 = .ok (.getfield 19, 3) := by decide +kernel
theorem dX12_partsOf_87 : decode cX12_partsOf 87 = .ok (.iload_n 1, 1) := by decide +kernel
theorem dX12_partsOf_88 : decode cX12_partsOf 88 = .ok (.bipush 97, 2) := by decide +kernel
theorem dX12_partsOf_90 : decode cX12_partsOf 90 = .ok (.isub, 1) := by decide +kernel
theorem dX12_partsOf_91 : decode cX12_partsOf 91 = .ok (.iaload, 1) := by decide +kernel
theorem dX12_partsOf_92 : decode cX12_partsOf 92 = .ok (.ireturn, 1) := by decide +kernel
theorem dX12_partsOf_93 : decode cX12_partsOf 93 = .ok (.iload 6, 2) := by decide +kernel
theorem dX12_partsOf_95 : decode cX12_partsOf 95 = .ok (.ifCond .eq 19, 3) := by decide +kernel
theorem dX12_partsOf_98 : decode cX12_partsOf 98 = .ok (.iload_n 1, 1) := by decide +kernel
theorem dX12_partsOf_99 : decode cX12_partsOf 99 = .ok (.bipush 97, 2) := by decide +kernel
theorem dX12_partsOf_101 : decode cX12_partsOf 101 = .ok (.iload 5, 2) := by decide +kernel
theorem dX12_partsOf_103 : decode cX12_partsOf 103 = .ok (.iadd, 1) := by decide +kernel
theorem dX12_partsOf_104 : decode cX12_partsOf 104 = .ok (.if_icmp .ne 10, 3) := by decide +kernel
theorem dX12_partsOf_107 : decode cX12_partsOf 107 = .ok (.aload_n 0, 1) := by decide +kernel
theorem dX12_partsOf_108 : decode cX12_partsOf 108 = .ok (.getfield 114, 3) := by decide +kernel
theorem dX12_partsOf_111 : decode cX12_partsOf 111 = .ok (.goto 5, 3) := by decide +kernel
theorem dX12_partsOf_114 : decode cX12_partsOf 114 = .ok (.bipush (-9), 2) := by decide +kernel
theorem dX12_partsOf_116 : decode cX12_partsOf 116 = .ok (.ireturn, 1) := by decide +kernel
theorem dX12_readsTerm_0 : decode cX12_readsTerm 0 = .ok (.aload_n 0, 1) := by decide +kernel
theorem dX12_readsTerm_1 : decode cX12_readsTerm 1 = .ok (.iconst 0, 1) := by decide +kernel
theorem dX12_readsTerm_2 : decode cX12_readsTerm 2 = .ok (.putfield 117, 3) := by decide +kernel
theorem dX12_readsTerm_5 : decode cX12_readsTerm 5 = .ok (.iconst 1, 1) := by decide +kernel
theorem dX12_readsTerm_6 : decode cX12_readsTerm 6 = .ok (.istore 7, 2) := by decide +kernel
theorem dX12_readsTerm_8 : decode cX12_readsTerm 8 = .ok (.iconst 0, 1) := by decide +kernel
theorem dX12_readsTerm_9 : decode cX12_readsTerm 9 = .ok (.istore 8, 2) := by decide +kernel
theorem dX12_readsTerm_11 : decode cX12_readsTerm 11 = .ok (.iload 7, 2) := by decide +kernel
theorem dX12_readsTerm_13 : decode cX12_readsTerm 13 = .ok (.ifCond .le 146, 3) := by decide +kernel
theorem dX12_readsTerm_16 : decode cX12_readsTerm 16 = .ok (.aload_n 0, 1) := by decide +kernel
theorem dX12_readsTerm_17 : decode cX12_readsTerm 17 = .ok (.getfield 120, 3) := by decide +kernel
theorem dX12_readsTerm_20 : decode cX12_readsTerm 20 = .ok (.aload_n 0, 1) := by decide +kernel
theorem dX12_readsTerm_21 : decode cX12_readsTerm 21 = .ok (.getfield 108, 3) := by decide +kernel
theorem dX12_readsTerm_24 : decode cX12_readsTerm 24 = .ok (.if_icmp .ne 5, 3) := by decide +kernel
theorem dX12_readsTerm_27 : decode cX12_readsTerm 27 = .ok (.iconst 0, 1) := by decide +kernel
theorem dX12_readsTerm_28 : decode cX12_readsTerm 28 = .ok (.ireturn, 1) := by decide +kernel
theorem dX12_readsTerm_29 : decode cX12_readsTerm 29 = .ok (.aload_n 0, 1) := by decide +kernel
theorem dX12_readsTerm_30 : decode cX12_readsTerm 30 = .ok (.getfield 16, 3) := by decide +kernel
theorem dX12_readsTerm_33 : decode cX12_readsTerm 33 = .ok (.aload_n 0, 1) := by decide +kernel
theorem dX12_readsTerm_34 : decode cX12_readsTerm 34 = .ok (.getfield 120, 3) := by decide +kernel
theorem dX12_readsTerm_37 : decode cX12_readsTerm 37 = .ok (.iaload, 1) := by decide +kernel
theorem dX12_readsTerm_38 : decode cX12_readsTerm 38 = .ok (.istore 9, 2) := by decide +kernel
theorem dX12_readsTerm_40 : decode cX12_readsTerm 40 = .ok (.iload 8, 2) := by decide +kernel
theorem dX12_readsTerm_42 : decode cX12_readsTerm 42 = .ok (.ifCond .eq 15, 3) := by decide +kernel
theorem dX12_readsTerm_45 : decode cX12_readsTerm 45 = .ok (.iload 9, 2) := by decide +kernel
theorem dX12_readsTerm_47 : decode cX12_readsTerm 47 = .ok (.bipush 120, 2) := by decide +kernel
theorem dX12_readsTerm_49 : decode cX12_readsTerm 49 = .ok (.if_icmp .eq 8, 3) := by decide +kernel
theorem dX12_readsTerm_52 : decode cX12_readsTerm 52 = .ok (.bipush (-9), 2) := by decide +kernel
theorem dX12_readsTerm_54 : decode cX12_readsTerm 54 = .ok (.goto 17, 3) := by decide +kernel
theorem dX12_readsTerm_57 : decode cX12_readsTerm 57 = .ok (.aload_n 0, 1) := by decide +kernel
theorem dX12_readsTerm_58 : decode cX12_readsTerm 58 = .ok (.iload 9, 2) := by decide +kernel
theorem dX12_readsTerm_60 : decode cX12_readsTerm 60 = .ok (.iload_n 2, 1) := by decide +kernel
theorem dX12_readsTerm_61 : decode cX12_readsTerm 61 = .ok (.iload_n 3, 1) := by decide +kernel
theorem dX12_readsTerm_62 : decode cX12_readsTerm 62 = .ok (.iload 4, 2) := by decide +kernel
theorem dX12_readsTerm_64 : decode cX12_readsTerm 64 = .ok (.iload 5, 2) := by decide +kernel
theorem dX12_readsTerm_66 : decode cX12_readsTerm 66 = .ok (.iload 6, 2) := by decide +kernel
theorem dX12_readsTerm_68 : decode cX12_readsTerm 68 = .ok (.invokevirtual 123, 3) := by decide +kernel
theorem dX12_readsTerm_71 : decode cX12_readsTerm 71 = .ok (.istore 10, 2) := by decide +kernel
theorem dX12_readsTerm_73 : decode cX12_readsTerm 73 = .ok (.iload 10, 2) := by decide +kernel
theorem dX12_readsTerm_75 : decode cX12_readsTerm 75 = .ok (.ifCond .lt 17, 3) := by decide +kernel
theorem dX12_readsTerm_78 : decode cX12_readsTerm 78 = .ok (.aload_n 0, 1) := by decide +kernel
theorem dX12_readsTerm_79 : decode cX12_readsTerm 79 = .ok (.getfield 117, 3) := by decide +kernel
theorem dX12_readsTerm_82 : decode cX12_readsTerm 82 = .ok (.iload 7, 2) := by decide +kernel
theorem dX12_readsTerm_84 : decode cX12_readsTerm 84 = .ok (.iadd, 1) := by decide +kernel
theorem dX12_readsTerm_85 : decode cX12_readsTerm 85 = .ok (.iload 10, 2) := by decide +kernel
theorem dX12_readsTerm_87 : decode cX12_readsTerm 87 = .ok (.iadd, 1) := by decide +kernel
theorem dX12_readsTerm_88 : decode cX12_readsTerm 88 = .ok (.iload_n 1, 1) := by decide +kernel
theorem dX12_readsTerm_89 : decode cX12_readsTerm 89 = .ok (.if_icmp .le 5, 3) := by decide +kernel
theorem dX12_readsTerm_92 : decode cX12_readsTerm 92 = .ok (.iconst 0, 1) := by decide +kernel
theorem dX12_readsTerm_93 : decode cX12_readsTerm 93 = .ok (.ireturn, 1) := by decide +kernel
theorem dX12_readsTerm_94 : decode cX12_readsTerm 94 = .ok (.aload_n 0, 1) := by decide +kernel
theorem dX12_readsTerm_95 : decode cX12_readsTerm 95 = .ok (.getfield 31, 3) := by decide +kernel
theorem dX12_readsTerm_98 : decode cX12_readsTerm 98 = .ok (.aload_n 0, 1) := by decide +kernel
theorem dX12_readsTerm_99 : decode cX12_readsTerm 99 = .ok (.getfield 117, 3) := by decide +kernel
theorem dX12_readsTerm_102 : decode cX12_readsTerm 102 = .ok (.iload 9, 2) := by decide +kernel
theorem dX12_readsTerm_104 : decode cX12_readsTerm 104 = .ok (.iastore, 1) := by decide +kernel
theorem dX12_readsTerm_105 : decode cX12_readsTerm 105 = .ok (.aload_n 0, 1) := by decide +kernel
theorem dX12_readsTerm_106 : decode cX12_readsTerm 106 = .ok (.dup, 1) := by decide +kernel
theorem dX12_readsTerm_107 : decode cX12_readsTerm 107 = .ok (.getfield 117, 3) := by decide +kernel
theorem dX12_readsTerm_110 : decode cX12_readsTerm 110 = .ok (.iconst 1, 1) := by decide +kernel
theorem dX12_readsTerm_111 : decode cX12_readsTerm 111 = .ok (.iadd, 1) := by decide +kernel
theorem dX12_readsTerm_112 : decode cX12_readsTerm 112 = .ok (.putfield 117, 3) := by decide +kernel
theorem dX12_readsTerm_115 : decode cX12_readsTerm 115 = .ok (.iload 7, 2) := by decide +kernel
theorem dX12_readsTerm_117 : decode cX12_readsTerm 117 = .ok (.iload 10, 2) := by decide +kernel
theorem dX12_readsTerm_119 : decode cX12_readsTerm 119 = .ok (.iconst 1, 1) := by decide +kernel
theorem dX12_readsTerm_120 : decode cX12_readsTerm 120 = .ok (.isub, 1) := by decide +kernel
theorem dX12_readsTerm_121 : decode cX12_readsTerm 121 = .ok (.iadd, 1) := by decide +kernel
theorem dX12_readsTerm_122 : decode cX12_readsTerm 122 = .ok (.istore 7, 2) := by decide +kernel
theorem dX12_readsTerm_124 : decode cX12_readsTerm 124 = .ok (.iload 6, 2) := by decide +kernel
theorem dX12_readsTerm_126 : decode cX12_readsTerm 126 = .ok (.ifCond .eq 17, 3) := by decide +kernel
theorem dX12_readsTerm_129 : decode cX12_readsTerm 129 = .ok (.iload 9, 2) := by decide +kernel
theorem dX12_readsTerm_131 : decode cX12_readsTerm 131 = .ok (.bipush 97, 2) := by decide +kernel
theorem dX12_readsTerm_133 : decode cX12_readsTerm 133 = .ok (.iload 5, 2) := by decide +kernel
theorem dX12_readsTerm_135 : decode cX12_readsTerm 135 = .ok (.iadd, 1) := by decide +kernel
theorem dX12_readsTerm_136 : decode cX12_readsTerm 136 = .ok (.if_icmp .ne 7, 3) := by decide +kernel
theorem dX12_readsTerm_139 : decode cX12_readsTerm 139 = .ok (.iconst 1, 1) := by decide +kernel
theorem dX12_readsTerm_140 : decode cX12_readsTerm 140 = .ok (.goto 4, 3) := by decide +kernel
theorem dX12_readsTerm_143 : decode cX12_readsTerm 143 = .ok (.iconst 0, 1) := by decide +kernel
theorem dX12_readsTerm_144 : decode cX12_readsTerm 144 = .ok (.istore 8, 2) := by decide +kernel
theorem dX12_readsTerm_146 : decode cX12_readsTerm 146 = .ok (.aload_n 0, 1) := by decide +kernel
theorem dX12_readsTerm_147 : decode cX12_readsTerm 147 = .ok (.dup, 1) := by decide +kernel
theorem dX12_readsTerm_148 : decode cX12_readsTerm 148 = .ok (.getfield 120, 3) := by decide +kernel
theorem dX12_readsTerm_151 : decode cX12_readsTerm 151 = .ok (.iconst 1, 1) := by decide +kernel
theorem dX12_readsTerm_152 : decode cX12_readsTerm 152 = .ok (.iadd, 1) := by decide +kernel
theorem dX12_readsTerm_153 : decode cX12_readsTerm 153 = .ok (.putfield 120, 3) := by decide +kernel
theorem dX12_readsTerm_156 : decode cX12_readsTerm 156 = .ok (.goto (-145), 3) := by decide +kernel
theorem dX12_readsTerm_159 : decode cX12_readsTerm 159 = .ok (.iconst 1, 1) := by decide +kernel
theorem dX12_readsTerm_160 : decode cX12_readsTerm 160 = .ok (.ireturn, 1) := by decide +kernel
theorem dX12_reads_0 : decode cX12_reads 0 = .ok (.aload_n 0, 1) := by decide +kernel
theorem dX12_reads_1 : decode cX12_reads 1 = .ok (.getfield 120, 3) := by decide +kernel
theorem dX12_reads_4 : decode cX12_reads 4 = .ok (.aload_n 0, 1) := by decide +kernel
theorem dX12_reads_5 : decode cX12_reads 5 = .ok (.getfield 108, 3) := by decide +kernel
theorem dX12_reads_8 : decode cX12_reads 8 = .ok (.if_icmp .eq 16, 3) := by decide +kernel
theorem dX12_reads_11 : decode cX12_reads 11 = .ok (.aload_n 0, 1) := by decide +kernel
theorem dX12_reads_12 : decode cX12_reads 12 = .ok (.getfield 16, 3) := by decide +kernel
theorem dX12_reads_15 : decode cX12_reads 15 = .ok (.aload_n 0, 1) := by decide +kernel
theorem dX12_reads_16 : decode cX12_reads 16 = .ok (.getfield 120, 3) := by decide +kernel
theorem dX12_reads_19 : decode cX12_reads 19 = .ok (.iaload, 1) := by decide +kernel
theorem dX12_reads_20 : decode cX12_reads 20 = .ok (.iload_n 1, 1) := by decide +kernel
theorem dX12_reads_21 : decode cX12_reads 21 = .ok (.if_icmp .eq 5, 3) := by decide +kernel
theorem dX12_reads_24 : decode cX12_reads 24 = .ok (.iconst 0, 1) := by decide +kernel
theorem dX12_reads_25 : decode cX12_reads 25 = .ok (.ireturn, 1) := by decide +kernel
theorem dX12_reads_26 : decode cX12_reads 26 = .ok (.aload_n 0, 1) := by decide +kernel
theorem dX12_reads_27 : decode cX12_reads 27 = .ok (.dup, 1) := by decide +kernel
theorem dX12_reads_28 : decode cX12_reads 28 = .ok (.getfield 120, 3) := by decide +kernel
theorem dX12_reads_31 : decode cX12_reads 31 = .ok (.iconst 1, 1) := by decide +kernel
theorem dX12_reads_32 : decode cX12_reads 32 = .ok (.iadd, 1) := by decide +kernel
theorem dX12_reads_33 : decode cX12_reads 33 = .ok (.putfield 120, 3) := by decide +kernel
theorem dX12_reads_36 : decode cX12_reads 36 = .ok (.iconst 1, 1) := by decide +kernel
theorem dX12_reads_37 : decode cX12_reads 37 = .ok (.ireturn, 1) := by decide +kernel
theorem dX12_keepsBody_0 : decode cX12_keepsBody 0 = .ok (.aload_n 0, 1) := by decide +kernel
theorem dX12_keepsBody_1 : decode cX12_keepsBody 1 = .ok (.getfield 28, 3) := by decide +kernel
theorem dX12_keepsBody_4 : decode cX12_keepsBody 4 = .ok (.iconst 3, 1) := by decide +kernel
theorem dX12_keepsBody_5 : decode cX12_keepsBody 5 = .ok (.iload_n 1, 1) := by decide +kernel
theorem dX12_keepsBody_6 : decode cX12_keepsBody 6 = .ok (.imul, 1) := by decide +kernel
theorem dX12_keepsBody_7 : decode cX12_keepsBody 7 = .ok (.iload_n 2, 1) := by decide +kernel
theorem dX12_keepsBody_8 : decode cX12_keepsBody 8 = .ok (.iadd, 1) := by decide +kernel
theorem dX12_keepsBody_9 : decode cX12_keepsBody 9 = .ok (.aload_n 0, 1) := by decide +kernel
theorem dX12_keepsBody_10 : decode cX12_keepsBody 10 = .ok (.getfield 117, 3) := by decide +kernel
theorem dX12_keepsBody_13 : decode cX12_keepsBody 13 = .ok (.iastore, 1) := by decide +kernel
theorem dX12_keepsBody_14 : decode cX12_keepsBody 14 = .ok (.iconst 0, 1) := by decide +kernel
theorem dX12_keepsBody_15 : decode cX12_keepsBody 15 = .ok (.istore_n 3, 1) := by decide +kernel
theorem dX12_keepsBody_16 : decode cX12_keepsBody 16 = .ok (.iload_n 3, 1) := by decide +kernel
theorem dX12_keepsBody_17 : decode cX12_keepsBody 17 = .ok (.aload_n 0, 1) := by decide +kernel
theorem dX12_keepsBody_18 : decode cX12_keepsBody 18 = .ok (.getfield 117, 3) := by decide +kernel
theorem dX12_keepsBody_21 : decode cX12_keepsBody 21 = .ok (.if_icmp .ge 30, 3) := by decide +kernel
theorem dX12_keepsBody_24 : decode cX12_keepsBody 24 = .ok (.aload_n 0, 1) := by decide +kernel
theorem dX12_keepsBody_25 : decode cX12_keepsBody 25 = .ok (.getfield 25, 3) := by decide +kernel
theorem dX12_keepsBody_28 : decode cX12_keepsBody 28 = .ok (.bipush 10, 2) := by decide +kernel
theorem dX12_keepsBody_30 : decode cX12_keepsBody 30 = .ok (.iconst 3, 1) := by decide +kernel
theorem dX12_keepsBody_31 : decode cX12_keepsBody 31 = .ok (.iload_n 1, 1) := by decide +kernel
theorem dX12_keepsBody_32 : decode cX12_keepsBody 32 = .ok (.imul, 1) := by decide +kernel
theorem dX12_keepsBody_33 : decode cX12_keepsBody 33 = .ok (.iload_n 2, 1) := by decide +kernel
theorem dX12_keepsBody_34 : decode cX12_keepsBody 34 = .ok (.iadd, 1) := by decide +kernel
theorem dX12_keepsBody_35 : decode cX12_keepsBody 35 = .ok (.imul, 1) := by decide +kernel
theorem dX12_keepsBody_36 : decode cX12_keepsBody 36 = .ok (.iload_n 3, 1) := by decide +kernel
theorem dX12_keepsBody_37 : decode cX12_keepsBody 37 = .ok (.iadd, 1) := by decide +kernel
theorem dX12_keepsBody_38 : decode cX12_keepsBody 38 = .ok (.aload_n 0, 1) := by decide +kernel
theorem dX12_keepsBody_39 : decode cX12_keepsBody 39 = .ok (.getfield 31, 3) := by decide +kernel
theorem dX12_keepsBody_42 : decode cX12_keepsBody 42 = .ok (.iload_n 3, 1) := by decide +kernel
theorem dX12_keepsBody_43 : decode cX12_keepsBody 43 = .ok (.iaload, 1) := by decide +kernel
theorem dX12_keepsBody_44 : decode cX12_keepsBody 44 = .ok (.iastore, 1) := by decide +kernel
theorem dX12_keepsBody_45 : decode cX12_keepsBody 45 = .ok (.iinc 3 1, 3) := by decide +kernel
theorem dX12_keepsBody_48 : decode cX12_keepsBody 48 = .ok (.goto (-32), 3) := by decide +kernel
theorem dX12_keepsBody_51 : decode cX12_keepsBody 51 = .ok (.return_, 1) := by decide +kernel
theorem dX12_readsFunction_0 : decode cX12_readsFunction 0 = .ok (.aload_n 0, 1) := by decide +kernel
theorem dX12_readsFunction_1 : decode cX12_readsFunction 1 = .ok (.getfield 114, 3) := by decide +kernel
theorem dX12_readsFunction_4 : decode cX12_readsFunction 4 = .ok (.iconst 2, 1) := by decide +kernel
theorem dX12_readsFunction_5 : decode cX12_readsFunction 5 = .ok (.if_icmp .ne 7, 3) := by decide +kernel
theorem dX12_readsFunction_8 : decode cX12_readsFunction 8 = .ok (.iconst 1, 1) := by decide +kernel
theorem dX12_readsFunction_9 : decode cX12_readsFunction 9 = .ok (.goto 4, 3) := by decide +kernel
theorem dX12_readsFunction_12 : decode cX12_readsFunction 12 = .ok (.iconst 0, 1) := by decide +kernel
theorem dX12_readsFunction_13 : decode cX12_readsFunction 13 = .ok (.istore_n 3, 1) := by decide +kernel
theorem dX12_readsFunction_14 : decode cX12_readsFunction 14 = .ok (.iconst 0, 1) := by decide +kernel
theorem dX12_readsFunction_15 : decode cX12_readsFunction 15 = .ok (.istore 4, 2) := by decide +kernel
theorem dX12_readsFunction_17 : decode cX12_readsFunction 17 = .ok (.iload 4, 2) := by decide +kernel
theorem dX12_readsFunction_19 : decode cX12_readsFunction 19 = .ok (.iload_n 2, 1) := by decide +kernel
theorem dX12_readsFunction_20 : decode cX12_readsFunction 20 = .ok (.if_icmp .ge 41, 3) := by decide +kernel
theorem dX12_readsFunction_23 : decode cX12_readsFunction 23 = .ok (.aload_n 0, 1) := by decide +kernel
theorem dX12_readsFunction_24 : decode cX12_readsFunction 24 = .ok (.bipush 10, 2) := by decide +kernel
theorem dX12_readsFunction_26 : decode cX12_readsFunction 26 = .ok (.iconst 0, 1) := by decide +kernel
theorem dX12_readsFunction_27 : decode cX12_readsFunction 27 = .ok (.iload_n 3, 1) := by decide +kernel
theorem dX12_readsFunction_28 : decode cX12_readsFunction 28 = .ok (.iconst 0, 1) := by decide +kernel
theorem dX12_readsFunction_29 : decode cX12_readsFunction 29 = .ok (.iload_n 1, 1) := by decide +kernel
theorem dX12_readsFunction_30 : decode cX12_readsFunction 30 = .ok (.iconst 0, 1) := by decide +kernel
theorem dX12_readsFunction_31 : decode cX12_readsFunction 31 = .ok (.invokevirtual 127, 3) := by decide +kernel
theorem dX12_readsFunction_34 : decode cX12_readsFunction 34 = .ok (.ifCond .eq 12, 3) := by decide +kernel
theorem dX12_readsFunction_37 : decode cX12_readsFunction 37 = .ok (.aload_n 0, 1) := by decide +kernel
theorem dX12_readsFunction_38 : decode cX12_readsFunction 38 = .ok (.bipush 59, 2) := by decide +kernel
theorem dX12_readsFunction_40 : decode cX12_readsFunction 40 = .ok (.invokevirtual 131, 3) := by decide +kernel
theorem dX12_readsFunction_43 : decode cX12_readsFunction 43 = .ok (.ifCond .ne 5, 3) := by decide +kernel
theorem dX12_readsFunction_46 : decode cX12_readsFunction 46 = .ok (.iconst 0, 1) := by decide +kernel
theorem dX12_readsFunction_47 : decode cX12_readsFunction 47 = .ok (.ireturn, 1) := by decide +kernel
theorem dX12_readsFunction_48 : decode cX12_readsFunction 48 = .ok (.aload_n 0, 1) := by decide +kernel
theorem dX12_readsFunction_49 : decode cX12_readsFunction 49 = .ok (.iload_n 1, 1) := by decide +kernel
theorem dX12_readsFunction_50 : decode cX12_readsFunction 50 = .ok (.iload 4, 2) := by decide +kernel
theorem dX12_readsFunction_52 : decode cX12_readsFunction 52 = .ok (.invokevirtual 133, 3) := by decide +kernel
theorem dX12_readsFunction_55 : decode cX12_readsFunction 55 = .ok (.iinc 4 1, 3) := by decide +kernel
theorem dX12_readsFunction_58 : decode cX12_readsFunction 58 = .ok (.goto (-41), 3) := by decide +kernel
theorem dX12_readsFunction_61 : decode cX12_readsFunction 61 = .ok (.aload_n 0, 1) := by decide +kernel
theorem dX12_readsFunction_62 : decode cX12_readsFunction 62 = .ok (.bipush 10, 2) := by decide +kernel
theorem dX12_readsFunction_64 : decode cX12_readsFunction 64 = .ok (.iconst 1, 1) := by decide +kernel
theorem dX12_readsFunction_65 : decode cX12_readsFunction 65 = .ok (.iload_n 3, 1) := by decide +kernel
theorem dX12_readsFunction_66 : decode cX12_readsFunction 66 = .ok (.iconst 0, 1) := by decide +kernel
theorem dX12_readsFunction_67 : decode cX12_readsFunction 67 = .ok (.iload_n 1, 1) := by decide +kernel
theorem dX12_readsFunction_68 : decode cX12_readsFunction 68 = .ok (.iconst 1, 1) := by decide +kernel
theorem dX12_readsFunction_69 : decode cX12_readsFunction 69 = .ok (.invokevirtual 127, 3) := by decide +kernel
theorem dX12_readsFunction_72 : decode cX12_readsFunction 72 = .ok (.ifCond .ne 5, 3) := by decide +kernel
theorem dX12_readsFunction_75 : decode cX12_readsFunction 75 = .ok (.iconst 0, 1) := by decide +kernel
theorem dX12_readsFunction_76 : decode cX12_readsFunction 76 = .ok (.ireturn, 1) := by decide +kernel
theorem dX12_readsFunction_77 : decode cX12_readsFunction 77 = .ok (.aload_n 0, 1) := by decide +kernel
theorem dX12_readsFunction_78 : decode cX12_readsFunction 78 = .ok (.iload_n 1, 1) := by decide +kernel
theorem dX12_readsFunction_79 : decode cX12_readsFunction 79 = .ok (.iconst 2, 1) := by decide +kernel
theorem dX12_readsFunction_80 : decode cX12_readsFunction 80 = .ok (.invokevirtual 133, 3) := by decide +kernel
theorem dX12_readsFunction_83 : decode cX12_readsFunction 83 = .ok (.aload_n 0, 1) := by decide +kernel
theorem dX12_readsFunction_84 : decode cX12_readsFunction 84 = .ok (.getfield 120, 3) := by decide +kernel
theorem dX12_readsFunction_87 : decode cX12_readsFunction 87 = .ok (.aload_n 0, 1) := by decide +kernel
theorem dX12_readsFunction_88 : decode cX12_readsFunction 88 = .ok (.getfield 108, 3) := by decide +kernel
theorem dX12_readsFunction_91 : decode cX12_readsFunction 91 = .ok (.if_icmp .ne 7, 3) := by decide +kernel
theorem dX12_readsFunction_94 : decode cX12_readsFunction 94 = .ok (.iconst 1, 1) := by decide +kernel
theorem dX12_readsFunction_95 : decode cX12_readsFunction 95 = .ok (.goto 4, 3) := by decide +kernel
theorem dX12_readsFunction_98 : decode cX12_readsFunction 98 = .ok (.iconst 0, 1) := by decide +kernel
theorem dX12_readsFunction_99 : decode cX12_readsFunction 99 = .ok (.ireturn, 1) := by decide +kernel
theorem dX12_function_0 : decode cX12_function 0 = .ok (.iload_n 1, 1) := by decide +kernel
theorem dX12_function_1 : decode cX12_function 1 = .ok (.iconst 1, 1) := by decide +kernel
theorem dX12_function_2 : decode cX12_function 2 = .ok (.iconst 2, 1) := by decide +kernel
theorem dX12_function_3 : decode cX12_function 3 = .ok (.invokestatic 96, 3) := by decide +kernel
theorem dX12_function_6 : decode cX12_function 6 = .ok (.ifCond .eq 12, 3) := by decide +kernel
theorem dX12_function_9 : decode cX12_function 9 = .ok (.iload_n 2, 1) := by decide +kernel
theorem dX12_function_10 : decode cX12_function 10 = .ok (.iconst 1, 1) := by decide +kernel
theorem dX12_function_11 : decode cX12_function 11 = .ok (.iconst 2, 1) := by decide +kernel
theorem dX12_function_12 : decode cX12_function 12 = .ok (.invokestatic 96, 3) := by decide +kernel
theorem dX12_function_15 : decode cX12_function 15 = .ok (.ifCond .ne 6, 3) := by decide +kernel
theorem dX12_function_18 : decode cX12_function 18 = .ok (.bipush (-2), 2) := by decide +kernel
theorem dX12_function_20 : decode cX12_function 20 = .ok (.ireturn, 1) := by decide +kernel
theorem dX12_function_21 : decode cX12_function 21 = .ok (.aload_n 0, 1) := by decide +kernel
theorem dX12_function_22 : decode cX12_function 22 = .ok (.getfield 137, 3) := by decide +kernel
theorem dX12_function_25 : decode cX12_function 25 = .ok (.bipush 6, 2) := by decide +kernel
theorem dX12_function_27 : decode cX12_function 27 = .ok (.if_icmp .ne 6, 3) := by decide +kernel
theorem dX12_function_30 : decode cX12_function 30 = .ok (.bipush (-4), 2) := by decide +kernel
theorem dX12_function_32 : decode cX12_function 32 = .ok (.ireturn, 1) := by decide +kernel
theorem dX12_function_33 : decode cX12_function 33 = .ok (.aload_n 0, 1) := by decide +kernel
theorem dX12_function_34 : decode cX12_function 34 = .ok (.iconst 0, 1) := by decide +kernel
theorem dX12_function_35 : decode cX12_function 35 = .ok (.putfield 120, 3) := by decide +kernel
theorem dX12_function_38 : decode cX12_function 38 = .ok (.aload_n 0, 1) := by decide +kernel
theorem dX12_function_39 : decode cX12_function 39 = .ok (.iload_n 1, 1) := by decide +kernel
theorem dX12_function_40 : decode cX12_function 40 = .ok (.putfield 114, 3) := by decide +kernel
theorem dX12_function_43 : decode cX12_function 43 = .ok (.aload_n 0, 1) := by decide +kernel
theorem dX12_function_44 : decode cX12_function 44 = .ok (.aload_n 0, 1) := by decide +kernel
theorem dX12_function_45 : decode cX12_function 45 = .ok (.getfield 137, 3) := by decide +kernel
theorem dX12_function_48 : decode cX12_function 48 = .ok (.iload_n 2, 1) := by decide +kernel
theorem dX12_function_49 : decode cX12_function 49 = .ok (.invokevirtual 140, 3) := by decide +kernel
theorem dX12_function_52 : decode cX12_function 52 = .ok (.ifCond .ne 11, 3) := by decide +kernel
theorem dX12_function_55 : decode cX12_function 55 = .ok (.bipush (-100), 2) := by decide +kernel
theorem dX12_function_57 : decode cX12_function 57 = .ok (.aload_n 0, 1) := by decide +kernel
theorem dX12_function_58 : decode cX12_function 58 = .ok (.getfield 120, 3) := by decide +kernel
theorem dX12_function_61 : decode cX12_function 61 = .ok (.isub, 1) := by decide +kernel
theorem dX12_function_62 : decode cX12_function 62 = .ok (.ireturn, 1) := by decide +kernel
theorem dX12_function_63 : decode cX12_function 63 = .ok (.aload_n 0, 1) := by decide +kernel
theorem dX12_function_64 : decode cX12_function 64 = .ok (.getfield 19, 3) := by decide +kernel
theorem dX12_function_67 : decode cX12_function 67 = .ok (.aload_n 0, 1) := by decide +kernel
theorem dX12_function_68 : decode cX12_function 68 = .ok (.getfield 137, 3) := by decide +kernel
theorem dX12_function_71 : decode cX12_function 71 = .ok (.iload_n 1, 1) := by decide +kernel
theorem dX12_function_72 : decode cX12_function 72 = .ok (.iastore, 1) := by decide +kernel
theorem dX12_function_73 : decode cX12_function 73 = .ok (.aload_n 0, 1) := by decide +kernel
theorem dX12_function_74 : decode cX12_function 74 = .ok (.getfield 22, 3) := by decide +kernel
theorem dX12_function_77 : decode cX12_function 77 = .ok (.aload_n 0, 1) := by decide +kernel
theorem dX12_function_78 : decode cX12_function 78 = .ok (.getfield 137, 3) := by decide +kernel
theorem dX12_function_81 : decode cX12_function 81 = .ok (.iload_n 2, 1) := by decide +kernel
theorem dX12_function_82 : decode cX12_function 82 = .ok (.iastore, 1) := by decide +kernel
theorem dX12_function_83 : decode cX12_function 83 = .ok (.aload_n 0, 1) := by decide +kernel
theorem dX12_function_84 : decode cX12_function 84 = .ok (.dup, 1) := by decide +kernel
theorem dX12_function_85 : decode cX12_function 85 = .ok (.getfield 137, 3) := by decide +kernel
theorem dX12_function_88 : decode cX12_function 88 = .ok (.iconst 1, 1) := by decide +kernel
theorem dX12_function_89 : decode cX12_function 89 = .ok (.iadd, 1) := by decide +kernel
theorem dX12_function_90 : decode cX12_function 90 = .ok (.putfield 137, 3) := by decide +kernel
theorem dX12_function_93 : decode cX12_function 93 = .ok (.aload_n 0, 1) := by decide +kernel
theorem dX12_function_94 : decode cX12_function 94 = .ok (.getfield 137, 3) := by decide +kernel
theorem dX12_function_97 : decode cX12_function 97 = .ok (.iconst 1, 1) := by decide +kernel
theorem dX12_function_98 : decode cX12_function 98 = .ok (.isub, 1) := by decide +kernel
theorem dX12_function_99 : decode cX12_function 99 = .ok (.ireturn, 1) := by decide +kernel
theorem dX12_isFunction_0 : decode cX12_isFunction 0 = .ok (.iload_n 1, 1) := by decide +kernel
theorem dX12_isFunction_1 : decode cX12_isFunction 1 = .ok (.iconst 0, 1) := by decide +kernel
theorem dX12_isFunction_2 : decode cX12_isFunction 2 = .ok (.aload_n 0, 1) := by decide +kernel
theorem dX12_isFunction_3 : decode cX12_isFunction 3 = .ok (.getfield 137, 3) := by decide +kernel
theorem dX12_isFunction_6 : decode cX12_isFunction 6 = .ok (.iconst 1, 1) := by decide +kernel
theorem dX12_isFunction_7 : decode cX12_isFunction 7 = .ok (.isub, 1) := by decide +kernel
theorem dX12_isFunction_8 : decode cX12_isFunction 8 = .ok (.invokestatic 96, 3) := by decide +kernel
theorem dX12_isFunction_11 : decode cX12_isFunction 11 = .ok (.ireturn, 1) := by decide +kernel
theorem dX12_bodyLong_0 : decode cX12_bodyLong 0 = .ok (.iload_n 2, 1) := by decide +kernel
theorem dX12_bodyLong_1 : decode cX12_bodyLong 1 = .ok (.iconst 1, 1) := by decide +kernel
theorem dX12_bodyLong_2 : decode cX12_bodyLong 2 = .ok (.if_icmp .ne 18, 3) := by decide +kernel
theorem dX12_bodyLong_5 : decode cX12_bodyLong 5 = .ok (.aload_n 0, 1) := by decide +kernel
theorem dX12_bodyLong_6 : decode cX12_bodyLong 6 = .ok (.getfield 22, 3) := by decide +kernel
theorem dX12_bodyLong_9 : decode cX12_bodyLong 9 = .ok (.iload_n 1, 1) := by decide +kernel
theorem dX12_bodyLong_10 : decode cX12_bodyLong 10 = .ok (.iaload, 1) := by decide +kernel
theorem dX12_bodyLong_11 : decode cX12_bodyLong 11 = .ok (.iconst 1, 1) := by decide +kernel
theorem dX12_bodyLong_12 : decode cX12_bodyLong 12 = .ok (.if_icmp .ne 8, 3) := by decide +kernel
theorem dX12_bodyLong_15 : decode cX12_bodyLong 15 = .ok (.bipush (-9), 2) := by decide +kernel
theorem dX12_bodyLong_17 : decode cX12_bodyLong 17 = .ok (.goto 13, 3) := by decide +kernel
theorem dX12_bodyLong_20 : decode cX12_bodyLong 20 = .ok (.aload_n 0, 1) := by decide +kernel
theorem dX12_bodyLong_21 : decode cX12_bodyLong 21 = .ok (.getfield 28, 3) := by decide +kernel
theorem dX12_bodyLong_24 : decode cX12_bodyLong 24 = .ok (.iconst 3, 1) := by decide +kernel
theorem dX12_bodyLong_25 : decode cX12_bodyLong 25 = .ok (.iload_n 1, 1) := by decide +kernel
theorem dX12_bodyLong_26 : decode cX12_bodyLong 26 = .ok (.imul, 1) := by decide +kernel
theorem dX12_bodyLong_27 : decode cX12_bodyLong 27 = .ok (.iload_n 2, 1) := by decide +kernel
theorem dX12_bodyLong_28 : decode cX12_bodyLong 28 = .ok (.iadd, 1) := by decide +kernel
theorem dX12_bodyLong_29 : decode cX12_bodyLong 29 = .ok (.iaload, 1) := by decide +kernel
theorem dX12_bodyLong_30 : decode cX12_bodyLong 30 = .ok (.ireturn, 1) := by decide +kernel
theorem dX12_ofFunction_0 : decode cX12_ofFunction 0 = .ok (.aload_n 0, 1) := by decide +kernel
theorem dX12_ofFunction_1 : decode cX12_ofFunction 1 = .ok (.iload_n 1, 1) := by decide +kernel
theorem dX12_ofFunction_2 : decode cX12_ofFunction 2 = .ok (.invokevirtual 144, 3) := by decide +kernel
theorem dX12_ofFunction_5 : decode cX12_ofFunction 5 = .ok (.ifCond .ne 5, 3) := by decide +kernel
theorem dX12_ofFunction_8 : decode cX12_ofFunction 8 = .ok (.iconst (-1), 1) := by decide +kernel
theorem dX12_ofFunction_9 : decode cX12_ofFunction 9 = .ok (.ireturn, 1) := by decide +kernel
theorem dX12_ofFunction_10 : decode cX12_ofFunction 10 = .ok (.iload_n 2, 1) := by decide +kernel
theorem dX12_ofFunction_11 : decode cX12_ofFunction 11 = .ok (.tableswitch 56 0 4 #[33, 40, 47, 47, 47], 33) := by decide +kernel
theorem dX12_ofFunction_44 : decode cX12_ofFunction 44 = .ok (.aload_n 0, 1) := by decide +kernel
theorem dX12_ofFunction_45 : decode cX12_ofFunction 45 = .ok (.getfield 19, 3) := by decide +kernel
theorem dX12_ofFunction_48 : decode cX12_ofFunction 48 = .ok (.iload_n 1, 1) := by decide +kernel
theorem dX12_ofFunction_49 : decode cX12_ofFunction 49 = .ok (.iaload, 1) := by decide +kernel
theorem dX12_ofFunction_50 : decode cX12_ofFunction 50 = .ok (.ireturn, 1) := by decide +kernel
theorem dX12_ofFunction_51 : decode cX12_ofFunction 51 = .ok (.aload_n 0, 1) := by decide +kernel
theorem dX12_ofFunction_52 : decode cX12_ofFunction 52 = .ok (.getfield 22, 3) := by decide +kernel
theorem dX12_ofFunction_55 : decode cX12_ofFunction 55 = .ok (.iload_n 1, 1) := by decide +kernel
theorem dX12_ofFunction_56 : decode cX12_ofFunction 56 = .ok (.iaload, 1) := by decide +kernel
theorem dX12_ofFunction_57 : decode cX12_ofFunction 57 = .ok (.ireturn, 1) := by decide +kernel
theorem dX12_ofFunction_58 : decode cX12_ofFunction 58 = .ok (.aload_n 0, 1) := by decide +kernel
theorem dX12_ofFunction_59 : decode cX12_ofFunction 59 = .ok (.iload_n 1, 1) := by decide +kernel
theorem dX12_ofFunction_60 : decode cX12_ofFunction 60 = .ok (.iload_n 2, 1) := by decide +kernel
theorem dX12_ofFunction_61 : decode cX12_ofFunction 61 = .ok (.iconst 2, 1) := by decide +kernel
theorem dX12_ofFunction_62 : decode cX12_ofFunction 62 = .ok (.isub, 1) := by decide +kernel
theorem dX12_ofFunction_63 : decode cX12_ofFunction 63 = .ok (.invokevirtual 147, 3) := by decide +kernel
theorem dX12_ofFunction_66 : decode cX12_ofFunction 66 = .ok (.ireturn, 1) := by decide +kernel
theorem dX12_ofFunction_67 : decode cX12_ofFunction 67 = .ok (.bipush (-2), 2) := by decide +kernel
theorem dX12_ofFunction_69 : decode cX12_ofFunction 69 = .ok (.ireturn, 1) := by decide +kernel
theorem dX12_body_0 : decode cX12_body 0 = .ok (.aload_n 0, 1) := by decide +kernel
theorem dX12_body_1 : decode cX12_body 1 = .ok (.iload_n 1, 1) := by decide +kernel
theorem dX12_body_2 : decode cX12_body 2 = .ok (.invokevirtual 144, 3) := by decide +kernel
theorem dX12_body_5 : decode cX12_body 5 = .ok (.ifCond .ne 5, 3) := by decide +kernel
theorem dX12_body_8 : decode cX12_body 8 = .ok (.iconst (-1), 1) := by decide +kernel
theorem dX12_body_9 : decode cX12_body 9 = .ok (.ireturn, 1) := by decide +kernel
theorem dX12_body_10 : decode cX12_body 10 = .ok (.iload_n 2, 1) := by decide +kernel
theorem dX12_body_11 : decode cX12_body 11 = .ok (.iconst 0, 1) := by decide +kernel
theorem dX12_body_12 : decode cX12_body 12 = .ok (.iconst 2, 1) := by decide +kernel
theorem dX12_body_13 : decode cX12_body 13 = .ok (.invokestatic 96, 3) := by decide +kernel
theorem dX12_body_16 : decode cX12_body 16 = .ok (.ifCond .eq 13, 3) := by decide +kernel
theorem dX12_body_19 : decode cX12_body 19 = .ok (.iload_n 3, 1) := by decide +kernel
theorem dX12_body_20 : decode cX12_body 20 = .ok (.iconst 0, 1) := by decide +kernel
theorem dX12_body_21 : decode cX12_body 21 = .ok (.bipush 9, 2) := by decide +kernel
theorem dX12_body_23 : decode cX12_body 23 = .ok (.invokestatic 96, 3) := by decide +kernel
theorem dX12_body_26 : decode cX12_body 26 = .ok (.ifCond .ne 6, 3) := by decide +kernel
theorem dX12_body_29 : decode cX12_body 29 = .ok (.bipush (-2), 2) := by decide +kernel
theorem dX12_body_31 : decode cX12_body 31 = .ok (.ireturn, 1) := by decide +kernel
theorem dX12_body_32 : decode cX12_body 32 = .ok (.iload_n 3, 1) := by decide +kernel
theorem dX12_body_33 : decode cX12_body 33 = .ok (.aload_n 0, 1) := by decide +kernel
theorem dX12_body_34 : decode cX12_body 34 = .ok (.iload_n 1, 1) := by decide +kernel
theorem dX12_body_35 : decode cX12_body 35 = .ok (.iload_n 2, 1) := by decide +kernel
theorem dX12_body_36 : decode cX12_body 36 = .ok (.invokevirtual 147, 3) := by decide +kernel
theorem dX12_body_39 : decode cX12_body 39 = .ok (.if_icmp .ge 21, 3) := by decide +kernel
theorem dX12_body_42 : decode cX12_body 42 = .ok (.aload_n 0, 1) := by decide +kernel
theorem dX12_body_43 : decode cX12_body 43 = .ok (.getfield 25, 3) := by decide +kernel
theorem dX12_body_46 : decode cX12_body 46 = .ok (.bipush 10, 2) := by decide +kernel
theorem dX12_body_48 : decode cX12_body 48 = .ok (.iconst 3, 1) := by decide +kernel
theorem dX12_body_49 : decode cX12_body 49 = .ok (.iload_n 1, 1) := by decide +kernel
theorem dX12_body_50 : decode cX12_body 50 = .ok (.imul, 1) := by decide +kernel
theorem dX12_body_51 : decode cX12_body 51 = .ok (.iload_n 2, 1) := by decide +kernel
theorem dX12_body_52 : decode cX12_body 52 = .ok (.iadd, 1) := by decide +kernel
theorem dX12_body_53 : decode cX12_body 53 = .ok (.imul, 1) := by decide +kernel
theorem dX12_body_54 : decode cX12_body 54 = .ok (.iload_n 3, 1) := by decide +kernel
theorem dX12_body_55 : decode cX12_body 55 = .ok (.iadd, 1) := by decide +kernel
theorem dX12_body_56 : decode cX12_body 56 = .ok (.iaload, 1) := by decide +kernel
theorem dX12_body_57 : decode cX12_body 57 = .ok (.goto 5, 3) := by decide +kernel
theorem dX12_body_60 : decode cX12_body 60 = .ok (.bipush (-9), 2) := by decide +kernel
theorem dX12_body_62 : decode cX12_body 62 = .ok (.ireturn, 1) := by decide +kernel
theorem dX12_keepsSide_0 : decode cX12_keepsSide 0 = .ok (.aload_n 0, 1) := by decide +kernel
theorem dX12_keepsSide_1 : decode cX12_keepsSide 1 = .ok (.getfield 13, 3) := by decide +kernel
theorem dX12_keepsSide_4 : decode cX12_keepsSide 4 = .ok (.iload_n 1, 1) := by decide +kernel
theorem dX12_keepsSide_5 : decode cX12_keepsSide 5 = .ok (.iconst 0, 1) := by decide +kernel
theorem dX12_keepsSide_6 : decode cX12_keepsSide 6 = .ok (.iastore, 1) := by decide +kernel
theorem dX12_keepsSide_7 : decode cX12_keepsSide 7 = .ok (.iconst 0, 1) := by decide +kernel
theorem dX12_keepsSide_8 : decode cX12_keepsSide 8 = .ok (.istore_n 2, 1) := by decide +kernel
theorem dX12_keepsSide_9 : decode cX12_keepsSide 9 = .ok (.iload_n 2, 1) := by decide +kernel
theorem dX12_keepsSide_10 : decode cX12_keepsSide 10 = .ok (.aload_n 0, 1) := by decide +kernel
theorem dX12_keepsSide_11 : decode cX12_keepsSide 11 = .ok (.getfield 117, 3) := by decide +kernel
theorem dX12_keepsSide_14 : decode cX12_keepsSide 14 = .ok (.if_icmp .ge 20, 3) := by decide +kernel
theorem dX12_keepsSide_17 : decode cX12_keepsSide 17 = .ok (.aload_n 0, 1) := by decide +kernel
theorem dX12_keepsSide_18 : decode cX12_keepsSide 18 = .ok (.iload_n 1, 1) := by decide +kernel
theorem dX12_keepsSide_19 : decode cX12_keepsSide 19 = .ok (.aload_n 0, 1) := by decide +kernel
theorem dX12_keepsSide_20 : decode cX12_keepsSide 20 = .ok (.getfield 31, 3) := by decide +kernel
theorem dX12_keepsSide_23 : decode cX12_keepsSide 23 = .ok (.iload_n 2, 1) := by decide +kernel
theorem dX12_keepsSide_24 : decode cX12_keepsSide 24 = .ok (.iaload, 1) := by decide +kernel
theorem dX12_keepsSide_25 : decode cX12_keepsSide 25 = .ok (.invokevirtual 150, 3) := by decide +kernel
theorem dX12_keepsSide_28 : decode cX12_keepsSide 28 = .ok (.iinc 2 1, 3) := by decide +kernel
theorem dX12_keepsSide_31 : decode cX12_keepsSide 31 = .ok (.goto (-22), 3) := by decide +kernel
theorem dX12_keepsSide_34 : decode cX12_keepsSide 34 = .ok (.return_, 1) := by decide +kernel
theorem dX12_readsClaim_0 : decode cX12_readsClaim 0 = .ok (.aload_n 0, 1) := by decide +kernel
theorem dX12_readsClaim_1 : decode cX12_readsClaim 1 = .ok (.bipush 20, 2) := by decide +kernel
theorem dX12_readsClaim_3 : decode cX12_readsClaim 3 = .ok (.iconst 1, 1) := by decide +kernel
theorem dX12_readsClaim_4 : decode cX12_readsClaim 4 = .ok (.iconst 1, 1) := by decide +kernel
theorem dX12_readsClaim_5 : decode cX12_readsClaim 5 = .ok (.iconst 1, 1) := by decide +kernel
theorem dX12_readsClaim_6 : decode cX12_readsClaim 6 = .ok (.aload_n 0, 1) := by decide +kernel
theorem dX12_readsClaim_7 : decode cX12_readsClaim 7 = .ok (.getfield 137, 3) := by decide +kernel
theorem dX12_readsClaim_10 : decode cX12_readsClaim 10 = .ok (.iconst 0, 1) := by decide +kernel
theorem dX12_readsClaim_11 : decode cX12_readsClaim 11 = .ok (.invokevirtual 127, 3) := by decide +kernel
theorem dX12_readsClaim_14 : decode cX12_readsClaim 14 = .ok (.ifCond .eq 12, 3) := by decide +kernel
theorem dX12_readsClaim_17 : decode cX12_readsClaim 17 = .ok (.aload_n 0, 1) := by decide +kernel
theorem dX12_readsClaim_18 : decode cX12_readsClaim 18 = .ok (.bipush 61, 2) := by decide +kernel
theorem dX12_readsClaim_20 : decode cX12_readsClaim 20 = .ok (.invokevirtual 131, 3) := by decide +kernel
theorem dX12_readsClaim_23 : decode cX12_readsClaim 23 = .ok (.ifCond .ne 5, 3) := by decide +kernel
theorem dX12_readsClaim_26 : decode cX12_readsClaim 26 = .ok (.iconst 0, 1) := by decide +kernel
theorem dX12_readsClaim_27 : decode cX12_readsClaim 27 = .ok (.ireturn, 1) := by decide +kernel
theorem dX12_readsClaim_28 : decode cX12_readsClaim 28 = .ok (.aload_n 0, 1) := by decide +kernel
theorem dX12_readsClaim_29 : decode cX12_readsClaim 29 = .ok (.bipush 20, 2) := by decide +kernel
theorem dX12_readsClaim_31 : decode cX12_readsClaim 31 = .ok (.invokevirtual 153, 3) := by decide +kernel
theorem dX12_readsClaim_34 : decode cX12_readsClaim 34 = .ok (.aload_n 0, 1) := by decide +kernel
theorem dX12_readsClaim_35 : decode cX12_readsClaim 35 = .ok (.bipush 20, 2) := by decide +kernel
theorem dX12_readsClaim_37 : decode cX12_readsClaim 37 = .ok (.iconst 1, 1) := by decide +kernel
theorem dX12_readsClaim_38 : decode cX12_readsClaim 38 = .ok (.iconst 1, 1) := by decide +kernel
theorem dX12_readsClaim_39 : decode cX12_readsClaim 39 = .ok (.iconst 1, 1) := by decide +kernel
theorem dX12_readsClaim_40 : decode cX12_readsClaim 40 = .ok (.aload_n 0, 1) := by decide +kernel
theorem dX12_readsClaim_41 : decode cX12_readsClaim 41 = .ok (.getfield 137, 3) := by decide +kernel
theorem dX12_readsClaim_44 : decode cX12_readsClaim 44 = .ok (.iconst 0, 1) := by decide +kernel
theorem dX12_readsClaim_45 : decode cX12_readsClaim 45 = .ok (.invokevirtual 127, 3) := by decide +kernel
theorem dX12_readsClaim_48 : decode cX12_readsClaim 48 = .ok (.ifCond .ne 5, 3) := by decide +kernel
theorem dX12_readsClaim_51 : decode cX12_readsClaim 51 = .ok (.iconst 0, 1) := by decide +kernel
theorem dX12_readsClaim_52 : decode cX12_readsClaim 52 = .ok (.ireturn, 1) := by decide +kernel
theorem dX12_readsClaim_53 : decode cX12_readsClaim 53 = .ok (.aload_n 0, 1) := by decide +kernel
theorem dX12_readsClaim_54 : decode cX12_readsClaim 54 = .ok (.bipush 21, 2) := by decide +kernel
theorem dX12_readsClaim_56 : decode cX12_readsClaim 56 = .ok (.invokevirtual 153, 3) := by decide +kernel
theorem dX12_readsClaim_59 : decode cX12_readsClaim 59 = .ok (.aload_n 0, 1) := by decide +kernel
theorem dX12_readsClaim_60 : decode cX12_readsClaim 60 = .ok (.getfield 120, 3) := by decide +kernel
theorem dX12_readsClaim_63 : decode cX12_readsClaim 63 = .ok (.aload_n 0, 1) := by decide +kernel
theorem dX12_readsClaim_64 : decode cX12_readsClaim 64 = .ok (.getfield 108, 3) := by decide +kernel
theorem dX12_readsClaim_67 : decode cX12_readsClaim 67 = .ok (.if_icmp .ne 7, 3) := by decide +kernel
theorem dX12_readsClaim_70 : decode cX12_readsClaim 70 = .ok (.iconst 1, 1) := by decide +kernel
theorem dX12_readsClaim_71 : decode cX12_readsClaim 71 = .ok (.goto 4, 3) := by decide +kernel
theorem dX12_readsClaim_74 : decode cX12_readsClaim 74 = .ok (.iconst 0, 1) := by decide +kernel
theorem dX12_readsClaim_75 : decode cX12_readsClaim 75 = .ok (.ireturn, 1) := by decide +kernel
theorem dX12_claim_0 : decode cX12_claim 0 = .ok (.aload_n 0, 1) := by decide +kernel
theorem dX12_claim_1 : decode cX12_claim 1 = .ok (.iconst 0, 1) := by decide +kernel
theorem dX12_claim_2 : decode cX12_claim 2 = .ok (.putfield 120, 3) := by decide +kernel
theorem dX12_claim_5 : decode cX12_claim 5 = .ok (.aload_n 0, 1) := by decide +kernel
theorem dX12_claim_6 : decode cX12_claim 6 = .ok (.invokevirtual 157, 3) := by decide +kernel
theorem dX12_claim_9 : decode cX12_claim 9 = .ok (.ifCond .ne 11, 3) := by decide +kernel
theorem dX12_claim_12 : decode cX12_claim 12 = .ok (.bipush (-100), 2) := by decide +kernel
theorem dX12_claim_14 : decode cX12_claim 14 = .ok (.aload_n 0, 1) := by decide +kernel
theorem dX12_claim_15 : decode cX12_claim 15 = .ok (.getfield 120, 3) := by decide +kernel
theorem dX12_claim_18 : decode cX12_claim 18 = .ok (.isub, 1) := by decide +kernel
theorem dX12_claim_19 : decode cX12_claim 19 = .ok (.ireturn, 1) := by decide +kernel
theorem dX12_claim_20 : decode cX12_claim 20 = .ok (.aload_n 0, 1) := by decide +kernel
theorem dX12_claim_21 : decode cX12_claim 21 = .ok (.bipush 20, 2) := by decide +kernel
theorem dX12_claim_23 : decode cX12_claim 23 = .ok (.iconst 0, 1) := by decide +kernel
theorem dX12_claim_24 : decode cX12_claim 24 = .ok (.invokevirtual 161, 3) := by decide +kernel
theorem dX12_claim_27 : decode cX12_claim 27 = .ok (.aload_n 0, 1) := by decide +kernel
theorem dX12_claim_28 : decode cX12_claim 28 = .ok (.bipush 21, 2) := by decide +kernel
theorem dX12_claim_30 : decode cX12_claim 30 = .ok (.iconst 1, 1) := by decide +kernel
theorem dX12_claim_31 : decode cX12_claim 31 = .ok (.invokevirtual 161, 3) := by decide +kernel
theorem dX12_claim_34 : decode cX12_claim 34 = .ok (.aload_n 0, 1) := by decide +kernel
theorem dX12_claim_35 : decode cX12_claim 35 = .ok (.iconst 1, 1) := by decide +kernel
theorem dX12_claim_36 : decode cX12_claim 36 = .ok (.putfield 164, 3) := by decide +kernel
theorem dX12_claim_39 : decode cX12_claim 39 = .ok (.aload_n 0, 1) := by decide +kernel
theorem dX12_claim_40 : decode cX12_claim 40 = .ok (.getfield 13, 3) := by decide +kernel
theorem dX12_claim_43 : decode cX12_claim 43 = .ok (.iconst 0, 1) := by decide +kernel
theorem dX12_claim_44 : decode cX12_claim 44 = .ok (.iaload, 1) := by decide +kernel
theorem dX12_claim_45 : decode cX12_claim 45 = .ok (.aload_n 0, 1) := by decide +kernel
theorem dX12_claim_46 : decode cX12_claim 46 = .ok (.getfield 13, 3) := by decide +kernel
theorem dX12_claim_49 : decode cX12_claim 49 = .ok (.iconst 1, 1) := by decide +kernel
theorem dX12_claim_50 : decode cX12_claim 50 = .ok (.iaload, 1) := by decide +kernel
theorem dX12_claim_51 : decode cX12_claim 51 = .ok (.iadd, 1) := by decide +kernel
theorem dX12_claim_52 : decode cX12_claim 52 = .ok (.ireturn, 1) := by decide +kernel
theorem dX12_told_0 : decode cX12_told 0 = .ok (.iload_n 2, 1) := by decide +kernel
theorem dX12_told_1 : decode cX12_told 1 = .ok (.bipush (-9), 2) := by decide +kernel
theorem dX12_told_3 : decode cX12_told 3 = .ok (.if_icmp .ne 12, 3) := by decide +kernel
theorem dX12_told_6 : decode cX12_told 6 = .ok (.aload_n 0, 1) := by decide +kernel
theorem dX12_told_7 : decode cX12_told 7 = .ok (.getfield 13, 3) := by decide +kernel
theorem dX12_told_10 : decode cX12_told 10 = .ok (.iload_n 1, 1) := by decide +kernel
theorem dX12_told_11 : decode cX12_told 11 = .ok (.iaload, 1) := by decide +kernel
theorem dX12_told_12 : decode cX12_told 12 = .ok (.goto 24, 3) := by decide +kernel
theorem dX12_told_15 : decode cX12_told 15 = .ok (.iload_n 2, 1) := by decide +kernel
theorem dX12_told_16 : decode cX12_told 16 = .ok (.aload_n 0, 1) := by decide +kernel
theorem dX12_told_17 : decode cX12_told 17 = .ok (.getfield 13, 3) := by decide +kernel
theorem dX12_told_20 : decode cX12_told 20 = .ok (.iload_n 1, 1) := by decide +kernel
theorem dX12_told_21 : decode cX12_told 21 = .ok (.iaload, 1) := by decide +kernel
theorem dX12_told_22 : decode cX12_told 22 = .ok (.if_icmp .ge 12, 3) := by decide +kernel
theorem dX12_told_25 : decode cX12_told 25 = .ok (.aload_n 0, 1) := by decide +kernel
theorem dX12_told_26 : decode cX12_told 26 = .ok (.iload_n 1, 1) := by decide +kernel
theorem dX12_told_27 : decode cX12_told 27 = .ok (.iload_n 2, 1) := by decide +kernel
theorem dX12_told_28 : decode cX12_told 28 = .ok (.invokevirtual 92, 3) := by decide +kernel
theorem dX12_told_31 : decode cX12_told 31 = .ok (.goto 5, 3) := by decide +kernel
theorem dX12_told_34 : decode cX12_told 34 = .ok (.bipush (-9), 2) := by decide +kernel
theorem dX12_told_36 : decode cX12_told 36 = .ok (.ireturn, 1) := by decide +kernel
theorem dX12_side_0 : decode cX12_side 0 = .ok (.iload_n 1, 1) := by decide +kernel
theorem dX12_side_1 : decode cX12_side 1 = .ok (.iconst 0, 1) := by decide +kernel
theorem dX12_side_2 : decode cX12_side 2 = .ok (.iconst 1, 1) := by decide +kernel
theorem dX12_side_3 : decode cX12_side 3 = .ok (.invokestatic 96, 3) := by decide +kernel
theorem dX12_side_6 : decode cX12_side 6 = .ok (.ifCond .eq 13, 3) := by decide +kernel
theorem dX12_side_9 : decode cX12_side 9 = .ok (.iload_n 2, 1) := by decide +kernel
theorem dX12_side_10 : decode cX12_side 10 = .ok (.iconst 0, 1) := by decide +kernel
theorem dX12_side_11 : decode cX12_side 11 = .ok (.bipush 19, 2) := by decide +kernel
theorem dX12_side_13 : decode cX12_side 13 = .ok (.invokestatic 96, 3) := by decide +kernel
theorem dX12_side_16 : decode cX12_side 16 = .ok (.ifCond .ne 6, 3) := by decide +kernel
theorem dX12_side_19 : decode cX12_side 19 = .ok (.bipush (-2), 2) := by decide +kernel
theorem dX12_side_21 : decode cX12_side 21 = .ok (.ireturn, 1) := by decide +kernel
theorem dX12_side_22 : decode cX12_side 22 = .ok (.aload_n 0, 1) := by decide +kernel
theorem dX12_side_23 : decode cX12_side 23 = .ok (.getfield 164, 3) := by decide +kernel
theorem dX12_side_26 : decode cX12_side 26 = .ok (.ifCond .eq 14, 3) := by decide +kernel
theorem dX12_side_29 : decode cX12_side 29 = .ok (.aload_n 0, 1) := by decide +kernel
theorem dX12_side_30 : decode cX12_side 30 = .ok (.iconst 0, 1) := by decide +kernel
theorem dX12_side_31 : decode cX12_side 31 = .ok (.iload_n 1, 1) := by decide +kernel
theorem dX12_side_32 : decode cX12_side 32 = .ok (.iadd, 1) := by decide +kernel
theorem dX12_side_33 : decode cX12_side 33 = .ok (.iload_n 2, 1) := by decide +kernel
theorem dX12_side_34 : decode cX12_side 34 = .ok (.invokevirtual 168, 3) := by decide +kernel
theorem dX12_side_37 : decode cX12_side 37 = .ok (.goto 5, 3) := by decide +kernel
theorem dX12_side_40 : decode cX12_side 40 = .ok (.bipush (-3), 2) := by decide +kernel
theorem dX12_side_42 : decode cX12_side 42 = .ok (.ireturn, 1) := by decide +kernel
theorem dX12_anew_0 : decode cX12_anew 0 = .ok (.aload_n 0, 1) := by decide +kernel
theorem dX12_anew_1 : decode cX12_anew 1 = .ok (.getfield 137, 3) := by decide +kernel
theorem dX12_anew_4 : decode cX12_anew 4 = .ok (.istore_n 1, 1) := by decide +kernel
theorem dX12_anew_5 : decode cX12_anew 5 = .ok (.aload_n 0, 1) := by decide +kernel
theorem dX12_anew_6 : decode cX12_anew 6 = .ok (.iconst 0, 1) := by decide +kernel
theorem dX12_anew_7 : decode cX12_anew 7 = .ok (.putfield 137, 3) := by decide +kernel
theorem dX12_anew_10 : decode cX12_anew 10 = .ok (.aload_n 0, 1) := by decide +kernel
theorem dX12_anew_11 : decode cX12_anew 11 = .ok (.iconst 0, 1) := by decide +kernel
theorem dX12_anew_12 : decode cX12_anew 12 = .ok (.putfield 171, 3) := by decide +kernel
theorem dX12_anew_15 : decode cX12_anew 15 = .ok (.aload_n 0, 1) := by decide +kernel
theorem dX12_anew_16 : decode cX12_anew 16 = .ok (.iconst 0, 1) := by decide +kernel
theorem dX12_anew_17 : decode cX12_anew 17 = .ok (.putfield 164, 3) := by decide +kernel
theorem dX12_anew_20 : decode cX12_anew 20 = .ok (.aload_n 0, 1) := by decide +kernel
theorem dX12_anew_21 : decode cX12_anew 21 = .ok (.iconst 0, 1) := by decide +kernel
theorem dX12_anew_22 : decode cX12_anew 22 = .ok (.putfield 174, 3) := by decide +kernel
theorem dX12_anew_25 : decode cX12_anew 25 = .ok (.aload_n 0, 1) := by decide +kernel
theorem dX12_anew_26 : decode cX12_anew 26 = .ok (.bipush (-9), 2) := by decide +kernel
theorem dX12_anew_28 : decode cX12_anew 28 = .ok (.putfield 79, 3) := by decide +kernel
theorem dX12_anew_31 : decode cX12_anew 31 = .ok (.iload_n 1, 1) := by decide +kernel
theorem dX12_anew_32 : decode cX12_anew 32 = .ok (.ireturn, 1) := by decide +kernel
theorem dX12_signOf_0 : decode cX12_signOf 0 = .ok (.aload_n 0, 1) := by decide +kernel
theorem dX12_signOf_1 : decode cX12_signOf 1 = .ok (.getfield 37, 3) := by decide +kernel
theorem dX12_signOf_4 : decode cX12_signOf 4 = .ok (.iload_n 1, 1) := by decide +kernel
theorem dX12_signOf_5 : decode cX12_signOf 5 = .ok (.iaload, 1) := by decide +kernel
theorem dX12_signOf_6 : decode cX12_signOf 6 = .ok (.istore_n 3, 1) := by decide +kernel
theorem dX12_signOf_7 : decode cX12_signOf 7 = .ok (.iload_n 3, 1) := by decide +kernel
theorem dX12_signOf_8 : decode cX12_signOf 8 = .ok (.bipush 100, 2) := by decide +kernel
theorem dX12_signOf_10 : decode cX12_signOf 10 = .ok (.if_icmp .ge 12, 3) := by decide +kernel
theorem dX12_signOf_13 : decode cX12_signOf 13 = .ok (.aload_n 0, 1) := by decide +kernel
theorem dX12_signOf_14 : decode cX12_signOf 14 = .ok (.iload_n 3, 1) := by decide +kernel
theorem dX12_signOf_15 : decode cX12_signOf 15 = .ok (.iload_n 2, 1) := by decide +kernel
theorem dX12_signOf_16 : decode cX12_signOf 16 = .ok (.invokevirtual 92, 3) := by decide +kernel
theorem dX12_signOf_19 : decode cX12_signOf 19 = .ok (.goto 17, 3) := by decide +kernel
theorem dX12_signOf_22 : decode cX12_signOf 22 = .ok (.aload_n 0, 1) := by decide +kernel
theorem dX12_signOf_23 : decode cX12_signOf 23 = .ok (.getfield 25, 3) := by decide +kernel
theorem dX12_signOf_26 : decode cX12_signOf 26 = .ok (.bipush 10, 2) := by decide +kernel
theorem dX12_signOf_28 : decode cX12_signOf 28 = .ok (.iload_n 3, 1) := by decide +kernel
theorem dX12_signOf_29 : decode cX12_signOf 29 = .ok (.bipush 100, 2) := by decide +kernel
theorem dX12_signOf_31 : decode cX12_signOf 31 = .ok (.isub, 1) := by decide +kernel
theorem dX12_signOf_32 : decode cX12_signOf 32 = .ok (.imul, 1) := by decide +kernel
theorem dX12_signOf_33 : decode cX12_signOf 33 = .ok (.iload_n 2, 1) := by decide +kernel
theorem dX12_signOf_34 : decode cX12_signOf 34 = .ok (.iadd, 1) := by decide +kernel
theorem dX12_signOf_35 : decode cX12_signOf 35 = .ok (.iaload, 1) := by decide +kernel
theorem dX12_signOf_36 : decode cX12_signOf 36 = .ok (.ireturn, 1) := by decide +kernel
theorem dX12_enters_0 : decode cX12_enters 0 = .ok (.aload_n 0, 1) := by decide +kernel
theorem dX12_enters_1 : decode cX12_enters 1 = .ok (.getfield 37, 3) := by decide +kernel
theorem dX12_enters_4 : decode cX12_enters 4 = .ok (.aload_n 0, 1) := by decide +kernel
theorem dX12_enters_5 : decode cX12_enters 5 = .ok (.getfield 177, 3) := by decide +kernel
theorem dX12_enters_8 : decode cX12_enters 8 = .ok (.iload_n 1, 1) := by decide +kernel
theorem dX12_enters_9 : decode cX12_enters 9 = .ok (.iastore, 1) := by decide +kernel
theorem dX12_enters_10 : decode cX12_enters 10 = .ok (.aload_n 0, 1) := by decide +kernel
theorem dX12_enters_11 : decode cX12_enters 11 = .ok (.getfield 40, 3) := by decide +kernel
theorem dX12_enters_14 : decode cX12_enters 14 = .ok (.aload_n 0, 1) := by decide +kernel
theorem dX12_enters_15 : decode cX12_enters 15 = .ok (.getfield 177, 3) := by decide +kernel
theorem dX12_enters_18 : decode cX12_enters 18 = .ok (.iload_n 2, 1) := by decide +kernel
theorem dX12_enters_19 : decode cX12_enters 19 = .ok (.iconst 1, 1) := by decide +kernel
theorem dX12_enters_20 : decode cX12_enters 20 = .ok (.isub, 1) := by decide +kernel
theorem dX12_enters_21 : decode cX12_enters 21 = .ok (.iastore, 1) := by decide +kernel
theorem dX12_enters_22 : decode cX12_enters 22 = .ok (.aload_n 0, 1) := by decide +kernel
theorem dX12_enters_23 : decode cX12_enters 23 = .ok (.getfield 43, 3) := by decide +kernel
theorem dX12_enters_26 : decode cX12_enters 26 = .ok (.aload_n 0, 1) := by decide +kernel
theorem dX12_enters_27 : decode cX12_enters 27 = .ok (.getfield 177, 3) := by decide +kernel
theorem dX12_enters_30 : decode cX12_enters 30 = .ok (.iload_n 3, 1) := by decide +kernel
theorem dX12_enters_31 : decode cX12_enters 31 = .ok (.iastore, 1) := by decide +kernel
theorem dX12_enters_32 : decode cX12_enters 32 = .ok (.aload_n 0, 1) := by decide +kernel
theorem dX12_enters_33 : decode cX12_enters 33 = .ok (.getfield 46, 3) := by decide +kernel
theorem dX12_enters_36 : decode cX12_enters 36 = .ok (.aload_n 0, 1) := by decide +kernel
theorem dX12_enters_37 : decode cX12_enters 37 = .ok (.getfield 177, 3) := by decide +kernel
theorem dX12_enters_40 : decode cX12_enters 40 = .ok (.iload 4, 2) := by decide +kernel
theorem dX12_enters_42 : decode cX12_enters 42 = .ok (.iastore, 1) := by decide +kernel
theorem dX12_enters_43 : decode cX12_enters 43 = .ok (.aload_n 0, 1) := by decide +kernel
theorem dX12_enters_44 : decode cX12_enters 44 = .ok (.getfield 49, 3) := by decide +kernel
theorem dX12_enters_47 : decode cX12_enters 47 = .ok (.aload_n 0, 1) := by decide +kernel
theorem dX12_enters_48 : decode cX12_enters 48 = .ok (.getfield 177, 3) := by decide +kernel
theorem dX12_enters_51 : decode cX12_enters 51 = .ok (.iload 5, 2) := by decide +kernel
theorem dX12_enters_53 : decode cX12_enters 53 = .ok (.iastore, 1) := by decide +kernel
theorem dX12_enters_54 : decode cX12_enters 54 = .ok (.aload_n 0, 1) := by decide +kernel
theorem dX12_enters_55 : decode cX12_enters 55 = .ok (.dup, 1) := by decide +kernel
theorem dX12_enters_56 : decode cX12_enters 56 = .ok (.getfield 177, 3) := by decide +kernel
theorem dX12_enters_59 : decode cX12_enters 59 = .ok (.iconst 1, 1) := by decide +kernel
theorem dX12_enters_60 : decode cX12_enters 60 = .ok (.iadd, 1) := by decide +kernel
theorem dX12_enters_61 : decode cX12_enters 61 = .ok (.putfield 177, 3) := by decide +kernel
theorem dX12_enters_64 : decode cX12_enters 64 = .ok (.return_, 1) := by decide +kernel
theorem dX12_calls_0 : decode cX12_calls 0 = .ok (.aload_n 0, 1) := by decide +kernel
theorem dX12_calls_1 : decode cX12_calls 1 = .ok (.dup, 1) := by decide +kernel
theorem dX12_calls_2 : decode cX12_calls 2 = .ok (.getfield 180, 3) := by decide +kernel
theorem dX12_calls_5 : decode cX12_calls 5 = .ok (.iconst 1, 1) := by decide +kernel
theorem dX12_calls_6 : decode cX12_calls 6 = .ok (.iadd, 1) := by decide +kernel
theorem dX12_calls_7 : decode cX12_calls 7 = .ok (.putfield 180, 3) := by decide +kernel
theorem dX12_calls_10 : decode cX12_calls 10 = .ok (.aload_n 0, 1) := by decide +kernel
theorem dX12_calls_11 : decode cX12_calls 11 = .ok (.getfield 180, 3) := by decide +kernel
theorem dX12_calls_14 : decode cX12_calls 14 = .ok (.bipush 60, 2) := by decide +kernel
theorem dX12_calls_16 : decode cX12_calls 16 = .ok (.if_icmp .le 5, 3) := by decide +kernel
theorem dX12_calls_19 : decode cX12_calls 19 = .ok (.iconst 0, 1) := by decide +kernel
theorem dX12_calls_20 : decode cX12_calls 20 = .ok (.ireturn, 1) := by decide +kernel
theorem dX12_calls_21 : decode cX12_calls 21 = .ok (.aload_n 0, 1) := by decide +kernel
theorem dX12_calls_22 : decode cX12_calls 22 = .ok (.getfield 22, 3) := by decide +kernel
theorem dX12_calls_25 : decode cX12_calls 25 = .ok (.iload_n 1, 1) := by decide +kernel
theorem dX12_calls_26 : decode cX12_calls 26 = .ok (.iaload, 1) := by decide +kernel
theorem dX12_calls_27 : decode cX12_calls 27 = .ok (.istore 4, 2) := by decide +kernel
theorem dX12_calls_29 : decode cX12_calls 29 = .ok (.iload_n 2, 1) := by decide +kernel
theorem dX12_calls_30 : decode cX12_calls 30 = .ok (.ifCond .ne 7, 3) := by decide +kernel
theorem dX12_calls_33 : decode cX12_calls 33 = .ok (.iconst 0, 1) := by decide +kernel
theorem dX12_calls_34 : decode cX12_calls 34 = .ok (.goto 14, 3) := by decide +kernel
theorem dX12_calls_37 : decode cX12_calls 37 = .ok (.iload_n 2, 1) := by decide +kernel
theorem dX12_calls_38 : decode cX12_calls 38 = .ok (.iload 4, 2) := by decide +kernel
theorem dX12_calls_40 : decode cX12_calls 40 = .ok (.if_icmp .lt 7, 3) := by decide +kernel
theorem dX12_calls_43 : decode cX12_calls 43 = .ok (.iconst 2, 1) := by decide +kernel
theorem dX12_calls_44 : decode cX12_calls 44 = .ok (.goto 4, 3) := by decide +kernel
theorem dX12_calls_47 : decode cX12_calls 47 = .ok (.iconst 1, 1) := by decide +kernel
theorem dX12_calls_48 : decode cX12_calls 48 = .ok (.istore 5, 2) := by decide +kernel
theorem dX12_calls_50 : decode cX12_calls 50 = .ok (.aload_n 0, 1) := by decide +kernel
theorem dX12_calls_51 : decode cX12_calls 51 = .ok (.bipush 100, 2) := by decide +kernel
theorem dX12_calls_53 : decode cX12_calls 53 = .ok (.iconst 3, 1) := by decide +kernel
theorem dX12_calls_54 : decode cX12_calls 54 = .ok (.iload_n 1, 1) := by decide +kernel
theorem dX12_calls_55 : decode cX12_calls 55 = .ok (.imul, 1) := by decide +kernel
theorem dX12_calls_56 : decode cX12_calls 56 = .ok (.iadd, 1) := by decide +kernel
theorem dX12_calls_57 : decode cX12_calls 57 = .ok (.iload 5, 2) := by decide +kernel
theorem dX12_calls_59 : decode cX12_calls 59 = .ok (.iadd, 1) := by decide +kernel
theorem dX12_calls_60 : decode cX12_calls 60 = .ok (.aload_n 0, 1) := by decide +kernel
theorem dX12_calls_61 : decode cX12_calls 61 = .ok (.getfield 28, 3) := by decide +kernel
theorem dX12_calls_64 : decode cX12_calls 64 = .ok (.iconst 3, 1) := by decide +kernel
theorem dX12_calls_65 : decode cX12_calls 65 = .ok (.iload_n 1, 1) := by decide +kernel
theorem dX12_calls_66 : decode cX12_calls 66 = .ok (.imul, 1) := by decide +kernel
theorem dX12_calls_67 : decode cX12_calls 67 = .ok (.iload 5, 2) := by decide +kernel
theorem dX12_calls_69 : decode cX12_calls 69 = .ok (.iadd, 1) := by decide +kernel
theorem dX12_calls_70 : decode cX12_calls 70 = .ok (.iaload, 1) := by decide +kernel
theorem dX12_calls_71 : decode cX12_calls 71 = .ok (.iload_n 2, 1) := by decide +kernel
theorem dX12_calls_72 : decode cX12_calls 72 = .ok (.iload 4, 2) := by decide +kernel
theorem dX12_calls_74 : decode cX12_calls 74 = .ok (.isub, 1) := by decide +kernel
theorem dX12_calls_75 : decode cX12_calls 75 = .ok (.iload_n 3, 1) := by decide +kernel
theorem dX12_calls_76 : decode cX12_calls 76 = .ok (.iconst 0, 1) := by decide +kernel
theorem dX12_calls_77 : decode cX12_calls 77 = .ok (.invokevirtual 183, 3) := by decide +kernel
theorem dX12_calls_80 : decode cX12_calls 80 = .ok (.iconst 1, 1) := by decide +kernel
theorem dX12_calls_81 : decode cX12_calls 81 = .ok (.ireturn, 1) := by decide +kernel
theorem dX12_takesSign_0 : decode cX12_takesSign 0 = .ok (.iload_n 2, 1) := by decide +kernel
theorem dX12_takesSign_1 : decode cX12_takesSign 1 = .ok (.bipush 90, 2) := by decide +kernel
theorem dX12_takesSign_3 : decode cX12_takesSign 3 = .ok (.if_icmp .ne 26, 3) := by decide +kernel
theorem dX12_takesSign_6 : decode cX12_takesSign 6 = .ok (.aload_n 0, 1) := by decide +kernel
theorem dX12_takesSign_7 : decode cX12_takesSign 7 = .ok (.getfield 34, 3) := by decide +kernel
theorem dX12_takesSign_10 : decode cX12_takesSign 10 = .ok (.aload_n 0, 1) := by decide +kernel
theorem dX12_takesSign_11 : decode cX12_takesSign 11 = .ok (.getfield 187, 3) := by decide +kernel
theorem dX12_takesSign_14 : decode cX12_takesSign 14 = .ok (.iconst 0, 1) := by decide +kernel
theorem dX12_takesSign_15 : decode cX12_takesSign 15 = .ok (.iastore, 1) := by decide +kernel
theorem dX12_takesSign_16 : decode cX12_takesSign 16 = .ok (.aload_n 0, 1) := by decide +kernel
theorem dX12_takesSign_17 : decode cX12_takesSign 17 = .ok (.dup, 1) := by decide +kernel
theorem dX12_takesSign_18 : decode cX12_takesSign 18 = .ok (.getfield 187, 3) := by decide +kernel
theorem dX12_takesSign_21 : decode cX12_takesSign 21 = .ok (.iconst 1, 1) := by decide +kernel
theorem dX12_takesSign_22 : decode cX12_takesSign 22 = .ok (.iadd, 1) := by decide +kernel
theorem dX12_takesSign_23 : decode cX12_takesSign 23 = .ok (.putfield 187, 3) := by decide +kernel
theorem dX12_takesSign_26 : decode cX12_takesSign 26 = .ok (.goto 181, 3) := by decide +kernel
theorem dX12_takesSign_29 : decode cX12_takesSign 29 = .ok (.iload_n 2, 1) := by decide +kernel
theorem dX12_takesSign_30 : decode cX12_takesSign 30 = .ok (.bipush 83, 2) := by decide +kernel
theorem dX12_takesSign_32 : decode cX12_takesSign 32 = .ok (.if_icmp .ne 40, 3) := by decide +kernel
theorem dX12_takesSign_35 : decode cX12_takesSign 35 = .ok (.aload_n 0, 1) := by decide +kernel
theorem dX12_takesSign_36 : decode cX12_takesSign 36 = .ok (.getfield 34, 3) := by decide +kernel
theorem dX12_takesSign_39 : decode cX12_takesSign 39 = .ok (.aload_n 0, 1) := by decide +kernel
theorem dX12_takesSign_40 : decode cX12_takesSign 40 = .ok (.getfield 187, 3) := by decide +kernel
theorem dX12_takesSign_43 : decode cX12_takesSign 43 = .ok (.iconst 1, 1) := by decide +kernel
theorem dX12_takesSign_44 : decode cX12_takesSign 44 = .ok (.isub, 1) := by decide +kernel
theorem dX12_takesSign_45 : decode cX12_takesSign 45 = .ok (.dup2, 1) := by decide +kernel
theorem dX12_takesSign_46 : decode cX12_takesSign 46 = .ok (.iaload, 1) := by decide +kernel
theorem dX12_takesSign_47 : decode cX12_takesSign 47 = .ok (.iconst 1, 1) := by decide +kernel
theorem dX12_takesSign_48 : decode cX12_takesSign 48 = .ok (.iadd, 1) := by decide +kernel
theorem dX12_takesSign_49 : decode cX12_takesSign 49 = .ok (.iastore, 1) := by decide +kernel
theorem dX12_takesSign_50 : decode cX12_takesSign 50 = .ok (.aload_n 0, 1) := by decide +kernel
theorem dX12_takesSign_51 : decode cX12_takesSign 51 = .ok (.getfield 34, 3) := by decide +kernel
theorem dX12_takesSign_54 : decode cX12_takesSign 54 = .ok (.aload_n 0, 1) := by decide +kernel
theorem dX12_takesSign_55 : decode cX12_takesSign 55 = .ok (.getfield 187, 3) := by decide +kernel
theorem dX12_takesSign_58 : decode cX12_takesSign 58 = .ok (.iconst 1, 1) := by decide +kernel
theorem dX12_takesSign_59 : decode cX12_takesSign 59 = .ok (.isub, 1) := by decide +kernel
theorem dX12_takesSign_60 : decode cX12_takesSign 60 = .ok (.iaload, 1) := by decide +kernel
theorem dX12_takesSign_61 : decode cX12_takesSign 61 = .ok (.bipush 99, 2) := by decide +kernel
theorem dX12_takesSign_63 : decode cX12_takesSign 63 = .ok (.if_icmp .gt 7, 3) := by decide +kernel
theorem dX12_takesSign_66 : decode cX12_takesSign 66 = .ok (.iconst 1, 1) := by decide +kernel
theorem dX12_takesSign_67 : decode cX12_takesSign 67 = .ok (.goto 4, 3) := by decide +kernel
theorem dX12_takesSign_70 : decode cX12_takesSign 70 = .ok (.iconst 0, 1) := by decide +kernel
theorem dX12_takesSign_71 : decode cX12_takesSign 71 = .ok (.ireturn, 1) := by decide +kernel
theorem dX12_takesSign_72 : decode cX12_takesSign 72 = .ok (.iload_n 2, 1) := by decide +kernel
theorem dX12_takesSign_73 : decode cX12_takesSign 73 = .ok (.invokestatic 111, 3) := by decide +kernel
theorem dX12_takesSign_76 : decode cX12_takesSign 76 = .ok (.ifCond .eq 61, 3) := by decide +kernel
theorem dX12_takesSign_79 : decode cX12_takesSign 79 = .ok (.aload_n 0, 1) := by decide +kernel
theorem dX12_takesSign_80 : decode cX12_takesSign 80 = .ok (.getfield 34, 3) := by decide +kernel
theorem dX12_takesSign_83 : decode cX12_takesSign 83 = .ok (.aload_n 0, 1) := by decide +kernel
theorem dX12_takesSign_84 : decode cX12_takesSign 84 = .ok (.getfield 187, 3) := by decide +kernel
theorem dX12_takesSign_87 : decode cX12_takesSign 87 = .ok (.iload_n 2, 1) := by decide +kernel
theorem dX12_takesSign_88 : decode cX12_takesSign 88 = .ok (.bipush 120, 2) := by decide +kernel
theorem dX12_takesSign_90 : decode cX12_takesSign 90 = .ok (.if_icmp .ne 12, 3) := by decide +kernel
theorem dX12_takesSign_93 : decode cX12_takesSign 93 = .ok (.aload_n 0, 1) := by decide +kernel
theorem dX12_takesSign_94 : decode cX12_takesSign 94 = .ok (.getfield 43, 3) := by decide +kernel
theorem dX12_takesSign_97 : decode cX12_takesSign 97 = .ok (.iload_n 1, 1) := by decide +kernel
theorem dX12_takesSign_98 : decode cX12_takesSign 98 = .ok (.iaload, 1) := by decide +kernel
theorem dX12_takesSign_99 : decode cX12_takesSign 99 = .ok (.goto 24, 3) := by decide +kernel
theorem dX12_takesSign_102 : decode cX12_takesSign 102 = .ok (.iload_n 2, 1) := by decide +kernel
theorem dX12_takesSign_103 : decode cX12_takesSign 103 = .ok (.bipush 121, 2) := by decide +kernel
theorem dX12_takesSign_105 : decode cX12_takesSign 105 = .ok (.if_icmp .ne 12, 3) := by decide +kernel
theorem dX12_takesSign_108 : decode cX12_takesSign 108 = .ok (.aload_n 0, 1) := by decide +kernel
theorem dX12_takesSign_109 : decode cX12_takesSign 109 = .ok (.getfield 46, 3) := by decide +kernel
theorem dX12_takesSign_112 : decode cX12_takesSign 112 = .ok (.iload_n 1, 1) := by decide +kernel
theorem dX12_takesSign_113 : decode cX12_takesSign 113 = .ok (.iaload, 1) := by decide +kernel
theorem dX12_takesSign_114 : decode cX12_takesSign 114 = .ok (.goto 9, 3) := by decide +kernel
theorem dX12_takesSign_117 : decode cX12_takesSign 117 = .ok (.aload_n 0, 1) := by decide +kernel
theorem dX12_takesSign_118 : decode cX12_takesSign 118 = .ok (.getfield 49, 3) := by decide +kernel
theorem dX12_takesSign_121 : decode cX12_takesSign 121 = .ok (.iload_n 1, 1) := by decide +kernel
theorem dX12_takesSign_122 : decode cX12_takesSign 122 = .ok (.iaload, 1) := by decide +kernel
theorem dX12_takesSign_123 : decode cX12_takesSign 123 = .ok (.iastore, 1) := by decide +kernel
theorem dX12_takesSign_124 : decode cX12_takesSign 124 = .ok (.aload_n 0, 1) := by decide +kernel
theorem dX12_takesSign_125 : decode cX12_takesSign 125 = .ok (.dup, 1) := by decide +kernel
theorem dX12_takesSign_126 : decode cX12_takesSign 126 = .ok (.getfield 187, 3) := by decide +kernel
theorem dX12_takesSign_129 : decode cX12_takesSign 129 = .ok (.iconst 1, 1) := by decide +kernel
theorem dX12_takesSign_130 : decode cX12_takesSign 130 = .ok (.iadd, 1) := by decide +kernel
theorem dX12_takesSign_131 : decode cX12_takesSign 131 = .ok (.putfield 187, 3) := by decide +kernel
theorem dX12_takesSign_134 : decode cX12_takesSign 134 = .ok (.goto 73, 3) := by decide +kernel
theorem dX12_takesSign_137 : decode cX12_takesSign 137 = .ok (.iload_n 2, 1) := by decide +kernel
theorem dX12_takesSign_138 : decode cX12_takesSign 138 = .ok (.bipush 97, 2) := by decide +kernel
theorem dX12_takesSign_140 : decode cX12_takesSign 140 = .ok (.isub, 1) := by decide +kernel
theorem dX12_takesSign_141 : decode cX12_takesSign 141 = .ok (.istore_n 3, 1) := by decide +kernel
theorem dX12_takesSign_142 : decode cX12_takesSign 142 = .ok (.aload_n 0, 1) := by decide +kernel
theorem dX12_takesSign_143 : decode cX12_takesSign 143 = .ok (.getfield 34, 3) := by decide +kernel
theorem dX12_takesSign_146 : decode cX12_takesSign 146 = .ok (.aload_n 0, 1) := by decide +kernel
theorem dX12_takesSign_147 : decode cX12_takesSign 147 = .ok (.getfield 187, 3) := by decide +kernel
theorem dX12_takesSign_150 : decode cX12_takesSign 150 = .ok (.iconst 1, 1) := by decide +kernel
theorem dX12_takesSign_151 : decode cX12_takesSign 151 = .ok (.isub, 1) := by decide +kernel
theorem dX12_takesSign_152 : decode cX12_takesSign 152 = .ok (.iaload, 1) := by decide +kernel
theorem dX12_takesSign_153 : decode cX12_takesSign 153 = .ok (.istore 4, 2) := by decide +kernel
theorem dX12_takesSign_155 : decode cX12_takesSign 155 = .ok (.aload_n 0, 1) := by decide +kernel
theorem dX12_takesSign_156 : decode cX12_takesSign 156 = .ok (.getfield 19, 3) := by decide +kernel
theorem dX12_takesSign_159 : decode cX12_takesSign 159 = .ok (.iload_n 3, 1) := by decide +kernel
theorem dX12_takesSign_160 : decode cX12_takesSign 160 = .ok (.iaload, 1) := by decide +kernel
theorem dX12_takesSign_161 : decode cX12_takesSign 161 = .ok (.iconst 2, 1) := by decide +kernel
theorem dX12_takesSign_162 : decode cX12_takesSign 162 = .ok (.if_icmp .ne 17, 3) := by decide +kernel
theorem dX12_takesSign_165 : decode cX12_takesSign 165 = .ok (.aload_n 0, 1) := by decide +kernel
theorem dX12_takesSign_166 : decode cX12_takesSign 166 = .ok (.getfield 34, 3) := by decide +kernel
theorem dX12_takesSign_169 : decode cX12_takesSign 169 = .ok (.aload_n 0, 1) := by decide +kernel
theorem dX12_takesSign_170 : decode cX12_takesSign 170 = .ok (.getfield 187, 3) := by decide +kernel
theorem dX12_takesSign_173 : decode cX12_takesSign 173 = .ok (.iconst 2, 1) := by decide +kernel
theorem dX12_takesSign_174 : decode cX12_takesSign 174 = .ok (.isub, 1) := by decide +kernel
theorem dX12_takesSign_175 : decode cX12_takesSign 175 = .ok (.iaload, 1) := by decide +kernel
theorem dX12_takesSign_176 : decode cX12_takesSign 176 = .ok (.goto 4, 3) := by decide +kernel
theorem dX12_takesSign_179 : decode cX12_takesSign 179 = .ok (.iconst 0, 1) := by decide +kernel
theorem dX12_takesSign_180 : decode cX12_takesSign 180 = .ok (.istore 5, 2) := by decide +kernel
theorem dX12_takesSign_182 : decode cX12_takesSign 182 = .ok (.aload_n 0, 1) := by decide +kernel
theorem dX12_takesSign_183 : decode cX12_takesSign 183 = .ok (.dup, 1) := by decide +kernel
theorem dX12_takesSign_184 : decode cX12_takesSign 184 = .ok (.getfield 187, 3) := by decide +kernel
theorem dX12_takesSign_187 : decode cX12_takesSign 187 = .ok (.aload_n 0, 1) := by decide +kernel
theorem dX12_takesSign_188 : decode cX12_takesSign 188 = .ok (.getfield 19, 3) := by decide +kernel
theorem dX12_takesSign_191 : decode cX12_takesSign 191 = .ok (.iload_n 3, 1) := by decide +kernel
theorem dX12_takesSign_192 : decode cX12_takesSign 192 = .ok (.iaload, 1) := by decide +kernel
theorem dX12_takesSign_193 : decode cX12_takesSign 193 = .ok (.isub, 1) := by decide +kernel
theorem dX12_takesSign_194 : decode cX12_takesSign 194 = .ok (.putfield 187, 3) := by decide +kernel
theorem dX12_takesSign_197 : decode cX12_takesSign 197 = .ok (.aload_n 0, 1) := by decide +kernel
theorem dX12_takesSign_198 : decode cX12_takesSign 198 = .ok (.iload_n 3, 1) := by decide +kernel
theorem dX12_takesSign_199 : decode cX12_takesSign 199 = .ok (.iload 4, 2) := by decide +kernel
theorem dX12_takesSign_201 : decode cX12_takesSign 201 = .ok (.iload 5, 2) := by decide +kernel
theorem dX12_takesSign_203 : decode cX12_takesSign 203 = .ok (.invokevirtual 190, 3) := by decide +kernel
theorem dX12_takesSign_206 : decode cX12_takesSign 206 = .ok (.ireturn, 1) := by decide +kernel
theorem dX12_takesSign_207 : decode cX12_takesSign 207 = .ok (.iconst 1, 1) := by decide +kernel
theorem dX12_takesSign_208 : decode cX12_takesSign 208 = .ok (.ireturn, 1) := by decide +kernel
theorem dX12_works_0 : decode cX12_works 0 = .ok (.aload_n 0, 1) := by decide +kernel
theorem dX12_works_1 : decode cX12_works 1 = .ok (.getfield 177, 3) := by decide +kernel
theorem dX12_works_4 : decode cX12_works 4 = .ok (.ifCond .le 69, 3) := by decide +kernel
theorem dX12_works_7 : decode cX12_works 7 = .ok (.aload_n 0, 1) := by decide +kernel
theorem dX12_works_8 : decode cX12_works 8 = .ok (.getfield 177, 3) := by decide +kernel
theorem dX12_works_11 : decode cX12_works 11 = .ok (.iconst 1, 1) := by decide +kernel
theorem dX12_works_12 : decode cX12_works 12 = .ok (.isub, 1) := by decide +kernel
theorem dX12_works_13 : decode cX12_works 13 = .ok (.istore_n 1, 1) := by decide +kernel
theorem dX12_works_14 : decode cX12_works 14 = .ok (.aload_n 0, 1) := by decide +kernel
theorem dX12_works_15 : decode cX12_works 15 = .ok (.getfield 40, 3) := by decide +kernel
theorem dX12_works_18 : decode cX12_works 18 = .ok (.iload_n 1, 1) := by decide +kernel
theorem dX12_works_19 : decode cX12_works 19 = .ok (.iaload, 1) := by decide +kernel
theorem dX12_works_20 : decode cX12_works 20 = .ok (.ifCond .ge 16, 3) := by decide +kernel
theorem dX12_works_23 : decode cX12_works 23 = .ok (.aload_n 0, 1) := by decide +kernel
theorem dX12_works_24 : decode cX12_works 24 = .ok (.dup, 1) := by decide +kernel
theorem dX12_works_25 : decode cX12_works 25 = .ok (.getfield 177, 3) := by decide +kernel
theorem dX12_works_28 : decode cX12_works 28 = .ok (.iconst 1, 1) := by decide +kernel
theorem dX12_works_29 : decode cX12_works 29 = .ok (.isub, 1) := by decide +kernel
theorem dX12_works_30 : decode cX12_works 30 = .ok (.putfield 177, 3) := by decide +kernel
theorem dX12_works_33 : decode cX12_works 33 = .ok (.goto 37, 3) := by decide +kernel
theorem dX12_works_36 : decode cX12_works 36 = .ok (.aload_n 0, 1) := by decide +kernel
theorem dX12_works_37 : decode cX12_works 37 = .ok (.iload_n 1, 1) := by decide +kernel
theorem dX12_works_38 : decode cX12_works 38 = .ok (.aload_n 0, 1) := by decide +kernel
theorem dX12_works_39 : decode cX12_works 39 = .ok (.getfield 40, 3) := by decide +kernel
theorem dX12_works_42 : decode cX12_works 42 = .ok (.iload_n 1, 1) := by decide +kernel
theorem dX12_works_43 : decode cX12_works 43 = .ok (.iaload, 1) := by decide +kernel
theorem dX12_works_44 : decode cX12_works 44 = .ok (.invokevirtual 193, 3) := by decide +kernel
theorem dX12_works_47 : decode cX12_works 47 = .ok (.istore_n 2, 1) := by decide +kernel
theorem dX12_works_48 : decode cX12_works 48 = .ok (.aload_n 0, 1) := by decide +kernel
theorem dX12_works_49 : decode cX12_works 49 = .ok (.getfield 40, 3) := by decide +kernel
theorem dX12_works_52 : decode cX12_works 52 = .ok (.iload_n 1, 1) := by decide +kernel
theorem dX12_works_53 : decode cX12_works 53 = .ok (.dup2, 1) := by decide +kernel
theorem dX12_works_54 : decode cX12_works 54 = .ok (.iaload, 1) := by decide +kernel
theorem dX12_works_55 : decode cX12_works 55 = .ok (.iconst 1, 1) := by decide +kernel
theorem dX12_works_56 : decode cX12_works 56 = .ok (.isub, 1) := by decide +kernel
theorem dX12_works_57 : decode cX12_works 57 = .ok (.iastore, 1) := by decide +kernel
theorem dX12_works_58 : decode cX12_works 58 = .ok (.aload_n 0, 1) := by decide +kernel
theorem dX12_works_59 : decode cX12_works 59 = .ok (.iload_n 1, 1) := by decide +kernel
theorem dX12_works_60 : decode cX12_works 60 = .ok (.iload_n 2, 1) := by decide +kernel
theorem dX12_works_61 : decode cX12_works 61 = .ok (.invokevirtual 196, 3) := by decide +kernel
theorem dX12_works_64 : decode cX12_works 64 = .ok (.ifCond .ne 6, 3) := by decide +kernel
theorem dX12_works_67 : decode cX12_works 67 = .ok (.bipush (-9), 2) := by decide +kernel
theorem dX12_works_69 : decode cX12_works 69 = .ok (.ireturn, 1) := by decide +kernel
theorem dX12_works_70 : decode cX12_works 70 = .ok (.goto (-70), 3) := by decide +kernel
theorem dX12_works_73 : decode cX12_works 73 = .ok (.aload_n 0, 1) := by decide +kernel
theorem dX12_works_74 : decode cX12_works 74 = .ok (.getfield 34, 3) := by decide +kernel
theorem dX12_works_77 : decode cX12_works 77 = .ok (.iconst 0, 1) := by decide +kernel
theorem dX12_works_78 : decode cX12_works 78 = .ok (.iaload, 1) := by decide +kernel
theorem dX12_works_79 : decode cX12_works 79 = .ok (.ireturn, 1) := by decide +kernel
theorem dX12_valueOf_0 : decode cX12_valueOf 0 = .ok (.aload_n 0, 1) := by decide +kernel
theorem dX12_valueOf_1 : decode cX12_valueOf 1 = .ok (.iconst 0, 1) := by decide +kernel
theorem dX12_valueOf_2 : decode cX12_valueOf 2 = .ok (.putfield 187, 3) := by decide +kernel
theorem dX12_valueOf_5 : decode cX12_valueOf 5 = .ok (.aload_n 0, 1) := by decide +kernel
theorem dX12_valueOf_6 : decode cX12_valueOf 6 = .ok (.iconst 0, 1) := by decide +kernel
theorem dX12_valueOf_7 : decode cX12_valueOf 7 = .ok (.putfield 180, 3) := by decide +kernel
theorem dX12_valueOf_10 : decode cX12_valueOf 10 = .ok (.aload_n 0, 1) := by decide +kernel
theorem dX12_valueOf_11 : decode cX12_valueOf 11 = .ok (.iconst 0, 1) := by decide +kernel
theorem dX12_valueOf_12 : decode cX12_valueOf 12 = .ok (.putfield 177, 3) := by decide +kernel
theorem dX12_valueOf_15 : decode cX12_valueOf 15 = .ok (.aload_n 0, 1) := by decide +kernel
theorem dX12_valueOf_16 : decode cX12_valueOf 16 = .ok (.iload_n 1, 1) := by decide +kernel
theorem dX12_valueOf_17 : decode cX12_valueOf 17 = .ok (.aload_n 0, 1) := by decide +kernel
theorem dX12_valueOf_18 : decode cX12_valueOf 18 = .ok (.getfield 13, 3) := by decide +kernel
theorem dX12_valueOf_21 : decode cX12_valueOf 21 = .ok (.iload_n 1, 1) := by decide +kernel
theorem dX12_valueOf_22 : decode cX12_valueOf 22 = .ok (.iaload, 1) := by decide +kernel
theorem dX12_valueOf_23 : decode cX12_valueOf 23 = .ok (.iload_n 2, 1) := by decide +kernel
theorem dX12_valueOf_24 : decode cX12_valueOf 24 = .ok (.iload_n 3, 1) := by decide +kernel
theorem dX12_valueOf_25 : decode cX12_valueOf 25 = .ok (.iload 4, 2) := by decide +kernel
theorem dX12_valueOf_27 : decode cX12_valueOf 27 = .ok (.invokevirtual 183, 3) := by decide +kernel
theorem dX12_valueOf_30 : decode cX12_valueOf 30 = .ok (.aload_n 0, 1) := by decide +kernel
theorem dX12_valueOf_31 : decode cX12_valueOf 31 = .ok (.invokevirtual 199, 3) := by decide +kernel
theorem dX12_valueOf_34 : decode cX12_valueOf 34 = .ok (.ireturn, 1) := by decide +kernel
theorem dX12_value_0 : decode cX12_value 0 = .ok (.aload_n 0, 1) := by decide +kernel
theorem dX12_value_1 : decode cX12_value 1 = .ok (.iload_n 1, 1) := by decide +kernel
theorem dX12_value_2 : decode cX12_value 2 = .ok (.invokevirtual 144, 3) := by decide +kernel
theorem dX12_value_5 : decode cX12_value 5 = .ok (.ifCond .ne 5, 3) := by decide +kernel
theorem dX12_value_8 : decode cX12_value 8 = .ok (.iconst (-1), 1) := by decide +kernel
theorem dX12_value_9 : decode cX12_value 9 = .ok (.ireturn, 1) := by decide +kernel
theorem dX12_value_10 : decode cX12_value 10 = .ok (.iload_n 2, 1) := by decide +kernel
theorem dX12_value_11 : decode cX12_value 11 = .ok (.iconst 0, 1) := by decide +kernel
theorem dX12_value_12 : decode cX12_value 12 = .ok (.bipush 9, 2) := by decide +kernel
theorem dX12_value_14 : decode cX12_value 14 = .ok (.invokestatic 96, 3) := by decide +kernel
theorem dX12_value_17 : decode cX12_value 17 = .ok (.ifCond .eq 33, 3) := by decide +kernel
theorem dX12_value_20 : decode cX12_value 20 = .ok (.aload_n 0, 1) := by decide +kernel
theorem dX12_value_21 : decode cX12_value 21 = .ok (.getfield 19, 3) := by decide +kernel
theorem dX12_value_24 : decode cX12_value 24 = .ok (.iload_n 1, 1) := by decide +kernel
theorem dX12_value_25 : decode cX12_value 25 = .ok (.iaload, 1) := by decide +kernel
theorem dX12_value_26 : decode cX12_value 26 = .ok (.iconst 2, 1) := by decide +kernel
theorem dX12_value_27 : decode cX12_value 27 = .ok (.if_icmp .ne 13, 3) := by decide +kernel
theorem dX12_value_30 : decode cX12_value 30 = .ok (.iload_n 3, 1) := by decide +kernel
theorem dX12_value_31 : decode cX12_value 31 = .ok (.iconst 0, 1) := by decide +kernel
theorem dX12_value_32 : decode cX12_value 32 = .ok (.bipush 9, 2) := by decide +kernel
theorem dX12_value_34 : decode cX12_value 34 = .ok (.invokestatic 96, 3) := by decide +kernel
theorem dX12_value_37 : decode cX12_value 37 = .ok (.ifCond .eq 13, 3) := by decide +kernel
theorem dX12_value_40 : decode cX12_value 40 = .ok (.iload 4, 2) := by decide +kernel
theorem dX12_value_42 : decode cX12_value 42 = .ok (.iconst 0, 1) := by decide +kernel
theorem dX12_value_43 : decode cX12_value 43 = .ok (.iconst 1, 1) := by decide +kernel
theorem dX12_value_44 : decode cX12_value 44 = .ok (.invokestatic 96, 3) := by decide +kernel
theorem dX12_value_47 : decode cX12_value 47 = .ok (.ifCond .ne 6, 3) := by decide +kernel
theorem dX12_value_50 : decode cX12_value 50 = .ok (.bipush (-2), 2) := by decide +kernel
theorem dX12_value_52 : decode cX12_value 52 = .ok (.ireturn, 1) := by decide +kernel
theorem dX12_value_53 : decode cX12_value 53 = .ok (.aload_n 0, 1) := by decide +kernel
theorem dX12_value_54 : decode cX12_value 54 = .ok (.iconst 0, 1) := by decide +kernel
theorem dX12_value_55 : decode cX12_value 55 = .ok (.putfield 187, 3) := by decide +kernel
theorem dX12_value_58 : decode cX12_value 58 = .ok (.aload_n 0, 1) := by decide +kernel
theorem dX12_value_59 : decode cX12_value 59 = .ok (.iconst 0, 1) := by decide +kernel
theorem dX12_value_60 : decode cX12_value 60 = .ok (.putfield 180, 3) := by decide +kernel
theorem dX12_value_63 : decode cX12_value 63 = .ok (.aload_n 0, 1) := by decide +kernel
theorem dX12_value_64 : decode cX12_value 64 = .ok (.iconst 0, 1) := by decide +kernel
theorem dX12_value_65 : decode cX12_value 65 = .ok (.putfield 177, 3) := by decide +kernel
theorem dX12_value_68 : decode cX12_value 68 = .ok (.aload_n 0, 1) := by decide +kernel
theorem dX12_value_69 : decode cX12_value 69 = .ok (.iload_n 1, 1) := by decide +kernel
theorem dX12_value_70 : decode cX12_value 70 = .ok (.iload_n 2, 1) := by decide +kernel
theorem dX12_value_71 : decode cX12_value 71 = .ok (.iload_n 3, 1) := by decide +kernel
theorem dX12_value_72 : decode cX12_value 72 = .ok (.invokevirtual 190, 3) := by decide +kernel
theorem dX12_value_75 : decode cX12_value 75 = .ok (.pop, 1) := by decide +kernel
theorem dX12_value_76 : decode cX12_value 76 = .ok (.aload_n 0, 1) := by decide +kernel
theorem dX12_value_77 : decode cX12_value 77 = .ok (.invokevirtual 199, 3) := by decide +kernel
theorem dX12_value_80 : decode cX12_value 80 = .ok (.istore 5, 2) := by decide +kernel
theorem dX12_value_82 : decode cX12_value 82 = .ok (.iload 5, 2) := by decide +kernel
theorem dX12_value_84 : decode cX12_value 84 = .ok (.bipush (-9), 2) := by decide +kernel
theorem dX12_value_86 : decode cX12_value 86 = .ok (.if_icmp .ne 8, 3) := by decide +kernel
theorem dX12_value_89 : decode cX12_value 89 = .ok (.bipush (-9), 2) := by decide +kernel
theorem dX12_value_91 : decode cX12_value 91 = .ok (.goto 17, 3) := by decide +kernel
theorem dX12_value_94 : decode cX12_value 94 = .ok (.iload 4, 2) := by decide +kernel
theorem dX12_value_96 : decode cX12_value 96 = .ok (.ifCond .ne 8, 3) := by decide +kernel
theorem dX12_value_99 : decode cX12_value 99 = .ok (.iload 5, 2) := by decide +kernel
theorem dX12_value_101 : decode cX12_value 101 = .ok (.goto 7, 3) := by decide +kernel
theorem dX12_value_104 : decode cX12_value 104 = .ok (.aload_n 0, 1) := by decide +kernel
theorem dX12_value_105 : decode cX12_value 105 = .ok (.getfield 180, 3) := by decide +kernel
theorem dX12_value_108 : decode cX12_value 108 = .ok (.ireturn, 1) := by decide +kernel
theorem dX12_holdsBy_0 : decode cX12_holdsBy 0 = .ok (.aload_n 0, 1) := by decide +kernel
theorem dX12_holdsBy_1 : decode cX12_holdsBy 1 = .ok (.iload_n 1, 1) := by decide +kernel
theorem dX12_holdsBy_2 : decode cX12_holdsBy 2 = .ok (.iload_n 3, 1) := by decide +kernel
theorem dX12_holdsBy_3 : decode cX12_holdsBy 3 = .ok (.iload 4, 2) := by decide +kernel
theorem dX12_holdsBy_5 : decode cX12_holdsBy 5 = .ok (.iload 5, 2) := by decide +kernel
theorem dX12_holdsBy_7 : decode cX12_holdsBy 7 = .ok (.invokevirtual 203, 3) := by decide +kernel
theorem dX12_holdsBy_10 : decode cX12_holdsBy 10 = .ok (.istore 6, 2) := by decide +kernel
theorem dX12_holdsBy_12 : decode cX12_holdsBy 12 = .ok (.iload 6, 2) := by decide +kernel
theorem dX12_holdsBy_14 : decode cX12_holdsBy 14 = .ok (.bipush (-9), 2) := by decide +kernel
theorem dX12_holdsBy_16 : decode cX12_holdsBy 16 = .ok (.if_icmp .ne 8, 3) := by decide +kernel
theorem dX12_holdsBy_19 : decode cX12_holdsBy 19 = .ok (.bipush (-9), 2) := by decide +kernel
theorem dX12_holdsBy_21 : decode cX12_holdsBy 21 = .ok (.goto 13, 3) := by decide +kernel
theorem dX12_holdsBy_24 : decode cX12_holdsBy 24 = .ok (.aload_n 0, 1) := by decide +kernel
theorem dX12_holdsBy_25 : decode cX12_holdsBy 25 = .ok (.iload_n 2, 1) := by decide +kernel
theorem dX12_holdsBy_26 : decode cX12_holdsBy 26 = .ok (.iload_n 3, 1) := by decide +kernel
theorem dX12_holdsBy_27 : decode cX12_holdsBy 27 = .ok (.iload 4, 2) := by decide +kernel
theorem dX12_holdsBy_29 : decode cX12_holdsBy 29 = .ok (.iload 5, 2) := by decide +kernel
theorem dX12_holdsBy_31 : decode cX12_holdsBy 31 = .ok (.invokevirtual 203, 3) := by decide +kernel
theorem dX12_holdsBy_34 : decode cX12_holdsBy 34 = .ok (.istore 7, 2) := by decide +kernel
theorem dX12_holdsBy_36 : decode cX12_holdsBy 36 = .ok (.iload 7, 2) := by decide +kernel
theorem dX12_holdsBy_38 : decode cX12_holdsBy 38 = .ok (.bipush (-9), 2) := by decide +kernel
theorem dX12_holdsBy_40 : decode cX12_holdsBy 40 = .ok (.if_icmp .ne 8, 3) := by decide +kernel
theorem dX12_holdsBy_43 : decode cX12_holdsBy 43 = .ok (.bipush (-9), 2) := by decide +kernel
theorem dX12_holdsBy_45 : decode cX12_holdsBy 45 = .ok (.goto 15, 3) := by decide +kernel
theorem dX12_holdsBy_48 : decode cX12_holdsBy 48 = .ok (.iload 6, 2) := by decide +kernel
theorem dX12_holdsBy_50 : decode cX12_holdsBy 50 = .ok (.iload 7, 2) := by decide +kernel
theorem dX12_holdsBy_52 : decode cX12_holdsBy 52 = .ok (.if_icmp .ne 7, 3) := by decide +kernel
theorem dX12_holdsBy_55 : decode cX12_holdsBy 55 = .ok (.iconst 1, 1) := by decide +kernel
theorem dX12_holdsBy_56 : decode cX12_holdsBy 56 = .ok (.goto 4, 3) := by decide +kernel
theorem dX12_holdsBy_59 : decode cX12_holdsBy 59 = .ok (.iconst 0, 1) := by decide +kernel
theorem dX12_holdsBy_60 : decode cX12_holdsBy 60 = .ok (.ireturn, 1) := by decide +kernel
theorem dX12_holds_0 : decode cX12_holds 0 = .ok (.iload_n 1, 1) := by decide +kernel
theorem dX12_holds_1 : decode cX12_holds 1 = .ok (.iconst 0, 1) := by decide +kernel
theorem dX12_holds_2 : decode cX12_holds 2 = .ok (.iconst 5, 1) := by decide +kernel
theorem dX12_holds_3 : decode cX12_holds 3 = .ok (.invokestatic 96, 3) := by decide +kernel
theorem dX12_holds_6 : decode cX12_holds 6 = .ok (.ifCond .eq 21, 3) := by decide +kernel
theorem dX12_holds_9 : decode cX12_holds 9 = .ok (.iload_n 2, 1) := by decide +kernel
theorem dX12_holds_10 : decode cX12_holds 10 = .ok (.iconst 0, 1) := by decide +kernel
theorem dX12_holds_11 : decode cX12_holds 11 = .ok (.iconst 5, 1) := by decide +kernel
theorem dX12_holds_12 : decode cX12_holds 12 = .ok (.invokestatic 96, 3) := by decide +kernel
theorem dX12_holds_15 : decode cX12_holds 15 = .ok (.ifCond .eq 12, 3) := by decide +kernel
theorem dX12_holds_18 : decode cX12_holds 18 = .ok (.iload_n 3, 1) := by decide +kernel
theorem dX12_holds_19 : decode cX12_holds 19 = .ok (.iconst 0, 1) := by decide +kernel
theorem dX12_holds_20 : decode cX12_holds 20 = .ok (.iconst 5, 1) := by decide +kernel
theorem dX12_holds_21 : decode cX12_holds 21 = .ok (.invokestatic 96, 3) := by decide +kernel
theorem dX12_holds_24 : decode cX12_holds 24 = .ok (.ifCond .ne 6, 3) := by decide +kernel
theorem dX12_holds_27 : decode cX12_holds 27 = .ok (.bipush (-2), 2) := by decide +kernel
theorem dX12_holds_29 : decode cX12_holds 29 = .ok (.ireturn, 1) := by decide +kernel
theorem dX12_holds_30 : decode cX12_holds 30 = .ok (.aload_n 0, 1) := by decide +kernel
theorem dX12_holds_31 : decode cX12_holds 31 = .ok (.getfield 164, 3) := by decide +kernel
theorem dX12_holds_34 : decode cX12_holds 34 = .ok (.ifCond .eq 15, 3) := by decide +kernel
theorem dX12_holds_37 : decode cX12_holds 37 = .ok (.aload_n 0, 1) := by decide +kernel
theorem dX12_holds_38 : decode cX12_holds 38 = .ok (.iconst 0, 1) := by decide +kernel
theorem dX12_holds_39 : decode cX12_holds 39 = .ok (.iconst 1, 1) := by decide +kernel
theorem dX12_holds_40 : decode cX12_holds 40 = .ok (.iload_n 1, 1) := by decide +kernel
theorem dX12_holds_41 : decode cX12_holds 41 = .ok (.iload_n 2, 1) := by decide +kernel
theorem dX12_holds_42 : decode cX12_holds 42 = .ok (.iload_n 3, 1) := by decide +kernel
theorem dX12_holds_43 : decode cX12_holds 43 = .ok (.invokevirtual 207, 3) := by decide +kernel
theorem dX12_holds_46 : decode cX12_holds 46 = .ok (.goto 5, 3) := by decide +kernel
theorem dX12_holds_49 : decode cX12_holds 49 = .ok (.bipush (-3), 2) := by decide +kernel
theorem dX12_holds_51 : decode cX12_holds 51 = .ok (.ireturn, 1) := by decide +kernel
theorem dX12_upTo_0 : decode cX12_upTo 0 = .ok (.aload_n 0, 1) := by decide +kernel
theorem dX12_upTo_1 : decode cX12_upTo 1 = .ok (.iload_n 1, 1) := by decide +kernel
theorem dX12_upTo_2 : decode cX12_upTo 2 = .ok (.bipush 120, 2) := by decide +kernel
theorem dX12_upTo_4 : decode cX12_upTo 4 = .ok (.iload_n 3, 1) := by decide +kernel
theorem dX12_upTo_5 : decode cX12_upTo 5 = .ok (.iadd, 1) := by decide +kernel
theorem dX12_upTo_6 : decode cX12_upTo 6 = .ok (.invokevirtual 211, 3) := by decide +kernel
theorem dX12_upTo_9 : decode cX12_upTo 9 = .ok (.ifCond .ne 15, 3) := by decide +kernel
theorem dX12_upTo_12 : decode cX12_upTo 12 = .ok (.aload_n 0, 1) := by decide +kernel
theorem dX12_upTo_13 : decode cX12_upTo 13 = .ok (.iload_n 2, 1) := by decide +kernel
theorem dX12_upTo_14 : decode cX12_upTo 14 = .ok (.bipush 120, 2) := by decide +kernel
theorem dX12_upTo_16 : decode cX12_upTo 16 = .ok (.iload_n 3, 1) := by decide +kernel
theorem dX12_upTo_17 : decode cX12_upTo 17 = .ok (.iadd, 1) := by decide +kernel
theorem dX12_upTo_18 : decode cX12_upTo 18 = .ok (.invokevirtual 211, 3) := by decide +kernel
theorem dX12_upTo_21 : decode cX12_upTo 21 = .ok (.ifCond .eq 7, 3) := by decide +kernel
theorem dX12_upTo_24 : decode cX12_upTo 24 = .ok (.iconst 2, 1) := by decide +kernel
theorem dX12_upTo_25 : decode cX12_upTo 25 = .ok (.goto 4, 3) := by decide +kernel
theorem dX12_upTo_28 : decode cX12_upTo 28 = .ok (.iconst 0, 1) := by decide +kernel
theorem dX12_upTo_29 : decode cX12_upTo 29 = .ok (.ireturn, 1) := by decide +kernel
theorem dX12_counterexample_0 : decode cX12_counterexample 0 = .ok (.iconst 0, 1) := by decide +kernel
theorem dX12_counterexample_1 : decode cX12_counterexample 1 = .ok (.istore_n 3, 1) := by decide +kernel
theorem dX12_counterexample_2 : decode cX12_counterexample 2 = .ok (.iload_n 3, 1) := by decide +kernel
theorem dX12_counterexample_3 : decode cX12_counterexample 3 = .ok (.aload_n 0, 1) := by decide +kernel
theorem dX12_counterexample_4 : decode cX12_counterexample 4 = .ok (.iload_n 1, 1) := by decide +kernel
theorem dX12_counterexample_5 : decode cX12_counterexample 5 = .ok (.iload_n 2, 1) := by decide +kernel
theorem dX12_counterexample_6 : decode cX12_counterexample 6 = .ok (.iconst 0, 1) := by decide +kernel
theorem dX12_counterexample_7 : decode cX12_counterexample 7 = .ok (.invokevirtual 214, 3) := by decide +kernel
theorem dX12_counterexample_10 : decode cX12_counterexample 10 = .ok (.if_icmp .gt 78, 3) := by decide +kernel
theorem dX12_counterexample_13 : decode cX12_counterexample 13 = .ok (.iconst 0, 1) := by decide +kernel
theorem dX12_counterexample_14 : decode cX12_counterexample 14 = .ok (.istore 4, 2) := by decide +kernel
theorem dX12_counterexample_16 : decode cX12_counterexample 16 = .ok (.iload 4, 2) := by decide +kernel
theorem dX12_counterexample_18 : decode cX12_counterexample 18 = .ok (.aload_n 0, 1) := by decide +kernel
theorem dX12_counterexample_19 : decode cX12_counterexample 19 = .ok (.iload_n 1, 1) := by decide +kernel
theorem dX12_counterexample_20 : decode cX12_counterexample 20 = .ok (.iload_n 2, 1) := by decide +kernel
theorem dX12_counterexample_21 : decode cX12_counterexample 21 = .ok (.iconst 1, 1) := by decide +kernel
theorem dX12_counterexample_22 : decode cX12_counterexample 22 = .ok (.invokevirtual 214, 3) := by decide +kernel
theorem dX12_counterexample_25 : decode cX12_counterexample 25 = .ok (.if_icmp .gt 57, 3) := by decide +kernel
theorem dX12_counterexample_28 : decode cX12_counterexample 28 = .ok (.iconst 0, 1) := by decide +kernel
theorem dX12_counterexample_29 : decode cX12_counterexample 29 = .ok (.istore 5, 2) := by decide +kernel
theorem dX12_counterexample_31 : decode cX12_counterexample 31 = .ok (.iload 5, 2) := by decide +kernel
theorem dX12_counterexample_33 : decode cX12_counterexample 33 = .ok (.aload_n 0, 1) := by decide +kernel
theorem dX12_counterexample_34 : decode cX12_counterexample 34 = .ok (.iload_n 1, 1) := by decide +kernel
theorem dX12_counterexample_35 : decode cX12_counterexample 35 = .ok (.iload_n 2, 1) := by decide +kernel
theorem dX12_counterexample_36 : decode cX12_counterexample 36 = .ok (.iconst 2, 1) := by decide +kernel
theorem dX12_counterexample_37 : decode cX12_counterexample 37 = .ok (.invokevirtual 214, 3) := by decide +kernel
end
section
theorem dX12_counterexample_40 : decode cX12_counterexample 40 = .ok (.if_icmp .gt 36, 3) := by decide +kernel
theorem dX12_counterexample_43 : decode cX12_counterexample 43 = .ok (.aload_n 0, 1) := by decide +kernel
theorem dX12_counterexample_44 : decode cX12_counterexample 44 = .ok (.iload_n 1, 1) := by decide +kernel
theorem dX12_counterexample_45 : decode cX12_counterexample 45 = .ok (.iload_n 2, 1) := by decide +kernel
theorem dX12_counterexample_46 : decode cX12_counterexample 46 = .ok (.iload_n 3, 1) := by decide +kernel
theorem dX12_counterexample_47 : decode cX12_counterexample 47 = .ok (.iload 4, 2) := by decide +kernel
theorem dX12_counterexample_49 : decode cX12_counterexample 49 = .ok (.iload 5, 2) := by decide +kernel
theorem dX12_counterexample_51 : decode cX12_counterexample 51 = .ok (.invokevirtual 207, 3) := by decide +kernel
theorem dX12_counterexample_54 : decode cX12_counterexample 54 = .ok (.ifCond .ne 16, 3) := by decide +kernel
theorem dX12_counterexample_57 : decode cX12_counterexample 57 = .ok (.bipush 9, 2) := by decide +kernel
theorem dX12_counterexample_59 : decode cX12_counterexample 59 = .ok (.iload_n 3, 1) := by decide +kernel
theorem dX12_counterexample_60 : decode cX12_counterexample 60 = .ok (.imul, 1) := by decide +kernel
theorem dX12_counterexample_61 : decode cX12_counterexample 61 = .ok (.iconst 3, 1) := by decide +kernel
theorem dX12_counterexample_62 : decode cX12_counterexample 62 = .ok (.iload 4, 2) := by decide +kernel
theorem dX12_counterexample_64 : decode cX12_counterexample 64 = .ok (.imul, 1) := by decide +kernel
theorem dX12_counterexample_65 : decode cX12_counterexample 65 = .ok (.iadd, 1) := by decide +kernel
theorem dX12_counterexample_66 : decode cX12_counterexample 66 = .ok (.iload 5, 2) := by decide +kernel
theorem dX12_counterexample_68 : decode cX12_counterexample 68 = .ok (.iadd, 1) := by decide +kernel
theorem dX12_counterexample_69 : decode cX12_counterexample 69 = .ok (.ireturn, 1) := by decide +kernel
theorem dX12_counterexample_70 : decode cX12_counterexample 70 = .ok (.iinc 5 1, 3) := by decide +kernel
theorem dX12_counterexample_73 : decode cX12_counterexample 73 = .ok (.goto (-42), 3) := by decide +kernel
theorem dX12_counterexample_76 : decode cX12_counterexample 76 = .ok (.iinc 4 1, 3) := by decide +kernel
theorem dX12_counterexample_79 : decode cX12_counterexample 79 = .ok (.goto (-63), 3) := by decide +kernel
theorem dX12_counterexample_82 : decode cX12_counterexample 82 = .ok (.iinc 3 1, 3) := by decide +kernel
theorem dX12_counterexample_85 : decode cX12_counterexample 85 = .ok (.goto (-83), 3) := by decide +kernel
theorem dX12_counterexample_88 : decode cX12_counterexample 88 = .ok (.bipush (-9), 2) := by decide +kernel
theorem dX12_counterexample_90 : decode cX12_counterexample 90 = .ok (.ireturn, 1) := by decide +kernel
theorem dX12_counter_0 : decode cX12_counter 0 = .ok (.iload_n 1, 1) := by decide +kernel
theorem dX12_counter_1 : decode cX12_counter 1 = .ok (.iconst 0, 1) := by decide +kernel
theorem dX12_counter_2 : decode cX12_counter 2 = .ok (.iconst 2, 1) := by decide +kernel
theorem dX12_counter_3 : decode cX12_counter 3 = .ok (.invokestatic 96, 3) := by decide +kernel
theorem dX12_counter_6 : decode cX12_counter 6 = .ok (.ifCond .ne 6, 3) := by decide +kernel
theorem dX12_counter_9 : decode cX12_counter 9 = .ok (.bipush (-2), 2) := by decide +kernel
theorem dX12_counter_11 : decode cX12_counter 11 = .ok (.ireturn, 1) := by decide +kernel
theorem dX12_counter_12 : decode cX12_counter 12 = .ok (.aload_n 0, 1) := by decide +kernel
theorem dX12_counter_13 : decode cX12_counter 13 = .ok (.getfield 164, 3) := by decide +kernel
theorem dX12_counter_16 : decode cX12_counter 16 = .ok (.ifCond .ne 6, 3) := by decide +kernel
theorem dX12_counter_19 : decode cX12_counter 19 = .ok (.bipush (-3), 2) := by decide +kernel
theorem dX12_counter_21 : decode cX12_counter 21 = .ok (.ireturn, 1) := by decide +kernel
theorem dX12_counter_22 : decode cX12_counter 22 = .ok (.aload_n 0, 1) := by decide +kernel
theorem dX12_counter_23 : decode cX12_counter 23 = .ok (.iconst 0, 1) := by decide +kernel
theorem dX12_counter_24 : decode cX12_counter 24 = .ok (.iconst 1, 1) := by decide +kernel
theorem dX12_counter_25 : decode cX12_counter 25 = .ok (.invokevirtual 218, 3) := by decide +kernel
theorem dX12_counter_28 : decode cX12_counter 28 = .ok (.istore_n 2, 1) := by decide +kernel
theorem dX12_counter_29 : decode cX12_counter 29 = .ok (.iload_n 2, 1) := by decide +kernel
theorem dX12_counter_30 : decode cX12_counter 30 = .ok (.bipush (-9), 2) := by decide +kernel
theorem dX12_counter_32 : decode cX12_counter 32 = .ok (.if_icmp .ne 8, 3) := by decide +kernel
theorem dX12_counter_35 : decode cX12_counter 35 = .ok (.bipush (-9), 2) := by decide +kernel
theorem dX12_counter_37 : decode cX12_counter 37 = .ok (.goto 30, 3) := by decide +kernel
theorem dX12_counter_40 : decode cX12_counter 40 = .ok (.iload_n 1, 1) := by decide +kernel
theorem dX12_counter_41 : decode cX12_counter 41 = .ok (.ifCond .ne 10, 3) := by decide +kernel
theorem dX12_counter_44 : decode cX12_counter 44 = .ok (.iload_n 2, 1) := by decide +kernel
theorem dX12_counter_45 : decode cX12_counter 45 = .ok (.bipush 9, 2) := by decide +kernel
theorem dX12_counter_47 : decode cX12_counter 47 = .ok (.idiv, 1) := by decide +kernel
theorem dX12_counter_48 : decode cX12_counter 48 = .ok (.goto 19, 3) := by decide +kernel
theorem dX12_counter_51 : decode cX12_counter 51 = .ok (.iload_n 1, 1) := by decide +kernel
theorem dX12_counter_52 : decode cX12_counter 52 = .ok (.iconst 1, 1) := by decide +kernel
theorem dX12_counter_53 : decode cX12_counter 53 = .ok (.if_icmp .ne 11, 3) := by decide +kernel
theorem dX12_counter_56 : decode cX12_counter 56 = .ok (.iload_n 2, 1) := by decide +kernel
theorem dX12_counter_57 : decode cX12_counter 57 = .ok (.iconst 3, 1) := by decide +kernel
theorem dX12_counter_58 : decode cX12_counter 58 = .ok (.idiv, 1) := by decide +kernel
theorem dX12_counter_59 : decode cX12_counter 59 = .ok (.iconst 3, 1) := by decide +kernel
theorem dX12_counter_60 : decode cX12_counter 60 = .ok (.irem, 1) := by decide +kernel
theorem dX12_counter_61 : decode cX12_counter 61 = .ok (.goto 6, 3) := by decide +kernel
theorem dX12_counter_64 : decode cX12_counter 64 = .ok (.iload_n 2, 1) := by decide +kernel
theorem dX12_counter_65 : decode cX12_counter 65 = .ok (.iconst 3, 1) := by decide +kernel
theorem dX12_counter_66 : decode cX12_counter 66 = .ok (.irem, 1) := by decide +kernel
theorem dX12_counter_67 : decode cX12_counter 67 = .ok (.ireturn, 1) := by decide +kernel
theorem dX12_longOf_0 : decode cX12_longOf 0 = .ok (.aload_n 0, 1) := by decide +kernel
theorem dX12_longOf_1 : decode cX12_longOf 1 = .ok (.getfield 55, 3) := by decide +kernel
theorem dX12_longOf_4 : decode cX12_longOf 4 = .ok (.iload_n 1, 1) := by decide +kernel
theorem dX12_longOf_5 : decode cX12_longOf 5 = .ok (.iconst 1, 1) := by decide +kernel
theorem dX12_longOf_6 : decode cX12_longOf 6 = .ok (.iadd, 1) := by decide +kernel
theorem dX12_longOf_7 : decode cX12_longOf 7 = .ok (.iaload, 1) := by decide +kernel
theorem dX12_longOf_8 : decode cX12_longOf 8 = .ok (.aload_n 0, 1) := by decide +kernel
theorem dX12_longOf_9 : decode cX12_longOf 9 = .ok (.getfield 55, 3) := by decide +kernel
theorem dX12_longOf_12 : decode cX12_longOf 12 = .ok (.iload_n 1, 1) := by decide +kernel
theorem dX12_longOf_13 : decode cX12_longOf 13 = .ok (.iaload, 1) := by decide +kernel
theorem dX12_longOf_14 : decode cX12_longOf 14 = .ok (.isub, 1) := by decide +kernel
theorem dX12_longOf_15 : decode cX12_longOf 15 = .ok (.ireturn, 1) := by decide +kernel
theorem dX12_pushes_0 : decode cX12_pushes 0 = .ok (.aload_n 0, 1) := by decide +kernel
theorem dX12_pushes_1 : decode cX12_pushes 1 = .ok (.iload_n 1, 1) := by decide +kernel
theorem dX12_pushes_2 : decode cX12_pushes 2 = .ok (.invokevirtual 221, 3) := by decide +kernel
theorem dX12_pushes_5 : decode cX12_pushes 5 = .ok (.iload_n 2, 1) := by decide +kernel
theorem dX12_pushes_6 : decode cX12_pushes 6 = .ok (.isub, 1) := by decide +kernel
theorem dX12_pushes_7 : decode cX12_pushes 7 = .ok (.istore_n 3, 1) := by decide +kernel
theorem dX12_pushes_8 : decode cX12_pushes 8 = .ok (.iconst 0, 1) := by decide +kernel
theorem dX12_pushes_9 : decode cX12_pushes 9 = .ok (.istore 4, 2) := by decide +kernel
theorem dX12_pushes_11 : decode cX12_pushes 11 = .ok (.iload 4, 2) := by decide +kernel
theorem dX12_pushes_13 : decode cX12_pushes 13 = .ok (.iload_n 3, 1) := by decide +kernel
theorem dX12_pushes_14 : decode cX12_pushes 14 = .ok (.if_icmp .ge 42, 3) := by decide +kernel
theorem dX12_pushes_17 : decode cX12_pushes 17 = .ok (.aload_n 0, 1) := by decide +kernel
theorem dX12_pushes_18 : decode cX12_pushes 18 = .ok (.getfield 52, 3) := by decide +kernel
theorem dX12_pushes_21 : decode cX12_pushes 21 = .ok (.aload_n 0, 1) := by decide +kernel
theorem dX12_pushes_22 : decode cX12_pushes 22 = .ok (.getfield 55, 3) := by decide +kernel
theorem dX12_pushes_25 : decode cX12_pushes 25 = .ok (.aload_n 0, 1) := by decide +kernel
theorem dX12_pushes_26 : decode cX12_pushes 26 = .ok (.getfield 224, 3) := by decide +kernel
theorem dX12_pushes_29 : decode cX12_pushes 29 = .ok (.iaload, 1) := by decide +kernel
theorem dX12_pushes_30 : decode cX12_pushes 30 = .ok (.iload 4, 2) := by decide +kernel
theorem dX12_pushes_32 : decode cX12_pushes 32 = .ok (.iadd, 1) := by decide +kernel
theorem dX12_pushes_33 : decode cX12_pushes 33 = .ok (.aload_n 0, 1) := by decide +kernel
theorem dX12_pushes_34 : decode cX12_pushes 34 = .ok (.getfield 52, 3) := by decide +kernel
theorem dX12_pushes_37 : decode cX12_pushes 37 = .ok (.aload_n 0, 1) := by decide +kernel
theorem dX12_pushes_38 : decode cX12_pushes 38 = .ok (.getfield 55, 3) := by decide +kernel
theorem dX12_pushes_41 : decode cX12_pushes 41 = .ok (.iload_n 1, 1) := by decide +kernel
theorem dX12_pushes_42 : decode cX12_pushes 42 = .ok (.iaload, 1) := by decide +kernel
theorem dX12_pushes_43 : decode cX12_pushes 43 = .ok (.iload_n 2, 1) := by decide +kernel
theorem dX12_pushes_44 : decode cX12_pushes 44 = .ok (.iadd, 1) := by decide +kernel
theorem dX12_pushes_45 : decode cX12_pushes 45 = .ok (.iload 4, 2) := by decide +kernel
theorem dX12_pushes_47 : decode cX12_pushes 47 = .ok (.iadd, 1) := by decide +kernel
theorem dX12_pushes_48 : decode cX12_pushes 48 = .ok (.iaload, 1) := by decide +kernel
theorem dX12_pushes_49 : decode cX12_pushes 49 = .ok (.iastore, 1) := by decide +kernel
theorem dX12_pushes_50 : decode cX12_pushes 50 = .ok (.iinc 4 1, 3) := by decide +kernel
theorem dX12_pushes_53 : decode cX12_pushes 53 = .ok (.goto (-42), 3) := by decide +kernel
theorem dX12_pushes_56 : decode cX12_pushes 56 = .ok (.aload_n 0, 1) := by decide +kernel
theorem dX12_pushes_57 : decode cX12_pushes 57 = .ok (.getfield 55, 3) := by decide +kernel
theorem dX12_pushes_60 : decode cX12_pushes 60 = .ok (.aload_n 0, 1) := by decide +kernel
theorem dX12_pushes_61 : decode cX12_pushes 61 = .ok (.getfield 224, 3) := by decide +kernel
theorem dX12_pushes_64 : decode cX12_pushes 64 = .ok (.iconst 1, 1) := by decide +kernel
theorem dX12_pushes_65 : decode cX12_pushes 65 = .ok (.iadd, 1) := by decide +kernel
theorem dX12_pushes_66 : decode cX12_pushes 66 = .ok (.aload_n 0, 1) := by decide +kernel
theorem dX12_pushes_67 : decode cX12_pushes 67 = .ok (.getfield 55, 3) := by decide +kernel
theorem dX12_pushes_70 : decode cX12_pushes 70 = .ok (.aload_n 0, 1) := by decide +kernel
theorem dX12_pushes_71 : decode cX12_pushes 71 = .ok (.getfield 224, 3) := by decide +kernel
theorem dX12_pushes_74 : decode cX12_pushes 74 = .ok (.iaload, 1) := by decide +kernel
theorem dX12_pushes_75 : decode cX12_pushes 75 = .ok (.iload_n 3, 1) := by decide +kernel
theorem dX12_pushes_76 : decode cX12_pushes 76 = .ok (.iadd, 1) := by decide +kernel
theorem dX12_pushes_77 : decode cX12_pushes 77 = .ok (.iastore, 1) := by decide +kernel
theorem dX12_pushes_78 : decode cX12_pushes 78 = .ok (.aload_n 0, 1) := by decide +kernel
theorem dX12_pushes_79 : decode cX12_pushes 79 = .ok (.dup, 1) := by decide +kernel
theorem dX12_pushes_80 : decode cX12_pushes 80 = .ok (.getfield 224, 3) := by decide +kernel
theorem dX12_pushes_83 : decode cX12_pushes 83 = .ok (.iconst 1, 1) := by decide +kernel
theorem dX12_pushes_84 : decode cX12_pushes 84 = .ok (.iadd, 1) := by decide +kernel
theorem dX12_pushes_85 : decode cX12_pushes 85 = .ok (.putfield 224, 3) := by decide +kernel
theorem dX12_pushes_88 : decode cX12_pushes 88 = .ok (.return_, 1) := by decide +kernel
theorem dX12_pushesSign_0 : decode cX12_pushesSign 0 = .ok (.aload_n 0, 1) := by decide +kernel
theorem dX12_pushesSign_1 : decode cX12_pushesSign 1 = .ok (.getfield 52, 3) := by decide +kernel
theorem dX12_pushesSign_4 : decode cX12_pushesSign 4 = .ok (.aload_n 0, 1) := by decide +kernel
theorem dX12_pushesSign_5 : decode cX12_pushesSign 5 = .ok (.getfield 55, 3) := by decide +kernel
theorem dX12_pushesSign_8 : decode cX12_pushesSign 8 = .ok (.aload_n 0, 1) := by decide +kernel
theorem dX12_pushesSign_9 : decode cX12_pushesSign 9 = .ok (.getfield 224, 3) := by decide +kernel
theorem dX12_pushesSign_12 : decode cX12_pushesSign 12 = .ok (.iaload, 1) := by decide +kernel
theorem dX12_pushesSign_13 : decode cX12_pushesSign 13 = .ok (.iload_n 1, 1) := by decide +kernel
theorem dX12_pushesSign_14 : decode cX12_pushesSign 14 = .ok (.iastore, 1) := by decide +kernel
theorem dX12_pushesSign_15 : decode cX12_pushesSign 15 = .ok (.aload_n 0, 1) := by decide +kernel
theorem dX12_pushesSign_16 : decode cX12_pushesSign 16 = .ok (.getfield 55, 3) := by decide +kernel
theorem dX12_pushesSign_19 : decode cX12_pushesSign 19 = .ok (.aload_n 0, 1) := by decide +kernel
theorem dX12_pushesSign_20 : decode cX12_pushesSign 20 = .ok (.getfield 224, 3) := by decide +kernel
theorem dX12_pushesSign_23 : decode cX12_pushesSign 23 = .ok (.iconst 1, 1) := by decide +kernel
theorem dX12_pushesSign_24 : decode cX12_pushesSign 24 = .ok (.iadd, 1) := by decide +kernel
theorem dX12_pushesSign_25 : decode cX12_pushesSign 25 = .ok (.aload_n 0, 1) := by decide +kernel
theorem dX12_pushesSign_26 : decode cX12_pushesSign 26 = .ok (.getfield 55, 3) := by decide +kernel
theorem dX12_pushesSign_29 : decode cX12_pushesSign 29 = .ok (.aload_n 0, 1) := by decide +kernel
theorem dX12_pushesSign_30 : decode cX12_pushesSign 30 = .ok (.getfield 224, 3) := by decide +kernel
theorem dX12_pushesSign_33 : decode cX12_pushesSign 33 = .ok (.iaload, 1) := by decide +kernel
theorem dX12_pushesSign_34 : decode cX12_pushesSign 34 = .ok (.iconst 1, 1) := by decide +kernel
theorem dX12_pushesSign_35 : decode cX12_pushesSign 35 = .ok (.iadd, 1) := by decide +kernel
theorem dX12_pushesSign_36 : decode cX12_pushesSign 36 = .ok (.iastore, 1) := by decide +kernel
theorem dX12_pushesSign_37 : decode cX12_pushesSign 37 = .ok (.aload_n 0, 1) := by decide +kernel
theorem dX12_pushesSign_38 : decode cX12_pushesSign 38 = .ok (.dup, 1) := by decide +kernel
theorem dX12_pushesSign_39 : decode cX12_pushesSign 39 = .ok (.getfield 224, 3) := by decide +kernel
theorem dX12_pushesSign_42 : decode cX12_pushesSign 42 = .ok (.iconst 1, 1) := by decide +kernel
theorem dX12_pushesSign_43 : decode cX12_pushesSign 43 = .ok (.iadd, 1) := by decide +kernel
theorem dX12_pushesSign_44 : decode cX12_pushesSign 44 = .ok (.putfield 224, 3) := by decide +kernel
theorem dX12_pushesSign_47 : decode cX12_pushesSign 47 = .ok (.return_, 1) := by decide +kernel
theorem dX12_falls_0 : decode cX12_falls 0 = .ok (.aload_n 0, 1) := by decide +kernel
theorem dX12_falls_1 : decode cX12_falls 1 = .ok (.aload_n 0, 1) := by decide +kernel
theorem dX12_falls_2 : decode cX12_falls 2 = .ok (.getfield 224, 3) := by decide +kernel
theorem dX12_falls_5 : decode cX12_falls 5 = .ok (.iconst 1, 1) := by decide +kernel
theorem dX12_falls_6 : decode cX12_falls 6 = .ok (.isub, 1) := by decide +kernel
theorem dX12_falls_7 : decode cX12_falls 7 = .ok (.invokevirtual 221, 3) := by decide +kernel
theorem dX12_falls_10 : decode cX12_falls 10 = .ok (.istore_n 2, 1) := by decide +kernel
theorem dX12_falls_11 : decode cX12_falls 11 = .ok (.iconst 0, 1) := by decide +kernel
theorem dX12_falls_12 : decode cX12_falls 12 = .ok (.istore_n 3, 1) := by decide +kernel
theorem dX12_falls_13 : decode cX12_falls 13 = .ok (.iload_n 3, 1) := by decide +kernel
theorem dX12_falls_14 : decode cX12_falls 14 = .ok (.iload_n 2, 1) := by decide +kernel
theorem dX12_falls_15 : decode cX12_falls 15 = .ok (.if_icmp .ge 40, 3) := by decide +kernel
theorem dX12_falls_18 : decode cX12_falls 18 = .ok (.aload_n 0, 1) := by decide +kernel
theorem dX12_falls_19 : decode cX12_falls 19 = .ok (.getfield 52, 3) := by decide +kernel
theorem dX12_falls_22 : decode cX12_falls 22 = .ok (.aload_n 0, 1) := by decide +kernel
theorem dX12_falls_23 : decode cX12_falls 23 = .ok (.getfield 55, 3) := by decide +kernel
theorem dX12_falls_26 : decode cX12_falls 26 = .ok (.iload_n 1, 1) := by decide +kernel
theorem dX12_falls_27 : decode cX12_falls 27 = .ok (.iaload, 1) := by decide +kernel
theorem dX12_falls_28 : decode cX12_falls 28 = .ok (.iload_n 3, 1) := by decide +kernel
theorem dX12_falls_29 : decode cX12_falls 29 = .ok (.iadd, 1) := by decide +kernel
theorem dX12_falls_30 : decode cX12_falls 30 = .ok (.aload_n 0, 1) := by decide +kernel
theorem dX12_falls_31 : decode cX12_falls 31 = .ok (.getfield 52, 3) := by decide +kernel
theorem dX12_falls_34 : decode cX12_falls 34 = .ok (.aload_n 0, 1) := by decide +kernel
theorem dX12_falls_35 : decode cX12_falls 35 = .ok (.getfield 55, 3) := by decide +kernel
theorem dX12_falls_38 : decode cX12_falls 38 = .ok (.aload_n 0, 1) := by decide +kernel
theorem dX12_falls_39 : decode cX12_falls 39 = .ok (.getfield 224, 3) := by decide +kernel
theorem dX12_falls_42 : decode cX12_falls 42 = .ok (.iconst 1, 1) := by decide +kernel
theorem dX12_falls_43 : decode cX12_falls 43 = .ok (.isub, 1) := by decide +kernel
theorem dX12_falls_44 : decode cX12_falls 44 = .ok (.iaload, 1) := by decide +kernel
theorem dX12_falls_45 : decode cX12_falls 45 = .ok (.iload_n 3, 1) := by decide +kernel
theorem dX12_falls_46 : decode cX12_falls 46 = .ok (.iadd, 1) := by decide +kernel
theorem dX12_falls_47 : decode cX12_falls 47 = .ok (.iaload, 1) := by decide +kernel
theorem dX12_falls_48 : decode cX12_falls 48 = .ok (.iastore, 1) := by decide +kernel
theorem dX12_falls_49 : decode cX12_falls 49 = .ok (.iinc 3 1, 3) := by decide +kernel
theorem dX12_falls_52 : decode cX12_falls 52 = .ok (.goto (-39), 3) := by decide +kernel
theorem dX12_falls_55 : decode cX12_falls 55 = .ok (.aload_n 0, 1) := by decide +kernel
theorem dX12_falls_56 : decode cX12_falls 56 = .ok (.getfield 55, 3) := by decide +kernel
theorem dX12_falls_59 : decode cX12_falls 59 = .ok (.iload_n 1, 1) := by decide +kernel
theorem dX12_falls_60 : decode cX12_falls 60 = .ok (.iconst 1, 1) := by decide +kernel
theorem dX12_falls_61 : decode cX12_falls 61 = .ok (.iadd, 1) := by decide +kernel
theorem dX12_falls_62 : decode cX12_falls 62 = .ok (.aload_n 0, 1) := by decide +kernel
theorem dX12_falls_63 : decode cX12_falls 63 = .ok (.getfield 55, 3) := by decide +kernel
theorem dX12_falls_66 : decode cX12_falls 66 = .ok (.iload_n 1, 1) := by decide +kernel
theorem dX12_falls_67 : decode cX12_falls 67 = .ok (.iaload, 1) := by decide +kernel
theorem dX12_falls_68 : decode cX12_falls 68 = .ok (.iload_n 2, 1) := by decide +kernel
theorem dX12_falls_69 : decode cX12_falls 69 = .ok (.iadd, 1) := by decide +kernel
theorem dX12_falls_70 : decode cX12_falls 70 = .ok (.iastore, 1) := by decide +kernel
theorem dX12_falls_71 : decode cX12_falls 71 = .ok (.aload_n 0, 1) := by decide +kernel
theorem dX12_falls_72 : decode cX12_falls 72 = .ok (.iload_n 1, 1) := by decide +kernel
theorem dX12_falls_73 : decode cX12_falls 73 = .ok (.iconst 1, 1) := by decide +kernel
theorem dX12_falls_74 : decode cX12_falls 74 = .ok (.iadd, 1) := by decide +kernel
theorem dX12_falls_75 : decode cX12_falls 75 = .ok (.putfield 224, 3) := by decide +kernel
theorem dX12_falls_78 : decode cX12_falls 78 = .ok (.return_, 1) := by decide +kernel
theorem dX12_joins_0 : decode cX12_joins 0 = .ok (.aload_n 0, 1) := by decide +kernel
theorem dX12_joins_1 : decode cX12_joins 1 = .ok (.getfield 224, 3) := by decide +kernel
theorem dX12_joins_4 : decode cX12_joins 4 = .ok (.iload_n 2, 1) := by decide +kernel
theorem dX12_joins_5 : decode cX12_joins 5 = .ok (.isub, 1) := by decide +kernel
theorem dX12_joins_6 : decode cX12_joins 6 = .ok (.istore_n 3, 1) := by decide +kernel
theorem dX12_joins_7 : decode cX12_joins 7 = .ok (.aload_n 0, 1) := by decide +kernel
theorem dX12_joins_8 : decode cX12_joins 8 = .ok (.iload_n 1, 1) := by decide +kernel
theorem dX12_joins_9 : decode cX12_joins 9 = .ok (.invokevirtual 227, 3) := by decide +kernel
theorem dX12_joins_12 : decode cX12_joins 12 = .ok (.aload_n 0, 1) := by decide +kernel
theorem dX12_joins_13 : decode cX12_joins 13 = .ok (.getfield 224, 3) := by decide +kernel
theorem dX12_joins_16 : decode cX12_joins 16 = .ok (.iconst 1, 1) := by decide +kernel
theorem dX12_joins_17 : decode cX12_joins 17 = .ok (.isub, 1) := by decide +kernel
theorem dX12_joins_18 : decode cX12_joins 18 = .ok (.istore 4, 2) := by decide +kernel
theorem dX12_joins_20 : decode cX12_joins 20 = .ok (.iload_n 2, 1) := by decide +kernel
theorem dX12_joins_21 : decode cX12_joins 21 = .ok (.istore 5, 2) := by decide +kernel
theorem dX12_joins_23 : decode cX12_joins 23 = .ok (.iload 5, 2) := by decide +kernel
theorem dX12_joins_25 : decode cX12_joins 25 = .ok (.ifCond .le 87, 3) := by decide +kernel
theorem dX12_joins_28 : decode cX12_joins 28 = .ok (.iload_n 3, 1) := by decide +kernel
theorem dX12_joins_29 : decode cX12_joins 29 = .ok (.iload 5, 2) := by decide +kernel
theorem dX12_joins_31 : decode cX12_joins 31 = .ok (.iadd, 1) := by decide +kernel
theorem dX12_joins_32 : decode cX12_joins 32 = .ok (.iconst 1, 1) := by decide +kernel
theorem dX12_joins_33 : decode cX12_joins 33 = .ok (.isub, 1) := by decide +kernel
theorem dX12_joins_34 : decode cX12_joins 34 = .ok (.istore 6, 2) := by decide +kernel
theorem dX12_joins_36 : decode cX12_joins 36 = .ok (.aload_n 0, 1) := by decide +kernel
theorem dX12_joins_37 : decode cX12_joins 37 = .ok (.iload 6, 2) := by decide +kernel
theorem dX12_joins_39 : decode cX12_joins 39 = .ok (.invokevirtual 221, 3) := by decide +kernel
theorem dX12_joins_42 : decode cX12_joins 42 = .ok (.istore 7, 2) := by decide +kernel
theorem dX12_joins_44 : decode cX12_joins 44 = .ok (.iconst 0, 1) := by decide +kernel
theorem dX12_joins_45 : decode cX12_joins 45 = .ok (.istore 8, 2) := by decide +kernel
theorem dX12_joins_47 : decode cX12_joins 47 = .ok (.iload 8, 2) := by decide +kernel
theorem dX12_joins_49 : decode cX12_joins 49 = .ok (.iload 7, 2) := by decide +kernel
theorem dX12_joins_51 : decode cX12_joins 51 = .ok (.if_icmp .ge 41, 3) := by decide +kernel
theorem dX12_joins_54 : decode cX12_joins 54 = .ok (.aload_n 0, 1) := by decide +kernel
theorem dX12_joins_55 : decode cX12_joins 55 = .ok (.getfield 52, 3) := by decide +kernel
theorem dX12_joins_58 : decode cX12_joins 58 = .ok (.aload_n 0, 1) := by decide +kernel
theorem dX12_joins_59 : decode cX12_joins 59 = .ok (.getfield 55, 3) := by decide +kernel
theorem dX12_joins_62 : decode cX12_joins 62 = .ok (.aload_n 0, 1) := by decide +kernel
theorem dX12_joins_63 : decode cX12_joins 63 = .ok (.getfield 224, 3) := by decide +kernel
theorem dX12_joins_66 : decode cX12_joins 66 = .ok (.iaload, 1) := by decide +kernel
theorem dX12_joins_67 : decode cX12_joins 67 = .ok (.iload 8, 2) := by decide +kernel
theorem dX12_joins_69 : decode cX12_joins 69 = .ok (.iadd, 1) := by decide +kernel
theorem dX12_joins_70 : decode cX12_joins 70 = .ok (.aload_n 0, 1) := by decide +kernel
theorem dX12_joins_71 : decode cX12_joins 71 = .ok (.getfield 52, 3) := by decide +kernel
theorem dX12_joins_74 : decode cX12_joins 74 = .ok (.aload_n 0, 1) := by decide +kernel
theorem dX12_joins_75 : decode cX12_joins 75 = .ok (.getfield 55, 3) := by decide +kernel
theorem dX12_joins_78 : decode cX12_joins 78 = .ok (.iload 6, 2) := by decide +kernel
theorem dX12_joins_80 : decode cX12_joins 80 = .ok (.iaload, 1) := by decide +kernel
theorem dX12_joins_81 : decode cX12_joins 81 = .ok (.iload 8, 2) := by decide +kernel
theorem dX12_joins_83 : decode cX12_joins 83 = .ok (.iadd, 1) := by decide +kernel
theorem dX12_joins_84 : decode cX12_joins 84 = .ok (.iaload, 1) := by decide +kernel
theorem dX12_joins_85 : decode cX12_joins 85 = .ok (.iastore, 1) := by decide +kernel
theorem dX12_joins_86 : decode cX12_joins 86 = .ok (.iinc 8 1, 3) := by decide +kernel
theorem dX12_joins_89 : decode cX12_joins 89 = .ok (.goto (-42), 3) := by decide +kernel
theorem dX12_joins_92 : decode cX12_joins 92 = .ok (.aload_n 0, 1) := by decide +kernel
theorem dX12_joins_93 : decode cX12_joins 93 = .ok (.getfield 55, 3) := by decide +kernel
theorem dX12_joins_96 : decode cX12_joins 96 = .ok (.aload_n 0, 1) := by decide +kernel
theorem dX12_joins_97 : decode cX12_joins 97 = .ok (.getfield 224, 3) := by decide +kernel
theorem dX12_joins_100 : decode cX12_joins 100 = .ok (.dup2, 1) := by decide +kernel
theorem dX12_joins_101 : decode cX12_joins 101 = .ok (.iaload, 1) := by decide +kernel
theorem dX12_joins_102 : decode cX12_joins 102 = .ok (.iload 7, 2) := by decide +kernel
theorem dX12_joins_104 : decode cX12_joins 104 = .ok (.iadd, 1) := by decide +kernel
theorem dX12_joins_105 : decode cX12_joins 105 = .ok (.iastore, 1) := by decide +kernel
theorem dX12_joins_106 : decode cX12_joins 106 = .ok (.iinc 5 (-1), 3) := by decide +kernel
theorem dX12_joins_109 : decode cX12_joins 109 = .ok (.goto (-86), 3) := by decide +kernel
theorem dX12_joins_112 : decode cX12_joins 112 = .ok (.aload_n 0, 1) := by decide +kernel
theorem dX12_joins_113 : decode cX12_joins 113 = .ok (.iload 4, 2) := by decide +kernel
theorem dX12_joins_115 : decode cX12_joins 115 = .ok (.iconst 1, 1) := by decide +kernel
theorem dX12_joins_116 : decode cX12_joins 116 = .ok (.iadd, 1) := by decide +kernel
theorem dX12_joins_117 : decode cX12_joins 117 = .ok (.putfield 224, 3) := by decide +kernel
theorem dX12_joins_120 : decode cX12_joins 120 = .ok (.aload_n 0, 1) := by decide +kernel
theorem dX12_joins_121 : decode cX12_joins 121 = .ok (.iload 4, 2) := by decide +kernel
theorem dX12_joins_123 : decode cX12_joins 123 = .ok (.invokevirtual 221, 3) := by decide +kernel
theorem dX12_joins_126 : decode cX12_joins 126 = .ok (.bipush 40, 2) := by decide +kernel
theorem dX12_joins_128 : decode cX12_joins 128 = .ok (.if_icmp .le 5, 3) := by decide +kernel
theorem dX12_joins_131 : decode cX12_joins 131 = .ok (.iconst 0, 1) := by decide +kernel
theorem dX12_joins_132 : decode cX12_joins 132 = .ok (.ireturn, 1) := by decide +kernel
theorem dX12_joins_133 : decode cX12_joins 133 = .ok (.aload_n 0, 1) := by decide +kernel
theorem dX12_joins_134 : decode cX12_joins 134 = .ok (.iload_n 3, 1) := by decide +kernel
theorem dX12_joins_135 : decode cX12_joins 135 = .ok (.invokevirtual 230, 3) := by decide +kernel
theorem dX12_joins_138 : decode cX12_joins 138 = .ok (.iconst 1, 1) := by decide +kernel
theorem dX12_joins_139 : decode cX12_joins 139 = .ok (.ireturn, 1) := by decide +kernel
theorem dX12_bodyFor_0 : decode cX12_bodyFor 0 = .ok (.aload_n 0, 1) := by decide +kernel
theorem dX12_bodyFor_1 : decode cX12_bodyFor 1 = .ok (.getfield 52, 3) := by decide +kernel
theorem dX12_bodyFor_4 : decode cX12_bodyFor 4 = .ok (.aload_n 0, 1) := by decide +kernel
theorem dX12_bodyFor_5 : decode cX12_bodyFor 5 = .ok (.getfield 55, 3) := by decide +kernel
theorem dX12_bodyFor_8 : decode cX12_bodyFor 8 = .ok (.aload_n 0, 1) := by decide +kernel
theorem dX12_bodyFor_9 : decode cX12_bodyFor 9 = .ok (.getfield 224, 3) := by decide +kernel
theorem dX12_bodyFor_12 : decode cX12_bodyFor 12 = .ok (.iconst 1, 1) := by decide +kernel
theorem dX12_bodyFor_13 : decode cX12_bodyFor 13 = .ok (.isub, 1) := by decide +kernel
theorem dX12_bodyFor_14 : decode cX12_bodyFor 14 = .ok (.iaload, 1) := by decide +kernel
theorem dX12_bodyFor_15 : decode cX12_bodyFor 15 = .ok (.iaload, 1) := by decide +kernel
theorem dX12_bodyFor_16 : decode cX12_bodyFor 16 = .ok (.istore_n 2, 1) := by decide +kernel
theorem dX12_bodyFor_17 : decode cX12_bodyFor 17 = .ok (.iload_n 2, 1) := by decide +kernel
theorem dX12_bodyFor_18 : decode cX12_bodyFor 18 = .ok (.bipush 90, 2) := by decide +kernel
theorem dX12_bodyFor_20 : decode cX12_bodyFor 20 = .ok (.if_icmp .ne 5, 3) := by decide +kernel
theorem dX12_bodyFor_23 : decode cX12_bodyFor 23 = .ok (.iconst 0, 1) := by decide +kernel
theorem dX12_bodyFor_24 : decode cX12_bodyFor 24 = .ok (.ireturn, 1) := by decide +kernel
theorem dX12_bodyFor_25 : decode cX12_bodyFor 25 = .ok (.iload_n 2, 1) := by decide +kernel
theorem dX12_bodyFor_26 : decode cX12_bodyFor 26 = .ok (.bipush 83, 2) := by decide +kernel
theorem dX12_bodyFor_28 : decode cX12_bodyFor 28 = .ok (.if_icmp .eq 6, 3) := by decide +kernel
theorem dX12_bodyFor_31 : decode cX12_bodyFor 31 = .ok (.bipush (-9), 2) := by decide +kernel
theorem dX12_bodyFor_33 : decode cX12_bodyFor 33 = .ok (.ireturn, 1) := by decide +kernel
theorem dX12_bodyFor_34 : decode cX12_bodyFor 34 = .ok (.aload_n 0, 1) := by decide +kernel
theorem dX12_bodyFor_35 : decode cX12_bodyFor 35 = .ok (.getfield 52, 3) := by decide +kernel
theorem dX12_bodyFor_38 : decode cX12_bodyFor 38 = .ok (.aload_n 0, 1) := by decide +kernel
theorem dX12_bodyFor_39 : decode cX12_bodyFor 39 = .ok (.getfield 55, 3) := by decide +kernel
theorem dX12_bodyFor_42 : decode cX12_bodyFor 42 = .ok (.aload_n 0, 1) := by decide +kernel
theorem dX12_bodyFor_43 : decode cX12_bodyFor 43 = .ok (.getfield 224, 3) := by decide +kernel
theorem dX12_bodyFor_46 : decode cX12_bodyFor 46 = .ok (.iconst 1, 1) := by decide +kernel
theorem dX12_bodyFor_47 : decode cX12_bodyFor 47 = .ok (.isub, 1) := by decide +kernel
theorem dX12_bodyFor_48 : decode cX12_bodyFor 48 = .ok (.iaload, 1) := by decide +kernel
theorem dX12_bodyFor_49 : decode cX12_bodyFor 49 = .ok (.iconst 1, 1) := by decide +kernel
theorem dX12_bodyFor_50 : decode cX12_bodyFor 50 = .ok (.iadd, 1) := by decide +kernel
theorem dX12_bodyFor_51 : decode cX12_bodyFor 51 = .ok (.iaload, 1) := by decide +kernel
theorem dX12_bodyFor_52 : decode cX12_bodyFor 52 = .ok (.istore_n 3, 1) := by decide +kernel
theorem dX12_bodyFor_53 : decode cX12_bodyFor 53 = .ok (.aload_n 0, 1) := by decide +kernel
theorem dX12_bodyFor_54 : decode cX12_bodyFor 54 = .ok (.getfield 22, 3) := by decide +kernel
theorem dX12_bodyFor_57 : decode cX12_bodyFor 57 = .ok (.iload_n 1, 1) := by decide +kernel
theorem dX12_bodyFor_58 : decode cX12_bodyFor 58 = .ok (.iaload, 1) := by decide +kernel
theorem dX12_bodyFor_59 : decode cX12_bodyFor 59 = .ok (.iconst 1, 1) := by decide +kernel
theorem dX12_bodyFor_60 : decode cX12_bodyFor 60 = .ok (.if_icmp .ne 7, 3) := by decide +kernel
theorem dX12_bodyFor_63 : decode cX12_bodyFor 63 = .ok (.iconst 2, 1) := by decide +kernel
theorem dX12_bodyFor_64 : decode cX12_bodyFor 64 = .ok (.goto 25, 3) := by decide +kernel
theorem dX12_bodyFor_67 : decode cX12_bodyFor 67 = .ok (.iload_n 3, 1) := by decide +kernel
theorem dX12_bodyFor_68 : decode cX12_bodyFor 68 = .ok (.bipush 90, 2) := by decide +kernel
theorem dX12_bodyFor_70 : decode cX12_bodyFor 70 = .ok (.if_icmp .ne 7, 3) := by decide +kernel
theorem dX12_bodyFor_73 : decode cX12_bodyFor 73 = .ok (.iconst 1, 1) := by decide +kernel
theorem dX12_bodyFor_74 : decode cX12_bodyFor 74 = .ok (.goto 15, 3) := by decide +kernel
theorem dX12_bodyFor_77 : decode cX12_bodyFor 77 = .ok (.iload_n 3, 1) := by decide +kernel
theorem dX12_bodyFor_78 : decode cX12_bodyFor 78 = .ok (.bipush 83, 2) := by decide +kernel
theorem dX12_bodyFor_80 : decode cX12_bodyFor 80 = .ok (.if_icmp .ne 7, 3) := by decide +kernel
theorem dX12_bodyFor_83 : decode cX12_bodyFor 83 = .ok (.iconst 2, 1) := by decide +kernel
theorem dX12_bodyFor_84 : decode cX12_bodyFor 84 = .ok (.goto 5, 3) := by decide +kernel
theorem dX12_bodyFor_87 : decode cX12_bodyFor 87 = .ok (.bipush (-9), 2) := by decide +kernel
theorem dX12_bodyFor_89 : decode cX12_bodyFor 89 = .ok (.ireturn, 1) := by decide +kernel
theorem dX12_normalizes_0 : decode cX12_normalizes 0 = .ok (.iload_n 2, 1) := by decide +kernel
theorem dX12_normalizes_1 : decode cX12_normalizes 1 = .ok (.invokestatic 111, 3) := by decide +kernel
theorem dX12_normalizes_4 : decode cX12_normalizes 4 = .ok (.ifCond .eq 50, 3) := by decide +kernel
theorem dX12_normalizes_7 : decode cX12_normalizes 7 = .ok (.iload_n 1, 1) := by decide +kernel
theorem dX12_normalizes_8 : decode cX12_normalizes 8 = .ok (.ifCond .le 46, 3) := by decide +kernel
theorem dX12_normalizes_11 : decode cX12_normalizes 11 = .ok (.aload_n 0, 1) := by decide +kernel
theorem dX12_normalizes_12 : decode cX12_normalizes 12 = .ok (.iload_n 2, 1) := by decide +kernel
theorem dX12_normalizes_13 : decode cX12_normalizes 13 = .ok (.bipush 120, 2) := by decide +kernel
theorem dX12_normalizes_15 : decode cX12_normalizes 15 = .ok (.if_icmp .ne 12, 3) := by decide +kernel
theorem dX12_normalizes_18 : decode cX12_normalizes 18 = .ok (.aload_n 0, 1) := by decide +kernel
theorem dX12_normalizes_19 : decode cX12_normalizes 19 = .ok (.getfield 43, 3) := by decide +kernel
theorem dX12_normalizes_22 : decode cX12_normalizes 22 = .ok (.iload_n 1, 1) := by decide +kernel
theorem dX12_normalizes_23 : decode cX12_normalizes 23 = .ok (.iaload, 1) := by decide +kernel
theorem dX12_normalizes_24 : decode cX12_normalizes 24 = .ok (.goto 9, 3) := by decide +kernel
theorem dX12_normalizes_27 : decode cX12_normalizes 27 = .ok (.aload_n 0, 1) := by decide +kernel
theorem dX12_normalizes_28 : decode cX12_normalizes 28 = .ok (.getfield 46, 3) := by decide +kernel
theorem dX12_normalizes_31 : decode cX12_normalizes 31 = .ok (.iload_n 1, 1) := by decide +kernel
theorem dX12_normalizes_32 : decode cX12_normalizes 32 = .ok (.iaload, 1) := by decide +kernel
theorem dX12_normalizes_33 : decode cX12_normalizes 33 = .ok (.iload_n 2, 1) := by decide +kernel
theorem dX12_normalizes_34 : decode cX12_normalizes 34 = .ok (.bipush 120, 2) := by decide +kernel
theorem dX12_normalizes_36 : decode cX12_normalizes 36 = .ok (.if_icmp .ne 12, 3) := by decide +kernel
theorem dX12_normalizes_39 : decode cX12_normalizes 39 = .ok (.aload_n 0, 1) := by decide +kernel
theorem dX12_normalizes_40 : decode cX12_normalizes 40 = .ok (.getfield 49, 3) := by decide +kernel
theorem dX12_normalizes_43 : decode cX12_normalizes 43 = .ok (.iload_n 1, 1) := by decide +kernel
theorem dX12_normalizes_44 : decode cX12_normalizes 44 = .ok (.iaload, 1) := by decide +kernel
theorem dX12_normalizes_45 : decode cX12_normalizes 45 = .ok (.goto 4, 3) := by decide +kernel
theorem dX12_normalizes_48 : decode cX12_normalizes 48 = .ok (.iconst 0, 1) := by decide +kernel
theorem dX12_normalizes_49 : decode cX12_normalizes 49 = .ok (.invokevirtual 233, 3) := by decide +kernel
theorem dX12_normalizes_52 : decode cX12_normalizes 52 = .ok (.iconst 1, 1) := by decide +kernel
theorem dX12_normalizes_53 : decode cX12_normalizes 53 = .ok (.ireturn, 1) := by decide +kernel
theorem dX12_normalizes_54 : decode cX12_normalizes 54 = .ok (.iload_n 2, 1) := by decide +kernel
theorem dX12_normalizes_55 : decode cX12_normalizes 55 = .ok (.bipush 90, 2) := by decide +kernel
theorem dX12_normalizes_57 : decode cX12_normalizes 57 = .ok (.if_icmp .eq 10, 3) := by decide +kernel
theorem dX12_normalizes_60 : decode cX12_normalizes 60 = .ok (.iload_n 2, 1) := by decide +kernel
theorem dX12_normalizes_61 : decode cX12_normalizes 61 = .ok (.invokestatic 111, 3) := by decide +kernel
theorem dX12_normalizes_64 : decode cX12_normalizes 64 = .ok (.ifCond .eq 10, 3) := by decide +kernel
theorem dX12_normalizes_67 : decode cX12_normalizes 67 = .ok (.aload_n 0, 1) := by decide +kernel
theorem dX12_normalizes_68 : decode cX12_normalizes 68 = .ok (.iload_n 2, 1) := by decide +kernel
theorem dX12_normalizes_69 : decode cX12_normalizes 69 = .ok (.invokevirtual 227, 3) := by decide +kernel
theorem dX12_normalizes_72 : decode cX12_normalizes 72 = .ok (.iconst 1, 1) := by decide +kernel
theorem dX12_normalizes_73 : decode cX12_normalizes 73 = .ok (.ireturn, 1) := by decide +kernel
theorem dX12_normalizes_74 : decode cX12_normalizes 74 = .ok (.iload_n 2, 1) := by decide +kernel
theorem dX12_normalizes_75 : decode cX12_normalizes 75 = .ok (.bipush 83, 2) := by decide +kernel
theorem dX12_normalizes_77 : decode cX12_normalizes 77 = .ok (.if_icmp .ne 10, 3) := by decide +kernel
theorem dX12_normalizes_80 : decode cX12_normalizes 80 = .ok (.aload_n 0, 1) := by decide +kernel
theorem dX12_normalizes_81 : decode cX12_normalizes 81 = .ok (.iload_n 2, 1) := by decide +kernel
theorem dX12_normalizes_82 : decode cX12_normalizes 82 = .ok (.iconst 1, 1) := by decide +kernel
theorem dX12_normalizes_83 : decode cX12_normalizes 83 = .ok (.invokevirtual 236, 3) := by decide +kernel
theorem dX12_normalizes_86 : decode cX12_normalizes 86 = .ok (.ireturn, 1) := by decide +kernel
theorem dX12_normalizes_87 : decode cX12_normalizes 87 = .ok (.iload_n 2, 1) := by decide +kernel
theorem dX12_normalizes_88 : decode cX12_normalizes 88 = .ok (.bipush 97, 2) := by decide +kernel
theorem dX12_normalizes_90 : decode cX12_normalizes 90 = .ok (.isub, 1) := by decide +kernel
theorem dX12_normalizes_91 : decode cX12_normalizes 91 = .ok (.istore_n 3, 1) := by decide +kernel
theorem dX12_normalizes_92 : decode cX12_normalizes 92 = .ok (.aload_n 0, 1) := by decide +kernel
theorem dX12_normalizes_93 : decode cX12_normalizes 93 = .ok (.iload_n 3, 1) := by decide +kernel
theorem dX12_normalizes_94 : decode cX12_normalizes 94 = .ok (.invokevirtual 239, 3) := by decide +kernel
theorem dX12_normalizes_97 : decode cX12_normalizes 97 = .ok (.istore 4, 2) := by decide +kernel
theorem dX12_normalizes_99 : decode cX12_normalizes 99 = .ok (.iload 4, 2) := by decide +kernel
theorem dX12_normalizes_101 : decode cX12_normalizes 101 = .ok (.bipush (-9), 2) := by decide +kernel
theorem dX12_normalizes_103 : decode cX12_normalizes 103 = .ok (.if_icmp .ne 15, 3) := by decide +kernel
theorem dX12_normalizes_106 : decode cX12_normalizes 106 = .ok (.aload_n 0, 1) := by decide +kernel
theorem dX12_normalizes_107 : decode cX12_normalizes 107 = .ok (.iload_n 2, 1) := by decide +kernel
theorem dX12_normalizes_108 : decode cX12_normalizes 108 = .ok (.aload_n 0, 1) := by decide +kernel
theorem dX12_normalizes_109 : decode cX12_normalizes 109 = .ok (.getfield 19, 3) := by decide +kernel
theorem dX12_normalizes_112 : decode cX12_normalizes 112 = .ok (.iload_n 3, 1) := by decide +kernel
theorem dX12_normalizes_113 : decode cX12_normalizes 113 = .ok (.iaload, 1) := by decide +kernel
theorem dX12_normalizes_114 : decode cX12_normalizes 114 = .ok (.invokevirtual 236, 3) := by decide +kernel
theorem dX12_normalizes_117 : decode cX12_normalizes 117 = .ok (.ireturn, 1) := by decide +kernel
theorem dX12_normalizes_118 : decode cX12_normalizes 118 = .ok (.aload_n 0, 1) := by decide +kernel
theorem dX12_normalizes_119 : decode cX12_normalizes 119 = .ok (.dup, 1) := by decide +kernel
theorem dX12_normalizes_120 : decode cX12_normalizes 120 = .ok (.getfield 242, 3) := by decide +kernel
theorem dX12_normalizes_123 : decode cX12_normalizes 123 = .ok (.iconst 1, 1) := by decide +kernel
theorem dX12_normalizes_124 : decode cX12_normalizes 124 = .ok (.iadd, 1) := by decide +kernel
theorem dX12_normalizes_125 : decode cX12_normalizes 125 = .ok (.putfield 242, 3) := by decide +kernel
theorem dX12_normalizes_128 : decode cX12_normalizes 128 = .ok (.aload_n 0, 1) := by decide +kernel
theorem dX12_normalizes_129 : decode cX12_normalizes 129 = .ok (.getfield 242, 3) := by decide +kernel
theorem dX12_normalizes_132 : decode cX12_normalizes 132 = .ok (.bipush 50, 2) := by decide +kernel
theorem dX12_normalizes_134 : decode cX12_normalizes 134 = .ok (.if_icmp .le 5, 3) := by decide +kernel
theorem dX12_normalizes_137 : decode cX12_normalizes 137 = .ok (.iconst 0, 1) := by decide +kernel
theorem dX12_normalizes_138 : decode cX12_normalizes 138 = .ok (.ireturn, 1) := by decide +kernel
theorem dX12_normalizes_139 : decode cX12_normalizes 139 = .ok (.aload_n 0, 1) := by decide +kernel
theorem dX12_normalizes_140 : decode cX12_normalizes 140 = .ok (.bipush 100, 2) := by decide +kernel
theorem dX12_normalizes_142 : decode cX12_normalizes 142 = .ok (.iconst 3, 1) := by decide +kernel
theorem dX12_normalizes_143 : decode cX12_normalizes 143 = .ok (.iload_n 3, 1) := by decide +kernel
theorem dX12_normalizes_144 : decode cX12_normalizes 144 = .ok (.imul, 1) := by decide +kernel
theorem dX12_normalizes_145 : decode cX12_normalizes 145 = .ok (.iadd, 1) := by decide +kernel
theorem dX12_normalizes_146 : decode cX12_normalizes 146 = .ok (.iload 4, 2) := by decide +kernel
theorem dX12_normalizes_148 : decode cX12_normalizes 148 = .ok (.iadd, 1) := by decide +kernel
theorem dX12_normalizes_149 : decode cX12_normalizes 149 = .ok (.aload_n 0, 1) := by decide +kernel
theorem dX12_normalizes_150 : decode cX12_normalizes 150 = .ok (.getfield 28, 3) := by decide +kernel
theorem dX12_normalizes_153 : decode cX12_normalizes 153 = .ok (.iconst 3, 1) := by decide +kernel
theorem dX12_normalizes_154 : decode cX12_normalizes 154 = .ok (.iload_n 3, 1) := by decide +kernel
theorem dX12_normalizes_155 : decode cX12_normalizes 155 = .ok (.imul, 1) := by decide +kernel
theorem dX12_normalizes_156 : decode cX12_normalizes 156 = .ok (.iload 4, 2) := by decide +kernel
theorem dX12_normalizes_158 : decode cX12_normalizes 158 = .ok (.iadd, 1) := by decide +kernel
theorem dX12_normalizes_159 : decode cX12_normalizes 159 = .ok (.iaload, 1) := by decide +kernel
theorem dX12_normalizes_160 : decode cX12_normalizes 160 = .ok (.aload_n 0, 1) := by decide +kernel
theorem dX12_normalizes_161 : decode cX12_normalizes 161 = .ok (.getfield 224, 3) := by decide +kernel
theorem dX12_normalizes_164 : decode cX12_normalizes 164 = .ok (.iconst 1, 1) := by decide +kernel
theorem dX12_normalizes_165 : decode cX12_normalizes 165 = .ok (.isub, 1) := by decide +kernel
theorem dX12_normalizes_166 : decode cX12_normalizes 166 = .ok (.aload_n 0, 1) := by decide +kernel
theorem dX12_normalizes_167 : decode cX12_normalizes 167 = .ok (.getfield 224, 3) := by decide +kernel
theorem dX12_normalizes_170 : decode cX12_normalizes 170 = .ok (.iconst 2, 1) := by decide +kernel
theorem dX12_normalizes_171 : decode cX12_normalizes 171 = .ok (.isub, 1) := by decide +kernel
theorem dX12_normalizes_172 : decode cX12_normalizes 172 = .ok (.aload_n 0, 1) := by decide +kernel
theorem dX12_normalizes_173 : decode cX12_normalizes 173 = .ok (.getfield 22, 3) := by decide +kernel
theorem dX12_normalizes_176 : decode cX12_normalizes 176 = .ok (.iload_n 3, 1) := by decide +kernel
theorem dX12_normalizes_177 : decode cX12_normalizes 177 = .ok (.iaload, 1) := by decide +kernel
theorem dX12_normalizes_178 : decode cX12_normalizes 178 = .ok (.invokevirtual 183, 3) := by decide +kernel
theorem dX12_normalizes_181 : decode cX12_normalizes 181 = .ok (.aload_n 0, 1) := by decide +kernel
theorem dX12_normalizes_182 : decode cX12_normalizes 182 = .ok (.getfield 58, 3) := by decide +kernel
theorem dX12_normalizes_185 : decode cX12_normalizes 185 = .ok (.aload_n 0, 1) := by decide +kernel
theorem dX12_normalizes_186 : decode cX12_normalizes 186 = .ok (.getfield 177, 3) := by decide +kernel
theorem dX12_normalizes_189 : decode cX12_normalizes 189 = .ok (.iconst 1, 1) := by decide +kernel
theorem dX12_normalizes_190 : decode cX12_normalizes 190 = .ok (.isub, 1) := by decide +kernel
theorem dX12_normalizes_191 : decode cX12_normalizes 191 = .ok (.aload_n 0, 1) := by decide +kernel
theorem dX12_normalizes_192 : decode cX12_normalizes 192 = .ok (.getfield 224, 3) := by decide +kernel
theorem dX12_normalizes_195 : decode cX12_normalizes 195 = .ok (.aload_n 0, 1) := by decide +kernel
theorem dX12_normalizes_196 : decode cX12_normalizes 196 = .ok (.getfield 19, 3) := by decide +kernel
theorem dX12_normalizes_199 : decode cX12_normalizes 199 = .ok (.iload_n 3, 1) := by decide +kernel
theorem dX12_normalizes_200 : decode cX12_normalizes 200 = .ok (.iaload, 1) := by decide +kernel
theorem dX12_normalizes_201 : decode cX12_normalizes 201 = .ok (.isub, 1) := by decide +kernel
theorem dX12_normalizes_202 : decode cX12_normalizes 202 = .ok (.iastore, 1) := by decide +kernel
theorem dX12_normalizes_203 : decode cX12_normalizes 203 = .ok (.iconst 1, 1) := by decide +kernel
theorem dX12_normalizes_204 : decode cX12_normalizes 204 = .ok (.ireturn, 1) := by decide +kernel
theorem dX12_makesNormal_0 : decode cX12_makesNormal 0 = .ok (.aload_n 0, 1) := by decide +kernel
theorem dX12_makesNormal_1 : decode cX12_makesNormal 1 = .ok (.iconst 0, 1) := by decide +kernel
theorem dX12_makesNormal_2 : decode cX12_makesNormal 2 = .ok (.putfield 224, 3) := by decide +kernel
theorem dX12_makesNormal_5 : decode cX12_makesNormal 5 = .ok (.aload_n 0, 1) := by decide +kernel
theorem dX12_makesNormal_6 : decode cX12_makesNormal 6 = .ok (.getfield 55, 3) := by decide +kernel
theorem dX12_makesNormal_9 : decode cX12_makesNormal 9 = .ok (.iconst 0, 1) := by decide +kernel
theorem dX12_makesNormal_10 : decode cX12_makesNormal 10 = .ok (.iconst 0, 1) := by decide +kernel
theorem dX12_makesNormal_11 : decode cX12_makesNormal 11 = .ok (.iastore, 1) := by decide +kernel
theorem dX12_makesNormal_12 : decode cX12_makesNormal 12 = .ok (.aload_n 0, 1) := by decide +kernel
theorem dX12_makesNormal_13 : decode cX12_makesNormal 13 = .ok (.iconst 0, 1) := by decide +kernel
theorem dX12_makesNormal_14 : decode cX12_makesNormal 14 = .ok (.putfield 242, 3) := by decide +kernel
theorem dX12_makesNormal_17 : decode cX12_makesNormal 17 = .ok (.aload_n 0, 1) := by decide +kernel
theorem dX12_makesNormal_18 : decode cX12_makesNormal 18 = .ok (.iconst 0, 1) := by decide +kernel
theorem dX12_makesNormal_19 : decode cX12_makesNormal 19 = .ok (.putfield 177, 3) := by decide +kernel
theorem dX12_makesNormal_22 : decode cX12_makesNormal 22 = .ok (.aload_n 0, 1) := by decide +kernel
theorem dX12_makesNormal_23 : decode cX12_makesNormal 23 = .ok (.iload_n 1, 1) := by decide +kernel
theorem dX12_makesNormal_24 : decode cX12_makesNormal 24 = .ok (.aload_n 0, 1) := by decide +kernel
theorem dX12_makesNormal_25 : decode cX12_makesNormal 25 = .ok (.getfield 13, 3) := by decide +kernel
theorem dX12_makesNormal_28 : decode cX12_makesNormal 28 = .ok (.iload_n 1, 1) := by decide +kernel
theorem dX12_makesNormal_29 : decode cX12_makesNormal 29 = .ok (.iaload, 1) := by decide +kernel
theorem dX12_makesNormal_30 : decode cX12_makesNormal 30 = .ok (.iconst 0, 1) := by decide +kernel
theorem dX12_makesNormal_31 : decode cX12_makesNormal 31 = .ok (.iconst 0, 1) := by decide +kernel
theorem dX12_makesNormal_32 : decode cX12_makesNormal 32 = .ok (.iconst 0, 1) := by decide +kernel
theorem dX12_makesNormal_33 : decode cX12_makesNormal 33 = .ok (.invokevirtual 183, 3) := by decide +kernel
theorem dX12_makesNormal_36 : decode cX12_makesNormal 36 = .ok (.aload_n 0, 1) := by decide +kernel
theorem dX12_makesNormal_37 : decode cX12_makesNormal 37 = .ok (.getfield 177, 3) := by decide +kernel
theorem dX12_makesNormal_40 : decode cX12_makesNormal 40 = .ok (.ifCond .le 87, 3) := by decide +kernel
theorem dX12_makesNormal_43 : decode cX12_makesNormal 43 = .ok (.aload_n 0, 1) := by decide +kernel
theorem dX12_makesNormal_44 : decode cX12_makesNormal 44 = .ok (.getfield 177, 3) := by decide +kernel
theorem dX12_makesNormal_47 : decode cX12_makesNormal 47 = .ok (.iconst 1, 1) := by decide +kernel
theorem dX12_makesNormal_48 : decode cX12_makesNormal 48 = .ok (.isub, 1) := by decide +kernel
theorem dX12_makesNormal_49 : decode cX12_makesNormal 49 = .ok (.istore_n 3, 1) := by decide +kernel
theorem dX12_makesNormal_50 : decode cX12_makesNormal 50 = .ok (.aload_n 0, 1) := by decide +kernel
theorem dX12_makesNormal_51 : decode cX12_makesNormal 51 = .ok (.getfield 40, 3) := by decide +kernel
theorem dX12_makesNormal_54 : decode cX12_makesNormal 54 = .ok (.iload_n 3, 1) := by decide +kernel
theorem dX12_makesNormal_55 : decode cX12_makesNormal 55 = .ok (.iaload, 1) := by decide +kernel
theorem dX12_makesNormal_56 : decode cX12_makesNormal 56 = .ok (.ifCond .ge 33, 3) := by decide +kernel
theorem dX12_makesNormal_59 : decode cX12_makesNormal 59 = .ok (.aload_n 0, 1) := by decide +kernel
theorem dX12_makesNormal_60 : decode cX12_makesNormal 60 = .ok (.dup, 1) := by decide +kernel
theorem dX12_makesNormal_61 : decode cX12_makesNormal 61 = .ok (.getfield 177, 3) := by decide +kernel
theorem dX12_makesNormal_64 : decode cX12_makesNormal 64 = .ok (.iconst 1, 1) := by decide +kernel
theorem dX12_makesNormal_65 : decode cX12_makesNormal 65 = .ok (.isub, 1) := by decide +kernel
theorem dX12_makesNormal_66 : decode cX12_makesNormal 66 = .ok (.putfield 177, 3) := by decide +kernel
theorem dX12_makesNormal_69 : decode cX12_makesNormal 69 = .ok (.aload_n 0, 1) := by decide +kernel
theorem dX12_makesNormal_70 : decode cX12_makesNormal 70 = .ok (.getfield 177, 3) := by decide +kernel
theorem dX12_makesNormal_73 : decode cX12_makesNormal 73 = .ok (.ifCond .le 51, 3) := by decide +kernel
theorem dX12_makesNormal_76 : decode cX12_makesNormal 76 = .ok (.aload_n 0, 1) := by decide +kernel
theorem dX12_makesNormal_77 : decode cX12_makesNormal 77 = .ok (.aload_n 0, 1) := by decide +kernel
theorem dX12_makesNormal_78 : decode cX12_makesNormal 78 = .ok (.getfield 58, 3) := by decide +kernel
theorem dX12_makesNormal_81 : decode cX12_makesNormal 81 = .ok (.iload_n 3, 1) := by decide +kernel
theorem dX12_makesNormal_82 : decode cX12_makesNormal 82 = .ok (.iaload, 1) := by decide +kernel
theorem dX12_makesNormal_83 : decode cX12_makesNormal 83 = .ok (.invokevirtual 230, 3) := by decide +kernel
theorem dX12_makesNormal_86 : decode cX12_makesNormal 86 = .ok (.goto 38, 3) := by decide +kernel
theorem dX12_makesNormal_89 : decode cX12_makesNormal 89 = .ok (.aload_n 0, 1) := by decide +kernel
theorem dX12_makesNormal_90 : decode cX12_makesNormal 90 = .ok (.iload_n 3, 1) := by decide +kernel
theorem dX12_makesNormal_91 : decode cX12_makesNormal 91 = .ok (.aload_n 0, 1) := by decide +kernel
theorem dX12_makesNormal_92 : decode cX12_makesNormal 92 = .ok (.getfield 40, 3) := by decide +kernel
theorem dX12_makesNormal_95 : decode cX12_makesNormal 95 = .ok (.iload_n 3, 1) := by decide +kernel
theorem dX12_makesNormal_96 : decode cX12_makesNormal 96 = .ok (.iaload, 1) := by decide +kernel
theorem dX12_makesNormal_97 : decode cX12_makesNormal 97 = .ok (.invokevirtual 193, 3) := by decide +kernel
theorem dX12_makesNormal_100 : decode cX12_makesNormal 100 = .ok (.istore 4, 2) := by decide +kernel
theorem dX12_makesNormal_102 : decode cX12_makesNormal 102 = .ok (.aload_n 0, 1) := by decide +kernel
theorem dX12_makesNormal_103 : decode cX12_makesNormal 103 = .ok (.getfield 40, 3) := by decide +kernel
theorem dX12_makesNormal_106 : decode cX12_makesNormal 106 = .ok (.iload_n 3, 1) := by decide +kernel
theorem dX12_makesNormal_107 : decode cX12_makesNormal 107 = .ok (.dup2, 1) := by decide +kernel
theorem dX12_makesNormal_108 : decode cX12_makesNormal 108 = .ok (.iaload, 1) := by decide +kernel
theorem dX12_makesNormal_109 : decode cX12_makesNormal 109 = .ok (.iconst 1, 1) := by decide +kernel
theorem dX12_makesNormal_110 : decode cX12_makesNormal 110 = .ok (.isub, 1) := by decide +kernel
theorem dX12_makesNormal_111 : decode cX12_makesNormal 111 = .ok (.iastore, 1) := by decide +kernel
theorem dX12_makesNormal_112 : decode cX12_makesNormal 112 = .ok (.aload_n 0, 1) := by decide +kernel
theorem dX12_makesNormal_113 : decode cX12_makesNormal 113 = .ok (.iload_n 3, 1) := by decide +kernel
theorem dX12_makesNormal_114 : decode cX12_makesNormal 114 = .ok (.iload 4, 2) := by decide +kernel
theorem dX12_makesNormal_116 : decode cX12_makesNormal 116 = .ok (.invokevirtual 245, 3) := by decide +kernel
theorem dX12_makesNormal_119 : decode cX12_makesNormal 119 = .ok (.ifCond .ne 5, 3) := by decide +kernel
theorem dX12_makesNormal_122 : decode cX12_makesNormal 122 = .ok (.iconst 0, 1) := by decide +kernel
theorem dX12_makesNormal_123 : decode cX12_makesNormal 123 = .ok (.ireturn, 1) := by decide +kernel
theorem dX12_makesNormal_124 : decode cX12_makesNormal 124 = .ok (.goto (-88), 3) := by decide +kernel
theorem dX12_makesNormal_127 : decode cX12_makesNormal 127 = .ok (.aload_n 0, 1) := by decide +kernel
theorem dX12_makesNormal_128 : decode cX12_makesNormal 128 = .ok (.getfield 13, 3) := by decide +kernel
theorem dX12_makesNormal_131 : decode cX12_makesNormal 131 = .ok (.iload_n 2, 1) := by decide +kernel
theorem dX12_makesNormal_132 : decode cX12_makesNormal 132 = .ok (.iconst 0, 1) := by decide +kernel
theorem dX12_makesNormal_133 : decode cX12_makesNormal 133 = .ok (.iastore, 1) := by decide +kernel
theorem dX12_makesNormal_134 : decode cX12_makesNormal 134 = .ok (.iconst 0, 1) := by decide +kernel
theorem dX12_makesNormal_135 : decode cX12_makesNormal 135 = .ok (.istore_n 3, 1) := by decide +kernel
theorem dX12_makesNormal_136 : decode cX12_makesNormal 136 = .ok (.iload_n 3, 1) := by decide +kernel
theorem dX12_makesNormal_137 : decode cX12_makesNormal 137 = .ok (.aload_n 0, 1) := by decide +kernel
theorem dX12_makesNormal_138 : decode cX12_makesNormal 138 = .ok (.getfield 55, 3) := by decide +kernel
theorem dX12_makesNormal_141 : decode cX12_makesNormal 141 = .ok (.iconst 1, 1) := by decide +kernel
theorem dX12_makesNormal_142 : decode cX12_makesNormal 142 = .ok (.iaload, 1) := by decide +kernel
theorem dX12_makesNormal_143 : decode cX12_makesNormal 143 = .ok (.if_icmp .ge 20, 3) := by decide +kernel
theorem dX12_makesNormal_146 : decode cX12_makesNormal 146 = .ok (.aload_n 0, 1) := by decide +kernel
theorem dX12_makesNormal_147 : decode cX12_makesNormal 147 = .ok (.iload_n 2, 1) := by decide +kernel
theorem dX12_makesNormal_148 : decode cX12_makesNormal 148 = .ok (.aload_n 0, 1) := by decide +kernel
theorem dX12_makesNormal_149 : decode cX12_makesNormal 149 = .ok (.getfield 52, 3) := by decide +kernel
theorem dX12_makesNormal_152 : decode cX12_makesNormal 152 = .ok (.iload_n 3, 1) := by decide +kernel
theorem dX12_makesNormal_153 : decode cX12_makesNormal 153 = .ok (.iaload, 1) := by decide +kernel
theorem dX12_makesNormal_154 : decode cX12_makesNormal 154 = .ok (.invokevirtual 150, 3) := by decide +kernel
theorem dX12_makesNormal_157 : decode cX12_makesNormal 157 = .ok (.iinc 3 1, 3) := by decide +kernel
theorem dX12_makesNormal_160 : decode cX12_makesNormal 160 = .ok (.goto (-24), 3) := by decide +kernel
theorem dX12_makesNormal_163 : decode cX12_makesNormal 163 = .ok (.iconst 1, 1) := by decide +kernel
theorem dX12_makesNormal_164 : decode cX12_makesNormal 164 = .ok (.ireturn, 1) := by decide +kernel
theorem dX12_normal_0 : decode cX12_normal 0 = .ok (.iload_n 1, 1) := by decide +kernel
theorem dX12_normal_1 : decode cX12_normal 1 = .ok (.iconst 0, 1) := by decide +kernel
theorem dX12_normal_2 : decode cX12_normal 2 = .ok (.iconst 1, 1) := by decide +kernel
theorem dX12_normal_3 : decode cX12_normal 3 = .ok (.invokestatic 96, 3) := by decide +kernel
theorem dX12_normal_6 : decode cX12_normal 6 = .ok (.ifCond .eq 19, 3) := by decide +kernel
theorem dX12_normal_9 : decode cX12_normal 9 = .ok (.iload_n 2, 1) := by decide +kernel
theorem dX12_normal_10 : decode cX12_normal 10 = .ok (.bipush (-9), 2) := by decide +kernel
theorem dX12_normal_12 : decode cX12_normal 12 = .ok (.if_icmp .eq 16, 3) := by decide +kernel
theorem dX12_normal_15 : decode cX12_normal 15 = .ok (.iload_n 2, 1) := by decide +kernel
theorem dX12_normal_16 : decode cX12_normal 16 = .ok (.iconst 0, 1) := by decide +kernel
theorem dX12_normal_17 : decode cX12_normal 17 = .ok (.bipush 39, 2) := by decide +kernel
theorem dX12_normal_19 : decode cX12_normal 19 = .ok (.invokestatic 96, 3) := by decide +kernel
theorem dX12_normal_22 : decode cX12_normal 22 = .ok (.ifCond .ne 6, 3) := by decide +kernel
theorem dX12_normal_25 : decode cX12_normal 25 = .ok (.bipush (-2), 2) := by decide +kernel
theorem dX12_normal_27 : decode cX12_normal 27 = .ok (.ireturn, 1) := by decide +kernel
theorem dX12_normal_28 : decode cX12_normal 28 = .ok (.aload_n 0, 1) := by decide +kernel
theorem dX12_normal_29 : decode cX12_normal 29 = .ok (.getfield 164, 3) := by decide +kernel
theorem dX12_normal_32 : decode cX12_normal 32 = .ok (.ifCond .eq 25, 3) := by decide +kernel
theorem dX12_normal_35 : decode cX12_normal 35 = .ok (.aload_n 0, 1) := by decide +kernel
theorem dX12_normal_36 : decode cX12_normal 36 = .ok (.iconst 0, 1) := by decide +kernel
theorem dX12_normal_37 : decode cX12_normal 37 = .ok (.iload_n 1, 1) := by decide +kernel
theorem dX12_normal_38 : decode cX12_normal 38 = .ok (.iadd, 1) := by decide +kernel
theorem dX12_normal_39 : decode cX12_normal 39 = .ok (.bipush 24, 2) := by decide +kernel
theorem dX12_normal_41 : decode cX12_normal 41 = .ok (.invokevirtual 248, 3) := by decide +kernel
theorem dX12_normal_44 : decode cX12_normal 44 = .ok (.ifCond .eq 13, 3) := by decide +kernel
theorem dX12_normal_47 : decode cX12_normal 47 = .ok (.aload_n 0, 1) := by decide +kernel
theorem dX12_normal_48 : decode cX12_normal 48 = .ok (.bipush 24, 2) := by decide +kernel
theorem dX12_normal_50 : decode cX12_normal 50 = .ok (.iload_n 2, 1) := by decide +kernel
theorem dX12_normal_51 : decode cX12_normal 51 = .ok (.invokevirtual 168, 3) := by decide +kernel
theorem dX12_normal_54 : decode cX12_normal 54 = .ok (.goto 5, 3) := by decide +kernel
theorem dX12_normal_57 : decode cX12_normal 57 = .ok (.bipush (-3), 2) := by decide +kernel
theorem dX12_normal_59 : decode cX12_normal 59 = .ok (.ireturn, 1) := by decide +kernel
theorem dX12_callsIn_0 : decode cX12_callsIn 0 = .ok (.iconst 0, 1) := by decide +kernel
theorem dX12_callsIn_1 : decode cX12_callsIn 1 = .ok (.istore 4, 2) := by decide +kernel
theorem dX12_callsIn_3 : decode cX12_callsIn 3 = .ok (.iconst 0, 1) := by decide +kernel
theorem dX12_callsIn_4 : decode cX12_callsIn 4 = .ok (.istore 5, 2) := by decide +kernel
theorem dX12_callsIn_6 : decode cX12_callsIn 6 = .ok (.iload 5, 2) := by decide +kernel
theorem dX12_callsIn_8 : decode cX12_callsIn 8 = .ok (.iconst 1, 1) := by decide +kernel
theorem dX12_callsIn_9 : decode cX12_callsIn 9 = .ok (.iadd, 1) := by decide +kernel
theorem dX12_callsIn_10 : decode cX12_callsIn 10 = .ok (.aload_n 0, 1) := by decide +kernel
theorem dX12_callsIn_11 : decode cX12_callsIn 11 = .ok (.getfield 13, 3) := by decide +kernel
theorem dX12_callsIn_14 : decode cX12_callsIn 14 = .ok (.iload_n 1, 1) := by decide +kernel
theorem dX12_callsIn_15 : decode cX12_callsIn 15 = .ok (.iaload, 1) := by decide +kernel
theorem dX12_callsIn_16 : decode cX12_callsIn 16 = .ok (.if_icmp .ge 83, 3) := by decide +kernel
theorem dX12_callsIn_19 : decode cX12_callsIn 19 = .ok (.aload_n 0, 1) := by decide +kernel
theorem dX12_callsIn_20 : decode cX12_callsIn 20 = .ok (.iload_n 1, 1) := by decide +kernel
theorem dX12_callsIn_21 : decode cX12_callsIn 21 = .ok (.iload 5, 2) := by decide +kernel
theorem dX12_callsIn_23 : decode cX12_callsIn 23 = .ok (.invokevirtual 92, 3) := by decide +kernel
theorem dX12_callsIn_26 : decode cX12_callsIn 26 = .ok (.invokestatic 100, 3) := by decide +kernel
theorem dX12_callsIn_29 : decode cX12_callsIn 29 = .ok (.ifCond .eq 23, 3) := by decide +kernel
theorem dX12_callsIn_32 : decode cX12_callsIn 32 = .ok (.aload_n 0, 1) := by decide +kernel
theorem dX12_callsIn_33 : decode cX12_callsIn 33 = .ok (.iload_n 1, 1) := by decide +kernel
theorem dX12_callsIn_34 : decode cX12_callsIn 34 = .ok (.iload 5, 2) := by decide +kernel
theorem dX12_callsIn_36 : decode cX12_callsIn 36 = .ok (.iconst 1, 1) := by decide +kernel
theorem dX12_callsIn_37 : decode cX12_callsIn 37 = .ok (.iadd, 1) := by decide +kernel
theorem dX12_callsIn_38 : decode cX12_callsIn 38 = .ok (.invokevirtual 92, 3) := by decide +kernel
theorem dX12_callsIn_41 : decode cX12_callsIn 41 = .ok (.bipush 120, 2) := by decide +kernel
theorem dX12_callsIn_43 : decode cX12_callsIn 43 = .ok (.iload_n 2, 1) := by decide +kernel
theorem dX12_callsIn_44 : decode cX12_callsIn 44 = .ok (.iadd, 1) := by decide +kernel
theorem dX12_callsIn_45 : decode cX12_callsIn 45 = .ok (.if_icmp .ne 7, 3) := by decide +kernel
theorem dX12_callsIn_48 : decode cX12_callsIn 48 = .ok (.iconst 1, 1) := by decide +kernel
theorem dX12_callsIn_49 : decode cX12_callsIn 49 = .ok (.goto 4, 3) := by decide +kernel
theorem dX12_callsIn_52 : decode cX12_callsIn 52 = .ok (.iconst 0, 1) := by decide +kernel
theorem dX12_callsIn_53 : decode cX12_callsIn 53 = .ok (.istore 6, 2) := by decide +kernel
theorem dX12_callsIn_55 : decode cX12_callsIn 55 = .ok (.iload 4, 2) := by decide +kernel
theorem dX12_callsIn_57 : decode cX12_callsIn 57 = .ok (.iload 6, 2) := by decide +kernel
theorem dX12_callsIn_59 : decode cX12_callsIn 59 = .ok (.ifCond .eq 30, 3) := by decide +kernel
theorem dX12_callsIn_62 : decode cX12_callsIn 62 = .ok (.iload_n 3, 1) := by decide +kernel
theorem dX12_callsIn_63 : decode cX12_callsIn 63 = .ok (.ifCond .eq 22, 3) := by decide +kernel
theorem dX12_callsIn_66 : decode cX12_callsIn 66 = .ok (.aload_n 0, 1) := by decide +kernel
theorem dX12_callsIn_67 : decode cX12_callsIn 67 = .ok (.getfield 22, 3) := by decide +kernel
theorem dX12_callsIn_70 : decode cX12_callsIn 70 = .ok (.aload_n 0, 1) := by decide +kernel
theorem dX12_callsIn_71 : decode cX12_callsIn 71 = .ok (.iload_n 1, 1) := by decide +kernel
theorem dX12_callsIn_72 : decode cX12_callsIn 72 = .ok (.iload 5, 2) := by decide +kernel
theorem dX12_callsIn_74 : decode cX12_callsIn 74 = .ok (.invokevirtual 92, 3) := by decide +kernel
theorem dX12_callsIn_77 : decode cX12_callsIn 77 = .ok (.bipush 97, 2) := by decide +kernel
theorem dX12_callsIn_79 : decode cX12_callsIn 79 = .ok (.isub, 1) := by decide +kernel
theorem dX12_callsIn_80 : decode cX12_callsIn 80 = .ok (.iaload, 1) := by decide +kernel
theorem dX12_callsIn_81 : decode cX12_callsIn 81 = .ok (.iload_n 3, 1) := by decide +kernel
theorem dX12_callsIn_82 : decode cX12_callsIn 82 = .ok (.if_icmp .ne 7, 3) := by decide +kernel
theorem dX12_callsIn_85 : decode cX12_callsIn 85 = .ok (.iconst 1, 1) := by decide +kernel
theorem dX12_callsIn_86 : decode cX12_callsIn 86 = .ok (.goto 4, 3) := by decide +kernel
theorem dX12_callsIn_89 : decode cX12_callsIn 89 = .ok (.iconst 0, 1) := by decide +kernel
theorem dX12_callsIn_90 : decode cX12_callsIn 90 = .ok (.iadd, 1) := by decide +kernel
theorem dX12_callsIn_91 : decode cX12_callsIn 91 = .ok (.istore 4, 2) := by decide +kernel
theorem dX12_callsIn_93 : decode cX12_callsIn 93 = .ok (.iinc 5 1, 3) := by decide +kernel
theorem dX12_callsIn_96 : decode cX12_callsIn 96 = .ok (.goto (-90), 3) := by decide +kernel
theorem dX12_callsIn_99 : decode cX12_callsIn 99 = .ok (.iload 4, 2) := by decide +kernel
theorem dX12_callsIn_101 : decode cX12_callsIn 101 = .ok (.ireturn, 1) := by decide +kernel
theorem dX12_findScheme_0 : decode cX12_findScheme 0 = .ok (.aload_n 0, 1) := by decide +kernel
theorem dX12_findScheme_1 : decode cX12_findScheme 1 = .ok (.iconst 0, 1) := by decide +kernel
theorem dX12_findScheme_2 : decode cX12_findScheme 2 = .ok (.putfield 251, 3) := by decide +kernel
theorem dX12_findScheme_5 : decode cX12_findScheme 5 = .ok (.iconst 0, 1) := by decide +kernel
theorem dX12_findScheme_6 : decode cX12_findScheme 6 = .ok (.istore_n 3, 1) := by decide +kernel
theorem dX12_findScheme_7 : decode cX12_findScheme 7 = .ok (.iload_n 3, 1) := by decide +kernel
theorem dX12_findScheme_8 : decode cX12_findScheme 8 = .ok (.iconst 3, 1) := by decide +kernel
theorem dX12_findScheme_9 : decode cX12_findScheme 9 = .ok (.if_icmp .ge 100, 3) := by decide +kernel
theorem dX12_findScheme_12 : decode cX12_findScheme 12 = .ok (.aload_n 0, 1) := by decide +kernel
theorem dX12_findScheme_13 : decode cX12_findScheme 13 = .ok (.iload_n 1, 1) := by decide +kernel
theorem dX12_findScheme_14 : decode cX12_findScheme 14 = .ok (.iload_n 3, 1) := by decide +kernel
theorem dX12_findScheme_15 : decode cX12_findScheme 15 = .ok (.iconst 0, 1) := by decide +kernel
theorem dX12_findScheme_16 : decode cX12_findScheme 16 = .ok (.invokevirtual 254, 3) := by decide +kernel
theorem dX12_findScheme_19 : decode cX12_findScheme 19 = .ok (.aload_n 0, 1) := by decide +kernel
theorem dX12_findScheme_20 : decode cX12_findScheme 20 = .ok (.iload_n 2, 1) := by decide +kernel
theorem dX12_findScheme_21 : decode cX12_findScheme 21 = .ok (.iload_n 3, 1) := by decide +kernel
theorem dX12_findScheme_22 : decode cX12_findScheme 22 = .ok (.iconst 0, 1) := by decide +kernel
theorem dX12_findScheme_23 : decode cX12_findScheme 23 = .ok (.invokevirtual 254, 3) := by decide +kernel
theorem dX12_findScheme_26 : decode cX12_findScheme 26 = .ok (.iadd, 1) := by decide +kernel
theorem dX12_findScheme_27 : decode cX12_findScheme 27 = .ok (.istore 4, 2) := by decide +kernel
theorem dX12_findScheme_29 : decode cX12_findScheme 29 = .ok (.aload_n 0, 1) := by decide +kernel
theorem dX12_findScheme_30 : decode cX12_findScheme 30 = .ok (.iload_n 1, 1) := by decide +kernel
theorem dX12_findScheme_31 : decode cX12_findScheme 31 = .ok (.iload_n 3, 1) := by decide +kernel
theorem dX12_findScheme_32 : decode cX12_findScheme 32 = .ok (.iconst 2, 1) := by decide +kernel
theorem dX12_findScheme_33 : decode cX12_findScheme 33 = .ok (.invokevirtual 254, 3) := by decide +kernel
theorem dX12_findScheme_36 : decode cX12_findScheme 36 = .ok (.aload_n 0, 1) := by decide +kernel
theorem dX12_findScheme_37 : decode cX12_findScheme 37 = .ok (.iload_n 2, 1) := by decide +kernel
theorem dX12_findScheme_38 : decode cX12_findScheme 38 = .ok (.iload_n 3, 1) := by decide +kernel
theorem dX12_findScheme_39 : decode cX12_findScheme 39 = .ok (.iconst 2, 1) := by decide +kernel
theorem dX12_findScheme_40 : decode cX12_findScheme 40 = .ok (.invokevirtual 254, 3) := by decide +kernel
theorem dX12_findScheme_43 : decode cX12_findScheme 43 = .ok (.iadd, 1) := by decide +kernel
theorem dX12_findScheme_44 : decode cX12_findScheme 44 = .ok (.ifCond .le 7, 3) := by decide +kernel
theorem dX12_findScheme_47 : decode cX12_findScheme 47 = .ok (.iconst 2, 1) := by decide +kernel
theorem dX12_findScheme_48 : decode cX12_findScheme 48 = .ok (.goto 4, 3) := by decide +kernel
theorem dX12_findScheme_51 : decode cX12_findScheme 51 = .ok (.iconst 1, 1) := by decide +kernel
theorem dX12_findScheme_52 : decode cX12_findScheme 52 = .ok (.istore 5, 2) := by decide +kernel
theorem dX12_findScheme_54 : decode cX12_findScheme 54 = .ok (.iload 4, 2) := by decide +kernel
theorem dX12_findScheme_56 : decode cX12_findScheme 56 = .ok (.aload_n 0, 1) := by decide +kernel
theorem dX12_findScheme_57 : decode cX12_findScheme 57 = .ok (.getfield 251, 3) := by decide +kernel
theorem dX12_findScheme_60 : decode cX12_findScheme 60 = .ok (.if_icmp .gt 26, 3) := by decide +kernel
theorem dX12_findScheme_63 : decode cX12_findScheme 63 = .ok (.iload 4, 2) := by decide +kernel
theorem dX12_findScheme_65 : decode cX12_findScheme 65 = .ok (.ifCond .le 38, 3) := by decide +kernel
theorem dX12_findScheme_68 : decode cX12_findScheme 68 = .ok (.iload 4, 2) := by decide +kernel
theorem dX12_findScheme_70 : decode cX12_findScheme 70 = .ok (.aload_n 0, 1) := by decide +kernel
theorem dX12_findScheme_71 : decode cX12_findScheme 71 = .ok (.getfield 251, 3) := by decide +kernel
theorem dX12_findScheme_74 : decode cX12_findScheme 74 = .ok (.if_icmp .ne 29, 3) := by decide +kernel
theorem dX12_findScheme_77 : decode cX12_findScheme 77 = .ok (.iload 5, 2) := by decide +kernel
theorem dX12_findScheme_79 : decode cX12_findScheme 79 = .ok (.aload_n 0, 1) := by decide +kernel
theorem dX12_findScheme_80 : decode cX12_findScheme 80 = .ok (.getfield 257, 3) := by decide +kernel
theorem dX12_findScheme_83 : decode cX12_findScheme 83 = .ok (.if_icmp .ge 20, 3) := by decide +kernel
theorem dX12_findScheme_86 : decode cX12_findScheme 86 = .ok (.aload_n 0, 1) := by decide +kernel
theorem dX12_findScheme_87 : decode cX12_findScheme 87 = .ok (.iload 4, 2) := by decide +kernel
theorem dX12_findScheme_89 : decode cX12_findScheme 89 = .ok (.putfield 251, 3) := by decide +kernel
theorem dX12_findScheme_92 : decode cX12_findScheme 92 = .ok (.aload_n 0, 1) := by decide +kernel
theorem dX12_findScheme_93 : decode cX12_findScheme 93 = .ok (.iload 5, 2) := by decide +kernel
theorem dX12_findScheme_95 : decode cX12_findScheme 95 = .ok (.putfield 257, 3) := by decide +kernel
theorem dX12_findScheme_98 : decode cX12_findScheme 98 = .ok (.aload_n 0, 1) := by decide +kernel
theorem dX12_findScheme_99 : decode cX12_findScheme 99 = .ok (.iload_n 3, 1) := by decide +kernel
theorem dX12_findScheme_100 : decode cX12_findScheme 100 = .ok (.putfield 260, 3) := by decide +kernel
theorem dX12_findScheme_103 : decode cX12_findScheme 103 = .ok (.iinc 3 1, 3) := by decide +kernel
theorem dX12_findScheme_106 : decode cX12_findScheme 106 = .ok (.goto (-99), 3) := by decide +kernel
theorem dX12_findScheme_109 : decode cX12_findScheme 109 = .ok (.aload_n 0, 1) := by decide +kernel
theorem dX12_findScheme_110 : decode cX12_findScheme 110 = .ok (.getfield 251, 3) := by decide +kernel
theorem dX12_findScheme_113 : decode cX12_findScheme 113 = .ok (.ifCond .le 7, 3) := by decide +kernel
theorem dX12_findScheme_116 : decode cX12_findScheme 116 = .ok (.iconst 1, 1) := by decide +kernel
theorem dX12_findScheme_117 : decode cX12_findScheme 117 = .ok (.goto 4, 3) := by decide +kernel
theorem dX12_findScheme_120 : decode cX12_findScheme 120 = .ok (.iconst 0, 1) := by decide +kernel
theorem dX12_findScheme_121 : decode cX12_findScheme 121 = .ok (.ireturn, 1) := by decide +kernel
theorem dX12_scheme_0 : decode cX12_scheme 0 = .ok (.iload_n 1, 1) := by decide +kernel
theorem dX12_scheme_1 : decode cX12_scheme 1 = .ok (.iconst 0, 1) := by decide +kernel
theorem dX12_scheme_2 : decode cX12_scheme 2 = .ok (.iconst 2, 1) := by decide +kernel
theorem dX12_scheme_3 : decode cX12_scheme 3 = .ok (.invokestatic 96, 3) := by decide +kernel
theorem dX12_scheme_6 : decode cX12_scheme 6 = .ok (.ifCond .ne 6, 3) := by decide +kernel
theorem dX12_scheme_9 : decode cX12_scheme 9 = .ok (.bipush (-2), 2) := by decide +kernel
theorem dX12_scheme_11 : decode cX12_scheme 11 = .ok (.ireturn, 1) := by decide +kernel
theorem dX12_scheme_12 : decode cX12_scheme 12 = .ok (.aload_n 0, 1) := by decide +kernel
theorem dX12_scheme_13 : decode cX12_scheme 13 = .ok (.getfield 164, 3) := by decide +kernel
theorem dX12_scheme_16 : decode cX12_scheme 16 = .ok (.ifCond .ne 6, 3) := by decide +kernel
theorem dX12_scheme_19 : decode cX12_scheme 19 = .ok (.bipush (-3), 2) := by decide +kernel
theorem dX12_scheme_21 : decode cX12_scheme 21 = .ok (.ireturn, 1) := by decide +kernel
theorem dX12_scheme_22 : decode cX12_scheme 22 = .ok (.aload_n 0, 1) := by decide +kernel
theorem dX12_scheme_23 : decode cX12_scheme 23 = .ok (.iconst 0, 1) := by decide +kernel
theorem dX12_scheme_24 : decode cX12_scheme 24 = .ok (.iconst 1, 1) := by decide +kernel
theorem dX12_scheme_25 : decode cX12_scheme 25 = .ok (.invokevirtual 263, 3) := by decide +kernel
theorem dX12_scheme_28 : decode cX12_scheme 28 = .ok (.ifCond .ne 6, 3) := by decide +kernel
theorem dX12_scheme_31 : decode cX12_scheme 31 = .ok (.bipush (-9), 2) := by decide +kernel
theorem dX12_scheme_33 : decode cX12_scheme 33 = .ok (.ireturn, 1) := by decide +kernel
theorem dX12_scheme_34 : decode cX12_scheme 34 = .ok (.iload_n 1, 1) := by decide +kernel
theorem dX12_scheme_35 : decode cX12_scheme 35 = .ok (.ifCond .ne 10, 3) := by decide +kernel
theorem dX12_scheme_38 : decode cX12_scheme 38 = .ok (.aload_n 0, 1) := by decide +kernel
theorem dX12_scheme_39 : decode cX12_scheme 39 = .ok (.getfield 260, 3) := by decide +kernel
theorem dX12_scheme_42 : decode cX12_scheme 42 = .ok (.goto 19, 3) := by decide +kernel
theorem dX12_scheme_45 : decode cX12_scheme 45 = .ok (.iload_n 1, 1) := by decide +kernel
theorem dX12_scheme_46 : decode cX12_scheme 46 = .ok (.iconst 1, 1) := by decide +kernel
theorem dX12_scheme_47 : decode cX12_scheme 47 = .ok (.if_icmp .ne 10, 3) := by decide +kernel
theorem dX12_scheme_50 : decode cX12_scheme 50 = .ok (.aload_n 0, 1) := by decide +kernel
theorem dX12_scheme_51 : decode cX12_scheme 51 = .ok (.getfield 257, 3) := by decide +kernel
theorem dX12_scheme_54 : decode cX12_scheme 54 = .ok (.goto 7, 3) := by decide +kernel
theorem dX12_scheme_57 : decode cX12_scheme 57 = .ok (.aload_n 0, 1) := by decide +kernel
theorem dX12_scheme_58 : decode cX12_scheme 58 = .ok (.getfield 251, 3) := by decide +kernel
theorem dX12_scheme_61 : decode cX12_scheme 61 = .ok (.ireturn, 1) := by decide +kernel
theorem dX12_findDeep_0 : decode cX12_findDeep 0 = .ok (.iconst 0, 1) := by decide +kernel
theorem dX12_findDeep_1 : decode cX12_findDeep 1 = .ok (.istore_n 2, 1) := by decide +kernel
theorem dX12_findDeep_2 : decode cX12_findDeep 2 = .ok (.iload_n 2, 1) := by decide +kernel
theorem dX12_findDeep_3 : decode cX12_findDeep 3 = .ok (.aload_n 0, 1) := by decide +kernel
theorem dX12_findDeep_4 : decode cX12_findDeep 4 = .ok (.getfield 13, 3) := by decide +kernel
theorem dX12_findDeep_7 : decode cX12_findDeep 7 = .ok (.iload_n 1, 1) := by decide +kernel
theorem dX12_findDeep_8 : decode cX12_findDeep 8 = .ok (.iaload, 1) := by decide +kernel
theorem dX12_findDeep_9 : decode cX12_findDeep 9 = .ok (.if_icmp .ge 16, 3) := by decide +kernel
theorem dX12_findDeep_12 : decode cX12_findDeep 12 = .ok (.aload_n 0, 1) := by decide +kernel
theorem dX12_findDeep_13 : decode cX12_findDeep 13 = .ok (.getfield 64, 3) := by decide +kernel
theorem dX12_findDeep_16 : decode cX12_findDeep 16 = .ok (.iload_n 2, 1) := by decide +kernel
theorem dX12_findDeep_17 : decode cX12_findDeep 17 = .ok (.iconst 0, 1) := by decide +kernel
theorem dX12_findDeep_18 : decode cX12_findDeep 18 = .ok (.iastore, 1) := by decide +kernel
theorem dX12_findDeep_19 : decode cX12_findDeep 19 = .ok (.iinc 2 1, 3) := by decide +kernel
theorem dX12_findDeep_22 : decode cX12_findDeep 22 = .ok (.goto (-20), 3) := by decide +kernel
theorem dX12_findDeep_25 : decode cX12_findDeep 25 = .ok (.iconst 0, 1) := by decide +kernel
theorem dX12_findDeep_26 : decode cX12_findDeep 26 = .ok (.istore_n 2, 1) := by decide +kernel
theorem dX12_findDeep_27 : decode cX12_findDeep 27 = .ok (.iload_n 2, 1) := by decide +kernel
theorem dX12_findDeep_28 : decode cX12_findDeep 28 = .ok (.aload_n 0, 1) := by decide +kernel
theorem dX12_findDeep_29 : decode cX12_findDeep 29 = .ok (.getfield 13, 3) := by decide +kernel
theorem dX12_findDeep_32 : decode cX12_findDeep 32 = .ok (.iload_n 1, 1) := by decide +kernel
theorem dX12_findDeep_33 : decode cX12_findDeep 33 = .ok (.iaload, 1) := by decide +kernel
theorem dX12_findDeep_34 : decode cX12_findDeep 34 = .ok (.if_icmp .ge 39, 3) := by decide +kernel
theorem dX12_findDeep_37 : decode cX12_findDeep 37 = .ok (.iload_n 2, 1) := by decide +kernel
theorem dX12_findDeep_38 : decode cX12_findDeep 38 = .ok (.iconst 1, 1) := by decide +kernel
theorem dX12_findDeep_39 : decode cX12_findDeep 39 = .ok (.iadd, 1) := by decide +kernel
theorem dX12_findDeep_40 : decode cX12_findDeep 40 = .ok (.istore_n 3, 1) := by decide +kernel
theorem dX12_findDeep_41 : decode cX12_findDeep 41 = .ok (.iload_n 3, 1) := by decide +kernel
theorem dX12_findDeep_42 : decode cX12_findDeep 42 = .ok (.aload_n 0, 1) := by decide +kernel
theorem dX12_findDeep_43 : decode cX12_findDeep 43 = .ok (.iload_n 1, 1) := by decide +kernel
theorem dX12_findDeep_44 : decode cX12_findDeep 44 = .ok (.iload_n 2, 1) := by decide +kernel
theorem dX12_findDeep_45 : decode cX12_findDeep 45 = .ok (.invokevirtual 266, 3) := by decide +kernel
theorem dX12_findDeep_48 : decode cX12_findDeep 48 = .ok (.if_icmp .ge 19, 3) := by decide +kernel
theorem dX12_findDeep_51 : decode cX12_findDeep 51 = .ok (.aload_n 0, 1) := by decide +kernel
theorem dX12_findDeep_52 : decode cX12_findDeep 52 = .ok (.getfield 64, 3) := by decide +kernel
theorem dX12_findDeep_55 : decode cX12_findDeep 55 = .ok (.iload_n 3, 1) := by decide +kernel
theorem dX12_findDeep_56 : decode cX12_findDeep 56 = .ok (.dup2, 1) := by decide +kernel
theorem dX12_findDeep_57 : decode cX12_findDeep 57 = .ok (.iaload, 1) := by decide +kernel
theorem dX12_findDeep_58 : decode cX12_findDeep 58 = .ok (.iconst 1, 1) := by decide +kernel
theorem dX12_findDeep_59 : decode cX12_findDeep 59 = .ok (.iadd, 1) := by decide +kernel
theorem dX12_findDeep_60 : decode cX12_findDeep 60 = .ok (.iastore, 1) := by decide +kernel
theorem dX12_findDeep_61 : decode cX12_findDeep 61 = .ok (.iinc 3 1, 3) := by decide +kernel
theorem dX12_findDeep_64 : decode cX12_findDeep 64 = .ok (.goto (-23), 3) := by decide +kernel
theorem dX12_findDeep_67 : decode cX12_findDeep 67 = .ok (.iinc 2 1, 3) := by decide +kernel
theorem dX12_findDeep_70 : decode cX12_findDeep 70 = .ok (.goto (-43), 3) := by decide +kernel
theorem dX12_findDeep_73 : decode cX12_findDeep 73 = .ok (.return_, 1) := by decide +kernel
theorem dX12_atMost_0 : decode cX12_atMost 0 = .ok (.iload_n 1, 1) := by decide +kernel
theorem dX12_atMost_1 : decode cX12_atMost 1 = .ok (.ldc_w 269, 3) := by decide +kernel
theorem dX12_atMost_4 : decode cX12_atMost 4 = .ok (.if_icmp .le 9, 3) := by decide +kernel
theorem dX12_atMost_7 : decode cX12_atMost 7 = .ok (.ldc_w 269, 3) := by decide +kernel
theorem dX12_atMost_10 : decode cX12_atMost 10 = .ok (.goto 4, 3) := by decide +kernel
theorem dX12_atMost_13 : decode cX12_atMost 13 = .ok (.iload_n 1, 1) := by decide +kernel
theorem dX12_atMost_14 : decode cX12_atMost 14 = .ok (.ireturn, 1) := by decide +kernel
theorem dX12_heldAt_0 : decode cX12_heldAt 0 = .ok (.aload_n 0, 1) := by decide +kernel
theorem dX12_heldAt_1 : decode cX12_heldAt 1 = .ok (.aload_n 0, 1) := by decide +kernel
theorem dX12_heldAt_2 : decode cX12_heldAt 2 = .ok (.iload_n 1, 1) := by decide +kernel
theorem dX12_heldAt_3 : decode cX12_heldAt 3 = .ok (.iload_n 2, 1) := by decide +kernel
theorem dX12_heldAt_4 : decode cX12_heldAt 4 = .ok (.invokevirtual 92, 3) := by decide +kernel
theorem dX12_heldAt_7 : decode cX12_heldAt 7 = .ok (.invokevirtual 104, 3) := by decide +kernel
theorem dX12_heldAt_10 : decode cX12_heldAt 10 = .ok (.istore 5, 2) := by decide +kernel
theorem dX12_heldAt_12 : decode cX12_heldAt 12 = .ok (.iload 5, 2) := by decide +kernel
theorem dX12_heldAt_14 : decode cX12_heldAt 14 = .ok (.iconst 2, 1) := by decide +kernel
theorem dX12_heldAt_15 : decode cX12_heldAt 15 = .ok (.if_icmp .ne 14, 3) := by decide +kernel
theorem dX12_heldAt_18 : decode cX12_heldAt 18 = .ok (.aload_n 0, 1) := by decide +kernel
theorem dX12_heldAt_19 : decode cX12_heldAt 19 = .ok (.iload_n 1, 1) := by decide +kernel
theorem dX12_heldAt_20 : decode cX12_heldAt 20 = .ok (.iload_n 2, 1) := by decide +kernel
theorem dX12_heldAt_21 : decode cX12_heldAt 21 = .ok (.iconst 1, 1) := by decide +kernel
theorem dX12_heldAt_22 : decode cX12_heldAt 22 = .ok (.iadd, 1) := by decide +kernel
theorem dX12_heldAt_23 : decode cX12_heldAt 23 = .ok (.invokevirtual 266, 3) := by decide +kernel
theorem dX12_heldAt_26 : decode cX12_heldAt 26 = .ok (.goto 4, 3) := by decide +kernel
theorem dX12_heldAt_29 : decode cX12_heldAt 29 = .ok (.iconst 0, 1) := by decide +kernel
theorem dX12_heldAt_30 : decode cX12_heldAt 30 = .ok (.istore 6, 2) := by decide +kernel
theorem dX12_heldAt_32 : decode cX12_heldAt 32 = .ok (.ldc_w 269, 3) := by decide +kernel
theorem dX12_heldAt_35 : decode cX12_heldAt 35 = .ok (.istore 7, 2) := by decide +kernel
theorem dX12_heldAt_37 : decode cX12_heldAt 37 = .ok (.aload_n 0, 1) := by decide +kernel
theorem dX12_heldAt_38 : decode cX12_heldAt 38 = .ok (.iload_n 1, 1) := by decide +kernel
theorem dX12_heldAt_39 : decode cX12_heldAt 39 = .ok (.iload_n 2, 1) := by decide +kernel
theorem dX12_heldAt_40 : decode cX12_heldAt 40 = .ok (.invokevirtual 92, 3) := by decide +kernel
theorem dX12_heldAt_43 : decode cX12_heldAt 43 = .ok (.aload_n 0, 1) := by decide +kernel
theorem dX12_heldAt_44 : decode cX12_heldAt 44 = .ok (.iload_n 3, 1) := by decide +kernel
theorem dX12_heldAt_45 : decode cX12_heldAt 45 = .ok (.iload 4, 2) := by decide +kernel
theorem dX12_heldAt_47 : decode cX12_heldAt 47 = .ok (.invokevirtual 92, 3) := by decide +kernel
theorem dX12_heldAt_50 : decode cX12_heldAt 50 = .ok (.if_icmp .ne 71, 3) := by decide +kernel
theorem dX12_heldAt_53 : decode cX12_heldAt 53 = .ok (.iconst 0, 1) := by decide +kernel
theorem dX12_heldAt_54 : decode cX12_heldAt 54 = .ok (.istore 7, 2) := by decide +kernel
theorem dX12_heldAt_56 : decode cX12_heldAt 56 = .ok (.iload 7, 2) := by decide +kernel
theorem dX12_heldAt_58 : decode cX12_heldAt 58 = .ok (.iload 5, 2) := by decide +kernel
theorem dX12_heldAt_60 : decode cX12_heldAt 60 = .ok (.ifCond .le 22, 3) := by decide +kernel
theorem dX12_heldAt_63 : decode cX12_heldAt 63 = .ok (.aload_n 0, 1) := by decide +kernel
theorem dX12_heldAt_64 : decode cX12_heldAt 64 = .ok (.getfield 61, 3) := by decide +kernel
theorem dX12_heldAt_67 : decode cX12_heldAt 67 = .ok (.bipush 40, 2) := by decide +kernel
theorem dX12_heldAt_69 : decode cX12_heldAt 69 = .ok (.iload_n 2, 1) := by decide +kernel
theorem dX12_heldAt_70 : decode cX12_heldAt 70 = .ok (.iconst 1, 1) := by decide +kernel
theorem dX12_heldAt_71 : decode cX12_heldAt 71 = .ok (.iadd, 1) := by decide +kernel
theorem dX12_heldAt_72 : decode cX12_heldAt 72 = .ok (.imul, 1) := by decide +kernel
theorem dX12_heldAt_73 : decode cX12_heldAt 73 = .ok (.iload 4, 2) := by decide +kernel
theorem dX12_heldAt_75 : decode cX12_heldAt 75 = .ok (.iadd, 1) := by decide +kernel
theorem dX12_heldAt_76 : decode cX12_heldAt 76 = .ok (.iconst 1, 1) := by decide +kernel
theorem dX12_heldAt_77 : decode cX12_heldAt 77 = .ok (.iadd, 1) := by decide +kernel
theorem dX12_heldAt_78 : decode cX12_heldAt 78 = .ok (.iaload, 1) := by decide +kernel
theorem dX12_heldAt_79 : decode cX12_heldAt 79 = .ok (.goto 4, 3) := by decide +kernel
theorem dX12_heldAt_82 : decode cX12_heldAt 82 = .ok (.iconst 0, 1) := by decide +kernel
theorem dX12_heldAt_83 : decode cX12_heldAt 83 = .ok (.iadd, 1) := by decide +kernel
theorem dX12_heldAt_84 : decode cX12_heldAt 84 = .ok (.istore 7, 2) := by decide +kernel
theorem dX12_heldAt_86 : decode cX12_heldAt 86 = .ok (.iload 7, 2) := by decide +kernel
theorem dX12_heldAt_88 : decode cX12_heldAt 88 = .ok (.iload 5, 2) := by decide +kernel
theorem dX12_heldAt_90 : decode cX12_heldAt 90 = .ok (.iconst 1, 1) := by decide +kernel
theorem dX12_heldAt_91 : decode cX12_heldAt 91 = .ok (.if_icmp .le 26, 3) := by decide +kernel
theorem dX12_heldAt_94 : decode cX12_heldAt 94 = .ok (.aload_n 0, 1) := by decide +kernel
theorem dX12_heldAt_95 : decode cX12_heldAt 95 = .ok (.getfield 61, 3) := by decide +kernel
theorem dX12_heldAt_98 : decode cX12_heldAt 98 = .ok (.bipush 40, 2) := by decide +kernel
theorem dX12_heldAt_100 : decode cX12_heldAt 100 = .ok (.iload 6, 2) := by decide +kernel
theorem dX12_heldAt_102 : decode cX12_heldAt 102 = .ok (.imul, 1) := by decide +kernel
theorem dX12_heldAt_103 : decode cX12_heldAt 103 = .ok (.aload_n 0, 1) := by decide +kernel
theorem dX12_heldAt_104 : decode cX12_heldAt 104 = .ok (.iload_n 3, 1) := by decide +kernel
theorem dX12_heldAt_105 : decode cX12_heldAt 105 = .ok (.iload 4, 2) := by decide +kernel
theorem dX12_heldAt_107 : decode cX12_heldAt 107 = .ok (.iconst 1, 1) := by decide +kernel
theorem dX12_heldAt_108 : decode cX12_heldAt 108 = .ok (.iadd, 1) := by decide +kernel
theorem dX12_heldAt_109 : decode cX12_heldAt 109 = .ok (.invokevirtual 266, 3) := by decide +kernel
theorem dX12_heldAt_112 : decode cX12_heldAt 112 = .ok (.iadd, 1) := by decide +kernel
theorem dX12_heldAt_113 : decode cX12_heldAt 113 = .ok (.iaload, 1) := by decide +kernel
theorem dX12_heldAt_114 : decode cX12_heldAt 114 = .ok (.goto 4, 3) := by decide +kernel
theorem dX12_heldAt_117 : decode cX12_heldAt 117 = .ok (.iconst 0, 1) := by decide +kernel
theorem dX12_heldAt_118 : decode cX12_heldAt 118 = .ok (.iadd, 1) := by decide +kernel
theorem dX12_heldAt_119 : decode cX12_heldAt 119 = .ok (.istore 7, 2) := by decide +kernel
theorem dX12_heldAt_121 : decode cX12_heldAt 121 = .ok (.iload 5, 2) := by decide +kernel
theorem dX12_heldAt_123 : decode cX12_heldAt 123 = .ok (.ifCond .le 27, 3) := by decide +kernel
theorem dX12_heldAt_126 : decode cX12_heldAt 126 = .ok (.aload_n 0, 1) := by decide +kernel
theorem dX12_heldAt_127 : decode cX12_heldAt 127 = .ok (.getfield 61, 3) := by decide +kernel
theorem dX12_heldAt_130 : decode cX12_heldAt 130 = .ok (.bipush 40, 2) := by decide +kernel
theorem dX12_heldAt_132 : decode cX12_heldAt 132 = .ok (.iload_n 2, 1) := by decide +kernel
theorem dX12_heldAt_133 : decode cX12_heldAt 133 = .ok (.iconst 1, 1) := by decide +kernel
theorem dX12_heldAt_134 : decode cX12_heldAt 134 = .ok (.iadd, 1) := by decide +kernel
theorem dX12_heldAt_135 : decode cX12_heldAt 135 = .ok (.imul, 1) := by decide +kernel
theorem dX12_heldAt_136 : decode cX12_heldAt 136 = .ok (.iload 4, 2) := by decide +kernel
theorem dX12_heldAt_138 : decode cX12_heldAt 138 = .ok (.iadd, 1) := by decide +kernel
theorem dX12_heldAt_139 : decode cX12_heldAt 139 = .ok (.iaload, 1) := by decide +kernel
theorem dX12_heldAt_140 : decode cX12_heldAt 140 = .ok (.aload_n 0, 1) := by decide +kernel
theorem dX12_heldAt_141 : decode cX12_heldAt 141 = .ok (.getfield 64, 3) := by decide +kernel
theorem dX12_heldAt_144 : decode cX12_heldAt 144 = .ok (.iload_n 2, 1) := by decide +kernel
theorem dX12_heldAt_145 : decode cX12_heldAt 145 = .ok (.iaload, 1) := by decide +kernel
theorem dX12_heldAt_146 : decode cX12_heldAt 146 = .ok (.iadd, 1) := by decide +kernel
theorem dX12_heldAt_147 : decode cX12_heldAt 147 = .ok (.goto 6, 3) := by decide +kernel
theorem dX12_heldAt_150 : decode cX12_heldAt 150 = .ok (.ldc_w 269, 3) := by decide +kernel
theorem dX12_heldAt_153 : decode cX12_heldAt 153 = .ok (.istore 8, 2) := by decide +kernel
theorem dX12_heldAt_155 : decode cX12_heldAt 155 = .ok (.iload 8, 2) := by decide +kernel
theorem dX12_heldAt_157 : decode cX12_heldAt 157 = .ok (.iload 7, 2) := by decide +kernel
theorem dX12_heldAt_159 : decode cX12_heldAt 159 = .ok (.if_icmp .ge 8, 3) := by decide +kernel
theorem dX12_heldAt_162 : decode cX12_heldAt 162 = .ok (.iload 8, 2) := by decide +kernel
theorem dX12_heldAt_164 : decode cX12_heldAt 164 = .ok (.goto 5, 3) := by decide +kernel
theorem dX12_heldAt_167 : decode cX12_heldAt 167 = .ok (.iload 7, 2) := by decide +kernel
theorem dX12_heldAt_169 : decode cX12_heldAt 169 = .ok (.istore 7, 2) := by decide +kernel
theorem dX12_heldAt_171 : decode cX12_heldAt 171 = .ok (.iload 5, 2) := by decide +kernel
theorem dX12_heldAt_173 : decode cX12_heldAt 173 = .ok (.iconst 1, 1) := by decide +kernel
theorem dX12_heldAt_174 : decode cX12_heldAt 174 = .ok (.if_icmp .le 26, 3) := by decide +kernel
theorem dX12_heldAt_177 : decode cX12_heldAt 177 = .ok (.aload_n 0, 1) := by decide +kernel
theorem dX12_heldAt_178 : decode cX12_heldAt 178 = .ok (.getfield 61, 3) := by decide +kernel
theorem dX12_heldAt_181 : decode cX12_heldAt 181 = .ok (.bipush 40, 2) := by decide +kernel
theorem dX12_heldAt_183 : decode cX12_heldAt 183 = .ok (.iload 6, 2) := by decide +kernel
theorem dX12_heldAt_185 : decode cX12_heldAt 185 = .ok (.imul, 1) := by decide +kernel
theorem dX12_heldAt_186 : decode cX12_heldAt 186 = .ok (.iload 4, 2) := by decide +kernel
theorem dX12_heldAt_188 : decode cX12_heldAt 188 = .ok (.iadd, 1) := by decide +kernel
theorem dX12_heldAt_189 : decode cX12_heldAt 189 = .ok (.iaload, 1) := by decide +kernel
theorem dX12_heldAt_190 : decode cX12_heldAt 190 = .ok (.aload_n 0, 1) := by decide +kernel
theorem dX12_heldAt_191 : decode cX12_heldAt 191 = .ok (.getfield 64, 3) := by decide +kernel
theorem dX12_heldAt_194 : decode cX12_heldAt 194 = .ok (.iload_n 2, 1) := by decide +kernel
theorem dX12_heldAt_195 : decode cX12_heldAt 195 = .ok (.iaload, 1) := by decide +kernel
theorem dX12_heldAt_196 : decode cX12_heldAt 196 = .ok (.iadd, 1) := by decide +kernel
theorem dX12_heldAt_197 : decode cX12_heldAt 197 = .ok (.goto 6, 3) := by decide +kernel
theorem dX12_heldAt_200 : decode cX12_heldAt 200 = .ok (.ldc_w 269, 3) := by decide +kernel
theorem dX12_heldAt_203 : decode cX12_heldAt 203 = .ok (.istore 8, 2) := by decide +kernel
theorem dX12_heldAt_205 : decode cX12_heldAt 205 = .ok (.aload_n 0, 1) := by decide +kernel
theorem dX12_heldAt_206 : decode cX12_heldAt 206 = .ok (.iload 8, 2) := by decide +kernel
theorem dX12_heldAt_208 : decode cX12_heldAt 208 = .ok (.iload 7, 2) := by decide +kernel
theorem dX12_heldAt_210 : decode cX12_heldAt 210 = .ok (.if_icmp .ge 8, 3) := by decide +kernel
theorem dX12_heldAt_213 : decode cX12_heldAt 213 = .ok (.iload 8, 2) := by decide +kernel
theorem dX12_heldAt_215 : decode cX12_heldAt 215 = .ok (.goto 5, 3) := by decide +kernel
theorem dX12_heldAt_218 : decode cX12_heldAt 218 = .ok (.iload 7, 2) := by decide +kernel
theorem dX12_heldAt_220 : decode cX12_heldAt 220 = .ok (.invokevirtual 270, 3) := by decide +kernel
theorem dX12_heldAt_223 : decode cX12_heldAt 223 = .ok (.ireturn, 1) := by decide +kernel
theorem dX12_differenceOf_0 : decode cX12_differenceOf 0 = .ok (.aload_n 0, 1) := by decide +kernel
theorem dX12_differenceOf_1 : decode cX12_differenceOf 1 = .ok (.iload_n 1, 1) := by decide +kernel
theorem dX12_differenceOf_2 : decode cX12_differenceOf 2 = .ok (.invokevirtual 273, 3) := by decide +kernel
theorem dX12_differenceOf_5 : decode cX12_differenceOf 5 = .ok (.aload_n 0, 1) := by decide +kernel
theorem dX12_differenceOf_6 : decode cX12_differenceOf 6 = .ok (.getfield 13, 3) := by decide +kernel
theorem dX12_differenceOf_9 : decode cX12_differenceOf 9 = .ok (.iload_n 1, 1) := by decide +kernel
theorem dX12_differenceOf_10 : decode cX12_differenceOf 10 = .ok (.iaload, 1) := by decide +kernel
theorem dX12_differenceOf_11 : decode cX12_differenceOf 11 = .ok (.iconst 1, 1) := by decide +kernel
theorem dX12_differenceOf_12 : decode cX12_differenceOf 12 = .ok (.isub, 1) := by decide +kernel
theorem dX12_differenceOf_13 : decode cX12_differenceOf 13 = .ok (.istore_n 3, 1) := by decide +kernel
theorem dX12_differenceOf_14 : decode cX12_differenceOf 14 = .ok (.iload_n 3, 1) := by decide +kernel
theorem dX12_differenceOf_15 : decode cX12_differenceOf 15 = .ok (.ifCond .lt 51, 3) := by decide +kernel
theorem dX12_differenceOf_18 : decode cX12_differenceOf 18 = .ok (.aload_n 0, 1) := by decide +kernel
theorem dX12_differenceOf_19 : decode cX12_differenceOf 19 = .ok (.getfield 13, 3) := by decide +kernel
theorem dX12_differenceOf_22 : decode cX12_differenceOf 22 = .ok (.iload_n 2, 1) := by decide +kernel
theorem dX12_differenceOf_23 : decode cX12_differenceOf 23 = .ok (.iaload, 1) := by decide +kernel
theorem dX12_differenceOf_24 : decode cX12_differenceOf 24 = .ok (.iconst 1, 1) := by decide +kernel
theorem dX12_differenceOf_25 : decode cX12_differenceOf 25 = .ok (.isub, 1) := by decide +kernel
theorem dX12_differenceOf_26 : decode cX12_differenceOf 26 = .ok (.istore 4, 2) := by decide +kernel
theorem dX12_differenceOf_28 : decode cX12_differenceOf 28 = .ok (.iload 4, 2) := by decide +kernel
theorem dX12_differenceOf_30 : decode cX12_differenceOf 30 = .ok (.ifCond .lt 30, 3) := by decide +kernel
theorem dX12_differenceOf_33 : decode cX12_differenceOf 33 = .ok (.aload_n 0, 1) := by decide +kernel
theorem dX12_differenceOf_34 : decode cX12_differenceOf 34 = .ok (.getfield 61, 3) := by decide +kernel
theorem dX12_differenceOf_37 : decode cX12_differenceOf 37 = .ok (.bipush 40, 2) := by decide +kernel
theorem dX12_differenceOf_39 : decode cX12_differenceOf 39 = .ok (.iload_n 3, 1) := by decide +kernel
theorem dX12_differenceOf_40 : decode cX12_differenceOf 40 = .ok (.imul, 1) := by decide +kernel
theorem dX12_differenceOf_41 : decode cX12_differenceOf 41 = .ok (.iload 4, 2) := by decide +kernel
theorem dX12_differenceOf_43 : decode cX12_differenceOf 43 = .ok (.iadd, 1) := by decide +kernel
theorem dX12_differenceOf_44 : decode cX12_differenceOf 44 = .ok (.aload_n 0, 1) := by decide +kernel
theorem dX12_differenceOf_45 : decode cX12_differenceOf 45 = .ok (.iload_n 1, 1) := by decide +kernel
theorem dX12_differenceOf_46 : decode cX12_differenceOf 46 = .ok (.iload_n 3, 1) := by decide +kernel
theorem dX12_differenceOf_47 : decode cX12_differenceOf 47 = .ok (.iload_n 2, 1) := by decide +kernel
theorem dX12_differenceOf_48 : decode cX12_differenceOf 48 = .ok (.iload 4, 2) := by decide +kernel
theorem dX12_differenceOf_50 : decode cX12_differenceOf 50 = .ok (.invokevirtual 276, 3) := by decide +kernel
theorem dX12_differenceOf_53 : decode cX12_differenceOf 53 = .ok (.iastore, 1) := by decide +kernel
theorem dX12_differenceOf_54 : decode cX12_differenceOf 54 = .ok (.iinc 4 (-1), 3) := by decide +kernel
theorem dX12_differenceOf_57 : decode cX12_differenceOf 57 = .ok (.goto (-29), 3) := by decide +kernel
theorem dX12_differenceOf_60 : decode cX12_differenceOf 60 = .ok (.iinc 3 (-1), 3) := by decide +kernel
theorem dX12_differenceOf_63 : decode cX12_differenceOf 63 = .ok (.goto (-49), 3) := by decide +kernel
theorem dX12_differenceOf_66 : decode cX12_differenceOf 66 = .ok (.aload_n 0, 1) := by decide +kernel
theorem dX12_differenceOf_67 : decode cX12_differenceOf 67 = .ok (.getfield 61, 3) := by decide +kernel
theorem dX12_differenceOf_70 : decode cX12_differenceOf 70 = .ok (.iconst 0, 1) := by decide +kernel
theorem dX12_differenceOf_71 : decode cX12_differenceOf 71 = .ok (.iaload, 1) := by decide +kernel
theorem dX12_differenceOf_72 : decode cX12_differenceOf 72 = .ok (.ireturn, 1) := by decide +kernel
theorem dX12_difference_0 : decode cX12_difference 0 = .ok (.aload_n 0, 1) := by decide +kernel
theorem dX12_difference_1 : decode cX12_difference 1 = .ok (.getfield 164, 3) := by decide +kernel
theorem dX12_difference_4 : decode cX12_difference 4 = .ok (.ifCond .ne 6, 3) := by decide +kernel
theorem dX12_difference_7 : decode cX12_difference 7 = .ok (.bipush (-3), 2) := by decide +kernel
theorem dX12_difference_9 : decode cX12_difference 9 = .ok (.ireturn, 1) := by decide +kernel
theorem dX12_difference_10 : decode cX12_difference 10 = .ok (.aload_n 0, 1) := by decide +kernel
theorem dX12_difference_11 : decode cX12_difference 11 = .ok (.iconst 0, 1) := by decide +kernel
theorem dX12_difference_12 : decode cX12_difference 12 = .ok (.iconst 1, 1) := by decide +kernel
theorem dX12_difference_13 : decode cX12_difference 13 = .ok (.invokevirtual 279, 3) := by decide +kernel
theorem dX12_difference_16 : decode cX12_difference 16 = .ok (.istore_n 1, 1) := by decide +kernel
theorem dX12_difference_17 : decode cX12_difference 17 = .ok (.iload_n 1, 1) := by decide +kernel
theorem dX12_difference_18 : decode cX12_difference 18 = .ok (.ldc_w 269, 3) := by decide +kernel
theorem dX12_difference_21 : decode cX12_difference 21 = .ok (.if_icmp .lt 8, 3) := by decide +kernel
theorem dX12_difference_24 : decode cX12_difference 24 = .ok (.bipush (-9), 2) := by decide +kernel
theorem dX12_difference_26 : decode cX12_difference 26 = .ok (.goto 4, 3) := by decide +kernel
theorem dX12_difference_29 : decode cX12_difference 29 = .ok (.iload_n 1, 1) := by decide +kernel
theorem dX12_difference_30 : decode cX12_difference 30 = .ok (.ireturn, 1) := by decide +kernel
theorem dX12_binds_0 : decode cX12_binds 0 = .ok (.aload_n 0, 1) := by decide +kernel
theorem dX12_binds_1 : decode cX12_binds 1 = .ok (.iload_n 2, 1) := by decide +kernel
theorem dX12_binds_2 : decode cX12_binds 2 = .ok (.iload_n 3, 1) := by decide +kernel
theorem dX12_binds_3 : decode cX12_binds 3 = .ok (.invokevirtual 266, 3) := by decide +kernel
theorem dX12_binds_6 : decode cX12_binds 6 = .ok (.iload_n 3, 1) := by decide +kernel
theorem dX12_binds_7 : decode cX12_binds 7 = .ok (.isub, 1) := by decide +kernel
theorem dX12_binds_8 : decode cX12_binds 8 = .ok (.istore 4, 2) := by decide +kernel
theorem dX12_binds_10 : decode cX12_binds 10 = .ok (.aload_n 0, 1) := by decide +kernel
theorem dX12_binds_11 : decode cX12_binds 11 = .ok (.getfield 67, 3) := by decide +kernel
theorem dX12_binds_14 : decode cX12_binds 14 = .ok (.iload_n 1, 1) := by decide +kernel
theorem dX12_binds_15 : decode cX12_binds 15 = .ok (.iaload, 1) := by decide +kernel
theorem dX12_binds_16 : decode cX12_binds 16 = .ok (.bipush (-9), 2) := by decide +kernel
theorem dX12_binds_18 : decode cX12_binds 18 = .ok (.if_icmp .ne 20, 3) := by decide +kernel
theorem dX12_binds_21 : decode cX12_binds 21 = .ok (.aload_n 0, 1) := by decide +kernel
theorem dX12_binds_22 : decode cX12_binds 22 = .ok (.getfield 67, 3) := by decide +kernel
theorem dX12_binds_25 : decode cX12_binds 25 = .ok (.iload_n 1, 1) := by decide +kernel
theorem dX12_binds_26 : decode cX12_binds 26 = .ok (.iload_n 3, 1) := by decide +kernel
theorem dX12_binds_27 : decode cX12_binds 27 = .ok (.iastore, 1) := by decide +kernel
theorem dX12_binds_28 : decode cX12_binds 28 = .ok (.aload_n 0, 1) := by decide +kernel
theorem dX12_binds_29 : decode cX12_binds 29 = .ok (.getfield 70, 3) := by decide +kernel
theorem dX12_binds_32 : decode cX12_binds 32 = .ok (.iload_n 1, 1) := by decide +kernel
theorem dX12_binds_33 : decode cX12_binds 33 = .ok (.iload 4, 2) := by decide +kernel
theorem dX12_binds_35 : decode cX12_binds 35 = .ok (.iastore, 1) := by decide +kernel
theorem dX12_binds_36 : decode cX12_binds 36 = .ok (.iconst 1, 1) := by decide +kernel
theorem dX12_binds_37 : decode cX12_binds 37 = .ok (.ireturn, 1) := by decide +kernel
theorem dX12_binds_38 : decode cX12_binds 38 = .ok (.aload_n 0, 1) := by decide +kernel
theorem dX12_binds_39 : decode cX12_binds 39 = .ok (.getfield 70, 3) := by decide +kernel
theorem dX12_binds_42 : decode cX12_binds 42 = .ok (.iload_n 1, 1) := by decide +kernel
theorem dX12_binds_43 : decode cX12_binds 43 = .ok (.iaload, 1) := by decide +kernel
theorem dX12_binds_44 : decode cX12_binds 44 = .ok (.iload 4, 2) := by decide +kernel
theorem dX12_binds_46 : decode cX12_binds 46 = .ok (.if_icmp .ne 25, 3) := by decide +kernel
theorem dX12_binds_49 : decode cX12_binds 49 = .ok (.aload_n 0, 1) := by decide +kernel
theorem dX12_binds_50 : decode cX12_binds 50 = .ok (.iload_n 2, 1) := by decide +kernel
theorem dX12_binds_51 : decode cX12_binds 51 = .ok (.iload_n 3, 1) := by decide +kernel
theorem dX12_binds_52 : decode cX12_binds 52 = .ok (.iload_n 2, 1) := by decide +kernel
theorem dX12_binds_53 : decode cX12_binds 53 = .ok (.aload_n 0, 1) := by decide +kernel
theorem dX12_binds_54 : decode cX12_binds 54 = .ok (.getfield 67, 3) := by decide +kernel
theorem dX12_binds_57 : decode cX12_binds 57 = .ok (.iload_n 1, 1) := by decide +kernel
theorem dX12_binds_58 : decode cX12_binds 58 = .ok (.iaload, 1) := by decide +kernel
theorem dX12_binds_59 : decode cX12_binds 59 = .ok (.iload 4, 2) := by decide +kernel
theorem dX12_binds_61 : decode cX12_binds 61 = .ok (.invokevirtual 282, 3) := by decide +kernel
theorem dX12_binds_64 : decode cX12_binds 64 = .ok (.ifCond .eq 7, 3) := by decide +kernel
theorem dX12_binds_67 : decode cX12_binds 67 = .ok (.iconst 1, 1) := by decide +kernel
theorem dX12_binds_68 : decode cX12_binds 68 = .ok (.goto 4, 3) := by decide +kernel
theorem dX12_binds_71 : decode cX12_binds 71 = .ok (.iconst 0, 1) := by decide +kernel
theorem dX12_binds_72 : decode cX12_binds 72 = .ok (.ireturn, 1) := by decide +kernel
theorem dX12_matches_0 : decode cX12_matches 0 = .ok (.iconst 0, 1) := by decide +kernel
theorem dX12_matches_1 : decode cX12_matches 1 = .ok (.istore 5, 2) := by decide +kernel
theorem dX12_matches_3 : decode cX12_matches 3 = .ok (.iload 5, 2) := by decide +kernel
theorem dX12_matches_5 : decode cX12_matches 5 = .ok (.iconst 3, 1) := by decide +kernel
theorem dX12_matches_6 : decode cX12_matches 6 = .ok (.if_icmp .ge 18, 3) := by decide +kernel
theorem dX12_matches_9 : decode cX12_matches 9 = .ok (.aload_n 0, 1) := by decide +kernel
theorem dX12_matches_10 : decode cX12_matches 10 = .ok (.getfield 67, 3) := by decide +kernel
theorem dX12_matches_13 : decode cX12_matches 13 = .ok (.iload 5, 2) := by decide +kernel
theorem dX12_matches_15 : decode cX12_matches 15 = .ok (.bipush (-9), 2) := by decide +kernel
theorem dX12_matches_17 : decode cX12_matches 17 = .ok (.iastore, 1) := by decide +kernel
theorem dX12_matches_18 : decode cX12_matches 18 = .ok (.iinc 5 1, 3) := by decide +kernel
theorem dX12_matches_21 : decode cX12_matches 21 = .ok (.goto (-18), 3) := by decide +kernel
theorem dX12_matches_24 : decode cX12_matches 24 = .ok (.iload_n 3, 1) := by decide +kernel
theorem dX12_matches_25 : decode cX12_matches 25 = .ok (.istore 5, 2) := by decide +kernel
theorem dX12_matches_27 : decode cX12_matches 27 = .ok (.iconst 0, 1) := by decide +kernel
theorem dX12_matches_28 : decode cX12_matches 28 = .ok (.istore 6, 2) := by decide +kernel
theorem dX12_matches_30 : decode cX12_matches 30 = .ok (.iload 6, 2) := by decide +kernel
theorem dX12_matches_32 : decode cX12_matches 32 = .ok (.aload_n 0, 1) := by decide +kernel
theorem dX12_matches_33 : decode cX12_matches 33 = .ok (.getfield 13, 3) := by decide +kernel
theorem dX12_matches_36 : decode cX12_matches 36 = .ok (.iload_n 1, 1) := by decide +kernel
theorem dX12_matches_37 : decode cX12_matches 37 = .ok (.iaload, 1) := by decide +kernel
theorem dX12_matches_38 : decode cX12_matches 38 = .ok (.if_icmp .ge 95, 3) := by decide +kernel
theorem dX12_matches_41 : decode cX12_matches 41 = .ok (.aload_n 0, 1) := by decide +kernel
theorem dX12_matches_42 : decode cX12_matches 42 = .ok (.iload_n 1, 1) := by decide +kernel
theorem dX12_matches_43 : decode cX12_matches 43 = .ok (.iload 6, 2) := by decide +kernel
theorem dX12_matches_45 : decode cX12_matches 45 = .ok (.invokevirtual 92, 3) := by decide +kernel
theorem dX12_matches_48 : decode cX12_matches 48 = .ok (.istore 7, 2) := by decide +kernel
theorem dX12_matches_50 : decode cX12_matches 50 = .ok (.iload 5, 2) := by decide +kernel
theorem dX12_matches_52 : decode cX12_matches 52 = .ok (.aload_n 0, 1) := by decide +kernel
theorem dX12_matches_53 : decode cX12_matches 53 = .ok (.getfield 13, 3) := by decide +kernel
theorem dX12_matches_56 : decode cX12_matches 56 = .ok (.iload_n 2, 1) := by decide +kernel
theorem dX12_matches_57 : decode cX12_matches 57 = .ok (.iaload, 1) := by decide +kernel
theorem dX12_matches_58 : decode cX12_matches 58 = .ok (.if_icmp .lt 5, 3) := by decide +kernel
theorem dX12_matches_61 : decode cX12_matches 61 = .ok (.iconst 0, 1) := by decide +kernel
theorem dX12_matches_62 : decode cX12_matches 62 = .ok (.ireturn, 1) := by decide +kernel
theorem dX12_matches_63 : decode cX12_matches 63 = .ok (.iload 7, 2) := by decide +kernel
theorem dX12_matches_65 : decode cX12_matches 65 = .ok (.invokestatic 111, 3) := by decide +kernel
theorem dX12_matches_68 : decode cX12_matches 68 = .ok (.ifCond .eq 42, 3) := by decide +kernel
theorem dX12_matches_71 : decode cX12_matches 71 = .ok (.iload 7, 2) := by decide +kernel
theorem dX12_matches_73 : decode cX12_matches 73 = .ok (.bipush 120, 2) := by decide +kernel
theorem dX12_matches_75 : decode cX12_matches 75 = .ok (.isub, 1) := by decide +kernel
theorem dX12_matches_76 : decode cX12_matches 76 = .ok (.iload 4, 2) := by decide +kernel
theorem dX12_matches_78 : decode cX12_matches 78 = .ok (.if_icmp .eq 32, 3) := by decide +kernel
theorem dX12_matches_81 : decode cX12_matches 81 = .ok (.aload_n 0, 1) := by decide +kernel
theorem dX12_matches_82 : decode cX12_matches 82 = .ok (.iload 7, 2) := by decide +kernel
theorem dX12_matches_84 : decode cX12_matches 84 = .ok (.bipush 120, 2) := by decide +kernel
theorem dX12_matches_86 : decode cX12_matches 86 = .ok (.isub, 1) := by decide +kernel
theorem dX12_matches_87 : decode cX12_matches 87 = .ok (.iload_n 2, 1) := by decide +kernel
theorem dX12_matches_88 : decode cX12_matches 88 = .ok (.iload 5, 2) := by decide +kernel
theorem dX12_matches_90 : decode cX12_matches 90 = .ok (.invokevirtual 286, 3) := by decide +kernel
theorem dX12_matches_93 : decode cX12_matches 93 = .ok (.ifCond .ne 5, 3) := by decide +kernel
theorem dX12_matches_96 : decode cX12_matches 96 = .ok (.iconst 0, 1) := by decide +kernel
theorem dX12_matches_97 : decode cX12_matches 97 = .ok (.ireturn, 1) := by decide +kernel
theorem dX12_matches_98 : decode cX12_matches 98 = .ok (.aload_n 0, 1) := by decide +kernel
theorem dX12_matches_99 : decode cX12_matches 99 = .ok (.iload_n 2, 1) := by decide +kernel
theorem dX12_matches_100 : decode cX12_matches 100 = .ok (.iload 5, 2) := by decide +kernel
theorem dX12_matches_102 : decode cX12_matches 102 = .ok (.invokevirtual 266, 3) := by decide +kernel
theorem dX12_matches_105 : decode cX12_matches 105 = .ok (.istore 5, 2) := by decide +kernel
theorem dX12_matches_107 : decode cX12_matches 107 = .ok (.goto 20, 3) := by decide +kernel
theorem dX12_matches_110 : decode cX12_matches 110 = .ok (.aload_n 0, 1) := by decide +kernel
theorem dX12_matches_111 : decode cX12_matches 111 = .ok (.iload_n 2, 1) := by decide +kernel
theorem dX12_matches_112 : decode cX12_matches 112 = .ok (.iload 5, 2) := by decide +kernel
theorem dX12_matches_114 : decode cX12_matches 114 = .ok (.invokevirtual 92, 3) := by decide +kernel
theorem dX12_matches_117 : decode cX12_matches 117 = .ok (.iload 7, 2) := by decide +kernel
theorem dX12_matches_119 : decode cX12_matches 119 = .ok (.if_icmp .eq 5, 3) := by decide +kernel
theorem dX12_matches_122 : decode cX12_matches 122 = .ok (.iconst 0, 1) := by decide +kernel
theorem dX12_matches_123 : decode cX12_matches 123 = .ok (.ireturn, 1) := by decide +kernel
theorem dX12_matches_124 : decode cX12_matches 124 = .ok (.iinc 5 1, 3) := by decide +kernel
theorem dX12_matches_127 : decode cX12_matches 127 = .ok (.iinc 6 1, 3) := by decide +kernel
theorem dX12_matches_130 : decode cX12_matches 130 = .ok (.goto (-100), 3) := by decide +kernel
theorem dX12_matches_133 : decode cX12_matches 133 = .ok (.iconst 1, 1) := by decide +kernel
theorem dX12_matches_134 : decode cX12_matches 134 = .ok (.ireturn, 1) := by decide +kernel
theorem dX12_longWith_0 : decode cX12_longWith 0 = .ok (.iconst 0, 1) := by decide +kernel
theorem dX12_longWith_1 : decode cX12_longWith 1 = .ok (.istore_n 2, 1) := by decide +kernel
theorem dX12_longWith_2 : decode cX12_longWith 2 = .ok (.iconst 0, 1) := by decide +kernel
theorem dX12_longWith_3 : decode cX12_longWith 3 = .ok (.istore_n 3, 1) := by decide +kernel
theorem dX12_longWith_4 : decode cX12_longWith 4 = .ok (.iload_n 3, 1) := by decide +kernel
theorem dX12_longWith_5 : decode cX12_longWith 5 = .ok (.aload_n 0, 1) := by decide +kernel
theorem dX12_longWith_6 : decode cX12_longWith 6 = .ok (.getfield 13, 3) := by decide +kernel
theorem dX12_longWith_9 : decode cX12_longWith 9 = .ok (.iload_n 1, 1) := by decide +kernel
theorem dX12_longWith_10 : decode cX12_longWith 10 = .ok (.iaload, 1) := by decide +kernel
theorem dX12_longWith_11 : decode cX12_longWith 11 = .ok (.if_icmp .ge 57, 3) := by decide +kernel
theorem dX12_longWith_14 : decode cX12_longWith 14 = .ok (.aload_n 0, 1) := by decide +kernel
theorem dX12_longWith_15 : decode cX12_longWith 15 = .ok (.iload_n 1, 1) := by decide +kernel
theorem dX12_longWith_16 : decode cX12_longWith 16 = .ok (.iload_n 3, 1) := by decide +kernel
theorem dX12_longWith_17 : decode cX12_longWith 17 = .ok (.invokevirtual 92, 3) := by decide +kernel
theorem dX12_longWith_20 : decode cX12_longWith 20 = .ok (.istore 4, 2) := by decide +kernel
theorem dX12_longWith_22 : decode cX12_longWith 22 = .ok (.iload_n 2, 1) := by decide +kernel
theorem dX12_longWith_23 : decode cX12_longWith 23 = .ok (.iload 4, 2) := by decide +kernel
theorem dX12_longWith_25 : decode cX12_longWith 25 = .ok (.invokestatic 111, 3) := by decide +kernel
theorem dX12_longWith_28 : decode cX12_longWith 28 = .ok (.ifCond .eq 31, 3) := by decide +kernel
theorem dX12_longWith_31 : decode cX12_longWith 31 = .ok (.aload_n 0, 1) := by decide +kernel
theorem dX12_longWith_32 : decode cX12_longWith 32 = .ok (.getfield 67, 3) := by decide +kernel
theorem dX12_longWith_35 : decode cX12_longWith 35 = .ok (.iload 4, 2) := by decide +kernel
theorem dX12_longWith_37 : decode cX12_longWith 37 = .ok (.bipush 120, 2) := by decide +kernel
theorem dX12_longWith_39 : decode cX12_longWith 39 = .ok (.isub, 1) := by decide +kernel
theorem dX12_longWith_40 : decode cX12_longWith 40 = .ok (.iaload, 1) := by decide +kernel
theorem dX12_longWith_41 : decode cX12_longWith 41 = .ok (.bipush (-9), 2) := by decide +kernel
theorem dX12_longWith_43 : decode cX12_longWith 43 = .ok (.if_icmp .eq 16, 3) := by decide +kernel
theorem dX12_longWith_46 : decode cX12_longWith 46 = .ok (.aload_n 0, 1) := by decide +kernel
theorem dX12_longWith_47 : decode cX12_longWith 47 = .ok (.getfield 70, 3) := by decide +kernel
theorem dX12_longWith_50 : decode cX12_longWith 50 = .ok (.iload 4, 2) := by decide +kernel
theorem dX12_longWith_52 : decode cX12_longWith 52 = .ok (.bipush 120, 2) := by decide +kernel
theorem dX12_longWith_54 : decode cX12_longWith 54 = .ok (.isub, 1) := by decide +kernel
theorem dX12_longWith_55 : decode cX12_longWith 55 = .ok (.iaload, 1) := by decide +kernel
theorem dX12_longWith_56 : decode cX12_longWith 56 = .ok (.goto 4, 3) := by decide +kernel
theorem dX12_longWith_59 : decode cX12_longWith 59 = .ok (.iconst 1, 1) := by decide +kernel
theorem dX12_longWith_60 : decode cX12_longWith 60 = .ok (.iadd, 1) := by decide +kernel
theorem dX12_longWith_61 : decode cX12_longWith 61 = .ok (.istore_n 2, 1) := by decide +kernel
theorem dX12_longWith_62 : decode cX12_longWith 62 = .ok (.iinc 3 1, 3) := by decide +kernel
theorem dX12_longWith_65 : decode cX12_longWith 65 = .ok (.goto (-61), 3) := by decide +kernel
theorem dX12_longWith_68 : decode cX12_longWith 68 = .ok (.iload_n 2, 1) := by decide +kernel
theorem dX12_longWith_69 : decode cX12_longWith 69 = .ok (.ireturn, 1) := by decide +kernel
theorem dX12_replaces_0 : decode cX12_replaces 0 = .ok (.aload_n 0, 1) := by decide +kernel
theorem dX12_replaces_1 : decode cX12_replaces 1 = .ok (.iload_n 1, 1) := by decide +kernel
theorem dX12_replaces_2 : decode cX12_replaces 2 = .ok (.iload_n 2, 1) := by decide +kernel
theorem dX12_replaces_3 : decode cX12_replaces 3 = .ok (.invokevirtual 266, 3) := by decide +kernel
theorem dX12_replaces_6 : decode cX12_replaces 6 = .ok (.istore 4, 2) := by decide +kernel
theorem dX12_replaces_8 : decode cX12_replaces 8 = .ok (.aload_n 0, 1) := by decide +kernel
theorem dX12_replaces_9 : decode cX12_replaces 9 = .ok (.getfield 13, 3) := by decide +kernel
theorem dX12_replaces_12 : decode cX12_replaces 12 = .ok (.iload_n 1, 1) := by decide +kernel
theorem dX12_replaces_13 : decode cX12_replaces 13 = .ok (.iaload, 1) := by decide +kernel
theorem dX12_replaces_14 : decode cX12_replaces 14 = .ok (.iload 4, 2) := by decide +kernel
theorem dX12_replaces_16 : decode cX12_replaces 16 = .ok (.iload_n 2, 1) := by decide +kernel
theorem dX12_replaces_17 : decode cX12_replaces 17 = .ok (.isub, 1) := by decide +kernel
theorem dX12_replaces_18 : decode cX12_replaces 18 = .ok (.isub, 1) := by decide +kernel
theorem dX12_replaces_19 : decode cX12_replaces 19 = .ok (.aload_n 0, 1) := by decide +kernel
theorem dX12_replaces_20 : decode cX12_replaces 20 = .ok (.iload_n 3, 1) := by decide +kernel
theorem dX12_replaces_21 : decode cX12_replaces 21 = .ok (.invokevirtual 289, 3) := by decide +kernel
theorem dX12_replaces_24 : decode cX12_replaces 24 = .ok (.iadd, 1) := by decide +kernel
theorem dX12_replaces_25 : decode cX12_replaces 25 = .ok (.bipush 40, 2) := by decide +kernel
theorem dX12_replaces_27 : decode cX12_replaces 27 = .ok (.if_icmp .le 5, 3) := by decide +kernel
theorem dX12_replaces_30 : decode cX12_replaces 30 = .ok (.iconst 0, 1) := by decide +kernel
theorem dX12_replaces_31 : decode cX12_replaces 31 = .ok (.ireturn, 1) := by decide +kernel
theorem dX12_replaces_32 : decode cX12_replaces 32 = .ok (.aload_n 0, 1) := by decide +kernel
theorem dX12_replaces_33 : decode cX12_replaces 33 = .ok (.getfield 13, 3) := by decide +kernel
theorem dX12_replaces_36 : decode cX12_replaces 36 = .ok (.bipush 20, 2) := by decide +kernel
theorem dX12_replaces_38 : decode cX12_replaces 38 = .ok (.iconst 0, 1) := by decide +kernel
theorem dX12_replaces_39 : decode cX12_replaces 39 = .ok (.iastore, 1) := by decide +kernel
theorem dX12_replaces_40 : decode cX12_replaces 40 = .ok (.iconst 0, 1) := by decide +kernel
theorem dX12_replaces_41 : decode cX12_replaces 41 = .ok (.istore 5, 2) := by decide +kernel
theorem dX12_replaces_43 : decode cX12_replaces 43 = .ok (.iload 5, 2) := by decide +kernel
theorem dX12_replaces_45 : decode cX12_replaces 45 = .ok (.iload_n 2, 1) := by decide +kernel
theorem dX12_replaces_46 : decode cX12_replaces 46 = .ok (.if_icmp .ge 22, 3) := by decide +kernel
theorem dX12_replaces_49 : decode cX12_replaces 49 = .ok (.aload_n 0, 1) := by decide +kernel
theorem dX12_replaces_50 : decode cX12_replaces 50 = .ok (.bipush 20, 2) := by decide +kernel
theorem dX12_replaces_52 : decode cX12_replaces 52 = .ok (.aload_n 0, 1) := by decide +kernel
theorem dX12_replaces_53 : decode cX12_replaces 53 = .ok (.iload_n 1, 1) := by decide +kernel
theorem dX12_replaces_54 : decode cX12_replaces 54 = .ok (.iload 5, 2) := by decide +kernel
theorem dX12_replaces_56 : decode cX12_replaces 56 = .ok (.invokevirtual 92, 3) := by decide +kernel
theorem dX12_replaces_59 : decode cX12_replaces 59 = .ok (.invokevirtual 150, 3) := by decide +kernel
theorem dX12_replaces_62 : decode cX12_replaces 62 = .ok (.iinc 5 1, 3) := by decide +kernel
theorem dX12_replaces_65 : decode cX12_replaces 65 = .ok (.goto (-22), 3) := by decide +kernel
theorem dX12_replaces_68 : decode cX12_replaces 68 = .ok (.iconst 0, 1) := by decide +kernel
theorem dX12_replaces_69 : decode cX12_replaces 69 = .ok (.istore 5, 2) := by decide +kernel
theorem dX12_replaces_71 : decode cX12_replaces 71 = .ok (.iload 5, 2) := by decide +kernel
theorem dX12_replaces_73 : decode cX12_replaces 73 = .ok (.aload_n 0, 1) := by decide +kernel
theorem dX12_replaces_74 : decode cX12_replaces 74 = .ok (.getfield 13, 3) := by decide +kernel
theorem dX12_replaces_77 : decode cX12_replaces 77 = .ok (.iload_n 3, 1) := by decide +kernel
theorem dX12_replaces_78 : decode cX12_replaces 78 = .ok (.iaload, 1) := by decide +kernel
theorem dX12_replaces_79 : decode cX12_replaces 79 = .ok (.if_icmp .ge 100, 3) := by decide +kernel
theorem dX12_replaces_82 : decode cX12_replaces 82 = .ok (.aload_n 0, 1) := by decide +kernel
theorem dX12_replaces_83 : decode cX12_replaces 83 = .ok (.iload_n 3, 1) := by decide +kernel
theorem dX12_replaces_84 : decode cX12_replaces 84 = .ok (.iload 5, 2) := by decide +kernel
theorem dX12_replaces_86 : decode cX12_replaces 86 = .ok (.invokevirtual 92, 3) := by decide +kernel
theorem dX12_replaces_89 : decode cX12_replaces 89 = .ok (.istore 6, 2) := by decide +kernel
theorem dX12_replaces_91 : decode cX12_replaces 91 = .ok (.iload 6, 2) := by decide +kernel
theorem dX12_replaces_93 : decode cX12_replaces 93 = .ok (.invokestatic 111, 3) := by decide +kernel
theorem dX12_replaces_96 : decode cX12_replaces 96 = .ok (.ifCond .eq 69, 3) := by decide +kernel
theorem dX12_replaces_99 : decode cX12_replaces 99 = .ok (.aload_n 0, 1) := by decide +kernel
theorem dX12_replaces_100 : decode cX12_replaces 100 = .ok (.getfield 67, 3) := by decide +kernel
theorem dX12_replaces_103 : decode cX12_replaces 103 = .ok (.iload 6, 2) := by decide +kernel
theorem dX12_replaces_105 : decode cX12_replaces 105 = .ok (.bipush 120, 2) := by decide +kernel
theorem dX12_replaces_107 : decode cX12_replaces 107 = .ok (.isub, 1) := by decide +kernel
theorem dX12_replaces_108 : decode cX12_replaces 108 = .ok (.iaload, 1) := by decide +kernel
theorem dX12_replaces_109 : decode cX12_replaces 109 = .ok (.bipush (-9), 2) := by decide +kernel
theorem dX12_replaces_111 : decode cX12_replaces 111 = .ok (.if_icmp .eq 54, 3) := by decide +kernel
theorem dX12_replaces_114 : decode cX12_replaces 114 = .ok (.iconst 0, 1) := by decide +kernel
theorem dX12_replaces_115 : decode cX12_replaces 115 = .ok (.istore 7, 2) := by decide +kernel
theorem dX12_replaces_117 : decode cX12_replaces 117 = .ok (.iload 7, 2) := by decide +kernel
theorem dX12_replaces_119 : decode cX12_replaces 119 = .ok (.aload_n 0, 1) := by decide +kernel
theorem dX12_replaces_120 : decode cX12_replaces 120 = .ok (.getfield 70, 3) := by decide +kernel
theorem dX12_replaces_123 : decode cX12_replaces 123 = .ok (.iload 6, 2) := by decide +kernel
theorem dX12_replaces_125 : decode cX12_replaces 125 = .ok (.bipush 120, 2) := by decide +kernel
theorem dX12_replaces_127 : decode cX12_replaces 127 = .ok (.isub, 1) := by decide +kernel
theorem dX12_replaces_128 : decode cX12_replaces 128 = .ok (.iaload, 1) := by decide +kernel
theorem dX12_replaces_129 : decode cX12_replaces 129 = .ok (.if_icmp .ge 33, 3) := by decide +kernel
theorem dX12_replaces_132 : decode cX12_replaces 132 = .ok (.aload_n 0, 1) := by decide +kernel
theorem dX12_replaces_133 : decode cX12_replaces 133 = .ok (.bipush 20, 2) := by decide +kernel
theorem dX12_replaces_135 : decode cX12_replaces 135 = .ok (.aload_n 0, 1) := by decide +kernel
theorem dX12_replaces_136 : decode cX12_replaces 136 = .ok (.iload_n 1, 1) := by decide +kernel
theorem dX12_replaces_137 : decode cX12_replaces 137 = .ok (.aload_n 0, 1) := by decide +kernel
theorem dX12_replaces_138 : decode cX12_replaces 138 = .ok (.getfield 67, 3) := by decide +kernel
theorem dX12_replaces_141 : decode cX12_replaces 141 = .ok (.iload 6, 2) := by decide +kernel
theorem dX12_replaces_143 : decode cX12_replaces 143 = .ok (.bipush 120, 2) := by decide +kernel
theorem dX12_replaces_145 : decode cX12_replaces 145 = .ok (.isub, 1) := by decide +kernel
theorem dX12_replaces_146 : decode cX12_replaces 146 = .ok (.iaload, 1) := by decide +kernel
theorem dX12_replaces_147 : decode cX12_replaces 147 = .ok (.iload 7, 2) := by decide +kernel
theorem dX12_replaces_149 : decode cX12_replaces 149 = .ok (.iadd, 1) := by decide +kernel
theorem dX12_replaces_150 : decode cX12_replaces 150 = .ok (.invokevirtual 92, 3) := by decide +kernel
theorem dX12_replaces_153 : decode cX12_replaces 153 = .ok (.invokevirtual 150, 3) := by decide +kernel
theorem dX12_replaces_156 : decode cX12_replaces 156 = .ok (.iinc 7 1, 3) := by decide +kernel
theorem dX12_replaces_159 : decode cX12_replaces 159 = .ok (.goto (-42), 3) := by decide +kernel
theorem dX12_replaces_162 : decode cX12_replaces 162 = .ok (.goto 11, 3) := by decide +kernel
theorem dX12_replaces_165 : decode cX12_replaces 165 = .ok (.aload_n 0, 1) := by decide +kernel
theorem dX12_replaces_166 : decode cX12_replaces 166 = .ok (.bipush 20, 2) := by decide +kernel
theorem dX12_replaces_168 : decode cX12_replaces 168 = .ok (.iload 6, 2) := by decide +kernel
theorem dX12_replaces_170 : decode cX12_replaces 170 = .ok (.invokevirtual 150, 3) := by decide +kernel
theorem dX12_replaces_173 : decode cX12_replaces 173 = .ok (.iinc 5 1, 3) := by decide +kernel
theorem dX12_replaces_176 : decode cX12_replaces 176 = .ok (.goto (-105), 3) := by decide +kernel
theorem dX12_replaces_179 : decode cX12_replaces 179 = .ok (.iload 4, 2) := by decide +kernel
theorem dX12_replaces_181 : decode cX12_replaces 181 = .ok (.istore 5, 2) := by decide +kernel
theorem dX12_replaces_183 : decode cX12_replaces 183 = .ok (.iload 5, 2) := by decide +kernel
theorem dX12_replaces_185 : decode cX12_replaces 185 = .ok (.aload_n 0, 1) := by decide +kernel
theorem dX12_replaces_186 : decode cX12_replaces 186 = .ok (.getfield 13, 3) := by decide +kernel
theorem dX12_replaces_189 : decode cX12_replaces 189 = .ok (.iload_n 1, 1) := by decide +kernel
theorem dX12_replaces_190 : decode cX12_replaces 190 = .ok (.iaload, 1) := by decide +kernel
theorem dX12_replaces_191 : decode cX12_replaces 191 = .ok (.if_icmp .ge 22, 3) := by decide +kernel
theorem dX12_replaces_194 : decode cX12_replaces 194 = .ok (.aload_n 0, 1) := by decide +kernel
theorem dX12_replaces_195 : decode cX12_replaces 195 = .ok (.bipush 20, 2) := by decide +kernel
theorem dX12_replaces_197 : decode cX12_replaces 197 = .ok (.aload_n 0, 1) := by decide +kernel
theorem dX12_replaces_198 : decode cX12_replaces 198 = .ok (.iload_n 1, 1) := by decide +kernel
theorem dX12_replaces_199 : decode cX12_replaces 199 = .ok (.iload 5, 2) := by decide +kernel
theorem dX12_replaces_201 : decode cX12_replaces 201 = .ok (.invokevirtual 92, 3) := by decide +kernel
theorem dX12_replaces_204 : decode cX12_replaces 204 = .ok (.invokevirtual 150, 3) := by decide +kernel
theorem dX12_replaces_207 : decode cX12_replaces 207 = .ok (.iinc 5 1, 3) := by decide +kernel
theorem dX12_replaces_210 : decode cX12_replaces 210 = .ok (.goto (-27), 3) := by decide +kernel
theorem dX12_replaces_213 : decode cX12_replaces 213 = .ok (.iconst 1, 1) := by decide +kernel
theorem dX12_replaces_214 : decode cX12_replaces 214 = .ok (.ireturn, 1) := by decide +kernel
theorem dX12_isPattern_0 : decode cX12_isPattern 0 = .ok (.aload_n 0, 1) := by decide +kernel
theorem dX12_isPattern_1 : decode cX12_isPattern 1 = .ok (.getfield 13, 3) := by decide +kernel
theorem dX12_isPattern_4 : decode cX12_isPattern 4 = .ok (.iload_n 1, 1) := by decide +kernel
theorem dX12_isPattern_5 : decode cX12_isPattern 5 = .ok (.iaload, 1) := by decide +kernel
theorem dX12_isPattern_6 : decode cX12_isPattern 6 = .ok (.iconst 1, 1) := by decide +kernel
theorem dX12_isPattern_7 : decode cX12_isPattern 7 = .ok (.if_icmp .ne 17, 3) := by decide +kernel
theorem dX12_isPattern_10 : decode cX12_isPattern 10 = .ok (.aload_n 0, 1) := by decide +kernel
theorem dX12_isPattern_11 : decode cX12_isPattern 11 = .ok (.iload_n 1, 1) := by decide +kernel
theorem dX12_isPattern_12 : decode cX12_isPattern 12 = .ok (.iconst 0, 1) := by decide +kernel
theorem dX12_isPattern_13 : decode cX12_isPattern 13 = .ok (.invokevirtual 92, 3) := by decide +kernel
theorem dX12_isPattern_16 : decode cX12_isPattern 16 = .ok (.invokestatic 111, 3) := by decide +kernel
theorem dX12_isPattern_19 : decode cX12_isPattern 19 = .ok (.ifCond .eq 5, 3) := by decide +kernel
theorem dX12_isPattern_22 : decode cX12_isPattern 22 = .ok (.iconst 0, 1) := by decide +kernel
theorem dX12_isPattern_23 : decode cX12_isPattern 23 = .ok (.ireturn, 1) := by decide +kernel
theorem dX12_isPattern_24 : decode cX12_isPattern 24 = .ok (.iconst 0, 1) := by decide +kernel
theorem dX12_isPattern_25 : decode cX12_isPattern 25 = .ok (.istore_n 3, 1) := by decide +kernel
theorem dX12_isPattern_26 : decode cX12_isPattern 26 = .ok (.iload_n 3, 1) := by decide +kernel
theorem dX12_isPattern_27 : decode cX12_isPattern 27 = .ok (.iconst 3, 1) := by decide +kernel
theorem dX12_isPattern_28 : decode cX12_isPattern 28 = .ok (.if_icmp .ge 35, 3) := by decide +kernel
theorem dX12_isPattern_31 : decode cX12_isPattern 31 = .ok (.aload_n 0, 1) := by decide +kernel
theorem dX12_isPattern_32 : decode cX12_isPattern 32 = .ok (.iload_n 2, 1) := by decide +kernel
theorem dX12_isPattern_33 : decode cX12_isPattern 33 = .ok (.bipush 120, 2) := by decide +kernel
theorem dX12_isPattern_35 : decode cX12_isPattern 35 = .ok (.iload_n 3, 1) := by decide +kernel
theorem dX12_isPattern_36 : decode cX12_isPattern 36 = .ok (.iadd, 1) := by decide +kernel
theorem dX12_isPattern_37 : decode cX12_isPattern 37 = .ok (.invokevirtual 211, 3) := by decide +kernel
theorem dX12_isPattern_40 : decode cX12_isPattern 40 = .ok (.ifCond .eq 17, 3) := by decide +kernel
theorem dX12_isPattern_43 : decode cX12_isPattern 43 = .ok (.aload_n 0, 1) := by decide +kernel
theorem dX12_isPattern_44 : decode cX12_isPattern 44 = .ok (.iload_n 1, 1) := by decide +kernel
theorem dX12_isPattern_45 : decode cX12_isPattern 45 = .ok (.bipush 120, 2) := by decide +kernel
theorem dX12_isPattern_47 : decode cX12_isPattern 47 = .ok (.iload_n 3, 1) := by decide +kernel
theorem dX12_isPattern_48 : decode cX12_isPattern 48 = .ok (.iadd, 1) := by decide +kernel
theorem dX12_isPattern_49 : decode cX12_isPattern 49 = .ok (.invokevirtual 211, 3) := by decide +kernel
theorem dX12_isPattern_52 : decode cX12_isPattern 52 = .ok (.ifCond .ne 5, 3) := by decide +kernel
theorem dX12_isPattern_55 : decode cX12_isPattern 55 = .ok (.iconst 0, 1) := by decide +kernel
theorem dX12_isPattern_56 : decode cX12_isPattern 56 = .ok (.ireturn, 1) := by decide +kernel
theorem dX12_isPattern_57 : decode cX12_isPattern 57 = .ok (.iinc 3 1, 3) := by decide +kernel
theorem dX12_isPattern_60 : decode cX12_isPattern 60 = .ok (.goto (-34), 3) := by decide +kernel
theorem dX12_isPattern_63 : decode cX12_isPattern 63 = .ok (.iconst 1, 1) := by decide +kernel
theorem dX12_isPattern_64 : decode cX12_isPattern 64 = .ok (.ireturn, 1) := by decide +kernel
theorem dX12_steersOnce_0 : decode cX12_steersOnce 0 = .ok (.iconst 0, 1) := by decide +kernel
theorem dX12_steersOnce_1 : decode cX12_steersOnce 1 = .ok (.istore 4, 2) := by decide +kernel
theorem dX12_steersOnce_3 : decode cX12_steersOnce 3 = .ok (.iload 4, 2) := by decide +kernel
theorem dX12_steersOnce_5 : decode cX12_steersOnce 5 = .ok (.aload_n 0, 1) := by decide +kernel
theorem dX12_steersOnce_6 : decode cX12_steersOnce 6 = .ok (.getfield 13, 3) := by decide +kernel
theorem dX12_steersOnce_9 : decode cX12_steersOnce 9 = .ok (.iload_n 1, 1) := by decide +kernel
theorem dX12_steersOnce_10 : decode cX12_steersOnce 10 = .ok (.iaload, 1) := by decide +kernel
theorem dX12_steersOnce_11 : decode cX12_steersOnce 11 = .ok (.if_icmp .ge 141, 3) := by decide +kernel
theorem dX12_steersOnce_14 : decode cX12_steersOnce 14 = .ok (.iconst 0, 1) := by decide +kernel
theorem dX12_steersOnce_15 : decode cX12_steersOnce 15 = .ok (.istore 5, 2) := by decide +kernel
theorem dX12_steersOnce_17 : decode cX12_steersOnce 17 = .ok (.iload 5, 2) := by decide +kernel
theorem dX12_steersOnce_19 : decode cX12_steersOnce 19 = .ok (.iconst 2, 1) := by decide +kernel
theorem dX12_steersOnce_20 : decode cX12_steersOnce 20 = .ok (.aload_n 0, 1) := by decide +kernel
theorem dX12_steersOnce_21 : decode cX12_steersOnce 21 = .ok (.getfield 171, 3) := by decide +kernel
theorem dX12_steersOnce_24 : decode cX12_steersOnce 24 = .ok (.imul, 1) := by decide +kernel
theorem dX12_steersOnce_25 : decode cX12_steersOnce 25 = .ok (.if_icmp .ge 121, 3) := by decide +kernel
theorem dX12_steersOnce_28 : decode cX12_steersOnce 28 = .ok (.bipush 28, 2) := by decide +kernel
theorem dX12_steersOnce_30 : decode cX12_steersOnce 30 = .ok (.iload 5, 2) := by decide +kernel
theorem dX12_steersOnce_32 : decode cX12_steersOnce 32 = .ok (.iadd, 1) := by decide +kernel
theorem dX12_steersOnce_33 : decode cX12_steersOnce 33 = .ok (.istore 6, 2) := by decide +kernel
theorem dX12_steersOnce_35 : decode cX12_steersOnce 35 = .ok (.iload 5, 2) := by decide +kernel
theorem dX12_steersOnce_37 : decode cX12_steersOnce 37 = .ok (.iconst 2, 1) := by decide +kernel
theorem dX12_steersOnce_38 : decode cX12_steersOnce 38 = .ok (.irem, 1) := by decide +kernel
theorem dX12_steersOnce_39 : decode cX12_steersOnce 39 = .ok (.ifCond .ne 10, 3) := by decide +kernel
theorem dX12_steersOnce_42 : decode cX12_steersOnce 42 = .ok (.iload 6, 2) := by decide +kernel
theorem dX12_steersOnce_44 : decode cX12_steersOnce 44 = .ok (.iconst 1, 1) := by decide +kernel
theorem dX12_steersOnce_45 : decode cX12_steersOnce 45 = .ok (.iadd, 1) := by decide +kernel
theorem dX12_steersOnce_46 : decode cX12_steersOnce 46 = .ok (.goto 7, 3) := by decide +kernel
theorem dX12_steersOnce_49 : decode cX12_steersOnce 49 = .ok (.iload 6, 2) := by decide +kernel
theorem dX12_steersOnce_51 : decode cX12_steersOnce 51 = .ok (.iconst 1, 1) := by decide +kernel
theorem dX12_steersOnce_52 : decode cX12_steersOnce 52 = .ok (.isub, 1) := by decide +kernel
theorem dX12_steersOnce_53 : decode cX12_steersOnce 53 = .ok (.istore 7, 2) := by decide +kernel
theorem dX12_steersOnce_55 : decode cX12_steersOnce 55 = .ok (.aload_n 0, 1) := by decide +kernel
theorem dX12_steersOnce_56 : decode cX12_steersOnce 56 = .ok (.iload 6, 2) := by decide +kernel
theorem dX12_steersOnce_58 : decode cX12_steersOnce 58 = .ok (.iload 7, 2) := by decide +kernel
theorem dX12_steersOnce_60 : decode cX12_steersOnce 60 = .ok (.invokevirtual 292, 3) := by decide +kernel
theorem dX12_steersOnce_63 : decode cX12_steersOnce 63 = .ok (.ifCond .eq 33, 3) := by decide +kernel
theorem dX12_steersOnce_66 : decode cX12_steersOnce 66 = .ok (.aload_n 0, 1) := by decide +kernel
theorem dX12_steersOnce_67 : decode cX12_steersOnce 67 = .ok (.iload 6, 2) := by decide +kernel
theorem dX12_steersOnce_69 : decode cX12_steersOnce 69 = .ok (.iload_n 1, 1) := by decide +kernel
theorem dX12_steersOnce_70 : decode cX12_steersOnce 70 = .ok (.iload 4, 2) := by decide +kernel
theorem dX12_steersOnce_72 : decode cX12_steersOnce 72 = .ok (.bipush (-9), 2) := by decide +kernel
theorem dX12_steersOnce_74 : decode cX12_steersOnce 74 = .ok (.invokevirtual 295, 3) := by decide +kernel
theorem dX12_steersOnce_77 : decode cX12_steersOnce 77 = .ok (.ifCond .eq 19, 3) := by decide +kernel
theorem dX12_steersOnce_80 : decode cX12_steersOnce 80 = .ok (.aload_n 0, 1) := by decide +kernel
theorem dX12_steersOnce_81 : decode cX12_steersOnce 81 = .ok (.iload_n 1, 1) := by decide +kernel
theorem dX12_steersOnce_82 : decode cX12_steersOnce 82 = .ok (.iload 4, 2) := by decide +kernel
theorem dX12_steersOnce_84 : decode cX12_steersOnce 84 = .ok (.iload 7, 2) := by decide +kernel
theorem dX12_steersOnce_86 : decode cX12_steersOnce 86 = .ok (.invokevirtual 299, 3) := by decide +kernel
theorem dX12_steersOnce_89 : decode cX12_steersOnce 89 = .ok (.ifCond .eq 7, 3) := by decide +kernel
theorem dX12_steersOnce_92 : decode cX12_steersOnce 92 = .ok (.iconst 1, 1) := by decide +kernel
theorem dX12_steersOnce_93 : decode cX12_steersOnce 93 = .ok (.goto 4, 3) := by decide +kernel
theorem dX12_steersOnce_96 : decode cX12_steersOnce 96 = .ok (.iconst 0, 1) := by decide +kernel
theorem dX12_steersOnce_97 : decode cX12_steersOnce 97 = .ok (.istore 8, 2) := by decide +kernel
theorem dX12_steersOnce_99 : decode cX12_steersOnce 99 = .ok (.iload 8, 2) := by decide +kernel
theorem dX12_steersOnce_101 : decode cX12_steersOnce 101 = .ok (.ifCond .eq 39, 3) := by decide +kernel
theorem dX12_steersOnce_104 : decode cX12_steersOnce 104 = .ok (.aload_n 0, 1) := by decide +kernel
theorem dX12_steersOnce_105 : decode cX12_steersOnce 105 = .ok (.bipush 20, 2) := by decide +kernel
theorem dX12_steersOnce_107 : decode cX12_steersOnce 107 = .ok (.iload_n 2, 1) := by decide +kernel
theorem dX12_steersOnce_108 : decode cX12_steersOnce 108 = .ok (.invokevirtual 279, 3) := by decide +kernel
theorem dX12_steersOnce_111 : decode cX12_steersOnce 111 = .ok (.iload_n 3, 1) := by decide +kernel
theorem dX12_steersOnce_112 : decode cX12_steersOnce 112 = .ok (.if_icmp .ge 28, 3) := by decide +kernel
theorem dX12_steersOnce_115 : decode cX12_steersOnce 115 = .ok (.aload_n 0, 1) := by decide +kernel
theorem dX12_steersOnce_116 : decode cX12_steersOnce 116 = .ok (.bipush 20, 2) := by decide +kernel
theorem dX12_steersOnce_118 : decode cX12_steersOnce 118 = .ok (.iload_n 1, 1) := by decide +kernel
theorem dX12_steersOnce_119 : decode cX12_steersOnce 119 = .ok (.invokevirtual 161, 3) := by decide +kernel
theorem dX12_steersOnce_122 : decode cX12_steersOnce 122 = .ok (.aload_n 0, 1) := by decide +kernel
theorem dX12_steersOnce_123 : decode cX12_steersOnce 123 = .ok (.bipush 100, 2) := by decide +kernel
theorem dX12_steersOnce_125 : decode cX12_steersOnce 125 = .ok (.iload 5, 2) := by decide +kernel
theorem dX12_steersOnce_127 : decode cX12_steersOnce 127 = .ok (.iconst 2, 1) := by decide +kernel
theorem dX12_steersOnce_128 : decode cX12_steersOnce 128 = .ok (.idiv, 1) := by decide +kernel
theorem dX12_steersOnce_129 : decode cX12_steersOnce 129 = .ok (.imul, 1) := by decide +kernel
theorem dX12_steersOnce_130 : decode cX12_steersOnce 130 = .ok (.iload 5, 2) := by decide +kernel
theorem dX12_steersOnce_132 : decode cX12_steersOnce 132 = .ok (.iconst 2, 1) := by decide +kernel
theorem dX12_steersOnce_133 : decode cX12_steersOnce 133 = .ok (.irem, 1) := by decide +kernel
theorem dX12_steersOnce_134 : decode cX12_steersOnce 134 = .ok (.iadd, 1) := by decide +kernel
end
section
theorem dX12_steersOnce_135 : decode cX12_steersOnce 135 = .ok (.putfield 302, 3) := by decide +kernel
theorem dX12_steersOnce_138 : decode cX12_steersOnce 138 = .ok (.iconst 1, 1) := by decide +kernel
theorem dX12_steersOnce_139 : decode cX12_steersOnce 139 = .ok (.ireturn, 1) := by decide +kernel
theorem dX12_steersOnce_140 : decode cX12_steersOnce 140 = .ok (.iinc 5 1, 3) := by decide +kernel
theorem dX12_steersOnce_143 : decode cX12_steersOnce 143 = .ok (.goto (-126), 3) := by decide +kernel
theorem dX12_steersOnce_146 : decode cX12_steersOnce 146 = .ok (.iinc 4 1, 3) := by decide +kernel
theorem dX12_steersOnce_149 : decode cX12_steersOnce 149 = .ok (.goto (-146), 3) := by decide +kernel
theorem dX12_steersOnce_152 : decode cX12_steersOnce 152 = .ok (.iconst 0, 1) := by decide +kernel
theorem dX12_steersOnce_153 : decode cX12_steersOnce 153 = .ok (.ireturn, 1) := by decide +kernel
theorem dX12_steers_0 : decode cX12_steers 0 = .ok (.aload_n 0, 1) := by decide +kernel
theorem dX12_steers_1 : decode cX12_steers 1 = .ok (.iload_n 1, 1) := by decide +kernel
theorem dX12_steers_2 : decode cX12_steers 2 = .ok (.iload_n 2, 1) := by decide +kernel
theorem dX12_steers_3 : decode cX12_steers 3 = .ok (.invokevirtual 279, 3) := by decide +kernel
theorem dX12_steers_6 : decode cX12_steers 6 = .ok (.istore 4, 2) := by decide +kernel
theorem dX12_steers_8 : decode cX12_steers 8 = .ok (.iload 4, 2) := by decide +kernel
theorem dX12_steers_10 : decode cX12_steers 10 = .ok (.ldc_w 269, 3) := by decide +kernel
theorem dX12_steers_13 : decode cX12_steers 13 = .ok (.if_icmp .ge 45, 3) := by decide +kernel
theorem dX12_steers_16 : decode cX12_steers 16 = .ok (.aload_n 0, 1) := by decide +kernel
theorem dX12_steers_17 : decode cX12_steers 17 = .ok (.iload_n 1, 1) := by decide +kernel
theorem dX12_steers_18 : decode cX12_steers 18 = .ok (.iload_n 2, 1) := by decide +kernel
theorem dX12_steers_19 : decode cX12_steers 19 = .ok (.iload 4, 2) := by decide +kernel
theorem dX12_steers_21 : decode cX12_steers 21 = .ok (.invokevirtual 305, 3) := by decide +kernel
theorem dX12_steers_24 : decode cX12_steers 24 = .ok (.ifCond .eq 34, 3) := by decide +kernel
theorem dX12_steers_27 : decode cX12_steers 27 = .ok (.aload_n 0, 1) := by decide +kernel
theorem dX12_steers_28 : decode cX12_steers 28 = .ok (.iload_n 1, 1) := by decide +kernel
theorem dX12_steers_29 : decode cX12_steers 29 = .ok (.iload_n 2, 1) := by decide +kernel
theorem dX12_steers_30 : decode cX12_steers 30 = .ok (.invokevirtual 279, 3) := by decide +kernel
theorem dX12_steers_33 : decode cX12_steers 33 = .ok (.istore 4, 2) := by decide +kernel
theorem dX12_steers_35 : decode cX12_steers 35 = .ok (.iload_n 3, 1) := by decide +kernel
theorem dX12_steers_36 : decode cX12_steers 36 = .ok (.bipush (-9), 2) := by decide +kernel
theorem dX12_steers_38 : decode cX12_steers 38 = .ok (.if_icmp .eq (-30), 3) := by decide +kernel
theorem dX12_steers_41 : decode cX12_steers 41 = .ok (.aload_n 0, 1) := by decide +kernel
theorem dX12_steers_42 : decode cX12_steers 42 = .ok (.iconst 4, 1) := by decide +kernel
theorem dX12_steers_43 : decode cX12_steers 43 = .ok (.aload_n 0, 1) := by decide +kernel
theorem dX12_steers_44 : decode cX12_steers 44 = .ok (.getfield 302, 3) := by decide +kernel
theorem dX12_steers_47 : decode cX12_steers 47 = .ok (.bipush 10, 2) := by decide +kernel
theorem dX12_steers_49 : decode cX12_steers 49 = .ok (.iload_n 3, 1) := by decide +kernel
theorem dX12_steers_50 : decode cX12_steers 50 = .ok (.imul, 1) := by decide +kernel
theorem dX12_steers_51 : decode cX12_steers 51 = .ok (.iadd, 1) := by decide +kernel
theorem dX12_steers_52 : decode cX12_steers 52 = .ok (.invokevirtual 308, 3) := by decide +kernel
theorem dX12_steers_55 : decode cX12_steers 55 = .ok (.goto (-47), 3) := by decide +kernel
theorem dX12_steers_58 : decode cX12_steers 58 = .ok (.return_, 1) := by decide +kernel
theorem dX12_steered_0 : decode cX12_steered 0 = .ok (.iload_n 1, 1) := by decide +kernel
theorem dX12_steered_1 : decode cX12_steered 1 = .ok (.bipush (-9), 2) := by decide +kernel
theorem dX12_steered_3 : decode cX12_steered 3 = .ok (.if_icmp .eq 16, 3) := by decide +kernel
theorem dX12_steered_6 : decode cX12_steered 6 = .ok (.iload_n 1, 1) := by decide +kernel
theorem dX12_steered_7 : decode cX12_steered 7 = .ok (.iconst 0, 1) := by decide +kernel
theorem dX12_steered_8 : decode cX12_steered 8 = .ok (.bipush 39, 2) := by decide +kernel
theorem dX12_steered_10 : decode cX12_steered 10 = .ok (.invokestatic 96, 3) := by decide +kernel
theorem dX12_steered_13 : decode cX12_steered 13 = .ok (.ifCond .ne 6, 3) := by decide +kernel
theorem dX12_steered_16 : decode cX12_steered 16 = .ok (.bipush (-2), 2) := by decide +kernel
theorem dX12_steered_18 : decode cX12_steered 18 = .ok (.ireturn, 1) := by decide +kernel
theorem dX12_steered_19 : decode cX12_steered 19 = .ok (.aload_n 0, 1) := by decide +kernel
theorem dX12_steered_20 : decode cX12_steered 20 = .ok (.getfield 164, 3) := by decide +kernel
theorem dX12_steered_23 : decode cX12_steered 23 = .ok (.ifCond .eq 15, 3) := by decide +kernel
theorem dX12_steered_26 : decode cX12_steered 26 = .ok (.aload_n 0, 1) := by decide +kernel
theorem dX12_steered_27 : decode cX12_steered 27 = .ok (.iconst 0, 1) := by decide +kernel
theorem dX12_steered_28 : decode cX12_steered 28 = .ok (.iconst 1, 1) := by decide +kernel
theorem dX12_steered_29 : decode cX12_steered 29 = .ok (.invokevirtual 279, 3) := by decide +kernel
theorem dX12_steered_32 : decode cX12_steered 32 = .ok (.ldc_w 269, 3) := by decide +kernel
theorem dX12_steered_35 : decode cX12_steered 35 = .ok (.if_icmp .lt 6, 3) := by decide +kernel
theorem dX12_steered_38 : decode cX12_steered 38 = .ok (.bipush (-3), 2) := by decide +kernel
theorem dX12_steered_40 : decode cX12_steered 40 = .ok (.ireturn, 1) := by decide +kernel
theorem dX12_steered_41 : decode cX12_steered 41 = .ok (.aload_n 0, 1) := by decide +kernel
theorem dX12_steered_42 : decode cX12_steered 42 = .ok (.iconst 0, 1) := by decide +kernel
theorem dX12_steered_43 : decode cX12_steered 43 = .ok (.bipush 24, 2) := by decide +kernel
theorem dX12_steered_45 : decode cX12_steered 45 = .ok (.invokevirtual 161, 3) := by decide +kernel
theorem dX12_steered_48 : decode cX12_steered 48 = .ok (.aload_n 0, 1) := by decide +kernel
theorem dX12_steered_49 : decode cX12_steered 49 = .ok (.bipush 24, 2) := by decide +kernel
theorem dX12_steered_51 : decode cX12_steered 51 = .ok (.iconst 1, 1) := by decide +kernel
theorem dX12_steered_52 : decode cX12_steered 52 = .ok (.bipush (-9), 2) := by decide +kernel
theorem dX12_steered_54 : decode cX12_steered 54 = .ok (.invokevirtual 311, 3) := by decide +kernel
theorem dX12_steered_57 : decode cX12_steered 57 = .ok (.aload_n 0, 1) := by decide +kernel
theorem dX12_steered_58 : decode cX12_steered 58 = .ok (.bipush 24, 2) := by decide +kernel
theorem dX12_steered_60 : decode cX12_steered 60 = .ok (.iload_n 1, 1) := by decide +kernel
theorem dX12_steered_61 : decode cX12_steered 61 = .ok (.invokevirtual 168, 3) := by decide +kernel
theorem dX12_steered_64 : decode cX12_steered 64 = .ok (.ireturn, 1) := by decide +kernel
theorem dX12_isPartOf_0 : decode cX12_isPartOf 0 = .ok (.iconst 0, 1) := by decide +kernel
theorem dX12_isPartOf_1 : decode cX12_isPartOf 1 = .ok (.istore 5, 2) := by decide +kernel
theorem dX12_isPartOf_3 : decode cX12_isPartOf 3 = .ok (.iload 5, 2) := by decide +kernel
theorem dX12_isPartOf_5 : decode cX12_isPartOf 5 = .ok (.iload 4, 2) := by decide +kernel
theorem dX12_isPartOf_7 : decode cX12_isPartOf 7 = .ok (.iadd, 1) := by decide +kernel
theorem dX12_isPartOf_8 : decode cX12_isPartOf 8 = .ok (.aload_n 0, 1) := by decide +kernel
theorem dX12_isPartOf_9 : decode cX12_isPartOf 9 = .ok (.getfield 13, 3) := by decide +kernel
theorem dX12_isPartOf_12 : decode cX12_isPartOf 12 = .ok (.iload_n 1, 1) := by decide +kernel
theorem dX12_isPartOf_13 : decode cX12_isPartOf 13 = .ok (.iaload, 1) := by decide +kernel
theorem dX12_isPartOf_14 : decode cX12_isPartOf 14 = .ok (.if_icmp .gt 25, 3) := by decide +kernel
theorem dX12_isPartOf_17 : decode cX12_isPartOf 17 = .ok (.aload_n 0, 1) := by decide +kernel
theorem dX12_isPartOf_18 : decode cX12_isPartOf 18 = .ok (.iload_n 1, 1) := by decide +kernel
theorem dX12_isPartOf_19 : decode cX12_isPartOf 19 = .ok (.iload 5, 2) := by decide +kernel
theorem dX12_isPartOf_21 : decode cX12_isPartOf 21 = .ok (.iload_n 2, 1) := by decide +kernel
theorem dX12_isPartOf_22 : decode cX12_isPartOf 22 = .ok (.iload_n 3, 1) := by decide +kernel
theorem dX12_isPartOf_23 : decode cX12_isPartOf 23 = .ok (.iload 4, 2) := by decide +kernel
theorem dX12_isPartOf_25 : decode cX12_isPartOf 25 = .ok (.invokevirtual 282, 3) := by decide +kernel
theorem dX12_isPartOf_28 : decode cX12_isPartOf 28 = .ok (.ifCond .eq 5, 3) := by decide +kernel
theorem dX12_isPartOf_31 : decode cX12_isPartOf 31 = .ok (.iconst 1, 1) := by decide +kernel
theorem dX12_isPartOf_32 : decode cX12_isPartOf 32 = .ok (.ireturn, 1) := by decide +kernel
theorem dX12_isPartOf_33 : decode cX12_isPartOf 33 = .ok (.iinc 5 1, 3) := by decide +kernel
theorem dX12_isPartOf_36 : decode cX12_isPartOf 36 = .ok (.goto (-33), 3) := by decide +kernel
theorem dX12_isPartOf_39 : decode cX12_isPartOf 39 = .ok (.iconst 0, 1) := by decide +kernel
theorem dX12_isPartOf_40 : decode cX12_isPartOf 40 = .ok (.ireturn, 1) := by decide +kernel
theorem dX12_findCommon_0 : decode cX12_findCommon 0 = .ok (.aload_n 0, 1) := by decide +kernel
theorem dX12_findCommon_1 : decode cX12_findCommon 1 = .ok (.iconst 0, 1) := by decide +kernel
theorem dX12_findCommon_2 : decode cX12_findCommon 2 = .ok (.putfield 315, 3) := by decide +kernel
theorem dX12_findCommon_5 : decode cX12_findCommon 5 = .ok (.iconst 0, 1) := by decide +kernel
theorem dX12_findCommon_6 : decode cX12_findCommon 6 = .ok (.istore_n 3, 1) := by decide +kernel
theorem dX12_findCommon_7 : decode cX12_findCommon 7 = .ok (.iload_n 3, 1) := by decide +kernel
theorem dX12_findCommon_8 : decode cX12_findCommon 8 = .ok (.aload_n 0, 1) := by decide +kernel
theorem dX12_findCommon_9 : decode cX12_findCommon 9 = .ok (.getfield 13, 3) := by decide +kernel
theorem dX12_findCommon_12 : decode cX12_findCommon 12 = .ok (.iload_n 1, 1) := by decide +kernel
theorem dX12_findCommon_13 : decode cX12_findCommon 13 = .ok (.iaload, 1) := by decide +kernel
theorem dX12_findCommon_14 : decode cX12_findCommon 14 = .ok (.if_icmp .ge 63, 3) := by decide +kernel
theorem dX12_findCommon_17 : decode cX12_findCommon 17 = .ok (.aload_n 0, 1) := by decide +kernel
theorem dX12_findCommon_18 : decode cX12_findCommon 18 = .ok (.iload_n 1, 1) := by decide +kernel
theorem dX12_findCommon_19 : decode cX12_findCommon 19 = .ok (.iload_n 3, 1) := by decide +kernel
theorem dX12_findCommon_20 : decode cX12_findCommon 20 = .ok (.invokevirtual 266, 3) := by decide +kernel
theorem dX12_findCommon_23 : decode cX12_findCommon 23 = .ok (.iload_n 3, 1) := by decide +kernel
theorem dX12_findCommon_24 : decode cX12_findCommon 24 = .ok (.isub, 1) := by decide +kernel
theorem dX12_findCommon_25 : decode cX12_findCommon 25 = .ok (.istore 4, 2) := by decide +kernel
theorem dX12_findCommon_27 : decode cX12_findCommon 27 = .ok (.aload_n 0, 1) := by decide +kernel
theorem dX12_findCommon_28 : decode cX12_findCommon 28 = .ok (.iload_n 1, 1) := by decide +kernel
theorem dX12_findCommon_29 : decode cX12_findCommon 29 = .ok (.iload_n 3, 1) := by decide +kernel
theorem dX12_findCommon_30 : decode cX12_findCommon 30 = .ok (.invokevirtual 92, 3) := by decide +kernel
theorem dX12_findCommon_33 : decode cX12_findCommon 33 = .ok (.invokestatic 100, 3) := by decide +kernel
theorem dX12_findCommon_36 : decode cX12_findCommon 36 = .ok (.ifCond .eq 35, 3) := by decide +kernel
theorem dX12_findCommon_39 : decode cX12_findCommon 39 = .ok (.iload 4, 2) := by decide +kernel
theorem dX12_findCommon_41 : decode cX12_findCommon 41 = .ok (.aload_n 0, 1) := by decide +kernel
theorem dX12_findCommon_42 : decode cX12_findCommon 42 = .ok (.getfield 315, 3) := by decide +kernel
theorem dX12_findCommon_45 : decode cX12_findCommon 45 = .ok (.if_icmp .le 26, 3) := by decide +kernel
theorem dX12_findCommon_48 : decode cX12_findCommon 48 = .ok (.aload_n 0, 1) := by decide +kernel
theorem dX12_findCommon_49 : decode cX12_findCommon 49 = .ok (.iload_n 2, 1) := by decide +kernel
theorem dX12_findCommon_50 : decode cX12_findCommon 50 = .ok (.iload_n 1, 1) := by decide +kernel
theorem dX12_findCommon_51 : decode cX12_findCommon 51 = .ok (.iload_n 3, 1) := by decide +kernel
theorem dX12_findCommon_52 : decode cX12_findCommon 52 = .ok (.iload 4, 2) := by decide +kernel
theorem dX12_findCommon_54 : decode cX12_findCommon 54 = .ok (.invokevirtual 318, 3) := by decide +kernel
theorem dX12_findCommon_57 : decode cX12_findCommon 57 = .ok (.ifCond .eq 14, 3) := by decide +kernel
theorem dX12_findCommon_60 : decode cX12_findCommon 60 = .ok (.aload_n 0, 1) := by decide +kernel
theorem dX12_findCommon_61 : decode cX12_findCommon 61 = .ok (.iload_n 3, 1) := by decide +kernel
theorem dX12_findCommon_62 : decode cX12_findCommon 62 = .ok (.putfield 321, 3) := by decide +kernel
theorem dX12_findCommon_65 : decode cX12_findCommon 65 = .ok (.aload_n 0, 1) := by decide +kernel
theorem dX12_findCommon_66 : decode cX12_findCommon 66 = .ok (.iload 4, 2) := by decide +kernel
theorem dX12_findCommon_68 : decode cX12_findCommon 68 = .ok (.putfield 315, 3) := by decide +kernel
theorem dX12_findCommon_71 : decode cX12_findCommon 71 = .ok (.iinc 3 1, 3) := by decide +kernel
theorem dX12_findCommon_74 : decode cX12_findCommon 74 = .ok (.goto (-67), 3) := by decide +kernel
theorem dX12_findCommon_77 : decode cX12_findCommon 77 = .ok (.aload_n 0, 1) := by decide +kernel
theorem dX12_findCommon_78 : decode cX12_findCommon 78 = .ok (.getfield 315, 3) := by decide +kernel
theorem dX12_findCommon_81 : decode cX12_findCommon 81 = .ok (.ifCond .le 7, 3) := by decide +kernel
theorem dX12_findCommon_84 : decode cX12_findCommon 84 = .ok (.iconst 1, 1) := by decide +kernel
theorem dX12_findCommon_85 : decode cX12_findCommon 85 = .ok (.goto 4, 3) := by decide +kernel
theorem dX12_findCommon_88 : decode cX12_findCommon 88 = .ok (.iconst 0, 1) := by decide +kernel
theorem dX12_findCommon_89 : decode cX12_findCommon 89 = .ok (.ireturn, 1) := by decide +kernel
theorem dX12_common_0 : decode cX12_common 0 = .ok (.iload_n 1, 1) := by decide +kernel
theorem dX12_common_1 : decode cX12_common 1 = .ok (.bipush (-9), 2) := by decide +kernel
theorem dX12_common_3 : decode cX12_common 3 = .ok (.if_icmp .eq 16, 3) := by decide +kernel
theorem dX12_common_6 : decode cX12_common 6 = .ok (.iload_n 1, 1) := by decide +kernel
theorem dX12_common_7 : decode cX12_common 7 = .ok (.iconst 0, 1) := by decide +kernel
theorem dX12_common_8 : decode cX12_common 8 = .ok (.bipush 19, 2) := by decide +kernel
theorem dX12_common_10 : decode cX12_common 10 = .ok (.invokestatic 96, 3) := by decide +kernel
theorem dX12_common_13 : decode cX12_common 13 = .ok (.ifCond .ne 6, 3) := by decide +kernel
theorem dX12_common_16 : decode cX12_common 16 = .ok (.bipush (-2), 2) := by decide +kernel
theorem dX12_common_18 : decode cX12_common 18 = .ok (.ireturn, 1) := by decide +kernel
theorem dX12_common_19 : decode cX12_common 19 = .ok (.aload_n 0, 1) := by decide +kernel
theorem dX12_common_20 : decode cX12_common 20 = .ok (.getfield 164, 3) := by decide +kernel
theorem dX12_common_23 : decode cX12_common 23 = .ok (.ifCond .ne 6, 3) := by decide +kernel
theorem dX12_common_26 : decode cX12_common 26 = .ok (.bipush (-3), 2) := by decide +kernel
theorem dX12_common_28 : decode cX12_common 28 = .ok (.ireturn, 1) := by decide +kernel
theorem dX12_common_29 : decode cX12_common 29 = .ok (.aload_n 0, 1) := by decide +kernel
theorem dX12_common_30 : decode cX12_common 30 = .ok (.iconst 0, 1) := by decide +kernel
theorem dX12_common_31 : decode cX12_common 31 = .ok (.iconst 1, 1) := by decide +kernel
theorem dX12_common_32 : decode cX12_common 32 = .ok (.invokevirtual 324, 3) := by decide +kernel
theorem dX12_common_35 : decode cX12_common 35 = .ok (.ifCond .ne 6, 3) := by decide +kernel
theorem dX12_common_38 : decode cX12_common 38 = .ok (.bipush (-9), 2) := by decide +kernel
theorem dX12_common_40 : decode cX12_common 40 = .ok (.ireturn, 1) := by decide +kernel
theorem dX12_common_41 : decode cX12_common 41 = .ok (.iload_n 1, 1) := by decide +kernel
theorem dX12_common_42 : decode cX12_common 42 = .ok (.bipush (-9), 2) := by decide +kernel
theorem dX12_common_44 : decode cX12_common 44 = .ok (.if_icmp .ne 10, 3) := by decide +kernel
theorem dX12_common_47 : decode cX12_common 47 = .ok (.aload_n 0, 1) := by decide +kernel
theorem dX12_common_48 : decode cX12_common 48 = .ok (.getfield 315, 3) := by decide +kernel
theorem dX12_common_51 : decode cX12_common 51 = .ok (.goto 27, 3) := by decide +kernel
theorem dX12_common_54 : decode cX12_common 54 = .ok (.iload_n 1, 1) := by decide +kernel
theorem dX12_common_55 : decode cX12_common 55 = .ok (.aload_n 0, 1) := by decide +kernel
theorem dX12_common_56 : decode cX12_common 56 = .ok (.getfield 315, 3) := by decide +kernel
theorem dX12_common_59 : decode cX12_common 59 = .ok (.if_icmp .ge 17, 3) := by decide +kernel
theorem dX12_common_62 : decode cX12_common 62 = .ok (.aload_n 0, 1) := by decide +kernel
theorem dX12_common_63 : decode cX12_common 63 = .ok (.iconst 0, 1) := by decide +kernel
theorem dX12_common_64 : decode cX12_common 64 = .ok (.aload_n 0, 1) := by decide +kernel
theorem dX12_common_65 : decode cX12_common 65 = .ok (.getfield 321, 3) := by decide +kernel
theorem dX12_common_68 : decode cX12_common 68 = .ok (.iload_n 1, 1) := by decide +kernel
theorem dX12_common_69 : decode cX12_common 69 = .ok (.iadd, 1) := by decide +kernel
theorem dX12_common_70 : decode cX12_common 70 = .ok (.invokevirtual 92, 3) := by decide +kernel
theorem dX12_common_73 : decode cX12_common 73 = .ok (.goto 5, 3) := by decide +kernel
theorem dX12_common_76 : decode cX12_common 76 = .ok (.bipush (-9), 2) := by decide +kernel
theorem dX12_common_78 : decode cX12_common 78 = .ok (.ireturn, 1) := by decide +kernel
theorem dX12_generalizes_0 : decode cX12_generalizes 0 = .ok (.aload_n 0, 1) := by decide +kernel
theorem dX12_generalizes_1 : decode cX12_generalizes 1 = .ok (.getfield 13, 3) := by decide +kernel
theorem dX12_generalizes_4 : decode cX12_generalizes 4 = .ok (.iload 4, 2) := by decide +kernel
theorem dX12_generalizes_6 : decode cX12_generalizes 6 = .ok (.iconst 0, 1) := by decide +kernel
theorem dX12_generalizes_7 : decode cX12_generalizes 7 = .ok (.iastore, 1) := by decide +kernel
theorem dX12_generalizes_8 : decode cX12_generalizes 8 = .ok (.iconst 0, 1) := by decide +kernel
theorem dX12_generalizes_9 : decode cX12_generalizes 9 = .ok (.istore 5, 2) := by decide +kernel
theorem dX12_generalizes_11 : decode cX12_generalizes 11 = .ok (.iload 5, 2) := by decide +kernel
theorem dX12_generalizes_13 : decode cX12_generalizes 13 = .ok (.aload_n 0, 1) := by decide +kernel
theorem dX12_generalizes_14 : decode cX12_generalizes 14 = .ok (.getfield 13, 3) := by decide +kernel
theorem dX12_generalizes_17 : decode cX12_generalizes 17 = .ok (.iload_n 1, 1) := by decide +kernel
theorem dX12_generalizes_18 : decode cX12_generalizes 18 = .ok (.iaload, 1) := by decide +kernel
theorem dX12_generalizes_19 : decode cX12_generalizes 19 = .ok (.if_icmp .ge 88, 3) := by decide +kernel
theorem dX12_generalizes_22 : decode cX12_generalizes 22 = .ok (.iload 5, 2) := by decide +kernel
theorem dX12_generalizes_24 : decode cX12_generalizes 24 = .ok (.aload_n 0, 1) := by decide +kernel
theorem dX12_generalizes_25 : decode cX12_generalizes 25 = .ok (.getfield 315, 3) := by decide +kernel
theorem dX12_generalizes_28 : decode cX12_generalizes 28 = .ok (.iadd, 1) := by decide +kernel
theorem dX12_generalizes_29 : decode cX12_generalizes 29 = .ok (.aload_n 0, 1) := by decide +kernel
theorem dX12_generalizes_30 : decode cX12_generalizes 30 = .ok (.getfield 13, 3) := by decide +kernel
theorem dX12_generalizes_33 : decode cX12_generalizes 33 = .ok (.iload_n 1, 1) := by decide +kernel
theorem dX12_generalizes_34 : decode cX12_generalizes 34 = .ok (.iaload, 1) := by decide +kernel
theorem dX12_generalizes_35 : decode cX12_generalizes 35 = .ok (.if_icmp .gt 26, 3) := by decide +kernel
theorem dX12_generalizes_38 : decode cX12_generalizes 38 = .ok (.aload_n 0, 1) := by decide +kernel
theorem dX12_generalizes_39 : decode cX12_generalizes 39 = .ok (.iload_n 1, 1) := by decide +kernel
theorem dX12_generalizes_40 : decode cX12_generalizes 40 = .ok (.iload 5, 2) := by decide +kernel
theorem dX12_generalizes_42 : decode cX12_generalizes 42 = .ok (.iload_n 2, 1) := by decide +kernel
theorem dX12_generalizes_43 : decode cX12_generalizes 43 = .ok (.aload_n 0, 1) := by decide +kernel
theorem dX12_generalizes_44 : decode cX12_generalizes 44 = .ok (.getfield 321, 3) := by decide +kernel
theorem dX12_generalizes_47 : decode cX12_generalizes 47 = .ok (.aload_n 0, 1) := by decide +kernel
theorem dX12_generalizes_48 : decode cX12_generalizes 48 = .ok (.getfield 315, 3) := by decide +kernel
theorem dX12_generalizes_51 : decode cX12_generalizes 51 = .ok (.invokevirtual 282, 3) := by decide +kernel
theorem dX12_generalizes_54 : decode cX12_generalizes 54 = .ok (.ifCond .eq 7, 3) := by decide +kernel
theorem dX12_generalizes_57 : decode cX12_generalizes 57 = .ok (.iconst 1, 1) := by decide +kernel
theorem dX12_generalizes_58 : decode cX12_generalizes 58 = .ok (.goto 4, 3) := by decide +kernel
theorem dX12_generalizes_61 : decode cX12_generalizes 61 = .ok (.iconst 0, 1) := by decide +kernel
theorem dX12_generalizes_62 : decode cX12_generalizes 62 = .ok (.istore 6, 2) := by decide +kernel
theorem dX12_generalizes_64 : decode cX12_generalizes 64 = .ok (.aload_n 0, 1) := by decide +kernel
theorem dX12_generalizes_65 : decode cX12_generalizes 65 = .ok (.iload 4, 2) := by decide +kernel
theorem dX12_generalizes_67 : decode cX12_generalizes 67 = .ok (.iload 6, 2) := by decide +kernel
theorem dX12_generalizes_69 : decode cX12_generalizes 69 = .ok (.ifCond .eq 7, 3) := by decide +kernel
theorem dX12_generalizes_72 : decode cX12_generalizes 72 = .ok (.iload_n 3, 1) := by decide +kernel
theorem dX12_generalizes_73 : decode cX12_generalizes 73 = .ok (.goto 10, 3) := by decide +kernel
theorem dX12_generalizes_76 : decode cX12_generalizes 76 = .ok (.aload_n 0, 1) := by decide +kernel
theorem dX12_generalizes_77 : decode cX12_generalizes 77 = .ok (.iload_n 1, 1) := by decide +kernel
theorem dX12_generalizes_78 : decode cX12_generalizes 78 = .ok (.iload 5, 2) := by decide +kernel
theorem dX12_generalizes_80 : decode cX12_generalizes 80 = .ok (.invokevirtual 92, 3) := by decide +kernel
theorem dX12_generalizes_83 : decode cX12_generalizes 83 = .ok (.invokevirtual 150, 3) := by decide +kernel
theorem dX12_generalizes_86 : decode cX12_generalizes 86 = .ok (.iload 5, 2) := by decide +kernel
theorem dX12_generalizes_88 : decode cX12_generalizes 88 = .ok (.iload 6, 2) := by decide +kernel
theorem dX12_generalizes_90 : decode cX12_generalizes 90 = .ok (.ifCond .eq 10, 3) := by decide +kernel
theorem dX12_generalizes_93 : decode cX12_generalizes 93 = .ok (.aload_n 0, 1) := by decide +kernel
theorem dX12_generalizes_94 : decode cX12_generalizes 94 = .ok (.getfield 315, 3) := by decide +kernel
theorem dX12_generalizes_97 : decode cX12_generalizes 97 = .ok (.goto 4, 3) := by decide +kernel
theorem dX12_generalizes_100 : decode cX12_generalizes 100 = .ok (.iconst 1, 1) := by decide +kernel
theorem dX12_generalizes_101 : decode cX12_generalizes 101 = .ok (.iadd, 1) := by decide +kernel
theorem dX12_generalizes_102 : decode cX12_generalizes 102 = .ok (.istore 5, 2) := by decide +kernel
theorem dX12_generalizes_104 : decode cX12_generalizes 104 = .ok (.goto (-93), 3) := by decide +kernel
theorem dX12_generalizes_107 : decode cX12_generalizes 107 = .ok (.return_, 1) := by decide +kernel
theorem dX12_makesGeneral_0 : decode cX12_makesGeneral 0 = .ok (.iconst 0, 1) := by decide +kernel
theorem dX12_makesGeneral_1 : decode cX12_makesGeneral 1 = .ok (.istore_n 3, 1) := by decide +kernel
theorem dX12_makesGeneral_2 : decode cX12_makesGeneral 2 = .ok (.iload_n 3, 1) := by decide +kernel
theorem dX12_makesGeneral_3 : decode cX12_makesGeneral 3 = .ok (.iconst 3, 1) := by decide +kernel
theorem dX12_makesGeneral_4 : decode cX12_makesGeneral 4 = .ok (.if_icmp .ge 33, 3) := by decide +kernel
theorem dX12_makesGeneral_7 : decode cX12_makesGeneral 7 = .ok (.aload_n 0, 1) := by decide +kernel
theorem dX12_makesGeneral_8 : decode cX12_makesGeneral 8 = .ok (.iload_n 1, 1) := by decide +kernel
theorem dX12_makesGeneral_9 : decode cX12_makesGeneral 9 = .ok (.bipush 120, 2) := by decide +kernel
theorem dX12_makesGeneral_11 : decode cX12_makesGeneral 11 = .ok (.iload_n 3, 1) := by decide +kernel
theorem dX12_makesGeneral_12 : decode cX12_makesGeneral 12 = .ok (.iadd, 1) := by decide +kernel
theorem dX12_makesGeneral_13 : decode cX12_makesGeneral 13 = .ok (.invokevirtual 211, 3) := by decide +kernel
theorem dX12_makesGeneral_16 : decode cX12_makesGeneral 16 = .ok (.ifCond .ne 15, 3) := by decide +kernel
theorem dX12_makesGeneral_19 : decode cX12_makesGeneral 19 = .ok (.aload_n 0, 1) := by decide +kernel
theorem dX12_makesGeneral_20 : decode cX12_makesGeneral 20 = .ok (.iload_n 2, 1) := by decide +kernel
theorem dX12_makesGeneral_21 : decode cX12_makesGeneral 21 = .ok (.bipush 120, 2) := by decide +kernel
theorem dX12_makesGeneral_23 : decode cX12_makesGeneral 23 = .ok (.iload_n 3, 1) := by decide +kernel
theorem dX12_makesGeneral_24 : decode cX12_makesGeneral 24 = .ok (.iadd, 1) := by decide +kernel
theorem dX12_makesGeneral_25 : decode cX12_makesGeneral 25 = .ok (.invokevirtual 211, 3) := by decide +kernel
theorem dX12_makesGeneral_28 : decode cX12_makesGeneral 28 = .ok (.ifCond .eq 9, 3) := by decide +kernel
theorem dX12_makesGeneral_31 : decode cX12_makesGeneral 31 = .ok (.iinc 3 1, 3) := by decide +kernel
theorem dX12_makesGeneral_34 : decode cX12_makesGeneral 34 = .ok (.goto (-32), 3) := by decide +kernel
theorem dX12_makesGeneral_37 : decode cX12_makesGeneral 37 = .ok (.iload_n 3, 1) := by decide +kernel
theorem dX12_makesGeneral_38 : decode cX12_makesGeneral 38 = .ok (.iconst 3, 1) := by decide +kernel
theorem dX12_makesGeneral_39 : decode cX12_makesGeneral 39 = .ok (.if_icmp .eq 12, 3) := by decide +kernel
theorem dX12_makesGeneral_42 : decode cX12_makesGeneral 42 = .ok (.aload_n 0, 1) := by decide +kernel
theorem dX12_makesGeneral_43 : decode cX12_makesGeneral 43 = .ok (.iload_n 1, 1) := by decide +kernel
theorem dX12_makesGeneral_44 : decode cX12_makesGeneral 44 = .ok (.iload_n 2, 1) := by decide +kernel
theorem dX12_makesGeneral_45 : decode cX12_makesGeneral 45 = .ok (.invokevirtual 324, 3) := by decide +kernel
theorem dX12_makesGeneral_48 : decode cX12_makesGeneral 48 = .ok (.ifCond .ne 20, 3) := by decide +kernel
theorem dX12_makesGeneral_51 : decode cX12_makesGeneral 51 = .ok (.aload_n 0, 1) := by decide +kernel
theorem dX12_makesGeneral_52 : decode cX12_makesGeneral 52 = .ok (.iload_n 1, 1) := by decide +kernel
theorem dX12_makesGeneral_53 : decode cX12_makesGeneral 53 = .ok (.bipush 22, 2) := by decide +kernel
theorem dX12_makesGeneral_55 : decode cX12_makesGeneral 55 = .ok (.invokevirtual 161, 3) := by decide +kernel
theorem dX12_makesGeneral_58 : decode cX12_makesGeneral 58 = .ok (.aload_n 0, 1) := by decide +kernel
theorem dX12_makesGeneral_59 : decode cX12_makesGeneral 59 = .ok (.iload_n 2, 1) := by decide +kernel
theorem dX12_makesGeneral_60 : decode cX12_makesGeneral 60 = .ok (.bipush 23, 2) := by decide +kernel
theorem dX12_makesGeneral_62 : decode cX12_makesGeneral 62 = .ok (.invokevirtual 161, 3) := by decide +kernel
theorem dX12_makesGeneral_65 : decode cX12_makesGeneral 65 = .ok (.bipush (-9), 2) := by decide +kernel
theorem dX12_makesGeneral_67 : decode cX12_makesGeneral 67 = .ok (.ireturn, 1) := by decide +kernel
theorem dX12_makesGeneral_68 : decode cX12_makesGeneral 68 = .ok (.aload_n 0, 1) := by decide +kernel
theorem dX12_makesGeneral_69 : decode cX12_makesGeneral 69 = .ok (.iload_n 1, 1) := by decide +kernel
theorem dX12_makesGeneral_70 : decode cX12_makesGeneral 70 = .ok (.iload_n 1, 1) := by decide +kernel
theorem dX12_makesGeneral_71 : decode cX12_makesGeneral 71 = .ok (.bipush 120, 2) := by decide +kernel
theorem dX12_makesGeneral_73 : decode cX12_makesGeneral 73 = .ok (.iload_n 3, 1) := by decide +kernel
theorem dX12_makesGeneral_74 : decode cX12_makesGeneral 74 = .ok (.iadd, 1) := by decide +kernel
theorem dX12_makesGeneral_75 : decode cX12_makesGeneral 75 = .ok (.bipush 22, 2) := by decide +kernel
theorem dX12_makesGeneral_77 : decode cX12_makesGeneral 77 = .ok (.invokevirtual 327, 3) := by decide +kernel
theorem dX12_makesGeneral_80 : decode cX12_makesGeneral 80 = .ok (.aload_n 0, 1) := by decide +kernel
theorem dX12_makesGeneral_81 : decode cX12_makesGeneral 81 = .ok (.iload_n 2, 1) := by decide +kernel
theorem dX12_makesGeneral_82 : decode cX12_makesGeneral 82 = .ok (.iload_n 1, 1) := by decide +kernel
theorem dX12_makesGeneral_83 : decode cX12_makesGeneral 83 = .ok (.bipush 120, 2) := by decide +kernel
theorem dX12_makesGeneral_85 : decode cX12_makesGeneral 85 = .ok (.iload_n 3, 1) := by decide +kernel
theorem dX12_makesGeneral_86 : decode cX12_makesGeneral 86 = .ok (.iadd, 1) := by decide +kernel
theorem dX12_makesGeneral_87 : decode cX12_makesGeneral 87 = .ok (.bipush 23, 2) := by decide +kernel
theorem dX12_makesGeneral_89 : decode cX12_makesGeneral 89 = .ok (.invokevirtual 327, 3) := by decide +kernel
theorem dX12_makesGeneral_92 : decode cX12_makesGeneral 92 = .ok (.iload_n 3, 1) := by decide +kernel
theorem dX12_makesGeneral_93 : decode cX12_makesGeneral 93 = .ok (.ireturn, 1) := by decide +kernel
theorem dX12_general_0 : decode cX12_general 0 = .ok (.iload_n 1, 1) := by decide +kernel
theorem dX12_general_1 : decode cX12_general 1 = .ok (.iconst 0, 1) := by decide +kernel
theorem dX12_general_2 : decode cX12_general 2 = .ok (.iconst 1, 1) := by decide +kernel
theorem dX12_general_3 : decode cX12_general 3 = .ok (.invokestatic 96, 3) := by decide +kernel
theorem dX12_general_6 : decode cX12_general 6 = .ok (.ifCond .eq 19, 3) := by decide +kernel
theorem dX12_general_9 : decode cX12_general 9 = .ok (.iload_n 2, 1) := by decide +kernel
theorem dX12_general_10 : decode cX12_general 10 = .ok (.bipush (-9), 2) := by decide +kernel
theorem dX12_general_12 : decode cX12_general 12 = .ok (.if_icmp .eq 16, 3) := by decide +kernel
theorem dX12_general_15 : decode cX12_general 15 = .ok (.iload_n 2, 1) := by decide +kernel
theorem dX12_general_16 : decode cX12_general 16 = .ok (.iconst 0, 1) := by decide +kernel
theorem dX12_general_17 : decode cX12_general 17 = .ok (.bipush 19, 2) := by decide +kernel
theorem dX12_general_19 : decode cX12_general 19 = .ok (.invokestatic 96, 3) := by decide +kernel
theorem dX12_general_22 : decode cX12_general 22 = .ok (.ifCond .ne 6, 3) := by decide +kernel
theorem dX12_general_25 : decode cX12_general 25 = .ok (.bipush (-2), 2) := by decide +kernel
theorem dX12_general_27 : decode cX12_general 27 = .ok (.ireturn, 1) := by decide +kernel
theorem dX12_general_28 : decode cX12_general 28 = .ok (.aload_n 0, 1) := by decide +kernel
theorem dX12_general_29 : decode cX12_general 29 = .ok (.getfield 164, 3) := by decide +kernel
theorem dX12_general_32 : decode cX12_general 32 = .ok (.ifCond .ne 6, 3) := by decide +kernel
theorem dX12_general_35 : decode cX12_general 35 = .ok (.bipush (-3), 2) := by decide +kernel
theorem dX12_general_37 : decode cX12_general 37 = .ok (.ireturn, 1) := by decide +kernel
theorem dX12_general_38 : decode cX12_general 38 = .ok (.aload_n 0, 1) := by decide +kernel
theorem dX12_general_39 : decode cX12_general 39 = .ok (.iconst 0, 1) := by decide +kernel
theorem dX12_general_40 : decode cX12_general 40 = .ok (.iconst 1, 1) := by decide +kernel
theorem dX12_general_41 : decode cX12_general 41 = .ok (.invokevirtual 331, 3) := by decide +kernel
theorem dX12_general_44 : decode cX12_general 44 = .ok (.pop, 1) := by decide +kernel
theorem dX12_general_45 : decode cX12_general 45 = .ok (.aload_n 0, 1) := by decide +kernel
theorem dX12_general_46 : decode cX12_general 46 = .ok (.bipush 22, 2) := by decide +kernel
theorem dX12_general_48 : decode cX12_general 48 = .ok (.iload_n 1, 1) := by decide +kernel
theorem dX12_general_49 : decode cX12_general 49 = .ok (.iadd, 1) := by decide +kernel
theorem dX12_general_50 : decode cX12_general 50 = .ok (.iload_n 2, 1) := by decide +kernel
theorem dX12_general_51 : decode cX12_general 51 = .ok (.invokevirtual 168, 3) := by decide +kernel
theorem dX12_general_54 : decode cX12_general 54 = .ok (.ireturn, 1) := by decide +kernel
theorem dX12_notesIt_0 : decode cX12_notesIt 0 = .ok (.aload_n 0, 1) := by decide +kernel
theorem dX12_notesIt_1 : decode cX12_notesIt 1 = .ok (.getfield 174, 3) := by decide +kernel
theorem dX12_notesIt_4 : decode cX12_notesIt 4 = .ok (.bipush 99, 2) := by decide +kernel
theorem dX12_notesIt_6 : decode cX12_notesIt 6 = .ok (.if_icmp .ge 33, 3) := by decide +kernel
theorem dX12_notesIt_9 : decode cX12_notesIt 9 = .ok (.aload_n 0, 1) := by decide +kernel
theorem dX12_notesIt_10 : decode cX12_notesIt 10 = .ok (.getfield 73, 3) := by decide +kernel
theorem dX12_notesIt_13 : decode cX12_notesIt 13 = .ok (.aload_n 0, 1) := by decide +kernel
theorem dX12_notesIt_14 : decode cX12_notesIt 14 = .ok (.getfield 174, 3) := by decide +kernel
theorem dX12_notesIt_17 : decode cX12_notesIt 17 = .ok (.iload_n 1, 1) := by decide +kernel
theorem dX12_notesIt_18 : decode cX12_notesIt 18 = .ok (.iastore, 1) := by decide +kernel
theorem dX12_notesIt_19 : decode cX12_notesIt 19 = .ok (.aload_n 0, 1) := by decide +kernel
theorem dX12_notesIt_20 : decode cX12_notesIt 20 = .ok (.getfield 76, 3) := by decide +kernel
theorem dX12_notesIt_23 : decode cX12_notesIt 23 = .ok (.aload_n 0, 1) := by decide +kernel
theorem dX12_notesIt_24 : decode cX12_notesIt 24 = .ok (.getfield 174, 3) := by decide +kernel
theorem dX12_notesIt_27 : decode cX12_notesIt 27 = .ok (.iload_n 2, 1) := by decide +kernel
theorem dX12_notesIt_28 : decode cX12_notesIt 28 = .ok (.iastore, 1) := by decide +kernel
theorem dX12_notesIt_29 : decode cX12_notesIt 29 = .ok (.aload_n 0, 1) := by decide +kernel
theorem dX12_notesIt_30 : decode cX12_notesIt 30 = .ok (.dup, 1) := by decide +kernel
theorem dX12_notesIt_31 : decode cX12_notesIt 31 = .ok (.getfield 174, 3) := by decide +kernel
theorem dX12_notesIt_34 : decode cX12_notesIt 34 = .ok (.iconst 1, 1) := by decide +kernel
theorem dX12_notesIt_35 : decode cX12_notesIt 35 = .ok (.iadd, 1) := by decide +kernel
theorem dX12_notesIt_36 : decode cX12_notesIt 36 = .ok (.putfield 174, 3) := by decide +kernel
theorem dX12_notesIt_39 : decode cX12_notesIt 39 = .ok (.return_, 1) := by decide +kernel
theorem dX12_slotOf_0 : decode cX12_slotOf 0 = .ok (.bipush 6, 2) := by decide +kernel
theorem dX12_slotOf_2 : decode cX12_slotOf 2 = .ok (.aload_n 0, 1) := by decide +kernel
theorem dX12_slotOf_3 : decode cX12_slotOf 3 = .ok (.getfield 334, 3) := by decide +kernel
theorem dX12_slotOf_6 : decode cX12_slotOf 6 = .ok (.imul, 1) := by decide +kernel
theorem dX12_slotOf_7 : decode cX12_slotOf 7 = .ok (.iload_n 1, 1) := by decide +kernel
theorem dX12_slotOf_8 : decode cX12_slotOf 8 = .ok (.iadd, 1) := by decide +kernel
theorem dX12_slotOf_9 : decode cX12_slotOf 9 = .ok (.iload_n 2, 1) := by decide +kernel
theorem dX12_slotOf_10 : decode cX12_slotOf 10 = .ok (.iadd, 1) := by decide +kernel
theorem dX12_slotOf_11 : decode cX12_slotOf 11 = .ok (.ireturn, 1) := by decide +kernel
theorem dX12_fails_0 : decode cX12_fails 0 = .ok (.iload_n 2, 1) := by decide +kernel
theorem dX12_fails_1 : decode cX12_fails 1 = .ok (.ifCond .eq 16, 3) := by decide +kernel
theorem dX12_fails_4 : decode cX12_fails 4 = .ok (.aload_n 0, 1) := by decide +kernel
theorem dX12_fails_5 : decode cX12_fails 5 = .ok (.aload_n 0, 1) := by decide +kernel
theorem dX12_fails_6 : decode cX12_fails 6 = .ok (.getfield 334, 3) := by decide +kernel
theorem dX12_fails_9 : decode cX12_fails 9 = .ok (.putfield 337, 3) := by decide +kernel
theorem dX12_fails_12 : decode cX12_fails 12 = .ok (.aload_n 0, 1) := by decide +kernel
theorem dX12_fails_13 : decode cX12_fails 13 = .ok (.iload_n 1, 1) := by decide +kernel
theorem dX12_fails_14 : decode cX12_fails 14 = .ok (.putfield 340, 3) := by decide +kernel
theorem dX12_fails_17 : decode cX12_fails 17 = .ok (.aload_n 0, 1) := by decide +kernel
theorem dX12_fails_18 : decode cX12_fails 18 = .ok (.bipush 8, 2) := by decide +kernel
theorem dX12_fails_20 : decode cX12_fails 20 = .ok (.iload_n 1, 1) := by decide +kernel
theorem dX12_fails_21 : decode cX12_fails 21 = .ok (.invokevirtual 308, 3) := by decide +kernel
theorem dX12_fails_24 : decode cX12_fails 24 = .ok (.iload_n 1, 1) := by decide +kernel
theorem dX12_fails_25 : decode cX12_fails 25 = .ok (.ireturn, 1) := by decide +kernel
theorem dX12_isLemma_0 : decode cX12_isLemma 0 = .ok (.iconst 0, 1) := by decide +kernel
theorem dX12_isLemma_1 : decode cX12_isLemma 1 = .ok (.istore_n 3, 1) := by decide +kernel
theorem dX12_isLemma_2 : decode cX12_isLemma 2 = .ok (.iload_n 3, 1) := by decide +kernel
theorem dX12_isLemma_3 : decode cX12_isLemma 3 = .ok (.aload_n 0, 1) := by decide +kernel
theorem dX12_isLemma_4 : decode cX12_isLemma 4 = .ok (.getfield 171, 3) := by decide +kernel
theorem dX12_isLemma_7 : decode cX12_isLemma 7 = .ok (.if_icmp .ge 41, 3) := by decide +kernel
theorem dX12_isLemma_10 : decode cX12_isLemma 10 = .ok (.aload_n 0, 1) := by decide +kernel
theorem dX12_isLemma_11 : decode cX12_isLemma 11 = .ok (.bipush 28, 2) := by decide +kernel
theorem dX12_isLemma_13 : decode cX12_isLemma 13 = .ok (.iconst 2, 1) := by decide +kernel
theorem dX12_isLemma_14 : decode cX12_isLemma 14 = .ok (.iload_n 3, 1) := by decide +kernel
theorem dX12_isLemma_15 : decode cX12_isLemma 15 = .ok (.imul, 1) := by decide +kernel
theorem dX12_isLemma_16 : decode cX12_isLemma 16 = .ok (.iadd, 1) := by decide +kernel
theorem dX12_isLemma_17 : decode cX12_isLemma 17 = .ok (.iload_n 1, 1) := by decide +kernel
theorem dX12_isLemma_18 : decode cX12_isLemma 18 = .ok (.invokevirtual 343, 3) := by decide +kernel
theorem dX12_isLemma_21 : decode cX12_isLemma 21 = .ok (.ifCond .eq 21, 3) := by decide +kernel
theorem dX12_isLemma_24 : decode cX12_isLemma 24 = .ok (.aload_n 0, 1) := by decide +kernel
theorem dX12_isLemma_25 : decode cX12_isLemma 25 = .ok (.bipush 28, 2) := by decide +kernel
theorem dX12_isLemma_27 : decode cX12_isLemma 27 = .ok (.iconst 2, 1) := by decide +kernel
theorem dX12_isLemma_28 : decode cX12_isLemma 28 = .ok (.iload_n 3, 1) := by decide +kernel
theorem dX12_isLemma_29 : decode cX12_isLemma 29 = .ok (.imul, 1) := by decide +kernel
theorem dX12_isLemma_30 : decode cX12_isLemma 30 = .ok (.iadd, 1) := by decide +kernel
theorem dX12_isLemma_31 : decode cX12_isLemma 31 = .ok (.iconst 1, 1) := by decide +kernel
theorem dX12_isLemma_32 : decode cX12_isLemma 32 = .ok (.iadd, 1) := by decide +kernel
theorem dX12_isLemma_33 : decode cX12_isLemma 33 = .ok (.iload_n 2, 1) := by decide +kernel
theorem dX12_isLemma_34 : decode cX12_isLemma 34 = .ok (.invokevirtual 343, 3) := by decide +kernel
theorem dX12_isLemma_37 : decode cX12_isLemma 37 = .ok (.ifCond .eq 5, 3) := by decide +kernel
theorem dX12_isLemma_40 : decode cX12_isLemma 40 = .ok (.iconst 1, 1) := by decide +kernel
theorem dX12_isLemma_41 : decode cX12_isLemma 41 = .ok (.ireturn, 1) := by decide +kernel
theorem dX12_isLemma_42 : decode cX12_isLemma 42 = .ok (.iinc 3 1, 3) := by decide +kernel
theorem dX12_isLemma_45 : decode cX12_isLemma 45 = .ok (.goto (-43), 3) := by decide +kernel
theorem dX12_isLemma_48 : decode cX12_isLemma 48 = .ok (.iconst 0, 1) := by decide +kernel
theorem dX12_isLemma_49 : decode cX12_isLemma 49 = .ok (.ireturn, 1) := by decide +kernel
theorem dX12_proves_0 : decode cX12_proves 0 = .ok (.aload_n 0, 1) := by decide +kernel
theorem dX12_proves_1 : decode cX12_proves 1 = .ok (.iconst 2, 1) := by decide +kernel
theorem dX12_proves_2 : decode cX12_proves 2 = .ok (.iconst 0, 1) := by decide +kernel
theorem dX12_proves_3 : decode cX12_proves 3 = .ok (.invokevirtual 346, 3) := by decide +kernel
theorem dX12_proves_6 : decode cX12_proves 6 = .ok (.istore_n 1, 1) := by decide +kernel
theorem dX12_proves_7 : decode cX12_proves 7 = .ok (.aload_n 0, 1) := by decide +kernel
theorem dX12_proves_8 : decode cX12_proves 8 = .ok (.iconst 2, 1) := by decide +kernel
theorem dX12_proves_9 : decode cX12_proves 9 = .ok (.iconst 1, 1) := by decide +kernel
theorem dX12_proves_10 : decode cX12_proves 10 = .ok (.invokevirtual 346, 3) := by decide +kernel
theorem dX12_proves_13 : decode cX12_proves 13 = .ok (.istore_n 2, 1) := by decide +kernel
theorem dX12_proves_14 : decode cX12_proves 14 = .ok (.aload_n 0, 1) := by decide +kernel
theorem dX12_proves_15 : decode cX12_proves 15 = .ok (.bipush 7, 2) := by decide +kernel
theorem dX12_proves_17 : decode cX12_proves 17 = .ok (.aload_n 0, 1) := by decide +kernel
theorem dX12_proves_18 : decode cX12_proves 18 = .ok (.getfield 334, 3) := by decide +kernel
theorem dX12_proves_21 : decode cX12_proves 21 = .ok (.invokevirtual 308, 3) := by decide +kernel
theorem dX12_proves_24 : decode cX12_proves 24 = .ok (.aload_n 0, 1) := by decide +kernel
theorem dX12_proves_25 : decode cX12_proves 25 = .ok (.iload_n 1, 1) := by decide +kernel
theorem dX12_proves_26 : decode cX12_proves 26 = .ok (.iload_n 2, 1) := by decide +kernel
theorem dX12_proves_27 : decode cX12_proves 27 = .ok (.invokevirtual 343, 3) := by decide +kernel
theorem dX12_proves_30 : decode cX12_proves 30 = .ok (.ifCond .ne 61, 3) := by decide +kernel
theorem dX12_proves_33 : decode cX12_proves 33 = .ok (.aload_n 0, 1) := by decide +kernel
theorem dX12_proves_34 : decode cX12_proves 34 = .ok (.getfield 171, 3) := by decide +kernel
theorem dX12_proves_37 : decode cX12_proves 37 = .ok (.bipush 8, 2) := by decide +kernel
theorem dX12_proves_39 : decode cX12_proves 39 = .ok (.if_icmp .ge 52, 3) := by decide +kernel
theorem dX12_proves_42 : decode cX12_proves 42 = .ok (.aload_n 0, 1) := by decide +kernel
theorem dX12_proves_43 : decode cX12_proves 43 = .ok (.iload_n 1, 1) := by decide +kernel
theorem dX12_proves_44 : decode cX12_proves 44 = .ok (.iload_n 2, 1) := by decide +kernel
theorem dX12_proves_45 : decode cX12_proves 45 = .ok (.invokevirtual 349, 3) := by decide +kernel
theorem dX12_proves_48 : decode cX12_proves 48 = .ok (.ifCond .ne 43, 3) := by decide +kernel
theorem dX12_proves_51 : decode cX12_proves 51 = .ok (.aload_n 0, 1) := by decide +kernel
theorem dX12_proves_52 : decode cX12_proves 52 = .ok (.iload_n 1, 1) := by decide +kernel
theorem dX12_proves_53 : decode cX12_proves 53 = .ok (.bipush 28, 2) := by decide +kernel
theorem dX12_proves_55 : decode cX12_proves 55 = .ok (.iconst 2, 1) := by decide +kernel
theorem dX12_proves_56 : decode cX12_proves 56 = .ok (.aload_n 0, 1) := by decide +kernel
theorem dX12_proves_57 : decode cX12_proves 57 = .ok (.getfield 171, 3) := by decide +kernel
theorem dX12_proves_60 : decode cX12_proves 60 = .ok (.imul, 1) := by decide +kernel
theorem dX12_proves_61 : decode cX12_proves 61 = .ok (.iadd, 1) := by decide +kernel
theorem dX12_proves_62 : decode cX12_proves 62 = .ok (.invokevirtual 161, 3) := by decide +kernel
theorem dX12_proves_65 : decode cX12_proves 65 = .ok (.aload_n 0, 1) := by decide +kernel
theorem dX12_proves_66 : decode cX12_proves 66 = .ok (.iload_n 2, 1) := by decide +kernel
theorem dX12_proves_67 : decode cX12_proves 67 = .ok (.bipush 28, 2) := by decide +kernel
theorem dX12_proves_69 : decode cX12_proves 69 = .ok (.iconst 2, 1) := by decide +kernel
theorem dX12_proves_70 : decode cX12_proves 70 = .ok (.aload_n 0, 1) := by decide +kernel
theorem dX12_proves_71 : decode cX12_proves 71 = .ok (.getfield 171, 3) := by decide +kernel
theorem dX12_proves_74 : decode cX12_proves 74 = .ok (.imul, 1) := by decide +kernel
theorem dX12_proves_75 : decode cX12_proves 75 = .ok (.iadd, 1) := by decide +kernel
theorem dX12_proves_76 : decode cX12_proves 76 = .ok (.iconst 1, 1) := by decide +kernel
theorem dX12_proves_77 : decode cX12_proves 77 = .ok (.iadd, 1) := by decide +kernel
theorem dX12_proves_78 : decode cX12_proves 78 = .ok (.invokevirtual 161, 3) := by decide +kernel
theorem dX12_proves_81 : decode cX12_proves 81 = .ok (.aload_n 0, 1) := by decide +kernel
theorem dX12_proves_82 : decode cX12_proves 82 = .ok (.dup, 1) := by decide +kernel
theorem dX12_proves_83 : decode cX12_proves 83 = .ok (.getfield 171, 3) := by decide +kernel
theorem dX12_proves_86 : decode cX12_proves 86 = .ok (.iconst 1, 1) := by decide +kernel
theorem dX12_proves_87 : decode cX12_proves 87 = .ok (.iadd, 1) := by decide +kernel
theorem dX12_proves_88 : decode cX12_proves 88 = .ok (.putfield 171, 3) := by decide +kernel
theorem dX12_proves_91 : decode cX12_proves 91 = .ok (.iconst 0, 1) := by decide +kernel
theorem dX12_proves_92 : decode cX12_proves 92 = .ok (.ireturn, 1) := by decide +kernel
theorem dX12_begins_0 : decode cX12_begins 0 = .ok (.aload_n 0, 1) := by decide +kernel
theorem dX12_begins_1 : decode cX12_begins 1 = .ok (.iconst 2, 1) := by decide +kernel
theorem dX12_begins_2 : decode cX12_begins 2 = .ok (.iconst 0, 1) := by decide +kernel
theorem dX12_begins_3 : decode cX12_begins 3 = .ok (.invokevirtual 346, 3) := by decide +kernel
theorem dX12_begins_6 : decode cX12_begins 6 = .ok (.istore_n 1, 1) := by decide +kernel
theorem dX12_begins_7 : decode cX12_begins 7 = .ok (.aload_n 0, 1) := by decide +kernel
theorem dX12_begins_8 : decode cX12_begins 8 = .ok (.iconst 2, 1) := by decide +kernel
theorem dX12_begins_9 : decode cX12_begins 9 = .ok (.iconst 1, 1) := by decide +kernel
theorem dX12_begins_10 : decode cX12_begins 10 = .ok (.invokevirtual 346, 3) := by decide +kernel
theorem dX12_begins_13 : decode cX12_begins 13 = .ok (.istore_n 2, 1) := by decide +kernel
theorem dX12_begins_14 : decode cX12_begins 14 = .ok (.aload_n 0, 1) := by decide +kernel
theorem dX12_begins_15 : decode cX12_begins 15 = .ok (.iconst 0, 1) := by decide +kernel
theorem dX12_begins_16 : decode cX12_begins 16 = .ok (.aload_n 0, 1) := by decide +kernel
theorem dX12_begins_17 : decode cX12_begins 17 = .ok (.getfield 334, 3) := by decide +kernel
theorem dX12_begins_20 : decode cX12_begins 20 = .ok (.invokevirtual 308, 3) := by decide +kernel
theorem dX12_begins_23 : decode cX12_begins 23 = .ok (.aload_n 0, 1) := by decide +kernel
theorem dX12_begins_24 : decode cX12_begins 24 = .ok (.iconst 0, 1) := by decide +kernel
theorem dX12_begins_25 : decode cX12_begins 25 = .ok (.putfield 352, 3) := by decide +kernel
theorem dX12_begins_28 : decode cX12_begins 28 = .ok (.aload_n 0, 1) := by decide +kernel
theorem dX12_begins_29 : decode cX12_begins 29 = .ok (.iload_n 1, 1) := by decide +kernel
theorem dX12_begins_30 : decode cX12_begins 30 = .ok (.iload_n 2, 1) := by decide +kernel
theorem dX12_begins_31 : decode cX12_begins 31 = .ok (.invokevirtual 218, 3) := by decide +kernel
theorem dX12_begins_34 : decode cX12_begins 34 = .ok (.bipush (-9), 2) := by decide +kernel
theorem dX12_begins_36 : decode cX12_begins 36 = .ok (.if_icmp .eq 10, 3) := by decide +kernel
theorem dX12_begins_39 : decode cX12_begins 39 = .ok (.aload_n 0, 1) := by decide +kernel
theorem dX12_begins_40 : decode cX12_begins 40 = .ok (.iconst 1, 1) := by decide +kernel
theorem dX12_begins_41 : decode cX12_begins 41 = .ok (.iconst 1, 1) := by decide +kernel
theorem dX12_begins_42 : decode cX12_begins 42 = .ok (.invokevirtual 355, 3) := by decide +kernel
theorem dX12_begins_45 : decode cX12_begins 45 = .ok (.ireturn, 1) := by decide +kernel
theorem dX12_begins_46 : decode cX12_begins 46 = .ok (.aload_n 0, 1) := by decide +kernel
theorem dX12_begins_47 : decode cX12_begins 47 = .ok (.iload_n 1, 1) := by decide +kernel
theorem dX12_begins_48 : decode cX12_begins 48 = .ok (.aload_n 0, 1) := by decide +kernel
theorem dX12_begins_49 : decode cX12_begins 49 = .ok (.iconst 4, 1) := by decide +kernel
theorem dX12_begins_50 : decode cX12_begins 50 = .ok (.iconst 0, 1) := by decide +kernel
theorem dX12_begins_51 : decode cX12_begins 51 = .ok (.invokevirtual 346, 3) := by decide +kernel
theorem dX12_begins_54 : decode cX12_begins 54 = .ok (.invokevirtual 248, 3) := by decide +kernel
theorem dX12_begins_57 : decode cX12_begins 57 = .ok (.ifCond .eq 17, 3) := by decide +kernel
theorem dX12_begins_60 : decode cX12_begins 60 = .ok (.aload_n 0, 1) := by decide +kernel
theorem dX12_begins_61 : decode cX12_begins 61 = .ok (.iload_n 2, 1) := by decide +kernel
theorem dX12_begins_62 : decode cX12_begins 62 = .ok (.aload_n 0, 1) := by decide +kernel
theorem dX12_begins_63 : decode cX12_begins 63 = .ok (.iconst 4, 1) := by decide +kernel
theorem dX12_begins_64 : decode cX12_begins 64 = .ok (.iconst 1, 1) := by decide +kernel
theorem dX12_begins_65 : decode cX12_begins 65 = .ok (.invokevirtual 346, 3) := by decide +kernel
theorem dX12_begins_68 : decode cX12_begins 68 = .ok (.invokevirtual 248, 3) := by decide +kernel
theorem dX12_begins_71 : decode cX12_begins 71 = .ok (.ifCond .ne 5, 3) := by decide +kernel
theorem dX12_begins_74 : decode cX12_begins 74 = .ok (.iconst 3, 1) := by decide +kernel
theorem dX12_begins_75 : decode cX12_begins 75 = .ok (.ireturn, 1) := by decide +kernel
theorem dX12_begins_76 : decode cX12_begins 76 = .ok (.aload_n 0, 1) := by decide +kernel
theorem dX12_begins_77 : decode cX12_begins 77 = .ok (.aload_n 0, 1) := by decide +kernel
theorem dX12_begins_78 : decode cX12_begins 78 = .ok (.iconst 4, 1) := by decide +kernel
theorem dX12_begins_79 : decode cX12_begins 79 = .ok (.iconst 0, 1) := by decide +kernel
theorem dX12_begins_80 : decode cX12_begins 80 = .ok (.invokevirtual 346, 3) := by decide +kernel
theorem dX12_begins_83 : decode cX12_begins 83 = .ok (.aload_n 0, 1) := by decide +kernel
theorem dX12_begins_84 : decode cX12_begins 84 = .ok (.iconst 4, 1) := by decide +kernel
theorem dX12_begins_85 : decode cX12_begins 85 = .ok (.iconst 1, 1) := by decide +kernel
theorem dX12_begins_86 : decode cX12_begins 86 = .ok (.invokevirtual 346, 3) := by decide +kernel
theorem dX12_begins_89 : decode cX12_begins 89 = .ok (.invokevirtual 343, 3) := by decide +kernel
theorem dX12_begins_92 : decode cX12_begins 92 = .ok (.ifCond .eq 14, 3) := by decide +kernel
theorem dX12_begins_95 : decode cX12_begins 95 = .ok (.aload_n 0, 1) := by decide +kernel
theorem dX12_begins_96 : decode cX12_begins 96 = .ok (.iconst 1, 1) := by decide +kernel
theorem dX12_begins_97 : decode cX12_begins 97 = .ok (.iconst 0, 1) := by decide +kernel
theorem dX12_begins_98 : decode cX12_begins 98 = .ok (.invokevirtual 308, 3) := by decide +kernel
theorem dX12_begins_101 : decode cX12_begins 101 = .ok (.aload_n 0, 1) := by decide +kernel
theorem dX12_begins_102 : decode cX12_begins 102 = .ok (.invokevirtual 359, 3) := by decide +kernel
theorem dX12_begins_105 : decode cX12_begins 105 = .ok (.ireturn, 1) := by decide +kernel
theorem dX12_begins_106 : decode cX12_begins 106 = .ok (.aload_n 0, 1) := by decide +kernel
theorem dX12_begins_107 : decode cX12_begins 107 = .ok (.aload_n 0, 1) := by decide +kernel
theorem dX12_begins_108 : decode cX12_begins 108 = .ok (.iconst 4, 1) := by decide +kernel
theorem dX12_begins_109 : decode cX12_begins 109 = .ok (.iconst 0, 1) := by decide +kernel
theorem dX12_begins_110 : decode cX12_begins 110 = .ok (.invokevirtual 346, 3) := by decide +kernel
theorem dX12_begins_113 : decode cX12_begins 113 = .ok (.aload_n 0, 1) := by decide +kernel
theorem dX12_begins_114 : decode cX12_begins 114 = .ok (.iconst 4, 1) := by decide +kernel
theorem dX12_begins_115 : decode cX12_begins 115 = .ok (.iconst 1, 1) := by decide +kernel
theorem dX12_begins_116 : decode cX12_begins 116 = .ok (.invokevirtual 346, 3) := by decide +kernel
theorem dX12_begins_119 : decode cX12_begins 119 = .ok (.invokevirtual 263, 3) := by decide +kernel
theorem dX12_begins_122 : decode cX12_begins 122 = .ok (.ifCond .ne 10, 3) := by decide +kernel
theorem dX12_begins_125 : decode cX12_begins 125 = .ok (.aload_n 0, 1) := by decide +kernel
theorem dX12_begins_126 : decode cX12_begins 126 = .ok (.iconst 2, 1) := by decide +kernel
theorem dX12_begins_127 : decode cX12_begins 127 = .ok (.iconst 1, 1) := by decide +kernel
theorem dX12_begins_128 : decode cX12_begins 128 = .ok (.invokevirtual 355, 3) := by decide +kernel
theorem dX12_begins_131 : decode cX12_begins 131 = .ok (.ireturn, 1) := by decide +kernel
theorem dX12_begins_132 : decode cX12_begins 132 = .ok (.aload_n 0, 1) := by decide +kernel
theorem dX12_begins_133 : decode cX12_begins 133 = .ok (.iconst 2, 1) := by decide +kernel
theorem dX12_begins_134 : decode cX12_begins 134 = .ok (.bipush 10, 2) := by decide +kernel
theorem dX12_begins_136 : decode cX12_begins 136 = .ok (.aload_n 0, 1) := by decide +kernel
theorem dX12_begins_137 : decode cX12_begins 137 = .ok (.getfield 257, 3) := by decide +kernel
theorem dX12_begins_140 : decode cX12_begins 140 = .ok (.imul, 1) := by decide +kernel
theorem dX12_begins_141 : decode cX12_begins 141 = .ok (.aload_n 0, 1) := by decide +kernel
theorem dX12_begins_142 : decode cX12_begins 142 = .ok (.getfield 260, 3) := by decide +kernel
theorem dX12_begins_145 : decode cX12_begins 145 = .ok (.iadd, 1) := by decide +kernel
theorem dX12_begins_146 : decode cX12_begins 146 = .ok (.invokevirtual 308, 3) := by decide +kernel
theorem dX12_begins_149 : decode cX12_begins 149 = .ok (.aload_n 0, 1) := by decide +kernel
theorem dX12_begins_150 : decode cX12_begins 150 = .ok (.getfield 86, 3) := by decide +kernel
theorem dX12_begins_153 : decode cX12_begins 153 = .ok (.aload_n 0, 1) := by decide +kernel
theorem dX12_begins_154 : decode cX12_begins 154 = .ok (.getfield 334, 3) := by decide +kernel
theorem dX12_begins_157 : decode cX12_begins 157 = .ok (.aload_n 0, 1) := by decide +kernel
theorem dX12_begins_158 : decode cX12_begins 158 = .ok (.getfield 260, 3) := by decide +kernel
theorem dX12_begins_161 : decode cX12_begins 161 = .ok (.iastore, 1) := by decide +kernel
theorem dX12_begins_162 : decode cX12_begins 162 = .ok (.aload_n 0, 1) := by decide +kernel
theorem dX12_begins_163 : decode cX12_begins 163 = .ok (.getfield 89, 3) := by decide +kernel
theorem dX12_begins_166 : decode cX12_begins 166 = .ok (.aload_n 0, 1) := by decide +kernel
theorem dX12_begins_167 : decode cX12_begins 167 = .ok (.getfield 334, 3) := by decide +kernel
theorem dX12_begins_170 : decode cX12_begins 170 = .ok (.aload_n 0, 1) := by decide +kernel
theorem dX12_begins_171 : decode cX12_begins 171 = .ok (.getfield 257, 3) := by decide +kernel
theorem dX12_begins_174 : decode cX12_begins 174 = .ok (.iastore, 1) := by decide +kernel
theorem dX12_begins_175 : decode cX12_begins 175 = .ok (.aload_n 0, 1) := by decide +kernel
theorem dX12_begins_176 : decode cX12_begins 176 = .ok (.getfield 83, 3) := by decide +kernel
theorem dX12_begins_179 : decode cX12_begins 179 = .ok (.aload_n 0, 1) := by decide +kernel
theorem dX12_begins_180 : decode cX12_begins 180 = .ok (.getfield 334, 3) := by decide +kernel
theorem dX12_begins_183 : decode cX12_begins 183 = .ok (.iconst 0, 1) := by decide +kernel
theorem dX12_begins_184 : decode cX12_begins 184 = .ok (.iastore, 1) := by decide +kernel
theorem dX12_begins_185 : decode cX12_begins 185 = .ok (.iconst 5, 1) := by decide +kernel
theorem dX12_begins_186 : decode cX12_begins 186 = .ok (.ireturn, 1) := by decide +kernel
theorem dX12_takesCase_0 : decode cX12_takesCase 0 = .ok (.aload_n 0, 1) := by decide +kernel
theorem dX12_takesCase_1 : decode cX12_takesCase 1 = .ok (.iconst 4, 1) := by decide +kernel
theorem dX12_takesCase_2 : decode cX12_takesCase 2 = .ok (.iload_n 1, 1) := by decide +kernel
theorem dX12_takesCase_3 : decode cX12_takesCase 3 = .ok (.invokevirtual 346, 3) := by decide +kernel
theorem dX12_takesCase_6 : decode cX12_takesCase 6 = .ok (.istore_n 2, 1) := by decide +kernel
theorem dX12_takesCase_7 : decode cX12_takesCase 7 = .ok (.bipush 24, 2) := by decide +kernel
theorem dX12_takesCase_9 : decode cX12_takesCase 9 = .ok (.iload_n 1, 1) := by decide +kernel
theorem dX12_takesCase_10 : decode cX12_takesCase 10 = .ok (.iadd, 1) := by decide +kernel
theorem dX12_takesCase_11 : decode cX12_takesCase 11 = .ok (.istore_n 3, 1) := by decide +kernel
theorem dX12_takesCase_12 : decode cX12_takesCase 12 = .ok (.bipush 120, 2) := by decide +kernel
theorem dX12_takesCase_14 : decode cX12_takesCase 14 = .ok (.aload_n 0, 1) := by decide +kernel
theorem dX12_takesCase_15 : decode cX12_takesCase 15 = .ok (.getfield 86, 3) := by decide +kernel
theorem dX12_takesCase_18 : decode cX12_takesCase 18 = .ok (.aload_n 0, 1) := by decide +kernel
theorem dX12_takesCase_19 : decode cX12_takesCase 19 = .ok (.getfield 334, 3) := by decide +kernel
theorem dX12_takesCase_22 : decode cX12_takesCase 22 = .ok (.iaload, 1) := by decide +kernel
theorem dX12_takesCase_23 : decode cX12_takesCase 23 = .ok (.iadd, 1) := by decide +kernel
theorem dX12_takesCase_24 : decode cX12_takesCase 24 = .ok (.istore 4, 2) := by decide +kernel
theorem dX12_takesCase_26 : decode cX12_takesCase 26 = .ok (.aload_n 0, 1) := by decide +kernel
theorem dX12_takesCase_27 : decode cX12_takesCase 27 = .ok (.getfield 83, 3) := by decide +kernel
theorem dX12_takesCase_30 : decode cX12_takesCase 30 = .ok (.aload_n 0, 1) := by decide +kernel
theorem dX12_takesCase_31 : decode cX12_takesCase 31 = .ok (.getfield 334, 3) := by decide +kernel
theorem dX12_takesCase_34 : decode cX12_takesCase 34 = .ok (.iaload, 1) := by decide +kernel
theorem dX12_takesCase_35 : decode cX12_takesCase 35 = .ok (.aload_n 0, 1) := by decide +kernel
theorem dX12_takesCase_36 : decode cX12_takesCase 36 = .ok (.getfield 89, 3) := by decide +kernel
theorem dX12_takesCase_39 : decode cX12_takesCase 39 = .ok (.aload_n 0, 1) := by decide +kernel
theorem dX12_takesCase_40 : decode cX12_takesCase 40 = .ok (.getfield 334, 3) := by decide +kernel
theorem dX12_takesCase_43 : decode cX12_takesCase 43 = .ok (.iaload, 1) := by decide +kernel
theorem dX12_takesCase_44 : decode cX12_takesCase 44 = .ok (.if_icmp .ne 7, 3) := by decide +kernel
theorem dX12_takesCase_47 : decode cX12_takesCase 47 = .ok (.iconst 1, 1) := by decide +kernel
theorem dX12_takesCase_48 : decode cX12_takesCase 48 = .ok (.goto 4, 3) := by decide +kernel
theorem dX12_takesCase_51 : decode cX12_takesCase 51 = .ok (.iconst 0, 1) := by decide +kernel
theorem dX12_takesCase_52 : decode cX12_takesCase 52 = .ok (.istore 5, 2) := by decide +kernel
theorem dX12_takesCase_54 : decode cX12_takesCase 54 = .ok (.aload_n 0, 1) := by decide +kernel
theorem dX12_takesCase_55 : decode cX12_takesCase 55 = .ok (.getfield 13, 3) := by decide +kernel
theorem dX12_takesCase_58 : decode cX12_takesCase 58 = .ok (.iload_n 3, 1) := by decide +kernel
theorem dX12_takesCase_59 : decode cX12_takesCase 59 = .ok (.iconst 0, 1) := by decide +kernel
theorem dX12_takesCase_60 : decode cX12_takesCase 60 = .ok (.iastore, 1) := by decide +kernel
theorem dX12_takesCase_61 : decode cX12_takesCase 61 = .ok (.iconst 0, 1) := by decide +kernel
theorem dX12_takesCase_62 : decode cX12_takesCase 62 = .ok (.istore 6, 2) := by decide +kernel
theorem dX12_takesCase_64 : decode cX12_takesCase 64 = .ok (.iload 6, 2) := by decide +kernel
theorem dX12_takesCase_66 : decode cX12_takesCase 66 = .ok (.aload_n 0, 1) := by decide +kernel
theorem dX12_takesCase_67 : decode cX12_takesCase 67 = .ok (.getfield 13, 3) := by decide +kernel
theorem dX12_takesCase_70 : decode cX12_takesCase 70 = .ok (.iload_n 2, 1) := by decide +kernel
theorem dX12_takesCase_71 : decode cX12_takesCase 71 = .ok (.iaload, 1) := by decide +kernel
theorem dX12_takesCase_72 : decode cX12_takesCase 72 = .ok (.if_icmp .ge 90, 3) := by decide +kernel
theorem dX12_takesCase_75 : decode cX12_takesCase 75 = .ok (.aload_n 0, 1) := by decide +kernel
theorem dX12_takesCase_76 : decode cX12_takesCase 76 = .ok (.iload_n 2, 1) := by decide +kernel
theorem dX12_takesCase_77 : decode cX12_takesCase 77 = .ok (.iload 6, 2) := by decide +kernel
theorem dX12_takesCase_79 : decode cX12_takesCase 79 = .ok (.invokevirtual 92, 3) := by decide +kernel
theorem dX12_takesCase_82 : decode cX12_takesCase 82 = .ok (.iload 4, 2) := by decide +kernel
theorem dX12_takesCase_84 : decode cX12_takesCase 84 = .ok (.if_icmp .ne 7, 3) := by decide +kernel
theorem dX12_takesCase_87 : decode cX12_takesCase 87 = .ok (.iconst 1, 1) := by decide +kernel
theorem dX12_takesCase_88 : decode cX12_takesCase 88 = .ok (.goto 4, 3) := by decide +kernel
theorem dX12_takesCase_91 : decode cX12_takesCase 91 = .ok (.iconst 0, 1) := by decide +kernel
theorem dX12_takesCase_92 : decode cX12_takesCase 92 = .ok (.istore 7, 2) := by decide +kernel
theorem dX12_takesCase_94 : decode cX12_takesCase 94 = .ok (.iconst 0, 1) := by decide +kernel
theorem dX12_takesCase_95 : decode cX12_takesCase 95 = .ok (.istore 8, 2) := by decide +kernel
theorem dX12_takesCase_97 : decode cX12_takesCase 97 = .ok (.iload 8, 2) := by decide +kernel
theorem dX12_takesCase_99 : decode cX12_takesCase 99 = .ok (.aload_n 0, 1) := by decide +kernel
theorem dX12_takesCase_100 : decode cX12_takesCase 100 = .ok (.getfield 83, 3) := by decide +kernel
theorem dX12_takesCase_103 : decode cX12_takesCase 103 = .ok (.aload_n 0, 1) := by decide +kernel
theorem dX12_takesCase_104 : decode cX12_takesCase 104 = .ok (.getfield 334, 3) := by decide +kernel
theorem dX12_takesCase_107 : decode cX12_takesCase 107 = .ok (.iaload, 1) := by decide +kernel
theorem dX12_takesCase_108 : decode cX12_takesCase 108 = .ok (.if_icmp .ge 21, 3) := by decide +kernel
theorem dX12_takesCase_111 : decode cX12_takesCase 111 = .ok (.iload 7, 2) := by decide +kernel
theorem dX12_takesCase_113 : decode cX12_takesCase 113 = .ok (.ifCond .eq 16, 3) := by decide +kernel
theorem dX12_takesCase_116 : decode cX12_takesCase 116 = .ok (.aload_n 0, 1) := by decide +kernel
theorem dX12_takesCase_117 : decode cX12_takesCase 117 = .ok (.iload_n 3, 1) := by decide +kernel
theorem dX12_takesCase_118 : decode cX12_takesCase 118 = .ok (.bipush 83, 2) := by decide +kernel
theorem dX12_takesCase_120 : decode cX12_takesCase 120 = .ok (.invokevirtual 150, 3) := by decide +kernel
theorem dX12_takesCase_123 : decode cX12_takesCase 123 = .ok (.iinc 8 1, 3) := by decide +kernel
theorem dX12_takesCase_126 : decode cX12_takesCase 126 = .ok (.goto (-29), 3) := by decide +kernel
theorem dX12_takesCase_129 : decode cX12_takesCase 129 = .ok (.aload_n 0, 1) := by decide +kernel
theorem dX12_takesCase_130 : decode cX12_takesCase 130 = .ok (.iload_n 3, 1) := by decide +kernel
theorem dX12_takesCase_131 : decode cX12_takesCase 131 = .ok (.iload 7, 2) := by decide +kernel
theorem dX12_takesCase_133 : decode cX12_takesCase 133 = .ok (.ifCond .eq 13, 3) := by decide +kernel
theorem dX12_takesCase_136 : decode cX12_takesCase 136 = .ok (.iload 5, 2) := by decide +kernel
theorem dX12_takesCase_138 : decode cX12_takesCase 138 = .ok (.ifCond .ne 8, 3) := by decide +kernel
theorem dX12_takesCase_141 : decode cX12_takesCase 141 = .ok (.bipush 90, 2) := by decide +kernel
theorem dX12_takesCase_143 : decode cX12_takesCase 143 = .ok (.goto 10, 3) := by decide +kernel
theorem dX12_takesCase_146 : decode cX12_takesCase 146 = .ok (.aload_n 0, 1) := by decide +kernel
theorem dX12_takesCase_147 : decode cX12_takesCase 147 = .ok (.iload_n 2, 1) := by decide +kernel
theorem dX12_takesCase_148 : decode cX12_takesCase 148 = .ok (.iload 6, 2) := by decide +kernel
theorem dX12_takesCase_150 : decode cX12_takesCase 150 = .ok (.invokevirtual 92, 3) := by decide +kernel
theorem dX12_takesCase_153 : decode cX12_takesCase 153 = .ok (.invokevirtual 150, 3) := by decide +kernel
theorem dX12_takesCase_156 : decode cX12_takesCase 156 = .ok (.iinc 6 1, 3) := by decide +kernel
theorem dX12_takesCase_159 : decode cX12_takesCase 159 = .ok (.goto (-95), 3) := by decide +kernel
theorem dX12_takesCase_162 : decode cX12_takesCase 162 = .ok (.return_, 1) := by decide +kernel
theorem dX12_normalGoal_0 : decode cX12_normalGoal 0 = .ok (.aload_n 0, 1) := by decide +kernel
theorem dX12_normalGoal_1 : decode cX12_normalGoal 1 = .ok (.aload_n 0, 1) := by decide +kernel
theorem dX12_normalGoal_2 : decode cX12_normalGoal 2 = .ok (.bipush 6, 2) := by decide +kernel
theorem dX12_normalGoal_4 : decode cX12_normalGoal 4 = .ok (.iconst 0, 1) := by decide +kernel
theorem dX12_normalGoal_5 : decode cX12_normalGoal 5 = .ok (.invokevirtual 346, 3) := by decide +kernel
theorem dX12_normalGoal_8 : decode cX12_normalGoal 8 = .ok (.bipush 24, 2) := by decide +kernel
theorem dX12_normalGoal_10 : decode cX12_normalGoal 10 = .ok (.invokevirtual 161, 3) := by decide +kernel
theorem dX12_normalGoal_13 : decode cX12_normalGoal 13 = .ok (.aload_n 0, 1) := by decide +kernel
theorem dX12_normalGoal_14 : decode cX12_normalGoal 14 = .ok (.aload_n 0, 1) := by decide +kernel
theorem dX12_normalGoal_15 : decode cX12_normalGoal 15 = .ok (.bipush 6, 2) := by decide +kernel
theorem dX12_normalGoal_17 : decode cX12_normalGoal 17 = .ok (.iconst 1, 1) := by decide +kernel
theorem dX12_normalGoal_18 : decode cX12_normalGoal 18 = .ok (.invokevirtual 346, 3) := by decide +kernel
theorem dX12_normalGoal_21 : decode cX12_normalGoal 21 = .ok (.bipush 25, 2) := by decide +kernel
theorem dX12_normalGoal_23 : decode cX12_normalGoal 23 = .ok (.invokevirtual 161, 3) := by decide +kernel
theorem dX12_normalGoal_26 : decode cX12_normalGoal 26 = .ok (.aload_n 0, 1) := by decide +kernel
theorem dX12_normalGoal_27 : decode cX12_normalGoal 27 = .ok (.bipush 24, 2) := by decide +kernel
theorem dX12_normalGoal_29 : decode cX12_normalGoal 29 = .ok (.aload_n 0, 1) := by decide +kernel
theorem dX12_normalGoal_30 : decode cX12_normalGoal 30 = .ok (.bipush 6, 2) := by decide +kernel
theorem dX12_normalGoal_32 : decode cX12_normalGoal 32 = .ok (.iconst 0, 1) := by decide +kernel
theorem dX12_normalGoal_33 : decode cX12_normalGoal 33 = .ok (.invokevirtual 346, 3) := by decide +kernel
theorem dX12_normalGoal_36 : decode cX12_normalGoal 36 = .ok (.invokevirtual 248, 3) := by decide +kernel
theorem dX12_normalGoal_39 : decode cX12_normalGoal 39 = .ok (.ifCond .eq 23, 3) := by decide +kernel
theorem dX12_normalGoal_42 : decode cX12_normalGoal 42 = .ok (.aload_n 0, 1) := by decide +kernel
theorem dX12_normalGoal_43 : decode cX12_normalGoal 43 = .ok (.bipush 25, 2) := by decide +kernel
theorem dX12_normalGoal_45 : decode cX12_normalGoal 45 = .ok (.aload_n 0, 1) := by decide +kernel
theorem dX12_normalGoal_46 : decode cX12_normalGoal 46 = .ok (.bipush 6, 2) := by decide +kernel
theorem dX12_normalGoal_48 : decode cX12_normalGoal 48 = .ok (.iconst 1, 1) := by decide +kernel
theorem dX12_normalGoal_49 : decode cX12_normalGoal 49 = .ok (.invokevirtual 346, 3) := by decide +kernel
theorem dX12_normalGoal_52 : decode cX12_normalGoal 52 = .ok (.invokevirtual 248, 3) := by decide +kernel
theorem dX12_normalGoal_55 : decode cX12_normalGoal 55 = .ok (.ifCond .eq 7, 3) := by decide +kernel
theorem dX12_normalGoal_58 : decode cX12_normalGoal 58 = .ok (.iconst 1, 1) := by decide +kernel
theorem dX12_normalGoal_59 : decode cX12_normalGoal 59 = .ok (.goto 4, 3) := by decide +kernel
theorem dX12_normalGoal_62 : decode cX12_normalGoal 62 = .ok (.iconst 0, 1) := by decide +kernel
theorem dX12_normalGoal_63 : decode cX12_normalGoal 63 = .ok (.ireturn, 1) := by decide +kernel
theorem dX12_usesClaim_0 : decode cX12_usesClaim 0 = .ok (.aload_n 0, 1) := by decide +kernel
theorem dX12_usesClaim_1 : decode cX12_usesClaim 1 = .ok (.bipush 6, 2) := by decide +kernel
theorem dX12_usesClaim_3 : decode cX12_usesClaim 3 = .ok (.iload_n 1, 1) := by decide +kernel
theorem dX12_usesClaim_4 : decode cX12_usesClaim 4 = .ok (.invokevirtual 346, 3) := by decide +kernel
theorem dX12_usesClaim_7 : decode cX12_usesClaim 7 = .ok (.istore_n 2, 1) := by decide +kernel
theorem dX12_usesClaim_8 : decode cX12_usesClaim 8 = .ok (.iconst 0, 1) := by decide +kernel
theorem dX12_usesClaim_9 : decode cX12_usesClaim 9 = .ok (.istore_n 3, 1) := by decide +kernel
theorem dX12_usesClaim_10 : decode cX12_usesClaim 10 = .ok (.iload_n 3, 1) := by decide +kernel
theorem dX12_usesClaim_11 : decode cX12_usesClaim 11 = .ok (.aload_n 0, 1) := by decide +kernel
theorem dX12_usesClaim_12 : decode cX12_usesClaim 12 = .ok (.getfield 13, 3) := by decide +kernel
theorem dX12_usesClaim_15 : decode cX12_usesClaim 15 = .ok (.iload_n 2, 1) := by decide +kernel
theorem dX12_usesClaim_16 : decode cX12_usesClaim 16 = .ok (.iaload, 1) := by decide +kernel
theorem dX12_usesClaim_17 : decode cX12_usesClaim 17 = .ok (.if_icmp .ge 67, 3) := by decide +kernel
theorem dX12_usesClaim_20 : decode cX12_usesClaim 20 = .ok (.aload_n 0, 1) := by decide +kernel
theorem dX12_usesClaim_21 : decode cX12_usesClaim 21 = .ok (.aload_n 0, 1) := by decide +kernel
theorem dX12_usesClaim_22 : decode cX12_usesClaim 22 = .ok (.iconst 4, 1) := by decide +kernel
theorem dX12_usesClaim_23 : decode cX12_usesClaim 23 = .ok (.iload_n 1, 1) := by decide +kernel
theorem dX12_usesClaim_24 : decode cX12_usesClaim 24 = .ok (.invokevirtual 346, 3) := by decide +kernel
theorem dX12_usesClaim_27 : decode cX12_usesClaim 27 = .ok (.iload_n 2, 1) := by decide +kernel
theorem dX12_usesClaim_28 : decode cX12_usesClaim 28 = .ok (.iload_n 3, 1) := by decide +kernel
theorem dX12_usesClaim_29 : decode cX12_usesClaim 29 = .ok (.aload_n 0, 1) := by decide +kernel
theorem dX12_usesClaim_30 : decode cX12_usesClaim 30 = .ok (.getfield 86, 3) := by decide +kernel
theorem dX12_usesClaim_33 : decode cX12_usesClaim 33 = .ok (.aload_n 0, 1) := by decide +kernel
theorem dX12_usesClaim_34 : decode cX12_usesClaim 34 = .ok (.getfield 334, 3) := by decide +kernel
theorem dX12_usesClaim_37 : decode cX12_usesClaim 37 = .ok (.iaload, 1) := by decide +kernel
theorem dX12_usesClaim_38 : decode cX12_usesClaim 38 = .ok (.invokevirtual 295, 3) := by decide +kernel
theorem dX12_usesClaim_41 : decode cX12_usesClaim 41 = .ok (.ifCond .eq 37, 3) := by decide +kernel
theorem dX12_usesClaim_44 : decode cX12_usesClaim 44 = .ok (.aload_n 0, 1) := by decide +kernel
theorem dX12_usesClaim_45 : decode cX12_usesClaim 45 = .ok (.iload_n 2, 1) := by decide +kernel
theorem dX12_usesClaim_46 : decode cX12_usesClaim 46 = .ok (.iload_n 3, 1) := by decide +kernel
theorem dX12_usesClaim_47 : decode cX12_usesClaim 47 = .ok (.aload_n 0, 1) := by decide +kernel
theorem dX12_usesClaim_48 : decode cX12_usesClaim 48 = .ok (.iconst 4, 1) := by decide +kernel
theorem dX12_usesClaim_49 : decode cX12_usesClaim 49 = .ok (.iconst 1, 1) := by decide +kernel
theorem dX12_usesClaim_50 : decode cX12_usesClaim 50 = .ok (.iload_n 1, 1) := by decide +kernel
theorem dX12_usesClaim_51 : decode cX12_usesClaim 51 = .ok (.isub, 1) := by decide +kernel
theorem dX12_usesClaim_52 : decode cX12_usesClaim 52 = .ok (.invokevirtual 346, 3) := by decide +kernel
theorem dX12_usesClaim_55 : decode cX12_usesClaim 55 = .ok (.invokevirtual 299, 3) := by decide +kernel
theorem dX12_usesClaim_58 : decode cX12_usesClaim 58 = .ok (.ifCond .ne 5, 3) := by decide +kernel
theorem dX12_usesClaim_61 : decode cX12_usesClaim 61 = .ok (.iconst 3, 1) := by decide +kernel
theorem dX12_usesClaim_62 : decode cX12_usesClaim 62 = .ok (.ireturn, 1) := by decide +kernel
theorem dX12_usesClaim_63 : decode cX12_usesClaim 63 = .ok (.aload_n 0, 1) := by decide +kernel
theorem dX12_usesClaim_64 : decode cX12_usesClaim 64 = .ok (.bipush 20, 2) := by decide +kernel
theorem dX12_usesClaim_66 : decode cX12_usesClaim 66 = .ok (.iload_n 2, 1) := by decide +kernel
theorem dX12_usesClaim_67 : decode cX12_usesClaim 67 = .ok (.invokevirtual 161, 3) := by decide +kernel
theorem dX12_usesClaim_70 : decode cX12_usesClaim 70 = .ok (.aload_n 0, 1) := by decide +kernel
theorem dX12_usesClaim_71 : decode cX12_usesClaim 71 = .ok (.iconst 5, 1) := by decide +kernel
theorem dX12_usesClaim_72 : decode cX12_usesClaim 72 = .ok (.iload_n 1, 1) := by decide +kernel
theorem dX12_usesClaim_73 : decode cX12_usesClaim 73 = .ok (.invokevirtual 308, 3) := by decide +kernel
theorem dX12_usesClaim_76 : decode cX12_usesClaim 76 = .ok (.iconst 1, 1) := by decide +kernel
theorem dX12_usesClaim_77 : decode cX12_usesClaim 77 = .ok (.ireturn, 1) := by decide +kernel
theorem dX12_usesClaim_78 : decode cX12_usesClaim 78 = .ok (.iinc 3 1, 3) := by decide +kernel
theorem dX12_usesClaim_81 : decode cX12_usesClaim 81 = .ok (.goto (-71), 3) := by decide +kernel
theorem dX12_usesClaim_84 : decode cX12_usesClaim 84 = .ok (.iconst 0, 1) := by decide +kernel
theorem dX12_usesClaim_85 : decode cX12_usesClaim 85 = .ok (.ireturn, 1) := by decide +kernel
theorem dX12_carries_0 : decode cX12_carries 0 = .ok (.iconst 0, 1) := by decide +kernel
theorem dX12_carries_1 : decode cX12_carries 1 = .ok (.istore_n 1, 1) := by decide +kernel
theorem dX12_carries_2 : decode cX12_carries 2 = .ok (.iload_n 1, 1) := by decide +kernel
theorem dX12_carries_3 : decode cX12_carries 3 = .ok (.iconst 2, 1) := by decide +kernel
theorem dX12_carries_4 : decode cX12_carries 4 = .ok (.if_icmp .ge 27, 3) := by decide +kernel
theorem dX12_carries_7 : decode cX12_carries 7 = .ok (.aload_n 0, 1) := by decide +kernel
theorem dX12_carries_8 : decode cX12_carries 8 = .ok (.aload_n 0, 1) := by decide +kernel
theorem dX12_carries_9 : decode cX12_carries 9 = .ok (.bipush 6, 2) := by decide +kernel
theorem dX12_carries_11 : decode cX12_carries 11 = .ok (.iload_n 1, 1) := by decide +kernel
theorem dX12_carries_12 : decode cX12_carries 12 = .ok (.invokevirtual 346, 3) := by decide +kernel
theorem dX12_carries_15 : decode cX12_carries 15 = .ok (.aload_n 0, 1) := by decide +kernel
theorem dX12_carries_16 : decode cX12_carries 16 = .ok (.iconst 4, 1) := by decide +kernel
theorem dX12_carries_17 : decode cX12_carries 17 = .ok (.iload_n 1, 1) := by decide +kernel
theorem dX12_carries_18 : decode cX12_carries 18 = .ok (.invokevirtual 346, 3) := by decide +kernel
theorem dX12_carries_21 : decode cX12_carries 21 = .ok (.iload_n 1, 1) := by decide +kernel
theorem dX12_carries_22 : decode cX12_carries 22 = .ok (.invokevirtual 311, 3) := by decide +kernel
theorem dX12_carries_25 : decode cX12_carries 25 = .ok (.iinc 1 1, 3) := by decide +kernel
theorem dX12_carries_28 : decode cX12_carries 28 = .ok (.goto (-26), 3) := by decide +kernel
theorem dX12_carries_31 : decode cX12_carries 31 = .ok (.aload_n 0, 1) := by decide +kernel
theorem dX12_carries_32 : decode cX12_carries 32 = .ok (.iconst 0, 1) := by decide +kernel
theorem dX12_carries_33 : decode cX12_carries 33 = .ok (.invokevirtual 362, 3) := by decide +kernel
theorem dX12_carries_36 : decode cX12_carries 36 = .ok (.istore_n 1, 1) := by decide +kernel
theorem dX12_carries_37 : decode cX12_carries 37 = .ok (.iload_n 1, 1) := by decide +kernel
theorem dX12_carries_38 : decode cX12_carries 38 = .ok (.ifCond .ne 11, 3) := by decide +kernel
theorem dX12_carries_41 : decode cX12_carries 41 = .ok (.aload_n 0, 1) := by decide +kernel
theorem dX12_carries_42 : decode cX12_carries 42 = .ok (.iconst 1, 1) := by decide +kernel
theorem dX12_carries_43 : decode cX12_carries 43 = .ok (.invokevirtual 362, 3) := by decide +kernel
theorem dX12_carries_46 : decode cX12_carries 46 = .ok (.goto 4, 3) := by decide +kernel
theorem dX12_carries_49 : decode cX12_carries 49 = .ok (.iload_n 1, 1) := by decide +kernel
theorem dX12_carries_50 : decode cX12_carries 50 = .ok (.istore_n 1, 1) := by decide +kernel
theorem dX12_carries_51 : decode cX12_carries 51 = .ok (.iload_n 1, 1) := by decide +kernel
theorem dX12_carries_52 : decode cX12_carries 52 = .ok (.iconst 3, 1) := by decide +kernel
theorem dX12_carries_53 : decode cX12_carries 53 = .ok (.if_icmp .eq 14, 3) := by decide +kernel
theorem dX12_carries_56 : decode cX12_carries 56 = .ok (.aload_n 0, 1) := by decide +kernel
theorem dX12_carries_57 : decode cX12_carries 57 = .ok (.invokevirtual 365, 3) := by decide +kernel
theorem dX12_carries_60 : decode cX12_carries 60 = .ok (.ifCond .eq 7, 3) := by decide +kernel
theorem dX12_carries_63 : decode cX12_carries 63 = .ok (.iconst 1, 1) := by decide +kernel
theorem dX12_carries_64 : decode cX12_carries 64 = .ok (.goto 4, 3) := by decide +kernel
theorem dX12_carries_67 : decode cX12_carries 67 = .ok (.iconst 0, 1) := by decide +kernel
theorem dX12_carries_68 : decode cX12_carries 68 = .ok (.ireturn, 1) := by decide +kernel
theorem dX12_guesses_0 : decode cX12_guesses 0 = .ok (.aload_n 0, 1) := by decide +kernel
theorem dX12_guesses_1 : decode cX12_guesses 1 = .ok (.bipush 6, 2) := by decide +kernel
theorem dX12_guesses_3 : decode cX12_guesses 3 = .ok (.iconst 0, 1) := by decide +kernel
theorem dX12_guesses_4 : decode cX12_guesses 4 = .ok (.invokevirtual 346, 3) := by decide +kernel
theorem dX12_guesses_7 : decode cX12_guesses 7 = .ok (.istore_n 1, 1) := by decide +kernel
theorem dX12_guesses_8 : decode cX12_guesses 8 = .ok (.aload_n 0, 1) := by decide +kernel
theorem dX12_guesses_9 : decode cX12_guesses 9 = .ok (.bipush 6, 2) := by decide +kernel
theorem dX12_guesses_11 : decode cX12_guesses 11 = .ok (.iconst 1, 1) := by decide +kernel
theorem dX12_guesses_12 : decode cX12_guesses 12 = .ok (.invokevirtual 346, 3) := by decide +kernel
theorem dX12_guesses_15 : decode cX12_guesses 15 = .ok (.istore_n 2, 1) := by decide +kernel
theorem dX12_guesses_16 : decode cX12_guesses 16 = .ok (.aload_n 0, 1) := by decide +kernel
theorem dX12_guesses_17 : decode cX12_guesses 17 = .ok (.iload_n 1, 1) := by decide +kernel
theorem dX12_guesses_18 : decode cX12_guesses 18 = .ok (.iload_n 2, 1) := by decide +kernel
theorem dX12_guesses_19 : decode cX12_guesses 19 = .ok (.invokevirtual 331, 3) := by decide +kernel
theorem dX12_guesses_22 : decode cX12_guesses 22 = .ok (.istore_n 3, 1) := by decide +kernel
theorem dX12_guesses_23 : decode cX12_guesses 23 = .ok (.iload_n 3, 1) := by decide +kernel
theorem dX12_guesses_24 : decode cX12_guesses 24 = .ok (.bipush (-9), 2) := by decide +kernel
theorem dX12_guesses_26 : decode cX12_guesses 26 = .ok (.if_icmp .eq 20, 3) := by decide +kernel
theorem dX12_guesses_29 : decode cX12_guesses 29 = .ok (.aload_n 0, 1) := by decide +kernel
theorem dX12_guesses_30 : decode cX12_guesses 30 = .ok (.bipush 22, 2) := by decide +kernel
theorem dX12_guesses_32 : decode cX12_guesses 32 = .ok (.bipush 23, 2) := by decide +kernel
theorem dX12_guesses_34 : decode cX12_guesses 34 = .ok (.invokevirtual 218, 3) := by decide +kernel
theorem dX12_guesses_37 : decode cX12_guesses 37 = .ok (.bipush (-9), 2) := by decide +kernel
theorem dX12_guesses_39 : decode cX12_guesses 39 = .ok (.if_icmp .ne 7, 3) := by decide +kernel
theorem dX12_guesses_42 : decode cX12_guesses 42 = .ok (.iload_n 3, 1) := by decide +kernel
theorem dX12_guesses_43 : decode cX12_guesses 43 = .ok (.goto 5, 3) := by decide +kernel
theorem dX12_guesses_46 : decode cX12_guesses 46 = .ok (.bipush (-9), 2) := by decide +kernel
theorem dX12_guesses_48 : decode cX12_guesses 48 = .ok (.istore_n 3, 1) := by decide +kernel
theorem dX12_guesses_49 : decode cX12_guesses 49 = .ok (.aload_n 0, 1) := by decide +kernel
theorem dX12_guesses_50 : decode cX12_guesses 50 = .ok (.bipush 6, 2) := by decide +kernel
theorem dX12_guesses_52 : decode cX12_guesses 52 = .ok (.iload_n 3, 1) := by decide +kernel
theorem dX12_guesses_53 : decode cX12_guesses 53 = .ok (.invokevirtual 308, 3) := by decide +kernel
theorem dX12_guesses_56 : decode cX12_guesses 56 = .ok (.aload_n 0, 1) := by decide +kernel
theorem dX12_guesses_57 : decode cX12_guesses 57 = .ok (.dup, 1) := by decide +kernel
theorem dX12_guesses_58 : decode cX12_guesses 58 = .ok (.getfield 334, 3) := by decide +kernel
theorem dX12_guesses_61 : decode cX12_guesses 61 = .ok (.iconst 1, 1) := by decide +kernel
theorem dX12_guesses_62 : decode cX12_guesses 62 = .ok (.iadd, 1) := by decide +kernel
theorem dX12_guesses_63 : decode cX12_guesses 63 = .ok (.putfield 334, 3) := by decide +kernel
theorem dX12_guesses_66 : decode cX12_guesses 66 = .ok (.aload_n 0, 1) := by decide +kernel
theorem dX12_guesses_67 : decode cX12_guesses 67 = .ok (.iload_n 3, 1) := by decide +kernel
theorem dX12_guesses_68 : decode cX12_guesses 68 = .ok (.bipush (-9), 2) := by decide +kernel
theorem dX12_guesses_70 : decode cX12_guesses 70 = .ok (.if_icmp .ne 7, 3) := by decide +kernel
theorem dX12_guesses_73 : decode cX12_guesses 73 = .ok (.iload_n 1, 1) := by decide +kernel
theorem dX12_guesses_74 : decode cX12_guesses 74 = .ok (.goto 5, 3) := by decide +kernel
theorem dX12_guesses_77 : decode cX12_guesses 77 = .ok (.bipush 22, 2) := by decide +kernel
theorem dX12_guesses_79 : decode cX12_guesses 79 = .ok (.aload_n 0, 1) := by decide +kernel
theorem dX12_guesses_80 : decode cX12_guesses 80 = .ok (.iconst 2, 1) := by decide +kernel
theorem dX12_guesses_81 : decode cX12_guesses 81 = .ok (.iconst 0, 1) := by decide +kernel
theorem dX12_guesses_82 : decode cX12_guesses 82 = .ok (.invokevirtual 346, 3) := by decide +kernel
theorem dX12_guesses_85 : decode cX12_guesses 85 = .ok (.invokevirtual 161, 3) := by decide +kernel
theorem dX12_guesses_88 : decode cX12_guesses 88 = .ok (.aload_n 0, 1) := by decide +kernel
theorem dX12_guesses_89 : decode cX12_guesses 89 = .ok (.iload_n 3, 1) := by decide +kernel
theorem dX12_guesses_90 : decode cX12_guesses 90 = .ok (.bipush (-9), 2) := by decide +kernel
theorem dX12_guesses_92 : decode cX12_guesses 92 = .ok (.if_icmp .ne 7, 3) := by decide +kernel
theorem dX12_guesses_95 : decode cX12_guesses 95 = .ok (.iload_n 2, 1) := by decide +kernel
theorem dX12_guesses_96 : decode cX12_guesses 96 = .ok (.goto 5, 3) := by decide +kernel
theorem dX12_guesses_99 : decode cX12_guesses 99 = .ok (.bipush 23, 2) := by decide +kernel
theorem dX12_guesses_101 : decode cX12_guesses 101 = .ok (.aload_n 0, 1) := by decide +kernel
theorem dX12_guesses_102 : decode cX12_guesses 102 = .ok (.iconst 2, 1) := by decide +kernel
theorem dX12_guesses_103 : decode cX12_guesses 103 = .ok (.iconst 1, 1) := by decide +kernel
theorem dX12_guesses_104 : decode cX12_guesses 104 = .ok (.invokevirtual 346, 3) := by decide +kernel
theorem dX12_guesses_107 : decode cX12_guesses 107 = .ok (.invokevirtual 161, 3) := by decide +kernel
theorem dX12_guesses_110 : decode cX12_guesses 110 = .ok (.bipush 6, 2) := by decide +kernel
theorem dX12_guesses_112 : decode cX12_guesses 112 = .ok (.ireturn, 1) := by decide +kernel
theorem dX12_nextCase_0 : decode cX12_nextCase 0 = .ok (.aload_n 0, 1) := by decide +kernel
theorem dX12_nextCase_1 : decode cX12_nextCase 1 = .ok (.getfield 83, 3) := by decide +kernel
theorem dX12_nextCase_4 : decode cX12_nextCase 4 = .ok (.aload_n 0, 1) := by decide +kernel
theorem dX12_nextCase_5 : decode cX12_nextCase 5 = .ok (.getfield 334, 3) := by decide +kernel
theorem dX12_nextCase_8 : decode cX12_nextCase 8 = .ok (.iaload, 1) := by decide +kernel
theorem dX12_nextCase_9 : decode cX12_nextCase 9 = .ok (.aload_n 0, 1) := by decide +kernel
theorem dX12_nextCase_10 : decode cX12_nextCase 10 = .ok (.getfield 89, 3) := by decide +kernel
theorem dX12_nextCase_13 : decode cX12_nextCase 13 = .ok (.aload_n 0, 1) := by decide +kernel
theorem dX12_nextCase_14 : decode cX12_nextCase 14 = .ok (.getfield 334, 3) := by decide +kernel
theorem dX12_nextCase_17 : decode cX12_nextCase 17 = .ok (.iaload, 1) := by decide +kernel
theorem dX12_nextCase_18 : decode cX12_nextCase 18 = .ok (.if_icmp .le 8, 3) := by decide +kernel
theorem dX12_nextCase_21 : decode cX12_nextCase 21 = .ok (.aload_n 0, 1) := by decide +kernel
theorem dX12_nextCase_22 : decode cX12_nextCase 22 = .ok (.invokevirtual 359, 3) := by decide +kernel
theorem dX12_nextCase_25 : decode cX12_nextCase 25 = .ok (.ireturn, 1) := by decide +kernel
theorem dX12_nextCase_26 : decode cX12_nextCase 26 = .ok (.aload_n 0, 1) := by decide +kernel
theorem dX12_nextCase_27 : decode cX12_nextCase 27 = .ok (.iconst 3, 1) := by decide +kernel
theorem dX12_nextCase_28 : decode cX12_nextCase 28 = .ok (.aload_n 0, 1) := by decide +kernel
theorem dX12_nextCase_29 : decode cX12_nextCase 29 = .ok (.getfield 83, 3) := by decide +kernel
theorem dX12_nextCase_32 : decode cX12_nextCase 32 = .ok (.aload_n 0, 1) := by decide +kernel
theorem dX12_nextCase_33 : decode cX12_nextCase 33 = .ok (.getfield 334, 3) := by decide +kernel
theorem dX12_nextCase_36 : decode cX12_nextCase 36 = .ok (.iaload, 1) := by decide +kernel
theorem dX12_nextCase_37 : decode cX12_nextCase 37 = .ok (.invokevirtual 308, 3) := by decide +kernel
theorem dX12_nextCase_40 : decode cX12_nextCase 40 = .ok (.aload_n 0, 1) := by decide +kernel
theorem dX12_nextCase_41 : decode cX12_nextCase 41 = .ok (.iconst 0, 1) := by decide +kernel
theorem dX12_nextCase_42 : decode cX12_nextCase 42 = .ok (.invokevirtual 368, 3) := by decide +kernel
theorem dX12_nextCase_45 : decode cX12_nextCase 45 = .ok (.aload_n 0, 1) := by decide +kernel
theorem dX12_nextCase_46 : decode cX12_nextCase 46 = .ok (.iconst 1, 1) := by decide +kernel
theorem dX12_nextCase_47 : decode cX12_nextCase 47 = .ok (.invokevirtual 368, 3) := by decide +kernel
theorem dX12_nextCase_50 : decode cX12_nextCase 50 = .ok (.aload_n 0, 1) := by decide +kernel
theorem dX12_nextCase_51 : decode cX12_nextCase 51 = .ok (.bipush 24, 2) := by decide +kernel
theorem dX12_nextCase_53 : decode cX12_nextCase 53 = .ok (.aload_n 0, 1) := by decide +kernel
theorem dX12_nextCase_54 : decode cX12_nextCase 54 = .ok (.bipush 6, 2) := by decide +kernel
theorem dX12_nextCase_56 : decode cX12_nextCase 56 = .ok (.iconst 0, 1) := by decide +kernel
theorem dX12_nextCase_57 : decode cX12_nextCase 57 = .ok (.invokevirtual 346, 3) := by decide +kernel
theorem dX12_nextCase_60 : decode cX12_nextCase 60 = .ok (.invokevirtual 161, 3) := by decide +kernel
theorem dX12_nextCase_63 : decode cX12_nextCase 63 = .ok (.aload_n 0, 1) := by decide +kernel
theorem dX12_nextCase_64 : decode cX12_nextCase 64 = .ok (.bipush 25, 2) := by decide +kernel
theorem dX12_nextCase_66 : decode cX12_nextCase 66 = .ok (.aload_n 0, 1) := by decide +kernel
theorem dX12_nextCase_67 : decode cX12_nextCase 67 = .ok (.bipush 6, 2) := by decide +kernel
theorem dX12_nextCase_69 : decode cX12_nextCase 69 = .ok (.iconst 1, 1) := by decide +kernel
theorem dX12_nextCase_70 : decode cX12_nextCase 70 = .ok (.invokevirtual 346, 3) := by decide +kernel
theorem dX12_nextCase_73 : decode cX12_nextCase 73 = .ok (.invokevirtual 161, 3) := by decide +kernel
theorem dX12_nextCase_76 : decode cX12_nextCase 76 = .ok (.aload_n 0, 1) := by decide +kernel
theorem dX12_nextCase_77 : decode cX12_nextCase 77 = .ok (.invokevirtual 365, 3) := by decide +kernel
theorem dX12_nextCase_80 : decode cX12_nextCase 80 = .ok (.ifCond .ne 5, 3) := by decide +kernel
theorem dX12_nextCase_83 : decode cX12_nextCase 83 = .ok (.iconst 3, 1) := by decide +kernel
theorem dX12_nextCase_84 : decode cX12_nextCase 84 = .ok (.ireturn, 1) := by decide +kernel
theorem dX12_nextCase_85 : decode cX12_nextCase 85 = .ok (.aload_n 0, 1) := by decide +kernel
theorem dX12_nextCase_86 : decode cX12_nextCase 86 = .ok (.aload_n 0, 1) := by decide +kernel
theorem dX12_nextCase_87 : decode cX12_nextCase 87 = .ok (.bipush 6, 2) := by decide +kernel
theorem dX12_nextCase_89 : decode cX12_nextCase 89 = .ok (.iconst 0, 1) := by decide +kernel
theorem dX12_nextCase_90 : decode cX12_nextCase 90 = .ok (.invokevirtual 346, 3) := by decide +kernel
theorem dX12_nextCase_93 : decode cX12_nextCase 93 = .ok (.aload_n 0, 1) := by decide +kernel
theorem dX12_nextCase_94 : decode cX12_nextCase 94 = .ok (.bipush 6, 2) := by decide +kernel
theorem dX12_nextCase_96 : decode cX12_nextCase 96 = .ok (.iconst 1, 1) := by decide +kernel
theorem dX12_nextCase_97 : decode cX12_nextCase 97 = .ok (.invokevirtual 346, 3) := by decide +kernel
theorem dX12_nextCase_100 : decode cX12_nextCase 100 = .ok (.invokevirtual 343, 3) := by decide +kernel
theorem dX12_nextCase_103 : decode cX12_nextCase 103 = .ok (.istore_n 1, 1) := by decide +kernel
theorem dX12_nextCase_104 : decode cX12_nextCase 104 = .ok (.iload_n 1, 1) := by decide +kernel
theorem dX12_nextCase_105 : decode cX12_nextCase 105 = .ok (.ifCond .ne 52, 3) := by decide +kernel
theorem dX12_nextCase_108 : decode cX12_nextCase 108 = .ok (.aload_n 0, 1) := by decide +kernel
theorem dX12_nextCase_109 : decode cX12_nextCase 109 = .ok (.getfield 83, 3) := by decide +kernel
theorem dX12_nextCase_112 : decode cX12_nextCase 112 = .ok (.aload_n 0, 1) := by decide +kernel
theorem dX12_nextCase_113 : decode cX12_nextCase 113 = .ok (.getfield 334, 3) := by decide +kernel
theorem dX12_nextCase_116 : decode cX12_nextCase 116 = .ok (.iaload, 1) := by decide +kernel
theorem dX12_nextCase_117 : decode cX12_nextCase 117 = .ok (.aload_n 0, 1) := by decide +kernel
theorem dX12_nextCase_118 : decode cX12_nextCase 118 = .ok (.getfield 89, 3) := by decide +kernel
theorem dX12_nextCase_121 : decode cX12_nextCase 121 = .ok (.aload_n 0, 1) := by decide +kernel
theorem dX12_nextCase_122 : decode cX12_nextCase 122 = .ok (.getfield 334, 3) := by decide +kernel
theorem dX12_nextCase_125 : decode cX12_nextCase 125 = .ok (.iaload, 1) := by decide +kernel
theorem dX12_nextCase_126 : decode cX12_nextCase 126 = .ok (.if_icmp .ne 31, 3) := by decide +kernel
theorem dX12_nextCase_129 : decode cX12_nextCase 129 = .ok (.aload_n 0, 1) := by decide +kernel
theorem dX12_nextCase_130 : decode cX12_nextCase 130 = .ok (.invokevirtual 371, 3) := by decide +kernel
theorem dX12_nextCase_133 : decode cX12_nextCase 133 = .ok (.ifCond .ne 5, 3) := by decide +kernel
theorem dX12_nextCase_136 : decode cX12_nextCase 136 = .ok (.iconst 3, 1) := by decide +kernel
theorem dX12_nextCase_137 : decode cX12_nextCase 137 = .ok (.ireturn, 1) := by decide +kernel
theorem dX12_nextCase_138 : decode cX12_nextCase 138 = .ok (.aload_n 0, 1) := by decide +kernel
theorem dX12_nextCase_139 : decode cX12_nextCase 139 = .ok (.aload_n 0, 1) := by decide +kernel
theorem dX12_nextCase_140 : decode cX12_nextCase 140 = .ok (.bipush 6, 2) := by decide +kernel
theorem dX12_nextCase_142 : decode cX12_nextCase 142 = .ok (.iconst 0, 1) := by decide +kernel
theorem dX12_nextCase_143 : decode cX12_nextCase 143 = .ok (.invokevirtual 346, 3) := by decide +kernel
theorem dX12_nextCase_146 : decode cX12_nextCase 146 = .ok (.aload_n 0, 1) := by decide +kernel
theorem dX12_nextCase_147 : decode cX12_nextCase 147 = .ok (.bipush 6, 2) := by decide +kernel
theorem dX12_nextCase_149 : decode cX12_nextCase 149 = .ok (.iconst 1, 1) := by decide +kernel
theorem dX12_nextCase_150 : decode cX12_nextCase 150 = .ok (.invokevirtual 346, 3) := by decide +kernel
theorem dX12_nextCase_153 : decode cX12_nextCase 153 = .ok (.invokevirtual 343, 3) := by decide +kernel
theorem dX12_nextCase_156 : decode cX12_nextCase 156 = .ok (.istore_n 1, 1) := by decide +kernel
theorem dX12_nextCase_157 : decode cX12_nextCase 157 = .ok (.iload_n 1, 1) := by decide +kernel
theorem dX12_nextCase_158 : decode cX12_nextCase 158 = .ok (.ifCond .eq 18, 3) := by decide +kernel
theorem dX12_nextCase_161 : decode cX12_nextCase 161 = .ok (.aload_n 0, 1) := by decide +kernel
theorem dX12_nextCase_162 : decode cX12_nextCase 162 = .ok (.getfield 83, 3) := by decide +kernel
theorem dX12_nextCase_165 : decode cX12_nextCase 165 = .ok (.aload_n 0, 1) := by decide +kernel
theorem dX12_nextCase_166 : decode cX12_nextCase 166 = .ok (.getfield 334, 3) := by decide +kernel
theorem dX12_nextCase_169 : decode cX12_nextCase 169 = .ok (.dup2, 1) := by decide +kernel
theorem dX12_nextCase_170 : decode cX12_nextCase 170 = .ok (.iaload, 1) := by decide +kernel
theorem dX12_nextCase_171 : decode cX12_nextCase 171 = .ok (.iconst 1, 1) := by decide +kernel
theorem dX12_nextCase_172 : decode cX12_nextCase 172 = .ok (.iadd, 1) := by decide +kernel
theorem dX12_nextCase_173 : decode cX12_nextCase 173 = .ok (.iastore, 1) := by decide +kernel
theorem dX12_nextCase_174 : decode cX12_nextCase 174 = .ok (.iconst 5, 1) := by decide +kernel
theorem dX12_nextCase_175 : decode cX12_nextCase 175 = .ok (.ireturn, 1) := by decide +kernel
theorem dX12_nextCase_176 : decode cX12_nextCase 176 = .ok (.aload_n 0, 1) := by decide +kernel
theorem dX12_nextCase_177 : decode cX12_nextCase 177 = .ok (.getfield 334, 3) := by decide +kernel
theorem dX12_nextCase_180 : decode cX12_nextCase 180 = .ok (.iconst 2, 1) := by decide +kernel
theorem dX12_nextCase_181 : decode cX12_nextCase 181 = .ok (.if_icmp .ne 15, 3) := by decide +kernel
theorem dX12_nextCase_184 : decode cX12_nextCase 184 = .ok (.aload_n 0, 1) := by decide +kernel
theorem dX12_nextCase_185 : decode cX12_nextCase 185 = .ok (.iconst 1, 1) := by decide +kernel
theorem dX12_nextCase_186 : decode cX12_nextCase 186 = .ok (.putfield 352, 3) := by decide +kernel
theorem dX12_nextCase_189 : decode cX12_nextCase 189 = .ok (.aload_n 0, 1) := by decide +kernel
theorem dX12_nextCase_190 : decode cX12_nextCase 190 = .ok (.iconst 2, 1) := by decide +kernel
theorem dX12_nextCase_191 : decode cX12_nextCase 191 = .ok (.iconst 1, 1) := by decide +kernel
theorem dX12_nextCase_192 : decode cX12_nextCase 192 = .ok (.invokevirtual 355, 3) := by decide +kernel
theorem dX12_nextCase_195 : decode cX12_nextCase 195 = .ok (.ireturn, 1) := by decide +kernel
theorem dX12_nextCase_196 : decode cX12_nextCase 196 = .ok (.aload_n 0, 1) := by decide +kernel
theorem dX12_nextCase_197 : decode cX12_nextCase 197 = .ok (.invokevirtual 374, 3) := by decide +kernel
theorem dX12_nextCase_200 : decode cX12_nextCase 200 = .ok (.ireturn, 1) := by decide +kernel
theorem dX12_prove_0 : decode cX12_prove 0 = .ok (.aload_n 0, 1) := by decide +kernel
theorem dX12_prove_1 : decode cX12_prove 1 = .ok (.getfield 164, 3) := by decide +kernel
theorem dX12_prove_4 : decode cX12_prove 4 = .ok (.ifCond .ne 6, 3) := by decide +kernel
theorem dX12_prove_7 : decode cX12_prove 7 = .ok (.bipush (-3), 2) := by decide +kernel
theorem dX12_prove_9 : decode cX12_prove 9 = .ok (.ireturn, 1) := by decide +kernel
theorem dX12_prove_10 : decode cX12_prove 10 = .ok (.aload_n 0, 1) := by decide +kernel
theorem dX12_prove_11 : decode cX12_prove 11 = .ok (.iconst 0, 1) := by decide +kernel
theorem dX12_prove_12 : decode cX12_prove 12 = .ok (.putfield 174, 3) := by decide +kernel
theorem dX12_prove_15 : decode cX12_prove 15 = .ok (.aload_n 0, 1) := by decide +kernel
theorem dX12_prove_16 : decode cX12_prove 16 = .ok (.iconst 0, 1) := by decide +kernel
theorem dX12_prove_17 : decode cX12_prove 17 = .ok (.putfield 334, 3) := by decide +kernel
theorem dX12_prove_20 : decode cX12_prove 20 = .ok (.aload_n 0, 1) := by decide +kernel
theorem dX12_prove_21 : decode cX12_prove 21 = .ok (.iconst 0, 1) := by decide +kernel
theorem dX12_prove_22 : decode cX12_prove 22 = .ok (.aload_n 0, 1) := by decide +kernel
theorem dX12_prove_23 : decode cX12_prove 23 = .ok (.iconst 2, 1) := by decide +kernel
theorem dX12_prove_24 : decode cX12_prove 24 = .ok (.iconst 0, 1) := by decide +kernel
theorem dX12_prove_25 : decode cX12_prove 25 = .ok (.invokevirtual 346, 3) := by decide +kernel
theorem dX12_prove_28 : decode cX12_prove 28 = .ok (.invokevirtual 161, 3) := by decide +kernel
theorem dX12_prove_31 : decode cX12_prove 31 = .ok (.aload_n 0, 1) := by decide +kernel
theorem dX12_prove_32 : decode cX12_prove 32 = .ok (.iconst 1, 1) := by decide +kernel
theorem dX12_prove_33 : decode cX12_prove 33 = .ok (.aload_n 0, 1) := by decide +kernel
theorem dX12_prove_34 : decode cX12_prove 34 = .ok (.iconst 2, 1) := by decide +kernel
theorem dX12_prove_35 : decode cX12_prove 35 = .ok (.iconst 1, 1) := by decide +kernel
theorem dX12_prove_36 : decode cX12_prove 36 = .ok (.invokevirtual 346, 3) := by decide +kernel
theorem dX12_prove_39 : decode cX12_prove 39 = .ok (.invokevirtual 161, 3) := by decide +kernel
theorem dX12_prove_42 : decode cX12_prove 42 = .ok (.aload_n 0, 1) := by decide +kernel
theorem dX12_prove_43 : decode cX12_prove 43 = .ok (.invokevirtual 377, 3) := by decide +kernel
theorem dX12_prove_46 : decode cX12_prove 46 = .ok (.istore_n 1, 1) := by decide +kernel
theorem dX12_prove_47 : decode cX12_prove 47 = .ok (.iload_n 1, 1) := by decide +kernel
theorem dX12_prove_48 : decode cX12_prove 48 = .ok (.iconst 3, 1) := by decide +kernel
theorem dX12_prove_49 : decode cX12_prove 49 = .ok (.if_icmp .eq 7, 3) := by decide +kernel
theorem dX12_prove_52 : decode cX12_prove 52 = .ok (.iconst 1, 1) := by decide +kernel
theorem dX12_prove_53 : decode cX12_prove 53 = .ok (.goto 4, 3) := by decide +kernel
theorem dX12_prove_56 : decode cX12_prove 56 = .ok (.iconst 0, 1) := by decide +kernel
theorem dX12_prove_57 : decode cX12_prove 57 = .ok (.istore_n 2, 1) := by decide +kernel
theorem dX12_prove_58 : decode cX12_prove 58 = .ok (.iload_n 2, 1) := by decide +kernel
theorem dX12_prove_59 : decode cX12_prove 59 = .ok (.ifCond .eq 106, 3) := by decide +kernel
theorem dX12_prove_62 : decode cX12_prove 62 = .ok (.iload_n 1, 1) := by decide +kernel
theorem dX12_prove_63 : decode cX12_prove 63 = .ok (.iconst 5, 1) := by decide +kernel
theorem dX12_prove_64 : decode cX12_prove 64 = .ok (.if_icmp .ne 11, 3) := by decide +kernel
theorem dX12_prove_67 : decode cX12_prove 67 = .ok (.aload_n 0, 1) := by decide +kernel
theorem dX12_prove_68 : decode cX12_prove 68 = .ok (.invokevirtual 380, 3) := by decide +kernel
theorem dX12_prove_71 : decode cX12_prove 71 = .ok (.istore_n 1, 1) := by decide +kernel
theorem dX12_prove_72 : decode cX12_prove 72 = .ok (.goto 75, 3) := by decide +kernel
theorem dX12_prove_75 : decode cX12_prove 75 = .ok (.iload_n 1, 1) := by decide +kernel
theorem dX12_prove_76 : decode cX12_prove 76 = .ok (.bipush 6, 2) := by decide +kernel
theorem dX12_prove_78 : decode cX12_prove 78 = .ok (.if_icmp .ne 11, 3) := by decide +kernel
theorem dX12_prove_81 : decode cX12_prove 81 = .ok (.aload_n 0, 1) := by decide +kernel
theorem dX12_prove_82 : decode cX12_prove 82 = .ok (.invokevirtual 377, 3) := by decide +kernel
theorem dX12_prove_85 : decode cX12_prove 85 = .ok (.istore_n 1, 1) := by decide +kernel
theorem dX12_prove_86 : decode cX12_prove 86 = .ok (.goto 61, 3) := by decide +kernel
theorem dX12_prove_89 : decode cX12_prove 89 = .ok (.aload_n 0, 1) := by decide +kernel
theorem dX12_prove_90 : decode cX12_prove 90 = .ok (.getfield 334, 3) := by decide +kernel
theorem dX12_prove_93 : decode cX12_prove 93 = .ok (.ifCond .le 52, 3) := by decide +kernel
theorem dX12_prove_96 : decode cX12_prove 96 = .ok (.aload_n 0, 1) := by decide +kernel
theorem dX12_prove_97 : decode cX12_prove 97 = .ok (.dup, 1) := by decide +kernel
theorem dX12_prove_98 : decode cX12_prove 98 = .ok (.getfield 334, 3) := by decide +kernel
theorem dX12_prove_101 : decode cX12_prove 101 = .ok (.iconst 1, 1) := by decide +kernel
theorem dX12_prove_102 : decode cX12_prove 102 = .ok (.isub, 1) := by decide +kernel
theorem dX12_prove_103 : decode cX12_prove 103 = .ok (.putfield 334, 3) := by decide +kernel
theorem dX12_prove_106 : decode cX12_prove 106 = .ok (.aload_n 0, 1) := by decide +kernel
theorem dX12_prove_107 : decode cX12_prove 107 = .ok (.getfield 83, 3) := by decide +kernel
theorem dX12_prove_110 : decode cX12_prove 110 = .ok (.aload_n 0, 1) := by decide +kernel
theorem dX12_prove_111 : decode cX12_prove 111 = .ok (.getfield 334, 3) := by decide +kernel
theorem dX12_prove_114 : decode cX12_prove 114 = .ok (.dup2, 1) := by decide +kernel
theorem dX12_prove_115 : decode cX12_prove 115 = .ok (.iaload, 1) := by decide +kernel
theorem dX12_prove_116 : decode cX12_prove 116 = .ok (.iload_n 1, 1) := by decide +kernel
theorem dX12_prove_117 : decode cX12_prove 117 = .ok (.ifCond .ne 7, 3) := by decide +kernel
theorem dX12_prove_120 : decode cX12_prove 120 = .ok (.iconst 1, 1) := by decide +kernel
theorem dX12_prove_121 : decode cX12_prove 121 = .ok (.goto 4, 3) := by decide +kernel
theorem dX12_prove_124 : decode cX12_prove 124 = .ok (.iconst 0, 1) := by decide +kernel
theorem dX12_prove_125 : decode cX12_prove 125 = .ok (.iadd, 1) := by decide +kernel
theorem dX12_prove_126 : decode cX12_prove 126 = .ok (.iastore, 1) := by decide +kernel
theorem dX12_prove_127 : decode cX12_prove 127 = .ok (.iload_n 1, 1) := by decide +kernel
theorem dX12_prove_128 : decode cX12_prove 128 = .ok (.ifCond .ne 7, 3) := by decide +kernel
theorem dX12_prove_131 : decode cX12_prove 131 = .ok (.iconst 5, 1) := by decide +kernel
theorem dX12_prove_132 : decode cX12_prove 132 = .ok (.goto 9, 3) := by decide +kernel
theorem dX12_prove_135 : decode cX12_prove 135 = .ok (.aload_n 0, 1) := by decide +kernel
theorem dX12_prove_136 : decode cX12_prove 136 = .ok (.iconst 2, 1) := by decide +kernel
theorem dX12_prove_137 : decode cX12_prove 137 = .ok (.iconst 0, 1) := by decide +kernel
theorem dX12_prove_138 : decode cX12_prove 138 = .ok (.invokevirtual 355, 3) := by decide +kernel
theorem dX12_prove_141 : decode cX12_prove 141 = .ok (.istore_n 1, 1) := by decide +kernel
theorem dX12_prove_142 : decode cX12_prove 142 = .ok (.goto 5, 3) := by decide +kernel
theorem dX12_prove_145 : decode cX12_prove 145 = .ok (.iconst 0, 1) := by decide +kernel
theorem dX12_prove_146 : decode cX12_prove 146 = .ok (.istore_n 2, 1) := by decide +kernel
theorem dX12_prove_147 : decode cX12_prove 147 = .ok (.iload_n 2, 1) := by decide +kernel
theorem dX12_prove_148 : decode cX12_prove 148 = .ok (.ifCond .eq 12, 3) := by decide +kernel
theorem dX12_prove_151 : decode cX12_prove 151 = .ok (.iload_n 1, 1) := by decide +kernel
theorem dX12_prove_152 : decode cX12_prove 152 = .ok (.iconst 3, 1) := by decide +kernel
theorem dX12_prove_153 : decode cX12_prove 153 = .ok (.if_icmp .eq 7, 3) := by decide +kernel
theorem dX12_prove_156 : decode cX12_prove 156 = .ok (.iconst 1, 1) := by decide +kernel
theorem dX12_prove_157 : decode cX12_prove 157 = .ok (.goto 4, 3) := by decide +kernel
theorem dX12_prove_160 : decode cX12_prove 160 = .ok (.iconst 0, 1) := by decide +kernel
theorem dX12_prove_161 : decode cX12_prove 161 = .ok (.istore_n 2, 1) := by decide +kernel
theorem dX12_prove_162 : decode cX12_prove 162 = .ok (.goto (-104), 3) := by decide +kernel
theorem dX12_prove_165 : decode cX12_prove 165 = .ok (.aload_n 0, 1) := by decide +kernel
theorem dX12_prove_166 : decode cX12_prove 166 = .ok (.iload_n 1, 1) := by decide +kernel
theorem dX12_prove_167 : decode cX12_prove 167 = .ok (.putfield 79, 3) := by decide +kernel
theorem dX12_prove_170 : decode cX12_prove 170 = .ok (.iload_n 1, 1) := by decide +kernel
theorem dX12_prove_171 : decode cX12_prove 171 = .ok (.ireturn, 1) := by decide +kernel
theorem dX12_why_0 : decode cX12_why 0 = .ok (.iload_n 1, 1) := by decide +kernel
theorem dX12_why_1 : decode cX12_why 1 = .ok (.iconst 0, 1) := by decide +kernel
theorem dX12_why_2 : decode cX12_why 2 = .ok (.bipush 9, 2) := by decide +kernel
theorem dX12_why_4 : decode cX12_why 4 = .ok (.invokestatic 96, 3) := by decide +kernel
theorem dX12_why_7 : decode cX12_why 7 = .ok (.ifCond .ne 6, 3) := by decide +kernel
theorem dX12_why_10 : decode cX12_why 10 = .ok (.bipush (-2), 2) := by decide +kernel
theorem dX12_why_12 : decode cX12_why 12 = .ok (.ireturn, 1) := by decide +kernel
theorem dX12_why_13 : decode cX12_why 13 = .ok (.aload_n 0, 1) := by decide +kernel
theorem dX12_why_14 : decode cX12_why 14 = .ok (.getfield 79, 3) := by decide +kernel
theorem dX12_why_17 : decode cX12_why 17 = .ok (.iconst 3, 1) := by decide +kernel
theorem dX12_why_18 : decode cX12_why 18 = .ok (.if_icmp .ne 14, 3) := by decide +kernel
theorem dX12_why_21 : decode cX12_why 21 = .ok (.iload_n 1, 1) := by decide +kernel
theorem dX12_why_22 : decode cX12_why 22 = .ok (.ifCond .ne 7, 3) := by decide +kernel
theorem dX12_why_25 : decode cX12_why 25 = .ok (.iconst 3, 1) := by decide +kernel
theorem dX12_why_26 : decode cX12_why 26 = .ok (.goto 5, 3) := by decide +kernel
theorem dX12_why_29 : decode cX12_why 29 = .ok (.bipush (-9), 2) := by decide +kernel
theorem dX12_why_31 : decode cX12_why 31 = .ok (.ireturn, 1) := by decide +kernel
theorem dX12_why_32 : decode cX12_why 32 = .ok (.aload_n 0, 1) := by decide +kernel
theorem dX12_why_33 : decode cX12_why 33 = .ok (.getfield 79, 3) := by decide +kernel
theorem dX12_why_36 : decode cX12_why 36 = .ok (.iconst 1, 1) := by decide +kernel
theorem dX12_why_37 : decode cX12_why 37 = .ok (.if_icmp .eq 14, 3) := by decide +kernel
theorem dX12_why_40 : decode cX12_why 40 = .ok (.aload_n 0, 1) := by decide +kernel
theorem dX12_why_41 : decode cX12_why 41 = .ok (.getfield 79, 3) := by decide +kernel
theorem dX12_why_44 : decode cX12_why 44 = .ok (.iconst 2, 1) := by decide +kernel
theorem dX12_why_45 : decode cX12_why 45 = .ok (.if_icmp .eq 6, 3) := by decide +kernel
theorem dX12_why_48 : decode cX12_why 48 = .ok (.bipush (-9), 2) := by decide +kernel
theorem dX12_why_50 : decode cX12_why 50 = .ok (.ireturn, 1) := by decide +kernel
theorem dX12_why_51 : decode cX12_why 51 = .ok (.iload_n 1, 1) := by decide +kernel
theorem dX12_why_52 : decode cX12_why 52 = .ok (.aload_n 0, 1) := by decide +kernel
theorem dX12_why_53 : decode cX12_why 53 = .ok (.getfield 337, 3) := by decide +kernel
theorem dX12_why_56 : decode cX12_why 56 = .ok (.if_icmp .ge 7, 3) := by decide +kernel
theorem dX12_why_59 : decode cX12_why 59 = .ok (.iconst 2, 1) := by decide +kernel
theorem dX12_why_60 : decode cX12_why 60 = .ok (.goto 41, 3) := by decide +kernel
theorem dX12_why_63 : decode cX12_why 63 = .ok (.iload_n 1, 1) := by decide +kernel
theorem dX12_why_64 : decode cX12_why 64 = .ok (.aload_n 0, 1) := by decide +kernel
theorem dX12_why_65 : decode cX12_why 65 = .ok (.getfield 337, 3) := by decide +kernel
theorem dX12_why_68 : decode cX12_why 68 = .ok (.if_icmp .ne 10, 3) := by decide +kernel
theorem dX12_why_71 : decode cX12_why 71 = .ok (.aload_n 0, 1) := by decide +kernel
theorem dX12_why_72 : decode cX12_why 72 = .ok (.getfield 340, 3) := by decide +kernel
theorem dX12_why_75 : decode cX12_why 75 = .ok (.goto 26, 3) := by decide +kernel
theorem dX12_why_78 : decode cX12_why 78 = .ok (.iload_n 1, 1) := by decide +kernel
theorem dX12_why_79 : decode cX12_why 79 = .ok (.aload_n 0, 1) := by decide +kernel
theorem dX12_why_80 : decode cX12_why 80 = .ok (.getfield 337, 3) := by decide +kernel
theorem dX12_why_83 : decode cX12_why 83 = .ok (.iconst 1, 1) := by decide +kernel
theorem dX12_why_84 : decode cX12_why 84 = .ok (.iadd, 1) := by decide +kernel
theorem dX12_why_85 : decode cX12_why 85 = .ok (.if_icmp .ne 14, 3) := by decide +kernel
theorem dX12_why_88 : decode cX12_why 88 = .ok (.aload_n 0, 1) := by decide +kernel
theorem dX12_why_89 : decode cX12_why 89 = .ok (.getfield 352, 3) := by decide +kernel
theorem dX12_why_92 : decode cX12_why 92 = .ok (.ifCond .eq 7, 3) := by decide +kernel
theorem dX12_why_95 : decode cX12_why 95 = .ok (.iconst 4, 1) := by decide +kernel
theorem dX12_why_96 : decode cX12_why 96 = .ok (.goto 5, 3) := by decide +kernel
theorem dX12_why_99 : decode cX12_why 99 = .ok (.bipush (-9), 2) := by decide +kernel
theorem dX12_why_101 : decode cX12_why 101 = .ok (.ireturn, 1) := by decide +kernel
theorem dX12_script_0 : decode cX12_script 0 = .ok (.iload_n 1, 1) := by decide +kernel
theorem dX12_script_1 : decode cX12_script 1 = .ok (.iconst 0, 1) := by decide +kernel
theorem dX12_script_2 : decode cX12_script 2 = .ok (.bipush 98, 2) := by decide +kernel
theorem dX12_script_4 : decode cX12_script 4 = .ok (.invokestatic 96, 3) := by decide +kernel
theorem dX12_script_7 : decode cX12_script 7 = .ok (.ifCond .eq 12, 3) := by decide +kernel
theorem dX12_script_10 : decode cX12_script 10 = .ok (.iload_n 2, 1) := by decide +kernel
theorem dX12_script_11 : decode cX12_script 11 = .ok (.iconst 0, 1) := by decide +kernel
theorem dX12_script_12 : decode cX12_script 12 = .ok (.iconst 1, 1) := by decide +kernel
theorem dX12_script_13 : decode cX12_script 13 = .ok (.invokestatic 96, 3) := by decide +kernel
theorem dX12_script_16 : decode cX12_script 16 = .ok (.ifCond .ne 6, 3) := by decide +kernel
theorem dX12_script_19 : decode cX12_script 19 = .ok (.bipush (-2), 2) := by decide +kernel
theorem dX12_script_21 : decode cX12_script 21 = .ok (.ireturn, 1) := by decide +kernel
theorem dX12_script_22 : decode cX12_script 22 = .ok (.iload_n 1, 1) := by decide +kernel
theorem dX12_script_23 : decode cX12_script 23 = .ok (.aload_n 0, 1) := by decide +kernel
theorem dX12_script_24 : decode cX12_script 24 = .ok (.getfield 174, 3) := by decide +kernel
theorem dX12_script_27 : decode cX12_script 27 = .ok (.if_icmp .lt 8, 3) := by decide +kernel
theorem dX12_script_30 : decode cX12_script 30 = .ok (.bipush (-9), 2) := by decide +kernel
theorem dX12_script_32 : decode cX12_script 32 = .ok (.goto 22, 3) := by decide +kernel
theorem dX12_script_35 : decode cX12_script 35 = .ok (.iload_n 2, 1) := by decide +kernel
theorem dX12_script_36 : decode cX12_script 36 = .ok (.ifCond .ne 12, 3) := by decide +kernel
theorem dX12_script_39 : decode cX12_script 39 = .ok (.aload_n 0, 1) := by decide +kernel
theorem dX12_script_40 : decode cX12_script 40 = .ok (.getfield 73, 3) := by decide +kernel
theorem dX12_script_43 : decode cX12_script 43 = .ok (.iload_n 1, 1) := by decide +kernel
theorem dX12_script_44 : decode cX12_script 44 = .ok (.iaload, 1) := by decide +kernel
theorem dX12_script_45 : decode cX12_script 45 = .ok (.goto 9, 3) := by decide +kernel
theorem dX12_script_48 : decode cX12_script 48 = .ok (.aload_n 0, 1) := by decide +kernel
theorem dX12_script_49 : decode cX12_script 49 = .ok (.getfield 76, 3) := by decide +kernel
theorem dX12_script_52 : decode cX12_script 52 = .ok (.iload_n 1, 1) := by decide +kernel
theorem dX12_script_53 : decode cX12_script 53 = .ok (.iaload, 1) := by decide +kernel
theorem dX12_script_54 : decode cX12_script 54 = .ok (.ireturn, 1) := by decide +kernel
theorem dX12_isKnown_0 : decode cX12_isKnown 0 = .ok (.iload_n 1, 1) := by decide +kernel
theorem dX12_isKnown_1 : decode cX12_isKnown 1 = .ok (.iconst 0, 1) := by decide +kernel
theorem dX12_isKnown_2 : decode cX12_isKnown 2 = .ok (.aload_n 0, 1) := by decide +kernel
theorem dX12_isKnown_3 : decode cX12_isKnown 3 = .ok (.getfield 171, 3) := by decide +kernel
theorem dX12_isKnown_6 : decode cX12_isKnown 6 = .ok (.iconst 1, 1) := by decide +kernel
theorem dX12_isKnown_7 : decode cX12_isKnown 7 = .ok (.isub, 1) := by decide +kernel
theorem dX12_isKnown_8 : decode cX12_isKnown 8 = .ok (.invokestatic 96, 3) := by decide +kernel
theorem dX12_isKnown_11 : decode cX12_isKnown 11 = .ok (.ireturn, 1) := by decide +kernel
theorem dX12_lemma_0 : decode cX12_lemma 0 = .ok (.aload_n 0, 1) := by decide +kernel
theorem dX12_lemma_1 : decode cX12_lemma 1 = .ok (.iload_n 1, 1) := by decide +kernel
theorem dX12_lemma_2 : decode cX12_lemma 2 = .ok (.invokevirtual 383, 3) := by decide +kernel
theorem dX12_lemma_5 : decode cX12_lemma 5 = .ok (.ifCond .ne 5, 3) := by decide +kernel
theorem dX12_lemma_8 : decode cX12_lemma 8 = .ok (.iconst (-1), 1) := by decide +kernel
theorem dX12_lemma_9 : decode cX12_lemma 9 = .ok (.ireturn, 1) := by decide +kernel
theorem dX12_lemma_10 : decode cX12_lemma 10 = .ok (.iload_n 2, 1) := by decide +kernel
theorem dX12_lemma_11 : decode cX12_lemma 11 = .ok (.iconst 0, 1) := by decide +kernel
theorem dX12_lemma_12 : decode cX12_lemma 12 = .ok (.iconst 1, 1) := by decide +kernel
theorem dX12_lemma_13 : decode cX12_lemma 13 = .ok (.invokestatic 96, 3) := by decide +kernel
theorem dX12_lemma_16 : decode cX12_lemma 16 = .ok (.ifCond .eq 19, 3) := by decide +kernel
theorem dX12_lemma_19 : decode cX12_lemma 19 = .ok (.iload_n 3, 1) := by decide +kernel
theorem dX12_lemma_20 : decode cX12_lemma 20 = .ok (.bipush (-9), 2) := by decide +kernel
theorem dX12_lemma_22 : decode cX12_lemma 22 = .ok (.if_icmp .eq 16, 3) := by decide +kernel
theorem dX12_lemma_25 : decode cX12_lemma 25 = .ok (.iload_n 3, 1) := by decide +kernel
theorem dX12_lemma_26 : decode cX12_lemma 26 = .ok (.iconst 0, 1) := by decide +kernel
theorem dX12_lemma_27 : decode cX12_lemma 27 = .ok (.bipush 39, 2) := by decide +kernel
theorem dX12_lemma_29 : decode cX12_lemma 29 = .ok (.invokestatic 96, 3) := by decide +kernel
theorem dX12_lemma_32 : decode cX12_lemma 32 = .ok (.ifCond .ne 6, 3) := by decide +kernel
theorem dX12_lemma_35 : decode cX12_lemma 35 = .ok (.bipush (-2), 2) := by decide +kernel
theorem dX12_lemma_37 : decode cX12_lemma 37 = .ok (.ireturn, 1) := by decide +kernel
theorem dX12_lemma_38 : decode cX12_lemma 38 = .ok (.aload_n 0, 1) := by decide +kernel
theorem dX12_lemma_39 : decode cX12_lemma 39 = .ok (.bipush 28, 2) := by decide +kernel
theorem dX12_lemma_41 : decode cX12_lemma 41 = .ok (.iconst 2, 1) := by decide +kernel
theorem dX12_lemma_42 : decode cX12_lemma 42 = .ok (.iload_n 1, 1) := by decide +kernel
theorem dX12_lemma_43 : decode cX12_lemma 43 = .ok (.imul, 1) := by decide +kernel
theorem dX12_lemma_44 : decode cX12_lemma 44 = .ok (.iadd, 1) := by decide +kernel
theorem dX12_lemma_45 : decode cX12_lemma 45 = .ok (.iload_n 2, 1) := by decide +kernel
theorem dX12_lemma_46 : decode cX12_lemma 46 = .ok (.iadd, 1) := by decide +kernel
theorem dX12_lemma_47 : decode cX12_lemma 47 = .ok (.iload_n 3, 1) := by decide +kernel
theorem dX12_lemma_48 : decode cX12_lemma 48 = .ok (.invokevirtual 168, 3) := by decide +kernel
theorem dX12_lemma_51 : decode cX12_lemma 51 = .ok (.ireturn, 1) := by decide +kernel
theorem dX12_tested_0 : decode cX12_tested 0 = .ok (.aload_n 0, 1) := by decide +kernel
theorem dX12_tested_1 : decode cX12_tested 1 = .ok (.iload_n 1, 1) := by decide +kernel
theorem dX12_tested_2 : decode cX12_tested 2 = .ok (.invokevirtual 383, 3) := by decide +kernel
theorem dX12_tested_5 : decode cX12_tested 5 = .ok (.ifCond .ne 5, 3) := by decide +kernel
theorem dX12_tested_8 : decode cX12_tested 8 = .ok (.iconst (-1), 1) := by decide +kernel
theorem dX12_tested_9 : decode cX12_tested 9 = .ok (.ireturn, 1) := by decide +kernel
theorem dX12_tested_10 : decode cX12_tested 10 = .ok (.iload_n 2, 1) := by decide +kernel
theorem dX12_tested_11 : decode cX12_tested 11 = .ok (.iconst 0, 1) := by decide +kernel
theorem dX12_tested_12 : decode cX12_tested 12 = .ok (.iconst 2, 1) := by decide +kernel
theorem dX12_tested_13 : decode cX12_tested 13 = .ok (.invokestatic 96, 3) := by decide +kernel
theorem dX12_tested_16 : decode cX12_tested 16 = .ok (.ifCond .ne 6, 3) := by decide +kernel
theorem dX12_tested_19 : decode cX12_tested 19 = .ok (.bipush (-2), 2) := by decide +kernel
theorem dX12_tested_21 : decode cX12_tested 21 = .ok (.ireturn, 1) := by decide +kernel
theorem dX12_tested_22 : decode cX12_tested 22 = .ok (.iconst 0, 1) := by decide +kernel
theorem dX12_tested_23 : decode cX12_tested 23 = .ok (.istore_n 3, 1) := by decide +kernel
theorem dX12_tested_24 : decode cX12_tested 24 = .ok (.iconst 0, 1) := by decide +kernel
theorem dX12_tested_25 : decode cX12_tested 25 = .ok (.istore 4, 2) := by decide +kernel
theorem dX12_tested_27 : decode cX12_tested 27 = .ok (.iload 4, 2) := by decide +kernel
theorem dX12_tested_29 : decode cX12_tested 29 = .ok (.bipush 64, 2) := by decide +kernel
theorem dX12_tested_31 : decode cX12_tested 31 = .ok (.if_icmp .ge 71, 3) := by decide +kernel
theorem dX12_tested_34 : decode cX12_tested 34 = .ok (.aload_n 0, 1) := by decide +kernel
theorem dX12_tested_35 : decode cX12_tested 35 = .ok (.bipush 28, 2) := by decide +kernel
theorem dX12_tested_37 : decode cX12_tested 37 = .ok (.iconst 2, 1) := by decide +kernel
theorem dX12_tested_38 : decode cX12_tested 38 = .ok (.iload_n 1, 1) := by decide +kernel
theorem dX12_tested_39 : decode cX12_tested 39 = .ok (.imul, 1) := by decide +kernel
theorem dX12_tested_40 : decode cX12_tested 40 = .ok (.iadd, 1) := by decide +kernel
theorem dX12_tested_41 : decode cX12_tested 41 = .ok (.bipush 28, 2) := by decide +kernel
theorem dX12_tested_43 : decode cX12_tested 43 = .ok (.iconst 2, 1) := by decide +kernel
theorem dX12_tested_44 : decode cX12_tested 44 = .ok (.iload_n 1, 1) := by decide +kernel
theorem dX12_tested_45 : decode cX12_tested 45 = .ok (.imul, 1) := by decide +kernel
theorem dX12_tested_46 : decode cX12_tested 46 = .ok (.iadd, 1) := by decide +kernel
theorem dX12_tested_47 : decode cX12_tested 47 = .ok (.iconst 1, 1) := by decide +kernel
theorem dX12_tested_48 : decode cX12_tested 48 = .ok (.iadd, 1) := by decide +kernel
theorem dX12_tested_49 : decode cX12_tested 49 = .ok (.iload 4, 2) := by decide +kernel
theorem dX12_tested_51 : decode cX12_tested 51 = .ok (.bipush 16, 2) := by decide +kernel
theorem dX12_tested_53 : decode cX12_tested 53 = .ok (.idiv, 1) := by decide +kernel
theorem dX12_tested_54 : decode cX12_tested 54 = .ok (.iload 4, 2) := by decide +kernel
theorem dX12_tested_56 : decode cX12_tested 56 = .ok (.iconst 4, 1) := by decide +kernel
theorem dX12_tested_57 : decode cX12_tested 57 = .ok (.idiv, 1) := by decide +kernel
theorem dX12_tested_58 : decode cX12_tested 58 = .ok (.iconst 4, 1) := by decide +kernel
theorem dX12_tested_59 : decode cX12_tested 59 = .ok (.irem, 1) := by decide +kernel
theorem dX12_tested_60 : decode cX12_tested 60 = .ok (.iload 4, 2) := by decide +kernel
theorem dX12_tested_62 : decode cX12_tested 62 = .ok (.iconst 4, 1) := by decide +kernel
theorem dX12_tested_63 : decode cX12_tested 63 = .ok (.irem, 1) := by decide +kernel
theorem dX12_tested_64 : decode cX12_tested 64 = .ok (.invokevirtual 207, 3) := by decide +kernel
theorem dX12_tested_67 : decode cX12_tested 67 = .ok (.istore 5, 2) := by decide +kernel
theorem dX12_tested_69 : decode cX12_tested 69 = .ok (.iload_n 3, 1) := by decide +kernel
theorem dX12_tested_70 : decode cX12_tested 70 = .ok (.iload 5, 2) := by decide +kernel
theorem dX12_tested_72 : decode cX12_tested 72 = .ok (.bipush (-9), 2) := by decide +kernel
theorem dX12_tested_74 : decode cX12_tested 74 = .ok (.if_icmp .ne 7, 3) := by decide +kernel
theorem dX12_tested_77 : decode cX12_tested 77 = .ok (.iconst 2, 1) := by decide +kernel
theorem dX12_tested_78 : decode cX12_tested 78 = .ok (.goto 7, 3) := by decide +kernel
theorem dX12_tested_81 : decode cX12_tested 81 = .ok (.iconst 1, 1) := by decide +kernel
theorem dX12_tested_82 : decode cX12_tested 82 = .ok (.iload 5, 2) := by decide +kernel
theorem dX12_tested_84 : decode cX12_tested 84 = .ok (.isub, 1) := by decide +kernel
theorem dX12_tested_85 : decode cX12_tested 85 = .ok (.iload_n 2, 1) := by decide +kernel
theorem dX12_tested_86 : decode cX12_tested 86 = .ok (.if_icmp .ne 7, 3) := by decide +kernel
theorem dX12_tested_89 : decode cX12_tested 89 = .ok (.iconst 1, 1) := by decide +kernel
theorem dX12_tested_90 : decode cX12_tested 90 = .ok (.goto 4, 3) := by decide +kernel
theorem dX12_tested_93 : decode cX12_tested 93 = .ok (.iconst 0, 1) := by decide +kernel
theorem dX12_tested_94 : decode cX12_tested 94 = .ok (.iadd, 1) := by decide +kernel
theorem dX12_tested_95 : decode cX12_tested 95 = .ok (.istore_n 3, 1) := by decide +kernel
theorem dX12_tested_96 : decode cX12_tested 96 = .ok (.iinc 4 1, 3) := by decide +kernel
theorem dX12_tested_99 : decode cX12_tested 99 = .ok (.goto (-72), 3) := by decide +kernel
theorem dX12_tested_102 : decode cX12_tested 102 = .ok (.iload_n 3, 1) := by decide +kernel
theorem dX12_tested_103 : decode cX12_tested 103 = .ok (.ireturn, 1) := by decide +kernel
theorem dX12_back_0 : decode cX12_back 0 = .ok (.aload_n 0, 1) := by decide +kernel
theorem dX12_back_1 : decode cX12_back 1 = .ok (.getfield 171, 3) := by decide +kernel
theorem dX12_back_4 : decode cX12_back 4 = .ok (.ifCond .ne 6, 3) := by decide +kernel
theorem dX12_back_7 : decode cX12_back 7 = .ok (.bipush (-3), 2) := by decide +kernel
theorem dX12_back_9 : decode cX12_back 9 = .ok (.ireturn, 1) := by decide +kernel
theorem dX12_back_10 : decode cX12_back 10 = .ok (.aload_n 0, 1) := by decide +kernel
theorem dX12_back_11 : decode cX12_back 11 = .ok (.dup, 1) := by decide +kernel
theorem dX12_back_12 : decode cX12_back 12 = .ok (.getfield 171, 3) := by decide +kernel
theorem dX12_back_15 : decode cX12_back 15 = .ok (.iconst 1, 1) := by decide +kernel
theorem dX12_back_16 : decode cX12_back 16 = .ok (.isub, 1) := by decide +kernel
theorem dX12_back_17 : decode cX12_back 17 = .ok (.putfield 171, 3) := by decide +kernel
theorem dX12_back_20 : decode cX12_back 20 = .ok (.aload_n 0, 1) := by decide +kernel
theorem dX12_back_21 : decode cX12_back 21 = .ok (.getfield 171, 3) := by decide +kernel
theorem dX12_back_24 : decode cX12_back 24 = .ok (.ireturn, 1) := by decide +kernel
theorem dX12_many_0 : decode cX12_many 0 = .ok (.iload_n 1, 1) := by decide +kernel
theorem dX12_many_1 : decode cX12_many 1 = .ok (.tableswitch 51 0 3 #[31, 36, 41, 46], 31) := by decide +kernel
theorem dX12_many_32 : decode cX12_many 32 = .ok (.aload_n 0, 1) := by decide +kernel
theorem dX12_many_33 : decode cX12_many 33 = .ok (.getfield 137, 3) := by decide +kernel
theorem dX12_many_36 : decode cX12_many 36 = .ok (.ireturn, 1) := by decide +kernel
theorem dX12_many_37 : decode cX12_many 37 = .ok (.aload_n 0, 1) := by decide +kernel
theorem dX12_many_38 : decode cX12_many 38 = .ok (.getfield 171, 3) := by decide +kernel
theorem dX12_many_41 : decode cX12_many 41 = .ok (.ireturn, 1) := by decide +kernel
theorem dX12_many_42 : decode cX12_many 42 = .ok (.aload_n 0, 1) := by decide +kernel
theorem dX12_many_43 : decode cX12_many 43 = .ok (.getfield 108, 3) := by decide +kernel
theorem dX12_many_46 : decode cX12_many 46 = .ok (.ireturn, 1) := by decide +kernel
theorem dX12_many_47 : decode cX12_many 47 = .ok (.aload_n 0, 1) := by decide +kernel
theorem dX12_many_48 : decode cX12_many 48 = .ok (.getfield 174, 3) := by decide +kernel
theorem dX12_many_51 : decode cX12_many 51 = .ok (.ireturn, 1) := by decide +kernel
theorem dX12_many_52 : decode cX12_many 52 = .ok (.bipush (-2), 2) := by decide +kernel
theorem dX12_many_54 : decode cX12_many 54 = .ok (.ireturn, 1) := by decide +kernel
end
section
theorem dX0_init_0 : decode cX0_init 0 = .ok (.aload_n 0, 1) := by decide +kernel
theorem dX0_init_1 : decode cX0_init 1 = .ok (.invokespecial 3, 3) := by decide +kernel
theorem dX0_init_4 : decode cX0_init 4 = .ok (.aload_n 0, 1) := by decide +kernel
theorem dX0_init_5 : decode cX0_init 5 = .ok (.new 9, 3) := by decide +kernel
theorem dX0_init_8 : decode cX0_init 8 = .ok (.dup, 1) := by decide +kernel
theorem dX0_init_9 : decode cX0_init 9 = .ok (.invokespecial 11, 3) := by decide +kernel
theorem dX0_init_12 : decode cX0_init 12 = .ok (.putfield 12, 3) := by decide +kernel
theorem dX0_init_15 : decode cX0_init 15 = .ok (.aload_n 0, 1) := by decide +kernel
theorem dX0_init_16 : decode cX0_init 16 = .ok (.new 9, 3) := by decide +kernel
theorem dX0_init_19 : decode cX0_init 19 = .ok (.dup, 1) := by decide +kernel
theorem dX0_init_20 : decode cX0_init 20 = .ok (.invokespecial 11, 3) := by decide +kernel
theorem dX0_init_23 : decode cX0_init 23 = .ok (.putfield 18, 3) := by decide +kernel
theorem dX0_init_26 : decode cX0_init 26 = .ok (.return_, 1) := by decide +kernel
theorem dX0_part_0 : decode cX0_part 0 = .ok (.iload_n 1, 1) := by decide +kernel
theorem dX0_part_1 : decode cX0_part 1 = .ok (.ifCond .ne 10, 3) := by decide +kernel
theorem dX0_part_4 : decode cX0_part 4 = .ok (.aload_n 0, 1) := by decide +kernel
theorem dX0_part_5 : decode cX0_part 5 = .ok (.getfield 12, 3) := by decide +kernel
theorem dX0_part_8 : decode cX0_part 8 = .ok (.goto 7, 3) := by decide +kernel
theorem dX0_part_11 : decode cX0_part 11 = .ok (.aload_n 0, 1) := by decide +kernel
theorem dX0_part_12 : decode cX0_part 12 = .ok (.getfield 18, 3) := by decide +kernel
theorem dX0_part_15 : decode cX0_part 15 = .ok (.areturn, 1) := by decide +kernel
theorem dX0_copy_0 : decode cX0_copy 0 = .ok (.aload_n 0, 1) := by decide +kernel
theorem dX0_copy_1 : decode cX0_copy 1 = .ok (.getfield 12, 3) := by decide +kernel
theorem dX0_copy_4 : decode cX0_copy 4 = .ok (.aload_n 1, 1) := by decide +kernel
theorem dX0_copy_5 : decode cX0_copy 5 = .ok (.getfield 12, 3) := by decide +kernel
theorem dX0_copy_8 : decode cX0_copy 8 = .ok (.invokevirtual 21, 3) := by decide +kernel
theorem dX0_copy_11 : decode cX0_copy 11 = .ok (.aload_n 0, 1) := by decide +kernel
theorem dX0_copy_12 : decode cX0_copy 12 = .ok (.getfield 18, 3) := by decide +kernel
theorem dX0_copy_15 : decode cX0_copy 15 = .ok (.aload_n 1, 1) := by decide +kernel
theorem dX0_copy_16 : decode cX0_copy 16 = .ok (.getfield 18, 3) := by decide +kernel
theorem dX0_copy_19 : decode cX0_copy 19 = .ok (.invokevirtual 21, 3) := by decide +kernel
theorem dX0_copy_22 : decode cX0_copy 22 = .ok (.return_, 1) := by decide +kernel
theorem dX0_isSame_0 : decode cX0_isSame 0 = .ok (.aload_n 0, 1) := by decide +kernel
theorem dX0_isSame_1 : decode cX0_isSame 1 = .ok (.getfield 12, 3) := by decide +kernel
theorem dX0_isSame_4 : decode cX0_isSame 4 = .ok (.aload_n 1, 1) := by decide +kernel
theorem dX0_isSame_5 : decode cX0_isSame 5 = .ok (.getfield 12, 3) := by decide +kernel
theorem dX0_isSame_8 : decode cX0_isSame 8 = .ok (.invokevirtual 25, 3) := by decide +kernel
theorem dX0_isSame_11 : decode cX0_isSame 11 = .ok (.ifCond .eq 21, 3) := by decide +kernel
theorem dX0_isSame_14 : decode cX0_isSame 14 = .ok (.aload_n 0, 1) := by decide +kernel
theorem dX0_isSame_15 : decode cX0_isSame 15 = .ok (.getfield 18, 3) := by decide +kernel
theorem dX0_isSame_18 : decode cX0_isSame 18 = .ok (.aload_n 1, 1) := by decide +kernel
theorem dX0_isSame_19 : decode cX0_isSame 19 = .ok (.getfield 18, 3) := by decide +kernel
theorem dX0_isSame_22 : decode cX0_isSame 22 = .ok (.invokevirtual 25, 3) := by decide +kernel
theorem dX0_isSame_25 : decode cX0_isSame 25 = .ok (.ifCond .eq 7, 3) := by decide +kernel
theorem dX0_isSame_28 : decode cX0_isSame 28 = .ok (.iconst 1, 1) := by decide +kernel
theorem dX0_isSame_29 : decode cX0_isSame 29 = .ok (.goto 4, 3) := by decide +kernel
theorem dX0_isSame_32 : decode cX0_isSame 32 = .ok (.iconst 0, 1) := by decide +kernel
theorem dX0_isSame_33 : decode cX0_isSame 33 = .ok (.ireturn, 1) := by decide +kernel
theorem dX0_isTrivial_0 : decode cX0_isTrivial 0 = .ok (.aload_n 0, 1) := by decide +kernel
theorem dX0_isTrivial_1 : decode cX0_isTrivial 1 = .ok (.getfield 12, 3) := by decide +kernel
theorem dX0_isTrivial_4 : decode cX0_isTrivial 4 = .ok (.aload_n 0, 1) := by decide +kernel
theorem dX0_isTrivial_5 : decode cX0_isTrivial 5 = .ok (.getfield 18, 3) := by decide +kernel
theorem dX0_isTrivial_8 : decode cX0_isTrivial 8 = .ok (.invokevirtual 25, 3) := by decide +kernel
theorem dX0_isTrivial_11 : decode cX0_isTrivial 11 = .ok (.ireturn, 1) := by decide +kernel
theorem dX0_has_0 : decode cX0_has 0 = .ok (.aload_n 0, 1) := by decide +kernel
theorem dX0_has_1 : decode cX0_has 1 = .ok (.getfield 12, 3) := by decide +kernel
theorem dX0_has_4 : decode cX0_has 4 = .ok (.bipush 120, 2) := by decide +kernel
theorem dX0_has_6 : decode cX0_has 6 = .ok (.iload_n 1, 1) := by decide +kernel
theorem dX0_has_7 : decode cX0_has 7 = .ok (.iadd, 1) := by decide +kernel
theorem dX0_has_8 : decode cX0_has 8 = .ok (.invokevirtual 29, 3) := by decide +kernel
theorem dX0_has_11 : decode cX0_has 11 = .ok (.ifCond .ne 17, 3) := by decide +kernel
theorem dX0_has_14 : decode cX0_has 14 = .ok (.aload_n 0, 1) := by decide +kernel
theorem dX0_has_15 : decode cX0_has 15 = .ok (.getfield 18, 3) := by decide +kernel
theorem dX0_has_18 : decode cX0_has 18 = .ok (.bipush 120, 2) := by decide +kernel
theorem dX0_has_20 : decode cX0_has 20 = .ok (.iload_n 1, 1) := by decide +kernel
theorem dX0_has_21 : decode cX0_has 21 = .ok (.iadd, 1) := by decide +kernel
theorem dX0_has_22 : decode cX0_has 22 = .ok (.invokevirtual 29, 3) := by decide +kernel
theorem dX0_has_25 : decode cX0_has 25 = .ok (.ifCond .eq 7, 3) := by decide +kernel
theorem dX0_has_28 : decode cX0_has 28 = .ok (.iconst 1, 1) := by decide +kernel
theorem dX0_has_29 : decode cX0_has 29 = .ok (.goto 4, 3) := by decide +kernel
theorem dX0_has_32 : decode cX0_has 32 = .ok (.iconst 0, 1) := by decide +kernel
theorem dX0_has_33 : decode cX0_has 33 = .ok (.ireturn, 1) := by decide +kernel
theorem dX0_callsOf_0 : decode cX0_callsOf 0 = .ok (.iconst 0, 1) := by decide +kernel
theorem dX0_callsOf_1 : decode cX0_callsOf 1 = .ok (.istore_n 2, 1) := by decide +kernel
theorem dX0_callsOf_2 : decode cX0_callsOf 2 = .ok (.iconst 0, 1) := by decide +kernel
theorem dX0_callsOf_3 : decode cX0_callsOf 3 = .ok (.istore_n 3, 1) := by decide +kernel
theorem dX0_callsOf_4 : decode cX0_callsOf 4 = .ok (.iload_n 3, 1) := by decide +kernel
theorem dX0_callsOf_5 : decode cX0_callsOf 5 = .ok (.bipush 40, 2) := by decide +kernel
theorem dX0_callsOf_7 : decode cX0_callsOf 7 = .ok (.if_icmp .ge 49, 3) := by decide +kernel
theorem dX0_callsOf_10 : decode cX0_callsOf 10 = .ok (.iload_n 2, 1) := by decide +kernel
theorem dX0_callsOf_11 : decode cX0_callsOf 11 = .ok (.aload_n 0, 1) := by decide +kernel
theorem dX0_callsOf_12 : decode cX0_callsOf 12 = .ok (.getfield 12, 3) := by decide +kernel
theorem dX0_callsOf_15 : decode cX0_callsOf 15 = .ok (.iload_n 1, 1) := by decide +kernel
theorem dX0_callsOf_16 : decode cX0_callsOf 16 = .ok (.iload_n 3, 1) := by decide +kernel
theorem dX0_callsOf_17 : decode cX0_callsOf 17 = .ok (.invokevirtual 33, 3) := by decide +kernel
theorem dX0_callsOf_20 : decode cX0_callsOf 20 = .ok (.ifCond .eq 7, 3) := by decide +kernel
theorem dX0_callsOf_23 : decode cX0_callsOf 23 = .ok (.iconst 1, 1) := by decide +kernel
theorem dX0_callsOf_24 : decode cX0_callsOf 24 = .ok (.goto 4, 3) := by decide +kernel
theorem dX0_callsOf_27 : decode cX0_callsOf 27 = .ok (.iconst 0, 1) := by decide +kernel
theorem dX0_callsOf_28 : decode cX0_callsOf 28 = .ok (.iadd, 1) := by decide +kernel
theorem dX0_callsOf_29 : decode cX0_callsOf 29 = .ok (.istore_n 2, 1) := by decide +kernel
theorem dX0_callsOf_30 : decode cX0_callsOf 30 = .ok (.iload_n 2, 1) := by decide +kernel
theorem dX0_callsOf_31 : decode cX0_callsOf 31 = .ok (.aload_n 0, 1) := by decide +kernel
theorem dX0_callsOf_32 : decode cX0_callsOf 32 = .ok (.getfield 18, 3) := by decide +kernel
theorem dX0_callsOf_35 : decode cX0_callsOf 35 = .ok (.iload_n 1, 1) := by decide +kernel
theorem dX0_callsOf_36 : decode cX0_callsOf 36 = .ok (.iload_n 3, 1) := by decide +kernel
theorem dX0_callsOf_37 : decode cX0_callsOf 37 = .ok (.invokevirtual 33, 3) := by decide +kernel
theorem dX0_callsOf_40 : decode cX0_callsOf 40 = .ok (.ifCond .eq 7, 3) := by decide +kernel
theorem dX0_callsOf_43 : decode cX0_callsOf 43 = .ok (.iconst 1, 1) := by decide +kernel
theorem dX0_callsOf_44 : decode cX0_callsOf 44 = .ok (.goto 4, 3) := by decide +kernel
theorem dX0_callsOf_47 : decode cX0_callsOf 47 = .ok (.iconst 0, 1) := by decide +kernel
theorem dX0_callsOf_48 : decode cX0_callsOf 48 = .ok (.iadd, 1) := by decide +kernel
theorem dX0_callsOf_49 : decode cX0_callsOf 49 = .ok (.istore_n 2, 1) := by decide +kernel
theorem dX0_callsOf_50 : decode cX0_callsOf 50 = .ok (.iinc 3 1, 3) := by decide +kernel
theorem dX0_callsOf_53 : decode cX0_callsOf 53 = .ok (.goto (-49), 3) := by decide +kernel
theorem dX0_callsOf_56 : decode cX0_callsOf 56 = .ok (.iload_n 2, 1) := by decide +kernel
theorem dX0_callsOf_57 : decode cX0_callsOf 57 = .ok (.ireturn, 1) := by decide +kernel
theorem dX0_deepestCall_0 : decode cX0_deepestCall 0 = .ok (.iconst 0, 1) := by decide +kernel
theorem dX0_deepestCall_1 : decode cX0_deepestCall 1 = .ok (.istore_n 3, 1) := by decide +kernel
theorem dX0_deepestCall_2 : decode cX0_deepestCall 2 = .ok (.iconst 1, 1) := by decide +kernel
theorem dX0_deepestCall_3 : decode cX0_deepestCall 3 = .ok (.istore 4, 2) := by decide +kernel
theorem dX0_deepestCall_5 : decode cX0_deepestCall 5 = .ok (.iload 4, 2) := by decide +kernel
theorem dX0_deepestCall_7 : decode cX0_deepestCall 7 = .ok (.bipush 40, 2) := by decide +kernel
theorem dX0_deepestCall_9 : decode cX0_deepestCall 9 = .ok (.if_icmp .ge 77, 3) := by decide +kernel
theorem dX0_deepestCall_12 : decode cX0_deepestCall 12 = .ok (.aload_n 0, 1) := by decide +kernel
theorem dX0_deepestCall_13 : decode cX0_deepestCall 13 = .ok (.getfield 12, 3) := by decide +kernel
theorem dX0_deepestCall_16 : decode cX0_deepestCall 16 = .ok (.iload_n 1, 1) := by decide +kernel
theorem dX0_deepestCall_17 : decode cX0_deepestCall 17 = .ok (.iload 4, 2) := by decide +kernel
theorem dX0_deepestCall_19 : decode cX0_deepestCall 19 = .ok (.invokevirtual 33, 3) := by decide +kernel
theorem dX0_deepestCall_22 : decode cX0_deepestCall 22 = .ok (.ifCond .eq 24, 3) := by decide +kernel
theorem dX0_deepestCall_25 : decode cX0_deepestCall 25 = .ok (.iload_n 3, 1) := by decide +kernel
theorem dX0_deepestCall_26 : decode cX0_deepestCall 26 = .ok (.aload_n 2, 1) := by decide +kernel
theorem dX0_deepestCall_27 : decode cX0_deepestCall 27 = .ok (.aload_n 0, 1) := by decide +kernel
theorem dX0_deepestCall_28 : decode cX0_deepestCall 28 = .ok (.getfield 12, 3) := by decide +kernel
theorem dX0_deepestCall_31 : decode cX0_deepestCall 31 = .ok (.getfield 37, 3) := by decide +kernel
theorem dX0_deepestCall_34 : decode cX0_deepestCall 34 = .ok (.iload 4, 2) := by decide +kernel
theorem dX0_deepestCall_36 : decode cX0_deepestCall 36 = .ok (.iconst 1, 1) := by decide +kernel
theorem dX0_deepestCall_37 : decode cX0_deepestCall 37 = .ok (.isub, 1) := by decide +kernel
theorem dX0_deepestCall_38 : decode cX0_deepestCall 38 = .ok (.iaload, 1) := by decide +kernel
theorem dX0_deepestCall_39 : decode cX0_deepestCall 39 = .ok (.invokevirtual 41, 3) := by decide +kernel
theorem dX0_deepestCall_42 : decode cX0_deepestCall 42 = .ok (.invokestatic 47, 3) := by decide +kernel
theorem dX0_deepestCall_45 : decode cX0_deepestCall 45 = .ok (.istore_n 3, 1) := by decide +kernel
theorem dX0_deepestCall_46 : decode cX0_deepestCall 46 = .ok (.aload_n 0, 1) := by decide +kernel
theorem dX0_deepestCall_47 : decode cX0_deepestCall 47 = .ok (.getfield 18, 3) := by decide +kernel
theorem dX0_deepestCall_50 : decode cX0_deepestCall 50 = .ok (.iload_n 1, 1) := by decide +kernel
theorem dX0_deepestCall_51 : decode cX0_deepestCall 51 = .ok (.iload 4, 2) := by decide +kernel
theorem dX0_deepestCall_53 : decode cX0_deepestCall 53 = .ok (.invokevirtual 33, 3) := by decide +kernel
theorem dX0_deepestCall_56 : decode cX0_deepestCall 56 = .ok (.ifCond .eq 24, 3) := by decide +kernel
theorem dX0_deepestCall_59 : decode cX0_deepestCall 59 = .ok (.iload_n 3, 1) := by decide +kernel
theorem dX0_deepestCall_60 : decode cX0_deepestCall 60 = .ok (.aload_n 2, 1) := by decide +kernel
theorem dX0_deepestCall_61 : decode cX0_deepestCall 61 = .ok (.aload_n 0, 1) := by decide +kernel
theorem dX0_deepestCall_62 : decode cX0_deepestCall 62 = .ok (.getfield 18, 3) := by decide +kernel
theorem dX0_deepestCall_65 : decode cX0_deepestCall 65 = .ok (.getfield 37, 3) := by decide +kernel
theorem dX0_deepestCall_68 : decode cX0_deepestCall 68 = .ok (.iload 4, 2) := by decide +kernel
theorem dX0_deepestCall_70 : decode cX0_deepestCall 70 = .ok (.iconst 1, 1) := by decide +kernel
theorem dX0_deepestCall_71 : decode cX0_deepestCall 71 = .ok (.isub, 1) := by decide +kernel
theorem dX0_deepestCall_72 : decode cX0_deepestCall 72 = .ok (.iaload, 1) := by decide +kernel
theorem dX0_deepestCall_73 : decode cX0_deepestCall 73 = .ok (.invokevirtual 41, 3) := by decide +kernel
theorem dX0_deepestCall_76 : decode cX0_deepestCall 76 = .ok (.invokestatic 47, 3) := by decide +kernel
theorem dX0_deepestCall_79 : decode cX0_deepestCall 79 = .ok (.istore_n 3, 1) := by decide +kernel
theorem dX0_deepestCall_80 : decode cX0_deepestCall 80 = .ok (.iinc 4 1, 3) := by decide +kernel
theorem dX0_deepestCall_83 : decode cX0_deepestCall 83 = .ok (.goto (-78), 3) := by decide +kernel
theorem dX0_deepestCall_86 : decode cX0_deepestCall 86 = .ok (.iload_n 3, 1) := by decide +kernel
theorem dX0_deepestCall_87 : decode cX0_deepestCall 87 = .ok (.ireturn, 1) := by decide +kernel
theorem dX0_inductionVariable_0 : decode cX0_inductionVariable 0 = .ok (.bipush (-9), 2) := by decide +kernel
theorem dX0_inductionVariable_2 : decode cX0_inductionVariable 2 = .ok (.istore_n 2, 1) := by decide +kernel
theorem dX0_inductionVariable_3 : decode cX0_inductionVariable 3 = .ok (.iconst 0, 1) := by decide +kernel
theorem dX0_inductionVariable_4 : decode cX0_inductionVariable 4 = .ok (.istore_n 3, 1) := by decide +kernel
theorem dX0_inductionVariable_5 : decode cX0_inductionVariable 5 = .ok (.iconst 0, 1) := by decide +kernel
theorem dX0_inductionVariable_6 : decode cX0_inductionVariable 6 = .ok (.istore 4, 2) := by decide +kernel
theorem dX0_inductionVariable_8 : decode cX0_inductionVariable 8 = .ok (.iconst 0, 1) := by decide +kernel
theorem dX0_inductionVariable_9 : decode cX0_inductionVariable 9 = .ok (.istore 5, 2) := by decide +kernel
theorem dX0_inductionVariable_11 : decode cX0_inductionVariable 11 = .ok (.iload 5, 2) := by decide +kernel
theorem dX0_inductionVariable_13 : decode cX0_inductionVariable 13 = .ok (.iconst 3, 1) := by decide +kernel
theorem dX0_inductionVariable_14 : decode cX0_inductionVariable 14 = .ok (.if_icmp .ge 60, 3) := by decide +kernel
theorem dX0_inductionVariable_17 : decode cX0_inductionVariable 17 = .ok (.aload_n 0, 1) := by decide +kernel
theorem dX0_inductionVariable_18 : decode cX0_inductionVariable 18 = .ok (.iload 5, 2) := by decide +kernel
theorem dX0_inductionVariable_20 : decode cX0_inductionVariable 20 = .ok (.invokevirtual 53, 3) := by decide +kernel
theorem dX0_inductionVariable_23 : decode cX0_inductionVariable 23 = .ok (.istore 6, 2) := by decide +kernel
theorem dX0_inductionVariable_25 : decode cX0_inductionVariable 25 = .ok (.aload_n 0, 1) := by decide +kernel
theorem dX0_inductionVariable_26 : decode cX0_inductionVariable 26 = .ok (.iload 5, 2) := by decide +kernel
theorem dX0_inductionVariable_28 : decode cX0_inductionVariable 28 = .ok (.aload_n 1, 1) := by decide +kernel
theorem dX0_inductionVariable_29 : decode cX0_inductionVariable 29 = .ok (.invokevirtual 56, 3) := by decide +kernel
theorem dX0_inductionVariable_32 : decode cX0_inductionVariable 32 = .ok (.istore 7, 2) := by decide +kernel
theorem dX0_inductionVariable_34 : decode cX0_inductionVariable 34 = .ok (.iload 6, 2) := by decide +kernel
theorem dX0_inductionVariable_36 : decode cX0_inductionVariable 36 = .ok (.iload_n 3, 1) := by decide +kernel
theorem dX0_inductionVariable_37 : decode cX0_inductionVariable 37 = .ok (.if_icmp .gt 21, 3) := by decide +kernel
theorem dX0_inductionVariable_40 : decode cX0_inductionVariable 40 = .ok (.iload 6, 2) := by decide +kernel
theorem dX0_inductionVariable_42 : decode cX0_inductionVariable 42 = .ok (.ifCond .le 26, 3) := by decide +kernel
theorem dX0_inductionVariable_45 : decode cX0_inductionVariable 45 = .ok (.iload 6, 2) := by decide +kernel
theorem dX0_inductionVariable_47 : decode cX0_inductionVariable 47 = .ok (.iload_n 3, 1) := by decide +kernel
theorem dX0_inductionVariable_48 : decode cX0_inductionVariable 48 = .ok (.if_icmp .ne 20, 3) := by decide +kernel
theorem dX0_inductionVariable_51 : decode cX0_inductionVariable 51 = .ok (.iload 7, 2) := by decide +kernel
theorem dX0_inductionVariable_53 : decode cX0_inductionVariable 53 = .ok (.iload 4, 2) := by decide +kernel
theorem dX0_inductionVariable_55 : decode cX0_inductionVariable 55 = .ok (.if_icmp .ge 13, 3) := by decide +kernel
theorem dX0_inductionVariable_58 : decode cX0_inductionVariable 58 = .ok (.iload 5, 2) := by decide +kernel
theorem dX0_inductionVariable_60 : decode cX0_inductionVariable 60 = .ok (.istore_n 2, 1) := by decide +kernel
theorem dX0_inductionVariable_61 : decode cX0_inductionVariable 61 = .ok (.iload 6, 2) := by decide +kernel
theorem dX0_inductionVariable_63 : decode cX0_inductionVariable 63 = .ok (.istore_n 3, 1) := by decide +kernel
theorem dX0_inductionVariable_64 : decode cX0_inductionVariable 64 = .ok (.iload 7, 2) := by decide +kernel
theorem dX0_inductionVariable_66 : decode cX0_inductionVariable 66 = .ok (.istore 4, 2) := by decide +kernel
theorem dX0_inductionVariable_68 : decode cX0_inductionVariable 68 = .ok (.iinc 5 1, 3) := by decide +kernel
theorem dX0_inductionVariable_71 : decode cX0_inductionVariable 71 = .ok (.goto (-60), 3) := by decide +kernel
theorem dX0_inductionVariable_74 : decode cX0_inductionVariable 74 = .ok (.iload_n 2, 1) := by decide +kernel
theorem dX0_inductionVariable_75 : decode cX0_inductionVariable 75 = .ok (.ireturn, 1) := by decide +kernel
theorem dX0_commonStart_0 : decode cX0_commonStart 0 = .ok (.bipush (-9), 2) := by decide +kernel
theorem dX0_commonStart_2 : decode cX0_commonStart 2 = .ok (.istore_n 1, 1) := by decide +kernel
theorem dX0_commonStart_3 : decode cX0_commonStart 3 = .ok (.iconst 0, 1) := by decide +kernel
theorem dX0_commonStart_4 : decode cX0_commonStart 4 = .ok (.istore_n 2, 1) := by decide +kernel
theorem dX0_commonStart_5 : decode cX0_commonStart 5 = .ok (.iconst 0, 1) := by decide +kernel
theorem dX0_commonStart_6 : decode cX0_commonStart 6 = .ok (.istore_n 3, 1) := by decide +kernel
theorem dX0_commonStart_7 : decode cX0_commonStart 7 = .ok (.iload_n 3, 1) := by decide +kernel
theorem dX0_commonStart_8 : decode cX0_commonStart 8 = .ok (.aload_n 0, 1) := by decide +kernel
theorem dX0_commonStart_9 : decode cX0_commonStart 9 = .ok (.getfield 12, 3) := by decide +kernel
theorem dX0_commonStart_12 : decode cX0_commonStart 12 = .ok (.getfield 60, 3) := by decide +kernel
theorem dX0_commonStart_15 : decode cX0_commonStart 15 = .ok (.if_icmp .ge 63, 3) := by decide +kernel
theorem dX0_commonStart_18 : decode cX0_commonStart 18 = .ok (.aload_n 0, 1) := by decide +kernel
theorem dX0_commonStart_19 : decode cX0_commonStart 19 = .ok (.getfield 12, 3) := by decide +kernel
theorem dX0_commonStart_22 : decode cX0_commonStart 22 = .ok (.getfield 64, 3) := by decide +kernel
theorem dX0_commonStart_25 : decode cX0_commonStart 25 = .ok (.iload_n 3, 1) := by decide +kernel
theorem dX0_commonStart_26 : decode cX0_commonStart 26 = .ok (.iaload, 1) := by decide +kernel
theorem dX0_commonStart_27 : decode cX0_commonStart 27 = .ok (.iload_n 3, 1) := by decide +kernel
theorem dX0_commonStart_28 : decode cX0_commonStart 28 = .ok (.isub, 1) := by decide +kernel
theorem dX0_commonStart_29 : decode cX0_commonStart 29 = .ok (.istore 4, 2) := by decide +kernel
theorem dX0_commonStart_31 : decode cX0_commonStart 31 = .ok (.iload 4, 2) := by decide +kernel
theorem dX0_commonStart_33 : decode cX0_commonStart 33 = .ok (.iload_n 2, 1) := by decide +kernel
theorem dX0_commonStart_34 : decode cX0_commonStart 34 = .ok (.if_icmp .le 38, 3) := by decide +kernel
theorem dX0_commonStart_37 : decode cX0_commonStart 37 = .ok (.aload_n 0, 1) := by decide +kernel
theorem dX0_commonStart_38 : decode cX0_commonStart 38 = .ok (.getfield 12, 3) := by decide +kernel
theorem dX0_commonStart_41 : decode cX0_commonStart 41 = .ok (.getfield 37, 3) := by decide +kernel
theorem dX0_commonStart_44 : decode cX0_commonStart 44 = .ok (.iload_n 3, 1) := by decide +kernel
theorem dX0_commonStart_45 : decode cX0_commonStart 45 = .ok (.iaload, 1) := by decide +kernel
theorem dX0_commonStart_46 : decode cX0_commonStart 46 = .ok (.invokestatic 67, 3) := by decide +kernel
theorem dX0_commonStart_49 : decode cX0_commonStart 49 = .ok (.ifCond .eq 23, 3) := by decide +kernel
theorem dX0_commonStart_52 : decode cX0_commonStart 52 = .ok (.aload_n 0, 1) := by decide +kernel
theorem dX0_commonStart_53 : decode cX0_commonStart 53 = .ok (.getfield 18, 3) := by decide +kernel
theorem dX0_commonStart_56 : decode cX0_commonStart 56 = .ok (.aload_n 0, 1) := by decide +kernel
theorem dX0_commonStart_57 : decode cX0_commonStart 57 = .ok (.getfield 12, 3) := by decide +kernel
theorem dX0_commonStart_60 : decode cX0_commonStart 60 = .ok (.iload_n 3, 1) := by decide +kernel
theorem dX0_commonStart_61 : decode cX0_commonStart 61 = .ok (.invokevirtual 70, 3) := by decide +kernel
theorem dX0_commonStart_64 : decode cX0_commonStart 64 = .ok (.ifCond .eq 8, 3) := by decide +kernel
theorem dX0_commonStart_67 : decode cX0_commonStart 67 = .ok (.iload_n 3, 1) := by decide +kernel
theorem dX0_commonStart_68 : decode cX0_commonStart 68 = .ok (.istore_n 1, 1) := by decide +kernel
theorem dX0_commonStart_69 : decode cX0_commonStart 69 = .ok (.iload 4, 2) := by decide +kernel
theorem dX0_commonStart_71 : decode cX0_commonStart 71 = .ok (.istore_n 2, 1) := by decide +kernel
theorem dX0_commonStart_72 : decode cX0_commonStart 72 = .ok (.iinc 3 1, 3) := by decide +kernel
theorem dX0_commonStart_75 : decode cX0_commonStart 75 = .ok (.goto (-68), 3) := by decide +kernel
theorem dX0_commonStart_78 : decode cX0_commonStart 78 = .ok (.iload_n 1, 1) := by decide +kernel
theorem dX0_commonStart_79 : decode cX0_commonStart 79 = .ok (.ireturn, 1) := by decide +kernel
theorem dX0_freeVariable_0 : decode cX0_freeVariable 0 = .ok (.iconst 0, 1) := by decide +kernel
theorem dX0_freeVariable_1 : decode cX0_freeVariable 1 = .ok (.istore_n 1, 1) := by decide +kernel
theorem dX0_freeVariable_2 : decode cX0_freeVariable 2 = .ok (.iload_n 1, 1) := by decide +kernel
theorem dX0_freeVariable_3 : decode cX0_freeVariable 3 = .ok (.iconst 3, 1) := by decide +kernel
theorem dX0_freeVariable_4 : decode cX0_freeVariable 4 = .ok (.if_icmp .ge 19, 3) := by decide +kernel
theorem dX0_freeVariable_7 : decode cX0_freeVariable 7 = .ok (.aload_n 0, 1) := by decide +kernel
theorem dX0_freeVariable_8 : decode cX0_freeVariable 8 = .ok (.iload_n 1, 1) := by decide +kernel
theorem dX0_freeVariable_9 : decode cX0_freeVariable 9 = .ok (.invokevirtual 74, 3) := by decide +kernel
theorem dX0_freeVariable_12 : decode cX0_freeVariable 12 = .ok (.ifCond .ne 5, 3) := by decide +kernel
theorem dX0_freeVariable_15 : decode cX0_freeVariable 15 = .ok (.iload_n 1, 1) := by decide +kernel
theorem dX0_freeVariable_16 : decode cX0_freeVariable 16 = .ok (.ireturn, 1) := by decide +kernel
theorem dX0_freeVariable_17 : decode cX0_freeVariable 17 = .ok (.iinc 1 1, 3) := by decide +kernel
theorem dX0_freeVariable_20 : decode cX0_freeVariable 20 = .ok (.goto (-18), 3) := by decide +kernel
theorem dX0_freeVariable_23 : decode cX0_freeVariable 23 = .ok (.bipush (-9), 2) := by decide +kernel
theorem dX0_freeVariable_25 : decode cX0_freeVariable 25 = .ok (.ireturn, 1) := by decide +kernel
theorem dX0_generalize_0 : decode cX0_generalize 0 = .ok (.aload_n 0, 1) := by decide +kernel
theorem dX0_generalize_1 : decode cX0_generalize 1 = .ok (.invokevirtual 75, 3) := by decide +kernel
theorem dX0_generalize_4 : decode cX0_generalize 4 = .ok (.istore_n 3, 1) := by decide +kernel
theorem dX0_generalize_5 : decode cX0_generalize 5 = .ok (.iload_n 3, 1) := by decide +kernel
theorem dX0_generalize_6 : decode cX0_generalize 6 = .ok (.bipush (-9), 2) := by decide +kernel
theorem dX0_generalize_8 : decode cX0_generalize 8 = .ok (.if_icmp .ne 8, 3) := by decide +kernel
theorem dX0_generalize_11 : decode cX0_generalize 11 = .ok (.bipush (-9), 2) := by decide +kernel
theorem dX0_generalize_13 : decode cX0_generalize 13 = .ok (.goto 7, 3) := by decide +kernel
theorem dX0_generalize_16 : decode cX0_generalize 16 = .ok (.aload_n 0, 1) := by decide +kernel
theorem dX0_generalize_17 : decode cX0_generalize 17 = .ok (.invokevirtual 79, 3) := by decide +kernel
theorem dX0_generalize_20 : decode cX0_generalize 20 = .ok (.istore 4, 2) := by decide +kernel
theorem dX0_generalize_22 : decode cX0_generalize 22 = .ok (.iload 4, 2) := by decide +kernel
theorem dX0_generalize_24 : decode cX0_generalize 24 = .ok (.bipush (-9), 2) := by decide +kernel
theorem dX0_generalize_26 : decode cX0_generalize 26 = .ok (.if_icmp .ne 11, 3) := by decide +kernel
theorem dX0_generalize_29 : decode cX0_generalize 29 = .ok (.aload_n 1, 1) := by decide +kernel
theorem dX0_generalize_30 : decode cX0_generalize 30 = .ok (.aload_n 0, 1) := by decide +kernel
theorem dX0_generalize_31 : decode cX0_generalize 31 = .ok (.invokevirtual 82, 3) := by decide +kernel
theorem dX0_generalize_34 : decode cX0_generalize 34 = .ok (.bipush (-9), 2) := by decide +kernel
theorem dX0_generalize_36 : decode cX0_generalize 36 = .ok (.ireturn, 1) := by decide +kernel
theorem dX0_generalize_37 : decode cX0_generalize 37 = .ok (.aload_n 0, 1) := by decide +kernel
theorem dX0_generalize_38 : decode cX0_generalize 38 = .ok (.aload_n 0, 1) := by decide +kernel
theorem dX0_generalize_39 : decode cX0_generalize 39 = .ok (.getfield 12, 3) := by decide +kernel
theorem dX0_generalize_42 : decode cX0_generalize 42 = .ok (.iload_n 3, 1) := by decide +kernel
theorem dX0_generalize_43 : decode cX0_generalize 43 = .ok (.iload 4, 2) := by decide +kernel
theorem dX0_generalize_45 : decode cX0_generalize 45 = .ok (.aload_n 1, 1) := by decide +kernel
theorem dX0_generalize_46 : decode cX0_generalize 46 = .ok (.getfield 12, 3) := by decide +kernel
theorem dX0_generalize_49 : decode cX0_generalize 49 = .ok (.invokevirtual 85, 3) := by decide +kernel
theorem dX0_generalize_52 : decode cX0_generalize 52 = .ok (.aload_n 0, 1) := by decide +kernel
theorem dX0_generalize_53 : decode cX0_generalize 53 = .ok (.aload_n 0, 1) := by decide +kernel
theorem dX0_generalize_54 : decode cX0_generalize 54 = .ok (.getfield 18, 3) := by decide +kernel
theorem dX0_generalize_57 : decode cX0_generalize 57 = .ok (.iload_n 3, 1) := by decide +kernel
theorem dX0_generalize_58 : decode cX0_generalize 58 = .ok (.iload 4, 2) := by decide +kernel
theorem dX0_generalize_60 : decode cX0_generalize 60 = .ok (.aload_n 1, 1) := by decide +kernel
theorem dX0_generalize_61 : decode cX0_generalize 61 = .ok (.getfield 18, 3) := by decide +kernel
theorem dX0_generalize_64 : decode cX0_generalize 64 = .ok (.invokevirtual 85, 3) := by decide +kernel
theorem dX0_generalize_67 : decode cX0_generalize 67 = .ok (.aload_n 1, 1) := by decide +kernel
theorem dX0_generalize_68 : decode cX0_generalize 68 = .ok (.getfield 12, 3) := by decide +kernel
theorem dX0_generalize_71 : decode cX0_generalize 71 = .ok (.aload_n 2, 1) := by decide +kernel
theorem dX0_generalize_72 : decode cX0_generalize 72 = .ok (.getfield 89, 3) := by decide +kernel
theorem dX0_generalize_75 : decode cX0_generalize 75 = .ok (.invokevirtual 92, 3) := by decide +kernel
theorem dX0_generalize_78 : decode cX0_generalize 78 = .ok (.aload_n 1, 1) := by decide +kernel
theorem dX0_generalize_79 : decode cX0_generalize 79 = .ok (.getfield 18, 3) := by decide +kernel
theorem dX0_generalize_82 : decode cX0_generalize 82 = .ok (.aload_n 2, 1) := by decide +kernel
theorem dX0_generalize_83 : decode cX0_generalize 83 = .ok (.getfield 89, 3) := by decide +kernel
theorem dX0_generalize_86 : decode cX0_generalize 86 = .ok (.invokevirtual 92, 3) := by decide +kernel
theorem dX0_generalize_89 : decode cX0_generalize 89 = .ok (.iload 4, 2) := by decide +kernel
theorem dX0_generalize_91 : decode cX0_generalize 91 = .ok (.ireturn, 1) := by decide +kernel
theorem dX0_putVariable_0 : decode cX0_putVariable 0 = .ok (.aload 4, 2) := by decide +kernel
theorem dX0_putVariable_2 : decode cX0_putVariable 2 = .ok (.invokevirtual 96, 3) := by decide +kernel
theorem dX0_putVariable_5 : decode cX0_putVariable 5 = .ok (.iconst 0, 1) := by decide +kernel
theorem dX0_putVariable_6 : decode cX0_putVariable 6 = .ok (.istore 5, 2) := by decide +kernel
theorem dX0_putVariable_8 : decode cX0_putVariable 8 = .ok (.iconst 0, 1) := by decide +kernel
theorem dX0_putVariable_9 : decode cX0_putVariable 9 = .ok (.istore 6, 2) := by decide +kernel
theorem dX0_putVariable_11 : decode cX0_putVariable 11 = .ok (.iload 6, 2) := by decide +kernel
theorem dX0_putVariable_13 : decode cX0_putVariable 13 = .ok (.aload_n 1, 1) := by decide +kernel
theorem dX0_putVariable_14 : decode cX0_putVariable 14 = .ok (.getfield 60, 3) := by decide +kernel
theorem dX0_putVariable_17 : decode cX0_putVariable 17 = .ok (.if_icmp .ge 78, 3) := by decide +kernel
theorem dX0_putVariable_20 : decode cX0_putVariable 20 = .ok (.iload 6, 2) := by decide +kernel
theorem dX0_putVariable_22 : decode cX0_putVariable 22 = .ok (.iload 5, 2) := by decide +kernel
theorem dX0_putVariable_24 : decode cX0_putVariable 24 = .ok (.if_icmp .ge 6, 3) := by decide +kernel
theorem dX0_putVariable_27 : decode cX0_putVariable 27 = .ok (.goto 62, 3) := by decide +kernel
theorem dX0_putVariable_30 : decode cX0_putVariable 30 = .ok (.aload_n 0, 1) := by decide +kernel
theorem dX0_putVariable_31 : decode cX0_putVariable 31 = .ok (.getfield 12, 3) := by decide +kernel
theorem dX0_putVariable_34 : decode cX0_putVariable 34 = .ok (.iload_n 2, 1) := by decide +kernel
theorem dX0_putVariable_35 : decode cX0_putVariable 35 = .ok (.aload_n 1, 1) := by decide +kernel
theorem dX0_putVariable_36 : decode cX0_putVariable 36 = .ok (.iload 6, 2) := by decide +kernel
theorem dX0_putVariable_38 : decode cX0_putVariable 38 = .ok (.invokevirtual 99, 3) := by decide +kernel
theorem dX0_putVariable_41 : decode cX0_putVariable 41 = .ok (.istore 7, 2) := by decide +kernel
theorem dX0_putVariable_43 : decode cX0_putVariable 43 = .ok (.aload 4, 2) := by decide +kernel
theorem dX0_putVariable_45 : decode cX0_putVariable 45 = .ok (.iload 7, 2) := by decide +kernel
theorem dX0_putVariable_47 : decode cX0_putVariable 47 = .ok (.ifCond .eq 10, 3) := by decide +kernel
theorem dX0_putVariable_50 : decode cX0_putVariable 50 = .ok (.bipush 120, 2) := by decide +kernel
theorem dX0_putVariable_52 : decode cX0_putVariable 52 = .ok (.iload_n 3, 1) := by decide +kernel
theorem dX0_putVariable_53 : decode cX0_putVariable 53 = .ok (.iadd, 1) := by decide +kernel
theorem dX0_putVariable_54 : decode cX0_putVariable 54 = .ok (.goto 10, 3) := by decide +kernel
theorem dX0_putVariable_57 : decode cX0_putVariable 57 = .ok (.aload_n 1, 1) := by decide +kernel
theorem dX0_putVariable_58 : decode cX0_putVariable 58 = .ok (.getfield 37, 3) := by decide +kernel
theorem dX0_putVariable_61 : decode cX0_putVariable 61 = .ok (.iload 6, 2) := by decide +kernel
theorem dX0_putVariable_63 : decode cX0_putVariable 63 = .ok (.iaload, 1) := by decide +kernel
theorem dX0_putVariable_64 : decode cX0_putVariable 64 = .ok (.invokevirtual 103, 3) := by decide +kernel
theorem dX0_putVariable_67 : decode cX0_putVariable 67 = .ok (.pop, 1) := by decide +kernel
theorem dX0_putVariable_68 : decode cX0_putVariable 68 = .ok (.iload 7, 2) := by decide +kernel
theorem dX0_putVariable_70 : decode cX0_putVariable 70 = .ok (.ifCond .eq 13, 3) := by decide +kernel
theorem dX0_putVariable_73 : decode cX0_putVariable 73 = .ok (.aload_n 1, 1) := by decide +kernel
theorem dX0_putVariable_74 : decode cX0_putVariable 74 = .ok (.getfield 64, 3) := by decide +kernel
theorem dX0_putVariable_77 : decode cX0_putVariable 77 = .ok (.iload 6, 2) := by decide +kernel
theorem dX0_putVariable_79 : decode cX0_putVariable 79 = .ok (.iaload, 1) := by decide +kernel
theorem dX0_putVariable_80 : decode cX0_putVariable 80 = .ok (.goto 7, 3) := by decide +kernel
theorem dX0_putVariable_83 : decode cX0_putVariable 83 = .ok (.iload 6, 2) := by decide +kernel
theorem dX0_putVariable_85 : decode cX0_putVariable 85 = .ok (.iconst 1, 1) := by decide +kernel
theorem dX0_putVariable_86 : decode cX0_putVariable 86 = .ok (.iadd, 1) := by decide +kernel
theorem dX0_putVariable_87 : decode cX0_putVariable 87 = .ok (.istore 5, 2) := by decide +kernel
theorem dX0_putVariable_89 : decode cX0_putVariable 89 = .ok (.iinc 6 1, 3) := by decide +kernel
theorem dX0_putVariable_92 : decode cX0_putVariable 92 = .ok (.goto (-81), 3) := by decide +kernel
theorem dX0_putVariable_95 : decode cX0_putVariable 95 = .ok (.return_, 1) := by decide +kernel
theorem dX1_init_0 : decode cX1_init 0 = .ok (.aload_n 0, 1) := by decide +kernel
theorem dX1_init_1 : decode cX1_init 1 = .ok (.invokespecial 3, 3) := by decide +kernel
theorem dX1_init_4 : decode cX1_init 4 = .ok (.aload_n 0, 1) := by decide +kernel
theorem dX1_init_5 : decode cX1_init 5 = .ok (.sipush 1600, 3) := by decide +kernel
theorem dX1_init_8 : decode cX1_init 8 = .ok (.newarray .int, 2) := by decide +kernel
theorem dX1_init_10 : decode cX1_init 10 = .ok (.putfield 9, 3) := by decide +kernel
theorem dX1_init_13 : decode cX1_init 13 = .ok (.aload_n 0, 1) := by decide +kernel
theorem dX1_init_14 : decode cX1_init 14 = .ok (.bipush 40, 2) := by decide +kernel
theorem dX1_init_16 : decode cX1_init 16 = .ok (.newarray .int, 2) := by decide +kernel
theorem dX1_init_18 : decode cX1_init 18 = .ok (.putfield 15, 3) := by decide +kernel
theorem dX1_init_21 : decode cX1_init 21 = .ok (.return_, 1) := by decide +kernel
theorem dX1_smallest_0 : decode cX1_smallest 0 = .ok (.aload_n 2, 1) := by decide +kernel
theorem dX1_smallest_1 : decode cX1_smallest 1 = .ok (.getfield 18, 3) := by decide +kernel
theorem dX1_smallest_4 : decode cX1_smallest 4 = .ok (.iconst 1, 1) := by decide +kernel
theorem dX1_smallest_5 : decode cX1_smallest 5 = .ok (.if_icmp .lt 14, 3) := by decide +kernel
theorem dX1_smallest_8 : decode cX1_smallest 8 = .ok (.aload_n 1, 1) := by decide +kernel
theorem dX1_smallest_9 : decode cX1_smallest 9 = .ok (.getfield 18, 3) := by decide +kernel
theorem dX1_smallest_12 : decode cX1_smallest 12 = .ok (.aload_n 2, 1) := by decide +kernel
theorem dX1_smallest_13 : decode cX1_smallest 13 = .ok (.getfield 18, 3) := by decide +kernel
theorem dX1_smallest_16 : decode cX1_smallest 16 = .ok (.if_icmp .ge 6, 3) := by decide +kernel
theorem dX1_smallest_19 : decode cX1_smallest 19 = .ok (.bipush (-9), 2) := by decide +kernel
theorem dX1_smallest_21 : decode cX1_smallest 21 = .ok (.ireturn, 1) := by decide +kernel
theorem dX1_smallest_22 : decode cX1_smallest 22 = .ok (.aload_n 0, 1) := by decide +kernel
theorem dX1_smallest_23 : decode cX1_smallest 23 = .ok (.aload_n 1, 1) := by decide +kernel
theorem dX1_smallest_24 : decode cX1_smallest 24 = .ok (.invokevirtual 24, 3) := by decide +kernel
theorem dX1_smallest_27 : decode cX1_smallest 27 = .ok (.aload_n 1, 1) := by decide +kernel
theorem dX1_smallest_28 : decode cX1_smallest 28 = .ok (.getfield 18, 3) := by decide +kernel
theorem dX1_smallest_31 : decode cX1_smallest 31 = .ok (.iconst 1, 1) := by decide +kernel
theorem dX1_smallest_32 : decode cX1_smallest 32 = .ok (.isub, 1) := by decide +kernel
theorem dX1_smallest_33 : decode cX1_smallest 33 = .ok (.istore_n 3, 1) := by decide +kernel
theorem dX1_smallest_34 : decode cX1_smallest 34 = .ok (.iload_n 3, 1) := by decide +kernel
theorem dX1_smallest_35 : decode cX1_smallest 35 = .ok (.ifCond .lt 49, 3) := by decide +kernel
theorem dX1_smallest_38 : decode cX1_smallest 38 = .ok (.aload_n 2, 1) := by decide +kernel
theorem dX1_smallest_39 : decode cX1_smallest 39 = .ok (.getfield 18, 3) := by decide +kernel
theorem dX1_smallest_42 : decode cX1_smallest 42 = .ok (.iconst 1, 1) := by decide +kernel
theorem dX1_smallest_43 : decode cX1_smallest 43 = .ok (.isub, 1) := by decide +kernel
theorem dX1_smallest_44 : decode cX1_smallest 44 = .ok (.istore 4, 2) := by decide +kernel
theorem dX1_smallest_46 : decode cX1_smallest 46 = .ok (.iload 4, 2) := by decide +kernel
theorem dX1_smallest_48 : decode cX1_smallest 48 = .ok (.ifCond .lt 30, 3) := by decide +kernel
theorem dX1_smallest_51 : decode cX1_smallest 51 = .ok (.aload_n 0, 1) := by decide +kernel
theorem dX1_smallest_52 : decode cX1_smallest 52 = .ok (.getfield 9, 3) := by decide +kernel
theorem dX1_smallest_55 : decode cX1_smallest 55 = .ok (.iload_n 3, 1) := by decide +kernel
theorem dX1_smallest_56 : decode cX1_smallest 56 = .ok (.bipush 40, 2) := by decide +kernel
theorem dX1_smallest_58 : decode cX1_smallest 58 = .ok (.imul, 1) := by decide +kernel
theorem dX1_smallest_59 : decode cX1_smallest 59 = .ok (.iload 4, 2) := by decide +kernel
theorem dX1_smallest_61 : decode cX1_smallest 61 = .ok (.iadd, 1) := by decide +kernel
theorem dX1_smallest_62 : decode cX1_smallest 62 = .ok (.aload_n 0, 1) := by decide +kernel
theorem dX1_smallest_63 : decode cX1_smallest 63 = .ok (.aload_n 1, 1) := by decide +kernel
theorem dX1_smallest_64 : decode cX1_smallest 64 = .ok (.iload_n 3, 1) := by decide +kernel
theorem dX1_smallest_65 : decode cX1_smallest 65 = .ok (.aload_n 2, 1) := by decide +kernel
theorem dX1_smallest_66 : decode cX1_smallest 66 = .ok (.iload 4, 2) := by decide +kernel
theorem dX1_smallest_68 : decode cX1_smallest 68 = .ok (.invokevirtual 28, 3) := by decide +kernel
theorem dX1_smallest_71 : decode cX1_smallest 71 = .ok (.iastore, 1) := by decide +kernel
theorem dX1_smallest_72 : decode cX1_smallest 72 = .ok (.iinc 4 (-1), 3) := by decide +kernel
theorem dX1_smallest_75 : decode cX1_smallest 75 = .ok (.goto (-29), 3) := by decide +kernel
theorem dX1_smallest_78 : decode cX1_smallest 78 = .ok (.iinc 3 (-1), 3) := by decide +kernel
theorem dX1_smallest_81 : decode cX1_smallest 81 = .ok (.goto (-47), 3) := by decide +kernel
theorem dX1_smallest_84 : decode cX1_smallest 84 = .ok (.aload_n 0, 1) := by decide +kernel
theorem dX1_smallest_85 : decode cX1_smallest 85 = .ok (.getfield 9, 3) := by decide +kernel
theorem dX1_smallest_88 : decode cX1_smallest 88 = .ok (.iconst 0, 1) := by decide +kernel
theorem dX1_smallest_89 : decode cX1_smallest 89 = .ok (.iaload, 1) := by decide +kernel
theorem dX1_smallest_90 : decode cX1_smallest 90 = .ok (.ldc 32, 2) := by decide +kernel
theorem dX1_smallest_92 : decode cX1_smallest 92 = .ok (.if_icmp .lt 8, 3) := by decide +kernel
theorem dX1_smallest_95 : decode cX1_smallest 95 = .ok (.bipush (-9), 2) := by decide +kernel
theorem dX1_smallest_97 : decode cX1_smallest 97 = .ok (.goto 9, 3) := by decide +kernel
theorem dX1_smallest_100 : decode cX1_smallest 100 = .ok (.aload_n 0, 1) := by decide +kernel
theorem dX1_smallest_101 : decode cX1_smallest 101 = .ok (.getfield 9, 3) := by decide +kernel
theorem dX1_smallest_104 : decode cX1_smallest 104 = .ok (.iconst 0, 1) := by decide +kernel
theorem dX1_smallest_105 : decode cX1_smallest 105 = .ok (.iaload, 1) := by decide +kernel
theorem dX1_smallest_106 : decode cX1_smallest 106 = .ok (.ireturn, 1) := by decide +kernel
theorem dX1_findDepths_0 : decode cX1_findDepths 0 = .ok (.aload_n 0, 1) := by decide +kernel
theorem dX1_findDepths_1 : decode cX1_findDepths 1 = .ok (.getfield 15, 3) := by decide +kernel
theorem dX1_findDepths_4 : decode cX1_findDepths 4 = .ok (.iconst 0, 1) := by decide +kernel
theorem dX1_findDepths_5 : decode cX1_findDepths 5 = .ok (.iconst 0, 1) := by decide +kernel
theorem dX1_findDepths_6 : decode cX1_findDepths 6 = .ok (.iastore, 1) := by decide +kernel
theorem dX1_findDepths_7 : decode cX1_findDepths 7 = .ok (.iconst 0, 1) := by decide +kernel
theorem dX1_findDepths_8 : decode cX1_findDepths 8 = .ok (.istore_n 2, 1) := by decide +kernel
theorem dX1_findDepths_9 : decode cX1_findDepths 9 = .ok (.iload_n 2, 1) := by decide +kernel
theorem dX1_findDepths_10 : decode cX1_findDepths 10 = .ok (.iconst 1, 1) := by decide +kernel
theorem dX1_findDepths_11 : decode cX1_findDepths 11 = .ok (.iadd, 1) := by decide +kernel
theorem dX1_findDepths_12 : decode cX1_findDepths 12 = .ok (.aload_n 1, 1) := by decide +kernel
theorem dX1_findDepths_13 : decode cX1_findDepths 13 = .ok (.getfield 18, 3) := by decide +kernel
theorem dX1_findDepths_16 : decode cX1_findDepths 16 = .ok (.if_icmp .ge 70, 3) := by decide +kernel
theorem dX1_findDepths_19 : decode cX1_findDepths 19 = .ok (.aload_n 1, 1) := by decide +kernel
theorem dX1_findDepths_20 : decode cX1_findDepths 20 = .ok (.getfield 33, 3) := by decide +kernel
theorem dX1_findDepths_23 : decode cX1_findDepths 23 = .ok (.iload_n 2, 1) := by decide +kernel
theorem dX1_findDepths_24 : decode cX1_findDepths 24 = .ok (.iaload, 1) := by decide +kernel
theorem dX1_findDepths_25 : decode cX1_findDepths 25 = .ok (.iload_n 2, 1) := by decide +kernel
theorem dX1_findDepths_26 : decode cX1_findDepths 26 = .ok (.iconst 1, 1) := by decide +kernel
theorem dX1_findDepths_27 : decode cX1_findDepths 27 = .ok (.iadd, 1) := by decide +kernel
theorem dX1_findDepths_28 : decode cX1_findDepths 28 = .ok (.if_icmp .le 52, 3) := by decide +kernel
theorem dX1_findDepths_31 : decode cX1_findDepths 31 = .ok (.aload_n 0, 1) := by decide +kernel
theorem dX1_findDepths_32 : decode cX1_findDepths 32 = .ok (.getfield 15, 3) := by decide +kernel
theorem dX1_findDepths_35 : decode cX1_findDepths 35 = .ok (.iload_n 2, 1) := by decide +kernel
theorem dX1_findDepths_36 : decode cX1_findDepths 36 = .ok (.iconst 1, 1) := by decide +kernel
theorem dX1_findDepths_37 : decode cX1_findDepths 37 = .ok (.iadd, 1) := by decide +kernel
theorem dX1_findDepths_38 : decode cX1_findDepths 38 = .ok (.aload_n 0, 1) := by decide +kernel
theorem dX1_findDepths_39 : decode cX1_findDepths 39 = .ok (.getfield 15, 3) := by decide +kernel
theorem dX1_findDepths_42 : decode cX1_findDepths 42 = .ok (.iload_n 2, 1) := by decide +kernel
theorem dX1_findDepths_43 : decode cX1_findDepths 43 = .ok (.iaload, 1) := by decide +kernel
theorem dX1_findDepths_44 : decode cX1_findDepths 44 = .ok (.iconst 1, 1) := by decide +kernel
theorem dX1_findDepths_45 : decode cX1_findDepths 45 = .ok (.iadd, 1) := by decide +kernel
theorem dX1_findDepths_46 : decode cX1_findDepths 46 = .ok (.iastore, 1) := by decide +kernel
theorem dX1_findDepths_47 : decode cX1_findDepths 47 = .ok (.aload_n 1, 1) := by decide +kernel
theorem dX1_findDepths_48 : decode cX1_findDepths 48 = .ok (.getfield 33, 3) := by decide +kernel
theorem dX1_findDepths_51 : decode cX1_findDepths 51 = .ok (.iload_n 2, 1) := by decide +kernel
theorem dX1_findDepths_52 : decode cX1_findDepths 52 = .ok (.iconst 1, 1) := by decide +kernel
theorem dX1_findDepths_53 : decode cX1_findDepths 53 = .ok (.iadd, 1) := by decide +kernel
theorem dX1_findDepths_54 : decode cX1_findDepths 54 = .ok (.iaload, 1) := by decide +kernel
theorem dX1_findDepths_55 : decode cX1_findDepths 55 = .ok (.istore_n 3, 1) := by decide +kernel
theorem dX1_findDepths_56 : decode cX1_findDepths 56 = .ok (.iload_n 3, 1) := by decide +kernel
theorem dX1_findDepths_57 : decode cX1_findDepths 57 = .ok (.aload_n 1, 1) := by decide +kernel
theorem dX1_findDepths_58 : decode cX1_findDepths 58 = .ok (.getfield 33, 3) := by decide +kernel
theorem dX1_findDepths_61 : decode cX1_findDepths 61 = .ok (.iload_n 2, 1) := by decide +kernel
theorem dX1_findDepths_62 : decode cX1_findDepths 62 = .ok (.iaload, 1) := by decide +kernel
theorem dX1_findDepths_63 : decode cX1_findDepths 63 = .ok (.if_icmp .ge 17, 3) := by decide +kernel
theorem dX1_findDepths_66 : decode cX1_findDepths 66 = .ok (.aload_n 0, 1) := by decide +kernel
theorem dX1_findDepths_67 : decode cX1_findDepths 67 = .ok (.getfield 15, 3) := by decide +kernel
theorem dX1_findDepths_70 : decode cX1_findDepths 70 = .ok (.iload_n 3, 1) := by decide +kernel
theorem dX1_findDepths_71 : decode cX1_findDepths 71 = .ok (.aload_n 0, 1) := by decide +kernel
theorem dX1_findDepths_72 : decode cX1_findDepths 72 = .ok (.getfield 15, 3) := by decide +kernel
theorem dX1_findDepths_75 : decode cX1_findDepths 75 = .ok (.iload_n 2, 1) := by decide +kernel
theorem dX1_findDepths_76 : decode cX1_findDepths 76 = .ok (.iaload, 1) := by decide +kernel
theorem dX1_findDepths_77 : decode cX1_findDepths 77 = .ok (.iconst 1, 1) := by decide +kernel
theorem dX1_findDepths_78 : decode cX1_findDepths 78 = .ok (.iadd, 1) := by decide +kernel
theorem dX1_findDepths_79 : decode cX1_findDepths 79 = .ok (.iastore, 1) := by decide +kernel
theorem dX1_findDepths_80 : decode cX1_findDepths 80 = .ok (.iinc 2 1, 3) := by decide +kernel
theorem dX1_findDepths_83 : decode cX1_findDepths 83 = .ok (.goto (-74), 3) := by decide +kernel
theorem dX1_findDepths_86 : decode cX1_findDepths 86 = .ok (.return_, 1) := by decide +kernel
theorem dX1_smallestAt_0 : decode cX1_smallestAt 0 = .ok (.aload_n 1, 1) := by decide +kernel
theorem dX1_smallestAt_1 : decode cX1_smallestAt 1 = .ok (.getfield 33, 3) := by decide +kernel
theorem dX1_smallestAt_4 : decode cX1_smallestAt 4 = .ok (.iload_n 2, 1) := by decide +kernel
theorem dX1_smallestAt_5 : decode cX1_smallestAt 5 = .ok (.iaload, 1) := by decide +kernel
theorem dX1_smallestAt_6 : decode cX1_smallestAt 6 = .ok (.istore 5, 2) := by decide +kernel
theorem dX1_smallestAt_8 : decode cX1_smallestAt 8 = .ok (.aload_n 3, 1) := by decide +kernel
theorem dX1_smallestAt_9 : decode cX1_smallestAt 9 = .ok (.getfield 33, 3) := by decide +kernel
theorem dX1_smallestAt_12 : decode cX1_smallestAt 12 = .ok (.iload 4, 2) := by decide +kernel
theorem dX1_smallestAt_14 : decode cX1_smallestAt 14 = .ok (.iaload, 1) := by decide +kernel
theorem dX1_smallestAt_15 : decode cX1_smallestAt 15 = .ok (.istore 6, 2) := by decide +kernel
theorem dX1_smallestAt_17 : decode cX1_smallestAt 17 = .ok (.iload 5, 2) := by decide +kernel
theorem dX1_smallestAt_19 : decode cX1_smallestAt 19 = .ok (.iload_n 2, 1) := by decide +kernel
theorem dX1_smallestAt_20 : decode cX1_smallestAt 20 = .ok (.isub, 1) := by decide +kernel
theorem dX1_smallestAt_21 : decode cX1_smallestAt 21 = .ok (.iload 6, 2) := by decide +kernel
theorem dX1_smallestAt_23 : decode cX1_smallestAt 23 = .ok (.iload 4, 2) := by decide +kernel
theorem dX1_smallestAt_25 : decode cX1_smallestAt 25 = .ok (.isub, 1) := by decide +kernel
theorem dX1_smallestAt_26 : decode cX1_smallestAt 26 = .ok (.if_icmp .ge 6, 3) := by decide +kernel
theorem dX1_smallestAt_29 : decode cX1_smallestAt 29 = .ok (.ldc 32, 2) := by decide +kernel
theorem dX1_smallestAt_31 : decode cX1_smallestAt 31 = .ok (.ireturn, 1) := by decide +kernel
theorem dX1_smallestAt_32 : decode cX1_smallestAt 32 = .ok (.aload_n 1, 1) := by decide +kernel
theorem dX1_smallestAt_33 : decode cX1_smallestAt 33 = .ok (.getfield 36, 3) := by decide +kernel
theorem dX1_smallestAt_36 : decode cX1_smallestAt 36 = .ok (.iload_n 2, 1) := by decide +kernel
theorem dX1_smallestAt_37 : decode cX1_smallestAt 37 = .ok (.iaload, 1) := by decide +kernel
theorem dX1_smallestAt_38 : decode cX1_smallestAt 38 = .ok (.aload_n 3, 1) := by decide +kernel
theorem dX1_smallestAt_39 : decode cX1_smallestAt 39 = .ok (.getfield 36, 3) := by decide +kernel
theorem dX1_smallestAt_42 : decode cX1_smallestAt 42 = .ok (.iload 4, 2) := by decide +kernel
theorem dX1_smallestAt_44 : decode cX1_smallestAt 44 = .ok (.iaload, 1) := by decide +kernel
theorem dX1_smallestAt_45 : decode cX1_smallestAt 45 = .ok (.if_icmp .ne 7, 3) := by decide +kernel
theorem dX1_smallestAt_48 : decode cX1_smallestAt 48 = .ok (.iconst 1, 1) := by decide +kernel
theorem dX1_smallestAt_49 : decode cX1_smallestAt 49 = .ok (.goto 4, 3) := by decide +kernel
theorem dX1_smallestAt_52 : decode cX1_smallestAt 52 = .ok (.iconst 0, 1) := by decide +kernel
theorem dX1_smallestAt_53 : decode cX1_smallestAt 53 = .ok (.istore 7, 2) := by decide +kernel
theorem dX1_smallestAt_55 : decode cX1_smallestAt 55 = .ok (.iload 5, 2) := by decide +kernel
theorem dX1_smallestAt_57 : decode cX1_smallestAt 57 = .ok (.iload_n 2, 1) := by decide +kernel
theorem dX1_smallestAt_58 : decode cX1_smallestAt 58 = .ok (.iconst 1, 1) := by decide +kernel
theorem dX1_smallestAt_59 : decode cX1_smallestAt 59 = .ok (.iadd, 1) := by decide +kernel
theorem dX1_smallestAt_60 : decode cX1_smallestAt 60 = .ok (.if_icmp .gt 15, 3) := by decide +kernel
theorem dX1_smallestAt_63 : decode cX1_smallestAt 63 = .ok (.iload 7, 2) := by decide +kernel
theorem dX1_smallestAt_65 : decode cX1_smallestAt 65 = .ok (.ifCond .eq 7, 3) := by decide +kernel
theorem dX1_smallestAt_68 : decode cX1_smallestAt 68 = .ok (.iconst 0, 1) := by decide +kernel
theorem dX1_smallestAt_69 : decode cX1_smallestAt 69 = .ok (.goto 5, 3) := by decide +kernel
theorem dX1_smallestAt_72 : decode cX1_smallestAt 72 = .ok (.ldc 32, 2) := by decide +kernel
theorem dX1_smallestAt_74 : decode cX1_smallestAt 74 = .ok (.ireturn, 1) := by decide +kernel
theorem dX1_smallestAt_75 : decode cX1_smallestAt 75 = .ok (.aload_n 1, 1) := by decide +kernel
theorem dX1_smallestAt_76 : decode cX1_smallestAt 76 = .ok (.getfield 33, 3) := by decide +kernel
theorem dX1_smallestAt_79 : decode cX1_smallestAt 79 = .ok (.iload_n 2, 1) := by decide +kernel
theorem dX1_smallestAt_80 : decode cX1_smallestAt 80 = .ok (.iconst 1, 1) := by decide +kernel
theorem dX1_smallestAt_81 : decode cX1_smallestAt 81 = .ok (.iadd, 1) := by decide +kernel
theorem dX1_smallestAt_82 : decode cX1_smallestAt 82 = .ok (.iaload, 1) := by decide +kernel
theorem dX1_smallestAt_83 : decode cX1_smallestAt 83 = .ok (.istore 8, 2) := by decide +kernel
theorem dX1_smallestAt_85 : decode cX1_smallestAt 85 = .ok (.iload 8, 2) := by decide +kernel
theorem dX1_smallestAt_87 : decode cX1_smallestAt 87 = .ok (.iload 5, 2) := by decide +kernel
theorem dX1_smallestAt_89 : decode cX1_smallestAt 89 = .ok (.if_icmp .ge 7, 3) := by decide +kernel
theorem dX1_smallestAt_92 : decode cX1_smallestAt 92 = .ok (.iconst 1, 1) := by decide +kernel
theorem dX1_smallestAt_93 : decode cX1_smallestAt 93 = .ok (.goto 4, 3) := by decide +kernel
theorem dX1_smallestAt_96 : decode cX1_smallestAt 96 = .ok (.iconst 0, 1) := by decide +kernel
theorem dX1_smallestAt_97 : decode cX1_smallestAt 97 = .ok (.istore 9, 2) := by decide +kernel
theorem dX1_smallestAt_99 : decode cX1_smallestAt 99 = .ok (.aload_n 0, 1) := by decide +kernel
theorem dX1_smallestAt_100 : decode cX1_smallestAt 100 = .ok (.getfield 9, 3) := by decide +kernel
theorem dX1_smallestAt_103 : decode cX1_smallestAt 103 = .ok (.iload_n 2, 1) := by decide +kernel
theorem dX1_smallestAt_104 : decode cX1_smallestAt 104 = .ok (.iconst 1, 1) := by decide +kernel
theorem dX1_smallestAt_105 : decode cX1_smallestAt 105 = .ok (.iadd, 1) := by decide +kernel
theorem dX1_smallestAt_106 : decode cX1_smallestAt 106 = .ok (.bipush 40, 2) := by decide +kernel
theorem dX1_smallestAt_108 : decode cX1_smallestAt 108 = .ok (.imul, 1) := by decide +kernel
theorem dX1_smallestAt_109 : decode cX1_smallestAt 109 = .ok (.iload 4, 2) := by decide +kernel
theorem dX1_smallestAt_111 : decode cX1_smallestAt 111 = .ok (.iadd, 1) := by decide +kernel
theorem dX1_smallestAt_112 : decode cX1_smallestAt 112 = .ok (.iaload, 1) := by decide +kernel
theorem dX1_smallestAt_113 : decode cX1_smallestAt 113 = .ok (.istore 10, 2) := by decide +kernel
theorem dX1_smallestAt_115 : decode cX1_smallestAt 115 = .ok (.iload 9, 2) := by decide +kernel
theorem dX1_smallestAt_117 : decode cX1_smallestAt 117 = .ok (.ifCond .eq 23, 3) := by decide +kernel
theorem dX1_smallestAt_120 : decode cX1_smallestAt 120 = .ok (.iload 10, 2) := by decide +kernel
theorem dX1_smallestAt_122 : decode cX1_smallestAt 122 = .ok (.aload_n 0, 1) := by decide +kernel
theorem dX1_smallestAt_123 : decode cX1_smallestAt 123 = .ok (.getfield 9, 3) := by decide +kernel
theorem dX1_smallestAt_126 : decode cX1_smallestAt 126 = .ok (.iload 8, 2) := by decide +kernel
theorem dX1_smallestAt_128 : decode cX1_smallestAt 128 = .ok (.bipush 40, 2) := by decide +kernel
theorem dX1_smallestAt_130 : decode cX1_smallestAt 130 = .ok (.imul, 1) := by decide +kernel
theorem dX1_smallestAt_131 : decode cX1_smallestAt 131 = .ok (.iload 4, 2) := by decide +kernel
theorem dX1_smallestAt_133 : decode cX1_smallestAt 133 = .ok (.iadd, 1) := by decide +kernel
theorem dX1_smallestAt_134 : decode cX1_smallestAt 134 = .ok (.iaload, 1) := by decide +kernel
theorem dX1_smallestAt_135 : decode cX1_smallestAt 135 = .ok (.invokestatic 39, 3) := by decide +kernel
theorem dX1_smallestAt_138 : decode cX1_smallestAt 138 = .ok (.istore 10, 2) := by decide +kernel
theorem dX1_smallestAt_140 : decode cX1_smallestAt 140 = .ok (.iload 10, 2) := by decide +kernel
theorem dX1_smallestAt_142 : decode cX1_smallestAt 142 = .ok (.aload_n 0, 1) := by decide +kernel
theorem dX1_smallestAt_143 : decode cX1_smallestAt 143 = .ok (.getfield 15, 3) := by decide +kernel
theorem dX1_smallestAt_146 : decode cX1_smallestAt 146 = .ok (.iload_n 2, 1) := by decide +kernel
theorem dX1_smallestAt_147 : decode cX1_smallestAt 147 = .ok (.iaload, 1) := by decide +kernel
theorem dX1_smallestAt_148 : decode cX1_smallestAt 148 = .ok (.iadd, 1) := by decide +kernel
theorem dX1_smallestAt_149 : decode cX1_smallestAt 149 = .ok (.istore 11, 2) := by decide +kernel
theorem dX1_smallestAt_151 : decode cX1_smallestAt 151 = .ok (.iload 7, 2) := by decide +kernel
theorem dX1_smallestAt_153 : decode cX1_smallestAt 153 = .ok (.ifCond .eq 60, 3) := by decide +kernel
theorem dX1_smallestAt_156 : decode cX1_smallestAt 156 = .ok (.aload_n 0, 1) := by decide +kernel
theorem dX1_smallestAt_157 : decode cX1_smallestAt 157 = .ok (.getfield 9, 3) := by decide +kernel
theorem dX1_smallestAt_160 : decode cX1_smallestAt 160 = .ok (.iload_n 2, 1) := by decide +kernel
theorem dX1_smallestAt_161 : decode cX1_smallestAt 161 = .ok (.iconst 1, 1) := by decide +kernel
theorem dX1_smallestAt_162 : decode cX1_smallestAt 162 = .ok (.iadd, 1) := by decide +kernel
theorem dX1_smallestAt_163 : decode cX1_smallestAt 163 = .ok (.bipush 40, 2) := by decide +kernel
theorem dX1_smallestAt_165 : decode cX1_smallestAt 165 = .ok (.imul, 1) := by decide +kernel
theorem dX1_smallestAt_166 : decode cX1_smallestAt 166 = .ok (.iload 4, 2) := by decide +kernel
theorem dX1_smallestAt_168 : decode cX1_smallestAt 168 = .ok (.iadd, 1) := by decide +kernel
theorem dX1_smallestAt_169 : decode cX1_smallestAt 169 = .ok (.iconst 1, 1) := by decide +kernel
theorem dX1_smallestAt_170 : decode cX1_smallestAt 170 = .ok (.iadd, 1) := by decide +kernel
theorem dX1_smallestAt_171 : decode cX1_smallestAt 171 = .ok (.iaload, 1) := by decide +kernel
theorem dX1_smallestAt_172 : decode cX1_smallestAt 172 = .ok (.istore 12, 2) := by decide +kernel
theorem dX1_smallestAt_174 : decode cX1_smallestAt 174 = .ok (.iload 9, 2) := by decide +kernel
theorem dX1_smallestAt_176 : decode cX1_smallestAt 176 = .ok (.ifCond .eq 28, 3) := by decide +kernel
theorem dX1_smallestAt_179 : decode cX1_smallestAt 179 = .ok (.iload 12, 2) := by decide +kernel
theorem dX1_smallestAt_181 : decode cX1_smallestAt 181 = .ok (.aload_n 0, 1) := by decide +kernel
theorem dX1_smallestAt_182 : decode cX1_smallestAt 182 = .ok (.getfield 9, 3) := by decide +kernel
theorem dX1_smallestAt_185 : decode cX1_smallestAt 185 = .ok (.iload 8, 2) := by decide +kernel
theorem dX1_smallestAt_187 : decode cX1_smallestAt 187 = .ok (.bipush 40, 2) := by decide +kernel
theorem dX1_smallestAt_189 : decode cX1_smallestAt 189 = .ok (.imul, 1) := by decide +kernel
theorem dX1_smallestAt_190 : decode cX1_smallestAt 190 = .ok (.aload_n 3, 1) := by decide +kernel
theorem dX1_smallestAt_191 : decode cX1_smallestAt 191 = .ok (.getfield 33, 3) := by decide +kernel
theorem dX1_smallestAt_194 : decode cX1_smallestAt 194 = .ok (.iload 4, 2) := by decide +kernel
theorem dX1_smallestAt_196 : decode cX1_smallestAt 196 = .ok (.iconst 1, 1) := by decide +kernel
theorem dX1_smallestAt_197 : decode cX1_smallestAt 197 = .ok (.iadd, 1) := by decide +kernel
theorem dX1_smallestAt_198 : decode cX1_smallestAt 198 = .ok (.iaload, 1) := by decide +kernel
theorem dX1_smallestAt_199 : decode cX1_smallestAt 199 = .ok (.iadd, 1) := by decide +kernel
theorem dX1_smallestAt_200 : decode cX1_smallestAt 200 = .ok (.iaload, 1) := by decide +kernel
theorem dX1_smallestAt_201 : decode cX1_smallestAt 201 = .ok (.iadd, 1) := by decide +kernel
theorem dX1_smallestAt_202 : decode cX1_smallestAt 202 = .ok (.istore 12, 2) := by decide +kernel
theorem dX1_smallestAt_204 : decode cX1_smallestAt 204 = .ok (.iload 11, 2) := by decide +kernel
theorem dX1_smallestAt_206 : decode cX1_smallestAt 206 = .ok (.iload 12, 2) := by decide +kernel
theorem dX1_smallestAt_208 : decode cX1_smallestAt 208 = .ok (.invokestatic 39, 3) := by decide +kernel
theorem dX1_smallestAt_211 : decode cX1_smallestAt 211 = .ok (.istore 11, 2) := by decide +kernel
theorem dX1_smallestAt_213 : decode cX1_smallestAt 213 = .ok (.iload 11, 2) := by decide +kernel
theorem dX1_smallestAt_215 : decode cX1_smallestAt 215 = .ok (.ldc 32, 2) := by decide +kernel
theorem dX1_smallestAt_217 : decode cX1_smallestAt 217 = .ok (.invokestatic 39, 3) := by decide +kernel
theorem dX1_smallestAt_220 : decode cX1_smallestAt 220 = .ok (.ireturn, 1) := by decide +kernel
theorem dX2_init_0 : decode cX2_init 0 = .ok (.aload_n 0, 1) := by decide +kernel
theorem dX2_init_1 : decode cX2_init 1 = .ok (.invokespecial 5, 3) := by decide +kernel
theorem dX2_init_4 : decode cX2_init 4 = .ok (.aload_n 0, 1) := by decide +kernel
theorem dX2_init_5 : decode cX2_init 5 = .ok (.iconst 3, 1) := by decide +kernel
theorem dX2_init_6 : decode cX2_init 6 = .ok (.newarray .int, 2) := by decide +kernel
theorem dX2_init_8 : decode cX2_init 8 = .ok (.putfield 11, 3) := by decide +kernel
theorem dX2_init_11 : decode cX2_init 11 = .ok (.aload_n 0, 1) := by decide +kernel
theorem dX2_init_12 : decode cX2_init 12 = .ok (.bipush 61, 2) := by decide +kernel
theorem dX2_init_14 : decode cX2_init 14 = .ok (.anewarray 15, 3) := by decide +kernel
theorem dX2_init_17 : decode cX2_init 17 = .ok (.putfield 17, 3) := by decide +kernel
theorem dX2_init_20 : decode cX2_init 20 = .ok (.aload_n 0, 1) := by decide +kernel
theorem dX2_init_21 : decode cX2_init 21 = .ok (.bipush 61, 2) := by decide +kernel
theorem dX2_init_23 : decode cX2_init 23 = .ok (.newarray .int, 2) := by decide +kernel
theorem dX2_init_25 : decode cX2_init 25 = .ok (.putfield 21, 3) := by decide +kernel
theorem dX2_init_28 : decode cX2_init 28 = .ok (.aload_n 0, 1) := by decide +kernel
theorem dX2_init_29 : decode cX2_init 29 = .ok (.bipush 61, 2) := by decide +kernel
theorem dX2_init_31 : decode cX2_init 31 = .ok (.newarray .int, 2) := by decide +kernel
theorem dX2_init_33 : decode cX2_init 33 = .ok (.putfield 24, 3) := by decide +kernel
theorem dX2_init_36 : decode cX2_init 36 = .ok (.aload_n 0, 1) := by decide +kernel
theorem dX2_init_37 : decode cX2_init 37 = .ok (.bipush 61, 2) := by decide +kernel
theorem dX2_init_39 : decode cX2_init 39 = .ok (.newarray .int, 2) := by decide +kernel
theorem dX2_init_41 : decode cX2_init 41 = .ok (.putfield 27, 3) := by decide +kernel
theorem dX2_init_44 : decode cX2_init 44 = .ok (.aload_n 0, 1) := by decide +kernel
theorem dX2_init_45 : decode cX2_init 45 = .ok (.sipush 640, 3) := by decide +kernel
theorem dX2_init_48 : decode cX2_init 48 = .ok (.newarray .int, 2) := by decide +kernel
theorem dX2_init_50 : decode cX2_init 50 = .ok (.putfield 30, 3) := by decide +kernel
theorem dX2_init_53 : decode cX2_init 53 = .ok (.aload_n 0, 1) := by decide +kernel
theorem dX2_init_54 : decode cX2_init 54 = .ok (.aload_n 1, 1) := by decide +kernel
theorem dX2_init_55 : decode cX2_init 55 = .ok (.putfield 33, 3) := by decide +kernel
theorem dX2_init_58 : decode cX2_init 58 = .ok (.return_, 1) := by decide +kernel
theorem dX2_refutes_0 : decode cX2_refutes 0 = .ok (.aload_n 1, 1) := by decide +kernel
theorem dX2_refutes_1 : decode cX2_refutes 1 = .ok (.iconst 0, 1) := by decide +kernel
theorem dX2_refutes_2 : decode cX2_refutes 2 = .ok (.invokevirtual 37, 3) := by decide +kernel
theorem dX2_refutes_5 : decode cX2_refutes 5 = .ok (.ifCond .eq 7, 3) := by decide +kernel
theorem dX2_refutes_8 : decode cX2_refutes 8 = .ok (.iconst 2, 1) := by decide +kernel
theorem dX2_refutes_9 : decode cX2_refutes 9 = .ok (.goto 4, 3) := by decide +kernel
theorem dX2_refutes_12 : decode cX2_refutes 12 = .ok (.iconst 0, 1) := by decide +kernel
theorem dX2_refutes_13 : decode cX2_refutes 13 = .ok (.istore_n 2, 1) := by decide +kernel
theorem dX2_refutes_14 : decode cX2_refutes 14 = .ok (.aload_n 1, 1) := by decide +kernel
theorem dX2_refutes_15 : decode cX2_refutes 15 = .ok (.iconst 1, 1) := by decide +kernel
theorem dX2_refutes_16 : decode cX2_refutes 16 = .ok (.invokevirtual 37, 3) := by decide +kernel
theorem dX2_refutes_19 : decode cX2_refutes 19 = .ok (.ifCond .eq 7, 3) := by decide +kernel
theorem dX2_refutes_22 : decode cX2_refutes 22 = .ok (.iconst 2, 1) := by decide +kernel
theorem dX2_refutes_23 : decode cX2_refutes 23 = .ok (.goto 4, 3) := by decide +kernel
theorem dX2_refutes_26 : decode cX2_refutes 26 = .ok (.iconst 0, 1) := by decide +kernel
theorem dX2_refutes_27 : decode cX2_refutes 27 = .ok (.istore_n 3, 1) := by decide +kernel
theorem dX2_refutes_28 : decode cX2_refutes 28 = .ok (.aload_n 1, 1) := by decide +kernel
theorem dX2_refutes_29 : decode cX2_refutes 29 = .ok (.iconst 2, 1) := by decide +kernel
theorem dX2_refutes_30 : decode cX2_refutes 30 = .ok (.invokevirtual 37, 3) := by decide +kernel
theorem dX2_refutes_33 : decode cX2_refutes 33 = .ok (.ifCond .eq 7, 3) := by decide +kernel
theorem dX2_refutes_36 : decode cX2_refutes 36 = .ok (.iconst 2, 1) := by decide +kernel
theorem dX2_refutes_37 : decode cX2_refutes 37 = .ok (.goto 4, 3) := by decide +kernel
theorem dX2_refutes_40 : decode cX2_refutes 40 = .ok (.iconst 0, 1) := by decide +kernel
theorem dX2_refutes_41 : decode cX2_refutes 41 = .ok (.istore 4, 2) := by decide +kernel
theorem dX2_refutes_43 : decode cX2_refutes 43 = .ok (.iconst 0, 1) := by decide +kernel
theorem dX2_refutes_44 : decode cX2_refutes 44 = .ok (.istore 5, 2) := by decide +kernel
theorem dX2_refutes_46 : decode cX2_refutes 46 = .ok (.iload 5, 2) := by decide +kernel
theorem dX2_refutes_48 : decode cX2_refutes 48 = .ok (.iload_n 2, 1) := by decide +kernel
theorem dX2_refutes_49 : decode cX2_refutes 49 = .ok (.if_icmp .gt 80, 3) := by decide +kernel
theorem dX2_refutes_52 : decode cX2_refutes 52 = .ok (.iconst 0, 1) := by decide +kernel
theorem dX2_refutes_53 : decode cX2_refutes 53 = .ok (.istore 6, 2) := by decide +kernel
theorem dX2_refutes_55 : decode cX2_refutes 55 = .ok (.iload 6, 2) := by decide +kernel
theorem dX2_refutes_57 : decode cX2_refutes 57 = .ok (.iload_n 3, 1) := by decide +kernel
theorem dX2_refutes_58 : decode cX2_refutes 58 = .ok (.if_icmp .gt 65, 3) := by decide +kernel
theorem dX2_refutes_61 : decode cX2_refutes 61 = .ok (.iconst 0, 1) := by decide +kernel
theorem dX2_refutes_62 : decode cX2_refutes 62 = .ok (.istore 7, 2) := by decide +kernel
theorem dX2_refutes_64 : decode cX2_refutes 64 = .ok (.iload 7, 2) := by decide +kernel
theorem dX2_refutes_66 : decode cX2_refutes 66 = .ok (.iload 4, 2) := by decide +kernel
theorem dX2_refutes_68 : decode cX2_refutes 68 = .ok (.if_icmp .gt 49, 3) := by decide +kernel
theorem dX2_refutes_71 : decode cX2_refutes 71 = .ok (.aload_n 0, 1) := by decide +kernel
theorem dX2_refutes_72 : decode cX2_refutes 72 = .ok (.aload_n 1, 1) := by decide +kernel
theorem dX2_refutes_73 : decode cX2_refutes 73 = .ok (.iload 5, 2) := by decide +kernel
theorem dX2_refutes_75 : decode cX2_refutes 75 = .ok (.iload 6, 2) := by decide +kernel
theorem dX2_refutes_77 : decode cX2_refutes 77 = .ok (.iload 7, 2) := by decide +kernel
theorem dX2_refutes_79 : decode cX2_refutes 79 = .ok (.invokevirtual 43, 3) := by decide +kernel
theorem dX2_refutes_82 : decode cX2_refutes 82 = .ok (.ifCond .ne 29, 3) := by decide +kernel
theorem dX2_refutes_85 : decode cX2_refutes 85 = .ok (.aload_n 0, 1) := by decide +kernel
theorem dX2_refutes_86 : decode cX2_refutes 86 = .ok (.getfield 11, 3) := by decide +kernel
theorem dX2_refutes_89 : decode cX2_refutes 89 = .ok (.iconst 0, 1) := by decide +kernel
theorem dX2_refutes_90 : decode cX2_refutes 90 = .ok (.iload 5, 2) := by decide +kernel
theorem dX2_refutes_92 : decode cX2_refutes 92 = .ok (.iastore, 1) := by decide +kernel
theorem dX2_refutes_93 : decode cX2_refutes 93 = .ok (.aload_n 0, 1) := by decide +kernel
theorem dX2_refutes_94 : decode cX2_refutes 94 = .ok (.getfield 11, 3) := by decide +kernel
theorem dX2_refutes_97 : decode cX2_refutes 97 = .ok (.iconst 1, 1) := by decide +kernel
theorem dX2_refutes_98 : decode cX2_refutes 98 = .ok (.iload 6, 2) := by decide +kernel
theorem dX2_refutes_100 : decode cX2_refutes 100 = .ok (.iastore, 1) := by decide +kernel
theorem dX2_refutes_101 : decode cX2_refutes 101 = .ok (.aload_n 0, 1) := by decide +kernel
theorem dX2_refutes_102 : decode cX2_refutes 102 = .ok (.getfield 11, 3) := by decide +kernel
theorem dX2_refutes_105 : decode cX2_refutes 105 = .ok (.iconst 2, 1) := by decide +kernel
theorem dX2_refutes_106 : decode cX2_refutes 106 = .ok (.iload 7, 2) := by decide +kernel
theorem dX2_refutes_108 : decode cX2_refutes 108 = .ok (.iastore, 1) := by decide +kernel
theorem dX2_refutes_109 : decode cX2_refutes 109 = .ok (.iconst 1, 1) := by decide +kernel
theorem dX2_refutes_110 : decode cX2_refutes 110 = .ok (.ireturn, 1) := by decide +kernel
theorem dX2_refutes_111 : decode cX2_refutes 111 = .ok (.iinc 7 1, 3) := by decide +kernel
theorem dX2_refutes_114 : decode cX2_refutes 114 = .ok (.goto (-50), 3) := by decide +kernel
theorem dX2_refutes_117 : decode cX2_refutes 117 = .ok (.iinc 6 1, 3) := by decide +kernel
theorem dX2_refutes_120 : decode cX2_refutes 120 = .ok (.goto (-65), 3) := by decide +kernel
theorem dX2_refutes_123 : decode cX2_refutes 123 = .ok (.iinc 5 1, 3) := by decide +kernel
theorem dX2_refutes_126 : decode cX2_refutes 126 = .ok (.goto (-80), 3) := by decide +kernel
theorem dX2_refutes_129 : decode cX2_refutes 129 = .ok (.iconst 0, 1) := by decide +kernel
theorem dX2_refutes_130 : decode cX2_refutes 130 = .ok (.ireturn, 1) := by decide +kernel
theorem dX2_countTriples_0 : decode cX2_countTriples 0 = .ok (.aload_n 1, 1) := by decide +kernel
theorem dX2_countTriples_1 : decode cX2_countTriples 1 = .ok (.iconst 0, 1) := by decide +kernel
theorem dX2_countTriples_2 : decode cX2_countTriples 2 = .ok (.invokevirtual 37, 3) := by decide +kernel
theorem dX2_countTriples_5 : decode cX2_countTriples 5 = .ok (.ifCond .eq 7, 3) := by decide +kernel
theorem dX2_countTriples_8 : decode cX2_countTriples 8 = .ok (.iconst 3, 1) := by decide +kernel
theorem dX2_countTriples_9 : decode cX2_countTriples 9 = .ok (.goto 4, 3) := by decide +kernel
theorem dX2_countTriples_12 : decode cX2_countTriples 12 = .ok (.iconst 0, 1) := by decide +kernel
theorem dX2_countTriples_13 : decode cX2_countTriples 13 = .ok (.istore_n 3, 1) := by decide +kernel
theorem dX2_countTriples_14 : decode cX2_countTriples 14 = .ok (.aload_n 1, 1) := by decide +kernel
theorem dX2_countTriples_15 : decode cX2_countTriples 15 = .ok (.iconst 1, 1) := by decide +kernel
theorem dX2_countTriples_16 : decode cX2_countTriples 16 = .ok (.invokevirtual 37, 3) := by decide +kernel
theorem dX2_countTriples_19 : decode cX2_countTriples 19 = .ok (.ifCond .eq 7, 3) := by decide +kernel
theorem dX2_countTriples_22 : decode cX2_countTriples 22 = .ok (.iconst 3, 1) := by decide +kernel
theorem dX2_countTriples_23 : decode cX2_countTriples 23 = .ok (.goto 4, 3) := by decide +kernel
theorem dX2_countTriples_26 : decode cX2_countTriples 26 = .ok (.iconst 0, 1) := by decide +kernel
theorem dX2_countTriples_27 : decode cX2_countTriples 27 = .ok (.istore 4, 2) := by decide +kernel
theorem dX2_countTriples_29 : decode cX2_countTriples 29 = .ok (.aload_n 1, 1) := by decide +kernel
theorem dX2_countTriples_30 : decode cX2_countTriples 30 = .ok (.iconst 2, 1) := by decide +kernel
theorem dX2_countTriples_31 : decode cX2_countTriples 31 = .ok (.invokevirtual 37, 3) := by decide +kernel
theorem dX2_countTriples_34 : decode cX2_countTriples 34 = .ok (.ifCond .eq 7, 3) := by decide +kernel
theorem dX2_countTriples_37 : decode cX2_countTriples 37 = .ok (.iconst 3, 1) := by decide +kernel
theorem dX2_countTriples_38 : decode cX2_countTriples 38 = .ok (.goto 4, 3) := by decide +kernel
theorem dX2_countTriples_41 : decode cX2_countTriples 41 = .ok (.iconst 0, 1) := by decide +kernel
theorem dX2_countTriples_42 : decode cX2_countTriples 42 = .ok (.istore 5, 2) := by decide +kernel
theorem dX2_countTriples_44 : decode cX2_countTriples 44 = .ok (.iconst 0, 1) := by decide +kernel
theorem dX2_countTriples_45 : decode cX2_countTriples 45 = .ok (.istore 6, 2) := by decide +kernel
theorem dX2_countTriples_47 : decode cX2_countTriples 47 = .ok (.iconst 0, 1) := by decide +kernel
theorem dX2_countTriples_48 : decode cX2_countTriples 48 = .ok (.istore 7, 2) := by decide +kernel
theorem dX2_countTriples_50 : decode cX2_countTriples 50 = .ok (.iload 7, 2) := by decide +kernel
theorem dX2_countTriples_52 : decode cX2_countTriples 52 = .ok (.iload_n 3, 1) := by decide +kernel
theorem dX2_countTriples_53 : decode cX2_countTriples 53 = .ok (.if_icmp .gt 66, 3) := by decide +kernel
theorem dX2_countTriples_56 : decode cX2_countTriples 56 = .ok (.iconst 0, 1) := by decide +kernel
theorem dX2_countTriples_57 : decode cX2_countTriples 57 = .ok (.istore 8, 2) := by decide +kernel
theorem dX2_countTriples_59 : decode cX2_countTriples 59 = .ok (.iload 8, 2) := by decide +kernel
theorem dX2_countTriples_61 : decode cX2_countTriples 61 = .ok (.iload 4, 2) := by decide +kernel
theorem dX2_countTriples_63 : decode cX2_countTriples 63 = .ok (.if_icmp .gt 50, 3) := by decide +kernel
theorem dX2_countTriples_66 : decode cX2_countTriples 66 = .ok (.iconst 0, 1) := by decide +kernel
theorem dX2_countTriples_67 : decode cX2_countTriples 67 = .ok (.istore 9, 2) := by decide +kernel
theorem dX2_countTriples_69 : decode cX2_countTriples 69 = .ok (.iload 9, 2) := by decide +kernel
theorem dX2_countTriples_71 : decode cX2_countTriples 71 = .ok (.iload 5, 2) := by decide +kernel
theorem dX2_countTriples_73 : decode cX2_countTriples 73 = .ok (.if_icmp .gt 34, 3) := by decide +kernel
theorem dX2_countTriples_76 : decode cX2_countTriples 76 = .ok (.iload 6, 2) := by decide +kernel
theorem dX2_countTriples_78 : decode cX2_countTriples 78 = .ok (.aload_n 0, 1) := by decide +kernel
theorem dX2_countTriples_79 : decode cX2_countTriples 79 = .ok (.aload_n 1, 1) := by decide +kernel
theorem dX2_countTriples_80 : decode cX2_countTriples 80 = .ok (.iload 7, 2) := by decide +kernel
theorem dX2_countTriples_82 : decode cX2_countTriples 82 = .ok (.iload 8, 2) := by decide +kernel
theorem dX2_countTriples_84 : decode cX2_countTriples 84 = .ok (.iload 9, 2) := by decide +kernel
theorem dX2_countTriples_86 : decode cX2_countTriples 86 = .ok (.invokevirtual 43, 3) := by decide +kernel
theorem dX2_countTriples_89 : decode cX2_countTriples 89 = .ok (.iload_n 2, 1) := by decide +kernel
theorem dX2_countTriples_90 : decode cX2_countTriples 90 = .ok (.if_icmp .ne 7, 3) := by decide +kernel
theorem dX2_countTriples_93 : decode cX2_countTriples 93 = .ok (.iconst 1, 1) := by decide +kernel
theorem dX2_countTriples_94 : decode cX2_countTriples 94 = .ok (.goto 4, 3) := by decide +kernel
theorem dX2_countTriples_97 : decode cX2_countTriples 97 = .ok (.iconst 0, 1) := by decide +kernel
theorem dX2_countTriples_98 : decode cX2_countTriples 98 = .ok (.iadd, 1) := by decide +kernel
theorem dX2_countTriples_99 : decode cX2_countTriples 99 = .ok (.istore 6, 2) := by decide +kernel
theorem dX2_countTriples_101 : decode cX2_countTriples 101 = .ok (.iinc 9 1, 3) := by decide +kernel
theorem dX2_countTriples_104 : decode cX2_countTriples 104 = .ok (.goto (-35), 3) := by decide +kernel
theorem dX2_countTriples_107 : decode cX2_countTriples 107 = .ok (.iinc 8 1, 3) := by decide +kernel
theorem dX2_countTriples_110 : decode cX2_countTriples 110 = .ok (.goto (-51), 3) := by decide +kernel
theorem dX2_countTriples_113 : decode cX2_countTriples 113 = .ok (.iinc 7 1, 3) := by decide +kernel
theorem dX2_countTriples_116 : decode cX2_countTriples 116 = .ok (.goto (-66), 3) := by decide +kernel
theorem dX2_countTriples_119 : decode cX2_countTriples 119 = .ok (.iconst 4, 1) := by decide +kernel
theorem dX2_countTriples_120 : decode cX2_countTriples 120 = .ok (.istore 7, 2) := by decide +kernel
theorem dX2_countTriples_122 : decode cX2_countTriples 122 = .ok (.iload 6, 2) := by decide +kernel
theorem dX2_countTriples_124 : decode cX2_countTriples 124 = .ok (.iload_n 3, 1) := by decide +kernel
theorem dX2_countTriples_125 : decode cX2_countTriples 125 = .ok (.ifCond .ne 8, 3) := by decide +kernel
theorem dX2_countTriples_128 : decode cX2_countTriples 128 = .ok (.iload 7, 2) := by decide +kernel
theorem dX2_countTriples_130 : decode cX2_countTriples 130 = .ok (.goto 4, 3) := by decide +kernel
theorem dX2_countTriples_133 : decode cX2_countTriples 133 = .ok (.iconst 1, 1) := by decide +kernel
theorem dX2_countTriples_134 : decode cX2_countTriples 134 = .ok (.imul, 1) := by decide +kernel
theorem dX2_countTriples_135 : decode cX2_countTriples 135 = .ok (.iload 4, 2) := by decide +kernel
theorem dX2_countTriples_137 : decode cX2_countTriples 137 = .ok (.ifCond .ne 8, 3) := by decide +kernel
theorem dX2_countTriples_140 : decode cX2_countTriples 140 = .ok (.iload 7, 2) := by decide +kernel
theorem dX2_countTriples_142 : decode cX2_countTriples 142 = .ok (.goto 4, 3) := by decide +kernel
theorem dX2_countTriples_145 : decode cX2_countTriples 145 = .ok (.iconst 1, 1) := by decide +kernel
theorem dX2_countTriples_146 : decode cX2_countTriples 146 = .ok (.imul, 1) := by decide +kernel
theorem dX2_countTriples_147 : decode cX2_countTriples 147 = .ok (.iload 5, 2) := by decide +kernel
theorem dX2_countTriples_149 : decode cX2_countTriples 149 = .ok (.ifCond .ne 8, 3) := by decide +kernel
theorem dX2_countTriples_152 : decode cX2_countTriples 152 = .ok (.iload 7, 2) := by decide +kernel
theorem dX2_countTriples_154 : decode cX2_countTriples 154 = .ok (.goto 4, 3) := by decide +kernel
theorem dX2_countTriples_157 : decode cX2_countTriples 157 = .ok (.iconst 1, 1) := by decide +kernel
theorem dX2_countTriples_158 : decode cX2_countTriples 158 = .ok (.imul, 1) := by decide +kernel
theorem dX2_countTriples_159 : decode cX2_countTriples 159 = .ok (.ireturn, 1) := by decide +kernel
theorem dX2_compare_0 : decode cX2_compare 0 = .ok (.aload_n 0, 1) := by decide +kernel
theorem dX2_compare_1 : decode cX2_compare 1 = .ok (.aload_n 1, 1) := by decide +kernel
theorem dX2_compare_2 : decode cX2_compare 2 = .ok (.getfield 47, 3) := by decide +kernel
theorem dX2_compare_5 : decode cX2_compare 5 = .ok (.iload_n 2, 1) := by decide +kernel
theorem dX2_compare_6 : decode cX2_compare 6 = .ok (.iload_n 3, 1) := by decide +kernel
theorem dX2_compare_7 : decode cX2_compare 7 = .ok (.iload 4, 2) := by decide +kernel
theorem dX2_compare_9 : decode cX2_compare 9 = .ok (.invokevirtual 51, 3) := by decide +kernel
theorem dX2_compare_12 : decode cX2_compare 12 = .ok (.istore 5, 2) := by decide +kernel
theorem dX2_compare_14 : decode cX2_compare 14 = .ok (.iload 5, 2) := by decide +kernel
theorem dX2_compare_16 : decode cX2_compare 16 = .ok (.bipush (-9), 2) := by decide +kernel
theorem dX2_compare_18 : decode cX2_compare 18 = .ok (.if_icmp .ne 6, 3) := by decide +kernel
theorem dX2_compare_21 : decode cX2_compare 21 = .ok (.bipush (-9), 2) := by decide +kernel
theorem dX2_compare_23 : decode cX2_compare 23 = .ok (.ireturn, 1) := by decide +kernel
theorem dX2_compare_24 : decode cX2_compare 24 = .ok (.aload_n 0, 1) := by decide +kernel
theorem dX2_compare_25 : decode cX2_compare 25 = .ok (.aload_n 1, 1) := by decide +kernel
theorem dX2_compare_26 : decode cX2_compare 26 = .ok (.getfield 55, 3) := by decide +kernel
theorem dX2_compare_29 : decode cX2_compare 29 = .ok (.iload_n 2, 1) := by decide +kernel
theorem dX2_compare_30 : decode cX2_compare 30 = .ok (.iload_n 3, 1) := by decide +kernel
theorem dX2_compare_31 : decode cX2_compare 31 = .ok (.iload 4, 2) := by decide +kernel
theorem dX2_compare_33 : decode cX2_compare 33 = .ok (.invokevirtual 51, 3) := by decide +kernel
theorem dX2_compare_36 : decode cX2_compare 36 = .ok (.istore 6, 2) := by decide +kernel
theorem dX2_compare_38 : decode cX2_compare 38 = .ok (.iload 6, 2) := by decide +kernel
theorem dX2_compare_40 : decode cX2_compare 40 = .ok (.bipush (-9), 2) := by decide +kernel
theorem dX2_compare_42 : decode cX2_compare 42 = .ok (.if_icmp .ne 6, 3) := by decide +kernel
theorem dX2_compare_45 : decode cX2_compare 45 = .ok (.bipush (-9), 2) := by decide +kernel
theorem dX2_compare_47 : decode cX2_compare 47 = .ok (.ireturn, 1) := by decide +kernel
theorem dX2_compare_48 : decode cX2_compare 48 = .ok (.iload 5, 2) := by decide +kernel
theorem dX2_compare_50 : decode cX2_compare 50 = .ok (.iload 6, 2) := by decide +kernel
theorem dX2_compare_52 : decode cX2_compare 52 = .ok (.if_icmp .ne 7, 3) := by decide +kernel
theorem dX2_compare_55 : decode cX2_compare 55 = .ok (.iconst 1, 1) := by decide +kernel
theorem dX2_compare_56 : decode cX2_compare 56 = .ok (.goto 4, 3) := by decide +kernel
theorem dX2_compare_59 : decode cX2_compare 59 = .ok (.iconst 0, 1) := by decide +kernel
theorem dX2_compare_60 : decode cX2_compare 60 = .ok (.ireturn, 1) := by decide +kernel
theorem dX2_valueOf_0 : decode cX2_valueOf 0 = .ok (.aload_n 0, 1) := by decide +kernel
theorem dX2_valueOf_1 : decode cX2_valueOf 1 = .ok (.iconst 0, 1) := by decide +kernel
theorem dX2_valueOf_2 : decode cX2_valueOf 2 = .ok (.putfield 58, 3) := by decide +kernel
theorem dX2_valueOf_5 : decode cX2_valueOf 5 = .ok (.aload_n 0, 1) := by decide +kernel
theorem dX2_valueOf_6 : decode cX2_valueOf 6 = .ok (.iconst 0, 1) := by decide +kernel
theorem dX2_valueOf_7 : decode cX2_valueOf 7 = .ok (.putfield 62, 3) := by decide +kernel
theorem dX2_valueOf_10 : decode cX2_valueOf 10 = .ok (.aload_n 0, 1) := by decide +kernel
theorem dX2_valueOf_11 : decode cX2_valueOf 11 = .ok (.iconst 0, 1) := by decide +kernel
theorem dX2_valueOf_12 : decode cX2_valueOf 12 = .ok (.putfield 65, 3) := by decide +kernel
theorem dX2_valueOf_15 : decode cX2_valueOf 15 = .ok (.aload_n 0, 1) := by decide +kernel
theorem dX2_valueOf_16 : decode cX2_valueOf 16 = .ok (.getfield 17, 3) := by decide +kernel
theorem dX2_valueOf_19 : decode cX2_valueOf 19 = .ok (.iconst 0, 1) := by decide +kernel
theorem dX2_valueOf_20 : decode cX2_valueOf 20 = .ok (.aload_n 1, 1) := by decide +kernel
theorem dX2_valueOf_21 : decode cX2_valueOf 21 = .ok (.aastore, 1) := by decide +kernel
theorem dX2_valueOf_22 : decode cX2_valueOf 22 = .ok (.aload_n 0, 1) := by decide +kernel
theorem dX2_valueOf_23 : decode cX2_valueOf 23 = .ok (.getfield 21, 3) := by decide +kernel
theorem dX2_valueOf_26 : decode cX2_valueOf 26 = .ok (.iconst 0, 1) := by decide +kernel
theorem dX2_valueOf_27 : decode cX2_valueOf 27 = .ok (.aload_n 1, 1) := by decide +kernel
theorem dX2_valueOf_28 : decode cX2_valueOf 28 = .ok (.getfield 68, 3) := by decide +kernel
theorem dX2_valueOf_31 : decode cX2_valueOf 31 = .ok (.iastore, 1) := by decide +kernel
theorem dX2_valueOf_32 : decode cX2_valueOf 32 = .ok (.aload_n 0, 1) := by decide +kernel
theorem dX2_valueOf_33 : decode cX2_valueOf 33 = .ok (.getfield 24, 3) := by decide +kernel
theorem dX2_valueOf_36 : decode cX2_valueOf 36 = .ok (.iconst 0, 1) := by decide +kernel
theorem dX2_valueOf_37 : decode cX2_valueOf 37 = .ok (.iload_n 2, 1) := by decide +kernel
theorem dX2_valueOf_38 : decode cX2_valueOf 38 = .ok (.iastore, 1) := by decide +kernel
theorem dX2_valueOf_39 : decode cX2_valueOf 39 = .ok (.aload_n 0, 1) := by decide +kernel
theorem dX2_valueOf_40 : decode cX2_valueOf 40 = .ok (.getfield 27, 3) := by decide +kernel
theorem dX2_valueOf_43 : decode cX2_valueOf 43 = .ok (.iconst 0, 1) := by decide +kernel
theorem dX2_valueOf_44 : decode cX2_valueOf 44 = .ok (.iload_n 3, 1) := by decide +kernel
theorem dX2_valueOf_45 : decode cX2_valueOf 45 = .ok (.iastore, 1) := by decide +kernel
theorem dX2_valueOf_46 : decode cX2_valueOf 46 = .ok (.iconst 0, 1) := by decide +kernel
theorem dX2_valueOf_47 : decode cX2_valueOf 47 = .ok (.istore 5, 2) := by decide +kernel
theorem dX2_valueOf_49 : decode cX2_valueOf 49 = .ok (.iload 5, 2) := by decide +kernel
theorem dX2_valueOf_51 : decode cX2_valueOf 51 = .ok (.sipush 702, 3) := by decide +kernel
theorem dX2_valueOf_54 : decode cX2_valueOf 54 = .ok (.if_icmp .ge 148, 3) := by decide +kernel
theorem dX2_valueOf_57 : decode cX2_valueOf 57 = .ok (.aload_n 0, 1) := by decide +kernel
theorem dX2_valueOf_58 : decode cX2_valueOf 58 = .ok (.getfield 21, 3) := by decide +kernel
theorem dX2_valueOf_61 : decode cX2_valueOf 61 = .ok (.aload_n 0, 1) := by decide +kernel
theorem dX2_valueOf_62 : decode cX2_valueOf 62 = .ok (.getfield 65, 3) := by decide +kernel
theorem dX2_valueOf_65 : decode cX2_valueOf 65 = .ok (.iaload, 1) := by decide +kernel
theorem dX2_valueOf_66 : decode cX2_valueOf 66 = .ok (.ifCond .gt 30, 3) := by decide +kernel
theorem dX2_valueOf_69 : decode cX2_valueOf 69 = .ok (.aload_n 0, 1) := by decide +kernel
theorem dX2_valueOf_70 : decode cX2_valueOf 70 = .ok (.getfield 65, 3) := by decide +kernel
theorem dX2_valueOf_73 : decode cX2_valueOf 73 = .ok (.ifCond .ne 23, 3) := by decide +kernel
theorem dX2_valueOf_76 : decode cX2_valueOf 76 = .ok (.aload_n 0, 1) := by decide +kernel
theorem dX2_valueOf_77 : decode cX2_valueOf 77 = .ok (.getfield 62, 3) := by decide +kernel
theorem dX2_valueOf_80 : decode cX2_valueOf 80 = .ok (.iconst 1, 1) := by decide +kernel
theorem dX2_valueOf_81 : decode cX2_valueOf 81 = .ok (.if_icmp .ne 12, 3) := by decide +kernel
theorem dX2_valueOf_84 : decode cX2_valueOf 84 = .ok (.aload_n 0, 1) := by decide +kernel
theorem dX2_valueOf_85 : decode cX2_valueOf 85 = .ok (.getfield 30, 3) := by decide +kernel
theorem dX2_valueOf_88 : decode cX2_valueOf 88 = .ok (.iconst 0, 1) := by decide +kernel
theorem dX2_valueOf_89 : decode cX2_valueOf 89 = .ok (.iaload, 1) := by decide +kernel
theorem dX2_valueOf_90 : decode cX2_valueOf 90 = .ok (.goto 5, 3) := by decide +kernel
theorem dX2_valueOf_93 : decode cX2_valueOf 93 = .ok (.bipush (-9), 2) := by decide +kernel
theorem dX2_valueOf_95 : decode cX2_valueOf 95 = .ok (.ireturn, 1) := by decide +kernel
theorem dX2_valueOf_96 : decode cX2_valueOf 96 = .ok (.aload_n 0, 1) := by decide +kernel
theorem dX2_valueOf_97 : decode cX2_valueOf 97 = .ok (.getfield 21, 3) := by decide +kernel
theorem dX2_valueOf_100 : decode cX2_valueOf 100 = .ok (.aload_n 0, 1) := by decide +kernel
theorem dX2_valueOf_101 : decode cX2_valueOf 101 = .ok (.getfield 65, 3) := by decide +kernel
theorem dX2_valueOf_104 : decode cX2_valueOf 104 = .ok (.iaload, 1) := by decide +kernel
theorem dX2_valueOf_105 : decode cX2_valueOf 105 = .ok (.ifCond .gt 16, 3) := by decide +kernel
theorem dX2_valueOf_108 : decode cX2_valueOf 108 = .ok (.aload_n 0, 1) := by decide +kernel
theorem dX2_valueOf_109 : decode cX2_valueOf 109 = .ok (.dup, 1) := by decide +kernel
theorem dX2_valueOf_110 : decode cX2_valueOf 110 = .ok (.getfield 65, 3) := by decide +kernel
theorem dX2_valueOf_113 : decode cX2_valueOf 113 = .ok (.iconst 1, 1) := by decide +kernel
theorem dX2_valueOf_114 : decode cX2_valueOf 114 = .ok (.isub, 1) := by decide +kernel
theorem dX2_valueOf_115 : decode cX2_valueOf 115 = .ok (.putfield 65, 3) := by decide +kernel
theorem dX2_valueOf_118 : decode cX2_valueOf 118 = .ok (.goto 78, 3) := by decide +kernel
theorem dX2_valueOf_121 : decode cX2_valueOf 121 = .ok (.aload_n 0, 1) := by decide +kernel
theorem dX2_valueOf_122 : decode cX2_valueOf 122 = .ok (.getfield 21, 3) := by decide +kernel
theorem dX2_valueOf_125 : decode cX2_valueOf 125 = .ok (.aload_n 0, 1) := by decide +kernel
theorem dX2_valueOf_126 : decode cX2_valueOf 126 = .ok (.getfield 65, 3) := by decide +kernel
theorem dX2_valueOf_129 : decode cX2_valueOf 129 = .ok (.dup2, 1) := by decide +kernel
theorem dX2_valueOf_130 : decode cX2_valueOf 130 = .ok (.iaload, 1) := by decide +kernel
theorem dX2_valueOf_131 : decode cX2_valueOf 131 = .ok (.iconst 1, 1) := by decide +kernel
theorem dX2_valueOf_132 : decode cX2_valueOf 132 = .ok (.isub, 1) := by decide +kernel
theorem dX2_valueOf_133 : decode cX2_valueOf 133 = .ok (.iastore, 1) := by decide +kernel
theorem dX2_valueOf_134 : decode cX2_valueOf 134 = .ok (.aload_n 0, 1) := by decide +kernel
theorem dX2_valueOf_135 : decode cX2_valueOf 135 = .ok (.getfield 17, 3) := by decide +kernel
theorem dX2_valueOf_138 : decode cX2_valueOf 138 = .ok (.aload_n 0, 1) := by decide +kernel
theorem dX2_valueOf_139 : decode cX2_valueOf 139 = .ok (.getfield 65, 3) := by decide +kernel
theorem dX2_valueOf_142 : decode cX2_valueOf 142 = .ok (.aaload, 1) := by decide +kernel
theorem dX2_valueOf_143 : decode cX2_valueOf 143 = .ok (.getfield 71, 3) := by decide +kernel
theorem dX2_valueOf_146 : decode cX2_valueOf 146 = .ok (.aload_n 0, 1) := by decide +kernel
theorem dX2_valueOf_147 : decode cX2_valueOf 147 = .ok (.getfield 21, 3) := by decide +kernel
theorem dX2_valueOf_150 : decode cX2_valueOf 150 = .ok (.aload_n 0, 1) := by decide +kernel
theorem dX2_valueOf_151 : decode cX2_valueOf 151 = .ok (.getfield 65, 3) := by decide +kernel
theorem dX2_valueOf_154 : decode cX2_valueOf 154 = .ok (.iaload, 1) := by decide +kernel
theorem dX2_valueOf_155 : decode cX2_valueOf 155 = .ok (.iaload, 1) := by decide +kernel
theorem dX2_valueOf_156 : decode cX2_valueOf 156 = .ok (.istore 6, 2) := by decide +kernel
theorem dX2_valueOf_158 : decode cX2_valueOf 158 = .ok (.iload 6, 2) := by decide +kernel
theorem dX2_valueOf_160 : decode cX2_valueOf 160 = .ok (.invokestatic 74, 3) := by decide +kernel
theorem dX2_valueOf_163 : decode cX2_valueOf 163 = .ok (.ifCond .eq 15, 3) := by decide +kernel
theorem dX2_valueOf_166 : decode cX2_valueOf 166 = .ok (.aload_n 0, 1) := by decide +kernel
theorem dX2_valueOf_167 : decode cX2_valueOf 167 = .ok (.iload 6, 2) := by decide +kernel
theorem dX2_valueOf_169 : decode cX2_valueOf 169 = .ok (.bipush 97, 2) := by decide +kernel
theorem dX2_valueOf_171 : decode cX2_valueOf 171 = .ok (.isub, 1) := by decide +kernel
theorem dX2_valueOf_172 : decode cX2_valueOf 172 = .ok (.invokevirtual 77, 3) := by decide +kernel
theorem dX2_valueOf_175 : decode cX2_valueOf 175 = .ok (.goto 11, 3) := by decide +kernel
theorem dX2_valueOf_178 : decode cX2_valueOf 178 = .ok (.aload_n 0, 1) := by decide +kernel
theorem dX2_valueOf_179 : decode cX2_valueOf 179 = .ok (.iload 6, 2) := by decide +kernel
theorem dX2_valueOf_181 : decode cX2_valueOf 181 = .ok (.iload 4, 2) := by decide +kernel
theorem dX2_valueOf_183 : decode cX2_valueOf 183 = .ok (.invokevirtual 80, 3) := by decide +kernel
theorem dX2_valueOf_186 : decode cX2_valueOf 186 = .ok (.istore 7, 2) := by decide +kernel
theorem dX2_valueOf_188 : decode cX2_valueOf 188 = .ok (.iload 7, 2) := by decide +kernel
theorem dX2_valueOf_190 : decode cX2_valueOf 190 = .ok (.ifCond .ne 6, 3) := by decide +kernel
theorem dX2_valueOf_193 : decode cX2_valueOf 193 = .ok (.bipush (-9), 2) := by decide +kernel
theorem dX2_valueOf_195 : decode cX2_valueOf 195 = .ok (.ireturn, 1) := by decide +kernel
theorem dX2_valueOf_196 : decode cX2_valueOf 196 = .ok (.iinc 5 1, 3) := by decide +kernel
theorem dX2_valueOf_199 : decode cX2_valueOf 199 = .ok (.goto (-150), 3) := by decide +kernel
theorem dX2_valueOf_202 : decode cX2_valueOf 202 = .ok (.bipush (-9), 2) := by decide +kernel
theorem dX2_valueOf_204 : decode cX2_valueOf 204 = .ok (.ireturn, 1) := by decide +kernel
theorem dX2_take_0 : decode cX2_take 0 = .ok (.iload_n 1, 1) := by decide +kernel
theorem dX2_take_1 : decode cX2_take 1 = .ok (.bipush 83, 2) := by decide +kernel
theorem dX2_take_3 : decode cX2_take 3 = .ok (.if_icmp .ne 46, 3) := by decide +kernel
theorem dX2_take_6 : decode cX2_take 6 = .ok (.aload_n 0, 1) := by decide +kernel
theorem dX2_take_7 : decode cX2_take 7 = .ok (.getfield 62, 3) := by decide +kernel
theorem dX2_take_10 : decode cX2_take 10 = .ok (.iconst 1, 1) := by decide +kernel
theorem dX2_take_11 : decode cX2_take 11 = .ok (.if_icmp .lt 19, 3) := by decide +kernel
theorem dX2_take_14 : decode cX2_take 14 = .ok (.aload_n 0, 1) := by decide +kernel
theorem dX2_take_15 : decode cX2_take 15 = .ok (.getfield 30, 3) := by decide +kernel
theorem dX2_take_18 : decode cX2_take 18 = .ok (.aload_n 0, 1) := by decide +kernel
theorem dX2_take_19 : decode cX2_take 19 = .ok (.getfield 62, 3) := by decide +kernel
theorem dX2_take_22 : decode cX2_take 22 = .ok (.iconst 1, 1) := by decide +kernel
theorem dX2_take_23 : decode cX2_take 23 = .ok (.isub, 1) := by decide +kernel
theorem dX2_take_24 : decode cX2_take 24 = .ok (.iaload, 1) := by decide +kernel
theorem dX2_take_25 : decode cX2_take 25 = .ok (.bipush 99, 2) := by decide +kernel
theorem dX2_take_27 : decode cX2_take 27 = .ok (.if_icmp .lt 5, 3) := by decide +kernel
theorem dX2_take_30 : decode cX2_take 30 = .ok (.iconst 0, 1) := by decide +kernel
theorem dX2_take_31 : decode cX2_take 31 = .ok (.ireturn, 1) := by decide +kernel
theorem dX2_take_32 : decode cX2_take 32 = .ok (.aload_n 0, 1) := by decide +kernel
theorem dX2_take_33 : decode cX2_take 33 = .ok (.getfield 30, 3) := by decide +kernel
theorem dX2_take_36 : decode cX2_take 36 = .ok (.aload_n 0, 1) := by decide +kernel
theorem dX2_take_37 : decode cX2_take 37 = .ok (.getfield 62, 3) := by decide +kernel
theorem dX2_take_40 : decode cX2_take 40 = .ok (.iconst 1, 1) := by decide +kernel
theorem dX2_take_41 : decode cX2_take 41 = .ok (.isub, 1) := by decide +kernel
theorem dX2_take_42 : decode cX2_take 42 = .ok (.dup2, 1) := by decide +kernel
theorem dX2_take_43 : decode cX2_take 43 = .ok (.iaload, 1) := by decide +kernel
theorem dX2_take_44 : decode cX2_take 44 = .ok (.iconst 1, 1) := by decide +kernel
theorem dX2_take_45 : decode cX2_take 45 = .ok (.iadd, 1) := by decide +kernel
theorem dX2_take_46 : decode cX2_take 46 = .ok (.iastore, 1) := by decide +kernel
theorem dX2_take_47 : decode cX2_take 47 = .ok (.iconst 1, 1) := by decide +kernel
theorem dX2_take_48 : decode cX2_take 48 = .ok (.ireturn, 1) := by decide +kernel
theorem dX2_take_49 : decode cX2_take 49 = .ok (.aload_n 0, 1) := by decide +kernel
theorem dX2_take_50 : decode cX2_take 50 = .ok (.getfield 62, 3) := by decide +kernel
theorem dX2_take_53 : decode cX2_take 53 = .ok (.ifCond .lt 13, 3) := by decide +kernel
theorem dX2_take_56 : decode cX2_take 56 = .ok (.aload_n 0, 1) := by decide +kernel
theorem dX2_take_57 : decode cX2_take 57 = .ok (.getfield 62, 3) := by decide +kernel
theorem dX2_take_60 : decode cX2_take 60 = .ok (.sipush 640, 3) := by decide +kernel
theorem dX2_take_63 : decode cX2_take 63 = .ok (.if_icmp .lt 5, 3) := by decide +kernel
theorem dX2_take_66 : decode cX2_take 66 = .ok (.iconst 0, 1) := by decide +kernel
theorem dX2_take_67 : decode cX2_take 67 = .ok (.ireturn, 1) := by decide +kernel
theorem dX2_take_68 : decode cX2_take 68 = .ok (.iload_n 1, 1) := by decide +kernel
theorem dX2_take_69 : decode cX2_take 69 = .ok (.tableswitch 82 120 122 #[27, 48, 69], 27) := by decide +kernel
theorem dX2_take_96 : decode cX2_take 96 = .ok (.aload_n 0, 1) := by decide +kernel
theorem dX2_take_97 : decode cX2_take 97 = .ok (.getfield 30, 3) := by decide +kernel
theorem dX2_take_100 : decode cX2_take 100 = .ok (.aload_n 0, 1) := by decide +kernel
theorem dX2_take_101 : decode cX2_take 101 = .ok (.getfield 62, 3) := by decide +kernel
theorem dX2_take_104 : decode cX2_take 104 = .ok (.aload_n 0, 1) := by decide +kernel
theorem dX2_take_105 : decode cX2_take 105 = .ok (.getfield 24, 3) := by decide +kernel
theorem dX2_take_108 : decode cX2_take 108 = .ok (.aload_n 0, 1) := by decide +kernel
theorem dX2_take_109 : decode cX2_take 109 = .ok (.getfield 65, 3) := by decide +kernel
theorem dX2_take_112 : decode cX2_take 112 = .ok (.iaload, 1) := by decide +kernel
theorem dX2_take_113 : decode cX2_take 113 = .ok (.iastore, 1) := by decide +kernel
theorem dX2_take_114 : decode cX2_take 114 = .ok (.goto 47, 3) := by decide +kernel
theorem dX2_take_117 : decode cX2_take 117 = .ok (.aload_n 0, 1) := by decide +kernel
theorem dX2_take_118 : decode cX2_take 118 = .ok (.getfield 30, 3) := by decide +kernel
theorem dX2_take_121 : decode cX2_take 121 = .ok (.aload_n 0, 1) := by decide +kernel
theorem dX2_take_122 : decode cX2_take 122 = .ok (.getfield 62, 3) := by decide +kernel
theorem dX2_take_125 : decode cX2_take 125 = .ok (.aload_n 0, 1) := by decide +kernel
theorem dX2_take_126 : decode cX2_take 126 = .ok (.getfield 27, 3) := by decide +kernel
theorem dX2_take_129 : decode cX2_take 129 = .ok (.aload_n 0, 1) := by decide +kernel
theorem dX2_take_130 : decode cX2_take 130 = .ok (.getfield 65, 3) := by decide +kernel
theorem dX2_take_133 : decode cX2_take 133 = .ok (.iaload, 1) := by decide +kernel
theorem dX2_take_134 : decode cX2_take 134 = .ok (.iastore, 1) := by decide +kernel
theorem dX2_take_135 : decode cX2_take 135 = .ok (.goto 26, 3) := by decide +kernel
theorem dX2_take_138 : decode cX2_take 138 = .ok (.aload_n 0, 1) := by decide +kernel
theorem dX2_take_139 : decode cX2_take 139 = .ok (.getfield 30, 3) := by decide +kernel
theorem dX2_take_142 : decode cX2_take 142 = .ok (.aload_n 0, 1) := by decide +kernel
theorem dX2_take_143 : decode cX2_take 143 = .ok (.getfield 62, 3) := by decide +kernel
theorem dX2_take_146 : decode cX2_take 146 = .ok (.iload_n 2, 1) := by decide +kernel
theorem dX2_take_147 : decode cX2_take 147 = .ok (.iastore, 1) := by decide +kernel
theorem dX2_take_148 : decode cX2_take 148 = .ok (.goto 13, 3) := by decide +kernel
theorem dX2_take_151 : decode cX2_take 151 = .ok (.aload_n 0, 1) := by decide +kernel
theorem dX2_take_152 : decode cX2_take 152 = .ok (.getfield 30, 3) := by decide +kernel
theorem dX2_take_155 : decode cX2_take 155 = .ok (.aload_n 0, 1) := by decide +kernel
theorem dX2_take_156 : decode cX2_take 156 = .ok (.getfield 62, 3) := by decide +kernel
theorem dX2_take_159 : decode cX2_take 159 = .ok (.iconst 0, 1) := by decide +kernel
theorem dX2_take_160 : decode cX2_take 160 = .ok (.iastore, 1) := by decide +kernel
theorem dX2_take_161 : decode cX2_take 161 = .ok (.aload_n 0, 1) := by decide +kernel
theorem dX2_take_162 : decode cX2_take 162 = .ok (.dup, 1) := by decide +kernel
theorem dX2_take_163 : decode cX2_take 163 = .ok (.getfield 62, 3) := by decide +kernel
theorem dX2_take_166 : decode cX2_take 166 = .ok (.iconst 1, 1) := by decide +kernel
theorem dX2_take_167 : decode cX2_take 167 = .ok (.iadd, 1) := by decide +kernel
theorem dX2_take_168 : decode cX2_take 168 = .ok (.putfield 62, 3) := by decide +kernel
theorem dX2_take_171 : decode cX2_take 171 = .ok (.iconst 1, 1) := by decide +kernel
theorem dX2_take_172 : decode cX2_take 172 = .ok (.ireturn, 1) := by decide +kernel
theorem dX2_call_0 : decode cX2_call 0 = .ok (.iload_n 1, 1) := by decide +kernel
theorem dX2_call_1 : decode cX2_call 1 = .ok (.ifCond .lt 34, 3) := by decide +kernel
theorem dX2_call_4 : decode cX2_call 4 = .ok (.iload_n 1, 1) := by decide +kernel
theorem dX2_call_5 : decode cX2_call 5 = .ok (.aload_n 0, 1) := by decide +kernel
theorem dX2_call_6 : decode cX2_call 6 = .ok (.getfield 33, 3) := by decide +kernel
theorem dX2_call_9 : decode cX2_call 9 = .ok (.getfield 84, 3) := by decide +kernel
theorem dX2_call_12 : decode cX2_call 12 = .ok (.if_icmp .ge 23, 3) := by decide +kernel
theorem dX2_call_15 : decode cX2_call 15 = .ok (.aload_n 0, 1) := by decide +kernel
theorem dX2_call_16 : decode cX2_call 16 = .ok (.getfield 58, 3) := by decide +kernel
theorem dX2_call_19 : decode cX2_call 19 = .ok (.bipush 60, 2) := by decide +kernel
theorem dX2_call_21 : decode cX2_call 21 = .ok (.if_icmp .ge 14, 3) := by decide +kernel
theorem dX2_call_24 : decode cX2_call 24 = .ok (.aload_n 0, 1) := by decide +kernel
theorem dX2_call_25 : decode cX2_call 25 = .ok (.getfield 65, 3) := by decide +kernel
theorem dX2_call_28 : decode cX2_call 28 = .ok (.iconst 1, 1) := by decide +kernel
theorem dX2_call_29 : decode cX2_call 29 = .ok (.iadd, 1) := by decide +kernel
theorem dX2_call_30 : decode cX2_call 30 = .ok (.bipush 61, 2) := by decide +kernel
theorem dX2_call_32 : decode cX2_call 32 = .ok (.if_icmp .lt 5, 3) := by decide +kernel
theorem dX2_call_35 : decode cX2_call 35 = .ok (.iconst 0, 1) := by decide +kernel
theorem dX2_call_36 : decode cX2_call 36 = .ok (.ireturn, 1) := by decide +kernel
theorem dX2_call_37 : decode cX2_call 37 = .ok (.aload_n 0, 1) := by decide +kernel
theorem dX2_call_38 : decode cX2_call 38 = .ok (.getfield 33, 3) := by decide +kernel
theorem dX2_call_41 : decode cX2_call 41 = .ok (.getfield 89, 3) := by decide +kernel
theorem dX2_call_44 : decode cX2_call 44 = .ok (.iload_n 1, 1) := by decide +kernel
theorem dX2_call_45 : decode cX2_call 45 = .ok (.iaload, 1) := by decide +kernel
theorem dX2_call_46 : decode cX2_call 46 = .ok (.istore_n 2, 1) := by decide +kernel
theorem dX2_call_47 : decode cX2_call 47 = .ok (.aload_n 0, 1) := by decide +kernel
theorem dX2_call_48 : decode cX2_call 48 = .ok (.getfield 33, 3) := by decide +kernel
theorem dX2_call_51 : decode cX2_call 51 = .ok (.getfield 92, 3) := by decide +kernel
theorem dX2_call_54 : decode cX2_call 54 = .ok (.iload_n 1, 1) := by decide +kernel
theorem dX2_call_55 : decode cX2_call 55 = .ok (.iaload, 1) := by decide +kernel
theorem dX2_call_56 : decode cX2_call 56 = .ok (.istore_n 3, 1) := by decide +kernel
theorem dX2_call_57 : decode cX2_call 57 = .ok (.aload_n 0, 1) := by decide +kernel
theorem dX2_call_58 : decode cX2_call 58 = .ok (.getfield 62, 3) := by decide +kernel
theorem dX2_call_61 : decode cX2_call 61 = .ok (.iload_n 3, 1) := by decide +kernel
theorem dX2_call_62 : decode cX2_call 62 = .ok (.if_icmp .ge 5, 3) := by decide +kernel
theorem dX2_call_65 : decode cX2_call 65 = .ok (.iconst 0, 1) := by decide +kernel
theorem dX2_call_66 : decode cX2_call 66 = .ok (.ireturn, 1) := by decide +kernel
theorem dX2_call_67 : decode cX2_call 67 = .ok (.aload_n 0, 1) := by decide +kernel
theorem dX2_call_68 : decode cX2_call 68 = .ok (.dup, 1) := by decide +kernel
theorem dX2_call_69 : decode cX2_call 69 = .ok (.getfield 58, 3) := by decide +kernel
theorem dX2_call_72 : decode cX2_call 72 = .ok (.iconst 1, 1) := by decide +kernel
theorem dX2_call_73 : decode cX2_call 73 = .ok (.iadd, 1) := by decide +kernel
theorem dX2_call_74 : decode cX2_call 74 = .ok (.putfield 58, 3) := by decide +kernel
theorem dX2_call_77 : decode cX2_call 77 = .ok (.aload_n 0, 1) := by decide +kernel
theorem dX2_call_78 : decode cX2_call 78 = .ok (.dup, 1) := by decide +kernel
theorem dX2_call_79 : decode cX2_call 79 = .ok (.getfield 62, 3) := by decide +kernel
theorem dX2_call_82 : decode cX2_call 82 = .ok (.iload_n 3, 1) := by decide +kernel
theorem dX2_call_83 : decode cX2_call 83 = .ok (.isub, 1) := by decide +kernel
theorem dX2_call_84 : decode cX2_call 84 = .ok (.putfield 62, 3) := by decide +kernel
theorem dX2_call_87 : decode cX2_call 87 = .ok (.aload_n 0, 1) := by decide +kernel
theorem dX2_call_88 : decode cX2_call 88 = .ok (.getfield 30, 3) := by decide +kernel
theorem dX2_call_91 : decode cX2_call 91 = .ok (.aload_n 0, 1) := by decide +kernel
theorem dX2_call_92 : decode cX2_call 92 = .ok (.getfield 62, 3) := by decide +kernel
theorem dX2_call_95 : decode cX2_call 95 = .ok (.iload_n 3, 1) := by decide +kernel
theorem dX2_call_96 : decode cX2_call 96 = .ok (.iadd, 1) := by decide +kernel
theorem dX2_call_97 : decode cX2_call 97 = .ok (.iconst 1, 1) := by decide +kernel
theorem dX2_call_98 : decode cX2_call 98 = .ok (.isub, 1) := by decide +kernel
theorem dX2_call_99 : decode cX2_call 99 = .ok (.iaload, 1) := by decide +kernel
theorem dX2_call_100 : decode cX2_call 100 = .ok (.istore 4, 2) := by decide +kernel
theorem dX2_call_102 : decode cX2_call 102 = .ok (.aload_n 0, 1) := by decide +kernel
theorem dX2_call_103 : decode cX2_call 103 = .ok (.getfield 33, 3) := by decide +kernel
theorem dX2_call_106 : decode cX2_call 106 = .ok (.getfield 95, 3) := by decide +kernel
theorem dX2_call_109 : decode cX2_call 109 = .ok (.iload_n 1, 1) := by decide +kernel
theorem dX2_call_110 : decode cX2_call 110 = .ok (.iconst 3, 1) := by decide +kernel
theorem dX2_call_111 : decode cX2_call 111 = .ok (.imul, 1) := by decide +kernel
theorem dX2_call_112 : decode cX2_call 112 = .ok (.iload 4, 2) := by decide +kernel
theorem dX2_call_114 : decode cX2_call 114 = .ok (.iload_n 2, 1) := by decide +kernel
theorem dX2_call_115 : decode cX2_call 115 = .ok (.if_icmp .lt 7, 3) := by decide +kernel
theorem dX2_call_118 : decode cX2_call 118 = .ok (.iconst 2, 1) := by decide +kernel
theorem dX2_call_119 : decode cX2_call 119 = .ok (.goto 9, 3) := by decide +kernel
theorem dX2_call_122 : decode cX2_call 122 = .ok (.iload 4, 2) := by decide +kernel
theorem dX2_call_124 : decode cX2_call 124 = .ok (.iconst 0, 1) := by decide +kernel
theorem dX2_call_125 : decode cX2_call 125 = .ok (.invokestatic 98, 3) := by decide +kernel
theorem dX2_call_128 : decode cX2_call 128 = .ok (.iadd, 1) := by decide +kernel
theorem dX2_call_129 : decode cX2_call 129 = .ok (.aaload, 1) := by decide +kernel
theorem dX2_call_130 : decode cX2_call 130 = .ok (.astore 5, 2) := by decide +kernel
theorem dX2_call_132 : decode cX2_call 132 = .ok (.aload_n 0, 1) := by decide +kernel
theorem dX2_call_133 : decode cX2_call 133 = .ok (.dup, 1) := by decide +kernel
theorem dX2_call_134 : decode cX2_call 134 = .ok (.getfield 65, 3) := by decide +kernel
theorem dX2_call_137 : decode cX2_call 137 = .ok (.iconst 1, 1) := by decide +kernel
theorem dX2_call_138 : decode cX2_call 138 = .ok (.iadd, 1) := by decide +kernel
theorem dX2_call_139 : decode cX2_call 139 = .ok (.putfield 65, 3) := by decide +kernel
theorem dX2_call_142 : decode cX2_call 142 = .ok (.aload_n 0, 1) := by decide +kernel
theorem dX2_call_143 : decode cX2_call 143 = .ok (.getfield 17, 3) := by decide +kernel
theorem dX2_call_146 : decode cX2_call 146 = .ok (.aload_n 0, 1) := by decide +kernel
theorem dX2_call_147 : decode cX2_call 147 = .ok (.getfield 65, 3) := by decide +kernel
theorem dX2_call_150 : decode cX2_call 150 = .ok (.aload 5, 2) := by decide +kernel
theorem dX2_call_152 : decode cX2_call 152 = .ok (.aastore, 1) := by decide +kernel
theorem dX2_call_153 : decode cX2_call 153 = .ok (.aload_n 0, 1) := by decide +kernel
theorem dX2_call_154 : decode cX2_call 154 = .ok (.getfield 21, 3) := by decide +kernel
theorem dX2_call_157 : decode cX2_call 157 = .ok (.aload_n 0, 1) := by decide +kernel
theorem dX2_call_158 : decode cX2_call 158 = .ok (.getfield 65, 3) := by decide +kernel
theorem dX2_call_161 : decode cX2_call 161 = .ok (.aload 5, 2) := by decide +kernel
theorem dX2_call_163 : decode cX2_call 163 = .ok (.getfield 68, 3) := by decide +kernel
theorem dX2_call_166 : decode cX2_call 166 = .ok (.iastore, 1) := by decide +kernel
theorem dX2_call_167 : decode cX2_call 167 = .ok (.aload_n 0, 1) := by decide +kernel
theorem dX2_call_168 : decode cX2_call 168 = .ok (.getfield 24, 3) := by decide +kernel
theorem dX2_call_171 : decode cX2_call 171 = .ok (.aload_n 0, 1) := by decide +kernel
theorem dX2_call_172 : decode cX2_call 172 = .ok (.getfield 65, 3) := by decide +kernel
theorem dX2_call_175 : decode cX2_call 175 = .ok (.iload 4, 2) := by decide +kernel
theorem dX2_call_177 : decode cX2_call 177 = .ok (.iload_n 2, 1) := by decide +kernel
theorem dX2_call_178 : decode cX2_call 178 = .ok (.isub, 1) := by decide +kernel
theorem dX2_call_179 : decode cX2_call 179 = .ok (.iastore, 1) := by decide +kernel
theorem dX2_call_180 : decode cX2_call 180 = .ok (.aload_n 0, 1) := by decide +kernel
theorem dX2_call_181 : decode cX2_call 181 = .ok (.getfield 27, 3) := by decide +kernel
theorem dX2_call_184 : decode cX2_call 184 = .ok (.aload_n 0, 1) := by decide +kernel
theorem dX2_call_185 : decode cX2_call 185 = .ok (.getfield 65, 3) := by decide +kernel
theorem dX2_call_188 : decode cX2_call 188 = .ok (.aload_n 0, 1) := by decide +kernel
theorem dX2_call_189 : decode cX2_call 189 = .ok (.getfield 30, 3) := by decide +kernel
theorem dX2_call_192 : decode cX2_call 192 = .ok (.aload_n 0, 1) := by decide +kernel
theorem dX2_call_193 : decode cX2_call 193 = .ok (.getfield 62, 3) := by decide +kernel
theorem dX2_call_196 : decode cX2_call 196 = .ok (.iaload, 1) := by decide +kernel
theorem dX2_call_197 : decode cX2_call 197 = .ok (.iastore, 1) := by decide +kernel
theorem dX2_call_198 : decode cX2_call 198 = .ok (.iconst 1, 1) := by decide +kernel
theorem dX2_call_199 : decode cX2_call 199 = .ok (.ireturn, 1) := by decide +kernel
theorem dX3_init_0 : decode cX3_init 0 = .ok (.aload_n 0, 1) := by decide +kernel
theorem dX3_init_1 : decode cX3_init 1 = .ok (.invokespecial 3, 3) := by decide +kernel
theorem dX3_init_4 : decode cX3_init 4 = .ok (.aload_n 0, 1) := by decide +kernel
theorem dX3_init_5 : decode cX3_init 5 = .ok (.bipush 6, 2) := by decide +kernel
theorem dX3_init_7 : decode cX3_init 7 = .ok (.newarray .int, 2) := by decide +kernel
theorem dX3_init_9 : decode cX3_init 9 = .ok (.putfield 9, 3) := by decide +kernel
theorem dX3_init_12 : decode cX3_init 12 = .ok (.aload_n 0, 1) := by decide +kernel
theorem dX3_init_13 : decode cX3_init 13 = .ok (.bipush 6, 2) := by decide +kernel
theorem dX3_init_15 : decode cX3_init 15 = .ok (.newarray .int, 2) := by decide +kernel
theorem dX3_init_17 : decode cX3_init 17 = .ok (.putfield 15, 3) := by decide +kernel
theorem dX3_init_20 : decode cX3_init 20 = .ok (.aload_n 0, 1) := by decide +kernel
theorem dX3_init_21 : decode cX3_init 21 = .ok (.bipush 18, 2) := by decide +kernel
theorem dX3_init_23 : decode cX3_init 23 = .ok (.anewarray 18, 3) := by decide +kernel
theorem dX3_init_26 : decode cX3_init 26 = .ok (.putfield 20, 3) := by decide +kernel
theorem dX3_init_29 : decode cX3_init 29 = .ok (.aload_n 0, 1) := by decide +kernel
theorem dX3_init_30 : decode cX3_init 30 = .ok (.sipush 128, 3) := by decide +kernel
theorem dX3_init_33 : decode cX3_init 33 = .ok (.newarray .int, 2) := by decide +kernel
theorem dX3_init_35 : decode cX3_init 35 = .ok (.putfield 24, 3) := by decide +kernel
theorem dX3_init_38 : decode cX3_init 38 = .ok (.iconst 0, 1) := by decide +kernel
theorem dX3_init_39 : decode cX3_init 39 = .ok (.istore_n 1, 1) := by decide +kernel
theorem dX3_init_40 : decode cX3_init 40 = .ok (.iload_n 1, 1) := by decide +kernel
theorem dX3_init_41 : decode cX3_init 41 = .ok (.bipush 18, 2) := by decide +kernel
theorem dX3_init_43 : decode cX3_init 43 = .ok (.if_icmp .ge 22, 3) := by decide +kernel
theorem dX3_init_46 : decode cX3_init 46 = .ok (.aload_n 0, 1) := by decide +kernel
theorem dX3_init_47 : decode cX3_init 47 = .ok (.getfield 20, 3) := by decide +kernel
theorem dX3_init_50 : decode cX3_init 50 = .ok (.iload_n 1, 1) := by decide +kernel
theorem dX3_init_51 : decode cX3_init 51 = .ok (.new 18, 3) := by decide +kernel
theorem dX3_init_54 : decode cX3_init 54 = .ok (.dup, 1) := by decide +kernel
theorem dX3_init_55 : decode cX3_init 55 = .ok (.invokespecial 27, 3) := by decide +kernel
theorem dX3_init_58 : decode cX3_init 58 = .ok (.aastore, 1) := by decide +kernel
theorem dX3_init_59 : decode cX3_init 59 = .ok (.iinc 1 1, 3) := by decide +kernel
theorem dX3_init_62 : decode cX3_init 62 = .ok (.goto (-22), 3) := by decide +kernel
theorem dX3_init_65 : decode cX3_init 65 = .ok (.aload_n 0, 1) := by decide +kernel
theorem dX3_init_66 : decode cX3_init 66 = .ok (.getfield 24, 3) := by decide +kernel
theorem dX3_init_69 : decode cX3_init 69 = .ok (.bipush 83, 2) := by decide +kernel
theorem dX3_init_71 : decode cX3_init 71 = .ok (.iconst 1, 1) := by decide +kernel
theorem dX3_init_72 : decode cX3_init 72 = .ok (.iastore, 1) := by decide +kernel
theorem dX3_init_73 : decode cX3_init 73 = .ok (.return_, 1) := by decide +kernel
theorem dX3_define_0 : decode cX3_define 0 = .ok (.aload_n 0, 1) := by decide +kernel
theorem dX3_define_1 : decode cX3_define 1 = .ok (.getfield 28, 3) := by decide +kernel
theorem dX3_define_4 : decode cX3_define 4 = .ok (.ifCond .lt 23, 3) := by decide +kernel
theorem dX3_define_7 : decode cX3_define 7 = .ok (.aload_n 0, 1) := by decide +kernel
theorem dX3_define_8 : decode cX3_define 8 = .ok (.getfield 28, 3) := by decide +kernel
theorem dX3_define_11 : decode cX3_define 11 = .ok (.bipush 6, 2) := by decide +kernel
theorem dX3_define_13 : decode cX3_define 13 = .ok (.if_icmp .ge 14, 3) := by decide +kernel
theorem dX3_define_16 : decode cX3_define 16 = .ok (.iload_n 2, 1) := by decide +kernel
theorem dX3_define_17 : decode cX3_define 17 = .ok (.iconst 1, 1) := by decide +kernel
theorem dX3_define_18 : decode cX3_define 18 = .ok (.if_icmp .lt 9, 3) := by decide +kernel
theorem dX3_define_21 : decode cX3_define 21 = .ok (.iload_n 2, 1) := by decide +kernel
theorem dX3_define_22 : decode cX3_define 22 = .ok (.aload_n 3, 1) := by decide +kernel
theorem dX3_define_23 : decode cX3_define 23 = .ok (.arraylength, 1) := by decide +kernel
theorem dX3_define_24 : decode cX3_define 24 = .ok (.if_icmp .lt 4, 3) := by decide +kernel
theorem dX3_define_27 : decode cX3_define 27 = .ok (.return_, 1) := by decide +kernel
theorem dX3_define_28 : decode cX3_define 28 = .ok (.aload_n 0, 1) := by decide +kernel
theorem dX3_define_29 : decode cX3_define 29 = .ok (.getfield 9, 3) := by decide +kernel
theorem dX3_define_32 : decode cX3_define 32 = .ok (.aload_n 0, 1) := by decide +kernel
theorem dX3_define_33 : decode cX3_define 33 = .ok (.getfield 28, 3) := by decide +kernel
theorem dX3_define_36 : decode cX3_define 36 = .ok (.iload_n 1, 1) := by decide +kernel
theorem dX3_define_37 : decode cX3_define 37 = .ok (.iastore, 1) := by decide +kernel
theorem dX3_define_38 : decode cX3_define 38 = .ok (.aload_n 0, 1) := by decide +kernel
theorem dX3_define_39 : decode cX3_define 39 = .ok (.getfield 15, 3) := by decide +kernel
theorem dX3_define_42 : decode cX3_define 42 = .ok (.aload_n 0, 1) := by decide +kernel
theorem dX3_define_43 : decode cX3_define 43 = .ok (.getfield 28, 3) := by decide +kernel
theorem dX3_define_46 : decode cX3_define 46 = .ok (.iload_n 2, 1) := by decide +kernel
theorem dX3_define_47 : decode cX3_define 47 = .ok (.iastore, 1) := by decide +kernel
theorem dX3_define_48 : decode cX3_define 48 = .ok (.aload_n 0, 1) := by decide +kernel
theorem dX3_define_49 : decode cX3_define 49 = .ok (.getfield 24, 3) := by decide +kernel
theorem dX3_define_52 : decode cX3_define 52 = .ok (.bipush 97, 2) := by decide +kernel
theorem dX3_define_54 : decode cX3_define 54 = .ok (.aload_n 0, 1) := by decide +kernel
theorem dX3_define_55 : decode cX3_define 55 = .ok (.getfield 28, 3) := by decide +kernel
theorem dX3_define_58 : decode cX3_define 58 = .ok (.iadd, 1) := by decide +kernel
theorem dX3_define_59 : decode cX3_define 59 = .ok (.iload_n 1, 1) := by decide +kernel
theorem dX3_define_60 : decode cX3_define 60 = .ok (.iastore, 1) := by decide +kernel
theorem dX3_define_61 : decode cX3_define 61 = .ok (.iconst 0, 1) := by decide +kernel
theorem dX3_define_62 : decode cX3_define 62 = .ok (.istore 4, 2) := by decide +kernel
theorem dX3_define_64 : decode cX3_define 64 = .ok (.iload 4, 2) := by decide +kernel
theorem dX3_define_66 : decode cX3_define 66 = .ok (.iload_n 2, 1) := by decide +kernel
theorem dX3_define_67 : decode cX3_define 67 = .ok (.if_icmp .gt 44, 3) := by decide +kernel
theorem dX3_define_70 : decode cX3_define 70 = .ok (.iload 4, 2) := by decide +kernel
theorem dX3_define_72 : decode cX3_define 72 = .ok (.iload_n 2, 1) := by decide +kernel
theorem dX3_define_73 : decode cX3_define 73 = .ok (.if_icmp .ne 7, 3) := by decide +kernel
theorem dX3_define_76 : decode cX3_define 76 = .ok (.iconst 2, 1) := by decide +kernel
theorem dX3_define_77 : decode cX3_define 77 = .ok (.goto 5, 3) := by decide +kernel
theorem dX3_define_80 : decode cX3_define 80 = .ok (.iload 4, 2) := by decide +kernel
theorem dX3_define_82 : decode cX3_define 82 = .ok (.istore 5, 2) := by decide +kernel
theorem dX3_define_84 : decode cX3_define 84 = .ok (.aload_n 0, 1) := by decide +kernel
theorem dX3_define_85 : decode cX3_define 85 = .ok (.getfield 20, 3) := by decide +kernel
theorem dX3_define_88 : decode cX3_define 88 = .ok (.aload_n 0, 1) := by decide +kernel
theorem dX3_define_89 : decode cX3_define 89 = .ok (.getfield 28, 3) := by decide +kernel
theorem dX3_define_92 : decode cX3_define 92 = .ok (.iconst 3, 1) := by decide +kernel
theorem dX3_define_93 : decode cX3_define 93 = .ok (.imul, 1) := by decide +kernel
theorem dX3_define_94 : decode cX3_define 94 = .ok (.iload 5, 2) := by decide +kernel
theorem dX3_define_96 : decode cX3_define 96 = .ok (.iadd, 1) := by decide +kernel
theorem dX3_define_97 : decode cX3_define 97 = .ok (.aaload, 1) := by decide +kernel
theorem dX3_define_98 : decode cX3_define 98 = .ok (.aload_n 3, 1) := by decide +kernel
theorem dX3_define_99 : decode cX3_define 99 = .ok (.iload 4, 2) := by decide +kernel
theorem dX3_define_101 : decode cX3_define 101 = .ok (.aaload, 1) := by decide +kernel
theorem dX3_define_102 : decode cX3_define 102 = .ok (.invokevirtual 32, 3) := by decide +kernel
theorem dX3_define_105 : decode cX3_define 105 = .ok (.iinc 4 1, 3) := by decide +kernel
theorem dX3_define_108 : decode cX3_define 108 = .ok (.goto (-44), 3) := by decide +kernel
theorem dX3_define_111 : decode cX3_define 111 = .ok (.aload_n 0, 1) := by decide +kernel
theorem dX3_define_112 : decode cX3_define 112 = .ok (.dup, 1) := by decide +kernel
theorem dX3_define_113 : decode cX3_define 113 = .ok (.getfield 28, 3) := by decide +kernel
theorem dX3_define_116 : decode cX3_define 116 = .ok (.iconst 1, 1) := by decide +kernel
theorem dX3_define_117 : decode cX3_define 117 = .ok (.iadd, 1) := by decide +kernel
theorem dX3_define_118 : decode cX3_define 118 = .ok (.putfield 28, 3) := by decide +kernel
theorem dX3_define_121 : decode cX3_define 121 = .ok (.return_, 1) := by decide +kernel
theorem dX3_forgetAll_0 : decode cX3_forgetAll 0 = .ok (.iconst 0, 1) := by decide +kernel
theorem dX3_forgetAll_1 : decode cX3_forgetAll 1 = .ok (.istore_n 1, 1) := by decide +kernel
theorem dX3_forgetAll_2 : decode cX3_forgetAll 2 = .ok (.iload_n 1, 1) := by decide +kernel
theorem dX3_forgetAll_3 : decode cX3_forgetAll 3 = .ok (.bipush 6, 2) := by decide +kernel
theorem dX3_forgetAll_5 : decode cX3_forgetAll 5 = .ok (.if_icmp .ge 19, 3) := by decide +kernel
theorem dX3_forgetAll_8 : decode cX3_forgetAll 8 = .ok (.aload_n 0, 1) := by decide +kernel
theorem dX3_forgetAll_9 : decode cX3_forgetAll 9 = .ok (.getfield 24, 3) := by decide +kernel
theorem dX3_forgetAll_12 : decode cX3_forgetAll 12 = .ok (.bipush 97, 2) := by decide +kernel
theorem dX3_forgetAll_14 : decode cX3_forgetAll 14 = .ok (.iload_n 1, 1) := by decide +kernel
theorem dX3_forgetAll_15 : decode cX3_forgetAll 15 = .ok (.iadd, 1) := by decide +kernel
theorem dX3_forgetAll_16 : decode cX3_forgetAll 16 = .ok (.iconst 0, 1) := by decide +kernel
theorem dX3_forgetAll_17 : decode cX3_forgetAll 17 = .ok (.iastore, 1) := by decide +kernel
theorem dX3_forgetAll_18 : decode cX3_forgetAll 18 = .ok (.iinc 1 1, 3) := by decide +kernel
theorem dX3_forgetAll_21 : decode cX3_forgetAll 21 = .ok (.goto (-19), 3) := by decide +kernel
theorem dX3_forgetAll_24 : decode cX3_forgetAll 24 = .ok (.aload_n 0, 1) := by decide +kernel
theorem dX3_forgetAll_25 : decode cX3_forgetAll 25 = .ok (.iconst 0, 1) := by decide +kernel
theorem dX3_forgetAll_26 : decode cX3_forgetAll 26 = .ok (.putfield 28, 3) := by decide +kernel
theorem dX3_forgetAll_29 : decode cX3_forgetAll 29 = .ok (.return_, 1) := by decide +kernel
theorem dX3_bodyOf_0 : decode cX3_bodyOf 0 = .ok (.iload_n 1, 1) := by decide +kernel
theorem dX3_bodyOf_1 : decode cX3_bodyOf 1 = .ok (.ifCond .lt 20, 3) := by decide +kernel
theorem dX3_bodyOf_4 : decode cX3_bodyOf 4 = .ok (.iload_n 1, 1) := by decide +kernel
theorem dX3_bodyOf_5 : decode cX3_bodyOf 5 = .ok (.aload_n 0, 1) := by decide +kernel
theorem dX3_bodyOf_6 : decode cX3_bodyOf 6 = .ok (.getfield 28, 3) := by decide +kernel
theorem dX3_bodyOf_9 : decode cX3_bodyOf 9 = .ok (.if_icmp .ge 12, 3) := by decide +kernel
theorem dX3_bodyOf_12 : decode cX3_bodyOf 12 = .ok (.iload_n 2, 1) := by decide +kernel
theorem dX3_bodyOf_13 : decode cX3_bodyOf 13 = .ok (.ifCond .lt 8, 3) := by decide +kernel
theorem dX3_bodyOf_16 : decode cX3_bodyOf 16 = .ok (.iload_n 2, 1) := by decide +kernel
theorem dX3_bodyOf_17 : decode cX3_bodyOf 17 = .ok (.iconst 3, 1) := by decide +kernel
theorem dX3_bodyOf_18 : decode cX3_bodyOf 18 = .ok (.if_icmp .lt 5, 3) := by decide +kernel
theorem dX3_bodyOf_21 : decode cX3_bodyOf 21 = .ok (.aconst_null, 1) := by decide +kernel
theorem dX3_bodyOf_22 : decode cX3_bodyOf 22 = .ok (.areturn, 1) := by decide +kernel
theorem dX3_bodyOf_23 : decode cX3_bodyOf 23 = .ok (.iload_n 2, 1) := by decide +kernel
theorem dX3_bodyOf_24 : decode cX3_bodyOf 24 = .ok (.iconst 1, 1) := by decide +kernel
theorem dX3_bodyOf_25 : decode cX3_bodyOf 25 = .ok (.if_icmp .ne 17, 3) := by decide +kernel
theorem dX3_bodyOf_28 : decode cX3_bodyOf 28 = .ok (.aload_n 0, 1) := by decide +kernel
theorem dX3_bodyOf_29 : decode cX3_bodyOf 29 = .ok (.getfield 15, 3) := by decide +kernel
theorem dX3_bodyOf_32 : decode cX3_bodyOf 32 = .ok (.iload_n 1, 1) := by decide +kernel
theorem dX3_bodyOf_33 : decode cX3_bodyOf 33 = .ok (.iaload, 1) := by decide +kernel
theorem dX3_bodyOf_34 : decode cX3_bodyOf 34 = .ok (.iconst 1, 1) := by decide +kernel
theorem dX3_bodyOf_35 : decode cX3_bodyOf 35 = .ok (.if_icmp .ne 7, 3) := by decide +kernel
theorem dX3_bodyOf_38 : decode cX3_bodyOf 38 = .ok (.aconst_null, 1) := by decide +kernel
theorem dX3_bodyOf_39 : decode cX3_bodyOf 39 = .ok (.goto 13, 3) := by decide +kernel
theorem dX3_bodyOf_42 : decode cX3_bodyOf 42 = .ok (.aload_n 0, 1) := by decide +kernel
theorem dX3_bodyOf_43 : decode cX3_bodyOf 43 = .ok (.getfield 20, 3) := by decide +kernel
theorem dX3_bodyOf_46 : decode cX3_bodyOf 46 = .ok (.iload_n 1, 1) := by decide +kernel
theorem dX3_bodyOf_47 : decode cX3_bodyOf 47 = .ok (.iconst 3, 1) := by decide +kernel
theorem dX3_bodyOf_48 : decode cX3_bodyOf 48 = .ok (.imul, 1) := by decide +kernel
theorem dX3_bodyOf_49 : decode cX3_bodyOf 49 = .ok (.iload_n 2, 1) := by decide +kernel
theorem dX3_bodyOf_50 : decode cX3_bodyOf 50 = .ok (.iadd, 1) := by decide +kernel
theorem dX3_bodyOf_51 : decode cX3_bodyOf 51 = .ok (.aaload, 1) := by decide +kernel
theorem dX3_bodyOf_52 : decode cX3_bodyOf 52 = .ok (.areturn, 1) := by decide +kernel
theorem dX3_depthOf_0 : decode cX3_depthOf 0 = .ok (.iload_n 1, 1) := by decide +kernel
theorem dX3_depthOf_1 : decode cX3_depthOf 1 = .ok (.bipush 97, 2) := by decide +kernel
theorem dX3_depthOf_3 : decode cX3_depthOf 3 = .ok (.isub, 1) := by decide +kernel
theorem dX3_depthOf_4 : decode cX3_depthOf 4 = .ok (.istore_n 2, 1) := by decide +kernel
theorem dX3_depthOf_5 : decode cX3_depthOf 5 = .ok (.iload_n 2, 1) := by decide +kernel
theorem dX3_depthOf_6 : decode cX3_depthOf 6 = .ok (.ifCond .lt 20, 3) := by decide +kernel
theorem dX3_depthOf_9 : decode cX3_depthOf 9 = .ok (.iload_n 2, 1) := by decide +kernel
theorem dX3_depthOf_10 : decode cX3_depthOf 10 = .ok (.aload_n 0, 1) := by decide +kernel
theorem dX3_depthOf_11 : decode cX3_depthOf 11 = .ok (.getfield 28, 3) := by decide +kernel
theorem dX3_depthOf_14 : decode cX3_depthOf 14 = .ok (.if_icmp .ge 12, 3) := by decide +kernel
theorem dX3_depthOf_17 : decode cX3_depthOf 17 = .ok (.aload_n 0, 1) := by decide +kernel
theorem dX3_depthOf_18 : decode cX3_depthOf 18 = .ok (.getfield 15, 3) := by decide +kernel
theorem dX3_depthOf_21 : decode cX3_depthOf 21 = .ok (.iload_n 2, 1) := by decide +kernel
theorem dX3_depthOf_22 : decode cX3_depthOf 22 = .ok (.iaload, 1) := by decide +kernel
theorem dX3_depthOf_23 : decode cX3_depthOf 23 = .ok (.goto 4, 3) := by decide +kernel
theorem dX3_depthOf_26 : decode cX3_depthOf 26 = .ok (.iconst 0, 1) := by decide +kernel
theorem dX3_depthOf_27 : decode cX3_depthOf 27 = .ok (.ireturn, 1) := by decide +kernel
theorem dX4_init_0 : decode cX4_init 0 = .ok (.aload_n 0, 1) := by decide +kernel
theorem dX4_init_1 : decode cX4_init 1 = .ok (.invokespecial 3, 3) := by decide +kernel
theorem dX4_init_4 : decode cX4_init 4 = .ok (.aload_n 0, 1) := by decide +kernel
theorem dX4_init_5 : decode cX4_init 5 = .ok (.bipush 8, 2) := by decide +kernel
theorem dX4_init_7 : decode cX4_init 7 = .ok (.anewarray 9, 3) := by decide +kernel
theorem dX4_init_10 : decode cX4_init 10 = .ok (.putfield 11, 3) := by decide +kernel
theorem dX4_init_13 : decode cX4_init 13 = .ok (.aload_n 0, 1) := by decide +kernel
theorem dX4_init_14 : decode cX4_init 14 = .ok (.new 17, 3) := by decide +kernel
theorem dX4_init_17 : decode cX4_init 17 = .ok (.dup, 1) := by decide +kernel
theorem dX4_init_18 : decode cX4_init 18 = .ok (.invokespecial 19, 3) := by decide +kernel
theorem dX4_init_21 : decode cX4_init 21 = .ok (.putfield 20, 3) := by decide +kernel
theorem dX4_init_24 : decode cX4_init 24 = .ok (.aload_n 0, 1) := by decide +kernel
theorem dX4_init_25 : decode cX4_init 25 = .ok (.aload_n 1, 1) := by decide +kernel
theorem dX4_init_26 : decode cX4_init 26 = .ok (.putfield 24, 3) := by decide +kernel
theorem dX4_init_29 : decode cX4_init 29 = .ok (.aload_n 0, 1) := by decide +kernel
theorem dX4_init_30 : decode cX4_init 30 = .ok (.aload_n 2, 1) := by decide +kernel
theorem dX4_init_31 : decode cX4_init 31 = .ok (.putfield 28, 3) := by decide +kernel
theorem dX4_init_34 : decode cX4_init 34 = .ok (.iconst 0, 1) := by decide +kernel
theorem dX4_init_35 : decode cX4_init 35 = .ok (.istore_n 3, 1) := by decide +kernel
theorem dX4_init_36 : decode cX4_init 36 = .ok (.iload_n 3, 1) := by decide +kernel
theorem dX4_init_37 : decode cX4_init 37 = .ok (.bipush 8, 2) := by decide +kernel
theorem dX4_init_39 : decode cX4_init 39 = .ok (.if_icmp .ge 22, 3) := by decide +kernel
theorem dX4_init_42 : decode cX4_init 42 = .ok (.aload_n 0, 1) := by decide +kernel
theorem dX4_init_43 : decode cX4_init 43 = .ok (.getfield 11, 3) := by decide +kernel
theorem dX4_init_46 : decode cX4_init 46 = .ok (.iload_n 3, 1) := by decide +kernel
theorem dX4_init_47 : decode cX4_init 47 = .ok (.new 9, 3) := by decide +kernel
theorem dX4_init_50 : decode cX4_init 50 = .ok (.dup, 1) := by decide +kernel
theorem dX4_init_51 : decode cX4_init 51 = .ok (.invokespecial 32, 3) := by decide +kernel
theorem dX4_init_54 : decode cX4_init 54 = .ok (.aastore, 1) := by decide +kernel
theorem dX4_init_55 : decode cX4_init 55 = .ok (.iinc 3 1, 3) := by decide +kernel
theorem dX4_init_58 : decode cX4_init 58 = .ok (.goto (-22), 3) := by decide +kernel
theorem dX4_init_61 : decode cX4_init 61 = .ok (.return_, 1) := by decide +kernel
theorem dX4_keep_0 : decode cX4_keep 0 = .ok (.aload_n 1, 1) := by decide +kernel
theorem dX4_keep_1 : decode cX4_keep 1 = .ok (.invokevirtual 33, 3) := by decide +kernel
theorem dX4_keep_4 : decode cX4_keep 4 = .ok (.ifCond .ne 19, 3) := by decide +kernel
theorem dX4_keep_7 : decode cX4_keep 7 = .ok (.aload_n 0, 1) := by decide +kernel
theorem dX4_keep_8 : decode cX4_keep 8 = .ok (.getfield 37, 3) := by decide +kernel
theorem dX4_keep_11 : decode cX4_keep 11 = .ok (.ifCond .lt 12, 3) := by decide +kernel
theorem dX4_keep_14 : decode cX4_keep 14 = .ok (.aload_n 0, 1) := by decide +kernel
theorem dX4_keep_15 : decode cX4_keep 15 = .ok (.getfield 37, 3) := by decide +kernel
theorem dX4_keep_18 : decode cX4_keep 18 = .ok (.bipush 8, 2) := by decide +kernel
theorem dX4_keep_20 : decode cX4_keep 20 = .ok (.if_icmp .lt 4, 3) := by decide +kernel
theorem dX4_keep_23 : decode cX4_keep 23 = .ok (.return_, 1) := by decide +kernel
theorem dX4_keep_24 : decode cX4_keep 24 = .ok (.iconst 0, 1) := by decide +kernel
theorem dX4_keep_25 : decode cX4_keep 25 = .ok (.istore_n 2, 1) := by decide +kernel
theorem dX4_keep_26 : decode cX4_keep 26 = .ok (.iload_n 2, 1) := by decide +kernel
theorem dX4_keep_27 : decode cX4_keep 27 = .ok (.aload_n 0, 1) := by decide +kernel
theorem dX4_keep_28 : decode cX4_keep 28 = .ok (.getfield 37, 3) := by decide +kernel
theorem dX4_keep_31 : decode cX4_keep 31 = .ok (.if_icmp .ge 23, 3) := by decide +kernel
theorem dX4_keep_34 : decode cX4_keep 34 = .ok (.aload_n 0, 1) := by decide +kernel
theorem dX4_keep_35 : decode cX4_keep 35 = .ok (.getfield 11, 3) := by decide +kernel
theorem dX4_keep_38 : decode cX4_keep 38 = .ok (.iload_n 2, 1) := by decide +kernel
theorem dX4_keep_39 : decode cX4_keep 39 = .ok (.aaload, 1) := by decide +kernel
theorem dX4_keep_40 : decode cX4_keep 40 = .ok (.aload_n 1, 1) := by decide +kernel
theorem dX4_keep_41 : decode cX4_keep 41 = .ok (.invokevirtual 41, 3) := by decide +kernel
theorem dX4_keep_44 : decode cX4_keep 44 = .ok (.ifCond .eq 4, 3) := by decide +kernel
theorem dX4_keep_47 : decode cX4_keep 47 = .ok (.return_, 1) := by decide +kernel
theorem dX4_keep_48 : decode cX4_keep 48 = .ok (.iinc 2 1, 3) := by decide +kernel
theorem dX4_keep_51 : decode cX4_keep 51 = .ok (.goto (-25), 3) := by decide +kernel
theorem dX4_keep_54 : decode cX4_keep 54 = .ok (.aload_n 0, 1) := by decide +kernel
theorem dX4_keep_55 : decode cX4_keep 55 = .ok (.getfield 11, 3) := by decide +kernel
theorem dX4_keep_58 : decode cX4_keep 58 = .ok (.aload_n 0, 1) := by decide +kernel
theorem dX4_keep_59 : decode cX4_keep 59 = .ok (.getfield 37, 3) := by decide +kernel
theorem dX4_keep_62 : decode cX4_keep 62 = .ok (.aaload, 1) := by decide +kernel
theorem dX4_keep_63 : decode cX4_keep 63 = .ok (.aload_n 1, 1) := by decide +kernel
theorem dX4_keep_64 : decode cX4_keep 64 = .ok (.invokevirtual 45, 3) := by decide +kernel
theorem dX4_keep_67 : decode cX4_keep 67 = .ok (.aload_n 0, 1) := by decide +kernel
theorem dX4_keep_68 : decode cX4_keep 68 = .ok (.dup, 1) := by decide +kernel
theorem dX4_keep_69 : decode cX4_keep 69 = .ok (.getfield 37, 3) := by decide +kernel
theorem dX4_keep_72 : decode cX4_keep 72 = .ok (.iconst 1, 1) := by decide +kernel
theorem dX4_keep_73 : decode cX4_keep 73 = .ok (.iadd, 1) := by decide +kernel
theorem dX4_keep_74 : decode cX4_keep 74 = .ok (.putfield 37, 3) := by decide +kernel
theorem dX4_keep_77 : decode cX4_keep 77 = .ok (.return_, 1) := by decide +kernel
theorem dX4_ripple_0 : decode cX4_ripple 0 = .ok (.aload_n 0, 1) := by decide +kernel
theorem dX4_ripple_1 : decode cX4_ripple 1 = .ok (.getfield 24, 3) := by decide +kernel
theorem dX4_ripple_4 : decode cX4_ripple 4 = .ok (.aload_n 1, 1) := by decide +kernel
theorem dX4_ripple_5 : decode cX4_ripple 5 = .ok (.aload_n 2, 1) := by decide +kernel
theorem dX4_ripple_6 : decode cX4_ripple 6 = .ok (.invokevirtual 49, 3) := by decide +kernel
theorem dX4_ripple_9 : decode cX4_ripple 9 = .ok (.istore_n 3, 1) := by decide +kernel
theorem dX4_ripple_10 : decode cX4_ripple 10 = .ok (.iconst 0, 1) := by decide +kernel
theorem dX4_ripple_11 : decode cX4_ripple 11 = .ok (.istore 4, 2) := by decide +kernel
theorem dX4_ripple_13 : decode cX4_ripple 13 = .ok (.iload 4, 2) := by decide +kernel
theorem dX4_ripple_15 : decode cX4_ripple 15 = .ok (.aload_n 1, 1) := by decide +kernel
theorem dX4_ripple_16 : decode cX4_ripple 16 = .ok (.getfield 55, 3) := by decide +kernel
theorem dX4_ripple_19 : decode cX4_ripple 19 = .ok (.if_icmp .ge 119, 3) := by decide +kernel
theorem dX4_ripple_22 : decode cX4_ripple 22 = .ok (.iload_n 3, 1) := by decide +kernel
theorem dX4_ripple_23 : decode cX4_ripple 23 = .ok (.ifCond .le 115, 3) := by decide +kernel
theorem dX4_ripple_26 : decode cX4_ripple 26 = .ok (.iconst 0, 1) := by decide +kernel
theorem dX4_ripple_27 : decode cX4_ripple 27 = .ok (.istore 5, 2) := by decide +kernel
theorem dX4_ripple_29 : decode cX4_ripple 29 = .ok (.iload 5, 2) := by decide +kernel
theorem dX4_ripple_31 : decode cX4_ripple 31 = .ok (.aload_n 0, 1) := by decide +kernel
theorem dX4_ripple_32 : decode cX4_ripple 32 = .ok (.getfield 37, 3) := by decide +kernel
theorem dX4_ripple_35 : decode cX4_ripple 35 = .ok (.if_icmp .ge 97, 3) := by decide +kernel
theorem dX4_ripple_38 : decode cX4_ripple 38 = .ok (.iload 5, 2) := by decide +kernel
theorem dX4_ripple_40 : decode cX4_ripple 40 = .ok (.bipush 8, 2) := by decide +kernel
theorem dX4_ripple_42 : decode cX4_ripple 42 = .ok (.if_icmp .ge 90, 3) := by decide +kernel
theorem dX4_ripple_45 : decode cX4_ripple 45 = .ok (.iconst 0, 1) := by decide +kernel
theorem dX4_ripple_46 : decode cX4_ripple 46 = .ok (.istore 6, 2) := by decide +kernel
theorem dX4_ripple_48 : decode cX4_ripple 48 = .ok (.iload 6, 2) := by decide +kernel
theorem dX4_ripple_50 : decode cX4_ripple 50 = .ok (.iconst 1, 1) := by decide +kernel
theorem dX4_ripple_51 : decode cX4_ripple 51 = .ok (.if_icmp .gt 75, 3) := by decide +kernel
theorem dX4_ripple_54 : decode cX4_ripple 54 = .ok (.aload_n 0, 1) := by decide +kernel
theorem dX4_ripple_55 : decode cX4_ripple 55 = .ok (.aload_n 1, 1) := by decide +kernel
theorem dX4_ripple_56 : decode cX4_ripple 56 = .ok (.iload 4, 2) := by decide +kernel
theorem dX4_ripple_58 : decode cX4_ripple 58 = .ok (.aload_n 0, 1) := by decide +kernel
theorem dX4_ripple_59 : decode cX4_ripple 59 = .ok (.getfield 11, 3) := by decide +kernel
theorem dX4_ripple_62 : decode cX4_ripple 62 = .ok (.iload 5, 2) := by decide +kernel
theorem dX4_ripple_64 : decode cX4_ripple 64 = .ok (.aaload, 1) := by decide +kernel
theorem dX4_ripple_65 : decode cX4_ripple 65 = .ok (.iload 6, 2) := by decide +kernel
theorem dX4_ripple_67 : decode cX4_ripple 67 = .ok (.invokevirtual 58, 3) := by decide +kernel
theorem dX4_ripple_70 : decode cX4_ripple 70 = .ok (.ifCond .ne 6, 3) := by decide +kernel
theorem dX4_ripple_73 : decode cX4_ripple 73 = .ok (.goto 47, 3) := by decide +kernel
theorem dX4_ripple_76 : decode cX4_ripple 76 = .ok (.aload_n 0, 1) := by decide +kernel
theorem dX4_ripple_77 : decode cX4_ripple 77 = .ok (.getfield 24, 3) := by decide +kernel
theorem dX4_ripple_80 : decode cX4_ripple 80 = .ok (.aload_n 0, 1) := by decide +kernel
theorem dX4_ripple_81 : decode cX4_ripple 81 = .ok (.getfield 20, 3) := by decide +kernel
theorem dX4_ripple_84 : decode cX4_ripple 84 = .ok (.aload_n 2, 1) := by decide +kernel
theorem dX4_ripple_85 : decode cX4_ripple 85 = .ok (.invokevirtual 49, 3) := by decide +kernel
theorem dX4_ripple_88 : decode cX4_ripple 88 = .ok (.istore 7, 2) := by decide +kernel
theorem dX4_ripple_90 : decode cX4_ripple 90 = .ok (.iload 7, 2) := by decide +kernel
theorem dX4_ripple_92 : decode cX4_ripple 92 = .ok (.bipush (-9), 2) := by decide +kernel
theorem dX4_ripple_94 : decode cX4_ripple 94 = .ok (.if_icmp .eq 26, 3) := by decide +kernel
theorem dX4_ripple_97 : decode cX4_ripple 97 = .ok (.iload 7, 2) := by decide +kernel
theorem dX4_ripple_99 : decode cX4_ripple 99 = .ok (.iload_n 3, 1) := by decide +kernel
theorem dX4_ripple_100 : decode cX4_ripple 100 = .ok (.if_icmp .ge 20, 3) := by decide +kernel
theorem dX4_ripple_103 : decode cX4_ripple 103 = .ok (.aload_n 1, 1) := by decide +kernel
theorem dX4_ripple_104 : decode cX4_ripple 104 = .ok (.aload_n 0, 1) := by decide +kernel
theorem dX4_ripple_105 : decode cX4_ripple 105 = .ok (.getfield 20, 3) := by decide +kernel
theorem dX4_ripple_108 : decode cX4_ripple 108 = .ok (.invokevirtual 62, 3) := by decide +kernel
theorem dX4_ripple_111 : decode cX4_ripple 111 = .ok (.bipush 100, 2) := by decide +kernel
theorem dX4_ripple_113 : decode cX4_ripple 113 = .ok (.iload 5, 2) := by decide +kernel
theorem dX4_ripple_115 : decode cX4_ripple 115 = .ok (.imul, 1) := by decide +kernel
theorem dX4_ripple_116 : decode cX4_ripple 116 = .ok (.iload 6, 2) := by decide +kernel
theorem dX4_ripple_118 : decode cX4_ripple 118 = .ok (.iadd, 1) := by decide +kernel
theorem dX4_ripple_119 : decode cX4_ripple 119 = .ok (.ireturn, 1) := by decide +kernel
theorem dX4_ripple_120 : decode cX4_ripple 120 = .ok (.iinc 6 1, 3) := by decide +kernel
theorem dX4_ripple_123 : decode cX4_ripple 123 = .ok (.goto (-75), 3) := by decide +kernel
theorem dX4_ripple_126 : decode cX4_ripple 126 = .ok (.iinc 5 1, 3) := by decide +kernel
theorem dX4_ripple_129 : decode cX4_ripple 129 = .ok (.goto (-100), 3) := by decide +kernel
theorem dX4_ripple_132 : decode cX4_ripple 132 = .ok (.iinc 4 1, 3) := by decide +kernel
theorem dX4_ripple_135 : decode cX4_ripple 135 = .ok (.goto (-122), 3) := by decide +kernel
theorem dX4_ripple_138 : decode cX4_ripple 138 = .ok (.bipush (-9), 2) := by decide +kernel
theorem dX4_ripple_140 : decode cX4_ripple 140 = .ok (.ireturn, 1) := by decide +kernel
theorem dX4_rewrites_0 : decode cX4_rewrites 0 = .ok (.aload_n 3, 1) := by decide +kernel
theorem dX4_rewrites_1 : decode cX4_rewrites 1 = .ok (.iload 4, 2) := by decide +kernel
theorem dX4_rewrites_3 : decode cX4_rewrites 3 = .ok (.invokevirtual 65, 3) := by decide +kernel
theorem dX4_rewrites_6 : decode cX4_rewrites 6 = .ok (.astore 5, 2) := by decide +kernel
theorem dX4_rewrites_8 : decode cX4_rewrites 8 = .ok (.aload_n 3, 1) := by decide +kernel
theorem dX4_rewrites_9 : decode cX4_rewrites 9 = .ok (.iconst 1, 1) := by decide +kernel
theorem dX4_rewrites_10 : decode cX4_rewrites 10 = .ok (.iload 4, 2) := by decide +kernel
theorem dX4_rewrites_12 : decode cX4_rewrites 12 = .ok (.isub, 1) := by decide +kernel
theorem dX4_rewrites_13 : decode cX4_rewrites 13 = .ok (.invokevirtual 65, 3) := by decide +kernel
theorem dX4_rewrites_16 : decode cX4_rewrites 16 = .ok (.astore 6, 2) := by decide +kernel
theorem dX4_rewrites_18 : decode cX4_rewrites 18 = .ok (.aload_n 0, 1) := by decide +kernel
theorem dX4_rewrites_19 : decode cX4_rewrites 19 = .ok (.getfield 28, 3) := by decide +kernel
theorem dX4_rewrites_22 : decode cX4_rewrites 22 = .ok (.aload 5, 2) := by decide +kernel
theorem dX4_rewrites_24 : decode cX4_rewrites 24 = .ok (.aload_n 1, 1) := by decide +kernel
theorem dX4_rewrites_25 : decode cX4_rewrites 25 = .ok (.iload_n 2, 1) := by decide +kernel
theorem dX4_rewrites_26 : decode cX4_rewrites 26 = .ok (.bipush (-9), 2) := by decide +kernel
theorem dX4_rewrites_28 : decode cX4_rewrites 28 = .ok (.invokevirtual 69, 3) := by decide +kernel
theorem dX4_rewrites_31 : decode cX4_rewrites 31 = .ok (.ifCond .eq 35, 3) := by decide +kernel
theorem dX4_rewrites_34 : decode cX4_rewrites 34 = .ok (.aload 5, 2) := by decide +kernel
theorem dX4_rewrites_36 : decode cX4_rewrites 36 = .ok (.aload 6, 2) := by decide +kernel
theorem dX4_rewrites_38 : decode cX4_rewrites 38 = .ok (.invokestatic 75, 3) := by decide +kernel
theorem dX4_rewrites_41 : decode cX4_rewrites 41 = .ok (.ifCond .eq 25, 3) := by decide +kernel
theorem dX4_rewrites_44 : decode cX4_rewrites 44 = .ok (.aload_n 0, 1) := by decide +kernel
theorem dX4_rewrites_45 : decode cX4_rewrites 45 = .ok (.getfield 28, 3) := by decide +kernel
theorem dX4_rewrites_48 : decode cX4_rewrites 48 = .ok (.aload 6, 2) := by decide +kernel
theorem dX4_rewrites_50 : decode cX4_rewrites 50 = .ok (.aload_n 1, 1) := by decide +kernel
theorem dX4_rewrites_51 : decode cX4_rewrites 51 = .ok (.iload_n 2, 1) := by decide +kernel
theorem dX4_rewrites_52 : decode cX4_rewrites 52 = .ok (.aload_n 0, 1) := by decide +kernel
theorem dX4_rewrites_53 : decode cX4_rewrites 53 = .ok (.getfield 20, 3) := by decide +kernel
theorem dX4_rewrites_56 : decode cX4_rewrites 56 = .ok (.invokevirtual 79, 3) := by decide +kernel
theorem dX4_rewrites_59 : decode cX4_rewrites 59 = .ok (.ifCond .eq 7, 3) := by decide +kernel
theorem dX4_rewrites_62 : decode cX4_rewrites 62 = .ok (.iconst 1, 1) := by decide +kernel
theorem dX4_rewrites_63 : decode cX4_rewrites 63 = .ok (.goto 4, 3) := by decide +kernel
theorem dX4_rewrites_66 : decode cX4_rewrites 66 = .ok (.iconst 0, 1) := by decide +kernel
theorem dX4_rewrites_67 : decode cX4_rewrites 67 = .ok (.ireturn, 1) := by decide +kernel
theorem dX4_isUsable_0 : decode cX4_isUsable 0 = .ok (.aload_n 0, 1) := by decide +kernel
theorem dX4_isUsable_1 : decode cX4_isUsable 1 = .ok (.getfield 55, 3) := by decide +kernel
theorem dX4_isUsable_4 : decode cX4_isUsable 4 = .ok (.iconst 1, 1) := by decide +kernel
theorem dX4_isUsable_5 : decode cX4_isUsable 5 = .ok (.if_icmp .ne 16, 3) := by decide +kernel
theorem dX4_isUsable_8 : decode cX4_isUsable 8 = .ok (.aload_n 0, 1) := by decide +kernel
theorem dX4_isUsable_9 : decode cX4_isUsable 9 = .ok (.getfield 83, 3) := by decide +kernel
theorem dX4_isUsable_12 : decode cX4_isUsable 12 = .ok (.iconst 0, 1) := by decide +kernel
theorem dX4_isUsable_13 : decode cX4_isUsable 13 = .ok (.iaload, 1) := by decide +kernel
theorem dX4_isUsable_14 : decode cX4_isUsable 14 = .ok (.bipush 120, 2) := by decide +kernel
theorem dX4_isUsable_16 : decode cX4_isUsable 16 = .ok (.if_icmp .lt 5, 3) := by decide +kernel
theorem dX4_isUsable_19 : decode cX4_isUsable 19 = .ok (.iconst 0, 1) := by decide +kernel
theorem dX4_isUsable_20 : decode cX4_isUsable 20 = .ok (.ireturn, 1) := by decide +kernel
theorem dX4_isUsable_21 : decode cX4_isUsable 21 = .ok (.iconst 0, 1) := by decide +kernel
theorem dX4_isUsable_22 : decode cX4_isUsable 22 = .ok (.istore_n 2, 1) := by decide +kernel
theorem dX4_isUsable_23 : decode cX4_isUsable 23 = .ok (.iload_n 2, 1) := by decide +kernel
theorem dX4_isUsable_24 : decode cX4_isUsable 24 = .ok (.iconst 3, 1) := by decide +kernel
theorem dX4_isUsable_25 : decode cX4_isUsable 25 = .ok (.if_icmp .ge 33, 3) := by decide +kernel
theorem dX4_isUsable_28 : decode cX4_isUsable 28 = .ok (.aload_n 1, 1) := by decide +kernel
theorem dX4_isUsable_29 : decode cX4_isUsable 29 = .ok (.bipush 120, 2) := by decide +kernel
theorem dX4_isUsable_31 : decode cX4_isUsable 31 = .ok (.iload_n 2, 1) := by decide +kernel
theorem dX4_isUsable_32 : decode cX4_isUsable 32 = .ok (.iadd, 1) := by decide +kernel
theorem dX4_isUsable_33 : decode cX4_isUsable 33 = .ok (.invokevirtual 87, 3) := by decide +kernel
theorem dX4_isUsable_36 : decode cX4_isUsable 36 = .ok (.ifCond .eq 16, 3) := by decide +kernel
theorem dX4_isUsable_39 : decode cX4_isUsable 39 = .ok (.aload_n 0, 1) := by decide +kernel
theorem dX4_isUsable_40 : decode cX4_isUsable 40 = .ok (.bipush 120, 2) := by decide +kernel
theorem dX4_isUsable_42 : decode cX4_isUsable 42 = .ok (.iload_n 2, 1) := by decide +kernel
theorem dX4_isUsable_43 : decode cX4_isUsable 43 = .ok (.iadd, 1) := by decide +kernel
theorem dX4_isUsable_44 : decode cX4_isUsable 44 = .ok (.invokevirtual 87, 3) := by decide +kernel
theorem dX4_isUsable_47 : decode cX4_isUsable 47 = .ok (.ifCond .ne 5, 3) := by decide +kernel
theorem dX4_isUsable_50 : decode cX4_isUsable 50 = .ok (.iconst 0, 1) := by decide +kernel
theorem dX4_isUsable_51 : decode cX4_isUsable 51 = .ok (.ireturn, 1) := by decide +kernel
theorem dX4_isUsable_52 : decode cX4_isUsable 52 = .ok (.iinc 2 1, 3) := by decide +kernel
theorem dX4_isUsable_55 : decode cX4_isUsable 55 = .ok (.goto (-32), 3) := by decide +kernel
theorem dX4_isUsable_58 : decode cX4_isUsable 58 = .ok (.iconst 1, 1) := by decide +kernel
theorem dX4_isUsable_59 : decode cX4_isUsable 59 = .ok (.ireturn, 1) := by decide +kernel
theorem dX5_init_0 : decode cX5_init 0 = .ok (.aload_n 0, 1) := by decide +kernel
theorem dX5_init_1 : decode cX5_init 1 = .ok (.invokespecial 3, 3) := by decide +kernel
theorem dX5_init_4 : decode cX5_init 4 = .ok (.aload_n 0, 1) := by decide +kernel
theorem dX5_init_5 : decode cX5_init 5 = .ok (.iconst 3, 1) := by decide +kernel
theorem dX5_init_6 : decode cX5_init 6 = .ok (.newarray .int, 2) := by decide +kernel
theorem dX5_init_8 : decode cX5_init 8 = .ok (.putfield 9, 3) := by decide +kernel
theorem dX5_init_11 : decode cX5_init 11 = .ok (.aload_n 0, 1) := by decide +kernel
theorem dX5_init_12 : decode cX5_init 12 = .ok (.aload_n 1, 1) := by decide +kernel
theorem dX5_init_13 : decode cX5_init 13 = .ok (.putfield 15, 3) := by decide +kernel
theorem dX5_init_16 : decode cX5_init 16 = .ok (.return_, 1) := by decide +kernel
theorem dX5_matches_0 : decode cX5_matches 0 = .ok (.aload_n 0, 1) := by decide +kernel
theorem dX5_matches_1 : decode cX5_matches 1 = .ok (.getfield 9, 3) := by decide +kernel
theorem dX5_matches_4 : decode cX5_matches 4 = .ok (.iconst 0, 1) := by decide +kernel
theorem dX5_matches_5 : decode cX5_matches 5 = .ok (.bipush (-9), 2) := by decide +kernel
theorem dX5_matches_7 : decode cX5_matches 7 = .ok (.iastore, 1) := by decide +kernel
theorem dX5_matches_8 : decode cX5_matches 8 = .ok (.aload_n 0, 1) := by decide +kernel
theorem dX5_matches_9 : decode cX5_matches 9 = .ok (.getfield 9, 3) := by decide +kernel
theorem dX5_matches_12 : decode cX5_matches 12 = .ok (.iconst 1, 1) := by decide +kernel
theorem dX5_matches_13 : decode cX5_matches 13 = .ok (.bipush (-9), 2) := by decide +kernel
theorem dX5_matches_15 : decode cX5_matches 15 = .ok (.iastore, 1) := by decide +kernel
theorem dX5_matches_16 : decode cX5_matches 16 = .ok (.aload_n 0, 1) := by decide +kernel
theorem dX5_matches_17 : decode cX5_matches 17 = .ok (.getfield 9, 3) := by decide +kernel
theorem dX5_matches_20 : decode cX5_matches 20 = .ok (.iconst 2, 1) := by decide +kernel
theorem dX5_matches_21 : decode cX5_matches 21 = .ok (.bipush (-9), 2) := by decide +kernel
theorem dX5_matches_23 : decode cX5_matches 23 = .ok (.iastore, 1) := by decide +kernel
theorem dX5_matches_24 : decode cX5_matches 24 = .ok (.iload_n 3, 1) := by decide +kernel
theorem dX5_matches_25 : decode cX5_matches 25 = .ok (.istore 5, 2) := by decide +kernel
theorem dX5_matches_27 : decode cX5_matches 27 = .ok (.iconst 0, 1) := by decide +kernel
theorem dX5_matches_28 : decode cX5_matches 28 = .ok (.istore 6, 2) := by decide +kernel
theorem dX5_matches_30 : decode cX5_matches 30 = .ok (.iload 6, 2) := by decide +kernel
theorem dX5_matches_32 : decode cX5_matches 32 = .ok (.aload_n 1, 1) := by decide +kernel
theorem dX5_matches_33 : decode cX5_matches 33 = .ok (.getfield 19, 3) := by decide +kernel
theorem dX5_matches_36 : decode cX5_matches 36 = .ok (.if_icmp .ge 131, 3) := by decide +kernel
theorem dX5_matches_39 : decode cX5_matches 39 = .ok (.iload 5, 2) := by decide +kernel
theorem dX5_matches_41 : decode cX5_matches 41 = .ok (.ifCond .lt 12, 3) := by decide +kernel
theorem dX5_matches_44 : decode cX5_matches 44 = .ok (.iload 5, 2) := by decide +kernel
theorem dX5_matches_46 : decode cX5_matches 46 = .ok (.aload_n 2, 1) := by decide +kernel
theorem dX5_matches_47 : decode cX5_matches 47 = .ok (.getfield 19, 3) := by decide +kernel
theorem dX5_matches_50 : decode cX5_matches 50 = .ok (.if_icmp .lt 5, 3) := by decide +kernel
theorem dX5_matches_53 : decode cX5_matches 53 = .ok (.iconst 0, 1) := by decide +kernel
theorem dX5_matches_54 : decode cX5_matches 54 = .ok (.ireturn, 1) := by decide +kernel
theorem dX5_matches_55 : decode cX5_matches 55 = .ok (.aload_n 1, 1) := by decide +kernel
theorem dX5_matches_56 : decode cX5_matches 56 = .ok (.getfield 25, 3) := by decide +kernel
theorem dX5_matches_59 : decode cX5_matches 59 = .ok (.iload 6, 2) := by decide +kernel
theorem dX5_matches_61 : decode cX5_matches 61 = .ok (.iaload, 1) := by decide +kernel
theorem dX5_matches_62 : decode cX5_matches 62 = .ok (.istore 7, 2) := by decide +kernel
theorem dX5_matches_64 : decode cX5_matches 64 = .ok (.iload 7, 2) := by decide +kernel
theorem dX5_matches_66 : decode cX5_matches 66 = .ok (.bipush 120, 2) := by decide +kernel
theorem dX5_matches_68 : decode cX5_matches 68 = .ok (.isub, 1) := by decide +kernel
theorem dX5_matches_69 : decode cX5_matches 69 = .ok (.istore 8, 2) := by decide +kernel
theorem dX5_matches_71 : decode cX5_matches 71 = .ok (.iload 8, 2) := by decide +kernel
theorem dX5_matches_73 : decode cX5_matches 73 = .ok (.ifCond .lt 16, 3) := by decide +kernel
theorem dX5_matches_76 : decode cX5_matches 76 = .ok (.iload 8, 2) := by decide +kernel
theorem dX5_matches_78 : decode cX5_matches 78 = .ok (.iconst 3, 1) := by decide +kernel
theorem dX5_matches_79 : decode cX5_matches 79 = .ok (.if_icmp .ge 10, 3) := by decide +kernel
theorem dX5_matches_82 : decode cX5_matches 82 = .ok (.iload 8, 2) := by decide +kernel
theorem dX5_matches_84 : decode cX5_matches 84 = .ok (.iload 4, 2) := by decide +kernel
theorem dX5_matches_86 : decode cX5_matches 86 = .ok (.if_icmp .ne 23, 3) := by decide +kernel
theorem dX5_matches_89 : decode cX5_matches 89 = .ok (.iload 7, 2) := by decide +kernel
theorem dX5_matches_91 : decode cX5_matches 91 = .ok (.aload_n 2, 1) := by decide +kernel
theorem dX5_matches_92 : decode cX5_matches 92 = .ok (.getfield 25, 3) := by decide +kernel
theorem dX5_matches_95 : decode cX5_matches 95 = .ok (.iload 5, 2) := by decide +kernel
theorem dX5_matches_97 : decode cX5_matches 97 = .ok (.iaload, 1) := by decide +kernel
theorem dX5_matches_98 : decode cX5_matches 98 = .ok (.if_icmp .eq 5, 3) := by decide +kernel
theorem dX5_matches_101 : decode cX5_matches 101 = .ok (.iconst 0, 1) := by decide +kernel
theorem dX5_matches_102 : decode cX5_matches 102 = .ok (.ireturn, 1) := by decide +kernel
theorem dX5_matches_103 : decode cX5_matches 103 = .ok (.iinc 5 1, 3) := by decide +kernel
theorem dX5_matches_106 : decode cX5_matches 106 = .ok (.goto 55, 3) := by decide +kernel
theorem dX5_matches_109 : decode cX5_matches 109 = .ok (.aload_n 0, 1) := by decide +kernel
theorem dX5_matches_110 : decode cX5_matches 110 = .ok (.getfield 9, 3) := by decide +kernel
theorem dX5_matches_113 : decode cX5_matches 113 = .ok (.iload 8, 2) := by decide +kernel
theorem dX5_matches_115 : decode cX5_matches 115 = .ok (.iaload, 1) := by decide +kernel
theorem dX5_matches_116 : decode cX5_matches 116 = .ok (.bipush (-9), 2) := by decide +kernel
theorem dX5_matches_118 : decode cX5_matches 118 = .ok (.if_icmp .ne 15, 3) := by decide +kernel
theorem dX5_matches_121 : decode cX5_matches 121 = .ok (.aload_n 0, 1) := by decide +kernel
theorem dX5_matches_122 : decode cX5_matches 122 = .ok (.getfield 9, 3) := by decide +kernel
theorem dX5_matches_125 : decode cX5_matches 125 = .ok (.iload 8, 2) := by decide +kernel
theorem dX5_matches_127 : decode cX5_matches 127 = .ok (.iload 5, 2) := by decide +kernel
theorem dX5_matches_129 : decode cX5_matches 129 = .ok (.iastore, 1) := by decide +kernel
theorem dX5_matches_130 : decode cX5_matches 130 = .ok (.goto 22, 3) := by decide +kernel
theorem dX5_matches_133 : decode cX5_matches 133 = .ok (.aload_n 2, 1) := by decide +kernel
theorem dX5_matches_134 : decode cX5_matches 134 = .ok (.aload_n 0, 1) := by decide +kernel
theorem dX5_matches_135 : decode cX5_matches 135 = .ok (.getfield 9, 3) := by decide +kernel
theorem dX5_matches_138 : decode cX5_matches 138 = .ok (.iload 8, 2) := by decide +kernel
theorem dX5_matches_140 : decode cX5_matches 140 = .ok (.iaload, 1) := by decide +kernel
theorem dX5_matches_141 : decode cX5_matches 141 = .ok (.aload_n 2, 1) := by decide +kernel
theorem dX5_matches_142 : decode cX5_matches 142 = .ok (.iload 5, 2) := by decide +kernel
theorem dX5_matches_144 : decode cX5_matches 144 = .ok (.invokevirtual 28, 3) := by decide +kernel
theorem dX5_matches_147 : decode cX5_matches 147 = .ok (.ifCond .ne 5, 3) := by decide +kernel
theorem dX5_matches_150 : decode cX5_matches 150 = .ok (.iconst 0, 1) := by decide +kernel
theorem dX5_matches_151 : decode cX5_matches 151 = .ok (.ireturn, 1) := by decide +kernel
theorem dX5_matches_152 : decode cX5_matches 152 = .ok (.aload_n 2, 1) := by decide +kernel
theorem dX5_matches_153 : decode cX5_matches 153 = .ok (.getfield 32, 3) := by decide +kernel
theorem dX5_matches_156 : decode cX5_matches 156 = .ok (.iload 5, 2) := by decide +kernel
theorem dX5_matches_158 : decode cX5_matches 158 = .ok (.iaload, 1) := by decide +kernel
theorem dX5_matches_159 : decode cX5_matches 159 = .ok (.istore 5, 2) := by decide +kernel
theorem dX5_matches_161 : decode cX5_matches 161 = .ok (.iinc 6 1, 3) := by decide +kernel
theorem dX5_matches_164 : decode cX5_matches 164 = .ok (.goto (-134), 3) := by decide +kernel
theorem dX5_matches_167 : decode cX5_matches 167 = .ok (.iconst 1, 1) := by decide +kernel
theorem dX5_matches_168 : decode cX5_matches 168 = .ok (.ireturn, 1) := by decide +kernel
theorem dX5_firstMatch_0 : decode cX5_firstMatch 0 = .ok (.iconst 0, 1) := by decide +kernel
theorem dX5_firstMatch_1 : decode cX5_firstMatch 1 = .ok (.istore 4, 2) := by decide +kernel
theorem dX5_firstMatch_3 : decode cX5_firstMatch 3 = .ok (.iload 4, 2) := by decide +kernel
theorem dX5_firstMatch_5 : decode cX5_firstMatch 5 = .ok (.aload_n 2, 1) := by decide +kernel
theorem dX5_firstMatch_6 : decode cX5_firstMatch 6 = .ok (.getfield 19, 3) := by decide +kernel
theorem dX5_firstMatch_9 : decode cX5_firstMatch 9 = .ok (.if_icmp .ge 24, 3) := by decide +kernel
theorem dX5_firstMatch_12 : decode cX5_firstMatch 12 = .ok (.aload_n 0, 1) := by decide +kernel
theorem dX5_firstMatch_13 : decode cX5_firstMatch 13 = .ok (.aload_n 1, 1) := by decide +kernel
theorem dX5_firstMatch_14 : decode cX5_firstMatch 14 = .ok (.aload_n 2, 1) := by decide +kernel
theorem dX5_firstMatch_15 : decode cX5_firstMatch 15 = .ok (.iload 4, 2) := by decide +kernel
theorem dX5_firstMatch_17 : decode cX5_firstMatch 17 = .ok (.iload_n 3, 1) := by decide +kernel
theorem dX5_firstMatch_18 : decode cX5_firstMatch 18 = .ok (.invokevirtual 35, 3) := by decide +kernel
theorem dX5_firstMatch_21 : decode cX5_firstMatch 21 = .ok (.ifCond .eq 6, 3) := by decide +kernel
theorem dX5_firstMatch_24 : decode cX5_firstMatch 24 = .ok (.iload 4, 2) := by decide +kernel
theorem dX5_firstMatch_26 : decode cX5_firstMatch 26 = .ok (.ireturn, 1) := by decide +kernel
theorem dX5_firstMatch_27 : decode cX5_firstMatch 27 = .ok (.iinc 4 1, 3) := by decide +kernel
theorem dX5_firstMatch_30 : decode cX5_firstMatch 30 = .ok (.goto (-27), 3) := by decide +kernel
theorem dX5_firstMatch_33 : decode cX5_firstMatch 33 = .ok (.bipush (-9), 2) := by decide +kernel
theorem dX5_firstMatch_35 : decode cX5_firstMatch 35 = .ok (.ireturn, 1) := by decide +kernel
theorem dX5_replace_0 : decode cX5_replace 0 = .ok (.iload_n 3, 1) := by decide +kernel
theorem dX5_replace_1 : decode cX5_replace 1 = .ok (.ifCond .lt 11, 3) := by decide +kernel
theorem dX5_replace_4 : decode cX5_replace 4 = .ok (.iload_n 3, 1) := by decide +kernel
theorem dX5_replace_5 : decode cX5_replace 5 = .ok (.aload_n 2, 1) := by decide +kernel
theorem dX5_replace_6 : decode cX5_replace 6 = .ok (.getfield 19, 3) := by decide +kernel
theorem dX5_replace_9 : decode cX5_replace 9 = .ok (.if_icmp .lt 5, 3) := by decide +kernel
theorem dX5_replace_12 : decode cX5_replace 12 = .ok (.iconst 0, 1) := by decide +kernel
theorem dX5_replace_13 : decode cX5_replace 13 = .ok (.ireturn, 1) := by decide +kernel
theorem dX5_replace_14 : decode cX5_replace 14 = .ok (.aload 4, 2) := by decide +kernel
theorem dX5_replace_16 : decode cX5_replace 16 = .ok (.invokevirtual 39, 3) := by decide +kernel
theorem dX5_replace_19 : decode cX5_replace 19 = .ok (.aload 4, 2) := by decide +kernel
theorem dX5_replace_21 : decode cX5_replace 21 = .ok (.aload_n 2, 1) := by decide +kernel
theorem dX5_replace_22 : decode cX5_replace 22 = .ok (.iconst 0, 1) := by decide +kernel
theorem dX5_replace_23 : decode cX5_replace 23 = .ok (.iload_n 3, 1) := by decide +kernel
theorem dX5_replace_24 : decode cX5_replace 24 = .ok (.invokevirtual 42, 3) := by decide +kernel
theorem dX5_replace_27 : decode cX5_replace 27 = .ok (.istore 5, 2) := by decide +kernel
theorem dX5_replace_29 : decode cX5_replace 29 = .ok (.iconst 0, 1) := by decide +kernel
theorem dX5_replace_30 : decode cX5_replace 30 = .ok (.istore 6, 2) := by decide +kernel
theorem dX5_replace_32 : decode cX5_replace 32 = .ok (.iload 6, 2) := by decide +kernel
theorem dX5_replace_34 : decode cX5_replace 34 = .ok (.aload_n 1, 1) := by decide +kernel
theorem dX5_replace_35 : decode cX5_replace 35 = .ok (.getfield 19, 3) := by decide +kernel
theorem dX5_replace_38 : decode cX5_replace 38 = .ok (.if_icmp .ge 96, 3) := by decide +kernel
theorem dX5_replace_41 : decode cX5_replace 41 = .ok (.iload 5, 2) := by decide +kernel
theorem dX5_replace_43 : decode cX5_replace 43 = .ok (.ifCond .eq 91, 3) := by decide +kernel
theorem dX5_replace_46 : decode cX5_replace 46 = .ok (.aload_n 1, 1) := by decide +kernel
theorem dX5_replace_47 : decode cX5_replace 47 = .ok (.getfield 25, 3) := by decide +kernel
theorem dX5_replace_50 : decode cX5_replace 50 = .ok (.iload 6, 2) := by decide +kernel
theorem dX5_replace_52 : decode cX5_replace 52 = .ok (.iaload, 1) := by decide +kernel
theorem dX5_replace_53 : decode cX5_replace 53 = .ok (.istore 7, 2) := by decide +kernel
theorem dX5_replace_55 : decode cX5_replace 55 = .ok (.iload 7, 2) := by decide +kernel
theorem dX5_replace_57 : decode cX5_replace 57 = .ok (.bipush 120, 2) := by decide +kernel
theorem dX5_replace_59 : decode cX5_replace 59 = .ok (.isub, 1) := by decide +kernel
theorem dX5_replace_60 : decode cX5_replace 60 = .ok (.istore 8, 2) := by decide +kernel
theorem dX5_replace_62 : decode cX5_replace 62 = .ok (.iload 8, 2) := by decide +kernel
theorem dX5_replace_64 : decode cX5_replace 64 = .ok (.ifCond .lt 19, 3) := by decide +kernel
theorem dX5_replace_67 : decode cX5_replace 67 = .ok (.iload 8, 2) := by decide +kernel
theorem dX5_replace_69 : decode cX5_replace 69 = .ok (.iconst 3, 1) := by decide +kernel
theorem dX5_replace_70 : decode cX5_replace 70 = .ok (.if_icmp .ge 13, 3) := by decide +kernel
theorem dX5_replace_73 : decode cX5_replace 73 = .ok (.aload_n 0, 1) := by decide +kernel
theorem dX5_replace_74 : decode cX5_replace 74 = .ok (.getfield 9, 3) := by decide +kernel
theorem dX5_replace_77 : decode cX5_replace 77 = .ok (.iload 8, 2) := by decide +kernel
theorem dX5_replace_79 : decode cX5_replace 79 = .ok (.iaload, 1) := by decide +kernel
theorem dX5_replace_80 : decode cX5_replace 80 = .ok (.goto 5, 3) := by decide +kernel
theorem dX5_replace_83 : decode cX5_replace 83 = .ok (.bipush (-9), 2) := by decide +kernel
theorem dX5_replace_85 : decode cX5_replace 85 = .ok (.istore 9, 2) := by decide +kernel
theorem dX5_replace_87 : decode cX5_replace 87 = .ok (.iload 9, 2) := by decide +kernel
theorem dX5_replace_89 : decode cX5_replace 89 = .ok (.ifCond .lt 30, 3) := by decide +kernel
theorem dX5_replace_92 : decode cX5_replace 92 = .ok (.iload 9, 2) := by decide +kernel
theorem dX5_replace_94 : decode cX5_replace 94 = .ok (.aload_n 2, 1) := by decide +kernel
theorem dX5_replace_95 : decode cX5_replace 95 = .ok (.getfield 19, 3) := by decide +kernel
theorem dX5_replace_98 : decode cX5_replace 98 = .ok (.if_icmp .ge 21, 3) := by decide +kernel
theorem dX5_replace_101 : decode cX5_replace 101 = .ok (.aload 4, 2) := by decide +kernel
theorem dX5_replace_103 : decode cX5_replace 103 = .ok (.aload_n 2, 1) := by decide +kernel
theorem dX5_replace_104 : decode cX5_replace 104 = .ok (.iload 9, 2) := by decide +kernel
theorem dX5_replace_106 : decode cX5_replace 106 = .ok (.aload_n 2, 1) := by decide +kernel
theorem dX5_replace_107 : decode cX5_replace 107 = .ok (.getfield 32, 3) := by decide +kernel
theorem dX5_replace_110 : decode cX5_replace 110 = .ok (.iload 9, 2) := by decide +kernel
end
section
theorem dX5_replace_112 : decode cX5_replace 112 = .ok (.iaload, 1) := by decide +kernel
theorem dX5_replace_113 : decode cX5_replace 113 = .ok (.invokevirtual 42, 3) := by decide +kernel
theorem dX5_replace_116 : decode cX5_replace 116 = .ok (.goto 10, 3) := by decide +kernel
theorem dX5_replace_119 : decode cX5_replace 119 = .ok (.aload 4, 2) := by decide +kernel
theorem dX5_replace_121 : decode cX5_replace 121 = .ok (.iload 7, 2) := by decide +kernel
theorem dX5_replace_123 : decode cX5_replace 123 = .ok (.invokevirtual 46, 3) := by decide +kernel
theorem dX5_replace_126 : decode cX5_replace 126 = .ok (.istore 5, 2) := by decide +kernel
theorem dX5_replace_128 : decode cX5_replace 128 = .ok (.iinc 6 1, 3) := by decide +kernel
theorem dX5_replace_131 : decode cX5_replace 131 = .ok (.goto (-99), 3) := by decide +kernel
theorem dX5_replace_134 : decode cX5_replace 134 = .ok (.iload 5, 2) := by decide +kernel
theorem dX5_replace_136 : decode cX5_replace 136 = .ok (.ifCond .eq 26, 3) := by decide +kernel
theorem dX5_replace_139 : decode cX5_replace 139 = .ok (.aload 4, 2) := by decide +kernel
theorem dX5_replace_141 : decode cX5_replace 141 = .ok (.aload_n 2, 1) := by decide +kernel
theorem dX5_replace_142 : decode cX5_replace 142 = .ok (.aload_n 2, 1) := by decide +kernel
theorem dX5_replace_143 : decode cX5_replace 143 = .ok (.getfield 32, 3) := by decide +kernel
theorem dX5_replace_146 : decode cX5_replace 146 = .ok (.iload_n 3, 1) := by decide +kernel
theorem dX5_replace_147 : decode cX5_replace 147 = .ok (.iaload, 1) := by decide +kernel
theorem dX5_replace_148 : decode cX5_replace 148 = .ok (.aload_n 2, 1) := by decide +kernel
theorem dX5_replace_149 : decode cX5_replace 149 = .ok (.getfield 19, 3) := by decide +kernel
theorem dX5_replace_152 : decode cX5_replace 152 = .ok (.invokevirtual 42, 3) := by decide +kernel
theorem dX5_replace_155 : decode cX5_replace 155 = .ok (.ifCond .eq 7, 3) := by decide +kernel
theorem dX5_replace_158 : decode cX5_replace 158 = .ok (.iconst 1, 1) := by decide +kernel
theorem dX5_replace_159 : decode cX5_replace 159 = .ok (.goto 4, 3) := by decide +kernel
theorem dX5_replace_162 : decode cX5_replace 162 = .ok (.iconst 0, 1) := by decide +kernel
theorem dX5_replace_163 : decode cX5_replace 163 = .ok (.istore 5, 2) := by decide +kernel
theorem dX5_replace_165 : decode cX5_replace 165 = .ok (.iload 5, 2) := by decide +kernel
theorem dX5_replace_167 : decode cX5_replace 167 = .ok (.ifCond .eq 15, 3) := by decide +kernel
theorem dX5_replace_170 : decode cX5_replace 170 = .ok (.aload 4, 2) := by decide +kernel
theorem dX5_replace_172 : decode cX5_replace 172 = .ok (.aload_n 0, 1) := by decide +kernel
theorem dX5_replace_173 : decode cX5_replace 173 = .ok (.getfield 15, 3) := by decide +kernel
theorem dX5_replace_176 : decode cX5_replace 176 = .ok (.getfield 50, 3) := by decide +kernel
theorem dX5_replace_179 : decode cX5_replace 179 = .ok (.invokevirtual 55, 3) := by decide +kernel
theorem dX5_replace_182 : decode cX5_replace 182 = .ok (.iload 5, 2) := by decide +kernel
theorem dX5_replace_184 : decode cX5_replace 184 = .ok (.ireturn, 1) := by decide +kernel
theorem dX6_init_0 : decode cX6_init 0 = .ok (.aload_n 0, 1) := by decide +kernel
theorem dX6_init_1 : decode cX6_init 1 = .ok (.invokespecial 5, 3) := by decide +kernel
theorem dX6_init_4 : decode cX6_init 4 = .ok (.aload_n 0, 1) := by decide +kernel
theorem dX6_init_5 : decode cX6_init 5 = .ok (.sipush 546, 3) := by decide +kernel
theorem dX6_init_8 : decode cX6_init 8 = .ok (.newarray .int, 2) := by decide +kernel
theorem dX6_init_10 : decode cX6_init 10 = .ok (.putfield 11, 3) := by decide +kernel
theorem dX6_init_13 : decode cX6_init 13 = .ok (.aload_n 0, 1) := by decide +kernel
theorem dX6_init_14 : decode cX6_init 14 = .ok (.sipush 546, 3) := by decide +kernel
theorem dX6_init_17 : decode cX6_init 17 = .ok (.newarray .int, 2) := by decide +kernel
theorem dX6_init_19 : decode cX6_init 19 = .ok (.putfield 15, 3) := by decide +kernel
theorem dX6_init_22 : decode cX6_init 22 = .ok (.aload_n 0, 1) := by decide +kernel
theorem dX6_init_23 : decode cX6_init 23 = .ok (.sipush 546, 3) := by decide +kernel
theorem dX6_init_26 : decode cX6_init 26 = .ok (.newarray .int, 2) := by decide +kernel
theorem dX6_init_28 : decode cX6_init 28 = .ok (.putfield 18, 3) := by decide +kernel
theorem dX6_init_31 : decode cX6_init 31 = .ok (.aload_n 0, 1) := by decide +kernel
theorem dX6_init_32 : decode cX6_init 32 = .ok (.sipush 546, 3) := by decide +kernel
theorem dX6_init_35 : decode cX6_init 35 = .ok (.newarray .int, 2) := by decide +kernel
theorem dX6_init_37 : decode cX6_init 37 = .ok (.putfield 21, 3) := by decide +kernel
theorem dX6_init_40 : decode cX6_init 40 = .ok (.aload_n 0, 1) := by decide +kernel
theorem dX6_init_41 : decode cX6_init 41 = .ok (.bipush 51, 2) := by decide +kernel
theorem dX6_init_43 : decode cX6_init 43 = .ok (.anewarray 24, 3) := by decide +kernel
theorem dX6_init_46 : decode cX6_init 46 = .ok (.putfield 26, 3) := by decide +kernel
theorem dX6_init_49 : decode cX6_init 49 = .ok (.aload_n 0, 1) := by decide +kernel
theorem dX6_init_50 : decode cX6_init 50 = .ok (.bipush 51, 2) := by decide +kernel
theorem dX6_init_52 : decode cX6_init 52 = .ok (.newarray .int, 2) := by decide +kernel
theorem dX6_init_54 : decode cX6_init 54 = .ok (.putfield 30, 3) := by decide +kernel
theorem dX6_init_57 : decode cX6_init 57 = .ok (.aload_n 0, 1) := by decide +kernel
theorem dX6_init_58 : decode cX6_init 58 = .ok (.bipush 51, 2) := by decide +kernel
theorem dX6_init_60 : decode cX6_init 60 = .ok (.newarray .int, 2) := by decide +kernel
theorem dX6_init_62 : decode cX6_init 62 = .ok (.putfield 33, 3) := by decide +kernel
theorem dX6_init_65 : decode cX6_init 65 = .ok (.aload_n 0, 1) := by decide +kernel
theorem dX6_init_66 : decode cX6_init 66 = .ok (.bipush 51, 2) := by decide +kernel
theorem dX6_init_68 : decode cX6_init 68 = .ok (.newarray .int, 2) := by decide +kernel
theorem dX6_init_70 : decode cX6_init 70 = .ok (.putfield 36, 3) := by decide +kernel
theorem dX6_init_73 : decode cX6_init 73 = .ok (.aload_n 0, 1) := by decide +kernel
theorem dX6_init_74 : decode cX6_init 74 = .ok (.sipush 540, 3) := by decide +kernel
theorem dX6_init_77 : decode cX6_init 77 = .ok (.newarray .int, 2) := by decide +kernel
theorem dX6_init_79 : decode cX6_init 79 = .ok (.putfield 39, 3) := by decide +kernel
theorem dX6_init_82 : decode cX6_init 82 = .ok (.aload_n 0, 1) := by decide +kernel
theorem dX6_init_83 : decode cX6_init 83 = .ok (.iconst 3, 1) := by decide +kernel
theorem dX6_init_84 : decode cX6_init 84 = .ok (.newarray .int, 2) := by decide +kernel
theorem dX6_init_86 : decode cX6_init 86 = .ok (.putfield 42, 3) := by decide +kernel
theorem dX6_init_89 : decode cX6_init 89 = .ok (.aload_n 0, 1) := by decide +kernel
theorem dX6_init_90 : decode cX6_init 90 = .ok (.aload_n 1, 1) := by decide +kernel
theorem dX6_init_91 : decode cX6_init 91 = .ok (.putfield 45, 3) := by decide +kernel
theorem dX6_init_94 : decode cX6_init 94 = .ok (.aload_n 0, 1) := by decide +kernel
theorem dX6_init_95 : decode cX6_init 95 = .ok (.getfield 11, 3) := by decide +kernel
theorem dX6_init_98 : decode cX6_init 98 = .ok (.iconst 0, 1) := by decide +kernel
theorem dX6_init_99 : decode cX6_init 99 = .ok (.bipush 90, 2) := by decide +kernel
theorem dX6_init_101 : decode cX6_init 101 = .ok (.iastore, 1) := by decide +kernel
theorem dX6_init_102 : decode cX6_init 102 = .ok (.aload_n 0, 1) := by decide +kernel
theorem dX6_init_103 : decode cX6_init 103 = .ok (.getfield 21, 3) := by decide +kernel
theorem dX6_init_106 : decode cX6_init 106 = .ok (.iconst 0, 1) := by decide +kernel
theorem dX6_init_107 : decode cX6_init 107 = .ok (.iconst 1, 1) := by decide +kernel
theorem dX6_init_108 : decode cX6_init 108 = .ok (.iastore, 1) := by decide +kernel
theorem dX6_init_109 : decode cX6_init 109 = .ok (.iconst 0, 1) := by decide +kernel
theorem dX6_init_110 : decode cX6_init 110 = .ok (.istore_n 2, 1) := by decide +kernel
theorem dX6_init_111 : decode cX6_init 111 = .ok (.iload_n 2, 1) := by decide +kernel
theorem dX6_init_112 : decode cX6_init 112 = .ok (.iconst 3, 1) := by decide +kernel
theorem dX6_init_113 : decode cX6_init 113 = .ok (.if_icmp .ge 30, 3) := by decide +kernel
theorem dX6_init_116 : decode cX6_init 116 = .ok (.aload_n 0, 1) := by decide +kernel
theorem dX6_init_117 : decode cX6_init 117 = .ok (.getfield 11, 3) := by decide +kernel
theorem dX6_init_120 : decode cX6_init 120 = .ok (.iconst 1, 1) := by decide +kernel
theorem dX6_init_121 : decode cX6_init 121 = .ok (.iload_n 2, 1) := by decide +kernel
theorem dX6_init_122 : decode cX6_init 122 = .ok (.iadd, 1) := by decide +kernel
theorem dX6_init_123 : decode cX6_init 123 = .ok (.bipush 120, 2) := by decide +kernel
theorem dX6_init_125 : decode cX6_init 125 = .ok (.iload_n 2, 1) := by decide +kernel
theorem dX6_init_126 : decode cX6_init 126 = .ok (.iadd, 1) := by decide +kernel
theorem dX6_init_127 : decode cX6_init 127 = .ok (.iastore, 1) := by decide +kernel
theorem dX6_init_128 : decode cX6_init 128 = .ok (.aload_n 0, 1) := by decide +kernel
theorem dX6_init_129 : decode cX6_init 129 = .ok (.getfield 21, 3) := by decide +kernel
theorem dX6_init_132 : decode cX6_init 132 = .ok (.iconst 1, 1) := by decide +kernel
theorem dX6_init_133 : decode cX6_init 133 = .ok (.iload_n 2, 1) := by decide +kernel
theorem dX6_init_134 : decode cX6_init 134 = .ok (.iadd, 1) := by decide +kernel
theorem dX6_init_135 : decode cX6_init 135 = .ok (.iconst 1, 1) := by decide +kernel
theorem dX6_init_136 : decode cX6_init 136 = .ok (.iastore, 1) := by decide +kernel
theorem dX6_init_137 : decode cX6_init 137 = .ok (.iinc 2 1, 3) := by decide +kernel
theorem dX6_init_140 : decode cX6_init 140 = .ok (.goto (-29), 3) := by decide +kernel
theorem dX6_init_143 : decode cX6_init 143 = .ok (.return_, 1) := by decide +kernel
theorem dX6_rewrite_0 : decode cX6_rewrite 0 = .ok (.aload_n 0, 1) := by decide +kernel
theorem dX6_rewrite_1 : decode cX6_rewrite 1 = .ok (.iconst 4, 1) := by decide +kernel
theorem dX6_rewrite_2 : decode cX6_rewrite 2 = .ok (.putfield 49, 3) := by decide +kernel
theorem dX6_rewrite_5 : decode cX6_rewrite 5 = .ok (.iconst 0, 1) := by decide +kernel
theorem dX6_rewrite_6 : decode cX6_rewrite 6 = .ok (.istore 6, 2) := by decide +kernel
theorem dX6_rewrite_8 : decode cX6_rewrite 8 = .ok (.iload 6, 2) := by decide +kernel
theorem dX6_rewrite_10 : decode cX6_rewrite 10 = .ok (.iconst 3, 1) := by decide +kernel
theorem dX6_rewrite_11 : decode cX6_rewrite 11 = .ok (.if_icmp .ge 20, 3) := by decide +kernel
theorem dX6_rewrite_14 : decode cX6_rewrite 14 = .ok (.aload_n 0, 1) := by decide +kernel
theorem dX6_rewrite_15 : decode cX6_rewrite 15 = .ok (.getfield 42, 3) := by decide +kernel
theorem dX6_rewrite_18 : decode cX6_rewrite 18 = .ok (.iload 6, 2) := by decide +kernel
theorem dX6_rewrite_20 : decode cX6_rewrite 20 = .ok (.iconst 1, 1) := by decide +kernel
theorem dX6_rewrite_21 : decode cX6_rewrite 21 = .ok (.iload 6, 2) := by decide +kernel
theorem dX6_rewrite_23 : decode cX6_rewrite 23 = .ok (.iadd, 1) := by decide +kernel
theorem dX6_rewrite_24 : decode cX6_rewrite 24 = .ok (.iastore, 1) := by decide +kernel
theorem dX6_rewrite_25 : decode cX6_rewrite 25 = .ok (.iinc 6 1, 3) := by decide +kernel
theorem dX6_rewrite_28 : decode cX6_rewrite 28 = .ok (.goto (-20), 3) := by decide +kernel
theorem dX6_rewrite_31 : decode cX6_rewrite 31 = .ok (.iload_n 3, 1) := by decide +kernel
theorem dX6_rewrite_32 : decode cX6_rewrite 32 = .ok (.ifCond .lt 65, 3) := by decide +kernel
theorem dX6_rewrite_35 : decode cX6_rewrite 35 = .ok (.iload_n 3, 1) := by decide +kernel
theorem dX6_rewrite_36 : decode cX6_rewrite 36 = .ok (.iconst 3, 1) := by decide +kernel
theorem dX6_rewrite_37 : decode cX6_rewrite 37 = .ok (.if_icmp .ge 60, 3) := by decide +kernel
theorem dX6_rewrite_40 : decode cX6_rewrite 40 = .ok (.iload 5, 2) := by decide +kernel
theorem dX6_rewrite_42 : decode cX6_rewrite 42 = .ok (.ifCond .eq 9, 3) := by decide +kernel
theorem dX6_rewrite_45 : decode cX6_rewrite 45 = .ok (.iconst 1, 1) := by decide +kernel
theorem dX6_rewrite_46 : decode cX6_rewrite 46 = .ok (.iload_n 3, 1) := by decide +kernel
theorem dX6_rewrite_47 : decode cX6_rewrite 47 = .ok (.iadd, 1) := by decide +kernel
theorem dX6_rewrite_48 : decode cX6_rewrite 48 = .ok (.goto 4, 3) := by decide +kernel
theorem dX6_rewrite_51 : decode cX6_rewrite 51 = .ok (.iconst 0, 1) := by decide +kernel
theorem dX6_rewrite_52 : decode cX6_rewrite 52 = .ok (.istore 6, 2) := by decide +kernel
theorem dX6_rewrite_54 : decode cX6_rewrite 54 = .ok (.iconst 0, 1) := by decide +kernel
theorem dX6_rewrite_55 : decode cX6_rewrite 55 = .ok (.istore 7, 2) := by decide +kernel
theorem dX6_rewrite_57 : decode cX6_rewrite 57 = .ok (.iload 7, 2) := by decide +kernel
theorem dX6_rewrite_59 : decode cX6_rewrite 59 = .ok (.iload 4, 2) := by decide +kernel
theorem dX6_rewrite_61 : decode cX6_rewrite 61 = .ok (.if_icmp .ge 28, 3) := by decide +kernel
theorem dX6_rewrite_64 : decode cX6_rewrite 64 = .ok (.iload 6, 2) := by decide +kernel
theorem dX6_rewrite_66 : decode cX6_rewrite 66 = .ok (.bipush (-9), 2) := by decide +kernel
theorem dX6_rewrite_68 : decode cX6_rewrite 68 = .ok (.if_icmp .eq 21, 3) := by decide +kernel
theorem dX6_rewrite_71 : decode cX6_rewrite 71 = .ok (.aload_n 0, 1) := by decide +kernel
theorem dX6_rewrite_72 : decode cX6_rewrite 72 = .ok (.bipush 83, 2) := by decide +kernel
theorem dX6_rewrite_74 : decode cX6_rewrite 74 = .ok (.iload 6, 2) := by decide +kernel
theorem dX6_rewrite_76 : decode cX6_rewrite 76 = .ok (.iload 6, 2) := by decide +kernel
theorem dX6_rewrite_78 : decode cX6_rewrite 78 = .ok (.invokevirtual 53, 3) := by decide +kernel
theorem dX6_rewrite_81 : decode cX6_rewrite 81 = .ok (.istore 6, 2) := by decide +kernel
theorem dX6_rewrite_83 : decode cX6_rewrite 83 = .ok (.iinc 7 1, 3) := by decide +kernel
theorem dX6_rewrite_86 : decode cX6_rewrite 86 = .ok (.goto (-29), 3) := by decide +kernel
theorem dX6_rewrite_89 : decode cX6_rewrite 89 = .ok (.aload_n 0, 1) := by decide +kernel
theorem dX6_rewrite_90 : decode cX6_rewrite 90 = .ok (.getfield 42, 3) := by decide +kernel
theorem dX6_rewrite_93 : decode cX6_rewrite 93 = .ok (.iload_n 3, 1) := by decide +kernel
theorem dX6_rewrite_94 : decode cX6_rewrite 94 = .ok (.iload 6, 2) := by decide +kernel
theorem dX6_rewrite_96 : decode cX6_rewrite 96 = .ok (.iastore, 1) := by decide +kernel
theorem dX6_rewrite_97 : decode cX6_rewrite 97 = .ok (.aload_n 0, 1) := by decide +kernel
theorem dX6_rewrite_98 : decode cX6_rewrite 98 = .ok (.aload_n 1, 1) := by decide +kernel
theorem dX6_rewrite_99 : decode cX6_rewrite 99 = .ok (.invokevirtual 57, 3) := by decide +kernel
theorem dX6_rewrite_102 : decode cX6_rewrite 102 = .ok (.ifCond .ne 5, 3) := by decide +kernel
theorem dX6_rewrite_105 : decode cX6_rewrite 105 = .ok (.iconst 0, 1) := by decide +kernel
theorem dX6_rewrite_106 : decode cX6_rewrite 106 = .ok (.ireturn, 1) := by decide +kernel
theorem dX6_rewrite_107 : decode cX6_rewrite 107 = .ok (.aload_n 0, 1) := by decide +kernel
theorem dX6_rewrite_108 : decode cX6_rewrite 108 = .ok (.aload_n 2, 1) := by decide +kernel
theorem dX6_rewrite_109 : decode cX6_rewrite 109 = .ok (.invokevirtual 61, 3) := by decide +kernel
theorem dX6_rewrite_112 : decode cX6_rewrite 112 = .ok (.iconst 1, 1) := by decide +kernel
theorem dX6_rewrite_113 : decode cX6_rewrite 113 = .ok (.ireturn, 1) := by decide +kernel
theorem dX6_run_0 : decode cX6_run 0 = .ok (.aload_n 0, 1) := by decide +kernel
theorem dX6_run_1 : decode cX6_run 1 = .ok (.iconst 0, 1) := by decide +kernel
theorem dX6_run_2 : decode cX6_run 2 = .ok (.putfield 65, 3) := by decide +kernel
theorem dX6_run_5 : decode cX6_run 5 = .ok (.aload_n 0, 1) := by decide +kernel
theorem dX6_run_6 : decode cX6_run 6 = .ok (.iconst 0, 1) := by decide +kernel
theorem dX6_run_7 : decode cX6_run 7 = .ok (.putfield 68, 3) := by decide +kernel
theorem dX6_run_10 : decode cX6_run 10 = .ok (.aload_n 0, 1) := by decide +kernel
theorem dX6_run_11 : decode cX6_run 11 = .ok (.iconst 0, 1) := by decide +kernel
theorem dX6_run_12 : decode cX6_run 12 = .ok (.putfield 71, 3) := by decide +kernel
theorem dX6_run_15 : decode cX6_run 15 = .ok (.aload_n 0, 1) := by decide +kernel
theorem dX6_run_16 : decode cX6_run 16 = .ok (.getfield 26, 3) := by decide +kernel
theorem dX6_run_19 : decode cX6_run 19 = .ok (.iconst 0, 1) := by decide +kernel
theorem dX6_run_20 : decode cX6_run 20 = .ok (.aload_n 1, 1) := by decide +kernel
theorem dX6_run_21 : decode cX6_run 21 = .ok (.aastore, 1) := by decide +kernel
theorem dX6_run_22 : decode cX6_run 22 = .ok (.aload_n 0, 1) := by decide +kernel
theorem dX6_run_23 : decode cX6_run 23 = .ok (.getfield 30, 3) := by decide +kernel
theorem dX6_run_26 : decode cX6_run 26 = .ok (.iconst 0, 1) := by decide +kernel
theorem dX6_run_27 : decode cX6_run 27 = .ok (.aload_n 1, 1) := by decide +kernel
theorem dX6_run_28 : decode cX6_run 28 = .ok (.getfield 74, 3) := by decide +kernel
theorem dX6_run_31 : decode cX6_run 31 = .ok (.iastore, 1) := by decide +kernel
theorem dX6_run_32 : decode cX6_run 32 = .ok (.aload_n 0, 1) := by decide +kernel
theorem dX6_run_33 : decode cX6_run 33 = .ok (.getfield 33, 3) := by decide +kernel
theorem dX6_run_36 : decode cX6_run 36 = .ok (.iconst 0, 1) := by decide +kernel
theorem dX6_run_37 : decode cX6_run 37 = .ok (.aload_n 0, 1) := by decide +kernel
theorem dX6_run_38 : decode cX6_run 38 = .ok (.getfield 42, 3) := by decide +kernel
theorem dX6_run_41 : decode cX6_run 41 = .ok (.iconst 0, 1) := by decide +kernel
theorem dX6_run_42 : decode cX6_run 42 = .ok (.iaload, 1) := by decide +kernel
theorem dX6_run_43 : decode cX6_run 43 = .ok (.iastore, 1) := by decide +kernel
theorem dX6_run_44 : decode cX6_run 44 = .ok (.aload_n 0, 1) := by decide +kernel
theorem dX6_run_45 : decode cX6_run 45 = .ok (.getfield 36, 3) := by decide +kernel
theorem dX6_run_48 : decode cX6_run 48 = .ok (.iconst 0, 1) := by decide +kernel
theorem dX6_run_49 : decode cX6_run 49 = .ok (.aload_n 0, 1) := by decide +kernel
theorem dX6_run_50 : decode cX6_run 50 = .ok (.getfield 42, 3) := by decide +kernel
theorem dX6_run_53 : decode cX6_run 53 = .ok (.iconst 1, 1) := by decide +kernel
theorem dX6_run_54 : decode cX6_run 54 = .ok (.iaload, 1) := by decide +kernel
theorem dX6_run_55 : decode cX6_run 55 = .ok (.iastore, 1) := by decide +kernel
theorem dX6_run_56 : decode cX6_run 56 = .ok (.iconst 0, 1) := by decide +kernel
theorem dX6_run_57 : decode cX6_run 57 = .ok (.istore_n 2, 1) := by decide +kernel
theorem dX6_run_58 : decode cX6_run 58 = .ok (.iload_n 2, 1) := by decide +kernel
theorem dX6_run_59 : decode cX6_run 59 = .ok (.sipush 592, 3) := by decide +kernel
theorem dX6_run_62 : decode cX6_run 62 = .ok (.if_icmp .ge 135, 3) := by decide +kernel
theorem dX6_run_65 : decode cX6_run 65 = .ok (.aload_n 0, 1) := by decide +kernel
theorem dX6_run_66 : decode cX6_run 66 = .ok (.getfield 30, 3) := by decide +kernel
theorem dX6_run_69 : decode cX6_run 69 = .ok (.aload_n 0, 1) := by decide +kernel
theorem dX6_run_70 : decode cX6_run 70 = .ok (.getfield 71, 3) := by decide +kernel
theorem dX6_run_73 : decode cX6_run 73 = .ok (.iaload, 1) := by decide +kernel
theorem dX6_run_74 : decode cX6_run 74 = .ok (.ifCond .gt 24, 3) := by decide +kernel
theorem dX6_run_77 : decode cX6_run 77 = .ok (.aload_n 0, 1) := by decide +kernel
theorem dX6_run_78 : decode cX6_run 78 = .ok (.getfield 71, 3) := by decide +kernel
theorem dX6_run_81 : decode cX6_run 81 = .ok (.ifCond .ne 17, 3) := by decide +kernel
theorem dX6_run_84 : decode cX6_run 84 = .ok (.aload_n 0, 1) := by decide +kernel
theorem dX6_run_85 : decode cX6_run 85 = .ok (.getfield 68, 3) := by decide +kernel
theorem dX6_run_88 : decode cX6_run 88 = .ok (.iconst 1, 1) := by decide +kernel
theorem dX6_run_89 : decode cX6_run 89 = .ok (.if_icmp .ne 7, 3) := by decide +kernel
theorem dX6_run_92 : decode cX6_run 92 = .ok (.iconst 1, 1) := by decide +kernel
theorem dX6_run_93 : decode cX6_run 93 = .ok (.goto 4, 3) := by decide +kernel
theorem dX6_run_96 : decode cX6_run 96 = .ok (.iconst 0, 1) := by decide +kernel
theorem dX6_run_97 : decode cX6_run 97 = .ok (.ireturn, 1) := by decide +kernel
theorem dX6_run_98 : decode cX6_run 98 = .ok (.aload_n 0, 1) := by decide +kernel
theorem dX6_run_99 : decode cX6_run 99 = .ok (.getfield 30, 3) := by decide +kernel
theorem dX6_run_102 : decode cX6_run 102 = .ok (.aload_n 0, 1) := by decide +kernel
theorem dX6_run_103 : decode cX6_run 103 = .ok (.getfield 71, 3) := by decide +kernel
theorem dX6_run_106 : decode cX6_run 106 = .ok (.iaload, 1) := by decide +kernel
theorem dX6_run_107 : decode cX6_run 107 = .ok (.ifCond .gt 16, 3) := by decide +kernel
theorem dX6_run_110 : decode cX6_run 110 = .ok (.aload_n 0, 1) := by decide +kernel
theorem dX6_run_111 : decode cX6_run 111 = .ok (.dup, 1) := by decide +kernel
theorem dX6_run_112 : decode cX6_run 112 = .ok (.getfield 71, 3) := by decide +kernel
theorem dX6_run_115 : decode cX6_run 115 = .ok (.iconst 1, 1) := by decide +kernel
theorem dX6_run_116 : decode cX6_run 116 = .ok (.isub, 1) := by decide +kernel
theorem dX6_run_117 : decode cX6_run 117 = .ok (.putfield 71, 3) := by decide +kernel
theorem dX6_run_120 : decode cX6_run 120 = .ok (.goto 71, 3) := by decide +kernel
theorem dX6_run_123 : decode cX6_run 123 = .ok (.aload_n 0, 1) := by decide +kernel
theorem dX6_run_124 : decode cX6_run 124 = .ok (.getfield 30, 3) := by decide +kernel
theorem dX6_run_127 : decode cX6_run 127 = .ok (.aload_n 0, 1) := by decide +kernel
theorem dX6_run_128 : decode cX6_run 128 = .ok (.getfield 71, 3) := by decide +kernel
theorem dX6_run_131 : decode cX6_run 131 = .ok (.dup2, 1) := by decide +kernel
theorem dX6_run_132 : decode cX6_run 132 = .ok (.iaload, 1) := by decide +kernel
theorem dX6_run_133 : decode cX6_run 133 = .ok (.iconst 1, 1) := by decide +kernel
theorem dX6_run_134 : decode cX6_run 134 = .ok (.isub, 1) := by decide +kernel
theorem dX6_run_135 : decode cX6_run 135 = .ok (.iastore, 1) := by decide +kernel
theorem dX6_run_136 : decode cX6_run 136 = .ok (.aload_n 0, 1) := by decide +kernel
theorem dX6_run_137 : decode cX6_run 137 = .ok (.getfield 26, 3) := by decide +kernel
theorem dX6_run_140 : decode cX6_run 140 = .ok (.aload_n 0, 1) := by decide +kernel
theorem dX6_run_141 : decode cX6_run 141 = .ok (.getfield 71, 3) := by decide +kernel
theorem dX6_run_144 : decode cX6_run 144 = .ok (.aaload, 1) := by decide +kernel
theorem dX6_run_145 : decode cX6_run 145 = .ok (.getfield 77, 3) := by decide +kernel
theorem dX6_run_148 : decode cX6_run 148 = .ok (.aload_n 0, 1) := by decide +kernel
theorem dX6_run_149 : decode cX6_run 149 = .ok (.getfield 30, 3) := by decide +kernel
theorem dX6_run_152 : decode cX6_run 152 = .ok (.aload_n 0, 1) := by decide +kernel
theorem dX6_run_153 : decode cX6_run 153 = .ok (.getfield 71, 3) := by decide +kernel
theorem dX6_run_156 : decode cX6_run 156 = .ok (.iaload, 1) := by decide +kernel
theorem dX6_run_157 : decode cX6_run 157 = .ok (.iaload, 1) := by decide +kernel
theorem dX6_run_158 : decode cX6_run 158 = .ok (.istore_n 3, 1) := by decide +kernel
theorem dX6_run_159 : decode cX6_run 159 = .ok (.iload_n 3, 1) := by decide +kernel
theorem dX6_run_160 : decode cX6_run 160 = .ok (.invokestatic 80, 3) := by decide +kernel
theorem dX6_run_163 : decode cX6_run 163 = .ok (.ifCond .eq 14, 3) := by decide +kernel
theorem dX6_run_166 : decode cX6_run 166 = .ok (.aload_n 0, 1) := by decide +kernel
theorem dX6_run_167 : decode cX6_run 167 = .ok (.iload_n 3, 1) := by decide +kernel
theorem dX6_run_168 : decode cX6_run 168 = .ok (.bipush 97, 2) := by decide +kernel
theorem dX6_run_170 : decode cX6_run 170 = .ok (.isub, 1) := by decide +kernel
theorem dX6_run_171 : decode cX6_run 171 = .ok (.invokevirtual 84, 3) := by decide +kernel
theorem dX6_run_174 : decode cX6_run 174 = .ok (.goto 8, 3) := by decide +kernel
theorem dX6_run_177 : decode cX6_run 177 = .ok (.aload_n 0, 1) := by decide +kernel
theorem dX6_run_178 : decode cX6_run 178 = .ok (.iload_n 3, 1) := by decide +kernel
theorem dX6_run_179 : decode cX6_run 179 = .ok (.invokevirtual 87, 3) := by decide +kernel
theorem dX6_run_182 : decode cX6_run 182 = .ok (.istore 4, 2) := by decide +kernel
theorem dX6_run_184 : decode cX6_run 184 = .ok (.iload 4, 2) := by decide +kernel
theorem dX6_run_186 : decode cX6_run 186 = .ok (.ifCond .ne 5, 3) := by decide +kernel
theorem dX6_run_189 : decode cX6_run 189 = .ok (.iconst 0, 1) := by decide +kernel
theorem dX6_run_190 : decode cX6_run 190 = .ok (.ireturn, 1) := by decide +kernel
theorem dX6_run_191 : decode cX6_run 191 = .ok (.iinc 2 1, 3) := by decide +kernel
theorem dX6_run_194 : decode cX6_run 194 = .ok (.goto (-136), 3) := by decide +kernel
theorem dX6_run_197 : decode cX6_run 197 = .ok (.iconst 0, 1) := by decide +kernel
theorem dX6_run_198 : decode cX6_run 198 = .ok (.ireturn, 1) := by decide +kernel
theorem dX6_take_0 : decode cX6_take 0 = .ok (.iload_n 1, 1) := by decide +kernel
theorem dX6_take_1 : decode cX6_take 1 = .ok (.lookupswitch 131 #[(83, 43), (120, 92), (121, 106), (122, 120)], 43) := by decide +kernel
theorem dX6_take_44 : decode cX6_take 44 = .ok (.aload_n 0, 1) := by decide +kernel
theorem dX6_take_45 : decode cX6_take 45 = .ok (.getfield 68, 3) := by decide +kernel
theorem dX6_take_48 : decode cX6_take 48 = .ok (.iconst 1, 1) := by decide +kernel
theorem dX6_take_49 : decode cX6_take 49 = .ok (.if_icmp .ge 5, 3) := by decide +kernel
theorem dX6_take_52 : decode cX6_take 52 = .ok (.iconst 0, 1) := by decide +kernel
theorem dX6_take_53 : decode cX6_take 53 = .ok (.ireturn, 1) := by decide +kernel
theorem dX6_take_54 : decode cX6_take 54 = .ok (.aload_n 0, 1) := by decide +kernel
theorem dX6_take_55 : decode cX6_take 55 = .ok (.dup, 1) := by decide +kernel
theorem dX6_take_56 : decode cX6_take 56 = .ok (.getfield 68, 3) := by decide +kernel
theorem dX6_take_59 : decode cX6_take 59 = .ok (.iconst 1, 1) := by decide +kernel
theorem dX6_take_60 : decode cX6_take 60 = .ok (.isub, 1) := by decide +kernel
theorem dX6_take_61 : decode cX6_take 61 = .ok (.putfield 68, 3) := by decide +kernel
theorem dX6_take_64 : decode cX6_take 64 = .ok (.aload_n 0, 1) := by decide +kernel
theorem dX6_take_65 : decode cX6_take 65 = .ok (.aload_n 0, 1) := by decide +kernel
theorem dX6_take_66 : decode cX6_take 66 = .ok (.bipush 83, 2) := by decide +kernel
theorem dX6_take_68 : decode cX6_take 68 = .ok (.aload_n 0, 1) := by decide +kernel
theorem dX6_take_69 : decode cX6_take 69 = .ok (.getfield 39, 3) := by decide +kernel
theorem dX6_take_72 : decode cX6_take 72 = .ok (.aload_n 0, 1) := by decide +kernel
theorem dX6_take_73 : decode cX6_take 73 = .ok (.getfield 68, 3) := by decide +kernel
theorem dX6_take_76 : decode cX6_take 76 = .ok (.iaload, 1) := by decide +kernel
theorem dX6_take_77 : decode cX6_take 77 = .ok (.aload_n 0, 1) := by decide +kernel
theorem dX6_take_78 : decode cX6_take 78 = .ok (.getfield 39, 3) := by decide +kernel
theorem dX6_take_81 : decode cX6_take 81 = .ok (.aload_n 0, 1) := by decide +kernel
theorem dX6_take_82 : decode cX6_take 82 = .ok (.getfield 68, 3) := by decide +kernel
theorem dX6_take_85 : decode cX6_take 85 = .ok (.iaload, 1) := by decide +kernel
theorem dX6_take_86 : decode cX6_take 86 = .ok (.invokevirtual 53, 3) := by decide +kernel
theorem dX6_take_89 : decode cX6_take 89 = .ok (.invokevirtual 90, 3) := by decide +kernel
theorem dX6_take_92 : decode cX6_take 92 = .ok (.ireturn, 1) := by decide +kernel
theorem dX6_take_93 : decode cX6_take 93 = .ok (.aload_n 0, 1) := by decide +kernel
theorem dX6_take_94 : decode cX6_take 94 = .ok (.aload_n 0, 1) := by decide +kernel
theorem dX6_take_95 : decode cX6_take 95 = .ok (.getfield 33, 3) := by decide +kernel
theorem dX6_take_98 : decode cX6_take 98 = .ok (.aload_n 0, 1) := by decide +kernel
theorem dX6_take_99 : decode cX6_take 99 = .ok (.getfield 71, 3) := by decide +kernel
theorem dX6_take_102 : decode cX6_take 102 = .ok (.iaload, 1) := by decide +kernel
theorem dX6_take_103 : decode cX6_take 103 = .ok (.invokevirtual 90, 3) := by decide +kernel
theorem dX6_take_106 : decode cX6_take 106 = .ok (.ireturn, 1) := by decide +kernel
theorem dX6_take_107 : decode cX6_take 107 = .ok (.aload_n 0, 1) := by decide +kernel
theorem dX6_take_108 : decode cX6_take 108 = .ok (.aload_n 0, 1) := by decide +kernel
theorem dX6_take_109 : decode cX6_take 109 = .ok (.getfield 36, 3) := by decide +kernel
theorem dX6_take_112 : decode cX6_take 112 = .ok (.aload_n 0, 1) := by decide +kernel
theorem dX6_take_113 : decode cX6_take 113 = .ok (.getfield 71, 3) := by decide +kernel
theorem dX6_take_116 : decode cX6_take 116 = .ok (.iaload, 1) := by decide +kernel
theorem dX6_take_117 : decode cX6_take 117 = .ok (.invokevirtual 90, 3) := by decide +kernel
theorem dX6_take_120 : decode cX6_take 120 = .ok (.ireturn, 1) := by decide +kernel
theorem dX6_take_121 : decode cX6_take 121 = .ok (.aload_n 0, 1) := by decide +kernel
theorem dX6_take_122 : decode cX6_take 122 = .ok (.aload_n 0, 1) := by decide +kernel
theorem dX6_take_123 : decode cX6_take 123 = .ok (.getfield 42, 3) := by decide +kernel
theorem dX6_take_126 : decode cX6_take 126 = .ok (.iconst 2, 1) := by decide +kernel
theorem dX6_take_127 : decode cX6_take 127 = .ok (.iaload, 1) := by decide +kernel
theorem dX6_take_128 : decode cX6_take 128 = .ok (.invokevirtual 90, 3) := by decide +kernel
theorem dX6_take_131 : decode cX6_take 131 = .ok (.ireturn, 1) := by decide +kernel
theorem dX6_take_132 : decode cX6_take 132 = .ok (.aload_n 0, 1) := by decide +kernel
theorem dX6_take_133 : decode cX6_take 133 = .ok (.iconst 0, 1) := by decide +kernel
theorem dX6_take_134 : decode cX6_take 134 = .ok (.invokevirtual 90, 3) := by decide +kernel
theorem dX6_take_137 : decode cX6_take 137 = .ok (.ireturn, 1) := by decide +kernel
theorem dX6_apply_0 : decode cX6_apply 0 = .ok (.iload_n 1, 1) := by decide +kernel
theorem dX6_apply_1 : decode cX6_apply 1 = .ok (.ifCond .lt 30, 3) := by decide +kernel
theorem dX6_apply_4 : decode cX6_apply 4 = .ok (.iload_n 1, 1) := by decide +kernel
theorem dX6_apply_5 : decode cX6_apply 5 = .ok (.aload_n 0, 1) := by decide +kernel
theorem dX6_apply_6 : decode cX6_apply 6 = .ok (.getfield 45, 3) := by decide +kernel
theorem dX6_apply_9 : decode cX6_apply 9 = .ok (.getfield 93, 3) := by decide +kernel
theorem dX6_apply_12 : decode cX6_apply 12 = .ok (.if_icmp .ge 19, 3) := by decide +kernel
theorem dX6_apply_15 : decode cX6_apply 15 = .ok (.aload_n 0, 1) := by decide +kernel
theorem dX6_apply_16 : decode cX6_apply 16 = .ok (.getfield 68, 3) := by decide +kernel
theorem dX6_apply_19 : decode cX6_apply 19 = .ok (.aload_n 0, 1) := by decide +kernel
theorem dX6_apply_20 : decode cX6_apply 20 = .ok (.getfield 45, 3) := by decide +kernel
theorem dX6_apply_23 : decode cX6_apply 23 = .ok (.getfield 98, 3) := by decide +kernel
theorem dX6_apply_26 : decode cX6_apply 26 = .ok (.iload_n 1, 1) := by decide +kernel
theorem dX6_apply_27 : decode cX6_apply 27 = .ok (.iaload, 1) := by decide +kernel
theorem dX6_apply_28 : decode cX6_apply 28 = .ok (.if_icmp .ge 5, 3) := by decide +kernel
theorem dX6_apply_31 : decode cX6_apply 31 = .ok (.iconst 0, 1) := by decide +kernel
theorem dX6_apply_32 : decode cX6_apply 32 = .ok (.ireturn, 1) := by decide +kernel
theorem dX6_apply_33 : decode cX6_apply 33 = .ok (.aload_n 0, 1) := by decide +kernel
theorem dX6_apply_34 : decode cX6_apply 34 = .ok (.getfield 45, 3) := by decide +kernel
theorem dX6_apply_37 : decode cX6_apply 37 = .ok (.getfield 98, 3) := by decide +kernel
theorem dX6_apply_40 : decode cX6_apply 40 = .ok (.iload_n 1, 1) := by decide +kernel
theorem dX6_apply_41 : decode cX6_apply 41 = .ok (.iaload, 1) := by decide +kernel
theorem dX6_apply_42 : decode cX6_apply 42 = .ok (.istore_n 2, 1) := by decide +kernel
theorem dX6_apply_43 : decode cX6_apply 43 = .ok (.aload_n 0, 1) := by decide +kernel
theorem dX6_apply_44 : decode cX6_apply 44 = .ok (.dup, 1) := by decide +kernel
theorem dX6_apply_45 : decode cX6_apply 45 = .ok (.getfield 68, 3) := by decide +kernel
theorem dX6_apply_48 : decode cX6_apply 48 = .ok (.iload_n 2, 1) := by decide +kernel
theorem dX6_apply_49 : decode cX6_apply 49 = .ok (.isub, 1) := by decide +kernel
theorem dX6_apply_50 : decode cX6_apply 50 = .ok (.putfield 68, 3) := by decide +kernel
theorem dX6_apply_53 : decode cX6_apply 53 = .ok (.aload_n 0, 1) := by decide +kernel
theorem dX6_apply_54 : decode cX6_apply 54 = .ok (.getfield 39, 3) := by decide +kernel
theorem dX6_apply_57 : decode cX6_apply 57 = .ok (.aload_n 0, 1) := by decide +kernel
theorem dX6_apply_58 : decode cX6_apply 58 = .ok (.getfield 68, 3) := by decide +kernel
theorem dX6_apply_61 : decode cX6_apply 61 = .ok (.iload_n 2, 1) := by decide +kernel
theorem dX6_apply_62 : decode cX6_apply 62 = .ok (.iadd, 1) := by decide +kernel
theorem dX6_apply_63 : decode cX6_apply 63 = .ok (.iconst 1, 1) := by decide +kernel
theorem dX6_apply_64 : decode cX6_apply 64 = .ok (.isub, 1) := by decide +kernel
theorem dX6_apply_65 : decode cX6_apply 65 = .ok (.iaload, 1) := by decide +kernel
theorem dX6_apply_66 : decode cX6_apply 66 = .ok (.istore_n 3, 1) := by decide +kernel
theorem dX6_apply_67 : decode cX6_apply 67 = .ok (.aload_n 0, 1) := by decide +kernel
theorem dX6_apply_68 : decode cX6_apply 68 = .ok (.getfield 39, 3) := by decide +kernel
theorem dX6_apply_71 : decode cX6_apply 71 = .ok (.aload_n 0, 1) := by decide +kernel
theorem dX6_apply_72 : decode cX6_apply 72 = .ok (.getfield 68, 3) := by decide +kernel
theorem dX6_apply_75 : decode cX6_apply 75 = .ok (.iaload, 1) := by decide +kernel
theorem dX6_apply_76 : decode cX6_apply 76 = .ok (.istore 4, 2) := by decide +kernel
theorem dX6_apply_78 : decode cX6_apply 78 = .ok (.aload_n 0, 1) := by decide +kernel
theorem dX6_apply_79 : decode cX6_apply 79 = .ok (.iload_n 1, 1) := by decide +kernel
theorem dX6_apply_80 : decode cX6_apply 80 = .ok (.iload_n 3, 1) := by decide +kernel
theorem dX6_apply_81 : decode cX6_apply 81 = .ok (.invokevirtual 101, 3) := by decide +kernel
theorem dX6_apply_84 : decode cX6_apply 84 = .ok (.istore 5, 2) := by decide +kernel
theorem dX6_apply_86 : decode cX6_apply 86 = .ok (.iload 5, 2) := by decide +kernel
theorem dX6_apply_88 : decode cX6_apply 88 = .ok (.bipush (-9), 2) := by decide +kernel
theorem dX6_apply_90 : decode cX6_apply 90 = .ok (.if_icmp .ne 19, 3) := by decide +kernel
theorem dX6_apply_93 : decode cX6_apply 93 = .ok (.aload_n 0, 1) := by decide +kernel
theorem dX6_apply_94 : decode cX6_apply 94 = .ok (.aload_n 0, 1) := by decide +kernel
theorem dX6_apply_95 : decode cX6_apply 95 = .ok (.bipush 97, 2) := by decide +kernel
theorem dX6_apply_97 : decode cX6_apply 97 = .ok (.iload_n 1, 1) := by decide +kernel
theorem dX6_apply_98 : decode cX6_apply 98 = .ok (.iadd, 1) := by decide +kernel
theorem dX6_apply_99 : decode cX6_apply 99 = .ok (.iload_n 3, 1) := by decide +kernel
theorem dX6_apply_100 : decode cX6_apply 100 = .ok (.iload 4, 2) := by decide +kernel
theorem dX6_apply_102 : decode cX6_apply 102 = .ok (.invokevirtual 53, 3) := by decide +kernel
theorem dX6_apply_105 : decode cX6_apply 105 = .ok (.invokevirtual 90, 3) := by decide +kernel
theorem dX6_apply_108 : decode cX6_apply 108 = .ok (.ireturn, 1) := by decide +kernel
theorem dX6_apply_109 : decode cX6_apply 109 = .ok (.aload_n 0, 1) := by decide +kernel
theorem dX6_apply_110 : decode cX6_apply 110 = .ok (.getfield 45, 3) := by decide +kernel
theorem dX6_apply_113 : decode cX6_apply 113 = .ok (.iload_n 1, 1) := by decide +kernel
theorem dX6_apply_114 : decode cX6_apply 114 = .ok (.iload 5, 2) := by decide +kernel
theorem dX6_apply_116 : decode cX6_apply 116 = .ok (.invokevirtual 105, 3) := by decide +kernel
theorem dX6_apply_119 : decode cX6_apply 119 = .ok (.astore 6, 2) := by decide +kernel
theorem dX6_apply_121 : decode cX6_apply 121 = .ok (.aload_n 0, 1) := by decide +kernel
theorem dX6_apply_122 : decode cX6_apply 122 = .ok (.dup, 1) := by decide +kernel
theorem dX6_apply_123 : decode cX6_apply 123 = .ok (.getfield 65, 3) := by decide +kernel
theorem dX6_apply_126 : decode cX6_apply 126 = .ok (.iconst 1, 1) := by decide +kernel
theorem dX6_apply_127 : decode cX6_apply 127 = .ok (.iadd, 1) := by decide +kernel
theorem dX6_apply_128 : decode cX6_apply 128 = .ok (.putfield 65, 3) := by decide +kernel
theorem dX6_apply_131 : decode cX6_apply 131 = .ok (.aload 6, 2) := by decide +kernel
theorem dX6_apply_133 : decode cX6_apply 133 = .ok (.ifnull 23, 3) := by decide +kernel
theorem dX6_apply_136 : decode cX6_apply 136 = .ok (.aload_n 0, 1) := by decide +kernel
theorem dX6_apply_137 : decode cX6_apply 137 = .ok (.getfield 65, 3) := by decide +kernel
theorem dX6_apply_140 : decode cX6_apply 140 = .ok (.bipush 50, 2) := by decide +kernel
theorem dX6_apply_142 : decode cX6_apply 142 = .ok (.if_icmp .gt 14, 3) := by decide +kernel
theorem dX6_apply_145 : decode cX6_apply 145 = .ok (.aload_n 0, 1) := by decide +kernel
theorem dX6_apply_146 : decode cX6_apply 146 = .ok (.getfield 71, 3) := by decide +kernel
theorem dX6_apply_149 : decode cX6_apply 149 = .ok (.iconst 1, 1) := by decide +kernel
theorem dX6_apply_150 : decode cX6_apply 150 = .ok (.iadd, 1) := by decide +kernel
theorem dX6_apply_151 : decode cX6_apply 151 = .ok (.bipush 51, 2) := by decide +kernel
theorem dX6_apply_153 : decode cX6_apply 153 = .ok (.if_icmp .lt 5, 3) := by decide +kernel
theorem dX6_apply_156 : decode cX6_apply 156 = .ok (.iconst 0, 1) := by decide +kernel
theorem dX6_apply_157 : decode cX6_apply 157 = .ok (.ireturn, 1) := by decide +kernel
theorem dX6_apply_158 : decode cX6_apply 158 = .ok (.aload_n 0, 1) := by decide +kernel
theorem dX6_apply_159 : decode cX6_apply 159 = .ok (.dup, 1) := by decide +kernel
theorem dX6_apply_160 : decode cX6_apply 160 = .ok (.getfield 71, 3) := by decide +kernel
theorem dX6_apply_163 : decode cX6_apply 163 = .ok (.iconst 1, 1) := by decide +kernel
theorem dX6_apply_164 : decode cX6_apply 164 = .ok (.iadd, 1) := by decide +kernel
theorem dX6_apply_165 : decode cX6_apply 165 = .ok (.putfield 71, 3) := by decide +kernel
theorem dX6_apply_168 : decode cX6_apply 168 = .ok (.aload_n 0, 1) := by decide +kernel
theorem dX6_apply_169 : decode cX6_apply 169 = .ok (.getfield 26, 3) := by decide +kernel
theorem dX6_apply_172 : decode cX6_apply 172 = .ok (.aload_n 0, 1) := by decide +kernel
theorem dX6_apply_173 : decode cX6_apply 173 = .ok (.getfield 71, 3) := by decide +kernel
theorem dX6_apply_176 : decode cX6_apply 176 = .ok (.aload 6, 2) := by decide +kernel
theorem dX6_apply_178 : decode cX6_apply 178 = .ok (.aastore, 1) := by decide +kernel
theorem dX6_apply_179 : decode cX6_apply 179 = .ok (.aload_n 0, 1) := by decide +kernel
theorem dX6_apply_180 : decode cX6_apply 180 = .ok (.getfield 30, 3) := by decide +kernel
theorem dX6_apply_183 : decode cX6_apply 183 = .ok (.aload_n 0, 1) := by decide +kernel
theorem dX6_apply_184 : decode cX6_apply 184 = .ok (.getfield 71, 3) := by decide +kernel
theorem dX6_apply_187 : decode cX6_apply 187 = .ok (.aload 6, 2) := by decide +kernel
theorem dX6_apply_189 : decode cX6_apply 189 = .ok (.getfield 74, 3) := by decide +kernel
theorem dX6_apply_192 : decode cX6_apply 192 = .ok (.iastore, 1) := by decide +kernel
theorem dX6_apply_193 : decode cX6_apply 193 = .ok (.aload_n 0, 1) := by decide +kernel
theorem dX6_apply_194 : decode cX6_apply 194 = .ok (.getfield 33, 3) := by decide +kernel
theorem dX6_apply_197 : decode cX6_apply 197 = .ok (.aload_n 0, 1) := by decide +kernel
theorem dX6_apply_198 : decode cX6_apply 198 = .ok (.getfield 71, 3) := by decide +kernel
theorem dX6_apply_201 : decode cX6_apply 201 = .ok (.aload_n 0, 1) := by decide +kernel
theorem dX6_apply_202 : decode cX6_apply 202 = .ok (.getfield 45, 3) := by decide +kernel
theorem dX6_apply_205 : decode cX6_apply 205 = .ok (.getfield 109, 3) := by decide +kernel
theorem dX6_apply_208 : decode cX6_apply 208 = .ok (.iload_n 1, 1) := by decide +kernel
theorem dX6_apply_209 : decode cX6_apply 209 = .ok (.iaload, 1) := by decide +kernel
theorem dX6_apply_210 : decode cX6_apply 210 = .ok (.iconst 1, 1) := by decide +kernel
theorem dX6_apply_211 : decode cX6_apply 211 = .ok (.if_icmp .ne 12, 3) := by decide +kernel
theorem dX6_apply_214 : decode cX6_apply 214 = .ok (.aload_n 0, 1) := by decide +kernel
theorem dX6_apply_215 : decode cX6_apply 215 = .ok (.getfield 15, 3) := by decide +kernel
theorem dX6_apply_218 : decode cX6_apply 218 = .ok (.iload_n 3, 1) := by decide +kernel
theorem dX6_apply_219 : decode cX6_apply 219 = .ok (.iaload, 1) := by decide +kernel
theorem dX6_apply_220 : decode cX6_apply 220 = .ok (.goto 14, 3) := by decide +kernel
theorem dX6_apply_223 : decode cX6_apply 223 = .ok (.aload_n 0, 1) := by decide +kernel
theorem dX6_apply_224 : decode cX6_apply 224 = .ok (.getfield 15, 3) := by decide +kernel
theorem dX6_apply_227 : decode cX6_apply 227 = .ok (.aload_n 0, 1) := by decide +kernel
theorem dX6_apply_228 : decode cX6_apply 228 = .ok (.getfield 15, 3) := by decide +kernel
theorem dX6_apply_231 : decode cX6_apply 231 = .ok (.iload_n 3, 1) := by decide +kernel
theorem dX6_apply_232 : decode cX6_apply 232 = .ok (.iaload, 1) := by decide +kernel
theorem dX6_apply_233 : decode cX6_apply 233 = .ok (.iaload, 1) := by decide +kernel
theorem dX6_apply_234 : decode cX6_apply 234 = .ok (.iastore, 1) := by decide +kernel
theorem dX6_apply_235 : decode cX6_apply 235 = .ok (.aload_n 0, 1) := by decide +kernel
theorem dX6_apply_236 : decode cX6_apply 236 = .ok (.getfield 36, 3) := by decide +kernel
theorem dX6_apply_239 : decode cX6_apply 239 = .ok (.aload_n 0, 1) := by decide +kernel
theorem dX6_apply_240 : decode cX6_apply 240 = .ok (.getfield 71, 3) := by decide +kernel
theorem dX6_apply_243 : decode cX6_apply 243 = .ok (.iload 4, 2) := by decide +kernel
theorem dX6_apply_245 : decode cX6_apply 245 = .ok (.iastore, 1) := by decide +kernel
theorem dX6_apply_246 : decode cX6_apply 246 = .ok (.iconst 1, 1) := by decide +kernel
theorem dX6_apply_247 : decode cX6_apply 247 = .ok (.ireturn, 1) := by decide +kernel
theorem dX6_bodyFor_0 : decode cX6_bodyFor 0 = .ok (.aload_n 0, 1) := by decide +kernel
theorem dX6_bodyFor_1 : decode cX6_bodyFor 1 = .ok (.getfield 11, 3) := by decide +kernel
theorem dX6_bodyFor_4 : decode cX6_bodyFor 4 = .ok (.iload_n 2, 1) := by decide +kernel
theorem dX6_bodyFor_5 : decode cX6_bodyFor 5 = .ok (.iaload, 1) := by decide +kernel
theorem dX6_bodyFor_6 : decode cX6_bodyFor 6 = .ok (.bipush 90, 2) := by decide +kernel
theorem dX6_bodyFor_8 : decode cX6_bodyFor 8 = .ok (.if_icmp .ne 5, 3) := by decide +kernel
theorem dX6_bodyFor_11 : decode cX6_bodyFor 11 = .ok (.iconst 0, 1) := by decide +kernel
theorem dX6_bodyFor_12 : decode cX6_bodyFor 12 = .ok (.ireturn, 1) := by decide +kernel
theorem dX6_bodyFor_13 : decode cX6_bodyFor 13 = .ok (.aload_n 0, 1) := by decide +kernel
theorem dX6_bodyFor_14 : decode cX6_bodyFor 14 = .ok (.getfield 11, 3) := by decide +kernel
theorem dX6_bodyFor_17 : decode cX6_bodyFor 17 = .ok (.iload_n 2, 1) := by decide +kernel
theorem dX6_bodyFor_18 : decode cX6_bodyFor 18 = .ok (.iaload, 1) := by decide +kernel
theorem dX6_bodyFor_19 : decode cX6_bodyFor 19 = .ok (.bipush 83, 2) := by decide +kernel
theorem dX6_bodyFor_21 : decode cX6_bodyFor 21 = .ok (.if_icmp .eq 6, 3) := by decide +kernel
theorem dX6_bodyFor_24 : decode cX6_bodyFor 24 = .ok (.bipush (-9), 2) := by decide +kernel
theorem dX6_bodyFor_26 : decode cX6_bodyFor 26 = .ok (.ireturn, 1) := by decide +kernel
theorem dX6_bodyFor_27 : decode cX6_bodyFor 27 = .ok (.aload_n 0, 1) := by decide +kernel
theorem dX6_bodyFor_28 : decode cX6_bodyFor 28 = .ok (.getfield 45, 3) := by decide +kernel
theorem dX6_bodyFor_31 : decode cX6_bodyFor 31 = .ok (.getfield 109, 3) := by decide +kernel
theorem dX6_bodyFor_34 : decode cX6_bodyFor 34 = .ok (.iload_n 1, 1) := by decide +kernel
theorem dX6_bodyFor_35 : decode cX6_bodyFor 35 = .ok (.iaload, 1) := by decide +kernel
theorem dX6_bodyFor_36 : decode cX6_bodyFor 36 = .ok (.iconst 1, 1) := by decide +kernel
theorem dX6_bodyFor_37 : decode cX6_bodyFor 37 = .ok (.if_icmp .ne 5, 3) := by decide +kernel
theorem dX6_bodyFor_40 : decode cX6_bodyFor 40 = .ok (.iconst 2, 1) := by decide +kernel
theorem dX6_bodyFor_41 : decode cX6_bodyFor 41 = .ok (.ireturn, 1) := by decide +kernel
theorem dX6_bodyFor_42 : decode cX6_bodyFor 42 = .ok (.aload_n 0, 1) := by decide +kernel
theorem dX6_bodyFor_43 : decode cX6_bodyFor 43 = .ok (.getfield 11, 3) := by decide +kernel
theorem dX6_bodyFor_46 : decode cX6_bodyFor 46 = .ok (.aload_n 0, 1) := by decide +kernel
theorem dX6_bodyFor_47 : decode cX6_bodyFor 47 = .ok (.getfield 15, 3) := by decide +kernel
theorem dX6_bodyFor_50 : decode cX6_bodyFor 50 = .ok (.iload_n 2, 1) := by decide +kernel
theorem dX6_bodyFor_51 : decode cX6_bodyFor 51 = .ok (.iaload, 1) := by decide +kernel
theorem dX6_bodyFor_52 : decode cX6_bodyFor 52 = .ok (.iaload, 1) := by decide +kernel
theorem dX6_bodyFor_53 : decode cX6_bodyFor 53 = .ok (.istore_n 3, 1) := by decide +kernel
theorem dX6_bodyFor_54 : decode cX6_bodyFor 54 = .ok (.iload_n 3, 1) := by decide +kernel
theorem dX6_bodyFor_55 : decode cX6_bodyFor 55 = .ok (.bipush 90, 2) := by decide +kernel
theorem dX6_bodyFor_57 : decode cX6_bodyFor 57 = .ok (.if_icmp .ne 7, 3) := by decide +kernel
theorem dX6_bodyFor_60 : decode cX6_bodyFor 60 = .ok (.iconst 1, 1) := by decide +kernel
theorem dX6_bodyFor_61 : decode cX6_bodyFor 61 = .ok (.goto 15, 3) := by decide +kernel
theorem dX6_bodyFor_64 : decode cX6_bodyFor 64 = .ok (.iload_n 3, 1) := by decide +kernel
theorem dX6_bodyFor_65 : decode cX6_bodyFor 65 = .ok (.bipush 83, 2) := by decide +kernel
theorem dX6_bodyFor_67 : decode cX6_bodyFor 67 = .ok (.if_icmp .ne 7, 3) := by decide +kernel
theorem dX6_bodyFor_70 : decode cX6_bodyFor 70 = .ok (.iconst 2, 1) := by decide +kernel
theorem dX6_bodyFor_71 : decode cX6_bodyFor 71 = .ok (.goto 5, 3) := by decide +kernel
theorem dX6_bodyFor_74 : decode cX6_bodyFor 74 = .ok (.bipush (-9), 2) := by decide +kernel
theorem dX6_bodyFor_76 : decode cX6_bodyFor 76 = .ok (.ireturn, 1) := by decide +kernel
theorem dX6_make_0 : decode cX6_make 0 = .ok (.iload_n 2, 1) := by decide +kernel
theorem dX6_make_1 : decode cX6_make 1 = .ok (.ifCond .lt 33, 3) := by decide +kernel
theorem dX6_make_4 : decode cX6_make 4 = .ok (.iload_n 2, 1) := by decide +kernel
theorem dX6_make_5 : decode cX6_make 5 = .ok (.aload_n 0, 1) := by decide +kernel
theorem dX6_make_6 : decode cX6_make 6 = .ok (.getfield 49, 3) := by decide +kernel
theorem dX6_make_9 : decode cX6_make 9 = .ok (.if_icmp .ge 25, 3) := by decide +kernel
theorem dX6_make_12 : decode cX6_make 12 = .ok (.iload_n 3, 1) := by decide +kernel
theorem dX6_make_13 : decode cX6_make 13 = .ok (.ifCond .lt 21, 3) := by decide +kernel
theorem dX6_make_16 : decode cX6_make 16 = .ok (.iload_n 3, 1) := by decide +kernel
theorem dX6_make_17 : decode cX6_make 17 = .ok (.aload_n 0, 1) := by decide +kernel
theorem dX6_make_18 : decode cX6_make 18 = .ok (.getfield 49, 3) := by decide +kernel
theorem dX6_make_21 : decode cX6_make 21 = .ok (.if_icmp .ge 13, 3) := by decide +kernel
theorem dX6_make_24 : decode cX6_make 24 = .ok (.aload_n 0, 1) := by decide +kernel
theorem dX6_make_25 : decode cX6_make 25 = .ok (.getfield 49, 3) := by decide +kernel
theorem dX6_make_28 : decode cX6_make 28 = .ok (.sipush 546, 3) := by decide +kernel
theorem dX6_make_31 : decode cX6_make 31 = .ok (.if_icmp .lt 6, 3) := by decide +kernel
theorem dX6_make_34 : decode cX6_make 34 = .ok (.bipush (-9), 2) := by decide +kernel
theorem dX6_make_36 : decode cX6_make 36 = .ok (.ireturn, 1) := by decide +kernel
theorem dX6_make_37 : decode cX6_make 37 = .ok (.iconst 1, 1) := by decide +kernel
theorem dX6_make_38 : decode cX6_make 38 = .ok (.aload_n 0, 1) := by decide +kernel
theorem dX6_make_39 : decode cX6_make 39 = .ok (.getfield 21, 3) := by decide +kernel
theorem dX6_make_42 : decode cX6_make 42 = .ok (.iload_n 2, 1) := by decide +kernel
theorem dX6_make_43 : decode cX6_make 43 = .ok (.iaload, 1) := by decide +kernel
theorem dX6_make_44 : decode cX6_make 44 = .ok (.iadd, 1) := by decide +kernel
theorem dX6_make_45 : decode cX6_make 45 = .ok (.aload_n 0, 1) := by decide +kernel
theorem dX6_make_46 : decode cX6_make 46 = .ok (.getfield 45, 3) := by decide +kernel
theorem dX6_make_49 : decode cX6_make 49 = .ok (.getfield 112, 3) := by decide +kernel
theorem dX6_make_52 : decode cX6_make 52 = .ok (.iload_n 1, 1) := by decide +kernel
theorem dX6_make_53 : decode cX6_make 53 = .ok (.iaload, 1) := by decide +kernel
theorem dX6_make_54 : decode cX6_make 54 = .ok (.iconst 2, 1) := by decide +kernel
theorem dX6_make_55 : decode cX6_make 55 = .ok (.if_icmp .ne 12, 3) := by decide +kernel
theorem dX6_make_58 : decode cX6_make 58 = .ok (.aload_n 0, 1) := by decide +kernel
theorem dX6_make_59 : decode cX6_make 59 = .ok (.getfield 21, 3) := by decide +kernel
theorem dX6_make_62 : decode cX6_make 62 = .ok (.iload_n 3, 1) := by decide +kernel
theorem dX6_make_63 : decode cX6_make 63 = .ok (.iaload, 1) := by decide +kernel
theorem dX6_make_64 : decode cX6_make 64 = .ok (.goto 4, 3) := by decide +kernel
theorem dX6_make_67 : decode cX6_make 67 = .ok (.iconst 0, 1) := by decide +kernel
theorem dX6_make_68 : decode cX6_make 68 = .ok (.iadd, 1) := by decide +kernel
theorem dX6_make_69 : decode cX6_make 69 = .ok (.istore 4, 2) := by decide +kernel
theorem dX6_make_71 : decode cX6_make 71 = .ok (.iload 4, 2) := by decide +kernel
theorem dX6_make_73 : decode cX6_make 73 = .ok (.bipush 40, 2) := by decide +kernel
theorem dX6_make_75 : decode cX6_make 75 = .ok (.if_icmp .le 6, 3) := by decide +kernel
theorem dX6_make_78 : decode cX6_make 78 = .ok (.bipush (-9), 2) := by decide +kernel
theorem dX6_make_80 : decode cX6_make 80 = .ok (.ireturn, 1) := by decide +kernel
theorem dX6_make_81 : decode cX6_make 81 = .ok (.aload_n 0, 1) := by decide +kernel
theorem dX6_make_82 : decode cX6_make 82 = .ok (.getfield 11, 3) := by decide +kernel
theorem dX6_make_85 : decode cX6_make 85 = .ok (.aload_n 0, 1) := by decide +kernel
theorem dX6_make_86 : decode cX6_make 86 = .ok (.getfield 49, 3) := by decide +kernel
theorem dX6_make_89 : decode cX6_make 89 = .ok (.iload_n 1, 1) := by decide +kernel
theorem dX6_make_90 : decode cX6_make 90 = .ok (.iastore, 1) := by decide +kernel
theorem dX6_make_91 : decode cX6_make 91 = .ok (.aload_n 0, 1) := by decide +kernel
theorem dX6_make_92 : decode cX6_make 92 = .ok (.getfield 15, 3) := by decide +kernel
theorem dX6_make_95 : decode cX6_make 95 = .ok (.aload_n 0, 1) := by decide +kernel
theorem dX6_make_96 : decode cX6_make 96 = .ok (.getfield 49, 3) := by decide +kernel
theorem dX6_make_99 : decode cX6_make 99 = .ok (.iload_n 2, 1) := by decide +kernel
theorem dX6_make_100 : decode cX6_make 100 = .ok (.iastore, 1) := by decide +kernel
theorem dX6_make_101 : decode cX6_make 101 = .ok (.aload_n 0, 1) := by decide +kernel
theorem dX6_make_102 : decode cX6_make 102 = .ok (.getfield 18, 3) := by decide +kernel
theorem dX6_make_105 : decode cX6_make 105 = .ok (.aload_n 0, 1) := by decide +kernel
theorem dX6_make_106 : decode cX6_make 106 = .ok (.getfield 49, 3) := by decide +kernel
theorem dX6_make_109 : decode cX6_make 109 = .ok (.iload_n 3, 1) := by decide +kernel
theorem dX6_make_110 : decode cX6_make 110 = .ok (.iastore, 1) := by decide +kernel
theorem dX6_make_111 : decode cX6_make 111 = .ok (.aload_n 0, 1) := by decide +kernel
theorem dX6_make_112 : decode cX6_make 112 = .ok (.getfield 21, 3) := by decide +kernel
theorem dX6_make_115 : decode cX6_make 115 = .ok (.aload_n 0, 1) := by decide +kernel
theorem dX6_make_116 : decode cX6_make 116 = .ok (.getfield 49, 3) := by decide +kernel
theorem dX6_make_119 : decode cX6_make 119 = .ok (.iload 4, 2) := by decide +kernel
theorem dX6_make_121 : decode cX6_make 121 = .ok (.iastore, 1) := by decide +kernel
theorem dX6_make_122 : decode cX6_make 122 = .ok (.aload_n 0, 1) := by decide +kernel
theorem dX6_make_123 : decode cX6_make 123 = .ok (.dup, 1) := by decide +kernel
theorem dX6_make_124 : decode cX6_make 124 = .ok (.getfield 49, 3) := by decide +kernel
theorem dX6_make_127 : decode cX6_make 127 = .ok (.iconst 1, 1) := by decide +kernel
theorem dX6_make_128 : decode cX6_make 128 = .ok (.iadd, 1) := by decide +kernel
theorem dX6_make_129 : decode cX6_make 129 = .ok (.putfield 49, 3) := by decide +kernel
theorem dX6_make_132 : decode cX6_make 132 = .ok (.aload_n 0, 1) := by decide +kernel
theorem dX6_make_133 : decode cX6_make 133 = .ok (.getfield 49, 3) := by decide +kernel
theorem dX6_make_136 : decode cX6_make 136 = .ok (.iconst 1, 1) := by decide +kernel
theorem dX6_make_137 : decode cX6_make 137 = .ok (.isub, 1) := by decide +kernel
theorem dX6_make_138 : decode cX6_make 138 = .ok (.ireturn, 1) := by decide +kernel
theorem dX6_push_0 : decode cX6_push 0 = .ok (.iload_n 1, 1) := by decide +kernel
theorem dX6_push_1 : decode cX6_push 1 = .ok (.ifCond .lt 28, 3) := by decide +kernel
theorem dX6_push_4 : decode cX6_push 4 = .ok (.iload_n 1, 1) := by decide +kernel
theorem dX6_push_5 : decode cX6_push 5 = .ok (.aload_n 0, 1) := by decide +kernel
theorem dX6_push_6 : decode cX6_push 6 = .ok (.getfield 49, 3) := by decide +kernel
theorem dX6_push_9 : decode cX6_push 9 = .ok (.if_icmp .ge 20, 3) := by decide +kernel
theorem dX6_push_12 : decode cX6_push 12 = .ok (.aload_n 0, 1) := by decide +kernel
theorem dX6_push_13 : decode cX6_push 13 = .ok (.getfield 68, 3) := by decide +kernel
theorem dX6_push_16 : decode cX6_push 16 = .ok (.ifCond .lt 13, 3) := by decide +kernel
theorem dX6_push_19 : decode cX6_push 19 = .ok (.aload_n 0, 1) := by decide +kernel
theorem dX6_push_20 : decode cX6_push 20 = .ok (.getfield 68, 3) := by decide +kernel
theorem dX6_push_23 : decode cX6_push 23 = .ok (.sipush 540, 3) := by decide +kernel
theorem dX6_push_26 : decode cX6_push 26 = .ok (.if_icmp .lt 5, 3) := by decide +kernel
theorem dX6_push_29 : decode cX6_push 29 = .ok (.iconst 0, 1) := by decide +kernel
theorem dX6_push_30 : decode cX6_push 30 = .ok (.ireturn, 1) := by decide +kernel
theorem dX6_push_31 : decode cX6_push 31 = .ok (.aload_n 0, 1) := by decide +kernel
theorem dX6_push_32 : decode cX6_push 32 = .ok (.getfield 39, 3) := by decide +kernel
theorem dX6_push_35 : decode cX6_push 35 = .ok (.aload_n 0, 1) := by decide +kernel
theorem dX6_push_36 : decode cX6_push 36 = .ok (.getfield 68, 3) := by decide +kernel
theorem dX6_push_39 : decode cX6_push 39 = .ok (.iload_n 1, 1) := by decide +kernel
theorem dX6_push_40 : decode cX6_push 40 = .ok (.iastore, 1) := by decide +kernel
theorem dX6_push_41 : decode cX6_push 41 = .ok (.aload_n 0, 1) := by decide +kernel
theorem dX6_push_42 : decode cX6_push 42 = .ok (.dup, 1) := by decide +kernel
theorem dX6_push_43 : decode cX6_push 43 = .ok (.getfield 68, 3) := by decide +kernel
theorem dX6_push_46 : decode cX6_push 46 = .ok (.iconst 1, 1) := by decide +kernel
theorem dX6_push_47 : decode cX6_push 47 = .ok (.iadd, 1) := by decide +kernel
theorem dX6_push_48 : decode cX6_push 48 = .ok (.putfield 68, 3) := by decide +kernel
theorem dX6_push_51 : decode cX6_push 51 = .ok (.iconst 1, 1) := by decide +kernel
theorem dX6_push_52 : decode cX6_push 52 = .ok (.ireturn, 1) := by decide +kernel
theorem dX6_write_0 : decode cX6_write 0 = .ok (.aload_n 1, 1) := by decide +kernel
theorem dX6_write_1 : decode cX6_write 1 = .ok (.invokevirtual 115, 3) := by decide +kernel
theorem dX6_write_4 : decode cX6_write 4 = .ok (.iconst 0, 1) := by decide +kernel
theorem dX6_write_5 : decode cX6_write 5 = .ok (.istore_n 2, 1) := by decide +kernel
theorem dX6_write_6 : decode cX6_write 6 = .ok (.iload_n 2, 1) := by decide +kernel
theorem dX6_write_7 : decode cX6_write 7 = .ok (.bipush 40, 2) := by decide +kernel
theorem dX6_write_9 : decode cX6_write 9 = .ok (.if_icmp .ge 101, 3) := by decide +kernel
theorem dX6_write_12 : decode cX6_write 12 = .ok (.aload_n 0, 1) := by decide +kernel
theorem dX6_write_13 : decode cX6_write 13 = .ok (.getfield 68, 3) := by decide +kernel
theorem dX6_write_16 : decode cX6_write 16 = .ok (.ifCond .le 94, 3) := by decide +kernel
theorem dX6_write_19 : decode cX6_write 19 = .ok (.aload_n 0, 1) := by decide +kernel
theorem dX6_write_20 : decode cX6_write 20 = .ok (.dup, 1) := by decide +kernel
theorem dX6_write_21 : decode cX6_write 21 = .ok (.getfield 68, 3) := by decide +kernel
theorem dX6_write_24 : decode cX6_write 24 = .ok (.iconst 1, 1) := by decide +kernel
theorem dX6_write_25 : decode cX6_write 25 = .ok (.isub, 1) := by decide +kernel
theorem dX6_write_26 : decode cX6_write 26 = .ok (.putfield 68, 3) := by decide +kernel
theorem dX6_write_29 : decode cX6_write 29 = .ok (.aload_n 0, 1) := by decide +kernel
theorem dX6_write_30 : decode cX6_write 30 = .ok (.getfield 39, 3) := by decide +kernel
theorem dX6_write_33 : decode cX6_write 33 = .ok (.aload_n 0, 1) := by decide +kernel
theorem dX6_write_34 : decode cX6_write 34 = .ok (.getfield 68, 3) := by decide +kernel
theorem dX6_write_37 : decode cX6_write 37 = .ok (.iaload, 1) := by decide +kernel
theorem dX6_write_38 : decode cX6_write 38 = .ok (.istore_n 3, 1) := by decide +kernel
theorem dX6_write_39 : decode cX6_write 39 = .ok (.aload_n 0, 1) := by decide +kernel
theorem dX6_write_40 : decode cX6_write 40 = .ok (.getfield 11, 3) := by decide +kernel
theorem dX6_write_43 : decode cX6_write 43 = .ok (.iload_n 3, 1) := by decide +kernel
theorem dX6_write_44 : decode cX6_write 44 = .ok (.iaload, 1) := by decide +kernel
theorem dX6_write_45 : decode cX6_write 45 = .ok (.istore 4, 2) := by decide +kernel
theorem dX6_write_47 : decode cX6_write 47 = .ok (.aload_n 1, 1) := by decide +kernel
theorem dX6_write_48 : decode cX6_write 48 = .ok (.iload 4, 2) := by decide +kernel
theorem dX6_write_50 : decode cX6_write 50 = .ok (.invokevirtual 118, 3) := by decide +kernel
theorem dX6_write_53 : decode cX6_write 53 = .ok (.pop, 1) := by decide +kernel
theorem dX6_write_54 : decode cX6_write 54 = .ok (.aload_n 0, 1) := by decide +kernel
theorem dX6_write_55 : decode cX6_write 55 = .ok (.getfield 45, 3) := by decide +kernel
theorem dX6_write_58 : decode cX6_write 58 = .ok (.getfield 112, 3) := by decide +kernel
theorem dX6_write_61 : decode cX6_write 61 = .ok (.iload 4, 2) := by decide +kernel
theorem dX6_write_63 : decode cX6_write 63 = .ok (.iaload, 1) := by decide +kernel
theorem dX6_write_64 : decode cX6_write 64 = .ok (.iconst 2, 1) := by decide +kernel
theorem dX6_write_65 : decode cX6_write 65 = .ok (.if_icmp .ne 14, 3) := by decide +kernel
theorem dX6_write_68 : decode cX6_write 68 = .ok (.aload_n 0, 1) := by decide +kernel
theorem dX6_write_69 : decode cX6_write 69 = .ok (.aload_n 0, 1) := by decide +kernel
theorem dX6_write_70 : decode cX6_write 70 = .ok (.getfield 18, 3) := by decide +kernel
theorem dX6_write_73 : decode cX6_write 73 = .ok (.iload_n 3, 1) := by decide +kernel
theorem dX6_write_74 : decode cX6_write 74 = .ok (.iaload, 1) := by decide +kernel
theorem dX6_write_75 : decode cX6_write 75 = .ok (.invokevirtual 90, 3) := by decide +kernel
theorem dX6_write_78 : decode cX6_write 78 = .ok (.pop, 1) := by decide +kernel
theorem dX6_write_79 : decode cX6_write 79 = .ok (.aload_n 0, 1) := by decide +kernel
theorem dX6_write_80 : decode cX6_write 80 = .ok (.getfield 45, 3) := by decide +kernel
theorem dX6_write_83 : decode cX6_write 83 = .ok (.getfield 112, 3) := by decide +kernel
theorem dX6_write_86 : decode cX6_write 86 = .ok (.iload 4, 2) := by decide +kernel
theorem dX6_write_88 : decode cX6_write 88 = .ok (.iaload, 1) := by decide +kernel
theorem dX6_write_89 : decode cX6_write 89 = .ok (.iconst 1, 1) := by decide +kernel
theorem dX6_write_90 : decode cX6_write 90 = .ok (.if_icmp .lt 14, 3) := by decide +kernel
theorem dX6_write_93 : decode cX6_write 93 = .ok (.aload_n 0, 1) := by decide +kernel
theorem dX6_write_94 : decode cX6_write 94 = .ok (.aload_n 0, 1) := by decide +kernel
theorem dX6_write_95 : decode cX6_write 95 = .ok (.getfield 15, 3) := by decide +kernel
theorem dX6_write_98 : decode cX6_write 98 = .ok (.iload_n 3, 1) := by decide +kernel
theorem dX6_write_99 : decode cX6_write 99 = .ok (.iaload, 1) := by decide +kernel
theorem dX6_write_100 : decode cX6_write 100 = .ok (.invokevirtual 90, 3) := by decide +kernel
theorem dX6_write_103 : decode cX6_write 103 = .ok (.pop, 1) := by decide +kernel
theorem dX6_write_104 : decode cX6_write 104 = .ok (.iinc 2 1, 3) := by decide +kernel
theorem dX6_write_107 : decode cX6_write 107 = .ok (.goto (-101), 3) := by decide +kernel
theorem dX6_write_110 : decode cX6_write 110 = .ok (.aload_n 1, 1) := by decide +kernel
theorem dX6_write_111 : decode cX6_write 111 = .ok (.aload_n 0, 1) := by decide +kernel
theorem dX6_write_112 : decode cX6_write 112 = .ok (.getfield 45, 3) := by decide +kernel
theorem dX6_write_115 : decode cX6_write 115 = .ok (.getfield 112, 3) := by decide +kernel
theorem dX6_write_118 : decode cX6_write 118 = .ok (.invokevirtual 121, 3) := by decide +kernel
theorem dX6_write_121 : decode cX6_write 121 = .ok (.return_, 1) := by decide +kernel
theorem dX7_init_0 : decode cX7_init 0 = .ok (.aload_n 0, 1) := by decide +kernel
theorem dX7_init_1 : decode cX7_init 1 = .ok (.invokespecial 3, 3) := by decide +kernel
theorem dX7_init_4 : decode cX7_init 4 = .ok (.aload_n 0, 1) := by decide +kernel
theorem dX7_init_5 : decode cX7_init 5 = .ok (.bipush 99, 2) := by decide +kernel
theorem dX7_init_7 : decode cX7_init 7 = .ok (.newarray .int, 2) := by decide +kernel
theorem dX7_init_9 : decode cX7_init 9 = .ok (.putfield 9, 3) := by decide +kernel
theorem dX7_init_12 : decode cX7_init 12 = .ok (.aload_n 0, 1) := by decide +kernel
theorem dX7_init_13 : decode cX7_init 13 = .ok (.bipush 99, 2) := by decide +kernel
theorem dX7_init_15 : decode cX7_init 15 = .ok (.newarray .int, 2) := by decide +kernel
theorem dX7_init_17 : decode cX7_init 17 = .ok (.putfield 15, 3) := by decide +kernel
theorem dX7_init_20 : decode cX7_init 20 = .ok (.aload_n 0, 1) := by decide +kernel
theorem dX7_init_21 : decode cX7_init 21 = .ok (.iconst 4, 1) := by decide +kernel
theorem dX7_init_22 : decode cX7_init 22 = .ok (.newarray .int, 2) := by decide +kernel
theorem dX7_init_24 : decode cX7_init 24 = .ok (.putfield 18, 3) := by decide +kernel
theorem dX7_init_27 : decode cX7_init 27 = .ok (.return_, 1) := by decide +kernel
theorem dX7_empty_0 : decode cX7_empty 0 = .ok (.aload_n 0, 1) := by decide +kernel
theorem dX7_empty_1 : decode cX7_empty 1 = .ok (.iconst 0, 1) := by decide +kernel
theorem dX7_empty_2 : decode cX7_empty 2 = .ok (.putfield 21, 3) := by decide +kernel
theorem dX7_empty_5 : decode cX7_empty 5 = .ok (.aload_n 0, 1) := by decide +kernel
theorem dX7_empty_6 : decode cX7_empty 6 = .ok (.iconst 0, 1) := by decide +kernel
theorem dX7_empty_7 : decode cX7_empty 7 = .ok (.putfield 25, 3) := by decide +kernel
theorem dX7_empty_10 : decode cX7_empty 10 = .ok (.return_, 1) := by decide +kernel
theorem dX7_write_0 : decode cX7_write 0 = .ok (.aload_n 0, 1) := by decide +kernel
theorem dX7_write_1 : decode cX7_write 1 = .ok (.getfield 21, 3) := by decide +kernel
theorem dX7_write_4 : decode cX7_write 4 = .ok (.ifCond .lt 42, 3) := by decide +kernel
theorem dX7_write_7 : decode cX7_write 7 = .ok (.aload_n 0, 1) := by decide +kernel
theorem dX7_write_8 : decode cX7_write 8 = .ok (.getfield 21, 3) := by decide +kernel
theorem dX7_write_11 : decode cX7_write 11 = .ok (.bipush 99, 2) := by decide +kernel
theorem dX7_write_13 : decode cX7_write 13 = .ok (.if_icmp .ge 33, 3) := by decide +kernel
theorem dX7_write_16 : decode cX7_write 16 = .ok (.aload_n 0, 1) := by decide +kernel
theorem dX7_write_17 : decode cX7_write 17 = .ok (.getfield 9, 3) := by decide +kernel
theorem dX7_write_20 : decode cX7_write 20 = .ok (.aload_n 0, 1) := by decide +kernel
theorem dX7_write_21 : decode cX7_write 21 = .ok (.getfield 21, 3) := by decide +kernel
theorem dX7_write_24 : decode cX7_write 24 = .ok (.iload_n 1, 1) := by decide +kernel
theorem dX7_write_25 : decode cX7_write 25 = .ok (.iastore, 1) := by decide +kernel
theorem dX7_write_26 : decode cX7_write 26 = .ok (.aload_n 0, 1) := by decide +kernel
theorem dX7_write_27 : decode cX7_write 27 = .ok (.getfield 15, 3) := by decide +kernel
theorem dX7_write_30 : decode cX7_write 30 = .ok (.aload_n 0, 1) := by decide +kernel
theorem dX7_write_31 : decode cX7_write 31 = .ok (.getfield 21, 3) := by decide +kernel
theorem dX7_write_34 : decode cX7_write 34 = .ok (.iload_n 2, 1) := by decide +kernel
theorem dX7_write_35 : decode cX7_write 35 = .ok (.iastore, 1) := by decide +kernel
theorem dX7_write_36 : decode cX7_write 36 = .ok (.aload_n 0, 1) := by decide +kernel
theorem dX7_write_37 : decode cX7_write 37 = .ok (.dup, 1) := by decide +kernel
theorem dX7_write_38 : decode cX7_write 38 = .ok (.getfield 21, 3) := by decide +kernel
theorem dX7_write_41 : decode cX7_write 41 = .ok (.iconst 1, 1) := by decide +kernel
theorem dX7_write_42 : decode cX7_write 42 = .ok (.iadd, 1) := by decide +kernel
theorem dX7_write_43 : decode cX7_write 43 = .ok (.putfield 21, 3) := by decide +kernel
theorem dX7_write_46 : decode cX7_write 46 = .ok (.return_, 1) := by decide +kernel
theorem dX7_blame_0 : decode cX7_blame 0 = .ok (.iload_n 1, 1) := by decide +kernel
theorem dX7_blame_1 : decode cX7_blame 1 = .ok (.ifCond .lt 29, 3) := by decide +kernel
theorem dX7_blame_4 : decode cX7_blame 4 = .ok (.iload_n 1, 1) := by decide +kernel
theorem dX7_blame_5 : decode cX7_blame 5 = .ok (.iconst 4, 1) := by decide +kernel
theorem dX7_blame_6 : decode cX7_blame 6 = .ok (.if_icmp .ge 24, 3) := by decide +kernel
theorem dX7_blame_9 : decode cX7_blame 9 = .ok (.aload_n 0, 1) := by decide +kernel
theorem dX7_blame_10 : decode cX7_blame 10 = .ok (.getfield 18, 3) := by decide +kernel
theorem dX7_blame_13 : decode cX7_blame 13 = .ok (.iload_n 1, 1) := by decide +kernel
theorem dX7_blame_14 : decode cX7_blame 14 = .ok (.iload_n 2, 1) := by decide +kernel
theorem dX7_blame_15 : decode cX7_blame 15 = .ok (.iastore, 1) := by decide +kernel
theorem dX7_blame_16 : decode cX7_blame 16 = .ok (.aload_n 0, 1) := by decide +kernel
theorem dX7_blame_17 : decode cX7_blame 17 = .ok (.aload_n 0, 1) := by decide +kernel
theorem dX7_blame_18 : decode cX7_blame 18 = .ok (.getfield 25, 3) := by decide +kernel
theorem dX7_blame_21 : decode cX7_blame 21 = .ok (.iload_n 1, 1) := by decide +kernel
theorem dX7_blame_22 : decode cX7_blame 22 = .ok (.iconst 1, 1) := by decide +kernel
theorem dX7_blame_23 : decode cX7_blame 23 = .ok (.iadd, 1) := by decide +kernel
theorem dX7_blame_24 : decode cX7_blame 24 = .ok (.invokestatic 28, 3) := by decide +kernel
theorem dX7_blame_27 : decode cX7_blame 27 = .ok (.putfield 25, 3) := by decide +kernel
theorem dX7_blame_30 : decode cX7_blame 30 = .ok (.return_, 1) := by decide +kernel
theorem dX8_init_0 : decode cX8_init 0 = .ok (.aload_n 0, 1) := by decide +kernel
theorem dX8_init_1 : decode cX8_init 1 = .ok (.invokespecial 3, 3) := by decide +kernel
theorem dX8_init_4 : decode cX8_init 4 = .ok (.aload_n 0, 1) := by decide +kernel
theorem dX8_init_5 : decode cX8_init 5 = .ok (.iconst 3, 1) := by decide +kernel
theorem dX8_init_6 : decode cX8_init 6 = .ok (.anewarray 9, 3) := by decide +kernel
theorem dX8_init_9 : decode cX8_init 9 = .ok (.putfield 11, 3) := by decide +kernel
theorem dX8_init_12 : decode cX8_init 12 = .ok (.aload_n 0, 1) := by decide +kernel
theorem dX8_init_13 : decode cX8_init 13 = .ok (.iconst 3, 1) := by decide +kernel
theorem dX8_init_14 : decode cX8_init 14 = .ok (.anewarray 9, 3) := by decide +kernel
theorem dX8_init_17 : decode cX8_init 17 = .ok (.putfield 17, 3) := by decide +kernel
theorem dX8_init_20 : decode cX8_init 20 = .ok (.aload_n 0, 1) := by decide +kernel
theorem dX8_init_21 : decode cX8_init 21 = .ok (.iconst 3, 1) := by decide +kernel
theorem dX8_init_22 : decode cX8_init 22 = .ok (.anewarray 9, 3) := by decide +kernel
theorem dX8_init_25 : decode cX8_init 25 = .ok (.putfield 20, 3) := by decide +kernel
theorem dX8_init_28 : decode cX8_init 28 = .ok (.aload_n 0, 1) := by decide +kernel
theorem dX8_init_29 : decode cX8_init 29 = .ok (.new 23, 3) := by decide +kernel
theorem dX8_init_32 : decode cX8_init 32 = .ok (.dup, 1) := by decide +kernel
theorem dX8_init_33 : decode cX8_init 33 = .ok (.invokespecial 25, 3) := by decide +kernel
theorem dX8_init_36 : decode cX8_init 36 = .ok (.putfield 26, 3) := by decide +kernel
theorem dX8_init_39 : decode cX8_init 39 = .ok (.aload_n 0, 1) := by decide +kernel
theorem dX8_init_40 : decode cX8_init 40 = .ok (.aload_n 1, 1) := by decide +kernel
theorem dX8_init_41 : decode cX8_init 41 = .ok (.putfield 30, 3) := by decide +kernel
theorem dX8_init_44 : decode cX8_init 44 = .ok (.aload_n 0, 1) := by decide +kernel
theorem dX8_init_45 : decode cX8_init 45 = .ok (.aload_n 2, 1) := by decide +kernel
theorem dX8_init_46 : decode cX8_init 46 = .ok (.putfield 34, 3) := by decide +kernel
theorem dX8_init_49 : decode cX8_init 49 = .ok (.aload_n 0, 1) := by decide +kernel
theorem dX8_init_50 : decode cX8_init 50 = .ok (.aload_n 3, 1) := by decide +kernel
theorem dX8_init_51 : decode cX8_init 51 = .ok (.putfield 38, 3) := by decide +kernel
theorem dX8_init_54 : decode cX8_init 54 = .ok (.aload_n 0, 1) := by decide +kernel
theorem dX8_init_55 : decode cX8_init 55 = .ok (.aload 4, 2) := by decide +kernel
theorem dX8_init_57 : decode cX8_init 57 = .ok (.putfield 42, 3) := by decide +kernel
theorem dX8_init_60 : decode cX8_init 60 = .ok (.aload_n 0, 1) := by decide +kernel
theorem dX8_init_61 : decode cX8_init 61 = .ok (.aload 5, 2) := by decide +kernel
theorem dX8_init_63 : decode cX8_init 63 = .ok (.putfield 46, 3) := by decide +kernel
theorem dX8_init_66 : decode cX8_init 66 = .ok (.aload_n 0, 1) := by decide +kernel
theorem dX8_init_67 : decode cX8_init 67 = .ok (.aload 6, 2) := by decide +kernel
theorem dX8_init_69 : decode cX8_init 69 = .ok (.putfield 50, 3) := by decide +kernel
theorem dX8_init_72 : decode cX8_init 72 = .ok (.iconst 0, 1) := by decide +kernel
theorem dX8_init_73 : decode cX8_init 73 = .ok (.istore 7, 2) := by decide +kernel
theorem dX8_init_75 : decode cX8_init 75 = .ok (.iload 7, 2) := by decide +kernel
theorem dX8_init_77 : decode cX8_init 77 = .ok (.iconst 3, 1) := by decide +kernel
theorem dX8_init_78 : decode cX8_init 78 = .ok (.if_icmp .ge 51, 3) := by decide +kernel
theorem dX8_init_81 : decode cX8_init 81 = .ok (.aload_n 0, 1) := by decide +kernel
theorem dX8_init_82 : decode cX8_init 82 = .ok (.getfield 11, 3) := by decide +kernel
theorem dX8_init_85 : decode cX8_init 85 = .ok (.iload 7, 2) := by decide +kernel
theorem dX8_init_87 : decode cX8_init 87 = .ok (.new 9, 3) := by decide +kernel
theorem dX8_init_90 : decode cX8_init 90 = .ok (.dup, 1) := by decide +kernel
theorem dX8_init_91 : decode cX8_init 91 = .ok (.invokespecial 54, 3) := by decide +kernel
theorem dX8_init_94 : decode cX8_init 94 = .ok (.aastore, 1) := by decide +kernel
theorem dX8_init_95 : decode cX8_init 95 = .ok (.aload_n 0, 1) := by decide +kernel
theorem dX8_init_96 : decode cX8_init 96 = .ok (.getfield 17, 3) := by decide +kernel
theorem dX8_init_99 : decode cX8_init 99 = .ok (.iload 7, 2) := by decide +kernel
theorem dX8_init_101 : decode cX8_init 101 = .ok (.new 9, 3) := by decide +kernel
theorem dX8_init_104 : decode cX8_init 104 = .ok (.dup, 1) := by decide +kernel
theorem dX8_init_105 : decode cX8_init 105 = .ok (.invokespecial 54, 3) := by decide +kernel
theorem dX8_init_108 : decode cX8_init 108 = .ok (.aastore, 1) := by decide +kernel
theorem dX8_init_109 : decode cX8_init 109 = .ok (.aload_n 0, 1) := by decide +kernel
theorem dX8_init_110 : decode cX8_init 110 = .ok (.getfield 20, 3) := by decide +kernel
theorem dX8_init_113 : decode cX8_init 113 = .ok (.iload 7, 2) := by decide +kernel
theorem dX8_init_115 : decode cX8_init 115 = .ok (.new 9, 3) := by decide +kernel
theorem dX8_init_118 : decode cX8_init 118 = .ok (.dup, 1) := by decide +kernel
theorem dX8_init_119 : decode cX8_init 119 = .ok (.invokespecial 54, 3) := by decide +kernel
theorem dX8_init_122 : decode cX8_init 122 = .ok (.aastore, 1) := by decide +kernel
theorem dX8_init_123 : decode cX8_init 123 = .ok (.iinc 7 1, 3) := by decide +kernel
theorem dX8_init_126 : decode cX8_init 126 = .ok (.goto (-51), 3) := by decide +kernel
theorem dX8_init_129 : decode cX8_init 129 = .ok (.return_, 1) := by decide +kernel
theorem dX8_attempt_0 : decode cX8_attempt 0 = .ok (.iload_n 1, 1) := by decide +kernel
theorem dX8_attempt_1 : decode cX8_attempt 1 = .ok (.ifCond .lt 8, 3) := by decide +kernel
theorem dX8_attempt_4 : decode cX8_attempt 4 = .ok (.iload_n 1, 1) := by decide +kernel
theorem dX8_attempt_5 : decode cX8_attempt 5 = .ok (.iconst 3, 1) := by decide +kernel
theorem dX8_attempt_6 : decode cX8_attempt 6 = .ok (.if_icmp .lt 5, 3) := by decide +kernel
theorem dX8_attempt_9 : decode cX8_attempt 9 = .ok (.iconst 2, 1) := by decide +kernel
theorem dX8_attempt_10 : decode cX8_attempt 10 = .ok (.ireturn, 1) := by decide +kernel
theorem dX8_attempt_11 : decode cX8_attempt 11 = .ok (.aload_n 0, 1) := by decide +kernel
theorem dX8_attempt_12 : decode cX8_attempt 12 = .ok (.getfield 50, 3) := by decide +kernel
theorem dX8_attempt_15 : decode cX8_attempt 15 = .ok (.iconst 0, 1) := by decide +kernel
theorem dX8_attempt_16 : decode cX8_attempt 16 = .ok (.iload_n 1, 1) := by decide +kernel
theorem dX8_attempt_17 : decode cX8_attempt 17 = .ok (.invokevirtual 55, 3) := by decide +kernel
theorem dX8_attempt_20 : decode cX8_attempt 20 = .ok (.aload_n 0, 1) := by decide +kernel
theorem dX8_attempt_21 : decode cX8_attempt 21 = .ok (.getfield 34, 3) := by decide +kernel
theorem dX8_attempt_24 : decode cX8_attempt 24 = .ok (.aload_n 0, 1) := by decide +kernel
theorem dX8_attempt_25 : decode cX8_attempt 25 = .ok (.getfield 11, 3) := by decide +kernel
theorem dX8_attempt_28 : decode cX8_attempt 28 = .ok (.iload_n 1, 1) := by decide +kernel
theorem dX8_attempt_29 : decode cX8_attempt 29 = .ok (.aaload, 1) := by decide +kernel
theorem dX8_attempt_30 : decode cX8_attempt 30 = .ok (.invokevirtual 61, 3) := by decide +kernel
theorem dX8_attempt_33 : decode cX8_attempt 33 = .ok (.ifCond .eq 10, 3) := by decide +kernel
theorem dX8_attempt_36 : decode cX8_attempt 36 = .ok (.aload_n 0, 1) := by decide +kernel
theorem dX8_attempt_37 : decode cX8_attempt 37 = .ok (.iload_n 1, 1) := by decide +kernel
theorem dX8_attempt_38 : decode cX8_attempt 38 = .ok (.iconst 1, 1) := by decide +kernel
theorem dX8_attempt_39 : decode cX8_attempt 39 = .ok (.invokevirtual 67, 3) := by decide +kernel
theorem dX8_attempt_42 : decode cX8_attempt 42 = .ok (.ireturn, 1) := by decide +kernel
theorem dX8_attempt_43 : decode cX8_attempt 43 = .ok (.aload_n 0, 1) := by decide +kernel
theorem dX8_attempt_44 : decode cX8_attempt 44 = .ok (.getfield 17, 3) := by decide +kernel
theorem dX8_attempt_47 : decode cX8_attempt 47 = .ok (.iload_n 1, 1) := by decide +kernel
theorem dX8_attempt_48 : decode cX8_attempt 48 = .ok (.aaload, 1) := by decide +kernel
theorem dX8_attempt_49 : decode cX8_attempt 49 = .ok (.astore_n 2, 1) := by decide +kernel
theorem dX8_attempt_50 : decode cX8_attempt 50 = .ok (.aload_n 0, 1) := by decide +kernel
theorem dX8_attempt_51 : decode cX8_attempt 51 = .ok (.aload_n 0, 1) := by decide +kernel
theorem dX8_attempt_52 : decode cX8_attempt 52 = .ok (.getfield 11, 3) := by decide +kernel
theorem dX8_attempt_55 : decode cX8_attempt 55 = .ok (.iload_n 1, 1) := by decide +kernel
theorem dX8_attempt_56 : decode cX8_attempt 56 = .ok (.aaload, 1) := by decide +kernel
theorem dX8_attempt_57 : decode cX8_attempt 57 = .ok (.aload_n 2, 1) := by decide +kernel
theorem dX8_attempt_58 : decode cX8_attempt 58 = .ok (.bipush (-9), 2) := by decide +kernel
theorem dX8_attempt_60 : decode cX8_attempt 60 = .ok (.iconst 0, 1) := by decide +kernel
theorem dX8_attempt_61 : decode cX8_attempt 61 = .ok (.iconst 0, 1) := by decide +kernel
theorem dX8_attempt_62 : decode cX8_attempt 62 = .ok (.invokevirtual 71, 3) := by decide +kernel
theorem dX8_attempt_65 : decode cX8_attempt 65 = .ok (.ifCond .ne 5, 3) := by decide +kernel
theorem dX8_attempt_68 : decode cX8_attempt 68 = .ok (.iconst 3, 1) := by decide +kernel
theorem dX8_attempt_69 : decode cX8_attempt 69 = .ok (.ireturn, 1) := by decide +kernel
theorem dX8_attempt_70 : decode cX8_attempt 70 = .ok (.aload_n 2, 1) := by decide +kernel
theorem dX8_attempt_71 : decode cX8_attempt 71 = .ok (.invokevirtual 75, 3) := by decide +kernel
theorem dX8_attempt_74 : decode cX8_attempt 74 = .ok (.ifCond .eq 18, 3) := by decide +kernel
theorem dX8_attempt_77 : decode cX8_attempt 77 = .ok (.aload_n 0, 1) := by decide +kernel
theorem dX8_attempt_78 : decode cX8_attempt 78 = .ok (.getfield 50, 3) := by decide +kernel
theorem dX8_attempt_81 : decode cX8_attempt 81 = .ok (.iconst 1, 1) := by decide +kernel
theorem dX8_attempt_82 : decode cX8_attempt 82 = .ok (.iconst 0, 1) := by decide +kernel
theorem dX8_attempt_83 : decode cX8_attempt 83 = .ok (.invokevirtual 55, 3) := by decide +kernel
theorem dX8_attempt_86 : decode cX8_attempt 86 = .ok (.aload_n 0, 1) := by decide +kernel
theorem dX8_attempt_87 : decode cX8_attempt 87 = .ok (.iload_n 1, 1) := by decide +kernel
theorem dX8_attempt_88 : decode cX8_attempt 88 = .ok (.invokevirtual 79, 3) := by decide +kernel
theorem dX8_attempt_91 : decode cX8_attempt 91 = .ok (.ireturn, 1) := by decide +kernel
theorem dX8_attempt_92 : decode cX8_attempt 92 = .ok (.aload_n 2, 1) := by decide +kernel
theorem dX8_attempt_93 : decode cX8_attempt 93 = .ok (.aload_n 0, 1) := by decide +kernel
theorem dX8_attempt_94 : decode cX8_attempt 94 = .ok (.getfield 30, 3) := by decide +kernel
theorem dX8_attempt_97 : decode cX8_attempt 97 = .ok (.invokevirtual 83, 3) := by decide +kernel
theorem dX8_attempt_100 : decode cX8_attempt 100 = .ok (.istore_n 3, 1) := by decide +kernel
theorem dX8_attempt_101 : decode cX8_attempt 101 = .ok (.iload_n 3, 1) := by decide +kernel
theorem dX8_attempt_102 : decode cX8_attempt 102 = .ok (.bipush (-9), 2) := by decide +kernel
theorem dX8_attempt_104 : decode cX8_attempt 104 = .ok (.if_icmp .ne 10, 3) := by decide +kernel
theorem dX8_attempt_107 : decode cX8_attempt 107 = .ok (.aload_n 0, 1) := by decide +kernel
theorem dX8_attempt_108 : decode cX8_attempt 108 = .ok (.iload_n 1, 1) := by decide +kernel
theorem dX8_attempt_109 : decode cX8_attempt 109 = .ok (.iconst 2, 1) := by decide +kernel
theorem dX8_attempt_110 : decode cX8_attempt 110 = .ok (.invokevirtual 67, 3) := by decide +kernel
theorem dX8_attempt_113 : decode cX8_attempt 113 = .ok (.ireturn, 1) := by decide +kernel
theorem dX8_attempt_114 : decode cX8_attempt 114 = .ok (.aload_n 2, 1) := by decide +kernel
theorem dX8_attempt_115 : decode cX8_attempt 115 = .ok (.iload_n 3, 1) := by decide +kernel
theorem dX8_attempt_116 : decode cX8_attempt 116 = .ok (.aload_n 0, 1) := by decide +kernel
theorem dX8_attempt_117 : decode cX8_attempt 117 = .ok (.getfield 30, 3) := by decide +kernel
theorem dX8_attempt_120 : decode cX8_attempt 120 = .ok (.invokevirtual 87, 3) := by decide +kernel
theorem dX8_attempt_123 : decode cX8_attempt 123 = .ok (.istore 4, 2) := by decide +kernel
theorem dX8_attempt_125 : decode cX8_attempt 125 = .ok (.aload_n 0, 1) := by decide +kernel
theorem dX8_attempt_126 : decode cX8_attempt 126 = .ok (.getfield 50, 3) := by decide +kernel
theorem dX8_attempt_129 : decode cX8_attempt 129 = .ok (.iconst 2, 1) := by decide +kernel
theorem dX8_attempt_130 : decode cX8_attempt 130 = .ok (.bipush 10, 2) := by decide +kernel
theorem dX8_attempt_132 : decode cX8_attempt 132 = .ok (.iload 4, 2) := by decide +kernel
theorem dX8_attempt_134 : decode cX8_attempt 134 = .ok (.imul, 1) := by decide +kernel
theorem dX8_attempt_135 : decode cX8_attempt 135 = .ok (.iload_n 3, 1) := by decide +kernel
theorem dX8_attempt_136 : decode cX8_attempt 136 = .ok (.iadd, 1) := by decide +kernel
theorem dX8_attempt_137 : decode cX8_attempt 137 = .ok (.invokevirtual 55, 3) := by decide +kernel
theorem dX8_attempt_140 : decode cX8_attempt 140 = .ok (.iconst 0, 1) := by decide +kernel
theorem dX8_attempt_141 : decode cX8_attempt 141 = .ok (.istore 5, 2) := by decide +kernel
theorem dX8_attempt_143 : decode cX8_attempt 143 = .ok (.iload 5, 2) := by decide +kernel
theorem dX8_attempt_145 : decode cX8_attempt 145 = .ok (.iload 4, 2) := by decide +kernel
theorem dX8_attempt_147 : decode cX8_attempt 147 = .ok (.if_icmp .gt 41, 3) := by decide +kernel
theorem dX8_attempt_150 : decode cX8_attempt 150 = .ok (.aload_n 0, 1) := by decide +kernel
theorem dX8_attempt_151 : decode cX8_attempt 151 = .ok (.iload_n 1, 1) := by decide +kernel
theorem dX8_attempt_152 : decode cX8_attempt 152 = .ok (.iload 5, 2) := by decide +kernel
theorem dX8_attempt_154 : decode cX8_attempt 154 = .ok (.iload_n 3, 1) := by decide +kernel
theorem dX8_attempt_155 : decode cX8_attempt 155 = .ok (.iload 4, 2) := by decide +kernel
theorem dX8_attempt_157 : decode cX8_attempt 157 = .ok (.invokevirtual 91, 3) := by decide +kernel
theorem dX8_attempt_160 : decode cX8_attempt 160 = .ok (.istore 6, 2) := by decide +kernel
theorem dX8_attempt_162 : decode cX8_attempt 162 = .ok (.iload 6, 2) := by decide +kernel
theorem dX8_attempt_164 : decode cX8_attempt 164 = .ok (.iconst 3, 1) := by decide +kernel
theorem dX8_attempt_165 : decode cX8_attempt 165 = .ok (.if_icmp .ne 5, 3) := by decide +kernel
theorem dX8_attempt_168 : decode cX8_attempt 168 = .ok (.iconst 3, 1) := by decide +kernel
theorem dX8_attempt_169 : decode cX8_attempt 169 = .ok (.ireturn, 1) := by decide +kernel
theorem dX8_attempt_170 : decode cX8_attempt 170 = .ok (.iload 6, 2) := by decide +kernel
theorem dX8_attempt_172 : decode cX8_attempt 172 = .ok (.ifCond .eq 10, 3) := by decide +kernel
theorem dX8_attempt_175 : decode cX8_attempt 175 = .ok (.aload_n 0, 1) := by decide +kernel
theorem dX8_attempt_176 : decode cX8_attempt 176 = .ok (.iload_n 1, 1) := by decide +kernel
theorem dX8_attempt_177 : decode cX8_attempt 177 = .ok (.iconst 2, 1) := by decide +kernel
theorem dX8_attempt_178 : decode cX8_attempt 178 = .ok (.invokevirtual 67, 3) := by decide +kernel
theorem dX8_attempt_181 : decode cX8_attempt 181 = .ok (.ireturn, 1) := by decide +kernel
theorem dX8_attempt_182 : decode cX8_attempt 182 = .ok (.iinc 5 1, 3) := by decide +kernel
theorem dX8_attempt_185 : decode cX8_attempt 185 = .ok (.goto (-42), 3) := by decide +kernel
theorem dX8_attempt_188 : decode cX8_attempt 188 = .ok (.aload_n 0, 1) := by decide +kernel
theorem dX8_attempt_189 : decode cX8_attempt 189 = .ok (.iload_n 1, 1) := by decide +kernel
theorem dX8_attempt_190 : decode cX8_attempt 190 = .ok (.invokevirtual 79, 3) := by decide +kernel
theorem dX8_attempt_193 : decode cX8_attempt 193 = .ok (.ireturn, 1) := by decide +kernel
theorem dX8_proveCase_0 : decode cX8_proveCase 0 = .ok (.aload_n 0, 1) := by decide +kernel
theorem dX8_proveCase_1 : decode cX8_proveCase 1 = .ok (.getfield 50, 3) := by decide +kernel
theorem dX8_proveCase_4 : decode cX8_proveCase 4 = .ok (.iconst 3, 1) := by decide +kernel
theorem dX8_proveCase_5 : decode cX8_proveCase 5 = .ok (.iload_n 2, 1) := by decide +kernel
theorem dX8_proveCase_6 : decode cX8_proveCase 6 = .ok (.invokevirtual 55, 3) := by decide +kernel
theorem dX8_proveCase_9 : decode cX8_proveCase 9 = .ok (.iload_n 2, 1) := by decide +kernel
theorem dX8_proveCase_10 : decode cX8_proveCase 10 = .ok (.iload 4, 2) := by decide +kernel
theorem dX8_proveCase_12 : decode cX8_proveCase 12 = .ok (.if_icmp .ne 7, 3) := by decide +kernel
theorem dX8_proveCase_15 : decode cX8_proveCase 15 = .ok (.iconst 1, 1) := by decide +kernel
theorem dX8_proveCase_16 : decode cX8_proveCase 16 = .ok (.goto 4, 3) := by decide +kernel
theorem dX8_proveCase_19 : decode cX8_proveCase 19 = .ok (.iconst 0, 1) := by decide +kernel
theorem dX8_proveCase_20 : decode cX8_proveCase 20 = .ok (.istore 5, 2) := by decide +kernel
theorem dX8_proveCase_22 : decode cX8_proveCase 22 = .ok (.aload_n 0, 1) := by decide +kernel
theorem dX8_proveCase_23 : decode cX8_proveCase 23 = .ok (.getfield 17, 3) := by decide +kernel
theorem dX8_proveCase_26 : decode cX8_proveCase 26 = .ok (.iload_n 1, 1) := by decide +kernel
theorem dX8_proveCase_27 : decode cX8_proveCase 27 = .ok (.aaload, 1) := by decide +kernel
theorem dX8_proveCase_28 : decode cX8_proveCase 28 = .ok (.astore 6, 2) := by decide +kernel
theorem dX8_proveCase_30 : decode cX8_proveCase 30 = .ok (.aload_n 0, 1) := by decide +kernel
theorem dX8_proveCase_31 : decode cX8_proveCase 31 = .ok (.getfield 20, 3) := by decide +kernel
theorem dX8_proveCase_34 : decode cX8_proveCase 34 = .ok (.iload_n 1, 1) := by decide +kernel
theorem dX8_proveCase_35 : decode cX8_proveCase 35 = .ok (.aaload, 1) := by decide +kernel
theorem dX8_proveCase_36 : decode cX8_proveCase 36 = .ok (.astore 7, 2) := by decide +kernel
theorem dX8_proveCase_38 : decode cX8_proveCase 38 = .ok (.aload_n 0, 1) := by decide +kernel
theorem dX8_proveCase_39 : decode cX8_proveCase 39 = .ok (.aload 6, 2) := by decide +kernel
theorem dX8_proveCase_41 : decode cX8_proveCase 41 = .ok (.aload 7, 2) := by decide +kernel
theorem dX8_proveCase_43 : decode cX8_proveCase 43 = .ok (.iload_n 3, 1) := by decide +kernel
theorem dX8_proveCase_44 : decode cX8_proveCase 44 = .ok (.iload_n 2, 1) := by decide +kernel
theorem dX8_proveCase_45 : decode cX8_proveCase 45 = .ok (.iload 5, 2) := by decide +kernel
theorem dX8_proveCase_47 : decode cX8_proveCase 47 = .ok (.invokevirtual 71, 3) := by decide +kernel
theorem dX8_proveCase_50 : decode cX8_proveCase 50 = .ok (.ifCond .ne 5, 3) := by decide +kernel
theorem dX8_proveCase_53 : decode cX8_proveCase 53 = .ok (.iconst 3, 1) := by decide +kernel
theorem dX8_proveCase_54 : decode cX8_proveCase 54 = .ok (.ireturn, 1) := by decide +kernel
theorem dX8_proveCase_55 : decode cX8_proveCase 55 = .ok (.aload 7, 2) := by decide +kernel
theorem dX8_proveCase_57 : decode cX8_proveCase 57 = .ok (.invokevirtual 75, 3) := by decide +kernel
theorem dX8_proveCase_60 : decode cX8_proveCase 60 = .ok (.ifCond .eq 5, 3) := by decide +kernel
theorem dX8_proveCase_63 : decode cX8_proveCase 63 = .ok (.iconst 0, 1) := by decide +kernel
theorem dX8_proveCase_64 : decode cX8_proveCase 64 = .ok (.ireturn, 1) := by decide +kernel
theorem dX8_proveCase_65 : decode cX8_proveCase 65 = .ok (.iload 5, 2) := by decide +kernel
theorem dX8_proveCase_67 : decode cX8_proveCase 67 = .ok (.ifCond .eq 72, 3) := by decide +kernel
theorem dX8_proveCase_70 : decode cX8_proveCase 70 = .ok (.aload_n 0, 1) := by decide +kernel
theorem dX8_proveCase_71 : decode cX8_proveCase 71 = .ok (.aload 6, 2) := by decide +kernel
theorem dX8_proveCase_73 : decode cX8_proveCase 73 = .ok (.getfield 95, 3) := by decide +kernel
theorem dX8_proveCase_76 : decode cX8_proveCase 76 = .ok (.aload 7, 2) := by decide +kernel
theorem dX8_proveCase_78 : decode cX8_proveCase 78 = .ok (.getfield 95, 3) := by decide +kernel
theorem dX8_proveCase_81 : decode cX8_proveCase 81 = .ok (.iconst 0, 1) := by decide +kernel
theorem dX8_proveCase_82 : decode cX8_proveCase 82 = .ok (.invokevirtual 98, 3) := by decide +kernel
theorem dX8_proveCase_85 : decode cX8_proveCase 85 = .ok (.aload_n 0, 1) := by decide +kernel
theorem dX8_proveCase_86 : decode cX8_proveCase 86 = .ok (.aload 6, 2) := by decide +kernel
theorem dX8_proveCase_88 : decode cX8_proveCase 88 = .ok (.getfield 102, 3) := by decide +kernel
theorem dX8_proveCase_91 : decode cX8_proveCase 91 = .ok (.aload 7, 2) := by decide +kernel
theorem dX8_proveCase_93 : decode cX8_proveCase 93 = .ok (.getfield 102, 3) := by decide +kernel
theorem dX8_proveCase_96 : decode cX8_proveCase 96 = .ok (.iconst 1, 1) := by decide +kernel
theorem dX8_proveCase_97 : decode cX8_proveCase 97 = .ok (.invokevirtual 98, 3) := by decide +kernel
theorem dX8_proveCase_100 : decode cX8_proveCase 100 = .ok (.aload_n 0, 1) := by decide +kernel
theorem dX8_proveCase_101 : decode cX8_proveCase 101 = .ok (.aload 6, 2) := by decide +kernel
theorem dX8_proveCase_103 : decode cX8_proveCase 103 = .ok (.aload 7, 2) := by decide +kernel
theorem dX8_proveCase_105 : decode cX8_proveCase 105 = .ok (.iload_n 3, 1) := by decide +kernel
theorem dX8_proveCase_106 : decode cX8_proveCase 106 = .ok (.invokevirtual 105, 3) := by decide +kernel
theorem dX8_proveCase_109 : decode cX8_proveCase 109 = .ok (.ifCond .eq 18, 3) := by decide +kernel
theorem dX8_proveCase_112 : decode cX8_proveCase 112 = .ok (.aload_n 0, 1) := by decide +kernel
theorem dX8_proveCase_113 : decode cX8_proveCase 113 = .ok (.aload 7, 2) := by decide +kernel
theorem dX8_proveCase_115 : decode cX8_proveCase 115 = .ok (.aload 7, 2) := by decide +kernel
theorem dX8_proveCase_117 : decode cX8_proveCase 117 = .ok (.bipush (-9), 2) := by decide +kernel
theorem dX8_proveCase_119 : decode cX8_proveCase 119 = .ok (.iconst 0, 1) := by decide +kernel
theorem dX8_proveCase_120 : decode cX8_proveCase 120 = .ok (.iconst 0, 1) := by decide +kernel
theorem dX8_proveCase_121 : decode cX8_proveCase 121 = .ok (.invokevirtual 71, 3) := by decide +kernel
theorem dX8_proveCase_124 : decode cX8_proveCase 124 = .ok (.ifCond .ne 5, 3) := by decide +kernel
theorem dX8_proveCase_127 : decode cX8_proveCase 127 = .ok (.iconst 3, 1) := by decide +kernel
theorem dX8_proveCase_128 : decode cX8_proveCase 128 = .ok (.ireturn, 1) := by decide +kernel
theorem dX8_proveCase_129 : decode cX8_proveCase 129 = .ok (.aload 7, 2) := by decide +kernel
theorem dX8_proveCase_131 : decode cX8_proveCase 131 = .ok (.invokevirtual 75, 3) := by decide +kernel
theorem dX8_proveCase_134 : decode cX8_proveCase 134 = .ok (.ifCond .eq 5, 3) := by decide +kernel
theorem dX8_proveCase_137 : decode cX8_proveCase 137 = .ok (.iconst 0, 1) := by decide +kernel
theorem dX8_proveCase_138 : decode cX8_proveCase 138 = .ok (.ireturn, 1) := by decide +kernel
theorem dX8_proveCase_139 : decode cX8_proveCase 139 = .ok (.iload_n 1, 1) := by decide +kernel
theorem dX8_proveCase_140 : decode cX8_proveCase 140 = .ok (.iconst 1, 1) := by decide +kernel
theorem dX8_proveCase_141 : decode cX8_proveCase 141 = .ok (.iadd, 1) := by decide +kernel
theorem dX8_proveCase_142 : decode cX8_proveCase 142 = .ok (.iconst 3, 1) := by decide +kernel
theorem dX8_proveCase_143 : decode cX8_proveCase 143 = .ok (.if_icmp .lt 16, 3) := by decide +kernel
theorem dX8_proveCase_146 : decode cX8_proveCase 146 = .ok (.aload_n 0, 1) := by decide +kernel
theorem dX8_proveCase_147 : decode cX8_proveCase 147 = .ok (.getfield 50, 3) := by decide +kernel
theorem dX8_proveCase_150 : decode cX8_proveCase 150 = .ok (.iload_n 1, 1) := by decide +kernel
theorem dX8_proveCase_151 : decode cX8_proveCase 151 = .ok (.iconst 1, 1) := by decide +kernel
theorem dX8_proveCase_152 : decode cX8_proveCase 152 = .ok (.iadd, 1) := by decide +kernel
theorem dX8_proveCase_153 : decode cX8_proveCase 153 = .ok (.iconst 4, 1) := by decide +kernel
theorem dX8_proveCase_154 : decode cX8_proveCase 154 = .ok (.invokevirtual 109, 3) := by decide +kernel
theorem dX8_proveCase_157 : decode cX8_proveCase 157 = .ok (.iconst 2, 1) := by decide +kernel
theorem dX8_proveCase_158 : decode cX8_proveCase 158 = .ok (.ireturn, 1) := by decide +kernel
theorem dX8_proveCase_159 : decode cX8_proveCase 159 = .ok (.aload_n 0, 1) := by decide +kernel
theorem dX8_proveCase_160 : decode cX8_proveCase 160 = .ok (.getfield 50, 3) := by decide +kernel
theorem dX8_proveCase_163 : decode cX8_proveCase 163 = .ok (.bipush 6, 2) := by decide +kernel
theorem dX8_proveCase_165 : decode cX8_proveCase 165 = .ok (.aload_n 0, 1) := by decide +kernel
theorem dX8_proveCase_166 : decode cX8_proveCase 166 = .ok (.aload 7, 2) := by decide +kernel
theorem dX8_proveCase_168 : decode cX8_proveCase 168 = .ok (.aload_n 0, 1) := by decide +kernel
theorem dX8_proveCase_169 : decode cX8_proveCase 169 = .ok (.getfield 11, 3) := by decide +kernel
theorem dX8_proveCase_172 : decode cX8_proveCase 172 = .ok (.iload_n 1, 1) := by decide +kernel
theorem dX8_proveCase_173 : decode cX8_proveCase 173 = .ok (.iconst 1, 1) := by decide +kernel
theorem dX8_proveCase_174 : decode cX8_proveCase 174 = .ok (.iadd, 1) := by decide +kernel
theorem dX8_proveCase_175 : decode cX8_proveCase 175 = .ok (.aaload, 1) := by decide +kernel
theorem dX8_proveCase_176 : decode cX8_proveCase 176 = .ok (.invokevirtual 112, 3) := by decide +kernel
theorem dX8_proveCase_179 : decode cX8_proveCase 179 = .ok (.invokevirtual 55, 3) := by decide +kernel
theorem dX8_proveCase_182 : decode cX8_proveCase 182 = .ok (.aload_n 0, 1) := by decide +kernel
theorem dX8_proveCase_183 : decode cX8_proveCase 183 = .ok (.iload_n 1, 1) := by decide +kernel
theorem dX8_proveCase_184 : decode cX8_proveCase 184 = .ok (.iconst 1, 1) := by decide +kernel
theorem dX8_proveCase_185 : decode cX8_proveCase 185 = .ok (.iadd, 1) := by decide +kernel
theorem dX8_proveCase_186 : decode cX8_proveCase 186 = .ok (.invokevirtual 116, 3) := by decide +kernel
theorem dX8_proveCase_189 : decode cX8_proveCase 189 = .ok (.ireturn, 1) := by decide +kernel
theorem dX8_normalize_0 : decode cX8_normalize 0 = .ok (.aload_n 0, 1) := by decide +kernel
theorem dX8_normalize_1 : decode cX8_normalize 1 = .ok (.getfield 38, 3) := by decide +kernel
theorem dX8_normalize_4 : decode cX8_normalize 4 = .ok (.aload_n 1, 1) := by decide +kernel
theorem dX8_normalize_5 : decode cX8_normalize 5 = .ok (.getfield 95, 3) := by decide +kernel
theorem dX8_normalize_8 : decode cX8_normalize 8 = .ok (.aload_n 2, 1) := by decide +kernel
theorem dX8_normalize_9 : decode cX8_normalize 9 = .ok (.getfield 95, 3) := by decide +kernel
theorem dX8_normalize_12 : decode cX8_normalize 12 = .ok (.iload_n 3, 1) := by decide +kernel
theorem dX8_normalize_13 : decode cX8_normalize 13 = .ok (.iload 4, 2) := by decide +kernel
theorem dX8_normalize_15 : decode cX8_normalize 15 = .ok (.iload 5, 2) := by decide +kernel
theorem dX8_normalize_17 : decode cX8_normalize 17 = .ok (.invokevirtual 119, 3) := by decide +kernel
theorem dX8_normalize_20 : decode cX8_normalize 20 = .ok (.ifCond .eq 30, 3) := by decide +kernel
theorem dX8_normalize_23 : decode cX8_normalize 23 = .ok (.aload_n 0, 1) := by decide +kernel
theorem dX8_normalize_24 : decode cX8_normalize 24 = .ok (.getfield 38, 3) := by decide +kernel
theorem dX8_normalize_27 : decode cX8_normalize 27 = .ok (.aload_n 1, 1) := by decide +kernel
theorem dX8_normalize_28 : decode cX8_normalize 28 = .ok (.getfield 102, 3) := by decide +kernel
theorem dX8_normalize_31 : decode cX8_normalize 31 = .ok (.aload_n 2, 1) := by decide +kernel
theorem dX8_normalize_32 : decode cX8_normalize 32 = .ok (.getfield 102, 3) := by decide +kernel
theorem dX8_normalize_35 : decode cX8_normalize 35 = .ok (.iload_n 3, 1) := by decide +kernel
theorem dX8_normalize_36 : decode cX8_normalize 36 = .ok (.iload 4, 2) := by decide +kernel
theorem dX8_normalize_38 : decode cX8_normalize 38 = .ok (.iload 5, 2) := by decide +kernel
theorem dX8_normalize_40 : decode cX8_normalize 40 = .ok (.invokevirtual 119, 3) := by decide +kernel
theorem dX8_normalize_43 : decode cX8_normalize 43 = .ok (.ifCond .eq 7, 3) := by decide +kernel
theorem dX8_normalize_46 : decode cX8_normalize 46 = .ok (.iconst 1, 1) := by decide +kernel
theorem dX8_normalize_47 : decode cX8_normalize 47 = .ok (.goto 4, 3) := by decide +kernel
theorem dX8_normalize_50 : decode cX8_normalize 50 = .ok (.iconst 0, 1) := by decide +kernel
theorem dX8_normalize_51 : decode cX8_normalize 51 = .ok (.ireturn, 1) := by decide +kernel
theorem dX8_ripple_0 : decode cX8_ripple 0 = .ok (.iconst 0, 1) := by decide +kernel
theorem dX8_ripple_1 : decode cX8_ripple 1 = .ok (.istore 4, 2) := by decide +kernel
theorem dX8_ripple_3 : decode cX8_ripple 3 = .ok (.iload 4, 2) := by decide +kernel
theorem dX8_ripple_5 : decode cX8_ripple 5 = .ok (.sipush 1600, 3) := by decide +kernel
theorem dX8_ripple_8 : decode cX8_ripple 8 = .ok (.if_icmp .ge 43, 3) := by decide +kernel
theorem dX8_ripple_11 : decode cX8_ripple 11 = .ok (.aload_n 0, 1) := by decide +kernel
theorem dX8_ripple_12 : decode cX8_ripple 12 = .ok (.getfield 46, 3) := by decide +kernel
theorem dX8_ripple_15 : decode cX8_ripple 15 = .ok (.aload_n 2, 1) := by decide +kernel
theorem dX8_ripple_16 : decode cX8_ripple 16 = .ok (.aload_n 1, 1) := by decide +kernel
theorem dX8_ripple_17 : decode cX8_ripple 17 = .ok (.invokevirtual 125, 3) := by decide +kernel
theorem dX8_ripple_20 : decode cX8_ripple 20 = .ok (.istore 5, 2) := by decide +kernel
theorem dX8_ripple_22 : decode cX8_ripple 22 = .ok (.iload 5, 2) := by decide +kernel
theorem dX8_ripple_24 : decode cX8_ripple 24 = .ok (.bipush (-9), 2) := by decide +kernel
theorem dX8_ripple_26 : decode cX8_ripple 26 = .ok (.if_icmp .ne 4, 3) := by decide +kernel
theorem dX8_ripple_29 : decode cX8_ripple 29 = .ok (.return_, 1) := by decide +kernel
theorem dX8_ripple_30 : decode cX8_ripple 30 = .ok (.aload_n 0, 1) := by decide +kernel
theorem dX8_ripple_31 : decode cX8_ripple 31 = .ok (.getfield 50, 3) := by decide +kernel
theorem dX8_ripple_34 : decode cX8_ripple 34 = .ok (.iconst 4, 1) := by decide +kernel
theorem dX8_ripple_35 : decode cX8_ripple 35 = .ok (.iload 5, 2) := by decide +kernel
theorem dX8_ripple_37 : decode cX8_ripple 37 = .ok (.bipush 10, 2) := by decide +kernel
theorem dX8_ripple_39 : decode cX8_ripple 39 = .ok (.iload_n 3, 1) := by decide +kernel
theorem dX8_ripple_40 : decode cX8_ripple 40 = .ok (.imul, 1) := by decide +kernel
theorem dX8_ripple_41 : decode cX8_ripple 41 = .ok (.iadd, 1) := by decide +kernel
theorem dX8_ripple_42 : decode cX8_ripple 42 = .ok (.invokevirtual 55, 3) := by decide +kernel
theorem dX8_ripple_45 : decode cX8_ripple 45 = .ok (.iinc 4 1, 3) := by decide +kernel
theorem dX8_ripple_48 : decode cX8_ripple 48 = .ok (.goto (-45), 3) := by decide +kernel
theorem dX8_ripple_51 : decode cX8_ripple 51 = .ok (.return_, 1) := by decide +kernel
theorem dX8_useClaim_0 : decode cX8_useClaim 0 = .ok (.iconst 0, 1) := by decide +kernel
theorem dX8_useClaim_1 : decode cX8_useClaim 1 = .ok (.istore 4, 2) := by decide +kernel
theorem dX8_useClaim_3 : decode cX8_useClaim 3 = .ok (.iload 4, 2) := by decide +kernel
theorem dX8_useClaim_5 : decode cX8_useClaim 5 = .ok (.iconst 1, 1) := by decide +kernel
theorem dX8_useClaim_6 : decode cX8_useClaim 6 = .ok (.if_icmp .gt 94, 3) := by decide +kernel
theorem dX8_useClaim_9 : decode cX8_useClaim 9 = .ok (.aload_n 2, 1) := by decide +kernel
theorem dX8_useClaim_10 : decode cX8_useClaim 10 = .ok (.iload 4, 2) := by decide +kernel
theorem dX8_useClaim_12 : decode cX8_useClaim 12 = .ok (.invokevirtual 130, 3) := by decide +kernel
theorem dX8_useClaim_15 : decode cX8_useClaim 15 = .ok (.astore 5, 2) := by decide +kernel
theorem dX8_useClaim_17 : decode cX8_useClaim 17 = .ok (.aload_n 0, 1) := by decide +kernel
theorem dX8_useClaim_18 : decode cX8_useClaim 18 = .ok (.getfield 42, 3) := by decide +kernel
theorem dX8_useClaim_21 : decode cX8_useClaim 21 = .ok (.aload_n 1, 1) := by decide +kernel
theorem dX8_useClaim_22 : decode cX8_useClaim 22 = .ok (.iload 4, 2) := by decide +kernel
theorem dX8_useClaim_24 : decode cX8_useClaim 24 = .ok (.invokevirtual 130, 3) := by decide +kernel
theorem dX8_useClaim_27 : decode cX8_useClaim 27 = .ok (.aload 5, 2) := by decide +kernel
theorem dX8_useClaim_29 : decode cX8_useClaim 29 = .ok (.iload_n 3, 1) := by decide +kernel
theorem dX8_useClaim_30 : decode cX8_useClaim 30 = .ok (.invokevirtual 134, 3) := by decide +kernel
theorem dX8_useClaim_33 : decode cX8_useClaim 33 = .ok (.istore 6, 2) := by decide +kernel
theorem dX8_useClaim_35 : decode cX8_useClaim 35 = .ok (.iload 6, 2) := by decide +kernel
theorem dX8_useClaim_37 : decode cX8_useClaim 37 = .ok (.bipush (-9), 2) := by decide +kernel
theorem dX8_useClaim_39 : decode cX8_useClaim 39 = .ok (.if_icmp .ne 6, 3) := by decide +kernel
theorem dX8_useClaim_42 : decode cX8_useClaim 42 = .ok (.goto 52, 3) := by decide +kernel
theorem dX8_useClaim_45 : decode cX8_useClaim 45 = .ok (.aload_n 0, 1) := by decide +kernel
theorem dX8_useClaim_46 : decode cX8_useClaim 46 = .ok (.getfield 42, 3) := by decide +kernel
theorem dX8_useClaim_49 : decode cX8_useClaim 49 = .ok (.aload_n 1, 1) := by decide +kernel
theorem dX8_useClaim_50 : decode cX8_useClaim 50 = .ok (.iconst 1, 1) := by decide +kernel
theorem dX8_useClaim_51 : decode cX8_useClaim 51 = .ok (.iload 4, 2) := by decide +kernel
theorem dX8_useClaim_53 : decode cX8_useClaim 53 = .ok (.isub, 1) := by decide +kernel
theorem dX8_useClaim_54 : decode cX8_useClaim 54 = .ok (.invokevirtual 130, 3) := by decide +kernel
theorem dX8_useClaim_57 : decode cX8_useClaim 57 = .ok (.aload 5, 2) := by decide +kernel
theorem dX8_useClaim_59 : decode cX8_useClaim 59 = .ok (.iload 6, 2) := by decide +kernel
theorem dX8_useClaim_61 : decode cX8_useClaim 61 = .ok (.aload_n 0, 1) := by decide +kernel
theorem dX8_useClaim_62 : decode cX8_useClaim 62 = .ok (.getfield 26, 3) := by decide +kernel
theorem dX8_useClaim_65 : decode cX8_useClaim 65 = .ok (.invokevirtual 140, 3) := by decide +kernel
theorem dX8_useClaim_68 : decode cX8_useClaim 68 = .ok (.ifCond .ne 5, 3) := by decide +kernel
theorem dX8_useClaim_71 : decode cX8_useClaim 71 = .ok (.iconst 0, 1) := by decide +kernel
theorem dX8_useClaim_72 : decode cX8_useClaim 72 = .ok (.ireturn, 1) := by decide +kernel
theorem dX8_useClaim_73 : decode cX8_useClaim 73 = .ok (.aload 5, 2) := by decide +kernel
theorem dX8_useClaim_75 : decode cX8_useClaim 75 = .ok (.aload_n 0, 1) := by decide +kernel
theorem dX8_useClaim_76 : decode cX8_useClaim 76 = .ok (.getfield 26, 3) := by decide +kernel
theorem dX8_useClaim_79 : decode cX8_useClaim 79 = .ok (.invokevirtual 144, 3) := by decide +kernel
theorem dX8_useClaim_82 : decode cX8_useClaim 82 = .ok (.aload_n 0, 1) := by decide +kernel
theorem dX8_useClaim_83 : decode cX8_useClaim 83 = .ok (.getfield 50, 3) := by decide +kernel
theorem dX8_useClaim_86 : decode cX8_useClaim 86 = .ok (.iconst 5, 1) := by decide +kernel
theorem dX8_useClaim_87 : decode cX8_useClaim 87 = .ok (.iload 4, 2) := by decide +kernel
theorem dX8_useClaim_89 : decode cX8_useClaim 89 = .ok (.invokevirtual 55, 3) := by decide +kernel
theorem dX8_useClaim_92 : decode cX8_useClaim 92 = .ok (.iconst 1, 1) := by decide +kernel
theorem dX8_useClaim_93 : decode cX8_useClaim 93 = .ok (.ireturn, 1) := by decide +kernel
theorem dX8_useClaim_94 : decode cX8_useClaim 94 = .ok (.iinc 4 1, 3) := by decide +kernel
theorem dX8_useClaim_97 : decode cX8_useClaim 97 = .ok (.goto (-94), 3) := by decide +kernel
theorem dX8_useClaim_100 : decode cX8_useClaim 100 = .ok (.iconst 1, 1) := by decide +kernel
theorem dX8_useClaim_101 : decode cX8_useClaim 101 = .ok (.ireturn, 1) := by decide +kernel
theorem dX8_guess_0 : decode cX8_guess 0 = .ok (.aload_n 1, 1) := by decide +kernel
theorem dX8_guess_1 : decode cX8_guess 1 = .ok (.aload_n 2, 1) := by decide +kernel
theorem dX8_guess_2 : decode cX8_guess 2 = .ok (.aload_n 0, 1) := by decide +kernel
theorem dX8_guess_3 : decode cX8_guess 3 = .ok (.getfield 30, 3) := by decide +kernel
theorem dX8_guess_6 : decode cX8_guess 6 = .ok (.invokevirtual 148, 3) := by decide +kernel
theorem dX8_guess_9 : decode cX8_guess 9 = .ok (.istore_n 3, 1) := by decide +kernel
theorem dX8_guess_10 : decode cX8_guess 10 = .ok (.iload_n 3, 1) := by decide +kernel
theorem dX8_guess_11 : decode cX8_guess 11 = .ok (.bipush (-9), 2) := by decide +kernel
theorem dX8_guess_13 : decode cX8_guess 13 = .ok (.if_icmp .eq 22, 3) := by decide +kernel
theorem dX8_guess_16 : decode cX8_guess 16 = .ok (.aload_n 0, 1) := by decide +kernel
theorem dX8_guess_17 : decode cX8_guess 17 = .ok (.getfield 34, 3) := by decide +kernel
theorem dX8_guess_20 : decode cX8_guess 20 = .ok (.aload_n 2, 1) := by decide +kernel
theorem dX8_guess_21 : decode cX8_guess 21 = .ok (.invokevirtual 61, 3) := by decide +kernel
theorem dX8_guess_24 : decode cX8_guess 24 = .ok (.ifCond .eq 11, 3) := by decide +kernel
theorem dX8_guess_27 : decode cX8_guess 27 = .ok (.aload_n 2, 1) := by decide +kernel
theorem dX8_guess_28 : decode cX8_guess 28 = .ok (.aload_n 1, 1) := by decide +kernel
theorem dX8_guess_29 : decode cX8_guess 29 = .ok (.invokevirtual 152, 3) := by decide +kernel
theorem dX8_guess_32 : decode cX8_guess 32 = .ok (.bipush (-9), 2) := by decide +kernel
theorem dX8_guess_34 : decode cX8_guess 34 = .ok (.ireturn, 1) := by decide +kernel
theorem dX8_guess_35 : decode cX8_guess 35 = .ok (.iload_n 3, 1) := by decide +kernel
theorem dX8_guess_36 : decode cX8_guess 36 = .ok (.ireturn, 1) := by decide +kernel
theorem dX8_fail_0 : decode cX8_fail 0 = .ok (.aload_n 0, 1) := by decide +kernel
theorem dX8_fail_1 : decode cX8_fail 1 = .ok (.getfield 50, 3) := by decide +kernel
theorem dX8_fail_4 : decode cX8_fail 4 = .ok (.bipush 8, 2) := by decide +kernel
theorem dX8_fail_6 : decode cX8_fail 6 = .ok (.iload_n 2, 1) := by decide +kernel
theorem dX8_fail_7 : decode cX8_fail 7 = .ok (.invokevirtual 55, 3) := by decide +kernel
theorem dX8_fail_10 : decode cX8_fail 10 = .ok (.aload_n 0, 1) := by decide +kernel
theorem dX8_fail_11 : decode cX8_fail 11 = .ok (.getfield 50, 3) := by decide +kernel
theorem dX8_fail_14 : decode cX8_fail 14 = .ok (.iload_n 1, 1) := by decide +kernel
theorem dX8_fail_15 : decode cX8_fail 15 = .ok (.iload_n 2, 1) := by decide +kernel
theorem dX8_fail_16 : decode cX8_fail 16 = .ok (.invokevirtual 109, 3) := by decide +kernel
theorem dX8_fail_19 : decode cX8_fail 19 = .ok (.iload_n 2, 1) := by decide +kernel
theorem dX8_fail_20 : decode cX8_fail 20 = .ok (.ireturn, 1) := by decide +kernel
theorem dX8_succeed_0 : decode cX8_succeed 0 = .ok (.aload_n 0, 1) := by decide +kernel
theorem dX8_succeed_1 : decode cX8_succeed 1 = .ok (.getfield 50, 3) := by decide +kernel
theorem dX8_succeed_4 : decode cX8_succeed 4 = .ok (.bipush 7, 2) := by decide +kernel
theorem dX8_succeed_6 : decode cX8_succeed 6 = .ok (.iload_n 1, 1) := by decide +kernel
theorem dX8_succeed_7 : decode cX8_succeed 7 = .ok (.invokevirtual 55, 3) := by decide +kernel
theorem dX8_succeed_10 : decode cX8_succeed 10 = .ok (.aload_n 0, 1) := by decide +kernel
theorem dX8_succeed_11 : decode cX8_succeed 11 = .ok (.getfield 46, 3) := by decide +kernel
theorem dX8_succeed_14 : decode cX8_succeed 14 = .ok (.aload_n 0, 1) := by decide +kernel
theorem dX8_succeed_15 : decode cX8_succeed 15 = .ok (.getfield 11, 3) := by decide +kernel
theorem dX8_succeed_18 : decode cX8_succeed 18 = .ok (.iload_n 1, 1) := by decide +kernel
theorem dX8_succeed_19 : decode cX8_succeed 19 = .ok (.aaload, 1) := by decide +kernel
theorem dX8_succeed_20 : decode cX8_succeed 20 = .ok (.invokevirtual 155, 3) := by decide +kernel
theorem dX8_succeed_23 : decode cX8_succeed 23 = .ok (.iconst 0, 1) := by decide +kernel
theorem dX8_succeed_24 : decode cX8_succeed 24 = .ok (.ireturn, 1) := by decide +kernel
theorem dX9_init_0 : decode cX9_init 0 = .ok (.aload_n 0, 1) := by decide +kernel
theorem dX9_init_1 : decode cX9_init 1 = .ok (.invokespecial 3, 3) := by decide +kernel
theorem dX9_init_4 : decode cX9_init 4 = .ok (.aload_n 0, 1) := by decide +kernel
theorem dX9_init_5 : decode cX9_init 5 = .ok (.bipush 48, 2) := by decide +kernel
theorem dX9_init_7 : decode cX9_init 7 = .ok (.newarray .int, 2) := by decide +kernel
theorem dX9_init_9 : decode cX9_init 9 = .ok (.putfield 9, 3) := by decide +kernel
theorem dX9_init_12 : decode cX9_init 12 = .ok (.aload_n 0, 1) := by decide +kernel
theorem dX9_init_13 : decode cX9_init 13 = .ok (.iconst 3, 1) := by decide +kernel
theorem dX9_init_14 : decode cX9_init 14 = .ok (.anewarray 15, 3) := by decide +kernel
theorem dX9_init_17 : decode cX9_init 17 = .ok (.putfield 17, 3) := by decide +kernel
theorem dX9_init_20 : decode cX9_init 20 = .ok (.aload_n 0, 1) := by decide +kernel
theorem dX9_init_21 : decode cX9_init 21 = .ok (.aload_n 1, 1) := by decide +kernel
theorem dX9_init_22 : decode cX9_init 22 = .ok (.putfield 21, 3) := by decide +kernel
theorem dX9_init_25 : decode cX9_init 25 = .ok (.iconst 0, 1) := by decide +kernel
theorem dX9_init_26 : decode cX9_init 26 = .ok (.istore_n 2, 1) := by decide +kernel
theorem dX9_init_27 : decode cX9_init 27 = .ok (.iload_n 2, 1) := by decide +kernel
theorem dX9_init_28 : decode cX9_init 28 = .ok (.iconst 3, 1) := by decide +kernel
theorem dX9_init_29 : decode cX9_init 29 = .ok (.if_icmp .ge 22, 3) := by decide +kernel
theorem dX9_init_32 : decode cX9_init 32 = .ok (.aload_n 0, 1) := by decide +kernel
theorem dX9_init_33 : decode cX9_init 33 = .ok (.getfield 17, 3) := by decide +kernel
theorem dX9_init_36 : decode cX9_init 36 = .ok (.iload_n 2, 1) := by decide +kernel
theorem dX9_init_37 : decode cX9_init 37 = .ok (.new 15, 3) := by decide +kernel
theorem dX9_init_40 : decode cX9_init 40 = .ok (.dup, 1) := by decide +kernel
theorem dX9_init_41 : decode cX9_init 41 = .ok (.invokespecial 25, 3) := by decide +kernel
theorem dX9_init_44 : decode cX9_init 44 = .ok (.aastore, 1) := by decide +kernel
theorem dX9_init_45 : decode cX9_init 45 = .ok (.iinc 2 1, 3) := by decide +kernel
theorem dX9_init_48 : decode cX9_init 48 = .ok (.goto (-21), 3) := by decide +kernel
theorem dX9_init_51 : decode cX9_init 51 = .ok (.return_, 1) := by decide +kernel
theorem dX9_put_0 : decode cX9_put 0 = .ok (.aload_n 0, 1) := by decide +kernel
theorem dX9_put_1 : decode cX9_put 1 = .ok (.getfield 26, 3) := by decide +kernel
theorem dX9_put_4 : decode cX9_put 4 = .ok (.ifCond .lt 32, 3) := by decide +kernel
theorem dX9_put_7 : decode cX9_put 7 = .ok (.aload_n 0, 1) := by decide +kernel
theorem dX9_put_8 : decode cX9_put 8 = .ok (.getfield 26, 3) := by decide +kernel
theorem dX9_put_11 : decode cX9_put 11 = .ok (.bipush 48, 2) := by decide +kernel
theorem dX9_put_13 : decode cX9_put 13 = .ok (.if_icmp .ge 23, 3) := by decide +kernel
theorem dX9_put_16 : decode cX9_put 16 = .ok (.aload_n 0, 1) := by decide +kernel
theorem dX9_put_17 : decode cX9_put 17 = .ok (.getfield 9, 3) := by decide +kernel
theorem dX9_put_20 : decode cX9_put 20 = .ok (.aload_n 0, 1) := by decide +kernel
theorem dX9_put_21 : decode cX9_put 21 = .ok (.getfield 26, 3) := by decide +kernel
theorem dX9_put_24 : decode cX9_put 24 = .ok (.iload_n 1, 1) := by decide +kernel
theorem dX9_put_25 : decode cX9_put 25 = .ok (.iastore, 1) := by decide +kernel
theorem dX9_put_26 : decode cX9_put 26 = .ok (.aload_n 0, 1) := by decide +kernel
theorem dX9_put_27 : decode cX9_put 27 = .ok (.dup, 1) := by decide +kernel
theorem dX9_put_28 : decode cX9_put 28 = .ok (.getfield 26, 3) := by decide +kernel
theorem dX9_put_31 : decode cX9_put 31 = .ok (.iconst 1, 1) := by decide +kernel
theorem dX9_put_32 : decode cX9_put 32 = .ok (.iadd, 1) := by decide +kernel
theorem dX9_put_33 : decode cX9_put 33 = .ok (.putfield 26, 3) := by decide +kernel
theorem dX9_put_36 : decode cX9_put 36 = .ok (.return_, 1) := by decide +kernel
theorem dX9_readFunction_0 : decode cX9_readFunction 0 = .ok (.aload_n 0, 1) := by decide +kernel
theorem dX9_readFunction_1 : decode cX9_readFunction 1 = .ok (.iconst 0, 1) := by decide +kernel
theorem dX9_readFunction_2 : decode cX9_readFunction 2 = .ok (.putfield 30, 3) := by decide +kernel
theorem dX9_readFunction_5 : decode cX9_readFunction 5 = .ok (.aload_n 0, 1) := by decide +kernel
theorem dX9_readFunction_6 : decode cX9_readFunction 6 = .ok (.iload_n 1, 1) := by decide +kernel
theorem dX9_readFunction_7 : decode cX9_readFunction 7 = .ok (.putfield 33, 3) := by decide +kernel
theorem dX9_readFunction_10 : decode cX9_readFunction 10 = .ok (.aload_n 0, 1) := by decide +kernel
theorem dX9_readFunction_11 : decode cX9_readFunction 11 = .ok (.iload_n 1, 1) := by decide +kernel
theorem dX9_readFunction_12 : decode cX9_readFunction 12 = .ok (.iconst 2, 1) := by decide +kernel
theorem dX9_readFunction_13 : decode cX9_readFunction 13 = .ok (.if_icmp .ne 7, 3) := by decide +kernel
theorem dX9_readFunction_16 : decode cX9_readFunction 16 = .ok (.iconst 1, 1) := by decide +kernel
theorem dX9_readFunction_17 : decode cX9_readFunction 17 = .ok (.goto 4, 3) := by decide +kernel
theorem dX9_readFunction_20 : decode cX9_readFunction 20 = .ok (.iconst 0, 1) := by decide +kernel
theorem dX9_readFunction_21 : decode cX9_readFunction 21 = .ok (.putfield 36, 3) := by decide +kernel
theorem dX9_readFunction_24 : decode cX9_readFunction 24 = .ok (.aload_n 0, 1) := by decide +kernel
theorem dX9_readFunction_25 : decode cX9_readFunction 25 = .ok (.iconst 0, 1) := by decide +kernel
theorem dX9_readFunction_26 : decode cX9_readFunction 26 = .ok (.putfield 40, 3) := by decide +kernel
theorem dX9_readFunction_29 : decode cX9_readFunction 29 = .ok (.iconst 0, 1) := by decide +kernel
theorem dX9_readFunction_30 : decode cX9_readFunction 30 = .ok (.istore_n 3, 1) := by decide +kernel
theorem dX9_readFunction_31 : decode cX9_readFunction 31 = .ok (.iload_n 3, 1) := by decide +kernel
theorem dX9_readFunction_32 : decode cX9_readFunction 32 = .ok (.iload_n 2, 1) := by decide +kernel
theorem dX9_readFunction_33 : decode cX9_readFunction 33 = .ok (.if_icmp .gt 74, 3) := by decide +kernel
theorem dX9_readFunction_36 : decode cX9_readFunction 36 = .ok (.iload_n 3, 1) := by decide +kernel
theorem dX9_readFunction_37 : decode cX9_readFunction 37 = .ok (.iconst 3, 1) := by decide +kernel
theorem dX9_readFunction_38 : decode cX9_readFunction 38 = .ok (.if_icmp .ge 69, 3) := by decide +kernel
theorem dX9_readFunction_41 : decode cX9_readFunction 41 = .ok (.aload_n 0, 1) := by decide +kernel
theorem dX9_readFunction_42 : decode cX9_readFunction 42 = .ok (.iload_n 3, 1) := by decide +kernel
theorem dX9_readFunction_43 : decode cX9_readFunction 43 = .ok (.iload_n 2, 1) := by decide +kernel
theorem dX9_readFunction_44 : decode cX9_readFunction 44 = .ok (.if_icmp .ne 7, 3) := by decide +kernel
theorem dX9_readFunction_47 : decode cX9_readFunction 47 = .ok (.iconst 1, 1) := by decide +kernel
theorem dX9_readFunction_48 : decode cX9_readFunction 48 = .ok (.goto 4, 3) := by decide +kernel
theorem dX9_readFunction_51 : decode cX9_readFunction 51 = .ok (.iconst 0, 1) := by decide +kernel
theorem dX9_readFunction_52 : decode cX9_readFunction 52 = .ok (.putfield 43, 3) := by decide +kernel
theorem dX9_readFunction_55 : decode cX9_readFunction 55 = .ok (.aload_n 0, 1) := by decide +kernel
theorem dX9_readFunction_56 : decode cX9_readFunction 56 = .ok (.iload_n 3, 1) := by decide +kernel
theorem dX9_readFunction_57 : decode cX9_readFunction 57 = .ok (.iload_n 2, 1) := by decide +kernel
theorem dX9_readFunction_58 : decode cX9_readFunction 58 = .ok (.if_icmp .ne 7, 3) := by decide +kernel
theorem dX9_readFunction_61 : decode cX9_readFunction 61 = .ok (.iconst 1, 1) := by decide +kernel
theorem dX9_readFunction_62 : decode cX9_readFunction 62 = .ok (.goto 4, 3) := by decide +kernel
theorem dX9_readFunction_65 : decode cX9_readFunction 65 = .ok (.iconst 0, 1) := by decide +kernel
theorem dX9_readFunction_66 : decode cX9_readFunction 66 = .ok (.putfield 46, 3) := by decide +kernel
theorem dX9_readFunction_69 : decode cX9_readFunction 69 = .ok (.iload_n 3, 1) := by decide +kernel
theorem dX9_readFunction_70 : decode cX9_readFunction 70 = .ok (.ifCond .le 14, 3) := by decide +kernel
theorem dX9_readFunction_73 : decode cX9_readFunction 73 = .ok (.aload_n 0, 1) := by decide +kernel
theorem dX9_readFunction_74 : decode cX9_readFunction 74 = .ok (.bipush 59, 2) := by decide +kernel
theorem dX9_readFunction_76 : decode cX9_readFunction 76 = .ok (.invokevirtual 49, 3) := by decide +kernel
theorem dX9_readFunction_79 : decode cX9_readFunction 79 = .ok (.ifCond .ne 5, 3) := by decide +kernel
theorem dX9_readFunction_82 : decode cX9_readFunction 82 = .ok (.iconst 0, 1) := by decide +kernel
theorem dX9_readFunction_83 : decode cX9_readFunction 83 = .ok (.ireturn, 1) := by decide +kernel
theorem dX9_readFunction_84 : decode cX9_readFunction 84 = .ok (.aload_n 0, 1) := by decide +kernel
theorem dX9_readFunction_85 : decode cX9_readFunction 85 = .ok (.aload_n 0, 1) := by decide +kernel
theorem dX9_readFunction_86 : decode cX9_readFunction 86 = .ok (.getfield 17, 3) := by decide +kernel
theorem dX9_readFunction_89 : decode cX9_readFunction 89 = .ok (.iload_n 3, 1) := by decide +kernel
theorem dX9_readFunction_90 : decode cX9_readFunction 90 = .ok (.aaload, 1) := by decide +kernel
theorem dX9_readFunction_91 : decode cX9_readFunction 91 = .ok (.bipush 10, 2) := by decide +kernel
theorem dX9_readFunction_93 : decode cX9_readFunction 93 = .ok (.invokevirtual 53, 3) := by decide +kernel
theorem dX9_readFunction_96 : decode cX9_readFunction 96 = .ok (.ifCond .ne 5, 3) := by decide +kernel
theorem dX9_readFunction_99 : decode cX9_readFunction 99 = .ok (.iconst 0, 1) := by decide +kernel
theorem dX9_readFunction_100 : decode cX9_readFunction 100 = .ok (.ireturn, 1) := by decide +kernel
theorem dX9_readFunction_101 : decode cX9_readFunction 101 = .ok (.iinc 3 1, 3) := by decide +kernel
theorem dX9_readFunction_104 : decode cX9_readFunction 104 = .ok (.goto (-73), 3) := by decide +kernel
theorem dX9_readFunction_107 : decode cX9_readFunction 107 = .ok (.aload_n 0, 1) := by decide +kernel
theorem dX9_readFunction_108 : decode cX9_readFunction 108 = .ok (.getfield 30, 3) := by decide +kernel
theorem dX9_readFunction_111 : decode cX9_readFunction 111 = .ok (.aload_n 0, 1) := by decide +kernel
theorem dX9_readFunction_112 : decode cX9_readFunction 112 = .ok (.getfield 26, 3) := by decide +kernel
theorem dX9_readFunction_115 : decode cX9_readFunction 115 = .ok (.if_icmp .ne 7, 3) := by decide +kernel
theorem dX9_readFunction_118 : decode cX9_readFunction 118 = .ok (.iconst 1, 1) := by decide +kernel
theorem dX9_readFunction_119 : decode cX9_readFunction 119 = .ok (.goto 4, 3) := by decide +kernel
theorem dX9_readFunction_122 : decode cX9_readFunction 122 = .ok (.iconst 0, 1) := by decide +kernel
theorem dX9_readFunction_123 : decode cX9_readFunction 123 = .ok (.ireturn, 1) := by decide +kernel
theorem dX9_readClaim_0 : decode cX9_readClaim 0 = .ok (.aload_n 0, 1) := by decide +kernel
theorem dX9_readClaim_1 : decode cX9_readClaim 1 = .ok (.iconst 0, 1) := by decide +kernel
theorem dX9_readClaim_2 : decode cX9_readClaim 2 = .ok (.putfield 30, 3) := by decide +kernel
theorem dX9_readClaim_5 : decode cX9_readClaim 5 = .ok (.aload_n 0, 1) := by decide +kernel
theorem dX9_readClaim_6 : decode cX9_readClaim 6 = .ok (.iconst 0, 1) := by decide +kernel
theorem dX9_readClaim_7 : decode cX9_readClaim 7 = .ok (.putfield 43, 3) := by decide +kernel
theorem dX9_readClaim_10 : decode cX9_readClaim 10 = .ok (.aload_n 0, 1) := by decide +kernel
theorem dX9_readClaim_11 : decode cX9_readClaim 11 = .ok (.iconst 1, 1) := by decide +kernel
theorem dX9_readClaim_12 : decode cX9_readClaim 12 = .ok (.putfield 46, 3) := by decide +kernel
theorem dX9_readClaim_15 : decode cX9_readClaim 15 = .ok (.aload_n 0, 1) := by decide +kernel
theorem dX9_readClaim_16 : decode cX9_readClaim 16 = .ok (.iconst 1, 1) := by decide +kernel
theorem dX9_readClaim_17 : decode cX9_readClaim 17 = .ok (.putfield 36, 3) := by decide +kernel
theorem dX9_readClaim_20 : decode cX9_readClaim 20 = .ok (.aload_n 0, 1) := by decide +kernel
theorem dX9_readClaim_21 : decode cX9_readClaim 21 = .ok (.iconst 1, 1) := by decide +kernel
theorem dX9_readClaim_22 : decode cX9_readClaim 22 = .ok (.putfield 40, 3) := by decide +kernel
theorem dX9_readClaim_25 : decode cX9_readClaim 25 = .ok (.aload_n 0, 1) := by decide +kernel
theorem dX9_readClaim_26 : decode cX9_readClaim 26 = .ok (.aload_n 0, 1) := by decide +kernel
theorem dX9_readClaim_27 : decode cX9_readClaim 27 = .ok (.getfield 17, 3) := by decide +kernel
theorem dX9_readClaim_30 : decode cX9_readClaim 30 = .ok (.iconst 0, 1) := by decide +kernel
theorem dX9_readClaim_31 : decode cX9_readClaim 31 = .ok (.aaload, 1) := by decide +kernel
theorem dX9_readClaim_32 : decode cX9_readClaim 32 = .ok (.bipush 20, 2) := by decide +kernel
theorem dX9_readClaim_34 : decode cX9_readClaim 34 = .ok (.invokevirtual 53, 3) := by decide +kernel
theorem dX9_readClaim_37 : decode cX9_readClaim 37 = .ok (.ifCond .eq 31, 3) := by decide +kernel
theorem dX9_readClaim_40 : decode cX9_readClaim 40 = .ok (.aload_n 0, 1) := by decide +kernel
theorem dX9_readClaim_41 : decode cX9_readClaim 41 = .ok (.bipush 61, 2) := by decide +kernel
theorem dX9_readClaim_43 : decode cX9_readClaim 43 = .ok (.invokevirtual 49, 3) := by decide +kernel
theorem dX9_readClaim_46 : decode cX9_readClaim 46 = .ok (.ifCond .eq 22, 3) := by decide +kernel
theorem dX9_readClaim_49 : decode cX9_readClaim 49 = .ok (.aload_n 0, 1) := by decide +kernel
theorem dX9_readClaim_50 : decode cX9_readClaim 50 = .ok (.aload_n 0, 1) := by decide +kernel
theorem dX9_readClaim_51 : decode cX9_readClaim 51 = .ok (.getfield 17, 3) := by decide +kernel
theorem dX9_readClaim_54 : decode cX9_readClaim 54 = .ok (.iconst 1, 1) := by decide +kernel
theorem dX9_readClaim_55 : decode cX9_readClaim 55 = .ok (.aaload, 1) := by decide +kernel
theorem dX9_readClaim_56 : decode cX9_readClaim 56 = .ok (.bipush 20, 2) := by decide +kernel
theorem dX9_readClaim_58 : decode cX9_readClaim 58 = .ok (.invokevirtual 53, 3) := by decide +kernel
theorem dX9_readClaim_61 : decode cX9_readClaim 61 = .ok (.ifCond .eq 7, 3) := by decide +kernel
theorem dX9_readClaim_64 : decode cX9_readClaim 64 = .ok (.iconst 1, 1) := by decide +kernel
theorem dX9_readClaim_65 : decode cX9_readClaim 65 = .ok (.goto 4, 3) := by decide +kernel
theorem dX9_readClaim_68 : decode cX9_readClaim 68 = .ok (.iconst 0, 1) := by decide +kernel
theorem dX9_readClaim_69 : decode cX9_readClaim 69 = .ok (.istore_n 1, 1) := by decide +kernel
theorem dX9_readClaim_70 : decode cX9_readClaim 70 = .ok (.iload_n 1, 1) := by decide +kernel
theorem dX9_readClaim_71 : decode cX9_readClaim 71 = .ok (.ifCond .eq 14, 3) := by decide +kernel
theorem dX9_readClaim_74 : decode cX9_readClaim 74 = .ok (.aload_n 0, 1) := by decide +kernel
theorem dX9_readClaim_75 : decode cX9_readClaim 75 = .ok (.getfield 30, 3) := by decide +kernel
theorem dX9_readClaim_78 : decode cX9_readClaim 78 = .ok (.aload_n 0, 1) := by decide +kernel
theorem dX9_readClaim_79 : decode cX9_readClaim 79 = .ok (.getfield 26, 3) := by decide +kernel
theorem dX9_readClaim_82 : decode cX9_readClaim 82 = .ok (.if_icmp .eq 5, 3) := by decide +kernel
theorem dX9_readClaim_85 : decode cX9_readClaim 85 = .ok (.iconst 0, 1) := by decide +kernel
theorem dX9_readClaim_86 : decode cX9_readClaim 86 = .ok (.ireturn, 1) := by decide +kernel
theorem dX9_readClaim_87 : decode cX9_readClaim 87 = .ok (.aload_n 0, 1) := by decide +kernel
theorem dX9_readClaim_88 : decode cX9_readClaim 88 = .ok (.getfield 17, 3) := by decide +kernel
theorem dX9_readClaim_91 : decode cX9_readClaim 91 = .ok (.iconst 0, 1) := by decide +kernel
theorem dX9_readClaim_92 : decode cX9_readClaim 92 = .ok (.aaload, 1) := by decide +kernel
theorem dX9_readClaim_93 : decode cX9_readClaim 93 = .ok (.aload_n 0, 1) := by decide +kernel
theorem dX9_readClaim_94 : decode cX9_readClaim 94 = .ok (.getfield 21, 3) := by decide +kernel
theorem dX9_readClaim_97 : decode cX9_readClaim 97 = .ok (.getfield 57, 3) := by decide +kernel
theorem dX9_readClaim_100 : decode cX9_readClaim 100 = .ok (.invokevirtual 62, 3) := by decide +kernel
theorem dX9_readClaim_103 : decode cX9_readClaim 103 = .ok (.aload_n 0, 1) := by decide +kernel
theorem dX9_readClaim_104 : decode cX9_readClaim 104 = .ok (.getfield 17, 3) := by decide +kernel
theorem dX9_readClaim_107 : decode cX9_readClaim 107 = .ok (.iconst 1, 1) := by decide +kernel
theorem dX9_readClaim_108 : decode cX9_readClaim 108 = .ok (.aaload, 1) := by decide +kernel
theorem dX9_readClaim_109 : decode cX9_readClaim 109 = .ok (.aload_n 0, 1) := by decide +kernel
theorem dX9_readClaim_110 : decode cX9_readClaim 110 = .ok (.getfield 21, 3) := by decide +kernel
theorem dX9_readClaim_113 : decode cX9_readClaim 113 = .ok (.getfield 57, 3) := by decide +kernel
theorem dX9_readClaim_116 : decode cX9_readClaim 116 = .ok (.invokevirtual 62, 3) := by decide +kernel
theorem dX9_readClaim_119 : decode cX9_readClaim 119 = .ok (.iconst 1, 1) := by decide +kernel
theorem dX9_readClaim_120 : decode cX9_readClaim 120 = .ok (.ireturn, 1) := by decide +kernel
theorem dX9_pass_0 : decode cX9_pass 0 = .ok (.aload_n 0, 1) := by decide +kernel
theorem dX9_pass_1 : decode cX9_pass 1 = .ok (.getfield 30, 3) := by decide +kernel
theorem dX9_pass_4 : decode cX9_pass 4 = .ok (.ifCond .lt 27, 3) := by decide +kernel
theorem dX9_pass_7 : decode cX9_pass 7 = .ok (.aload_n 0, 1) := by decide +kernel
theorem dX9_pass_8 : decode cX9_pass 8 = .ok (.getfield 30, 3) := by decide +kernel
theorem dX9_pass_11 : decode cX9_pass 11 = .ok (.aload_n 0, 1) := by decide +kernel
theorem dX9_pass_12 : decode cX9_pass 12 = .ok (.getfield 26, 3) := by decide +kernel
theorem dX9_pass_15 : decode cX9_pass 15 = .ok (.if_icmp .ge 16, 3) := by decide +kernel
theorem dX9_pass_18 : decode cX9_pass 18 = .ok (.aload_n 0, 1) := by decide +kernel
theorem dX9_pass_19 : decode cX9_pass 19 = .ok (.getfield 9, 3) := by decide +kernel
theorem dX9_pass_22 : decode cX9_pass 22 = .ok (.aload_n 0, 1) := by decide +kernel
theorem dX9_pass_23 : decode cX9_pass 23 = .ok (.getfield 30, 3) := by decide +kernel
theorem dX9_pass_26 : decode cX9_pass 26 = .ok (.iaload, 1) := by decide +kernel
theorem dX9_pass_27 : decode cX9_pass 27 = .ok (.iload_n 1, 1) := by decide +kernel
theorem dX9_pass_28 : decode cX9_pass 28 = .ok (.if_icmp .eq 5, 3) := by decide +kernel
theorem dX9_pass_31 : decode cX9_pass 31 = .ok (.iconst 0, 1) := by decide +kernel
theorem dX9_pass_32 : decode cX9_pass 32 = .ok (.ireturn, 1) := by decide +kernel
theorem dX9_pass_33 : decode cX9_pass 33 = .ok (.aload_n 0, 1) := by decide +kernel
theorem dX9_pass_34 : decode cX9_pass 34 = .ok (.dup, 1) := by decide +kernel
theorem dX9_pass_35 : decode cX9_pass 35 = .ok (.getfield 30, 3) := by decide +kernel
theorem dX9_pass_38 : decode cX9_pass 38 = .ok (.iconst 1, 1) := by decide +kernel
theorem dX9_pass_39 : decode cX9_pass 39 = .ok (.iadd, 1) := by decide +kernel
theorem dX9_pass_40 : decode cX9_pass 40 = .ok (.putfield 30, 3) := by decide +kernel
theorem dX9_pass_43 : decode cX9_pass 43 = .ok (.iconst 1, 1) := by decide +kernel
theorem dX9_pass_44 : decode cX9_pass 44 = .ok (.ireturn, 1) := by decide +kernel
theorem dX9_readTerm_0 : decode cX9_readTerm 0 = .ok (.aload_n 1, 1) := by decide +kernel
theorem dX9_readTerm_1 : decode cX9_readTerm 1 = .ok (.invokevirtual 66, 3) := by decide +kernel
theorem dX9_readTerm_4 : decode cX9_readTerm 4 = .ok (.iconst 1, 1) := by decide +kernel
theorem dX9_readTerm_5 : decode cX9_readTerm 5 = .ok (.istore_n 3, 1) := by decide +kernel
theorem dX9_readTerm_6 : decode cX9_readTerm 6 = .ok (.iconst 0, 1) := by decide +kernel
theorem dX9_readTerm_7 : decode cX9_readTerm 7 = .ok (.istore 4, 2) := by decide +kernel
theorem dX9_readTerm_9 : decode cX9_readTerm 9 = .ok (.iconst 0, 1) := by decide +kernel
theorem dX9_readTerm_10 : decode cX9_readTerm 10 = .ok (.istore 5, 2) := by decide +kernel
theorem dX9_readTerm_12 : decode cX9_readTerm 12 = .ok (.iload 5, 2) := by decide +kernel
theorem dX9_readTerm_14 : decode cX9_readTerm 14 = .ok (.iload_n 2, 1) := by decide +kernel
theorem dX9_readTerm_15 : decode cX9_readTerm 15 = .ok (.if_icmp .ge 117, 3) := by decide +kernel
theorem dX9_readTerm_18 : decode cX9_readTerm 18 = .ok (.iload_n 3, 1) := by decide +kernel
theorem dX9_readTerm_19 : decode cX9_readTerm 19 = .ok (.ifCond .le 113, 3) := by decide +kernel
theorem dX9_readTerm_22 : decode cX9_readTerm 22 = .ok (.aload_n 0, 1) := by decide +kernel
theorem dX9_readTerm_23 : decode cX9_readTerm 23 = .ok (.getfield 30, 3) := by decide +kernel
theorem dX9_readTerm_26 : decode cX9_readTerm 26 = .ok (.ifCond .lt 14, 3) := by decide +kernel
theorem dX9_readTerm_29 : decode cX9_readTerm 29 = .ok (.aload_n 0, 1) := by decide +kernel
theorem dX9_readTerm_30 : decode cX9_readTerm 30 = .ok (.getfield 30, 3) := by decide +kernel
theorem dX9_readTerm_33 : decode cX9_readTerm 33 = .ok (.aload_n 0, 1) := by decide +kernel
theorem dX9_readTerm_34 : decode cX9_readTerm 34 = .ok (.getfield 26, 3) := by decide +kernel
theorem dX9_readTerm_37 : decode cX9_readTerm 37 = .ok (.if_icmp .lt 5, 3) := by decide +kernel
theorem dX9_readTerm_40 : decode cX9_readTerm 40 = .ok (.iconst 0, 1) := by decide +kernel
theorem dX9_readTerm_41 : decode cX9_readTerm 41 = .ok (.ireturn, 1) := by decide +kernel
theorem dX9_readTerm_42 : decode cX9_readTerm 42 = .ok (.aload_n 0, 1) := by decide +kernel
theorem dX9_readTerm_43 : decode cX9_readTerm 43 = .ok (.getfield 9, 3) := by decide +kernel
theorem dX9_readTerm_46 : decode cX9_readTerm 46 = .ok (.aload_n 0, 1) := by decide +kernel
theorem dX9_readTerm_47 : decode cX9_readTerm 47 = .ok (.getfield 30, 3) := by decide +kernel
theorem dX9_readTerm_50 : decode cX9_readTerm 50 = .ok (.iaload, 1) := by decide +kernel
theorem dX9_readTerm_51 : decode cX9_readTerm 51 = .ok (.istore 6, 2) := by decide +kernel
theorem dX9_readTerm_53 : decode cX9_readTerm 53 = .ok (.aload_n 0, 1) := by decide +kernel
theorem dX9_readTerm_54 : decode cX9_readTerm 54 = .ok (.iload 6, 2) := by decide +kernel
theorem dX9_readTerm_56 : decode cX9_readTerm 56 = .ok (.invokevirtual 69, 3) := by decide +kernel
theorem dX9_readTerm_59 : decode cX9_readTerm 59 = .ok (.istore 7, 2) := by decide +kernel
theorem dX9_readTerm_61 : decode cX9_readTerm 61 = .ok (.iload 7, 2) := by decide +kernel
theorem dX9_readTerm_63 : decode cX9_readTerm 63 = .ok (.bipush (-9), 2) := by decide +kernel
theorem dX9_readTerm_65 : decode cX9_readTerm 65 = .ok (.if_icmp .eq 15, 3) := by decide +kernel
theorem dX9_readTerm_68 : decode cX9_readTerm 68 = .ok (.iload 4, 2) := by decide +kernel
theorem dX9_readTerm_70 : decode cX9_readTerm 70 = .ok (.ifCond .eq 12, 3) := by decide +kernel
theorem dX9_readTerm_73 : decode cX9_readTerm 73 = .ok (.iload 6, 2) := by decide +kernel
theorem dX9_readTerm_75 : decode cX9_readTerm 75 = .ok (.bipush 120, 2) := by decide +kernel
theorem dX9_readTerm_77 : decode cX9_readTerm 77 = .ok (.if_icmp .eq 5, 3) := by decide +kernel
theorem dX9_readTerm_80 : decode cX9_readTerm 80 = .ok (.iconst 0, 1) := by decide +kernel
theorem dX9_readTerm_81 : decode cX9_readTerm 81 = .ok (.ireturn, 1) := by decide +kernel
theorem dX9_readTerm_82 : decode cX9_readTerm 82 = .ok (.iload_n 3, 1) := by decide +kernel
theorem dX9_readTerm_83 : decode cX9_readTerm 83 = .ok (.iload 7, 2) := by decide +kernel
theorem dX9_readTerm_85 : decode cX9_readTerm 85 = .ok (.iconst 1, 1) := by decide +kernel
theorem dX9_readTerm_86 : decode cX9_readTerm 86 = .ok (.isub, 1) := by decide +kernel
theorem dX9_readTerm_87 : decode cX9_readTerm 87 = .ok (.iadd, 1) := by decide +kernel
theorem dX9_readTerm_88 : decode cX9_readTerm 88 = .ok (.istore_n 3, 1) := by decide +kernel
theorem dX9_readTerm_89 : decode cX9_readTerm 89 = .ok (.iload 5, 2) := by decide +kernel
theorem dX9_readTerm_91 : decode cX9_readTerm 91 = .ok (.iconst 1, 1) := by decide +kernel
theorem dX9_readTerm_92 : decode cX9_readTerm 92 = .ok (.iadd, 1) := by decide +kernel
theorem dX9_readTerm_93 : decode cX9_readTerm 93 = .ok (.iload_n 3, 1) := by decide +kernel
theorem dX9_readTerm_94 : decode cX9_readTerm 94 = .ok (.iadd, 1) := by decide +kernel
theorem dX9_readTerm_95 : decode cX9_readTerm 95 = .ok (.iload_n 2, 1) := by decide +kernel
theorem dX9_readTerm_96 : decode cX9_readTerm 96 = .ok (.if_icmp .le 5, 3) := by decide +kernel
theorem dX9_readTerm_99 : decode cX9_readTerm 99 = .ok (.iconst 0, 1) := by decide +kernel
theorem dX9_readTerm_100 : decode cX9_readTerm 100 = .ok (.ireturn, 1) := by decide +kernel
theorem dX9_readTerm_101 : decode cX9_readTerm 101 = .ok (.aload_n 0, 1) := by decide +kernel
theorem dX9_readTerm_102 : decode cX9_readTerm 102 = .ok (.iload 6, 2) := by decide +kernel
theorem dX9_readTerm_104 : decode cX9_readTerm 104 = .ok (.invokevirtual 73, 3) := by decide +kernel
theorem dX9_readTerm_107 : decode cX9_readTerm 107 = .ok (.istore 4, 2) := by decide +kernel
theorem dX9_readTerm_109 : decode cX9_readTerm 109 = .ok (.aload_n 1, 1) := by decide +kernel
theorem dX9_readTerm_110 : decode cX9_readTerm 110 = .ok (.iload 6, 2) := by decide +kernel
theorem dX9_readTerm_112 : decode cX9_readTerm 112 = .ok (.invokevirtual 76, 3) := by decide +kernel
theorem dX9_readTerm_115 : decode cX9_readTerm 115 = .ok (.pop, 1) := by decide +kernel
theorem dX9_readTerm_116 : decode cX9_readTerm 116 = .ok (.aload_n 0, 1) := by decide +kernel
theorem dX9_readTerm_117 : decode cX9_readTerm 117 = .ok (.dup, 1) := by decide +kernel
theorem dX9_readTerm_118 : decode cX9_readTerm 118 = .ok (.getfield 30, 3) := by decide +kernel
theorem dX9_readTerm_121 : decode cX9_readTerm 121 = .ok (.iconst 1, 1) := by decide +kernel
theorem dX9_readTerm_122 : decode cX9_readTerm 122 = .ok (.iadd, 1) := by decide +kernel
theorem dX9_readTerm_123 : decode cX9_readTerm 123 = .ok (.putfield 30, 3) := by decide +kernel
theorem dX9_readTerm_126 : decode cX9_readTerm 126 = .ok (.iinc 5 1, 3) := by decide +kernel
theorem dX9_readTerm_129 : decode cX9_readTerm 129 = .ok (.goto (-117), 3) := by decide +kernel
theorem dX9_readTerm_132 : decode cX9_readTerm 132 = .ok (.iload_n 3, 1) := by decide +kernel
theorem dX9_readTerm_133 : decode cX9_readTerm 133 = .ok (.ifCond .ne 7, 3) := by decide +kernel
theorem dX9_readTerm_136 : decode cX9_readTerm 136 = .ok (.iconst 1, 1) := by decide +kernel
theorem dX9_readTerm_137 : decode cX9_readTerm 137 = .ok (.goto 4, 3) := by decide +kernel
theorem dX9_readTerm_140 : decode cX9_readTerm 140 = .ok (.iconst 0, 1) := by decide +kernel
theorem dX9_readTerm_141 : decode cX9_readTerm 141 = .ok (.ireturn, 1) := by decide +kernel
theorem dX9_isOwn_0 : decode cX9_isOwn 0 = .ok (.aload_n 0, 1) := by decide +kernel
theorem dX9_isOwn_1 : decode cX9_isOwn 1 = .ok (.getfield 43, 3) := by decide +kernel
theorem dX9_isOwn_4 : decode cX9_isOwn 4 = .ok (.ifCond .eq 21, 3) := by decide +kernel
theorem dX9_isOwn_7 : decode cX9_isOwn 7 = .ok (.iload_n 1, 1) := by decide +kernel
theorem dX9_isOwn_8 : decode cX9_isOwn 8 = .ok (.bipush 97, 2) := by decide +kernel
theorem dX9_isOwn_10 : decode cX9_isOwn 10 = .ok (.aload_n 0, 1) := by decide +kernel
theorem dX9_isOwn_11 : decode cX9_isOwn 11 = .ok (.getfield 21, 3) := by decide +kernel
theorem dX9_isOwn_14 : decode cX9_isOwn 14 = .ok (.getfield 79, 3) := by decide +kernel
theorem dX9_isOwn_17 : decode cX9_isOwn 17 = .ok (.iadd, 1) := by decide +kernel
theorem dX9_isOwn_18 : decode cX9_isOwn 18 = .ok (.if_icmp .ne 7, 3) := by decide +kernel
theorem dX9_isOwn_21 : decode cX9_isOwn 21 = .ok (.iconst 1, 1) := by decide +kernel
theorem dX9_isOwn_22 : decode cX9_isOwn 22 = .ok (.goto 4, 3) := by decide +kernel
theorem dX9_isOwn_25 : decode cX9_isOwn 25 = .ok (.iconst 0, 1) := by decide +kernel
theorem dX9_isOwn_26 : decode cX9_isOwn 26 = .ok (.ireturn, 1) := by decide +kernel
theorem dX9_argumentsOf_0 : decode cX9_argumentsOf 0 = .ok (.iload_n 1, 1) := by decide +kernel
theorem dX9_argumentsOf_1 : decode cX9_argumentsOf 1 = .ok (.bipush 97, 2) := by decide +kernel
theorem dX9_argumentsOf_3 : decode cX9_argumentsOf 3 = .ok (.isub, 1) := by decide +kernel
theorem dX9_argumentsOf_4 : decode cX9_argumentsOf 4 = .ok (.istore_n 2, 1) := by decide +kernel
theorem dX9_argumentsOf_5 : decode cX9_argumentsOf 5 = .ok (.iload_n 2, 1) := by decide +kernel
theorem dX9_argumentsOf_6 : decode cX9_argumentsOf 6 = .ok (.ifCond .lt 30, 3) := by decide +kernel
theorem dX9_argumentsOf_9 : decode cX9_argumentsOf 9 = .ok (.iload_n 2, 1) := by decide +kernel
theorem dX9_argumentsOf_10 : decode cX9_argumentsOf 10 = .ok (.aload_n 0, 1) := by decide +kernel
theorem dX9_argumentsOf_11 : decode cX9_argumentsOf 11 = .ok (.getfield 21, 3) := by decide +kernel
theorem dX9_argumentsOf_14 : decode cX9_argumentsOf 14 = .ok (.getfield 79, 3) := by decide +kernel
theorem dX9_argumentsOf_17 : decode cX9_argumentsOf 17 = .ok (.if_icmp .ge 19, 3) := by decide +kernel
theorem dX9_argumentsOf_20 : decode cX9_argumentsOf 20 = .ok (.iload_n 2, 1) := by decide +kernel
theorem dX9_argumentsOf_21 : decode cX9_argumentsOf 21 = .ok (.bipush 6, 2) := by decide +kernel
theorem dX9_argumentsOf_23 : decode cX9_argumentsOf 23 = .ok (.if_icmp .ge 13, 3) := by decide +kernel
theorem dX9_argumentsOf_26 : decode cX9_argumentsOf 26 = .ok (.aload_n 0, 1) := by decide +kernel
theorem dX9_argumentsOf_27 : decode cX9_argumentsOf 27 = .ok (.getfield 21, 3) := by decide +kernel
theorem dX9_argumentsOf_30 : decode cX9_argumentsOf 30 = .ok (.getfield 80, 3) := by decide +kernel
theorem dX9_argumentsOf_33 : decode cX9_argumentsOf 33 = .ok (.iload_n 2, 1) := by decide +kernel
theorem dX9_argumentsOf_34 : decode cX9_argumentsOf 34 = .ok (.iaload, 1) := by decide +kernel
theorem dX9_argumentsOf_35 : decode cX9_argumentsOf 35 = .ok (.ireturn, 1) := by decide +kernel
theorem dX9_argumentsOf_36 : decode cX9_argumentsOf 36 = .ok (.aload_n 0, 1) := by decide +kernel
theorem dX9_argumentsOf_37 : decode cX9_argumentsOf 37 = .ok (.iload_n 1, 1) := by decide +kernel
theorem dX9_argumentsOf_38 : decode cX9_argumentsOf 38 = .ok (.invokevirtual 73, 3) := by decide +kernel
theorem dX9_argumentsOf_41 : decode cX9_argumentsOf 41 = .ok (.ifCond .eq 8, 3) := by decide +kernel
theorem dX9_argumentsOf_44 : decode cX9_argumentsOf 44 = .ok (.aload_n 0, 1) := by decide +kernel
theorem dX9_argumentsOf_45 : decode cX9_argumentsOf 45 = .ok (.getfield 33, 3) := by decide +kernel
theorem dX9_argumentsOf_48 : decode cX9_argumentsOf 48 = .ok (.ireturn, 1) := by decide +kernel
theorem dX9_argumentsOf_49 : decode cX9_argumentsOf 49 = .ok (.iload_n 1, 1) := by decide +kernel
theorem dX9_argumentsOf_50 : decode cX9_argumentsOf 50 = .ok (.lookupswitch 96 #[(83, 52), (90, 50), (120, 54), (121, 68), (122, 82)], 50) := by decide +kernel
theorem dX9_argumentsOf_100 : decode cX9_argumentsOf 100 = .ok (.iconst 0, 1) := by decide +kernel
theorem dX9_argumentsOf_101 : decode cX9_argumentsOf 101 = .ok (.ireturn, 1) := by decide +kernel
theorem dX9_argumentsOf_102 : decode cX9_argumentsOf 102 = .ok (.iconst 1, 1) := by decide +kernel
theorem dX9_argumentsOf_103 : decode cX9_argumentsOf 103 = .ok (.ireturn, 1) := by decide +kernel
theorem dX9_argumentsOf_104 : decode cX9_argumentsOf 104 = .ok (.aload_n 0, 1) := by decide +kernel
theorem dX9_argumentsOf_105 : decode cX9_argumentsOf 105 = .ok (.getfield 46, 3) := by decide +kernel
theorem dX9_argumentsOf_108 : decode cX9_argumentsOf 108 = .ok (.ifCond .eq 7, 3) := by decide +kernel
theorem dX9_argumentsOf_111 : decode cX9_argumentsOf 111 = .ok (.iconst 0, 1) := by decide +kernel
theorem dX9_argumentsOf_112 : decode cX9_argumentsOf 112 = .ok (.goto 5, 3) := by decide +kernel
theorem dX9_argumentsOf_115 : decode cX9_argumentsOf 115 = .ok (.bipush (-9), 2) := by decide +kernel
theorem dX9_argumentsOf_117 : decode cX9_argumentsOf 117 = .ok (.ireturn, 1) := by decide +kernel
theorem dX9_argumentsOf_118 : decode cX9_argumentsOf 118 = .ok (.aload_n 0, 1) := by decide +kernel
theorem dX9_argumentsOf_119 : decode cX9_argumentsOf 119 = .ok (.getfield 36, 3) := by decide +kernel
theorem dX9_argumentsOf_122 : decode cX9_argumentsOf 122 = .ok (.ifCond .eq 7, 3) := by decide +kernel
theorem dX9_argumentsOf_125 : decode cX9_argumentsOf 125 = .ok (.iconst 0, 1) := by decide +kernel
theorem dX9_argumentsOf_126 : decode cX9_argumentsOf 126 = .ok (.goto 5, 3) := by decide +kernel
theorem dX9_argumentsOf_129 : decode cX9_argumentsOf 129 = .ok (.bipush (-9), 2) := by decide +kernel
theorem dX9_argumentsOf_131 : decode cX9_argumentsOf 131 = .ok (.ireturn, 1) := by decide +kernel
theorem dX9_argumentsOf_132 : decode cX9_argumentsOf 132 = .ok (.aload_n 0, 1) := by decide +kernel
theorem dX9_argumentsOf_133 : decode cX9_argumentsOf 133 = .ok (.getfield 40, 3) := by decide +kernel
theorem dX9_argumentsOf_136 : decode cX9_argumentsOf 136 = .ok (.ifCond .eq 7, 3) := by decide +kernel
theorem dX9_argumentsOf_139 : decode cX9_argumentsOf 139 = .ok (.iconst 0, 1) := by decide +kernel
theorem dX9_argumentsOf_140 : decode cX9_argumentsOf 140 = .ok (.goto 5, 3) := by decide +kernel
theorem dX9_argumentsOf_143 : decode cX9_argumentsOf 143 = .ok (.bipush (-9), 2) := by decide +kernel
theorem dX9_argumentsOf_145 : decode cX9_argumentsOf 145 = .ok (.ireturn, 1) := by decide +kernel
theorem dX9_argumentsOf_146 : decode cX9_argumentsOf 146 = .ok (.bipush (-9), 2) := by decide +kernel
theorem dX9_argumentsOf_148 : decode cX9_argumentsOf 148 = .ok (.ireturn, 1) := by decide +kernel
theorem dX10_init_0 : decode cX10_init 0 = .ok (.aload_n 0, 1) := by decide +kernel
theorem dX10_init_1 : decode cX10_init 1 = .ok (.invokespecial 3, 3) := by decide +kernel
theorem dX10_init_4 : decode cX10_init 4 = .ok (.aload_n 0, 1) := by decide +kernel
theorem dX10_init_5 : decode cX10_init 5 = .ok (.bipush 40, 2) := by decide +kernel
theorem dX10_init_7 : decode cX10_init 7 = .ok (.newarray .int, 2) := by decide +kernel
theorem dX10_init_9 : decode cX10_init 9 = .ok (.putfield 9, 3) := by decide +kernel
theorem dX10_init_12 : decode cX10_init 12 = .ok (.aload_n 0, 1) := by decide +kernel
theorem dX10_init_13 : decode cX10_init 13 = .ok (.bipush 40, 2) := by decide +kernel
theorem dX10_init_15 : decode cX10_init 15 = .ok (.newarray .int, 2) := by decide +kernel
theorem dX10_init_17 : decode cX10_init 17 = .ok (.putfield 15, 3) := by decide +kernel
theorem dX10_init_20 : decode cX10_init 20 = .ok (.return_, 1) := by decide +kernel
theorem dX10_empty_0 : decode cX10_empty 0 = .ok (.aload_n 0, 1) := by decide +kernel
theorem dX10_empty_1 : decode cX10_empty 1 = .ok (.iconst 0, 1) := by decide +kernel
theorem dX10_empty_2 : decode cX10_empty 2 = .ok (.putfield 18, 3) := by decide +kernel
theorem dX10_empty_5 : decode cX10_empty 5 = .ok (.return_, 1) := by decide +kernel
theorem dX10_add_0 : decode cX10_add 0 = .ok (.aload_n 0, 1) := by decide +kernel
theorem dX10_add_1 : decode cX10_add 1 = .ok (.getfield 18, 3) := by decide +kernel
theorem dX10_add_4 : decode cX10_add 4 = .ok (.ifCond .lt 12, 3) := by decide +kernel
theorem dX10_add_7 : decode cX10_add 7 = .ok (.aload_n 0, 1) := by decide +kernel
theorem dX10_add_8 : decode cX10_add 8 = .ok (.getfield 18, 3) := by decide +kernel
theorem dX10_add_11 : decode cX10_add 11 = .ok (.bipush 40, 2) := by decide +kernel
theorem dX10_add_13 : decode cX10_add 13 = .ok (.if_icmp .lt 5, 3) := by decide +kernel
theorem dX10_add_16 : decode cX10_add 16 = .ok (.iconst 0, 1) := by decide +kernel
theorem dX10_add_17 : decode cX10_add 17 = .ok (.ireturn, 1) := by decide +kernel
theorem dX10_add_18 : decode cX10_add 18 = .ok (.aload_n 0, 1) := by decide +kernel
theorem dX10_add_19 : decode cX10_add 19 = .ok (.getfield 9, 3) := by decide +kernel
theorem dX10_add_22 : decode cX10_add 22 = .ok (.aload_n 0, 1) := by decide +kernel
theorem dX10_add_23 : decode cX10_add 23 = .ok (.getfield 18, 3) := by decide +kernel
theorem dX10_add_26 : decode cX10_add 26 = .ok (.iload_n 1, 1) := by decide +kernel
theorem dX10_add_27 : decode cX10_add 27 = .ok (.iastore, 1) := by decide +kernel
theorem dX10_add_28 : decode cX10_add 28 = .ok (.aload_n 0, 1) := by decide +kernel
theorem dX10_add_29 : decode cX10_add 29 = .ok (.dup, 1) := by decide +kernel
theorem dX10_add_30 : decode cX10_add 30 = .ok (.getfield 18, 3) := by decide +kernel
theorem dX10_add_33 : decode cX10_add 33 = .ok (.iconst 1, 1) := by decide +kernel
theorem dX10_add_34 : decode cX10_add 34 = .ok (.iadd, 1) := by decide +kernel
theorem dX10_add_35 : decode cX10_add 35 = .ok (.putfield 18, 3) := by decide +kernel
theorem dX10_add_38 : decode cX10_add 38 = .ok (.iconst 1, 1) := by decide +kernel
theorem dX10_add_39 : decode cX10_add 39 = .ok (.ireturn, 1) := by decide +kernel
theorem dX10_addRange_0 : decode cX10_addRange 0 = .ok (.iload_n 3, 1) := by decide +kernel
theorem dX10_addRange_1 : decode cX10_addRange 1 = .ok (.iload_n 2, 1) := by decide +kernel
theorem dX10_addRange_2 : decode cX10_addRange 2 = .ok (.isub, 1) := by decide +kernel
theorem dX10_addRange_3 : decode cX10_addRange 3 = .ok (.istore 4, 2) := by decide +kernel
theorem dX10_addRange_5 : decode cX10_addRange 5 = .ok (.iload_n 2, 1) := by decide +kernel
theorem dX10_addRange_6 : decode cX10_addRange 6 = .ok (.ifCond .lt 28, 3) := by decide +kernel
theorem dX10_addRange_9 : decode cX10_addRange 9 = .ok (.iload 4, 2) := by decide +kernel
theorem dX10_addRange_11 : decode cX10_addRange 11 = .ok (.ifCond .lt 23, 3) := by decide +kernel
theorem dX10_addRange_14 : decode cX10_addRange 14 = .ok (.iload_n 3, 1) := by decide +kernel
theorem dX10_addRange_15 : decode cX10_addRange 15 = .ok (.aload_n 1, 1) := by decide +kernel
theorem dX10_addRange_16 : decode cX10_addRange 16 = .ok (.getfield 18, 3) := by decide +kernel
theorem dX10_addRange_19 : decode cX10_addRange 19 = .ok (.if_icmp .gt 15, 3) := by decide +kernel
theorem dX10_addRange_22 : decode cX10_addRange 22 = .ok (.aload_n 0, 1) := by decide +kernel
theorem dX10_addRange_23 : decode cX10_addRange 23 = .ok (.getfield 18, 3) := by decide +kernel
theorem dX10_addRange_26 : decode cX10_addRange 26 = .ok (.iload 4, 2) := by decide +kernel
theorem dX10_addRange_28 : decode cX10_addRange 28 = .ok (.iadd, 1) := by decide +kernel
theorem dX10_addRange_29 : decode cX10_addRange 29 = .ok (.bipush 40, 2) := by decide +kernel
theorem dX10_addRange_31 : decode cX10_addRange 31 = .ok (.if_icmp .le 5, 3) := by decide +kernel
theorem dX10_addRange_34 : decode cX10_addRange 34 = .ok (.iconst 0, 1) := by decide +kernel
theorem dX10_addRange_35 : decode cX10_addRange 35 = .ok (.ireturn, 1) := by decide +kernel
theorem dX10_addRange_36 : decode cX10_addRange 36 = .ok (.aload_n 1, 1) := by decide +kernel
theorem dX10_addRange_37 : decode cX10_addRange 37 = .ok (.getfield 9, 3) := by decide +kernel
theorem dX10_addRange_40 : decode cX10_addRange 40 = .ok (.iload_n 2, 1) := by decide +kernel
theorem dX10_addRange_41 : decode cX10_addRange 41 = .ok (.aload_n 0, 1) := by decide +kernel
theorem dX10_addRange_42 : decode cX10_addRange 42 = .ok (.getfield 9, 3) := by decide +kernel
theorem dX10_addRange_45 : decode cX10_addRange 45 = .ok (.aload_n 0, 1) := by decide +kernel
theorem dX10_addRange_46 : decode cX10_addRange 46 = .ok (.getfield 18, 3) := by decide +kernel
theorem dX10_addRange_49 : decode cX10_addRange 49 = .ok (.iload 4, 2) := by decide +kernel
theorem dX10_addRange_51 : decode cX10_addRange 51 = .ok (.invokestatic 22, 3) := by decide +kernel
theorem dX10_addRange_54 : decode cX10_addRange 54 = .ok (.aload_n 0, 1) := by decide +kernel
theorem dX10_addRange_55 : decode cX10_addRange 55 = .ok (.dup, 1) := by decide +kernel
theorem dX10_addRange_56 : decode cX10_addRange 56 = .ok (.getfield 18, 3) := by decide +kernel
theorem dX10_addRange_59 : decode cX10_addRange 59 = .ok (.iload 4, 2) := by decide +kernel
theorem dX10_addRange_61 : decode cX10_addRange 61 = .ok (.iadd, 1) := by decide +kernel
theorem dX10_addRange_62 : decode cX10_addRange 62 = .ok (.putfield 18, 3) := by decide +kernel
theorem dX10_addRange_65 : decode cX10_addRange 65 = .ok (.iconst 1, 1) := by decide +kernel
theorem dX10_addRange_66 : decode cX10_addRange 66 = .ok (.ireturn, 1) := by decide +kernel
theorem dX10_close_0 : decode cX10_close 0 = .ok (.aload_n 0, 1) := by decide +kernel
theorem dX10_close_1 : decode cX10_close 1 = .ok (.getfield 18, 3) := by decide +kernel
theorem dX10_close_4 : decode cX10_close 4 = .ok (.iconst 1, 1) := by decide +kernel
theorem dX10_close_5 : decode cX10_close 5 = .ok (.isub, 1) := by decide +kernel
theorem dX10_close_6 : decode cX10_close 6 = .ok (.istore_n 2, 1) := by decide +kernel
theorem dX10_close_7 : decode cX10_close 7 = .ok (.iload_n 2, 1) := by decide +kernel
theorem dX10_close_8 : decode cX10_close 8 = .ok (.ifCond .lt 81, 3) := by decide +kernel
theorem dX10_close_11 : decode cX10_close 11 = .ok (.iload_n 2, 1) := by decide +kernel
theorem dX10_close_12 : decode cX10_close 12 = .ok (.iconst 1, 1) := by decide +kernel
theorem dX10_close_13 : decode cX10_close 13 = .ok (.iadd, 1) := by decide +kernel
theorem dX10_close_14 : decode cX10_close 14 = .ok (.istore_n 3, 1) := by decide +kernel
theorem dX10_close_15 : decode cX10_close 15 = .ok (.aload_n 0, 1) := by decide +kernel
theorem dX10_close_16 : decode cX10_close 16 = .ok (.getfield 9, 3) := by decide +kernel
theorem dX10_close_19 : decode cX10_close 19 = .ok (.iload_n 2, 1) := by decide +kernel
theorem dX10_close_20 : decode cX10_close 20 = .ok (.iaload, 1) := by decide +kernel
theorem dX10_close_21 : decode cX10_close 21 = .ok (.istore 4, 2) := by decide +kernel
theorem dX10_close_23 : decode cX10_close 23 = .ok (.iload 4, 2) := by decide +kernel
theorem dX10_close_25 : decode cX10_close 25 = .ok (.ifCond .lt 17, 3) := by decide +kernel
theorem dX10_close_28 : decode cX10_close 28 = .ok (.iload 4, 2) := by decide +kernel
theorem dX10_close_30 : decode cX10_close 30 = .ok (.aload_n 1, 1) := by decide +kernel
theorem dX10_close_31 : decode cX10_close 31 = .ok (.arraylength, 1) := by decide +kernel
theorem dX10_close_32 : decode cX10_close 32 = .ok (.if_icmp .ge 10, 3) := by decide +kernel
theorem dX10_close_35 : decode cX10_close 35 = .ok (.aload_n 1, 1) := by decide +kernel
theorem dX10_close_36 : decode cX10_close 36 = .ok (.iload 4, 2) := by decide +kernel
theorem dX10_close_38 : decode cX10_close 38 = .ok (.iaload, 1) := by decide +kernel
theorem dX10_close_39 : decode cX10_close 39 = .ok (.goto 4, 3) := by decide +kernel
theorem dX10_close_42 : decode cX10_close 42 = .ok (.iconst 0, 1) := by decide +kernel
theorem dX10_close_43 : decode cX10_close 43 = .ok (.istore 5, 2) := by decide +kernel
theorem dX10_close_45 : decode cX10_close 45 = .ok (.iconst 0, 1) := by decide +kernel
theorem dX10_close_46 : decode cX10_close 46 = .ok (.istore 6, 2) := by decide +kernel
theorem dX10_close_48 : decode cX10_close 48 = .ok (.iload 6, 2) := by decide +kernel
theorem dX10_close_50 : decode cX10_close 50 = .ok (.iload 5, 2) := by decide +kernel
theorem dX10_close_52 : decode cX10_close 52 = .ok (.if_icmp .ge 24, 3) := by decide +kernel
theorem dX10_close_55 : decode cX10_close 55 = .ok (.iload_n 3, 1) := by decide +kernel
theorem dX10_close_56 : decode cX10_close 56 = .ok (.aload_n 0, 1) := by decide +kernel
theorem dX10_close_57 : decode cX10_close 57 = .ok (.getfield 18, 3) := by decide +kernel
theorem dX10_close_60 : decode cX10_close 60 = .ok (.if_icmp .ge 16, 3) := by decide +kernel
theorem dX10_close_63 : decode cX10_close 63 = .ok (.aload_n 0, 1) := by decide +kernel
theorem dX10_close_64 : decode cX10_close 64 = .ok (.getfield 15, 3) := by decide +kernel
theorem dX10_close_67 : decode cX10_close 67 = .ok (.iload_n 3, 1) := by decide +kernel
theorem dX10_close_68 : decode cX10_close 68 = .ok (.iaload, 1) := by decide +kernel
theorem dX10_close_69 : decode cX10_close 69 = .ok (.istore_n 3, 1) := by decide +kernel
theorem dX10_close_70 : decode cX10_close 70 = .ok (.iinc 6 1, 3) := by decide +kernel
theorem dX10_close_73 : decode cX10_close 73 = .ok (.goto (-25), 3) := by decide +kernel
theorem dX10_close_76 : decode cX10_close 76 = .ok (.aload_n 0, 1) := by decide +kernel
theorem dX10_close_77 : decode cX10_close 77 = .ok (.getfield 15, 3) := by decide +kernel
theorem dX10_close_80 : decode cX10_close 80 = .ok (.iload_n 2, 1) := by decide +kernel
theorem dX10_close_81 : decode cX10_close 81 = .ok (.iload_n 3, 1) := by decide +kernel
theorem dX10_close_82 : decode cX10_close 82 = .ok (.iastore, 1) := by decide +kernel
theorem dX10_close_83 : decode cX10_close 83 = .ok (.iinc 2 (-1), 3) := by decide +kernel
theorem dX10_close_86 : decode cX10_close 86 = .ok (.goto (-79), 3) := by decide +kernel
theorem dX10_close_89 : decode cX10_close 89 = .ok (.return_, 1) := by decide +kernel
theorem dX10_copy_0 : decode cX10_copy 0 = .ok (.aload_n 0, 1) := by decide +kernel
theorem dX10_copy_1 : decode cX10_copy 1 = .ok (.aload_n 1, 1) := by decide +kernel
theorem dX10_copy_2 : decode cX10_copy 2 = .ok (.getfield 18, 3) := by decide +kernel
end
section
theorem dX10_copy_5 : decode cX10_copy 5 = .ok (.putfield 18, 3) := by decide +kernel
theorem dX10_copy_8 : decode cX10_copy 8 = .ok (.aload_n 1, 1) := by decide +kernel
theorem dX10_copy_9 : decode cX10_copy 9 = .ok (.getfield 9, 3) := by decide +kernel
theorem dX10_copy_12 : decode cX10_copy 12 = .ok (.iconst 0, 1) := by decide +kernel
theorem dX10_copy_13 : decode cX10_copy 13 = .ok (.aload_n 0, 1) := by decide +kernel
theorem dX10_copy_14 : decode cX10_copy 14 = .ok (.getfield 9, 3) := by decide +kernel
theorem dX10_copy_17 : decode cX10_copy 17 = .ok (.iconst 0, 1) := by decide +kernel
theorem dX10_copy_18 : decode cX10_copy 18 = .ok (.aload_n 1, 1) := by decide +kernel
theorem dX10_copy_19 : decode cX10_copy 19 = .ok (.getfield 18, 3) := by decide +kernel
theorem dX10_copy_22 : decode cX10_copy 22 = .ok (.invokestatic 22, 3) := by decide +kernel
theorem dX10_copy_25 : decode cX10_copy 25 = .ok (.aload_n 1, 1) := by decide +kernel
theorem dX10_copy_26 : decode cX10_copy 26 = .ok (.getfield 15, 3) := by decide +kernel
theorem dX10_copy_29 : decode cX10_copy 29 = .ok (.iconst 0, 1) := by decide +kernel
theorem dX10_copy_30 : decode cX10_copy 30 = .ok (.aload_n 0, 1) := by decide +kernel
theorem dX10_copy_31 : decode cX10_copy 31 = .ok (.getfield 15, 3) := by decide +kernel
theorem dX10_copy_34 : decode cX10_copy 34 = .ok (.iconst 0, 1) := by decide +kernel
theorem dX10_copy_35 : decode cX10_copy 35 = .ok (.aload_n 1, 1) := by decide +kernel
theorem dX10_copy_36 : decode cX10_copy 36 = .ok (.getfield 18, 3) := by decide +kernel
theorem dX10_copy_39 : decode cX10_copy 39 = .ok (.invokestatic 22, 3) := by decide +kernel
theorem dX10_copy_42 : decode cX10_copy 42 = .ok (.return_, 1) := by decide +kernel
theorem dX10_symbolOrSize_0 : decode cX10_symbolOrSize 0 = .ok (.iload_n 1, 1) := by decide +kernel
theorem dX10_symbolOrSize_1 : decode cX10_symbolOrSize 1 = .ok (.bipush (-9), 2) := by decide +kernel
theorem dX10_symbolOrSize_3 : decode cX10_symbolOrSize 3 = .ok (.if_icmp .ne 8, 3) := by decide +kernel
theorem dX10_symbolOrSize_6 : decode cX10_symbolOrSize 6 = .ok (.aload_n 0, 1) := by decide +kernel
theorem dX10_symbolOrSize_7 : decode cX10_symbolOrSize 7 = .ok (.getfield 18, 3) := by decide +kernel
theorem dX10_symbolOrSize_10 : decode cX10_symbolOrSize 10 = .ok (.ireturn, 1) := by decide +kernel
theorem dX10_symbolOrSize_11 : decode cX10_symbolOrSize 11 = .ok (.iload_n 1, 1) := by decide +kernel
theorem dX10_symbolOrSize_12 : decode cX10_symbolOrSize 12 = .ok (.ifCond .lt 20, 3) := by decide +kernel
theorem dX10_symbolOrSize_15 : decode cX10_symbolOrSize 15 = .ok (.iload_n 1, 1) := by decide +kernel
theorem dX10_symbolOrSize_16 : decode cX10_symbolOrSize 16 = .ok (.aload_n 0, 1) := by decide +kernel
theorem dX10_symbolOrSize_17 : decode cX10_symbolOrSize 17 = .ok (.getfield 18, 3) := by decide +kernel
theorem dX10_symbolOrSize_20 : decode cX10_symbolOrSize 20 = .ok (.if_icmp .ge 12, 3) := by decide +kernel
theorem dX10_symbolOrSize_23 : decode cX10_symbolOrSize 23 = .ok (.aload_n 0, 1) := by decide +kernel
theorem dX10_symbolOrSize_24 : decode cX10_symbolOrSize 24 = .ok (.getfield 9, 3) := by decide +kernel
theorem dX10_symbolOrSize_27 : decode cX10_symbolOrSize 27 = .ok (.iload_n 1, 1) := by decide +kernel
theorem dX10_symbolOrSize_28 : decode cX10_symbolOrSize 28 = .ok (.iaload, 1) := by decide +kernel
theorem dX10_symbolOrSize_29 : decode cX10_symbolOrSize 29 = .ok (.goto 5, 3) := by decide +kernel
theorem dX10_symbolOrSize_32 : decode cX10_symbolOrSize 32 = .ok (.bipush (-9), 2) := by decide +kernel
theorem dX10_symbolOrSize_34 : decode cX10_symbolOrSize 34 = .ok (.ireturn, 1) := by decide +kernel
theorem dX10_isSame_0 : decode cX10_isSame 0 = .ok (.aload_n 0, 1) := by decide +kernel
theorem dX10_isSame_1 : decode cX10_isSame 1 = .ok (.getfield 18, 3) := by decide +kernel
theorem dX10_isSame_4 : decode cX10_isSame 4 = .ok (.aload_n 1, 1) := by decide +kernel
theorem dX10_isSame_5 : decode cX10_isSame 5 = .ok (.getfield 18, 3) := by decide +kernel
theorem dX10_isSame_8 : decode cX10_isSame 8 = .ok (.if_icmp .ne 17, 3) := by decide +kernel
theorem dX10_isSame_11 : decode cX10_isSame 11 = .ok (.aload_n 0, 1) := by decide +kernel
theorem dX10_isSame_12 : decode cX10_isSame 12 = .ok (.iconst 0, 1) := by decide +kernel
theorem dX10_isSame_13 : decode cX10_isSame 13 = .ok (.aload_n 1, 1) := by decide +kernel
theorem dX10_isSame_14 : decode cX10_isSame 14 = .ok (.iconst 0, 1) := by decide +kernel
theorem dX10_isSame_15 : decode cX10_isSame 15 = .ok (.invokevirtual 28, 3) := by decide +kernel
theorem dX10_isSame_18 : decode cX10_isSame 18 = .ok (.ifCond .eq 7, 3) := by decide +kernel
theorem dX10_isSame_21 : decode cX10_isSame 21 = .ok (.iconst 1, 1) := by decide +kernel
theorem dX10_isSame_22 : decode cX10_isSame 22 = .ok (.goto 4, 3) := by decide +kernel
theorem dX10_isSame_25 : decode cX10_isSame 25 = .ok (.iconst 0, 1) := by decide +kernel
theorem dX10_isSame_26 : decode cX10_isSame 26 = .ok (.ireturn, 1) := by decide +kernel
theorem dX10_isSameAt_0 : decode cX10_isSameAt 0 = .ok (.iload_n 1, 1) := by decide +kernel
theorem dX10_isSameAt_1 : decode cX10_isSameAt 1 = .ok (.ifCond .lt 23, 3) := by decide +kernel
theorem dX10_isSameAt_4 : decode cX10_isSameAt 4 = .ok (.iload_n 1, 1) := by decide +kernel
theorem dX10_isSameAt_5 : decode cX10_isSameAt 5 = .ok (.aload_n 0, 1) := by decide +kernel
theorem dX10_isSameAt_6 : decode cX10_isSameAt 6 = .ok (.getfield 18, 3) := by decide +kernel
theorem dX10_isSameAt_9 : decode cX10_isSameAt 9 = .ok (.if_icmp .ge 15, 3) := by decide +kernel
theorem dX10_isSameAt_12 : decode cX10_isSameAt 12 = .ok (.iload_n 3, 1) := by decide +kernel
theorem dX10_isSameAt_13 : decode cX10_isSameAt 13 = .ok (.ifCond .lt 11, 3) := by decide +kernel
theorem dX10_isSameAt_16 : decode cX10_isSameAt 16 = .ok (.iload_n 3, 1) := by decide +kernel
theorem dX10_isSameAt_17 : decode cX10_isSameAt 17 = .ok (.aload_n 2, 1) := by decide +kernel
theorem dX10_isSameAt_18 : decode cX10_isSameAt 18 = .ok (.getfield 18, 3) := by decide +kernel
theorem dX10_isSameAt_21 : decode cX10_isSameAt 21 = .ok (.if_icmp .lt 5, 3) := by decide +kernel
theorem dX10_isSameAt_24 : decode cX10_isSameAt 24 = .ok (.iconst 0, 1) := by decide +kernel
theorem dX10_isSameAt_25 : decode cX10_isSameAt 25 = .ok (.ireturn, 1) := by decide +kernel
theorem dX10_isSameAt_26 : decode cX10_isSameAt 26 = .ok (.aload_n 0, 1) := by decide +kernel
theorem dX10_isSameAt_27 : decode cX10_isSameAt 27 = .ok (.getfield 15, 3) := by decide +kernel
theorem dX10_isSameAt_30 : decode cX10_isSameAt 30 = .ok (.iload_n 1, 1) := by decide +kernel
theorem dX10_isSameAt_31 : decode cX10_isSameAt 31 = .ok (.iaload, 1) := by decide +kernel
theorem dX10_isSameAt_32 : decode cX10_isSameAt 32 = .ok (.iload_n 1, 1) := by decide +kernel
theorem dX10_isSameAt_33 : decode cX10_isSameAt 33 = .ok (.isub, 1) := by decide +kernel
theorem dX10_isSameAt_34 : decode cX10_isSameAt 34 = .ok (.istore 4, 2) := by decide +kernel
theorem dX10_isSameAt_36 : decode cX10_isSameAt 36 = .ok (.aload_n 2, 1) := by decide +kernel
theorem dX10_isSameAt_37 : decode cX10_isSameAt 37 = .ok (.getfield 15, 3) := by decide +kernel
theorem dX10_isSameAt_40 : decode cX10_isSameAt 40 = .ok (.iload_n 3, 1) := by decide +kernel
theorem dX10_isSameAt_41 : decode cX10_isSameAt 41 = .ok (.iaload, 1) := by decide +kernel
theorem dX10_isSameAt_42 : decode cX10_isSameAt 42 = .ok (.iload_n 3, 1) := by decide +kernel
theorem dX10_isSameAt_43 : decode cX10_isSameAt 43 = .ok (.isub, 1) := by decide +kernel
theorem dX10_isSameAt_44 : decode cX10_isSameAt 44 = .ok (.iload 4, 2) := by decide +kernel
theorem dX10_isSameAt_46 : decode cX10_isSameAt 46 = .ok (.if_icmp .eq 5, 3) := by decide +kernel
theorem dX10_isSameAt_49 : decode cX10_isSameAt 49 = .ok (.iconst 0, 1) := by decide +kernel
theorem dX10_isSameAt_50 : decode cX10_isSameAt 50 = .ok (.ireturn, 1) := by decide +kernel
theorem dX10_isSameAt_51 : decode cX10_isSameAt 51 = .ok (.iconst 0, 1) := by decide +kernel
theorem dX10_isSameAt_52 : decode cX10_isSameAt 52 = .ok (.istore 5, 2) := by decide +kernel
theorem dX10_isSameAt_54 : decode cX10_isSameAt 54 = .ok (.iload 5, 2) := by decide +kernel
theorem dX10_isSameAt_56 : decode cX10_isSameAt 56 = .ok (.iload 4, 2) := by decide +kernel
theorem dX10_isSameAt_58 : decode cX10_isSameAt 58 = .ok (.if_icmp .ge 32, 3) := by decide +kernel
theorem dX10_isSameAt_61 : decode cX10_isSameAt 61 = .ok (.aload_n 0, 1) := by decide +kernel
theorem dX10_isSameAt_62 : decode cX10_isSameAt 62 = .ok (.getfield 9, 3) := by decide +kernel
theorem dX10_isSameAt_65 : decode cX10_isSameAt 65 = .ok (.iload_n 1, 1) := by decide +kernel
theorem dX10_isSameAt_66 : decode cX10_isSameAt 66 = .ok (.iload 5, 2) := by decide +kernel
theorem dX10_isSameAt_68 : decode cX10_isSameAt 68 = .ok (.iadd, 1) := by decide +kernel
theorem dX10_isSameAt_69 : decode cX10_isSameAt 69 = .ok (.iaload, 1) := by decide +kernel
theorem dX10_isSameAt_70 : decode cX10_isSameAt 70 = .ok (.aload_n 2, 1) := by decide +kernel
theorem dX10_isSameAt_71 : decode cX10_isSameAt 71 = .ok (.getfield 9, 3) := by decide +kernel
theorem dX10_isSameAt_74 : decode cX10_isSameAt 74 = .ok (.iload_n 3, 1) := by decide +kernel
theorem dX10_isSameAt_75 : decode cX10_isSameAt 75 = .ok (.iload 5, 2) := by decide +kernel
theorem dX10_isSameAt_77 : decode cX10_isSameAt 77 = .ok (.iadd, 1) := by decide +kernel
theorem dX10_isSameAt_78 : decode cX10_isSameAt 78 = .ok (.iaload, 1) := by decide +kernel
theorem dX10_isSameAt_79 : decode cX10_isSameAt 79 = .ok (.if_icmp .eq 5, 3) := by decide +kernel
theorem dX10_isSameAt_82 : decode cX10_isSameAt 82 = .ok (.iconst 0, 1) := by decide +kernel
theorem dX10_isSameAt_83 : decode cX10_isSameAt 83 = .ok (.ireturn, 1) := by decide +kernel
theorem dX10_isSameAt_84 : decode cX10_isSameAt 84 = .ok (.iinc 5 1, 3) := by decide +kernel
theorem dX10_isSameAt_87 : decode cX10_isSameAt 87 = .ok (.goto (-33), 3) := by decide +kernel
theorem dX10_isSameAt_90 : decode cX10_isSameAt 90 = .ok (.iconst 1, 1) := by decide +kernel
theorem dX10_isSameAt_91 : decode cX10_isSameAt 91 = .ok (.ireturn, 1) := by decide +kernel
theorem dX10_has_0 : decode cX10_has 0 = .ok (.iconst 0, 1) := by decide +kernel
theorem dX10_has_1 : decode cX10_has 1 = .ok (.istore_n 2, 1) := by decide +kernel
theorem dX10_has_2 : decode cX10_has 2 = .ok (.iload_n 2, 1) := by decide +kernel
theorem dX10_has_3 : decode cX10_has 3 = .ok (.aload_n 0, 1) := by decide +kernel
theorem dX10_has_4 : decode cX10_has 4 = .ok (.getfield 18, 3) := by decide +kernel
theorem dX10_has_7 : decode cX10_has 7 = .ok (.if_icmp .ge 21, 3) := by decide +kernel
theorem dX10_has_10 : decode cX10_has 10 = .ok (.aload_n 0, 1) := by decide +kernel
theorem dX10_has_11 : decode cX10_has 11 = .ok (.getfield 9, 3) := by decide +kernel
theorem dX10_has_14 : decode cX10_has 14 = .ok (.iload_n 2, 1) := by decide +kernel
theorem dX10_has_15 : decode cX10_has 15 = .ok (.iaload, 1) := by decide +kernel
theorem dX10_has_16 : decode cX10_has 16 = .ok (.iload_n 1, 1) := by decide +kernel
theorem dX10_has_17 : decode cX10_has 17 = .ok (.if_icmp .ne 5, 3) := by decide +kernel
theorem dX10_has_20 : decode cX10_has 20 = .ok (.iconst 1, 1) := by decide +kernel
theorem dX10_has_21 : decode cX10_has 21 = .ok (.ireturn, 1) := by decide +kernel
theorem dX10_has_22 : decode cX10_has 22 = .ok (.iinc 2 1, 3) := by decide +kernel
theorem dX10_has_25 : decode cX10_has 25 = .ok (.goto (-23), 3) := by decide +kernel
theorem dX10_has_28 : decode cX10_has 28 = .ok (.iconst 0, 1) := by decide +kernel
theorem dX10_has_29 : decode cX10_has 29 = .ok (.ireturn, 1) := by decide +kernel
theorem dX10_hasSubterm_0 : decode cX10_hasSubterm 0 = .ok (.iconst 0, 1) := by decide +kernel
theorem dX10_hasSubterm_1 : decode cX10_hasSubterm 1 = .ok (.istore_n 3, 1) := by decide +kernel
theorem dX10_hasSubterm_2 : decode cX10_hasSubterm 2 = .ok (.iload_n 3, 1) := by decide +kernel
theorem dX10_hasSubterm_3 : decode cX10_hasSubterm 3 = .ok (.aload_n 0, 1) := by decide +kernel
theorem dX10_hasSubterm_4 : decode cX10_hasSubterm 4 = .ok (.getfield 18, 3) := by decide +kernel
theorem dX10_hasSubterm_7 : decode cX10_hasSubterm 7 = .ok (.if_icmp .ge 21, 3) := by decide +kernel
theorem dX10_hasSubterm_10 : decode cX10_hasSubterm 10 = .ok (.aload_n 0, 1) := by decide +kernel
theorem dX10_hasSubterm_11 : decode cX10_hasSubterm 11 = .ok (.iload_n 3, 1) := by decide +kernel
theorem dX10_hasSubterm_12 : decode cX10_hasSubterm 12 = .ok (.aload_n 1, 1) := by decide +kernel
theorem dX10_hasSubterm_13 : decode cX10_hasSubterm 13 = .ok (.iload_n 2, 1) := by decide +kernel
theorem dX10_hasSubterm_14 : decode cX10_hasSubterm 14 = .ok (.invokevirtual 28, 3) := by decide +kernel
theorem dX10_hasSubterm_17 : decode cX10_hasSubterm 17 = .ok (.ifCond .eq 5, 3) := by decide +kernel
theorem dX10_hasSubterm_20 : decode cX10_hasSubterm 20 = .ok (.iconst 1, 1) := by decide +kernel
theorem dX10_hasSubterm_21 : decode cX10_hasSubterm 21 = .ok (.ireturn, 1) := by decide +kernel
theorem dX10_hasSubterm_22 : decode cX10_hasSubterm 22 = .ok (.iinc 3 1, 3) := by decide +kernel
theorem dX10_hasSubterm_25 : decode cX10_hasSubterm 25 = .ok (.goto (-23), 3) := by decide +kernel
theorem dX10_hasSubterm_28 : decode cX10_hasSubterm 28 = .ok (.iconst 0, 1) := by decide +kernel
theorem dX10_hasSubterm_29 : decode cX10_hasSubterm 29 = .ok (.ireturn, 1) := by decide +kernel
theorem dX10_isCall_0 : decode cX10_isCall 0 = .ok (.iload_n 2, 1) := by decide +kernel
theorem dX10_isCall_1 : decode cX10_isCall 1 = .ok (.ifCond .le 42, 3) := by decide +kernel
theorem dX10_isCall_4 : decode cX10_isCall 4 = .ok (.iload_n 2, 1) := by decide +kernel
theorem dX10_isCall_5 : decode cX10_isCall 5 = .ok (.aload_n 0, 1) := by decide +kernel
theorem dX10_isCall_6 : decode cX10_isCall 6 = .ok (.getfield 18, 3) := by decide +kernel
theorem dX10_isCall_9 : decode cX10_isCall 9 = .ok (.if_icmp .ge 34, 3) := by decide +kernel
theorem dX10_isCall_12 : decode cX10_isCall 12 = .ok (.aload_n 0, 1) := by decide +kernel
theorem dX10_isCall_13 : decode cX10_isCall 13 = .ok (.getfield 9, 3) := by decide +kernel
theorem dX10_isCall_16 : decode cX10_isCall 16 = .ok (.iload_n 2, 1) := by decide +kernel
theorem dX10_isCall_17 : decode cX10_isCall 17 = .ok (.iaload, 1) := by decide +kernel
theorem dX10_isCall_18 : decode cX10_isCall 18 = .ok (.bipush 120, 2) := by decide +kernel
theorem dX10_isCall_20 : decode cX10_isCall 20 = .ok (.iload_n 1, 1) := by decide +kernel
theorem dX10_isCall_21 : decode cX10_isCall 21 = .ok (.iadd, 1) := by decide +kernel
theorem dX10_isCall_22 : decode cX10_isCall 22 = .ok (.if_icmp .ne 21, 3) := by decide +kernel
theorem dX10_isCall_25 : decode cX10_isCall 25 = .ok (.aload_n 0, 1) := by decide +kernel
theorem dX10_isCall_26 : decode cX10_isCall 26 = .ok (.getfield 9, 3) := by decide +kernel
theorem dX10_isCall_29 : decode cX10_isCall 29 = .ok (.iload_n 2, 1) := by decide +kernel
theorem dX10_isCall_30 : decode cX10_isCall 30 = .ok (.iconst 1, 1) := by decide +kernel
theorem dX10_isCall_31 : decode cX10_isCall 31 = .ok (.isub, 1) := by decide +kernel
theorem dX10_isCall_32 : decode cX10_isCall 32 = .ok (.iaload, 1) := by decide +kernel
theorem dX10_isCall_33 : decode cX10_isCall 33 = .ok (.invokestatic 32, 3) := by decide +kernel
theorem dX10_isCall_36 : decode cX10_isCall 36 = .ok (.ifCond .eq 7, 3) := by decide +kernel
theorem dX10_isCall_39 : decode cX10_isCall 39 = .ok (.iconst 1, 1) := by decide +kernel
theorem dX10_isCall_40 : decode cX10_isCall 40 = .ok (.goto 4, 3) := by decide +kernel
theorem dX10_isCall_43 : decode cX10_isCall 43 = .ok (.iconst 0, 1) := by decide +kernel
theorem dX10_isCall_44 : decode cX10_isCall 44 = .ok (.ireturn, 1) := by decide +kernel
theorem dX10_isLetter_0 : decode cX10_isLetter 0 = .ok (.iload_n 0, 1) := by decide +kernel
theorem dX10_isLetter_1 : decode cX10_isLetter 1 = .ok (.bipush 97, 2) := by decide +kernel
theorem dX10_isLetter_3 : decode cX10_isLetter 3 = .ok (.if_icmp .lt 13, 3) := by decide +kernel
theorem dX10_isLetter_6 : decode cX10_isLetter 6 = .ok (.iload_n 0, 1) := by decide +kernel
theorem dX10_isLetter_7 : decode cX10_isLetter 7 = .ok (.bipush 103, 2) := by decide +kernel
theorem dX10_isLetter_9 : decode cX10_isLetter 9 = .ok (.if_icmp .ge 7, 3) := by decide +kernel
theorem dX10_isLetter_12 : decode cX10_isLetter 12 = .ok (.iconst 1, 1) := by decide +kernel
theorem dX10_isLetter_13 : decode cX10_isLetter 13 = .ok (.goto 4, 3) := by decide +kernel
theorem dX10_isLetter_16 : decode cX10_isLetter 16 = .ok (.iconst 0, 1) := by decide +kernel
theorem dX10_isLetter_17 : decode cX10_isLetter 17 = .ok (.ireturn, 1) := by decide +kernel
theorem dX11_init_0 : decode cX11_init 0 = .ok (.aload_n 0, 1) := by decide +kernel
theorem dX11_init_1 : decode cX11_init 1 = .ok (.invokespecial 3, 3) := by decide +kernel
theorem dX11_init_4 : decode cX11_init 4 = .ok (.aload_n 0, 1) := by decide +kernel
theorem dX11_init_5 : decode cX11_init 5 = .ok (.new 9, 3) := by decide +kernel
theorem dX11_init_8 : decode cX11_init 8 = .ok (.dup, 1) := by decide +kernel
theorem dX11_init_9 : decode cX11_init 9 = .ok (.invokespecial 11, 3) := by decide +kernel
theorem dX11_init_12 : decode cX11_init 12 = .ok (.putfield 12, 3) := by decide +kernel
theorem dX11_init_15 : decode cX11_init 15 = .ok (.aload_n 0, 1) := by decide +kernel
theorem dX11_init_16 : decode cX11_init 16 = .ok (.new 16, 3) := by decide +kernel
theorem dX11_init_19 : decode cX11_init 19 = .ok (.dup, 1) := by decide +kernel
theorem dX11_init_20 : decode cX11_init 20 = .ok (.aload_n 0, 1) := by decide +kernel
theorem dX11_init_21 : decode cX11_init 21 = .ok (.getfield 12, 3) := by decide +kernel
theorem dX11_init_24 : decode cX11_init 24 = .ok (.invokespecial 18, 3) := by decide +kernel
theorem dX11_init_27 : decode cX11_init 27 = .ok (.putfield 21, 3) := by decide +kernel
theorem dX11_init_30 : decode cX11_init 30 = .ok (.aload_n 0, 1) := by decide +kernel
theorem dX11_init_31 : decode cX11_init 31 = .ok (.new 25, 3) := by decide +kernel
theorem dX11_init_34 : decode cX11_init 34 = .ok (.dup, 1) := by decide +kernel
theorem dX11_init_35 : decode cX11_init 35 = .ok (.aload_n 0, 1) := by decide +kernel
theorem dX11_init_36 : decode cX11_init 36 = .ok (.getfield 12, 3) := by decide +kernel
theorem dX11_init_39 : decode cX11_init 39 = .ok (.invokespecial 27, 3) := by decide +kernel
theorem dX11_init_42 : decode cX11_init 42 = .ok (.putfield 28, 3) := by decide +kernel
theorem dX11_init_45 : decode cX11_init 45 = .ok (.aload_n 0, 1) := by decide +kernel
theorem dX11_init_46 : decode cX11_init 46 = .ok (.new 32, 3) := by decide +kernel
theorem dX11_init_49 : decode cX11_init 49 = .ok (.dup, 1) := by decide +kernel
theorem dX11_init_50 : decode cX11_init 50 = .ok (.aload_n 0, 1) := by decide +kernel
theorem dX11_init_51 : decode cX11_init 51 = .ok (.getfield 12, 3) := by decide +kernel
theorem dX11_init_54 : decode cX11_init 54 = .ok (.invokespecial 34, 3) := by decide +kernel
theorem dX11_init_57 : decode cX11_init 57 = .ok (.putfield 35, 3) := by decide +kernel
theorem dX11_init_60 : decode cX11_init 60 = .ok (.aload_n 0, 1) := by decide +kernel
theorem dX11_init_61 : decode cX11_init 61 = .ok (.new 39, 3) := by decide +kernel
theorem dX11_init_64 : decode cX11_init 64 = .ok (.dup, 1) := by decide +kernel
theorem dX11_init_65 : decode cX11_init 65 = .ok (.invokespecial 41, 3) := by decide +kernel
theorem dX11_init_68 : decode cX11_init 68 = .ok (.putfield 42, 3) := by decide +kernel
theorem dX11_init_71 : decode cX11_init 71 = .ok (.new 46, 3) := by decide +kernel
theorem dX11_init_74 : decode cX11_init 74 = .ok (.dup, 1) := by decide +kernel
theorem dX11_init_75 : decode cX11_init 75 = .ok (.aload_n 0, 1) := by decide +kernel
theorem dX11_init_76 : decode cX11_init 76 = .ok (.getfield 12, 3) := by decide +kernel
theorem dX11_init_79 : decode cX11_init 79 = .ok (.invokespecial 48, 3) := by decide +kernel
theorem dX11_init_82 : decode cX11_init 82 = .ok (.astore_n 1, 1) := by decide +kernel
theorem dX11_init_83 : decode cX11_init 83 = .ok (.aload_n 0, 1) := by decide +kernel
theorem dX11_init_84 : decode cX11_init 84 = .ok (.new 49, 3) := by decide +kernel
theorem dX11_init_87 : decode cX11_init 87 = .ok (.dup, 1) := by decide +kernel
theorem dX11_init_88 : decode cX11_init 88 = .ok (.aload_n 0, 1) := by decide +kernel
theorem dX11_init_89 : decode cX11_init 89 = .ok (.getfield 42, 3) := by decide +kernel
theorem dX11_init_92 : decode cX11_init 92 = .ok (.aload_n 1, 1) := by decide +kernel
theorem dX11_init_93 : decode cX11_init 93 = .ok (.invokespecial 51, 3) := by decide +kernel
theorem dX11_init_96 : decode cX11_init 96 = .ok (.putfield 54, 3) := by decide +kernel
theorem dX11_init_99 : decode cX11_init 99 = .ok (.aload_n 0, 1) := by decide +kernel
theorem dX11_init_100 : decode cX11_init 100 = .ok (.new 58, 3) := by decide +kernel
theorem dX11_init_103 : decode cX11_init 103 = .ok (.dup, 1) := by decide +kernel
theorem dX11_init_104 : decode cX11_init 104 = .ok (.invokespecial 60, 3) := by decide +kernel
theorem dX11_init_107 : decode cX11_init 107 = .ok (.putfield 61, 3) := by decide +kernel
theorem dX11_init_110 : decode cX11_init 110 = .ok (.aload_n 0, 1) := by decide +kernel
theorem dX11_init_111 : decode cX11_init 111 = .ok (.new 65, 3) := by decide +kernel
theorem dX11_init_114 : decode cX11_init 114 = .ok (.dup, 1) := by decide +kernel
theorem dX11_init_115 : decode cX11_init 115 = .ok (.aload_n 0, 1) := by decide +kernel
theorem dX11_init_116 : decode cX11_init 116 = .ok (.getfield 12, 3) := by decide +kernel
theorem dX11_init_119 : decode cX11_init 119 = .ok (.aload_n 0, 1) := by decide +kernel
theorem dX11_init_120 : decode cX11_init 120 = .ok (.getfield 28, 3) := by decide +kernel
theorem dX11_init_123 : decode cX11_init 123 = .ok (.aload_n 0, 1) := by decide +kernel
theorem dX11_init_124 : decode cX11_init 124 = .ok (.getfield 35, 3) := by decide +kernel
theorem dX11_init_127 : decode cX11_init 127 = .ok (.aload_n 1, 1) := by decide +kernel
theorem dX11_init_128 : decode cX11_init 128 = .ok (.aload_n 0, 1) := by decide +kernel
theorem dX11_init_129 : decode cX11_init 129 = .ok (.getfield 54, 3) := by decide +kernel
theorem dX11_init_132 : decode cX11_init 132 = .ok (.aload_n 0, 1) := by decide +kernel
theorem dX11_init_133 : decode cX11_init 133 = .ok (.getfield 61, 3) := by decide +kernel
theorem dX11_init_136 : decode cX11_init 136 = .ok (.invokespecial 67, 3) := by decide +kernel
theorem dX11_init_139 : decode cX11_init 139 = .ok (.putfield 70, 3) := by decide +kernel
theorem dX11_init_142 : decode cX11_init 142 = .ok (.aload_n 0, 1) := by decide +kernel
theorem dX11_init_143 : decode cX11_init 143 = .ok (.new 74, 3) := by decide +kernel
theorem dX11_init_146 : decode cX11_init 146 = .ok (.dup, 1) := by decide +kernel
theorem dX11_init_147 : decode cX11_init 147 = .ok (.invokespecial 76, 3) := by decide +kernel
theorem dX11_init_150 : decode cX11_init 150 = .ok (.putfield 77, 3) := by decide +kernel
theorem dX11_init_153 : decode cX11_init 153 = .ok (.aload_n 0, 1) := by decide +kernel
theorem dX11_init_154 : decode cX11_init 154 = .ok (.new 74, 3) := by decide +kernel
theorem dX11_init_157 : decode cX11_init 157 = .ok (.dup, 1) := by decide +kernel
theorem dX11_init_158 : decode cX11_init 158 = .ok (.invokespecial 76, 3) := by decide +kernel
theorem dX11_init_161 : decode cX11_init 161 = .ok (.putfield 81, 3) := by decide +kernel
theorem dX11_init_164 : decode cX11_init 164 = .ok (.aload_n 0, 1) := by decide +kernel
theorem dX11_init_165 : decode cX11_init 165 = .ok (.new 84, 3) := by decide +kernel
theorem dX11_init_168 : decode cX11_init 168 = .ok (.dup, 1) := by decide +kernel
theorem dX11_init_169 : decode cX11_init 169 = .ok (.invokespecial 86, 3) := by decide +kernel
theorem dX11_init_172 : decode cX11_init 172 = .ok (.putfield 87, 3) := by decide +kernel
theorem dX11_init_175 : decode cX11_init 175 = .ok (.aload_n 0, 1) := by decide +kernel
theorem dX11_init_176 : decode cX11_init 176 = .ok (.iconst 0, 1) := by decide +kernel
theorem dX11_init_177 : decode cX11_init 177 = .ok (.putfield 91, 3) := by decide +kernel
theorem dX11_init_180 : decode cX11_init 180 = .ok (.return_, 1) := by decide +kernel
theorem dX11_type_0 : decode cX11_type 0 = .ok (.iload_n 1, 1) := by decide +kernel
theorem dX11_type_1 : decode cX11_type 1 = .ok (.bipush 127, 2) := by decide +kernel
theorem dX11_type_3 : decode cX11_type 3 = .ok (.invokestatic 95, 3) := by decide +kernel
theorem dX11_type_6 : decode cX11_type 6 = .ok (.ifCond .eq 6, 3) := by decide +kernel
theorem dX11_type_9 : decode cX11_type 9 = .ok (.bipush (-2), 2) := by decide +kernel
theorem dX11_type_11 : decode cX11_type 11 = .ok (.ireturn, 1) := by decide +kernel
theorem dX11_type_12 : decode cX11_type 12 = .ok (.aload_n 0, 1) := by decide +kernel
theorem dX11_type_13 : decode cX11_type 13 = .ok (.getfield 21, 3) := by decide +kernel
theorem dX11_type_16 : decode cX11_type 16 = .ok (.getfield 99, 3) := by decide +kernel
theorem dX11_type_19 : decode cX11_type 19 = .ok (.bipush 48, 2) := by decide +kernel
theorem dX11_type_21 : decode cX11_type 21 = .ok (.if_icmp .lt 6, 3) := by decide +kernel
theorem dX11_type_24 : decode cX11_type 24 = .ok (.bipush (-4), 2) := by decide +kernel
theorem dX11_type_26 : decode cX11_type 26 = .ok (.ireturn, 1) := by decide +kernel
theorem dX11_type_27 : decode cX11_type 27 = .ok (.aload_n 0, 1) := by decide +kernel
theorem dX11_type_28 : decode cX11_type 28 = .ok (.getfield 21, 3) := by decide +kernel
theorem dX11_type_31 : decode cX11_type 31 = .ok (.iload_n 1, 1) := by decide +kernel
theorem dX11_type_32 : decode cX11_type 32 = .ok (.invokevirtual 103, 3) := by decide +kernel
theorem dX11_type_35 : decode cX11_type 35 = .ok (.aload_n 0, 1) := by decide +kernel
theorem dX11_type_36 : decode cX11_type 36 = .ok (.getfield 21, 3) := by decide +kernel
theorem dX11_type_39 : decode cX11_type 39 = .ok (.getfield 99, 3) := by decide +kernel
theorem dX11_type_42 : decode cX11_type 42 = .ok (.ireturn, 1) := by decide +kernel
theorem dX11_wipe_0 : decode cX11_wipe 0 = .ok (.aload_n 0, 1) := by decide +kernel
theorem dX11_wipe_1 : decode cX11_wipe 1 = .ok (.getfield 21, 3) := by decide +kernel
theorem dX11_wipe_4 : decode cX11_wipe 4 = .ok (.getfield 99, 3) := by decide +kernel
theorem dX11_wipe_7 : decode cX11_wipe 7 = .ok (.istore_n 1, 1) := by decide +kernel
theorem dX11_wipe_8 : decode cX11_wipe 8 = .ok (.aload_n 0, 1) := by decide +kernel
theorem dX11_wipe_9 : decode cX11_wipe 9 = .ok (.getfield 21, 3) := by decide +kernel
theorem dX11_wipe_12 : decode cX11_wipe 12 = .ok (.iconst 0, 1) := by decide +kernel
theorem dX11_wipe_13 : decode cX11_wipe 13 = .ok (.putfield 99, 3) := by decide +kernel
theorem dX11_wipe_16 : decode cX11_wipe 16 = .ok (.iload_n 1, 1) := by decide +kernel
theorem dX11_wipe_17 : decode cX11_wipe 17 = .ok (.ireturn, 1) := by decide +kernel
theorem dX11_function_0 : decode cX11_function 0 = .ok (.iload_n 1, 1) := by decide +kernel
theorem dX11_function_1 : decode cX11_function 1 = .ok (.iconst 1, 1) := by decide +kernel
theorem dX11_function_2 : decode cX11_function 2 = .ok (.if_icmp .lt 18, 3) := by decide +kernel
theorem dX11_function_5 : decode cX11_function 5 = .ok (.iload_n 1, 1) := by decide +kernel
theorem dX11_function_6 : decode cX11_function 6 = .ok (.iconst 2, 1) := by decide +kernel
theorem dX11_function_7 : decode cX11_function 7 = .ok (.if_icmp .gt 13, 3) := by decide +kernel
theorem dX11_function_10 : decode cX11_function 10 = .ok (.iload_n 2, 1) := by decide +kernel
theorem dX11_function_11 : decode cX11_function 11 = .ok (.iconst 1, 1) := by decide +kernel
theorem dX11_function_12 : decode cX11_function 12 = .ok (.if_icmp .lt 8, 3) := by decide +kernel
theorem dX11_function_15 : decode cX11_function 15 = .ok (.iload_n 2, 1) := by decide +kernel
theorem dX11_function_16 : decode cX11_function 16 = .ok (.iconst 2, 1) := by decide +kernel
theorem dX11_function_17 : decode cX11_function 17 = .ok (.if_icmp .le 6, 3) := by decide +kernel
theorem dX11_function_20 : decode cX11_function 20 = .ok (.bipush (-2), 2) := by decide +kernel
theorem dX11_function_22 : decode cX11_function 22 = .ok (.ireturn, 1) := by decide +kernel
theorem dX11_function_23 : decode cX11_function 23 = .ok (.aload_n 0, 1) := by decide +kernel
theorem dX11_function_24 : decode cX11_function 24 = .ok (.getfield 12, 3) := by decide +kernel
theorem dX11_function_27 : decode cX11_function 27 = .ok (.getfield 107, 3) := by decide +kernel
theorem dX11_function_30 : decode cX11_function 30 = .ok (.bipush 6, 2) := by decide +kernel
theorem dX11_function_32 : decode cX11_function 32 = .ok (.if_icmp .lt 6, 3) := by decide +kernel
theorem dX11_function_35 : decode cX11_function 35 = .ok (.bipush (-4), 2) := by decide +kernel
theorem dX11_function_37 : decode cX11_function 37 = .ok (.ireturn, 1) := by decide +kernel
theorem dX11_function_38 : decode cX11_function 38 = .ok (.aload_n 0, 1) := by decide +kernel
theorem dX11_function_39 : decode cX11_function 39 = .ok (.getfield 21, 3) := by decide +kernel
theorem dX11_function_42 : decode cX11_function 42 = .ok (.iload_n 1, 1) := by decide +kernel
theorem dX11_function_43 : decode cX11_function 43 = .ok (.iload_n 2, 1) := by decide +kernel
theorem dX11_function_44 : decode cX11_function 44 = .ok (.invokevirtual 108, 3) := by decide +kernel
theorem dX11_function_47 : decode cX11_function 47 = .ok (.ifCond .ne 14, 3) := by decide +kernel
theorem dX11_function_50 : decode cX11_function 50 = .ok (.bipush (-100), 2) := by decide +kernel
theorem dX11_function_52 : decode cX11_function 52 = .ok (.aload_n 0, 1) := by decide +kernel
theorem dX11_function_53 : decode cX11_function 53 = .ok (.getfield 21, 3) := by decide +kernel
theorem dX11_function_56 : decode cX11_function 56 = .ok (.getfield 111, 3) := by decide +kernel
theorem dX11_function_59 : decode cX11_function 59 = .ok (.isub, 1) := by decide +kernel
theorem dX11_function_60 : decode cX11_function 60 = .ok (.ireturn, 1) := by decide +kernel
theorem dX11_function_61 : decode cX11_function 61 = .ok (.aload_n 0, 1) := by decide +kernel
theorem dX11_function_62 : decode cX11_function 62 = .ok (.getfield 12, 3) := by decide +kernel
theorem dX11_function_65 : decode cX11_function 65 = .ok (.iload_n 1, 1) := by decide +kernel
theorem dX11_function_66 : decode cX11_function 66 = .ok (.iload_n 2, 1) := by decide +kernel
theorem dX11_function_67 : decode cX11_function 67 = .ok (.aload_n 0, 1) := by decide +kernel
theorem dX11_function_68 : decode cX11_function 68 = .ok (.getfield 21, 3) := by decide +kernel
theorem dX11_function_71 : decode cX11_function 71 = .ok (.getfield 114, 3) := by decide +kernel
theorem dX11_function_74 : decode cX11_function 74 = .ok (.invokevirtual 118, 3) := by decide +kernel
theorem dX11_function_77 : decode cX11_function 77 = .ok (.aload_n 0, 1) := by decide +kernel
theorem dX11_function_78 : decode cX11_function 78 = .ok (.getfield 12, 3) := by decide +kernel
theorem dX11_function_81 : decode cX11_function 81 = .ok (.getfield 107, 3) := by decide +kernel
theorem dX11_function_84 : decode cX11_function 84 = .ok (.iconst 1, 1) := by decide +kernel
theorem dX11_function_85 : decode cX11_function 85 = .ok (.isub, 1) := by decide +kernel
theorem dX11_function_86 : decode cX11_function 86 = .ok (.ireturn, 1) := by decide +kernel
theorem dX11_ofFunction_0 : decode cX11_ofFunction 0 = .ok (.iload_n 1, 1) := by decide +kernel
theorem dX11_ofFunction_1 : decode cX11_ofFunction 1 = .ok (.aload_n 0, 1) := by decide +kernel
theorem dX11_ofFunction_2 : decode cX11_ofFunction 2 = .ok (.getfield 12, 3) := by decide +kernel
theorem dX11_ofFunction_5 : decode cX11_ofFunction 5 = .ok (.getfield 107, 3) := by decide +kernel
theorem dX11_ofFunction_8 : decode cX11_ofFunction 8 = .ok (.iconst 1, 1) := by decide +kernel
theorem dX11_ofFunction_9 : decode cX11_ofFunction 9 = .ok (.isub, 1) := by decide +kernel
theorem dX11_ofFunction_10 : decode cX11_ofFunction 10 = .ok (.invokestatic 95, 3) := by decide +kernel
theorem dX11_ofFunction_13 : decode cX11_ofFunction 13 = .ok (.ifCond .eq 5, 3) := by decide +kernel
theorem dX11_ofFunction_16 : decode cX11_ofFunction 16 = .ok (.iconst (-1), 1) := by decide +kernel
theorem dX11_ofFunction_17 : decode cX11_ofFunction 17 = .ok (.ireturn, 1) := by decide +kernel
theorem dX11_ofFunction_18 : decode cX11_ofFunction 18 = .ok (.iload_n 2, 1) := by decide +kernel
theorem dX11_ofFunction_19 : decode cX11_ofFunction 19 = .ok (.iconst 4, 1) := by decide +kernel
theorem dX11_ofFunction_20 : decode cX11_ofFunction 20 = .ok (.invokestatic 95, 3) := by decide +kernel
theorem dX11_ofFunction_23 : decode cX11_ofFunction 23 = .ok (.ifCond .eq 6, 3) := by decide +kernel
theorem dX11_ofFunction_26 : decode cX11_ofFunction 26 = .ok (.bipush (-2), 2) := by decide +kernel
theorem dX11_ofFunction_28 : decode cX11_ofFunction 28 = .ok (.ireturn, 1) := by decide +kernel
theorem dX11_ofFunction_29 : decode cX11_ofFunction 29 = .ok (.iload_n 2, 1) := by decide +kernel
theorem dX11_ofFunction_30 : decode cX11_ofFunction 30 = .ok (.ifCond .ne 13, 3) := by decide +kernel
theorem dX11_ofFunction_33 : decode cX11_ofFunction 33 = .ok (.aload_n 0, 1) := by decide +kernel
theorem dX11_ofFunction_34 : decode cX11_ofFunction 34 = .ok (.getfield 12, 3) := by decide +kernel
theorem dX11_ofFunction_37 : decode cX11_ofFunction 37 = .ok (.getfield 122, 3) := by decide +kernel
theorem dX11_ofFunction_40 : decode cX11_ofFunction 40 = .ok (.iload_n 1, 1) := by decide +kernel
theorem dX11_ofFunction_41 : decode cX11_ofFunction 41 = .ok (.iaload, 1) := by decide +kernel
theorem dX11_ofFunction_42 : decode cX11_ofFunction 42 = .ok (.ireturn, 1) := by decide +kernel
theorem dX11_ofFunction_43 : decode cX11_ofFunction 43 = .ok (.iload_n 2, 1) := by decide +kernel
theorem dX11_ofFunction_44 : decode cX11_ofFunction 44 = .ok (.iconst 1, 1) := by decide +kernel
theorem dX11_ofFunction_45 : decode cX11_ofFunction 45 = .ok (.if_icmp .ne 13, 3) := by decide +kernel
theorem dX11_ofFunction_48 : decode cX11_ofFunction 48 = .ok (.aload_n 0, 1) := by decide +kernel
theorem dX11_ofFunction_49 : decode cX11_ofFunction 49 = .ok (.getfield 12, 3) := by decide +kernel
theorem dX11_ofFunction_52 : decode cX11_ofFunction 52 = .ok (.getfield 126, 3) := by decide +kernel
theorem dX11_ofFunction_55 : decode cX11_ofFunction 55 = .ok (.iload_n 1, 1) := by decide +kernel
theorem dX11_ofFunction_56 : decode cX11_ofFunction 56 = .ok (.iaload, 1) := by decide +kernel
theorem dX11_ofFunction_57 : decode cX11_ofFunction 57 = .ok (.ireturn, 1) := by decide +kernel
theorem dX11_ofFunction_58 : decode cX11_ofFunction 58 = .ok (.aload_n 0, 1) := by decide +kernel
theorem dX11_ofFunction_59 : decode cX11_ofFunction 59 = .ok (.getfield 12, 3) := by decide +kernel
theorem dX11_ofFunction_62 : decode cX11_ofFunction 62 = .ok (.iload_n 1, 1) := by decide +kernel
theorem dX11_ofFunction_63 : decode cX11_ofFunction 63 = .ok (.iload_n 2, 1) := by decide +kernel
theorem dX11_ofFunction_64 : decode cX11_ofFunction 64 = .ok (.iconst 2, 1) := by decide +kernel
theorem dX11_ofFunction_65 : decode cX11_ofFunction 65 = .ok (.isub, 1) := by decide +kernel
theorem dX11_ofFunction_66 : decode cX11_ofFunction 66 = .ok (.invokevirtual 129, 3) := by decide +kernel
theorem dX11_ofFunction_69 : decode cX11_ofFunction 69 = .ok (.astore_n 3, 1) := by decide +kernel
theorem dX11_ofFunction_70 : decode cX11_ofFunction 70 = .ok (.aload_n 3, 1) := by decide +kernel
theorem dX11_ofFunction_71 : decode cX11_ofFunction 71 = .ok (.ifnonnull 8, 3) := by decide +kernel
theorem dX11_ofFunction_74 : decode cX11_ofFunction 74 = .ok (.bipush (-9), 2) := by decide +kernel
theorem dX11_ofFunction_76 : decode cX11_ofFunction 76 = .ok (.goto 7, 3) := by decide +kernel
theorem dX11_ofFunction_79 : decode cX11_ofFunction 79 = .ok (.aload_n 3, 1) := by decide +kernel
theorem dX11_ofFunction_80 : decode cX11_ofFunction 80 = .ok (.getfield 133, 3) := by decide +kernel
theorem dX11_ofFunction_83 : decode cX11_ofFunction 83 = .ok (.ireturn, 1) := by decide +kernel
theorem dX11_body_0 : decode cX11_body 0 = .ok (.iload_n 1, 1) := by decide +kernel
theorem dX11_body_1 : decode cX11_body 1 = .ok (.aload_n 0, 1) := by decide +kernel
theorem dX11_body_2 : decode cX11_body 2 = .ok (.getfield 12, 3) := by decide +kernel
theorem dX11_body_5 : decode cX11_body 5 = .ok (.getfield 107, 3) := by decide +kernel
theorem dX11_body_8 : decode cX11_body 8 = .ok (.iconst 1, 1) := by decide +kernel
theorem dX11_body_9 : decode cX11_body 9 = .ok (.isub, 1) := by decide +kernel
theorem dX11_body_10 : decode cX11_body 10 = .ok (.invokestatic 95, 3) := by decide +kernel
theorem dX11_body_13 : decode cX11_body 13 = .ok (.ifCond .eq 5, 3) := by decide +kernel
theorem dX11_body_16 : decode cX11_body 16 = .ok (.iconst (-1), 1) := by decide +kernel
theorem dX11_body_17 : decode cX11_body 17 = .ok (.ireturn, 1) := by decide +kernel
theorem dX11_body_18 : decode cX11_body 18 = .ok (.iload_n 2, 1) := by decide +kernel
theorem dX11_body_19 : decode cX11_body 19 = .ok (.iconst 2, 1) := by decide +kernel
theorem dX11_body_20 : decode cX11_body 20 = .ok (.invokestatic 95, 3) := by decide +kernel
theorem dX11_body_23 : decode cX11_body 23 = .ok (.ifCond .ne 12, 3) := by decide +kernel
theorem dX11_body_26 : decode cX11_body 26 = .ok (.iload_n 3, 1) := by decide +kernel
theorem dX11_body_27 : decode cX11_body 27 = .ok (.bipush 9, 2) := by decide +kernel
theorem dX11_body_29 : decode cX11_body 29 = .ok (.invokestatic 95, 3) := by decide +kernel
theorem dX11_body_32 : decode cX11_body 32 = .ok (.ifCond .eq 6, 3) := by decide +kernel
theorem dX11_body_35 : decode cX11_body 35 = .ok (.bipush (-2), 2) := by decide +kernel
theorem dX11_body_37 : decode cX11_body 37 = .ok (.ireturn, 1) := by decide +kernel
theorem dX11_body_38 : decode cX11_body 38 = .ok (.aload_n 0, 1) := by decide +kernel
theorem dX11_body_39 : decode cX11_body 39 = .ok (.getfield 12, 3) := by decide +kernel
theorem dX11_body_42 : decode cX11_body 42 = .ok (.iload_n 1, 1) := by decide +kernel
theorem dX11_body_43 : decode cX11_body 43 = .ok (.iload_n 2, 1) := by decide +kernel
theorem dX11_body_44 : decode cX11_body 44 = .ok (.invokevirtual 129, 3) := by decide +kernel
theorem dX11_body_47 : decode cX11_body 47 = .ok (.astore 4, 2) := by decide +kernel
theorem dX11_body_49 : decode cX11_body 49 = .ok (.aload 4, 2) := by decide +kernel
theorem dX11_body_51 : decode cX11_body 51 = .ok (.ifnonnull 8, 3) := by decide +kernel
theorem dX11_body_54 : decode cX11_body 54 = .ok (.bipush (-9), 2) := by decide +kernel
theorem dX11_body_56 : decode cX11_body 56 = .ok (.goto 9, 3) := by decide +kernel
theorem dX11_body_59 : decode cX11_body 59 = .ok (.aload 4, 2) := by decide +kernel
theorem dX11_body_61 : decode cX11_body 61 = .ok (.iload_n 3, 1) := by decide +kernel
theorem dX11_body_62 : decode cX11_body 62 = .ok (.invokevirtual 136, 3) := by decide +kernel
theorem dX11_body_65 : decode cX11_body 65 = .ok (.ireturn, 1) := by decide +kernel
theorem dX11_claim_0 : decode cX11_claim 0 = .ok (.aload_n 0, 1) := by decide +kernel
theorem dX11_claim_1 : decode cX11_claim 1 = .ok (.getfield 21, 3) := by decide +kernel
theorem dX11_claim_4 : decode cX11_claim 4 = .ok (.invokevirtual 140, 3) := by decide +kernel
theorem dX11_claim_7 : decode cX11_claim 7 = .ok (.ifCond .ne 14, 3) := by decide +kernel
theorem dX11_claim_10 : decode cX11_claim 10 = .ok (.bipush (-100), 2) := by decide +kernel
theorem dX11_claim_12 : decode cX11_claim 12 = .ok (.aload_n 0, 1) := by decide +kernel
theorem dX11_claim_13 : decode cX11_claim 13 = .ok (.getfield 21, 3) := by decide +kernel
theorem dX11_claim_16 : decode cX11_claim 16 = .ok (.getfield 111, 3) := by decide +kernel
theorem dX11_claim_19 : decode cX11_claim 19 = .ok (.isub, 1) := by decide +kernel
theorem dX11_claim_20 : decode cX11_claim 20 = .ok (.ireturn, 1) := by decide +kernel
theorem dX11_claim_21 : decode cX11_claim 21 = .ok (.aload_n 0, 1) := by decide +kernel
theorem dX11_claim_22 : decode cX11_claim 22 = .ok (.getfield 77, 3) := by decide +kernel
theorem dX11_claim_25 : decode cX11_claim 25 = .ok (.getfield 144, 3) := by decide +kernel
theorem dX11_claim_28 : decode cX11_claim 28 = .ok (.aload_n 0, 1) := by decide +kernel
theorem dX11_claim_29 : decode cX11_claim 29 = .ok (.getfield 21, 3) := by decide +kernel
theorem dX11_claim_32 : decode cX11_claim 32 = .ok (.getfield 114, 3) := by decide +kernel
theorem dX11_claim_35 : decode cX11_claim 35 = .ok (.iconst 0, 1) := by decide +kernel
theorem dX11_claim_36 : decode cX11_claim 36 = .ok (.aaload, 1) := by decide +kernel
theorem dX11_claim_37 : decode cX11_claim 37 = .ok (.invokevirtual 147, 3) := by decide +kernel
theorem dX11_claim_40 : decode cX11_claim 40 = .ok (.aload_n 0, 1) := by decide +kernel
theorem dX11_claim_41 : decode cX11_claim 41 = .ok (.getfield 77, 3) := by decide +kernel
theorem dX11_claim_44 : decode cX11_claim 44 = .ok (.getfield 151, 3) := by decide +kernel
theorem dX11_claim_47 : decode cX11_claim 47 = .ok (.aload_n 0, 1) := by decide +kernel
theorem dX11_claim_48 : decode cX11_claim 48 = .ok (.getfield 21, 3) := by decide +kernel
theorem dX11_claim_51 : decode cX11_claim 51 = .ok (.getfield 114, 3) := by decide +kernel
theorem dX11_claim_54 : decode cX11_claim 54 = .ok (.iconst 1, 1) := by decide +kernel
theorem dX11_claim_55 : decode cX11_claim 55 = .ok (.aaload, 1) := by decide +kernel
theorem dX11_claim_56 : decode cX11_claim 56 = .ok (.invokevirtual 147, 3) := by decide +kernel
theorem dX11_claim_59 : decode cX11_claim 59 = .ok (.aload_n 0, 1) := by decide +kernel
theorem dX11_claim_60 : decode cX11_claim 60 = .ok (.iconst 1, 1) := by decide +kernel
theorem dX11_claim_61 : decode cX11_claim 61 = .ok (.putfield 91, 3) := by decide +kernel
theorem dX11_claim_64 : decode cX11_claim 64 = .ok (.aload_n 0, 1) := by decide +kernel
theorem dX11_claim_65 : decode cX11_claim 65 = .ok (.getfield 77, 3) := by decide +kernel
theorem dX11_claim_68 : decode cX11_claim 68 = .ok (.getfield 144, 3) := by decide +kernel
theorem dX11_claim_71 : decode cX11_claim 71 = .ok (.getfield 133, 3) := by decide +kernel
theorem dX11_claim_74 : decode cX11_claim 74 = .ok (.aload_n 0, 1) := by decide +kernel
theorem dX11_claim_75 : decode cX11_claim 75 = .ok (.getfield 77, 3) := by decide +kernel
theorem dX11_claim_78 : decode cX11_claim 78 = .ok (.getfield 151, 3) := by decide +kernel
theorem dX11_claim_81 : decode cX11_claim 81 = .ok (.getfield 133, 3) := by decide +kernel
theorem dX11_claim_84 : decode cX11_claim 84 = .ok (.iadd, 1) := by decide +kernel
theorem dX11_claim_85 : decode cX11_claim 85 = .ok (.ireturn, 1) := by decide +kernel
theorem dX11_side_0 : decode cX11_side 0 = .ok (.iload_n 1, 1) := by decide +kernel
theorem dX11_side_1 : decode cX11_side 1 = .ok (.iconst 1, 1) := by decide +kernel
theorem dX11_side_2 : decode cX11_side 2 = .ok (.invokestatic 95, 3) := by decide +kernel
theorem dX11_side_5 : decode cX11_side 5 = .ok (.ifCond .ne 12, 3) := by decide +kernel
theorem dX11_side_8 : decode cX11_side 8 = .ok (.iload_n 2, 1) := by decide +kernel
theorem dX11_side_9 : decode cX11_side 9 = .ok (.bipush 19, 2) := by decide +kernel
theorem dX11_side_11 : decode cX11_side 11 = .ok (.invokestatic 95, 3) := by decide +kernel
theorem dX11_side_14 : decode cX11_side 14 = .ok (.ifCond .eq 6, 3) := by decide +kernel
theorem dX11_side_17 : decode cX11_side 17 = .ok (.bipush (-2), 2) := by decide +kernel
theorem dX11_side_19 : decode cX11_side 19 = .ok (.ireturn, 1) := by decide +kernel
theorem dX11_side_20 : decode cX11_side 20 = .ok (.aload_n 0, 1) := by decide +kernel
theorem dX11_side_21 : decode cX11_side 21 = .ok (.getfield 91, 3) := by decide +kernel
theorem dX11_side_24 : decode cX11_side 24 = .ok (.ifCond .eq 18, 3) := by decide +kernel
theorem dX11_side_27 : decode cX11_side 27 = .ok (.aload_n 0, 1) := by decide +kernel
theorem dX11_side_28 : decode cX11_side 28 = .ok (.getfield 77, 3) := by decide +kernel
theorem dX11_side_31 : decode cX11_side 31 = .ok (.iload_n 1, 1) := by decide +kernel
theorem dX11_side_32 : decode cX11_side 32 = .ok (.invokevirtual 154, 3) := by decide +kernel
theorem dX11_side_35 : decode cX11_side 35 = .ok (.iload_n 2, 1) := by decide +kernel
theorem dX11_side_36 : decode cX11_side 36 = .ok (.invokevirtual 136, 3) := by decide +kernel
theorem dX11_side_39 : decode cX11_side 39 = .ok (.goto 5, 3) := by decide +kernel
theorem dX11_side_42 : decode cX11_side 42 = .ok (.bipush (-3), 2) := by decide +kernel
theorem dX11_side_44 : decode cX11_side 44 = .ok (.ireturn, 1) := by decide +kernel
theorem dX11_anew_0 : decode cX11_anew 0 = .ok (.aload_n 0, 1) := by decide +kernel
theorem dX11_anew_1 : decode cX11_anew 1 = .ok (.getfield 12, 3) := by decide +kernel
theorem dX11_anew_4 : decode cX11_anew 4 = .ok (.getfield 107, 3) := by decide +kernel
theorem dX11_anew_7 : decode cX11_anew 7 = .ok (.istore_n 1, 1) := by decide +kernel
theorem dX11_anew_8 : decode cX11_anew 8 = .ok (.aload_n 0, 1) := by decide +kernel
theorem dX11_anew_9 : decode cX11_anew 9 = .ok (.getfield 12, 3) := by decide +kernel
theorem dX11_anew_12 : decode cX11_anew 12 = .ok (.invokevirtual 158, 3) := by decide +kernel
theorem dX11_anew_15 : decode cX11_anew 15 = .ok (.aload_n 0, 1) := by decide +kernel
theorem dX11_anew_16 : decode cX11_anew 16 = .ok (.getfield 54, 3) := by decide +kernel
theorem dX11_anew_19 : decode cX11_anew 19 = .ok (.iconst 0, 1) := by decide +kernel
theorem dX11_anew_20 : decode cX11_anew 20 = .ok (.putfield 161, 3) := by decide +kernel
theorem dX11_anew_23 : decode cX11_anew 23 = .ok (.aload_n 0, 1) := by decide +kernel
theorem dX11_anew_24 : decode cX11_anew 24 = .ok (.getfield 61, 3) := by decide +kernel
theorem dX11_anew_27 : decode cX11_anew 27 = .ok (.invokevirtual 162, 3) := by decide +kernel
theorem dX11_anew_30 : decode cX11_anew 30 = .ok (.aload_n 0, 1) := by decide +kernel
theorem dX11_anew_31 : decode cX11_anew 31 = .ok (.iconst 0, 1) := by decide +kernel
theorem dX11_anew_32 : decode cX11_anew 32 = .ok (.putfield 91, 3) := by decide +kernel
theorem dX11_anew_35 : decode cX11_anew 35 = .ok (.iload_n 1, 1) := by decide +kernel
theorem dX11_anew_36 : decode cX11_anew 36 = .ok (.ireturn, 1) := by decide +kernel
theorem dX11_value_0 : decode cX11_value 0 = .ok (.iload_n 1, 1) := by decide +kernel
theorem dX11_value_1 : decode cX11_value 1 = .ok (.aload_n 0, 1) := by decide +kernel
theorem dX11_value_2 : decode cX11_value 2 = .ok (.getfield 12, 3) := by decide +kernel
theorem dX11_value_5 : decode cX11_value 5 = .ok (.getfield 107, 3) := by decide +kernel
theorem dX11_value_8 : decode cX11_value 8 = .ok (.iconst 1, 1) := by decide +kernel
theorem dX11_value_9 : decode cX11_value 9 = .ok (.isub, 1) := by decide +kernel
theorem dX11_value_10 : decode cX11_value 10 = .ok (.invokestatic 95, 3) := by decide +kernel
theorem dX11_value_13 : decode cX11_value 13 = .ok (.ifCond .eq 5, 3) := by decide +kernel
theorem dX11_value_16 : decode cX11_value 16 = .ok (.iconst (-1), 1) := by decide +kernel
theorem dX11_value_17 : decode cX11_value 17 = .ok (.ireturn, 1) := by decide +kernel
theorem dX11_value_18 : decode cX11_value 18 = .ok (.aload_n 0, 1) := by decide +kernel
theorem dX11_value_19 : decode cX11_value 19 = .ok (.getfield 12, 3) := by decide +kernel
theorem dX11_value_22 : decode cX11_value 22 = .ok (.getfield 122, 3) := by decide +kernel
theorem dX11_value_25 : decode cX11_value 25 = .ok (.iload_n 1, 1) := by decide +kernel
theorem dX11_value_26 : decode cX11_value 26 = .ok (.iaload, 1) := by decide +kernel
theorem dX11_value_27 : decode cX11_value 27 = .ok (.iconst 2, 1) := by decide +kernel
theorem dX11_value_28 : decode cX11_value 28 = .ok (.if_icmp .ne 7, 3) := by decide +kernel
theorem dX11_value_31 : decode cX11_value 31 = .ok (.iconst 1, 1) := by decide +kernel
theorem dX11_value_32 : decode cX11_value 32 = .ok (.goto 4, 3) := by decide +kernel
theorem dX11_value_35 : decode cX11_value 35 = .ok (.iconst 0, 1) := by decide +kernel
theorem dX11_value_36 : decode cX11_value 36 = .ok (.istore 5, 2) := by decide +kernel
theorem dX11_value_38 : decode cX11_value 38 = .ok (.iload_n 2, 1) := by decide +kernel
theorem dX11_value_39 : decode cX11_value 39 = .ok (.bipush 9, 2) := by decide +kernel
theorem dX11_value_41 : decode cX11_value 41 = .ok (.invokestatic 95, 3) := by decide +kernel
theorem dX11_value_44 : decode cX11_value 44 = .ok (.ifCond .ne 26, 3) := by decide +kernel
theorem dX11_value_47 : decode cX11_value 47 = .ok (.iload 4, 2) := by decide +kernel
theorem dX11_value_49 : decode cX11_value 49 = .ok (.iconst 1, 1) := by decide +kernel
theorem dX11_value_50 : decode cX11_value 50 = .ok (.invokestatic 95, 3) := by decide +kernel
theorem dX11_value_53 : decode cX11_value 53 = .ok (.ifCond .ne 17, 3) := by decide +kernel
theorem dX11_value_56 : decode cX11_value 56 = .ok (.iload 5, 2) := by decide +kernel
theorem dX11_value_58 : decode cX11_value 58 = .ok (.ifCond .eq 15, 3) := by decide +kernel
theorem dX11_value_61 : decode cX11_value 61 = .ok (.iload_n 3, 1) := by decide +kernel
theorem dX11_value_62 : decode cX11_value 62 = .ok (.bipush 9, 2) := by decide +kernel
theorem dX11_value_64 : decode cX11_value 64 = .ok (.invokestatic 95, 3) := by decide +kernel
theorem dX11_value_67 : decode cX11_value 67 = .ok (.ifCond .eq 6, 3) := by decide +kernel
theorem dX11_value_70 : decode cX11_value 70 = .ok (.bipush (-2), 2) := by decide +kernel
theorem dX11_value_72 : decode cX11_value 72 = .ok (.ireturn, 1) := by decide +kernel
theorem dX11_value_73 : decode cX11_value 73 = .ok (.aload_n 0, 1) := by decide +kernel
theorem dX11_value_74 : decode cX11_value 74 = .ok (.getfield 87, 3) := by decide +kernel
theorem dX11_value_77 : decode cX11_value 77 = .ok (.invokevirtual 165, 3) := by decide +kernel
theorem dX11_value_80 : decode cX11_value 80 = .ok (.aload_n 0, 1) := by decide +kernel
theorem dX11_value_81 : decode cX11_value 81 = .ok (.getfield 87, 3) := by decide +kernel
theorem dX11_value_84 : decode cX11_value 84 = .ok (.bipush 97, 2) := by decide +kernel
theorem dX11_value_86 : decode cX11_value 86 = .ok (.iload_n 1, 1) := by decide +kernel
theorem dX11_value_87 : decode cX11_value 87 = .ok (.iadd, 1) := by decide +kernel
theorem dX11_value_88 : decode cX11_value 88 = .ok (.invokevirtual 166, 3) := by decide +kernel
theorem dX11_value_91 : decode cX11_value 91 = .ok (.pop, 1) := by decide +kernel
theorem dX11_value_92 : decode cX11_value 92 = .ok (.aload_n 0, 1) := by decide +kernel
theorem dX11_value_93 : decode cX11_value 93 = .ok (.getfield 87, 3) := by decide +kernel
theorem dX11_value_96 : decode cX11_value 96 = .ok (.bipush 120, 2) := by decide +kernel
theorem dX11_value_98 : decode cX11_value 98 = .ok (.invokevirtual 166, 3) := by decide +kernel
theorem dX11_value_101 : decode cX11_value 101 = .ok (.pop, 1) := by decide +kernel
theorem dX11_value_102 : decode cX11_value 102 = .ok (.iload 5, 2) := by decide +kernel
theorem dX11_value_104 : decode cX11_value 104 = .ok (.ifCond .eq 13, 3) := by decide +kernel
theorem dX11_value_107 : decode cX11_value 107 = .ok (.aload_n 0, 1) := by decide +kernel
theorem dX11_value_108 : decode cX11_value 108 = .ok (.getfield 87, 3) := by decide +kernel
theorem dX11_value_111 : decode cX11_value 111 = .ok (.bipush 121, 2) := by decide +kernel
theorem dX11_value_113 : decode cX11_value 113 = .ok (.invokevirtual 166, 3) := by decide +kernel
theorem dX11_value_116 : decode cX11_value 116 = .ok (.pop, 1) := by decide +kernel
theorem dX11_value_117 : decode cX11_value 117 = .ok (.aload_n 0, 1) := by decide +kernel
theorem dX11_value_118 : decode cX11_value 118 = .ok (.getfield 28, 3) := by decide +kernel
theorem dX11_value_121 : decode cX11_value 121 = .ok (.aload_n 0, 1) := by decide +kernel
theorem dX11_value_122 : decode cX11_value 122 = .ok (.getfield 87, 3) := by decide +kernel
theorem dX11_value_125 : decode cX11_value 125 = .ok (.iload_n 2, 1) := by decide +kernel
theorem dX11_value_126 : decode cX11_value 126 = .ok (.iload_n 3, 1) := by decide +kernel
theorem dX11_value_127 : decode cX11_value 127 = .ok (.iconst 0, 1) := by decide +kernel
theorem dX11_value_128 : decode cX11_value 128 = .ok (.invokevirtual 170, 3) := by decide +kernel
theorem dX11_value_131 : decode cX11_value 131 = .ok (.istore 6, 2) := by decide +kernel
theorem dX11_value_133 : decode cX11_value 133 = .ok (.iload 6, 2) := by decide +kernel
theorem dX11_value_135 : decode cX11_value 135 = .ok (.bipush (-9), 2) := by decide +kernel
theorem dX11_value_137 : decode cX11_value 137 = .ok (.if_icmp .eq 8, 3) := by decide +kernel
theorem dX11_value_140 : decode cX11_value 140 = .ok (.iload 4, 2) := by decide +kernel
theorem dX11_value_142 : decode cX11_value 142 = .ok (.ifCond .ne 8, 3) := by decide +kernel
theorem dX11_value_145 : decode cX11_value 145 = .ok (.iload 6, 2) := by decide +kernel
theorem dX11_value_147 : decode cX11_value 147 = .ok (.goto 10, 3) := by decide +kernel
theorem dX11_value_150 : decode cX11_value 150 = .ok (.aload_n 0, 1) := by decide +kernel
theorem dX11_value_151 : decode cX11_value 151 = .ok (.getfield 28, 3) := by decide +kernel
theorem dX11_value_154 : decode cX11_value 154 = .ok (.getfield 174, 3) := by decide +kernel
theorem dX11_value_157 : decode cX11_value 157 = .ok (.ireturn, 1) := by decide +kernel
theorem dX11_holds_0 : decode cX11_holds 0 = .ok (.iload_n 1, 1) := by decide +kernel
theorem dX11_holds_1 : decode cX11_holds 1 = .ok (.iconst 5, 1) := by decide +kernel
theorem dX11_holds_2 : decode cX11_holds 2 = .ok (.invokestatic 95, 3) := by decide +kernel
theorem dX11_holds_5 : decode cX11_holds 5 = .ok (.ifCond .ne 19, 3) := by decide +kernel
theorem dX11_holds_8 : decode cX11_holds 8 = .ok (.iload_n 2, 1) := by decide +kernel
theorem dX11_holds_9 : decode cX11_holds 9 = .ok (.iconst 5, 1) := by decide +kernel
theorem dX11_holds_10 : decode cX11_holds 10 = .ok (.invokestatic 95, 3) := by decide +kernel
theorem dX11_holds_13 : decode cX11_holds 13 = .ok (.ifCond .ne 11, 3) := by decide +kernel
theorem dX11_holds_16 : decode cX11_holds 16 = .ok (.iload_n 3, 1) := by decide +kernel
theorem dX11_holds_17 : decode cX11_holds 17 = .ok (.iconst 5, 1) := by decide +kernel
theorem dX11_holds_18 : decode cX11_holds 18 = .ok (.invokestatic 95, 3) := by decide +kernel
theorem dX11_holds_21 : decode cX11_holds 21 = .ok (.ifCond .eq 6, 3) := by decide +kernel
theorem dX11_holds_24 : decode cX11_holds 24 = .ok (.bipush (-2), 2) := by decide +kernel
theorem dX11_holds_26 : decode cX11_holds 26 = .ok (.ireturn, 1) := by decide +kernel
theorem dX11_holds_27 : decode cX11_holds 27 = .ok (.aload_n 0, 1) := by decide +kernel
theorem dX11_holds_28 : decode cX11_holds 28 = .ok (.getfield 91, 3) := by decide +kernel
theorem dX11_holds_31 : decode cX11_holds 31 = .ok (.ifCond .eq 20, 3) := by decide +kernel
theorem dX11_holds_34 : decode cX11_holds 34 = .ok (.aload_n 0, 1) := by decide +kernel
theorem dX11_holds_35 : decode cX11_holds 35 = .ok (.getfield 28, 3) := by decide +kernel
theorem dX11_holds_38 : decode cX11_holds 38 = .ok (.aload_n 0, 1) := by decide +kernel
theorem dX11_holds_39 : decode cX11_holds 39 = .ok (.getfield 77, 3) := by decide +kernel
theorem dX11_holds_42 : decode cX11_holds 42 = .ok (.iload_n 1, 1) := by decide +kernel
theorem dX11_holds_43 : decode cX11_holds 43 = .ok (.iload_n 2, 1) := by decide +kernel
theorem dX11_holds_44 : decode cX11_holds 44 = .ok (.iload_n 3, 1) := by decide +kernel
theorem dX11_holds_45 : decode cX11_holds 45 = .ok (.invokevirtual 177, 3) := by decide +kernel
theorem dX11_holds_48 : decode cX11_holds 48 = .ok (.goto 5, 3) := by decide +kernel
theorem dX11_holds_51 : decode cX11_holds 51 = .ok (.bipush (-3), 2) := by decide +kernel
theorem dX11_holds_53 : decode cX11_holds 53 = .ok (.ireturn, 1) := by decide +kernel
theorem dX11_counter_0 : decode cX11_counter 0 = .ok (.iload_n 1, 1) := by decide +kernel
theorem dX11_counter_1 : decode cX11_counter 1 = .ok (.iconst 2, 1) := by decide +kernel
theorem dX11_counter_2 : decode cX11_counter 2 = .ok (.invokestatic 95, 3) := by decide +kernel
theorem dX11_counter_5 : decode cX11_counter 5 = .ok (.ifCond .eq 6, 3) := by decide +kernel
theorem dX11_counter_8 : decode cX11_counter 8 = .ok (.bipush (-2), 2) := by decide +kernel
theorem dX11_counter_10 : decode cX11_counter 10 = .ok (.ireturn, 1) := by decide +kernel
theorem dX11_counter_11 : decode cX11_counter 11 = .ok (.aload_n 0, 1) := by decide +kernel
theorem dX11_counter_12 : decode cX11_counter 12 = .ok (.getfield 91, 3) := by decide +kernel
theorem dX11_counter_15 : decode cX11_counter 15 = .ok (.ifCond .ne 6, 3) := by decide +kernel
theorem dX11_counter_18 : decode cX11_counter 18 = .ok (.bipush (-3), 2) := by decide +kernel
theorem dX11_counter_20 : decode cX11_counter 20 = .ok (.ireturn, 1) := by decide +kernel
theorem dX11_counter_21 : decode cX11_counter 21 = .ok (.aload_n 0, 1) := by decide +kernel
theorem dX11_counter_22 : decode cX11_counter 22 = .ok (.getfield 28, 3) := by decide +kernel
theorem dX11_counter_25 : decode cX11_counter 25 = .ok (.aload_n 0, 1) := by decide +kernel
theorem dX11_counter_26 : decode cX11_counter 26 = .ok (.getfield 77, 3) := by decide +kernel
theorem dX11_counter_29 : decode cX11_counter 29 = .ok (.invokevirtual 181, 3) := by decide +kernel
theorem dX11_counter_32 : decode cX11_counter 32 = .ok (.ifCond .eq 15, 3) := by decide +kernel
theorem dX11_counter_35 : decode cX11_counter 35 = .ok (.aload_n 0, 1) := by decide +kernel
theorem dX11_counter_36 : decode cX11_counter 36 = .ok (.getfield 28, 3) := by decide +kernel
theorem dX11_counter_39 : decode cX11_counter 39 = .ok (.getfield 185, 3) := by decide +kernel
theorem dX11_counter_42 : decode cX11_counter 42 = .ok (.iload_n 1, 1) := by decide +kernel
theorem dX11_counter_43 : decode cX11_counter 43 = .ok (.iaload, 1) := by decide +kernel
theorem dX11_counter_44 : decode cX11_counter 44 = .ok (.goto 5, 3) := by decide +kernel
theorem dX11_counter_47 : decode cX11_counter 47 = .ok (.bipush (-9), 2) := by decide +kernel
theorem dX11_counter_49 : decode cX11_counter 49 = .ok (.ireturn, 1) := by decide +kernel
theorem dX11_normal_0 : decode cX11_normal 0 = .ok (.iload_n 1, 1) := by decide +kernel
theorem dX11_normal_1 : decode cX11_normal 1 = .ok (.iconst 1, 1) := by decide +kernel
theorem dX11_normal_2 : decode cX11_normal 2 = .ok (.invokestatic 95, 3) := by decide +kernel
theorem dX11_normal_5 : decode cX11_normal 5 = .ok (.ifCond .ne 12, 3) := by decide +kernel
theorem dX11_normal_8 : decode cX11_normal 8 = .ok (.iload_n 2, 1) := by decide +kernel
theorem dX11_normal_9 : decode cX11_normal 9 = .ok (.bipush 40, 2) := by decide +kernel
theorem dX11_normal_11 : decode cX11_normal 11 = .ok (.invokestatic 188, 3) := by decide +kernel
theorem dX11_normal_14 : decode cX11_normal 14 = .ok (.ifCond .eq 6, 3) := by decide +kernel
theorem dX11_normal_17 : decode cX11_normal 17 = .ok (.bipush (-2), 2) := by decide +kernel
theorem dX11_normal_19 : decode cX11_normal 19 = .ok (.ireturn, 1) := by decide +kernel
theorem dX11_normal_20 : decode cX11_normal 20 = .ok (.aload_n 0, 1) := by decide +kernel
theorem dX11_normal_21 : decode cX11_normal 21 = .ok (.getfield 91, 3) := by decide +kernel
theorem dX11_normal_24 : decode cX11_normal 24 = .ok (.ifCond .eq 29, 3) := by decide +kernel
theorem dX11_normal_27 : decode cX11_normal 27 = .ok (.aload_n 0, 1) := by decide +kernel
theorem dX11_normal_28 : decode cX11_normal 28 = .ok (.getfield 35, 3) := by decide +kernel
theorem dX11_normal_31 : decode cX11_normal 31 = .ok (.aload_n 0, 1) := by decide +kernel
theorem dX11_normal_32 : decode cX11_normal 32 = .ok (.getfield 77, 3) := by decide +kernel
theorem dX11_normal_35 : decode cX11_normal 35 = .ok (.iload_n 1, 1) := by decide +kernel
theorem dX11_normal_36 : decode cX11_normal 36 = .ok (.invokevirtual 154, 3) := by decide +kernel
theorem dX11_normal_39 : decode cX11_normal 39 = .ok (.aload_n 0, 1) := by decide +kernel
theorem dX11_normal_40 : decode cX11_normal 40 = .ok (.getfield 87, 3) := by decide +kernel
theorem dX11_normal_43 : decode cX11_normal 43 = .ok (.bipush (-9), 2) := by decide +kernel
theorem dX11_normal_45 : decode cX11_normal 45 = .ok (.iconst 0, 1) := by decide +kernel
theorem dX11_normal_46 : decode cX11_normal 46 = .ok (.iconst 0, 1) := by decide +kernel
theorem dX11_normal_47 : decode cX11_normal 47 = .ok (.invokevirtual 191, 3) := by decide +kernel
theorem dX11_normal_50 : decode cX11_normal 50 = .ok (.ifCond .ne 6, 3) := by decide +kernel
theorem dX11_normal_53 : decode cX11_normal 53 = .ok (.bipush (-3), 2) := by decide +kernel
theorem dX11_normal_55 : decode cX11_normal 55 = .ok (.ireturn, 1) := by decide +kernel
theorem dX11_normal_56 : decode cX11_normal 56 = .ok (.aload_n 0, 1) := by decide +kernel
theorem dX11_normal_57 : decode cX11_normal 57 = .ok (.getfield 87, 3) := by decide +kernel
theorem dX11_normal_60 : decode cX11_normal 60 = .ok (.iload_n 2, 1) := by decide +kernel
theorem dX11_normal_61 : decode cX11_normal 61 = .ok (.invokevirtual 136, 3) := by decide +kernel
theorem dX11_normal_64 : decode cX11_normal 64 = .ok (.ireturn, 1) := by decide +kernel
theorem dX11_scheme_0 : decode cX11_scheme 0 = .ok (.iload_n 1, 1) := by decide +kernel
theorem dX11_scheme_1 : decode cX11_scheme 1 = .ok (.iconst 2, 1) := by decide +kernel
theorem dX11_scheme_2 : decode cX11_scheme 2 = .ok (.invokestatic 95, 3) := by decide +kernel
theorem dX11_scheme_5 : decode cX11_scheme 5 = .ok (.ifCond .eq 6, 3) := by decide +kernel
theorem dX11_scheme_8 : decode cX11_scheme 8 = .ok (.bipush (-2), 2) := by decide +kernel
theorem dX11_scheme_10 : decode cX11_scheme 10 = .ok (.ireturn, 1) := by decide +kernel
theorem dX11_scheme_11 : decode cX11_scheme 11 = .ok (.aload_n 0, 1) := by decide +kernel
theorem dX11_scheme_12 : decode cX11_scheme 12 = .ok (.getfield 91, 3) := by decide +kernel
theorem dX11_scheme_15 : decode cX11_scheme 15 = .ok (.ifCond .ne 6, 3) := by decide +kernel
theorem dX11_scheme_18 : decode cX11_scheme 18 = .ok (.bipush (-3), 2) := by decide +kernel
theorem dX11_scheme_20 : decode cX11_scheme 20 = .ok (.ireturn, 1) := by decide +kernel
theorem dX11_scheme_21 : decode cX11_scheme 21 = .ok (.aload_n 0, 1) := by decide +kernel
theorem dX11_scheme_22 : decode cX11_scheme 22 = .ok (.getfield 77, 3) := by decide +kernel
theorem dX11_scheme_25 : decode cX11_scheme 25 = .ok (.aload_n 0, 1) := by decide +kernel
theorem dX11_scheme_26 : decode cX11_scheme 26 = .ok (.getfield 12, 3) := by decide +kernel
theorem dX11_scheme_29 : decode cX11_scheme 29 = .ok (.invokevirtual 195, 3) := by decide +kernel
theorem dX11_scheme_32 : decode cX11_scheme 32 = .ok (.istore_n 2, 1) := by decide +kernel
theorem dX11_scheme_33 : decode cX11_scheme 33 = .ok (.iload_n 2, 1) := by decide +kernel
theorem dX11_scheme_34 : decode cX11_scheme 34 = .ok (.bipush (-9), 2) := by decide +kernel
theorem dX11_scheme_36 : decode cX11_scheme 36 = .ok (.if_icmp .eq 7, 3) := by decide +kernel
theorem dX11_scheme_39 : decode cX11_scheme 39 = .ok (.iload_n 1, 1) := by decide +kernel
theorem dX11_scheme_40 : decode cX11_scheme 40 = .ok (.ifCond .ne 5, 3) := by decide +kernel
theorem dX11_scheme_43 : decode cX11_scheme 43 = .ok (.iload_n 2, 1) := by decide +kernel
theorem dX11_scheme_44 : decode cX11_scheme 44 = .ok (.ireturn, 1) := by decide +kernel
theorem dX11_scheme_45 : decode cX11_scheme 45 = .ok (.iload_n 1, 1) := by decide +kernel
theorem dX11_scheme_46 : decode cX11_scheme 46 = .ok (.iconst 1, 1) := by decide +kernel
theorem dX11_scheme_47 : decode cX11_scheme 47 = .ok (.if_icmp .ne 18, 3) := by decide +kernel
theorem dX11_scheme_50 : decode cX11_scheme 50 = .ok (.aload_n 0, 1) := by decide +kernel
theorem dX11_scheme_51 : decode cX11_scheme 51 = .ok (.getfield 77, 3) := by decide +kernel
theorem dX11_scheme_54 : decode cX11_scheme 54 = .ok (.iload_n 2, 1) := by decide +kernel
theorem dX11_scheme_55 : decode cX11_scheme 55 = .ok (.aload_n 0, 1) := by decide +kernel
theorem dX11_scheme_56 : decode cX11_scheme 56 = .ok (.getfield 12, 3) := by decide +kernel
theorem dX11_scheme_59 : decode cX11_scheme 59 = .ok (.invokevirtual 199, 3) := by decide +kernel
theorem dX11_scheme_62 : decode cX11_scheme 62 = .ok (.goto 11, 3) := by decide +kernel
theorem dX11_scheme_65 : decode cX11_scheme 65 = .ok (.aload_n 0, 1) := by decide +kernel
theorem dX11_scheme_66 : decode cX11_scheme 66 = .ok (.getfield 77, 3) := by decide +kernel
theorem dX11_scheme_69 : decode cX11_scheme 69 = .ok (.iload_n 2, 1) := by decide +kernel
theorem dX11_scheme_70 : decode cX11_scheme 70 = .ok (.invokevirtual 203, 3) := by decide +kernel
theorem dX11_scheme_73 : decode cX11_scheme 73 = .ok (.ireturn, 1) := by decide +kernel
theorem dX11_difference_0 : decode cX11_difference 0 = .ok (.aload_n 0, 1) := by decide +kernel
theorem dX11_difference_1 : decode cX11_difference 1 = .ok (.getfield 91, 3) := by decide +kernel
theorem dX11_difference_4 : decode cX11_difference 4 = .ok (.ifCond .eq 27, 3) := by decide +kernel
theorem dX11_difference_7 : decode cX11_difference 7 = .ok (.aload_n 0, 1) := by decide +kernel
theorem dX11_difference_8 : decode cX11_difference 8 = .ok (.getfield 42, 3) := by decide +kernel
theorem dX11_difference_11 : decode cX11_difference 11 = .ok (.aload_n 0, 1) := by decide +kernel
theorem dX11_difference_12 : decode cX11_difference 12 = .ok (.getfield 77, 3) := by decide +kernel
theorem dX11_difference_15 : decode cX11_difference 15 = .ok (.getfield 144, 3) := by decide +kernel
theorem dX11_difference_18 : decode cX11_difference 18 = .ok (.aload_n 0, 1) := by decide +kernel
theorem dX11_difference_19 : decode cX11_difference 19 = .ok (.getfield 77, 3) := by decide +kernel
theorem dX11_difference_22 : decode cX11_difference 22 = .ok (.getfield 151, 3) := by decide +kernel
theorem dX11_difference_25 : decode cX11_difference 25 = .ok (.invokevirtual 206, 3) := by decide +kernel
theorem dX11_difference_28 : decode cX11_difference 28 = .ok (.goto 5, 3) := by decide +kernel
theorem dX11_difference_31 : decode cX11_difference 31 = .ok (.bipush (-3), 2) := by decide +kernel
theorem dX11_difference_33 : decode cX11_difference 33 = .ok (.ireturn, 1) := by decide +kernel
theorem dX11_steered_0 : decode cX11_steered 0 = .ok (.iload_n 1, 1) := by decide +kernel
theorem dX11_steered_1 : decode cX11_steered 1 = .ok (.bipush 40, 2) := by decide +kernel
theorem dX11_steered_3 : decode cX11_steered 3 = .ok (.invokestatic 188, 3) := by decide +kernel
theorem dX11_steered_6 : decode cX11_steered 6 = .ok (.ifCond .eq 6, 3) := by decide +kernel
theorem dX11_steered_9 : decode cX11_steered 9 = .ok (.bipush (-2), 2) := by decide +kernel
theorem dX11_steered_11 : decode cX11_steered 11 = .ok (.ireturn, 1) := by decide +kernel
theorem dX11_steered_12 : decode cX11_steered 12 = .ok (.aload_n 0, 1) := by decide +kernel
theorem dX11_steered_13 : decode cX11_steered 13 = .ok (.getfield 91, 3) := by decide +kernel
theorem dX11_steered_16 : decode cX11_steered 16 = .ok (.ifCond .eq 29, 3) := by decide +kernel
theorem dX11_steered_19 : decode cX11_steered 19 = .ok (.aload_n 0, 1) := by decide +kernel
theorem dX11_steered_20 : decode cX11_steered 20 = .ok (.getfield 42, 3) := by decide +kernel
theorem dX11_steered_23 : decode cX11_steered 23 = .ok (.aload_n 0, 1) := by decide +kernel
theorem dX11_steered_24 : decode cX11_steered 24 = .ok (.getfield 77, 3) := by decide +kernel
theorem dX11_steered_27 : decode cX11_steered 27 = .ok (.getfield 144, 3) := by decide +kernel
theorem dX11_steered_30 : decode cX11_steered 30 = .ok (.aload_n 0, 1) := by decide +kernel
theorem dX11_steered_31 : decode cX11_steered 31 = .ok (.getfield 77, 3) := by decide +kernel
theorem dX11_steered_34 : decode cX11_steered 34 = .ok (.getfield 151, 3) := by decide +kernel
theorem dX11_steered_37 : decode cX11_steered 37 = .ok (.invokevirtual 206, 3) := by decide +kernel
theorem dX11_steered_40 : decode cX11_steered 40 = .ok (.bipush (-9), 2) := by decide +kernel
theorem dX11_steered_42 : decode cX11_steered 42 = .ok (.if_icmp .ne 6, 3) := by decide +kernel
theorem dX11_steered_45 : decode cX11_steered 45 = .ok (.bipush (-3), 2) := by decide +kernel
theorem dX11_steered_47 : decode cX11_steered 47 = .ok (.ireturn, 1) := by decide +kernel
theorem dX11_steered_48 : decode cX11_steered 48 = .ok (.aload_n 0, 1) := by decide +kernel
theorem dX11_steered_49 : decode cX11_steered 49 = .ok (.getfield 87, 3) := by decide +kernel
theorem dX11_steered_52 : decode cX11_steered 52 = .ok (.aload_n 0, 1) := by decide +kernel
theorem dX11_steered_53 : decode cX11_steered 53 = .ok (.getfield 77, 3) := by decide +kernel
theorem dX11_steered_56 : decode cX11_steered 56 = .ok (.getfield 144, 3) := by decide +kernel
theorem dX11_steered_59 : decode cX11_steered 59 = .ok (.invokevirtual 147, 3) := by decide +kernel
theorem dX11_steered_62 : decode cX11_steered 62 = .ok (.iconst 0, 1) := by decide +kernel
theorem dX11_steered_63 : decode cX11_steered 63 = .ok (.istore_n 2, 1) := by decide +kernel
theorem dX11_steered_64 : decode cX11_steered 64 = .ok (.iload_n 2, 1) := by decide +kernel
theorem dX11_steered_65 : decode cX11_steered 65 = .ok (.sipush 1600, 3) := by decide +kernel
theorem dX11_steered_68 : decode cX11_steered 68 = .ok (.if_icmp .ge 35, 3) := by decide +kernel
theorem dX11_steered_71 : decode cX11_steered 71 = .ok (.aload_n 0, 1) := by decide +kernel
theorem dX11_steered_72 : decode cX11_steered 72 = .ok (.getfield 54, 3) := by decide +kernel
theorem dX11_steered_75 : decode cX11_steered 75 = .ok (.aload_n 0, 1) := by decide +kernel
theorem dX11_steered_76 : decode cX11_steered 76 = .ok (.getfield 87, 3) := by decide +kernel
theorem dX11_steered_79 : decode cX11_steered 79 = .ok (.aload_n 0, 1) := by decide +kernel
theorem dX11_steered_80 : decode cX11_steered 80 = .ok (.getfield 77, 3) := by decide +kernel
theorem dX11_steered_83 : decode cX11_steered 83 = .ok (.getfield 151, 3) := by decide +kernel
theorem dX11_steered_86 : decode cX11_steered 86 = .ok (.invokevirtual 210, 3) := by decide +kernel
theorem dX11_steered_89 : decode cX11_steered 89 = .ok (.bipush (-9), 2) := by decide +kernel
theorem dX11_steered_91 : decode cX11_steered 91 = .ok (.if_icmp .ne 6, 3) := by decide +kernel
theorem dX11_steered_94 : decode cX11_steered 94 = .ok (.goto 9, 3) := by decide +kernel
theorem dX11_steered_97 : decode cX11_steered 97 = .ok (.iinc 2 1, 3) := by decide +kernel
theorem dX11_steered_100 : decode cX11_steered 100 = .ok (.goto (-36), 3) := by decide +kernel
theorem dX11_steered_103 : decode cX11_steered 103 = .ok (.aload_n 0, 1) := by decide +kernel
theorem dX11_steered_104 : decode cX11_steered 104 = .ok (.getfield 87, 3) := by decide +kernel
theorem dX11_steered_107 : decode cX11_steered 107 = .ok (.iload_n 1, 1) := by decide +kernel
theorem dX11_steered_108 : decode cX11_steered 108 = .ok (.invokevirtual 136, 3) := by decide +kernel
theorem dX11_steered_111 : decode cX11_steered 111 = .ok (.ireturn, 1) := by decide +kernel
theorem dX11_common_0 : decode cX11_common 0 = .ok (.iload_n 1, 1) := by decide +kernel
theorem dX11_common_1 : decode cX11_common 1 = .ok (.bipush 20, 2) := by decide +kernel
theorem dX11_common_3 : decode cX11_common 3 = .ok (.invokestatic 188, 3) := by decide +kernel
theorem dX11_common_6 : decode cX11_common 6 = .ok (.ifCond .eq 6, 3) := by decide +kernel
theorem dX11_common_9 : decode cX11_common 9 = .ok (.bipush (-2), 2) := by decide +kernel
theorem dX11_common_11 : decode cX11_common 11 = .ok (.ireturn, 1) := by decide +kernel
theorem dX11_common_12 : decode cX11_common 12 = .ok (.aload_n 0, 1) := by decide +kernel
theorem dX11_common_13 : decode cX11_common 13 = .ok (.getfield 91, 3) := by decide +kernel
theorem dX11_common_16 : decode cX11_common 16 = .ok (.ifCond .ne 6, 3) := by decide +kernel
theorem dX11_common_19 : decode cX11_common 19 = .ok (.bipush (-3), 2) := by decide +kernel
theorem dX11_common_21 : decode cX11_common 21 = .ok (.ireturn, 1) := by decide +kernel
theorem dX11_common_22 : decode cX11_common 22 = .ok (.aload_n 0, 1) := by decide +kernel
theorem dX11_common_23 : decode cX11_common 23 = .ok (.getfield 77, 3) := by decide +kernel
theorem dX11_common_26 : decode cX11_common 26 = .ok (.invokevirtual 213, 3) := by decide +kernel
theorem dX11_common_29 : decode cX11_common 29 = .ok (.istore_n 2, 1) := by decide +kernel
theorem dX11_common_30 : decode cX11_common 30 = .ok (.iload_n 2, 1) := by decide +kernel
theorem dX11_common_31 : decode cX11_common 31 = .ok (.bipush (-9), 2) := by decide +kernel
theorem dX11_common_33 : decode cX11_common 33 = .ok (.if_icmp .ne 6, 3) := by decide +kernel
theorem dX11_common_36 : decode cX11_common 36 = .ok (.bipush (-9), 2) := by decide +kernel
theorem dX11_common_38 : decode cX11_common 38 = .ok (.ireturn, 1) := by decide +kernel
theorem dX11_common_39 : decode cX11_common 39 = .ok (.aload_n 0, 1) := by decide +kernel
theorem dX11_common_40 : decode cX11_common 40 = .ok (.getfield 87, 3) := by decide +kernel
theorem dX11_common_43 : decode cX11_common 43 = .ok (.invokevirtual 165, 3) := by decide +kernel
theorem dX11_common_46 : decode cX11_common 46 = .ok (.aload_n 0, 1) := by decide +kernel
theorem dX11_common_47 : decode cX11_common 47 = .ok (.getfield 87, 3) := by decide +kernel
theorem dX11_common_50 : decode cX11_common 50 = .ok (.aload_n 0, 1) := by decide +kernel
theorem dX11_common_51 : decode cX11_common 51 = .ok (.getfield 77, 3) := by decide +kernel
theorem dX11_common_54 : decode cX11_common 54 = .ok (.getfield 144, 3) := by decide +kernel
theorem dX11_common_57 : decode cX11_common 57 = .ok (.iload_n 2, 1) := by decide +kernel
theorem dX11_common_58 : decode cX11_common 58 = .ok (.aload_n 0, 1) := by decide +kernel
theorem dX11_common_59 : decode cX11_common 59 = .ok (.getfield 77, 3) := by decide +kernel
theorem dX11_common_62 : decode cX11_common 62 = .ok (.getfield 144, 3) := by decide +kernel
theorem dX11_common_65 : decode cX11_common 65 = .ok (.getfield 217, 3) := by decide +kernel
theorem dX11_common_68 : decode cX11_common 68 = .ok (.iload_n 2, 1) := by decide +kernel
theorem dX11_common_69 : decode cX11_common 69 = .ok (.iaload, 1) := by decide +kernel
theorem dX11_common_70 : decode cX11_common 70 = .ok (.invokevirtual 220, 3) := by decide +kernel
theorem dX11_common_73 : decode cX11_common 73 = .ok (.pop, 1) := by decide +kernel
theorem dX11_common_74 : decode cX11_common 74 = .ok (.aload_n 0, 1) := by decide +kernel
theorem dX11_common_75 : decode cX11_common 75 = .ok (.getfield 87, 3) := by decide +kernel
theorem dX11_common_78 : decode cX11_common 78 = .ok (.iload_n 1, 1) := by decide +kernel
theorem dX11_common_79 : decode cX11_common 79 = .ok (.invokevirtual 136, 3) := by decide +kernel
theorem dX11_common_82 : decode cX11_common 82 = .ok (.ireturn, 1) := by decide +kernel
theorem dX11_general_0 : decode cX11_general 0 = .ok (.iload_n 1, 1) := by decide +kernel
theorem dX11_general_1 : decode cX11_general 1 = .ok (.iconst 1, 1) := by decide +kernel
theorem dX11_general_2 : decode cX11_general 2 = .ok (.invokestatic 95, 3) := by decide +kernel
theorem dX11_general_5 : decode cX11_general 5 = .ok (.ifCond .ne 12, 3) := by decide +kernel
theorem dX11_general_8 : decode cX11_general 8 = .ok (.iload_n 2, 1) := by decide +kernel
theorem dX11_general_9 : decode cX11_general 9 = .ok (.bipush 20, 2) := by decide +kernel
theorem dX11_general_11 : decode cX11_general 11 = .ok (.invokestatic 188, 3) := by decide +kernel
theorem dX11_general_14 : decode cX11_general 14 = .ok (.ifCond .eq 6, 3) := by decide +kernel
theorem dX11_general_17 : decode cX11_general 17 = .ok (.bipush (-2), 2) := by decide +kernel
theorem dX11_general_19 : decode cX11_general 19 = .ok (.ireturn, 1) := by decide +kernel
theorem dX11_general_20 : decode cX11_general 20 = .ok (.aload_n 0, 1) := by decide +kernel
theorem dX11_general_21 : decode cX11_general 21 = .ok (.getfield 91, 3) := by decide +kernel
theorem dX11_general_24 : decode cX11_general 24 = .ok (.ifCond .ne 6, 3) := by decide +kernel
theorem dX11_general_27 : decode cX11_general 27 = .ok (.bipush (-3), 2) := by decide +kernel
theorem dX11_general_29 : decode cX11_general 29 = .ok (.ireturn, 1) := by decide +kernel
theorem dX11_general_30 : decode cX11_general 30 = .ok (.aload_n 0, 1) := by decide +kernel
theorem dX11_general_31 : decode cX11_general 31 = .ok (.getfield 77, 3) := by decide +kernel
theorem dX11_general_34 : decode cX11_general 34 = .ok (.aload_n 0, 1) := by decide +kernel
theorem dX11_general_35 : decode cX11_general 35 = .ok (.getfield 81, 3) := by decide +kernel
theorem dX11_general_38 : decode cX11_general 38 = .ok (.aload_n 0, 1) := by decide +kernel
theorem dX11_general_39 : decode cX11_general 39 = .ok (.getfield 12, 3) := by decide +kernel
theorem dX11_general_42 : decode cX11_general 42 = .ok (.invokevirtual 224, 3) := by decide +kernel
theorem dX11_general_45 : decode cX11_general 45 = .ok (.pop, 1) := by decide +kernel
theorem dX11_general_46 : decode cX11_general 46 = .ok (.aload_n 0, 1) := by decide +kernel
theorem dX11_general_47 : decode cX11_general 47 = .ok (.getfield 81, 3) := by decide +kernel
theorem dX11_general_50 : decode cX11_general 50 = .ok (.iload_n 1, 1) := by decide +kernel
theorem dX11_general_51 : decode cX11_general 51 = .ok (.invokevirtual 154, 3) := by decide +kernel
theorem dX11_general_54 : decode cX11_general 54 = .ok (.iload_n 2, 1) := by decide +kernel
theorem dX11_general_55 : decode cX11_general 55 = .ok (.invokevirtual 136, 3) := by decide +kernel
theorem dX11_general_58 : decode cX11_general 58 = .ok (.ireturn, 1) := by decide +kernel
theorem dX11_prove_0 : decode cX11_prove 0 = .ok (.aload_n 0, 1) := by decide +kernel
theorem dX11_prove_1 : decode cX11_prove 1 = .ok (.getfield 91, 3) := by decide +kernel
theorem dX11_prove_4 : decode cX11_prove 4 = .ok (.ifCond .ne 6, 3) := by decide +kernel
theorem dX11_prove_7 : decode cX11_prove 7 = .ok (.bipush (-3), 2) := by decide +kernel
theorem dX11_prove_9 : decode cX11_prove 9 = .ok (.ireturn, 1) := by decide +kernel
theorem dX11_prove_10 : decode cX11_prove 10 = .ok (.aload_n 0, 1) := by decide +kernel
theorem dX11_prove_11 : decode cX11_prove 11 = .ok (.getfield 61, 3) := by decide +kernel
theorem dX11_prove_14 : decode cX11_prove 14 = .ok (.invokevirtual 162, 3) := by decide +kernel
theorem dX11_prove_17 : decode cX11_prove 17 = .ok (.aload_n 0, 1) := by decide +kernel
theorem dX11_prove_18 : decode cX11_prove 18 = .ok (.getfield 70, 3) := by decide +kernel
theorem dX11_prove_21 : decode cX11_prove 21 = .ok (.getfield 228, 3) := by decide +kernel
theorem dX11_prove_24 : decode cX11_prove 24 = .ok (.iconst 0, 1) := by decide +kernel
theorem dX11_prove_25 : decode cX11_prove 25 = .ok (.aaload, 1) := by decide +kernel
theorem dX11_prove_26 : decode cX11_prove 26 = .ok (.aload_n 0, 1) := by decide +kernel
theorem dX11_prove_27 : decode cX11_prove 27 = .ok (.getfield 77, 3) := by decide +kernel
theorem dX11_prove_30 : decode cX11_prove 30 = .ok (.invokevirtual 232, 3) := by decide +kernel
theorem dX11_prove_33 : decode cX11_prove 33 = .ok (.aload_n 0, 1) := by decide +kernel
theorem dX11_prove_34 : decode cX11_prove 34 = .ok (.getfield 70, 3) := by decide +kernel
theorem dX11_prove_37 : decode cX11_prove 37 = .ok (.iconst 0, 1) := by decide +kernel
theorem dX11_prove_38 : decode cX11_prove 38 = .ok (.invokevirtual 235, 3) := by decide +kernel
theorem dX11_prove_41 : decode cX11_prove 41 = .ok (.istore_n 1, 1) := by decide +kernel
theorem dX11_prove_42 : decode cX11_prove 42 = .ok (.iload_n 1, 1) := by decide +kernel
theorem dX11_prove_43 : decode cX11_prove 43 = .ok (.iconst 3, 1) := by decide +kernel
theorem dX11_prove_44 : decode cX11_prove 44 = .ok (.if_icmp .ne 12, 3) := by decide +kernel
theorem dX11_prove_47 : decode cX11_prove 47 = .ok (.aload_n 0, 1) := by decide +kernel
theorem dX11_prove_48 : decode cX11_prove 48 = .ok (.getfield 61, 3) := by decide +kernel
theorem dX11_prove_51 : decode cX11_prove 51 = .ok (.iconst 0, 1) := by decide +kernel
theorem dX11_prove_52 : decode cX11_prove 52 = .ok (.iconst 3, 1) := by decide +kernel
theorem dX11_prove_53 : decode cX11_prove 53 = .ok (.invokevirtual 238, 3) := by decide +kernel
theorem dX11_prove_56 : decode cX11_prove 56 = .ok (.iload_n 1, 1) := by decide +kernel
theorem dX11_prove_57 : decode cX11_prove 57 = .ok (.ireturn, 1) := by decide +kernel
theorem dX11_why_0 : decode cX11_why 0 = .ok (.iload_n 1, 1) := by decide +kernel
theorem dX11_why_1 : decode cX11_why 1 = .ok (.bipush 9, 2) := by decide +kernel
theorem dX11_why_3 : decode cX11_why 3 = .ok (.invokestatic 95, 3) := by decide +kernel
theorem dX11_why_6 : decode cX11_why 6 = .ok (.ifCond .eq 6, 3) := by decide +kernel
theorem dX11_why_9 : decode cX11_why 9 = .ok (.bipush (-2), 2) := by decide +kernel
theorem dX11_why_11 : decode cX11_why 11 = .ok (.ireturn, 1) := by decide +kernel
theorem dX11_why_12 : decode cX11_why 12 = .ok (.iload_n 1, 1) := by decide +kernel
theorem dX11_why_13 : decode cX11_why 13 = .ok (.aload_n 0, 1) := by decide +kernel
theorem dX11_why_14 : decode cX11_why 14 = .ok (.getfield 61, 3) := by decide +kernel
theorem dX11_why_17 : decode cX11_why 17 = .ok (.getfield 242, 3) := by decide +kernel
theorem dX11_why_20 : decode cX11_why 20 = .ok (.if_icmp .ge 15, 3) := by decide +kernel
theorem dX11_why_23 : decode cX11_why 23 = .ok (.aload_n 0, 1) := by decide +kernel
theorem dX11_why_24 : decode cX11_why 24 = .ok (.getfield 61, 3) := by decide +kernel
theorem dX11_why_27 : decode cX11_why 27 = .ok (.getfield 245, 3) := by decide +kernel
theorem dX11_why_30 : decode cX11_why 30 = .ok (.iload_n 1, 1) := by decide +kernel
theorem dX11_why_31 : decode cX11_why 31 = .ok (.iaload, 1) := by decide +kernel
theorem dX11_why_32 : decode cX11_why 32 = .ok (.goto 5, 3) := by decide +kernel
theorem dX11_why_35 : decode cX11_why 35 = .ok (.bipush (-9), 2) := by decide +kernel
theorem dX11_why_37 : decode cX11_why 37 = .ok (.ireturn, 1) := by decide +kernel
theorem dX11_script_0 : decode cX11_script 0 = .ok (.iload_n 1, 1) := by decide +kernel
theorem dX11_script_1 : decode cX11_script 1 = .ok (.bipush 98, 2) := by decide +kernel
theorem dX11_script_3 : decode cX11_script 3 = .ok (.invokestatic 95, 3) := by decide +kernel
theorem dX11_script_6 : decode cX11_script 6 = .ok (.ifCond .ne 11, 3) := by decide +kernel
theorem dX11_script_9 : decode cX11_script 9 = .ok (.iload_n 2, 1) := by decide +kernel
theorem dX11_script_10 : decode cX11_script 10 = .ok (.iconst 1, 1) := by decide +kernel
theorem dX11_script_11 : decode cX11_script 11 = .ok (.invokestatic 95, 3) := by decide +kernel
theorem dX11_script_14 : decode cX11_script 14 = .ok (.ifCond .eq 6, 3) := by decide +kernel
theorem dX11_script_17 : decode cX11_script 17 = .ok (.bipush (-2), 2) := by decide +kernel
theorem dX11_script_19 : decode cX11_script 19 = .ok (.ireturn, 1) := by decide +kernel
theorem dX11_script_20 : decode cX11_script 20 = .ok (.iload_n 1, 1) := by decide +kernel
theorem dX11_script_21 : decode cX11_script 21 = .ok (.aload_n 0, 1) := by decide +kernel
theorem dX11_script_22 : decode cX11_script 22 = .ok (.getfield 61, 3) := by decide +kernel
theorem dX11_script_25 : decode cX11_script 25 = .ok (.getfield 248, 3) := by decide +kernel
theorem dX11_script_28 : decode cX11_script 28 = .ok (.if_icmp .lt 6, 3) := by decide +kernel
theorem dX11_script_31 : decode cX11_script 31 = .ok (.bipush (-9), 2) := by decide +kernel
theorem dX11_script_33 : decode cX11_script 33 = .ok (.ireturn, 1) := by decide +kernel
theorem dX11_script_34 : decode cX11_script 34 = .ok (.iload_n 2, 1) := by decide +kernel
theorem dX11_script_35 : decode cX11_script 35 = .ok (.ifCond .ne 15, 3) := by decide +kernel
theorem dX11_script_38 : decode cX11_script 38 = .ok (.aload_n 0, 1) := by decide +kernel
theorem dX11_script_39 : decode cX11_script 39 = .ok (.getfield 61, 3) := by decide +kernel
theorem dX11_script_42 : decode cX11_script 42 = .ok (.getfield 249, 3) := by decide +kernel
theorem dX11_script_45 : decode cX11_script 45 = .ok (.iload_n 1, 1) := by decide +kernel
theorem dX11_script_46 : decode cX11_script 46 = .ok (.iaload, 1) := by decide +kernel
theorem dX11_script_47 : decode cX11_script 47 = .ok (.goto 12, 3) := by decide +kernel
theorem dX11_script_50 : decode cX11_script 50 = .ok (.aload_n 0, 1) := by decide +kernel
theorem dX11_script_51 : decode cX11_script 51 = .ok (.getfield 61, 3) := by decide +kernel
theorem dX11_script_54 : decode cX11_script 54 = .ok (.getfield 252, 3) := by decide +kernel
theorem dX11_script_57 : decode cX11_script 57 = .ok (.iload_n 1, 1) := by decide +kernel
theorem dX11_script_58 : decode cX11_script 58 = .ok (.iaload, 1) := by decide +kernel
theorem dX11_script_59 : decode cX11_script 59 = .ok (.ireturn, 1) := by decide +kernel
theorem dX11_lemma_0 : decode cX11_lemma 0 = .ok (.iload_n 1, 1) := by decide +kernel
theorem dX11_lemma_1 : decode cX11_lemma 1 = .ok (.aload_n 0, 1) := by decide +kernel
theorem dX11_lemma_2 : decode cX11_lemma 2 = .ok (.getfield 54, 3) := by decide +kernel
theorem dX11_lemma_5 : decode cX11_lemma 5 = .ok (.getfield 161, 3) := by decide +kernel
theorem dX11_lemma_8 : decode cX11_lemma 8 = .ok (.iconst 1, 1) := by decide +kernel
theorem dX11_lemma_9 : decode cX11_lemma 9 = .ok (.isub, 1) := by decide +kernel
theorem dX11_lemma_10 : decode cX11_lemma 10 = .ok (.invokestatic 95, 3) := by decide +kernel
theorem dX11_lemma_13 : decode cX11_lemma 13 = .ok (.ifCond .eq 5, 3) := by decide +kernel
theorem dX11_lemma_16 : decode cX11_lemma 16 = .ok (.iconst (-1), 1) := by decide +kernel
theorem dX11_lemma_17 : decode cX11_lemma 17 = .ok (.ireturn, 1) := by decide +kernel
theorem dX11_lemma_18 : decode cX11_lemma 18 = .ok (.iload_n 2, 1) := by decide +kernel
theorem dX11_lemma_19 : decode cX11_lemma 19 = .ok (.iconst 1, 1) := by decide +kernel
theorem dX11_lemma_20 : decode cX11_lemma 20 = .ok (.invokestatic 95, 3) := by decide +kernel
theorem dX11_lemma_23 : decode cX11_lemma 23 = .ok (.ifCond .ne 12, 3) := by decide +kernel
theorem dX11_lemma_26 : decode cX11_lemma 26 = .ok (.iload_n 3, 1) := by decide +kernel
theorem dX11_lemma_27 : decode cX11_lemma 27 = .ok (.bipush 40, 2) := by decide +kernel
theorem dX11_lemma_29 : decode cX11_lemma 29 = .ok (.invokestatic 188, 3) := by decide +kernel
theorem dX11_lemma_32 : decode cX11_lemma 32 = .ok (.ifCond .eq 6, 3) := by decide +kernel
theorem dX11_lemma_35 : decode cX11_lemma 35 = .ok (.bipush (-2), 2) := by decide +kernel
theorem dX11_lemma_37 : decode cX11_lemma 37 = .ok (.ireturn, 1) := by decide +kernel
theorem dX11_lemma_38 : decode cX11_lemma 38 = .ok (.aload_n 0, 1) := by decide +kernel
theorem dX11_lemma_39 : decode cX11_lemma 39 = .ok (.getfield 54, 3) := by decide +kernel
theorem dX11_lemma_42 : decode cX11_lemma 42 = .ok (.getfield 255, 3) := by decide +kernel
theorem dX11_lemma_45 : decode cX11_lemma 45 = .ok (.iload_n 1, 1) := by decide +kernel
theorem dX11_lemma_46 : decode cX11_lemma 46 = .ok (.aaload, 1) := by decide +kernel
theorem dX11_lemma_47 : decode cX11_lemma 47 = .ok (.iload_n 2, 1) := by decide +kernel
theorem dX11_lemma_48 : decode cX11_lemma 48 = .ok (.invokevirtual 154, 3) := by decide +kernel
theorem dX11_lemma_51 : decode cX11_lemma 51 = .ok (.iload_n 3, 1) := by decide +kernel
theorem dX11_lemma_52 : decode cX11_lemma 52 = .ok (.invokevirtual 136, 3) := by decide +kernel
theorem dX11_lemma_55 : decode cX11_lemma 55 = .ok (.ireturn, 1) := by decide +kernel
theorem dX11_tested_0 : decode cX11_tested 0 = .ok (.iload_n 1, 1) := by decide +kernel
theorem dX11_tested_1 : decode cX11_tested 1 = .ok (.aload_n 0, 1) := by decide +kernel
theorem dX11_tested_2 : decode cX11_tested 2 = .ok (.getfield 54, 3) := by decide +kernel
theorem dX11_tested_5 : decode cX11_tested 5 = .ok (.getfield 161, 3) := by decide +kernel
theorem dX11_tested_8 : decode cX11_tested 8 = .ok (.iconst 1, 1) := by decide +kernel
theorem dX11_tested_9 : decode cX11_tested 9 = .ok (.isub, 1) := by decide +kernel
theorem dX11_tested_10 : decode cX11_tested 10 = .ok (.invokestatic 95, 3) := by decide +kernel
theorem dX11_tested_13 : decode cX11_tested 13 = .ok (.ifCond .eq 5, 3) := by decide +kernel
theorem dX11_tested_16 : decode cX11_tested 16 = .ok (.iconst (-1), 1) := by decide +kernel
theorem dX11_tested_17 : decode cX11_tested 17 = .ok (.ireturn, 1) := by decide +kernel
theorem dX11_tested_18 : decode cX11_tested 18 = .ok (.iload_n 2, 1) := by decide +kernel
theorem dX11_tested_19 : decode cX11_tested 19 = .ok (.iconst 2, 1) := by decide +kernel
theorem dX11_tested_20 : decode cX11_tested 20 = .ok (.invokestatic 95, 3) := by decide +kernel
theorem dX11_tested_23 : decode cX11_tested 23 = .ok (.ifCond .eq 6, 3) := by decide +kernel
theorem dX11_tested_26 : decode cX11_tested 26 = .ok (.bipush (-2), 2) := by decide +kernel
theorem dX11_tested_28 : decode cX11_tested 28 = .ok (.ireturn, 1) := by decide +kernel
theorem dX11_tested_29 : decode cX11_tested 29 = .ok (.iload_n 2, 1) := by decide +kernel
theorem dX11_tested_30 : decode cX11_tested 30 = .ok (.ifCond .ne 7, 3) := by decide +kernel
theorem dX11_tested_33 : decode cX11_tested 33 = .ok (.iconst 1, 1) := by decide +kernel
theorem dX11_tested_34 : decode cX11_tested 34 = .ok (.goto 14, 3) := by decide +kernel
theorem dX11_tested_37 : decode cX11_tested 37 = .ok (.iload_n 2, 1) := by decide +kernel
theorem dX11_tested_38 : decode cX11_tested 38 = .ok (.iconst 1, 1) := by decide +kernel
theorem dX11_tested_39 : decode cX11_tested 39 = .ok (.if_icmp .ne 7, 3) := by decide +kernel
theorem dX11_tested_42 : decode cX11_tested 42 = .ok (.iconst 0, 1) := by decide +kernel
theorem dX11_tested_43 : decode cX11_tested 43 = .ok (.goto 5, 3) := by decide +kernel
theorem dX11_tested_46 : decode cX11_tested 46 = .ok (.bipush (-9), 2) := by decide +kernel
theorem dX11_tested_48 : decode cX11_tested 48 = .ok (.istore_n 3, 1) := by decide +kernel
theorem dX11_tested_49 : decode cX11_tested 49 = .ok (.aload_n 0, 1) := by decide +kernel
theorem dX11_tested_50 : decode cX11_tested 50 = .ok (.getfield 28, 3) := by decide +kernel
theorem dX11_tested_53 : decode cX11_tested 53 = .ok (.aload_n 0, 1) := by decide +kernel
theorem dX11_tested_54 : decode cX11_tested 54 = .ok (.getfield 54, 3) := by decide +kernel
theorem dX11_tested_57 : decode cX11_tested 57 = .ok (.getfield 255, 3) := by decide +kernel
theorem dX11_tested_60 : decode cX11_tested 60 = .ok (.iload_n 1, 1) := by decide +kernel
theorem dX11_tested_61 : decode cX11_tested 61 = .ok (.aaload, 1) := by decide +kernel
theorem dX11_tested_62 : decode cX11_tested 62 = .ok (.iload_n 3, 1) := by decide +kernel
theorem dX11_tested_63 : decode cX11_tested 63 = .ok (.invokevirtual 258, 3) := by decide +kernel
theorem dX11_tested_66 : decode cX11_tested 66 = .ok (.ireturn, 1) := by decide +kernel
theorem dX11_back_0 : decode cX11_back 0 = .ok (.aload_n 0, 1) := by decide +kernel
theorem dX11_back_1 : decode cX11_back 1 = .ok (.getfield 54, 3) := by decide +kernel
theorem dX11_back_4 : decode cX11_back 4 = .ok (.getfield 161, 3) := by decide +kernel
theorem dX11_back_7 : decode cX11_back 7 = .ok (.ifCond .gt 6, 3) := by decide +kernel
theorem dX11_back_10 : decode cX11_back 10 = .ok (.bipush (-3), 2) := by decide +kernel
theorem dX11_back_12 : decode cX11_back 12 = .ok (.ireturn, 1) := by decide +kernel
theorem dX11_back_13 : decode cX11_back 13 = .ok (.aload_n 0, 1) := by decide +kernel
theorem dX11_back_14 : decode cX11_back 14 = .ok (.getfield 54, 3) := by decide +kernel
theorem dX11_back_17 : decode cX11_back 17 = .ok (.dup, 1) := by decide +kernel
theorem dX11_back_18 : decode cX11_back 18 = .ok (.getfield 161, 3) := by decide +kernel
theorem dX11_back_21 : decode cX11_back 21 = .ok (.iconst 1, 1) := by decide +kernel
theorem dX11_back_22 : decode cX11_back 22 = .ok (.isub, 1) := by decide +kernel
theorem dX11_back_23 : decode cX11_back 23 = .ok (.putfield 161, 3) := by decide +kernel
theorem dX11_back_26 : decode cX11_back 26 = .ok (.aload_n 0, 1) := by decide +kernel
theorem dX11_back_27 : decode cX11_back 27 = .ok (.getfield 54, 3) := by decide +kernel
theorem dX11_back_30 : decode cX11_back 30 = .ok (.getfield 161, 3) := by decide +kernel
theorem dX11_back_33 : decode cX11_back 33 = .ok (.ireturn, 1) := by decide +kernel
theorem dX11_many_0 : decode cX11_many 0 = .ok (.iload_n 1, 1) := by decide +kernel
theorem dX11_many_1 : decode cX11_many 1 = .ok (.tableswitch 63 0 3 #[31, 39, 47, 55], 31) := by decide +kernel
theorem dX11_many_32 : decode cX11_many 32 = .ok (.aload_n 0, 1) := by decide +kernel
theorem dX11_many_33 : decode cX11_many 33 = .ok (.getfield 12, 3) := by decide +kernel
theorem dX11_many_36 : decode cX11_many 36 = .ok (.getfield 107, 3) := by decide +kernel
theorem dX11_many_39 : decode cX11_many 39 = .ok (.ireturn, 1) := by decide +kernel
theorem dX11_many_40 : decode cX11_many 40 = .ok (.aload_n 0, 1) := by decide +kernel
theorem dX11_many_41 : decode cX11_many 41 = .ok (.getfield 54, 3) := by decide +kernel
theorem dX11_many_44 : decode cX11_many 44 = .ok (.getfield 161, 3) := by decide +kernel
theorem dX11_many_47 : decode cX11_many 47 = .ok (.ireturn, 1) := by decide +kernel
theorem dX11_many_48 : decode cX11_many 48 = .ok (.aload_n 0, 1) := by decide +kernel
theorem dX11_many_49 : decode cX11_many 49 = .ok (.getfield 21, 3) := by decide +kernel
theorem dX11_many_52 : decode cX11_many 52 = .ok (.getfield 99, 3) := by decide +kernel
theorem dX11_many_55 : decode cX11_many 55 = .ok (.ireturn, 1) := by decide +kernel
theorem dX11_many_56 : decode cX11_many 56 = .ok (.aload_n 0, 1) := by decide +kernel
theorem dX11_many_57 : decode cX11_many 57 = .ok (.getfield 61, 3) := by decide +kernel
theorem dX11_many_60 : decode cX11_many 60 = .ok (.getfield 248, 3) := by decide +kernel
theorem dX11_many_63 : decode cX11_many 63 = .ok (.ireturn, 1) := by decide +kernel
theorem dX11_many_64 : decode cX11_many 64 = .ok (.bipush (-2), 2) := by decide +kernel
theorem dX11_many_66 : decode cX11_many 66 = .ok (.ireturn, 1) := by decide +kernel
theorem dX11_isOutside_0 : decode cX11_isOutside 0 = .ok (.iload_n 0, 1) := by decide +kernel
theorem dX11_isOutside_1 : decode cX11_isOutside 1 = .ok (.ifCond .lt 8, 3) := by decide +kernel
theorem dX11_isOutside_4 : decode cX11_isOutside 4 = .ok (.iload_n 0, 1) := by decide +kernel
theorem dX11_isOutside_5 : decode cX11_isOutside 5 = .ok (.iload_n 1, 1) := by decide +kernel
theorem dX11_isOutside_6 : decode cX11_isOutside 6 = .ok (.if_icmp .le 7, 3) := by decide +kernel
theorem dX11_isOutside_9 : decode cX11_isOutside 9 = .ok (.iconst 1, 1) := by decide +kernel
theorem dX11_isOutside_10 : decode cX11_isOutside 10 = .ok (.goto 4, 3) := by decide +kernel
theorem dX11_isOutside_13 : decode cX11_isOutside 13 = .ok (.iconst 0, 1) := by decide +kernel
theorem dX11_isOutside_14 : decode cX11_isOutside 14 = .ok (.ireturn, 1) := by decide +kernel
theorem dX11_isNoPlace_0 : decode cX11_isNoPlace 0 = .ok (.iload_n 0, 1) := by decide +kernel
theorem dX11_isNoPlace_1 : decode cX11_isNoPlace 1 = .ok (.bipush (-9), 2) := by decide +kernel
theorem dX11_isNoPlace_3 : decode cX11_isNoPlace 3 = .ok (.if_icmp .eq 17, 3) := by decide +kernel
theorem dX11_isNoPlace_6 : decode cX11_isNoPlace 6 = .ok (.iload_n 0, 1) := by decide +kernel
theorem dX11_isNoPlace_7 : decode cX11_isNoPlace 7 = .ok (.iload_n 1, 1) := by decide +kernel
theorem dX11_isNoPlace_8 : decode cX11_isNoPlace 8 = .ok (.iconst 1, 1) := by decide +kernel
theorem dX11_isNoPlace_9 : decode cX11_isNoPlace 9 = .ok (.isub, 1) := by decide +kernel
theorem dX11_isNoPlace_10 : decode cX11_isNoPlace 10 = .ok (.invokestatic 95, 3) := by decide +kernel
theorem dX11_isNoPlace_13 : decode cX11_isNoPlace 13 = .ok (.ifCond .eq 7, 3) := by decide +kernel
theorem dX11_isNoPlace_16 : decode cX11_isNoPlace 16 = .ok (.iconst 1, 1) := by decide +kernel
theorem dX11_isNoPlace_17 : decode cX11_isNoPlace 17 = .ok (.goto 4, 3) := by decide +kernel
theorem dX11_isNoPlace_20 : decode cX11_isNoPlace 20 = .ok (.iconst 0, 1) := by decide +kernel
theorem dX11_isNoPlace_21 : decode cX11_isNoPlace 21 = .ok (.ireturn, 1) := by decide +kernel
theorem dJ9_max_7cf53_0 : decode cJ9_max_7cf53 0 = .ok (.iload_n 0, 1) := by decide +kernel
theorem dJ9_max_7cf53_1 : decode cJ9_max_7cf53 1 = .ok (.iload_n 1, 1) := by decide +kernel
theorem dJ9_max_7cf53_2 : decode cJ9_max_7cf53 2 = .ok (.if_icmp .lt 7, 3) := by decide +kernel
theorem dJ9_max_7cf53_5 : decode cJ9_max_7cf53 5 = .ok (.iload_n 0, 1) := by decide +kernel
theorem dJ9_max_7cf53_6 : decode cJ9_max_7cf53 6 = .ok (.goto 4, 3) := by decide +kernel
theorem dJ9_max_7cf53_9 : decode cJ9_max_7cf53 9 = .ok (.iload_n 1, 1) := by decide +kernel
theorem dJ9_max_7cf53_10 : decode cJ9_max_7cf53 10 = .ok (.ireturn, 1) := by decide +kernel
theorem dJ9_min_7cf53_0 : decode cJ9_min_7cf53 0 = .ok (.iload_n 0, 1) := by decide +kernel
theorem dJ9_min_7cf53_1 : decode cJ9_min_7cf53 1 = .ok (.iload_n 1, 1) := by decide +kernel
theorem dJ9_min_7cf53_2 : decode cJ9_min_7cf53 2 = .ok (.if_icmp .gt 7, 3) := by decide +kernel
theorem dJ9_min_7cf53_5 : decode cJ9_min_7cf53 5 = .ok (.iload_n 0, 1) := by decide +kernel
theorem dJ9_min_7cf53_6 : decode cJ9_min_7cf53 6 = .ok (.goto 4, 3) := by decide +kernel
theorem dJ9_min_7cf53_9 : decode cJ9_min_7cf53 9 = .ok (.iload_n 1, 1) := by decide +kernel
theorem dJ9_min_7cf53_10 : decode cJ9_min_7cf53 10 = .ok (.ireturn, 1) := by decide +kernel
theorem dL_law_0 : decode cL_law 0 = .ok (.new 7, 3) := by decide +kernel
theorem dL_law_3 : decode cL_law 3 = .ok (.dup, 1) := by decide +kernel
theorem dL_law_4 : decode cL_law 4 = .ok (.invokespecial 9, 3) := by decide +kernel
theorem dL_law_7 : decode cL_law 7 = .ok (.astore_n 1, 1) := by decide +kernel
theorem dL_law_8 : decode cL_law 8 = .ok (.new 10, 3) := by decide +kernel
theorem dL_law_11 : decode cL_law 11 = .ok (.dup, 1) := by decide +kernel
theorem dL_law_12 : decode cL_law 12 = .ok (.invokespecial 12, 3) := by decide +kernel
theorem dL_law_15 : decode cL_law 15 = .ok (.astore_n 2, 1) := by decide +kernel
theorem dL_law_16 : decode cL_law 16 = .ok (.iconst 0, 1) := by decide +kernel
theorem dL_law_17 : decode cL_law 17 = .ok (.istore_n 3, 1) := by decide +kernel
theorem dL_law_18 : decode cL_law 18 = .ok (.iload_n 3, 1) := by decide +kernel
theorem dL_law_19 : decode cL_law 19 = .ok (.aload_n 0, 1) := by decide +kernel
theorem dL_law_20 : decode cL_law 20 = .ok (.arraylength, 1) := by decide +kernel
theorem dL_law_21 : decode cL_law 21 = .ok (.iconst 5, 1) := by decide +kernel
theorem dL_law_22 : decode cL_law 22 = .ok (.isub, 1) := by decide +kernel
theorem dL_law_23 : decode cL_law 23 = .ok (.if_icmp .gt 779, 3) := by decide +kernel
theorem dL_law_26 : decode cL_law 26 = .ok (.aload_n 0, 1) := by decide +kernel
theorem dL_law_27 : decode cL_law 27 = .ok (.iload_n 3, 1) := by decide +kernel
theorem dL_law_28 : decode cL_law 28 = .ok (.iaload, 1) := by decide +kernel
theorem dL_law_29 : decode cL_law 29 = .ok (.bipush 31, 2) := by decide +kernel
theorem dL_law_31 : decode cL_law 31 = .ok (.iand, 1) := by decide +kernel
theorem dL_law_32 : decode cL_law 32 = .ok (.tableswitch 764 0 23 #[112, 135, 148, 181, 214, 257, 270, 303, 316, 369, 412, 435, 468, 491, 504, 527, 550, 583, 596, 619, 652, 695, 728, 741], 112) := by decide +kernel
theorem dL_law_144 : decode cL_law 144 = .ok (.aload_n 1, 1) := by decide +kernel
theorem dL_law_145 : decode cL_law 145 = .ok (.aload_n 0, 1) := by decide +kernel
theorem dL_law_146 : decode cL_law 146 = .ok (.iload_n 3, 1) := by decide +kernel
theorem dL_law_147 : decode cL_law 147 = .ok (.iconst 1, 1) := by decide +kernel
theorem dL_law_148 : decode cL_law 148 = .ok (.iadd, 1) := by decide +kernel
theorem dL_law_149 : decode cL_law 149 = .ok (.iaload, 1) := by decide +kernel
theorem dL_law_150 : decode cL_law 150 = .ok (.invokevirtual 13, 3) := by decide +kernel
theorem dL_law_153 : decode cL_law 153 = .ok (.aload_n 2, 1) := by decide +kernel
theorem dL_law_154 : decode cL_law 154 = .ok (.aload_n 0, 1) := by decide +kernel
theorem dL_law_155 : decode cL_law 155 = .ok (.iload_n 3, 1) := by decide +kernel
theorem dL_law_156 : decode cL_law 156 = .ok (.iconst 1, 1) := by decide +kernel
theorem dL_law_157 : decode cL_law 157 = .ok (.iadd, 1) := by decide +kernel
theorem dL_law_158 : decode cL_law 158 = .ok (.iaload, 1) := by decide +kernel
theorem dL_law_159 : decode cL_law 159 = .ok (.invokevirtual 17, 3) := by decide +kernel
theorem dL_law_162 : decode cL_law 162 = .ok (.if_icmp .eq 634, 3) := by decide +kernel
theorem dL_law_165 : decode cL_law 165 = .ok (.iconst 0, 1) := by decide +kernel
theorem dL_law_166 : decode cL_law 166 = .ok (.ireturn, 1) := by decide +kernel
theorem dL_law_167 : decode cL_law 167 = .ok (.aload_n 1, 1) := by decide +kernel
theorem dL_law_168 : decode cL_law 168 = .ok (.invokevirtual 18, 3) := by decide +kernel
theorem dL_law_171 : decode cL_law 171 = .ok (.aload_n 2, 1) := by decide +kernel
theorem dL_law_172 : decode cL_law 172 = .ok (.invokevirtual 22, 3) := by decide +kernel
theorem dL_law_175 : decode cL_law 175 = .ok (.if_icmp .eq 621, 3) := by decide +kernel
theorem dL_law_178 : decode cL_law 178 = .ok (.iconst 0, 1) := by decide +kernel
theorem dL_law_179 : decode cL_law 179 = .ok (.ireturn, 1) := by decide +kernel
theorem dL_law_180 : decode cL_law 180 = .ok (.aload_n 1, 1) := by decide +kernel
theorem dL_law_181 : decode cL_law 181 = .ok (.aload_n 0, 1) := by decide +kernel
theorem dL_law_182 : decode cL_law 182 = .ok (.iload_n 3, 1) := by decide +kernel
theorem dL_law_183 : decode cL_law 183 = .ok (.iconst 1, 1) := by decide +kernel
theorem dL_law_184 : decode cL_law 184 = .ok (.iadd, 1) := by decide +kernel
theorem dL_law_185 : decode cL_law 185 = .ok (.iaload, 1) := by decide +kernel
theorem dL_law_186 : decode cL_law 186 = .ok (.aload_n 0, 1) := by decide +kernel
theorem dL_law_187 : decode cL_law 187 = .ok (.iload_n 3, 1) := by decide +kernel
theorem dL_law_188 : decode cL_law 188 = .ok (.iconst 2, 1) := by decide +kernel
theorem dL_law_189 : decode cL_law 189 = .ok (.iadd, 1) := by decide +kernel
theorem dL_law_190 : decode cL_law 190 = .ok (.iaload, 1) := by decide +kernel
theorem dL_law_191 : decode cL_law 191 = .ok (.invokevirtual 23, 3) := by decide +kernel
theorem dL_law_194 : decode cL_law 194 = .ok (.aload_n 2, 1) := by decide +kernel
theorem dL_law_195 : decode cL_law 195 = .ok (.aload_n 0, 1) := by decide +kernel
theorem dL_law_196 : decode cL_law 196 = .ok (.iload_n 3, 1) := by decide +kernel
theorem dL_law_197 : decode cL_law 197 = .ok (.iconst 1, 1) := by decide +kernel
theorem dL_law_198 : decode cL_law 198 = .ok (.iadd, 1) := by decide +kernel
theorem dL_law_199 : decode cL_law 199 = .ok (.iaload, 1) := by decide +kernel
theorem dL_law_200 : decode cL_law 200 = .ok (.aload_n 0, 1) := by decide +kernel
theorem dL_law_201 : decode cL_law 201 = .ok (.iload_n 3, 1) := by decide +kernel
theorem dL_law_202 : decode cL_law 202 = .ok (.iconst 2, 1) := by decide +kernel
theorem dL_law_203 : decode cL_law 203 = .ok (.iadd, 1) := by decide +kernel
theorem dL_law_204 : decode cL_law 204 = .ok (.iaload, 1) := by decide +kernel
theorem dL_law_205 : decode cL_law 205 = .ok (.invokevirtual 27, 3) := by decide +kernel
theorem dL_law_208 : decode cL_law 208 = .ok (.if_icmp .eq 588, 3) := by decide +kernel
theorem dL_law_211 : decode cL_law 211 = .ok (.iconst 0, 1) := by decide +kernel
theorem dL_law_212 : decode cL_law 212 = .ok (.ireturn, 1) := by decide +kernel
theorem dL_law_213 : decode cL_law 213 = .ok (.aload_n 1, 1) := by decide +kernel
theorem dL_law_214 : decode cL_law 214 = .ok (.aload_n 0, 1) := by decide +kernel
theorem dL_law_215 : decode cL_law 215 = .ok (.iload_n 3, 1) := by decide +kernel
theorem dL_law_216 : decode cL_law 216 = .ok (.iconst 1, 1) := by decide +kernel
theorem dL_law_217 : decode cL_law 217 = .ok (.iadd, 1) := by decide +kernel
theorem dL_law_218 : decode cL_law 218 = .ok (.iaload, 1) := by decide +kernel
theorem dL_law_219 : decode cL_law 219 = .ok (.aload_n 0, 1) := by decide +kernel
theorem dL_law_220 : decode cL_law 220 = .ok (.iload_n 3, 1) := by decide +kernel
theorem dL_law_221 : decode cL_law 221 = .ok (.iconst 2, 1) := by decide +kernel
theorem dL_law_222 : decode cL_law 222 = .ok (.iadd, 1) := by decide +kernel
theorem dL_law_223 : decode cL_law 223 = .ok (.iaload, 1) := by decide +kernel
theorem dL_law_224 : decode cL_law 224 = .ok (.invokevirtual 28, 3) := by decide +kernel
theorem dL_law_227 : decode cL_law 227 = .ok (.aload_n 2, 1) := by decide +kernel
theorem dL_law_228 : decode cL_law 228 = .ok (.aload_n 0, 1) := by decide +kernel
theorem dL_law_229 : decode cL_law 229 = .ok (.iload_n 3, 1) := by decide +kernel
theorem dL_law_230 : decode cL_law 230 = .ok (.iconst 1, 1) := by decide +kernel
theorem dL_law_231 : decode cL_law 231 = .ok (.iadd, 1) := by decide +kernel
theorem dL_law_232 : decode cL_law 232 = .ok (.iaload, 1) := by decide +kernel
theorem dL_law_233 : decode cL_law 233 = .ok (.aload_n 0, 1) := by decide +kernel
theorem dL_law_234 : decode cL_law 234 = .ok (.iload_n 3, 1) := by decide +kernel
theorem dL_law_235 : decode cL_law 235 = .ok (.iconst 2, 1) := by decide +kernel
theorem dL_law_236 : decode cL_law 236 = .ok (.iadd, 1) := by decide +kernel
theorem dL_law_237 : decode cL_law 237 = .ok (.iaload, 1) := by decide +kernel
theorem dL_law_238 : decode cL_law 238 = .ok (.invokevirtual 31, 3) := by decide +kernel
theorem dL_law_241 : decode cL_law 241 = .ok (.if_icmp .eq 555, 3) := by decide +kernel
theorem dL_law_244 : decode cL_law 244 = .ok (.iconst 0, 1) := by decide +kernel
theorem dL_law_245 : decode cL_law 245 = .ok (.ireturn, 1) := by decide +kernel
theorem dL_law_246 : decode cL_law 246 = .ok (.aload_n 1, 1) := by decide +kernel
theorem dL_law_247 : decode cL_law 247 = .ok (.aload_n 0, 1) := by decide +kernel
theorem dL_law_248 : decode cL_law 248 = .ok (.iload_n 3, 1) := by decide +kernel
theorem dL_law_249 : decode cL_law 249 = .ok (.iconst 1, 1) := by decide +kernel
theorem dL_law_250 : decode cL_law 250 = .ok (.iadd, 1) := by decide +kernel
theorem dL_law_251 : decode cL_law 251 = .ok (.iaload, 1) := by decide +kernel
theorem dL_law_252 : decode cL_law 252 = .ok (.aload_n 0, 1) := by decide +kernel
theorem dL_law_253 : decode cL_law 253 = .ok (.iload_n 3, 1) := by decide +kernel
theorem dL_law_254 : decode cL_law 254 = .ok (.iconst 2, 1) := by decide +kernel
theorem dL_law_255 : decode cL_law 255 = .ok (.iadd, 1) := by decide +kernel
theorem dL_law_256 : decode cL_law 256 = .ok (.iaload, 1) := by decide +kernel
theorem dL_law_257 : decode cL_law 257 = .ok (.aload_n 0, 1) := by decide +kernel
theorem dL_law_258 : decode cL_law 258 = .ok (.iload_n 3, 1) := by decide +kernel
theorem dL_law_259 : decode cL_law 259 = .ok (.iconst 3, 1) := by decide +kernel
theorem dL_law_260 : decode cL_law 260 = .ok (.iadd, 1) := by decide +kernel
theorem dL_law_261 : decode cL_law 261 = .ok (.iaload, 1) := by decide +kernel
theorem dL_law_262 : decode cL_law 262 = .ok (.invokevirtual 32, 3) := by decide +kernel
theorem dL_law_265 : decode cL_law 265 = .ok (.aload_n 2, 1) := by decide +kernel
theorem dL_law_266 : decode cL_law 266 = .ok (.aload_n 0, 1) := by decide +kernel
theorem dL_law_267 : decode cL_law 267 = .ok (.iload_n 3, 1) := by decide +kernel
theorem dL_law_268 : decode cL_law 268 = .ok (.iconst 1, 1) := by decide +kernel
theorem dL_law_269 : decode cL_law 269 = .ok (.iadd, 1) := by decide +kernel
theorem dL_law_270 : decode cL_law 270 = .ok (.iaload, 1) := by decide +kernel
theorem dL_law_271 : decode cL_law 271 = .ok (.aload_n 0, 1) := by decide +kernel
theorem dL_law_272 : decode cL_law 272 = .ok (.iload_n 3, 1) := by decide +kernel
theorem dL_law_273 : decode cL_law 273 = .ok (.iconst 2, 1) := by decide +kernel
theorem dL_law_274 : decode cL_law 274 = .ok (.iadd, 1) := by decide +kernel
theorem dL_law_275 : decode cL_law 275 = .ok (.iaload, 1) := by decide +kernel
theorem dL_law_276 : decode cL_law 276 = .ok (.aload_n 0, 1) := by decide +kernel
theorem dL_law_277 : decode cL_law 277 = .ok (.iload_n 3, 1) := by decide +kernel
theorem dL_law_278 : decode cL_law 278 = .ok (.iconst 3, 1) := by decide +kernel
theorem dL_law_279 : decode cL_law 279 = .ok (.iadd, 1) := by decide +kernel
theorem dL_law_280 : decode cL_law 280 = .ok (.iaload, 1) := by decide +kernel
theorem dL_law_281 : decode cL_law 281 = .ok (.invokevirtual 36, 3) := by decide +kernel
theorem dL_law_284 : decode cL_law 284 = .ok (.if_icmp .eq 512, 3) := by decide +kernel
theorem dL_law_287 : decode cL_law 287 = .ok (.iconst 0, 1) := by decide +kernel
theorem dL_law_288 : decode cL_law 288 = .ok (.ireturn, 1) := by decide +kernel
theorem dL_law_289 : decode cL_law 289 = .ok (.aload_n 1, 1) := by decide +kernel
theorem dL_law_290 : decode cL_law 290 = .ok (.invokevirtual 37, 3) := by decide +kernel
theorem dL_law_293 : decode cL_law 293 = .ok (.aload_n 2, 1) := by decide +kernel
theorem dL_law_294 : decode cL_law 294 = .ok (.invokevirtual 40, 3) := by decide +kernel
theorem dL_law_297 : decode cL_law 297 = .ok (.if_icmp .eq 499, 3) := by decide +kernel
theorem dL_law_300 : decode cL_law 300 = .ok (.iconst 0, 1) := by decide +kernel
theorem dL_law_301 : decode cL_law 301 = .ok (.ireturn, 1) := by decide +kernel
theorem dL_law_302 : decode cL_law 302 = .ok (.aload_n 1, 1) := by decide +kernel
theorem dL_law_303 : decode cL_law 303 = .ok (.aload_n 0, 1) := by decide +kernel
theorem dL_law_304 : decode cL_law 304 = .ok (.iload_n 3, 1) := by decide +kernel
theorem dL_law_305 : decode cL_law 305 = .ok (.iconst 1, 1) := by decide +kernel
theorem dL_law_306 : decode cL_law 306 = .ok (.iadd, 1) := by decide +kernel
theorem dL_law_307 : decode cL_law 307 = .ok (.iaload, 1) := by decide +kernel
theorem dL_law_308 : decode cL_law 308 = .ok (.aload_n 0, 1) := by decide +kernel
theorem dL_law_309 : decode cL_law 309 = .ok (.iload_n 3, 1) := by decide +kernel
theorem dL_law_310 : decode cL_law 310 = .ok (.iconst 2, 1) := by decide +kernel
theorem dL_law_311 : decode cL_law 311 = .ok (.iadd, 1) := by decide +kernel
theorem dL_law_312 : decode cL_law 312 = .ok (.iaload, 1) := by decide +kernel
theorem dL_law_313 : decode cL_law 313 = .ok (.invokevirtual 41, 3) := by decide +kernel
theorem dL_law_316 : decode cL_law 316 = .ok (.aload_n 2, 1) := by decide +kernel
theorem dL_law_317 : decode cL_law 317 = .ok (.aload_n 0, 1) := by decide +kernel
theorem dL_law_318 : decode cL_law 318 = .ok (.iload_n 3, 1) := by decide +kernel
theorem dL_law_319 : decode cL_law 319 = .ok (.iconst 1, 1) := by decide +kernel
theorem dL_law_320 : decode cL_law 320 = .ok (.iadd, 1) := by decide +kernel
theorem dL_law_321 : decode cL_law 321 = .ok (.iaload, 1) := by decide +kernel
theorem dL_law_322 : decode cL_law 322 = .ok (.aload_n 0, 1) := by decide +kernel
theorem dL_law_323 : decode cL_law 323 = .ok (.iload_n 3, 1) := by decide +kernel
theorem dL_law_324 : decode cL_law 324 = .ok (.iconst 2, 1) := by decide +kernel
theorem dL_law_325 : decode cL_law 325 = .ok (.iadd, 1) := by decide +kernel
theorem dL_law_326 : decode cL_law 326 = .ok (.iaload, 1) := by decide +kernel
theorem dL_law_327 : decode cL_law 327 = .ok (.invokevirtual 44, 3) := by decide +kernel
theorem dL_law_330 : decode cL_law 330 = .ok (.if_icmp .eq 466, 3) := by decide +kernel
theorem dL_law_333 : decode cL_law 333 = .ok (.iconst 0, 1) := by decide +kernel
theorem dL_law_334 : decode cL_law 334 = .ok (.ireturn, 1) := by decide +kernel
theorem dL_law_335 : decode cL_law 335 = .ok (.aload_n 1, 1) := by decide +kernel
theorem dL_law_336 : decode cL_law 336 = .ok (.invokevirtual 45, 3) := by decide +kernel
theorem dL_law_339 : decode cL_law 339 = .ok (.aload_n 2, 1) := by decide +kernel
theorem dL_law_340 : decode cL_law 340 = .ok (.invokevirtual 48, 3) := by decide +kernel
theorem dL_law_343 : decode cL_law 343 = .ok (.if_icmp .eq 453, 3) := by decide +kernel
theorem dL_law_346 : decode cL_law 346 = .ok (.iconst 0, 1) := by decide +kernel
theorem dL_law_347 : decode cL_law 347 = .ok (.ireturn, 1) := by decide +kernel
theorem dL_law_348 : decode cL_law 348 = .ok (.aload_n 1, 1) := by decide +kernel
theorem dL_law_349 : decode cL_law 349 = .ok (.aload_n 0, 1) := by decide +kernel
theorem dL_law_350 : decode cL_law 350 = .ok (.iload_n 3, 1) := by decide +kernel
theorem dL_law_351 : decode cL_law 351 = .ok (.iconst 1, 1) := by decide +kernel
theorem dL_law_352 : decode cL_law 352 = .ok (.iadd, 1) := by decide +kernel
theorem dL_law_353 : decode cL_law 353 = .ok (.iaload, 1) := by decide +kernel
theorem dL_law_354 : decode cL_law 354 = .ok (.aload_n 0, 1) := by decide +kernel
theorem dL_law_355 : decode cL_law 355 = .ok (.iload_n 3, 1) := by decide +kernel
theorem dL_law_356 : decode cL_law 356 = .ok (.iconst 2, 1) := by decide +kernel
theorem dL_law_357 : decode cL_law 357 = .ok (.iadd, 1) := by decide +kernel
theorem dL_law_358 : decode cL_law 358 = .ok (.iaload, 1) := by decide +kernel
theorem dL_law_359 : decode cL_law 359 = .ok (.aload_n 0, 1) := by decide +kernel
theorem dL_law_360 : decode cL_law 360 = .ok (.iload_n 3, 1) := by decide +kernel
theorem dL_law_361 : decode cL_law 361 = .ok (.iconst 3, 1) := by decide +kernel
theorem dL_law_362 : decode cL_law 362 = .ok (.iadd, 1) := by decide +kernel
theorem dL_law_363 : decode cL_law 363 = .ok (.iaload, 1) := by decide +kernel
theorem dL_law_364 : decode cL_law 364 = .ok (.aload_n 0, 1) := by decide +kernel
theorem dL_law_365 : decode cL_law 365 = .ok (.iload_n 3, 1) := by decide +kernel
theorem dL_law_366 : decode cL_law 366 = .ok (.iconst 4, 1) := by decide +kernel
theorem dL_law_367 : decode cL_law 367 = .ok (.iadd, 1) := by decide +kernel
theorem dL_law_368 : decode cL_law 368 = .ok (.iaload, 1) := by decide +kernel
theorem dL_law_369 : decode cL_law 369 = .ok (.invokevirtual 49, 3) := by decide +kernel
theorem dL_law_372 : decode cL_law 372 = .ok (.aload_n 2, 1) := by decide +kernel
theorem dL_law_373 : decode cL_law 373 = .ok (.aload_n 0, 1) := by decide +kernel
theorem dL_law_374 : decode cL_law 374 = .ok (.iload_n 3, 1) := by decide +kernel
theorem dL_law_375 : decode cL_law 375 = .ok (.iconst 1, 1) := by decide +kernel
theorem dL_law_376 : decode cL_law 376 = .ok (.iadd, 1) := by decide +kernel
theorem dL_law_377 : decode cL_law 377 = .ok (.iaload, 1) := by decide +kernel
theorem dL_law_378 : decode cL_law 378 = .ok (.aload_n 0, 1) := by decide +kernel
theorem dL_law_379 : decode cL_law 379 = .ok (.iload_n 3, 1) := by decide +kernel
theorem dL_law_380 : decode cL_law 380 = .ok (.iconst 2, 1) := by decide +kernel
theorem dL_law_381 : decode cL_law 381 = .ok (.iadd, 1) := by decide +kernel
theorem dL_law_382 : decode cL_law 382 = .ok (.iaload, 1) := by decide +kernel
theorem dL_law_383 : decode cL_law 383 = .ok (.aload_n 0, 1) := by decide +kernel
theorem dL_law_384 : decode cL_law 384 = .ok (.iload_n 3, 1) := by decide +kernel
theorem dL_law_385 : decode cL_law 385 = .ok (.iconst 3, 1) := by decide +kernel
theorem dL_law_386 : decode cL_law 386 = .ok (.iadd, 1) := by decide +kernel
theorem dL_law_387 : decode cL_law 387 = .ok (.iaload, 1) := by decide +kernel
theorem dL_law_388 : decode cL_law 388 = .ok (.aload_n 0, 1) := by decide +kernel
theorem dL_law_389 : decode cL_law 389 = .ok (.iload_n 3, 1) := by decide +kernel
theorem dL_law_390 : decode cL_law 390 = .ok (.iconst 4, 1) := by decide +kernel
theorem dL_law_391 : decode cL_law 391 = .ok (.iadd, 1) := by decide +kernel
theorem dL_law_392 : decode cL_law 392 = .ok (.iaload, 1) := by decide +kernel
theorem dL_law_393 : decode cL_law 393 = .ok (.invokevirtual 53, 3) := by decide +kernel
theorem dL_law_396 : decode cL_law 396 = .ok (.if_icmp .eq 400, 3) := by decide +kernel
theorem dL_law_399 : decode cL_law 399 = .ok (.iconst 0, 1) := by decide +kernel
theorem dL_law_400 : decode cL_law 400 = .ok (.ireturn, 1) := by decide +kernel
theorem dL_law_401 : decode cL_law 401 = .ok (.aload_n 1, 1) := by decide +kernel
theorem dL_law_402 : decode cL_law 402 = .ok (.aload_n 0, 1) := by decide +kernel
theorem dL_law_403 : decode cL_law 403 = .ok (.iload_n 3, 1) := by decide +kernel
theorem dL_law_404 : decode cL_law 404 = .ok (.iconst 1, 1) := by decide +kernel
theorem dL_law_405 : decode cL_law 405 = .ok (.iadd, 1) := by decide +kernel
theorem dL_law_406 : decode cL_law 406 = .ok (.iaload, 1) := by decide +kernel
theorem dL_law_407 : decode cL_law 407 = .ok (.aload_n 0, 1) := by decide +kernel
theorem dL_law_408 : decode cL_law 408 = .ok (.iload_n 3, 1) := by decide +kernel
theorem dL_law_409 : decode cL_law 409 = .ok (.iconst 2, 1) := by decide +kernel
theorem dL_law_410 : decode cL_law 410 = .ok (.iadd, 1) := by decide +kernel
theorem dL_law_411 : decode cL_law 411 = .ok (.iaload, 1) := by decide +kernel
theorem dL_law_412 : decode cL_law 412 = .ok (.aload_n 0, 1) := by decide +kernel
theorem dL_law_413 : decode cL_law 413 = .ok (.iload_n 3, 1) := by decide +kernel
theorem dL_law_414 : decode cL_law 414 = .ok (.iconst 3, 1) := by decide +kernel
theorem dL_law_415 : decode cL_law 415 = .ok (.iadd, 1) := by decide +kernel
theorem dL_law_416 : decode cL_law 416 = .ok (.iaload, 1) := by decide +kernel
theorem dL_law_417 : decode cL_law 417 = .ok (.invokevirtual 54, 3) := by decide +kernel
theorem dL_law_420 : decode cL_law 420 = .ok (.aload_n 2, 1) := by decide +kernel
theorem dL_law_421 : decode cL_law 421 = .ok (.aload_n 0, 1) := by decide +kernel
theorem dL_law_422 : decode cL_law 422 = .ok (.iload_n 3, 1) := by decide +kernel
theorem dL_law_423 : decode cL_law 423 = .ok (.iconst 1, 1) := by decide +kernel
theorem dL_law_424 : decode cL_law 424 = .ok (.iadd, 1) := by decide +kernel
theorem dL_law_425 : decode cL_law 425 = .ok (.iaload, 1) := by decide +kernel
theorem dL_law_426 : decode cL_law 426 = .ok (.aload_n 0, 1) := by decide +kernel
theorem dL_law_427 : decode cL_law 427 = .ok (.iload_n 3, 1) := by decide +kernel
theorem dL_law_428 : decode cL_law 428 = .ok (.iconst 2, 1) := by decide +kernel
theorem dL_law_429 : decode cL_law 429 = .ok (.iadd, 1) := by decide +kernel
theorem dL_law_430 : decode cL_law 430 = .ok (.iaload, 1) := by decide +kernel
theorem dL_law_431 : decode cL_law 431 = .ok (.aload_n 0, 1) := by decide +kernel
theorem dL_law_432 : decode cL_law 432 = .ok (.iload_n 3, 1) := by decide +kernel
theorem dL_law_433 : decode cL_law 433 = .ok (.iconst 3, 1) := by decide +kernel
theorem dL_law_434 : decode cL_law 434 = .ok (.iadd, 1) := by decide +kernel
theorem dL_law_435 : decode cL_law 435 = .ok (.iaload, 1) := by decide +kernel
theorem dL_law_436 : decode cL_law 436 = .ok (.invokevirtual 57, 3) := by decide +kernel
theorem dL_law_439 : decode cL_law 439 = .ok (.if_icmp .eq 357, 3) := by decide +kernel
theorem dL_law_442 : decode cL_law 442 = .ok (.iconst 0, 1) := by decide +kernel
theorem dL_law_443 : decode cL_law 443 = .ok (.ireturn, 1) := by decide +kernel
theorem dL_law_444 : decode cL_law 444 = .ok (.aload_n 1, 1) := by decide +kernel
theorem dL_law_445 : decode cL_law 445 = .ok (.aload_n 0, 1) := by decide +kernel
theorem dL_law_446 : decode cL_law 446 = .ok (.iload_n 3, 1) := by decide +kernel
theorem dL_law_447 : decode cL_law 447 = .ok (.iconst 1, 1) := by decide +kernel
theorem dL_law_448 : decode cL_law 448 = .ok (.iadd, 1) := by decide +kernel
theorem dL_law_449 : decode cL_law 449 = .ok (.iaload, 1) := by decide +kernel
theorem dL_law_450 : decode cL_law 450 = .ok (.invokevirtual 58, 3) := by decide +kernel
theorem dL_law_453 : decode cL_law 453 = .ok (.aload_n 2, 1) := by decide +kernel
theorem dL_law_454 : decode cL_law 454 = .ok (.aload_n 0, 1) := by decide +kernel
theorem dL_law_455 : decode cL_law 455 = .ok (.iload_n 3, 1) := by decide +kernel
theorem dL_law_456 : decode cL_law 456 = .ok (.iconst 1, 1) := by decide +kernel
theorem dL_law_457 : decode cL_law 457 = .ok (.iadd, 1) := by decide +kernel
theorem dL_law_458 : decode cL_law 458 = .ok (.iaload, 1) := by decide +kernel
theorem dL_law_459 : decode cL_law 459 = .ok (.invokevirtual 61, 3) := by decide +kernel
theorem dL_law_462 : decode cL_law 462 = .ok (.if_icmp .eq 334, 3) := by decide +kernel
theorem dL_law_465 : decode cL_law 465 = .ok (.iconst 0, 1) := by decide +kernel
theorem dL_law_466 : decode cL_law 466 = .ok (.ireturn, 1) := by decide +kernel
theorem dL_law_467 : decode cL_law 467 = .ok (.aload_n 1, 1) := by decide +kernel
theorem dL_law_468 : decode cL_law 468 = .ok (.aload_n 0, 1) := by decide +kernel
theorem dL_law_469 : decode cL_law 469 = .ok (.iload_n 3, 1) := by decide +kernel
theorem dL_law_470 : decode cL_law 470 = .ok (.iconst 1, 1) := by decide +kernel
theorem dL_law_471 : decode cL_law 471 = .ok (.iadd, 1) := by decide +kernel
theorem dL_law_472 : decode cL_law 472 = .ok (.iaload, 1) := by decide +kernel
theorem dL_law_473 : decode cL_law 473 = .ok (.aload_n 0, 1) := by decide +kernel
theorem dL_law_474 : decode cL_law 474 = .ok (.iload_n 3, 1) := by decide +kernel
theorem dL_law_475 : decode cL_law 475 = .ok (.iconst 2, 1) := by decide +kernel
theorem dL_law_476 : decode cL_law 476 = .ok (.iadd, 1) := by decide +kernel
theorem dL_law_477 : decode cL_law 477 = .ok (.iaload, 1) := by decide +kernel
theorem dL_law_478 : decode cL_law 478 = .ok (.invokevirtual 62, 3) := by decide +kernel
theorem dL_law_481 : decode cL_law 481 = .ok (.aload_n 2, 1) := by decide +kernel
theorem dL_law_482 : decode cL_law 482 = .ok (.aload_n 0, 1) := by decide +kernel
theorem dL_law_483 : decode cL_law 483 = .ok (.iload_n 3, 1) := by decide +kernel
theorem dL_law_484 : decode cL_law 484 = .ok (.iconst 1, 1) := by decide +kernel
theorem dL_law_485 : decode cL_law 485 = .ok (.iadd, 1) := by decide +kernel
theorem dL_law_486 : decode cL_law 486 = .ok (.iaload, 1) := by decide +kernel
theorem dL_law_487 : decode cL_law 487 = .ok (.aload_n 0, 1) := by decide +kernel
theorem dL_law_488 : decode cL_law 488 = .ok (.iload_n 3, 1) := by decide +kernel
theorem dL_law_489 : decode cL_law 489 = .ok (.iconst 2, 1) := by decide +kernel
theorem dL_law_490 : decode cL_law 490 = .ok (.iadd, 1) := by decide +kernel
theorem dL_law_491 : decode cL_law 491 = .ok (.iaload, 1) := by decide +kernel
theorem dL_law_492 : decode cL_law 492 = .ok (.invokevirtual 65, 3) := by decide +kernel
theorem dL_law_495 : decode cL_law 495 = .ok (.if_icmp .eq 301, 3) := by decide +kernel
theorem dL_law_498 : decode cL_law 498 = .ok (.iconst 0, 1) := by decide +kernel
theorem dL_law_499 : decode cL_law 499 = .ok (.ireturn, 1) := by decide +kernel
theorem dL_law_500 : decode cL_law 500 = .ok (.aload_n 1, 1) := by decide +kernel
theorem dL_law_501 : decode cL_law 501 = .ok (.aload_n 0, 1) := by decide +kernel
theorem dL_law_502 : decode cL_law 502 = .ok (.iload_n 3, 1) := by decide +kernel
theorem dL_law_503 : decode cL_law 503 = .ok (.iconst 1, 1) := by decide +kernel
theorem dL_law_504 : decode cL_law 504 = .ok (.iadd, 1) := by decide +kernel
theorem dL_law_505 : decode cL_law 505 = .ok (.iaload, 1) := by decide +kernel
theorem dL_law_506 : decode cL_law 506 = .ok (.invokevirtual 66, 3) := by decide +kernel
theorem dL_law_509 : decode cL_law 509 = .ok (.aload_n 2, 1) := by decide +kernel
theorem dL_law_510 : decode cL_law 510 = .ok (.aload_n 0, 1) := by decide +kernel
theorem dL_law_511 : decode cL_law 511 = .ok (.iload_n 3, 1) := by decide +kernel
theorem dL_law_512 : decode cL_law 512 = .ok (.iconst 1, 1) := by decide +kernel
theorem dL_law_513 : decode cL_law 513 = .ok (.iadd, 1) := by decide +kernel
theorem dL_law_514 : decode cL_law 514 = .ok (.iaload, 1) := by decide +kernel
theorem dL_law_515 : decode cL_law 515 = .ok (.invokevirtual 69, 3) := by decide +kernel
theorem dL_law_518 : decode cL_law 518 = .ok (.if_icmp .eq 278, 3) := by decide +kernel
theorem dL_law_521 : decode cL_law 521 = .ok (.iconst 0, 1) := by decide +kernel
theorem dL_law_522 : decode cL_law 522 = .ok (.ireturn, 1) := by decide +kernel
theorem dL_law_523 : decode cL_law 523 = .ok (.aload_n 1, 1) := by decide +kernel
theorem dL_law_524 : decode cL_law 524 = .ok (.invokevirtual 70, 3) := by decide +kernel
theorem dL_law_527 : decode cL_law 527 = .ok (.aload_n 2, 1) := by decide +kernel
theorem dL_law_528 : decode cL_law 528 = .ok (.invokevirtual 73, 3) := by decide +kernel
theorem dL_law_531 : decode cL_law 531 = .ok (.if_icmp .eq 265, 3) := by decide +kernel
theorem dL_law_534 : decode cL_law 534 = .ok (.iconst 0, 1) := by decide +kernel
theorem dL_law_535 : decode cL_law 535 = .ok (.ireturn, 1) := by decide +kernel
theorem dL_law_536 : decode cL_law 536 = .ok (.aload_n 1, 1) := by decide +kernel
theorem dL_law_537 : decode cL_law 537 = .ok (.aload_n 0, 1) := by decide +kernel
theorem dL_law_538 : decode cL_law 538 = .ok (.iload_n 3, 1) := by decide +kernel
theorem dL_law_539 : decode cL_law 539 = .ok (.iconst 1, 1) := by decide +kernel
theorem dL_law_540 : decode cL_law 540 = .ok (.iadd, 1) := by decide +kernel
theorem dL_law_541 : decode cL_law 541 = .ok (.iaload, 1) := by decide +kernel
theorem dL_law_542 : decode cL_law 542 = .ok (.invokevirtual 74, 3) := by decide +kernel
theorem dL_law_545 : decode cL_law 545 = .ok (.aload_n 2, 1) := by decide +kernel
theorem dL_law_546 : decode cL_law 546 = .ok (.aload_n 0, 1) := by decide +kernel
theorem dL_law_547 : decode cL_law 547 = .ok (.iload_n 3, 1) := by decide +kernel
theorem dL_law_548 : decode cL_law 548 = .ok (.iconst 1, 1) := by decide +kernel
theorem dL_law_549 : decode cL_law 549 = .ok (.iadd, 1) := by decide +kernel
theorem dL_law_550 : decode cL_law 550 = .ok (.iaload, 1) := by decide +kernel
theorem dL_law_551 : decode cL_law 551 = .ok (.invokevirtual 77, 3) := by decide +kernel
theorem dL_law_554 : decode cL_law 554 = .ok (.if_icmp .eq 242, 3) := by decide +kernel
theorem dL_law_557 : decode cL_law 557 = .ok (.iconst 0, 1) := by decide +kernel
theorem dL_law_558 : decode cL_law 558 = .ok (.ireturn, 1) := by decide +kernel
theorem dL_law_559 : decode cL_law 559 = .ok (.aload_n 1, 1) := by decide +kernel
theorem dL_law_560 : decode cL_law 560 = .ok (.aload_n 0, 1) := by decide +kernel
theorem dL_law_561 : decode cL_law 561 = .ok (.iload_n 3, 1) := by decide +kernel
theorem dL_law_562 : decode cL_law 562 = .ok (.iconst 1, 1) := by decide +kernel
theorem dL_law_563 : decode cL_law 563 = .ok (.iadd, 1) := by decide +kernel
theorem dL_law_564 : decode cL_law 564 = .ok (.iaload, 1) := by decide +kernel
theorem dL_law_565 : decode cL_law 565 = .ok (.invokevirtual 78, 3) := by decide +kernel
theorem dL_law_568 : decode cL_law 568 = .ok (.aload_n 2, 1) := by decide +kernel
theorem dL_law_569 : decode cL_law 569 = .ok (.aload_n 0, 1) := by decide +kernel
theorem dL_law_570 : decode cL_law 570 = .ok (.iload_n 3, 1) := by decide +kernel
theorem dL_law_571 : decode cL_law 571 = .ok (.iconst 1, 1) := by decide +kernel
theorem dL_law_572 : decode cL_law 572 = .ok (.iadd, 1) := by decide +kernel
theorem dL_law_573 : decode cL_law 573 = .ok (.iaload, 1) := by decide +kernel
theorem dL_law_574 : decode cL_law 574 = .ok (.invokevirtual 81, 3) := by decide +kernel
theorem dL_law_577 : decode cL_law 577 = .ok (.if_icmp .eq 219, 3) := by decide +kernel
theorem dL_law_580 : decode cL_law 580 = .ok (.iconst 0, 1) := by decide +kernel
theorem dL_law_581 : decode cL_law 581 = .ok (.ireturn, 1) := by decide +kernel
theorem dL_law_582 : decode cL_law 582 = .ok (.aload_n 1, 1) := by decide +kernel
theorem dL_law_583 : decode cL_law 583 = .ok (.aload_n 0, 1) := by decide +kernel
theorem dL_law_584 : decode cL_law 584 = .ok (.iload_n 3, 1) := by decide +kernel
theorem dL_law_585 : decode cL_law 585 = .ok (.iconst 1, 1) := by decide +kernel
theorem dL_law_586 : decode cL_law 586 = .ok (.iadd, 1) := by decide +kernel
theorem dL_law_587 : decode cL_law 587 = .ok (.iaload, 1) := by decide +kernel
theorem dL_law_588 : decode cL_law 588 = .ok (.aload_n 0, 1) := by decide +kernel
theorem dL_law_589 : decode cL_law 589 = .ok (.iload_n 3, 1) := by decide +kernel
theorem dL_law_590 : decode cL_law 590 = .ok (.iconst 2, 1) := by decide +kernel
theorem dL_law_591 : decode cL_law 591 = .ok (.iadd, 1) := by decide +kernel
theorem dL_law_592 : decode cL_law 592 = .ok (.iaload, 1) := by decide +kernel
theorem dL_law_593 : decode cL_law 593 = .ok (.invokevirtual 82, 3) := by decide +kernel
theorem dL_law_596 : decode cL_law 596 = .ok (.aload_n 2, 1) := by decide +kernel
theorem dL_law_597 : decode cL_law 597 = .ok (.aload_n 0, 1) := by decide +kernel
theorem dL_law_598 : decode cL_law 598 = .ok (.iload_n 3, 1) := by decide +kernel
theorem dL_law_599 : decode cL_law 599 = .ok (.iconst 1, 1) := by decide +kernel
theorem dL_law_600 : decode cL_law 600 = .ok (.iadd, 1) := by decide +kernel
theorem dL_law_601 : decode cL_law 601 = .ok (.iaload, 1) := by decide +kernel
theorem dL_law_602 : decode cL_law 602 = .ok (.aload_n 0, 1) := by decide +kernel
theorem dL_law_603 : decode cL_law 603 = .ok (.iload_n 3, 1) := by decide +kernel
theorem dL_law_604 : decode cL_law 604 = .ok (.iconst 2, 1) := by decide +kernel
theorem dL_law_605 : decode cL_law 605 = .ok (.iadd, 1) := by decide +kernel
theorem dL_law_606 : decode cL_law 606 = .ok (.iaload, 1) := by decide +kernel
theorem dL_law_607 : decode cL_law 607 = .ok (.invokevirtual 85, 3) := by decide +kernel
theorem dL_law_610 : decode cL_law 610 = .ok (.if_icmp .eq 186, 3) := by decide +kernel
theorem dL_law_613 : decode cL_law 613 = .ok (.iconst 0, 1) := by decide +kernel
theorem dL_law_614 : decode cL_law 614 = .ok (.ireturn, 1) := by decide +kernel
theorem dL_law_615 : decode cL_law 615 = .ok (.aload_n 1, 1) := by decide +kernel
theorem dL_law_616 : decode cL_law 616 = .ok (.invokevirtual 86, 3) := by decide +kernel
theorem dL_law_619 : decode cL_law 619 = .ok (.aload_n 2, 1) := by decide +kernel
theorem dL_law_620 : decode cL_law 620 = .ok (.invokevirtual 89, 3) := by decide +kernel
theorem dL_law_623 : decode cL_law 623 = .ok (.if_icmp .eq 173, 3) := by decide +kernel
theorem dL_law_626 : decode cL_law 626 = .ok (.iconst 0, 1) := by decide +kernel
theorem dL_law_627 : decode cL_law 627 = .ok (.ireturn, 1) := by decide +kernel
theorem dL_law_628 : decode cL_law 628 = .ok (.aload_n 1, 1) := by decide +kernel
theorem dL_law_629 : decode cL_law 629 = .ok (.aload_n 0, 1) := by decide +kernel
theorem dL_law_630 : decode cL_law 630 = .ok (.iload_n 3, 1) := by decide +kernel
theorem dL_law_631 : decode cL_law 631 = .ok (.iconst 1, 1) := by decide +kernel
theorem dL_law_632 : decode cL_law 632 = .ok (.iadd, 1) := by decide +kernel
theorem dL_law_633 : decode cL_law 633 = .ok (.iaload, 1) := by decide +kernel
theorem dL_law_634 : decode cL_law 634 = .ok (.invokevirtual 90, 3) := by decide +kernel
theorem dL_law_637 : decode cL_law 637 = .ok (.aload_n 2, 1) := by decide +kernel
theorem dL_law_638 : decode cL_law 638 = .ok (.aload_n 0, 1) := by decide +kernel
theorem dL_law_639 : decode cL_law 639 = .ok (.iload_n 3, 1) := by decide +kernel
theorem dL_law_640 : decode cL_law 640 = .ok (.iconst 1, 1) := by decide +kernel
theorem dL_law_641 : decode cL_law 641 = .ok (.iadd, 1) := by decide +kernel
theorem dL_law_642 : decode cL_law 642 = .ok (.iaload, 1) := by decide +kernel
theorem dL_law_643 : decode cL_law 643 = .ok (.invokevirtual 93, 3) := by decide +kernel
theorem dL_law_646 : decode cL_law 646 = .ok (.if_icmp .eq 150, 3) := by decide +kernel
theorem dL_law_649 : decode cL_law 649 = .ok (.iconst 0, 1) := by decide +kernel
theorem dL_law_650 : decode cL_law 650 = .ok (.ireturn, 1) := by decide +kernel
theorem dL_law_651 : decode cL_law 651 = .ok (.aload_n 1, 1) := by decide +kernel
theorem dL_law_652 : decode cL_law 652 = .ok (.aload_n 0, 1) := by decide +kernel
theorem dL_law_653 : decode cL_law 653 = .ok (.iload_n 3, 1) := by decide +kernel
theorem dL_law_654 : decode cL_law 654 = .ok (.iconst 1, 1) := by decide +kernel
theorem dL_law_655 : decode cL_law 655 = .ok (.iadd, 1) := by decide +kernel
theorem dL_law_656 : decode cL_law 656 = .ok (.iaload, 1) := by decide +kernel
theorem dL_law_657 : decode cL_law 657 = .ok (.aload_n 0, 1) := by decide +kernel
theorem dL_law_658 : decode cL_law 658 = .ok (.iload_n 3, 1) := by decide +kernel
theorem dL_law_659 : decode cL_law 659 = .ok (.iconst 2, 1) := by decide +kernel
theorem dL_law_660 : decode cL_law 660 = .ok (.iadd, 1) := by decide +kernel
theorem dL_law_661 : decode cL_law 661 = .ok (.iaload, 1) := by decide +kernel
theorem dL_law_662 : decode cL_law 662 = .ok (.invokevirtual 94, 3) := by decide +kernel
theorem dL_law_665 : decode cL_law 665 = .ok (.aload_n 2, 1) := by decide +kernel
theorem dL_law_666 : decode cL_law 666 = .ok (.aload_n 0, 1) := by decide +kernel
theorem dL_law_667 : decode cL_law 667 = .ok (.iload_n 3, 1) := by decide +kernel
theorem dL_law_668 : decode cL_law 668 = .ok (.iconst 1, 1) := by decide +kernel
theorem dL_law_669 : decode cL_law 669 = .ok (.iadd, 1) := by decide +kernel
theorem dL_law_670 : decode cL_law 670 = .ok (.iaload, 1) := by decide +kernel
theorem dL_law_671 : decode cL_law 671 = .ok (.aload_n 0, 1) := by decide +kernel
theorem dL_law_672 : decode cL_law 672 = .ok (.iload_n 3, 1) := by decide +kernel
theorem dL_law_673 : decode cL_law 673 = .ok (.iconst 2, 1) := by decide +kernel
theorem dL_law_674 : decode cL_law 674 = .ok (.iadd, 1) := by decide +kernel
theorem dL_law_675 : decode cL_law 675 = .ok (.iaload, 1) := by decide +kernel
theorem dL_law_676 : decode cL_law 676 = .ok (.invokevirtual 97, 3) := by decide +kernel
theorem dL_law_679 : decode cL_law 679 = .ok (.if_icmp .eq 117, 3) := by decide +kernel
theorem dL_law_682 : decode cL_law 682 = .ok (.iconst 0, 1) := by decide +kernel
theorem dL_law_683 : decode cL_law 683 = .ok (.ireturn, 1) := by decide +kernel
theorem dL_law_684 : decode cL_law 684 = .ok (.aload_n 1, 1) := by decide +kernel
theorem dL_law_685 : decode cL_law 685 = .ok (.aload_n 0, 1) := by decide +kernel
theorem dL_law_686 : decode cL_law 686 = .ok (.iload_n 3, 1) := by decide +kernel
theorem dL_law_687 : decode cL_law 687 = .ok (.iconst 1, 1) := by decide +kernel
theorem dL_law_688 : decode cL_law 688 = .ok (.iadd, 1) := by decide +kernel
theorem dL_law_689 : decode cL_law 689 = .ok (.iaload, 1) := by decide +kernel
theorem dL_law_690 : decode cL_law 690 = .ok (.aload_n 0, 1) := by decide +kernel
theorem dL_law_691 : decode cL_law 691 = .ok (.iload_n 3, 1) := by decide +kernel
theorem dL_law_692 : decode cL_law 692 = .ok (.iconst 2, 1) := by decide +kernel
theorem dL_law_693 : decode cL_law 693 = .ok (.iadd, 1) := by decide +kernel
theorem dL_law_694 : decode cL_law 694 = .ok (.iaload, 1) := by decide +kernel
theorem dL_law_695 : decode cL_law 695 = .ok (.aload_n 0, 1) := by decide +kernel
theorem dL_law_696 : decode cL_law 696 = .ok (.iload_n 3, 1) := by decide +kernel
theorem dL_law_697 : decode cL_law 697 = .ok (.iconst 3, 1) := by decide +kernel
theorem dL_law_698 : decode cL_law 698 = .ok (.iadd, 1) := by decide +kernel
theorem dL_law_699 : decode cL_law 699 = .ok (.iaload, 1) := by decide +kernel
theorem dL_law_700 : decode cL_law 700 = .ok (.invokevirtual 98, 3) := by decide +kernel
theorem dL_law_703 : decode cL_law 703 = .ok (.aload_n 2, 1) := by decide +kernel
theorem dL_law_704 : decode cL_law 704 = .ok (.aload_n 0, 1) := by decide +kernel
theorem dL_law_705 : decode cL_law 705 = .ok (.iload_n 3, 1) := by decide +kernel
theorem dL_law_706 : decode cL_law 706 = .ok (.iconst 1, 1) := by decide +kernel
theorem dL_law_707 : decode cL_law 707 = .ok (.iadd, 1) := by decide +kernel
theorem dL_law_708 : decode cL_law 708 = .ok (.iaload, 1) := by decide +kernel
theorem dL_law_709 : decode cL_law 709 = .ok (.aload_n 0, 1) := by decide +kernel
theorem dL_law_710 : decode cL_law 710 = .ok (.iload_n 3, 1) := by decide +kernel
theorem dL_law_711 : decode cL_law 711 = .ok (.iconst 2, 1) := by decide +kernel
theorem dL_law_712 : decode cL_law 712 = .ok (.iadd, 1) := by decide +kernel
theorem dL_law_713 : decode cL_law 713 = .ok (.iaload, 1) := by decide +kernel
theorem dL_law_714 : decode cL_law 714 = .ok (.aload_n 0, 1) := by decide +kernel
theorem dL_law_715 : decode cL_law 715 = .ok (.iload_n 3, 1) := by decide +kernel
theorem dL_law_716 : decode cL_law 716 = .ok (.iconst 3, 1) := by decide +kernel
theorem dL_law_717 : decode cL_law 717 = .ok (.iadd, 1) := by decide +kernel
theorem dL_law_718 : decode cL_law 718 = .ok (.iaload, 1) := by decide +kernel
theorem dL_law_719 : decode cL_law 719 = .ok (.invokevirtual 101, 3) := by decide +kernel
theorem dL_law_722 : decode cL_law 722 = .ok (.if_icmp .eq 74, 3) := by decide +kernel
theorem dL_law_725 : decode cL_law 725 = .ok (.iconst 0, 1) := by decide +kernel
theorem dL_law_726 : decode cL_law 726 = .ok (.ireturn, 1) := by decide +kernel
theorem dL_law_727 : decode cL_law 727 = .ok (.aload_n 1, 1) := by decide +kernel
theorem dL_law_728 : decode cL_law 728 = .ok (.aload_n 0, 1) := by decide +kernel
theorem dL_law_729 : decode cL_law 729 = .ok (.iload_n 3, 1) := by decide +kernel
theorem dL_law_730 : decode cL_law 730 = .ok (.iconst 1, 1) := by decide +kernel
theorem dL_law_731 : decode cL_law 731 = .ok (.iadd, 1) := by decide +kernel
theorem dL_law_732 : decode cL_law 732 = .ok (.iaload, 1) := by decide +kernel
theorem dL_law_733 : decode cL_law 733 = .ok (.aload_n 0, 1) := by decide +kernel
theorem dL_law_734 : decode cL_law 734 = .ok (.iload_n 3, 1) := by decide +kernel
theorem dL_law_735 : decode cL_law 735 = .ok (.iconst 2, 1) := by decide +kernel
theorem dL_law_736 : decode cL_law 736 = .ok (.iadd, 1) := by decide +kernel
theorem dL_law_737 : decode cL_law 737 = .ok (.iaload, 1) := by decide +kernel
theorem dL_law_738 : decode cL_law 738 = .ok (.invokevirtual 102, 3) := by decide +kernel
theorem dL_law_741 : decode cL_law 741 = .ok (.aload_n 2, 1) := by decide +kernel
theorem dL_law_742 : decode cL_law 742 = .ok (.aload_n 0, 1) := by decide +kernel
theorem dL_law_743 : decode cL_law 743 = .ok (.iload_n 3, 1) := by decide +kernel
theorem dL_law_744 : decode cL_law 744 = .ok (.iconst 1, 1) := by decide +kernel
theorem dL_law_745 : decode cL_law 745 = .ok (.iadd, 1) := by decide +kernel
theorem dL_law_746 : decode cL_law 746 = .ok (.iaload, 1) := by decide +kernel
theorem dL_law_747 : decode cL_law 747 = .ok (.aload_n 0, 1) := by decide +kernel
theorem dL_law_748 : decode cL_law 748 = .ok (.iload_n 3, 1) := by decide +kernel
theorem dL_law_749 : decode cL_law 749 = .ok (.iconst 2, 1) := by decide +kernel
theorem dL_law_750 : decode cL_law 750 = .ok (.iadd, 1) := by decide +kernel
theorem dL_law_751 : decode cL_law 751 = .ok (.iaload, 1) := by decide +kernel
theorem dL_law_752 : decode cL_law 752 = .ok (.invokevirtual 105, 3) := by decide +kernel
theorem dL_law_755 : decode cL_law 755 = .ok (.if_icmp .eq 41, 3) := by decide +kernel
theorem dL_law_758 : decode cL_law 758 = .ok (.iconst 0, 1) := by decide +kernel
theorem dL_law_759 : decode cL_law 759 = .ok (.ireturn, 1) := by decide +kernel
theorem dL_law_760 : decode cL_law 760 = .ok (.aload_n 1, 1) := by decide +kernel
theorem dL_law_761 : decode cL_law 761 = .ok (.invokevirtual 106, 3) := by decide +kernel
theorem dL_law_764 : decode cL_law 764 = .ok (.aload_n 2, 1) := by decide +kernel
theorem dL_law_765 : decode cL_law 765 = .ok (.invokevirtual 109, 3) := by decide +kernel
theorem dL_law_768 : decode cL_law 768 = .ok (.if_icmp .eq 28, 3) := by decide +kernel
theorem dL_law_771 : decode cL_law 771 = .ok (.iconst 0, 1) := by decide +kernel
theorem dL_law_772 : decode cL_law 772 = .ok (.ireturn, 1) := by decide +kernel
theorem dL_law_773 : decode cL_law 773 = .ok (.aload_n 1, 1) := by decide +kernel
theorem dL_law_774 : decode cL_law 774 = .ok (.aload_n 0, 1) := by decide +kernel
theorem dL_law_775 : decode cL_law 775 = .ok (.iload_n 3, 1) := by decide +kernel
theorem dL_law_776 : decode cL_law 776 = .ok (.iconst 1, 1) := by decide +kernel
theorem dL_law_777 : decode cL_law 777 = .ok (.iadd, 1) := by decide +kernel
theorem dL_law_778 : decode cL_law 778 = .ok (.iaload, 1) := by decide +kernel
theorem dL_law_779 : decode cL_law 779 = .ok (.invokevirtual 110, 3) := by decide +kernel
theorem dL_law_782 : decode cL_law 782 = .ok (.aload_n 2, 1) := by decide +kernel
theorem dL_law_783 : decode cL_law 783 = .ok (.aload_n 0, 1) := by decide +kernel
theorem dL_law_784 : decode cL_law 784 = .ok (.iload_n 3, 1) := by decide +kernel
theorem dL_law_785 : decode cL_law 785 = .ok (.iconst 1, 1) := by decide +kernel
theorem dL_law_786 : decode cL_law 786 = .ok (.iadd, 1) := by decide +kernel
theorem dL_law_787 : decode cL_law 787 = .ok (.iaload, 1) := by decide +kernel
theorem dL_law_788 : decode cL_law 788 = .ok (.invokevirtual 113, 3) := by decide +kernel
theorem dL_law_791 : decode cL_law 791 = .ok (.if_icmp .eq 5, 3) := by decide +kernel
theorem dL_law_794 : decode cL_law 794 = .ok (.iconst 0, 1) := by decide +kernel
theorem dL_law_795 : decode cL_law 795 = .ok (.ireturn, 1) := by decide +kernel
theorem dL_law_796 : decode cL_law 796 = .ok (.iinc 3 5, 3) := by decide +kernel
theorem dL_law_799 : decode cL_law 799 = .ok (.goto (-781), 3) := by decide +kernel
theorem dL_law_802 : decode cL_law 802 = .ok (.iconst 1, 1) := by decide +kernel
theorem dL_law_803 : decode cL_law 803 = .ok (.ireturn, 1) := by decide +kernel
end
section
/-! ===== the layout: logical ids of the cells, their order of allocation, kinds, fixed pointers (written by wip/whole/mklayout.py) ===== -/
abbrev ZM : Type := Int → Int → Int
abbrev ZV : Type := Int ⊕ Int
abbrev zin (x : Int) : Prop := -2147483648 ≤ x ∧ x ≤ 2147483647
def z_ordL : List Int := [206, 207, 208, 209, 210, 211, 115, 116, 117, 118, 119, 120, 121, 122, 123, 124, 125, 126, 127, 128, 129, 130, 131, 132, 133, 134, 135, 136, 137, 138, 139, 140, 141, 142, 143, 144, 145, 146, 147, 148, 149, 150, 151, 152, 153, 154, 155, 156, 157, 158, 159, 160, 161, 162, 163, 164, 165, 166, 167, 168, 212, 213, 214, 169, 170, 171, 172, 173, 174, 175, 176, 177, 215, 216, 217, 218, 219, 220, 221, 222, 223, 224, 225, 226, 227, 228, 229, 230, 231, 232, 233, 234, 235, 236, 237, 238, 239, 181, 182, 183, 187, 1, 2, 3, 4, 5, 6, 188, 7, 8, 9, 10, 11, 12, 189, 13, 14, 15, 16, 17, 18, 190, 19, 20, 21, 22, 23, 24, 191, 25, 26, 27, 28, 29, 30, 192, 31, 32, 33, 34, 35, 36, 193, 37, 38, 39, 40, 41, 42, 194, 43, 44, 45, 46, 47, 48, 240, 241, 242, 243, 244, 245, 246, 247, 184, 185, 186, 195, 49, 50, 51, 52, 53, 54, 198, 67, 68, 69, 70, 71, 72, 201, 85, 86, 87, 88, 89, 90, 196, 55, 56, 57, 58, 59, 60, 199, 73, 74, 75, 76, 77, 78, 202, 91, 92, 93, 94, 95, 96, 197, 61, 62, 63, 64, 65, 66, 200, 79, 80, 81, 82, 83, 84, 203, 97, 98, 99, 100, 101, 102, 204, 103, 104, 105, 106, 107, 108, 205, 109, 110, 111, 112, 113, 114, 178, 179, 180, 248, 249, 250, 251, 252, 253, 254, 255, 256, 257, 258, 259, 260, 261, 262, 263, 264, 265, 266, 267, 268, 269, 270, 271, 272, 273, 274]
def z_idxL : List Nat := [0, 101, 102, 103, 104, 105, 106, 108, 109, 110, 111, 112, 113, 115, 116, 117, 118, 119, 120, 122, 123, 124, 125, 126, 127, 129, 130, 131, 132, 133, 134, 136, 137, 138, 139, 140, 141, 143, 144, 145, 146, 147, 148, 150, 151, 152, 153, 154, 155, 168, 169, 170, 171, 172, 173, 189, 190, 191, 192, 193, 194, 210, 211, 212, 213, 214, 215, 175, 176, 177, 178, 179, 180, 196, 197, 198, 199, 200, 201, 217, 218, 219, 220, 221, 222, 182, 183, 184, 185, 186, 187, 203, 204, 205, 206, 207, 208, 224, 225, 226, 227, 228, 229, 231, 232, 233, 234, 235, 236, 238, 239, 240, 241, 242, 243, 6, 7, 8, 9, 10, 11, 12, 13, 14, 15, 16, 17, 18, 19, 20, 21, 22, 23, 24, 25, 26, 27, 28, 29, 30, 31, 32, 33, 34, 35, 36, 37, 38, 39, 40, 41, 42, 43, 44, 45, 46, 47, 48, 49, 50, 51, 52, 53, 54, 55, 56, 57, 58, 59, 63, 64, 65, 66, 67, 68, 69, 70, 71, 244, 245, 246, 97, 98, 99, 164, 165, 166, 100, 107, 114, 121, 128, 135, 142, 149, 167, 188, 209, 174, 195, 216, 181, 202, 223, 230, 237, 0, 1, 2, 3, 4, 5, 60, 61, 62, 72, 73, 74, 75, 76, 77, 78, 79, 80, 81, 82, 83, 84, 85, 86, 87, 88, 89, 90, 91, 92, 93, 94, 95, 96, 156, 157, 158, 159, 160, 161, 162, 163, 247, 248, 249, 250, 251, 252, 253, 254, 255, 256, 257, 258, 259, 260, 261, 262, 263, 264, 265, 266, 267, 268, 269, 270, 271, 272, 273]
def z_dkL : List (Nat × Nat) := [(99, 0), (10, 0), (13, 40), (13, 40), (10, 0), (13, 40), (13, 40), (10, 0), (13, 40), (13, 40), (10, 0), (13, 40), (13, 40), (10, 0), (13, 40), (13, 40), (10, 0), (13, 40), (13, 40), (10, 0), (13, 40), (13, 40), (10, 0), (13, 40), (13, 40), (10, 0), (13, 40), (13, 40), (10, 0), (13, 40), (13, 40), (10, 0), (13, 40), (13, 40), (10, 0), (13, 40), (13, 40), (10, 0), (13, 40), (13, 40), (10, 0), (13, 40), (13, 40), (10, 0), (13, 40), (13, 40), (10, 0), (13, 40), (13, 40), (10, 0), (13, 40), (13, 40), (10, 0), (13, 40), (13, 40), (10, 0), (13, 40), (13, 40), (10, 0), (13, 40), (13, 40), (10, 0), (13, 40), (13, 40), (10, 0), (13, 40), (13, 40), (10, 0), (13, 40), (13, 40), (10, 0), (13, 40), (13, 40), (10, 0), (13, 40), (13, 40), (10, 0), (13, 40), (13, 40), (10, 0), (13, 40), (13, 40), (10, 0), (13, 40), (13, 40), (10, 0), (13, 40), (13, 40), (10, 0), (13, 40), (13, 40), (10, 0), (13, 40), (13, 40), (10, 0), (13, 40), (13, 40), (10, 0), (13, 40), (13, 40), (10, 0), (13, 40), (13, 40), (10, 0), (13, 40), (13, 40), (10, 0), (13, 40), (13, 40), (10, 0), (13, 40), (13, 40), (10, 0), (13, 40), (13, 40), (10, 0), (13, 40), (13, 40), (10, 0), (13, 40), (13, 40), (10, 0), (13, 40), (13, 40), (10, 0), (13, 40), (13, 40), (10, 0), (13, 40), (13, 40), (10, 0), (13, 40), (13, 40), (10, 0), (13, 40), (13, 40), (10, 0), (13, 40), (13, 40), (10, 0), (13, 40), (13, 40), (10, 0), (13, 40), (13, 40), (10, 0), (13, 40), (13, 40), (10, 0), (13, 40), (13, 40), (10, 0), (13, 40), (13, 40), (10, 0), (13, 40), (13, 40), (10, 0), (13, 40), (13, 40), (10, 0), (13, 40), (13, 40), (10, 0), (13, 40), (13, 40), (10, 0), (13, 40), (13, 40), (10, 0), (13, 40), (13, 40), (10, 0), (13, 40), (13, 40), (10, 0), (13, 40), (13, 40), (10, 0), (13, 40), (13, 40), (10, 0), (13, 40), (13, 40), (10, 0), (13, 40), (13, 40), (0, 0), (0, 0), (0, 0), (0, 0), (0, 0), (0, 0), (0, 0), (0, 0), (0, 0), (0, 0), (0, 0), (0, 0), (0, 0), (0, 0), (0, 0), (0, 0), (0, 0), (0, 0), (0, 0), (11, 0), (3, 0), (13, 6), (13, 6), (14, 18), (13, 128), (9, 0), (13, 48), (14, 3), (2, 0), (13, 3), (14, 61), (13, 61), (13, 61), (13, 61), (13, 640), (6, 0), (13, 546), (13, 546), (13, 546), (13, 546), (14, 51), (13, 51), (13, 51), (13, 51), (13, 540), (13, 3), (1, 0), (13, 1600), (13, 40), (5, 0), (13, 3), (4, 0), (15, 8), (7, 0), (13, 99), (13, 99), (13, 4), (8, 0), (15, 3), (15, 3), (15, 3), (12, 0), (13, 5632), (13, 44), (13, 48), (13, 6), (13, 6), (13, 180), (13, 18), (13, 20), (13, 460), (13, 64), (13, 64), (13, 64), (13, 64), (13, 64), (13, 16400), (13, 440), (13, 64), (13, 1600), (13, 40), (13, 3), (13, 3), (13, 99), (13, 99), (13, 3), (13, 3), (13, 3)]
def z_fkL : List (List Nat) := [[1, 1], [1, 1], [1, 1, 0, 1, 1, 1, 1, 1, 0, 0], [1, 1, 1, 1, 0], [1, 0, 1, 1, 1], [1, 1], [1, 1, 1, 1, 1, 1, 1, 1, 1, 1, 1, 0, 0, 0, 0], [1, 1, 1, 0, 0], [1, 1, 1, 1, 1, 1, 1, 1, 1, 1], [1, 1, 1, 0, 0, 0, 0, 0, 0, 0], [1, 1, 0], [1, 1, 1, 1, 1, 1, 1, 1, 1, 1, 1, 0], [1, 1, 1, 0, 0, 1, 1, 1, 1, 0, 0, 1, 0, 0, 1, 0, 0, 1, 1, 1, 1, 1, 0, 1, 1, 0, 0, 1, 0, 0, 0, 1, 1, 1, 1, 0, 0, 0, 0, 0, 1, 1, 0, 0, 0, 0, 0, 1, 1, 1]]
def z_ptrL : List (List Int) := [[207, 212, 215, 222, 233, 238, 240, 244, 204, 205, 178], [208, 209, 210, 211], [], [], [115, 118, 121, 124, 127, 130, 133, 136, 139, 142, 145, 148, 151, 154, 157, 160, 163, 166], [], [213, 214, 207], [], [169, 172, 175], [207, 216, 0, 217, 218, 219, 220, 221], [], [], [], [], [], [], [207, 223, 224, 225, 226, 227, 228, 229, 230, 231, 232], [], [], [], [], [], [], [], [], [], [], [234, 235], [], [], [207, 237], [], [239, 0, 233, 236, 181], [187, 188, 189, 190, 191, 192, 193, 194], [241, 242, 243], [], [], [], [245, 246, 247, 184, 207, 215, 222, 236, 238, 240], [195, 196, 197], [198, 199, 200], [201, 202, 203], [249, 250, 251, 0, 0, 252, 253, 254, 255, 0, 0, 256, 0, 0, 257, 0, 0, 258, 259, 260, 261, 262, 0, 263, 264, 0, 0, 265, 0, 0, 0, 266, 267, 268, 269, 0, 0, 0, 0, 0, 270, 271, 0, 0, 0, 0, 0, 272, 273, 274], [], [], [], [], [], [], [], [], [], [], [], [], [], [], [], [], [], [], [], [], [], [], [], [], [], []]
def z_ord (k : Nat) : Int := z_ordL.getD k 0
def z_idx (a : Int) : Nat := z_idxL.getD a.toNat 0
def z_dk (a : Int) : Nat × Nat := z_dkL.getD a.toNat (99, 0)
def z_fk (ci : Nat) : List Nat := z_fkL.getD ci []
def z_sz (a : Int) : Nat := if (z_dk a).1 < 13 then (z_fk (z_dk a).1).length else (z_dk a).2
def z_sl : Nat → Nat
  | 0 => 0
  | n + 1 => z_sl n + z_sz (z_ord n)
def z_ptr (a k : Int) : Int := if k < 0 then 0 else if a ≤ 186 then (if a % 3 = 1 then (if k = 0 then a + 1 else if k = 1 then a + 2 else 0) else 0) else if a ≤ 205 then (if k = 0 then 6 * (a - 187) + 1 else if k = 1 then 6 * (a - 187) + 4 else 0) else (z_ptrL.getD (a - 206).toNat []).getD k.toNat 0
/-- the cell a is there when n cells have been made -/
def z_al (n : Nat) (a : Int) : Prop := z_ord (z_idx a) = a ∧ z_idx a < n
theorem z_idx_ord : ∀ k, k < 274 → z_idx (z_ord k) = k := by decide +kernel
theorem z_ord_pos : ∀ k, k < 274 → z_ord k ≠ 0 := by decide +kernel
theorem z_all0 : ∀ k, k < 274 → z_ord (z_idx ((k : Nat) + 1 : Int)) = ((k : Nat) + 1 : Int) ∧ z_idx ((k : Nat) + 1 : Int) < 274 := by decide +kernel
theorem z_all {a : Int} (h1 : 1 ≤ a) (h2 : a ≤ 274) : z_al 274 a := by
  have h := z_all0 (a - 1).toNat (by omega)
  have e : (((a - 1).toNat : Nat) + 1 : Int) = a := by omega
  rw [e] at h
  exact h
abbrev z_tm (t : Int) : Prop := 1 ≤ t ∧ t ≤ 184 ∧ t % 3 = 1
abbrev z_cm (c : Int) : Prop := 187 ≤ c ∧ c ≤ 205
/-- an object of class ci, an int array, an array of references that may change -/
def z_ob (a : Int) (ci : Nat) : Prop := z_dk a = (ci, 0) ∧ z_al 274 a
def z_ia (a : Int) (len : Nat) : Prop := z_dk a = (13, len) ∧ z_al 274 a ∧ ∀ i, z_ptr a i = 0
def z_ra (a : Int) (len : Nat) : Prop := z_dk a = (14, len) ∧ z_al 274 a ∧ ∀ i, z_ptr a i = 0
theorem z_tm0 : ∀ k, k < 62 → z_dk (3 * (k : Nat) + 1 : Int) = (10, 0) ∧ z_dk (3 * (k : Nat) + 2 : Int) = (13, 40) ∧ z_dk (3 * (k : Nat) + 3 : Int) = (13, 40) := by decide +kernel
theorem z_cm0 : ∀ k, k < 19 → z_dk (187 + (k : Nat) : Int) = (0, 0) := by decide +kernel
theorem z_tm1 {t : Int} (h : z_tm t) : z_dk t = (10, 0) ∧ z_dk (t + 1) = (13, 40) ∧ z_dk (t + 2) = (13, 40) := by
  have q := z_tm0 ((t - 1) / 3).toNat (by omega)
  have e : (3 * (((t - 1) / 3).toNat : Nat) : Int) = t - 1 := by omega
  have e1 : (3 * (((t - 1) / 3).toNat : Nat) + 1 : Int) = t := by omega
  have e2 : (3 * (((t - 1) / 3).toNat : Nat) + 2 : Int) = t + 1 := by omega
  have e3 : (3 * (((t - 1) / 3).toNat : Nat) + 3 : Int) = t + 2 := by omega
  rw [e1, e2, e3] at q
  exact q
theorem ob_tm {t : Int} (h : z_tm t) : z_ob t 10 := ⟨(z_tm1 h).1, z_all (by omega) (by omega)⟩
theorem ia_code {t : Int} (h : z_tm t) : z_ia (t + 1) 40 := ⟨(z_tm1 h).2.1, z_all (by omega) (by omega), fun i => by
  unfold z_ptr
  rw [if_pos (show t + 1 ≤ 186 by omega), if_neg (show ¬ (t + 1) % 3 = 1 by omega)]
  split <;> rfl⟩
theorem ia_end {t : Int} (h : z_tm t) : z_ia (t + 2) 40 := ⟨(z_tm1 h).2.2, z_all (by omega) (by omega), fun i => by
  unfold z_ptr
  rw [if_pos (show t + 2 ≤ 186 by omega), if_neg (show ¬ (t + 2) % 3 = 1 by omega)]
  split <;> rfl⟩
theorem ob_cm {c : Int} (h : z_cm c) : z_ob c 0 := by
  have q := z_cm0 (c - 187).toNat (by omega)
  have e : (187 + ((c - 187).toNat : Nat) : Int) = c := by omega
  rw [e] at q
  exact ⟨q, z_all (by omega) (by omega)⟩
theorem pt_code {t : Int} (h : z_tm t) : z_ptr t 0 = t + 1 := by
  unfold z_ptr
  rw [if_neg (by omega), if_pos (show t ≤ 186 by omega), if_pos h.2.2]
  rfl
theorem pt_end {t : Int} (h : z_tm t) : z_ptr t 1 = t + 2 := by
  unfold z_ptr
  rw [if_neg (by omega), if_pos (show t ≤ 186 by omega), if_pos h.2.2]
  rfl
theorem pt_size {t : Int} (h : z_tm t) : z_ptr t 2 = 0 := by
  unfold z_ptr
  rw [if_neg (by omega), if_pos (show t ≤ 186 by omega), if_pos h.2.2]
  rfl
theorem pt_left {c : Int} (h : z_cm c) : z_ptr c 0 = 6 * (c - 187) + 1 := by
  unfold z_ptr
  rw [if_neg (by omega), if_neg (show ¬ c ≤ 186 by omega), if_pos h.2]
  rfl
theorem pt_right {c : Int} (h : z_cm c) : z_ptr c 1 = 6 * (c - 187) + 4 := by
  unfold z_ptr
  rw [if_neg (by omega), if_neg (show ¬ c ≤ 186 by omega), if_pos h.2]
  rfl
theorem ob_206 : z_ob 206 11 := ⟨by decide +kernel, by decide +kernel, by decide +kernel⟩
theorem ob_207 : z_ob 207 3 := ⟨by decide +kernel, by decide +kernel, by decide +kernel⟩
theorem ia_208 : z_ia 208 6 := ⟨by decide +kernel, ⟨by decide +kernel, by decide +kernel⟩, fun i => by unfold z_ptr; rw [if_neg (show ¬ (208 : Int) ≤ 186 by decide), if_neg (show ¬ (208 : Int) ≤ 205 by decide), show z_ptrL.getD ((208 : Int) - 206).toNat [] = [] by decide +kernel]; split <;> rfl⟩
theorem ia_209 : z_ia 209 6 := ⟨by decide +kernel, ⟨by decide +kernel, by decide +kernel⟩, fun i => by unfold z_ptr; rw [if_neg (show ¬ (209 : Int) ≤ 186 by decide), if_neg (show ¬ (209 : Int) ≤ 205 by decide), show z_ptrL.getD ((209 : Int) - 206).toNat [] = [] by decide +kernel]; split <;> rfl⟩
theorem fa_210 : z_dk 210 = (14, 18) ∧ z_al 274 210 := ⟨by decide +kernel, by decide +kernel, by decide +kernel⟩
theorem fe0_210 : ∀ k, k < 18 → z_ptr 210 ((k : Nat) : Int) = 115 + 3 * ((k : Nat) : Int) := by decide +kernel
theorem fe_210 {i : Int} (h : 0 ≤ i ∧ i < 18) : z_ptr 210 i = 115 + 3 * i := by have q := fe0_210 i.toNat (by omega); rw [show ((i.toNat : Nat) : Int) = i by omega] at q; exact q
theorem ia_211 : z_ia 211 128 := ⟨by decide +kernel, ⟨by decide +kernel, by decide +kernel⟩, fun i => by unfold z_ptr; rw [if_neg (show ¬ (211 : Int) ≤ 186 by decide), if_neg (show ¬ (211 : Int) ≤ 205 by decide), show z_ptrL.getD ((211 : Int) - 206).toNat [] = [] by decide +kernel]; split <;> rfl⟩
theorem ob_212 : z_ob 212 9 := ⟨by decide +kernel, by decide +kernel, by decide +kernel⟩
theorem ia_213 : z_ia 213 48 := ⟨by decide +kernel, ⟨by decide +kernel, by decide +kernel⟩, fun i => by unfold z_ptr; rw [if_neg (show ¬ (213 : Int) ≤ 186 by decide), if_neg (show ¬ (213 : Int) ≤ 205 by decide), show z_ptrL.getD ((213 : Int) - 206).toNat [] = [] by decide +kernel]; split <;> rfl⟩
theorem fa_214 : z_dk 214 = (14, 3) ∧ z_al 274 214 := ⟨by decide +kernel, by decide +kernel, by decide +kernel⟩
theorem fe0_214 : ∀ k, k < 3 → z_ptr 214 ((k : Nat) : Int) = 169 + 3 * ((k : Nat) : Int) := by decide +kernel
theorem fe_214 {i : Int} (h : 0 ≤ i ∧ i < 3) : z_ptr 214 i = 169 + 3 * i := by have q := fe0_214 i.toNat (by omega); rw [show ((i.toNat : Nat) : Int) = i by omega] at q; exact q
theorem ob_215 : z_ob 215 2 := ⟨by decide +kernel, by decide +kernel, by decide +kernel⟩
theorem ia_216 : z_ia 216 3 := ⟨by decide +kernel, ⟨by decide +kernel, by decide +kernel⟩, fun i => by unfold z_ptr; rw [if_neg (show ¬ (216 : Int) ≤ 186 by decide), if_neg (show ¬ (216 : Int) ≤ 205 by decide), show z_ptrL.getD ((216 : Int) - 206).toNat [] = [] by decide +kernel]; split <;> rfl⟩
theorem ra_217 : z_ra 217 61 := ⟨by decide +kernel, ⟨by decide +kernel, by decide +kernel⟩, fun i => by unfold z_ptr; rw [if_neg (show ¬ (217 : Int) ≤ 186 by decide), if_neg (show ¬ (217 : Int) ≤ 205 by decide), show z_ptrL.getD ((217 : Int) - 206).toNat [] = [] by decide +kernel]; split <;> rfl⟩
theorem ia_218 : z_ia 218 61 := ⟨by decide +kernel, ⟨by decide +kernel, by decide +kernel⟩, fun i => by unfold z_ptr; rw [if_neg (show ¬ (218 : Int) ≤ 186 by decide), if_neg (show ¬ (218 : Int) ≤ 205 by decide), show z_ptrL.getD ((218 : Int) - 206).toNat [] = [] by decide +kernel]; split <;> rfl⟩
theorem ia_219 : z_ia 219 61 := ⟨by decide +kernel, ⟨by decide +kernel, by decide +kernel⟩, fun i => by unfold z_ptr; rw [if_neg (show ¬ (219 : Int) ≤ 186 by decide), if_neg (show ¬ (219 : Int) ≤ 205 by decide), show z_ptrL.getD ((219 : Int) - 206).toNat [] = [] by decide +kernel]; split <;> rfl⟩
theorem ia_220 : z_ia 220 61 := ⟨by decide +kernel, ⟨by decide +kernel, by decide +kernel⟩, fun i => by unfold z_ptr; rw [if_neg (show ¬ (220 : Int) ≤ 186 by decide), if_neg (show ¬ (220 : Int) ≤ 205 by decide), show z_ptrL.getD ((220 : Int) - 206).toNat [] = [] by decide +kernel]; split <;> rfl⟩
theorem ia_221 : z_ia 221 640 := ⟨by decide +kernel, ⟨by decide +kernel, by decide +kernel⟩, fun i => by unfold z_ptr; rw [if_neg (show ¬ (221 : Int) ≤ 186 by decide), if_neg (show ¬ (221 : Int) ≤ 205 by decide), show z_ptrL.getD ((221 : Int) - 206).toNat [] = [] by decide +kernel]; split <;> rfl⟩
theorem ob_222 : z_ob 222 6 := ⟨by decide +kernel, by decide +kernel, by decide +kernel⟩
theorem ia_223 : z_ia 223 546 := ⟨by decide +kernel, ⟨by decide +kernel, by decide +kernel⟩, fun i => by unfold z_ptr; rw [if_neg (show ¬ (223 : Int) ≤ 186 by decide), if_neg (show ¬ (223 : Int) ≤ 205 by decide), show z_ptrL.getD ((223 : Int) - 206).toNat [] = [] by decide +kernel]; split <;> rfl⟩
theorem ia_224 : z_ia 224 546 := ⟨by decide +kernel, ⟨by decide +kernel, by decide +kernel⟩, fun i => by unfold z_ptr; rw [if_neg (show ¬ (224 : Int) ≤ 186 by decide), if_neg (show ¬ (224 : Int) ≤ 205 by decide), show z_ptrL.getD ((224 : Int) - 206).toNat [] = [] by decide +kernel]; split <;> rfl⟩
theorem ia_225 : z_ia 225 546 := ⟨by decide +kernel, ⟨by decide +kernel, by decide +kernel⟩, fun i => by unfold z_ptr; rw [if_neg (show ¬ (225 : Int) ≤ 186 by decide), if_neg (show ¬ (225 : Int) ≤ 205 by decide), show z_ptrL.getD ((225 : Int) - 206).toNat [] = [] by decide +kernel]; split <;> rfl⟩
theorem ia_226 : z_ia 226 546 := ⟨by decide +kernel, ⟨by decide +kernel, by decide +kernel⟩, fun i => by unfold z_ptr; rw [if_neg (show ¬ (226 : Int) ≤ 186 by decide), if_neg (show ¬ (226 : Int) ≤ 205 by decide), show z_ptrL.getD ((226 : Int) - 206).toNat [] = [] by decide +kernel]; split <;> rfl⟩
theorem ra_227 : z_ra 227 51 := ⟨by decide +kernel, ⟨by decide +kernel, by decide +kernel⟩, fun i => by unfold z_ptr; rw [if_neg (show ¬ (227 : Int) ≤ 186 by decide), if_neg (show ¬ (227 : Int) ≤ 205 by decide), show z_ptrL.getD ((227 : Int) - 206).toNat [] = [] by decide +kernel]; split <;> rfl⟩
theorem ia_228 : z_ia 228 51 := ⟨by decide +kernel, ⟨by decide +kernel, by decide +kernel⟩, fun i => by unfold z_ptr; rw [if_neg (show ¬ (228 : Int) ≤ 186 by decide), if_neg (show ¬ (228 : Int) ≤ 205 by decide), show z_ptrL.getD ((228 : Int) - 206).toNat [] = [] by decide +kernel]; split <;> rfl⟩
theorem ia_229 : z_ia 229 51 := ⟨by decide +kernel, ⟨by decide +kernel, by decide +kernel⟩, fun i => by unfold z_ptr; rw [if_neg (show ¬ (229 : Int) ≤ 186 by decide), if_neg (show ¬ (229 : Int) ≤ 205 by decide), show z_ptrL.getD ((229 : Int) - 206).toNat [] = [] by decide +kernel]; split <;> rfl⟩
theorem ia_230 : z_ia 230 51 := ⟨by decide +kernel, ⟨by decide +kernel, by decide +kernel⟩, fun i => by unfold z_ptr; rw [if_neg (show ¬ (230 : Int) ≤ 186 by decide), if_neg (show ¬ (230 : Int) ≤ 205 by decide), show z_ptrL.getD ((230 : Int) - 206).toNat [] = [] by decide +kernel]; split <;> rfl⟩
theorem ia_231 : z_ia 231 540 := ⟨by decide +kernel, ⟨by decide +kernel, by decide +kernel⟩, fun i => by unfold z_ptr; rw [if_neg (show ¬ (231 : Int) ≤ 186 by decide), if_neg (show ¬ (231 : Int) ≤ 205 by decide), show z_ptrL.getD ((231 : Int) - 206).toNat [] = [] by decide +kernel]; split <;> rfl⟩
theorem ia_232 : z_ia 232 3 := ⟨by decide +kernel, ⟨by decide +kernel, by decide +kernel⟩, fun i => by unfold z_ptr; rw [if_neg (show ¬ (232 : Int) ≤ 186 by decide), if_neg (show ¬ (232 : Int) ≤ 205 by decide), show z_ptrL.getD ((232 : Int) - 206).toNat [] = [] by decide +kernel]; split <;> rfl⟩
theorem ob_233 : z_ob 233 1 := ⟨by decide +kernel, by decide +kernel, by decide +kernel⟩
theorem ia_234 : z_ia 234 1600 := ⟨by decide +kernel, ⟨by decide +kernel, by decide +kernel⟩, fun i => by unfold z_ptr; rw [if_neg (show ¬ (234 : Int) ≤ 186 by decide), if_neg (show ¬ (234 : Int) ≤ 205 by decide), show z_ptrL.getD ((234 : Int) - 206).toNat [] = [] by decide +kernel]; split <;> rfl⟩
theorem ia_235 : z_ia 235 40 := ⟨by decide +kernel, ⟨by decide +kernel, by decide +kernel⟩, fun i => by unfold z_ptr; rw [if_neg (show ¬ (235 : Int) ≤ 186 by decide), if_neg (show ¬ (235 : Int) ≤ 205 by decide), show z_ptrL.getD ((235 : Int) - 206).toNat [] = [] by decide +kernel]; split <;> rfl⟩
theorem ob_236 : z_ob 236 5 := ⟨by decide +kernel, by decide +kernel, by decide +kernel⟩
theorem ia_237 : z_ia 237 3 := ⟨by decide +kernel, ⟨by decide +kernel, by decide +kernel⟩, fun i => by unfold z_ptr; rw [if_neg (show ¬ (237 : Int) ≤ 186 by decide), if_neg (show ¬ (237 : Int) ≤ 205 by decide), show z_ptrL.getD ((237 : Int) - 206).toNat [] = [] by decide +kernel]; split <;> rfl⟩
theorem ob_238 : z_ob 238 4 := ⟨by decide +kernel, by decide +kernel, by decide +kernel⟩
theorem fa_239 : z_dk 239 = (15, 8) ∧ z_al 274 239 := ⟨by decide +kernel, by decide +kernel, by decide +kernel⟩
theorem fe0_239 : ∀ k, k < 8 → z_ptr 239 ((k : Nat) : Int) = 187 + 1 * ((k : Nat) : Int) := by decide +kernel
theorem fe_239 {i : Int} (h : 0 ≤ i ∧ i < 8) : z_ptr 239 i = 187 + 1 * i := by have q := fe0_239 i.toNat (by omega); rw [show ((i.toNat : Nat) : Int) = i by omega] at q; exact q
theorem ob_240 : z_ob 240 7 := ⟨by decide +kernel, by decide +kernel, by decide +kernel⟩
theorem ia_241 : z_ia 241 99 := ⟨by decide +kernel, ⟨by decide +kernel, by decide +kernel⟩, fun i => by unfold z_ptr; rw [if_neg (show ¬ (241 : Int) ≤ 186 by decide), if_neg (show ¬ (241 : Int) ≤ 205 by decide), show z_ptrL.getD ((241 : Int) - 206).toNat [] = [] by decide +kernel]; split <;> rfl⟩
theorem ia_242 : z_ia 242 99 := ⟨by decide +kernel, ⟨by decide +kernel, by decide +kernel⟩, fun i => by unfold z_ptr; rw [if_neg (show ¬ (242 : Int) ≤ 186 by decide), if_neg (show ¬ (242 : Int) ≤ 205 by decide), show z_ptrL.getD ((242 : Int) - 206).toNat [] = [] by decide +kernel]; split <;> rfl⟩
theorem ia_243 : z_ia 243 4 := ⟨by decide +kernel, ⟨by decide +kernel, by decide +kernel⟩, fun i => by unfold z_ptr; rw [if_neg (show ¬ (243 : Int) ≤ 186 by decide), if_neg (show ¬ (243 : Int) ≤ 205 by decide), show z_ptrL.getD ((243 : Int) - 206).toNat [] = [] by decide +kernel]; split <;> rfl⟩
theorem ob_244 : z_ob 244 8 := ⟨by decide +kernel, by decide +kernel, by decide +kernel⟩
theorem fa_245 : z_dk 245 = (15, 3) ∧ z_al 274 245 := ⟨by decide +kernel, by decide +kernel, by decide +kernel⟩
theorem fe0_245 : ∀ k, k < 3 → z_ptr 245 ((k : Nat) : Int) = 195 + 1 * ((k : Nat) : Int) := by decide +kernel
theorem fe_245 {i : Int} (h : 0 ≤ i ∧ i < 3) : z_ptr 245 i = 195 + 1 * i := by have q := fe0_245 i.toNat (by omega); rw [show ((i.toNat : Nat) : Int) = i by omega] at q; exact q
theorem fa_246 : z_dk 246 = (15, 3) ∧ z_al 274 246 := ⟨by decide +kernel, by decide +kernel, by decide +kernel⟩
theorem fe0_246 : ∀ k, k < 3 → z_ptr 246 ((k : Nat) : Int) = 198 + 1 * ((k : Nat) : Int) := by decide +kernel
theorem fe_246 {i : Int} (h : 0 ≤ i ∧ i < 3) : z_ptr 246 i = 198 + 1 * i := by have q := fe0_246 i.toNat (by omega); rw [show ((i.toNat : Nat) : Int) = i by omega] at q; exact q
theorem fa_247 : z_dk 247 = (15, 3) ∧ z_al 274 247 := ⟨by decide +kernel, by decide +kernel, by decide +kernel⟩
theorem fe0_247 : ∀ k, k < 3 → z_ptr 247 ((k : Nat) : Int) = 201 + 1 * ((k : Nat) : Int) := by decide +kernel
theorem fe_247 {i : Int} (h : 0 ≤ i ∧ i < 3) : z_ptr 247 i = 201 + 1 * i := by have q := fe0_247 i.toNat (by omega); rw [show ((i.toNat : Nat) : Int) = i by omega] at q; exact q
theorem ob_248 : z_ob 248 12 := ⟨by decide +kernel, by decide +kernel, by decide +kernel⟩
theorem ia_249 : z_ia 249 5632 := ⟨by decide +kernel, ⟨by decide +kernel, by decide +kernel⟩, fun i => by unfold z_ptr; rw [if_neg (show ¬ (249 : Int) ≤ 186 by decide), if_neg (show ¬ (249 : Int) ≤ 205 by decide), show z_ptrL.getD ((249 : Int) - 206).toNat [] = [] by decide +kernel]; split <;> rfl⟩
theorem ia_250 : z_ia 250 44 := ⟨by decide +kernel, ⟨by decide +kernel, by decide +kernel⟩, fun i => by unfold z_ptr; rw [if_neg (show ¬ (250 : Int) ≤ 186 by decide), if_neg (show ¬ (250 : Int) ≤ 205 by decide), show z_ptrL.getD ((250 : Int) - 206).toNat [] = [] by decide +kernel]; split <;> rfl⟩
theorem ia_251 : z_ia 251 48 := ⟨by decide +kernel, ⟨by decide +kernel, by decide +kernel⟩, fun i => by unfold z_ptr; rw [if_neg (show ¬ (251 : Int) ≤ 186 by decide), if_neg (show ¬ (251 : Int) ≤ 205 by decide), show z_ptrL.getD ((251 : Int) - 206).toNat [] = [] by decide +kernel]; split <;> rfl⟩
theorem ia_252 : z_ia 252 6 := ⟨by decide +kernel, ⟨by decide +kernel, by decide +kernel⟩, fun i => by unfold z_ptr; rw [if_neg (show ¬ (252 : Int) ≤ 186 by decide), if_neg (show ¬ (252 : Int) ≤ 205 by decide), show z_ptrL.getD ((252 : Int) - 206).toNat [] = [] by decide +kernel]; split <;> rfl⟩
theorem ia_253 : z_ia 253 6 := ⟨by decide +kernel, ⟨by decide +kernel, by decide +kernel⟩, fun i => by unfold z_ptr; rw [if_neg (show ¬ (253 : Int) ≤ 186 by decide), if_neg (show ¬ (253 : Int) ≤ 205 by decide), show z_ptrL.getD ((253 : Int) - 206).toNat [] = [] by decide +kernel]; split <;> rfl⟩
theorem ia_254 : z_ia 254 180 := ⟨by decide +kernel, ⟨by decide +kernel, by decide +kernel⟩, fun i => by unfold z_ptr; rw [if_neg (show ¬ (254 : Int) ≤ 186 by decide), if_neg (show ¬ (254 : Int) ≤ 205 by decide), show z_ptrL.getD ((254 : Int) - 206).toNat [] = [] by decide +kernel]; split <;> rfl⟩
theorem ia_255 : z_ia 255 18 := ⟨by decide +kernel, ⟨by decide +kernel, by decide +kernel⟩, fun i => by unfold z_ptr; rw [if_neg (show ¬ (255 : Int) ≤ 186 by decide), if_neg (show ¬ (255 : Int) ≤ 205 by decide), show z_ptrL.getD ((255 : Int) - 206).toNat [] = [] by decide +kernel]; split <;> rfl⟩
theorem ia_256 : z_ia 256 20 := ⟨by decide +kernel, ⟨by decide +kernel, by decide +kernel⟩, fun i => by unfold z_ptr; rw [if_neg (show ¬ (256 : Int) ≤ 186 by decide), if_neg (show ¬ (256 : Int) ≤ 205 by decide), show z_ptrL.getD ((256 : Int) - 206).toNat [] = [] by decide +kernel]; split <;> rfl⟩
theorem ia_257 : z_ia 257 460 := ⟨by decide +kernel, ⟨by decide +kernel, by decide +kernel⟩, fun i => by unfold z_ptr; rw [if_neg (show ¬ (257 : Int) ≤ 186 by decide), if_neg (show ¬ (257 : Int) ≤ 205 by decide), show z_ptrL.getD ((257 : Int) - 206).toNat [] = [] by decide +kernel]; split <;> rfl⟩
theorem ia_258 : z_ia 258 64 := ⟨by decide +kernel, ⟨by decide +kernel, by decide +kernel⟩, fun i => by unfold z_ptr; rw [if_neg (show ¬ (258 : Int) ≤ 186 by decide), if_neg (show ¬ (258 : Int) ≤ 205 by decide), show z_ptrL.getD ((258 : Int) - 206).toNat [] = [] by decide +kernel]; split <;> rfl⟩
theorem ia_259 : z_ia 259 64 := ⟨by decide +kernel, ⟨by decide +kernel, by decide +kernel⟩, fun i => by unfold z_ptr; rw [if_neg (show ¬ (259 : Int) ≤ 186 by decide), if_neg (show ¬ (259 : Int) ≤ 205 by decide), show z_ptrL.getD ((259 : Int) - 206).toNat [] = [] by decide +kernel]; split <;> rfl⟩
theorem ia_260 : z_ia 260 64 := ⟨by decide +kernel, ⟨by decide +kernel, by decide +kernel⟩, fun i => by unfold z_ptr; rw [if_neg (show ¬ (260 : Int) ≤ 186 by decide), if_neg (show ¬ (260 : Int) ≤ 205 by decide), show z_ptrL.getD ((260 : Int) - 206).toNat [] = [] by decide +kernel]; split <;> rfl⟩
theorem ia_261 : z_ia 261 64 := ⟨by decide +kernel, ⟨by decide +kernel, by decide +kernel⟩, fun i => by unfold z_ptr; rw [if_neg (show ¬ (261 : Int) ≤ 186 by decide), if_neg (show ¬ (261 : Int) ≤ 205 by decide), show z_ptrL.getD ((261 : Int) - 206).toNat [] = [] by decide +kernel]; split <;> rfl⟩
theorem ia_262 : z_ia 262 64 := ⟨by decide +kernel, ⟨by decide +kernel, by decide +kernel⟩, fun i => by unfold z_ptr; rw [if_neg (show ¬ (262 : Int) ≤ 186 by decide), if_neg (show ¬ (262 : Int) ≤ 205 by decide), show z_ptrL.getD ((262 : Int) - 206).toNat [] = [] by decide +kernel]; split <;> rfl⟩
theorem ia_263 : z_ia 263 16400 := ⟨by decide +kernel, ⟨by decide +kernel, by decide +kernel⟩, fun i => by unfold z_ptr; rw [if_neg (show ¬ (263 : Int) ≤ 186 by decide), if_neg (show ¬ (263 : Int) ≤ 205 by decide), show z_ptrL.getD ((263 : Int) - 206).toNat [] = [] by decide +kernel]; split <;> rfl⟩
theorem ia_264 : z_ia 264 440 := ⟨by decide +kernel, ⟨by decide +kernel, by decide +kernel⟩, fun i => by unfold z_ptr; rw [if_neg (show ¬ (264 : Int) ≤ 186 by decide), if_neg (show ¬ (264 : Int) ≤ 205 by decide), show z_ptrL.getD ((264 : Int) - 206).toNat [] = [] by decide +kernel]; split <;> rfl⟩
theorem ia_265 : z_ia 265 64 := ⟨by decide +kernel, ⟨by decide +kernel, by decide +kernel⟩, fun i => by unfold z_ptr; rw [if_neg (show ¬ (265 : Int) ≤ 186 by decide), if_neg (show ¬ (265 : Int) ≤ 205 by decide), show z_ptrL.getD ((265 : Int) - 206).toNat [] = [] by decide +kernel]; split <;> rfl⟩
theorem ia_266 : z_ia 266 1600 := ⟨by decide +kernel, ⟨by decide +kernel, by decide +kernel⟩, fun i => by unfold z_ptr; rw [if_neg (show ¬ (266 : Int) ≤ 186 by decide), if_neg (show ¬ (266 : Int) ≤ 205 by decide), show z_ptrL.getD ((266 : Int) - 206).toNat [] = [] by decide +kernel]; split <;> rfl⟩
theorem ia_267 : z_ia 267 40 := ⟨by decide +kernel, ⟨by decide +kernel, by decide +kernel⟩, fun i => by unfold z_ptr; rw [if_neg (show ¬ (267 : Int) ≤ 186 by decide), if_neg (show ¬ (267 : Int) ≤ 205 by decide), show z_ptrL.getD ((267 : Int) - 206).toNat [] = [] by decide +kernel]; split <;> rfl⟩
theorem ia_268 : z_ia 268 3 := ⟨by decide +kernel, ⟨by decide +kernel, by decide +kernel⟩, fun i => by unfold z_ptr; rw [if_neg (show ¬ (268 : Int) ≤ 186 by decide), if_neg (show ¬ (268 : Int) ≤ 205 by decide), show z_ptrL.getD ((268 : Int) - 206).toNat [] = [] by decide +kernel]; split <;> rfl⟩
theorem ia_269 : z_ia 269 3 := ⟨by decide +kernel, ⟨by decide +kernel, by decide +kernel⟩, fun i => by unfold z_ptr; rw [if_neg (show ¬ (269 : Int) ≤ 186 by decide), if_neg (show ¬ (269 : Int) ≤ 205 by decide), show z_ptrL.getD ((269 : Int) - 206).toNat [] = [] by decide +kernel]; split <;> rfl⟩
theorem ia_270 : z_ia 270 99 := ⟨by decide +kernel, ⟨by decide +kernel, by decide +kernel⟩, fun i => by unfold z_ptr; rw [if_neg (show ¬ (270 : Int) ≤ 186 by decide), if_neg (show ¬ (270 : Int) ≤ 205 by decide), show z_ptrL.getD ((270 : Int) - 206).toNat [] = [] by decide +kernel]; split <;> rfl⟩
theorem ia_271 : z_ia 271 99 := ⟨by decide +kernel, ⟨by decide +kernel, by decide +kernel⟩, fun i => by unfold z_ptr; rw [if_neg (show ¬ (271 : Int) ≤ 186 by decide), if_neg (show ¬ (271 : Int) ≤ 205 by decide), show z_ptrL.getD ((271 : Int) - 206).toNat [] = [] by decide +kernel]; split <;> rfl⟩
theorem ia_272 : z_ia 272 3 := ⟨by decide +kernel, ⟨by decide +kernel, by decide +kernel⟩, fun i => by unfold z_ptr; rw [if_neg (show ¬ (272 : Int) ≤ 186 by decide), if_neg (show ¬ (272 : Int) ≤ 205 by decide), show z_ptrL.getD ((272 : Int) - 206).toNat [] = [] by decide +kernel]; split <;> rfl⟩
theorem ia_273 : z_ia 273 3 := ⟨by decide +kernel, ⟨by decide +kernel, by decide +kernel⟩, fun i => by unfold z_ptr; rw [if_neg (show ¬ (273 : Int) ≤ 186 by decide), if_neg (show ¬ (273 : Int) ≤ 205 by decide), show z_ptrL.getD ((273 : Int) - 206).toNat [] = [] by decide +kernel]; split <;> rfl⟩
theorem ia_274 : z_ia 274 3 := ⟨by decide +kernel, ⟨by decide +kernel, by decide +kernel⟩, fun i => by unfold z_ptr; rw [if_neg (show ¬ (274 : Int) ≤ 186 by decide), if_neg (show ¬ (274 : Int) ≤ 205 by decide), show z_ptrL.getD ((274 : Int) - 206).toNat [] = [] by decide +kernel]; split <;> rfl⟩
theorem pt_206_0 : z_ptr 206 0 = 207 := by decide +kernel
theorem pt_206_1 : z_ptr 206 1 = 212 := by decide +kernel
theorem pt_206_2 : z_ptr 206 2 = 215 := by decide +kernel
theorem pt_206_3 : z_ptr 206 3 = 222 := by decide +kernel
theorem pt_206_4 : z_ptr 206 4 = 233 := by decide +kernel
theorem pt_206_5 : z_ptr 206 5 = 238 := by decide +kernel
theorem pt_206_6 : z_ptr 206 6 = 240 := by decide +kernel
theorem pt_206_7 : z_ptr 206 7 = 244 := by decide +kernel
theorem pt_206_8 : z_ptr 206 8 = 204 := by decide +kernel
theorem pt_206_9 : z_ptr 206 9 = 205 := by decide +kernel
theorem pt_206_10 : z_ptr 206 10 = 178 := by decide +kernel
theorem pt_206_11 : z_ptr 206 11 = 0 := by decide +kernel
theorem pt_207_0 : z_ptr 207 0 = 208 := by decide +kernel
theorem pt_207_1 : z_ptr 207 1 = 209 := by decide +kernel
theorem pt_207_2 : z_ptr 207 2 = 210 := by decide +kernel
theorem pt_207_3 : z_ptr 207 3 = 211 := by decide +kernel
theorem pt_207_4 : z_ptr 207 4 = 0 := by decide +kernel
theorem pt_212_0 : z_ptr 212 0 = 213 := by decide +kernel
theorem pt_212_1 : z_ptr 212 1 = 214 := by decide +kernel
theorem pt_212_2 : z_ptr 212 2 = 207 := by decide +kernel
theorem pt_212_3 : z_ptr 212 3 = 0 := by decide +kernel
theorem pt_212_4 : z_ptr 212 4 = 0 := by decide +kernel
theorem pt_212_5 : z_ptr 212 5 = 0 := by decide +kernel
theorem pt_212_6 : z_ptr 212 6 = 0 := by decide +kernel
theorem pt_212_7 : z_ptr 212 7 = 0 := by decide +kernel
theorem pt_212_8 : z_ptr 212 8 = 0 := by decide +kernel
theorem pt_212_9 : z_ptr 212 9 = 0 := by decide +kernel
theorem pt_215_0 : z_ptr 215 0 = 207 := by decide +kernel
theorem pt_215_1 : z_ptr 215 1 = 216 := by decide +kernel
theorem pt_215_2 : z_ptr 215 2 = 0 := by decide +kernel
theorem pt_215_3 : z_ptr 215 3 = 217 := by decide +kernel
theorem pt_215_4 : z_ptr 215 4 = 218 := by decide +kernel
theorem pt_215_5 : z_ptr 215 5 = 219 := by decide +kernel
theorem pt_215_6 : z_ptr 215 6 = 220 := by decide +kernel
theorem pt_215_7 : z_ptr 215 7 = 221 := by decide +kernel
theorem pt_215_8 : z_ptr 215 8 = 0 := by decide +kernel
theorem pt_215_9 : z_ptr 215 9 = 0 := by decide +kernel
theorem pt_222_0 : z_ptr 222 0 = 207 := by decide +kernel
theorem pt_222_1 : z_ptr 222 1 = 223 := by decide +kernel
theorem pt_222_2 : z_ptr 222 2 = 224 := by decide +kernel
theorem pt_222_3 : z_ptr 222 3 = 225 := by decide +kernel
theorem pt_222_4 : z_ptr 222 4 = 226 := by decide +kernel
theorem pt_222_5 : z_ptr 222 5 = 227 := by decide +kernel
theorem pt_222_6 : z_ptr 222 6 = 228 := by decide +kernel
theorem pt_222_7 : z_ptr 222 7 = 229 := by decide +kernel
theorem pt_222_8 : z_ptr 222 8 = 230 := by decide +kernel
theorem pt_222_9 : z_ptr 222 9 = 231 := by decide +kernel
theorem pt_222_10 : z_ptr 222 10 = 232 := by decide +kernel
theorem pt_222_11 : z_ptr 222 11 = 0 := by decide +kernel
theorem pt_222_12 : z_ptr 222 12 = 0 := by decide +kernel
theorem pt_222_13 : z_ptr 222 13 = 0 := by decide +kernel
theorem pt_222_14 : z_ptr 222 14 = 0 := by decide +kernel
theorem pt_233_0 : z_ptr 233 0 = 234 := by decide +kernel
theorem pt_233_1 : z_ptr 233 1 = 235 := by decide +kernel
theorem pt_236_0 : z_ptr 236 0 = 207 := by decide +kernel
theorem pt_236_1 : z_ptr 236 1 = 237 := by decide +kernel
theorem pt_238_0 : z_ptr 238 0 = 239 := by decide +kernel
theorem pt_238_1 : z_ptr 238 1 = 0 := by decide +kernel
theorem pt_238_2 : z_ptr 238 2 = 233 := by decide +kernel
theorem pt_238_3 : z_ptr 238 3 = 236 := by decide +kernel
theorem pt_238_4 : z_ptr 238 4 = 181 := by decide +kernel
theorem pt_240_0 : z_ptr 240 0 = 241 := by decide +kernel
theorem pt_240_1 : z_ptr 240 1 = 242 := by decide +kernel
theorem pt_240_2 : z_ptr 240 2 = 243 := by decide +kernel
theorem pt_240_3 : z_ptr 240 3 = 0 := by decide +kernel
theorem pt_240_4 : z_ptr 240 4 = 0 := by decide +kernel
theorem pt_244_0 : z_ptr 244 0 = 245 := by decide +kernel
theorem pt_244_1 : z_ptr 244 1 = 246 := by decide +kernel
theorem pt_244_2 : z_ptr 244 2 = 247 := by decide +kernel
theorem pt_244_3 : z_ptr 244 3 = 184 := by decide +kernel
theorem pt_244_4 : z_ptr 244 4 = 207 := by decide +kernel
theorem pt_244_5 : z_ptr 244 5 = 215 := by decide +kernel
theorem pt_244_6 : z_ptr 244 6 = 222 := by decide +kernel
theorem pt_244_7 : z_ptr 244 7 = 236 := by decide +kernel
theorem pt_244_8 : z_ptr 244 8 = 238 := by decide +kernel
theorem pt_244_9 : z_ptr 244 9 = 240 := by decide +kernel
theorem pt_248_0 : z_ptr 248 0 = 249 := by decide +kernel
theorem pt_248_1 : z_ptr 248 1 = 250 := by decide +kernel
theorem pt_248_2 : z_ptr 248 2 = 251 := by decide +kernel
theorem pt_248_3 : z_ptr 248 3 = 0 := by decide +kernel
theorem pt_248_4 : z_ptr 248 4 = 0 := by decide +kernel
theorem pt_248_5 : z_ptr 248 5 = 252 := by decide +kernel
theorem pt_248_6 : z_ptr 248 6 = 253 := by decide +kernel
theorem pt_248_7 : z_ptr 248 7 = 254 := by decide +kernel
theorem pt_248_8 : z_ptr 248 8 = 255 := by decide +kernel
theorem pt_248_9 : z_ptr 248 9 = 0 := by decide +kernel
theorem pt_248_10 : z_ptr 248 10 = 0 := by decide +kernel
theorem pt_248_11 : z_ptr 248 11 = 256 := by decide +kernel
theorem pt_248_12 : z_ptr 248 12 = 0 := by decide +kernel
theorem pt_248_13 : z_ptr 248 13 = 0 := by decide +kernel
theorem pt_248_14 : z_ptr 248 14 = 257 := by decide +kernel
theorem pt_248_15 : z_ptr 248 15 = 0 := by decide +kernel
theorem pt_248_16 : z_ptr 248 16 = 0 := by decide +kernel
theorem pt_248_17 : z_ptr 248 17 = 258 := by decide +kernel
theorem pt_248_18 : z_ptr 248 18 = 259 := by decide +kernel
theorem pt_248_19 : z_ptr 248 19 = 260 := by decide +kernel
theorem pt_248_20 : z_ptr 248 20 = 261 := by decide +kernel
theorem pt_248_21 : z_ptr 248 21 = 262 := by decide +kernel
theorem pt_248_22 : z_ptr 248 22 = 0 := by decide +kernel
theorem pt_248_23 : z_ptr 248 23 = 263 := by decide +kernel
theorem pt_248_24 : z_ptr 248 24 = 264 := by decide +kernel
theorem pt_248_25 : z_ptr 248 25 = 0 := by decide +kernel
theorem pt_248_26 : z_ptr 248 26 = 0 := by decide +kernel
theorem pt_248_27 : z_ptr 248 27 = 265 := by decide +kernel
theorem pt_248_28 : z_ptr 248 28 = 0 := by decide +kernel
theorem pt_248_29 : z_ptr 248 29 = 0 := by decide +kernel
theorem pt_248_30 : z_ptr 248 30 = 0 := by decide +kernel
theorem pt_248_31 : z_ptr 248 31 = 266 := by decide +kernel
theorem pt_248_32 : z_ptr 248 32 = 267 := by decide +kernel
theorem pt_248_33 : z_ptr 248 33 = 268 := by decide +kernel
theorem pt_248_34 : z_ptr 248 34 = 269 := by decide +kernel
theorem pt_248_35 : z_ptr 248 35 = 0 := by decide +kernel
theorem pt_248_36 : z_ptr 248 36 = 0 := by decide +kernel
theorem pt_248_37 : z_ptr 248 37 = 0 := by decide +kernel
theorem pt_248_38 : z_ptr 248 38 = 0 := by decide +kernel
theorem pt_248_39 : z_ptr 248 39 = 0 := by decide +kernel
theorem pt_248_40 : z_ptr 248 40 = 270 := by decide +kernel
theorem pt_248_41 : z_ptr 248 41 = 271 := by decide +kernel
theorem pt_248_42 : z_ptr 248 42 = 0 := by decide +kernel
theorem pt_248_43 : z_ptr 248 43 = 0 := by decide +kernel
theorem pt_248_44 : z_ptr 248 44 = 0 := by decide +kernel
theorem pt_248_45 : z_ptr 248 45 = 0 := by decide +kernel
theorem pt_248_46 : z_ptr 248 46 = 0 := by decide +kernel
theorem pt_248_47 : z_ptr 248 47 = 272 := by decide +kernel
theorem pt_248_48 : z_ptr 248 48 = 273 := by decide +kernel
theorem pt_248_49 : z_ptr 248 49 = 274 := by decide +kernel
end
