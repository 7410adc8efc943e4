-- ===== PART A: goes FIRST, ahead of the names: the tables' words, and 'selects' of the private methods out of them =====
/-- a private method of a class that the tables say can be made, by its rows of tables_1 -/
def lw_okq (q : MethodName × Nat) : Prop := (q.1.cls ≠ "java/lang/invoke/MethodHandle" ∧ q.1.cls ≠ "java/lang/invoke/VarHandle") ∧ Cond.instantiable q.1.cls q.2 ∈ tables_1 ∧ Cond.privateMethod q.1 ∈ tables_1 ∧ Cond.instanceMethod q.1 ∈ tables_1
theorem lw_p0 : lw_okq (⟨"SteeredClaims$Reader", "pass", "(I)Z"⟩, 10) := ⟨⟨by decide +kernel, by decide +kernel⟩, List.mem_of_getElem? (i := 98) (by decide +kernel), List.mem_of_getElem? (i := 440) (by decide +kernel), List.mem_of_getElem? (i := 441) (by decide +kernel)⟩
theorem lw_p1 : lw_okq (⟨"SteeredClaims$Reader", "readTerm", "(LSteeredClaims$Term;I)Z"⟩, 10) := ⟨⟨by decide +kernel, by decide +kernel⟩, List.mem_of_getElem? (i := 98) (by decide +kernel), List.mem_of_getElem? (i := 444) (by decide +kernel), List.mem_of_getElem? (i := 445) (by decide +kernel)⟩
theorem lw_p2 : lw_okq (⟨"SteeredClaims$Reader", "argumentsOf", "(I)I"⟩, 10) := ⟨⟨by decide +kernel, by decide +kernel⟩, List.mem_of_getElem? (i := 98) (by decide +kernel), List.mem_of_getElem? (i := 452) (by decide +kernel), List.mem_of_getElem? (i := 453) (by decide +kernel)⟩
theorem lw_p3 : lw_okq (⟨"SteeredClaims$Reader", "isOwn", "(I)Z"⟩, 10) := ⟨⟨by decide +kernel, by decide +kernel⟩, List.mem_of_getElem? (i := 98) (by decide +kernel), List.mem_of_getElem? (i := 456) (by decide +kernel), List.mem_of_getElem? (i := 457) (by decide +kernel)⟩
theorem lw_p4 : lw_okq (⟨"SteeredClaims$Evaluator", "call", "(I)Z"⟩, 10) := ⟨⟨by decide +kernel, by decide +kernel⟩, List.mem_of_getElem? (i := 140) (by decide +kernel), List.mem_of_getElem? (i := 537) (by decide +kernel), List.mem_of_getElem? (i := 538) (by decide +kernel)⟩
theorem lw_p5 : lw_okq (⟨"SteeredClaims$Evaluator", "take", "(II)Z"⟩, 10) := ⟨⟨by decide +kernel, by decide +kernel⟩, List.mem_of_getElem? (i := 140) (by decide +kernel), List.mem_of_getElem? (i := 544) (by decide +kernel), List.mem_of_getElem? (i := 545) (by decide +kernel)⟩
theorem lw_p6 : lw_okq (⟨"SteeredClaims$Normalizer", "make", "(III)I"⟩, 15) := ⟨⟨by decide +kernel, by decide +kernel⟩, List.mem_of_getElem? (i := 180) (by decide +kernel), List.mem_of_getElem? (i := 585) (by decide +kernel), List.mem_of_getElem? (i := 586) (by decide +kernel)⟩
theorem lw_p7 : lw_okq (⟨"SteeredClaims$Normalizer", "run", "(LSteeredClaims$Term;)Z"⟩, 15) := ⟨⟨by decide +kernel, by decide +kernel⟩, List.mem_of_getElem? (i := 180) (by decide +kernel), List.mem_of_getElem? (i := 589) (by decide +kernel), List.mem_of_getElem? (i := 590) (by decide +kernel)⟩
theorem lw_p8 : lw_okq (⟨"SteeredClaims$Normalizer", "apply", "(I)Z"⟩, 15) := ⟨⟨by decide +kernel, by decide +kernel⟩, List.mem_of_getElem? (i := 180) (by decide +kernel), List.mem_of_getElem? (i := 594) (by decide +kernel), List.mem_of_getElem? (i := 595) (by decide +kernel)⟩
theorem lw_p9 : lw_okq (⟨"SteeredClaims$Normalizer", "bodyFor", "(II)I"⟩, 15) := ⟨⟨by decide +kernel, by decide +kernel⟩, List.mem_of_getElem? (i := 180) (by decide +kernel), List.mem_of_getElem? (i := 598) (by decide +kernel), List.mem_of_getElem? (i := 599) (by decide +kernel)⟩
theorem lw_p10 : lw_okq (⟨"SteeredClaims$Normalizer", "push", "(I)Z"⟩, 15) := ⟨⟨by decide +kernel, by decide +kernel⟩, List.mem_of_getElem? (i := 180) (by decide +kernel), List.mem_of_getElem? (i := 602) (by decide +kernel), List.mem_of_getElem? (i := 603) (by decide +kernel)⟩
theorem lw_p11 : lw_okq (⟨"SteeredClaims$Normalizer", "take", "(I)Z"⟩, 15) := ⟨⟨by decide +kernel, by decide +kernel⟩, List.mem_of_getElem? (i := 180) (by decide +kernel), List.mem_of_getElem? (i := 607) (by decide +kernel), List.mem_of_getElem? (i := 608) (by decide +kernel)⟩
theorem lw_p12 : lw_okq (⟨"SteeredClaims$Normalizer", "write", "(LSteeredClaims$Term;)V"⟩, 15) := ⟨⟨by decide +kernel, by decide +kernel⟩, List.mem_of_getElem? (i := 180) (by decide +kernel), List.mem_of_getElem? (i := 611) (by decide +kernel), List.mem_of_getElem? (i := 612) (by decide +kernel)⟩
theorem lw_p13 : lw_okq (⟨"SteeredClaims$Embedding", "findDepths", "(LSteeredClaims$Term;)V"⟩, 2) := ⟨⟨by decide +kernel, by decide +kernel⟩, List.mem_of_getElem? (i := 233) (by decide +kernel), List.mem_of_getElem? (i := 654) (by decide +kernel), List.mem_of_getElem? (i := 655) (by decide +kernel)⟩
theorem lw_p14 : lw_okq (⟨"SteeredClaims$Embedding", "smallestAt", "(LSteeredClaims$Term;ILSteeredClaims$Term;I)I"⟩, 2) := ⟨⟨by decide +kernel, by decide +kernel⟩, List.mem_of_getElem? (i := 233) (by decide +kernel), List.mem_of_getElem? (i := 658) (by decide +kernel), List.mem_of_getElem? (i := 659) (by decide +kernel)⟩
theorem lw_p15 : lw_okq (⟨"SteeredClaims$Lemmas", "rewrites", "(LSteeredClaims$Term;ILSteeredClaims$Claim;I)Z"⟩, 5) := ⟨⟨by decide +kernel, by decide +kernel⟩, List.mem_of_getElem? (i := 259) (by decide +kernel), List.mem_of_getElem? (i := 675) (by decide +kernel), List.mem_of_getElem? (i := 676) (by decide +kernel)⟩
def lw_privs_1 : List (MethodName × Nat) := [(⟨"SteeredClaims$Reader", "pass", "(I)Z"⟩, 10), (⟨"SteeredClaims$Reader", "readTerm", "(LSteeredClaims$Term;I)Z"⟩, 10), (⟨"SteeredClaims$Reader", "argumentsOf", "(I)I"⟩, 10), (⟨"SteeredClaims$Reader", "isOwn", "(I)Z"⟩, 10), (⟨"SteeredClaims$Evaluator", "call", "(I)Z"⟩, 10), (⟨"SteeredClaims$Evaluator", "take", "(II)Z"⟩, 10), (⟨"SteeredClaims$Normalizer", "make", "(III)I"⟩, 15), (⟨"SteeredClaims$Normalizer", "run", "(LSteeredClaims$Term;)Z"⟩, 15), (⟨"SteeredClaims$Normalizer", "apply", "(I)Z"⟩, 15), (⟨"SteeredClaims$Normalizer", "bodyFor", "(II)I"⟩, 15), (⟨"SteeredClaims$Normalizer", "push", "(I)Z"⟩, 15), (⟨"SteeredClaims$Normalizer", "take", "(I)Z"⟩, 15), (⟨"SteeredClaims$Normalizer", "write", "(LSteeredClaims$Term;)V"⟩, 15), (⟨"SteeredClaims$Embedding", "findDepths", "(LSteeredClaims$Term;)V"⟩, 2), (⟨"SteeredClaims$Embedding", "smallestAt", "(LSteeredClaims$Term;ILSteeredClaims$Term;I)I"⟩, 2), (⟨"SteeredClaims$Lemmas", "rewrites", "(LSteeredClaims$Term;ILSteeredClaims$Claim;I)Z"⟩, 5)]
theorem lw_r1 : ∀ q ∈ lw_privs_1, lw_okq q := List.forall_mem_cons.mpr ⟨lw_p0, List.forall_mem_cons.mpr ⟨lw_p1, List.forall_mem_cons.mpr ⟨lw_p2, List.forall_mem_cons.mpr ⟨lw_p3, List.forall_mem_cons.mpr ⟨lw_p4, List.forall_mem_cons.mpr ⟨lw_p5, List.forall_mem_cons.mpr ⟨lw_p6, List.forall_mem_cons.mpr ⟨lw_p7, List.forall_mem_cons.mpr ⟨lw_p8, List.forall_mem_cons.mpr ⟨lw_p9, List.forall_mem_cons.mpr ⟨lw_p10, List.forall_mem_cons.mpr ⟨lw_p11, List.forall_mem_cons.mpr ⟨lw_p12, List.forall_mem_cons.mpr ⟨lw_p13, List.forall_mem_cons.mpr ⟨lw_p14, List.forall_mem_cons.mpr ⟨lw_p15, fun _ h => absurd h List.not_mem_nil⟩⟩⟩⟩⟩⟩⟩⟩⟩⟩⟩⟩⟩⟩⟩⟩
theorem lw_p16 : lw_okq (⟨"SteeredClaims$Claim", "putVariable", "(LSteeredClaims$Term;IILSteeredClaims$Term;)V"⟩, 2) := ⟨⟨by decide +kernel, by decide +kernel⟩, List.mem_of_getElem? (i := 268) (by decide +kernel), List.mem_of_getElem? (i := 738) (by decide +kernel), List.mem_of_getElem? (i := 739) (by decide +kernel)⟩
theorem lw_p17 : lw_okq (⟨"SteeredClaims$Prover", "attempt", "(I)I"⟩, 10) := ⟨⟨by decide +kernel, by decide +kernel⟩, List.mem_of_getElem? (i := 334) (by decide +kernel), List.mem_of_getElem? (i := 751) (by decide +kernel), List.mem_of_getElem? (i := 752) (by decide +kernel)⟩
theorem lw_p18 : lw_okq (⟨"SteeredClaims$Prover", "fail", "(II)I"⟩, 10) := ⟨⟨by decide +kernel, by decide +kernel⟩, List.mem_of_getElem? (i := 334) (by decide +kernel), List.mem_of_getElem? (i := 760) (by decide +kernel), List.mem_of_getElem? (i := 761) (by decide +kernel)⟩
theorem lw_p19 : lw_okq (⟨"SteeredClaims$Prover", "normalize", "(LSteeredClaims$Claim;LSteeredClaims$Claim;IIZ)Z"⟩, 10) := ⟨⟨by decide +kernel, by decide +kernel⟩, List.mem_of_getElem? (i := 334) (by decide +kernel), List.mem_of_getElem? (i := 769) (by decide +kernel), List.mem_of_getElem? (i := 770) (by decide +kernel)⟩
theorem lw_p20 : lw_okq (⟨"SteeredClaims$Prover", "succeed", "(I)I"⟩, 10) := ⟨⟨by decide +kernel, by decide +kernel⟩, List.mem_of_getElem? (i := 334) (by decide +kernel), List.mem_of_getElem? (i := 782) (by decide +kernel), List.mem_of_getElem? (i := 783) (by decide +kernel)⟩
theorem lw_p21 : lw_okq (⟨"SteeredClaims$Prover", "proveCase", "(IIII)I"⟩, 10) := ⟨⟨by decide +kernel, by decide +kernel⟩, List.mem_of_getElem? (i := 334) (by decide +kernel), List.mem_of_getElem? (i := 798) (by decide +kernel), List.mem_of_getElem? (i := 799) (by decide +kernel)⟩
theorem lw_p22 : lw_okq (⟨"SteeredClaims$Prover", "ripple", "(LSteeredClaims$Term;LSteeredClaims$Term;I)V"⟩, 10) := ⟨⟨by decide +kernel, by decide +kernel⟩, List.mem_of_getElem? (i := 334) (by decide +kernel), List.mem_of_getElem? (i := 802) (by decide +kernel), List.mem_of_getElem? (i := 803) (by decide +kernel)⟩
theorem lw_p23 : lw_okq (⟨"SteeredClaims$Prover", "useClaim", "(LSteeredClaims$Claim;LSteeredClaims$Claim;I)Z"⟩, 10) := ⟨⟨by decide +kernel, by decide +kernel⟩, List.mem_of_getElem? (i := 334) (by decide +kernel), List.mem_of_getElem? (i := 807) (by decide +kernel), List.mem_of_getElem? (i := 808) (by decide +kernel)⟩
theorem lw_p24 : lw_okq (⟨"SteeredClaims$Prover", "guess", "(LSteeredClaims$Claim;LSteeredClaims$Claim;)I"⟩, 10) := ⟨⟨by decide +kernel, by decide +kernel⟩, List.mem_of_getElem? (i := 334) (by decide +kernel), List.mem_of_getElem? (i := 819) (by decide +kernel), List.mem_of_getElem? (i := 820) (by decide +kernel)⟩
theorem lw_p25 : lw_okq (⟨"SteeredClaimsModel", "readsFunction", "(II)Z"⟩, 50) := ⟨⟨by decide +kernel, by decide +kernel⟩, List.mem_of_getElem? (i := 855) (by decide +kernel), List.mem_of_getElem? (i := 1027) (by decide +kernel), List.mem_of_getElem? (i := 1028) (by decide +kernel)⟩
theorem lw_p26 : lw_okq (⟨"SteeredClaimsModel", "readsTerm", "(IZZZIZ)Z"⟩, 50) := ⟨⟨by decide +kernel, by decide +kernel⟩, List.mem_of_getElem? (i := 855) (by decide +kernel), List.mem_of_getElem? (i := 1031) (by decide +kernel), List.mem_of_getElem? (i := 1032) (by decide +kernel)⟩
theorem lw_p27 : lw_okq (⟨"SteeredClaimsModel", "partsOf", "(IZZZIZ)I"⟩, 50) := ⟨⟨by decide +kernel, by decide +kernel⟩, List.mem_of_getElem? (i := 855) (by decide +kernel), List.mem_of_getElem? (i := 1035) (by decide +kernel), List.mem_of_getElem? (i := 1036) (by decide +kernel)⟩
theorem lw_p28 : lw_okq (⟨"SteeredClaimsModel", "reads", "(I)Z"⟩, 50) := ⟨⟨by decide +kernel, by decide +kernel⟩, List.mem_of_getElem? (i := 855) (by decide +kernel), List.mem_of_getElem? (i := 1042) (by decide +kernel), List.mem_of_getElem? (i := 1043) (by decide +kernel)⟩
theorem lw_p29 : lw_okq (⟨"SteeredClaimsModel", "keepsBody", "(II)V"⟩, 50) := ⟨⟨by decide +kernel, by decide +kernel⟩, List.mem_of_getElem? (i := 855) (by decide +kernel), List.mem_of_getElem? (i := 1046) (by decide +kernel), List.mem_of_getElem? (i := 1047) (by decide +kernel)⟩
theorem lw_p30 : lw_okq (⟨"SteeredClaimsModel", "isFunction", "(I)Z"⟩, 50) := ⟨⟨by decide +kernel, by decide +kernel⟩, List.mem_of_getElem? (i := 855) (by decide +kernel), List.mem_of_getElem? (i := 1054) (by decide +kernel), List.mem_of_getElem? (i := 1055) (by decide +kernel)⟩
theorem lw_p31 : lw_okq (⟨"SteeredClaimsModel", "bodyLong", "(II)I"⟩, 50) := ⟨⟨by decide +kernel, by decide +kernel⟩, List.mem_of_getElem? (i := 855) (by decide +kernel), List.mem_of_getElem? (i := 1058) (by decide +kernel), List.mem_of_getElem? (i := 1059) (by decide +kernel)⟩
def lw_privs_2 : List (MethodName × Nat) := [(⟨"SteeredClaims$Claim", "putVariable", "(LSteeredClaims$Term;IILSteeredClaims$Term;)V"⟩, 2), (⟨"SteeredClaims$Prover", "attempt", "(I)I"⟩, 10), (⟨"SteeredClaims$Prover", "fail", "(II)I"⟩, 10), (⟨"SteeredClaims$Prover", "normalize", "(LSteeredClaims$Claim;LSteeredClaims$Claim;IIZ)Z"⟩, 10), (⟨"SteeredClaims$Prover", "succeed", "(I)I"⟩, 10), (⟨"SteeredClaims$Prover", "proveCase", "(IIII)I"⟩, 10), (⟨"SteeredClaims$Prover", "ripple", "(LSteeredClaims$Term;LSteeredClaims$Term;I)V"⟩, 10), (⟨"SteeredClaims$Prover", "useClaim", "(LSteeredClaims$Claim;LSteeredClaims$Claim;I)Z"⟩, 10), (⟨"SteeredClaims$Prover", "guess", "(LSteeredClaims$Claim;LSteeredClaims$Claim;)I"⟩, 10), (⟨"SteeredClaimsModel", "readsFunction", "(II)Z"⟩, 50), (⟨"SteeredClaimsModel", "readsTerm", "(IZZZIZ)Z"⟩, 50), (⟨"SteeredClaimsModel", "partsOf", "(IZZZIZ)I"⟩, 50), (⟨"SteeredClaimsModel", "reads", "(I)Z"⟩, 50), (⟨"SteeredClaimsModel", "keepsBody", "(II)V"⟩, 50), (⟨"SteeredClaimsModel", "isFunction", "(I)Z"⟩, 50), (⟨"SteeredClaimsModel", "bodyLong", "(II)I"⟩, 50)]
theorem lw_r2 : ∀ q ∈ lw_privs_2, lw_okq q := List.forall_mem_cons.mpr ⟨lw_p16, List.forall_mem_cons.mpr ⟨lw_p17, List.forall_mem_cons.mpr ⟨lw_p18, List.forall_mem_cons.mpr ⟨lw_p19, List.forall_mem_cons.mpr ⟨lw_p20, List.forall_mem_cons.mpr ⟨lw_p21, List.forall_mem_cons.mpr ⟨lw_p22, List.forall_mem_cons.mpr ⟨lw_p23, List.forall_mem_cons.mpr ⟨lw_p24, List.forall_mem_cons.mpr ⟨lw_p25, List.forall_mem_cons.mpr ⟨lw_p26, List.forall_mem_cons.mpr ⟨lw_p27, List.forall_mem_cons.mpr ⟨lw_p28, List.forall_mem_cons.mpr ⟨lw_p29, List.forall_mem_cons.mpr ⟨lw_p30, List.forall_mem_cons.mpr ⟨lw_p31, fun _ h => absurd h List.not_mem_nil⟩⟩⟩⟩⟩⟩⟩⟩⟩⟩⟩⟩⟩⟩⟩⟩
theorem lw_p32 : lw_okq (⟨"SteeredClaimsModel", "readsClaim", "()Z"⟩, 50) := ⟨⟨by decide +kernel, by decide +kernel⟩, List.mem_of_getElem? (i := 855) (by decide +kernel), List.mem_of_getElem? (i := 1070) (by decide +kernel), List.mem_of_getElem? (i := 1071) (by decide +kernel)⟩
theorem lw_p33 : lw_okq (⟨"SteeredClaimsModel", "keepsSide", "(I)V"⟩, 50) := ⟨⟨by decide +kernel, by decide +kernel⟩, List.mem_of_getElem? (i := 855) (by decide +kernel), List.mem_of_getElem? (i := 1074) (by decide +kernel), List.mem_of_getElem? (i := 1075) (by decide +kernel)⟩
theorem lw_p34 : lw_okq (⟨"SteeredClaimsModel", "puts", "(II)V"⟩, 50) := ⟨⟨by decide +kernel, by decide +kernel⟩, List.mem_of_getElem? (i := 855) (by decide +kernel), List.mem_of_getElem? (i := 1078) (by decide +kernel), List.mem_of_getElem? (i := 1079) (by decide +kernel)⟩
theorem lw_p35 : lw_okq (⟨"SteeredClaimsModel", "copies", "(II)V"⟩, 50) := ⟨⟨by decide +kernel, by decide +kernel⟩, List.mem_of_getElem? (i := 855) (by decide +kernel), List.mem_of_getElem? (i := 1082) (by decide +kernel), List.mem_of_getElem? (i := 1083) (by decide +kernel)⟩
theorem lw_p36 : lw_okq (⟨"SteeredClaimsModel", "at", "(II)I"⟩, 50) := ⟨⟨by decide +kernel, by decide +kernel⟩, List.mem_of_getElem? (i := 855) (by decide +kernel), List.mem_of_getElem? (i := 1086) (by decide +kernel), List.mem_of_getElem? (i := 1087) (by decide +kernel)⟩
theorem lw_p37 : lw_okq (⟨"SteeredClaimsModel", "told", "(II)I"⟩, 50) := ⟨⟨by decide +kernel, by decide +kernel⟩, List.mem_of_getElem? (i := 855) (by decide +kernel), List.mem_of_getElem? (i := 1094) (by decide +kernel), List.mem_of_getElem? (i := 1095) (by decide +kernel)⟩
theorem lw_p38 : lw_okq (⟨"SteeredClaimsModel", "calls", "(III)Z"⟩, 50) := ⟨⟨by decide +kernel, by decide +kernel⟩, List.mem_of_getElem? (i := 855) (by decide +kernel), List.mem_of_getElem? (i := 1106) (by decide +kernel), List.mem_of_getElem? (i := 1107) (by decide +kernel)⟩
theorem lw_p39 : lw_okq (⟨"SteeredClaimsModel", "enters", "(IIIII)V"⟩, 50) := ⟨⟨by decide +kernel, by decide +kernel⟩, List.mem_of_getElem? (i := 855) (by decide +kernel), List.mem_of_getElem? (i := 1110) (by decide +kernel), List.mem_of_getElem? (i := 1111) (by decide +kernel)⟩
theorem lw_p40 : lw_okq (⟨"SteeredClaimsModel", "works", "()I"⟩, 50) := ⟨⟨by decide +kernel, by decide +kernel⟩, List.mem_of_getElem? (i := 855) (by decide +kernel), List.mem_of_getElem? (i := 1114) (by decide +kernel), List.mem_of_getElem? (i := 1115) (by decide +kernel)⟩
theorem lw_p41 : lw_okq (⟨"SteeredClaimsModel", "signOf", "(II)I"⟩, 50) := ⟨⟨by decide +kernel, by decide +kernel⟩, List.mem_of_getElem? (i := 855) (by decide +kernel), List.mem_of_getElem? (i := 1118) (by decide +kernel), List.mem_of_getElem? (i := 1119) (by decide +kernel)⟩
theorem lw_p42 : lw_okq (⟨"SteeredClaimsModel", "takesSign", "(II)Z"⟩, 50) := ⟨⟨by decide +kernel, by decide +kernel⟩, List.mem_of_getElem? (i := 855) (by decide +kernel), List.mem_of_getElem? (i := 1122) (by decide +kernel), List.mem_of_getElem? (i := 1123) (by decide +kernel)⟩
theorem lw_p43 : lw_okq (⟨"SteeredClaimsModel", "holdsBy", "(IIIII)I"⟩, 50) := ⟨⟨by decide +kernel, by decide +kernel⟩, List.mem_of_getElem? (i := 855) (by decide +kernel), List.mem_of_getElem? (i := 1130) (by decide +kernel), List.mem_of_getElem? (i := 1131) (by decide +kernel)⟩
theorem lw_p44 : lw_okq (⟨"SteeredClaimsModel", "valueOf", "(IIII)I"⟩, 50) := ⟨⟨by decide +kernel, by decide +kernel⟩, List.mem_of_getElem? (i := 855) (by decide +kernel), List.mem_of_getElem? (i := 1134) (by decide +kernel), List.mem_of_getElem? (i := 1135) (by decide +kernel)⟩
theorem lw_p45 : lw_okq (⟨"SteeredClaimsModel", "counterexample", "(II)I"⟩, 50) := ⟨⟨by decide +kernel, by decide +kernel⟩, List.mem_of_getElem? (i := 855) (by decide +kernel), List.mem_of_getElem? (i := 1142) (by decide +kernel), List.mem_of_getElem? (i := 1143) (by decide +kernel)⟩
theorem lw_p46 : lw_okq (⟨"SteeredClaimsModel", "upTo", "(III)I"⟩, 50) := ⟨⟨by decide +kernel, by decide +kernel⟩, List.mem_of_getElem? (i := 855) (by decide +kernel), List.mem_of_getElem? (i := 1146) (by decide +kernel), List.mem_of_getElem? (i := 1147) (by decide +kernel)⟩
theorem lw_p47 : lw_okq (⟨"SteeredClaimsModel", "hasSign", "(II)Z"⟩, 50) := ⟨⟨by decide +kernel, by decide +kernel⟩, List.mem_of_getElem? (i := 855) (by decide +kernel), List.mem_of_getElem? (i := 1150) (by decide +kernel), List.mem_of_getElem? (i := 1151) (by decide +kernel)⟩
def lw_privs_3 : List (MethodName × Nat) := [(⟨"SteeredClaimsModel", "readsClaim", "()Z"⟩, 50), (⟨"SteeredClaimsModel", "keepsSide", "(I)V"⟩, 50), (⟨"SteeredClaimsModel", "puts", "(II)V"⟩, 50), (⟨"SteeredClaimsModel", "copies", "(II)V"⟩, 50), (⟨"SteeredClaimsModel", "at", "(II)I"⟩, 50), (⟨"SteeredClaimsModel", "told", "(II)I"⟩, 50), (⟨"SteeredClaimsModel", "calls", "(III)Z"⟩, 50), (⟨"SteeredClaimsModel", "enters", "(IIIII)V"⟩, 50), (⟨"SteeredClaimsModel", "works", "()I"⟩, 50), (⟨"SteeredClaimsModel", "signOf", "(II)I"⟩, 50), (⟨"SteeredClaimsModel", "takesSign", "(II)Z"⟩, 50), (⟨"SteeredClaimsModel", "holdsBy", "(IIIII)I"⟩, 50), (⟨"SteeredClaimsModel", "valueOf", "(IIII)I"⟩, 50), (⟨"SteeredClaimsModel", "counterexample", "(II)I"⟩, 50), (⟨"SteeredClaimsModel", "upTo", "(III)I"⟩, 50), (⟨"SteeredClaimsModel", "hasSign", "(II)Z"⟩, 50)]
theorem lw_r3 : ∀ q ∈ lw_privs_3, lw_okq q := List.forall_mem_cons.mpr ⟨lw_p32, List.forall_mem_cons.mpr ⟨lw_p33, List.forall_mem_cons.mpr ⟨lw_p34, List.forall_mem_cons.mpr ⟨lw_p35, List.forall_mem_cons.mpr ⟨lw_p36, List.forall_mem_cons.mpr ⟨lw_p37, List.forall_mem_cons.mpr ⟨lw_p38, List.forall_mem_cons.mpr ⟨lw_p39, List.forall_mem_cons.mpr ⟨lw_p40, List.forall_mem_cons.mpr ⟨lw_p41, List.forall_mem_cons.mpr ⟨lw_p42, List.forall_mem_cons.mpr ⟨lw_p43, List.forall_mem_cons.mpr ⟨lw_p44, List.forall_mem_cons.mpr ⟨lw_p45, List.forall_mem_cons.mpr ⟨lw_p46, List.forall_mem_cons.mpr ⟨lw_p47, fun _ h => absurd h List.not_mem_nil⟩⟩⟩⟩⟩⟩⟩⟩⟩⟩⟩⟩⟩⟩⟩⟩
theorem lw_p48 : lw_okq (⟨"SteeredClaimsModel", "makesNormal", "(II)Z"⟩, 50) := ⟨⟨by decide +kernel, by decide +kernel⟩, List.mem_of_getElem? (i := 855) (by decide +kernel), List.mem_of_getElem? (i := 1158) (by decide +kernel), List.mem_of_getElem? (i := 1159) (by decide +kernel)⟩
theorem lw_p49 : lw_okq (⟨"SteeredClaimsModel", "falls", "(I)V"⟩, 50) := ⟨⟨by decide +kernel, by decide +kernel⟩, List.mem_of_getElem? (i := 855) (by decide +kernel), List.mem_of_getElem? (i := 1162) (by decide +kernel), List.mem_of_getElem? (i := 1163) (by decide +kernel)⟩
theorem lw_p50 : lw_okq (⟨"SteeredClaimsModel", "longOf", "(I)I"⟩, 50) := ⟨⟨by decide +kernel, by decide +kernel⟩, List.mem_of_getElem? (i := 855) (by decide +kernel), List.mem_of_getElem? (i := 1166) (by decide +kernel), List.mem_of_getElem? (i := 1167) (by decide +kernel)⟩
theorem lw_p51 : lw_okq (⟨"SteeredClaimsModel", "normalizes", "(II)Z"⟩, 50) := ⟨⟨by decide +kernel, by decide +kernel⟩, List.mem_of_getElem? (i := 855) (by decide +kernel), List.mem_of_getElem? (i := 1170) (by decide +kernel), List.mem_of_getElem? (i := 1171) (by decide +kernel)⟩
theorem lw_p52 : lw_okq (⟨"SteeredClaimsModel", "pushes", "(II)V"⟩, 50) := ⟨⟨by decide +kernel, by decide +kernel⟩, List.mem_of_getElem? (i := 855) (by decide +kernel), List.mem_of_getElem? (i := 1174) (by decide +kernel), List.mem_of_getElem? (i := 1175) (by decide +kernel)⟩
theorem lw_p53 : lw_okq (⟨"SteeredClaimsModel", "pushesSign", "(I)V"⟩, 50) := ⟨⟨by decide +kernel, by decide +kernel⟩, List.mem_of_getElem? (i := 855) (by decide +kernel), List.mem_of_getElem? (i := 1178) (by decide +kernel), List.mem_of_getElem? (i := 1179) (by decide +kernel)⟩
theorem lw_p54 : lw_okq (⟨"SteeredClaimsModel", "joins", "(II)Z"⟩, 50) := ⟨⟨by decide +kernel, by decide +kernel⟩, List.mem_of_getElem? (i := 855) (by decide +kernel), List.mem_of_getElem? (i := 1182) (by decide +kernel), List.mem_of_getElem? (i := 1183) (by decide +kernel)⟩
theorem lw_p55 : lw_okq (⟨"SteeredClaimsModel", "bodyFor", "(I)I"⟩, 50) := ⟨⟨by decide +kernel, by decide +kernel⟩, List.mem_of_getElem? (i := 855) (by decide +kernel), List.mem_of_getElem? (i := 1186) (by decide +kernel), List.mem_of_getElem? (i := 1187) (by decide +kernel)⟩
theorem lw_p56 : lw_okq (⟨"SteeredClaimsModel", "findScheme", "(II)Z"⟩, 50) := ⟨⟨by decide +kernel, by decide +kernel⟩, List.mem_of_getElem? (i := 855) (by decide +kernel), List.mem_of_getElem? (i := 1194) (by decide +kernel), List.mem_of_getElem? (i := 1195) (by decide +kernel)⟩
theorem lw_p57 : lw_okq (⟨"SteeredClaimsModel", "callsIn", "(III)I"⟩, 50) := ⟨⟨by decide +kernel, by decide +kernel⟩, List.mem_of_getElem? (i := 855) (by decide +kernel), List.mem_of_getElem? (i := 1198) (by decide +kernel), List.mem_of_getElem? (i := 1199) (by decide +kernel)⟩
theorem lw_p58 : lw_okq (⟨"SteeredClaimsModel", "differenceOf", "(II)I"⟩, 50) := ⟨⟨by decide +kernel, by decide +kernel⟩, List.mem_of_getElem? (i := 855) (by decide +kernel), List.mem_of_getElem? (i := 1209) (by decide +kernel), List.mem_of_getElem? (i := 1210) (by decide +kernel)⟩
theorem lw_p59 : lw_okq (⟨"SteeredClaimsModel", "findDeep", "(I)V"⟩, 50) := ⟨⟨by decide +kernel, by decide +kernel⟩, List.mem_of_getElem? (i := 855) (by decide +kernel), List.mem_of_getElem? (i := 1213) (by decide +kernel), List.mem_of_getElem? (i := 1214) (by decide +kernel)⟩
theorem lw_p60 : lw_okq (⟨"SteeredClaimsModel", "end", "(II)I"⟩, 50) := ⟨⟨by decide +kernel, by decide +kernel⟩, List.mem_of_getElem? (i := 855) (by decide +kernel), List.mem_of_getElem? (i := 1217) (by decide +kernel), List.mem_of_getElem? (i := 1218) (by decide +kernel)⟩
theorem lw_p61 : lw_okq (⟨"SteeredClaimsModel", "arity", "(I)I"⟩, 50) := ⟨⟨by decide +kernel, by decide +kernel⟩, List.mem_of_getElem? (i := 855) (by decide +kernel), List.mem_of_getElem? (i := 1221) (by decide +kernel), List.mem_of_getElem? (i := 1222) (by decide +kernel)⟩
theorem lw_p62 : lw_okq (⟨"SteeredClaimsModel", "heldAt", "(IIII)I"⟩, 50) := ⟨⟨by decide +kernel, by decide +kernel⟩, List.mem_of_getElem? (i := 855) (by decide +kernel), List.mem_of_getElem? (i := 1225) (by decide +kernel), List.mem_of_getElem? (i := 1226) (by decide +kernel)⟩
theorem lw_p63 : lw_okq (⟨"SteeredClaimsModel", "atMost", "(I)I"⟩, 50) := ⟨⟨by decide +kernel, by decide +kernel⟩, List.mem_of_getElem? (i := 855) (by decide +kernel), List.mem_of_getElem? (i := 1230) (by decide +kernel), List.mem_of_getElem? (i := 1231) (by decide +kernel)⟩
def lw_privs_4 : List (MethodName × Nat) := [(⟨"SteeredClaimsModel", "makesNormal", "(II)Z"⟩, 50), (⟨"SteeredClaimsModel", "falls", "(I)V"⟩, 50), (⟨"SteeredClaimsModel", "longOf", "(I)I"⟩, 50), (⟨"SteeredClaimsModel", "normalizes", "(II)Z"⟩, 50), (⟨"SteeredClaimsModel", "pushes", "(II)V"⟩, 50), (⟨"SteeredClaimsModel", "pushesSign", "(I)V"⟩, 50), (⟨"SteeredClaimsModel", "joins", "(II)Z"⟩, 50), (⟨"SteeredClaimsModel", "bodyFor", "(I)I"⟩, 50), (⟨"SteeredClaimsModel", "findScheme", "(II)Z"⟩, 50), (⟨"SteeredClaimsModel", "callsIn", "(III)I"⟩, 50), (⟨"SteeredClaimsModel", "differenceOf", "(II)I"⟩, 50), (⟨"SteeredClaimsModel", "findDeep", "(I)V"⟩, 50), (⟨"SteeredClaimsModel", "end", "(II)I"⟩, 50), (⟨"SteeredClaimsModel", "arity", "(I)I"⟩, 50), (⟨"SteeredClaimsModel", "heldAt", "(IIII)I"⟩, 50), (⟨"SteeredClaimsModel", "atMost", "(I)I"⟩, 50)]
theorem lw_r4 : ∀ q ∈ lw_privs_4, lw_okq q := List.forall_mem_cons.mpr ⟨lw_p48, List.forall_mem_cons.mpr ⟨lw_p49, List.forall_mem_cons.mpr ⟨lw_p50, List.forall_mem_cons.mpr ⟨lw_p51, List.forall_mem_cons.mpr ⟨lw_p52, List.forall_mem_cons.mpr ⟨lw_p53, List.forall_mem_cons.mpr ⟨lw_p54, List.forall_mem_cons.mpr ⟨lw_p55, List.forall_mem_cons.mpr ⟨lw_p56, List.forall_mem_cons.mpr ⟨lw_p57, List.forall_mem_cons.mpr ⟨lw_p58, List.forall_mem_cons.mpr ⟨lw_p59, List.forall_mem_cons.mpr ⟨lw_p60, List.forall_mem_cons.mpr ⟨lw_p61, List.forall_mem_cons.mpr ⟨lw_p62, List.forall_mem_cons.mpr ⟨lw_p63, fun _ h => absurd h List.not_mem_nil⟩⟩⟩⟩⟩⟩⟩⟩⟩⟩⟩⟩⟩⟩⟩⟩
theorem lw_p64 : lw_okq (⟨"SteeredClaimsModel", "steers", "(III)V"⟩, 50) := ⟨⟨by decide +kernel, by decide +kernel⟩, List.mem_of_getElem? (i := 855) (by decide +kernel), List.mem_of_getElem? (i := 1238) (by decide +kernel), List.mem_of_getElem? (i := 1239) (by decide +kernel)⟩
theorem lw_p65 : lw_okq (⟨"SteeredClaimsModel", "steersOnce", "(III)Z"⟩, 50) := ⟨⟨by decide +kernel, by decide +kernel⟩, List.mem_of_getElem? (i := 855) (by decide +kernel), List.mem_of_getElem? (i := 1242) (by decide +kernel), List.mem_of_getElem? (i := 1243) (by decide +kernel)⟩
theorem lw_p66 : lw_okq (⟨"SteeredClaimsModel", "isPattern", "(II)Z"⟩, 50) := ⟨⟨by decide +kernel, by decide +kernel⟩, List.mem_of_getElem? (i := 855) (by decide +kernel), List.mem_of_getElem? (i := 1246) (by decide +kernel), List.mem_of_getElem? (i := 1247) (by decide +kernel)⟩
theorem lw_p67 : lw_okq (⟨"SteeredClaimsModel", "matches", "(IIII)Z"⟩, 50) := ⟨⟨by decide +kernel, by decide +kernel⟩, List.mem_of_getElem? (i := 855) (by decide +kernel), List.mem_of_getElem? (i := 1250) (by decide +kernel), List.mem_of_getElem? (i := 1251) (by decide +kernel)⟩
theorem lw_p68 : lw_okq (⟨"SteeredClaimsModel", "binds", "(III)Z"⟩, 50) := ⟨⟨by decide +kernel, by decide +kernel⟩, List.mem_of_getElem? (i := 855) (by decide +kernel), List.mem_of_getElem? (i := 1254) (by decide +kernel), List.mem_of_getElem? (i := 1255) (by decide +kernel)⟩
theorem lw_p69 : lw_okq (⟨"SteeredClaimsModel", "isSamePart", "(IIIII)Z"⟩, 50) := ⟨⟨by decide +kernel, by decide +kernel⟩, List.mem_of_getElem? (i := 855) (by decide +kernel), List.mem_of_getElem? (i := 1258) (by decide +kernel), List.mem_of_getElem? (i := 1259) (by decide +kernel)⟩
theorem lw_p70 : lw_okq (⟨"SteeredClaimsModel", "replaces", "(III)Z"⟩, 50) := ⟨⟨by decide +kernel, by decide +kernel⟩, List.mem_of_getElem? (i := 855) (by decide +kernel), List.mem_of_getElem? (i := 1262) (by decide +kernel), List.mem_of_getElem? (i := 1263) (by decide +kernel)⟩
theorem lw_p71 : lw_okq (⟨"SteeredClaimsModel", "longWith", "(I)I"⟩, 50) := ⟨⟨by decide +kernel, by decide +kernel⟩, List.mem_of_getElem? (i := 855) (by decide +kernel), List.mem_of_getElem? (i := 1266) (by decide +kernel), List.mem_of_getElem? (i := 1267) (by decide +kernel)⟩
theorem lw_p72 : lw_okq (⟨"SteeredClaimsModel", "notesIt", "(II)V"⟩, 50) := ⟨⟨by decide +kernel, by decide +kernel⟩, List.mem_of_getElem? (i := 855) (by decide +kernel), List.mem_of_getElem? (i := 1270) (by decide +kernel), List.mem_of_getElem? (i := 1271) (by decide +kernel)⟩
theorem lw_p73 : lw_okq (⟨"SteeredClaimsModel", "findCommon", "(II)Z"⟩, 50) := ⟨⟨by decide +kernel, by decide +kernel⟩, List.mem_of_getElem? (i := 855) (by decide +kernel), List.mem_of_getElem? (i := 1278) (by decide +kernel), List.mem_of_getElem? (i := 1279) (by decide +kernel)⟩
theorem lw_p74 : lw_okq (⟨"SteeredClaimsModel", "isPartOf", "(IIII)Z"⟩, 50) := ⟨⟨by decide +kernel, by decide +kernel⟩, List.mem_of_getElem? (i := 855) (by decide +kernel), List.mem_of_getElem? (i := 1282) (by decide +kernel), List.mem_of_getElem? (i := 1283) (by decide +kernel)⟩
theorem lw_p75 : lw_okq (⟨"SteeredClaimsModel", "makesGeneral", "(II)I"⟩, 50) := ⟨⟨by decide +kernel, by decide +kernel⟩, List.mem_of_getElem? (i := 855) (by decide +kernel), List.mem_of_getElem? (i := 1290) (by decide +kernel), List.mem_of_getElem? (i := 1291) (by decide +kernel)⟩
theorem lw_p76 : lw_okq (⟨"SteeredClaimsModel", "generalizes", "(IIII)V"⟩, 50) := ⟨⟨by decide +kernel, by decide +kernel⟩, List.mem_of_getElem? (i := 855) (by decide +kernel), List.mem_of_getElem? (i := 1294) (by decide +kernel), List.mem_of_getElem? (i := 1295) (by decide +kernel)⟩
theorem lw_p77 : lw_okq (⟨"SteeredClaimsModel", "slotOf", "(II)I"⟩, 50) := ⟨⟨by decide +kernel, by decide +kernel⟩, List.mem_of_getElem? (i := 855) (by decide +kernel), List.mem_of_getElem? (i := 1302) (by decide +kernel), List.mem_of_getElem? (i := 1303) (by decide +kernel)⟩
theorem lw_p78 : lw_okq (⟨"SteeredClaimsModel", "begins", "()I"⟩, 50) := ⟨⟨by decide +kernel, by decide +kernel⟩, List.mem_of_getElem? (i := 855) (by decide +kernel), List.mem_of_getElem? (i := 1306) (by decide +kernel), List.mem_of_getElem? (i := 1307) (by decide +kernel)⟩
theorem lw_p79 : lw_okq (⟨"SteeredClaimsModel", "fails", "(IZ)I"⟩, 50) := ⟨⟨by decide +kernel, by decide +kernel⟩, List.mem_of_getElem? (i := 855) (by decide +kernel), List.mem_of_getElem? (i := 1310) (by decide +kernel), List.mem_of_getElem? (i := 1311) (by decide +kernel)⟩
def lw_privs_5 : List (MethodName × Nat) := [(⟨"SteeredClaimsModel", "steers", "(III)V"⟩, 50), (⟨"SteeredClaimsModel", "steersOnce", "(III)Z"⟩, 50), (⟨"SteeredClaimsModel", "isPattern", "(II)Z"⟩, 50), (⟨"SteeredClaimsModel", "matches", "(IIII)Z"⟩, 50), (⟨"SteeredClaimsModel", "binds", "(III)Z"⟩, 50), (⟨"SteeredClaimsModel", "isSamePart", "(IIIII)Z"⟩, 50), (⟨"SteeredClaimsModel", "replaces", "(III)Z"⟩, 50), (⟨"SteeredClaimsModel", "longWith", "(I)I"⟩, 50), (⟨"SteeredClaimsModel", "notesIt", "(II)V"⟩, 50), (⟨"SteeredClaimsModel", "findCommon", "(II)Z"⟩, 50), (⟨"SteeredClaimsModel", "isPartOf", "(IIII)Z"⟩, 50), (⟨"SteeredClaimsModel", "makesGeneral", "(II)I"⟩, 50), (⟨"SteeredClaimsModel", "generalizes", "(IIII)V"⟩, 50), (⟨"SteeredClaimsModel", "slotOf", "(II)I"⟩, 50), (⟨"SteeredClaimsModel", "begins", "()I"⟩, 50), (⟨"SteeredClaimsModel", "fails", "(IZ)I"⟩, 50)]
theorem lw_r5 : ∀ q ∈ lw_privs_5, lw_okq q := List.forall_mem_cons.mpr ⟨lw_p64, List.forall_mem_cons.mpr ⟨lw_p65, List.forall_mem_cons.mpr ⟨lw_p66, List.forall_mem_cons.mpr ⟨lw_p67, List.forall_mem_cons.mpr ⟨lw_p68, List.forall_mem_cons.mpr ⟨lw_p69, List.forall_mem_cons.mpr ⟨lw_p70, List.forall_mem_cons.mpr ⟨lw_p71, List.forall_mem_cons.mpr ⟨lw_p72, List.forall_mem_cons.mpr ⟨lw_p73, List.forall_mem_cons.mpr ⟨lw_p74, List.forall_mem_cons.mpr ⟨lw_p75, List.forall_mem_cons.mpr ⟨lw_p76, List.forall_mem_cons.mpr ⟨lw_p77, List.forall_mem_cons.mpr ⟨lw_p78, List.forall_mem_cons.mpr ⟨lw_p79, fun _ h => absurd h List.not_mem_nil⟩⟩⟩⟩⟩⟩⟩⟩⟩⟩⟩⟩⟩⟩⟩⟩
theorem lw_p80 : lw_okq (⟨"SteeredClaimsModel", "areSame", "(II)Z"⟩, 50) := ⟨⟨by decide +kernel, by decide +kernel⟩, List.mem_of_getElem? (i := 855) (by decide +kernel), List.mem_of_getElem? (i := 1314) (by decide +kernel), List.mem_of_getElem? (i := 1315) (by decide +kernel)⟩
theorem lw_p81 : lw_okq (⟨"SteeredClaimsModel", "proves", "()I"⟩, 50) := ⟨⟨by decide +kernel, by decide +kernel⟩, List.mem_of_getElem? (i := 855) (by decide +kernel), List.mem_of_getElem? (i := 1318) (by decide +kernel), List.mem_of_getElem? (i := 1319) (by decide +kernel)⟩
theorem lw_p82 : lw_okq (⟨"SteeredClaimsModel", "isLemma", "(II)Z"⟩, 50) := ⟨⟨by decide +kernel, by decide +kernel⟩, List.mem_of_getElem? (i := 855) (by decide +kernel), List.mem_of_getElem? (i := 1322) (by decide +kernel), List.mem_of_getElem? (i := 1323) (by decide +kernel)⟩
theorem lw_p83 : lw_okq (⟨"SteeredClaimsModel", "nextCase", "()I"⟩, 50) := ⟨⟨by decide +kernel, by decide +kernel⟩, List.mem_of_getElem? (i := 855) (by decide +kernel), List.mem_of_getElem? (i := 1326) (by decide +kernel), List.mem_of_getElem? (i := 1327) (by decide +kernel)⟩
theorem lw_p84 : lw_okq (⟨"SteeredClaimsModel", "takesCase", "(I)V"⟩, 50) := ⟨⟨by decide +kernel, by decide +kernel⟩, List.mem_of_getElem? (i := 855) (by decide +kernel), List.mem_of_getElem? (i := 1330) (by decide +kernel), List.mem_of_getElem? (i := 1331) (by decide +kernel)⟩
theorem lw_p85 : lw_okq (⟨"SteeredClaimsModel", "normalGoal", "()Z"⟩, 50) := ⟨⟨by decide +kernel, by decide +kernel⟩, List.mem_of_getElem? (i := 855) (by decide +kernel), List.mem_of_getElem? (i := 1334) (by decide +kernel), List.mem_of_getElem? (i := 1335) (by decide +kernel)⟩
theorem lw_p86 : lw_okq (⟨"SteeredClaimsModel", "carries", "()Z"⟩, 50) := ⟨⟨by decide +kernel, by decide +kernel⟩, List.mem_of_getElem? (i := 855) (by decide +kernel), List.mem_of_getElem? (i := 1338) (by decide +kernel), List.mem_of_getElem? (i := 1339) (by decide +kernel)⟩
theorem lw_p87 : lw_okq (⟨"SteeredClaimsModel", "usesClaim", "(I)I"⟩, 50) := ⟨⟨by decide +kernel, by decide +kernel⟩, List.mem_of_getElem? (i := 855) (by decide +kernel), List.mem_of_getElem? (i := 1342) (by decide +kernel), List.mem_of_getElem? (i := 1343) (by decide +kernel)⟩
theorem lw_p88 : lw_okq (⟨"SteeredClaimsModel", "guesses", "()I"⟩, 50) := ⟨⟨by decide +kernel, by decide +kernel⟩, List.mem_of_getElem? (i := 855) (by decide +kernel), List.mem_of_getElem? (i := 1346) (by decide +kernel), List.mem_of_getElem? (i := 1347) (by decide +kernel)⟩
theorem lw_p89 : lw_okq (⟨"SteeredClaimsModel", "isKnown", "(I)Z"⟩, 50) := ⟨⟨by decide +kernel, by decide +kernel⟩, List.mem_of_getElem? (i := 855) (by decide +kernel), List.mem_of_getElem? (i := 1362) (by decide +kernel), List.mem_of_getElem? (i := 1363) (by decide +kernel)⟩
def lw_privs_6 : List (MethodName × Nat) := [(⟨"SteeredClaimsModel", "areSame", "(II)Z"⟩, 50), (⟨"SteeredClaimsModel", "proves", "()I"⟩, 50), (⟨"SteeredClaimsModel", "isLemma", "(II)Z"⟩, 50), (⟨"SteeredClaimsModel", "nextCase", "()I"⟩, 50), (⟨"SteeredClaimsModel", "takesCase", "(I)V"⟩, 50), (⟨"SteeredClaimsModel", "normalGoal", "()Z"⟩, 50), (⟨"SteeredClaimsModel", "carries", "()Z"⟩, 50), (⟨"SteeredClaimsModel", "usesClaim", "(I)I"⟩, 50), (⟨"SteeredClaimsModel", "guesses", "()I"⟩, 50), (⟨"SteeredClaimsModel", "isKnown", "(I)Z"⟩, 50)]
theorem lw_r6 : ∀ q ∈ lw_privs_6, lw_okq q := List.forall_mem_cons.mpr ⟨lw_p80, List.forall_mem_cons.mpr ⟨lw_p81, List.forall_mem_cons.mpr ⟨lw_p82, List.forall_mem_cons.mpr ⟨lw_p83, List.forall_mem_cons.mpr ⟨lw_p84, List.forall_mem_cons.mpr ⟨lw_p85, List.forall_mem_cons.mpr ⟨lw_p86, List.forall_mem_cons.mpr ⟨lw_p87, List.forall_mem_cons.mpr ⟨lw_p88, List.forall_mem_cons.mpr ⟨lw_p89, fun _ h => absurd h List.not_mem_nil⟩⟩⟩⟩⟩⟩⟩⟩⟩⟩
def lw_privs : List (MethodName × Nat) := lw_privs_1 ++ (lw_privs_2 ++ (lw_privs_3 ++ (lw_privs_4 ++ (lw_privs_5 ++ (lw_privs_6)))))
def lw_tbl : List Cond := k2_sels lw_privs ++ tables_1
theorem lw_privs_ok : ∀ q ∈ lw_privs, lw_okq q := by
  show ∀ q ∈ lw_privs_1 ++ (lw_privs_2 ++ (lw_privs_3 ++ (lw_privs_4 ++ (lw_privs_5 ++ (lw_privs_6))))), lw_okq q
  exact List.forall_mem_append.mpr ⟨lw_r1, List.forall_mem_append.mpr ⟨lw_r2, List.forall_mem_append.mpr ⟨lw_r3, List.forall_mem_append.mpr ⟨lw_r4, List.forall_mem_append.mpr ⟨lw_r5, lw_r6⟩⟩⟩⟩⟩

-- ===== names: printed rows of claim/NAMES.whole.lean.txt (names, fields, class list; no word lists) =====
/-! ===== BEGIN printed: names, fields, word lists, decode rows ===== -/
def RX0 : String := "SteeredClaims$Claim"
def TX0 : u_T := fun k => match k with
  | 0 => ("SteeredClaims$Claim", "left", "LSteeredClaims$Term;", true)
  | _ => ("SteeredClaims$Claim", "right", "LSteeredClaims$Term;", true)
def tyX0 : Nat → FieldType := fun k => match k with
  | 0 => .object "SteeredClaims$Term"
  | _ => .object "SteeredClaims$Term"
abbrev wsX00 : List Cond := u_ws RX0 TX0 2
theorem nmX0 : ∀ a, a < 2 → ∀ b, b < 2 → a ≠ b → (TX0 a).2.1 ≠ (TX0 b).2.1 := by decide +kernel
theorem tyX0_ok : ∀ k, k < 2 → parseFieldDescriptor (TX0 k).2.2.1 = some (tyX0 k) := by decide +kernel
abbrev cX0_init : ByteArray := prog_2_method_1_code
def yX0_init : MethodName := ⟨RX0, "<init>", "()V"⟩
abbrev cX0_part : ByteArray := prog_2_method_2_code
def yX0_part : MethodName := ⟨RX0, "part", "(I)LSteeredClaims$Term;"⟩
abbrev cX0_copy : ByteArray := prog_2_method_3_code
def yX0_copy : MethodName := ⟨RX0, "copy", "(LSteeredClaims$Claim;)V"⟩
abbrev cX0_isSame : ByteArray := prog_2_method_4_code
def yX0_isSame : MethodName := ⟨RX0, "isSame", "(LSteeredClaims$Claim;)Z"⟩
abbrev cX0_isTrivial : ByteArray := prog_2_method_5_code
def yX0_isTrivial : MethodName := ⟨RX0, "isTrivial", "()Z"⟩
abbrev cX0_has : ByteArray := prog_2_method_6_code
def yX0_has : MethodName := ⟨RX0, "has", "(I)Z"⟩
abbrev cX0_callsOf : ByteArray := prog_2_method_7_code
def yX0_callsOf : MethodName := ⟨RX0, "callsOf", "(I)I"⟩
abbrev cX0_deepestCall : ByteArray := prog_2_method_8_code
def yX0_deepestCall : MethodName := ⟨RX0, "deepestCall", "(ILSteeredClaims$Functions;)I"⟩
abbrev cX0_inductionVariable : ByteArray := prog_2_method_9_code
def yX0_inductionVariable : MethodName := ⟨RX0, "inductionVariable", "(LSteeredClaims$Functions;)I"⟩
abbrev cX0_commonStart : ByteArray := prog_2_method_10_code
def yX0_commonStart : MethodName := ⟨RX0, "commonStart", "()I"⟩
abbrev cX0_freeVariable : ByteArray := prog_2_method_11_code
def yX0_freeVariable : MethodName := ⟨RX0, "freeVariable", "()I"⟩
abbrev cX0_generalize : ByteArray := prog_2_method_12_code
def yX0_generalize : MethodName := ⟨RX0, "generalize", "(LSteeredClaims$Claim;LSteeredClaims$Functions;)I"⟩
abbrev cX0_putVariable : ByteArray := prog_2_method_13_code
def yX0_putVariable : MethodName := ⟨RX0, "putVariable", "(LSteeredClaims$Term;IILSteeredClaims$Term;)V"⟩
def RX1 : String := "SteeredClaims$Embedding"
def TX1 : u_T := fun k => match k with
  | 0 => ("SteeredClaims$Embedding", "best", "[I", true)
  | _ => ("SteeredClaims$Embedding", "depth", "[I", true)
def tyX1 : Nat → FieldType := fun k => match k with
  | 0 => .array .int
  | _ => .array .int
abbrev wsX10 : List Cond := u_ws RX1 TX1 2
theorem nmX1 : ∀ a, a < 2 → ∀ b, b < 2 → a ≠ b → (TX1 a).2.1 ≠ (TX1 b).2.1 := by decide +kernel
theorem tyX1_ok : ∀ k, k < 2 → parseFieldDescriptor (TX1 k).2.2.1 = some (tyX1 k) := by decide +kernel
abbrev cX1_init : ByteArray := prog_3_method_1_code
def yX1_init : MethodName := ⟨RX1, "<init>", "()V"⟩
abbrev cX1_smallest : ByteArray := prog_3_method_2_code
def yX1_smallest : MethodName := ⟨RX1, "smallest", "(LSteeredClaims$Term;LSteeredClaims$Term;)I"⟩
abbrev cX1_findDepths : ByteArray := prog_3_method_3_code
def yX1_findDepths : MethodName := ⟨RX1, "findDepths", "(LSteeredClaims$Term;)V"⟩
abbrev cX1_smallestAt : ByteArray := prog_3_method_4_code
def yX1_smallestAt : MethodName := ⟨RX1, "smallestAt", "(LSteeredClaims$Term;ILSteeredClaims$Term;I)I"⟩
def RX2 : String := "SteeredClaims$Evaluator"
def TX2 : u_T := fun k => match k with
  | 0 => ("SteeredClaims$Evaluator", "functions", "LSteeredClaims$Functions;", true)
  | 1 => ("SteeredClaims$Evaluator", "example", "[I", true)
  | 2 => ("SteeredClaims$Evaluator", "work", "I", false)
  | 3 => ("SteeredClaims$Evaluator", "text", "[LSteeredClaims$Term;", true)
  | 4 => ("SteeredClaims$Evaluator", "at", "[I", true)
  | 5 => ("SteeredClaims$Evaluator", "xs", "[I", true)
  | 6 => ("SteeredClaims$Evaluator", "ys", "[I", true)
  | 7 => ("SteeredClaims$Evaluator", "stack", "[I", true)
  | 8 => ("SteeredClaims$Evaluator", "open", "I", false)
  | _ => ("SteeredClaims$Evaluator", "top", "I", false)
def tyX2 : Nat → FieldType := fun k => match k with
  | 0 => .object "SteeredClaims$Functions"
  | 1 => .array .int
  | 2 => .int
  | 3 => .array (.object "SteeredClaims$Term")
  | 4 => .array .int
  | 5 => .array .int
  | 6 => .array .int
  | 7 => .array .int
  | 8 => .int
  | _ => .int
abbrev wsX20 : List Cond := u_ws RX2 TX2 10
theorem nmX2 : ∀ a, a < 10 → ∀ b, b < 10 → a ≠ b → (TX2 a).2.1 ≠ (TX2 b).2.1 := by decide +kernel
theorem tyX2_ok : ∀ k, k < 10 → parseFieldDescriptor (TX2 k).2.2.1 = some (tyX2 k) := by decide +kernel
abbrev cX2_init : ByteArray := prog_4_method_1_code
def yX2_init : MethodName := ⟨RX2, "<init>", "(LSteeredClaims$Functions;)V"⟩
abbrev cX2_refutes : ByteArray := prog_4_method_2_code
def yX2_refutes : MethodName := ⟨RX2, "refutes", "(LSteeredClaims$Claim;)Z"⟩
abbrev cX2_countTriples : ByteArray := prog_4_method_3_code
def yX2_countTriples : MethodName := ⟨RX2, "countTriples", "(LSteeredClaims$Claim;I)I"⟩
abbrev cX2_compare : ByteArray := prog_4_method_4_code
def yX2_compare : MethodName := ⟨RX2, "compare", "(LSteeredClaims$Claim;III)I"⟩
abbrev cX2_valueOf : ByteArray := prog_4_method_5_code
def yX2_valueOf : MethodName := ⟨RX2, "valueOf", "(LSteeredClaims$Term;III)I"⟩
abbrev cX2_take : ByteArray := prog_4_method_6_code
def yX2_take : MethodName := ⟨RX2, "take", "(II)Z"⟩
abbrev cX2_call : ByteArray := prog_4_method_7_code
def yX2_call : MethodName := ⟨RX2, "call", "(I)Z"⟩
def RX3 : String := "SteeredClaims$Functions"
def TX3 : u_T := fun k => match k with
  | 0 => ("SteeredClaims$Functions", "arity", "[I", true)
  | 1 => ("SteeredClaims$Functions", "depth", "[I", true)
  | 2 => ("SteeredClaims$Functions", "bodies", "[LSteeredClaims$Term;", true)
  | 3 => ("SteeredClaims$Functions", "arguments", "[I", true)
  | _ => ("SteeredClaims$Functions", "count", "I", false)
def tyX3 : Nat → FieldType := fun k => match k with
  | 0 => .array .int
  | 1 => .array .int
  | 2 => .array (.object "SteeredClaims$Term")
  | 3 => .array .int
  | _ => .int
abbrev wsX30 : List Cond := u_ws RX3 TX3 5
theorem nmX3 : ∀ a, a < 5 → ∀ b, b < 5 → a ≠ b → (TX3 a).2.1 ≠ (TX3 b).2.1 := by decide +kernel
theorem tyX3_ok : ∀ k, k < 5 → parseFieldDescriptor (TX3 k).2.2.1 = some (tyX3 k) := by decide +kernel
abbrev cX3_init : ByteArray := prog_5_method_1_code
def yX3_init : MethodName := ⟨RX3, "<init>", "()V"⟩
abbrev cX3_define : ByteArray := prog_5_method_2_code
def yX3_define : MethodName := ⟨RX3, "define", "(II[LSteeredClaims$Term;)V"⟩
abbrev cX3_forgetAll : ByteArray := prog_5_method_3_code
def yX3_forgetAll : MethodName := ⟨RX3, "forgetAll", "()V"⟩
abbrev cX3_bodyOf : ByteArray := prog_5_method_4_code
def yX3_bodyOf : MethodName := ⟨RX3, "bodyOf", "(II)LSteeredClaims$Term;"⟩
abbrev cX3_depthOf : ByteArray := prog_5_method_5_code
def yX3_depthOf : MethodName := ⟨RX3, "depthOf", "(I)I"⟩
def RX4 : String := "SteeredClaims$Lemmas"
def TX4 : u_T := fun k => match k with
  | 0 => ("SteeredClaims$Lemmas", "list", "[LSteeredClaims$Claim;", true)
  | 1 => ("SteeredClaims$Lemmas", "count", "I", false)
  | 2 => ("SteeredClaims$Lemmas", "embedding", "LSteeredClaims$Embedding;", true)
  | 3 => ("SteeredClaims$Lemmas", "matcher", "LSteeredClaims$Matcher;", true)
  | _ => ("SteeredClaims$Lemmas", "next", "LSteeredClaims$Term;", true)
def tyX4 : Nat → FieldType := fun k => match k with
  | 0 => .array (.object "SteeredClaims$Claim")
  | 1 => .int
  | 2 => .object "SteeredClaims$Embedding"
  | 3 => .object "SteeredClaims$Matcher"
  | _ => .object "SteeredClaims$Term"
abbrev wsX40 : List Cond := u_ws RX4 TX4 5
theorem nmX4 : ∀ a, a < 5 → ∀ b, b < 5 → a ≠ b → (TX4 a).2.1 ≠ (TX4 b).2.1 := by decide +kernel
theorem tyX4_ok : ∀ k, k < 5 → parseFieldDescriptor (TX4 k).2.2.1 = some (tyX4 k) := by decide +kernel
abbrev cX4_init : ByteArray := prog_6_method_1_code
def yX4_init : MethodName := ⟨RX4, "<init>", "(LSteeredClaims$Embedding;LSteeredClaims$Matcher;)V"⟩
abbrev cX4_keep : ByteArray := prog_6_method_2_code
def yX4_keep : MethodName := ⟨RX4, "keep", "(LSteeredClaims$Claim;)V"⟩
abbrev cX4_ripple : ByteArray := prog_6_method_3_code
def yX4_ripple : MethodName := ⟨RX4, "ripple", "(LSteeredClaims$Term;LSteeredClaims$Term;)I"⟩
abbrev cX4_rewrites : ByteArray := prog_6_method_4_code
def yX4_rewrites : MethodName := ⟨RX4, "rewrites", "(LSteeredClaims$Term;ILSteeredClaims$Claim;I)Z"⟩
abbrev cX4_isUsable : ByteArray := prog_6_method_5_code
def yX4_isUsable : MethodName := ⟨RX4, "isUsable", "(LSteeredClaims$Term;LSteeredClaims$Term;)Z"⟩
def RX5 : String := "SteeredClaims$Matcher"
def TX5 : u_T := fun k => match k with
  | 0 => ("SteeredClaims$Matcher", "functions", "LSteeredClaims$Functions;", true)
  | _ => ("SteeredClaims$Matcher", "start", "[I", true)
def tyX5 : Nat → FieldType := fun k => match k with
  | 0 => .object "SteeredClaims$Functions"
  | _ => .array .int
abbrev wsX50 : List Cond := u_ws RX5 TX5 2
theorem nmX5 : ∀ a, a < 2 → ∀ b, b < 2 → a ≠ b → (TX5 a).2.1 ≠ (TX5 b).2.1 := by decide +kernel
theorem tyX5_ok : ∀ k, k < 2 → parseFieldDescriptor (TX5 k).2.2.1 = some (tyX5 k) := by decide +kernel
abbrev cX5_init : ByteArray := prog_7_method_1_code
def yX5_init : MethodName := ⟨RX5, "<init>", "(LSteeredClaims$Functions;)V"⟩
abbrev cX5_matches : ByteArray := prog_7_method_2_code
def yX5_matches : MethodName := ⟨RX5, "matches", "(LSteeredClaims$Term;LSteeredClaims$Term;II)Z"⟩
abbrev cX5_firstMatch : ByteArray := prog_7_method_3_code
def yX5_firstMatch : MethodName := ⟨RX5, "firstMatch", "(LSteeredClaims$Term;LSteeredClaims$Term;I)I"⟩
abbrev cX5_replace : ByteArray := prog_7_method_4_code
def yX5_replace : MethodName := ⟨RX5, "replace", "(LSteeredClaims$Term;LSteeredClaims$Term;ILSteeredClaims$Term;)Z"⟩
def RX6 : String := "SteeredClaims$Normalizer"
def TX6 : u_T := fun k => match k with
  | 0 => ("SteeredClaims$Normalizer", "functions", "LSteeredClaims$Functions;", true)
  | 1 => ("SteeredClaims$Normalizer", "symbol", "[I", true)
  | 2 => ("SteeredClaims$Normalizer", "first", "[I", true)
  | 3 => ("SteeredClaims$Normalizer", "second", "[I", true)
  | 4 => ("SteeredClaims$Normalizer", "weight", "[I", true)
  | 5 => ("SteeredClaims$Normalizer", "text", "[LSteeredClaims$Term;", true)
  | 6 => ("SteeredClaims$Normalizer", "at", "[I", true)
  | 7 => ("SteeredClaims$Normalizer", "xs", "[I", true)
  | 8 => ("SteeredClaims$Normalizer", "ys", "[I", true)
  | 9 => ("SteeredClaims$Normalizer", "stack", "[I", true)
  | 10 => ("SteeredClaims$Normalizer", "meaning", "[I", true)
  | 11 => ("SteeredClaims$Normalizer", "nodes", "I", false)
  | 12 => ("SteeredClaims$Normalizer", "open", "I", false)
  | 13 => ("SteeredClaims$Normalizer", "top", "I", false)
  | _ => ("SteeredClaims$Normalizer", "used", "I", false)
def tyX6 : Nat → FieldType := fun k => match k with
  | 0 => .object "SteeredClaims$Functions"
  | 1 => .array .int
  | 2 => .array .int
  | 3 => .array .int
  | 4 => .array .int
  | 5 => .array (.object "SteeredClaims$Term")
  | 6 => .array .int
  | 7 => .array .int
  | 8 => .array .int
  | 9 => .array .int
  | 10 => .array .int
  | 11 => .int
  | 12 => .int
  | 13 => .int
  | _ => .int
abbrev wsX60 : List Cond := u_ws RX6 TX6 15
theorem nmX6 : ∀ a, a < 15 → ∀ b, b < 15 → a ≠ b → (TX6 a).2.1 ≠ (TX6 b).2.1 := by decide +kernel
theorem tyX6_ok : ∀ k, k < 15 → parseFieldDescriptor (TX6 k).2.2.1 = some (tyX6 k) := by decide +kernel
abbrev cX6_init : ByteArray := prog_8_method_1_code
def yX6_init : MethodName := ⟨RX6, "<init>", "(LSteeredClaims$Functions;)V"⟩
abbrev cX6_rewrite : ByteArray := prog_8_method_2_code
def yX6_rewrite : MethodName := ⟨RX6, "rewrite", "(LSteeredClaims$Term;LSteeredClaims$Term;IIZ)Z"⟩
abbrev cX6_run : ByteArray := prog_8_method_3_code
def yX6_run : MethodName := ⟨RX6, "run", "(LSteeredClaims$Term;)Z"⟩
abbrev cX6_take : ByteArray := prog_8_method_4_code
def yX6_take : MethodName := ⟨RX6, "take", "(I)Z"⟩
abbrev cX6_apply : ByteArray := prog_8_method_5_code
def yX6_apply : MethodName := ⟨RX6, "apply", "(I)Z"⟩
abbrev cX6_bodyFor : ByteArray := prog_8_method_6_code
def yX6_bodyFor : MethodName := ⟨RX6, "bodyFor", "(II)I"⟩
abbrev cX6_make : ByteArray := prog_8_method_7_code
def yX6_make : MethodName := ⟨RX6, "make", "(III)I"⟩
abbrev cX6_push : ByteArray := prog_8_method_8_code
def yX6_push : MethodName := ⟨RX6, "push", "(I)Z"⟩
abbrev cX6_write : ByteArray := prog_8_method_9_code
def yX6_write : MethodName := ⟨RX6, "write", "(LSteeredClaims$Term;)V"⟩
def RX7 : String := "SteeredClaims$Notes"
def TX7 : u_T := fun k => match k with
  | 0 => ("SteeredClaims$Notes", "kind", "[I", true)
  | 1 => ("SteeredClaims$Notes", "number", "[I", true)
  | 2 => ("SteeredClaims$Notes", "cause", "[I", true)
  | 3 => ("SteeredClaims$Notes", "count", "I", false)
  | _ => ("SteeredClaims$Notes", "causes", "I", false)
def tyX7 : Nat → FieldType := fun k => match k with
  | 0 => .array .int
  | 1 => .array .int
  | 2 => .array .int
  | 3 => .int
  | _ => .int
abbrev wsX70 : List Cond := u_ws RX7 TX7 5
theorem nmX7 : ∀ a, a < 5 → ∀ b, b < 5 → a ≠ b → (TX7 a).2.1 ≠ (TX7 b).2.1 := by decide +kernel
theorem tyX7_ok : ∀ k, k < 5 → parseFieldDescriptor (TX7 k).2.2.1 = some (tyX7 k) := by decide +kernel
abbrev cX7_init : ByteArray := prog_9_method_1_code
def yX7_init : MethodName := ⟨RX7, "<init>", "()V"⟩
abbrev cX7_empty : ByteArray := prog_9_method_2_code
def yX7_empty : MethodName := ⟨RX7, "empty", "()V"⟩
abbrev cX7_write : ByteArray := prog_9_method_3_code
def yX7_write : MethodName := ⟨RX7, "write", "(II)V"⟩
abbrev cX7_blame : ByteArray := prog_9_method_4_code
def yX7_blame : MethodName := ⟨RX7, "blame", "(II)V"⟩
def RX8 : String := "SteeredClaims$Prover"
def TX8 : u_T := fun k => match k with
  | 0 => ("SteeredClaims$Prover", "start", "[LSteeredClaims$Claim;", true)
  | 1 => ("SteeredClaims$Prover", "claims", "[LSteeredClaims$Claim;", true)
  | 2 => ("SteeredClaims$Prover", "goals", "[LSteeredClaims$Claim;", true)
  | 3 => ("SteeredClaims$Prover", "draft", "LSteeredClaims$Term;", true)
  | 4 => ("SteeredClaims$Prover", "functions", "LSteeredClaims$Functions;", true)
  | 5 => ("SteeredClaims$Prover", "evaluator", "LSteeredClaims$Evaluator;", true)
  | 6 => ("SteeredClaims$Prover", "normalizer", "LSteeredClaims$Normalizer;", true)
  | 7 => ("SteeredClaims$Prover", "matcher", "LSteeredClaims$Matcher;", true)
  | 8 => ("SteeredClaims$Prover", "lemmas", "LSteeredClaims$Lemmas;", true)
  | _ => ("SteeredClaims$Prover", "notes", "LSteeredClaims$Notes;", true)
def tyX8 : Nat → FieldType := fun k => match k with
  | 0 => .array (.object "SteeredClaims$Claim")
  | 1 => .array (.object "SteeredClaims$Claim")
  | 2 => .array (.object "SteeredClaims$Claim")
  | 3 => .object "SteeredClaims$Term"
  | 4 => .object "SteeredClaims$Functions"
  | 5 => .object "SteeredClaims$Evaluator"
  | 6 => .object "SteeredClaims$Normalizer"
  | 7 => .object "SteeredClaims$Matcher"
  | 8 => .object "SteeredClaims$Lemmas"
  | _ => .object "SteeredClaims$Notes"
abbrev wsX80 : List Cond := u_ws RX8 TX8 10
theorem nmX8 : ∀ a, a < 10 → ∀ b, b < 10 → a ≠ b → (TX8 a).2.1 ≠ (TX8 b).2.1 := by decide +kernel
theorem tyX8_ok : ∀ k, k < 10 → parseFieldDescriptor (TX8 k).2.2.1 = some (tyX8 k) := by decide +kernel
abbrev cX8_init : ByteArray := prog_10_method_1_code
def yX8_init : MethodName := ⟨RX8, "<init>", "(LSteeredClaims$Functions;LSteeredClaims$Evaluator;LSteeredClaims$Normalizer;LSteeredClaims$Matcher;LSteeredClaims$Lemmas;LSteeredClaims$Notes;)V"⟩
abbrev cX8_attempt : ByteArray := prog_10_method_2_code
def yX8_attempt : MethodName := ⟨RX8, "attempt", "(I)I"⟩
abbrev cX8_proveCase : ByteArray := prog_10_method_3_code
def yX8_proveCase : MethodName := ⟨RX8, "proveCase", "(IIII)I"⟩
abbrev cX8_normalize : ByteArray := prog_10_method_4_code
def yX8_normalize : MethodName := ⟨RX8, "normalize", "(LSteeredClaims$Claim;LSteeredClaims$Claim;IIZ)Z"⟩
abbrev cX8_ripple : ByteArray := prog_10_method_5_code
def yX8_ripple : MethodName := ⟨RX8, "ripple", "(LSteeredClaims$Term;LSteeredClaims$Term;I)V"⟩
abbrev cX8_useClaim : ByteArray := prog_10_method_6_code
def yX8_useClaim : MethodName := ⟨RX8, "useClaim", "(LSteeredClaims$Claim;LSteeredClaims$Claim;I)Z"⟩
abbrev cX8_guess : ByteArray := prog_10_method_7_code
def yX8_guess : MethodName := ⟨RX8, "guess", "(LSteeredClaims$Claim;LSteeredClaims$Claim;)I"⟩
abbrev cX8_fail : ByteArray := prog_10_method_8_code
def yX8_fail : MethodName := ⟨RX8, "fail", "(II)I"⟩
abbrev cX8_succeed : ByteArray := prog_10_method_9_code
def yX8_succeed : MethodName := ⟨RX8, "succeed", "(I)I"⟩
def RX9 : String := "SteeredClaims$Reader"
def TX9 : u_T := fun k => match k with
  | 0 => ("SteeredClaims$Reader", "tape", "[I", true)
  | 1 => ("SteeredClaims$Reader", "parts", "[LSteeredClaims$Term;", true)
  | 2 => ("SteeredClaims$Reader", "functions", "LSteeredClaims$Functions;", true)
  | 3 => ("SteeredClaims$Reader", "count", "I", false)
  | 4 => ("SteeredClaims$Reader", "at", "I", false)
  | 5 => ("SteeredClaims$Reader", "ownArity", "I", false)
  | 6 => ("SteeredClaims$Reader", "ownAllowed", "Z", false)
  | 7 => ("SteeredClaims$Reader", "xAllowed", "Z", false)
  | 8 => ("SteeredClaims$Reader", "yAllowed", "Z", false)
  | _ => ("SteeredClaims$Reader", "zAllowed", "Z", false)
def tyX9 : Nat → FieldType := fun k => match k with
  | 0 => .array .int
  | 1 => .array (.object "SteeredClaims$Term")
  | 2 => .object "SteeredClaims$Functions"
  | 3 => .int
  | 4 => .int
  | 5 => .int
  | 6 => .boolean
  | 7 => .boolean
  | 8 => .boolean
  | _ => .boolean
abbrev wsX90 : List Cond := u_ws RX9 TX9 10
theorem nmX9 : ∀ a, a < 10 → ∀ b, b < 10 → a ≠ b → (TX9 a).2.1 ≠ (TX9 b).2.1 := by decide +kernel
theorem tyX9_ok : ∀ k, k < 10 → parseFieldDescriptor (TX9 k).2.2.1 = some (tyX9 k) := by decide +kernel
abbrev cX9_init : ByteArray := prog_11_method_1_code
def yX9_init : MethodName := ⟨RX9, "<init>", "(LSteeredClaims$Functions;)V"⟩
abbrev cX9_put : ByteArray := prog_11_method_2_code
def yX9_put : MethodName := ⟨RX9, "put", "(I)V"⟩
abbrev cX9_readFunction : ByteArray := prog_11_method_3_code
def yX9_readFunction : MethodName := ⟨RX9, "readFunction", "(II)Z"⟩
abbrev cX9_readClaim : ByteArray := prog_11_method_4_code
def yX9_readClaim : MethodName := ⟨RX9, "readClaim", "()Z"⟩
abbrev cX9_pass : ByteArray := prog_11_method_5_code
def yX9_pass : MethodName := ⟨RX9, "pass", "(I)Z"⟩
abbrev cX9_readTerm : ByteArray := prog_11_method_6_code
def yX9_readTerm : MethodName := ⟨RX9, "readTerm", "(LSteeredClaims$Term;I)Z"⟩
abbrev cX9_isOwn : ByteArray := prog_11_method_7_code
def yX9_isOwn : MethodName := ⟨RX9, "isOwn", "(I)Z"⟩
abbrev cX9_argumentsOf : ByteArray := prog_11_method_8_code
def yX9_argumentsOf : MethodName := ⟨RX9, "argumentsOf", "(I)I"⟩
def RX10 : String := "SteeredClaims$Term"
def TX10 : u_T := fun k => match k with
  | 0 => ("SteeredClaims$Term", "code", "[I", true)
  | 1 => ("SteeredClaims$Term", "end", "[I", true)
  | _ => ("SteeredClaims$Term", "size", "I", false)
def tyX10 : Nat → FieldType := fun k => match k with
  | 0 => .array .int
  | 1 => .array .int
  | _ => .int
abbrev wsX100 : List Cond := u_ws RX10 TX10 3
theorem nmX10 : ∀ a, a < 3 → ∀ b, b < 3 → a ≠ b → (TX10 a).2.1 ≠ (TX10 b).2.1 := by decide +kernel
theorem tyX10_ok : ∀ k, k < 3 → parseFieldDescriptor (TX10 k).2.2.1 = some (tyX10 k) := by decide +kernel
abbrev cX10_init : ByteArray := prog_12_method_1_code
def yX10_init : MethodName := ⟨RX10, "<init>", "()V"⟩
abbrev cX10_empty : ByteArray := prog_12_method_2_code
def yX10_empty : MethodName := ⟨RX10, "empty", "()V"⟩
abbrev cX10_add : ByteArray := prog_12_method_3_code
def yX10_add : MethodName := ⟨RX10, "add", "(I)Z"⟩
abbrev cX10_addRange : ByteArray := prog_12_method_4_code
def yX10_addRange : MethodName := ⟨RX10, "addRange", "(LSteeredClaims$Term;II)Z"⟩
abbrev cX10_close : ByteArray := prog_12_method_5_code
def yX10_close : MethodName := ⟨RX10, "close", "([I)V"⟩
abbrev cX10_copy : ByteArray := prog_12_method_6_code
def yX10_copy : MethodName := ⟨RX10, "copy", "(LSteeredClaims$Term;)V"⟩
abbrev cX10_symbolOrSize : ByteArray := prog_12_method_7_code
def yX10_symbolOrSize : MethodName := ⟨RX10, "symbolOrSize", "(I)I"⟩
abbrev cX10_isSame : ByteArray := prog_12_method_8_code
def yX10_isSame : MethodName := ⟨RX10, "isSame", "(LSteeredClaims$Term;)Z"⟩
abbrev cX10_isSameAt : ByteArray := prog_12_method_9_code
def yX10_isSameAt : MethodName := ⟨RX10, "isSameAt", "(ILSteeredClaims$Term;I)Z"⟩
abbrev cX10_has : ByteArray := prog_12_method_10_code
def yX10_has : MethodName := ⟨RX10, "has", "(I)Z"⟩
abbrev cX10_hasSubterm : ByteArray := prog_12_method_11_code
def yX10_hasSubterm : MethodName := ⟨RX10, "hasSubterm", "(LSteeredClaims$Term;I)Z"⟩
abbrev cX10_isCall : ByteArray := prog_12_method_12_code
def yX10_isCall : MethodName := ⟨RX10, "isCall", "(II)Z"⟩
abbrev cX10_isLetter : ByteArray := prog_12_method_13_code
def yX10_isLetter : MethodName := ⟨RX10, "isLetter", "(I)Z"⟩
def RX11 : String := "SteeredClaims"
def TX11 : u_T := fun k => match k with
  | 0 => ("SteeredClaims", "functions", "LSteeredClaims$Functions;", true)
  | 1 => ("SteeredClaims", "reader", "LSteeredClaims$Reader;", true)
  | 2 => ("SteeredClaims", "evaluator", "LSteeredClaims$Evaluator;", true)
  | 3 => ("SteeredClaims", "normalizer", "LSteeredClaims$Normalizer;", true)
  | 4 => ("SteeredClaims", "embedding", "LSteeredClaims$Embedding;", true)
  | 5 => ("SteeredClaims", "lemmas", "LSteeredClaims$Lemmas;", true)
  | 6 => ("SteeredClaims", "notes", "LSteeredClaims$Notes;", true)
  | 7 => ("SteeredClaims", "prover", "LSteeredClaims$Prover;", true)
  | 8 => ("SteeredClaims", "present", "LSteeredClaims$Claim;", true)
  | 9 => ("SteeredClaims", "drafted", "LSteeredClaims$Claim;", true)
  | 10 => ("SteeredClaims", "draft", "LSteeredClaims$Term;", true)
  | _ => ("SteeredClaims", "claimed", "Z", false)
def tyX11 : Nat → FieldType := fun k => match k with
  | 0 => .object "SteeredClaims$Functions"
  | 1 => .object "SteeredClaims$Reader"
  | 2 => .object "SteeredClaims$Evaluator"
  | 3 => .object "SteeredClaims$Normalizer"
  | 4 => .object "SteeredClaims$Embedding"
  | 5 => .object "SteeredClaims$Lemmas"
  | 6 => .object "SteeredClaims$Notes"
  | 7 => .object "SteeredClaims$Prover"
  | 8 => .object "SteeredClaims$Claim"
  | 9 => .object "SteeredClaims$Claim"
  | 10 => .object "SteeredClaims$Term"
  | _ => .boolean
abbrev wsX110 : List Cond := u_ws RX11 TX11 12
theorem nmX11 : ∀ a, a < 12 → ∀ b, b < 12 → a ≠ b → (TX11 a).2.1 ≠ (TX11 b).2.1 := by decide +kernel
theorem tyX11_ok : ∀ k, k < 12 → parseFieldDescriptor (TX11 k).2.2.1 = some (tyX11 k) := by decide +kernel
abbrev cX11_init : ByteArray := prog_1_method_1_code
def yX11_init : MethodName := ⟨RX11, "<init>", "()V"⟩
abbrev cX11_type : ByteArray := prog_1_method_2_code
def yX11_type : MethodName := ⟨RX11, "type", "(I)I"⟩
abbrev cX11_wipe : ByteArray := prog_1_method_3_code
def yX11_wipe : MethodName := ⟨RX11, "wipe", "()I"⟩
abbrev cX11_function : ByteArray := prog_1_method_4_code
def yX11_function : MethodName := ⟨RX11, "function", "(II)I"⟩
abbrev cX11_ofFunction : ByteArray := prog_1_method_5_code
def yX11_ofFunction : MethodName := ⟨RX11, "ofFunction", "(II)I"⟩
abbrev cX11_body : ByteArray := prog_1_method_6_code
def yX11_body : MethodName := ⟨RX11, "body", "(III)I"⟩
abbrev cX11_claim : ByteArray := prog_1_method_7_code
def yX11_claim : MethodName := ⟨RX11, "claim", "()I"⟩
abbrev cX11_side : ByteArray := prog_1_method_8_code
def yX11_side : MethodName := ⟨RX11, "side", "(II)I"⟩
abbrev cX11_anew : ByteArray := prog_1_method_9_code
def yX11_anew : MethodName := ⟨RX11, "anew", "()I"⟩
abbrev cX11_value : ByteArray := prog_1_method_10_code
def yX11_value : MethodName := ⟨RX11, "value", "(IIII)I"⟩
abbrev cX11_holds : ByteArray := prog_1_method_11_code
def yX11_holds : MethodName := ⟨RX11, "holds", "(III)I"⟩
abbrev cX11_counter : ByteArray := prog_1_method_12_code
def yX11_counter : MethodName := ⟨RX11, "counter", "(I)I"⟩
abbrev cX11_normal : ByteArray := prog_1_method_13_code
def yX11_normal : MethodName := ⟨RX11, "normal", "(II)I"⟩
abbrev cX11_scheme : ByteArray := prog_1_method_14_code
def yX11_scheme : MethodName := ⟨RX11, "scheme", "(I)I"⟩
abbrev cX11_difference : ByteArray := prog_1_method_15_code
def yX11_difference : MethodName := ⟨RX11, "difference", "()I"⟩
abbrev cX11_steered : ByteArray := prog_1_method_16_code
def yX11_steered : MethodName := ⟨RX11, "steered", "(I)I"⟩
abbrev cX11_common : ByteArray := prog_1_method_17_code
def yX11_common : MethodName := ⟨RX11, "common", "(I)I"⟩
abbrev cX11_general : ByteArray := prog_1_method_18_code
def yX11_general : MethodName := ⟨RX11, "general", "(II)I"⟩
abbrev cX11_prove : ByteArray := prog_1_method_19_code
def yX11_prove : MethodName := ⟨RX11, "prove", "()I"⟩
abbrev cX11_why : ByteArray := prog_1_method_20_code
def yX11_why : MethodName := ⟨RX11, "why", "(I)I"⟩
abbrev cX11_script : ByteArray := prog_1_method_21_code
def yX11_script : MethodName := ⟨RX11, "script", "(II)I"⟩
abbrev cX11_lemma : ByteArray := prog_1_method_22_code
def yX11_lemma : MethodName := ⟨RX11, "lemma", "(III)I"⟩
abbrev cX11_tested : ByteArray := prog_1_method_23_code
def yX11_tested : MethodName := ⟨RX11, "tested", "(II)I"⟩
abbrev cX11_back : ByteArray := prog_1_method_24_code
def yX11_back : MethodName := ⟨RX11, "back", "()I"⟩
abbrev cX11_many : ByteArray := prog_1_method_25_code
def yX11_many : MethodName := ⟨RX11, "many", "(I)I"⟩
abbrev cX11_isOutside : ByteArray := prog_1_method_26_code
def yX11_isOutside : MethodName := ⟨RX11, "isOutside", "(II)Z"⟩
abbrev cX11_isNoPlace : ByteArray := prog_1_method_27_code
def yX11_isNoPlace : MethodName := ⟨RX11, "isNoPlace", "(II)Z"⟩
def RX12 : String := "SteeredClaimsModel"
def TX12 : u_T := fun k => match k with
  | 0 => ("SteeredClaimsModel", "sign", "[I", true)
  | 1 => ("SteeredClaimsModel", "size", "[I", true)
  | 2 => ("SteeredClaimsModel", "tape", "[I", true)
  | 3 => ("SteeredClaimsModel", "taped", "I", false)
  | 4 => ("SteeredClaimsModel", "functions", "I", false)
  | 5 => ("SteeredClaimsModel", "arityOf", "[I", true)
  | 6 => ("SteeredClaimsModel", "depthOf", "[I", true)
  | 7 => ("SteeredClaimsModel", "bodySign", "[I", true)
  | 8 => ("SteeredClaimsModel", "bodySize", "[I", true)
  | 9 => ("SteeredClaimsModel", "isClaim", "Z", false)
  | 10 => ("SteeredClaimsModel", "place", "I", false)
  | 11 => ("SteeredClaimsModel", "read", "[I", true)
  | 12 => ("SteeredClaimsModel", "reads", "I", false)
  | 13 => ("SteeredClaimsModel", "readArity", "I", false)
  | 14 => ("SteeredClaimsModel", "pile", "[I", true)
  | 15 => ("SteeredClaimsModel", "piled", "I", false)
  | 16 => ("SteeredClaimsModel", "work", "I", false)
  | 17 => ("SteeredClaimsModel", "frameOf", "[I", true)
  | 18 => ("SteeredClaimsModel", "frameAt", "[I", true)
  | 19 => ("SteeredClaimsModel", "frameX", "[I", true)
  | 20 => ("SteeredClaimsModel", "frameY", "[I", true)
  | 21 => ("SteeredClaimsModel", "frameZ", "[I", true)
  | 22 => ("SteeredClaimsModel", "frames", "I", false)
  | 23 => ("SteeredClaimsModel", "heap", "[I", true)
  | 24 => ("SteeredClaimsModel", "from", "[I", true)
  | 25 => ("SteeredClaimsModel", "top", "I", false)
  | 26 => ("SteeredClaimsModel", "bodies", "I", false)
  | 27 => ("SteeredClaimsModel", "frameUnder", "[I", true)
  | 28 => ("SteeredClaimsModel", "schemeVariable", "I", false)
  | 29 => ("SteeredClaimsModel", "schemeDepth", "I", false)
  | 30 => ("SteeredClaimsModel", "schemeCalls", "I", false)
  | 31 => ("SteeredClaimsModel", "held", "[I", true)
  | 32 => ("SteeredClaimsModel", "deep", "[I", true)
  | 33 => ("SteeredClaimsModel", "boundAt", "[I", true)
  | 34 => ("SteeredClaimsModel", "boundLong", "[I", true)
  | 35 => ("SteeredClaimsModel", "lemmas", "I", false)
  | 36 => ("SteeredClaimsModel", "steeredBy", "I", false)
  | 37 => ("SteeredClaimsModel", "commonAt", "I", false)
  | 38 => ("SteeredClaimsModel", "commonLong", "I", false)
  | 39 => ("SteeredClaimsModel", "notes", "I", false)
  | 40 => ("SteeredClaimsModel", "noteKind", "[I", true)
  | 41 => ("SteeredClaimsModel", "noteNumber", "[I", true)
  | 42 => ("SteeredClaimsModel", "outcome", "I", false)
  | 43 => ("SteeredClaimsModel", "failLevel", "I", false)
  | 44 => ("SteeredClaimsModel", "failKind", "I", false)
  | 45 => ("SteeredClaimsModel", "isDeep", "Z", false)
  | 46 => ("SteeredClaimsModel", "level", "I", false)
  | 47 => ("SteeredClaimsModel", "caseOf", "[I", true)
  | 48 => ("SteeredClaimsModel", "variableOf", "[I", true)
  | _ => ("SteeredClaimsModel", "casesOf", "[I", true)
def tyX12 : Nat → FieldType := fun k => match k with
  | 0 => .array .int
  | 1 => .array .int
  | 2 => .array .int
  | 3 => .int
  | 4 => .int
  | 5 => .array .int
  | 6 => .array .int
  | 7 => .array .int
  | 8 => .array .int
  | 9 => .boolean
  | 10 => .int
  | 11 => .array .int
  | 12 => .int
  | 13 => .int
  | 14 => .array .int
  | 15 => .int
  | 16 => .int
  | 17 => .array .int
  | 18 => .array .int
  | 19 => .array .int
  | 20 => .array .int
  | 21 => .array .int
  | 22 => .int
  | 23 => .array .int
  | 24 => .array .int
  | 25 => .int
  | 26 => .int
  | 27 => .array .int
  | 28 => .int
  | 29 => .int
  | 30 => .int
  | 31 => .array .int
  | 32 => .array .int
  | 33 => .array .int
  | 34 => .array .int
  | 35 => .int
  | 36 => .int
  | 37 => .int
  | 38 => .int
  | 39 => .int
  | 40 => .array .int
  | 41 => .array .int
  | 42 => .int
  | 43 => .int
  | 44 => .int
  | 45 => .boolean
  | 46 => .int
  | 47 => .array .int
  | 48 => .array .int
  | _ => .array .int
abbrev wsX120 : List Cond := u_ws RX12 TX12 50
theorem nmX12 : ∀ a, a < 50 → ∀ b, b < 50 → a ≠ b → (TX12 a).2.1 ≠ (TX12 b).2.1 := by decide +kernel
theorem tyX12_ok : ∀ k, k < 50 → parseFieldDescriptor (TX12 k).2.2.1 = some (tyX12 k) := by decide +kernel
abbrev cX12_init : ByteArray := prog_14_method_1_code
def yX12_init : MethodName := ⟨RX12, "<init>", "()V"⟩
abbrev cX12_within : ByteArray := prog_14_method_2_code
def yX12_within : MethodName := ⟨RX12, "within", "(III)Z"⟩
abbrev cX12_at : ByteArray := prog_14_method_3_code
def yX12_at : MethodName := ⟨RX12, "at", "(II)I"⟩
abbrev cX12_puts : ByteArray := prog_14_method_4_code
def yX12_puts : MethodName := ⟨RX12, "puts", "(II)V"⟩
abbrev cX12_copies : ByteArray := prog_14_method_5_code
def yX12_copies : MethodName := ⟨RX12, "copies", "(II)V"⟩
abbrev cX12_isVariable : ByteArray := prog_14_method_6_code
def yX12_isVariable : MethodName := ⟨RX12, "isVariable", "(I)Z"⟩
abbrev cX12_isLetter : ByteArray := prog_14_method_7_code
def yX12_isLetter : MethodName := ⟨RX12, "isLetter", "(I)Z"⟩
abbrev cX12_arity : ByteArray := prog_14_method_8_code
def yX12_arity : MethodName := ⟨RX12, "arity", "(I)I"⟩
abbrev cX12_end : ByteArray := prog_14_method_9_code
def yX12_end : MethodName := ⟨RX12, "end", "(II)I"⟩
abbrev cX12_areSame : ByteArray := prog_14_method_10_code
def yX12_areSame : MethodName := ⟨RX12, "areSame", "(II)Z"⟩
abbrev cX12_isSamePart : ByteArray := prog_14_method_11_code
def yX12_isSamePart : MethodName := ⟨RX12, "isSamePart", "(IIIII)Z"⟩
abbrev cX12_hasSign : ByteArray := prog_14_method_12_code
def yX12_hasSign : MethodName := ⟨RX12, "hasSign", "(II)Z"⟩
abbrev cX12_type : ByteArray := prog_14_method_13_code
def yX12_type : MethodName := ⟨RX12, "type", "(I)I"⟩
abbrev cX12_wipe : ByteArray := prog_14_method_14_code
def yX12_wipe : MethodName := ⟨RX12, "wipe", "()I"⟩
abbrev cX12_partsOf : ByteArray := prog_14_method_15_code
def yX12_partsOf : MethodName := ⟨RX12, "partsOf", "(IZZZIZ)I"⟩
abbrev cX12_readsTerm : ByteArray := prog_14_method_16_code
def yX12_readsTerm : MethodName := ⟨RX12, "readsTerm", "(IZZZIZ)Z"⟩
abbrev cX12_reads : ByteArray := prog_14_method_17_code
def yX12_reads : MethodName := ⟨RX12, "reads", "(I)Z"⟩
abbrev cX12_keepsBody : ByteArray := prog_14_method_18_code
def yX12_keepsBody : MethodName := ⟨RX12, "keepsBody", "(II)V"⟩
abbrev cX12_readsFunction : ByteArray := prog_14_method_19_code
def yX12_readsFunction : MethodName := ⟨RX12, "readsFunction", "(II)Z"⟩
abbrev cX12_function : ByteArray := prog_14_method_20_code
def yX12_function : MethodName := ⟨RX12, "function", "(II)I"⟩
abbrev cX12_isFunction : ByteArray := prog_14_method_21_code
def yX12_isFunction : MethodName := ⟨RX12, "isFunction", "(I)Z"⟩
abbrev cX12_bodyLong : ByteArray := prog_14_method_22_code
def yX12_bodyLong : MethodName := ⟨RX12, "bodyLong", "(II)I"⟩
abbrev cX12_ofFunction : ByteArray := prog_14_method_23_code
def yX12_ofFunction : MethodName := ⟨RX12, "ofFunction", "(II)I"⟩
abbrev cX12_body : ByteArray := prog_14_method_24_code
def yX12_body : MethodName := ⟨RX12, "body", "(III)I"⟩
abbrev cX12_keepsSide : ByteArray := prog_14_method_25_code
def yX12_keepsSide : MethodName := ⟨RX12, "keepsSide", "(I)V"⟩
abbrev cX12_readsClaim : ByteArray := prog_14_method_26_code
def yX12_readsClaim : MethodName := ⟨RX12, "readsClaim", "()Z"⟩
abbrev cX12_claim : ByteArray := prog_14_method_27_code
def yX12_claim : MethodName := ⟨RX12, "claim", "()I"⟩
abbrev cX12_told : ByteArray := prog_14_method_28_code
def yX12_told : MethodName := ⟨RX12, "told", "(II)I"⟩
abbrev cX12_side : ByteArray := prog_14_method_29_code
def yX12_side : MethodName := ⟨RX12, "side", "(II)I"⟩
abbrev cX12_anew : ByteArray := prog_14_method_30_code
def yX12_anew : MethodName := ⟨RX12, "anew", "()I"⟩
abbrev cX12_signOf : ByteArray := prog_14_method_31_code
def yX12_signOf : MethodName := ⟨RX12, "signOf", "(II)I"⟩
abbrev cX12_enters : ByteArray := prog_14_method_32_code
def yX12_enters : MethodName := ⟨RX12, "enters", "(IIIII)V"⟩
abbrev cX12_calls : ByteArray := prog_14_method_33_code
def yX12_calls : MethodName := ⟨RX12, "calls", "(III)Z"⟩
abbrev cX12_takesSign : ByteArray := prog_14_method_34_code
def yX12_takesSign : MethodName := ⟨RX12, "takesSign", "(II)Z"⟩
abbrev cX12_works : ByteArray := prog_14_method_35_code
def yX12_works : MethodName := ⟨RX12, "works", "()I"⟩
abbrev cX12_valueOf : ByteArray := prog_14_method_36_code
def yX12_valueOf : MethodName := ⟨RX12, "valueOf", "(IIII)I"⟩
abbrev cX12_value : ByteArray := prog_14_method_37_code
def yX12_value : MethodName := ⟨RX12, "value", "(IIII)I"⟩
abbrev cX12_holdsBy : ByteArray := prog_14_method_38_code
def yX12_holdsBy : MethodName := ⟨RX12, "holdsBy", "(IIIII)I"⟩
abbrev cX12_holds : ByteArray := prog_14_method_39_code
def yX12_holds : MethodName := ⟨RX12, "holds", "(III)I"⟩
abbrev cX12_upTo : ByteArray := prog_14_method_40_code
def yX12_upTo : MethodName := ⟨RX12, "upTo", "(III)I"⟩
abbrev cX12_counterexample : ByteArray := prog_14_method_41_code
def yX12_counterexample : MethodName := ⟨RX12, "counterexample", "(II)I"⟩
abbrev cX12_counter : ByteArray := prog_14_method_42_code
def yX12_counter : MethodName := ⟨RX12, "counter", "(I)I"⟩
abbrev cX12_longOf : ByteArray := prog_14_method_43_code
def yX12_longOf : MethodName := ⟨RX12, "longOf", "(I)I"⟩
abbrev cX12_pushes : ByteArray := prog_14_method_44_code
def yX12_pushes : MethodName := ⟨RX12, "pushes", "(II)V"⟩
abbrev cX12_pushesSign : ByteArray := prog_14_method_45_code
def yX12_pushesSign : MethodName := ⟨RX12, "pushesSign", "(I)V"⟩
abbrev cX12_falls : ByteArray := prog_14_method_46_code
def yX12_falls : MethodName := ⟨RX12, "falls", "(I)V"⟩
abbrev cX12_joins : ByteArray := prog_14_method_47_code
def yX12_joins : MethodName := ⟨RX12, "joins", "(II)Z"⟩
abbrev cX12_bodyFor : ByteArray := prog_14_method_48_code
def yX12_bodyFor : MethodName := ⟨RX12, "bodyFor", "(I)I"⟩
abbrev cX12_normalizes : ByteArray := prog_14_method_49_code
def yX12_normalizes : MethodName := ⟨RX12, "normalizes", "(II)Z"⟩
abbrev cX12_makesNormal : ByteArray := prog_14_method_50_code
def yX12_makesNormal : MethodName := ⟨RX12, "makesNormal", "(II)Z"⟩
abbrev cX12_normal : ByteArray := prog_14_method_51_code
def yX12_normal : MethodName := ⟨RX12, "normal", "(II)I"⟩
abbrev cX12_callsIn : ByteArray := prog_14_method_52_code
def yX12_callsIn : MethodName := ⟨RX12, "callsIn", "(III)I"⟩
abbrev cX12_findScheme : ByteArray := prog_14_method_53_code
def yX12_findScheme : MethodName := ⟨RX12, "findScheme", "(II)Z"⟩
abbrev cX12_scheme : ByteArray := prog_14_method_54_code
def yX12_scheme : MethodName := ⟨RX12, "scheme", "(I)I"⟩
abbrev cX12_findDeep : ByteArray := prog_14_method_55_code
def yX12_findDeep : MethodName := ⟨RX12, "findDeep", "(I)V"⟩
abbrev cX12_atMost : ByteArray := prog_14_method_56_code
def yX12_atMost : MethodName := ⟨RX12, "atMost", "(I)I"⟩
abbrev cX12_heldAt : ByteArray := prog_14_method_57_code
def yX12_heldAt : MethodName := ⟨RX12, "heldAt", "(IIII)I"⟩
abbrev cX12_differenceOf : ByteArray := prog_14_method_58_code
def yX12_differenceOf : MethodName := ⟨RX12, "differenceOf", "(II)I"⟩
abbrev cX12_difference : ByteArray := prog_14_method_59_code
def yX12_difference : MethodName := ⟨RX12, "difference", "()I"⟩
abbrev cX12_binds : ByteArray := prog_14_method_60_code
def yX12_binds : MethodName := ⟨RX12, "binds", "(III)Z"⟩
abbrev cX12_matches : ByteArray := prog_14_method_61_code
def yX12_matches : MethodName := ⟨RX12, "matches", "(IIII)Z"⟩
abbrev cX12_longWith : ByteArray := prog_14_method_62_code
def yX12_longWith : MethodName := ⟨RX12, "longWith", "(I)I"⟩
abbrev cX12_replaces : ByteArray := prog_14_method_63_code
def yX12_replaces : MethodName := ⟨RX12, "replaces", "(III)Z"⟩
abbrev cX12_isPattern : ByteArray := prog_14_method_64_code
def yX12_isPattern : MethodName := ⟨RX12, "isPattern", "(II)Z"⟩
abbrev cX12_steersOnce : ByteArray := prog_14_method_65_code
def yX12_steersOnce : MethodName := ⟨RX12, "steersOnce", "(III)Z"⟩
abbrev cX12_steers : ByteArray := prog_14_method_66_code
def yX12_steers : MethodName := ⟨RX12, "steers", "(III)V"⟩
abbrev cX12_steered : ByteArray := prog_14_method_67_code
def yX12_steered : MethodName := ⟨RX12, "steered", "(I)I"⟩
abbrev cX12_isPartOf : ByteArray := prog_14_method_68_code
def yX12_isPartOf : MethodName := ⟨RX12, "isPartOf", "(IIII)Z"⟩
abbrev cX12_findCommon : ByteArray := prog_14_method_69_code
def yX12_findCommon : MethodName := ⟨RX12, "findCommon", "(II)Z"⟩
abbrev cX12_common : ByteArray := prog_14_method_70_code
def yX12_common : MethodName := ⟨RX12, "common", "(I)I"⟩
abbrev cX12_generalizes : ByteArray := prog_14_method_71_code
def yX12_generalizes : MethodName := ⟨RX12, "generalizes", "(IIII)V"⟩
abbrev cX12_makesGeneral : ByteArray := prog_14_method_72_code
def yX12_makesGeneral : MethodName := ⟨RX12, "makesGeneral", "(II)I"⟩
abbrev cX12_general : ByteArray := prog_14_method_73_code
def yX12_general : MethodName := ⟨RX12, "general", "(II)I"⟩
abbrev cX12_notesIt : ByteArray := prog_14_method_74_code
def yX12_notesIt : MethodName := ⟨RX12, "notesIt", "(II)V"⟩
abbrev cX12_slotOf : ByteArray := prog_14_method_75_code
def yX12_slotOf : MethodName := ⟨RX12, "slotOf", "(II)I"⟩
abbrev cX12_fails : ByteArray := prog_14_method_76_code
def yX12_fails : MethodName := ⟨RX12, "fails", "(IZ)I"⟩
abbrev cX12_isLemma : ByteArray := prog_14_method_77_code
def yX12_isLemma : MethodName := ⟨RX12, "isLemma", "(II)Z"⟩
abbrev cX12_proves : ByteArray := prog_14_method_78_code
def yX12_proves : MethodName := ⟨RX12, "proves", "()I"⟩
abbrev cX12_begins : ByteArray := prog_14_method_79_code
def yX12_begins : MethodName := ⟨RX12, "begins", "()I"⟩
abbrev cX12_takesCase : ByteArray := prog_14_method_80_code
def yX12_takesCase : MethodName := ⟨RX12, "takesCase", "(I)V"⟩
abbrev cX12_normalGoal : ByteArray := prog_14_method_81_code
def yX12_normalGoal : MethodName := ⟨RX12, "normalGoal", "()Z"⟩
abbrev cX12_usesClaim : ByteArray := prog_14_method_82_code
def yX12_usesClaim : MethodName := ⟨RX12, "usesClaim", "(I)I"⟩
abbrev cX12_carries : ByteArray := prog_14_method_83_code
def yX12_carries : MethodName := ⟨RX12, "carries", "()Z"⟩
abbrev cX12_guesses : ByteArray := prog_14_method_84_code
def yX12_guesses : MethodName := ⟨RX12, "guesses", "()I"⟩
abbrev cX12_nextCase : ByteArray := prog_14_method_85_code
def yX12_nextCase : MethodName := ⟨RX12, "nextCase", "()I"⟩
abbrev cX12_prove : ByteArray := prog_14_method_86_code
def yX12_prove : MethodName := ⟨RX12, "prove", "()I"⟩
abbrev cX12_why : ByteArray := prog_14_method_87_code
def yX12_why : MethodName := ⟨RX12, "why", "(I)I"⟩
abbrev cX12_script : ByteArray := prog_14_method_88_code
def yX12_script : MethodName := ⟨RX12, "script", "(II)I"⟩
abbrev cX12_isKnown : ByteArray := prog_14_method_89_code
def yX12_isKnown : MethodName := ⟨RX12, "isKnown", "(I)Z"⟩
abbrev cX12_lemma : ByteArray := prog_14_method_90_code
def yX12_lemma : MethodName := ⟨RX12, "lemma", "(III)I"⟩
abbrev cX12_tested : ByteArray := prog_14_method_91_code
def yX12_tested : MethodName := ⟨RX12, "tested", "(II)I"⟩
abbrev cX12_back : ByteArray := prog_14_method_92_code
def yX12_back : MethodName := ⟨RX12, "back", "()I"⟩
abbrev cX12_many : ByteArray := prog_14_method_93_code
def yX12_many : MethodName := ⟨RX12, "many", "(I)I"⟩
def RJ9 : String := "java/lang/Math"
def TJ9 : u_T := fun k => match k with
  | _ => ("", "", "", false)
def tyJ9 : Nat → FieldType := fun k => match k with
  | _ => .int
abbrev wsJ90 : List Cond := u_ws RJ9 TJ9 0
theorem nmJ9 : ∀ a, a < 0 → ∀ b, b < 0 → a ≠ b → (TJ9 a).2.1 ≠ (TJ9 b).2.1 := by decide +kernel
theorem tyJ9_ok : ∀ k, k < 0 → parseFieldDescriptor (TJ9 k).2.2.1 = some (tyJ9 k) := by decide +kernel
abbrev cJ9_max_7cf53 : ByteArray := prog_15_method_65_code
def yJ9_max_7cf53 : MethodName := ⟨RJ9, "max", "(II)I"⟩
abbrev cJ9_min_7cf53 : ByteArray := prog_15_method_69_code
def yJ9_min_7cf53 : MethodName := ⟨RJ9, "min", "(II)I"⟩
def RJ10 : String := "java/lang/System"
def TJ10 : u_T := fun k => match k with
  | _ => ("", "", "", false)
def tyJ10 : Nat → FieldType := fun k => match k with
  | _ => .int
abbrev wsJ100 : List Cond := u_ws RJ10 TJ10 0
theorem nmJ10 : ∀ a, a < 0 → ∀ b, b < 0 → a ≠ b → (TJ10 a).2.1 ≠ (TJ10 b).2.1 := by decide +kernel
theorem tyJ10_ok : ∀ k, k < 0 → parseFieldDescriptor (TJ10 k).2.2.1 = some (tyJ10 k) := by decide +kernel
def RL : String := "SteeredClaimsLaw"
abbrev cL_law : ByteArray := code
def yL_law : MethodName := ⟨RL, "law", "([I)Z"⟩
abbrev vwCl : List vw_C := [(RX0, TX0, 2), (RX1, TX1, 2), (RX2, TX2, 10), (RX3, TX3, 5), (RX4, TX4, 5), (RX5, TX5, 2), (RX6, TX6, 15), (RX7, TX7, 5), (RX8, TX8, 10), (RX9, TX9, 10), (RX10, TX10, 3), (RX11, TX11, 12), (RX12, TX12, 50)]
