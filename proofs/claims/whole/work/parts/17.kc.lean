def kw : List Cond := [.classLink RX11 9 RX3, .classLink RX11 16 RX9, .classLink RX11 25 RX2, .classLink RX11 32 RX6, .classLink RX11 39 RX1, .classLink RX11 46 RX5, .classLink RX11 49 RX4, .classLink RX11 58 RX7, .classLink RX11 65 RX8, .classLink RX11 74 RX0, .classLink RX11 84 RX10, .classLink RX0 9 RX10, .classLink RX2 15 RX10, .classLink RX3 18 RX10, .classLink RX4 9 RX0, .classLink RX4 17 RX10, .classLink RX6 24 RX10, .classLink RX8 9 RX0, .classLink RX8 23 RX10, .classLink RX9 15 RX10, .classLink RL 7 RX11, .classLink RL 10 RX12, .instantiable RX0 2, .initialized RX0, .instantiable RX1 2, .initialized RX1, .instantiable RX2 10, .initialized RX2, .instantiable RX3 5, .initialized RX3, .instantiable RX4 5, .initialized RX4, .instantiable RX5 2, .initialized RX5, .instantiable RX6 15, .initialized RX6, .instantiable RX7 5, .initialized RX7, .instantiable RX8 10, .initialized RX8, .instantiable RX9 10, .initialized RX9, .instantiable RX10 3, .initialized RX10, .instantiable RX11 12, .initialized RX11, .instantiable RX12 50, .initialized RX12, .arrayClass .int, .instanceMethod objectInit]
theorem kw_in : ∀ w ∈ kw, w ∈ wt := z_pl [24, 97, 139, 179, 232, 245, 258, 306, 333, 375, 377, 273, 145, 30, 264, 266, 185, 339, 340, 103, 16, 854, 268, 10, 233, 7, 140, 5, 25, 2, 259, 9, 246, 8, 180, 6, 307, 11, 334, 12, 98, 4, 32, 3, 17, 1, 855, 13, 64, 22] (by decide +kernel) (by decide +kernel)
theorem ck_X11_9 : (.classLink RX11 9 RX3 : Cond) ∈ wt := kw_in _ (List.mem_of_getElem? (i := 0) rfl)
theorem ck_X11_16 : (.classLink RX11 16 RX9 : Cond) ∈ wt := kw_in _ (List.mem_of_getElem? (i := 1) rfl)
theorem ck_X11_25 : (.classLink RX11 25 RX2 : Cond) ∈ wt := kw_in _ (List.mem_of_getElem? (i := 2) rfl)
theorem ck_X11_32 : (.classLink RX11 32 RX6 : Cond) ∈ wt := kw_in _ (List.mem_of_getElem? (i := 3) rfl)
theorem ck_X11_39 : (.classLink RX11 39 RX1 : Cond) ∈ wt := kw_in _ (List.mem_of_getElem? (i := 4) rfl)
theorem ck_X11_46 : (.classLink RX11 46 RX5 : Cond) ∈ wt := kw_in _ (List.mem_of_getElem? (i := 5) rfl)
theorem ck_X11_49 : (.classLink RX11 49 RX4 : Cond) ∈ wt := kw_in _ (List.mem_of_getElem? (i := 6) rfl)
theorem ck_X11_58 : (.classLink RX11 58 RX7 : Cond) ∈ wt := kw_in _ (List.mem_of_getElem? (i := 7) rfl)
theorem ck_X11_65 : (.classLink RX11 65 RX8 : Cond) ∈ wt := kw_in _ (List.mem_of_getElem? (i := 8) rfl)
theorem ck_X11_74 : (.classLink RX11 74 RX0 : Cond) ∈ wt := kw_in _ (List.mem_of_getElem? (i := 9) rfl)
theorem ck_X11_84 : (.classLink RX11 84 RX10 : Cond) ∈ wt := kw_in _ (List.mem_of_getElem? (i := 10) rfl)
theorem ck_X0_9 : (.classLink RX0 9 RX10 : Cond) ∈ wt := kw_in _ (List.mem_of_getElem? (i := 11) rfl)
theorem ck_X2_15 : (.classLink RX2 15 RX10 : Cond) ∈ wt := kw_in _ (List.mem_of_getElem? (i := 12) rfl)
theorem ck_X3_18 : (.classLink RX3 18 RX10 : Cond) ∈ wt := kw_in _ (List.mem_of_getElem? (i := 13) rfl)
theorem ck_X4_9 : (.classLink RX4 9 RX0 : Cond) ∈ wt := kw_in _ (List.mem_of_getElem? (i := 14) rfl)
theorem ck_X4_17 : (.classLink RX4 17 RX10 : Cond) ∈ wt := kw_in _ (List.mem_of_getElem? (i := 15) rfl)
theorem ck_X6_24 : (.classLink RX6 24 RX10 : Cond) ∈ wt := kw_in _ (List.mem_of_getElem? (i := 16) rfl)
theorem ck_X8_9 : (.classLink RX8 9 RX0 : Cond) ∈ wt := kw_in _ (List.mem_of_getElem? (i := 17) rfl)
theorem ck_X8_23 : (.classLink RX8 23 RX10 : Cond) ∈ wt := kw_in _ (List.mem_of_getElem? (i := 18) rfl)
theorem ck_X9_15 : (.classLink RX9 15 RX10 : Cond) ∈ wt := kw_in _ (List.mem_of_getElem? (i := 19) rfl)
theorem ck_L_7 : (.classLink RL 7 RX11 : Cond) ∈ wt := kw_in _ (List.mem_of_getElem? (i := 20) rfl)
theorem ck_L_10 : (.classLink RL 10 RX12 : Cond) ∈ wt := kw_in _ (List.mem_of_getElem? (i := 21) rfl)
theorem in_0 : (.instantiable RX0 2 : Cond) ∈ wt := kw_in _ (List.mem_of_getElem? (i := 22) rfl)
theorem it_0 : (.initialized RX0 : Cond) ∈ wt := kw_in _ (List.mem_of_getElem? (i := 23) rfl)
theorem in_1 : (.instantiable RX1 2 : Cond) ∈ wt := kw_in _ (List.mem_of_getElem? (i := 24) rfl)
theorem it_1 : (.initialized RX1 : Cond) ∈ wt := kw_in _ (List.mem_of_getElem? (i := 25) rfl)
theorem in_2 : (.instantiable RX2 10 : Cond) ∈ wt := kw_in _ (List.mem_of_getElem? (i := 26) rfl)
theorem it_2 : (.initialized RX2 : Cond) ∈ wt := kw_in _ (List.mem_of_getElem? (i := 27) rfl)
theorem in_3 : (.instantiable RX3 5 : Cond) ∈ wt := kw_in _ (List.mem_of_getElem? (i := 28) rfl)
theorem it_3 : (.initialized RX3 : Cond) ∈ wt := kw_in _ (List.mem_of_getElem? (i := 29) rfl)
theorem in_4 : (.instantiable RX4 5 : Cond) ∈ wt := kw_in _ (List.mem_of_getElem? (i := 30) rfl)
theorem it_4 : (.initialized RX4 : Cond) ∈ wt := kw_in _ (List.mem_of_getElem? (i := 31) rfl)
theorem in_5 : (.instantiable RX5 2 : Cond) ∈ wt := kw_in _ (List.mem_of_getElem? (i := 32) rfl)
theorem it_5 : (.initialized RX5 : Cond) ∈ wt := kw_in _ (List.mem_of_getElem? (i := 33) rfl)
theorem in_6 : (.instantiable RX6 15 : Cond) ∈ wt := kw_in _ (List.mem_of_getElem? (i := 34) rfl)
theorem it_6 : (.initialized RX6 : Cond) ∈ wt := kw_in _ (List.mem_of_getElem? (i := 35) rfl)
theorem in_7 : (.instantiable RX7 5 : Cond) ∈ wt := kw_in _ (List.mem_of_getElem? (i := 36) rfl)
theorem it_7 : (.initialized RX7 : Cond) ∈ wt := kw_in _ (List.mem_of_getElem? (i := 37) rfl)
theorem in_8 : (.instantiable RX8 10 : Cond) ∈ wt := kw_in _ (List.mem_of_getElem? (i := 38) rfl)
theorem it_8 : (.initialized RX8 : Cond) ∈ wt := kw_in _ (List.mem_of_getElem? (i := 39) rfl)
theorem in_9 : (.instantiable RX9 10 : Cond) ∈ wt := kw_in _ (List.mem_of_getElem? (i := 40) rfl)
theorem it_9 : (.initialized RX9 : Cond) ∈ wt := kw_in _ (List.mem_of_getElem? (i := 41) rfl)
theorem in_10 : (.instantiable RX10 3 : Cond) ∈ wt := kw_in _ (List.mem_of_getElem? (i := 42) rfl)
theorem it_10 : (.initialized RX10 : Cond) ∈ wt := kw_in _ (List.mem_of_getElem? (i := 43) rfl)
theorem in_11 : (.instantiable RX11 12 : Cond) ∈ wt := kw_in _ (List.mem_of_getElem? (i := 44) rfl)
theorem it_11 : (.initialized RX11 : Cond) ∈ wt := kw_in _ (List.mem_of_getElem? (i := 45) rfl)
theorem in_12 : (.instantiable RX12 50 : Cond) ∈ wt := kw_in _ (List.mem_of_getElem? (i := 46) rfl)
theorem it_12 : (.initialized RX12 : Cond) ∈ wt := kw_in _ (List.mem_of_getElem? (i := 47) rfl)
theorem ac_I : (.arrayClass .int : Cond) ∈ wt := kw_in _ (List.mem_of_getElem? (i := 48) rfl)
theorem oi : (.instanceMethod objectInit : Cond) ∈ wt := kw_in _ (List.mem_of_getElem? (i := 49) rfl)
set_option maxRecDepth 100000 in
theorem oc : Cond.code objectInit ⟨#[0xb1]⟩ 1 none ∈ wt := wt_tbl (t1_1 (List.mem_of_getElem? (i := 23) rfl)) rfl
theorem df0 : ∀ j, j < 2 → defaultValue (tyX0 j) = if (z_fk 0).getD j 0 = 0 then .int 0 else .null := by decide +kernel
theorem df1 : ∀ j, j < 2 → defaultValue (tyX1 j) = if (z_fk 1).getD j 0 = 0 then .int 0 else .null := by decide +kernel
theorem df2 : ∀ j, j < 10 → defaultValue (tyX2 j) = if (z_fk 2).getD j 0 = 0 then .int 0 else .null := by decide +kernel
theorem df3 : ∀ j, j < 5 → defaultValue (tyX3 j) = if (z_fk 3).getD j 0 = 0 then .int 0 else .null := by decide +kernel
theorem df4 : ∀ j, j < 5 → defaultValue (tyX4 j) = if (z_fk 4).getD j 0 = 0 then .int 0 else .null := by decide +kernel
theorem df5 : ∀ j, j < 2 → defaultValue (tyX5 j) = if (z_fk 5).getD j 0 = 0 then .int 0 else .null := by decide +kernel
theorem df6 : ∀ j, j < 15 → defaultValue (tyX6 j) = if (z_fk 6).getD j 0 = 0 then .int 0 else .null := by decide +kernel
theorem df7 : ∀ j, j < 5 → defaultValue (tyX7 j) = if (z_fk 7).getD j 0 = 0 then .int 0 else .null := by decide +kernel
theorem df8 : ∀ j, j < 10 → defaultValue (tyX8 j) = if (z_fk 8).getD j 0 = 0 then .int 0 else .null := by decide +kernel
theorem df9 : ∀ j, j < 10 → defaultValue (tyX9 j) = if (z_fk 9).getD j 0 = 0 then .int 0 else .null := by decide +kernel
theorem df10 : ∀ j, j < 3 → defaultValue (tyX10 j) = if (z_fk 10).getD j 0 = 0 then .int 0 else .null := by decide +kernel
theorem df11 : ∀ j, j < 12 → defaultValue (tyX11 j) = if (z_fk 11).getD j 0 = 0 then .int 0 else .null := by decide +kernel
theorem df12 : ∀ j, j < 50 → defaultValue (tyX12 j) = if (z_fk 12).getD j 0 = 0 then .int 0 else .null := by decide +kernel
theorem z_al_le {n n' : Nat} {a : Int} (h : z_al n a) (hn : n ≤ n') : z_al n' a := ⟨h.1, Nat.lt_of_lt_of_le h.2 hn⟩
theorem z_al_ord {n : Nat} {a : Int} (hn : n < 274) (h : z_ord n = a) : z_al (n + 1) a := by
  subst h
  exact ⟨by rw [z_idx_ord n hn], by rw [z_idx_ord n hn]; omega⟩
theorem z_nw_cons {l : List (Int × Int × Int)} {a b k v : Int} (h : z_nw l a = true) (hb : b ≠ a) : z_nw ((b, k, v) :: l) a = true := by
  unfold z_nw at h ⊢
  rw [List.all_cons, h]
  simp [hb]
/-- Term(): two arrays come -/
theorem kt_X10_init {n : Nat} {t : Int} {l : List (Int × Int × Int)} (ht : z_tm t) (hn : n + 2 ≤ 274) (ha : z_al n t) (h1 : z_ord n = t + 1) (h2 : z_ord (n + 1) = t + 2) (z1 : z_nw l (t + 1) = true) (z2 : z_nw l (t + 2) = true) : zMet yX10_init cX10_init 1 none 1 20 [.inr t] n (n + 2) (z_me z_0 l) (KZ (z_me z_0 ((t, 1, t + 2) :: (t, 0, t + 1) :: l))) := by
  refine zMet_of (L0 := [some (.inr t)]) sy_X10_init rfl (nb rfl) (by omega) (fun X C hI _ _ hR => ?_)
  have C : zC X cX10_init RX10 1 none 1 20 (n + 2) := C
  refine v_aloadn (q := 1) C dX10_init_0 rfl rfl ?_
  refine v_objInit (q := 4) C ml_X10_3 oi oc ha (nb rfl) (nb rfl) dX10_init_1 rfl ?_
  refine v_aloadn (q := 5) C dX10_init_4 rfl rfl ?_
  refine v_bipush (q := 7) C dX10_init_5 rfl (by decide) ?_
  refine k_newarray (q := 9) (n' := n + 1) C ac_I rfl ⟨by omega, by omega⟩ h1 (z_tm1 ht).2.1 rfl (nb rfl) (z_me_0 z1) dX10_init_7 rfl ?_
  refine k_putF (q := 12) C hI rfl kl10 fl_X10_9 (z_al_le ha (by omega)) (z_tm1 ht).1 rfl rfl (Or.inr ⟨_, rfl⟩) rfl rfl ⟨by omega, by omega⟩ dX10_init_9 rfl ?_
  refine v_aloadn (q := 13) C dX10_init_12 rfl rfl ?_
  refine v_bipush (q := 15) C dX10_init_13 rfl (by decide) ?_
  refine k_newarray (q := 17) (n' := n + 2) C ac_I rfl ⟨by omega, by omega⟩ h2 (z_tm1 ht).2.2 rfl (nb rfl) (z_me_0 (z_nw_cons z2 (by omega))) dX10_init_15 rfl ?_
  refine k_putF (q := 20) C hI rfl kl10 fl_X10_15 (z_al_le ha (by omega)) (z_tm1 ht).1 rfl rfl (Or.inr ⟨_, rfl⟩) rfl rfl ⟨by omega, by omega⟩ dX10_init_17 rfl ?_
  exact k_vret hR dX10_init_20
/-- Claim(): two terms come -/
theorem kt_X0_init {n : Nat} {c p : Int} {l : List (Int × Int × Int)} (hc : z_cm c) (hp : p = 6 * (c - 187) + 1) (hn : n + 6 ≤ 274) (ha : z_al n c) (ho : ∀ j, j < 6 → z_ord (n + j) = p + (j : Int)) (hz : ∀ j : Nat, j < 6 → z_nw l (p + (j : Int)) = true) : zMet yX0_init cX0_init 1 none 2 40 [.inr c] n (n + 6) (z_me z_0 l) (KZ (z_me z_0 ((c, 1, p + 3) :: (p + 3, 1, p + 3 + 2) :: (p + 3, 0, p + 3 + 1) :: (c, 0, p) :: (p, 1, p + 2) :: (p, 0, p + 1) :: l))) := by
  refine zMet_of (L0 := [some (.inr c)]) sy_X0_init rfl (nb rfl) (by omega) (fun X C hI _ _ hR => ?_)
  have C : zC X cX0_init RX0 1 none 2 40 (n + 6) := C
  have t1 : z_tm p := by omega
  have t2 : z_tm (p + 3) := by omega
  have o0 : z_ord n = p := by have := ho 0 (by omega); simpa using this
  have o1 : z_ord (n + 1) = p + 1 := ho 1 (by omega)
  have o2 : z_ord (n + 2) = p + 2 := ho 2 (by omega)
  have o3 : z_ord (n + 3) = p + 3 := ho 3 (by omega)
  have o4 : z_ord (n + 4) = p + 3 + 1 := by have := ho 4 (by omega); rw [this]; omega
  have o5 : z_ord (n + 5) = p + 3 + 2 := by have := ho 5 (by omega); rw [this]; omega
  have w0 : z_nw l p = true := by have := hz 0 (by omega); simpa using this
  have w1 : z_nw l (p + 1) = true := hz 1 (by omega)
  have w2 : z_nw l (p + 2) = true := hz 2 (by omega)
  have w3 : z_nw l (p + 3) = true := hz 3 (by omega)
  have w4 : z_nw l (p + 3 + 1) = true := by have := hz 4 (by omega); rw [show p + 3 + 1 = p + ((4 : Nat) : Int) by omega]; exact this
  have w5 : z_nw l (p + 3 + 2) = true := by have := hz 5 (by omega); rw [show p + 3 + 2 = p + ((5 : Nat) : Int) by omega]; exact this
  refine v_aloadn (q := 1) C dX0_init_0 rfl rfl ?_
  refine v_objInit (q := 4) C ml_X0_3 oi oc ha (nb rfl) (nb rfl) dX0_init_1 rfl ?_
  refine v_aloadn (q := 5) C dX0_init_4 rfl rfl ?_
  refine k_new (q := 8) (n' := n + 1) C kl10 df10 ck_X0_9 ⟨in_10, it_10⟩ rfl ⟨by omega, by omega⟩ o0 (z_tm1 t1).1 (z_me_0 w0) dX0_init_5 rfl ?_
  refine v_dup (q := 9) C dX0_init_8 rfl ?_
  refine k_cN0 (q := 12) (n' := n + 3) C (kt_X10_init t1 (by omega) (z_al_ord (by omega) o0) o1 o2 w1 w2) sy_X10_init si_X10_init rfl mn_X0_11 (z_al_ord (by omega) o0) ⟨nb rfl, nb rfl⟩ ⟨by omega, by omega, by omega⟩ (nb rfl) dX0_init_9 rfl ?_
  refine k_putF (q := 15) C hI rfl kl0 fl_X0_12 (z_al_le ha (by omega)) (ob_cm hc).1 rfl rfl (Or.inl ⟨_, rfl⟩) rfl rfl ⟨by omega, by omega⟩ dX0_init_12 rfl ?_
  refine v_aloadn (q := 16) C dX0_init_15 rfl rfl ?_
  refine k_new (q := 19) (n' := n + 4) C kl10 df10 ck_X0_9 ⟨in_10, it_10⟩ rfl ⟨by omega, by omega⟩ o3 (z_tm1 t2).1 (z_me_0 (z_nw_cons (z_nw_cons (z_nw_cons w3 (by omega)) (by omega)) (by omega))) dX0_init_16 rfl ?_
  refine v_dup (q := 20) C dX0_init_19 rfl ?_
  refine k_cN0 (q := 23) (n' := n + 6) C (kt_X10_init t2 (by omega) (z_al_ord (by omega) o3) o4 o5 (z_nw_cons (z_nw_cons (z_nw_cons w4 (by omega)) (by omega)) (by omega)) (z_nw_cons (z_nw_cons (z_nw_cons w5 (by omega)) (by omega)) (by omega))) sy_X10_init si_X10_init rfl mn_X0_11 (z_al_ord (by omega) o3) ⟨nb rfl, nb rfl⟩ ⟨by omega, by omega, by omega⟩ (nb rfl) dX0_init_20 rfl ?_
  refine k_putF (q := 26) C hI rfl kl0 fl_X0_18 (z_al_le ha (by omega)) (ob_cm hc).1 rfl rfl (Or.inl ⟨_, rfl⟩) rfl rfl ⟨by omega, by omega⟩ dX0_init_23 rfl ?_
  exact k_vret hR dX0_init_26
