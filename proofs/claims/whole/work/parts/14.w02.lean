theorem w_X6_write_110 {X : ZX} (C : zC X cX6_write RX6 5 none 1 26 274) {K : ZM → Prop} (hR : zRv X cX6_write none 274 (KN (KV K)))  {x1 : Int} {μ : ZM}  (hx1 : z_tm x1) (h : P_X6_write_110   x1 μ K) : zV X 110 [some (.inr 222), some (.inr x1), none, none, none] [] 274 (z_ov μ) := by
  refine v_aloadn (q := 111) C dX6_write_110 rfl rfl ?_
  refine v_aloadn (q := 112) C dX6_write_111 rfl rfl ?_
  refine u_getR (q := 115) C kl6 fl_X6_45 ob_222 pt_222_0 (by decide) rfl rfl dX6_write_112 rfl ?_
  refine u_getR (q := 118) C kl3 fl_X6_112 ob_207 pt_207_3 (by decide) rfl rfl dX6_write_115 rfl ?_
  refine u_cVv1 (q := 121) C (c_X10_close h) sy_X10_close si_X10_close ml_X6_121 (ob_tm hx1) (by decide) so_X10_close ⟨nb rfl, nb rfl⟩ (nb rfl) dX6_write_118 rfl (fun μ2 h => ?_)
  exact u_vret hR dX6_write_121 h
theorem w_X6_write_104 {X : ZX} (C : zC X cX6_write RX6 5 none 1 26 274) {K : ZM → Prop} (hR : zRv X cX6_write none 274 (KN (KV K)))  {x1 : Int} {x2 : Int} {μ : ZM} {G6 : Int → ZM → Prop} (hG6 : ∀ (x2 : Int) (μ : ZM), G6 x2 μ → zV X 6 [some (.inr 222), some (.inr x1), some (.inl x2), none, none] [] 274 (z_ov μ)) (hx1 : z_tm x1) (h : P_X6_write_104  G6 x1 x2 μ K) : zV X 104 [some (.inr 222), some (.inr x1), some (.inl x2), none, none] [] 274 (z_ov μ) := by
  refine u_iinc (q := 107) C dX6_write_104 rfl (nb rfl) rfl (L' := [some (.inr 222), some (.inr x1), some (.inl (x2 + 1)), none, none]) rfl h (fun h => ?_)
  refine v_goto (q := 6) C dX6_write_107 rfl ?_
  exact (hG6 _ _ h)
theorem w_X6_write_79 {X : ZX} (C : zC X cX6_write RX6 5 none 1 26 274) {K : ZM → Prop} (hR : zRv X cX6_write none 274 (KN (KV K)))  {x1 : Int} {x2 : Int} {x3 : Int} {x4 : Int} {μ : ZM} {G6 : Int → ZM → Prop} (hG6 : ∀ (x2 : Int) (μ : ZM), G6 x2 μ → zV X 6 [some (.inr 222), some (.inr x1), some (.inl x2), none, none] [] 274 (z_ov μ)) (hx1 : z_tm x1) (h : P_X6_write_79  G6 x1 x2 x3 x4 μ K) : zV X 79 [some (.inr 222), some (.inr x1), some (.inl x2), some (.inl x3), some (.inl x4)] [] 274 (z_ov μ) := by
  refine v_aloadn (q := 80) C dX6_write_79 rfl rfl ?_
  refine u_getR (q := 83) C kl6 fl_X6_45 ob_222 pt_222_0 (by decide) rfl rfl dX6_write_80 rfl ?_
  refine u_getR (q := 86) C kl3 fl_X6_112 ob_207 pt_207_3 (by decide) rfl rfl dX6_write_83 rfl ?_
  refine v_iload (q := 88) C dX6_write_86 rfl rfl ?_
  refine u_iald (q := 89) C ia_211 dX6_write_88 rfl h (fun h => ?_)
  refine v_iconst (q := 90) C dX6_write_89 rfl (by decide) ?_
  refine v_icmp_lt (q := 93) (tgt := 104) C dX6_write_90 rfl rfl h (fun h => ?_) (fun h => ?_)
  · exact v_mask [true, true, true, false, false] rfl (w_X6_write_104  C hR hG6 hx1 h)
  · refine v_aloadn (q := 94) C dX6_write_93 rfl rfl ?_
    refine v_aloadn (q := 95) C dX6_write_94 rfl rfl ?_
    refine u_getR (q := 98) C kl6 fl_X6_15 ob_222 pt_222_2 (by decide) rfl rfl dX6_write_95 rfl ?_
    refine v_iloadn (q := 99) C dX6_write_98 rfl rfl ?_
    refine u_iald (q := 100) C ia_224 dX6_write_99 rfl h (fun h => ?_)
    refine u_cVi1 (q := 103) C (c_X6_push h) sy_X6_push si_X6_push ml_X6_90 ob_222 (by decide) so_X6_push ⟨nb rfl, nb rfl⟩ (nb rfl) dX6_write_100 rfl (fun r9 μ8 h => ?_)
    refine v_pop (q := 104) C dX6_write_103 rfl ?_
    exact v_mask [true, true, true, false, false] rfl (w_X6_write_104  C hR hG6 hx1 h)
theorem w_X6_write_6 {X : ZX} (C : zC X cX6_write RX6 5 none 1 26 274) {K : ZM → Prop} (hR : zRv X cX6_write none 274 (KN (KV K)))  {x1 : Int} {x2 : Int} {μ : ZM}  (hx1 : z_tm x1) (h : P_X6_write_6   x1 x2 μ K) : zV X 6 [some (.inr 222), some (.inr x1), some (.inl x2), none, none] [] 274 (z_ov μ) := by
  refine h (fun x2 μ => zV X 6 [some (.inr 222), some (.inr x1), some (.inl x2), none, none] [] 274 (z_ov μ)) (fun x2 μ h => ?_)
  refine v_iloadn (q := 7) C dX6_write_6 rfl rfl ?_
  refine v_bipush (q := 9) C dX6_write_7 rfl (by decide) ?_
  refine v_icmp_ge (q := 12) (tgt := 110) C dX6_write_9 rfl rfl h (fun h => ?_) (fun h => ?_)
  · exact v_mask [true, true, false, false, false] rfl (w_X6_write_110  C hR  hx1 h)
  · refine v_aloadn (q := 13) C dX6_write_12 rfl rfl ?_
    refine u_getI (q := 16) C kl6 fl_X6_68 ob_222 pt_222_13 rfl rfl dX6_write_13 rfl ?_
    refine v_if_le (q := 19) (tgt := 110) C dX6_write_16 rfl rfl h (fun h => ?_) (fun h => ?_)
    · exact v_mask [true, true, false, false, false] rfl (w_X6_write_110  C hR  hx1 h)
    · refine v_aloadn (q := 20) C dX6_write_19 rfl rfl ?_
      refine v_dup (q := 21) C dX6_write_20 rfl ?_
      refine u_getI (q := 24) C kl6 fl_X6_68 ob_222 pt_222_13 rfl rfl dX6_write_21 rfl ?_
      refine v_iconst (q := 25) C dX6_write_24 rfl (by decide) ?_
      refine u_isub (q := 26) C dX6_write_25 rfl h (fun h => ?_)
      refine u_put (q := 29) C kl6 fl_X6_68 ob_222 pt_222_13 rfl rfl rfl rfl dX6_write_26 rfl h (fun μ3 h => ?_)
      refine v_aloadn (q := 30) C dX6_write_29 rfl rfl ?_
      refine u_getR (q := 33) C kl6 fl_X6_39 ob_222 pt_222_9 (by decide) rfl rfl dX6_write_30 rfl ?_
      refine v_aloadn (q := 34) C dX6_write_33 rfl rfl ?_
      refine u_getI (q := 37) C kl6 fl_X6_68 ob_222 pt_222_13 rfl rfl dX6_write_34 rfl ?_
      refine u_iald (q := 38) C ia_231 dX6_write_37 rfl h (fun h => ?_)
      refine v_istoren (q := 39) C dX6_write_38 rfl (nb rfl) (L' := [some (.inr 222), some (.inr x1), some (.inl x2), some (.inl (μ3 231 (μ3 222 13))), none]) rfl ?_
      refine v_aloadn (q := 40) C dX6_write_39 rfl rfl ?_
      refine u_getR (q := 43) C kl6 fl_X6_11 ob_222 pt_222_1 (by decide) rfl rfl dX6_write_40 rfl ?_
      refine v_iloadn (q := 44) C dX6_write_43 rfl rfl ?_
      refine u_iald (q := 45) C ia_223 dX6_write_44 rfl h (fun h => ?_)
      refine v_istore (q := 47) C dX6_write_45 rfl (nb rfl) (L' := [some (.inr 222), some (.inr x1), some (.inl x2), some (.inl (μ3 231 (μ3 222 13))), some (.inl (μ3 223 (μ3 231 (μ3 222 13))))]) rfl ?_
      refine v_aloadn (q := 48) C dX6_write_47 rfl rfl ?_
      refine v_iload (q := 50) C dX6_write_48 rfl rfl ?_
      refine u_cVi1 (q := 53) C (c_X10_add h) sy_X10_add si_X10_add ml_X6_118 (ob_tm hx1) (by decide) so_X10_add ⟨nb rfl, nb rfl⟩ (nb rfl) dX6_write_50 rfl (fun r5 μ4 h => ?_)
      refine v_pop (q := 54) C dX6_write_53 rfl ?_
      refine v_aloadn (q := 55) C dX6_write_54 rfl rfl ?_
      refine u_getR (q := 58) C kl6 fl_X6_45 ob_222 pt_222_0 (by decide) rfl rfl dX6_write_55 rfl ?_
      refine u_getR (q := 61) C kl3 fl_X6_112 ob_207 pt_207_3 (by decide) rfl rfl dX6_write_58 rfl ?_
      refine v_iload (q := 63) C dX6_write_61 rfl rfl ?_
      refine u_iald (q := 64) C ia_211 dX6_write_63 rfl h (fun h => ?_)
      refine v_iconst (q := 65) C dX6_write_64 rfl (by decide) ?_
      refine v_icmp_ne (q := 68) (tgt := 79) C dX6_write_65 rfl rfl h (fun h => ?_) (fun h => ?_)
      · refine v_aloadn (q := 69) C dX6_write_68 rfl rfl ?_
        refine v_aloadn (q := 70) C dX6_write_69 rfl rfl ?_
        refine u_getR (q := 73) C kl6 fl_X6_18 ob_222 pt_222_3 (by decide) rfl rfl dX6_write_70 rfl ?_
        refine v_iloadn (q := 74) C dX6_write_73 rfl rfl ?_
        refine u_iald (q := 75) C ia_225 dX6_write_74 rfl h (fun h => ?_)
        refine u_cVi1 (q := 78) C (c_X6_push h) sy_X6_push si_X6_push ml_X6_90 ob_222 (by decide) so_X6_push ⟨nb rfl, nb rfl⟩ (nb rfl) dX6_write_75 rfl (fun r7 μ6 h => ?_)
        refine v_pop (q := 79) C dX6_write_78 rfl ?_
        exact (w_X6_write_79  C hR (fun _ _ h => h) hx1 h)
      · exact (w_X6_write_79  C hR (fun _ _ h => h) hx1 h)
theorem c_X6_write {x1 : Int} {μ : ZM} {K : ZM → Prop} (h : P_X6_write  x1 μ K) : zMu yX6_write cX6_write 5 none 1 26 [.inr 222, .inr x1] μ (KV K) := by
  refine zMet_of (L0 := [some (.inr 222), some (.inr x1), none, none, none]) sy_X6_write rfl (nb rfl) (Nat.le_refl _) (fun X C _ _ _ hR => ?_)
  have C : zC X cX6_write RX6 5 none 1 26 274 := C
  have hx1 := h.1
  replace h := h.2
  refine v_aloadn (q := 1) C dX6_write_0 rfl rfl ?_
  refine u_cVv0 (q := 4) C (c_X10_empty h) sy_X10_empty si_X10_empty ml_X6_115 (ob_tm hx1) (by decide) so_X10_empty ⟨nb rfl, nb rfl⟩ (nb rfl) dX6_write_1 rfl (fun μ1 h => ?_)
  refine v_iconst (q := 5) C dX6_write_4 rfl (by decide) ?_
  refine v_istoren (q := 6) C dX6_write_5 rfl (nb rfl) (L' := [some (.inr 222), some (.inr x1), some (.inl 0), none, none]) rfl ?_
  exact (w_X6_write_6  C hR  hx1 h)
theorem w_X6_rewrite_97 {X : ZX} (C : zC X cX6_rewrite RX6 8 (some .boolean) 3 74 274) {K : Int → ZM → Prop} (hR : zRi X cX6_rewrite (some .boolean) 274 (KN (KI K)))  {x1 : Int} {x2 : Int} {μ : ZM}  (hx1 : z_tm x1) (hx2 : z_tm x2) (h : P_X6_rewrite_97   x1 x2 μ K) : zV X 97 [some (.inr 222), some (.inr x1), some (.inr x2), none, none, none, none, none] [] 274 (z_ov μ) := by
  refine v_aloadn (q := 98) C dX6_rewrite_97 rfl rfl ?_
  refine v_aloadn (q := 99) C dX6_rewrite_98 rfl rfl ?_
  refine u_cVi1 (q := 102) C (c_X6_run h) sy_X6_run si_X6_run ml_X6_57 ob_222 (by decide) so_X6_run ⟨nb rfl, nb rfl⟩ (nb rfl) dX6_rewrite_99 rfl (fun r3 μ2 h => ?_)
  refine v_if_ne (q := 105) (tgt := 107) C dX6_rewrite_102 rfl rfl h (fun h => ?_) (fun h => ?_)
  · refine v_iconst (q := 106) C dX6_rewrite_105 rfl (by decide) ?_
    exact u_zret hR dX6_rewrite_106 h
  · refine v_aloadn (q := 108) C dX6_rewrite_107 rfl rfl ?_
    refine v_aloadn (q := 109) C dX6_rewrite_108 rfl rfl ?_
    refine u_cVv1 (q := 112) C (c_X6_write h) sy_X6_write si_X6_write ml_X6_61 ob_222 (by decide) so_X6_write ⟨nb rfl, nb rfl⟩ (nb rfl) dX6_rewrite_109 rfl (fun μ4 h => ?_)
    refine v_iconst (q := 113) C dX6_rewrite_112 rfl (by decide) ?_
    exact u_zret hR dX6_rewrite_113 h
theorem w_X6_rewrite_89 {X : ZX} (C : zC X cX6_rewrite RX6 8 (some .boolean) 3 74 274) {K : Int → ZM → Prop} (hR : zRi X cX6_rewrite (some .boolean) 274 (KN (KI K)))  {x1 : Int} {x2 : Int} {x3 : Int} {x6 : Int} {μ : ZM}  (hx1 : z_tm x1) (hx2 : z_tm x2) (h : P_X6_rewrite_89   x1 x2 x3 x6 μ K) : zV X 89 [some (.inr 222), some (.inr x1), some (.inr x2), some (.inl x3), none, none, some (.inl x6), none] [] 274 (z_ov μ) := by
  refine v_aloadn (q := 90) C dX6_rewrite_89 rfl rfl ?_
  refine u_getR (q := 93) C kl6 fl_X6_42 ob_222 pt_222_10 (by decide) rfl rfl dX6_rewrite_90 rfl ?_
  refine v_iloadn (q := 94) C dX6_rewrite_93 rfl rfl ?_
  refine v_iload (q := 96) C dX6_rewrite_94 rfl rfl ?_
  refine u_iast (q := 97) C ia_232 dX6_rewrite_96 rfl h (fun μ5 h => ?_)
  exact v_mask [true, true, true, false, false, false, false, false] rfl (w_X6_rewrite_97  C hR  hx1 hx2 h)
theorem w_X6_rewrite_57 {X : ZX} (C : zC X cX6_rewrite RX6 8 (some .boolean) 3 74 274) {K : Int → ZM → Prop} (hR : zRi X cX6_rewrite (some .boolean) 274 (KN (KI K)))  {x1 : Int} {x2 : Int} {x3 : Int} {x4 : Int} {x6 : Int} {x7 : Int} {μ : ZM}  (hx1 : z_tm x1) (hx2 : z_tm x2) (h : P_X6_rewrite_57   x1 x2 x3 x4 x6 x7 μ K) : zV X 57 [some (.inr 222), some (.inr x1), some (.inr x2), some (.inl x3), some (.inl x4), none, some (.inl x6), some (.inl x7)] [] 274 (z_ov μ) := by
  refine h (fun x6 x7 μ => zV X 57 [some (.inr 222), some (.inr x1), some (.inr x2), some (.inl x3), some (.inl x4), none, some (.inl x6), some (.inl x7)] [] 274 (z_ov μ)) (fun x6 x7 μ h => ?_)
  refine v_iload (q := 59) C dX6_rewrite_57 rfl rfl ?_
  refine v_iload (q := 61) C dX6_rewrite_59 rfl rfl ?_
  refine v_icmp_ge (q := 64) (tgt := 89) C dX6_rewrite_61 rfl rfl h (fun h => ?_) (fun h => ?_)
  · exact v_mask [true, true, true, true, false, false, true, false] rfl (w_X6_rewrite_89  C hR  hx1 hx2 h)
  · refine v_iload (q := 66) C dX6_rewrite_64 rfl rfl ?_
    refine v_bipush (q := 68) C dX6_rewrite_66 rfl (by decide) ?_
    refine v_icmp_eq (q := 71) (tgt := 89) C dX6_rewrite_68 rfl rfl h (fun h => ?_) (fun h => ?_)
    · exact v_mask [true, true, true, true, false, false, true, false] rfl (w_X6_rewrite_89  C hR  hx1 hx2 h)
    · refine v_aloadn (q := 72) C dX6_rewrite_71 rfl rfl ?_
      refine v_bipush (q := 74) C dX6_rewrite_72 rfl (by decide) ?_
      refine v_iload (q := 76) C dX6_rewrite_74 rfl rfl ?_
      refine v_iload (q := 78) C dX6_rewrite_76 rfl rfl ?_
      refine u_cVi3 (q := 81) C (c_X6_make h) sy_X6_make si_X6_make ml_X6_53 ob_222 (by decide) so_X6_make ⟨nb rfl, nb rfl⟩ (nb rfl) dX6_rewrite_78 rfl (fun r7 μ6 h => ?_)
      refine v_istore (q := 83) C dX6_rewrite_81 rfl (nb rfl) (L' := [some (.inr 222), some (.inr x1), some (.inr x2), some (.inl x3), some (.inl x4), none, some (.inl r7), some (.inl x7)]) rfl ?_
      refine u_iinc (q := 86) C dX6_rewrite_83 rfl (nb rfl) rfl (L' := [some (.inr 222), some (.inr x1), some (.inr x2), some (.inl x3), some (.inl x4), none, some (.inl r7), some (.inl (x7 + 1))]) rfl h (fun h => ?_)
      refine v_goto (q := 57) C dX6_rewrite_86 rfl ?_
      exact h
theorem w_X6_rewrite_52 {X : ZX} (C : zC X cX6_rewrite RX6 8 (some .boolean) 3 74 274) {K : Int → ZM → Prop} (hR : zRi X cX6_rewrite (some .boolean) 274 (KN (KI K)))  {x1 : Int} {x2 : Int} {x3 : Int} {x4 : Int} {s0 : Int} {μ : ZM}  (hx1 : z_tm x1) (hx2 : z_tm x2) (h : P_X6_rewrite_52   x1 x2 x3 x4 s0 μ K) : zV X 52 [some (.inr 222), some (.inr x1), some (.inr x2), some (.inl x3), some (.inl x4), none, none, none] [.inl s0] 274 (z_ov μ) := by
  refine v_istore (q := 54) C dX6_rewrite_52 rfl (nb rfl) (L' := [some (.inr 222), some (.inr x1), some (.inr x2), some (.inl x3), some (.inl x4), none, some (.inl s0), none]) rfl ?_
  refine v_iconst (q := 55) C dX6_rewrite_54 rfl (by decide) ?_
  refine v_istore (q := 57) C dX6_rewrite_55 rfl (nb rfl) (L' := [some (.inr 222), some (.inr x1), some (.inr x2), some (.inl x3), some (.inl x4), none, some (.inl s0), some (.inl 0)]) rfl ?_
  exact (w_X6_rewrite_57  C hR  hx1 hx2 h)
theorem w_X6_rewrite_8 {X : ZX} (C : zC X cX6_rewrite RX6 8 (some .boolean) 3 74 274) {K : Int → ZM → Prop} (hR : zRi X cX6_rewrite (some .boolean) 274 (KN (KI K)))  {x1 : Int} {x2 : Int} {x3 : Int} {x4 : Int} {x5 : Int} {x6 : Int} {μ : ZM}  (hx1 : z_tm x1) (hx2 : z_tm x2) (h : P_X6_rewrite_8   x1 x2 x3 x4 x5 x6 μ K) : zV X 8 [some (.inr 222), some (.inr x1), some (.inr x2), some (.inl x3), some (.inl x4), some (.inl x5), some (.inl x6), none] [] 274 (z_ov μ) := by
  refine h (fun x6 μ => zV X 8 [some (.inr 222), some (.inr x1), some (.inr x2), some (.inl x3), some (.inl x4), some (.inl x5), some (.inl x6), none] [] 274 (z_ov μ)) (fun x6 μ h => ?_)
  refine v_iload (q := 10) C dX6_rewrite_8 rfl rfl ?_
  refine v_iconst (q := 11) C dX6_rewrite_10 rfl (by decide) ?_
  refine v_icmp_ge (q := 14) (tgt := 31) C dX6_rewrite_11 rfl rfl h (fun h => ?_) (fun h => ?_)
  · refine v_iloadn (q := 32) C dX6_rewrite_31 rfl rfl ?_
    refine v_if_lt (q := 35) (tgt := 97) C dX6_rewrite_32 rfl rfl h (fun h => ?_) (fun h => ?_)
    · exact v_mask [true, true, true, false, false, false, false, false] rfl (w_X6_rewrite_97  C hR  hx1 hx2 h)
    · refine v_iloadn (q := 36) C dX6_rewrite_35 rfl rfl ?_
      refine v_iconst (q := 37) C dX6_rewrite_36 rfl (by decide) ?_
      refine v_icmp_ge (q := 40) (tgt := 97) C dX6_rewrite_37 rfl rfl h (fun h => ?_) (fun h => ?_)
      · exact v_mask [true, true, true, false, false, false, false, false] rfl (w_X6_rewrite_97  C hR  hx1 hx2 h)
      · refine v_iload (q := 42) C dX6_rewrite_40 rfl rfl ?_
        refine v_if_eq (q := 45) (tgt := 51) C dX6_rewrite_42 rfl rfl h (fun h => ?_) (fun h => ?_)
        · refine v_iconst (q := 52) C dX6_rewrite_51 rfl (by decide) ?_
          exact v_mask [true, true, true, true, true, false, false, false] rfl (w_X6_rewrite_52  C hR  hx1 hx2 h)
        · refine v_iconst (q := 46) C dX6_rewrite_45 rfl (by decide) ?_
          refine v_iloadn (q := 47) C dX6_rewrite_46 rfl rfl ?_
          refine u_iadd (q := 48) C dX6_rewrite_47 rfl h (fun h => ?_)
          refine v_goto (q := 52) C dX6_rewrite_48 rfl ?_
          exact v_mask [true, true, true, true, true, false, false, false] rfl (w_X6_rewrite_52  C hR  hx1 hx2 h)
  · refine v_aloadn (q := 15) C dX6_rewrite_14 rfl rfl ?_
    refine u_getR (q := 18) C kl6 fl_X6_42 ob_222 pt_222_10 (by decide) rfl rfl dX6_rewrite_15 rfl ?_
    refine v_iload (q := 20) C dX6_rewrite_18 rfl rfl ?_
    refine v_iconst (q := 21) C dX6_rewrite_20 rfl (by decide) ?_
    refine v_iload (q := 23) C dX6_rewrite_21 rfl rfl ?_
    refine u_iadd (q := 24) C dX6_rewrite_23 rfl h (fun h => ?_)
    refine u_iast (q := 25) C ia_232 dX6_rewrite_24 rfl h (fun μ8 h => ?_)
    refine u_iinc (q := 28) C dX6_rewrite_25 rfl (nb rfl) rfl (L' := [some (.inr 222), some (.inr x1), some (.inr x2), some (.inl x3), some (.inl x4), some (.inl x5), some (.inl (x6 + 1)), none]) rfl h (fun h => ?_)
    refine v_goto (q := 8) C dX6_rewrite_28 rfl ?_
    exact h
theorem c_X6_rewrite {x1 : Int} {x2 : Int} {x3 : Int} {x4 : Int} {x5 : Int} {μ : ZM} {K : Int → ZM → Prop} (h : P_X6_rewrite  x1 x2 x3 x4 x5 μ K) : zMu yX6_rewrite cX6_rewrite 8 (some .boolean) 3 74 [.inr 222, .inr x1, .inr x2, .inl x3, .inl x4, .inl x5] μ (KI K) := by
  refine zMet_of (L0 := [some (.inr 222), some (.inr x1), some (.inr x2), some (.inl x3), some (.inl x4), some (.inl x5), none, none]) sy_X6_rewrite rfl (nb rfl) (Nat.le_refl _) (fun X C _ hR _ _ => ?_)
  have C : zC X cX6_rewrite RX6 8 (some .boolean) 3 74 274 := C
  have hx1 := h.1
  replace h := h.2
  have hx2 := h.1
  replace h := h.2
  refine v_aloadn (q := 1) C dX6_rewrite_0 rfl rfl ?_
  refine v_iconst (q := 2) C dX6_rewrite_1 rfl (by decide) ?_
  refine u_put (q := 5) C kl6 fl_X6_49 ob_222 pt_222_11 rfl rfl rfl rfl dX6_rewrite_2 rfl h (fun μ1 h => ?_)
  refine v_iconst (q := 6) C dX6_rewrite_5 rfl (by decide) ?_
  refine v_istore (q := 8) C dX6_rewrite_6 rfl (nb rfl) (L' := [some (.inr 222), some (.inr x1), some (.inr x2), some (.inl x3), some (.inl x4), some (.inl x5), some (.inl 0), none]) rfl ?_
  exact (w_X6_rewrite_8  C hR  hx1 hx2 h)
theorem c_X7_blame {x1 : Int} {x2 : Int} {μ : ZM} {K : ZM → Prop} (h : P_X7_blame  x1 x2 μ K) : zMu yX7_blame cX7_blame 3 none 1 40 [.inr 240, .inl x1, .inl x2] μ (KV K) := by
  refine zMet_of (L0 := [some (.inr 240), some (.inl x1), some (.inl x2)]) sy_X7_blame rfl (nb rfl) (Nat.le_refl _) (fun X C _ _ _ hR => ?_)
  have C : zC X cX7_blame RX7 3 none 1 40 274 := C
  refine v_iloadn (q := 1) C dX7_blame_0 rfl rfl ?_
  refine v_if_lt (q := 4) (tgt := 30) C dX7_blame_1 rfl rfl h (fun h => ?_) (fun h => ?_)
  · exact u_vret hR dX7_blame_30 h
  · refine v_iloadn (q := 5) C dX7_blame_4 rfl rfl ?_
    refine v_iconst (q := 6) C dX7_blame_5 rfl (by decide) ?_
    refine v_icmp_ge (q := 9) (tgt := 30) C dX7_blame_6 rfl rfl h (fun h => ?_) (fun h => ?_)
    · exact u_vret hR dX7_blame_30 h
    · refine v_aloadn (q := 10) C dX7_blame_9 rfl rfl ?_
      refine u_getR (q := 13) C kl7 fl_X7_18 ob_240 pt_240_2 (by decide) rfl rfl dX7_blame_10 rfl ?_
      refine v_iloadn (q := 14) C dX7_blame_13 rfl rfl ?_
      refine v_iloadn (q := 15) C dX7_blame_14 rfl rfl ?_
      refine u_iast (q := 16) C ia_243 dX7_blame_15 rfl h (fun μ1 h => ?_)
      refine v_aloadn (q := 17) C dX7_blame_16 rfl rfl ?_
      refine v_aloadn (q := 18) C dX7_blame_17 rfl rfl ?_
      refine u_getI (q := 21) C kl7 fl_X7_25 ob_240 pt_240_4 rfl rfl dX7_blame_18 rfl ?_
      refine v_iloadn (q := 22) C dX7_blame_21 rfl rfl ?_
      refine v_iconst (q := 23) C dX7_blame_22 rfl (by decide) ?_
      refine u_iadd (q := 24) C dX7_blame_23 rfl h (fun h => ?_)
      refine v_max (q := 27) C ml_X7_28 (nb rfl) (nb rfl) (Nat.le_refl _) dX7_blame_24 rfl ?_
      refine u_put (q := 30) C kl7 fl_X7_25 ob_240 pt_240_4 rfl rfl rfl rfl dX7_blame_27 rfl h (fun μ2 h => ?_)
      exact u_vret hR dX7_blame_30 h
theorem c_X7_empty  {μ : ZM} {K : ZM → Prop} (h : P_X7_empty   μ K) : zMu yX7_empty cX7_empty 1 none 0 0 [.inr 240] μ (KV K) := by
  refine zMet_of (L0 := [some (.inr 240)]) sy_X7_empty rfl (nb rfl) (Nat.le_refl _) (fun X C _ _ _ hR => ?_)
  have C : zC X cX7_empty RX7 1 none 0 0 274 := C
  refine v_aloadn (q := 1) C dX7_empty_0 rfl rfl ?_
  refine v_iconst (q := 2) C dX7_empty_1 rfl (by decide) ?_
  refine u_put (q := 5) C kl7 fl_X7_21 ob_240 pt_240_3 rfl rfl rfl rfl dX7_empty_2 rfl h (fun μ1 h => ?_)
  refine v_aloadn (q := 6) C dX7_empty_5 rfl rfl ?_
  refine v_iconst (q := 7) C dX7_empty_6 rfl (by decide) ?_
  refine u_put (q := 10) C kl7 fl_X7_25 ob_240 pt_240_4 rfl rfl rfl rfl dX7_empty_7 rfl h (fun μ2 h => ?_)
  exact u_vret hR dX7_empty_10 h
theorem c_X7_write {x1 : Int} {x2 : Int} {μ : ZM} {K : ZM → Prop} (h : P_X7_write  x1 x2 μ K) : zMu yX7_write cX7_write 3 none 0 0 [.inr 240, .inl x1, .inl x2] μ (KV K) := by
  refine zMet_of (L0 := [some (.inr 240), some (.inl x1), some (.inl x2)]) sy_X7_write rfl (nb rfl) (Nat.le_refl _) (fun X C _ _ _ hR => ?_)
  have C : zC X cX7_write RX7 3 none 0 0 274 := C
  refine v_aloadn (q := 1) C dX7_write_0 rfl rfl ?_
  refine u_getI (q := 4) C kl7 fl_X7_21 ob_240 pt_240_3 rfl rfl dX7_write_1 rfl ?_
  refine v_if_lt (q := 7) (tgt := 46) C dX7_write_4 rfl rfl h (fun h => ?_) (fun h => ?_)
  · exact u_vret hR dX7_write_46 h
  · refine v_aloadn (q := 8) C dX7_write_7 rfl rfl ?_
    refine u_getI (q := 11) C kl7 fl_X7_21 ob_240 pt_240_3 rfl rfl dX7_write_8 rfl ?_
    refine v_bipush (q := 13) C dX7_write_11 rfl (by decide) ?_
    refine v_icmp_ge (q := 16) (tgt := 46) C dX7_write_13 rfl rfl h (fun h => ?_) (fun h => ?_)
    · exact u_vret hR dX7_write_46 h
    · refine v_aloadn (q := 17) C dX7_write_16 rfl rfl ?_
      refine u_getR (q := 20) C kl7 fl_X7_9 ob_240 pt_240_0 (by decide) rfl rfl dX7_write_17 rfl ?_
      refine v_aloadn (q := 21) C dX7_write_20 rfl rfl ?_
      refine u_getI (q := 24) C kl7 fl_X7_21 ob_240 pt_240_3 rfl rfl dX7_write_21 rfl ?_
      refine v_iloadn (q := 25) C dX7_write_24 rfl rfl ?_
      refine u_iast (q := 26) C ia_241 dX7_write_25 rfl h (fun μ1 h => ?_)
      refine v_aloadn (q := 27) C dX7_write_26 rfl rfl ?_
      refine u_getR (q := 30) C kl7 fl_X7_15 ob_240 pt_240_1 (by decide) rfl rfl dX7_write_27 rfl ?_
      refine v_aloadn (q := 31) C dX7_write_30 rfl rfl ?_
      refine u_getI (q := 34) C kl7 fl_X7_21 ob_240 pt_240_3 rfl rfl dX7_write_31 rfl ?_
      refine v_iloadn (q := 35) C dX7_write_34 rfl rfl ?_
      refine u_iast (q := 36) C ia_242 dX7_write_35 rfl h (fun μ2 h => ?_)
      refine v_aloadn (q := 37) C dX7_write_36 rfl rfl ?_
      refine v_dup (q := 38) C dX7_write_37 rfl ?_
      refine u_getI (q := 41) C kl7 fl_X7_21 ob_240 pt_240_3 rfl rfl dX7_write_38 rfl ?_
      refine v_iconst (q := 42) C dX7_write_41 rfl (by decide) ?_
      refine u_iadd (q := 43) C dX7_write_42 rfl h (fun h => ?_)
      refine u_put (q := 46) C kl7 fl_X7_21 ob_240 pt_240_3 rfl rfl rfl rfl dX7_write_43 rfl h (fun μ3 h => ?_)
      exact u_vret hR dX7_write_46 h
theorem c_X8_fail {x1 : Int} {x2 : Int} {μ : ZM} {K : Int → ZM → Prop} (h : P_X8_fail  x1 x2 μ K) : zMu yX8_fail cX8_fail 3 (some .int) 2 62 [.inr 244, .inl x1, .inl x2] μ (KI K) := by
  refine zMet_of (L0 := [some (.inr 244), some (.inl x1), some (.inl x2)]) sy_X8_fail rfl (nb rfl) (Nat.le_refl _) (fun X C _ hR _ _ => ?_)
  have C : zC X cX8_fail RX8 3 (some .int) 2 62 274 := C
  refine v_aloadn (q := 1) C dX8_fail_0 rfl rfl ?_
  refine u_getR (q := 4) C kl8 fl_X8_50 ob_244 pt_244_9 (by decide) rfl rfl dX8_fail_1 rfl ?_
  refine v_bipush (q := 6) C dX8_fail_4 rfl (by decide) ?_
  refine v_iloadn (q := 7) C dX8_fail_6 rfl rfl ?_
  refine u_cVv2 (q := 10) C (c_X7_write h) sy_X7_write si_X7_write ml_X8_55 ob_240 (by decide) so_X7_write ⟨nb rfl, nb rfl⟩ (nb rfl) dX8_fail_7 rfl (fun μ1 h => ?_)
  refine v_aloadn (q := 11) C dX8_fail_10 rfl rfl ?_
  refine u_getR (q := 14) C kl8 fl_X8_50 ob_244 pt_244_9 (by decide) rfl rfl dX8_fail_11 rfl ?_
  refine v_iloadn (q := 15) C dX8_fail_14 rfl rfl ?_
  refine v_iloadn (q := 16) C dX8_fail_15 rfl rfl ?_
  refine u_cVv2 (q := 19) C (c_X7_blame h) sy_X7_blame si_X7_blame ml_X8_109 ob_240 (by decide) so_X7_blame ⟨nb rfl, nb rfl⟩ (nb rfl) dX8_fail_16 rfl (fun μ2 h => ?_)
  refine v_iloadn (q := 20) C dX8_fail_19 rfl rfl ?_
  exact u_iret hR dX8_fail_20 h
theorem c_X8_normalize {x1 : Int} {x2 : Int} {x3 : Int} {x4 : Int} {x5 : Int} {μ : ZM} {K : Int → ZM → Prop} (h : P_X8_normalize  x1 x2 x3 x4 x5 μ K) : zMu yX8_normalize cX8_normalize 6 (some .boolean) 4 101 [.inr 244, .inr x1, .inr x2, .inl x3, .inl x4, .inl x5] μ (KI K) := by
  refine zMet_of (L0 := [some (.inr 244), some (.inr x1), some (.inr x2), some (.inl x3), some (.inl x4), some (.inl x5)]) sy_X8_normalize rfl (nb rfl) (Nat.le_refl _) (fun X C _ hR _ _ => ?_)
  have C : zC X cX8_normalize RX8 6 (some .boolean) 4 101 274 := C
  have hx1 := h.1
  replace h := h.2
  have hx2 := h.1
  replace h := h.2
  refine v_aloadn (q := 1) C dX8_normalize_0 rfl rfl ?_
  refine u_getR (q := 4) C kl8 fl_X8_38 ob_244 pt_244_6 (by decide) rfl rfl dX8_normalize_1 rfl ?_
  refine v_aloadn (q := 5) C dX8_normalize_4 rfl rfl ?_
  refine u_getR (v := 6 * (x1 - 187) + 1) (q := 8) C kl0 fl_X8_95 (ob_cm hx1) (pt_left hx1) (by omega) rfl rfl dX8_normalize_5 rfl ?_
  refine v_aloadn (q := 9) C dX8_normalize_8 rfl rfl ?_
  refine u_getR (v := 6 * (x2 - 187) + 1) (q := 12) C kl0 fl_X8_95 (ob_cm hx2) (pt_left hx2) (by omega) rfl rfl dX8_normalize_9 rfl ?_
  refine v_iloadn (q := 13) C dX8_normalize_12 rfl rfl ?_
  refine v_iload (q := 15) C dX8_normalize_13 rfl rfl ?_
  refine v_iload (q := 17) C dX8_normalize_15 rfl rfl ?_
  refine u_cVi5 (q := 20) C (c_X6_rewrite h) sy_X6_rewrite si_X6_rewrite ml_X8_119 ob_222 (by decide) so_X6_rewrite ⟨nb rfl, nb rfl⟩ (nb rfl) dX8_normalize_17 rfl (fun r2 μ1 h => ?_)
  refine v_if_eq (q := 23) (tgt := 50) C dX8_normalize_20 rfl rfl h (fun h => ?_) (fun h => ?_)
  · refine v_iconst (q := 51) C dX8_normalize_50 rfl (by decide) ?_
    exact u_zret hR dX8_normalize_51 h
  · refine v_aloadn (q := 24) C dX8_normalize_23 rfl rfl ?_
    refine u_getR (q := 27) C kl8 fl_X8_38 ob_244 pt_244_6 (by decide) rfl rfl dX8_normalize_24 rfl ?_
    refine v_aloadn (q := 28) C dX8_normalize_27 rfl rfl ?_
    refine u_getR (v := 6 * (x1 - 187) + 4) (q := 31) C kl0 fl_X8_102 (ob_cm hx1) (pt_right hx1) (by omega) rfl rfl dX8_normalize_28 rfl ?_
    refine v_aloadn (q := 32) C dX8_normalize_31 rfl rfl ?_
    refine u_getR (v := 6 * (x2 - 187) + 4) (q := 35) C kl0 fl_X8_102 (ob_cm hx2) (pt_right hx2) (by omega) rfl rfl dX8_normalize_32 rfl ?_
    refine v_iloadn (q := 36) C dX8_normalize_35 rfl rfl ?_
    refine v_iload (q := 38) C dX8_normalize_36 rfl rfl ?_
    refine v_iload (q := 40) C dX8_normalize_38 rfl rfl ?_
    refine u_cVi5 (q := 43) C (c_X6_rewrite h) sy_X6_rewrite si_X6_rewrite ml_X8_119 ob_222 (by decide) so_X6_rewrite ⟨nb rfl, nb rfl⟩ (nb rfl) dX8_normalize_40 rfl (fun r4 μ3 h => ?_)
    refine v_if_eq (q := 46) (tgt := 50) C dX8_normalize_43 rfl rfl h (fun h => ?_) (fun h => ?_)
    · refine v_iconst (q := 51) C dX8_normalize_50 rfl (by decide) ?_
      exact u_zret hR dX8_normalize_51 h
    · refine v_iconst (q := 47) C dX8_normalize_46 rfl (by decide) ?_
      refine v_goto (q := 51) C dX8_normalize_47 rfl ?_
      exact u_zret hR dX8_normalize_51 h
theorem c_X8_succeed {x1 : Int} {μ : ZM} {K : Int → ZM → Prop} (h : P_X8_succeed  x1 μ K) : zMu yX8_succeed cX8_succeed 2 (some .int) 4 104 [.inr 244, .inl x1] μ (KI K) := by
  refine zMet_of (L0 := [some (.inr 244), some (.inl x1)]) sy_X8_succeed rfl (nb rfl) (Nat.le_refl _) (fun X C _ hR _ _ => ?_)
  have C : zC X cX8_succeed RX8 2 (some .int) 4 104 274 := C
  refine v_aloadn (q := 1) C dX8_succeed_0 rfl rfl ?_
  refine u_getR (q := 4) C kl8 fl_X8_50 ob_244 pt_244_9 (by decide) rfl rfl dX8_succeed_1 rfl ?_
  refine v_bipush (q := 6) C dX8_succeed_4 rfl (by decide) ?_
  refine v_iloadn (q := 7) C dX8_succeed_6 rfl rfl ?_
  refine u_cVv2 (q := 10) C (c_X7_write h) sy_X7_write si_X7_write ml_X8_55 ob_240 (by decide) so_X7_write ⟨nb rfl, nb rfl⟩ (nb rfl) dX8_succeed_7 rfl (fun μ1 h => ?_)
  refine v_aloadn (q := 11) C dX8_succeed_10 rfl rfl ?_
  refine u_getR (q := 14) C kl8 fl_X8_46 ob_244 pt_244_8 (by decide) rfl rfl dX8_succeed_11 rfl ?_
  refine v_aloadn (q := 15) C dX8_succeed_14 rfl rfl ?_
  refine u_getR (q := 18) C kl8 fl_X8_11 ob_244 pt_244_0 (by decide) rfl rfl dX8_succeed_15 rfl ?_
  refine v_iloadn (q := 19) C dX8_succeed_18 rfl rfl ?_
  have hb2 := h.1
  refine u_fald (v := 195 + 1 * x1) (q := 20) C fa_245 (Or.inr rfl) dX8_succeed_19 rfl h (fun h9 => ⟨fe_245 h9, by omega⟩) (fun h => ?_)
  have hf3 : z_cm (195 + 1 * x1) := by omega
  refine u_cVv1 (q := 23) C (c_X4_keep h) sy_X4_keep si_X4_keep ml_X8_155 ob_238 (by decide) so_X4_keep ⟨nb rfl, nb rfl⟩ (nb rfl) dX8_succeed_20 rfl (fun μ4 h => ?_)
  refine v_iconst (q := 24) C dX8_succeed_23 rfl (by decide) ?_
  exact u_iret hR dX8_succeed_24 h
theorem w_X8_ripple_3 {X : ZX} (C : zC X cX8_ripple RX8 6 none 5 146 274) {K : ZM → Prop} (hR : zRv X cX8_ripple none 274 (KN (KV K)))  {x1 : Int} {x2 : Int} {x3 : Int} {x4 : Int} {μ : ZM}  (hx1 : z_tm x1) (hx2 : z_tm x2) (h : P_X8_ripple_3   x1 x2 x3 x4 μ K) : zV X 3 [some (.inr 244), some (.inr x1), some (.inr x2), some (.inl x3), some (.inl x4), none] [] 274 (z_ov μ) := by
  refine h (fun x4 μ => zV X 3 [some (.inr 244), some (.inr x1), some (.inr x2), some (.inl x3), some (.inl x4), none] [] 274 (z_ov μ)) (fun x4 μ h => ?_)
  refine v_iload (q := 5) C dX8_ripple_3 rfl rfl ?_
  refine v_sipush (q := 8) C dX8_ripple_5 rfl (by decide) ?_
  refine v_icmp_ge (q := 11) (tgt := 51) C dX8_ripple_8 rfl rfl h (fun h => ?_) (fun h => ?_)
  · exact u_vret hR dX8_ripple_51 h
  · refine v_aloadn (q := 12) C dX8_ripple_11 rfl rfl ?_
    refine u_getR (q := 15) C kl8 fl_X8_46 ob_244 pt_244_8 (by decide) rfl rfl dX8_ripple_12 rfl ?_
    refine v_aloadn (q := 16) C dX8_ripple_15 rfl rfl ?_
    refine v_aloadn (q := 17) C dX8_ripple_16 rfl rfl ?_
    refine u_cVi2 (q := 20) C (c_X4_ripple h) sy_X4_ripple si_X4_ripple ml_X8_125 ob_238 (by decide) so_X4_ripple ⟨nb rfl, nb rfl⟩ (nb rfl) dX8_ripple_17 rfl (fun r2 μ1 h => ?_)
    refine v_istore (q := 22) C dX8_ripple_20 rfl (nb rfl) (L' := [some (.inr 244), some (.inr x1), some (.inr x2), some (.inl x3), some (.inl x4), some (.inl r2)]) rfl ?_
    refine v_iload (q := 24) C dX8_ripple_22 rfl rfl ?_
    refine v_bipush (q := 26) C dX8_ripple_24 rfl (by decide) ?_
    refine v_icmp_ne (q := 29) (tgt := 30) C dX8_ripple_26 rfl rfl h (fun h => ?_) (fun h => ?_)
    · exact u_vret hR dX8_ripple_29 h
    · refine v_aloadn (q := 31) C dX8_ripple_30 rfl rfl ?_
      refine u_getR (q := 34) C kl8 fl_X8_50 ob_244 pt_244_9 (by decide) rfl rfl dX8_ripple_31 rfl ?_
      refine v_iconst (q := 35) C dX8_ripple_34 rfl (by decide) ?_
      refine v_iload (q := 37) C dX8_ripple_35 rfl rfl ?_
      refine v_bipush (q := 39) C dX8_ripple_37 rfl (by decide) ?_
      refine v_iloadn (q := 40) C dX8_ripple_39 rfl rfl ?_
      refine u_imul (q := 41) C dX8_ripple_40 rfl h (fun h => ?_)
      refine u_iadd (q := 42) C dX8_ripple_41 rfl h (fun h => ?_)
      refine u_cVv2 (q := 45) C (c_X7_write h) sy_X7_write si_X7_write ml_X8_55 ob_240 (by decide) so_X7_write ⟨nb rfl, nb rfl⟩ (nb rfl) dX8_ripple_42 rfl (fun μ3 h => ?_)
      refine u_iinc (q := 48) C dX8_ripple_45 rfl (nb rfl) rfl (L' := [some (.inr 244), some (.inr x1), some (.inr x2), some (.inl x3), some (.inl (x4 + 1)), some (.inl r2)]) rfl h (fun h => ?_)
      refine v_goto (q := 3) C dX8_ripple_48 rfl ?_
      exact v_mask [true, true, true, true, true, false] rfl h
theorem c_X8_ripple {x1 : Int} {x2 : Int} {x3 : Int} {μ : ZM} {K : ZM → Prop} (h : P_X8_ripple  x1 x2 x3 μ K) : zMu yX8_ripple cX8_ripple 6 none 5 146 [.inr 244, .inr x1, .inr x2, .inl x3] μ (KV K) := by
  refine zMet_of (L0 := [some (.inr 244), some (.inr x1), some (.inr x2), some (.inl x3), none, none]) sy_X8_ripple rfl (nb rfl) (Nat.le_refl _) (fun X C _ _ _ hR => ?_)
  have C : zC X cX8_ripple RX8 6 none 5 146 274 := C
  have hx1 := h.1
  replace h := h.2
  have hx2 := h.1
  replace h := h.2
  refine v_iconst (q := 1) C dX8_ripple_0 rfl (by decide) ?_
  refine v_istore (q := 3) C dX8_ripple_1 rfl (nb rfl) (L' := [some (.inr 244), some (.inr x1), some (.inr x2), some (.inl x3), some (.inl 0), none]) rfl ?_
  exact (w_X8_ripple_3  C hR  hx1 hx2 h)
theorem w_X8_useClaim_3 {X : ZX} (C : zC X cX8_useClaim RX8 7 (some .boolean) 3 93 274) {K : Int → ZM → Prop} (hR : zRi X cX8_useClaim (some .boolean) 274 (KN (KI K)))  {x1 : Int} {x2 : Int} {x3 : Int} {x4 : Int} {μ : ZM}  (hx1 : z_cm x1) (hx2 : z_cm x2) (h : P_X8_useClaim_3   x1 x2 x3 x4 μ K) : zV X 3 [some (.inr 244), some (.inr x1), some (.inr x2), some (.inl x3), some (.inl x4), none, none] [] 274 (z_ov μ) := by
  refine h (fun x4 μ => zV X 3 [some (.inr 244), some (.inr x1), some (.inr x2), some (.inl x3), some (.inl x4), none, none] [] 274 (z_ov μ)) (fun x4 μ h => ?_)
  refine v_iload (q := 5) C dX8_useClaim_3 rfl rfl ?_
  refine v_iconst (q := 6) C dX8_useClaim_5 rfl (by decide) ?_
  refine v_icmp_gt (q := 9) (tgt := 100) C dX8_useClaim_6 rfl rfl h (fun h => ?_) (fun h => ?_)
  · refine v_iconst (q := 101) C dX8_useClaim_100 rfl (by decide) ?_
    exact u_zret hR dX8_useClaim_101 h
  · refine v_aloadn (q := 10) C dX8_useClaim_9 rfl rfl ?_
    refine v_iload (q := 12) C dX8_useClaim_10 rfl rfl ?_
    refine u_cVa1 (q := 15) C (c_X0_part h) sy_X0_part si_X0_part ml_X8_130 (ob_cm hx2) (by decide) so_X0_part ⟨nb rfl, nb rfl⟩ (nb rfl) dX8_useClaim_12 rfl (fun r2 μ1 h => ?_)
    have hf3 := h.1
    replace h := h.2
    refine v_astore (q := 17) C dX8_useClaim_15 rfl (nb rfl) (L' := [some (.inr 244), some (.inr x1), some (.inr x2), some (.inl x3), some (.inl x4), some (.inr r2), none]) rfl ?_
    refine v_aloadn (q := 18) C dX8_useClaim_17 rfl rfl ?_
    refine u_getR (q := 21) C kl8 fl_X8_42 ob_244 pt_244_7 (by decide) rfl rfl dX8_useClaim_18 rfl ?_
    refine v_aloadn (q := 22) C dX8_useClaim_21 rfl rfl ?_
    refine v_iload (q := 24) C dX8_useClaim_22 rfl rfl ?_
    refine u_cVa1 (q := 27) C (c_X0_part h) sy_X0_part si_X0_part ml_X8_130 (ob_cm hx1) (by decide) so_X0_part ⟨nb rfl, nb rfl⟩ (nb rfl) dX8_useClaim_24 rfl (fun r5 μ4 h => ?_)
    have hf6 := h.1
    replace h := h.2
    refine v_aload (q := 29) C dX8_useClaim_27 rfl rfl ?_
    refine v_iloadn (q := 30) C dX8_useClaim_29 rfl rfl ?_
    refine u_cVi3 (q := 33) C (c_X5_firstMatch h) sy_X5_firstMatch si_X5_firstMatch ml_X8_134 ob_236 (by decide) so_X5_firstMatch ⟨nb rfl, nb rfl⟩ (nb rfl) dX8_useClaim_30 rfl (fun r8 μ7 h => ?_)
    refine v_istore (q := 35) C dX8_useClaim_33 rfl (nb rfl) (L' := [some (.inr 244), some (.inr x1), some (.inr x2), some (.inl x3), some (.inl x4), some (.inr r2), some (.inl r8)]) rfl ?_
    refine v_iload (q := 37) C dX8_useClaim_35 rfl rfl ?_
    refine v_bipush (q := 39) C dX8_useClaim_37 rfl (by decide) ?_
    refine v_icmp_ne (q := 42) (tgt := 45) C dX8_useClaim_39 rfl rfl h (fun h => ?_) (fun h => ?_)
    · refine v_goto (q := 94) C dX8_useClaim_42 rfl ?_
      refine u_iinc (q := 97) C dX8_useClaim_94 rfl (nb rfl) rfl (L' := [some (.inr 244), some (.inr x1), some (.inr x2), some (.inl x3), some (.inl (x4 + 1)), some (.inr r2), some (.inl r8)]) rfl h (fun h => ?_)
      refine v_goto (q := 3) C dX8_useClaim_97 rfl ?_
      exact v_mask [true, true, true, true, true, false, false] rfl h
    · refine v_aloadn (q := 46) C dX8_useClaim_45 rfl rfl ?_
      refine u_getR (q := 49) C kl8 fl_X8_42 ob_244 pt_244_7 (by decide) rfl rfl dX8_useClaim_46 rfl ?_
      refine v_aloadn (q := 50) C dX8_useClaim_49 rfl rfl ?_
      refine v_iconst (q := 51) C dX8_useClaim_50 rfl (by decide) ?_
      refine v_iload (q := 53) C dX8_useClaim_51 rfl rfl ?_
      refine u_isub (q := 54) C dX8_useClaim_53 rfl h (fun h => ?_)
      refine u_cVa1 (q := 57) C (c_X0_part h) sy_X0_part si_X0_part ml_X8_130 (ob_cm hx1) (by decide) so_X0_part ⟨nb rfl, nb rfl⟩ (nb rfl) dX8_useClaim_54 rfl (fun r10 μ9 h => ?_)
      have hf11 := h.1
      replace h := h.2
      refine v_aload (q := 59) C dX8_useClaim_57 rfl rfl ?_
      refine v_iload (q := 61) C dX8_useClaim_59 rfl rfl ?_
      refine v_aloadn (q := 62) C dX8_useClaim_61 rfl rfl ?_
      refine u_getR (q := 65) C kl8 fl_X8_26 ob_244 pt_244_3 (by decide) rfl rfl dX8_useClaim_62 rfl ?_
      refine u_cVi4 (q := 68) C (c_X5_replace h) sy_X5_replace si_X5_replace ml_X8_140 ob_236 (by decide) so_X5_replace ⟨nb rfl, nb rfl⟩ (nb rfl) dX8_useClaim_65 rfl (fun r13 μ12 h => ?_)
      refine v_if_ne (q := 71) (tgt := 73) C dX8_useClaim_68 rfl rfl h (fun h => ?_) (fun h => ?_)
      · refine v_iconst (q := 72) C dX8_useClaim_71 rfl (by decide) ?_
        exact u_zret hR dX8_useClaim_72 h
      · refine v_aload (q := 75) C dX8_useClaim_73 rfl rfl ?_
        refine v_aloadn (q := 76) C dX8_useClaim_75 rfl rfl ?_
        refine u_getR (q := 79) C kl8 fl_X8_26 ob_244 pt_244_3 (by decide) rfl rfl dX8_useClaim_76 rfl ?_
        refine u_cVv1 (q := 82) C (c_X10_copy h) sy_X10_copy si_X10_copy ml_X8_144 (ob_tm hf3) (by decide) so_X10_copy ⟨nb rfl, nb rfl⟩ (nb rfl) dX8_useClaim_79 rfl (fun μ14 h => ?_)
        refine v_aloadn (q := 83) C dX8_useClaim_82 rfl rfl ?_
        refine u_getR (q := 86) C kl8 fl_X8_50 ob_244 pt_244_9 (by decide) rfl rfl dX8_useClaim_83 rfl ?_
        refine v_iconst (q := 87) C dX8_useClaim_86 rfl (by decide) ?_
        refine v_iload (q := 89) C dX8_useClaim_87 rfl rfl ?_
        refine u_cVv2 (q := 92) C (c_X7_write h) sy_X7_write si_X7_write ml_X8_55 ob_240 (by decide) so_X7_write ⟨nb rfl, nb rfl⟩ (nb rfl) dX8_useClaim_89 rfl (fun μ15 h => ?_)
        refine v_iconst (q := 93) C dX8_useClaim_92 rfl (by decide) ?_
        exact u_zret hR dX8_useClaim_93 h
theorem c_X8_useClaim {x1 : Int} {x2 : Int} {x3 : Int} {μ : ZM} {K : Int → ZM → Prop} (h : P_X8_useClaim  x1 x2 x3 μ K) : zMu yX8_useClaim cX8_useClaim 7 (some .boolean) 3 93 [.inr 244, .inr x1, .inr x2, .inl x3] μ (KI K) := by
  refine zMet_of (L0 := [some (.inr 244), some (.inr x1), some (.inr x2), some (.inl x3), none, none, none]) sy_X8_useClaim rfl (nb rfl) (Nat.le_refl _) (fun X C _ hR _ _ => ?_)
  have C : zC X cX8_useClaim RX8 7 (some .boolean) 3 93 274 := C
  have hx1 := h.1
  replace h := h.2
  have hx2 := h.1
  replace h := h.2
  refine v_iconst (q := 1) C dX8_useClaim_0 rfl (by decide) ?_
  refine v_istore (q := 3) C dX8_useClaim_1 rfl (nb rfl) (L' := [some (.inr 244), some (.inr x1), some (.inr x2), some (.inl x3), some (.inl 0), none, none]) rfl ?_
  exact (w_X8_useClaim_3  C hR  hx1 hx2 h)
theorem c_X8_guess {x1 : Int} {x2 : Int} {μ : ZM} {K : Int → ZM → Prop} (h : P_X8_guess  x1 x2 μ K) : zMu yX8_guess cX8_guess 4 (some .int) 5 145 [.inr 244, .inr x1, .inr x2] μ (KI K) := by
  refine zMet_of (L0 := [some (.inr 244), some (.inr x1), some (.inr x2), none]) sy_X8_guess rfl (nb rfl) (Nat.le_refl _) (fun X C _ hR _ _ => ?_)
  have C : zC X cX8_guess RX8 4 (some .int) 5 145 274 := C
  have hx1 := h.1
  replace h := h.2
  have hx2 := h.1
  replace h := h.2
  refine v_aloadn (q := 1) C dX8_guess_0 rfl rfl ?_
  refine v_aloadn (q := 2) C dX8_guess_1 rfl rfl ?_
  refine v_aloadn (q := 3) C dX8_guess_2 rfl rfl ?_
  refine u_getR (q := 6) C kl8 fl_X8_30 ob_244 pt_244_4 (by decide) rfl rfl dX8_guess_3 rfl ?_
  refine u_cVi2 (q := 9) C (c_X0_generalize h) sy_X0_generalize si_X0_generalize ml_X8_148 (ob_cm hx1) (by decide) so_X0_generalize ⟨nb rfl, nb rfl⟩ (nb rfl) dX8_guess_6 rfl (fun r2 μ1 h => ?_)
  refine v_istoren (q := 10) C dX8_guess_9 rfl (nb rfl) (L' := [some (.inr 244), some (.inr x1), some (.inr x2), some (.inl r2)]) rfl ?_
  refine v_iloadn (q := 11) C dX8_guess_10 rfl rfl ?_
  refine v_bipush (q := 13) C dX8_guess_11 rfl (by decide) ?_
  refine v_icmp_eq (q := 16) (tgt := 35) C dX8_guess_13 rfl rfl h (fun h => ?_) (fun h => ?_)
  · refine v_iloadn (q := 36) C dX8_guess_35 rfl rfl ?_
    exact u_iret hR dX8_guess_36 h
  · refine v_aloadn (q := 17) C dX8_guess_16 rfl rfl ?_
    refine u_getR (q := 20) C kl8 fl_X8_34 ob_244 pt_244_5 (by decide) rfl rfl dX8_guess_17 rfl ?_
    refine v_aloadn (q := 21) C dX8_guess_20 rfl rfl ?_
    refine u_cVi1 (q := 24) C (c_X2_refutes h) sy_X2_refutes si_X2_refutes ml_X8_61 ob_215 (by decide) so_X2_refutes ⟨nb rfl, nb rfl⟩ (nb rfl) dX8_guess_21 rfl (fun r4 μ3 h => ?_)
    refine v_if_eq (q := 27) (tgt := 35) C dX8_guess_24 rfl rfl h (fun h => ?_) (fun h => ?_)
    · refine v_iloadn (q := 36) C dX8_guess_35 rfl rfl ?_
      exact u_iret hR dX8_guess_36 h
    · refine v_aloadn (q := 28) C dX8_guess_27 rfl rfl ?_
      refine v_aloadn (q := 29) C dX8_guess_28 rfl rfl ?_
      refine u_cVv1 (q := 32) C (c_X0_copy h) sy_X0_copy si_X0_copy ml_X8_152 (ob_cm hx2) (by decide) so_X0_copy ⟨nb rfl, nb rfl⟩ (nb rfl) dX8_guess_29 rfl (fun μ5 h => ?_)
      refine v_bipush (q := 34) C dX8_guess_32 rfl (by decide) ?_
      exact u_iret hR dX8_guess_34 h
theorem w_X8_proveCase_139 {X : ZX} {att : (Int → ZM → (Int → ZM → Prop) → Prop)} {fa la f l : Nat} (hA : ∀ (x1 : Int) (μ : ZM) (K : Int → ZM → Prop), att x1 μ K → zMu yX8_attempt cX8_attempt 7 (some .int) fa la [.inr 244, .inl x1] μ (KI K)) (hfa : fa + 1 ≤ f ∧ 8 + (7 + 11) + la ≤ l) (hf : 6 ≤ f ∧ 171 ≤ l) (C : zC X cX8_proveCase RX8 8 (some .int) f l 274) {K : Int → ZM → Prop} (hR : zRi X cX8_proveCase (some .int) 274 (KN (KI K)))  {x1 : Int} {x7 : Int} {μ : ZM}  (hx7 : z_cm x7) (h : P_X8_proveCase_139 att  x1 x7 μ K) : zV X 139 [some (.inr 244), some (.inl x1), none, none, none, none, none, some (.inr x7)] [] 274 (z_ov μ) := by
  refine v_iloadn (q := 140) C dX8_proveCase_139 rfl rfl ?_
  refine v_iconst (q := 141) C dX8_proveCase_140 rfl (by decide) ?_
  refine u_iadd (q := 142) C dX8_proveCase_141 rfl h (fun h => ?_)
  refine v_iconst (q := 143) C dX8_proveCase_142 rfl (by decide) ?_
  refine v_icmp_lt (q := 146) (tgt := 159) C dX8_proveCase_143 rfl rfl h (fun h => ?_) (fun h => ?_)
  · refine v_aloadn (q := 160) C dX8_proveCase_159 rfl rfl ?_
    refine u_getR (q := 163) C kl8 fl_X8_50 ob_244 pt_244_9 (by decide) rfl rfl dX8_proveCase_160 rfl ?_
    refine v_bipush (q := 165) C dX8_proveCase_163 rfl (by decide) ?_
    refine v_aloadn (q := 166) C dX8_proveCase_165 rfl rfl ?_
    refine v_aload (q := 168) C dX8_proveCase_166 rfl rfl ?_
    refine v_aloadn (q := 169) C dX8_proveCase_168 rfl rfl ?_
    refine u_getR (q := 172) C kl8 fl_X8_11 ob_244 pt_244_0 (by decide) rfl rfl dX8_proveCase_169 rfl ?_
    refine v_iloadn (q := 173) C dX8_proveCase_172 rfl rfl ?_
    refine v_iconst (q := 174) C dX8_proveCase_173 rfl (by decide) ?_
    refine u_iadd (q := 175) C dX8_proveCase_174 rfl h (fun h => ?_)
    have hb10 := h.1
    refine u_fald (v := 195 + 1 * (x1 + 1)) (q := 176) C fa_245 (Or.inr rfl) dX8_proveCase_175 rfl h (fun h9 => ⟨fe_245 h9, by omega⟩) (fun h => ?_)
    have hf11 : z_cm (195 + 1 * (x1 + 1)) := by omega
    refine u_cVi2 (q := 179) C (c_X8_guess h) sy_X8_guess si_X8_guess ml_X8_112 ob_244 (by decide) so_X8_guess ⟨Nat.le_trans (nb rfl) hf.1, Nat.le_trans (nb rfl) hf.2⟩ (nb rfl) dX8_proveCase_176 rfl (fun r13 μ12 h => ?_)
    refine u_cVv2 (q := 182) C (c_X7_write h) sy_X7_write si_X7_write ml_X8_55 ob_240 (by decide) so_X7_write ⟨Nat.le_trans (nb rfl) hf.1, Nat.le_trans (nb rfl) hf.2⟩ (nb rfl) dX8_proveCase_179 rfl (fun μ14 h => ?_)
    refine v_aloadn (q := 183) C dX8_proveCase_182 rfl rfl ?_
    refine v_iloadn (q := 184) C dX8_proveCase_183 rfl rfl ?_
    refine v_iconst (q := 185) C dX8_proveCase_184 rfl (by decide) ?_
    refine u_iadd (q := 186) C dX8_proveCase_185 rfl h (fun h => ?_)
    refine u_cVi1 (q := 189) C (hA _ _ _ h) sy_X8_attempt si_X8_attempt ml_X8_116 ob_244 (by decide) so_X8_attempt hfa (nb rfl) dX8_proveCase_186 rfl (fun r16 μ15 h => ?_)
    exact u_iret hR dX8_proveCase_189 h
  · refine v_aloadn (q := 147) C dX8_proveCase_146 rfl rfl ?_
    refine u_getR (q := 150) C kl8 fl_X8_50 ob_244 pt_244_9 (by decide) rfl rfl dX8_proveCase_147 rfl ?_
    refine v_iloadn (q := 151) C dX8_proveCase_150 rfl rfl ?_
    refine v_iconst (q := 152) C dX8_proveCase_151 rfl (by decide) ?_
    refine u_iadd (q := 153) C dX8_proveCase_152 rfl h (fun h => ?_)
    refine v_iconst (q := 154) C dX8_proveCase_153 rfl (by decide) ?_
    refine u_cVv2 (q := 157) C (c_X7_blame h) sy_X7_blame si_X7_blame ml_X8_109 ob_240 (by decide) so_X7_blame ⟨Nat.le_trans (nb rfl) hf.1, Nat.le_trans (nb rfl) hf.2⟩ (nb rfl) dX8_proveCase_154 rfl (fun μ17 h => ?_)
    refine v_iconst (q := 158) C dX8_proveCase_157 rfl (by decide) ?_
    exact u_iret hR dX8_proveCase_158 h
theorem w_X8_proveCase_20 {X : ZX} {att : (Int → ZM → (Int → ZM → Prop) → Prop)} {fa la f l : Nat} (hA : ∀ (x1 : Int) (μ : ZM) (K : Int → ZM → Prop), att x1 μ K → zMu yX8_attempt cX8_attempt 7 (some .int) fa la [.inr 244, .inl x1] μ (KI K)) (hfa : fa + 1 ≤ f ∧ 8 + (7 + 11) + la ≤ l) (hf : 6 ≤ f ∧ 171 ≤ l) (C : zC X cX8_proveCase RX8 8 (some .int) f l 274) {K : Int → ZM → Prop} (hR : zRi X cX8_proveCase (some .int) 274 (KN (KI K)))  {x1 : Int} {x2 : Int} {x3 : Int} {s0 : Int} {μ : ZM}   (h : P_X8_proveCase_20 att  x1 x2 x3 s0 μ K) : zV X 20 [some (.inr 244), some (.inl x1), some (.inl x2), some (.inl x3), none, none, none, none] [.inl s0] 274 (z_ov μ) := by
  refine v_istore (q := 22) C dX8_proveCase_20 rfl (nb rfl) (L' := [some (.inr 244), some (.inl x1), some (.inl x2), some (.inl x3), none, some (.inl s0), none, none]) rfl ?_
  refine v_aloadn (q := 23) C dX8_proveCase_22 rfl rfl ?_
  refine u_getR (q := 26) C kl8 fl_X8_17 ob_244 pt_244_1 (by decide) rfl rfl dX8_proveCase_23 rfl ?_
  refine v_iloadn (q := 27) C dX8_proveCase_26 rfl rfl ?_
  have hb2 := h.1
  refine u_fald (v := 198 + 1 * x1) (q := 28) C fa_246 (Or.inr rfl) dX8_proveCase_27 rfl h (fun h9 => ⟨fe_246 h9, by omega⟩) (fun h => ?_)
  have hf3 : z_cm (198 + 1 * x1) := by omega
  refine v_astore (q := 30) C dX8_proveCase_28 rfl (nb rfl) (L' := [some (.inr 244), some (.inl x1), some (.inl x2), some (.inl x3), none, some (.inl s0), some (.inr (198 + 1 * x1)), none]) rfl ?_
  refine v_aloadn (q := 31) C dX8_proveCase_30 rfl rfl ?_
  refine u_getR (q := 34) C kl8 fl_X8_20 ob_244 pt_244_2 (by decide) rfl rfl dX8_proveCase_31 rfl ?_
  refine v_iloadn (q := 35) C dX8_proveCase_34 rfl rfl ?_
  have hb4 := h.1
  refine u_fald (v := 201 + 1 * x1) (q := 36) C fa_247 (Or.inr rfl) dX8_proveCase_35 rfl h (fun h9 => ⟨fe_247 h9, by omega⟩) (fun h => ?_)
  have hf5 : z_cm (201 + 1 * x1) := by omega
  refine v_astore (q := 38) C dX8_proveCase_36 rfl (nb rfl) (L' := [some (.inr 244), some (.inl x1), some (.inl x2), some (.inl x3), none, some (.inl s0), some (.inr (198 + 1 * x1)), some (.inr (201 + 1 * x1))]) rfl ?_
  refine v_aloadn (q := 39) C dX8_proveCase_38 rfl rfl ?_
  refine v_aload (q := 41) C dX8_proveCase_39 rfl rfl ?_
  refine v_aload (q := 43) C dX8_proveCase_41 rfl rfl ?_
  refine v_iloadn (q := 44) C dX8_proveCase_43 rfl rfl ?_
  refine v_iloadn (q := 45) C dX8_proveCase_44 rfl rfl ?_
  refine v_iload (q := 47) C dX8_proveCase_45 rfl rfl ?_
  refine u_cVi5 (q := 50) C (c_X8_normalize h) sy_X8_normalize si_X8_normalize ml_X8_71 ob_244 (by decide) so_X8_normalize ⟨Nat.le_trans (nb rfl) hf.1, Nat.le_trans (nb rfl) hf.2⟩ (nb rfl) dX8_proveCase_47 rfl (fun r7 μ6 h => ?_)
  refine v_if_ne (q := 53) (tgt := 55) C dX8_proveCase_50 rfl rfl h (fun h => ?_) (fun h => ?_)
  · refine v_iconst (q := 54) C dX8_proveCase_53 rfl (by decide) ?_
    exact u_iret hR dX8_proveCase_54 h
  · refine v_aload (q := 57) C dX8_proveCase_55 rfl rfl ?_
    refine u_cVi0 (q := 60) C (c_X0_isTrivial h) sy_X0_isTrivial si_X0_isTrivial ml_X8_75 (ob_cm hf5) (by decide) so_X0_isTrivial ⟨Nat.le_trans (nb rfl) hf.1, Nat.le_trans (nb rfl) hf.2⟩ (nb rfl) dX8_proveCase_57 rfl (fun r9 μ8 h => ?_)
    refine v_if_eq (q := 63) (tgt := 65) C dX8_proveCase_60 rfl rfl h (fun h => ?_) (fun h => ?_)
    · refine v_iload (q := 67) C dX8_proveCase_65 rfl rfl ?_
      refine v_if_eq (q := 70) (tgt := 139) C dX8_proveCase_67 rfl rfl h (fun h => ?_) (fun h => ?_)
      · exact v_mask [true, true, false, false, false, false, false, true] rfl (w_X8_proveCase_139 hA hfa hf C hR  hf5 h)
      · refine v_aloadn (q := 71) C dX8_proveCase_70 rfl rfl ?_
        refine v_aload (q := 73) C dX8_proveCase_71 rfl rfl ?_
        refine u_getR (v := 6 * (198 + 1 * x1 - 187) + 1) (q := 76) C kl0 fl_X8_95 (ob_cm hf3) (pt_left hf3) (by omega) rfl rfl dX8_proveCase_73 rfl ?_
        refine v_aload (q := 78) C dX8_proveCase_76 rfl rfl ?_
        refine u_getR (v := 6 * (201 + 1 * x1 - 187) + 1) (q := 81) C kl0 fl_X8_95 (ob_cm hf5) (pt_left hf5) (by omega) rfl rfl dX8_proveCase_78 rfl ?_
        refine v_iconst (q := 82) C dX8_proveCase_81 rfl (by decide) ?_
        refine u_cVv3 (q := 85) C (c_X8_ripple h) sy_X8_ripple si_X8_ripple ml_X8_98 ob_244 (by decide) so_X8_ripple ⟨Nat.le_trans (nb rfl) hf.1, Nat.le_trans (nb rfl) hf.2⟩ (nb rfl) dX8_proveCase_82 rfl (fun μ18 h => ?_)
        refine v_aloadn (q := 86) C dX8_proveCase_85 rfl rfl ?_
        refine v_aload (q := 88) C dX8_proveCase_86 rfl rfl ?_
        refine u_getR (v := 6 * (198 + 1 * x1 - 187) + 4) (q := 91) C kl0 fl_X8_102 (ob_cm hf3) (pt_right hf3) (by omega) rfl rfl dX8_proveCase_88 rfl ?_
        refine v_aload (q := 93) C dX8_proveCase_91 rfl rfl ?_
        refine u_getR (v := 6 * (201 + 1 * x1 - 187) + 4) (q := 96) C kl0 fl_X8_102 (ob_cm hf5) (pt_right hf5) (by omega) rfl rfl dX8_proveCase_93 rfl ?_
        refine v_iconst (q := 97) C dX8_proveCase_96 rfl (by decide) ?_
        refine u_cVv3 (q := 100) C (c_X8_ripple h) sy_X8_ripple si_X8_ripple ml_X8_98 ob_244 (by decide) so_X8_ripple ⟨Nat.le_trans (nb rfl) hf.1, Nat.le_trans (nb rfl) hf.2⟩ (nb rfl) dX8_proveCase_97 rfl (fun μ19 h => ?_)
        refine v_aloadn (q := 101) C dX8_proveCase_100 rfl rfl ?_
        refine v_aload (q := 103) C dX8_proveCase_101 rfl rfl ?_
        refine v_aload (q := 105) C dX8_proveCase_103 rfl rfl ?_
        refine v_iloadn (q := 106) C dX8_proveCase_105 rfl rfl ?_
        refine u_cVi3 (q := 109) C (c_X8_useClaim h) sy_X8_useClaim si_X8_useClaim ml_X8_105 ob_244 (by decide) so_X8_useClaim ⟨Nat.le_trans (nb rfl) hf.1, Nat.le_trans (nb rfl) hf.2⟩ (nb rfl) dX8_proveCase_106 rfl (fun r21 μ20 h => ?_)
        refine v_if_eq (q := 112) (tgt := 127) C dX8_proveCase_109 rfl rfl h (fun h => ?_) (fun h => ?_)
        · refine v_iconst (q := 128) C dX8_proveCase_127 rfl (by decide) ?_
          exact u_iret hR dX8_proveCase_128 h
        · refine v_aloadn (q := 113) C dX8_proveCase_112 rfl rfl ?_
          refine v_aload (q := 115) C dX8_proveCase_113 rfl rfl ?_
          refine v_aload (q := 117) C dX8_proveCase_115 rfl rfl ?_
          refine v_bipush (q := 119) C dX8_proveCase_117 rfl (by decide) ?_
          refine v_iconst (q := 120) C dX8_proveCase_119 rfl (by decide) ?_
          refine v_iconst (q := 121) C dX8_proveCase_120 rfl (by decide) ?_
          refine u_cVi5 (q := 124) C (c_X8_normalize h) sy_X8_normalize si_X8_normalize ml_X8_71 ob_244 (by decide) so_X8_normalize ⟨Nat.le_trans (nb rfl) hf.1, Nat.le_trans (nb rfl) hf.2⟩ (nb rfl) dX8_proveCase_121 rfl (fun r23 μ22 h => ?_)
          refine v_if_ne (q := 127) (tgt := 129) C dX8_proveCase_124 rfl rfl h (fun h => ?_) (fun h => ?_)
          · refine v_iconst (q := 128) C dX8_proveCase_127 rfl (by decide) ?_
            exact u_iret hR dX8_proveCase_128 h
          · refine v_aload (q := 131) C dX8_proveCase_129 rfl rfl ?_
            refine u_cVi0 (q := 134) C (c_X0_isTrivial h) sy_X0_isTrivial si_X0_isTrivial ml_X8_75 (ob_cm hf5) (by decide) so_X0_isTrivial ⟨Nat.le_trans (nb rfl) hf.1, Nat.le_trans (nb rfl) hf.2⟩ (nb rfl) dX8_proveCase_131 rfl (fun r25 μ24 h => ?_)
            refine v_if_eq (q := 137) (tgt := 139) C dX8_proveCase_134 rfl rfl h (fun h => ?_) (fun h => ?_)
            · exact v_mask [true, true, false, false, false, false, false, true] rfl (w_X8_proveCase_139 hA hfa hf C hR  hf5 h)
            · refine v_iconst (q := 138) C dX8_proveCase_137 rfl (by decide) ?_
              exact u_iret hR dX8_proveCase_138 h
    · refine v_iconst (q := 64) C dX8_proveCase_63 rfl (by decide) ?_
      exact u_iret hR dX8_proveCase_64 h
theorem c_X8_proveCase {att : (Int → ZM → (Int → ZM → Prop) → Prop)} {fa la f l : Nat} (hA : ∀ (x1 : Int) (μ : ZM) (K : Int → ZM → Prop), att x1 μ K → zMu yX8_attempt cX8_attempt 7 (some .int) fa la [.inr 244, .inl x1] μ (KI K)) (hfa : fa + 1 ≤ f ∧ 8 + (7 + 11) + la ≤ l) (hf : 6 ≤ f ∧ 171 ≤ l) {x1 : Int} {x2 : Int} {x3 : Int} {x4 : Int} {μ : ZM} {K : Int → ZM → Prop} (h : P_X8_proveCase att x1 x2 x3 x4 μ K) : zMu yX8_proveCase cX8_proveCase 8 (some .int) f l [.inr 244, .inl x1, .inl x2, .inl x3, .inl x4] μ (KI K) := by
  refine zMet_of (L0 := [some (.inr 244), some (.inl x1), some (.inl x2), some (.inl x3), some (.inl x4), none, none, none]) sy_X8_proveCase rfl (nb rfl) (Nat.le_refl _) (fun X C _ hR _ _ => ?_)
  have C : zC X cX8_proveCase RX8 8 (some .int) f l 274 := C
  refine v_aloadn (q := 1) C dX8_proveCase_0 rfl rfl ?_
  refine u_getR (q := 4) C kl8 fl_X8_50 ob_244 pt_244_9 (by decide) rfl rfl dX8_proveCase_1 rfl ?_
  refine v_iconst (q := 5) C dX8_proveCase_4 rfl (by decide) ?_
  refine v_iloadn (q := 6) C dX8_proveCase_5 rfl rfl ?_
  refine u_cVv2 (q := 9) C (c_X7_write h) sy_X7_write si_X7_write ml_X8_55 ob_240 (by decide) so_X7_write ⟨Nat.le_trans (nb rfl) hf.1, Nat.le_trans (nb rfl) hf.2⟩ (nb rfl) dX8_proveCase_6 rfl (fun μ1 h => ?_)
  refine v_iloadn (q := 10) C dX8_proveCase_9 rfl rfl ?_
  refine v_iload (q := 12) C dX8_proveCase_10 rfl rfl ?_
  refine v_icmp_ne (q := 15) (tgt := 19) C dX8_proveCase_12 rfl rfl h (fun h => ?_) (fun h => ?_)
  · refine v_iconst (q := 16) C dX8_proveCase_15 rfl (by decide) ?_
    refine v_goto (q := 20) C dX8_proveCase_16 rfl ?_
    exact v_mask [true, true, true, true, false, false, false, false] rfl (w_X8_proveCase_20 hA hfa hf C hR   h)
  · refine v_iconst (q := 20) C dX8_proveCase_19 rfl (by decide) ?_
    exact v_mask [true, true, true, true, false, false, false, false] rfl (w_X8_proveCase_20 hA hfa hf C hR   h)
theorem w_X8_attempt_143 {X : ZX} {att : (Int → ZM → (Int → ZM → Prop) → Prop)} {fa la f' l' f l : Nat} (hA : ∀ (x1 : Int) (μ : ZM) (K : Int → ZM → Prop), att x1 μ K → zMu yX8_attempt cX8_attempt 7 (some .int) fa la [.inr 244, .inl x1] μ (KI K)) (hfa : fa + 1 ≤ f' ∧ 8 + (7 + 11) + la ≤ l') (hfp : 6 ≤ f' ∧ 171 ≤ l') (hpc : f' + 1 ≤ f ∧ 8 + (8 + 11) + l' ≤ l) (hf : 5 ≤ f ∧ 145 ≤ l) (C : zC X cX8_attempt RX8 7 (some .int) f l 274) {K : Int → ZM → Prop} (hR : zRi X cX8_attempt (some .int) 274 (KN (KI K)))  {x1 : Int} {x3 : Int} {x4 : Int} {x5 : Int} {μ : ZM}   (h : P_X8_attempt_143 att  x1 x3 x4 x5 μ K) : zV X 143 [some (.inr 244), some (.inl x1), none, some (.inl x3), some (.inl x4), some (.inl x5), none] [] 274 (z_ov μ) := by
  refine h (fun x5 μ => zV X 143 [some (.inr 244), some (.inl x1), none, some (.inl x3), some (.inl x4), some (.inl x5), none] [] 274 (z_ov μ)) (fun x5 μ h => ?_)
  refine v_iload (q := 145) C dX8_attempt_143 rfl rfl ?_
  refine v_iload (q := 147) C dX8_attempt_145 rfl rfl ?_
  refine v_icmp_gt (q := 150) (tgt := 188) C dX8_attempt_147 rfl rfl h (fun h => ?_) (fun h => ?_)
  · refine v_aloadn (q := 189) C dX8_attempt_188 rfl rfl ?_
    refine v_iloadn (q := 190) C dX8_attempt_189 rfl rfl ?_
    refine u_cVi1 (q := 193) C (c_X8_succeed h) sy_X8_succeed si_X8_succeed ml_X8_79 ob_244 (by decide) so_X8_succeed ⟨Nat.le_trans (nb rfl) hf.1, Nat.le_trans (nb rfl) hf.2⟩ (nb rfl) dX8_attempt_190 rfl (fun r22 μ21 h => ?_)
    exact u_iret hR dX8_attempt_193 h
  · refine v_aloadn (q := 151) C dX8_attempt_150 rfl rfl ?_
    refine v_iloadn (q := 152) C dX8_attempt_151 rfl rfl ?_
    refine v_iload (q := 154) C dX8_attempt_152 rfl rfl ?_
    refine v_iloadn (q := 155) C dX8_attempt_154 rfl rfl ?_
    refine v_iload (q := 157) C dX8_attempt_155 rfl rfl ?_
    refine u_cVi4 (q := 160) C (c_X8_proveCase hA hfa hfp h) sy_X8_proveCase si_X8_proveCase ml_X8_91 ob_244 (by decide) so_X8_proveCase hpc (nb rfl) dX8_attempt_157 rfl (fun r24 μ23 h => ?_)
    refine v_istore (q := 162) C dX8_attempt_160 rfl (nb rfl) (L' := [some (.inr 244), some (.inl x1), none, some (.inl x3), some (.inl x4), some (.inl x5), some (.inl r24)]) rfl ?_
    refine v_iload (q := 164) C dX8_attempt_162 rfl rfl ?_
    refine v_iconst (q := 165) C dX8_attempt_164 rfl (by decide) ?_
    refine v_icmp_ne (q := 168) (tgt := 170) C dX8_attempt_165 rfl rfl h (fun h => ?_) (fun h => ?_)
    · refine v_iconst (q := 169) C dX8_attempt_168 rfl (by decide) ?_
      exact u_iret hR dX8_attempt_169 h
    · refine v_iload (q := 172) C dX8_attempt_170 rfl rfl ?_
      refine v_if_eq (q := 175) (tgt := 182) C dX8_attempt_172 rfl rfl h (fun h => ?_) (fun h => ?_)
      · refine u_iinc (q := 185) C dX8_attempt_182 rfl (nb rfl) rfl (L' := [some (.inr 244), some (.inl x1), none, some (.inl x3), some (.inl x4), some (.inl (x5 + 1)), some (.inl r24)]) rfl h (fun h => ?_)
        refine v_goto (q := 143) C dX8_attempt_185 rfl ?_
        exact v_mask [true, true, false, true, true, true, false] rfl h
      · refine v_aloadn (q := 176) C dX8_attempt_175 rfl rfl ?_
        refine v_iloadn (q := 177) C dX8_attempt_176 rfl rfl ?_
        refine v_iconst (q := 178) C dX8_attempt_177 rfl (by decide) ?_
        refine u_cVi2 (q := 181) C (c_X8_fail h) sy_X8_fail si_X8_fail ml_X8_67 ob_244 (by decide) so_X8_fail ⟨Nat.le_trans (nb rfl) hf.1, Nat.le_trans (nb rfl) hf.2⟩ (nb rfl) dX8_attempt_178 rfl (fun r26 μ25 h => ?_)
        exact u_iret hR dX8_attempt_181 h
theorem c_X8_attempt {att : (Int → ZM → (Int → ZM → Prop) → Prop)} {fa la f' l' f l : Nat} (hA : ∀ (x1 : Int) (μ : ZM) (K : Int → ZM → Prop), att x1 μ K → zMu yX8_attempt cX8_attempt 7 (some .int) fa la [.inr 244, .inl x1] μ (KI K)) (hfa : fa + 1 ≤ f' ∧ 8 + (7 + 11) + la ≤ l') (hfp : 6 ≤ f' ∧ 171 ≤ l') (hpc : f' + 1 ≤ f ∧ 8 + (8 + 11) + l' ≤ l) (hf : 5 ≤ f ∧ 145 ≤ l) {x1 : Int} {μ : ZM} {K : Int → ZM → Prop} (h : P_X8_attempt att x1 μ K) : zMu yX8_attempt cX8_attempt 7 (some .int) f l [.inr 244, .inl x1] μ (KI K) := by
  refine zMet_of (L0 := [some (.inr 244), some (.inl x1), none, none, none, none, none]) sy_X8_attempt rfl (nb rfl) (Nat.le_refl _) (fun X C _ hR _ _ => ?_)
  have C : zC X cX8_attempt RX8 7 (some .int) f l 274 := C
  refine v_iloadn (q := 1) C dX8_attempt_0 rfl rfl ?_
  refine v_if_lt (q := 4) (tgt := 9) C dX8_attempt_1 rfl rfl h (fun h => ?_) (fun h => ?_)
  · refine v_iconst (q := 10) C dX8_attempt_9 rfl (by decide) ?_
    exact u_iret hR dX8_attempt_10 h
  · refine v_iloadn (q := 5) C dX8_attempt_4 rfl rfl ?_
    refine v_iconst (q := 6) C dX8_attempt_5 rfl (by decide) ?_
    refine v_icmp_lt (q := 9) (tgt := 11) C dX8_attempt_6 rfl rfl h (fun h => ?_) (fun h => ?_)
    · refine v_aloadn (q := 12) C dX8_attempt_11 rfl rfl ?_
      refine u_getR (q := 15) C kl8 fl_X8_50 ob_244 pt_244_9 (by decide) rfl rfl dX8_attempt_12 rfl ?_
      refine v_iconst (q := 16) C dX8_attempt_15 rfl (by decide) ?_
      refine v_iloadn (q := 17) C dX8_attempt_16 rfl rfl ?_
      refine u_cVv2 (q := 20) C (c_X7_write h) sy_X7_write si_X7_write ml_X8_55 ob_240 (by decide) so_X7_write ⟨Nat.le_trans (nb rfl) hf.1, Nat.le_trans (nb rfl) hf.2⟩ (nb rfl) dX8_attempt_17 rfl (fun μ1 h => ?_)
      refine v_aloadn (q := 21) C dX8_attempt_20 rfl rfl ?_
      refine u_getR (q := 24) C kl8 fl_X8_34 ob_244 pt_244_5 (by decide) rfl rfl dX8_attempt_21 rfl ?_
      refine v_aloadn (q := 25) C dX8_attempt_24 rfl rfl ?_
      refine u_getR (q := 28) C kl8 fl_X8_11 ob_244 pt_244_0 (by decide) rfl rfl dX8_attempt_25 rfl ?_
      refine v_iloadn (q := 29) C dX8_attempt_28 rfl rfl ?_
      have hb2 := h.1
      refine u_fald (v := 195 + 1 * x1) (q := 30) C fa_245 (Or.inr rfl) dX8_attempt_29 rfl h (fun h9 => ⟨fe_245 h9, by omega⟩) (fun h => ?_)
      have hf3 : z_cm (195 + 1 * x1) := by omega
      refine u_cVi1 (q := 33) C (c_X2_refutes h) sy_X2_refutes si_X2_refutes ml_X8_61 ob_215 (by decide) so_X2_refutes ⟨Nat.le_trans (nb rfl) hf.1, Nat.le_trans (nb rfl) hf.2⟩ (nb rfl) dX8_attempt_30 rfl (fun r5 μ4 h => ?_)
      refine v_if_eq (q := 36) (tgt := 43) C dX8_attempt_33 rfl rfl h (fun h => ?_) (fun h => ?_)
      · refine v_aloadn (q := 44) C dX8_attempt_43 rfl rfl ?_
        refine u_getR (q := 47) C kl8 fl_X8_17 ob_244 pt_244_1 (by decide) rfl rfl dX8_attempt_44 rfl ?_
        refine v_iloadn (q := 48) C dX8_attempt_47 rfl rfl ?_
        have hb6 := h.1
        refine u_fald (v := 198 + 1 * x1) (q := 49) C fa_246 (Or.inr rfl) dX8_attempt_48 rfl h (fun h9 => ⟨fe_246 h9, by omega⟩) (fun h => ?_)
        have hf7 : z_cm (198 + 1 * x1) := by omega
        refine v_astoren (q := 50) C dX8_attempt_49 rfl (nb rfl) (L' := [some (.inr 244), some (.inl x1), some (.inr (198 + 1 * x1)), none, none, none, none]) rfl ?_
        refine v_aloadn (q := 51) C dX8_attempt_50 rfl rfl ?_
        refine v_aloadn (q := 52) C dX8_attempt_51 rfl rfl ?_
        refine u_getR (q := 55) C kl8 fl_X8_11 ob_244 pt_244_0 (by decide) rfl rfl dX8_attempt_52 rfl ?_
        refine v_iloadn (q := 56) C dX8_attempt_55 rfl rfl ?_
        have hb8 := h.1
        refine u_fald (v := 195 + 1 * x1) (q := 57) C fa_245 (Or.inr rfl) dX8_attempt_56 rfl h (fun h9 => ⟨fe_245 h9, by omega⟩) (fun h => ?_)
        have hf9 : z_cm (195 + 1 * x1) := by omega
        refine v_aloadn (q := 58) C dX8_attempt_57 rfl rfl ?_
        refine v_bipush (q := 60) C dX8_attempt_58 rfl (by decide) ?_
        refine v_iconst (q := 61) C dX8_attempt_60 rfl (by decide) ?_
        refine v_iconst (q := 62) C dX8_attempt_61 rfl (by decide) ?_
        refine u_cVi5 (q := 65) C (c_X8_normalize h) sy_X8_normalize si_X8_normalize ml_X8_71 ob_244 (by decide) so_X8_normalize ⟨Nat.le_trans (nb rfl) hf.1, Nat.le_trans (nb rfl) hf.2⟩ (nb rfl) dX8_attempt_62 rfl (fun r11 μ10 h => ?_)
        refine v_if_ne (q := 68) (tgt := 70) C dX8_attempt_65 rfl rfl h (fun h => ?_) (fun h => ?_)
        · refine v_iconst (q := 69) C dX8_attempt_68 rfl (by decide) ?_
          exact u_iret hR dX8_attempt_69 h
        · refine v_aloadn (q := 71) C dX8_attempt_70 rfl rfl ?_
          refine u_cVi0 (q := 74) C (c_X0_isTrivial h) sy_X0_isTrivial si_X0_isTrivial ml_X8_75 (ob_cm hf7) (by decide) so_X0_isTrivial ⟨Nat.le_trans (nb rfl) hf.1, Nat.le_trans (nb rfl) hf.2⟩ (nb rfl) dX8_attempt_71 rfl (fun r13 μ12 h => ?_)
          refine v_if_eq (q := 77) (tgt := 92) C dX8_attempt_74 rfl rfl h (fun h => ?_) (fun h => ?_)
          · refine v_aloadn (q := 93) C dX8_attempt_92 rfl rfl ?_
            refine v_aloadn (q := 94) C dX8_attempt_93 rfl rfl ?_
            refine u_getR (q := 97) C kl8 fl_X8_30 ob_244 pt_244_4 (by decide) rfl rfl dX8_attempt_94 rfl ?_
            refine u_cVi1 (q := 100) C (c_X0_inductionVariable h) sy_X0_inductionVariable si_X0_inductionVariable ml_X8_83 (ob_cm hf7) (by decide) so_X0_inductionVariable ⟨Nat.le_trans (nb rfl) hf.1, Nat.le_trans (nb rfl) hf.2⟩ (nb rfl) dX8_attempt_97 rfl (fun r15 μ14 h => ?_)
            refine v_istoren (q := 101) C dX8_attempt_100 rfl (nb rfl) (L' := [some (.inr 244), some (.inl x1), some (.inr (198 + 1 * x1)), some (.inl r15), none, none, none]) rfl ?_
            refine v_iloadn (q := 102) C dX8_attempt_101 rfl rfl ?_
            refine v_bipush (q := 104) C dX8_attempt_102 rfl (by decide) ?_
            refine v_icmp_ne (q := 107) (tgt := 114) C dX8_attempt_104 rfl rfl h (fun h => ?_) (fun h => ?_)
            · refine v_aloadn (q := 108) C dX8_attempt_107 rfl rfl ?_
              refine v_iloadn (q := 109) C dX8_attempt_108 rfl rfl ?_
              refine v_iconst (q := 110) C dX8_attempt_109 rfl (by decide) ?_
              refine u_cVi2 (q := 113) C (c_X8_fail h) sy_X8_fail si_X8_fail ml_X8_67 ob_244 (by decide) so_X8_fail ⟨Nat.le_trans (nb rfl) hf.1, Nat.le_trans (nb rfl) hf.2⟩ (nb rfl) dX8_attempt_110 rfl (fun r17 μ16 h => ?_)
              exact u_iret hR dX8_attempt_113 h
            · refine v_aloadn (q := 115) C dX8_attempt_114 rfl rfl ?_
              refine v_iloadn (q := 116) C dX8_attempt_115 rfl rfl ?_
              refine v_aloadn (q := 117) C dX8_attempt_116 rfl rfl ?_
              refine u_getR (q := 120) C kl8 fl_X8_30 ob_244 pt_244_4 (by decide) rfl rfl dX8_attempt_117 rfl ?_
              refine u_cVi2 (q := 123) C (c_X0_deepestCall h) sy_X0_deepestCall si_X0_deepestCall ml_X8_87 (ob_cm hf7) (by decide) so_X0_deepestCall ⟨Nat.le_trans (nb rfl) hf.1, Nat.le_trans (nb rfl) hf.2⟩ (nb rfl) dX8_attempt_120 rfl (fun r19 μ18 h => ?_)
              refine v_istore (q := 125) C dX8_attempt_123 rfl (nb rfl) (L' := [some (.inr 244), some (.inl x1), some (.inr (198 + 1 * x1)), some (.inl r15), some (.inl r19), none, none]) rfl ?_
              refine v_aloadn (q := 126) C dX8_attempt_125 rfl rfl ?_
              refine u_getR (q := 129) C kl8 fl_X8_50 ob_244 pt_244_9 (by decide) rfl rfl dX8_attempt_126 rfl ?_
              refine v_iconst (q := 130) C dX8_attempt_129 rfl (by decide) ?_
              refine v_bipush (q := 132) C dX8_attempt_130 rfl (by decide) ?_
              refine v_iload (q := 134) C dX8_attempt_132 rfl rfl ?_
              refine u_imul (q := 135) C dX8_attempt_134 rfl h (fun h => ?_)
              refine v_iloadn (q := 136) C dX8_attempt_135 rfl rfl ?_
              refine u_iadd (q := 137) C dX8_attempt_136 rfl h (fun h => ?_)
              refine u_cVv2 (q := 140) C (c_X7_write h) sy_X7_write si_X7_write ml_X8_55 ob_240 (by decide) so_X7_write ⟨Nat.le_trans (nb rfl) hf.1, Nat.le_trans (nb rfl) hf.2⟩ (nb rfl) dX8_attempt_137 rfl (fun μ20 h => ?_)
              refine v_iconst (q := 141) C dX8_attempt_140 rfl (by decide) ?_
              refine v_istore (q := 143) C dX8_attempt_141 rfl (nb rfl) (L' := [some (.inr 244), some (.inl x1), some (.inr (198 + 1 * x1)), some (.inl r15), some (.inl r19), some (.inl 0), none]) rfl ?_
              exact v_mask [true, true, false, true, true, true, false] rfl (w_X8_attempt_143 hA hfa hfp hpc hf C hR   h)
          · refine v_aloadn (q := 78) C dX8_attempt_77 rfl rfl ?_
            refine u_getR (q := 81) C kl8 fl_X8_50 ob_244 pt_244_9 (by decide) rfl rfl dX8_attempt_78 rfl ?_
            refine v_iconst (q := 82) C dX8_attempt_81 rfl (by decide) ?_
            refine v_iconst (q := 83) C dX8_attempt_82 rfl (by decide) ?_
            refine u_cVv2 (q := 86) C (c_X7_write h) sy_X7_write si_X7_write ml_X8_55 ob_240 (by decide) so_X7_write ⟨Nat.le_trans (nb rfl) hf.1, Nat.le_trans (nb rfl) hf.2⟩ (nb rfl) dX8_attempt_83 rfl (fun μ27 h => ?_)
            refine v_aloadn (q := 87) C dX8_attempt_86 rfl rfl ?_
            refine v_iloadn (q := 88) C dX8_attempt_87 rfl rfl ?_
            refine u_cVi1 (q := 91) C (c_X8_succeed h) sy_X8_succeed si_X8_succeed ml_X8_79 ob_244 (by decide) so_X8_succeed ⟨Nat.le_trans (nb rfl) hf.1, Nat.le_trans (nb rfl) hf.2⟩ (nb rfl) dX8_attempt_88 rfl (fun r29 μ28 h => ?_)
            exact u_iret hR dX8_attempt_91 h
      · refine v_aloadn (q := 37) C dX8_attempt_36 rfl rfl ?_
        refine v_iloadn (q := 38) C dX8_attempt_37 rfl rfl ?_
        refine v_iconst (q := 39) C dX8_attempt_38 rfl (by decide) ?_
        refine u_cVi2 (q := 42) C (c_X8_fail h) sy_X8_fail si_X8_fail ml_X8_67 ob_244 (by decide) so_X8_fail ⟨Nat.le_trans (nb rfl) hf.1, Nat.le_trans (nb rfl) hf.2⟩ (nb rfl) dX8_attempt_39 rfl (fun r31 μ30 h => ?_)
        exact u_iret hR dX8_attempt_42 h
    · refine v_iconst (q := 10) C dX8_attempt_9 rfl (by decide) ?_
      exact u_iret hR dX8_attempt_10 h
theorem c_att : ∀ (d : Nat) {x1 : Int} {μ : ZM} {K : Int → ZM → Prop}, P_att d x1 μ K → zMu yX8_attempt cX8_attempt 7 (some .int) (20 + 2 * d) (300 + 100 * d) [.inr 244, .inl x1] μ (KI K)
  | 0, _, _, _, h => False.elim h
  | d + 1, _, _, _, h => c_X8_attempt (f' := 21 + 2 * d) (l' := 350 + 100 * d) (fun _ _ _ h => c_att d h) ⟨by omega, by omega⟩ ⟨by omega, by omega⟩ ⟨by omega, by omega⟩ ⟨by omega, by omega⟩ h
theorem c_X9_isOwn {x1 : Int} {μ : ZM} {K : Int → ZM → Prop} (h : P_X9_isOwn  x1 μ K) : zMu yX9_isOwn cX9_isOwn 2 (some .boolean) 0 0 [.inr 212, .inl x1] μ (KI K) := by
  refine zMet_of (L0 := [some (.inr 212), some (.inl x1)]) sy_X9_isOwn rfl (nb rfl) (Nat.le_refl _) (fun X C _ hR _ _ => ?_)
  have C : zC X cX9_isOwn RX9 2 (some .boolean) 0 0 274 := C
  refine v_aloadn (q := 1) C dX9_isOwn_0 rfl rfl ?_
  refine u_getI (q := 4) C kl9 fl_X9_43 ob_212 pt_212_6 rfl rfl dX9_isOwn_1 rfl ?_
  refine v_if_eq (q := 7) (tgt := 25) C dX9_isOwn_4 rfl rfl h (fun h => ?_) (fun h => ?_)
  · refine v_iconst (q := 26) C dX9_isOwn_25 rfl (by decide) ?_
    exact u_zret hR dX9_isOwn_26 h
  · refine v_iloadn (q := 8) C dX9_isOwn_7 rfl rfl ?_
    refine v_bipush (q := 10) C dX9_isOwn_8 rfl (by decide) ?_
    refine v_aloadn (q := 11) C dX9_isOwn_10 rfl rfl ?_
    refine u_getR (q := 14) C kl9 fl_X9_21 ob_212 pt_212_2 (by decide) rfl rfl dX9_isOwn_11 rfl ?_
    refine u_getI (q := 17) C kl3 fl_X9_79 ob_207 pt_207_4 rfl rfl dX9_isOwn_14 rfl ?_
    refine u_iadd (q := 18) C dX9_isOwn_17 rfl h (fun h => ?_)
    refine v_icmp_ne (q := 21) (tgt := 25) C dX9_isOwn_18 rfl rfl h (fun h => ?_) (fun h => ?_)
    · refine v_iconst (q := 22) C dX9_isOwn_21 rfl (by decide) ?_
      refine v_goto (q := 26) C dX9_isOwn_22 rfl ?_
      exact u_zret hR dX9_isOwn_26 h
    · refine v_iconst (q := 26) C dX9_isOwn_25 rfl (by decide) ?_
      exact u_zret hR dX9_isOwn_26 h
theorem w_X9_argumentsOf_36 {X : ZX} (C : zC X cX9_argumentsOf RX9 3 (some .int) 1 21 274) {K : Int → ZM → Prop} (hR : zRi X cX9_argumentsOf (some .int) 274 (KN (KI K)))  {x1 : Int} {μ : ZM}   (h : P_X9_argumentsOf_36   x1 μ K) : zV X 36 [some (.inr 212), some (.inl x1), none] [] 274 (z_ov μ) := by
  refine v_aloadn (q := 37) C dX9_argumentsOf_36 rfl rfl ?_
  refine v_iloadn (q := 38) C dX9_argumentsOf_37 rfl rfl ?_
  refine u_cVi1 (q := 41) C (c_X9_isOwn h) sy_X9_isOwn si_X9_isOwn ml_X9_73 ob_212 (by decide) so_X9_isOwn ⟨nb rfl, nb rfl⟩ (nb rfl) dX9_argumentsOf_38 rfl (fun r2 μ1 h => ?_)
  refine v_if_eq (q := 44) (tgt := 49) C dX9_argumentsOf_41 rfl rfl h (fun h => ?_) (fun h => ?_)
  · refine v_iloadn (q := 50) C dX9_argumentsOf_49 rfl rfl ?_
    by_cases hk0 : x1 = 83
    · replace h := z_ifp h hk0
      refine v_lookup (off := 52) (tgt := 102) C dX9_argumentsOf_50 rfl (by rw [hk0]; rfl) rfl ?_
      refine v_iconst (q := 103) C dX9_argumentsOf_102 rfl (by decide) ?_
      exact u_iret hR dX9_argumentsOf_103 h
    · replace h := z_ifn h hk0
      by_cases hk1 : x1 = 90
      · replace h := z_ifp h hk1
        refine v_lookup (off := 50) (tgt := 100) C dX9_argumentsOf_50 rfl (by rw [hk1]; rfl) rfl ?_
        refine v_iconst (q := 101) C dX9_argumentsOf_100 rfl (by decide) ?_
        exact u_iret hR dX9_argumentsOf_101 h
      · replace h := z_ifn h hk1
        by_cases hk2 : x1 = 120
        · replace h := z_ifp h hk2
          refine v_lookup (off := 54) (tgt := 104) C dX9_argumentsOf_50 rfl (by rw [hk2]; rfl) rfl ?_
          refine v_aloadn (q := 105) C dX9_argumentsOf_104 rfl rfl ?_
          refine u_getI (q := 108) C kl9 fl_X9_46 ob_212 pt_212_7 rfl rfl dX9_argumentsOf_105 rfl ?_
          refine v_if_eq (q := 111) (tgt := 115) C dX9_argumentsOf_108 rfl rfl h (fun h => ?_) (fun h => ?_)
          · refine v_bipush (q := 117) C dX9_argumentsOf_115 rfl (by decide) ?_
            exact u_iret hR dX9_argumentsOf_117 h
          · refine v_iconst (q := 112) C dX9_argumentsOf_111 rfl (by decide) ?_
            refine v_goto (q := 117) C dX9_argumentsOf_112 rfl ?_
            exact u_iret hR dX9_argumentsOf_117 h
        · replace h := z_ifn h hk2
          by_cases hk3 : x1 = 121
          · replace h := z_ifp h hk3
            refine v_lookup (off := 68) (tgt := 118) C dX9_argumentsOf_50 rfl (by rw [hk3]; rfl) rfl ?_
            refine v_aloadn (q := 119) C dX9_argumentsOf_118 rfl rfl ?_
            refine u_getI (q := 122) C kl9 fl_X9_36 ob_212 pt_212_8 rfl rfl dX9_argumentsOf_119 rfl ?_
            refine v_if_eq (q := 125) (tgt := 129) C dX9_argumentsOf_122 rfl rfl h (fun h => ?_) (fun h => ?_)
            · refine v_bipush (q := 131) C dX9_argumentsOf_129 rfl (by decide) ?_
              exact u_iret hR dX9_argumentsOf_131 h
            · refine v_iconst (q := 126) C dX9_argumentsOf_125 rfl (by decide) ?_
              refine v_goto (q := 131) C dX9_argumentsOf_126 rfl ?_
              exact u_iret hR dX9_argumentsOf_131 h
          · replace h := z_ifn h hk3
            by_cases hk4 : x1 = 122
            · replace h := z_ifp h hk4
              refine v_lookup (off := 82) (tgt := 132) C dX9_argumentsOf_50 rfl (by rw [hk4]; rfl) rfl ?_
              refine v_aloadn (q := 133) C dX9_argumentsOf_132 rfl rfl ?_
              refine u_getI (q := 136) C kl9 fl_X9_40 ob_212 pt_212_9 rfl rfl dX9_argumentsOf_133 rfl ?_
              refine v_if_eq (q := 139) (tgt := 143) C dX9_argumentsOf_136 rfl rfl h (fun h => ?_) (fun h => ?_)
              · refine v_bipush (q := 145) C dX9_argumentsOf_143 rfl (by decide) ?_
                exact u_iret hR dX9_argumentsOf_145 h
              · refine v_iconst (q := 140) C dX9_argumentsOf_139 rfl (by decide) ?_
                refine v_goto (q := 145) C dX9_argumentsOf_140 rfl ?_
                exact u_iret hR dX9_argumentsOf_145 h
            · replace h := z_ifn h hk4
              refine v_lookup (off := 96) (tgt := 146) C dX9_argumentsOf_50 rfl (by simp [Op.lookupswitch.offset, Ne.symm hk0, Ne.symm hk1, Ne.symm hk2, Ne.symm hk3, Ne.symm hk4]) rfl ?_
              refine v_bipush (q := 148) C dX9_argumentsOf_146 rfl (by decide) ?_
              exact u_iret hR dX9_argumentsOf_148 h
  · refine v_aloadn (q := 45) C dX9_argumentsOf_44 rfl rfl ?_
    refine u_getI (q := 48) C kl9 fl_X9_33 ob_212 pt_212_5 rfl rfl dX9_argumentsOf_45 rfl ?_
    exact u_iret hR dX9_argumentsOf_48 h
theorem c_X9_argumentsOf {x1 : Int} {μ : ZM} {K : Int → ZM → Prop} (h : P_X9_argumentsOf  x1 μ K) : zMu yX9_argumentsOf cX9_argumentsOf 3 (some .int) 1 21 [.inr 212, .inl x1] μ (KI K) := by
  refine zMet_of (L0 := [some (.inr 212), some (.inl x1), none]) sy_X9_argumentsOf rfl (nb rfl) (Nat.le_refl _) (fun X C _ hR _ _ => ?_)
  have C : zC X cX9_argumentsOf RX9 3 (some .int) 1 21 274 := C
  refine v_iloadn (q := 1) C dX9_argumentsOf_0 rfl rfl ?_
  refine v_bipush (q := 3) C dX9_argumentsOf_1 rfl (by decide) ?_
  refine u_isub (q := 4) C dX9_argumentsOf_3 rfl h (fun h => ?_)
  refine v_istoren (q := 5) C dX9_argumentsOf_4 rfl (nb rfl) (L' := [some (.inr 212), some (.inl x1), some (.inl (x1 - 97))]) rfl ?_
  refine v_iloadn (q := 6) C dX9_argumentsOf_5 rfl rfl ?_
  refine v_if_lt (q := 9) (tgt := 36) C dX9_argumentsOf_6 rfl rfl h (fun h => ?_) (fun h => ?_)
  · exact v_mask [true, true, false] rfl (w_X9_argumentsOf_36  C hR   h)
  · refine v_iloadn (q := 10) C dX9_argumentsOf_9 rfl rfl ?_
    refine v_aloadn (q := 11) C dX9_argumentsOf_10 rfl rfl ?_
    refine u_getR (q := 14) C kl9 fl_X9_21 ob_212 pt_212_2 (by decide) rfl rfl dX9_argumentsOf_11 rfl ?_
    refine u_getI (q := 17) C kl3 fl_X9_79 ob_207 pt_207_4 rfl rfl dX9_argumentsOf_14 rfl ?_
    refine v_icmp_ge (q := 20) (tgt := 36) C dX9_argumentsOf_17 rfl rfl h (fun h => ?_) (fun h => ?_)
    · exact v_mask [true, true, false] rfl (w_X9_argumentsOf_36  C hR   h)
    · refine v_iloadn (q := 21) C dX9_argumentsOf_20 rfl rfl ?_
      refine v_bipush (q := 23) C dX9_argumentsOf_21 rfl (by decide) ?_
      refine v_icmp_ge (q := 26) (tgt := 36) C dX9_argumentsOf_23 rfl rfl h (fun h => ?_) (fun h => ?_)
      · exact v_mask [true, true, false] rfl (w_X9_argumentsOf_36  C hR   h)
      · refine v_aloadn (q := 27) C dX9_argumentsOf_26 rfl rfl ?_
        refine u_getR (q := 30) C kl9 fl_X9_21 ob_212 pt_212_2 (by decide) rfl rfl dX9_argumentsOf_27 rfl ?_
        refine u_getR (q := 33) C kl3 fl_X9_80 ob_207 pt_207_0 (by decide) rfl rfl dX9_argumentsOf_30 rfl ?_
        refine v_iloadn (q := 34) C dX9_argumentsOf_33 rfl rfl ?_
        refine u_iald (q := 35) C ia_208 dX9_argumentsOf_34 rfl h (fun h => ?_)
        exact u_iret hR dX9_argumentsOf_35 h
theorem c_X9_pass {x1 : Int} {μ : ZM} {K : Int → ZM → Prop} (h : P_X9_pass  x1 μ K) : zMu yX9_pass cX9_pass 2 (some .boolean) 0 0 [.inr 212, .inl x1] μ (KI K) := by
  refine zMet_of (L0 := [some (.inr 212), some (.inl x1)]) sy_X9_pass rfl (nb rfl) (Nat.le_refl _) (fun X C _ hR _ _ => ?_)
  have C : zC X cX9_pass RX9 2 (some .boolean) 0 0 274 := C
  refine v_aloadn (q := 1) C dX9_pass_0 rfl rfl ?_
  refine u_getI (q := 4) C kl9 fl_X9_30 ob_212 pt_212_4 rfl rfl dX9_pass_1 rfl ?_
  refine v_if_lt (q := 7) (tgt := 31) C dX9_pass_4 rfl rfl h (fun h => ?_) (fun h => ?_)
  · refine v_iconst (q := 32) C dX9_pass_31 rfl (by decide) ?_
    exact u_zret hR dX9_pass_32 h
  · refine v_aloadn (q := 8) C dX9_pass_7 rfl rfl ?_
    refine u_getI (q := 11) C kl9 fl_X9_30 ob_212 pt_212_4 rfl rfl dX9_pass_8 rfl ?_
    refine v_aloadn (q := 12) C dX9_pass_11 rfl rfl ?_
    refine u_getI (q := 15) C kl9 fl_X9_26 ob_212 pt_212_3 rfl rfl dX9_pass_12 rfl ?_
    refine v_icmp_ge (q := 18) (tgt := 31) C dX9_pass_15 rfl rfl h (fun h => ?_) (fun h => ?_)
    · refine v_iconst (q := 32) C dX9_pass_31 rfl (by decide) ?_
      exact u_zret hR dX9_pass_32 h
    · refine v_aloadn (q := 19) C dX9_pass_18 rfl rfl ?_
      refine u_getR (q := 22) C kl9 fl_X9_9 ob_212 pt_212_0 (by decide) rfl rfl dX9_pass_19 rfl ?_
      refine v_aloadn (q := 23) C dX9_pass_22 rfl rfl ?_
      refine u_getI (q := 26) C kl9 fl_X9_30 ob_212 pt_212_4 rfl rfl dX9_pass_23 rfl ?_
      refine u_iald (q := 27) C ia_213 dX9_pass_26 rfl h (fun h => ?_)
      refine v_iloadn (q := 28) C dX9_pass_27 rfl rfl ?_
      refine v_icmp_eq (q := 31) (tgt := 33) C dX9_pass_28 rfl rfl h (fun h => ?_) (fun h => ?_)
      · refine v_aloadn (q := 34) C dX9_pass_33 rfl rfl ?_
        refine v_dup (q := 35) C dX9_pass_34 rfl ?_
        refine u_getI (q := 38) C kl9 fl_X9_30 ob_212 pt_212_4 rfl rfl dX9_pass_35 rfl ?_
        refine v_iconst (q := 39) C dX9_pass_38 rfl (by decide) ?_
        refine u_iadd (q := 40) C dX9_pass_39 rfl h (fun h => ?_)
        refine u_put (q := 43) C kl9 fl_X9_30 ob_212 pt_212_4 rfl rfl rfl rfl dX9_pass_40 rfl h (fun μ1 h => ?_)
        refine v_iconst (q := 44) C dX9_pass_43 rfl (by decide) ?_
        exact u_zret hR dX9_pass_44 h
      · refine v_iconst (q := 32) C dX9_pass_31 rfl (by decide) ?_
        exact u_zret hR dX9_pass_32 h
theorem c_X9_put {x1 : Int} {μ : ZM} {K : ZM → Prop} (h : P_X9_put  x1 μ K) : zMu yX9_put cX9_put 2 none 0 0 [.inr 212, .inl x1] μ (KV K) := by
  refine zMet_of (L0 := [some (.inr 212), some (.inl x1)]) sy_X9_put rfl (nb rfl) (Nat.le_refl _) (fun X C _ _ _ hR => ?_)
  have C : zC X cX9_put RX9 2 none 0 0 274 := C
  refine v_aloadn (q := 1) C dX9_put_0 rfl rfl ?_
  refine u_getI (q := 4) C kl9 fl_X9_26 ob_212 pt_212_3 rfl rfl dX9_put_1 rfl ?_
  refine v_if_lt (q := 7) (tgt := 36) C dX9_put_4 rfl rfl h (fun h => ?_) (fun h => ?_)
  · exact u_vret hR dX9_put_36 h
  · refine v_aloadn (q := 8) C dX9_put_7 rfl rfl ?_
    refine u_getI (q := 11) C kl9 fl_X9_26 ob_212 pt_212_3 rfl rfl dX9_put_8 rfl ?_
    refine v_bipush (q := 13) C dX9_put_11 rfl (by decide) ?_
    refine v_icmp_ge (q := 16) (tgt := 36) C dX9_put_13 rfl rfl h (fun h => ?_) (fun h => ?_)
    · exact u_vret hR dX9_put_36 h
    · refine v_aloadn (q := 17) C dX9_put_16 rfl rfl ?_
      refine u_getR (q := 20) C kl9 fl_X9_9 ob_212 pt_212_0 (by decide) rfl rfl dX9_put_17 rfl ?_
      refine v_aloadn (q := 21) C dX9_put_20 rfl rfl ?_
      refine u_getI (q := 24) C kl9 fl_X9_26 ob_212 pt_212_3 rfl rfl dX9_put_21 rfl ?_
      refine v_iloadn (q := 25) C dX9_put_24 rfl rfl ?_
      refine u_iast (q := 26) C ia_213 dX9_put_25 rfl h (fun μ1 h => ?_)
      refine v_aloadn (q := 27) C dX9_put_26 rfl rfl ?_
      refine v_dup (q := 28) C dX9_put_27 rfl ?_
      refine u_getI (q := 31) C kl9 fl_X9_26 ob_212 pt_212_3 rfl rfl dX9_put_28 rfl ?_
      refine v_iconst (q := 32) C dX9_put_31 rfl (by decide) ?_
      refine u_iadd (q := 33) C dX9_put_32 rfl h (fun h => ?_)
      refine u_put (q := 36) C kl9 fl_X9_26 ob_212 pt_212_3 rfl rfl rfl rfl dX9_put_33 rfl h (fun μ2 h => ?_)
      exact u_vret hR dX9_put_36 h
theorem w_X9_readTerm_132 {X : ZX} (C : zC X cX9_readTerm RX9 8 (some .boolean) 2 43 274) {K : Int → ZM → Prop} (hR : zRi X cX9_readTerm (some .boolean) 274 (KN (KI K)))  {x3 : Int} {μ : ZM}   (h : P_X9_readTerm_132   x3 μ K) : zV X 132 [none, none, none, some (.inl x3), none, none, none, none] [] 274 (z_ov μ) := by
  refine v_iloadn (q := 133) C dX9_readTerm_132 rfl rfl ?_
  refine v_if_ne (q := 136) (tgt := 140) C dX9_readTerm_133 rfl rfl h (fun h => ?_) (fun h => ?_)
  · refine v_iconst (q := 137) C dX9_readTerm_136 rfl (by decide) ?_
    refine v_goto (q := 141) C dX9_readTerm_137 rfl ?_
    exact u_zret hR dX9_readTerm_141 h
  · refine v_iconst (q := 141) C dX9_readTerm_140 rfl (by decide) ?_
    exact u_zret hR dX9_readTerm_141 h
theorem w_X9_readTerm_82 {X : ZX} (C : zC X cX9_readTerm RX9 8 (some .boolean) 2 43 274) {K : Int → ZM → Prop} (hR : zRi X cX9_readTerm (some .boolean) 274 (KN (KI K)))  {x1 : Int} {x2 : Int} {x3 : Int} {x5 : Int} {x6 : Int} {x7 : Int} {μ : ZM} {G12 : Int → Int → Int → ZM → Prop} (hG12 : ∀ (x3 x4 x5 : Int) (μ : ZM), G12 x3 x4 x5 μ → zV X 12 [some (.inr 212), some (.inr x1), some (.inl x2), some (.inl x3), some (.inl x4), some (.inl x5), none, none] [] 274 (z_ov μ)) (hx1 : z_tm x1) (h : P_X9_readTerm_82  G12 x1 x2 x3 x5 x6 x7 μ K) : zV X 82 [some (.inr 212), some (.inr x1), some (.inl x2), some (.inl x3), none, some (.inl x5), some (.inl x6), some (.inl x7)] [] 274 (z_ov μ) := by
  refine v_iloadn (q := 83) C dX9_readTerm_82 rfl rfl ?_
  refine v_iload (q := 85) C dX9_readTerm_83 rfl rfl ?_
  refine v_iconst (q := 86) C dX9_readTerm_85 rfl (by decide) ?_
  refine u_isub (q := 87) C dX9_readTerm_86 rfl h (fun h => ?_)
  refine u_iadd (q := 88) C dX9_readTerm_87 rfl h (fun h => ?_)
  refine v_istoren (q := 89) C dX9_readTerm_88 rfl (nb rfl) (L' := [some (.inr 212), some (.inr x1), some (.inl x2), some (.inl (x3 + (x7 - 1))), none, some (.inl x5), some (.inl x6), some (.inl x7)]) rfl ?_
  refine v_iload (q := 91) C dX9_readTerm_89 rfl rfl ?_
  refine v_iconst (q := 92) C dX9_readTerm_91 rfl (by decide) ?_
  refine u_iadd (q := 93) C dX9_readTerm_92 rfl h (fun h => ?_)
  refine v_iloadn (q := 94) C dX9_readTerm_93 rfl rfl ?_
  refine u_iadd (q := 95) C dX9_readTerm_94 rfl h (fun h => ?_)
  refine v_iloadn (q := 96) C dX9_readTerm_95 rfl rfl ?_
  refine v_icmp_le (q := 99) (tgt := 101) C dX9_readTerm_96 rfl rfl h (fun h => ?_) (fun h => ?_)
  · refine v_aloadn (q := 102) C dX9_readTerm_101 rfl rfl ?_
    refine v_iload (q := 104) C dX9_readTerm_102 rfl rfl ?_
    refine u_cVi1 (q := 107) C (c_X9_isOwn h) sy_X9_isOwn si_X9_isOwn ml_X9_73 ob_212 (by decide) so_X9_isOwn ⟨nb rfl, nb rfl⟩ (nb rfl) dX9_readTerm_104 rfl (fun r5 μ4 h => ?_)
    refine v_istore (q := 109) C dX9_readTerm_107 rfl (nb rfl) (L' := [some (.inr 212), some (.inr x1), some (.inl x2), some (.inl (x3 + (x7 - 1))), some (.inl r5), some (.inl x5), some (.inl x6), some (.inl x7)]) rfl ?_
    refine v_aloadn (q := 110) C dX9_readTerm_109 rfl rfl ?_
    refine v_iload (q := 112) C dX9_readTerm_110 rfl rfl ?_
    refine u_cVi1 (q := 115) C (c_X10_add h) sy_X10_add si_X10_add ml_X9_76 (ob_tm hx1) (by decide) so_X10_add ⟨nb rfl, nb rfl⟩ (nb rfl) dX9_readTerm_112 rfl (fun r7 μ6 h => ?_)
    refine v_pop (q := 116) C dX9_readTerm_115 rfl ?_
    refine v_aloadn (q := 117) C dX9_readTerm_116 rfl rfl ?_
    refine v_dup (q := 118) C dX9_readTerm_117 rfl ?_
    refine u_getI (q := 121) C kl9 fl_X9_30 ob_212 pt_212_4 rfl rfl dX9_readTerm_118 rfl ?_
    refine v_iconst (q := 122) C dX9_readTerm_121 rfl (by decide) ?_
    refine u_iadd (q := 123) C dX9_readTerm_122 rfl h (fun h => ?_)
    refine u_put (q := 126) C kl9 fl_X9_30 ob_212 pt_212_4 rfl rfl rfl rfl dX9_readTerm_123 rfl h (fun μ8 h => ?_)
    refine u_iinc (q := 129) C dX9_readTerm_126 rfl (nb rfl) rfl (L' := [some (.inr 212), some (.inr x1), some (.inl x2), some (.inl (x3 + (x7 - 1))), some (.inl r5), some (.inl (x5 + 1)), some (.inl x6), some (.inl x7)]) rfl h (fun h => ?_)
    refine v_goto (q := 12) C dX9_readTerm_129 rfl ?_
    exact v_mask [true, true, true, true, true, true, false, false] rfl (hG12 _ _ _ _ h)
  · refine v_iconst (q := 100) C dX9_readTerm_99 rfl (by decide) ?_
    exact u_zret hR dX9_readTerm_100 h
theorem w_X9_readTerm_12 {X : ZX} (C : zC X cX9_readTerm RX9 8 (some .boolean) 2 43 274) {K : Int → ZM → Prop} (hR : zRi X cX9_readTerm (some .boolean) 274 (KN (KI K)))  {x1 : Int} {x2 : Int} {x3 : Int} {x4 : Int} {x5 : Int} {μ : ZM}  (hx1 : z_tm x1) (h : P_X9_readTerm_12   x1 x2 x3 x4 x5 μ K) : zV X 12 [some (.inr 212), some (.inr x1), some (.inl x2), some (.inl x3), some (.inl x4), some (.inl x5), none, none] [] 274 (z_ov μ) := by
  refine h (fun x3 x4 x5 μ => zV X 12 [some (.inr 212), some (.inr x1), some (.inl x2), some (.inl x3), some (.inl x4), some (.inl x5), none, none] [] 274 (z_ov μ)) (fun x3 x4 x5 μ h => ?_)
  refine v_iload (q := 14) C dX9_readTerm_12 rfl rfl ?_
  refine v_iloadn (q := 15) C dX9_readTerm_14 rfl rfl ?_
  refine v_icmp_ge (q := 18) (tgt := 132) C dX9_readTerm_15 rfl rfl h (fun h => ?_) (fun h => ?_)
  · exact v_mask [false, false, false, true, false, false, false, false] rfl (w_X9_readTerm_132  C hR   h)
  · refine v_iloadn (q := 19) C dX9_readTerm_18 rfl rfl ?_
    refine v_if_le (q := 22) (tgt := 132) C dX9_readTerm_19 rfl rfl h (fun h => ?_) (fun h => ?_)
    · exact v_mask [false, false, false, true, false, false, false, false] rfl (w_X9_readTerm_132  C hR   h)
    · refine v_aloadn (q := 23) C dX9_readTerm_22 rfl rfl ?_
      refine u_getI (q := 26) C kl9 fl_X9_30 ob_212 pt_212_4 rfl rfl dX9_readTerm_23 rfl ?_
      refine v_if_lt (q := 29) (tgt := 40) C dX9_readTerm_26 rfl rfl h (fun h => ?_) (fun h => ?_)
      · refine v_iconst (q := 41) C dX9_readTerm_40 rfl (by decide) ?_
        exact u_zret hR dX9_readTerm_41 h
      · refine v_aloadn (q := 30) C dX9_readTerm_29 rfl rfl ?_
        refine u_getI (q := 33) C kl9 fl_X9_30 ob_212 pt_212_4 rfl rfl dX9_readTerm_30 rfl ?_
        refine v_aloadn (q := 34) C dX9_readTerm_33 rfl rfl ?_
        refine u_getI (q := 37) C kl9 fl_X9_26 ob_212 pt_212_3 rfl rfl dX9_readTerm_34 rfl ?_
        refine v_icmp_lt (q := 40) (tgt := 42) C dX9_readTerm_37 rfl rfl h (fun h => ?_) (fun h => ?_)
        · refine v_aloadn (q := 43) C dX9_readTerm_42 rfl rfl ?_
          refine u_getR (q := 46) C kl9 fl_X9_9 ob_212 pt_212_0 (by decide) rfl rfl dX9_readTerm_43 rfl ?_
          refine v_aloadn (q := 47) C dX9_readTerm_46 rfl rfl ?_
          refine u_getI (q := 50) C kl9 fl_X9_30 ob_212 pt_212_4 rfl rfl dX9_readTerm_47 rfl ?_
          refine u_iald (q := 51) C ia_213 dX9_readTerm_50 rfl h (fun h => ?_)
          refine v_istore (q := 53) C dX9_readTerm_51 rfl (nb rfl) (L' := [some (.inr 212), some (.inr x1), some (.inl x2), some (.inl x3), some (.inl x4), some (.inl x5), some (.inl (μ 213 (μ 212 4))), none]) rfl ?_
          refine v_aloadn (q := 54) C dX9_readTerm_53 rfl rfl ?_
          refine v_iload (q := 56) C dX9_readTerm_54 rfl rfl ?_
          refine u_cVi1 (q := 59) C (c_X9_argumentsOf h) sy_X9_argumentsOf si_X9_argumentsOf ml_X9_69 ob_212 (by decide) so_X9_argumentsOf ⟨nb rfl, nb rfl⟩ (nb rfl) dX9_readTerm_56 rfl (fun r3 μ2 h => ?_)
          refine v_istore (q := 61) C dX9_readTerm_59 rfl (nb rfl) (L' := [some (.inr 212), some (.inr x1), some (.inl x2), some (.inl x3), some (.inl x4), some (.inl x5), some (.inl (μ 213 (μ 212 4))), some (.inl r3)]) rfl ?_
          refine v_iload (q := 63) C dX9_readTerm_61 rfl rfl ?_
          refine v_bipush (q := 65) C dX9_readTerm_63 rfl (by decide) ?_
          refine v_icmp_eq (q := 68) (tgt := 80) C dX9_readTerm_65 rfl rfl h (fun h => ?_) (fun h => ?_)
          · refine v_iconst (q := 81) C dX9_readTerm_80 rfl (by decide) ?_
            exact u_zret hR dX9_readTerm_81 h
          · refine v_iload (q := 70) C dX9_readTerm_68 rfl rfl ?_
            refine v_if_eq (q := 73) (tgt := 82) C dX9_readTerm_70 rfl rfl h (fun h => ?_) (fun h => ?_)
            · exact v_mask [true, true, true, true, false, true, true, true] rfl (w_X9_readTerm_82  C hR (fun _ _ _ _ h => h) hx1 h)
            · refine v_iload (q := 75) C dX9_readTerm_73 rfl rfl ?_
              refine v_bipush (q := 77) C dX9_readTerm_75 rfl (by decide) ?_
              refine v_icmp_eq (q := 80) (tgt := 82) C dX9_readTerm_77 rfl rfl h (fun h => ?_) (fun h => ?_)
              · exact v_mask [true, true, true, true, false, true, true, true] rfl (w_X9_readTerm_82  C hR (fun _ _ _ _ h => h) hx1 h)
              · refine v_iconst (q := 81) C dX9_readTerm_80 rfl (by decide) ?_
                exact u_zret hR dX9_readTerm_81 h
        · refine v_iconst (q := 41) C dX9_readTerm_40 rfl (by decide) ?_
          exact u_zret hR dX9_readTerm_41 h
theorem c_X9_readTerm {x1 : Int} {x2 : Int} {μ : ZM} {K : Int → ZM → Prop} (h : P_X9_readTerm  x1 x2 μ K) : zMu yX9_readTerm cX9_readTerm 8 (some .boolean) 2 43 [.inr 212, .inr x1, .inl x2] μ (KI K) := by
  refine zMet_of (L0 := [some (.inr 212), some (.inr x1), some (.inl x2), none, none, none, none, none]) sy_X9_readTerm rfl (nb rfl) (Nat.le_refl _) (fun X C _ hR _ _ => ?_)
  have C : zC X cX9_readTerm RX9 8 (some .boolean) 2 43 274 := C
  have hx1 := h.1
  replace h := h.2
  refine v_aloadn (q := 1) C dX9_readTerm_0 rfl rfl ?_
  refine u_cVv0 (q := 4) C (c_X10_empty h) sy_X10_empty si_X10_empty ml_X9_66 (ob_tm hx1) (by decide) so_X10_empty ⟨nb rfl, nb rfl⟩ (nb rfl) dX9_readTerm_1 rfl (fun μ1 h => ?_)
  refine v_iconst (q := 5) C dX9_readTerm_4 rfl (by decide) ?_
  refine v_istoren (q := 6) C dX9_readTerm_5 rfl (nb rfl) (L' := [some (.inr 212), some (.inr x1), some (.inl x2), some (.inl 1), none, none, none, none]) rfl ?_
  refine v_iconst (q := 7) C dX9_readTerm_6 rfl (by decide) ?_
  refine v_istore (q := 9) C dX9_readTerm_7 rfl (nb rfl) (L' := [some (.inr 212), some (.inr x1), some (.inl x2), some (.inl 1), some (.inl 0), none, none, none]) rfl ?_
  refine v_iconst (q := 10) C dX9_readTerm_9 rfl (by decide) ?_
  refine v_istore (q := 12) C dX9_readTerm_10 rfl (nb rfl) (L' := [some (.inr 212), some (.inr x1), some (.inl x2), some (.inl 1), some (.inl 0), some (.inl 0), none, none]) rfl ?_
  exact (w_X9_readTerm_12  C hR  hx1 h)
theorem w_X9_readClaim_69 {X : ZX} (C : zC X cX9_readClaim RX9 2 (some .boolean) 3 70 274) {K : Int → ZM → Prop} (hR : zRi X cX9_readClaim (some .boolean) 274 (KN (KI K)))  {s0 : Int} {μ : ZM}   (h : P_X9_readClaim_69   s0 μ K) : zV X 69 [some (.inr 212), none] [.inl s0] 274 (z_ov μ) := by
  refine v_istoren (q := 70) C dX9_readClaim_69 rfl (nb rfl) (L' := [some (.inr 212), some (.inl s0)]) rfl ?_
  refine v_iloadn (q := 71) C dX9_readClaim_70 rfl rfl ?_
  refine v_if_eq (q := 74) (tgt := 85) C dX9_readClaim_71 rfl rfl h (fun h => ?_) (fun h => ?_)
  · refine v_iconst (q := 86) C dX9_readClaim_85 rfl (by decide) ?_
    exact u_zret hR dX9_readClaim_86 h
  · refine v_aloadn (q := 75) C dX9_readClaim_74 rfl rfl ?_
    refine u_getI (q := 78) C kl9 fl_X9_30 ob_212 pt_212_4 rfl rfl dX9_readClaim_75 rfl ?_
    refine v_aloadn (q := 79) C dX9_readClaim_78 rfl rfl ?_
    refine u_getI (q := 82) C kl9 fl_X9_26 ob_212 pt_212_3 rfl rfl dX9_readClaim_79 rfl ?_
    refine v_icmp_eq (q := 85) (tgt := 87) C dX9_readClaim_82 rfl rfl h (fun h => ?_) (fun h => ?_)
    · refine v_aloadn (q := 88) C dX9_readClaim_87 rfl rfl ?_
      refine u_getR (q := 91) C kl9 fl_X9_17 ob_212 pt_212_1 (by decide) rfl rfl dX9_readClaim_88 rfl ?_
      refine v_iconst (q := 92) C dX9_readClaim_91 rfl (by decide) ?_
      have hb10 := h.1
      refine u_fald (v := 169 + 3 * 0) (q := 93) C fa_214 (Or.inl rfl) dX9_readClaim_92 rfl h (fun h9 => ⟨fe_214 h9, by omega⟩) (fun h => ?_)
      have hf11 : z_tm (169 + 3 * 0) := by omega
      refine v_aloadn (q := 94) C dX9_readClaim_93 rfl rfl ?_
      refine u_getR (q := 97) C kl9 fl_X9_21 ob_212 pt_212_2 (by decide) rfl rfl dX9_readClaim_94 rfl ?_
      refine u_getR (q := 100) C kl3 fl_X9_57 ob_207 pt_207_3 (by decide) rfl rfl dX9_readClaim_97 rfl ?_
      refine u_cVv1 (q := 103) C (c_X10_close h) sy_X10_close si_X10_close ml_X9_62 (ob_tm hf11) (by decide) so_X10_close ⟨nb rfl, nb rfl⟩ (nb rfl) dX9_readClaim_100 rfl (fun μ12 h => ?_)
      refine v_aloadn (q := 104) C dX9_readClaim_103 rfl rfl ?_
      refine u_getR (q := 107) C kl9 fl_X9_17 ob_212 pt_212_1 (by decide) rfl rfl dX9_readClaim_104 rfl ?_
      refine v_iconst (q := 108) C dX9_readClaim_107 rfl (by decide) ?_
      have hb13 := h.1
      refine u_fald (v := 169 + 3 * 1) (q := 109) C fa_214 (Or.inl rfl) dX9_readClaim_108 rfl h (fun h9 => ⟨fe_214 h9, by omega⟩) (fun h => ?_)
      have hf14 : z_tm (169 + 3 * 1) := by omega
      refine v_aloadn (q := 110) C dX9_readClaim_109 rfl rfl ?_
      refine u_getR (q := 113) C kl9 fl_X9_21 ob_212 pt_212_2 (by decide) rfl rfl dX9_readClaim_110 rfl ?_
      refine u_getR (q := 116) C kl3 fl_X9_57 ob_207 pt_207_3 (by decide) rfl rfl dX9_readClaim_113 rfl ?_
      refine u_cVv1 (q := 119) C (c_X10_close h) sy_X10_close si_X10_close ml_X9_62 (ob_tm hf14) (by decide) so_X10_close ⟨nb rfl, nb rfl⟩ (nb rfl) dX9_readClaim_116 rfl (fun μ15 h => ?_)
      refine v_iconst (q := 120) C dX9_readClaim_119 rfl (by decide) ?_
      exact u_zret hR dX9_readClaim_120 h
    · refine v_iconst (q := 86) C dX9_readClaim_85 rfl (by decide) ?_
      exact u_zret hR dX9_readClaim_86 h
theorem w_X9_readClaim_68 {X : ZX} (C : zC X cX9_readClaim RX9 2 (some .boolean) 3 70 274) {K : Int → ZM → Prop} (hR : zRi X cX9_readClaim (some .boolean) 274 (KN (KI K)))   {μ : ZM}   (h : P_X9_readClaim_68    μ K) : zV X 68 [some (.inr 212), none] [] 274 (z_ov μ) := by
  refine v_iconst (q := 69) C dX9_readClaim_68 rfl (by decide) ?_
  exact (w_X9_readClaim_69  C hR   h)
theorem c_X9_readClaim  {μ : ZM} {K : Int → ZM → Prop} (h : P_X9_readClaim   μ K) : zMu yX9_readClaim cX9_readClaim 2 (some .boolean) 3 70 [.inr 212] μ (KI K) := by
  refine zMet_of (L0 := [some (.inr 212), none]) sy_X9_readClaim rfl (nb rfl) (Nat.le_refl _) (fun X C _ hR _ _ => ?_)
  have C : zC X cX9_readClaim RX9 2 (some .boolean) 3 70 274 := C
  refine v_aloadn (q := 1) C dX9_readClaim_0 rfl rfl ?_
  refine v_iconst (q := 2) C dX9_readClaim_1 rfl (by decide) ?_
  refine u_put (q := 5) C kl9 fl_X9_30 ob_212 pt_212_4 rfl rfl rfl rfl dX9_readClaim_2 rfl h (fun μ1 h => ?_)
  refine v_aloadn (q := 6) C dX9_readClaim_5 rfl rfl ?_
  refine v_iconst (q := 7) C dX9_readClaim_6 rfl (by decide) ?_
  refine u_putZ (q := 10) C kl9 fl_X9_43 ob_212 pt_212_6 rfl rfl rfl rfl dX9_readClaim_7 rfl h (fun μ2 h => ?_)
  refine v_aloadn (q := 11) C dX9_readClaim_10 rfl rfl ?_
  refine v_iconst (q := 12) C dX9_readClaim_11 rfl (by decide) ?_
  refine u_putZ (q := 15) C kl9 fl_X9_46 ob_212 pt_212_7 rfl rfl rfl rfl dX9_readClaim_12 rfl h (fun μ3 h => ?_)
  refine v_aloadn (q := 16) C dX9_readClaim_15 rfl rfl ?_
  refine v_iconst (q := 17) C dX9_readClaim_16 rfl (by decide) ?_
  refine u_putZ (q := 20) C kl9 fl_X9_36 ob_212 pt_212_8 rfl rfl rfl rfl dX9_readClaim_17 rfl h (fun μ4 h => ?_)
  refine v_aloadn (q := 21) C dX9_readClaim_20 rfl rfl ?_
  refine v_iconst (q := 22) C dX9_readClaim_21 rfl (by decide) ?_
  refine u_putZ (q := 25) C kl9 fl_X9_40 ob_212 pt_212_9 rfl rfl rfl rfl dX9_readClaim_22 rfl h (fun μ5 h => ?_)
  refine v_aloadn (q := 26) C dX9_readClaim_25 rfl rfl ?_
  refine v_aloadn (q := 27) C dX9_readClaim_26 rfl rfl ?_
  refine u_getR (q := 30) C kl9 fl_X9_17 ob_212 pt_212_1 (by decide) rfl rfl dX9_readClaim_27 rfl ?_
  refine v_iconst (q := 31) C dX9_readClaim_30 rfl (by decide) ?_
  have hb6 := h.1
  refine u_fald (v := 169 + 3 * 0) (q := 32) C fa_214 (Or.inl rfl) dX9_readClaim_31 rfl h (fun h9 => ⟨fe_214 h9, by omega⟩) (fun h => ?_)
  have hf7 : z_tm (169 + 3 * 0) := by omega
  refine v_bipush (q := 34) C dX9_readClaim_32 rfl (by decide) ?_
  refine u_cVi2 (q := 37) C (c_X9_readTerm h) sy_X9_readTerm si_X9_readTerm ml_X9_53 ob_212 (by decide) so_X9_readTerm ⟨nb rfl, nb rfl⟩ (nb rfl) dX9_readClaim_34 rfl (fun r9 μ8 h => ?_)
  refine v_if_eq (q := 40) (tgt := 68) C dX9_readClaim_37 rfl rfl h (fun h => ?_) (fun h => ?_)
  · exact (w_X9_readClaim_68  C hR   h)
  · refine v_aloadn (q := 41) C dX9_readClaim_40 rfl rfl ?_
    refine v_bipush (q := 43) C dX9_readClaim_41 rfl (by decide) ?_
    refine u_cVi1 (q := 46) C (c_X9_pass h) sy_X9_pass si_X9_pass ml_X9_49 ob_212 (by decide) so_X9_pass ⟨nb rfl, nb rfl⟩ (nb rfl) dX9_readClaim_43 rfl (fun r17 μ16 h => ?_)
    refine v_if_eq (q := 49) (tgt := 68) C dX9_readClaim_46 rfl rfl h (fun h => ?_) (fun h => ?_)
    · exact (w_X9_readClaim_68  C hR   h)
    · refine v_aloadn (q := 50) C dX9_readClaim_49 rfl rfl ?_
      refine v_aloadn (q := 51) C dX9_readClaim_50 rfl rfl ?_
      refine u_getR (q := 54) C kl9 fl_X9_17 ob_212 pt_212_1 (by decide) rfl rfl dX9_readClaim_51 rfl ?_
      refine v_iconst (q := 55) C dX9_readClaim_54 rfl (by decide) ?_
      have hb18 := h.1
      refine u_fald (v := 169 + 3 * 1) (q := 56) C fa_214 (Or.inl rfl) dX9_readClaim_55 rfl h (fun h9 => ⟨fe_214 h9, by omega⟩) (fun h => ?_)
      have hf19 : z_tm (169 + 3 * 1) := by omega
      refine v_bipush (q := 58) C dX9_readClaim_56 rfl (by decide) ?_
      refine u_cVi2 (q := 61) C (c_X9_readTerm h) sy_X9_readTerm si_X9_readTerm ml_X9_53 ob_212 (by decide) so_X9_readTerm ⟨nb rfl, nb rfl⟩ (nb rfl) dX9_readClaim_58 rfl (fun r21 μ20 h => ?_)
      refine v_if_eq (q := 64) (tgt := 68) C dX9_readClaim_61 rfl rfl h (fun h => ?_) (fun h => ?_)
      · exact (w_X9_readClaim_68  C hR   h)
      · refine v_iconst (q := 65) C dX9_readClaim_64 rfl (by decide) ?_
        refine v_goto (q := 69) C dX9_readClaim_65 rfl ?_
        exact (w_X9_readClaim_69  C hR   h)
theorem w_X9_readFunction_107 {X : ZX} (C : zC X cX9_readFunction RX9 4 (some .boolean) 3 70 274) {K : Int → ZM → Prop} (hR : zRi X cX9_readFunction (some .boolean) 274 (KN (KI K)))   {μ : ZM}   (h : P_X9_readFunction_107    μ K) : zV X 107 [some (.inr 212), none, none, none] [] 274 (z_ov μ) := by
  refine v_aloadn (q := 108) C dX9_readFunction_107 rfl rfl ?_
  refine u_getI (q := 111) C kl9 fl_X9_30 ob_212 pt_212_4 rfl rfl dX9_readFunction_108 rfl ?_
  refine v_aloadn (q := 112) C dX9_readFunction_111 rfl rfl ?_
  refine u_getI (q := 115) C kl9 fl_X9_26 ob_212 pt_212_3 rfl rfl dX9_readFunction_112 rfl ?_
  refine v_icmp_ne (q := 118) (tgt := 122) C dX9_readFunction_115 rfl rfl h (fun h => ?_) (fun h => ?_)
  · refine v_iconst (q := 119) C dX9_readFunction_118 rfl (by decide) ?_
    refine v_goto (q := 123) C dX9_readFunction_119 rfl ?_
    exact u_zret hR dX9_readFunction_123 h
  · refine v_iconst (q := 123) C dX9_readFunction_122 rfl (by decide) ?_
    exact u_zret hR dX9_readFunction_123 h
theorem w_X9_readFunction_84 {X : ZX} (C : zC X cX9_readFunction RX9 4 (some .boolean) 3 70 274) {K : Int → ZM → Prop} (hR : zRi X cX9_readFunction (some .boolean) 274 (KN (KI K)))  {x2 : Int} {x3 : Int} {μ : ZM} {G31 : Int → ZM → Prop} (hG31 : ∀ (x3 : Int) (μ : ZM), G31 x3 μ → zV X 31 [some (.inr 212), none, some (.inl x2), some (.inl x3)] [] 274 (z_ov μ))  (h : P_X9_readFunction_84  G31 x2 x3 μ K) : zV X 84 [some (.inr 212), none, some (.inl x2), some (.inl x3)] [] 274 (z_ov μ) := by
  refine v_aloadn (q := 85) C dX9_readFunction_84 rfl rfl ?_
  refine v_aloadn (q := 86) C dX9_readFunction_85 rfl rfl ?_
  refine u_getR (q := 89) C kl9 fl_X9_17 ob_212 pt_212_1 (by decide) rfl rfl dX9_readFunction_86 rfl ?_
  refine v_iloadn (q := 90) C dX9_readFunction_89 rfl rfl ?_
  have hb7 := h.1
  refine u_fald (v := 169 + 3 * x3) (q := 91) C fa_214 (Or.inl rfl) dX9_readFunction_90 rfl h (fun h9 => ⟨fe_214 h9, by omega⟩) (fun h => ?_)
  have hf8 : z_tm (169 + 3 * x3) := by omega
  refine v_bipush (q := 93) C dX9_readFunction_91 rfl (by decide) ?_
  refine u_cVi2 (q := 96) C (c_X9_readTerm h) sy_X9_readTerm si_X9_readTerm ml_X9_53 ob_212 (by decide) so_X9_readTerm ⟨nb rfl, nb rfl⟩ (nb rfl) dX9_readFunction_93 rfl (fun r10 μ9 h => ?_)
  refine v_if_ne (q := 99) (tgt := 101) C dX9_readFunction_96 rfl rfl h (fun h => ?_) (fun h => ?_)
  · refine v_iconst (q := 100) C dX9_readFunction_99 rfl (by decide) ?_
    exact u_zret hR dX9_readFunction_100 h
  · refine u_iinc (q := 104) C dX9_readFunction_101 rfl (nb rfl) rfl (L' := [some (.inr 212), none, some (.inl x2), some (.inl (x3 + 1))]) rfl h (fun h => ?_)
    refine v_goto (q := 31) C dX9_readFunction_104 rfl ?_
    exact (hG31 _ _ h)
theorem w_X9_readFunction_66 {X : ZX} (C : zC X cX9_readFunction RX9 4 (some .boolean) 3 70 274) {K : Int → ZM → Prop} (hR : zRi X cX9_readFunction (some .boolean) 274 (KN (KI K)))  {x2 : Int} {x3 : Int} {s1 : Int} {μ : ZM} {G31 : Int → ZM → Prop} (hG31 : ∀ (x3 : Int) (μ : ZM), G31 x3 μ → zV X 31 [some (.inr 212), none, some (.inl x2), some (.inl x3)] [] 274 (z_ov μ))  (h : P_X9_readFunction_66  G31 x2 x3 s1 μ K) : zV X 66 [some (.inr 212), none, some (.inl x2), some (.inl x3)] [.inl s1, .inr 212] 274 (z_ov μ) := by
  refine u_putZ (q := 69) C kl9 fl_X9_46 ob_212 pt_212_7 rfl rfl rfl rfl dX9_readFunction_66 rfl h (fun μ6 h => ?_)
  refine v_iloadn (q := 70) C dX9_readFunction_69 rfl rfl ?_
  refine v_if_le (q := 73) (tgt := 84) C dX9_readFunction_70 rfl rfl h (fun h => ?_) (fun h => ?_)
  · exact (w_X9_readFunction_84  C hR hG31  h)
  · refine v_aloadn (q := 74) C dX9_readFunction_73 rfl rfl ?_
    refine v_bipush (q := 76) C dX9_readFunction_74 rfl (by decide) ?_
    refine u_cVi1 (q := 79) C (c_X9_pass h) sy_X9_pass si_X9_pass ml_X9_49 ob_212 (by decide) so_X9_pass ⟨nb rfl, nb rfl⟩ (nb rfl) dX9_readFunction_76 rfl (fun r12 μ11 h => ?_)
    refine v_if_ne (q := 82) (tgt := 84) C dX9_readFunction_79 rfl rfl h (fun h => ?_) (fun h => ?_)
    · refine v_iconst (q := 83) C dX9_readFunction_82 rfl (by decide) ?_
      exact u_zret hR dX9_readFunction_83 h
    · exact (w_X9_readFunction_84  C hR hG31  h)
theorem w_X9_readFunction_52 {X : ZX} (C : zC X cX9_readFunction RX9 4 (some .boolean) 3 70 274) {K : Int → ZM → Prop} (hR : zRi X cX9_readFunction (some .boolean) 274 (KN (KI K)))  {x2 : Int} {x3 : Int} {s1 : Int} {μ : ZM} {G31 : Int → ZM → Prop} (hG31 : ∀ (x3 : Int) (μ : ZM), G31 x3 μ → zV X 31 [some (.inr 212), none, some (.inl x2), some (.inl x3)] [] 274 (z_ov μ))  (h : P_X9_readFunction_52  G31 x2 x3 s1 μ K) : zV X 52 [some (.inr 212), none, some (.inl x2), some (.inl x3)] [.inl s1, .inr 212] 274 (z_ov μ) := by
  refine u_putZ (q := 55) C kl9 fl_X9_43 ob_212 pt_212_6 rfl rfl rfl rfl dX9_readFunction_52 rfl h (fun μ5 h => ?_)
  refine v_aloadn (q := 56) C dX9_readFunction_55 rfl rfl ?_
  refine v_iloadn (q := 57) C dX9_readFunction_56 rfl rfl ?_
  refine v_iloadn (q := 58) C dX9_readFunction_57 rfl rfl ?_
  refine v_icmp_ne (q := 61) (tgt := 65) C dX9_readFunction_58 rfl rfl h (fun h => ?_) (fun h => ?_)
  · refine v_iconst (q := 62) C dX9_readFunction_61 rfl (by decide) ?_
    refine v_goto (q := 66) C dX9_readFunction_62 rfl ?_
    exact (w_X9_readFunction_66  C hR hG31  h)
  · refine v_iconst (q := 66) C dX9_readFunction_65 rfl (by decide) ?_
    exact (w_X9_readFunction_66  C hR hG31  h)
theorem w_X9_readFunction_31 {X : ZX} (C : zC X cX9_readFunction RX9 4 (some .boolean) 3 70 274) {K : Int → ZM → Prop} (hR : zRi X cX9_readFunction (some .boolean) 274 (KN (KI K)))  {x2 : Int} {x3 : Int} {μ : ZM}   (h : P_X9_readFunction_31   x2 x3 μ K) : zV X 31 [some (.inr 212), none, some (.inl x2), some (.inl x3)] [] 274 (z_ov μ) := by
  refine h (fun x3 μ => zV X 31 [some (.inr 212), none, some (.inl x2), some (.inl x3)] [] 274 (z_ov μ)) (fun x3 μ h => ?_)
  refine v_iloadn (q := 32) C dX9_readFunction_31 rfl rfl ?_
  refine v_iloadn (q := 33) C dX9_readFunction_32 rfl rfl ?_
  refine v_icmp_gt (q := 36) (tgt := 107) C dX9_readFunction_33 rfl rfl h (fun h => ?_) (fun h => ?_)
  · exact v_mask [true, false, false, false] rfl (w_X9_readFunction_107  C hR   h)
  · refine v_iloadn (q := 37) C dX9_readFunction_36 rfl rfl ?_
    refine v_iconst (q := 38) C dX9_readFunction_37 rfl (by decide) ?_
    refine v_icmp_ge (q := 41) (tgt := 107) C dX9_readFunction_38 rfl rfl h (fun h => ?_) (fun h => ?_)
    · exact v_mask [true, false, false, false] rfl (w_X9_readFunction_107  C hR   h)
    · refine v_aloadn (q := 42) C dX9_readFunction_41 rfl rfl ?_
      refine v_iloadn (q := 43) C dX9_readFunction_42 rfl rfl ?_
      refine v_iloadn (q := 44) C dX9_readFunction_43 rfl rfl ?_
      refine v_icmp_ne (q := 47) (tgt := 51) C dX9_readFunction_44 rfl rfl h (fun h => ?_) (fun h => ?_)
      · refine v_iconst (q := 48) C dX9_readFunction_47 rfl (by decide) ?_
        refine v_goto (q := 52) C dX9_readFunction_48 rfl ?_
        exact (w_X9_readFunction_52  C hR (fun _ _ h => h)  h)
      · refine v_iconst (q := 52) C dX9_readFunction_51 rfl (by decide) ?_
        exact (w_X9_readFunction_52  C hR (fun _ _ h => h)  h)
theorem w_X9_readFunction_21 {X : ZX} (C : zC X cX9_readFunction RX9 4 (some .boolean) 3 70 274) {K : Int → ZM → Prop} (hR : zRi X cX9_readFunction (some .boolean) 274 (KN (KI K)))  {x2 : Int} {s1 : Int} {μ : ZM}   (h : P_X9_readFunction_21   x2 s1 μ K) : zV X 21 [some (.inr 212), none, some (.inl x2), none] [.inl s1, .inr 212] 274 (z_ov μ) := by
  refine u_putZ (q := 24) C kl9 fl_X9_36 ob_212 pt_212_8 rfl rfl rfl rfl dX9_readFunction_21 rfl h (fun μ3 h => ?_)
  refine v_aloadn (q := 25) C dX9_readFunction_24 rfl rfl ?_
  refine v_iconst (q := 26) C dX9_readFunction_25 rfl (by decide) ?_
  refine u_putZ (q := 29) C kl9 fl_X9_40 ob_212 pt_212_9 rfl rfl rfl rfl dX9_readFunction_26 rfl h (fun μ4 h => ?_)
  refine v_iconst (q := 30) C dX9_readFunction_29 rfl (by decide) ?_
  refine v_istoren (q := 31) C dX9_readFunction_30 rfl (nb rfl) (L' := [some (.inr 212), none, some (.inl x2), some (.inl 0)]) rfl ?_
  exact (w_X9_readFunction_31  C hR   h)
theorem c_X9_readFunction {x1 : Int} {x2 : Int} {μ : ZM} {K : Int → ZM → Prop} (h : P_X9_readFunction  x1 x2 μ K) : zMu yX9_readFunction cX9_readFunction 4 (some .boolean) 3 70 [.inr 212, .inl x1, .inl x2] μ (KI K) := by
  refine zMet_of (L0 := [some (.inr 212), some (.inl x1), some (.inl x2), none]) sy_X9_readFunction rfl (nb rfl) (Nat.le_refl _) (fun X C _ hR _ _ => ?_)
  have C : zC X cX9_readFunction RX9 4 (some .boolean) 3 70 274 := C
  refine v_aloadn (q := 1) C dX9_readFunction_0 rfl rfl ?_
  refine v_iconst (q := 2) C dX9_readFunction_1 rfl (by decide) ?_
  refine u_put (q := 5) C kl9 fl_X9_30 ob_212 pt_212_4 rfl rfl rfl rfl dX9_readFunction_2 rfl h (fun μ1 h => ?_)
  refine v_aloadn (q := 6) C dX9_readFunction_5 rfl rfl ?_
  refine v_iloadn (q := 7) C dX9_readFunction_6 rfl rfl ?_
  refine u_put (q := 10) C kl9 fl_X9_33 ob_212 pt_212_5 rfl rfl rfl rfl dX9_readFunction_7 rfl h (fun μ2 h => ?_)
  refine v_aloadn (q := 11) C dX9_readFunction_10 rfl rfl ?_
  refine v_iloadn (q := 12) C dX9_readFunction_11 rfl rfl ?_
  refine v_iconst (q := 13) C dX9_readFunction_12 rfl (by decide) ?_
  refine v_icmp_ne (q := 16) (tgt := 20) C dX9_readFunction_13 rfl rfl h (fun h => ?_) (fun h => ?_)
  · refine v_iconst (q := 17) C dX9_readFunction_16 rfl (by decide) ?_
    refine v_goto (q := 21) C dX9_readFunction_17 rfl ?_
    exact v_mask [true, false, true, false] rfl (w_X9_readFunction_21  C hR   h)
  · refine v_iconst (q := 21) C dX9_readFunction_20 rfl (by decide) ?_
    exact v_mask [true, false, true, false] rfl (w_X9_readFunction_21  C hR   h)
theorem c_X10_symbolOrSize {x0 : Int} {x1 : Int} {μ : ZM} {K : Int → ZM → Prop} (h : P_X10_symbolOrSize  x0 x1 μ K) : zMu yX10_symbolOrSize cX10_symbolOrSize 2 (some .int) 0 0 [.inr x0, .inl x1] μ (KI K) := by
  refine zMet_of (L0 := [some (.inr x0), some (.inl x1)]) sy_X10_symbolOrSize rfl (nb rfl) (Nat.le_refl _) (fun X C _ hR _ _ => ?_)
  have C : zC X cX10_symbolOrSize RX10 2 (some .int) 0 0 274 := C
  have hx0 := h.1
  replace h := h.2
  refine v_iloadn (q := 1) C dX10_symbolOrSize_0 rfl rfl ?_
  refine v_bipush (q := 3) C dX10_symbolOrSize_1 rfl (by decide) ?_
  refine v_icmp_ne (q := 6) (tgt := 11) C dX10_symbolOrSize_3 rfl rfl h (fun h => ?_) (fun h => ?_)
  · refine v_aloadn (q := 7) C dX10_symbolOrSize_6 rfl rfl ?_
    refine u_getI (q := 10) C kl10 fl_X10_18 (ob_tm hx0) (pt_size hx0) rfl rfl dX10_symbolOrSize_7 rfl ?_
    exact u_iret hR dX10_symbolOrSize_10 h
  · refine v_iloadn (q := 12) C dX10_symbolOrSize_11 rfl rfl ?_
    refine v_if_lt (q := 15) (tgt := 32) C dX10_symbolOrSize_12 rfl rfl h (fun h => ?_) (fun h => ?_)
    · refine v_bipush (q := 34) C dX10_symbolOrSize_32 rfl (by decide) ?_
      exact u_iret hR dX10_symbolOrSize_34 h
    · refine v_iloadn (q := 16) C dX10_symbolOrSize_15 rfl rfl ?_
      refine v_aloadn (q := 17) C dX10_symbolOrSize_16 rfl rfl ?_
      refine u_getI (q := 20) C kl10 fl_X10_18 (ob_tm hx0) (pt_size hx0) rfl rfl dX10_symbolOrSize_17 rfl ?_
      refine v_icmp_ge (q := 23) (tgt := 32) C dX10_symbolOrSize_20 rfl rfl h (fun h => ?_) (fun h => ?_)
      · refine v_bipush (q := 34) C dX10_symbolOrSize_32 rfl (by decide) ?_
        exact u_iret hR dX10_symbolOrSize_34 h
      · refine v_aloadn (q := 24) C dX10_symbolOrSize_23 rfl rfl ?_
        refine u_getR (v := x0 + 1) (q := 27) C kl10 fl_X10_9 (ob_tm hx0) (pt_code hx0) (by omega) rfl rfl dX10_symbolOrSize_24 rfl ?_
        refine v_iloadn (q := 28) C dX10_symbolOrSize_27 rfl rfl ?_
        refine u_iald (q := 29) C (ia_code hx0) dX10_symbolOrSize_28 rfl h (fun h => ?_)
        refine v_goto (q := 34) C dX10_symbolOrSize_29 rfl ?_
        exact u_iret hR dX10_symbolOrSize_34 h
theorem c_X11_anew  {μ : ZM} {K : Int → ZM → Prop} (h : P_X11_anew   μ K) : zMu yX11_anew cX11_anew 2 (some .int) 1 21 [.inr 206] μ (KI K) := by
  refine zMet_of (L0 := [some (.inr 206), none]) sy_X11_anew rfl (nb rfl) (Nat.le_refl _) (fun X C _ hR _ _ => ?_)
  have C : zC X cX11_anew RX11 2 (some .int) 1 21 274 := C
  refine v_aloadn (q := 1) C dX11_anew_0 rfl rfl ?_
  refine u_getR (q := 4) C kl11 fl_X11_12 ob_206 pt_206_0 (by decide) rfl rfl dX11_anew_1 rfl ?_
  refine u_getI (q := 7) C kl3 fl_X11_107 ob_207 pt_207_4 rfl rfl dX11_anew_4 rfl ?_
  refine v_istoren (q := 8) C dX11_anew_7 rfl (nb rfl) (L' := [some (.inr 206), some (.inl (μ 207 4))]) rfl ?_
  refine v_aloadn (q := 9) C dX11_anew_8 rfl rfl ?_
  refine u_getR (q := 12) C kl11 fl_X11_12 ob_206 pt_206_0 (by decide) rfl rfl dX11_anew_9 rfl ?_
  refine u_cVv0 (q := 15) C (c_X3_forgetAll h) sy_X3_forgetAll si_X3_forgetAll ml_X11_158 ob_207 (by decide) so_X3_forgetAll ⟨nb rfl, nb rfl⟩ (nb rfl) dX11_anew_12 rfl (fun μ1 h => ?_)
  refine v_aloadn (q := 16) C dX11_anew_15 rfl rfl ?_
  refine u_getR (q := 19) C kl11 fl_X11_54 ob_206 pt_206_5 (by decide) rfl rfl dX11_anew_16 rfl ?_
  refine v_iconst (q := 20) C dX11_anew_19 rfl (by decide) ?_
  refine u_put (q := 23) C kl4 fl_X11_161 ob_238 pt_238_1 rfl rfl rfl rfl dX11_anew_20 rfl h (fun μ2 h => ?_)
  refine v_aloadn (q := 24) C dX11_anew_23 rfl rfl ?_
  refine u_getR (q := 27) C kl11 fl_X11_61 ob_206 pt_206_6 (by decide) rfl rfl dX11_anew_24 rfl ?_
  refine u_cVv0 (q := 30) C (c_X7_empty h) sy_X7_empty si_X7_empty ml_X11_162 ob_240 (by decide) so_X7_empty ⟨nb rfl, nb rfl⟩ (nb rfl) dX11_anew_27 rfl (fun μ3 h => ?_)
  refine v_aloadn (q := 31) C dX11_anew_30 rfl rfl ?_
  refine v_iconst (q := 32) C dX11_anew_31 rfl (by decide) ?_
  refine u_putZ (q := 35) C kl11 fl_X11_91 ob_206 pt_206_11 rfl rfl rfl rfl dX11_anew_32 rfl h (fun μ4 h => ?_)
  refine v_iloadn (q := 36) C dX11_anew_35 rfl rfl ?_
  exact u_iret hR dX11_anew_36 h
theorem c_X11_back  {μ : ZM} {K : Int → ZM → Prop} (h : P_X11_back   μ K) : zMu yX11_back cX11_back 1 (some .int) 0 0 [.inr 206] μ (KI K) := by
  refine zMet_of (L0 := [some (.inr 206)]) sy_X11_back rfl (nb rfl) (Nat.le_refl _) (fun X C _ hR _ _ => ?_)
  have C : zC X cX11_back RX11 1 (some .int) 0 0 274 := C
  refine v_aloadn (q := 1) C dX11_back_0 rfl rfl ?_
  refine u_getR (q := 4) C kl11 fl_X11_54 ob_206 pt_206_5 (by decide) rfl rfl dX11_back_1 rfl ?_
  refine u_getI (q := 7) C kl4 fl_X11_161 ob_238 pt_238_1 rfl rfl dX11_back_4 rfl ?_
  refine v_if_gt (q := 10) (tgt := 13) C dX11_back_7 rfl rfl h (fun h => ?_) (fun h => ?_)
  · refine v_aloadn (q := 14) C dX11_back_13 rfl rfl ?_
    refine u_getR (q := 17) C kl11 fl_X11_54 ob_206 pt_206_5 (by decide) rfl rfl dX11_back_14 rfl ?_
    refine v_dup (q := 18) C dX11_back_17 rfl ?_
    refine u_getI (q := 21) C kl4 fl_X11_161 ob_238 pt_238_1 rfl rfl dX11_back_18 rfl ?_
    refine v_iconst (q := 22) C dX11_back_21 rfl (by decide) ?_
    refine u_isub (q := 23) C dX11_back_22 rfl h (fun h => ?_)
    refine u_put (q := 26) C kl4 fl_X11_161 ob_238 pt_238_1 rfl rfl rfl rfl dX11_back_23 rfl h (fun μ1 h => ?_)
    refine v_aloadn (q := 27) C dX11_back_26 rfl rfl ?_
    refine u_getR (q := 30) C kl11 fl_X11_54 ob_206 pt_206_5 (by decide) rfl rfl dX11_back_27 rfl ?_
    refine u_getI (q := 33) C kl4 fl_X11_161 ob_238 pt_238_1 rfl rfl dX11_back_30 rfl ?_
    exact u_iret hR dX11_back_33 h
  · refine v_bipush (q := 12) C dX11_back_10 rfl (by decide) ?_
    exact u_iret hR dX11_back_12 h
theorem w_X11_isOutside_9 {X : ZX} (C : zC X cX11_isOutside RX11 2 (some .boolean) 0 0 274) {K : Int → ZM → Prop} (hR : zRi X cX11_isOutside (some .boolean) 274 (KN (KI K)))   {μ : ZM}   (h : P_X11_isOutside_9    μ K) : zV X 9 [none, none] [] 274 (z_ov μ) := by
  refine v_iconst (q := 10) C dX11_isOutside_9 rfl (by decide) ?_
  refine v_goto (q := 14) C dX11_isOutside_10 rfl ?_
  exact u_zret hR dX11_isOutside_14 h
theorem c_X11_isOutside {x0 : Int} {x1 : Int} {μ : ZM} {K : Int → ZM → Prop} (h : P_X11_isOutside  x0 x1 μ K) : zMu yX11_isOutside cX11_isOutside 2 (some .boolean) 0 0 [.inl x0, .inl x1] μ (KI K) := by
  refine zMet_of (L0 := [some (.inl x0), some (.inl x1)]) sy_X11_isOutside rfl (nb rfl) (Nat.le_refl _) (fun X C _ hR _ _ => ?_)
  have C : zC X cX11_isOutside RX11 2 (some .boolean) 0 0 274 := C
  refine v_iloadn (q := 1) C dX11_isOutside_0 rfl rfl ?_
  refine v_if_lt (q := 4) (tgt := 9) C dX11_isOutside_1 rfl rfl h (fun h => ?_) (fun h => ?_)
  · exact v_mask [false, false] rfl (w_X11_isOutside_9  C hR   h)
  · refine v_iloadn (q := 5) C dX11_isOutside_4 rfl rfl ?_
    refine v_iloadn (q := 6) C dX11_isOutside_5 rfl rfl ?_
    refine v_icmp_le (q := 9) (tgt := 13) C dX11_isOutside_6 rfl rfl h (fun h => ?_) (fun h => ?_)
    · refine v_iconst (q := 14) C dX11_isOutside_13 rfl (by decide) ?_
      exact u_zret hR dX11_isOutside_14 h
    · exact v_mask [false, false] rfl (w_X11_isOutside_9  C hR   h)
theorem c_X11_body {x1 : Int} {x2 : Int} {x3 : Int} {μ : ZM} {K : Int → ZM → Prop} (h : P_X11_body  x1 x2 x3 μ K) : zMu yX11_body cX11_body 5 (some .int) 1 22 [.inr 206, .inl x1, .inl x2, .inl x3] μ (KI K) := by
  refine zMet_of (L0 := [some (.inr 206), some (.inl x1), some (.inl x2), some (.inl x3), none]) sy_X11_body rfl (nb rfl) (Nat.le_refl _) (fun X C _ hR _ _ => ?_)
  have C : zC X cX11_body RX11 5 (some .int) 1 22 274 := C
  refine v_iloadn (q := 1) C dX11_body_0 rfl rfl ?_
  refine v_aloadn (q := 2) C dX11_body_1 rfl rfl ?_
  refine u_getR (q := 5) C kl11 fl_X11_12 ob_206 pt_206_0 (by decide) rfl rfl dX11_body_2 rfl ?_
  refine u_getI (q := 8) C kl3 fl_X11_107 ob_207 pt_207_4 rfl rfl dX11_body_5 rfl ?_
  refine v_iconst (q := 9) C dX11_body_8 rfl (by decide) ?_
  refine u_isub (q := 10) C dX11_body_9 rfl h (fun h => ?_)
  refine u_cSi2 (q := 13) C (c_X11_isOutside h) sy_X11_isOutside ss_X11_isOutside ml_X11_95 ⟨nb rfl, nb rfl⟩ (nb rfl) dX11_body_10 rfl (fun r2 μ1 h => ?_)
  refine v_if_eq (q := 16) (tgt := 18) C dX11_body_13 rfl rfl h (fun h => ?_) (fun h => ?_)
  · refine v_iloadn (q := 19) C dX11_body_18 rfl rfl ?_
    refine v_iconst (q := 20) C dX11_body_19 rfl (by decide) ?_
    refine u_cSi2 (q := 23) C (c_X11_isOutside h) sy_X11_isOutside ss_X11_isOutside ml_X11_95 ⟨nb rfl, nb rfl⟩ (nb rfl) dX11_body_20 rfl (fun r4 μ3 h => ?_)
    refine v_if_ne (q := 26) (tgt := 35) C dX11_body_23 rfl rfl h (fun h => ?_) (fun h => ?_)
    · refine v_iloadn (q := 27) C dX11_body_26 rfl rfl ?_
      refine v_bipush (q := 29) C dX11_body_27 rfl (by decide) ?_
      refine u_cSi2 (q := 32) C (c_X11_isOutside h) sy_X11_isOutside ss_X11_isOutside ml_X11_95 ⟨nb rfl, nb rfl⟩ (nb rfl) dX11_body_29 rfl (fun r6 μ5 h => ?_)
      refine v_if_eq (q := 35) (tgt := 38) C dX11_body_32 rfl rfl h (fun h => ?_) (fun h => ?_)
      · refine v_aloadn (q := 39) C dX11_body_38 rfl rfl ?_
        refine u_getR (q := 42) C kl11 fl_X11_12 ob_206 pt_206_0 (by decide) rfl rfl dX11_body_39 rfl ?_
        refine v_iloadn (q := 43) C dX11_body_42 rfl rfl ?_
        refine v_iloadn (q := 44) C dX11_body_43 rfl rfl ?_
        refine u_cVa2 (q := 47) C (c_X3_bodyOf h) sy_X3_bodyOf si_X3_bodyOf ml_X11_129 ob_207 (by decide) so_X3_bodyOf ⟨nb rfl, nb rfl⟩ (nb rfl) dX11_body_44 rfl (fun r8 μ7 h => ?_)
        refine v_astore (q := 49) C dX11_body_47 rfl (nb rfl) (L' := [some (.inr 206), some (.inl x1), some (.inl x2), some (.inl x3), some (.inr r8)]) rfl ?_
        refine v_aload (q := 51) C dX11_body_49 rfl rfl ?_
        refine v_ifnonnull (q := 54) (tgt := 59) C dX11_body_51 rfl rfl h (fun h => ?_) (fun h => ?_)
        · refine v_bipush (q := 56) C dX11_body_54 rfl (by decide) ?_
          refine v_goto (q := 65) C dX11_body_56 rfl ?_
          exact u_iret hR dX11_body_65 h
        · refine v_aload (q := 61) C dX11_body_59 rfl rfl ?_
          refine v_iloadn (q := 62) C dX11_body_61 rfl rfl ?_
          have hf9 := h.1
          replace h := h.2
          refine u_cVi1 (q := 65) C (c_X10_symbolOrSize h) sy_X10_symbolOrSize si_X10_symbolOrSize ml_X11_136 (ob_tm hf9) (by decide) so_X10_symbolOrSize ⟨nb rfl, nb rfl⟩ (nb rfl) dX11_body_62 rfl (fun r11 μ10 h => ?_)
          exact u_iret hR dX11_body_65 h
      · refine v_bipush (q := 37) C dX11_body_35 rfl (by decide) ?_
        exact u_iret hR dX11_body_37 h
    · refine v_bipush (q := 37) C dX11_body_35 rfl (by decide) ?_
      exact u_iret hR dX11_body_37 h
  · refine v_iconst (q := 17) C dX11_body_16 rfl (by decide) ?_
    exact u_iret hR dX11_body_17 h
theorem c_X11_claim  {μ : ZM} {K : Int → ZM → Prop} (h : P_X11_claim   μ K) : zMu yX11_claim cX11_claim 1 (some .int) 4 91 [.inr 206] μ (KI K) := by
  refine zMet_of (L0 := [some (.inr 206)]) sy_X11_claim rfl (nb rfl) (Nat.le_refl _) (fun X C _ hR _ _ => ?_)
  have C : zC X cX11_claim RX11 1 (some .int) 4 91 274 := C
  refine v_aloadn (q := 1) C dX11_claim_0 rfl rfl ?_
  refine u_getR (q := 4) C kl11 fl_X11_21 ob_206 pt_206_1 (by decide) rfl rfl dX11_claim_1 rfl ?_
  refine u_cVi0 (q := 7) C (c_X9_readClaim h) sy_X9_readClaim si_X9_readClaim ml_X11_140 ob_212 (by decide) so_X9_readClaim ⟨nb rfl, nb rfl⟩ (nb rfl) dX11_claim_4 rfl (fun r2 μ1 h => ?_)
  refine v_if_ne (q := 10) (tgt := 21) C dX11_claim_7 rfl rfl h (fun h => ?_) (fun h => ?_)
  · refine v_bipush (q := 12) C dX11_claim_10 rfl (by decide) ?_
    refine v_aloadn (q := 13) C dX11_claim_12 rfl rfl ?_
    refine u_getR (q := 16) C kl11 fl_X11_21 ob_206 pt_206_1 (by decide) rfl rfl dX11_claim_13 rfl ?_
    refine u_getI (q := 19) C kl9 fl_X11_111 ob_212 pt_212_4 rfl rfl dX11_claim_16 rfl ?_
    refine u_isub (q := 20) C dX11_claim_19 rfl h (fun h => ?_)
    exact u_iret hR dX11_claim_20 h
  · refine v_aloadn (q := 22) C dX11_claim_21 rfl rfl ?_
    refine u_getR (q := 25) C kl11 fl_X11_77 ob_206 pt_206_8 (by decide) rfl rfl dX11_claim_22 rfl ?_
    refine u_getR (q := 28) C kl0 fl_X11_144 ob_204 pt_204_0 (by decide) rfl rfl dX11_claim_25 rfl ?_
    refine v_aloadn (q := 29) C dX11_claim_28 rfl rfl ?_
    refine u_getR (q := 32) C kl11 fl_X11_21 ob_206 pt_206_1 (by decide) rfl rfl dX11_claim_29 rfl ?_
    refine u_getR (q := 35) C kl9 fl_X11_114 ob_212 pt_212_1 (by decide) rfl rfl dX11_claim_32 rfl ?_
    refine v_iconst (q := 36) C dX11_claim_35 rfl (by decide) ?_
    have hb3 := h.1
    refine u_fald (v := 169 + 3 * 0) (q := 37) C fa_214 (Or.inl rfl) dX11_claim_36 rfl h (fun h9 => ⟨fe_214 h9, by omega⟩) (fun h => ?_)
    have hf4 : z_tm (169 + 3 * 0) := by omega
    refine u_cVv1 (q := 40) C (c_X10_copy h) sy_X10_copy si_X10_copy ml_X11_147 ob_103 (by decide) so_X10_copy ⟨nb rfl, nb rfl⟩ (nb rfl) dX11_claim_37 rfl (fun μ5 h => ?_)
    refine v_aloadn (q := 41) C dX11_claim_40 rfl rfl ?_
    refine u_getR (q := 44) C kl11 fl_X11_77 ob_206 pt_206_8 (by decide) rfl rfl dX11_claim_41 rfl ?_
    refine u_getR (q := 47) C kl0 fl_X11_151 ob_204 pt_204_1 (by decide) rfl rfl dX11_claim_44 rfl ?_
    refine v_aloadn (q := 48) C dX11_claim_47 rfl rfl ?_
    refine u_getR (q := 51) C kl11 fl_X11_21 ob_206 pt_206_1 (by decide) rfl rfl dX11_claim_48 rfl ?_
    refine u_getR (q := 54) C kl9 fl_X11_114 ob_212 pt_212_1 (by decide) rfl rfl dX11_claim_51 rfl ?_
    refine v_iconst (q := 55) C dX11_claim_54 rfl (by decide) ?_
    have hb6 := h.1
    refine u_fald (v := 169 + 3 * 1) (q := 56) C fa_214 (Or.inl rfl) dX11_claim_55 rfl h (fun h9 => ⟨fe_214 h9, by omega⟩) (fun h => ?_)
    have hf7 : z_tm (169 + 3 * 1) := by omega
    refine u_cVv1 (q := 59) C (c_X10_copy h) sy_X10_copy si_X10_copy ml_X11_147 ob_106 (by decide) so_X10_copy ⟨nb rfl, nb rfl⟩ (nb rfl) dX11_claim_56 rfl (fun μ8 h => ?_)
    refine v_aloadn (q := 60) C dX11_claim_59 rfl rfl ?_
    refine v_iconst (q := 61) C dX11_claim_60 rfl (by decide) ?_
    refine u_putZ (q := 64) C kl11 fl_X11_91 ob_206 pt_206_11 rfl rfl rfl rfl dX11_claim_61 rfl h (fun μ9 h => ?_)
    refine v_aloadn (q := 65) C dX11_claim_64 rfl rfl ?_
    refine u_getR (q := 68) C kl11 fl_X11_77 ob_206 pt_206_8 (by decide) rfl rfl dX11_claim_65 rfl ?_
    refine u_getR (q := 71) C kl0 fl_X11_144 ob_204 pt_204_0 (by decide) rfl rfl dX11_claim_68 rfl ?_
    refine u_getI (q := 74) C kl10 fl_X11_133 ob_103 pt_103_2 rfl rfl dX11_claim_71 rfl ?_
    refine v_aloadn (q := 75) C dX11_claim_74 rfl rfl ?_
    refine u_getR (q := 78) C kl11 fl_X11_77 ob_206 pt_206_8 (by decide) rfl rfl dX11_claim_75 rfl ?_
    refine u_getR (q := 81) C kl0 fl_X11_151 ob_204 pt_204_1 (by decide) rfl rfl dX11_claim_78 rfl ?_
    refine u_getI (q := 84) C kl10 fl_X11_133 ob_106 pt_106_2 rfl rfl dX11_claim_81 rfl ?_
    refine u_iadd (q := 85) C dX11_claim_84 rfl h (fun h => ?_)
    exact u_iret hR dX11_claim_85 h
theorem c_X11_isNoPlace {x0 : Int} {x1 : Int} {μ : ZM} {K : Int → ZM → Prop} (h : P_X11_isNoPlace  x0 x1 μ K) : zMu yX11_isNoPlace cX11_isNoPlace 2 (some .boolean) 1 21 [.inl x0, .inl x1] μ (KI K) := by
  refine zMet_of (L0 := [some (.inl x0), some (.inl x1)]) sy_X11_isNoPlace rfl (nb rfl) (Nat.le_refl _) (fun X C _ hR _ _ => ?_)
  have C : zC X cX11_isNoPlace RX11 2 (some .boolean) 1 21 274 := C
  refine v_iloadn (q := 1) C dX11_isNoPlace_0 rfl rfl ?_
  refine v_bipush (q := 3) C dX11_isNoPlace_1 rfl (by decide) ?_
  refine v_icmp_eq (q := 6) (tgt := 20) C dX11_isNoPlace_3 rfl rfl h (fun h => ?_) (fun h => ?_)
  · refine v_iconst (q := 21) C dX11_isNoPlace_20 rfl (by decide) ?_
    exact u_zret hR dX11_isNoPlace_21 h
  · refine v_iloadn (q := 7) C dX11_isNoPlace_6 rfl rfl ?_
    refine v_iloadn (q := 8) C dX11_isNoPlace_7 rfl rfl ?_
    refine v_iconst (q := 9) C dX11_isNoPlace_8 rfl (by decide) ?_
    refine u_isub (q := 10) C dX11_isNoPlace_9 rfl h (fun h => ?_)
    refine u_cSi2 (q := 13) C (c_X11_isOutside h) sy_X11_isOutside ss_X11_isOutside ml_X11_95 ⟨nb rfl, nb rfl⟩ (nb rfl) dX11_isNoPlace_10 rfl (fun r2 μ1 h => ?_)
    refine v_if_eq (q := 16) (tgt := 20) C dX11_isNoPlace_13 rfl rfl h (fun h => ?_) (fun h => ?_)
    · refine v_iconst (q := 21) C dX11_isNoPlace_20 rfl (by decide) ?_
      exact u_zret hR dX11_isNoPlace_21 h
    · refine v_iconst (q := 17) C dX11_isNoPlace_16 rfl (by decide) ?_
      refine v_goto (q := 21) C dX11_isNoPlace_17 rfl ?_
      exact u_zret hR dX11_isNoPlace_21 h
theorem c_X11_common {x1 : Int} {μ : ZM} {K : Int → ZM → Prop} (h : P_X11_common  x1 μ K) : zMu yX11_common cX11_common 3 (some .int) 3 72 [.inr 206, .inl x1] μ (KI K) := by
  refine zMet_of (L0 := [some (.inr 206), some (.inl x1), none]) sy_X11_common rfl (nb rfl) (Nat.le_refl _) (fun X C _ hR _ _ => ?_)
  have C : zC X cX11_common RX11 3 (some .int) 3 72 274 := C
  refine v_iloadn (q := 1) C dX11_common_0 rfl rfl ?_
  refine v_bipush (q := 3) C dX11_common_1 rfl (by decide) ?_
  refine u_cSi2 (q := 6) C (c_X11_isNoPlace h) sy_X11_isNoPlace ss_X11_isNoPlace ml_X11_188 ⟨nb rfl, nb rfl⟩ (nb rfl) dX11_common_3 rfl (fun r2 μ1 h => ?_)
  refine v_if_eq (q := 9) (tgt := 12) C dX11_common_6 rfl rfl h (fun h => ?_) (fun h => ?_)
  · refine v_aloadn (q := 13) C dX11_common_12 rfl rfl ?_
    refine u_getI (q := 16) C kl11 fl_X11_91 ob_206 pt_206_11 rfl rfl dX11_common_13 rfl ?_
    refine v_if_ne (q := 19) (tgt := 22) C dX11_common_16 rfl rfl h (fun h => ?_) (fun h => ?_)
    · refine v_bipush (q := 21) C dX11_common_19 rfl (by decide) ?_
      exact u_iret hR dX11_common_21 h
    · refine v_aloadn (q := 23) C dX11_common_22 rfl rfl ?_
      refine u_getR (q := 26) C kl11 fl_X11_77 ob_206 pt_206_8 (by decide) rfl rfl dX11_common_23 rfl ?_
      refine u_cVi0 (q := 29) C (c_X0_commonStart h) sy_X0_commonStart si_X0_commonStart ml_X11_213 ob_204 (by decide) so_X0_commonStart ⟨nb rfl, nb rfl⟩ (nb rfl) dX11_common_26 rfl (fun r4 μ3 h => ?_)
      refine v_istoren (q := 30) C dX11_common_29 rfl (nb rfl) (L' := [some (.inr 206), some (.inl x1), some (.inl r4)]) rfl ?_
      refine v_iloadn (q := 31) C dX11_common_30 rfl rfl ?_
      refine v_bipush (q := 33) C dX11_common_31 rfl (by decide) ?_
      refine v_icmp_ne (q := 36) (tgt := 39) C dX11_common_33 rfl rfl h (fun h => ?_) (fun h => ?_)
      · refine v_bipush (q := 38) C dX11_common_36 rfl (by decide) ?_
        exact u_iret hR dX11_common_38 h
      · refine v_aloadn (q := 40) C dX11_common_39 rfl rfl ?_
        refine u_getR (q := 43) C kl11 fl_X11_87 ob_206 pt_206_10 (by decide) rfl rfl dX11_common_40 rfl ?_
        refine u_cVv0 (q := 46) C (c_X10_empty h) sy_X10_empty si_X10_empty ml_X11_165 ob_178 (by decide) so_X10_empty ⟨nb rfl, nb rfl⟩ (nb rfl) dX11_common_43 rfl (fun μ5 h => ?_)
        refine v_aloadn (q := 47) C dX11_common_46 rfl rfl ?_
        refine u_getR (q := 50) C kl11 fl_X11_87 ob_206 pt_206_10 (by decide) rfl rfl dX11_common_47 rfl ?_
        refine v_aloadn (q := 51) C dX11_common_50 rfl rfl ?_
        refine u_getR (q := 54) C kl11 fl_X11_77 ob_206 pt_206_8 (by decide) rfl rfl dX11_common_51 rfl ?_
        refine u_getR (q := 57) C kl0 fl_X11_144 ob_204 pt_204_0 (by decide) rfl rfl dX11_common_54 rfl ?_
        refine v_iloadn (q := 58) C dX11_common_57 rfl rfl ?_
        refine v_aloadn (q := 59) C dX11_common_58 rfl rfl ?_
        refine u_getR (q := 62) C kl11 fl_X11_77 ob_206 pt_206_8 (by decide) rfl rfl dX11_common_59 rfl ?_
        refine u_getR (q := 65) C kl0 fl_X11_144 ob_204 pt_204_0 (by decide) rfl rfl dX11_common_62 rfl ?_
        refine u_getR (q := 68) C kl10 fl_X11_217 ob_103 pt_103_1 (by decide) rfl rfl dX11_common_65 rfl ?_
        refine v_iloadn (q := 69) C dX11_common_68 rfl rfl ?_
        refine u_iald (q := 70) C ia_105 dX11_common_69 rfl h (fun h => ?_)
        refine u_cVi3 (q := 73) C (c_X10_addRange h) sy_X10_addRange si_X10_addRange ml_X11_220 ob_178 (by decide) so_X10_addRange ⟨nb rfl, nb rfl⟩ (nb rfl) dX11_common_70 rfl (fun r7 μ6 h => ?_)
        refine v_pop (q := 74) C dX11_common_73 rfl ?_
        refine v_aloadn (q := 75) C dX11_common_74 rfl rfl ?_
        refine u_getR (q := 78) C kl11 fl_X11_87 ob_206 pt_206_10 (by decide) rfl rfl dX11_common_75 rfl ?_
        refine v_iloadn (q := 79) C dX11_common_78 rfl rfl ?_
        refine u_cVi1 (q := 82) C (c_X10_symbolOrSize h) sy_X10_symbolOrSize si_X10_symbolOrSize ml_X11_136 ob_178 (by decide) so_X10_symbolOrSize ⟨nb rfl, nb rfl⟩ (nb rfl) dX11_common_79 rfl (fun r9 μ8 h => ?_)
        exact u_iret hR dX11_common_82 h
  · refine v_bipush (q := 11) C dX11_common_9 rfl (by decide) ?_
    exact u_iret hR dX11_common_11 h
theorem c_X11_counter {x1 : Int} {μ : ZM} {K : Int → ZM → Prop} (h : P_X11_counter  x1 μ K) : zMu yX11_counter cX11_counter 2 (some .int) 5 145 [.inr 206, .inl x1] μ (KI K) := by
  refine zMet_of (L0 := [some (.inr 206), some (.inl x1)]) sy_X11_counter rfl (nb rfl) (Nat.le_refl _) (fun X C _ hR _ _ => ?_)
  have C : zC X cX11_counter RX11 2 (some .int) 5 145 274 := C
  refine v_iloadn (q := 1) C dX11_counter_0 rfl rfl ?_
  refine v_iconst (q := 2) C dX11_counter_1 rfl (by decide) ?_
  refine u_cSi2 (q := 5) C (c_X11_isOutside h) sy_X11_isOutside ss_X11_isOutside ml_X11_95 ⟨nb rfl, nb rfl⟩ (nb rfl) dX11_counter_2 rfl (fun r2 μ1 h => ?_)
  refine v_if_eq (q := 8) (tgt := 11) C dX11_counter_5 rfl rfl h (fun h => ?_) (fun h => ?_)
  · refine v_aloadn (q := 12) C dX11_counter_11 rfl rfl ?_
    refine u_getI (q := 15) C kl11 fl_X11_91 ob_206 pt_206_11 rfl rfl dX11_counter_12 rfl ?_
    refine v_if_ne (q := 18) (tgt := 21) C dX11_counter_15 rfl rfl h (fun h => ?_) (fun h => ?_)
    · refine v_bipush (q := 20) C dX11_counter_18 rfl (by decide) ?_
      exact u_iret hR dX11_counter_20 h
    · refine v_aloadn (q := 22) C dX11_counter_21 rfl rfl ?_
      refine u_getR (q := 25) C kl11 fl_X11_28 ob_206 pt_206_2 (by decide) rfl rfl dX11_counter_22 rfl ?_
      refine v_aloadn (q := 26) C dX11_counter_25 rfl rfl ?_
      refine u_getR (q := 29) C kl11 fl_X11_77 ob_206 pt_206_8 (by decide) rfl rfl dX11_counter_26 rfl ?_
      refine u_cVi1 (q := 32) C (c_X2_refutes h) sy_X2_refutes si_X2_refutes ml_X11_181 ob_215 (by decide) so_X2_refutes ⟨nb rfl, nb rfl⟩ (nb rfl) dX11_counter_29 rfl (fun r4 μ3 h => ?_)
      refine v_if_eq (q := 35) (tgt := 47) C dX11_counter_32 rfl rfl h (fun h => ?_) (fun h => ?_)
      · refine v_bipush (q := 49) C dX11_counter_47 rfl (by decide) ?_
        exact u_iret hR dX11_counter_49 h
      · refine v_aloadn (q := 36) C dX11_counter_35 rfl rfl ?_
        refine u_getR (q := 39) C kl11 fl_X11_28 ob_206 pt_206_2 (by decide) rfl rfl dX11_counter_36 rfl ?_
        refine u_getR (q := 42) C kl2 fl_X11_185 ob_215 pt_215_1 (by decide) rfl rfl dX11_counter_39 rfl ?_
        refine v_iloadn (q := 43) C dX11_counter_42 rfl rfl ?_
        refine u_iald (q := 44) C ia_216 dX11_counter_43 rfl h (fun h => ?_)
        refine v_goto (q := 49) C dX11_counter_44 rfl ?_
        exact u_iret hR dX11_counter_49 h
  · refine v_bipush (q := 10) C dX11_counter_8 rfl (by decide) ?_
    exact u_iret hR dX11_counter_10 h
