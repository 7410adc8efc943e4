theorem c_X2_compare {x1 : Int} {x2 : Int} {x3 : Int} {x4 : Int} {μ : ZM} {K : Int → ZM → Prop} (h : P_X2_compare  x1 x2 x3 x4 μ K) : zMu yX2_compare cX2_compare 7 (some .int) 3 92 [.inr 215, .inr x1, .inl x2, .inl x3, .inl x4] μ (KI K) := by
  refine zMet_of (L0 := [some (.inr 215), some (.inr x1), some (.inl x2), some (.inl x3), some (.inl x4), none, none]) sy_X2_compare rfl (nb rfl) (Nat.le_refl _) (fun X C _ hR _ _ => ?_)
  have C : zC X cX2_compare RX2 7 (some .int) 3 92 274 := C
  have hx1 := h.1
  replace h := h.2
  refine v_aloadn (q := 1) C dX2_compare_0 rfl rfl ?_
  refine v_aloadn (q := 2) C dX2_compare_1 rfl rfl ?_
  refine u_getR (v := 6 * (x1 - 187) + 1) (q := 5) C kl0 fl_X2_47 (ob_cm hx1) (pt_left hx1) (by omega) rfl rfl dX2_compare_2 rfl ?_
  refine v_iloadn (q := 6) C dX2_compare_5 rfl rfl ?_
  refine v_iloadn (q := 7) C dX2_compare_6 rfl rfl ?_
  refine v_iload (q := 9) C dX2_compare_7 rfl rfl ?_
  refine u_cVi4 (q := 12) C (c_X2_valueOf h) sy_X2_valueOf si_X2_valueOf ml_X2_51 ob_215 (by decide) so_X2_valueOf ⟨nb rfl, nb rfl⟩ (nb rfl) dX2_compare_9 rfl (fun r2 μ1 h => ?_)
  refine v_istore (q := 14) C dX2_compare_12 rfl (nb rfl) (L' := [some (.inr 215), some (.inr x1), some (.inl x2), some (.inl x3), some (.inl x4), some (.inl r2), none]) rfl ?_
  refine v_iload (q := 16) C dX2_compare_14 rfl rfl ?_
  refine v_bipush (q := 18) C dX2_compare_16 rfl (by decide) ?_
  refine v_icmp_ne (q := 21) (tgt := 24) C dX2_compare_18 rfl rfl h (fun h => ?_) (fun h => ?_)
  · refine v_bipush (q := 23) C dX2_compare_21 rfl (by decide) ?_
    exact u_iret hR dX2_compare_23 h
  · refine v_aloadn (q := 25) C dX2_compare_24 rfl rfl ?_
    refine v_aloadn (q := 26) C dX2_compare_25 rfl rfl ?_
    refine u_getR (v := 6 * (x1 - 187) + 4) (q := 29) C kl0 fl_X2_55 (ob_cm hx1) (pt_right hx1) (by omega) rfl rfl dX2_compare_26 rfl ?_
    refine v_iloadn (q := 30) C dX2_compare_29 rfl rfl ?_
    refine v_iloadn (q := 31) C dX2_compare_30 rfl rfl ?_
    refine v_iload (q := 33) C dX2_compare_31 rfl rfl ?_
    refine u_cVi4 (q := 36) C (c_X2_valueOf h) sy_X2_valueOf si_X2_valueOf ml_X2_51 ob_215 (by decide) so_X2_valueOf ⟨nb rfl, nb rfl⟩ (nb rfl) dX2_compare_33 rfl (fun r4 μ3 h => ?_)
    refine v_istore (q := 38) C dX2_compare_36 rfl (nb rfl) (L' := [some (.inr 215), some (.inr x1), some (.inl x2), some (.inl x3), some (.inl x4), some (.inl r2), some (.inl r4)]) rfl ?_
    refine v_iload (q := 40) C dX2_compare_38 rfl rfl ?_
    refine v_bipush (q := 42) C dX2_compare_40 rfl (by decide) ?_
    refine v_icmp_ne (q := 45) (tgt := 48) C dX2_compare_42 rfl rfl h (fun h => ?_) (fun h => ?_)
    · refine v_bipush (q := 47) C dX2_compare_45 rfl (by decide) ?_
      exact u_iret hR dX2_compare_47 h
    · refine v_iload (q := 50) C dX2_compare_48 rfl rfl ?_
      refine v_iload (q := 52) C dX2_compare_50 rfl rfl ?_
      refine v_icmp_ne (q := 55) (tgt := 59) C dX2_compare_52 rfl rfl h (fun h => ?_) (fun h => ?_)
      · refine v_iconst (q := 56) C dX2_compare_55 rfl (by decide) ?_
        refine v_goto (q := 60) C dX2_compare_56 rfl ?_
        exact u_iret hR dX2_compare_60 h
      · refine v_iconst (q := 60) C dX2_compare_59 rfl (by decide) ?_
        exact u_iret hR dX2_compare_60 h
theorem w_X2_countTriples_146 {X : ZX} (C : zC X cX2_countTriples RX2 10 (some .int) 4 118 274) {K : Int → ZM → Prop} (hR : zRi X cX2_countTriples (some .int) 274 (KN (KI K)))  {x5 : Int} {x7 : Int} {s0 : Int} {s1 : Int} {μ : ZM}   (h : P_X2_countTriples_146   x5 x7 s0 s1 μ K) : zV X 146 [none, none, none, none, none, some (.inl x5), none, some (.inl x7), none, none] [.inl s1, .inl s0] 274 (z_ov μ) := by
  refine u_imul (q := 147) C dX2_countTriples_146 rfl h (fun h => ?_)
  refine v_iload (q := 149) C dX2_countTriples_147 rfl rfl ?_
  refine v_if_ne (q := 152) (tgt := 157) C dX2_countTriples_149 rfl rfl h (fun h => ?_) (fun h => ?_)
  · refine v_iload (q := 154) C dX2_countTriples_152 rfl rfl ?_
    refine v_goto (q := 158) C dX2_countTriples_154 rfl ?_
    refine u_imul (q := 159) C dX2_countTriples_158 rfl h (fun h => ?_)
    exact u_iret hR dX2_countTriples_159 h
  · refine v_iconst (q := 158) C dX2_countTriples_157 rfl (by decide) ?_
    refine u_imul (q := 159) C dX2_countTriples_158 rfl h (fun h => ?_)
    exact u_iret hR dX2_countTriples_159 h
theorem w_X2_countTriples_134 {X : ZX} (C : zC X cX2_countTriples RX2 10 (some .int) 4 118 274) {K : Int → ZM → Prop} (hR : zRi X cX2_countTriples (some .int) 274 (KN (KI K)))  {x4 : Int} {x5 : Int} {x7 : Int} {s0 : Int} {s1 : Int} {μ : ZM}   (h : P_X2_countTriples_134   x4 x5 x7 s0 s1 μ K) : zV X 134 [none, none, none, none, some (.inl x4), some (.inl x5), none, some (.inl x7), none, none] [.inl s1, .inl s0] 274 (z_ov μ) := by
  refine u_imul (q := 135) C dX2_countTriples_134 rfl h (fun h => ?_)
  refine v_iload (q := 137) C dX2_countTriples_135 rfl rfl ?_
  refine v_if_ne (q := 140) (tgt := 145) C dX2_countTriples_137 rfl rfl h (fun h => ?_) (fun h => ?_)
  · refine v_iload (q := 142) C dX2_countTriples_140 rfl rfl ?_
    refine v_goto (q := 146) C dX2_countTriples_142 rfl ?_
    exact v_mask [false, false, false, false, false, true, false, true, false, false] rfl (w_X2_countTriples_146  C hR   h)
  · refine v_iconst (q := 146) C dX2_countTriples_145 rfl (by decide) ?_
    exact v_mask [false, false, false, false, false, true, false, true, false, false] rfl (w_X2_countTriples_146  C hR   h)
theorem w_X2_countTriples_98 {X : ZX} (C : zC X cX2_countTriples RX2 10 (some .int) 4 118 274) {K : Int → ZM → Prop} (hR : zRi X cX2_countTriples (some .int) 274 (KN (KI K)))  {x1 : Int} {x2 : Int} {x3 : Int} {x4 : Int} {x5 : Int} {x7 : Int} {x8 : Int} {x9 : Int} {s0 : Int} {s1 : Int} {μ : ZM} {G50 : Int → Int → ZM → Prop} (hG50 : ∀ (x6 x7 : Int) (μ : ZM), G50 x6 x7 μ → zV X 50 [some (.inr 215), some (.inr x1), some (.inl x2), some (.inl x3), some (.inl x4), some (.inl x5), some (.inl x6), some (.inl x7), none, none] [] 274 (z_ov μ)) {G59 : Int → Int → ZM → Prop} (hG59 : ∀ (x6 x8 : Int) (μ : ZM), G59 x6 x8 μ → zV X 59 [some (.inr 215), some (.inr x1), some (.inl x2), some (.inl x3), some (.inl x4), some (.inl x5), some (.inl x6), some (.inl x7), some (.inl x8), none] [] 274 (z_ov μ)) {G69 : Int → Int → ZM → Prop} (hG69 : ∀ (x6 x9 : Int) (μ : ZM), G69 x6 x9 μ → zV X 69 [some (.inr 215), some (.inr x1), some (.inl x2), some (.inl x3), some (.inl x4), some (.inl x5), some (.inl x6), some (.inl x7), some (.inl x8), some (.inl x9)] [] 274 (z_ov μ)) (hx1 : z_cm x1) (h : P_X2_countTriples_98  G50 G59 G69 x1 x2 x3 x4 x5 x7 x8 x9 s0 s1 μ K) : zV X 98 [some (.inr 215), some (.inr x1), some (.inl x2), some (.inl x3), some (.inl x4), some (.inl x5), none, some (.inl x7), some (.inl x8), some (.inl x9)] [.inl s1, .inl s0] 274 (z_ov μ) := by
  refine u_iadd (q := 99) C dX2_countTriples_98 rfl h (fun h => ?_)
  refine v_istore (q := 101) C dX2_countTriples_99 rfl (nb rfl) (L' := [some (.inr 215), some (.inr x1), some (.inl x2), some (.inl x3), some (.inl x4), some (.inl x5), some (.inl (s0 + s1)), some (.inl x7), some (.inl x8), some (.inl x9)]) rfl ?_
  refine u_iinc (q := 104) C dX2_countTriples_101 rfl (nb rfl) rfl (L' := [some (.inr 215), some (.inr x1), some (.inl x2), some (.inl x3), some (.inl x4), some (.inl x5), some (.inl (s0 + s1)), some (.inl x7), some (.inl x8), some (.inl (x9 + 1))]) rfl h (fun h => ?_)
  refine v_goto (q := 69) C dX2_countTriples_104 rfl ?_
  exact (hG69 _ _ _ h)
theorem w_X2_countTriples_69 {X : ZX} (C : zC X cX2_countTriples RX2 10 (some .int) 4 118 274) {K : Int → ZM → Prop} (hR : zRi X cX2_countTriples (some .int) 274 (KN (KI K)))  {x1 : Int} {x2 : Int} {x3 : Int} {x4 : Int} {x5 : Int} {x6 : Int} {x7 : Int} {x8 : Int} {x9 : Int} {μ : ZM} {G50 : Int → Int → ZM → Prop} (hG50 : ∀ (x6 x7 : Int) (μ : ZM), G50 x6 x7 μ → zV X 50 [some (.inr 215), some (.inr x1), some (.inl x2), some (.inl x3), some (.inl x4), some (.inl x5), some (.inl x6), some (.inl x7), none, none] [] 274 (z_ov μ)) {G59 : Int → Int → ZM → Prop} (hG59 : ∀ (x6 x8 : Int) (μ : ZM), G59 x6 x8 μ → zV X 59 [some (.inr 215), some (.inr x1), some (.inl x2), some (.inl x3), some (.inl x4), some (.inl x5), some (.inl x6), some (.inl x7), some (.inl x8), none] [] 274 (z_ov μ)) (hx1 : z_cm x1) (h : P_X2_countTriples_69  G50 G59 x1 x2 x3 x4 x5 x7 x8 x6 x9 μ K) : zV X 69 [some (.inr 215), some (.inr x1), some (.inl x2), some (.inl x3), some (.inl x4), some (.inl x5), some (.inl x6), some (.inl x7), some (.inl x8), some (.inl x9)] [] 274 (z_ov μ) := by
  refine h (fun x6 x9 μ => zV X 69 [some (.inr 215), some (.inr x1), some (.inl x2), some (.inl x3), some (.inl x4), some (.inl x5), some (.inl x6), some (.inl x7), some (.inl x8), some (.inl x9)] [] 274 (z_ov μ)) (fun x6 x9 μ h => ?_)
  refine v_iload (q := 71) C dX2_countTriples_69 rfl rfl ?_
  refine v_iload (q := 73) C dX2_countTriples_71 rfl rfl ?_
  refine v_icmp_gt (q := 76) (tgt := 107) C dX2_countTriples_73 rfl rfl h (fun h => ?_) (fun h => ?_)
  · refine u_iinc (q := 110) C dX2_countTriples_107 rfl (nb rfl) rfl (L' := [some (.inr 215), some (.inr x1), some (.inl x2), some (.inl x3), some (.inl x4), some (.inl x5), some (.inl x6), some (.inl x7), some (.inl (x8 + 1)), some (.inl x9)]) rfl h (fun h => ?_)
    refine v_goto (q := 59) C dX2_countTriples_110 rfl ?_
    exact v_mask [true, true, true, true, true, true, true, true, true, false] rfl (hG59 _ _ _ h)
  · refine v_iload (q := 78) C dX2_countTriples_76 rfl rfl ?_
    refine v_aloadn (q := 79) C dX2_countTriples_78 rfl rfl ?_
    refine v_aloadn (q := 80) C dX2_countTriples_79 rfl rfl ?_
    refine v_iload (q := 82) C dX2_countTriples_80 rfl rfl ?_
    refine v_iload (q := 84) C dX2_countTriples_82 rfl rfl ?_
    refine v_iload (q := 86) C dX2_countTriples_84 rfl rfl ?_
    refine u_cVi4 (q := 89) C (c_X2_compare h) sy_X2_compare si_X2_compare ml_X2_43 ob_215 (by decide) so_X2_compare ⟨nb rfl, nb rfl⟩ (nb rfl) dX2_countTriples_86 rfl (fun r8 μ7 h => ?_)
    refine v_iloadn (q := 90) C dX2_countTriples_89 rfl rfl ?_
    refine v_icmp_ne (q := 93) (tgt := 97) C dX2_countTriples_90 rfl rfl h (fun h => ?_) (fun h => ?_)
    · refine v_iconst (q := 94) C dX2_countTriples_93 rfl (by decide) ?_
      refine v_goto (q := 98) C dX2_countTriples_94 rfl ?_
      exact v_mask [true, true, true, true, true, true, false, true, true, true] rfl (w_X2_countTriples_98  C hR hG50 hG59 (fun _ _ _ h => h) hx1 h)
    · refine v_iconst (q := 98) C dX2_countTriples_97 rfl (by decide) ?_
      exact v_mask [true, true, true, true, true, true, false, true, true, true] rfl (w_X2_countTriples_98  C hR hG50 hG59 (fun _ _ _ h => h) hx1 h)
theorem w_X2_countTriples_59 {X : ZX} (C : zC X cX2_countTriples RX2 10 (some .int) 4 118 274) {K : Int → ZM → Prop} (hR : zRi X cX2_countTriples (some .int) 274 (KN (KI K)))  {x1 : Int} {x2 : Int} {x3 : Int} {x4 : Int} {x5 : Int} {x6 : Int} {x7 : Int} {x8 : Int} {μ : ZM} {G50 : Int → Int → ZM → Prop} (hG50 : ∀ (x6 x7 : Int) (μ : ZM), G50 x6 x7 μ → zV X 50 [some (.inr 215), some (.inr x1), some (.inl x2), some (.inl x3), some (.inl x4), some (.inl x5), some (.inl x6), some (.inl x7), none, none] [] 274 (z_ov μ)) (hx1 : z_cm x1) (h : P_X2_countTriples_59  G50 x1 x2 x3 x4 x5 x7 x6 x8 μ K) : zV X 59 [some (.inr 215), some (.inr x1), some (.inl x2), some (.inl x3), some (.inl x4), some (.inl x5), some (.inl x6), some (.inl x7), some (.inl x8), none] [] 274 (z_ov μ) := by
  refine h (fun x6 x8 μ => zV X 59 [some (.inr 215), some (.inr x1), some (.inl x2), some (.inl x3), some (.inl x4), some (.inl x5), some (.inl x6), some (.inl x7), some (.inl x8), none] [] 274 (z_ov μ)) (fun x6 x8 μ h => ?_)
  refine v_iload (q := 61) C dX2_countTriples_59 rfl rfl ?_
  refine v_iload (q := 63) C dX2_countTriples_61 rfl rfl ?_
  refine v_icmp_gt (q := 66) (tgt := 113) C dX2_countTriples_63 rfl rfl h (fun h => ?_) (fun h => ?_)
  · refine u_iinc (q := 116) C dX2_countTriples_113 rfl (nb rfl) rfl (L' := [some (.inr 215), some (.inr x1), some (.inl x2), some (.inl x3), some (.inl x4), some (.inl x5), some (.inl x6), some (.inl (x7 + 1)), some (.inl x8), none]) rfl h (fun h => ?_)
    refine v_goto (q := 50) C dX2_countTriples_116 rfl ?_
    exact v_mask [true, true, true, true, true, true, true, true, false, false] rfl (hG50 _ _ _ h)
  · refine v_iconst (q := 67) C dX2_countTriples_66 rfl (by decide) ?_
    refine v_istore (q := 69) C dX2_countTriples_67 rfl (nb rfl) (L' := [some (.inr 215), some (.inr x1), some (.inl x2), some (.inl x3), some (.inl x4), some (.inl x5), some (.inl x6), some (.inl x7), some (.inl x8), some (.inl 0)]) rfl ?_
    exact (w_X2_countTriples_69  C hR hG50 (fun _ _ _ h => h) hx1 h)
theorem w_X2_countTriples_50 {X : ZX} (C : zC X cX2_countTriples RX2 10 (some .int) 4 118 274) {K : Int → ZM → Prop} (hR : zRi X cX2_countTriples (some .int) 274 (KN (KI K)))  {x1 : Int} {x2 : Int} {x3 : Int} {x4 : Int} {x5 : Int} {x6 : Int} {x7 : Int} {μ : ZM}  (hx1 : z_cm x1) (h : P_X2_countTriples_50   x1 x2 x3 x4 x5 x6 x7 μ K) : zV X 50 [some (.inr 215), some (.inr x1), some (.inl x2), some (.inl x3), some (.inl x4), some (.inl x5), some (.inl x6), some (.inl x7), none, none] [] 274 (z_ov μ) := by
  refine h (fun x6 x7 μ => zV X 50 [some (.inr 215), some (.inr x1), some (.inl x2), some (.inl x3), some (.inl x4), some (.inl x5), some (.inl x6), some (.inl x7), none, none] [] 274 (z_ov μ)) (fun x6 x7 μ h => ?_)
  refine v_iload (q := 52) C dX2_countTriples_50 rfl rfl ?_
  refine v_iloadn (q := 53) C dX2_countTriples_52 rfl rfl ?_
  refine v_icmp_gt (q := 56) (tgt := 119) C dX2_countTriples_53 rfl rfl h (fun h => ?_) (fun h => ?_)
  · refine v_iconst (q := 120) C dX2_countTriples_119 rfl (by decide) ?_
    refine v_istore (q := 122) C dX2_countTriples_120 rfl (nb rfl) (L' := [some (.inr 215), some (.inr x1), some (.inl x2), some (.inl x3), some (.inl x4), some (.inl x5), some (.inl x6), some (.inl 4), none, none]) rfl ?_
    refine v_iload (q := 124) C dX2_countTriples_122 rfl rfl ?_
    refine v_iloadn (q := 125) C dX2_countTriples_124 rfl rfl ?_
    refine v_if_ne (q := 128) (tgt := 133) C dX2_countTriples_125 rfl rfl h (fun h => ?_) (fun h => ?_)
    · refine v_iload (q := 130) C dX2_countTriples_128 rfl rfl ?_
      refine v_goto (q := 134) C dX2_countTriples_130 rfl ?_
      exact v_mask [false, false, false, false, true, true, false, true, false, false] rfl (w_X2_countTriples_134  C hR   h)
    · refine v_iconst (q := 134) C dX2_countTriples_133 rfl (by decide) ?_
      exact v_mask [false, false, false, false, true, true, false, true, false, false] rfl (w_X2_countTriples_134  C hR   h)
  · refine v_iconst (q := 57) C dX2_countTriples_56 rfl (by decide) ?_
    refine v_istore (q := 59) C dX2_countTriples_57 rfl (nb rfl) (L' := [some (.inr 215), some (.inr x1), some (.inl x2), some (.inl x3), some (.inl x4), some (.inl x5), some (.inl x6), some (.inl x7), some (.inl 0), none]) rfl ?_
    exact (w_X2_countTriples_59  C hR (fun _ _ _ h => h) hx1 h)
theorem w_X2_countTriples_42 {X : ZX} (C : zC X cX2_countTriples RX2 10 (some .int) 4 118 274) {K : Int → ZM → Prop} (hR : zRi X cX2_countTriples (some .int) 274 (KN (KI K)))  {x1 : Int} {x2 : Int} {x3 : Int} {x4 : Int} {s0 : Int} {μ : ZM}  (hx1 : z_cm x1) (h : P_X2_countTriples_42   x1 x2 x3 x4 s0 μ K) : zV X 42 [some (.inr 215), some (.inr x1), some (.inl x2), some (.inl x3), some (.inl x4), none, none, none, none, none] [.inl s0] 274 (z_ov μ) := by
  refine v_istore (q := 44) C dX2_countTriples_42 rfl (nb rfl) (L' := [some (.inr 215), some (.inr x1), some (.inl x2), some (.inl x3), some (.inl x4), some (.inl s0), none, none, none, none]) rfl ?_
  refine v_iconst (q := 45) C dX2_countTriples_44 rfl (by decide) ?_
  refine v_istore (q := 47) C dX2_countTriples_45 rfl (nb rfl) (L' := [some (.inr 215), some (.inr x1), some (.inl x2), some (.inl x3), some (.inl x4), some (.inl s0), some (.inl 0), none, none, none]) rfl ?_
  refine v_iconst (q := 48) C dX2_countTriples_47 rfl (by decide) ?_
  refine v_istore (q := 50) C dX2_countTriples_48 rfl (nb rfl) (L' := [some (.inr 215), some (.inr x1), some (.inl x2), some (.inl x3), some (.inl x4), some (.inl s0), some (.inl 0), some (.inl 0), none, none]) rfl ?_
  exact (w_X2_countTriples_50  C hR  hx1 h)
theorem w_X2_countTriples_27 {X : ZX} (C : zC X cX2_countTriples RX2 10 (some .int) 4 118 274) {K : Int → ZM → Prop} (hR : zRi X cX2_countTriples (some .int) 274 (KN (KI K)))  {x1 : Int} {x2 : Int} {x3 : Int} {s0 : Int} {μ : ZM}  (hx1 : z_cm x1) (h : P_X2_countTriples_27   x1 x2 x3 s0 μ K) : zV X 27 [some (.inr 215), some (.inr x1), some (.inl x2), some (.inl x3), none, none, none, none, none, none] [.inl s0] 274 (z_ov μ) := by
  refine v_istore (q := 29) C dX2_countTriples_27 rfl (nb rfl) (L' := [some (.inr 215), some (.inr x1), some (.inl x2), some (.inl x3), some (.inl s0), none, none, none, none, none]) rfl ?_
  refine v_aloadn (q := 30) C dX2_countTriples_29 rfl rfl ?_
  refine v_iconst (q := 31) C dX2_countTriples_30 rfl (by decide) ?_
  refine u_cVi1 (q := 34) C (c_X0_has h) sy_X0_has si_X0_has ml_X2_37 (ob_cm hx1) (by decide) so_X0_has ⟨nb rfl, nb rfl⟩ (nb rfl) dX2_countTriples_31 rfl (fun r6 μ5 h => ?_)
  refine v_if_eq (q := 37) (tgt := 41) C dX2_countTriples_34 rfl rfl h (fun h => ?_) (fun h => ?_)
  · refine v_iconst (q := 42) C dX2_countTriples_41 rfl (by decide) ?_
    exact (w_X2_countTriples_42  C hR  hx1 h)
  · refine v_iconst (q := 38) C dX2_countTriples_37 rfl (by decide) ?_
    refine v_goto (q := 42) C dX2_countTriples_38 rfl ?_
    exact (w_X2_countTriples_42  C hR  hx1 h)
theorem w_X2_countTriples_13 {X : ZX} (C : zC X cX2_countTriples RX2 10 (some .int) 4 118 274) {K : Int → ZM → Prop} (hR : zRi X cX2_countTriples (some .int) 274 (KN (KI K)))  {x1 : Int} {x2 : Int} {s0 : Int} {μ : ZM}  (hx1 : z_cm x1) (h : P_X2_countTriples_13   x1 x2 s0 μ K) : zV X 13 [some (.inr 215), some (.inr x1), some (.inl x2), none, none, none, none, none, none, none] [.inl s0] 274 (z_ov μ) := by
  refine v_istoren (q := 14) C dX2_countTriples_13 rfl (nb rfl) (L' := [some (.inr 215), some (.inr x1), some (.inl x2), some (.inl s0), none, none, none, none, none, none]) rfl ?_
  refine v_aloadn (q := 15) C dX2_countTriples_14 rfl rfl ?_
  refine v_iconst (q := 16) C dX2_countTriples_15 rfl (by decide) ?_
  refine u_cVi1 (q := 19) C (c_X0_has h) sy_X0_has si_X0_has ml_X2_37 (ob_cm hx1) (by decide) so_X0_has ⟨nb rfl, nb rfl⟩ (nb rfl) dX2_countTriples_16 rfl (fun r4 μ3 h => ?_)
  refine v_if_eq (q := 22) (tgt := 26) C dX2_countTriples_19 rfl rfl h (fun h => ?_) (fun h => ?_)
  · refine v_iconst (q := 27) C dX2_countTriples_26 rfl (by decide) ?_
    exact (w_X2_countTriples_27  C hR  hx1 h)
  · refine v_iconst (q := 23) C dX2_countTriples_22 rfl (by decide) ?_
    refine v_goto (q := 27) C dX2_countTriples_23 rfl ?_
    exact (w_X2_countTriples_27  C hR  hx1 h)
theorem c_X2_countTriples {x1 : Int} {x2 : Int} {μ : ZM} {K : Int → ZM → Prop} (h : P_X2_countTriples  x1 x2 μ K) : zMu yX2_countTriples cX2_countTriples 10 (some .int) 4 118 [.inr 215, .inr x1, .inl x2] μ (KI K) := by
  refine zMet_of (L0 := [some (.inr 215), some (.inr x1), some (.inl x2), none, none, none, none, none, none, none]) sy_X2_countTriples rfl (nb rfl) (Nat.le_refl _) (fun X C _ hR _ _ => ?_)
  have C : zC X cX2_countTriples RX2 10 (some .int) 4 118 274 := C
  have hx1 := h.1
  replace h := h.2
  refine v_aloadn (q := 1) C dX2_countTriples_0 rfl rfl ?_
  refine v_iconst (q := 2) C dX2_countTriples_1 rfl (by decide) ?_
  refine u_cVi1 (q := 5) C (c_X0_has h) sy_X0_has si_X0_has ml_X2_37 (ob_cm hx1) (by decide) so_X0_has ⟨nb rfl, nb rfl⟩ (nb rfl) dX2_countTriples_2 rfl (fun r2 μ1 h => ?_)
  refine v_if_eq (q := 8) (tgt := 12) C dX2_countTriples_5 rfl rfl h (fun h => ?_) (fun h => ?_)
  · refine v_iconst (q := 13) C dX2_countTriples_12 rfl (by decide) ?_
    exact (w_X2_countTriples_13  C hR  hx1 h)
  · refine v_iconst (q := 9) C dX2_countTriples_8 rfl (by decide) ?_
    refine v_goto (q := 13) C dX2_countTriples_9 rfl ?_
    exact (w_X2_countTriples_13  C hR  hx1 h)
theorem w_X2_refutes_64 {X : ZX} (C : zC X cX2_refutes RX2 8 (some .boolean) 4 118 274) {K : Int → ZM → Prop} (hR : zRi X cX2_refutes (some .boolean) 274 (KN (KI K)))  {x1 : Int} {x2 : Int} {x3 : Int} {x4 : Int} {x5 : Int} {x6 : Int} {x7 : Int} {μ : ZM} {G46 : Int → ZM → Prop} (hG46 : ∀ (x5 : Int) (μ : ZM), G46 x5 μ → zV X 46 [some (.inr 215), some (.inr x1), some (.inl x2), some (.inl x3), some (.inl x4), some (.inl x5), none, none] [] 274 (z_ov μ)) {G55 : Int → ZM → Prop} (hG55 : ∀ (x6 : Int) (μ : ZM), G55 x6 μ → zV X 55 [some (.inr 215), some (.inr x1), some (.inl x2), some (.inl x3), some (.inl x4), some (.inl x5), some (.inl x6), none] [] 274 (z_ov μ)) (hx1 : z_cm x1) (h : P_X2_refutes_64  G46 G55 x1 x2 x3 x4 x5 x6 x7 μ K) : zV X 64 [some (.inr 215), some (.inr x1), some (.inl x2), some (.inl x3), some (.inl x4), some (.inl x5), some (.inl x6), some (.inl x7)] [] 274 (z_ov μ) := by
  refine h (fun x7 μ => zV X 64 [some (.inr 215), some (.inr x1), some (.inl x2), some (.inl x3), some (.inl x4), some (.inl x5), some (.inl x6), some (.inl x7)] [] 274 (z_ov μ)) (fun x7 μ h => ?_)
  refine v_iload (q := 66) C dX2_refutes_64 rfl rfl ?_
  refine v_iload (q := 68) C dX2_refutes_66 rfl rfl ?_
  refine v_icmp_gt (q := 71) (tgt := 117) C dX2_refutes_68 rfl rfl h (fun h => ?_) (fun h => ?_)
  · refine u_iinc (q := 120) C dX2_refutes_117 rfl (nb rfl) rfl (L' := [some (.inr 215), some (.inr x1), some (.inl x2), some (.inl x3), some (.inl x4), some (.inl x5), some (.inl (x6 + 1)), some (.inl x7)]) rfl h (fun h => ?_)
    refine v_goto (q := 55) C dX2_refutes_120 rfl ?_
    exact v_mask [true, true, true, true, true, true, true, false] rfl (hG55 _ _ h)
  · refine v_aloadn (q := 72) C dX2_refutes_71 rfl rfl ?_
    refine v_aloadn (q := 73) C dX2_refutes_72 rfl rfl ?_
    refine v_iload (q := 75) C dX2_refutes_73 rfl rfl ?_
    refine v_iload (q := 77) C dX2_refutes_75 rfl rfl ?_
    refine v_iload (q := 79) C dX2_refutes_77 rfl rfl ?_
    refine u_cVi4 (q := 82) C (c_X2_compare h) sy_X2_compare si_X2_compare ml_X2_43 ob_215 (by decide) so_X2_compare ⟨nb rfl, nb rfl⟩ (nb rfl) dX2_refutes_79 rfl (fun r8 μ7 h => ?_)
    refine v_if_ne (q := 85) (tgt := 111) C dX2_refutes_82 rfl rfl h (fun h => ?_) (fun h => ?_)
    · refine v_aloadn (q := 86) C dX2_refutes_85 rfl rfl ?_
      refine u_getR (q := 89) C kl2 fl_X2_11 ob_215 pt_215_1 (by decide) rfl rfl dX2_refutes_86 rfl ?_
      refine v_iconst (q := 90) C dX2_refutes_89 rfl (by decide) ?_
      refine v_iload (q := 92) C dX2_refutes_90 rfl rfl ?_
      refine u_iast (q := 93) C ia_216 dX2_refutes_92 rfl h (fun μ9 h => ?_)
      refine v_aloadn (q := 94) C dX2_refutes_93 rfl rfl ?_
      refine u_getR (q := 97) C kl2 fl_X2_11 ob_215 pt_215_1 (by decide) rfl rfl dX2_refutes_94 rfl ?_
      refine v_iconst (q := 98) C dX2_refutes_97 rfl (by decide) ?_
      refine v_iload (q := 100) C dX2_refutes_98 rfl rfl ?_
      refine u_iast (q := 101) C ia_216 dX2_refutes_100 rfl h (fun μ10 h => ?_)
      refine v_aloadn (q := 102) C dX2_refutes_101 rfl rfl ?_
      refine u_getR (q := 105) C kl2 fl_X2_11 ob_215 pt_215_1 (by decide) rfl rfl dX2_refutes_102 rfl ?_
      refine v_iconst (q := 106) C dX2_refutes_105 rfl (by decide) ?_
      refine v_iload (q := 108) C dX2_refutes_106 rfl rfl ?_
      refine u_iast (q := 109) C ia_216 dX2_refutes_108 rfl h (fun μ11 h => ?_)
      refine v_iconst (q := 110) C dX2_refutes_109 rfl (by decide) ?_
      exact u_zret hR dX2_refutes_110 h
    · refine u_iinc (q := 114) C dX2_refutes_111 rfl (nb rfl) rfl (L' := [some (.inr 215), some (.inr x1), some (.inl x2), some (.inl x3), some (.inl x4), some (.inl x5), some (.inl x6), some (.inl (x7 + 1))]) rfl h (fun h => ?_)
      refine v_goto (q := 64) C dX2_refutes_114 rfl ?_
      exact h
theorem w_X2_refutes_55 {X : ZX} (C : zC X cX2_refutes RX2 8 (some .boolean) 4 118 274) {K : Int → ZM → Prop} (hR : zRi X cX2_refutes (some .boolean) 274 (KN (KI K)))  {x1 : Int} {x2 : Int} {x3 : Int} {x4 : Int} {x5 : Int} {x6 : Int} {μ : ZM} {G46 : Int → ZM → Prop} (hG46 : ∀ (x5 : Int) (μ : ZM), G46 x5 μ → zV X 46 [some (.inr 215), some (.inr x1), some (.inl x2), some (.inl x3), some (.inl x4), some (.inl x5), none, none] [] 274 (z_ov μ)) (hx1 : z_cm x1) (h : P_X2_refutes_55  G46 x1 x2 x3 x4 x5 x6 μ K) : zV X 55 [some (.inr 215), some (.inr x1), some (.inl x2), some (.inl x3), some (.inl x4), some (.inl x5), some (.inl x6), none] [] 274 (z_ov μ) := by
  refine h (fun x6 μ => zV X 55 [some (.inr 215), some (.inr x1), some (.inl x2), some (.inl x3), some (.inl x4), some (.inl x5), some (.inl x6), none] [] 274 (z_ov μ)) (fun x6 μ h => ?_)
  refine v_iload (q := 57) C dX2_refutes_55 rfl rfl ?_
  refine v_iloadn (q := 58) C dX2_refutes_57 rfl rfl ?_
  refine v_icmp_gt (q := 61) (tgt := 123) C dX2_refutes_58 rfl rfl h (fun h => ?_) (fun h => ?_)
  · refine u_iinc (q := 126) C dX2_refutes_123 rfl (nb rfl) rfl (L' := [some (.inr 215), some (.inr x1), some (.inl x2), some (.inl x3), some (.inl x4), some (.inl (x5 + 1)), some (.inl x6), none]) rfl h (fun h => ?_)
    refine v_goto (q := 46) C dX2_refutes_126 rfl ?_
    exact v_mask [true, true, true, true, true, true, false, false] rfl (hG46 _ _ h)
  · refine v_iconst (q := 62) C dX2_refutes_61 rfl (by decide) ?_
    refine v_istore (q := 64) C dX2_refutes_62 rfl (nb rfl) (L' := [some (.inr 215), some (.inr x1), some (.inl x2), some (.inl x3), some (.inl x4), some (.inl x5), some (.inl x6), some (.inl 0)]) rfl ?_
    exact (w_X2_refutes_64  C hR hG46 (fun _ _ h => h) hx1 h)
theorem w_X2_refutes_46 {X : ZX} (C : zC X cX2_refutes RX2 8 (some .boolean) 4 118 274) {K : Int → ZM → Prop} (hR : zRi X cX2_refutes (some .boolean) 274 (KN (KI K)))  {x1 : Int} {x2 : Int} {x3 : Int} {x4 : Int} {x5 : Int} {μ : ZM}  (hx1 : z_cm x1) (h : P_X2_refutes_46   x1 x2 x3 x4 x5 μ K) : zV X 46 [some (.inr 215), some (.inr x1), some (.inl x2), some (.inl x3), some (.inl x4), some (.inl x5), none, none] [] 274 (z_ov μ) := by
  refine h (fun x5 μ => zV X 46 [some (.inr 215), some (.inr x1), some (.inl x2), some (.inl x3), some (.inl x4), some (.inl x5), none, none] [] 274 (z_ov μ)) (fun x5 μ h => ?_)
  refine v_iload (q := 48) C dX2_refutes_46 rfl rfl ?_
  refine v_iloadn (q := 49) C dX2_refutes_48 rfl rfl ?_
  refine v_icmp_gt (q := 52) (tgt := 129) C dX2_refutes_49 rfl rfl h (fun h => ?_) (fun h => ?_)
  · refine v_iconst (q := 130) C dX2_refutes_129 rfl (by decide) ?_
    exact u_zret hR dX2_refutes_130 h
  · refine v_iconst (q := 53) C dX2_refutes_52 rfl (by decide) ?_
    refine v_istore (q := 55) C dX2_refutes_53 rfl (nb rfl) (L' := [some (.inr 215), some (.inr x1), some (.inl x2), some (.inl x3), some (.inl x4), some (.inl x5), some (.inl 0), none]) rfl ?_
    exact (w_X2_refutes_55  C hR (fun _ _ h => h) hx1 h)
theorem w_X2_refutes_41 {X : ZX} (C : zC X cX2_refutes RX2 8 (some .boolean) 4 118 274) {K : Int → ZM → Prop} (hR : zRi X cX2_refutes (some .boolean) 274 (KN (KI K)))  {x1 : Int} {x2 : Int} {x3 : Int} {s0 : Int} {μ : ZM}  (hx1 : z_cm x1) (h : P_X2_refutes_41   x1 x2 x3 s0 μ K) : zV X 41 [some (.inr 215), some (.inr x1), some (.inl x2), some (.inl x3), none, none, none, none] [.inl s0] 274 (z_ov μ) := by
  refine v_istore (q := 43) C dX2_refutes_41 rfl (nb rfl) (L' := [some (.inr 215), some (.inr x1), some (.inl x2), some (.inl x3), some (.inl s0), none, none, none]) rfl ?_
  refine v_iconst (q := 44) C dX2_refutes_43 rfl (by decide) ?_
  refine v_istore (q := 46) C dX2_refutes_44 rfl (nb rfl) (L' := [some (.inr 215), some (.inr x1), some (.inl x2), some (.inl x3), some (.inl s0), some (.inl 0), none, none]) rfl ?_
  exact (w_X2_refutes_46  C hR  hx1 h)
theorem w_X2_refutes_27 {X : ZX} (C : zC X cX2_refutes RX2 8 (some .boolean) 4 118 274) {K : Int → ZM → Prop} (hR : zRi X cX2_refutes (some .boolean) 274 (KN (KI K)))  {x1 : Int} {x2 : Int} {s0 : Int} {μ : ZM}  (hx1 : z_cm x1) (h : P_X2_refutes_27   x1 x2 s0 μ K) : zV X 27 [some (.inr 215), some (.inr x1), some (.inl x2), none, none, none, none, none] [.inl s0] 274 (z_ov μ) := by
  refine v_istoren (q := 28) C dX2_refutes_27 rfl (nb rfl) (L' := [some (.inr 215), some (.inr x1), some (.inl x2), some (.inl s0), none, none, none, none]) rfl ?_
  refine v_aloadn (q := 29) C dX2_refutes_28 rfl rfl ?_
  refine v_iconst (q := 30) C dX2_refutes_29 rfl (by decide) ?_
  refine u_cVi1 (q := 33) C (c_X0_has h) sy_X0_has si_X0_has ml_X2_37 (ob_cm hx1) (by decide) so_X0_has ⟨nb rfl, nb rfl⟩ (nb rfl) dX2_refutes_30 rfl (fun r6 μ5 h => ?_)
  refine v_if_eq (q := 36) (tgt := 40) C dX2_refutes_33 rfl rfl h (fun h => ?_) (fun h => ?_)
  · refine v_iconst (q := 41) C dX2_refutes_40 rfl (by decide) ?_
    exact (w_X2_refutes_41  C hR  hx1 h)
  · refine v_iconst (q := 37) C dX2_refutes_36 rfl (by decide) ?_
    refine v_goto (q := 41) C dX2_refutes_37 rfl ?_
    exact (w_X2_refutes_41  C hR  hx1 h)
theorem w_X2_refutes_13 {X : ZX} (C : zC X cX2_refutes RX2 8 (some .boolean) 4 118 274) {K : Int → ZM → Prop} (hR : zRi X cX2_refutes (some .boolean) 274 (KN (KI K)))  {x1 : Int} {s0 : Int} {μ : ZM}  (hx1 : z_cm x1) (h : P_X2_refutes_13   x1 s0 μ K) : zV X 13 [some (.inr 215), some (.inr x1), none, none, none, none, none, none] [.inl s0] 274 (z_ov μ) := by
  refine v_istoren (q := 14) C dX2_refutes_13 rfl (nb rfl) (L' := [some (.inr 215), some (.inr x1), some (.inl s0), none, none, none, none, none]) rfl ?_
  refine v_aloadn (q := 15) C dX2_refutes_14 rfl rfl ?_
  refine v_iconst (q := 16) C dX2_refutes_15 rfl (by decide) ?_
  refine u_cVi1 (q := 19) C (c_X0_has h) sy_X0_has si_X0_has ml_X2_37 (ob_cm hx1) (by decide) so_X0_has ⟨nb rfl, nb rfl⟩ (nb rfl) dX2_refutes_16 rfl (fun r4 μ3 h => ?_)
  refine v_if_eq (q := 22) (tgt := 26) C dX2_refutes_19 rfl rfl h (fun h => ?_) (fun h => ?_)
  · refine v_iconst (q := 27) C dX2_refutes_26 rfl (by decide) ?_
    exact (w_X2_refutes_27  C hR  hx1 h)
  · refine v_iconst (q := 23) C dX2_refutes_22 rfl (by decide) ?_
    refine v_goto (q := 27) C dX2_refutes_23 rfl ?_
    exact (w_X2_refutes_27  C hR  hx1 h)
theorem c_X2_refutes {x1 : Int} {μ : ZM} {K : Int → ZM → Prop} (h : P_X2_refutes  x1 μ K) : zMu yX2_refutes cX2_refutes 8 (some .boolean) 4 118 [.inr 215, .inr x1] μ (KI K) := by
  refine zMet_of (L0 := [some (.inr 215), some (.inr x1), none, none, none, none, none, none]) sy_X2_refutes rfl (nb rfl) (Nat.le_refl _) (fun X C _ hR _ _ => ?_)
  have C : zC X cX2_refutes RX2 8 (some .boolean) 4 118 274 := C
  have hx1 := h.1
  replace h := h.2
  refine v_aloadn (q := 1) C dX2_refutes_0 rfl rfl ?_
  refine v_iconst (q := 2) C dX2_refutes_1 rfl (by decide) ?_
  refine u_cVi1 (q := 5) C (c_X0_has h) sy_X0_has si_X0_has ml_X2_37 (ob_cm hx1) (by decide) so_X0_has ⟨nb rfl, nb rfl⟩ (nb rfl) dX2_refutes_2 rfl (fun r2 μ1 h => ?_)
  refine v_if_eq (q := 8) (tgt := 12) C dX2_refutes_5 rfl rfl h (fun h => ?_) (fun h => ?_)
  · refine v_iconst (q := 13) C dX2_refutes_12 rfl (by decide) ?_
    exact (w_X2_refutes_13  C hR  hx1 h)
  · refine v_iconst (q := 9) C dX2_refutes_8 rfl (by decide) ?_
    refine v_goto (q := 13) C dX2_refutes_9 rfl ?_
    exact (w_X2_refutes_13  C hR  hx1 h)
theorem w_X3_bodyOf_42 {X : ZX} (C : zC X cX3_bodyOf RX3 3 (some (.object "SteeredClaims$Term")) 0 0 274) {K : Int → ZM → Prop} (hR : zRa X cX3_bodyOf (some (.object "SteeredClaims$Term")) 274 (KN (KA K)))  {x1 : Int} {x2 : Int} {μ : ZM}   (h : P_X3_bodyOf_42   x1 x2 μ K) : zV X 42 [some (.inr 207), some (.inl x1), some (.inl x2)] [] 274 (z_ov μ) := by
  refine v_aloadn (q := 43) C dX3_bodyOf_42 rfl rfl ?_
  refine u_getR (q := 46) C kl3 fl_X3_20 ob_207 pt_207_2 (by decide) rfl rfl dX3_bodyOf_43 rfl ?_
  refine v_iloadn (q := 47) C dX3_bodyOf_46 rfl rfl ?_
  refine v_iconst (q := 48) C dX3_bodyOf_47 rfl (by decide) ?_
  refine u_imul (q := 49) C dX3_bodyOf_48 rfl h (fun h => ?_)
  refine v_iloadn (q := 50) C dX3_bodyOf_49 rfl rfl ?_
  refine u_iadd (q := 51) C dX3_bodyOf_50 rfl h (fun h => ?_)
  have hb1 := h.1
  refine u_fald (v := 115 + 3 * ((x1 * 3) + x2)) (q := 52) C fa_210 (Or.inl rfl) dX3_bodyOf_51 rfl h (fun h9 => ⟨fe_210 h9, by omega⟩) (fun h => ?_)
  have hf2 : z_tm (115 + 3 * ((x1 * 3) + x2)) := by omega
  exact u_aret hR dX3_bodyOf_52 h
theorem c_X3_bodyOf {x1 : Int} {x2 : Int} {μ : ZM} {K : Int → ZM → Prop} (h : P_X3_bodyOf  x1 x2 μ K) : zMu yX3_bodyOf cX3_bodyOf 3 (some (.object "SteeredClaims$Term")) 0 0 [.inr 207, .inl x1, .inl x2] μ (KA K) := by
  refine zMet_of (L0 := [some (.inr 207), some (.inl x1), some (.inl x2)]) sy_X3_bodyOf rfl (nb rfl) (Nat.le_refl _) (fun X C _ _ hR _ => ?_)
  have C : zC X cX3_bodyOf RX3 3 (some (.object "SteeredClaims$Term")) 0 0 274 := C
  refine v_iloadn (q := 1) C dX3_bodyOf_0 rfl rfl ?_
  refine v_if_lt (q := 4) (tgt := 21) C dX3_bodyOf_1 rfl rfl h (fun h => ?_) (fun h => ?_)
  · refine v_null (q := 22) C dX3_bodyOf_21 rfl ?_
    exact u_aret hR dX3_bodyOf_22 h
  · refine v_iloadn (q := 5) C dX3_bodyOf_4 rfl rfl ?_
    refine v_aloadn (q := 6) C dX3_bodyOf_5 rfl rfl ?_
    refine u_getI (q := 9) C kl3 fl_X3_28 ob_207 pt_207_4 rfl rfl dX3_bodyOf_6 rfl ?_
    refine v_icmp_ge (q := 12) (tgt := 21) C dX3_bodyOf_9 rfl rfl h (fun h => ?_) (fun h => ?_)
    · refine v_null (q := 22) C dX3_bodyOf_21 rfl ?_
      exact u_aret hR dX3_bodyOf_22 h
    · refine v_iloadn (q := 13) C dX3_bodyOf_12 rfl rfl ?_
      refine v_if_lt (q := 16) (tgt := 21) C dX3_bodyOf_13 rfl rfl h (fun h => ?_) (fun h => ?_)
      · refine v_null (q := 22) C dX3_bodyOf_21 rfl ?_
        exact u_aret hR dX3_bodyOf_22 h
      · refine v_iloadn (q := 17) C dX3_bodyOf_16 rfl rfl ?_
        refine v_iconst (q := 18) C dX3_bodyOf_17 rfl (by decide) ?_
        refine v_icmp_lt (q := 21) (tgt := 23) C dX3_bodyOf_18 rfl rfl h (fun h => ?_) (fun h => ?_)
        · refine v_iloadn (q := 24) C dX3_bodyOf_23 rfl rfl ?_
          refine v_iconst (q := 25) C dX3_bodyOf_24 rfl (by decide) ?_
          refine v_icmp_ne (q := 28) (tgt := 42) C dX3_bodyOf_25 rfl rfl h (fun h => ?_) (fun h => ?_)
          · refine v_aloadn (q := 29) C dX3_bodyOf_28 rfl rfl ?_
            refine u_getR (q := 32) C kl3 fl_X3_15 ob_207 pt_207_1 (by decide) rfl rfl dX3_bodyOf_29 rfl ?_
            refine v_iloadn (q := 33) C dX3_bodyOf_32 rfl rfl ?_
            refine u_iald (q := 34) C ia_209 dX3_bodyOf_33 rfl h (fun h => ?_)
            refine v_iconst (q := 35) C dX3_bodyOf_34 rfl (by decide) ?_
            refine v_icmp_ne (q := 38) (tgt := 42) C dX3_bodyOf_35 rfl rfl h (fun h => ?_) (fun h => ?_)
            · refine v_null (q := 39) C dX3_bodyOf_38 rfl ?_
              refine v_goto (q := 52) C dX3_bodyOf_39 rfl ?_
              exact u_aret hR dX3_bodyOf_52 h
            · exact (w_X3_bodyOf_42  C hR   h)
          · exact (w_X3_bodyOf_42  C hR   h)
        · refine v_null (q := 22) C dX3_bodyOf_21 rfl ?_
          exact u_aret hR dX3_bodyOf_22 h
theorem w_X3_define_82 {X : ZX} (C : zC X cX3_define RX3 6 none 2 61 274) {K : ZM → Prop} (hR : zRv X cX3_define none 274 (KN (KV K)))  {x2 : Int} {x4 : Int} {s0 : Int} {μ : ZM} {G64 : Int → ZM → Prop} (hG64 : ∀ (x4 : Int) (μ : ZM), G64 x4 μ → zV X 64 [some (.inr 207), none, some (.inl x2), some (.inr 214), some (.inl x4), none] [] 274 (z_ov μ))  (h : P_X3_define_82  G64 x2 x4 s0 μ K) : zV X 82 [some (.inr 207), none, some (.inl x2), some (.inr 214), some (.inl x4), none] [.inl s0] 274 (z_ov μ) := by
  refine v_istore (q := 84) C dX3_define_82 rfl (nb rfl) (L' := [some (.inr 207), none, some (.inl x2), some (.inr 214), some (.inl x4), some (.inl s0)]) rfl ?_
  refine v_aloadn (q := 85) C dX3_define_84 rfl rfl ?_
  refine u_getR (q := 88) C kl3 fl_X3_20 ob_207 pt_207_2 (by decide) rfl rfl dX3_define_85 rfl ?_
  refine v_aloadn (q := 89) C dX3_define_88 rfl rfl ?_
  refine u_getI (q := 92) C kl3 fl_X3_28 ob_207 pt_207_4 rfl rfl dX3_define_89 rfl ?_
  refine v_iconst (q := 93) C dX3_define_92 rfl (by decide) ?_
  refine u_imul (q := 94) C dX3_define_93 rfl h (fun h => ?_)
  refine v_iload (q := 96) C dX3_define_94 rfl rfl ?_
  refine u_iadd (q := 97) C dX3_define_96 rfl h (fun h => ?_)
  have hb5 := h.1
  refine u_fald (v := 115 + 3 * (((μ 207 4) * 3) + s0)) (q := 98) C fa_210 (Or.inl rfl) dX3_define_97 rfl h (fun h9 => ⟨fe_210 h9, by omega⟩) (fun h => ?_)
  have hf6 : z_tm (115 + 3 * (((μ 207 4) * 3) + s0)) := by omega
  refine v_aloadn (q := 99) C dX3_define_98 rfl rfl ?_
  refine v_iload (q := 101) C dX3_define_99 rfl rfl ?_
  have hb7 := h.1
  refine u_fald (v := 169 + 3 * x4) (q := 102) C fa_214 (Or.inl rfl) dX3_define_101 rfl h (fun h9 => ⟨fe_214 h9, by omega⟩) (fun h => ?_)
  have hf8 : z_tm (169 + 3 * x4) := by omega
  refine u_cVv1 (q := 105) C (c_X10_copy h) sy_X10_copy si_X10_copy ml_X3_32 (ob_tm hf6) (by decide) so_X10_copy ⟨nb rfl, nb rfl⟩ (nb rfl) dX3_define_102 rfl (fun μ9 h => ?_)
  refine u_iinc (q := 108) C dX3_define_105 rfl (nb rfl) rfl (L' := [some (.inr 207), none, some (.inl x2), some (.inr 214), some (.inl (x4 + 1)), some (.inl s0)]) rfl h (fun h => ?_)
  refine v_goto (q := 64) C dX3_define_108 rfl ?_
  exact v_mask [true, false, true, true, true, false] rfl (hG64 _ _ h)
theorem w_X3_define_64 {X : ZX} (C : zC X cX3_define RX3 6 none 2 61 274) {K : ZM → Prop} (hR : zRv X cX3_define none 274 (KN (KV K)))  {x2 : Int} {x4 : Int} {μ : ZM}   (h : P_X3_define_64   x2 x4 μ K) : zV X 64 [some (.inr 207), none, some (.inl x2), some (.inr 214), some (.inl x4), none] [] 274 (z_ov μ) := by
  refine h (fun x4 μ => zV X 64 [some (.inr 207), none, some (.inl x2), some (.inr 214), some (.inl x4), none] [] 274 (z_ov μ)) (fun x4 μ h => ?_)
  refine v_iload (q := 66) C dX3_define_64 rfl rfl ?_
  refine v_iloadn (q := 67) C dX3_define_66 rfl rfl ?_
  refine v_icmp_gt (q := 70) (tgt := 111) C dX3_define_67 rfl rfl h (fun h => ?_) (fun h => ?_)
  · refine v_aloadn (q := 112) C dX3_define_111 rfl rfl ?_
    refine v_dup (q := 113) C dX3_define_112 rfl ?_
    refine u_getI (q := 116) C kl3 fl_X3_28 ob_207 pt_207_4 rfl rfl dX3_define_113 rfl ?_
    refine v_iconst (q := 117) C dX3_define_116 rfl (by decide) ?_
    refine u_iadd (q := 118) C dX3_define_117 rfl h (fun h => ?_)
    refine u_put (q := 121) C kl3 fl_X3_28 ob_207 pt_207_4 rfl rfl rfl rfl dX3_define_118 rfl h (fun μ4 h => ?_)
    exact u_vret hR dX3_define_121 h
  · refine v_iload (q := 72) C dX3_define_70 rfl rfl ?_
    refine v_iloadn (q := 73) C dX3_define_72 rfl rfl ?_
    refine v_icmp_ne (q := 76) (tgt := 80) C dX3_define_73 rfl rfl h (fun h => ?_) (fun h => ?_)
    · refine v_iconst (q := 77) C dX3_define_76 rfl (by decide) ?_
      refine v_goto (q := 82) C dX3_define_77 rfl ?_
      exact (w_X3_define_82  C hR (fun _ _ h => h)  h)
    · refine v_iload (q := 82) C dX3_define_80 rfl rfl ?_
      exact (w_X3_define_82  C hR (fun _ _ h => h)  h)
theorem c_X3_define {x1 : Int} {x2 : Int} {μ : ZM} {K : ZM → Prop} (h : P_X3_define  x1 x2 μ K) : zMu yX3_define cX3_define 6 none 2 61 [.inr 207, .inl x1, .inl x2, .inr 214] μ (KV K) := by
  refine zMet_of (L0 := [some (.inr 207), some (.inl x1), some (.inl x2), some (.inr 214), none, none]) sy_X3_define rfl (nb rfl) (Nat.le_refl _) (fun X C _ _ _ hR => ?_)
  have C : zC X cX3_define RX3 6 none 2 61 274 := C
  refine v_aloadn (q := 1) C dX3_define_0 rfl rfl ?_
  refine u_getI (q := 4) C kl3 fl_X3_28 ob_207 pt_207_4 rfl rfl dX3_define_1 rfl ?_
  refine v_if_lt (q := 7) (tgt := 27) C dX3_define_4 rfl rfl h (fun h => ?_) (fun h => ?_)
  · exact u_vret hR dX3_define_27 h
  · refine v_aloadn (q := 8) C dX3_define_7 rfl rfl ?_
    refine u_getI (q := 11) C kl3 fl_X3_28 ob_207 pt_207_4 rfl rfl dX3_define_8 rfl ?_
    refine v_bipush (q := 13) C dX3_define_11 rfl (by decide) ?_
    refine v_icmp_ge (q := 16) (tgt := 27) C dX3_define_13 rfl rfl h (fun h => ?_) (fun h => ?_)
    · exact u_vret hR dX3_define_27 h
    · refine v_iloadn (q := 17) C dX3_define_16 rfl rfl ?_
      refine v_iconst (q := 18) C dX3_define_17 rfl (by decide) ?_
      refine v_icmp_lt (q := 21) (tgt := 27) C dX3_define_18 rfl rfl h (fun h => ?_) (fun h => ?_)
      · exact u_vret hR dX3_define_27 h
      · refine v_iloadn (q := 22) C dX3_define_21 rfl rfl ?_
        refine v_aloadn (q := 23) C dX3_define_22 rfl rfl ?_
        refine u_alen (v := 3) (q := 24) C fa_214 (Or.inr (Or.inl rfl)) (nb rfl) rfl dX3_define_23 rfl ?_
        refine v_icmp_lt (q := 27) (tgt := 28) C dX3_define_24 rfl rfl h (fun h => ?_) (fun h => ?_)
        · refine v_aloadn (q := 29) C dX3_define_28 rfl rfl ?_
          refine u_getR (q := 32) C kl3 fl_X3_9 ob_207 pt_207_0 (by decide) rfl rfl dX3_define_29 rfl ?_
          refine v_aloadn (q := 33) C dX3_define_32 rfl rfl ?_
          refine u_getI (q := 36) C kl3 fl_X3_28 ob_207 pt_207_4 rfl rfl dX3_define_33 rfl ?_
          refine v_iloadn (q := 37) C dX3_define_36 rfl rfl ?_
          refine u_iast (q := 38) C ia_208 dX3_define_37 rfl h (fun μ1 h => ?_)
          refine v_aloadn (q := 39) C dX3_define_38 rfl rfl ?_
          refine u_getR (q := 42) C kl3 fl_X3_15 ob_207 pt_207_1 (by decide) rfl rfl dX3_define_39 rfl ?_
          refine v_aloadn (q := 43) C dX3_define_42 rfl rfl ?_
          refine u_getI (q := 46) C kl3 fl_X3_28 ob_207 pt_207_4 rfl rfl dX3_define_43 rfl ?_
          refine v_iloadn (q := 47) C dX3_define_46 rfl rfl ?_
          refine u_iast (q := 48) C ia_209 dX3_define_47 rfl h (fun μ2 h => ?_)
          refine v_aloadn (q := 49) C dX3_define_48 rfl rfl ?_
          refine u_getR (q := 52) C kl3 fl_X3_24 ob_207 pt_207_3 (by decide) rfl rfl dX3_define_49 rfl ?_
          refine v_bipush (q := 54) C dX3_define_52 rfl (by decide) ?_
          refine v_aloadn (q := 55) C dX3_define_54 rfl rfl ?_
          refine u_getI (q := 58) C kl3 fl_X3_28 ob_207 pt_207_4 rfl rfl dX3_define_55 rfl ?_
          refine u_iadd (q := 59) C dX3_define_58 rfl h (fun h => ?_)
          refine v_iloadn (q := 60) C dX3_define_59 rfl rfl ?_
          refine u_iast (q := 61) C ia_211 dX3_define_60 rfl h (fun μ3 h => ?_)
          refine v_iconst (q := 62) C dX3_define_61 rfl (by decide) ?_
          refine v_istore (q := 64) C dX3_define_62 rfl (nb rfl) (L' := [some (.inr 207), some (.inl x1), some (.inl x2), some (.inr 214), some (.inl 0), none]) rfl ?_
          exact v_mask [true, false, true, true, true, false] rfl (w_X3_define_64  C hR   h)
        · exact u_vret hR dX3_define_27 h
theorem w_X3_forgetAll_2 {X : ZX} (C : zC X cX3_forgetAll RX3 2 none 0 0 274) {K : ZM → Prop} (hR : zRv X cX3_forgetAll none 274 (KN (KV K)))  {x1 : Int} {μ : ZM}   (h : P_X3_forgetAll_2   x1 μ K) : zV X 2 [some (.inr 207), some (.inl x1)] [] 274 (z_ov μ) := by
  refine h (fun x1 μ => zV X 2 [some (.inr 207), some (.inl x1)] [] 274 (z_ov μ)) (fun x1 μ h => ?_)
  refine v_iloadn (q := 3) C dX3_forgetAll_2 rfl rfl ?_
  refine v_bipush (q := 5) C dX3_forgetAll_3 rfl (by decide) ?_
  refine v_icmp_ge (q := 8) (tgt := 24) C dX3_forgetAll_5 rfl rfl h (fun h => ?_) (fun h => ?_)
  · refine v_aloadn (q := 25) C dX3_forgetAll_24 rfl rfl ?_
    refine v_iconst (q := 26) C dX3_forgetAll_25 rfl (by decide) ?_
    refine u_put (q := 29) C kl3 fl_X3_28 ob_207 pt_207_4 rfl rfl rfl rfl dX3_forgetAll_26 rfl h (fun μ1 h => ?_)
    exact u_vret hR dX3_forgetAll_29 h
  · refine v_aloadn (q := 9) C dX3_forgetAll_8 rfl rfl ?_
    refine u_getR (q := 12) C kl3 fl_X3_24 ob_207 pt_207_3 (by decide) rfl rfl dX3_forgetAll_9 rfl ?_
    refine v_bipush (q := 14) C dX3_forgetAll_12 rfl (by decide) ?_
    refine v_iloadn (q := 15) C dX3_forgetAll_14 rfl rfl ?_
    refine u_iadd (q := 16) C dX3_forgetAll_15 rfl h (fun h => ?_)
    refine v_iconst (q := 17) C dX3_forgetAll_16 rfl (by decide) ?_
    refine u_iast (q := 18) C ia_211 dX3_forgetAll_17 rfl h (fun μ2 h => ?_)
    refine u_iinc (q := 21) C dX3_forgetAll_18 rfl (nb rfl) rfl (L' := [some (.inr 207), some (.inl (x1 + 1))]) rfl h (fun h => ?_)
    refine v_goto (q := 2) C dX3_forgetAll_21 rfl ?_
    exact h
theorem c_X3_forgetAll  {μ : ZM} {K : ZM → Prop} (h : P_X3_forgetAll   μ K) : zMu yX3_forgetAll cX3_forgetAll 2 none 0 0 [.inr 207] μ (KV K) := by
  refine zMet_of (L0 := [some (.inr 207), none]) sy_X3_forgetAll rfl (nb rfl) (Nat.le_refl _) (fun X C _ _ _ hR => ?_)
  have C : zC X cX3_forgetAll RX3 2 none 0 0 274 := C
  refine v_iconst (q := 1) C dX3_forgetAll_0 rfl (by decide) ?_
  refine v_istoren (q := 2) C dX3_forgetAll_1 rfl (nb rfl) (L' := [some (.inr 207), some (.inl 0)]) rfl ?_
  exact (w_X3_forgetAll_2  C hR   h)
theorem w_X4_isUsable_52 {X : ZX} (C : zC X cX4_isUsable RX4 3 (some .boolean) 1 22 274) {K : Int → ZM → Prop} (hR : zRi X cX4_isUsable (some .boolean) 274 (KN (KI K)))  {x0 : Int} {x1 : Int} {x2 : Int} {μ : ZM} {G23 : Int → ZM → Prop} (hG23 : ∀ (x2 : Int) (μ : ZM), G23 x2 μ → zV X 23 [some (.inr x0), some (.inr x1), some (.inl x2)] [] 274 (z_ov μ)) (hx0 : z_tm x0) (hx1 : z_tm x1) (h : P_X4_isUsable_52  G23 x0 x1 x2 μ K) : zV X 52 [some (.inr x0), some (.inr x1), some (.inl x2)] [] 274 (z_ov μ) := by
  refine u_iinc (q := 55) C dX4_isUsable_52 rfl (nb rfl) rfl (L' := [some (.inr x0), some (.inr x1), some (.inl (x2 + 1))]) rfl h (fun h => ?_)
  refine v_goto (q := 23) C dX4_isUsable_55 rfl ?_
  exact (hG23 _ _ h)
theorem w_X4_isUsable_23 {X : ZX} (C : zC X cX4_isUsable RX4 3 (some .boolean) 1 22 274) {K : Int → ZM → Prop} (hR : zRi X cX4_isUsable (some .boolean) 274 (KN (KI K)))  {x0 : Int} {x1 : Int} {x2 : Int} {μ : ZM}  (hx0 : z_tm x0) (hx1 : z_tm x1) (h : P_X4_isUsable_23   x0 x1 x2 μ K) : zV X 23 [some (.inr x0), some (.inr x1), some (.inl x2)] [] 274 (z_ov μ) := by
  refine h (fun x2 μ => zV X 23 [some (.inr x0), some (.inr x1), some (.inl x2)] [] 274 (z_ov μ)) (fun x2 μ h => ?_)
  refine v_iloadn (q := 24) C dX4_isUsable_23 rfl rfl ?_
  refine v_iconst (q := 25) C dX4_isUsable_24 rfl (by decide) ?_
  refine v_icmp_ge (q := 28) (tgt := 58) C dX4_isUsable_25 rfl rfl h (fun h => ?_) (fun h => ?_)
  · refine v_iconst (q := 59) C dX4_isUsable_58 rfl (by decide) ?_
    exact u_zret hR dX4_isUsable_59 h
  · refine v_aloadn (q := 29) C dX4_isUsable_28 rfl rfl ?_
    refine v_bipush (q := 31) C dX4_isUsable_29 rfl (by decide) ?_
    refine v_iloadn (q := 32) C dX4_isUsable_31 rfl rfl ?_
    refine u_iadd (q := 33) C dX4_isUsable_32 rfl h (fun h => ?_)
    refine u_cVi1 (q := 36) C (c_X10_has h) sy_X10_has si_X10_has ml_X4_87 (ob_tm hx1) (by decide) so_X10_has ⟨nb rfl, nb rfl⟩ (nb rfl) dX4_isUsable_33 rfl (fun r2 μ1 h => ?_)
    refine v_if_eq (q := 39) (tgt := 52) C dX4_isUsable_36 rfl rfl h (fun h => ?_) (fun h => ?_)
    · exact (w_X4_isUsable_52  C hR (fun _ _ h => h) hx0 hx1 h)
    · refine v_aloadn (q := 40) C dX4_isUsable_39 rfl rfl ?_
      refine v_bipush (q := 42) C dX4_isUsable_40 rfl (by decide) ?_
      refine v_iloadn (q := 43) C dX4_isUsable_42 rfl rfl ?_
      refine u_iadd (q := 44) C dX4_isUsable_43 rfl h (fun h => ?_)
      refine u_cVi1 (q := 47) C (c_X10_has h) sy_X10_has si_X10_has ml_X4_87 (ob_tm hx0) (by decide) so_X10_has ⟨nb rfl, nb rfl⟩ (nb rfl) dX4_isUsable_44 rfl (fun r4 μ3 h => ?_)
      refine v_if_ne (q := 50) (tgt := 52) C dX4_isUsable_47 rfl rfl h (fun h => ?_) (fun h => ?_)
      · refine v_iconst (q := 51) C dX4_isUsable_50 rfl (by decide) ?_
        exact u_zret hR dX4_isUsable_51 h
      · exact (w_X4_isUsable_52  C hR (fun _ _ h => h) hx0 hx1 h)
theorem w_X4_isUsable_21 {X : ZX} (C : zC X cX4_isUsable RX4 3 (some .boolean) 1 22 274) {K : Int → ZM → Prop} (hR : zRi X cX4_isUsable (some .boolean) 274 (KN (KI K)))  {x0 : Int} {x1 : Int} {μ : ZM}  (hx0 : z_tm x0) (hx1 : z_tm x1) (h : P_X4_isUsable_21   x0 x1 μ K) : zV X 21 [some (.inr x0), some (.inr x1), none] [] 274 (z_ov μ) := by
  refine v_iconst (q := 22) C dX4_isUsable_21 rfl (by decide) ?_
  refine v_istoren (q := 23) C dX4_isUsable_22 rfl (nb rfl) (L' := [some (.inr x0), some (.inr x1), some (.inl 0)]) rfl ?_
  exact (w_X4_isUsable_23  C hR  hx0 hx1 h)
theorem c_X4_isUsable {x0 : Int} {x1 : Int} {μ : ZM} {K : Int → ZM → Prop} (h : P_X4_isUsable  x0 x1 μ K) : zMu yX4_isUsable cX4_isUsable 3 (some .boolean) 1 22 [.inr x0, .inr x1] μ (KI K) := by
  refine zMet_of (L0 := [some (.inr x0), some (.inr x1), none]) sy_X4_isUsable rfl (nb rfl) (Nat.le_refl _) (fun X C _ hR _ _ => ?_)
  have C : zC X cX4_isUsable RX4 3 (some .boolean) 1 22 274 := C
  have hx0 := h.1
  replace h := h.2
  have hx1 := h.1
  replace h := h.2
  refine v_aloadn (q := 1) C dX4_isUsable_0 rfl rfl ?_
  refine u_getI (q := 4) C kl10 fl_X4_55 (ob_tm hx0) (pt_size hx0) rfl rfl dX4_isUsable_1 rfl ?_
  refine v_iconst (q := 5) C dX4_isUsable_4 rfl (by decide) ?_
  refine v_icmp_ne (q := 8) (tgt := 21) C dX4_isUsable_5 rfl rfl h (fun h => ?_) (fun h => ?_)
  · refine v_aloadn (q := 9) C dX4_isUsable_8 rfl rfl ?_
    refine u_getR (v := x0 + 1) (q := 12) C kl10 fl_X4_83 (ob_tm hx0) (pt_code hx0) (by omega) rfl rfl dX4_isUsable_9 rfl ?_
    refine v_iconst (q := 13) C dX4_isUsable_12 rfl (by decide) ?_
    refine u_iald (q := 14) C (ia_code hx0) dX4_isUsable_13 rfl h (fun h => ?_)
    refine v_bipush (q := 16) C dX4_isUsable_14 rfl (by decide) ?_
    refine v_icmp_lt (q := 19) (tgt := 21) C dX4_isUsable_16 rfl rfl h (fun h => ?_) (fun h => ?_)
    · exact (w_X4_isUsable_21  C hR  hx0 hx1 h)
    · refine v_iconst (q := 20) C dX4_isUsable_19 rfl (by decide) ?_
      exact u_zret hR dX4_isUsable_20 h
  · exact (w_X4_isUsable_21  C hR  hx0 hx1 h)
theorem w_X4_keep_26 {X : ZX} (C : zC X cX4_keep RX4 3 none 3 82 274) {K : ZM → Prop} (hR : zRv X cX4_keep none 274 (KN (KV K)))  {x1 : Int} {x2 : Int} {μ : ZM}  (hx1 : z_cm x1) (h : P_X4_keep_26   x1 x2 μ K) : zV X 26 [some (.inr 238), some (.inr x1), some (.inl x2)] [] 274 (z_ov μ) := by
  refine h (fun x2 μ => zV X 26 [some (.inr 238), some (.inr x1), some (.inl x2)] [] 274 (z_ov μ)) (fun x2 μ h => ?_)
  refine v_iloadn (q := 27) C dX4_keep_26 rfl rfl ?_
  refine v_aloadn (q := 28) C dX4_keep_27 rfl rfl ?_
  refine u_getI (q := 31) C kl4 fl_X4_37 ob_238 pt_238_1 rfl rfl dX4_keep_28 rfl ?_
  refine v_icmp_ge (q := 34) (tgt := 54) C dX4_keep_31 rfl rfl h (fun h => ?_) (fun h => ?_)
  · refine v_aloadn (q := 55) C dX4_keep_54 rfl rfl ?_
    refine u_getR (q := 58) C kl4 fl_X4_11 ob_238 pt_238_0 (by decide) rfl rfl dX4_keep_55 rfl ?_
    refine v_aloadn (q := 59) C dX4_keep_58 rfl rfl ?_
    refine u_getI (q := 62) C kl4 fl_X4_37 ob_238 pt_238_1 rfl rfl dX4_keep_59 rfl ?_
    have hb3 := h.1
    refine u_fald (v := 187 + 1 * (μ 238 1)) (q := 63) C fa_239 (Or.inr rfl) dX4_keep_62 rfl h (fun h9 => ⟨fe_239 h9, by omega⟩) (fun h => ?_)
    have hf4 : z_cm (187 + 1 * (μ 238 1)) := by omega
    refine v_aloadn (q := 64) C dX4_keep_63 rfl rfl ?_
    refine u_cVv1 (q := 67) C (c_X0_copy h) sy_X0_copy si_X0_copy ml_X4_45 (ob_cm hf4) (by decide) so_X0_copy ⟨nb rfl, nb rfl⟩ (nb rfl) dX4_keep_64 rfl (fun μ5 h => ?_)
    refine v_aloadn (q := 68) C dX4_keep_67 rfl rfl ?_
    refine v_dup (q := 69) C dX4_keep_68 rfl ?_
    refine u_getI (q := 72) C kl4 fl_X4_37 ob_238 pt_238_1 rfl rfl dX4_keep_69 rfl ?_
    refine v_iconst (q := 73) C dX4_keep_72 rfl (by decide) ?_
    refine u_iadd (q := 74) C dX4_keep_73 rfl h (fun h => ?_)
    refine u_put (q := 77) C kl4 fl_X4_37 ob_238 pt_238_1 rfl rfl rfl rfl dX4_keep_74 rfl h (fun μ6 h => ?_)
    exact u_vret hR dX4_keep_77 h
  · refine v_aloadn (q := 35) C dX4_keep_34 rfl rfl ?_
    refine u_getR (q := 38) C kl4 fl_X4_11 ob_238 pt_238_0 (by decide) rfl rfl dX4_keep_35 rfl ?_
    refine v_iloadn (q := 39) C dX4_keep_38 rfl rfl ?_
    have hb7 := h.1
    refine u_fald (v := 187 + 1 * x2) (q := 40) C fa_239 (Or.inr rfl) dX4_keep_39 rfl h (fun h9 => ⟨fe_239 h9, by omega⟩) (fun h => ?_)
    have hf8 : z_cm (187 + 1 * x2) := by omega
    refine v_aloadn (q := 41) C dX4_keep_40 rfl rfl ?_
    refine u_cVi1 (q := 44) C (c_X0_isSame h) sy_X0_isSame si_X0_isSame ml_X4_41 (ob_cm hf8) (by decide) so_X0_isSame ⟨nb rfl, nb rfl⟩ (nb rfl) dX4_keep_41 rfl (fun r10 μ9 h => ?_)
    refine v_if_eq (q := 47) (tgt := 48) C dX4_keep_44 rfl rfl h (fun h => ?_) (fun h => ?_)
    · refine u_iinc (q := 51) C dX4_keep_48 rfl (nb rfl) rfl (L' := [some (.inr 238), some (.inr x1), some (.inl (x2 + 1))]) rfl h (fun h => ?_)
      refine v_goto (q := 26) C dX4_keep_51 rfl ?_
      exact h
    · exact u_vret hR dX4_keep_47 h
theorem c_X4_keep {x1 : Int} {μ : ZM} {K : ZM → Prop} (h : P_X4_keep  x1 μ K) : zMu yX4_keep cX4_keep 3 none 3 82 [.inr 238, .inr x1] μ (KV K) := by
  refine zMet_of (L0 := [some (.inr 238), some (.inr x1), none]) sy_X4_keep rfl (nb rfl) (Nat.le_refl _) (fun X C _ _ _ hR => ?_)
  have C : zC X cX4_keep RX4 3 none 3 82 274 := C
  have hx1 := h.1
  replace h := h.2
  refine v_aloadn (q := 1) C dX4_keep_0 rfl rfl ?_
  refine u_cVi0 (q := 4) C (c_X0_isTrivial h) sy_X0_isTrivial si_X0_isTrivial ml_X4_33 (ob_cm hx1) (by decide) so_X0_isTrivial ⟨nb rfl, nb rfl⟩ (nb rfl) dX4_keep_1 rfl (fun r2 μ1 h => ?_)
  refine v_if_ne (q := 7) (tgt := 23) C dX4_keep_4 rfl rfl h (fun h => ?_) (fun h => ?_)
  · refine v_aloadn (q := 8) C dX4_keep_7 rfl rfl ?_
    refine u_getI (q := 11) C kl4 fl_X4_37 ob_238 pt_238_1 rfl rfl dX4_keep_8 rfl ?_
    refine v_if_lt (q := 14) (tgt := 23) C dX4_keep_11 rfl rfl h (fun h => ?_) (fun h => ?_)
    · exact u_vret hR dX4_keep_23 h
    · refine v_aloadn (q := 15) C dX4_keep_14 rfl rfl ?_
      refine u_getI (q := 18) C kl4 fl_X4_37 ob_238 pt_238_1 rfl rfl dX4_keep_15 rfl ?_
      refine v_bipush (q := 20) C dX4_keep_18 rfl (by decide) ?_
      refine v_icmp_lt (q := 23) (tgt := 24) C dX4_keep_20 rfl rfl h (fun h => ?_) (fun h => ?_)
      · refine v_iconst (q := 25) C dX4_keep_24 rfl (by decide) ?_
        refine v_istoren (q := 26) C dX4_keep_25 rfl (nb rfl) (L' := [some (.inr 238), some (.inr x1), some (.inl 0)]) rfl ?_
        exact (w_X4_keep_26  C hR  hx1 h)
      · exact u_vret hR dX4_keep_23 h
  · exact u_vret hR dX4_keep_23 h
theorem w_X5_matches_161 {X : ZX} (C : zC X cX5_matches RX5 9 (some .boolean) 1 25 274) {K : Int → ZM → Prop} (hR : zRi X cX5_matches (some .boolean) 274 (KN (KI K)))  {x1 : Int} {x2 : Int} {x4 : Int} {x5 : Int} {x6 : Int} {μ : ZM} {G30 : Int → Int → ZM → Prop} (hG30 : ∀ (x5 x6 : Int) (μ : ZM), G30 x5 x6 μ → zV X 30 [some (.inr 236), some (.inr x1), some (.inr x2), none, some (.inl x4), some (.inl x5), some (.inl x6), none, none] [] 274 (z_ov μ)) (hx1 : z_tm x1) (hx2 : z_tm x2) (h : P_X5_matches_161  G30 x1 x2 x4 x5 x6 μ K) : zV X 161 [some (.inr 236), some (.inr x1), some (.inr x2), none, some (.inl x4), some (.inl x5), some (.inl x6), none, none] [] 274 (z_ov μ) := by
  refine u_iinc (q := 164) C dX5_matches_161 rfl (nb rfl) rfl (L' := [some (.inr 236), some (.inr x1), some (.inr x2), none, some (.inl x4), some (.inl x5), some (.inl (x6 + 1)), none, none]) rfl h (fun h => ?_)
  refine v_goto (q := 30) C dX5_matches_164 rfl ?_
  exact (hG30 _ _ _ h)
theorem w_X5_matches_89 {X : ZX} (C : zC X cX5_matches RX5 9 (some .boolean) 1 25 274) {K : Int → ZM → Prop} (hR : zRi X cX5_matches (some .boolean) 274 (KN (KI K)))  {x1 : Int} {x2 : Int} {x4 : Int} {x5 : Int} {x6 : Int} {x7 : Int} {μ : ZM} {G30 : Int → Int → ZM → Prop} (hG30 : ∀ (x5 x6 : Int) (μ : ZM), G30 x5 x6 μ → zV X 30 [some (.inr 236), some (.inr x1), some (.inr x2), none, some (.inl x4), some (.inl x5), some (.inl x6), none, none] [] 274 (z_ov μ)) (hx1 : z_tm x1) (hx2 : z_tm x2) (h : P_X5_matches_89  G30 x1 x2 x4 x5 x6 x7 μ K) : zV X 89 [some (.inr 236), some (.inr x1), some (.inr x2), none, some (.inl x4), some (.inl x5), some (.inl x6), some (.inl x7), none] [] 274 (z_ov μ) := by
  refine v_iload (q := 91) C dX5_matches_89 rfl rfl ?_
  refine v_aloadn (q := 92) C dX5_matches_91 rfl rfl ?_
  refine u_getR (v := x2 + 1) (q := 95) C kl10 fl_X5_25 (ob_tm hx2) (pt_code hx2) (by omega) rfl rfl dX5_matches_92 rfl ?_
  refine v_iload (q := 97) C dX5_matches_95 rfl rfl ?_
  refine u_iald (q := 98) C (ia_code hx2) dX5_matches_97 rfl h (fun h => ?_)
  refine v_icmp_eq (q := 101) (tgt := 103) C dX5_matches_98 rfl rfl h (fun h => ?_) (fun h => ?_)
  · refine u_iinc (q := 106) C dX5_matches_103 rfl (nb rfl) rfl (L' := [some (.inr 236), some (.inr x1), some (.inr x2), none, some (.inl x4), some (.inl (x5 + 1)), some (.inl x6), some (.inl x7), none]) rfl h (fun h => ?_)
    refine v_goto (q := 161) C dX5_matches_106 rfl ?_
    exact v_mask [true, true, true, false, true, true, true, false, false] rfl (w_X5_matches_161  C hR hG30 hx1 hx2 h)
  · refine v_iconst (q := 102) C dX5_matches_101 rfl (by decide) ?_
    exact u_zret hR dX5_matches_102 h
theorem w_X5_matches_152 {X : ZX} (C : zC X cX5_matches RX5 9 (some .boolean) 1 25 274) {K : Int → ZM → Prop} (hR : zRi X cX5_matches (some .boolean) 274 (KN (KI K)))  {x1 : Int} {x2 : Int} {x4 : Int} {x5 : Int} {x6 : Int} {μ : ZM} {G30 : Int → Int → ZM → Prop} (hG30 : ∀ (x5 x6 : Int) (μ : ZM), G30 x5 x6 μ → zV X 30 [some (.inr 236), some (.inr x1), some (.inr x2), none, some (.inl x4), some (.inl x5), some (.inl x6), none, none] [] 274 (z_ov μ)) (hx1 : z_tm x1) (hx2 : z_tm x2) (h : P_X5_matches_152  G30 x1 x2 x4 x5 x6 μ K) : zV X 152 [some (.inr 236), some (.inr x1), some (.inr x2), none, some (.inl x4), some (.inl x5), some (.inl x6), none, none] [] 274 (z_ov μ) := by
  refine v_aloadn (q := 153) C dX5_matches_152 rfl rfl ?_
  refine u_getR (v := x2 + 2) (q := 156) C kl10 fl_X5_32 (ob_tm hx2) (pt_end hx2) (by omega) rfl rfl dX5_matches_153 rfl ?_
  refine v_iload (q := 158) C dX5_matches_156 rfl rfl ?_
  refine u_iald (q := 159) C (ia_end hx2) dX5_matches_158 rfl h (fun h => ?_)
  refine v_istore (q := 161) C dX5_matches_159 rfl (nb rfl) (L' := [some (.inr 236), some (.inr x1), some (.inr x2), none, some (.inl x4), some (.inl (μ (x2 + 2) x5)), some (.inl x6), none, none]) rfl ?_
  exact (w_X5_matches_161  C hR hG30 hx1 hx2 h)
theorem w_X5_matches_30 {X : ZX} (C : zC X cX5_matches RX5 9 (some .boolean) 1 25 274) {K : Int → ZM → Prop} (hR : zRi X cX5_matches (some .boolean) 274 (KN (KI K)))  {x1 : Int} {x2 : Int} {x4 : Int} {x5 : Int} {x6 : Int} {μ : ZM}  (hx1 : z_tm x1) (hx2 : z_tm x2) (h : P_X5_matches_30   x1 x2 x4 x5 x6 μ K) : zV X 30 [some (.inr 236), some (.inr x1), some (.inr x2), none, some (.inl x4), some (.inl x5), some (.inl x6), none, none] [] 274 (z_ov μ) := by
  refine h (fun x5 x6 μ => zV X 30 [some (.inr 236), some (.inr x1), some (.inr x2), none, some (.inl x4), some (.inl x5), some (.inl x6), none, none] [] 274 (z_ov μ)) (fun x5 x6 μ h => ?_)
  refine v_iload (q := 32) C dX5_matches_30 rfl rfl ?_
  refine v_aloadn (q := 33) C dX5_matches_32 rfl rfl ?_
  refine u_getI (q := 36) C kl10 fl_X5_19 (ob_tm hx1) (pt_size hx1) rfl rfl dX5_matches_33 rfl ?_
  refine v_icmp_ge (q := 39) (tgt := 167) C dX5_matches_36 rfl rfl h (fun h => ?_) (fun h => ?_)
  · refine v_iconst (q := 168) C dX5_matches_167 rfl (by decide) ?_
    exact u_zret hR dX5_matches_168 h
  · refine v_iload (q := 41) C dX5_matches_39 rfl rfl ?_
    refine v_if_lt (q := 44) (tgt := 53) C dX5_matches_41 rfl rfl h (fun h => ?_) (fun h => ?_)
    · refine v_iconst (q := 54) C dX5_matches_53 rfl (by decide) ?_
      exact u_zret hR dX5_matches_54 h
    · refine v_iload (q := 46) C dX5_matches_44 rfl rfl ?_
      refine v_aloadn (q := 47) C dX5_matches_46 rfl rfl ?_
      refine u_getI (q := 50) C kl10 fl_X5_19 (ob_tm hx2) (pt_size hx2) rfl rfl dX5_matches_47 rfl ?_
      refine v_icmp_lt (q := 53) (tgt := 55) C dX5_matches_50 rfl rfl h (fun h => ?_) (fun h => ?_)
      · refine v_aloadn (q := 56) C dX5_matches_55 rfl rfl ?_
        refine u_getR (v := x1 + 1) (q := 59) C kl10 fl_X5_25 (ob_tm hx1) (pt_code hx1) (by omega) rfl rfl dX5_matches_56 rfl ?_
        refine v_iload (q := 61) C dX5_matches_59 rfl rfl ?_
        refine u_iald (q := 62) C (ia_code hx1) dX5_matches_61 rfl h (fun h => ?_)
        refine v_istore (q := 64) C dX5_matches_62 rfl (nb rfl) (L' := [some (.inr 236), some (.inr x1), some (.inr x2), none, some (.inl x4), some (.inl x5), some (.inl x6), some (.inl (μ (x1 + 1) x6)), none]) rfl ?_
        refine v_iload (q := 66) C dX5_matches_64 rfl rfl ?_
        refine v_bipush (q := 68) C dX5_matches_66 rfl (by decide) ?_
        refine u_isub (q := 69) C dX5_matches_68 rfl h (fun h => ?_)
        refine v_istore (q := 71) C dX5_matches_69 rfl (nb rfl) (L' := [some (.inr 236), some (.inr x1), some (.inr x2), none, some (.inl x4), some (.inl x5), some (.inl x6), some (.inl (μ (x1 + 1) x6)), some (.inl ((μ (x1 + 1) x6) - 120))]) rfl ?_
        refine v_iload (q := 73) C dX5_matches_71 rfl rfl ?_
        refine v_if_lt (q := 76) (tgt := 89) C dX5_matches_73 rfl rfl h (fun h => ?_) (fun h => ?_)
        · exact v_mask [true, true, true, false, true, true, true, true, false] rfl (w_X5_matches_89  C hR (fun _ _ _ h => h) hx1 hx2 h)
        · refine v_iload (q := 78) C dX5_matches_76 rfl rfl ?_
          refine v_iconst (q := 79) C dX5_matches_78 rfl (by decide) ?_
          refine v_icmp_ge (q := 82) (tgt := 89) C dX5_matches_79 rfl rfl h (fun h => ?_) (fun h => ?_)
          · exact v_mask [true, true, true, false, true, true, true, true, false] rfl (w_X5_matches_89  C hR (fun _ _ _ h => h) hx1 hx2 h)
          · refine v_iload (q := 84) C dX5_matches_82 rfl rfl ?_
            refine v_iload (q := 86) C dX5_matches_84 rfl rfl ?_
            refine v_icmp_ne (q := 89) (tgt := 109) C dX5_matches_86 rfl rfl h (fun h => ?_) (fun h => ?_)
            · exact v_mask [true, true, true, false, true, true, true, true, false] rfl (w_X5_matches_89  C hR (fun _ _ _ h => h) hx1 hx2 h)
            · refine v_aloadn (q := 110) C dX5_matches_109 rfl rfl ?_
              refine u_getR (q := 113) C kl5 fl_X5_9 ob_236 pt_236_1 (by decide) rfl rfl dX5_matches_110 rfl ?_
              refine v_iload (q := 115) C dX5_matches_113 rfl rfl ?_
              refine u_iald (q := 116) C ia_237 dX5_matches_115 rfl h (fun h => ?_)
              refine v_bipush (q := 118) C dX5_matches_116 rfl (by decide) ?_
              refine v_icmp_ne (q := 121) (tgt := 133) C dX5_matches_118 rfl rfl h (fun h => ?_) (fun h => ?_)
              · refine v_aloadn (q := 122) C dX5_matches_121 rfl rfl ?_
                refine u_getR (q := 125) C kl5 fl_X5_9 ob_236 pt_236_1 (by decide) rfl rfl dX5_matches_122 rfl ?_
                refine v_iload (q := 127) C dX5_matches_125 rfl rfl ?_
                refine v_iload (q := 129) C dX5_matches_127 rfl rfl ?_
                refine u_iast (q := 130) C ia_237 dX5_matches_129 rfl h (fun μ4 h => ?_)
                refine v_goto (q := 152) C dX5_matches_130 rfl ?_
                exact v_mask [true, true, true, false, true, true, true, false, false] rfl (w_X5_matches_152  C hR (fun _ _ _ h => h) hx1 hx2 h)
              · refine v_aloadn (q := 134) C dX5_matches_133 rfl rfl ?_
                refine v_aloadn (q := 135) C dX5_matches_134 rfl rfl ?_
                refine u_getR (q := 138) C kl5 fl_X5_9 ob_236 pt_236_1 (by decide) rfl rfl dX5_matches_135 rfl ?_
                refine v_iload (q := 140) C dX5_matches_138 rfl rfl ?_
                refine u_iald (q := 141) C ia_237 dX5_matches_140 rfl h (fun h => ?_)
                refine v_aloadn (q := 142) C dX5_matches_141 rfl rfl ?_
                refine v_iload (q := 144) C dX5_matches_142 rfl rfl ?_
                refine u_cVi3 (q := 147) C (c_X10_isSameAt h) sy_X10_isSameAt si_X10_isSameAt ml_X5_28 (ob_tm hx2) (by decide) so_X10_isSameAt ⟨nb rfl, nb rfl⟩ (nb rfl) dX5_matches_144 rfl (fun r6 μ5 h => ?_)
                refine v_if_ne (q := 150) (tgt := 152) C dX5_matches_147 rfl rfl h (fun h => ?_) (fun h => ?_)
                · refine v_iconst (q := 151) C dX5_matches_150 rfl (by decide) ?_
                  exact u_zret hR dX5_matches_151 h
                · exact v_mask [true, true, true, false, true, true, true, false, false] rfl (w_X5_matches_152  C hR (fun _ _ _ h => h) hx1 hx2 h)
      · refine v_iconst (q := 54) C dX5_matches_53 rfl (by decide) ?_
        exact u_zret hR dX5_matches_54 h
theorem c_X5_matches {x1 : Int} {x2 : Int} {x3 : Int} {x4 : Int} {μ : ZM} {K : Int → ZM → Prop} (h : P_X5_matches  x1 x2 x3 x4 μ K) : zMu yX5_matches cX5_matches 9 (some .boolean) 1 25 [.inr 236, .inr x1, .inr x2, .inl x3, .inl x4] μ (KI K) := by
  refine zMet_of (L0 := [some (.inr 236), some (.inr x1), some (.inr x2), some (.inl x3), some (.inl x4), none, none, none, none]) sy_X5_matches rfl (nb rfl) (Nat.le_refl _) (fun X C _ hR _ _ => ?_)
  have C : zC X cX5_matches RX5 9 (some .boolean) 1 25 274 := C
  have hx1 := h.1
  replace h := h.2
  have hx2 := h.1
  replace h := h.2
  refine v_aloadn (q := 1) C dX5_matches_0 rfl rfl ?_
  refine u_getR (q := 4) C kl5 fl_X5_9 ob_236 pt_236_1 (by decide) rfl rfl dX5_matches_1 rfl ?_
  refine v_iconst (q := 5) C dX5_matches_4 rfl (by decide) ?_
  refine v_bipush (q := 7) C dX5_matches_5 rfl (by decide) ?_
  refine u_iast (q := 8) C ia_237 dX5_matches_7 rfl h (fun μ1 h => ?_)
  refine v_aloadn (q := 9) C dX5_matches_8 rfl rfl ?_
  refine u_getR (q := 12) C kl5 fl_X5_9 ob_236 pt_236_1 (by decide) rfl rfl dX5_matches_9 rfl ?_
  refine v_iconst (q := 13) C dX5_matches_12 rfl (by decide) ?_
  refine v_bipush (q := 15) C dX5_matches_13 rfl (by decide) ?_
  refine u_iast (q := 16) C ia_237 dX5_matches_15 rfl h (fun μ2 h => ?_)
  refine v_aloadn (q := 17) C dX5_matches_16 rfl rfl ?_
  refine u_getR (q := 20) C kl5 fl_X5_9 ob_236 pt_236_1 (by decide) rfl rfl dX5_matches_17 rfl ?_
  refine v_iconst (q := 21) C dX5_matches_20 rfl (by decide) ?_
  refine v_bipush (q := 23) C dX5_matches_21 rfl (by decide) ?_
  refine u_iast (q := 24) C ia_237 dX5_matches_23 rfl h (fun μ3 h => ?_)
  refine v_iloadn (q := 25) C dX5_matches_24 rfl rfl ?_
  refine v_istore (q := 27) C dX5_matches_25 rfl (nb rfl) (L' := [some (.inr 236), some (.inr x1), some (.inr x2), some (.inl x3), some (.inl x4), some (.inl x3), none, none, none]) rfl ?_
  refine v_iconst (q := 28) C dX5_matches_27 rfl (by decide) ?_
  refine v_istore (q := 30) C dX5_matches_28 rfl (nb rfl) (L' := [some (.inr 236), some (.inr x1), some (.inr x2), some (.inl x3), some (.inl x4), some (.inl x3), some (.inl 0), none, none]) rfl ?_
  exact v_mask [true, true, true, false, true, true, true, false, false] rfl (w_X5_matches_30  C hR  hx1 hx2 h)
theorem c_X10_addRange {x0 : Int} {x1 : Int} {x2 : Int} {x3 : Int} {μ : ZM} {K : Int → ZM → Prop} (h : P_X10_addRange  x0 x1 x2 x3 μ K) : zMu yX10_addRange cX10_addRange 5 (some .boolean) 1 40 [.inr x0, .inr x1, .inl x2, .inl x3] μ (KI K) := by
  refine zMet_of (L0 := [some (.inr x0), some (.inr x1), some (.inl x2), some (.inl x3), none]) sy_X10_addRange rfl (nb rfl) (Nat.le_refl _) (fun X C _ hR _ _ => ?_)
  have C : zC X cX10_addRange RX10 5 (some .boolean) 1 40 274 := C
  have hx0 := h.1
  replace h := h.2
  have hx1 := h.1
  replace h := h.2
  refine v_iloadn (q := 1) C dX10_addRange_0 rfl rfl ?_
  refine v_iloadn (q := 2) C dX10_addRange_1 rfl rfl ?_
  refine u_isub (q := 3) C dX10_addRange_2 rfl h (fun h => ?_)
  refine v_istore (q := 5) C dX10_addRange_3 rfl (nb rfl) (L' := [some (.inr x0), some (.inr x1), some (.inl x2), some (.inl x3), some (.inl (x3 - x2))]) rfl ?_
  refine v_iloadn (q := 6) C dX10_addRange_5 rfl rfl ?_
  refine v_if_lt (q := 9) (tgt := 34) C dX10_addRange_6 rfl rfl h (fun h => ?_) (fun h => ?_)
  · refine v_iconst (q := 35) C dX10_addRange_34 rfl (by decide) ?_
    exact u_zret hR dX10_addRange_35 h
  · refine v_iload (q := 11) C dX10_addRange_9 rfl rfl ?_
    refine v_if_lt (q := 14) (tgt := 34) C dX10_addRange_11 rfl rfl h (fun h => ?_) (fun h => ?_)
    · refine v_iconst (q := 35) C dX10_addRange_34 rfl (by decide) ?_
      exact u_zret hR dX10_addRange_35 h
    · refine v_iloadn (q := 15) C dX10_addRange_14 rfl rfl ?_
      refine v_aloadn (q := 16) C dX10_addRange_15 rfl rfl ?_
      refine u_getI (q := 19) C kl10 fl_X10_18 (ob_tm hx1) (pt_size hx1) rfl rfl dX10_addRange_16 rfl ?_
      refine v_icmp_gt (q := 22) (tgt := 34) C dX10_addRange_19 rfl rfl h (fun h => ?_) (fun h => ?_)
      · refine v_iconst (q := 35) C dX10_addRange_34 rfl (by decide) ?_
        exact u_zret hR dX10_addRange_35 h
      · refine v_aloadn (q := 23) C dX10_addRange_22 rfl rfl ?_
        refine u_getI (q := 26) C kl10 fl_X10_18 (ob_tm hx0) (pt_size hx0) rfl rfl dX10_addRange_23 rfl ?_
        refine v_iload (q := 28) C dX10_addRange_26 rfl rfl ?_
        refine u_iadd (q := 29) C dX10_addRange_28 rfl h (fun h => ?_)
        refine v_bipush (q := 31) C dX10_addRange_29 rfl (by decide) ?_
        refine v_icmp_le (q := 34) (tgt := 36) C dX10_addRange_31 rfl rfl h (fun h => ?_) (fun h => ?_)
        · refine v_aloadn (q := 37) C dX10_addRange_36 rfl rfl ?_
          refine u_getR (v := x1 + 1) (q := 40) C kl10 fl_X10_9 (ob_tm hx1) (pt_code hx1) (by omega) rfl rfl dX10_addRange_37 rfl ?_
          refine v_iloadn (q := 41) C dX10_addRange_40 rfl rfl ?_
          refine v_aloadn (q := 42) C dX10_addRange_41 rfl rfl ?_
          refine u_getR (v := x0 + 1) (q := 45) C kl10 fl_X10_9 (ob_tm hx0) (pt_code hx0) (by omega) rfl rfl dX10_addRange_42 rfl ?_
          refine v_aloadn (q := 46) C dX10_addRange_45 rfl rfl ?_
          refine u_getI (q := 49) C kl10 fl_X10_18 (ob_tm hx0) (pt_size hx0) rfl rfl dX10_addRange_46 rfl ?_
          refine v_iload (q := 51) C dX10_addRange_49 rfl rfl ?_
          refine u_acopy (q := 54) C (ia_code hx1) (ia_code hx0) ml_X10_22 (nb rfl) (nb rfl) dX10_addRange_51 rfl h (fun μ1 h => ?_)
          refine v_aloadn (q := 55) C dX10_addRange_54 rfl rfl ?_
          refine v_dup (q := 56) C dX10_addRange_55 rfl ?_
          refine u_getI (q := 59) C kl10 fl_X10_18 (ob_tm hx0) (pt_size hx0) rfl rfl dX10_addRange_56 rfl ?_
          refine v_iload (q := 61) C dX10_addRange_59 rfl rfl ?_
          refine u_iadd (q := 62) C dX10_addRange_61 rfl h (fun h => ?_)
          refine u_put (q := 65) C kl10 fl_X10_18 (ob_tm hx0) (pt_size hx0) rfl rfl rfl rfl dX10_addRange_62 rfl h (fun μ2 h => ?_)
          refine v_iconst (q := 66) C dX10_addRange_65 rfl (by decide) ?_
          exact u_zret hR dX10_addRange_66 h
        · refine v_iconst (q := 35) C dX10_addRange_34 rfl (by decide) ?_
          exact u_zret hR dX10_addRange_35 h
theorem w_X5_replace_163 {X : ZX} (C : zC X cX5_replace RX5 10 (some .boolean) 2 64 274) {K : Int → ZM → Prop} (hR : zRi X cX5_replace (some .boolean) 274 (KN (KI K)))  {x4 : Int} {s0 : Int} {μ : ZM}  (hx4 : z_tm x4) (h : P_X5_replace_163   x4 s0 μ K) : zV X 163 [some (.inr 236), none, none, none, some (.inr x4), none, none, none, none, none] [.inl s0] 274 (z_ov μ) := by
  refine v_istore (q := 165) C dX5_replace_163 rfl (nb rfl) (L' := [some (.inr 236), none, none, none, some (.inr x4), some (.inl s0), none, none, none, none]) rfl ?_
  refine v_iload (q := 167) C dX5_replace_165 rfl rfl ?_
  refine v_if_eq (q := 170) (tgt := 182) C dX5_replace_167 rfl rfl h (fun h => ?_) (fun h => ?_)
  · refine v_iload (q := 184) C dX5_replace_182 rfl rfl ?_
    exact u_zret hR dX5_replace_184 h
  · refine v_aload (q := 172) C dX5_replace_170 rfl rfl ?_
    refine v_aloadn (q := 173) C dX5_replace_172 rfl rfl ?_
    refine u_getR (q := 176) C kl5 fl_X5_15 ob_236 pt_236_0 (by decide) rfl rfl dX5_replace_173 rfl ?_
    refine u_getR (q := 179) C kl3 fl_X5_50 ob_207 pt_207_3 (by decide) rfl rfl dX5_replace_176 rfl ?_
    refine u_cVv1 (q := 182) C (c_X10_close h) sy_X10_close si_X10_close ml_X5_55 (ob_tm hx4) (by decide) so_X10_close ⟨nb rfl, nb rfl⟩ (nb rfl) dX5_replace_179 rfl (fun μ4 h => ?_)
    refine v_iload (q := 184) C dX5_replace_182 rfl rfl ?_
    exact u_zret hR dX5_replace_184 h
theorem w_X5_replace_162 {X : ZX} (C : zC X cX5_replace RX5 10 (some .boolean) 2 64 274) {K : Int → ZM → Prop} (hR : zRi X cX5_replace (some .boolean) 274 (KN (KI K)))  {x4 : Int} {μ : ZM}  (hx4 : z_tm x4) (h : P_X5_replace_162   x4 μ K) : zV X 162 [some (.inr 236), none, none, none, some (.inr x4), none, none, none, none, none] [] 274 (z_ov μ) := by
  refine v_iconst (q := 163) C dX5_replace_162 rfl (by decide) ?_
  exact (w_X5_replace_163  C hR  hx4 h)
theorem w_X5_replace_134 {X : ZX} (C : zC X cX5_replace RX5 10 (some .boolean) 2 64 274) {K : Int → ZM → Prop} (hR : zRi X cX5_replace (some .boolean) 274 (KN (KI K)))  {x2 : Int} {x3 : Int} {x4 : Int} {x5 : Int} {μ : ZM}  (hx2 : z_tm x2) (hx4 : z_tm x4) (h : P_X5_replace_134   x2 x3 x4 x5 μ K) : zV X 134 [some (.inr 236), none, some (.inr x2), some (.inl x3), some (.inr x4), some (.inl x5), none, none, none, none] [] 274 (z_ov μ) := by
  refine v_iload (q := 136) C dX5_replace_134 rfl rfl ?_
  refine v_if_eq (q := 139) (tgt := 162) C dX5_replace_136 rfl rfl h (fun h => ?_) (fun h => ?_)
  · exact v_mask [true, false, false, false, true, false, false, false, false, false] rfl (w_X5_replace_162  C hR  hx4 h)
  · refine v_aload (q := 141) C dX5_replace_139 rfl rfl ?_
    refine v_aloadn (q := 142) C dX5_replace_141 rfl rfl ?_
    refine v_aloadn (q := 143) C dX5_replace_142 rfl rfl ?_
    refine u_getR (v := x2 + 2) (q := 146) C kl10 fl_X5_32 (ob_tm hx2) (pt_end hx2) (by omega) rfl rfl dX5_replace_143 rfl ?_
    refine v_iloadn (q := 147) C dX5_replace_146 rfl rfl ?_
    refine u_iald (q := 148) C (ia_end hx2) dX5_replace_147 rfl h (fun h => ?_)
    refine v_aloadn (q := 149) C dX5_replace_148 rfl rfl ?_
    refine u_getI (q := 152) C kl10 fl_X5_19 (ob_tm hx2) (pt_size hx2) rfl rfl dX5_replace_149 rfl ?_
    refine u_cVi3 (q := 155) C (c_X10_addRange h) sy_X10_addRange si_X10_addRange ml_X5_42 (ob_tm hx4) (by decide) so_X10_addRange ⟨nb rfl, nb rfl⟩ (nb rfl) dX5_replace_152 rfl (fun r6 μ5 h => ?_)
    refine v_if_eq (q := 158) (tgt := 162) C dX5_replace_155 rfl rfl h (fun h => ?_) (fun h => ?_)
    · exact v_mask [true, false, false, false, true, false, false, false, false, false] rfl (w_X5_replace_162  C hR  hx4 h)
    · refine v_iconst (q := 159) C dX5_replace_158 rfl (by decide) ?_
      refine v_goto (q := 163) C dX5_replace_159 rfl ?_
      exact v_mask [true, false, false, false, true, false, false, false, false, false] rfl (w_X5_replace_163  C hR  hx4 h)
theorem w_X5_replace_126 {X : ZX} (C : zC X cX5_replace RX5 10 (some .boolean) 2 64 274) {K : Int → ZM → Prop} (hR : zRi X cX5_replace (some .boolean) 274 (KN (KI K)))  {x1 : Int} {x2 : Int} {x3 : Int} {x4 : Int} {x6 : Int} {s0 : Int} {μ : ZM} {G32 : Int → Int → ZM → Prop} (hG32 : ∀ (x5 x6 : Int) (μ : ZM), G32 x5 x6 μ → zV X 32 [some (.inr 236), some (.inr x1), some (.inr x2), some (.inl x3), some (.inr x4), some (.inl x5), some (.inl x6), none, none, none] [] 274 (z_ov μ)) (hx1 : z_tm x1) (hx2 : z_tm x2) (hx4 : z_tm x4) (h : P_X5_replace_126  G32 x1 x2 x3 x4 x6 s0 μ K) : zV X 126 [some (.inr 236), some (.inr x1), some (.inr x2), some (.inl x3), some (.inr x4), none, some (.inl x6), none, none, none] [.inl s0] 274 (z_ov μ) := by
  refine v_istore (q := 128) C dX5_replace_126 rfl (nb rfl) (L' := [some (.inr 236), some (.inr x1), some (.inr x2), some (.inl x3), some (.inr x4), some (.inl s0), some (.inl x6), none, none, none]) rfl ?_
  refine u_iinc (q := 131) C dX5_replace_128 rfl (nb rfl) rfl (L' := [some (.inr 236), some (.inr x1), some (.inr x2), some (.inl x3), some (.inr x4), some (.inl s0), some (.inl (x6 + 1)), none, none, none]) rfl h (fun h => ?_)
  refine v_goto (q := 32) C dX5_replace_131 rfl ?_
  exact (hG32 _ _ _ h)
theorem w_X5_replace_119 {X : ZX} (C : zC X cX5_replace RX5 10 (some .boolean) 2 64 274) {K : Int → ZM → Prop} (hR : zRi X cX5_replace (some .boolean) 274 (KN (KI K)))  {x1 : Int} {x2 : Int} {x3 : Int} {x4 : Int} {x6 : Int} {x7 : Int} {μ : ZM} {G32 : Int → Int → ZM → Prop} (hG32 : ∀ (x5 x6 : Int) (μ : ZM), G32 x5 x6 μ → zV X 32 [some (.inr 236), some (.inr x1), some (.inr x2), some (.inl x3), some (.inr x4), some (.inl x5), some (.inl x6), none, none, none] [] 274 (z_ov μ)) (hx1 : z_tm x1) (hx2 : z_tm x2) (hx4 : z_tm x4) (h : P_X5_replace_119  G32 x1 x2 x3 x4 x6 x7 μ K) : zV X 119 [some (.inr 236), some (.inr x1), some (.inr x2), some (.inl x3), some (.inr x4), none, some (.inl x6), some (.inl x7), none, none] [] 274 (z_ov μ) := by
  refine v_aload (q := 121) C dX5_replace_119 rfl rfl ?_
  refine v_iload (q := 123) C dX5_replace_121 rfl rfl ?_
  refine u_cVi1 (q := 126) C (c_X10_add h) sy_X10_add si_X10_add ml_X5_46 (ob_tm hx4) (by decide) so_X10_add ⟨nb rfl, nb rfl⟩ (nb rfl) dX5_replace_123 rfl (fun r8 μ7 h => ?_)
  exact v_mask [true, true, true, true, true, false, true, false, false, false] rfl (w_X5_replace_126  C hR hG32 hx1 hx2 hx4 h)
theorem w_X5_replace_85 {X : ZX} (C : zC X cX5_replace RX5 10 (some .boolean) 2 64 274) {K : Int → ZM → Prop} (hR : zRi X cX5_replace (some .boolean) 274 (KN (KI K)))  {x1 : Int} {x2 : Int} {x3 : Int} {x4 : Int} {x6 : Int} {x7 : Int} {s0 : Int} {μ : ZM} {G32 : Int → Int → ZM → Prop} (hG32 : ∀ (x5 x6 : Int) (μ : ZM), G32 x5 x6 μ → zV X 32 [some (.inr 236), some (.inr x1), some (.inr x2), some (.inl x3), some (.inr x4), some (.inl x5), some (.inl x6), none, none, none] [] 274 (z_ov μ)) (hx1 : z_tm x1) (hx2 : z_tm x2) (hx4 : z_tm x4) (h : P_X5_replace_85  G32 x1 x2 x3 x4 x6 x7 s0 μ K) : zV X 85 [some (.inr 236), some (.inr x1), some (.inr x2), some (.inl x3), some (.inr x4), none, some (.inl x6), some (.inl x7), none, none] [.inl s0] 274 (z_ov μ) := by
  refine v_istore (q := 87) C dX5_replace_85 rfl (nb rfl) (L' := [some (.inr 236), some (.inr x1), some (.inr x2), some (.inl x3), some (.inr x4), none, some (.inl x6), some (.inl x7), none, some (.inl s0)]) rfl ?_
  refine v_iload (q := 89) C dX5_replace_87 rfl rfl ?_
  refine v_if_lt (q := 92) (tgt := 119) C dX5_replace_89 rfl rfl h (fun h => ?_) (fun h => ?_)
  · exact v_mask [true, true, true, true, true, false, true, true, false, false] rfl (w_X5_replace_119  C hR hG32 hx1 hx2 hx4 h)
  · refine v_iload (q := 94) C dX5_replace_92 rfl rfl ?_
    refine v_aloadn (q := 95) C dX5_replace_94 rfl rfl ?_
    refine u_getI (q := 98) C kl10 fl_X5_19 (ob_tm hx2) (pt_size hx2) rfl rfl dX5_replace_95 rfl ?_
    refine v_icmp_ge (q := 101) (tgt := 119) C dX5_replace_98 rfl rfl h (fun h => ?_) (fun h => ?_)
    · exact v_mask [true, true, true, true, true, false, true, true, false, false] rfl (w_X5_replace_119  C hR hG32 hx1 hx2 hx4 h)
    · refine v_aload (q := 103) C dX5_replace_101 rfl rfl ?_
      refine v_aloadn (q := 104) C dX5_replace_103 rfl rfl ?_
      refine v_iload (q := 106) C dX5_replace_104 rfl rfl ?_
      refine v_aloadn (q := 107) C dX5_replace_106 rfl rfl ?_
      refine u_getR (v := x2 + 2) (q := 110) C kl10 fl_X5_32 (ob_tm hx2) (pt_end hx2) (by omega) rfl rfl dX5_replace_107 rfl ?_
      refine v_iload (q := 112) C dX5_replace_110 rfl rfl ?_
      refine u_iald (q := 113) C (ia_end hx2) dX5_replace_112 rfl h (fun h => ?_)
      refine u_cVi3 (q := 116) C (c_X10_addRange h) sy_X10_addRange si_X10_addRange ml_X5_42 (ob_tm hx4) (by decide) so_X10_addRange ⟨nb rfl, nb rfl⟩ (nb rfl) dX5_replace_113 rfl (fun r10 μ9 h => ?_)
      refine v_goto (q := 126) C dX5_replace_116 rfl ?_
      exact v_mask [true, true, true, true, true, false, true, false, false, false] rfl (w_X5_replace_126  C hR hG32 hx1 hx2 hx4 h)
theorem w_X5_replace_83 {X : ZX} (C : zC X cX5_replace RX5 10 (some .boolean) 2 64 274) {K : Int → ZM → Prop} (hR : zRi X cX5_replace (some .boolean) 274 (KN (KI K)))  {x1 : Int} {x2 : Int} {x3 : Int} {x4 : Int} {x6 : Int} {x7 : Int} {μ : ZM} {G32 : Int → Int → ZM → Prop} (hG32 : ∀ (x5 x6 : Int) (μ : ZM), G32 x5 x6 μ → zV X 32 [some (.inr 236), some (.inr x1), some (.inr x2), some (.inl x3), some (.inr x4), some (.inl x5), some (.inl x6), none, none, none] [] 274 (z_ov μ)) (hx1 : z_tm x1) (hx2 : z_tm x2) (hx4 : z_tm x4) (h : P_X5_replace_83  G32 x1 x2 x3 x4 x6 x7 μ K) : zV X 83 [some (.inr 236), some (.inr x1), some (.inr x2), some (.inl x3), some (.inr x4), none, some (.inl x6), some (.inl x7), none, none] [] 274 (z_ov μ) := by
  refine v_bipush (q := 85) C dX5_replace_83 rfl (by decide) ?_
  exact (w_X5_replace_85  C hR hG32 hx1 hx2 hx4 h)
theorem w_X5_replace_32 {X : ZX} (C : zC X cX5_replace RX5 10 (some .boolean) 2 64 274) {K : Int → ZM → Prop} (hR : zRi X cX5_replace (some .boolean) 274 (KN (KI K)))  {x1 : Int} {x2 : Int} {x3 : Int} {x4 : Int} {x5 : Int} {x6 : Int} {μ : ZM}  (hx1 : z_tm x1) (hx2 : z_tm x2) (hx4 : z_tm x4) (h : P_X5_replace_32   x1 x2 x3 x4 x5 x6 μ K) : zV X 32 [some (.inr 236), some (.inr x1), some (.inr x2), some (.inl x3), some (.inr x4), some (.inl x5), some (.inl x6), none, none, none] [] 274 (z_ov μ) := by
  refine h (fun x5 x6 μ => zV X 32 [some (.inr 236), some (.inr x1), some (.inr x2), some (.inl x3), some (.inr x4), some (.inl x5), some (.inl x6), none, none, none] [] 274 (z_ov μ)) (fun x5 x6 μ h => ?_)
  refine v_iload (q := 34) C dX5_replace_32 rfl rfl ?_
  refine v_aloadn (q := 35) C dX5_replace_34 rfl rfl ?_
  refine u_getI (q := 38) C kl10 fl_X5_19 (ob_tm hx1) (pt_size hx1) rfl rfl dX5_replace_35 rfl ?_
  refine v_icmp_ge (q := 41) (tgt := 134) C dX5_replace_38 rfl rfl h (fun h => ?_) (fun h => ?_)
  · exact v_mask [true, false, true, true, true, true, false, false, false, false] rfl (w_X5_replace_134  C hR  hx2 hx4 h)
  · refine v_iload (q := 43) C dX5_replace_41 rfl rfl ?_
    refine v_if_eq (q := 46) (tgt := 134) C dX5_replace_43 rfl rfl h (fun h => ?_) (fun h => ?_)
    · exact v_mask [true, false, true, true, true, true, false, false, false, false] rfl (w_X5_replace_134  C hR  hx2 hx4 h)
    · refine v_aloadn (q := 47) C dX5_replace_46 rfl rfl ?_
      refine u_getR (v := x1 + 1) (q := 50) C kl10 fl_X5_25 (ob_tm hx1) (pt_code hx1) (by omega) rfl rfl dX5_replace_47 rfl ?_
      refine v_iload (q := 52) C dX5_replace_50 rfl rfl ?_
      refine u_iald (q := 53) C (ia_code hx1) dX5_replace_52 rfl h (fun h => ?_)
      refine v_istore (q := 55) C dX5_replace_53 rfl (nb rfl) (L' := [some (.inr 236), some (.inr x1), some (.inr x2), some (.inl x3), some (.inr x4), some (.inl x5), some (.inl x6), some (.inl (μ (x1 + 1) x6)), none, none]) rfl ?_
      refine v_iload (q := 57) C dX5_replace_55 rfl rfl ?_
      refine v_bipush (q := 59) C dX5_replace_57 rfl (by decide) ?_
      refine u_isub (q := 60) C dX5_replace_59 rfl h (fun h => ?_)
      refine v_istore (q := 62) C dX5_replace_60 rfl (nb rfl) (L' := [some (.inr 236), some (.inr x1), some (.inr x2), some (.inl x3), some (.inr x4), some (.inl x5), some (.inl x6), some (.inl (μ (x1 + 1) x6)), some (.inl ((μ (x1 + 1) x6) - 120)), none]) rfl ?_
      refine v_iload (q := 64) C dX5_replace_62 rfl rfl ?_
      refine v_if_lt (q := 67) (tgt := 83) C dX5_replace_64 rfl rfl h (fun h => ?_) (fun h => ?_)
      · exact v_mask [true, true, true, true, true, false, true, true, false, false] rfl (w_X5_replace_83  C hR (fun _ _ _ h => h) hx1 hx2 hx4 h)
      · refine v_iload (q := 69) C dX5_replace_67 rfl rfl ?_
        refine v_iconst (q := 70) C dX5_replace_69 rfl (by decide) ?_
        refine v_icmp_ge (q := 73) (tgt := 83) C dX5_replace_70 rfl rfl h (fun h => ?_) (fun h => ?_)
        · exact v_mask [true, true, true, true, true, false, true, true, false, false] rfl (w_X5_replace_83  C hR (fun _ _ _ h => h) hx1 hx2 hx4 h)
        · refine v_aloadn (q := 74) C dX5_replace_73 rfl rfl ?_
          refine u_getR (q := 77) C kl5 fl_X5_9 ob_236 pt_236_1 (by decide) rfl rfl dX5_replace_74 rfl ?_
          refine v_iload (q := 79) C dX5_replace_77 rfl rfl ?_
          refine u_iald (q := 80) C ia_237 dX5_replace_79 rfl h (fun h => ?_)
          refine v_goto (q := 85) C dX5_replace_80 rfl ?_
          exact v_mask [true, true, true, true, true, false, true, true, false, false] rfl (w_X5_replace_85  C hR (fun _ _ _ h => h) hx1 hx2 hx4 h)
theorem c_X5_replace {x1 : Int} {x2 : Int} {x3 : Int} {x4 : Int} {μ : ZM} {K : Int → ZM → Prop} (h : P_X5_replace  x1 x2 x3 x4 μ K) : zMu yX5_replace cX5_replace 10 (some .boolean) 2 64 [.inr 236, .inr x1, .inr x2, .inl x3, .inr x4] μ (KI K) := by
  refine zMet_of (L0 := [some (.inr 236), some (.inr x1), some (.inr x2), some (.inl x3), some (.inr x4), none, none, none, none, none]) sy_X5_replace rfl (nb rfl) (Nat.le_refl _) (fun X C _ hR _ _ => ?_)
  have C : zC X cX5_replace RX5 10 (some .boolean) 2 64 274 := C
  have hx1 := h.1
  replace h := h.2
  have hx2 := h.1
  replace h := h.2
  have hx4 := h.1
  replace h := h.2
  refine v_iloadn (q := 1) C dX5_replace_0 rfl rfl ?_
  refine v_if_lt (q := 4) (tgt := 12) C dX5_replace_1 rfl rfl h (fun h => ?_) (fun h => ?_)
  · refine v_iconst (q := 13) C dX5_replace_12 rfl (by decide) ?_
    exact u_zret hR dX5_replace_13 h
  · refine v_iloadn (q := 5) C dX5_replace_4 rfl rfl ?_
    refine v_aloadn (q := 6) C dX5_replace_5 rfl rfl ?_
    refine u_getI (q := 9) C kl10 fl_X5_19 (ob_tm hx2) (pt_size hx2) rfl rfl dX5_replace_6 rfl ?_
    refine v_icmp_lt (q := 12) (tgt := 14) C dX5_replace_9 rfl rfl h (fun h => ?_) (fun h => ?_)
    · refine v_aload (q := 16) C dX5_replace_14 rfl rfl ?_
      refine u_cVv0 (q := 19) C (c_X10_empty h) sy_X10_empty si_X10_empty ml_X5_39 (ob_tm hx4) (by decide) so_X10_empty ⟨nb rfl, nb rfl⟩ (nb rfl) dX5_replace_16 rfl (fun μ1 h => ?_)
      refine v_aload (q := 21) C dX5_replace_19 rfl rfl ?_
      refine v_aloadn (q := 22) C dX5_replace_21 rfl rfl ?_
      refine v_iconst (q := 23) C dX5_replace_22 rfl (by decide) ?_
      refine v_iloadn (q := 24) C dX5_replace_23 rfl rfl ?_
      refine u_cVi3 (q := 27) C (c_X10_addRange h) sy_X10_addRange si_X10_addRange ml_X5_42 (ob_tm hx4) (by decide) so_X10_addRange ⟨nb rfl, nb rfl⟩ (nb rfl) dX5_replace_24 rfl (fun r3 μ2 h => ?_)
      refine v_istore (q := 29) C dX5_replace_27 rfl (nb rfl) (L' := [some (.inr 236), some (.inr x1), some (.inr x2), some (.inl x3), some (.inr x4), some (.inl r3), none, none, none, none]) rfl ?_
      refine v_iconst (q := 30) C dX5_replace_29 rfl (by decide) ?_
      refine v_istore (q := 32) C dX5_replace_30 rfl (nb rfl) (L' := [some (.inr 236), some (.inr x1), some (.inr x2), some (.inl x3), some (.inr x4), some (.inl r3), some (.inl 0), none, none, none]) rfl ?_
      exact (w_X5_replace_32  C hR  hx1 hx2 hx4 h)
    · refine v_iconst (q := 13) C dX5_replace_12 rfl (by decide) ?_
      exact u_zret hR dX5_replace_13 h
theorem c_X4_rewrites {x1 : Int} {x2 : Int} {x3 : Int} {x4 : Int} {μ : ZM} {K : Int → ZM → Prop} (h : P_X4_rewrites  x1 x2 x3 x4 μ K) : zMu yX4_rewrites cX4_rewrites 7 (some .boolean) 3 93 [.inr 238, .inr x1, .inl x2, .inr x3, .inl x4] μ (KI K) := by
  refine zMet_of (L0 := [some (.inr 238), some (.inr x1), some (.inl x2), some (.inr x3), some (.inl x4), none, none]) sy_X4_rewrites rfl (nb rfl) (Nat.le_refl _) (fun X C _ hR _ _ => ?_)
  have C : zC X cX4_rewrites RX4 7 (some .boolean) 3 93 274 := C
  have hx1 := h.1
  replace h := h.2
  have hx3 := h.1
  replace h := h.2
  refine v_aloadn (q := 1) C dX4_rewrites_0 rfl rfl ?_
  refine v_iload (q := 3) C dX4_rewrites_1 rfl rfl ?_
  refine u_cVa1 (q := 6) C (c_X0_part h) sy_X0_part si_X0_part ml_X4_65 (ob_cm hx3) (by decide) so_X0_part ⟨nb rfl, nb rfl⟩ (nb rfl) dX4_rewrites_3 rfl (fun r2 μ1 h => ?_)
  have hf3 := h.1
  replace h := h.2
  refine v_astore (q := 8) C dX4_rewrites_6 rfl (nb rfl) (L' := [some (.inr 238), some (.inr x1), some (.inl x2), some (.inr x3), some (.inl x4), some (.inr r2), none]) rfl ?_
  refine v_aloadn (q := 9) C dX4_rewrites_8 rfl rfl ?_
  refine v_iconst (q := 10) C dX4_rewrites_9 rfl (by decide) ?_
  refine v_iload (q := 12) C dX4_rewrites_10 rfl rfl ?_
  refine u_isub (q := 13) C dX4_rewrites_12 rfl h (fun h => ?_)
  refine u_cVa1 (q := 16) C (c_X0_part h) sy_X0_part si_X0_part ml_X4_65 (ob_cm hx3) (by decide) so_X0_part ⟨nb rfl, nb rfl⟩ (nb rfl) dX4_rewrites_13 rfl (fun r5 μ4 h => ?_)
  have hf6 := h.1
  replace h := h.2
  refine v_astore (q := 18) C dX4_rewrites_16 rfl (nb rfl) (L' := [some (.inr 238), some (.inr x1), some (.inl x2), some (.inr x3), some (.inl x4), some (.inr r2), some (.inr r5)]) rfl ?_
  refine v_aloadn (q := 19) C dX4_rewrites_18 rfl rfl ?_
  refine u_getR (q := 22) C kl4 fl_X4_28 ob_238 pt_238_3 (by decide) rfl rfl dX4_rewrites_19 rfl ?_
  refine v_aload (q := 24) C dX4_rewrites_22 rfl rfl ?_
  refine v_aloadn (q := 25) C dX4_rewrites_24 rfl rfl ?_
  refine v_iloadn (q := 26) C dX4_rewrites_25 rfl rfl ?_
  refine v_bipush (q := 28) C dX4_rewrites_26 rfl (by decide) ?_
  refine u_cVi4 (q := 31) C (c_X5_matches h) sy_X5_matches si_X5_matches ml_X4_69 ob_236 (by decide) so_X5_matches ⟨nb rfl, nb rfl⟩ (nb rfl) dX4_rewrites_28 rfl (fun r8 μ7 h => ?_)
  refine v_if_eq (q := 34) (tgt := 66) C dX4_rewrites_31 rfl rfl h (fun h => ?_) (fun h => ?_)
  · refine v_iconst (q := 67) C dX4_rewrites_66 rfl (by decide) ?_
    exact u_zret hR dX4_rewrites_67 h
  · refine v_aload (q := 36) C dX4_rewrites_34 rfl rfl ?_
    refine v_aload (q := 38) C dX4_rewrites_36 rfl rfl ?_
    refine u_cSi2 (q := 41) C (c_X4_isUsable h) sy_X4_isUsable ss_X4_isUsable ml_X4_75 ⟨nb rfl, nb rfl⟩ (nb rfl) dX4_rewrites_38 rfl (fun r10 μ9 h => ?_)
    refine v_if_eq (q := 44) (tgt := 66) C dX4_rewrites_41 rfl rfl h (fun h => ?_) (fun h => ?_)
    · refine v_iconst (q := 67) C dX4_rewrites_66 rfl (by decide) ?_
      exact u_zret hR dX4_rewrites_67 h
    · refine v_aloadn (q := 45) C dX4_rewrites_44 rfl rfl ?_
      refine u_getR (q := 48) C kl4 fl_X4_28 ob_238 pt_238_3 (by decide) rfl rfl dX4_rewrites_45 rfl ?_
      refine v_aload (q := 50) C dX4_rewrites_48 rfl rfl ?_
      refine v_aloadn (q := 51) C dX4_rewrites_50 rfl rfl ?_
      refine v_iloadn (q := 52) C dX4_rewrites_51 rfl rfl ?_
      refine v_aloadn (q := 53) C dX4_rewrites_52 rfl rfl ?_
      refine u_getR (q := 56) C kl4 fl_X4_20 ob_238 pt_238_4 (by decide) rfl rfl dX4_rewrites_53 rfl ?_
      refine u_cVi4 (q := 59) C (c_X5_replace h) sy_X5_replace si_X5_replace ml_X4_79 ob_236 (by decide) so_X5_replace ⟨nb rfl, nb rfl⟩ (nb rfl) dX4_rewrites_56 rfl (fun r12 μ11 h => ?_)
      refine v_if_eq (q := 62) (tgt := 66) C dX4_rewrites_59 rfl rfl h (fun h => ?_) (fun h => ?_)
      · refine v_iconst (q := 67) C dX4_rewrites_66 rfl (by decide) ?_
        exact u_zret hR dX4_rewrites_67 h
      · refine v_iconst (q := 63) C dX4_rewrites_62 rfl (by decide) ?_
        refine v_goto (q := 67) C dX4_rewrites_63 rfl ?_
        exact u_zret hR dX4_rewrites_67 h
theorem w_X4_ripple_132 {X : ZX} (C : zC X cX4_ripple RX4 8 (some .int) 4 119 274) {K : Int → ZM → Prop} (hR : zRi X cX4_ripple (some .int) 274 (KN (KI K)))  {x1 : Int} {x2 : Int} {x3 : Int} {x4 : Int} {μ : ZM} {G13 : Int → ZM → Prop} (hG13 : ∀ (x4 : Int) (μ : ZM), G13 x4 μ → zV X 13 [some (.inr 238), some (.inr x1), some (.inr x2), some (.inl x3), some (.inl x4), none, none, none] [] 274 (z_ov μ)) (hx1 : z_tm x1) (hx2 : z_tm x2) (h : P_X4_ripple_132  G13 x1 x2 x3 x4 μ K) : zV X 132 [some (.inr 238), some (.inr x1), some (.inr x2), some (.inl x3), some (.inl x4), none, none, none] [] 274 (z_ov μ) := by
  refine u_iinc (q := 135) C dX4_ripple_132 rfl (nb rfl) rfl (L' := [some (.inr 238), some (.inr x1), some (.inr x2), some (.inl x3), some (.inl (x4 + 1)), none, none, none]) rfl h (fun h => ?_)
  refine v_goto (q := 13) C dX4_ripple_135 rfl ?_
  exact (hG13 _ _ h)
theorem w_X4_ripple_120 {X : ZX} (C : zC X cX4_ripple RX4 8 (some .int) 4 119 274) {K : Int → ZM → Prop} (hR : zRi X cX4_ripple (some .int) 274 (KN (KI K)))  {x1 : Int} {x2 : Int} {x3 : Int} {x4 : Int} {x5 : Int} {x6 : Int} {μ : ZM} {G13 : Int → ZM → Prop} (hG13 : ∀ (x4 : Int) (μ : ZM), G13 x4 μ → zV X 13 [some (.inr 238), some (.inr x1), some (.inr x2), some (.inl x3), some (.inl x4), none, none, none] [] 274 (z_ov μ)) {G29 : Int → ZM → Prop} (hG29 : ∀ (x5 : Int) (μ : ZM), G29 x5 μ → zV X 29 [some (.inr 238), some (.inr x1), some (.inr x2), some (.inl x3), some (.inl x4), some (.inl x5), none, none] [] 274 (z_ov μ)) {G48 : Int → ZM → Prop} (hG48 : ∀ (x6 : Int) (μ : ZM), G48 x6 μ → zV X 48 [some (.inr 238), some (.inr x1), some (.inr x2), some (.inl x3), some (.inl x4), some (.inl x5), some (.inl x6), none] [] 274 (z_ov μ)) (hx1 : z_tm x1) (hx2 : z_tm x2) (h : P_X4_ripple_120  G13 G29 G48 x1 x2 x3 x4 x5 x6 μ K) : zV X 120 [some (.inr 238), some (.inr x1), some (.inr x2), some (.inl x3), some (.inl x4), some (.inl x5), some (.inl x6), none] [] 274 (z_ov μ) := by
  refine u_iinc (q := 123) C dX4_ripple_120 rfl (nb rfl) rfl (L' := [some (.inr 238), some (.inr x1), some (.inr x2), some (.inl x3), some (.inl x4), some (.inl x5), some (.inl (x6 + 1)), none]) rfl h (fun h => ?_)
  refine v_goto (q := 48) C dX4_ripple_123 rfl ?_
  exact (hG48 _ _ h)
theorem w_X4_ripple_48 {X : ZX} (C : zC X cX4_ripple RX4 8 (some .int) 4 119 274) {K : Int → ZM → Prop} (hR : zRi X cX4_ripple (some .int) 274 (KN (KI K)))  {x1 : Int} {x2 : Int} {x3 : Int} {x4 : Int} {x5 : Int} {x6 : Int} {μ : ZM} {G13 : Int → ZM → Prop} (hG13 : ∀ (x4 : Int) (μ : ZM), G13 x4 μ → zV X 13 [some (.inr 238), some (.inr x1), some (.inr x2), some (.inl x3), some (.inl x4), none, none, none] [] 274 (z_ov μ)) {G29 : Int → ZM → Prop} (hG29 : ∀ (x5 : Int) (μ : ZM), G29 x5 μ → zV X 29 [some (.inr 238), some (.inr x1), some (.inr x2), some (.inl x3), some (.inl x4), some (.inl x5), none, none] [] 274 (z_ov μ)) (hx1 : z_tm x1) (hx2 : z_tm x2) (h : P_X4_ripple_48  G13 G29 x1 x2 x3 x4 x5 x6 μ K) : zV X 48 [some (.inr 238), some (.inr x1), some (.inr x2), some (.inl x3), some (.inl x4), some (.inl x5), some (.inl x6), none] [] 274 (z_ov μ) := by
  refine h (fun x6 μ => zV X 48 [some (.inr 238), some (.inr x1), some (.inr x2), some (.inl x3), some (.inl x4), some (.inl x5), some (.inl x6), none] [] 274 (z_ov μ)) (fun x6 μ h => ?_)
  refine v_iload (q := 50) C dX4_ripple_48 rfl rfl ?_
  refine v_iconst (q := 51) C dX4_ripple_50 rfl (by decide) ?_
  refine v_icmp_gt (q := 54) (tgt := 126) C dX4_ripple_51 rfl rfl h (fun h => ?_) (fun h => ?_)
  · refine u_iinc (q := 129) C dX4_ripple_126 rfl (nb rfl) rfl (L' := [some (.inr 238), some (.inr x1), some (.inr x2), some (.inl x3), some (.inl x4), some (.inl (x5 + 1)), some (.inl x6), none]) rfl h (fun h => ?_)
    refine v_goto (q := 29) C dX4_ripple_129 rfl ?_
    exact v_mask [true, true, true, true, true, true, false, false] rfl (hG29 _ _ h)
  · refine v_aloadn (q := 55) C dX4_ripple_54 rfl rfl ?_
    refine v_aloadn (q := 56) C dX4_ripple_55 rfl rfl ?_
    refine v_iload (q := 58) C dX4_ripple_56 rfl rfl ?_
    refine v_aloadn (q := 59) C dX4_ripple_58 rfl rfl ?_
    refine u_getR (q := 62) C kl4 fl_X4_11 ob_238 pt_238_0 (by decide) rfl rfl dX4_ripple_59 rfl ?_
    refine v_iload (q := 64) C dX4_ripple_62 rfl rfl ?_
    have hb3 := h.1
    refine u_fald (v := 187 + 1 * x5) (q := 65) C fa_239 (Or.inr rfl) dX4_ripple_64 rfl h (fun h9 => ⟨fe_239 h9, by omega⟩) (fun h => ?_)
    have hf4 : z_cm (187 + 1 * x5) := by omega
    refine v_iload (q := 67) C dX4_ripple_65 rfl rfl ?_
    refine u_cVi4 (q := 70) C (c_X4_rewrites h) sy_X4_rewrites si_X4_rewrites ml_X4_58 ob_238 (by decide) so_X4_rewrites ⟨nb rfl, nb rfl⟩ (nb rfl) dX4_ripple_67 rfl (fun r6 μ5 h => ?_)
    refine v_if_ne (q := 73) (tgt := 76) C dX4_ripple_70 rfl rfl h (fun h => ?_) (fun h => ?_)
    · refine v_goto (q := 120) C dX4_ripple_73 rfl ?_
      exact (w_X4_ripple_120  C hR hG13 hG29 (fun _ _ h => h) hx1 hx2 h)
    · refine v_aloadn (q := 77) C dX4_ripple_76 rfl rfl ?_
      refine u_getR (q := 80) C kl4 fl_X4_24 ob_238 pt_238_2 (by decide) rfl rfl dX4_ripple_77 rfl ?_
      refine v_aloadn (q := 81) C dX4_ripple_80 rfl rfl ?_
      refine u_getR (q := 84) C kl4 fl_X4_20 ob_238 pt_238_4 (by decide) rfl rfl dX4_ripple_81 rfl ?_
      refine v_aloadn (q := 85) C dX4_ripple_84 rfl rfl ?_
      refine u_cVi2 (q := 88) C (c_X1_smallest h) sy_X1_smallest si_X1_smallest ml_X4_49 ob_233 (by decide) so_X1_smallest ⟨nb rfl, nb rfl⟩ (nb rfl) dX4_ripple_85 rfl (fun r8 μ7 h => ?_)
      refine v_istore (q := 90) C dX4_ripple_88 rfl (nb rfl) (L' := [some (.inr 238), some (.inr x1), some (.inr x2), some (.inl x3), some (.inl x4), some (.inl x5), some (.inl x6), some (.inl r8)]) rfl ?_
      refine v_iload (q := 92) C dX4_ripple_90 rfl rfl ?_
      refine v_bipush (q := 94) C dX4_ripple_92 rfl (by decide) ?_
      refine v_icmp_eq (q := 97) (tgt := 120) C dX4_ripple_94 rfl rfl h (fun h => ?_) (fun h => ?_)
      · exact v_mask [true, true, true, true, true, true, true, false] rfl (w_X4_ripple_120  C hR hG13 hG29 (fun _ _ h => h) hx1 hx2 h)
      · refine v_iload (q := 99) C dX4_ripple_97 rfl rfl ?_
        refine v_iloadn (q := 100) C dX4_ripple_99 rfl rfl ?_
        refine v_icmp_ge (q := 103) (tgt := 120) C dX4_ripple_100 rfl rfl h (fun h => ?_) (fun h => ?_)
        · exact v_mask [true, true, true, true, true, true, true, false] rfl (w_X4_ripple_120  C hR hG13 hG29 (fun _ _ h => h) hx1 hx2 h)
        · refine v_aloadn (q := 104) C dX4_ripple_103 rfl rfl ?_
          refine v_aloadn (q := 105) C dX4_ripple_104 rfl rfl ?_
          refine u_getR (q := 108) C kl4 fl_X4_20 ob_238 pt_238_4 (by decide) rfl rfl dX4_ripple_105 rfl ?_
          refine u_cVv1 (q := 111) C (c_X10_copy h) sy_X10_copy si_X10_copy ml_X4_62 (ob_tm hx1) (by decide) so_X10_copy ⟨nb rfl, nb rfl⟩ (nb rfl) dX4_ripple_108 rfl (fun μ9 h => ?_)
          refine v_bipush (q := 113) C dX4_ripple_111 rfl (by decide) ?_
          refine v_iload (q := 115) C dX4_ripple_113 rfl rfl ?_
          refine u_imul (q := 116) C dX4_ripple_115 rfl h (fun h => ?_)
          refine v_iload (q := 118) C dX4_ripple_116 rfl rfl ?_
          refine u_iadd (q := 119) C dX4_ripple_118 rfl h (fun h => ?_)
          exact u_iret hR dX4_ripple_119 h
theorem w_X4_ripple_29 {X : ZX} (C : zC X cX4_ripple RX4 8 (some .int) 4 119 274) {K : Int → ZM → Prop} (hR : zRi X cX4_ripple (some .int) 274 (KN (KI K)))  {x1 : Int} {x2 : Int} {x3 : Int} {x4 : Int} {x5 : Int} {μ : ZM} {G13 : Int → ZM → Prop} (hG13 : ∀ (x4 : Int) (μ : ZM), G13 x4 μ → zV X 13 [some (.inr 238), some (.inr x1), some (.inr x2), some (.inl x3), some (.inl x4), none, none, none] [] 274 (z_ov μ)) (hx1 : z_tm x1) (hx2 : z_tm x2) (h : P_X4_ripple_29  G13 x1 x2 x3 x4 x5 μ K) : zV X 29 [some (.inr 238), some (.inr x1), some (.inr x2), some (.inl x3), some (.inl x4), some (.inl x5), none, none] [] 274 (z_ov μ) := by
  refine h (fun x5 μ => zV X 29 [some (.inr 238), some (.inr x1), some (.inr x2), some (.inl x3), some (.inl x4), some (.inl x5), none, none] [] 274 (z_ov μ)) (fun x5 μ h => ?_)
  refine v_iload (q := 31) C dX4_ripple_29 rfl rfl ?_
  refine v_aloadn (q := 32) C dX4_ripple_31 rfl rfl ?_
  refine u_getI (q := 35) C kl4 fl_X4_37 ob_238 pt_238_1 rfl rfl dX4_ripple_32 rfl ?_
  refine v_icmp_ge (q := 38) (tgt := 132) C dX4_ripple_35 rfl rfl h (fun h => ?_) (fun h => ?_)
  · exact v_mask [true, true, true, true, true, false, false, false] rfl (w_X4_ripple_132  C hR hG13 hx1 hx2 h)
  · refine v_iload (q := 40) C dX4_ripple_38 rfl rfl ?_
    refine v_bipush (q := 42) C dX4_ripple_40 rfl (by decide) ?_
    refine v_icmp_ge (q := 45) (tgt := 132) C dX4_ripple_42 rfl rfl h (fun h => ?_) (fun h => ?_)
    · exact v_mask [true, true, true, true, true, false, false, false] rfl (w_X4_ripple_132  C hR hG13 hx1 hx2 h)
    · refine v_iconst (q := 46) C dX4_ripple_45 rfl (by decide) ?_
      refine v_istore (q := 48) C dX4_ripple_46 rfl (nb rfl) (L' := [some (.inr 238), some (.inr x1), some (.inr x2), some (.inl x3), some (.inl x4), some (.inl x5), some (.inl 0), none]) rfl ?_
      exact (w_X4_ripple_48  C hR hG13 (fun _ _ h => h) hx1 hx2 h)
theorem w_X4_ripple_13 {X : ZX} (C : zC X cX4_ripple RX4 8 (some .int) 4 119 274) {K : Int → ZM → Prop} (hR : zRi X cX4_ripple (some .int) 274 (KN (KI K)))  {x1 : Int} {x2 : Int} {x3 : Int} {x4 : Int} {μ : ZM}  (hx1 : z_tm x1) (hx2 : z_tm x2) (h : P_X4_ripple_13   x1 x2 x3 x4 μ K) : zV X 13 [some (.inr 238), some (.inr x1), some (.inr x2), some (.inl x3), some (.inl x4), none, none, none] [] 274 (z_ov μ) := by
  refine h (fun x4 μ => zV X 13 [some (.inr 238), some (.inr x1), some (.inr x2), some (.inl x3), some (.inl x4), none, none, none] [] 274 (z_ov μ)) (fun x4 μ h => ?_)
  refine v_iload (q := 15) C dX4_ripple_13 rfl rfl ?_
  refine v_aloadn (q := 16) C dX4_ripple_15 rfl rfl ?_
  refine u_getI (q := 19) C kl10 fl_X4_55 (ob_tm hx1) (pt_size hx1) rfl rfl dX4_ripple_16 rfl ?_
  refine v_icmp_ge (q := 22) (tgt := 138) C dX4_ripple_19 rfl rfl h (fun h => ?_) (fun h => ?_)
  · refine v_bipush (q := 140) C dX4_ripple_138 rfl (by decide) ?_
    exact u_iret hR dX4_ripple_140 h
  · refine v_iloadn (q := 23) C dX4_ripple_22 rfl rfl ?_
    refine v_if_le (q := 26) (tgt := 138) C dX4_ripple_23 rfl rfl h (fun h => ?_) (fun h => ?_)
    · refine v_bipush (q := 140) C dX4_ripple_138 rfl (by decide) ?_
      exact u_iret hR dX4_ripple_140 h
    · refine v_iconst (q := 27) C dX4_ripple_26 rfl (by decide) ?_
      refine v_istore (q := 29) C dX4_ripple_27 rfl (nb rfl) (L' := [some (.inr 238), some (.inr x1), some (.inr x2), some (.inl x3), some (.inl x4), some (.inl 0), none, none]) rfl ?_
      exact (w_X4_ripple_29  C hR (fun _ _ h => h) hx1 hx2 h)
theorem c_X4_ripple {x1 : Int} {x2 : Int} {μ : ZM} {K : Int → ZM → Prop} (h : P_X4_ripple  x1 x2 μ K) : zMu yX4_ripple cX4_ripple 8 (some .int) 4 119 [.inr 238, .inr x1, .inr x2] μ (KI K) := by
  refine zMet_of (L0 := [some (.inr 238), some (.inr x1), some (.inr x2), none, none, none, none, none]) sy_X4_ripple rfl (nb rfl) (Nat.le_refl _) (fun X C _ hR _ _ => ?_)
  have C : zC X cX4_ripple RX4 8 (some .int) 4 119 274 := C
  have hx1 := h.1
  replace h := h.2
  have hx2 := h.1
  replace h := h.2
  refine v_aloadn (q := 1) C dX4_ripple_0 rfl rfl ?_
  refine u_getR (q := 4) C kl4 fl_X4_24 ob_238 pt_238_2 (by decide) rfl rfl dX4_ripple_1 rfl ?_
  refine v_aloadn (q := 5) C dX4_ripple_4 rfl rfl ?_
  refine v_aloadn (q := 6) C dX4_ripple_5 rfl rfl ?_
  refine u_cVi2 (q := 9) C (c_X1_smallest h) sy_X1_smallest si_X1_smallest ml_X4_49 ob_233 (by decide) so_X1_smallest ⟨nb rfl, nb rfl⟩ (nb rfl) dX4_ripple_6 rfl (fun r2 μ1 h => ?_)
  refine v_istoren (q := 10) C dX4_ripple_9 rfl (nb rfl) (L' := [some (.inr 238), some (.inr x1), some (.inr x2), some (.inl r2), none, none, none, none]) rfl ?_
  refine v_iconst (q := 11) C dX4_ripple_10 rfl (by decide) ?_
  refine v_istore (q := 13) C dX4_ripple_11 rfl (nb rfl) (L' := [some (.inr 238), some (.inr x1), some (.inr x2), some (.inl r2), some (.inl 0), none, none, none]) rfl ?_
  exact (w_X4_ripple_13  C hR  hx1 hx2 h)
theorem w_X5_firstMatch_3 {X : ZX} (C : zC X cX5_firstMatch RX5 5 (some .int) 2 53 274) {K : Int → ZM → Prop} (hR : zRi X cX5_firstMatch (some .int) 274 (KN (KI K)))  {x1 : Int} {x2 : Int} {x3 : Int} {x4 : Int} {μ : ZM}  (hx1 : z_tm x1) (hx2 : z_tm x2) (h : P_X5_firstMatch_3   x1 x2 x3 x4 μ K) : zV X 3 [some (.inr 236), some (.inr x1), some (.inr x2), some (.inl x3), some (.inl x4)] [] 274 (z_ov μ) := by
  refine h (fun x4 μ => zV X 3 [some (.inr 236), some (.inr x1), some (.inr x2), some (.inl x3), some (.inl x4)] [] 274 (z_ov μ)) (fun x4 μ h => ?_)
  refine v_iload (q := 5) C dX5_firstMatch_3 rfl rfl ?_
  refine v_aloadn (q := 6) C dX5_firstMatch_5 rfl rfl ?_
  refine u_getI (q := 9) C kl10 fl_X5_19 (ob_tm hx2) (pt_size hx2) rfl rfl dX5_firstMatch_6 rfl ?_
  refine v_icmp_ge (q := 12) (tgt := 33) C dX5_firstMatch_9 rfl rfl h (fun h => ?_) (fun h => ?_)
  · refine v_bipush (q := 35) C dX5_firstMatch_33 rfl (by decide) ?_
    exact u_iret hR dX5_firstMatch_35 h
  · refine v_aloadn (q := 13) C dX5_firstMatch_12 rfl rfl ?_
    refine v_aloadn (q := 14) C dX5_firstMatch_13 rfl rfl ?_
    refine v_aloadn (q := 15) C dX5_firstMatch_14 rfl rfl ?_
    refine v_iload (q := 17) C dX5_firstMatch_15 rfl rfl ?_
    refine v_iloadn (q := 18) C dX5_firstMatch_17 rfl rfl ?_
    refine u_cVi4 (q := 21) C (c_X5_matches h) sy_X5_matches si_X5_matches ml_X5_35 ob_236 (by decide) so_X5_matches ⟨nb rfl, nb rfl⟩ (nb rfl) dX5_firstMatch_18 rfl (fun r2 μ1 h => ?_)
    refine v_if_eq (q := 24) (tgt := 27) C dX5_firstMatch_21 rfl rfl h (fun h => ?_) (fun h => ?_)
    · refine u_iinc (q := 30) C dX5_firstMatch_27 rfl (nb rfl) rfl (L' := [some (.inr 236), some (.inr x1), some (.inr x2), some (.inl x3), some (.inl (x4 + 1))]) rfl h (fun h => ?_)
      refine v_goto (q := 3) C dX5_firstMatch_30 rfl ?_
      exact h
    · refine v_iload (q := 26) C dX5_firstMatch_24 rfl rfl ?_
      exact u_iret hR dX5_firstMatch_26 h
theorem c_X5_firstMatch {x1 : Int} {x2 : Int} {x3 : Int} {μ : ZM} {K : Int → ZM → Prop} (h : P_X5_firstMatch  x1 x2 x3 μ K) : zMu yX5_firstMatch cX5_firstMatch 5 (some .int) 2 53 [.inr 236, .inr x1, .inr x2, .inl x3] μ (KI K) := by
  refine zMet_of (L0 := [some (.inr 236), some (.inr x1), some (.inr x2), some (.inl x3), none]) sy_X5_firstMatch rfl (nb rfl) (Nat.le_refl _) (fun X C _ hR _ _ => ?_)
  have C : zC X cX5_firstMatch RX5 5 (some .int) 2 53 274 := C
  have hx1 := h.1
  replace h := h.2
  have hx2 := h.1
  replace h := h.2
  refine v_iconst (q := 1) C dX5_firstMatch_0 rfl (by decide) ?_
  refine v_istore (q := 3) C dX5_firstMatch_1 rfl (nb rfl) (L' := [some (.inr 236), some (.inr x1), some (.inr x2), some (.inl x3), some (.inl 0)]) rfl ?_
  exact (w_X5_firstMatch_3  C hR  hx1 hx2 h)
theorem c_X6_bodyFor {x1 : Int} {x2 : Int} {μ : ZM} {K : Int → ZM → Prop} (h : P_X6_bodyFor  x1 x2 μ K) : zMu yX6_bodyFor cX6_bodyFor 4 (some .int) 0 0 [.inr 222, .inl x1, .inl x2] μ (KI K) := by
  refine zMet_of (L0 := [some (.inr 222), some (.inl x1), some (.inl x2), none]) sy_X6_bodyFor rfl (nb rfl) (Nat.le_refl _) (fun X C _ hR _ _ => ?_)
  have C : zC X cX6_bodyFor RX6 4 (some .int) 0 0 274 := C
  refine v_aloadn (q := 1) C dX6_bodyFor_0 rfl rfl ?_
  refine u_getR (q := 4) C kl6 fl_X6_11 ob_222 pt_222_1 (by decide) rfl rfl dX6_bodyFor_1 rfl ?_
  refine v_iloadn (q := 5) C dX6_bodyFor_4 rfl rfl ?_
  refine u_iald (q := 6) C ia_223 dX6_bodyFor_5 rfl h (fun h => ?_)
  refine v_bipush (q := 8) C dX6_bodyFor_6 rfl (by decide) ?_
  refine v_icmp_ne (q := 11) (tgt := 13) C dX6_bodyFor_8 rfl rfl h (fun h => ?_) (fun h => ?_)
  · refine v_iconst (q := 12) C dX6_bodyFor_11 rfl (by decide) ?_
    exact u_iret hR dX6_bodyFor_12 h
  · refine v_aloadn (q := 14) C dX6_bodyFor_13 rfl rfl ?_
    refine u_getR (q := 17) C kl6 fl_X6_11 ob_222 pt_222_1 (by decide) rfl rfl dX6_bodyFor_14 rfl ?_
    refine v_iloadn (q := 18) C dX6_bodyFor_17 rfl rfl ?_
    refine u_iald (q := 19) C ia_223 dX6_bodyFor_18 rfl h (fun h => ?_)
    refine v_bipush (q := 21) C dX6_bodyFor_19 rfl (by decide) ?_
    refine v_icmp_eq (q := 24) (tgt := 27) C dX6_bodyFor_21 rfl rfl h (fun h => ?_) (fun h => ?_)
    · refine v_aloadn (q := 28) C dX6_bodyFor_27 rfl rfl ?_
      refine u_getR (q := 31) C kl6 fl_X6_45 ob_222 pt_222_0 (by decide) rfl rfl dX6_bodyFor_28 rfl ?_
      refine u_getR (q := 34) C kl3 fl_X6_109 ob_207 pt_207_1 (by decide) rfl rfl dX6_bodyFor_31 rfl ?_
      refine v_iloadn (q := 35) C dX6_bodyFor_34 rfl rfl ?_
      refine u_iald (q := 36) C ia_209 dX6_bodyFor_35 rfl h (fun h => ?_)
      refine v_iconst (q := 37) C dX6_bodyFor_36 rfl (by decide) ?_
      refine v_icmp_ne (q := 40) (tgt := 42) C dX6_bodyFor_37 rfl rfl h (fun h => ?_) (fun h => ?_)
      · refine v_iconst (q := 41) C dX6_bodyFor_40 rfl (by decide) ?_
        exact u_iret hR dX6_bodyFor_41 h
      · refine v_aloadn (q := 43) C dX6_bodyFor_42 rfl rfl ?_
        refine u_getR (q := 46) C kl6 fl_X6_11 ob_222 pt_222_1 (by decide) rfl rfl dX6_bodyFor_43 rfl ?_
        refine v_aloadn (q := 47) C dX6_bodyFor_46 rfl rfl ?_
        refine u_getR (q := 50) C kl6 fl_X6_15 ob_222 pt_222_2 (by decide) rfl rfl dX6_bodyFor_47 rfl ?_
        refine v_iloadn (q := 51) C dX6_bodyFor_50 rfl rfl ?_
        refine u_iald (q := 52) C ia_224 dX6_bodyFor_51 rfl h (fun h => ?_)
        refine u_iald (q := 53) C ia_223 dX6_bodyFor_52 rfl h (fun h => ?_)
        refine v_istoren (q := 54) C dX6_bodyFor_53 rfl (nb rfl) (L' := [some (.inr 222), some (.inl x1), some (.inl x2), some (.inl (μ 223 (μ 224 x2)))]) rfl ?_
        refine v_iloadn (q := 55) C dX6_bodyFor_54 rfl rfl ?_
        refine v_bipush (q := 57) C dX6_bodyFor_55 rfl (by decide) ?_
        refine v_icmp_ne (q := 60) (tgt := 64) C dX6_bodyFor_57 rfl rfl h (fun h => ?_) (fun h => ?_)
        · refine v_iconst (q := 61) C dX6_bodyFor_60 rfl (by decide) ?_
          refine v_goto (q := 76) C dX6_bodyFor_61 rfl ?_
          exact u_iret hR dX6_bodyFor_76 h
        · refine v_iloadn (q := 65) C dX6_bodyFor_64 rfl rfl ?_
          refine v_bipush (q := 67) C dX6_bodyFor_65 rfl (by decide) ?_
          refine v_icmp_ne (q := 70) (tgt := 74) C dX6_bodyFor_67 rfl rfl h (fun h => ?_) (fun h => ?_)
          · refine v_iconst (q := 71) C dX6_bodyFor_70 rfl (by decide) ?_
            refine v_goto (q := 76) C dX6_bodyFor_71 rfl ?_
            exact u_iret hR dX6_bodyFor_76 h
          · refine v_bipush (q := 76) C dX6_bodyFor_74 rfl (by decide) ?_
            exact u_iret hR dX6_bodyFor_76 h
    · refine v_bipush (q := 26) C dX6_bodyFor_24 rfl (by decide) ?_
      exact u_iret hR dX6_bodyFor_26 h
theorem w_X6_make_68 {X : ZX} (C : zC X cX6_make RX6 5 (some .int) 0 0 274) {K : Int → ZM → Prop} (hR : zRi X cX6_make (some .int) 274 (KN (KI K)))  {x1 : Int} {x2 : Int} {x3 : Int} {s0 : Int} {s1 : Int} {μ : ZM}   (h : P_X6_make_68   x1 x2 x3 s0 s1 μ K) : zV X 68 [some (.inr 222), some (.inl x1), some (.inl x2), some (.inl x3), none] [.inl s1, .inl s0] 274 (z_ov μ) := by
  refine u_iadd (q := 69) C dX6_make_68 rfl h (fun h => ?_)
  refine v_istore (q := 71) C dX6_make_69 rfl (nb rfl) (L' := [some (.inr 222), some (.inl x1), some (.inl x2), some (.inl x3), some (.inl (s0 + s1))]) rfl ?_
  refine v_iload (q := 73) C dX6_make_71 rfl rfl ?_
  refine v_bipush (q := 75) C dX6_make_73 rfl (by decide) ?_
  refine v_icmp_le (q := 78) (tgt := 81) C dX6_make_75 rfl rfl h (fun h => ?_) (fun h => ?_)
  · refine v_aloadn (q := 82) C dX6_make_81 rfl rfl ?_
    refine u_getR (q := 85) C kl6 fl_X6_11 ob_222 pt_222_1 (by decide) rfl rfl dX6_make_82 rfl ?_
    refine v_aloadn (q := 86) C dX6_make_85 rfl rfl ?_
    refine u_getI (q := 89) C kl6 fl_X6_49 ob_222 pt_222_11 rfl rfl dX6_make_86 rfl ?_
    refine v_iloadn (q := 90) C dX6_make_89 rfl rfl ?_
    refine u_iast (q := 91) C ia_223 dX6_make_90 rfl h (fun μ1 h => ?_)
    refine v_aloadn (q := 92) C dX6_make_91 rfl rfl ?_
    refine u_getR (q := 95) C kl6 fl_X6_15 ob_222 pt_222_2 (by decide) rfl rfl dX6_make_92 rfl ?_
    refine v_aloadn (q := 96) C dX6_make_95 rfl rfl ?_
    refine u_getI (q := 99) C kl6 fl_X6_49 ob_222 pt_222_11 rfl rfl dX6_make_96 rfl ?_
    refine v_iloadn (q := 100) C dX6_make_99 rfl rfl ?_
    refine u_iast (q := 101) C ia_224 dX6_make_100 rfl h (fun μ2 h => ?_)
    refine v_aloadn (q := 102) C dX6_make_101 rfl rfl ?_
    refine u_getR (q := 105) C kl6 fl_X6_18 ob_222 pt_222_3 (by decide) rfl rfl dX6_make_102 rfl ?_
    refine v_aloadn (q := 106) C dX6_make_105 rfl rfl ?_
    refine u_getI (q := 109) C kl6 fl_X6_49 ob_222 pt_222_11 rfl rfl dX6_make_106 rfl ?_
    refine v_iloadn (q := 110) C dX6_make_109 rfl rfl ?_
    refine u_iast (q := 111) C ia_225 dX6_make_110 rfl h (fun μ3 h => ?_)
    refine v_aloadn (q := 112) C dX6_make_111 rfl rfl ?_
    refine u_getR (q := 115) C kl6 fl_X6_21 ob_222 pt_222_4 (by decide) rfl rfl dX6_make_112 rfl ?_
    refine v_aloadn (q := 116) C dX6_make_115 rfl rfl ?_
    refine u_getI (q := 119) C kl6 fl_X6_49 ob_222 pt_222_11 rfl rfl dX6_make_116 rfl ?_
    refine v_iload (q := 121) C dX6_make_119 rfl rfl ?_
    refine u_iast (q := 122) C ia_226 dX6_make_121 rfl h (fun μ4 h => ?_)
    refine v_aloadn (q := 123) C dX6_make_122 rfl rfl ?_
    refine v_dup (q := 124) C dX6_make_123 rfl ?_
    refine u_getI (q := 127) C kl6 fl_X6_49 ob_222 pt_222_11 rfl rfl dX6_make_124 rfl ?_
    refine v_iconst (q := 128) C dX6_make_127 rfl (by decide) ?_
    refine u_iadd (q := 129) C dX6_make_128 rfl h (fun h => ?_)
    refine u_put (q := 132) C kl6 fl_X6_49 ob_222 pt_222_11 rfl rfl rfl rfl dX6_make_129 rfl h (fun μ5 h => ?_)
    refine v_aloadn (q := 133) C dX6_make_132 rfl rfl ?_
    refine u_getI (q := 136) C kl6 fl_X6_49 ob_222 pt_222_11 rfl rfl dX6_make_133 rfl ?_
    refine v_iconst (q := 137) C dX6_make_136 rfl (by decide) ?_
    refine u_isub (q := 138) C dX6_make_137 rfl h (fun h => ?_)
    exact u_iret hR dX6_make_138 h
  · refine v_bipush (q := 80) C dX6_make_78 rfl (by decide) ?_
    exact u_iret hR dX6_make_80 h
theorem c_X6_make {x1 : Int} {x2 : Int} {x3 : Int} {μ : ZM} {K : Int → ZM → Prop} (h : P_X6_make  x1 x2 x3 μ K) : zMu yX6_make cX6_make 5 (some .int) 0 0 [.inr 222, .inl x1, .inl x2, .inl x3] μ (KI K) := by
  refine zMet_of (L0 := [some (.inr 222), some (.inl x1), some (.inl x2), some (.inl x3), none]) sy_X6_make rfl (nb rfl) (Nat.le_refl _) (fun X C _ hR _ _ => ?_)
  have C : zC X cX6_make RX6 5 (some .int) 0 0 274 := C
  refine v_iloadn (q := 1) C dX6_make_0 rfl rfl ?_
  refine v_if_lt (q := 4) (tgt := 34) C dX6_make_1 rfl rfl h (fun h => ?_) (fun h => ?_)
  · refine v_bipush (q := 36) C dX6_make_34 rfl (by decide) ?_
    exact u_iret hR dX6_make_36 h
  · refine v_iloadn (q := 5) C dX6_make_4 rfl rfl ?_
    refine v_aloadn (q := 6) C dX6_make_5 rfl rfl ?_
    refine u_getI (q := 9) C kl6 fl_X6_49 ob_222 pt_222_11 rfl rfl dX6_make_6 rfl ?_
    refine v_icmp_ge (q := 12) (tgt := 34) C dX6_make_9 rfl rfl h (fun h => ?_) (fun h => ?_)
    · refine v_bipush (q := 36) C dX6_make_34 rfl (by decide) ?_
      exact u_iret hR dX6_make_36 h
    · refine v_iloadn (q := 13) C dX6_make_12 rfl rfl ?_
      refine v_if_lt (q := 16) (tgt := 34) C dX6_make_13 rfl rfl h (fun h => ?_) (fun h => ?_)
      · refine v_bipush (q := 36) C dX6_make_34 rfl (by decide) ?_
        exact u_iret hR dX6_make_36 h
      · refine v_iloadn (q := 17) C dX6_make_16 rfl rfl ?_
        refine v_aloadn (q := 18) C dX6_make_17 rfl rfl ?_
        refine u_getI (q := 21) C kl6 fl_X6_49 ob_222 pt_222_11 rfl rfl dX6_make_18 rfl ?_
        refine v_icmp_ge (q := 24) (tgt := 34) C dX6_make_21 rfl rfl h (fun h => ?_) (fun h => ?_)
        · refine v_bipush (q := 36) C dX6_make_34 rfl (by decide) ?_
          exact u_iret hR dX6_make_36 h
        · refine v_aloadn (q := 25) C dX6_make_24 rfl rfl ?_
          refine u_getI (q := 28) C kl6 fl_X6_49 ob_222 pt_222_11 rfl rfl dX6_make_25 rfl ?_
          refine v_sipush (q := 31) C dX6_make_28 rfl (by decide) ?_
          refine v_icmp_lt (q := 34) (tgt := 37) C dX6_make_31 rfl rfl h (fun h => ?_) (fun h => ?_)
          · refine v_iconst (q := 38) C dX6_make_37 rfl (by decide) ?_
            refine v_aloadn (q := 39) C dX6_make_38 rfl rfl ?_
            refine u_getR (q := 42) C kl6 fl_X6_21 ob_222 pt_222_4 (by decide) rfl rfl dX6_make_39 rfl ?_
            refine v_iloadn (q := 43) C dX6_make_42 rfl rfl ?_
            refine u_iald (q := 44) C ia_226 dX6_make_43 rfl h (fun h => ?_)
            refine u_iadd (q := 45) C dX6_make_44 rfl h (fun h => ?_)
            refine v_aloadn (q := 46) C dX6_make_45 rfl rfl ?_
            refine u_getR (q := 49) C kl6 fl_X6_45 ob_222 pt_222_0 (by decide) rfl rfl dX6_make_46 rfl ?_
            refine u_getR (q := 52) C kl3 fl_X6_112 ob_207 pt_207_3 (by decide) rfl rfl dX6_make_49 rfl ?_
            refine v_iloadn (q := 53) C dX6_make_52 rfl rfl ?_
            refine u_iald (q := 54) C ia_211 dX6_make_53 rfl h (fun h => ?_)
            refine v_iconst (q := 55) C dX6_make_54 rfl (by decide) ?_
            refine v_icmp_ne (q := 58) (tgt := 67) C dX6_make_55 rfl rfl h (fun h => ?_) (fun h => ?_)
            · refine v_aloadn (q := 59) C dX6_make_58 rfl rfl ?_
              refine u_getR (q := 62) C kl6 fl_X6_21 ob_222 pt_222_4 (by decide) rfl rfl dX6_make_59 rfl ?_
              refine v_iloadn (q := 63) C dX6_make_62 rfl rfl ?_
              refine u_iald (q := 64) C ia_226 dX6_make_63 rfl h (fun h => ?_)
              refine v_goto (q := 68) C dX6_make_64 rfl ?_
              exact (w_X6_make_68  C hR   h)
            · refine v_iconst (q := 68) C dX6_make_67 rfl (by decide) ?_
              exact (w_X6_make_68  C hR   h)
          · refine v_bipush (q := 36) C dX6_make_34 rfl (by decide) ?_
            exact u_iret hR dX6_make_36 h
theorem c_X6_push {x1 : Int} {μ : ZM} {K : Int → ZM → Prop} (h : P_X6_push  x1 μ K) : zMu yX6_push cX6_push 2 (some .boolean) 0 0 [.inr 222, .inl x1] μ (KI K) := by
  refine zMet_of (L0 := [some (.inr 222), some (.inl x1)]) sy_X6_push rfl (nb rfl) (Nat.le_refl _) (fun X C _ hR _ _ => ?_)
  have C : zC X cX6_push RX6 2 (some .boolean) 0 0 274 := C
  refine v_iloadn (q := 1) C dX6_push_0 rfl rfl ?_
  refine v_if_lt (q := 4) (tgt := 29) C dX6_push_1 rfl rfl h (fun h => ?_) (fun h => ?_)
  · refine v_iconst (q := 30) C dX6_push_29 rfl (by decide) ?_
    exact u_zret hR dX6_push_30 h
  · refine v_iloadn (q := 5) C dX6_push_4 rfl rfl ?_
    refine v_aloadn (q := 6) C dX6_push_5 rfl rfl ?_
    refine u_getI (q := 9) C kl6 fl_X6_49 ob_222 pt_222_11 rfl rfl dX6_push_6 rfl ?_
    refine v_icmp_ge (q := 12) (tgt := 29) C dX6_push_9 rfl rfl h (fun h => ?_) (fun h => ?_)
    · refine v_iconst (q := 30) C dX6_push_29 rfl (by decide) ?_
      exact u_zret hR dX6_push_30 h
    · refine v_aloadn (q := 13) C dX6_push_12 rfl rfl ?_
      refine u_getI (q := 16) C kl6 fl_X6_68 ob_222 pt_222_13 rfl rfl dX6_push_13 rfl ?_
      refine v_if_lt (q := 19) (tgt := 29) C dX6_push_16 rfl rfl h (fun h => ?_) (fun h => ?_)
      · refine v_iconst (q := 30) C dX6_push_29 rfl (by decide) ?_
        exact u_zret hR dX6_push_30 h
      · refine v_aloadn (q := 20) C dX6_push_19 rfl rfl ?_
        refine u_getI (q := 23) C kl6 fl_X6_68 ob_222 pt_222_13 rfl rfl dX6_push_20 rfl ?_
        refine v_sipush (q := 26) C dX6_push_23 rfl (by decide) ?_
        refine v_icmp_lt (q := 29) (tgt := 31) C dX6_push_26 rfl rfl h (fun h => ?_) (fun h => ?_)
        · refine v_aloadn (q := 32) C dX6_push_31 rfl rfl ?_
          refine u_getR (q := 35) C kl6 fl_X6_39 ob_222 pt_222_9 (by decide) rfl rfl dX6_push_32 rfl ?_
          refine v_aloadn (q := 36) C dX6_push_35 rfl rfl ?_
          refine u_getI (q := 39) C kl6 fl_X6_68 ob_222 pt_222_13 rfl rfl dX6_push_36 rfl ?_
          refine v_iloadn (q := 40) C dX6_push_39 rfl rfl ?_
          refine u_iast (q := 41) C ia_231 dX6_push_40 rfl h (fun μ1 h => ?_)
          refine v_aloadn (q := 42) C dX6_push_41 rfl rfl ?_
          refine v_dup (q := 43) C dX6_push_42 rfl ?_
          refine u_getI (q := 46) C kl6 fl_X6_68 ob_222 pt_222_13 rfl rfl dX6_push_43 rfl ?_
          refine v_iconst (q := 47) C dX6_push_46 rfl (by decide) ?_
          refine u_iadd (q := 48) C dX6_push_47 rfl h (fun h => ?_)
          refine u_put (q := 51) C kl6 fl_X6_68 ob_222 pt_222_13 rfl rfl rfl rfl dX6_push_48 rfl h (fun μ2 h => ?_)
          refine v_iconst (q := 52) C dX6_push_51 rfl (by decide) ?_
          exact u_zret hR dX6_push_52 h
        · refine v_iconst (q := 30) C dX6_push_29 rfl (by decide) ?_
          exact u_zret hR dX6_push_30 h
theorem w_X6_apply_234 {X : ZX} (C : zC X cX6_apply RX6 7 (some .boolean) 1 24 274) {K : Int → ZM → Prop} (hR : zRi X cX6_apply (some .boolean) 274 (KN (KI K)))  {x4 : Int} {s1 : Int} {s2 : Int} {μ : ZM}   (h : P_X6_apply_234   x4 s1 s2 μ K) : zV X 234 [some (.inr 222), none, none, none, some (.inl x4), none, none] [.inl s2, .inl s1, .inr 229] 274 (z_ov μ) := by
  refine u_iast (q := 235) C ia_229 dX6_apply_234 rfl h (fun μ15 h => ?_)
  refine v_aloadn (q := 236) C dX6_apply_235 rfl rfl ?_
  refine u_getR (q := 239) C kl6 fl_X6_36 ob_222 pt_222_8 (by decide) rfl rfl dX6_apply_236 rfl ?_
  refine v_aloadn (q := 240) C dX6_apply_239 rfl rfl ?_
  refine u_getI (q := 243) C kl6 fl_X6_71 ob_222 pt_222_12 rfl rfl dX6_apply_240 rfl ?_
  refine v_iload (q := 245) C dX6_apply_243 rfl rfl ?_
  refine u_iast (q := 246) C ia_230 dX6_apply_245 rfl h (fun μ16 h => ?_)
  refine v_iconst (q := 247) C dX6_apply_246 rfl (by decide) ?_
  exact u_zret hR dX6_apply_247 h
theorem c_X6_apply {x1 : Int} {μ : ZM} {K : Int → ZM → Prop} (h : P_X6_apply  x1 μ K) : zMu yX6_apply cX6_apply 7 (some .boolean) 1 24 [.inr 222, .inl x1] μ (KI K) := by
  refine zMet_of (L0 := [some (.inr 222), some (.inl x1), none, none, none, none, none]) sy_X6_apply rfl (nb rfl) (Nat.le_refl _) (fun X C _ hR _ _ => ?_)
  have C : zC X cX6_apply RX6 7 (some .boolean) 1 24 274 := C
  refine v_iloadn (q := 1) C dX6_apply_0 rfl rfl ?_
  refine v_if_lt (q := 4) (tgt := 31) C dX6_apply_1 rfl rfl h (fun h => ?_) (fun h => ?_)
  · refine v_iconst (q := 32) C dX6_apply_31 rfl (by decide) ?_
    exact u_zret hR dX6_apply_32 h
  · refine v_iloadn (q := 5) C dX6_apply_4 rfl rfl ?_
    refine v_aloadn (q := 6) C dX6_apply_5 rfl rfl ?_
    refine u_getR (q := 9) C kl6 fl_X6_45 ob_222 pt_222_0 (by decide) rfl rfl dX6_apply_6 rfl ?_
    refine u_getI (q := 12) C kl3 fl_X6_93 ob_207 pt_207_4 rfl rfl dX6_apply_9 rfl ?_
    refine v_icmp_ge (q := 15) (tgt := 31) C dX6_apply_12 rfl rfl h (fun h => ?_) (fun h => ?_)
    · refine v_iconst (q := 32) C dX6_apply_31 rfl (by decide) ?_
      exact u_zret hR dX6_apply_32 h
    · refine v_aloadn (q := 16) C dX6_apply_15 rfl rfl ?_
      refine u_getI (q := 19) C kl6 fl_X6_68 ob_222 pt_222_13 rfl rfl dX6_apply_16 rfl ?_
      refine v_aloadn (q := 20) C dX6_apply_19 rfl rfl ?_
      refine u_getR (q := 23) C kl6 fl_X6_45 ob_222 pt_222_0 (by decide) rfl rfl dX6_apply_20 rfl ?_
      refine u_getR (q := 26) C kl3 fl_X6_98 ob_207 pt_207_0 (by decide) rfl rfl dX6_apply_23 rfl ?_
      refine v_iloadn (q := 27) C dX6_apply_26 rfl rfl ?_
      refine u_iald (q := 28) C ia_208 dX6_apply_27 rfl h (fun h => ?_)
      refine v_icmp_ge (q := 31) (tgt := 33) C dX6_apply_28 rfl rfl h (fun h => ?_) (fun h => ?_)
      · refine v_aloadn (q := 34) C dX6_apply_33 rfl rfl ?_
        refine u_getR (q := 37) C kl6 fl_X6_45 ob_222 pt_222_0 (by decide) rfl rfl dX6_apply_34 rfl ?_
        refine u_getR (q := 40) C kl3 fl_X6_98 ob_207 pt_207_0 (by decide) rfl rfl dX6_apply_37 rfl ?_
        refine v_iloadn (q := 41) C dX6_apply_40 rfl rfl ?_
        refine u_iald (q := 42) C ia_208 dX6_apply_41 rfl h (fun h => ?_)
        refine v_istoren (q := 43) C dX6_apply_42 rfl (nb rfl) (L' := [some (.inr 222), some (.inl x1), some (.inl (μ 208 x1)), none, none, none, none]) rfl ?_
        refine v_aloadn (q := 44) C dX6_apply_43 rfl rfl ?_
        refine v_dup (q := 45) C dX6_apply_44 rfl ?_
        refine u_getI (q := 48) C kl6 fl_X6_68 ob_222 pt_222_13 rfl rfl dX6_apply_45 rfl ?_
        refine v_iloadn (q := 49) C dX6_apply_48 rfl rfl ?_
        refine u_isub (q := 50) C dX6_apply_49 rfl h (fun h => ?_)
        refine u_put (q := 53) C kl6 fl_X6_68 ob_222 pt_222_13 rfl rfl rfl rfl dX6_apply_50 rfl h (fun μ1 h => ?_)
        refine v_aloadn (q := 54) C dX6_apply_53 rfl rfl ?_
        refine u_getR (q := 57) C kl6 fl_X6_39 ob_222 pt_222_9 (by decide) rfl rfl dX6_apply_54 rfl ?_
        refine v_aloadn (q := 58) C dX6_apply_57 rfl rfl ?_
        refine u_getI (q := 61) C kl6 fl_X6_68 ob_222 pt_222_13 rfl rfl dX6_apply_58 rfl ?_
        refine v_iloadn (q := 62) C dX6_apply_61 rfl rfl ?_
        refine u_iadd (q := 63) C dX6_apply_62 rfl h (fun h => ?_)
        refine v_iconst (q := 64) C dX6_apply_63 rfl (by decide) ?_
        refine u_isub (q := 65) C dX6_apply_64 rfl h (fun h => ?_)
        refine u_iald (q := 66) C ia_231 dX6_apply_65 rfl h (fun h => ?_)
        refine v_istoren (q := 67) C dX6_apply_66 rfl (nb rfl) (L' := [some (.inr 222), some (.inl x1), some (.inl (μ 208 x1)), some (.inl (μ1 231 (((μ1 222 13) + (μ 208 x1)) - 1))), none, none, none]) rfl ?_
        refine v_aloadn (q := 68) C dX6_apply_67 rfl rfl ?_
        refine u_getR (q := 71) C kl6 fl_X6_39 ob_222 pt_222_9 (by decide) rfl rfl dX6_apply_68 rfl ?_
        refine v_aloadn (q := 72) C dX6_apply_71 rfl rfl ?_
        refine u_getI (q := 75) C kl6 fl_X6_68 ob_222 pt_222_13 rfl rfl dX6_apply_72 rfl ?_
        refine u_iald (q := 76) C ia_231 dX6_apply_75 rfl h (fun h => ?_)
        refine v_istore (q := 78) C dX6_apply_76 rfl (nb rfl) (L' := [some (.inr 222), some (.inl x1), some (.inl (μ 208 x1)), some (.inl (μ1 231 (((μ1 222 13) + (μ 208 x1)) - 1))), some (.inl (μ1 231 (μ1 222 13))), none, none]) rfl ?_
        refine v_aloadn (q := 79) C dX6_apply_78 rfl rfl ?_
        refine v_iloadn (q := 80) C dX6_apply_79 rfl rfl ?_
        refine v_iloadn (q := 81) C dX6_apply_80 rfl rfl ?_
        refine u_cVi2 (q := 84) C (c_X6_bodyFor h) sy_X6_bodyFor si_X6_bodyFor ml_X6_101 ob_222 (by decide) so_X6_bodyFor ⟨nb rfl, nb rfl⟩ (nb rfl) dX6_apply_81 rfl (fun r3 μ2 h => ?_)
        refine v_istore (q := 86) C dX6_apply_84 rfl (nb rfl) (L' := [some (.inr 222), some (.inl x1), some (.inl (μ 208 x1)), some (.inl (μ1 231 (((μ1 222 13) + (μ 208 x1)) - 1))), some (.inl (μ1 231 (μ1 222 13))), some (.inl r3), none]) rfl ?_
        refine v_iload (q := 88) C dX6_apply_86 rfl rfl ?_
        refine v_bipush (q := 90) C dX6_apply_88 rfl (by decide) ?_
        refine v_icmp_ne (q := 93) (tgt := 109) C dX6_apply_90 rfl rfl h (fun h => ?_) (fun h => ?_)
        · refine v_aloadn (q := 94) C dX6_apply_93 rfl rfl ?_
          refine v_aloadn (q := 95) C dX6_apply_94 rfl rfl ?_
          refine v_bipush (q := 97) C dX6_apply_95 rfl (by decide) ?_
          refine v_iloadn (q := 98) C dX6_apply_97 rfl rfl ?_
          refine u_iadd (q := 99) C dX6_apply_98 rfl h (fun h => ?_)
          refine v_iloadn (q := 100) C dX6_apply_99 rfl rfl ?_
          refine v_iload (q := 102) C dX6_apply_100 rfl rfl ?_
          refine u_cVi3 (q := 105) C (c_X6_make h) sy_X6_make si_X6_make ml_X6_53 ob_222 (by decide) so_X6_make ⟨nb rfl, nb rfl⟩ (nb rfl) dX6_apply_102 rfl (fun r5 μ4 h => ?_)
          refine u_cVi1 (q := 108) C (c_X6_push h) sy_X6_push si_X6_push ml_X6_90 ob_222 (by decide) so_X6_push ⟨nb rfl, nb rfl⟩ (nb rfl) dX6_apply_105 rfl (fun r7 μ6 h => ?_)
          exact u_zret hR dX6_apply_108 h
        · refine v_aloadn (q := 110) C dX6_apply_109 rfl rfl ?_
          refine u_getR (q := 113) C kl6 fl_X6_45 ob_222 pt_222_0 (by decide) rfl rfl dX6_apply_110 rfl ?_
          refine v_iloadn (q := 114) C dX6_apply_113 rfl rfl ?_
          refine v_iload (q := 116) C dX6_apply_114 rfl rfl ?_
          refine u_cVa2 (q := 119) C (c_X3_bodyOf h) sy_X3_bodyOf si_X3_bodyOf ml_X6_105 ob_207 (by decide) so_X3_bodyOf ⟨nb rfl, nb rfl⟩ (nb rfl) dX6_apply_116 rfl (fun r9 μ8 h => ?_)
          refine v_astore (q := 121) C dX6_apply_119 rfl (nb rfl) (L' := [some (.inr 222), some (.inl x1), some (.inl (μ 208 x1)), some (.inl (μ1 231 (((μ1 222 13) + (μ 208 x1)) - 1))), some (.inl (μ1 231 (μ1 222 13))), some (.inl r3), some (.inr r9)]) rfl ?_
          refine v_aloadn (q := 122) C dX6_apply_121 rfl rfl ?_
          refine v_dup (q := 123) C dX6_apply_122 rfl ?_
          refine u_getI (q := 126) C kl6 fl_X6_65 ob_222 pt_222_14 rfl rfl dX6_apply_123 rfl ?_
          refine v_iconst (q := 127) C dX6_apply_126 rfl (by decide) ?_
          refine u_iadd (q := 128) C dX6_apply_127 rfl h (fun h => ?_)
          refine u_put (q := 131) C kl6 fl_X6_65 ob_222 pt_222_14 rfl rfl rfl rfl dX6_apply_128 rfl h (fun μ10 h => ?_)
          refine v_aload (q := 133) C dX6_apply_131 rfl rfl ?_
          refine v_ifnull (q := 136) (tgt := 156) C dX6_apply_133 rfl rfl h (fun h => ?_) (fun h => ?_)
          · refine v_iconst (q := 157) C dX6_apply_156 rfl (by decide) ?_
            exact u_zret hR dX6_apply_157 h
          · refine v_aloadn (q := 137) C dX6_apply_136 rfl rfl ?_
            refine u_getI (q := 140) C kl6 fl_X6_65 ob_222 pt_222_14 rfl rfl dX6_apply_137 rfl ?_
            refine v_bipush (q := 142) C dX6_apply_140 rfl (by decide) ?_
            refine v_icmp_gt (q := 145) (tgt := 156) C dX6_apply_142 rfl rfl h (fun h => ?_) (fun h => ?_)
            · refine v_iconst (q := 157) C dX6_apply_156 rfl (by decide) ?_
              exact u_zret hR dX6_apply_157 h
            · refine v_aloadn (q := 146) C dX6_apply_145 rfl rfl ?_
              refine u_getI (q := 149) C kl6 fl_X6_71 ob_222 pt_222_12 rfl rfl dX6_apply_146 rfl ?_
              refine v_iconst (q := 150) C dX6_apply_149 rfl (by decide) ?_
              refine u_iadd (q := 151) C dX6_apply_150 rfl h (fun h => ?_)
              refine v_bipush (q := 153) C dX6_apply_151 rfl (by decide) ?_
              refine v_icmp_lt (q := 156) (tgt := 158) C dX6_apply_153 rfl rfl h (fun h => ?_) (fun h => ?_)
              · refine v_aloadn (q := 159) C dX6_apply_158 rfl rfl ?_
                refine v_dup (q := 160) C dX6_apply_159 rfl ?_
                refine u_getI (q := 163) C kl6 fl_X6_71 ob_222 pt_222_12 rfl rfl dX6_apply_160 rfl ?_
                refine v_iconst (q := 164) C dX6_apply_163 rfl (by decide) ?_
                refine u_iadd (q := 165) C dX6_apply_164 rfl h (fun h => ?_)
                refine u_put (q := 168) C kl6 fl_X6_71 ob_222 pt_222_12 rfl rfl rfl rfl dX6_apply_165 rfl h (fun μ11 h => ?_)
                refine v_aloadn (q := 169) C dX6_apply_168 rfl rfl ?_
                refine u_getR (q := 172) C kl6 fl_X6_26 ob_222 pt_222_5 (by decide) rfl rfl dX6_apply_169 rfl ?_
                refine v_aloadn (q := 173) C dX6_apply_172 rfl rfl ?_
                refine u_getI (q := 176) C kl6 fl_X6_71 ob_222 pt_222_12 rfl rfl dX6_apply_173 rfl ?_
                refine v_aload (q := 178) C dX6_apply_176 rfl rfl ?_
                have hf13 := h.1
                replace h := h.2
                refine u_aast (q := 179) C ra_227 hf13 dX6_apply_178 rfl h (fun μ12 h => ?_)
                refine v_aloadn (q := 180) C dX6_apply_179 rfl rfl ?_
                refine u_getR (q := 183) C kl6 fl_X6_30 ob_222 pt_222_6 (by decide) rfl rfl dX6_apply_180 rfl ?_
                refine v_aloadn (q := 184) C dX6_apply_183 rfl rfl ?_
                refine u_getI (q := 187) C kl6 fl_X6_71 ob_222 pt_222_12 rfl rfl dX6_apply_184 rfl ?_
                refine v_aload (q := 189) C dX6_apply_187 rfl rfl ?_
                refine u_getI (q := 192) C kl10 fl_X6_74 (ob_tm hf13) (pt_size hf13) rfl rfl dX6_apply_189 rfl ?_
                refine u_iast (q := 193) C ia_228 dX6_apply_192 rfl h (fun μ14 h => ?_)
                refine v_aloadn (q := 194) C dX6_apply_193 rfl rfl ?_
                refine u_getR (q := 197) C kl6 fl_X6_33 ob_222 pt_222_7 (by decide) rfl rfl dX6_apply_194 rfl ?_
                refine v_aloadn (q := 198) C dX6_apply_197 rfl rfl ?_
                refine u_getI (q := 201) C kl6 fl_X6_71 ob_222 pt_222_12 rfl rfl dX6_apply_198 rfl ?_
                refine v_aloadn (q := 202) C dX6_apply_201 rfl rfl ?_
                refine u_getR (q := 205) C kl6 fl_X6_45 ob_222 pt_222_0 (by decide) rfl rfl dX6_apply_202 rfl ?_
                refine u_getR (q := 208) C kl3 fl_X6_109 ob_207 pt_207_1 (by decide) rfl rfl dX6_apply_205 rfl ?_
                refine v_iloadn (q := 209) C dX6_apply_208 rfl rfl ?_
                refine u_iald (q := 210) C ia_209 dX6_apply_209 rfl h (fun h => ?_)
                refine v_iconst (q := 211) C dX6_apply_210 rfl (by decide) ?_
                refine v_icmp_ne (q := 214) (tgt := 223) C dX6_apply_211 rfl rfl h (fun h => ?_) (fun h => ?_)
                · refine v_aloadn (q := 215) C dX6_apply_214 rfl rfl ?_
                  refine u_getR (q := 218) C kl6 fl_X6_15 ob_222 pt_222_2 (by decide) rfl rfl dX6_apply_215 rfl ?_
                  refine v_iloadn (q := 219) C dX6_apply_218 rfl rfl ?_
                  refine u_iald (q := 220) C ia_224 dX6_apply_219 rfl h (fun h => ?_)
                  refine v_goto (q := 234) C dX6_apply_220 rfl ?_
                  exact v_mask [true, false, false, false, true, false, false] rfl (w_X6_apply_234  C hR   h)
                · refine v_aloadn (q := 224) C dX6_apply_223 rfl rfl ?_
                  refine u_getR (q := 227) C kl6 fl_X6_15 ob_222 pt_222_2 (by decide) rfl rfl dX6_apply_224 rfl ?_
                  refine v_aloadn (q := 228) C dX6_apply_227 rfl rfl ?_
                  refine u_getR (q := 231) C kl6 fl_X6_15 ob_222 pt_222_2 (by decide) rfl rfl dX6_apply_228 rfl ?_
                  refine v_iloadn (q := 232) C dX6_apply_231 rfl rfl ?_
                  refine u_iald (q := 233) C ia_224 dX6_apply_232 rfl h (fun h => ?_)
                  refine u_iald (q := 234) C ia_224 dX6_apply_233 rfl h (fun h => ?_)
                  exact v_mask [true, false, false, false, true, false, false] rfl (w_X6_apply_234  C hR   h)
              · refine v_iconst (q := 157) C dX6_apply_156 rfl (by decide) ?_
                exact u_zret hR dX6_apply_157 h
      · refine v_iconst (q := 32) C dX6_apply_31 rfl (by decide) ?_
        exact u_zret hR dX6_apply_32 h
theorem c_X6_take {x1 : Int} {μ : ZM} {K : Int → ZM → Prop} (h : P_X6_take  x1 μ K) : zMu yX6_take cX6_take 2 (some .boolean) 1 24 [.inr 222, .inl x1] μ (KI K) := by
  refine zMet_of (L0 := [some (.inr 222), some (.inl x1)]) sy_X6_take rfl (nb rfl) (Nat.le_refl _) (fun X C _ hR _ _ => ?_)
  have C : zC X cX6_take RX6 2 (some .boolean) 1 24 274 := C
  refine v_iloadn (q := 1) C dX6_take_0 rfl rfl ?_
  by_cases hk0 : x1 = 83
  · replace h := z_ifp h hk0
    refine v_lookup (off := 43) (tgt := 44) C dX6_take_1 rfl (by rw [hk0]; rfl) rfl ?_
    refine v_aloadn (q := 45) C dX6_take_44 rfl rfl ?_
    refine u_getI (q := 48) C kl6 fl_X6_68 ob_222 pt_222_13 rfl rfl dX6_take_45 rfl ?_
    refine v_iconst (q := 49) C dX6_take_48 rfl (by decide) ?_
    refine v_icmp_ge (q := 52) (tgt := 54) C dX6_take_49 rfl rfl h (fun h => ?_) (fun h => ?_)
    · refine v_aloadn (q := 55) C dX6_take_54 rfl rfl ?_
      refine v_dup (q := 56) C dX6_take_55 rfl ?_
      refine u_getI (q := 59) C kl6 fl_X6_68 ob_222 pt_222_13 rfl rfl dX6_take_56 rfl ?_
      refine v_iconst (q := 60) C dX6_take_59 rfl (by decide) ?_
      refine u_isub (q := 61) C dX6_take_60 rfl h (fun h => ?_)
      refine u_put (q := 64) C kl6 fl_X6_68 ob_222 pt_222_13 rfl rfl rfl rfl dX6_take_61 rfl h (fun μ9 h => ?_)
      refine v_aloadn (q := 65) C dX6_take_64 rfl rfl ?_
      refine v_aloadn (q := 66) C dX6_take_65 rfl rfl ?_
      refine v_bipush (q := 68) C dX6_take_66 rfl (by decide) ?_
      refine v_aloadn (q := 69) C dX6_take_68 rfl rfl ?_
      refine u_getR (q := 72) C kl6 fl_X6_39 ob_222 pt_222_9 (by decide) rfl rfl dX6_take_69 rfl ?_
      refine v_aloadn (q := 73) C dX6_take_72 rfl rfl ?_
      refine u_getI (q := 76) C kl6 fl_X6_68 ob_222 pt_222_13 rfl rfl dX6_take_73 rfl ?_
      refine u_iald (q := 77) C ia_231 dX6_take_76 rfl h (fun h => ?_)
      refine v_aloadn (q := 78) C dX6_take_77 rfl rfl ?_
      refine u_getR (q := 81) C kl6 fl_X6_39 ob_222 pt_222_9 (by decide) rfl rfl dX6_take_78 rfl ?_
      refine v_aloadn (q := 82) C dX6_take_81 rfl rfl ?_
      refine u_getI (q := 85) C kl6 fl_X6_68 ob_222 pt_222_13 rfl rfl dX6_take_82 rfl ?_
      refine u_iald (q := 86) C ia_231 dX6_take_85 rfl h (fun h => ?_)
      refine u_cVi3 (q := 89) C (c_X6_make h) sy_X6_make si_X6_make ml_X6_53 ob_222 (by decide) so_X6_make ⟨nb rfl, nb rfl⟩ (nb rfl) dX6_take_86 rfl (fun r11 μ10 h => ?_)
      refine u_cVi1 (q := 92) C (c_X6_push h) sy_X6_push si_X6_push ml_X6_90 ob_222 (by decide) so_X6_push ⟨nb rfl, nb rfl⟩ (nb rfl) dX6_take_89 rfl (fun r13 μ12 h => ?_)
      exact u_zret hR dX6_take_92 h
    · refine v_iconst (q := 53) C dX6_take_52 rfl (by decide) ?_
      exact u_zret hR dX6_take_53 h
  · replace h := z_ifn h hk0
    by_cases hk1 : x1 = 120
    · replace h := z_ifp h hk1
      refine v_lookup (off := 92) (tgt := 93) C dX6_take_1 rfl (by rw [hk1]; rfl) rfl ?_
      refine v_aloadn (q := 94) C dX6_take_93 rfl rfl ?_
      refine v_aloadn (q := 95) C dX6_take_94 rfl rfl ?_
      refine u_getR (q := 98) C kl6 fl_X6_33 ob_222 pt_222_7 (by decide) rfl rfl dX6_take_95 rfl ?_
      refine v_aloadn (q := 99) C dX6_take_98 rfl rfl ?_
      refine u_getI (q := 102) C kl6 fl_X6_71 ob_222 pt_222_12 rfl rfl dX6_take_99 rfl ?_
      refine u_iald (q := 103) C ia_229 dX6_take_102 rfl h (fun h => ?_)
      refine u_cVi1 (q := 106) C (c_X6_push h) sy_X6_push si_X6_push ml_X6_90 ob_222 (by decide) so_X6_push ⟨nb rfl, nb rfl⟩ (nb rfl) dX6_take_103 rfl (fun r8 μ7 h => ?_)
      exact u_zret hR dX6_take_106 h
    · replace h := z_ifn h hk1
      by_cases hk2 : x1 = 121
      · replace h := z_ifp h hk2
        refine v_lookup (off := 106) (tgt := 107) C dX6_take_1 rfl (by rw [hk2]; rfl) rfl ?_
        refine v_aloadn (q := 108) C dX6_take_107 rfl rfl ?_
        refine v_aloadn (q := 109) C dX6_take_108 rfl rfl ?_
        refine u_getR (q := 112) C kl6 fl_X6_36 ob_222 pt_222_8 (by decide) rfl rfl dX6_take_109 rfl ?_
        refine v_aloadn (q := 113) C dX6_take_112 rfl rfl ?_
        refine u_getI (q := 116) C kl6 fl_X6_71 ob_222 pt_222_12 rfl rfl dX6_take_113 rfl ?_
        refine u_iald (q := 117) C ia_230 dX6_take_116 rfl h (fun h => ?_)
        refine u_cVi1 (q := 120) C (c_X6_push h) sy_X6_push si_X6_push ml_X6_90 ob_222 (by decide) so_X6_push ⟨nb rfl, nb rfl⟩ (nb rfl) dX6_take_117 rfl (fun r6 μ5 h => ?_)
        exact u_zret hR dX6_take_120 h
      · replace h := z_ifn h hk2
        by_cases hk3 : x1 = 122
        · replace h := z_ifp h hk3
          refine v_lookup (off := 120) (tgt := 121) C dX6_take_1 rfl (by rw [hk3]; rfl) rfl ?_
          refine v_aloadn (q := 122) C dX6_take_121 rfl rfl ?_
          refine v_aloadn (q := 123) C dX6_take_122 rfl rfl ?_
          refine u_getR (q := 126) C kl6 fl_X6_42 ob_222 pt_222_10 (by decide) rfl rfl dX6_take_123 rfl ?_
          refine v_iconst (q := 127) C dX6_take_126 rfl (by decide) ?_
          refine u_iald (q := 128) C ia_232 dX6_take_127 rfl h (fun h => ?_)
          refine u_cVi1 (q := 131) C (c_X6_push h) sy_X6_push si_X6_push ml_X6_90 ob_222 (by decide) so_X6_push ⟨nb rfl, nb rfl⟩ (nb rfl) dX6_take_128 rfl (fun r4 μ3 h => ?_)
          exact u_zret hR dX6_take_131 h
        · replace h := z_ifn h hk3
          refine v_lookup (off := 131) (tgt := 132) C dX6_take_1 rfl (by simp [Op.lookupswitch.offset, Ne.symm hk0, Ne.symm hk1, Ne.symm hk2, Ne.symm hk3]) rfl ?_
          refine v_aloadn (q := 133) C dX6_take_132 rfl rfl ?_
          refine v_iconst (q := 134) C dX6_take_133 rfl (by decide) ?_
          refine u_cVi1 (q := 137) C (c_X6_push h) sy_X6_push si_X6_push ml_X6_90 ob_222 (by decide) so_X6_push ⟨nb rfl, nb rfl⟩ (nb rfl) dX6_take_134 rfl (fun r2 μ1 h => ?_)
          exact u_zret hR dX6_take_137 h
theorem w_X6_run_191 {X : ZX} (C : zC X cX6_run RX6 5 (some .boolean) 2 50 274) {K : Int → ZM → Prop} (hR : zRi X cX6_run (some .boolean) 274 (KN (KI K)))  {x2 : Int} {μ : ZM} {G58 : Int → ZM → Prop} (hG58 : ∀ (x2 : Int) (μ : ZM), G58 x2 μ → zV X 58 [some (.inr 222), none, some (.inl x2), none, none] [] 274 (z_ov μ))  (h : P_X6_run_191  G58 x2 μ K) : zV X 191 [some (.inr 222), none, some (.inl x2), none, none] [] 274 (z_ov μ) := by
  refine u_iinc (q := 194) C dX6_run_191 rfl (nb rfl) rfl (L' := [some (.inr 222), none, some (.inl (x2 + 1)), none, none]) rfl h (fun h => ?_)
  refine v_goto (q := 58) C dX6_run_194 rfl ?_
  exact (hG58 _ _ h)
theorem w_X6_run_182 {X : ZX} (C : zC X cX6_run RX6 5 (some .boolean) 2 50 274) {K : Int → ZM → Prop} (hR : zRi X cX6_run (some .boolean) 274 (KN (KI K)))  {x2 : Int} {s0 : Int} {μ : ZM} {G58 : Int → ZM → Prop} (hG58 : ∀ (x2 : Int) (μ : ZM), G58 x2 μ → zV X 58 [some (.inr 222), none, some (.inl x2), none, none] [] 274 (z_ov μ))  (h : P_X6_run_182  G58 x2 s0 μ K) : zV X 182 [some (.inr 222), none, some (.inl x2), none, none] [.inl s0] 274 (z_ov μ) := by
  refine v_istore (q := 184) C dX6_run_182 rfl (nb rfl) (L' := [some (.inr 222), none, some (.inl x2), none, some (.inl s0)]) rfl ?_
  refine v_iload (q := 186) C dX6_run_184 rfl rfl ?_
  refine v_if_ne (q := 189) (tgt := 191) C dX6_run_186 rfl rfl h (fun h => ?_) (fun h => ?_)
  · refine v_iconst (q := 190) C dX6_run_189 rfl (by decide) ?_
    exact u_zret hR dX6_run_190 h
  · exact v_mask [true, false, true, false, false] rfl (w_X6_run_191  C hR hG58  h)
theorem w_X6_run_98 {X : ZX} (C : zC X cX6_run RX6 5 (some .boolean) 2 50 274) {K : Int → ZM → Prop} (hR : zRi X cX6_run (some .boolean) 274 (KN (KI K)))  {x2 : Int} {μ : ZM} {G58 : Int → ZM → Prop} (hG58 : ∀ (x2 : Int) (μ : ZM), G58 x2 μ → zV X 58 [some (.inr 222), none, some (.inl x2), none, none] [] 274 (z_ov μ))  (h : P_X6_run_98  G58 x2 μ K) : zV X 98 [some (.inr 222), none, some (.inl x2), none, none] [] 274 (z_ov μ) := by
  refine v_aloadn (q := 99) C dX6_run_98 rfl rfl ?_
  refine u_getR (q := 102) C kl6 fl_X6_30 ob_222 pt_222_6 (by decide) rfl rfl dX6_run_99 rfl ?_
  refine v_aloadn (q := 103) C dX6_run_102 rfl rfl ?_
  refine u_getI (q := 106) C kl6 fl_X6_71 ob_222 pt_222_12 rfl rfl dX6_run_103 rfl ?_
  refine u_iald (q := 107) C ia_228 dX6_run_106 rfl h (fun h => ?_)
  refine v_if_gt (q := 110) (tgt := 123) C dX6_run_107 rfl rfl h (fun h => ?_) (fun h => ?_)
  · refine v_aloadn (q := 124) C dX6_run_123 rfl rfl ?_
    refine u_getR (q := 127) C kl6 fl_X6_30 ob_222 pt_222_6 (by decide) rfl rfl dX6_run_124 rfl ?_
    refine v_aloadn (q := 128) C dX6_run_127 rfl rfl ?_
    refine u_getI (q := 131) C kl6 fl_X6_71 ob_222 pt_222_12 rfl rfl dX6_run_128 rfl ?_
    refine v_dup2 (q := 132) C dX6_run_131 rfl ?_
    refine u_iald (q := 133) C ia_228 dX6_run_132 rfl h (fun h => ?_)
    refine v_iconst (q := 134) C dX6_run_133 rfl (by decide) ?_
    refine u_isub (q := 135) C dX6_run_134 rfl h (fun h => ?_)
    refine u_iast (q := 136) C ia_228 dX6_run_135 rfl h (fun μ8 h => ?_)
    refine v_aloadn (q := 137) C dX6_run_136 rfl rfl ?_
    refine u_getR (q := 140) C kl6 fl_X6_26 ob_222 pt_222_5 (by decide) rfl rfl dX6_run_137 rfl ?_
    refine v_aloadn (q := 141) C dX6_run_140 rfl rfl ?_
    refine u_getI (q := 144) C kl6 fl_X6_71 ob_222 pt_222_12 rfl rfl dX6_run_141 rfl ?_
    refine u_aald (q := 145) C ra_227 dX6_run_144 rfl h (fun h => ?_)
    have hf9 := h.1
    replace h := h.2
    refine u_getR (v := μ8 227 (μ8 222 12) + 1) (q := 148) C kl10 fl_X6_77 (ob_tm hf9) (pt_code hf9) (by omega) rfl rfl dX6_run_145 rfl ?_
    refine v_aloadn (q := 149) C dX6_run_148 rfl rfl ?_
    refine u_getR (q := 152) C kl6 fl_X6_30 ob_222 pt_222_6 (by decide) rfl rfl dX6_run_149 rfl ?_
    refine v_aloadn (q := 153) C dX6_run_152 rfl rfl ?_
    refine u_getI (q := 156) C kl6 fl_X6_71 ob_222 pt_222_12 rfl rfl dX6_run_153 rfl ?_
    refine u_iald (q := 157) C ia_228 dX6_run_156 rfl h (fun h => ?_)
    refine u_iald (q := 158) C (ia_code hf9) dX6_run_157 rfl h (fun h => ?_)
    refine v_istoren (q := 159) C dX6_run_158 rfl (nb rfl) (L' := [some (.inr 222), none, some (.inl x2), some (.inl (μ8 (μ8 227 (μ8 222 12) + 1) (μ8 228 (μ8 222 12)))), none]) rfl ?_
    refine v_iloadn (q := 160) C dX6_run_159 rfl rfl ?_
    refine u_cSi1 (q := 163) C (c_X10_isLetter h) sy_X10_isLetter ss_X10_isLetter ml_X6_80 ⟨nb rfl, nb rfl⟩ (nb rfl) dX6_run_160 rfl (fun r11 μ10 h => ?_)
    refine v_if_eq (q := 166) (tgt := 177) C dX6_run_163 rfl rfl h (fun h => ?_) (fun h => ?_)
    · refine v_aloadn (q := 178) C dX6_run_177 rfl rfl ?_
      refine v_iloadn (q := 179) C dX6_run_178 rfl rfl ?_
      refine u_cVi1 (q := 182) C (c_X6_take h) sy_X6_take si_X6_take ml_X6_87 ob_222 (by decide) so_X6_take ⟨nb rfl, nb rfl⟩ (nb rfl) dX6_run_179 rfl (fun r13 μ12 h => ?_)
      exact v_mask [true, false, true, false, false] rfl (w_X6_run_182  C hR hG58  h)
    · refine v_aloadn (q := 167) C dX6_run_166 rfl rfl ?_
      refine v_iloadn (q := 168) C dX6_run_167 rfl rfl ?_
      refine v_bipush (q := 170) C dX6_run_168 rfl (by decide) ?_
      refine u_isub (q := 171) C dX6_run_170 rfl h (fun h => ?_)
      refine u_cVi1 (q := 174) C (c_X6_apply h) sy_X6_apply si_X6_apply ml_X6_84 ob_222 (by decide) so_X6_apply ⟨nb rfl, nb rfl⟩ (nb rfl) dX6_run_171 rfl (fun r15 μ14 h => ?_)
      refine v_goto (q := 182) C dX6_run_174 rfl ?_
      exact v_mask [true, false, true, false, false] rfl (w_X6_run_182  C hR hG58  h)
  · refine v_aloadn (q := 111) C dX6_run_110 rfl rfl ?_
    refine v_dup (q := 112) C dX6_run_111 rfl ?_
    refine u_getI (q := 115) C kl6 fl_X6_71 ob_222 pt_222_12 rfl rfl dX6_run_112 rfl ?_
    refine v_iconst (q := 116) C dX6_run_115 rfl (by decide) ?_
    refine u_isub (q := 117) C dX6_run_116 rfl h (fun h => ?_)
    refine u_put (q := 120) C kl6 fl_X6_71 ob_222 pt_222_12 rfl rfl rfl rfl dX6_run_117 rfl h (fun μ16 h => ?_)
    refine v_goto (q := 191) C dX6_run_120 rfl ?_
    exact (w_X6_run_191  C hR hG58  h)
theorem w_X6_run_58 {X : ZX} (C : zC X cX6_run RX6 5 (some .boolean) 2 50 274) {K : Int → ZM → Prop} (hR : zRi X cX6_run (some .boolean) 274 (KN (KI K)))  {x2 : Int} {μ : ZM}   (h : P_X6_run_58   x2 μ K) : zV X 58 [some (.inr 222), none, some (.inl x2), none, none] [] 274 (z_ov μ) := by
  refine h (fun x2 μ => zV X 58 [some (.inr 222), none, some (.inl x2), none, none] [] 274 (z_ov μ)) (fun x2 μ h => ?_)
  refine v_iloadn (q := 59) C dX6_run_58 rfl rfl ?_
  refine v_sipush (q := 62) C dX6_run_59 rfl (by decide) ?_
  refine v_icmp_ge (q := 65) (tgt := 197) C dX6_run_62 rfl rfl h (fun h => ?_) (fun h => ?_)
  · refine v_iconst (q := 198) C dX6_run_197 rfl (by decide) ?_
    exact u_zret hR dX6_run_198 h
  · refine v_aloadn (q := 66) C dX6_run_65 rfl rfl ?_
    refine u_getR (q := 69) C kl6 fl_X6_30 ob_222 pt_222_6 (by decide) rfl rfl dX6_run_66 rfl ?_
    refine v_aloadn (q := 70) C dX6_run_69 rfl rfl ?_
    refine u_getI (q := 73) C kl6 fl_X6_71 ob_222 pt_222_12 rfl rfl dX6_run_70 rfl ?_
    refine u_iald (q := 74) C ia_228 dX6_run_73 rfl h (fun h => ?_)
    refine v_if_gt (q := 77) (tgt := 98) C dX6_run_74 rfl rfl h (fun h => ?_) (fun h => ?_)
    · exact (w_X6_run_98  C hR (fun _ _ h => h)  h)
    · refine v_aloadn (q := 78) C dX6_run_77 rfl rfl ?_
      refine u_getI (q := 81) C kl6 fl_X6_71 ob_222 pt_222_12 rfl rfl dX6_run_78 rfl ?_
      refine v_if_ne (q := 84) (tgt := 98) C dX6_run_81 rfl rfl h (fun h => ?_) (fun h => ?_)
      · refine v_aloadn (q := 85) C dX6_run_84 rfl rfl ?_
        refine u_getI (q := 88) C kl6 fl_X6_68 ob_222 pt_222_13 rfl rfl dX6_run_85 rfl ?_
        refine v_iconst (q := 89) C dX6_run_88 rfl (by decide) ?_
        refine v_icmp_ne (q := 92) (tgt := 96) C dX6_run_89 rfl rfl h (fun h => ?_) (fun h => ?_)
        · refine v_iconst (q := 93) C dX6_run_92 rfl (by decide) ?_
          refine v_goto (q := 97) C dX6_run_93 rfl ?_
          exact u_zret hR dX6_run_97 h
        · refine v_iconst (q := 97) C dX6_run_96 rfl (by decide) ?_
          exact u_zret hR dX6_run_97 h
      · exact (w_X6_run_98  C hR (fun _ _ h => h)  h)
theorem c_X6_run {x1 : Int} {μ : ZM} {K : Int → ZM → Prop} (h : P_X6_run  x1 μ K) : zMu yX6_run cX6_run 5 (some .boolean) 2 50 [.inr 222, .inr x1] μ (KI K) := by
  refine zMet_of (L0 := [some (.inr 222), some (.inr x1), none, none, none]) sy_X6_run rfl (nb rfl) (Nat.le_refl _) (fun X C _ hR _ _ => ?_)
  have C : zC X cX6_run RX6 5 (some .boolean) 2 50 274 := C
  have hx1 := h.1
  replace h := h.2
  refine v_aloadn (q := 1) C dX6_run_0 rfl rfl ?_
  refine v_iconst (q := 2) C dX6_run_1 rfl (by decide) ?_
  refine u_put (q := 5) C kl6 fl_X6_65 ob_222 pt_222_14 rfl rfl rfl rfl dX6_run_2 rfl h (fun μ1 h => ?_)
  refine v_aloadn (q := 6) C dX6_run_5 rfl rfl ?_
  refine v_iconst (q := 7) C dX6_run_6 rfl (by decide) ?_
  refine u_put (q := 10) C kl6 fl_X6_68 ob_222 pt_222_13 rfl rfl rfl rfl dX6_run_7 rfl h (fun μ2 h => ?_)
  refine v_aloadn (q := 11) C dX6_run_10 rfl rfl ?_
  refine v_iconst (q := 12) C dX6_run_11 rfl (by decide) ?_
  refine u_put (q := 15) C kl6 fl_X6_71 ob_222 pt_222_12 rfl rfl rfl rfl dX6_run_12 rfl h (fun μ3 h => ?_)
  refine v_aloadn (q := 16) C dX6_run_15 rfl rfl ?_
  refine u_getR (q := 19) C kl6 fl_X6_26 ob_222 pt_222_5 (by decide) rfl rfl dX6_run_16 rfl ?_
  refine v_iconst (q := 20) C dX6_run_19 rfl (by decide) ?_
  refine v_aloadn (q := 21) C dX6_run_20 rfl rfl ?_
  refine u_aast (q := 22) C ra_227 hx1 dX6_run_21 rfl h (fun μ4 h => ?_)
  refine v_aloadn (q := 23) C dX6_run_22 rfl rfl ?_
  refine u_getR (q := 26) C kl6 fl_X6_30 ob_222 pt_222_6 (by decide) rfl rfl dX6_run_23 rfl ?_
  refine v_iconst (q := 27) C dX6_run_26 rfl (by decide) ?_
  refine v_aloadn (q := 28) C dX6_run_27 rfl rfl ?_
  refine u_getI (q := 31) C kl10 fl_X6_74 (ob_tm hx1) (pt_size hx1) rfl rfl dX6_run_28 rfl ?_
  refine u_iast (q := 32) C ia_228 dX6_run_31 rfl h (fun μ5 h => ?_)
  refine v_aloadn (q := 33) C dX6_run_32 rfl rfl ?_
  refine u_getR (q := 36) C kl6 fl_X6_33 ob_222 pt_222_7 (by decide) rfl rfl dX6_run_33 rfl ?_
  refine v_iconst (q := 37) C dX6_run_36 rfl (by decide) ?_
  refine v_aloadn (q := 38) C dX6_run_37 rfl rfl ?_
  refine u_getR (q := 41) C kl6 fl_X6_42 ob_222 pt_222_10 (by decide) rfl rfl dX6_run_38 rfl ?_
  refine v_iconst (q := 42) C dX6_run_41 rfl (by decide) ?_
  refine u_iald (q := 43) C ia_232 dX6_run_42 rfl h (fun h => ?_)
  refine u_iast (q := 44) C ia_229 dX6_run_43 rfl h (fun μ6 h => ?_)
  refine v_aloadn (q := 45) C dX6_run_44 rfl rfl ?_
  refine u_getR (q := 48) C kl6 fl_X6_36 ob_222 pt_222_8 (by decide) rfl rfl dX6_run_45 rfl ?_
  refine v_iconst (q := 49) C dX6_run_48 rfl (by decide) ?_
  refine v_aloadn (q := 50) C dX6_run_49 rfl rfl ?_
  refine u_getR (q := 53) C kl6 fl_X6_42 ob_222 pt_222_10 (by decide) rfl rfl dX6_run_50 rfl ?_
  refine v_iconst (q := 54) C dX6_run_53 rfl (by decide) ?_
  refine u_iald (q := 55) C ia_232 dX6_run_54 rfl h (fun h => ?_)
  refine u_iast (q := 56) C ia_230 dX6_run_55 rfl h (fun μ7 h => ?_)
  refine v_iconst (q := 57) C dX6_run_56 rfl (by decide) ?_
  refine v_istoren (q := 58) C dX6_run_57 rfl (nb rfl) (L' := [some (.inr 222), some (.inr x1), some (.inl 0), none, none]) rfl ?_
  exact v_mask [true, false, true, false, false] rfl (w_X6_run_58  C hR   h)
