theorem c_X10_isLetter {x0 : Int} {μ : ZM} {K : Int → ZM → Prop} (h : P_X10_isLetter  x0 μ K) : zMu yX10_isLetter cX10_isLetter 1 (some .boolean) 0 0 [.inl x0] μ (KI K) := by
  refine zMet_of (L0 := [some (.inl x0)]) sy_X10_isLetter rfl (nb rfl) (Nat.le_refl _) (fun X C _ hR _ _ => ?_)
  have C : zC X cX10_isLetter RX10 1 (some .boolean) 0 0 274 := C
  refine v_iloadn (q := 1) C dX10_isLetter_0 rfl rfl ?_
  refine v_bipush (q := 3) C dX10_isLetter_1 rfl (by decide) ?_
  refine v_icmp_lt (q := 6) (tgt := 16) C dX10_isLetter_3 rfl rfl h (fun h => ?_) (fun h => ?_)
  · refine v_iconst (q := 17) C dX10_isLetter_16 rfl (by decide) ?_
    exact u_zret hR dX10_isLetter_17 h
  · refine v_iloadn (q := 7) C dX10_isLetter_6 rfl rfl ?_
    refine v_bipush (q := 9) C dX10_isLetter_7 rfl (by decide) ?_
    refine v_icmp_ge (q := 12) (tgt := 16) C dX10_isLetter_9 rfl rfl h (fun h => ?_) (fun h => ?_)
    · refine v_iconst (q := 17) C dX10_isLetter_16 rfl (by decide) ?_
      exact u_zret hR dX10_isLetter_17 h
    · refine v_iconst (q := 13) C dX10_isLetter_12 rfl (by decide) ?_
      refine v_goto (q := 17) C dX10_isLetter_13 rfl ?_
      exact u_zret hR dX10_isLetter_17 h
theorem c_X10_isCall {x0 : Int} {x1 : Int} {x2 : Int} {μ : ZM} {K : Int → ZM → Prop} (h : P_X10_isCall  x0 x1 x2 μ K) : zMu yX10_isCall cX10_isCall 3 (some .boolean) 1 20 [.inr x0, .inl x1, .inl x2] μ (KI K) := by
  refine zMet_of (L0 := [some (.inr x0), some (.inl x1), some (.inl x2)]) sy_X10_isCall rfl (nb rfl) (Nat.le_refl _) (fun X C _ hR _ _ => ?_)
  have C : zC X cX10_isCall RX10 3 (some .boolean) 1 20 274 := C
  have hx0 := h.1
  replace h := h.2
  refine v_iloadn (q := 1) C dX10_isCall_0 rfl rfl ?_
  refine v_if_le (q := 4) (tgt := 43) C dX10_isCall_1 rfl rfl h (fun h => ?_) (fun h => ?_)
  · refine v_iconst (q := 44) C dX10_isCall_43 rfl (by decide) ?_
    exact u_zret hR dX10_isCall_44 h
  · refine v_iloadn (q := 5) C dX10_isCall_4 rfl rfl ?_
    refine v_aloadn (q := 6) C dX10_isCall_5 rfl rfl ?_
    refine u_getI (q := 9) C kl10 fl_X10_18 (ob_tm hx0) (pt_size hx0) rfl rfl dX10_isCall_6 rfl ?_
    refine v_icmp_ge (q := 12) (tgt := 43) C dX10_isCall_9 rfl rfl h (fun h => ?_) (fun h => ?_)
    · refine v_iconst (q := 44) C dX10_isCall_43 rfl (by decide) ?_
      exact u_zret hR dX10_isCall_44 h
    · refine v_aloadn (q := 13) C dX10_isCall_12 rfl rfl ?_
      refine u_getR (v := x0 + 1) (q := 16) C kl10 fl_X10_9 (ob_tm hx0) (pt_code hx0) (by omega) rfl rfl dX10_isCall_13 rfl ?_
      refine v_iloadn (q := 17) C dX10_isCall_16 rfl rfl ?_
      refine u_iald (q := 18) C (ia_code hx0) dX10_isCall_17 rfl h (fun h => ?_)
      refine v_bipush (q := 20) C dX10_isCall_18 rfl (by decide) ?_
      refine v_iloadn (q := 21) C dX10_isCall_20 rfl rfl ?_
      refine u_iadd (q := 22) C dX10_isCall_21 rfl h (fun h => ?_)
      refine v_icmp_ne (q := 25) (tgt := 43) C dX10_isCall_22 rfl rfl h (fun h => ?_) (fun h => ?_)
      · refine v_aloadn (q := 26) C dX10_isCall_25 rfl rfl ?_
        refine u_getR (v := x0 + 1) (q := 29) C kl10 fl_X10_9 (ob_tm hx0) (pt_code hx0) (by omega) rfl rfl dX10_isCall_26 rfl ?_
        refine v_iloadn (q := 30) C dX10_isCall_29 rfl rfl ?_
        refine v_iconst (q := 31) C dX10_isCall_30 rfl (by decide) ?_
        refine u_isub (q := 32) C dX10_isCall_31 rfl h (fun h => ?_)
        refine u_iald (q := 33) C (ia_code hx0) dX10_isCall_32 rfl h (fun h => ?_)
        refine u_cSi1 (q := 36) C (c_X10_isLetter h) sy_X10_isLetter ss_X10_isLetter ml_X10_32 ⟨nb rfl, nb rfl⟩ (nb rfl) dX10_isCall_33 rfl (fun r2 μ1 h => ?_)
        refine v_if_eq (q := 39) (tgt := 43) C dX10_isCall_36 rfl rfl h (fun h => ?_) (fun h => ?_)
        · refine v_iconst (q := 44) C dX10_isCall_43 rfl (by decide) ?_
          exact u_zret hR dX10_isCall_44 h
        · refine v_iconst (q := 40) C dX10_isCall_39 rfl (by decide) ?_
          refine v_goto (q := 44) C dX10_isCall_40 rfl ?_
          exact u_zret hR dX10_isCall_44 h
      · refine v_iconst (q := 44) C dX10_isCall_43 rfl (by decide) ?_
        exact u_zret hR dX10_isCall_44 h
theorem w_X0_callsOf_48 {X : ZX} (C : zC X cX0_callsOf RX0 4 (some .int) 2 42 274) {K : Int → ZM → Prop} (hR : zRi X cX0_callsOf (some .int) 274 (KN (KI K)))  {x0 : Int} {x1 : Int} {x3 : Int} {s0 : Int} {s1 : Int} {μ : ZM} {G4 : Int → Int → ZM → Prop} (hG4 : ∀ (x2 x3 : Int) (μ : ZM), G4 x2 x3 μ → zV X 4 [some (.inr x0), some (.inl x1), some (.inl x2), some (.inl x3)] [] 274 (z_ov μ)) (hx0 : z_cm x0) (h : P_X0_callsOf_48  G4 x0 x1 x3 s0 s1 μ K) : zV X 48 [some (.inr x0), some (.inl x1), none, some (.inl x3)] [.inl s1, .inl s0] 274 (z_ov μ) := by
  refine u_iadd (q := 49) C dX0_callsOf_48 rfl h (fun h => ?_)
  refine v_istoren (q := 50) C dX0_callsOf_49 rfl (nb rfl) (L' := [some (.inr x0), some (.inl x1), some (.inl (s0 + s1)), some (.inl x3)]) rfl ?_
  refine u_iinc (q := 53) C dX0_callsOf_50 rfl (nb rfl) rfl (L' := [some (.inr x0), some (.inl x1), some (.inl (s0 + s1)), some (.inl (x3 + 1))]) rfl h (fun h => ?_)
  refine v_goto (q := 4) C dX0_callsOf_53 rfl ?_
  exact (hG4 _ _ _ h)
theorem w_X0_callsOf_28 {X : ZX} (C : zC X cX0_callsOf RX0 4 (some .int) 2 42 274) {K : Int → ZM → Prop} (hR : zRi X cX0_callsOf (some .int) 274 (KN (KI K)))  {x0 : Int} {x1 : Int} {x3 : Int} {s0 : Int} {s1 : Int} {μ : ZM} {G4 : Int → Int → ZM → Prop} (hG4 : ∀ (x2 x3 : Int) (μ : ZM), G4 x2 x3 μ → zV X 4 [some (.inr x0), some (.inl x1), some (.inl x2), some (.inl x3)] [] 274 (z_ov μ)) (hx0 : z_cm x0) (h : P_X0_callsOf_28  G4 x0 x1 x3 s0 s1 μ K) : zV X 28 [some (.inr x0), some (.inl x1), none, some (.inl x3)] [.inl s1, .inl s0] 274 (z_ov μ) := by
  refine u_iadd (q := 29) C dX0_callsOf_28 rfl h (fun h => ?_)
  refine v_istoren (q := 30) C dX0_callsOf_29 rfl (nb rfl) (L' := [some (.inr x0), some (.inl x1), some (.inl (s0 + s1)), some (.inl x3)]) rfl ?_
  refine v_iloadn (q := 31) C dX0_callsOf_30 rfl rfl ?_
  refine v_aloadn (q := 32) C dX0_callsOf_31 rfl rfl ?_
  refine u_getR (v := 6 * (x0 - 187) + 4) (q := 35) C kl0 fl_X0_18 (ob_cm hx0) (pt_right hx0) (by omega) rfl rfl dX0_callsOf_32 rfl ?_
  refine v_iloadn (q := 36) C dX0_callsOf_35 rfl rfl ?_
  refine v_iloadn (q := 37) C dX0_callsOf_36 rfl rfl ?_
  refine u_cVi2 (q := 40) C (c_X10_isCall h) sy_X10_isCall si_X10_isCall ml_X0_33 (ob_tm (tm_right hx0)) (by decide) so_X10_isCall ⟨nb rfl, nb rfl⟩ (nb rfl) dX0_callsOf_37 rfl (fun r4 μ3 h => ?_)
  refine v_if_eq (q := 43) (tgt := 47) C dX0_callsOf_40 rfl rfl h (fun h => ?_) (fun h => ?_)
  · refine v_iconst (q := 48) C dX0_callsOf_47 rfl (by decide) ?_
    exact v_mask [true, true, false, true] rfl (w_X0_callsOf_48  C hR hG4 hx0 h)
  · refine v_iconst (q := 44) C dX0_callsOf_43 rfl (by decide) ?_
    refine v_goto (q := 48) C dX0_callsOf_44 rfl ?_
    exact v_mask [true, true, false, true] rfl (w_X0_callsOf_48  C hR hG4 hx0 h)
theorem w_X0_callsOf_4 {X : ZX} (C : zC X cX0_callsOf RX0 4 (some .int) 2 42 274) {K : Int → ZM → Prop} (hR : zRi X cX0_callsOf (some .int) 274 (KN (KI K)))  {x0 : Int} {x1 : Int} {x2 : Int} {x3 : Int} {μ : ZM}  (hx0 : z_cm x0) (h : P_X0_callsOf_4   x0 x1 x2 x3 μ K) : zV X 4 [some (.inr x0), some (.inl x1), some (.inl x2), some (.inl x3)] [] 274 (z_ov μ) := by
  refine h (fun x2 x3 μ => zV X 4 [some (.inr x0), some (.inl x1), some (.inl x2), some (.inl x3)] [] 274 (z_ov μ)) (fun x2 x3 μ h => ?_)
  refine v_iloadn (q := 5) C dX0_callsOf_4 rfl rfl ?_
  refine v_bipush (q := 7) C dX0_callsOf_5 rfl (by decide) ?_
  refine v_icmp_ge (q := 10) (tgt := 56) C dX0_callsOf_7 rfl rfl h (fun h => ?_) (fun h => ?_)
  · refine v_iloadn (q := 57) C dX0_callsOf_56 rfl rfl ?_
    exact u_iret hR dX0_callsOf_57 h
  · refine v_iloadn (q := 11) C dX0_callsOf_10 rfl rfl ?_
    refine v_aloadn (q := 12) C dX0_callsOf_11 rfl rfl ?_
    refine u_getR (v := 6 * (x0 - 187) + 1) (q := 15) C kl0 fl_X0_12 (ob_cm hx0) (pt_left hx0) (by omega) rfl rfl dX0_callsOf_12 rfl ?_
    refine v_iloadn (q := 16) C dX0_callsOf_15 rfl rfl ?_
    refine v_iloadn (q := 17) C dX0_callsOf_16 rfl rfl ?_
    refine u_cVi2 (q := 20) C (c_X10_isCall h) sy_X10_isCall si_X10_isCall ml_X0_33 (ob_tm (tm_left hx0)) (by decide) so_X10_isCall ⟨nb rfl, nb rfl⟩ (nb rfl) dX0_callsOf_17 rfl (fun r2 μ1 h => ?_)
    refine v_if_eq (q := 23) (tgt := 27) C dX0_callsOf_20 rfl rfl h (fun h => ?_) (fun h => ?_)
    · refine v_iconst (q := 28) C dX0_callsOf_27 rfl (by decide) ?_
      exact v_mask [true, true, false, true] rfl (w_X0_callsOf_28  C hR (fun _ _ _ h => h) hx0 h)
    · refine v_iconst (q := 24) C dX0_callsOf_23 rfl (by decide) ?_
      refine v_goto (q := 28) C dX0_callsOf_24 rfl ?_
      exact v_mask [true, true, false, true] rfl (w_X0_callsOf_28  C hR (fun _ _ _ h => h) hx0 h)
theorem c_X0_callsOf {x0 : Int} {x1 : Int} {μ : ZM} {K : Int → ZM → Prop} (h : P_X0_callsOf  x0 x1 μ K) : zMu yX0_callsOf cX0_callsOf 4 (some .int) 2 42 [.inr x0, .inl x1] μ (KI K) := by
  refine zMet_of (L0 := [some (.inr x0), some (.inl x1), none, none]) sy_X0_callsOf rfl (nb rfl) (Nat.le_refl _) (fun X C _ hR _ _ => ?_)
  have C : zC X cX0_callsOf RX0 4 (some .int) 2 42 274 := C
  have hx0 := h.1
  replace h := h.2
  refine v_iconst (q := 1) C dX0_callsOf_0 rfl (by decide) ?_
  refine v_istoren (q := 2) C dX0_callsOf_1 rfl (nb rfl) (L' := [some (.inr x0), some (.inl x1), some (.inl 0), none]) rfl ?_
  refine v_iconst (q := 3) C dX0_callsOf_2 rfl (by decide) ?_
  refine v_istoren (q := 4) C dX0_callsOf_3 rfl (nb rfl) (L' := [some (.inr x0), some (.inl x1), some (.inl 0), some (.inl 0)]) rfl ?_
  exact (w_X0_callsOf_4  C hR  hx0 h)
theorem w_X10_isSameAt_54 {X : ZX} (C : zC X cX10_isSameAt RX10 6 (some .boolean) 0 0 274) {K : Int → ZM → Prop} (hR : zRi X cX10_isSameAt (some .boolean) 274 (KN (KI K)))  {x0 : Int} {x1 : Int} {x2 : Int} {x3 : Int} {x4 : Int} {x5 : Int} {μ : ZM}  (hx0 : z_tm x0) (hx2 : z_tm x2) (h : P_X10_isSameAt_54   x0 x1 x2 x3 x4 x5 μ K) : zV X 54 [some (.inr x0), some (.inl x1), some (.inr x2), some (.inl x3), some (.inl x4), some (.inl x5)] [] 274 (z_ov μ) := by
  refine h (fun x5 μ => zV X 54 [some (.inr x0), some (.inl x1), some (.inr x2), some (.inl x3), some (.inl x4), some (.inl x5)] [] 274 (z_ov μ)) (fun x5 μ h => ?_)
  refine v_iload (q := 56) C dX10_isSameAt_54 rfl rfl ?_
  refine v_iload (q := 58) C dX10_isSameAt_56 rfl rfl ?_
  refine v_icmp_ge (q := 61) (tgt := 90) C dX10_isSameAt_58 rfl rfl h (fun h => ?_) (fun h => ?_)
  · refine v_iconst (q := 91) C dX10_isSameAt_90 rfl (by decide) ?_
    exact u_zret hR dX10_isSameAt_91 h
  · refine v_aloadn (q := 62) C dX10_isSameAt_61 rfl rfl ?_
    refine u_getR (v := x0 + 1) (q := 65) C kl10 fl_X10_9 (ob_tm hx0) (pt_code hx0) (by omega) rfl rfl dX10_isSameAt_62 rfl ?_
    refine v_iloadn (q := 66) C dX10_isSameAt_65 rfl rfl ?_
    refine v_iload (q := 68) C dX10_isSameAt_66 rfl rfl ?_
    refine u_iadd (q := 69) C dX10_isSameAt_68 rfl h (fun h => ?_)
    refine u_iald (q := 70) C (ia_code hx0) dX10_isSameAt_69 rfl h (fun h => ?_)
    refine v_aloadn (q := 71) C dX10_isSameAt_70 rfl rfl ?_
    refine u_getR (v := x2 + 1) (q := 74) C kl10 fl_X10_9 (ob_tm hx2) (pt_code hx2) (by omega) rfl rfl dX10_isSameAt_71 rfl ?_
    refine v_iloadn (q := 75) C dX10_isSameAt_74 rfl rfl ?_
    refine v_iload (q := 77) C dX10_isSameAt_75 rfl rfl ?_
    refine u_iadd (q := 78) C dX10_isSameAt_77 rfl h (fun h => ?_)
    refine u_iald (q := 79) C (ia_code hx2) dX10_isSameAt_78 rfl h (fun h => ?_)
    refine v_icmp_eq (q := 82) (tgt := 84) C dX10_isSameAt_79 rfl rfl h (fun h => ?_) (fun h => ?_)
    · refine u_iinc (q := 87) C dX10_isSameAt_84 rfl (nb rfl) rfl (L' := [some (.inr x0), some (.inl x1), some (.inr x2), some (.inl x3), some (.inl x4), some (.inl (x5 + 1))]) rfl h (fun h => ?_)
      refine v_goto (q := 54) C dX10_isSameAt_87 rfl ?_
      exact h
    · refine v_iconst (q := 83) C dX10_isSameAt_82 rfl (by decide) ?_
      exact u_zret hR dX10_isSameAt_83 h
theorem c_X10_isSameAt {x0 : Int} {x1 : Int} {x2 : Int} {x3 : Int} {μ : ZM} {K : Int → ZM → Prop} (h : P_X10_isSameAt  x0 x1 x2 x3 μ K) : zMu yX10_isSameAt cX10_isSameAt 6 (some .boolean) 0 0 [.inr x0, .inl x1, .inr x2, .inl x3] μ (KI K) := by
  refine zMet_of (L0 := [some (.inr x0), some (.inl x1), some (.inr x2), some (.inl x3), none, none]) sy_X10_isSameAt rfl (nb rfl) (Nat.le_refl _) (fun X C _ hR _ _ => ?_)
  have C : zC X cX10_isSameAt RX10 6 (some .boolean) 0 0 274 := C
  have hx0 := h.1
  replace h := h.2
  have hx2 := h.1
  replace h := h.2
  refine v_iloadn (q := 1) C dX10_isSameAt_0 rfl rfl ?_
  refine v_if_lt (q := 4) (tgt := 24) C dX10_isSameAt_1 rfl rfl h (fun h => ?_) (fun h => ?_)
  · refine v_iconst (q := 25) C dX10_isSameAt_24 rfl (by decide) ?_
    exact u_zret hR dX10_isSameAt_25 h
  · refine v_iloadn (q := 5) C dX10_isSameAt_4 rfl rfl ?_
    refine v_aloadn (q := 6) C dX10_isSameAt_5 rfl rfl ?_
    refine u_getI (q := 9) C kl10 fl_X10_18 (ob_tm hx0) (pt_size hx0) rfl rfl dX10_isSameAt_6 rfl ?_
    refine v_icmp_ge (q := 12) (tgt := 24) C dX10_isSameAt_9 rfl rfl h (fun h => ?_) (fun h => ?_)
    · refine v_iconst (q := 25) C dX10_isSameAt_24 rfl (by decide) ?_
      exact u_zret hR dX10_isSameAt_25 h
    · refine v_iloadn (q := 13) C dX10_isSameAt_12 rfl rfl ?_
      refine v_if_lt (q := 16) (tgt := 24) C dX10_isSameAt_13 rfl rfl h (fun h => ?_) (fun h => ?_)
      · refine v_iconst (q := 25) C dX10_isSameAt_24 rfl (by decide) ?_
        exact u_zret hR dX10_isSameAt_25 h
      · refine v_iloadn (q := 17) C dX10_isSameAt_16 rfl rfl ?_
        refine v_aloadn (q := 18) C dX10_isSameAt_17 rfl rfl ?_
        refine u_getI (q := 21) C kl10 fl_X10_18 (ob_tm hx2) (pt_size hx2) rfl rfl dX10_isSameAt_18 rfl ?_
        refine v_icmp_lt (q := 24) (tgt := 26) C dX10_isSameAt_21 rfl rfl h (fun h => ?_) (fun h => ?_)
        · refine v_aloadn (q := 27) C dX10_isSameAt_26 rfl rfl ?_
          refine u_getR (v := x0 + 2) (q := 30) C kl10 fl_X10_15 (ob_tm hx0) (pt_end hx0) (by omega) rfl rfl dX10_isSameAt_27 rfl ?_
          refine v_iloadn (q := 31) C dX10_isSameAt_30 rfl rfl ?_
          refine u_iald (q := 32) C (ia_end hx0) dX10_isSameAt_31 rfl h (fun h => ?_)
          refine v_iloadn (q := 33) C dX10_isSameAt_32 rfl rfl ?_
          refine u_isub (q := 34) C dX10_isSameAt_33 rfl h (fun h => ?_)
          refine v_istore (q := 36) C dX10_isSameAt_34 rfl (nb rfl) (L' := [some (.inr x0), some (.inl x1), some (.inr x2), some (.inl x3), some (.inl ((μ (x0 + 2) x1) - x1)), none]) rfl ?_
          refine v_aloadn (q := 37) C dX10_isSameAt_36 rfl rfl ?_
          refine u_getR (v := x2 + 2) (q := 40) C kl10 fl_X10_15 (ob_tm hx2) (pt_end hx2) (by omega) rfl rfl dX10_isSameAt_37 rfl ?_
          refine v_iloadn (q := 41) C dX10_isSameAt_40 rfl rfl ?_
          refine u_iald (q := 42) C (ia_end hx2) dX10_isSameAt_41 rfl h (fun h => ?_)
          refine v_iloadn (q := 43) C dX10_isSameAt_42 rfl rfl ?_
          refine u_isub (q := 44) C dX10_isSameAt_43 rfl h (fun h => ?_)
          refine v_iload (q := 46) C dX10_isSameAt_44 rfl rfl ?_
          refine v_icmp_eq (q := 49) (tgt := 51) C dX10_isSameAt_46 rfl rfl h (fun h => ?_) (fun h => ?_)
          · refine v_iconst (q := 52) C dX10_isSameAt_51 rfl (by decide) ?_
            refine v_istore (q := 54) C dX10_isSameAt_52 rfl (nb rfl) (L' := [some (.inr x0), some (.inl x1), some (.inr x2), some (.inl x3), some (.inl ((μ (x0 + 2) x1) - x1)), some (.inl 0)]) rfl ?_
            exact (w_X10_isSameAt_54  C hR  hx0 hx2 h)
          · refine v_iconst (q := 50) C dX10_isSameAt_49 rfl (by decide) ?_
            exact u_zret hR dX10_isSameAt_50 h
        · refine v_iconst (q := 25) C dX10_isSameAt_24 rfl (by decide) ?_
          exact u_zret hR dX10_isSameAt_25 h
theorem w_X10_hasSubterm_2 {X : ZX} (C : zC X cX10_hasSubterm RX10 4 (some .boolean) 1 25 274) {K : Int → ZM → Prop} (hR : zRi X cX10_hasSubterm (some .boolean) 274 (KN (KI K)))  {x0 : Int} {x1 : Int} {x2 : Int} {x3 : Int} {μ : ZM}  (hx0 : z_tm x0) (hx1 : z_tm x1) (h : P_X10_hasSubterm_2   x0 x1 x2 x3 μ K) : zV X 2 [some (.inr x0), some (.inr x1), some (.inl x2), some (.inl x3)] [] 274 (z_ov μ) := by
  refine h (fun x3 μ => zV X 2 [some (.inr x0), some (.inr x1), some (.inl x2), some (.inl x3)] [] 274 (z_ov μ)) (fun x3 μ h => ?_)
  refine v_iloadn (q := 3) C dX10_hasSubterm_2 rfl rfl ?_
  refine v_aloadn (q := 4) C dX10_hasSubterm_3 rfl rfl ?_
  refine u_getI (q := 7) C kl10 fl_X10_18 (ob_tm hx0) (pt_size hx0) rfl rfl dX10_hasSubterm_4 rfl ?_
  refine v_icmp_ge (q := 10) (tgt := 28) C dX10_hasSubterm_7 rfl rfl h (fun h => ?_) (fun h => ?_)
  · refine v_iconst (q := 29) C dX10_hasSubterm_28 rfl (by decide) ?_
    exact u_zret hR dX10_hasSubterm_29 h
  · refine v_aloadn (q := 11) C dX10_hasSubterm_10 rfl rfl ?_
    refine v_iloadn (q := 12) C dX10_hasSubterm_11 rfl rfl ?_
    refine v_aloadn (q := 13) C dX10_hasSubterm_12 rfl rfl ?_
    refine v_iloadn (q := 14) C dX10_hasSubterm_13 rfl rfl ?_
    refine u_cVi3 (q := 17) C (c_X10_isSameAt h) sy_X10_isSameAt si_X10_isSameAt ml_X10_28 (ob_tm hx0) (by decide) so_X10_isSameAt ⟨nb rfl, nb rfl⟩ (nb rfl) dX10_hasSubterm_14 rfl (fun r2 μ1 h => ?_)
    refine v_if_eq (q := 20) (tgt := 22) C dX10_hasSubterm_17 rfl rfl h (fun h => ?_) (fun h => ?_)
    · refine u_iinc (q := 25) C dX10_hasSubterm_22 rfl (nb rfl) rfl (L' := [some (.inr x0), some (.inr x1), some (.inl x2), some (.inl (x3 + 1))]) rfl h (fun h => ?_)
      refine v_goto (q := 2) C dX10_hasSubterm_25 rfl ?_
      exact h
    · refine v_iconst (q := 21) C dX10_hasSubterm_20 rfl (by decide) ?_
      exact u_zret hR dX10_hasSubterm_21 h
theorem c_X10_hasSubterm {x0 : Int} {x1 : Int} {x2 : Int} {μ : ZM} {K : Int → ZM → Prop} (h : P_X10_hasSubterm  x0 x1 x2 μ K) : zMu yX10_hasSubterm cX10_hasSubterm 4 (some .boolean) 1 25 [.inr x0, .inr x1, .inl x2] μ (KI K) := by
  refine zMet_of (L0 := [some (.inr x0), some (.inr x1), some (.inl x2), none]) sy_X10_hasSubterm rfl (nb rfl) (Nat.le_refl _) (fun X C _ hR _ _ => ?_)
  have C : zC X cX10_hasSubterm RX10 4 (some .boolean) 1 25 274 := C
  have hx0 := h.1
  replace h := h.2
  have hx1 := h.1
  replace h := h.2
  refine v_iconst (q := 1) C dX10_hasSubterm_0 rfl (by decide) ?_
  refine v_istoren (q := 2) C dX10_hasSubterm_1 rfl (nb rfl) (L' := [some (.inr x0), some (.inr x1), some (.inl x2), some (.inl 0)]) rfl ?_
  exact (w_X10_hasSubterm_2  C hR  hx0 hx1 h)
theorem w_X0_commonStart_72 {X : ZX} (C : zC X cX0_commonStart RX0 5 (some .int) 2 48 274) {K : Int → ZM → Prop} (hR : zRi X cX0_commonStart (some .int) 274 (KN (KI K)))  {x0 : Int} {x1 : Int} {x2 : Int} {x3 : Int} {μ : ZM} {G7 : Int → Int → Int → ZM → Prop} (hG7 : ∀ (x1 x2 x3 : Int) (μ : ZM), G7 x1 x2 x3 μ → zV X 7 [some (.inr x0), some (.inl x1), some (.inl x2), some (.inl x3), none] [] 274 (z_ov μ)) (hx0 : z_cm x0) (h : P_X0_commonStart_72  G7 x0 x1 x2 x3 μ K) : zV X 72 [some (.inr x0), some (.inl x1), some (.inl x2), some (.inl x3), none] [] 274 (z_ov μ) := by
  refine u_iinc (q := 75) C dX0_commonStart_72 rfl (nb rfl) rfl (L' := [some (.inr x0), some (.inl x1), some (.inl x2), some (.inl (x3 + 1)), none]) rfl h (fun h => ?_)
  refine v_goto (q := 7) C dX0_commonStart_75 rfl ?_
  exact (hG7 _ _ _ _ h)
theorem w_X0_commonStart_7 {X : ZX} (C : zC X cX0_commonStart RX0 5 (some .int) 2 48 274) {K : Int → ZM → Prop} (hR : zRi X cX0_commonStart (some .int) 274 (KN (KI K)))  {x0 : Int} {x1 : Int} {x2 : Int} {x3 : Int} {μ : ZM}  (hx0 : z_cm x0) (h : P_X0_commonStart_7   x0 x1 x2 x3 μ K) : zV X 7 [some (.inr x0), some (.inl x1), some (.inl x2), some (.inl x3), none] [] 274 (z_ov μ) := by
  refine h (fun x1 x2 x3 μ => zV X 7 [some (.inr x0), some (.inl x1), some (.inl x2), some (.inl x3), none] [] 274 (z_ov μ)) (fun x1 x2 x3 μ h => ?_)
  refine v_iloadn (q := 8) C dX0_commonStart_7 rfl rfl ?_
  refine v_aloadn (q := 9) C dX0_commonStart_8 rfl rfl ?_
  refine u_getR (v := 6 * (x0 - 187) + 1) (q := 12) C kl0 fl_X0_12 (ob_cm hx0) (pt_left hx0) (by omega) rfl rfl dX0_commonStart_9 rfl ?_
  refine u_getI (q := 15) C kl10 fl_X0_60 (ob_tm (tm_left hx0)) (pt_size (tm_left hx0)) rfl rfl dX0_commonStart_12 rfl ?_
  refine v_icmp_ge (q := 18) (tgt := 78) C dX0_commonStart_15 rfl rfl h (fun h => ?_) (fun h => ?_)
  · refine v_iloadn (q := 79) C dX0_commonStart_78 rfl rfl ?_
    exact u_iret hR dX0_commonStart_79 h
  · refine v_aloadn (q := 19) C dX0_commonStart_18 rfl rfl ?_
    refine u_getR (v := 6 * (x0 - 187) + 1) (q := 22) C kl0 fl_X0_12 (ob_cm hx0) (pt_left hx0) (by omega) rfl rfl dX0_commonStart_19 rfl ?_
    refine u_getR (v := 6 * (x0 - 187) + 1 + 2) (q := 25) C kl10 fl_X0_64 (ob_tm (tm_left hx0)) (pt_end (tm_left hx0)) (by omega) rfl rfl dX0_commonStart_22 rfl ?_
    refine v_iloadn (q := 26) C dX0_commonStart_25 rfl rfl ?_
    refine u_iald (q := 27) C (ia_end (tm_left hx0)) dX0_commonStart_26 rfl h (fun h => ?_)
    refine v_iloadn (q := 28) C dX0_commonStart_27 rfl rfl ?_
    refine u_isub (q := 29) C dX0_commonStart_28 rfl h (fun h => ?_)
    refine v_istore (q := 31) C dX0_commonStart_29 rfl (nb rfl) (L' := [some (.inr x0), some (.inl x1), some (.inl x2), some (.inl x3), some (.inl ((μ (6 * (x0 - 187) + 1 + 2) x3) - x3))]) rfl ?_
    refine v_iload (q := 33) C dX0_commonStart_31 rfl rfl ?_
    refine v_iloadn (q := 34) C dX0_commonStart_33 rfl rfl ?_
    refine v_icmp_le (q := 37) (tgt := 72) C dX0_commonStart_34 rfl rfl h (fun h => ?_) (fun h => ?_)
    · exact v_mask [true, true, true, true, false] rfl (w_X0_commonStart_72  C hR (fun _ _ _ _ h => h) hx0 h)
    · refine v_aloadn (q := 38) C dX0_commonStart_37 rfl rfl ?_
      refine u_getR (v := 6 * (x0 - 187) + 1) (q := 41) C kl0 fl_X0_12 (ob_cm hx0) (pt_left hx0) (by omega) rfl rfl dX0_commonStart_38 rfl ?_
      refine u_getR (v := 6 * (x0 - 187) + 1 + 1) (q := 44) C kl10 fl_X0_37 (ob_tm (tm_left hx0)) (pt_code (tm_left hx0)) (by omega) rfl rfl dX0_commonStart_41 rfl ?_
      refine v_iloadn (q := 45) C dX0_commonStart_44 rfl rfl ?_
      refine u_iald (q := 46) C (ia_code (tm_left hx0)) dX0_commonStart_45 rfl h (fun h => ?_)
      refine u_cSi1 (q := 49) C (c_X10_isLetter h) sy_X10_isLetter ss_X10_isLetter ml_X0_67 ⟨nb rfl, nb rfl⟩ (nb rfl) dX0_commonStart_46 rfl (fun r2 μ1 h => ?_)
      refine v_if_eq (q := 52) (tgt := 72) C dX0_commonStart_49 rfl rfl h (fun h => ?_) (fun h => ?_)
      · exact v_mask [true, true, true, true, false] rfl (w_X0_commonStart_72  C hR (fun _ _ _ _ h => h) hx0 h)
      · refine v_aloadn (q := 53) C dX0_commonStart_52 rfl rfl ?_
        refine u_getR (v := 6 * (x0 - 187) + 4) (q := 56) C kl0 fl_X0_18 (ob_cm hx0) (pt_right hx0) (by omega) rfl rfl dX0_commonStart_53 rfl ?_
        refine v_aloadn (q := 57) C dX0_commonStart_56 rfl rfl ?_
        refine u_getR (v := 6 * (x0 - 187) + 1) (q := 60) C kl0 fl_X0_12 (ob_cm hx0) (pt_left hx0) (by omega) rfl rfl dX0_commonStart_57 rfl ?_
        refine v_iloadn (q := 61) C dX0_commonStart_60 rfl rfl ?_
        refine u_cVi2 (q := 64) C (c_X10_hasSubterm h) sy_X10_hasSubterm si_X10_hasSubterm ml_X0_70 (ob_tm (tm_right hx0)) (by decide) so_X10_hasSubterm ⟨nb rfl, nb rfl⟩ (nb rfl) dX0_commonStart_61 rfl (fun r4 μ3 h => ?_)
        refine v_if_eq (q := 67) (tgt := 72) C dX0_commonStart_64 rfl rfl h (fun h => ?_) (fun h => ?_)
        · exact v_mask [true, true, true, true, false] rfl (w_X0_commonStart_72  C hR (fun _ _ _ _ h => h) hx0 h)
        · refine v_iloadn (q := 68) C dX0_commonStart_67 rfl rfl ?_
          refine v_istoren (q := 69) C dX0_commonStart_68 rfl (nb rfl) (L' := [some (.inr x0), some (.inl x3), some (.inl x2), some (.inl x3), some (.inl ((μ (6 * (x0 - 187) + 1 + 2) x3) - x3))]) rfl ?_
          refine v_iload (q := 71) C dX0_commonStart_69 rfl rfl ?_
          refine v_istoren (q := 72) C dX0_commonStart_71 rfl (nb rfl) (L' := [some (.inr x0), some (.inl x3), some (.inl ((μ (6 * (x0 - 187) + 1 + 2) x3) - x3)), some (.inl x3), some (.inl ((μ (6 * (x0 - 187) + 1 + 2) x3) - x3))]) rfl ?_
          exact v_mask [true, true, true, true, false] rfl (w_X0_commonStart_72  C hR (fun _ _ _ _ h => h) hx0 h)
theorem c_X0_commonStart {x0 : Int} {μ : ZM} {K : Int → ZM → Prop} (h : P_X0_commonStart  x0 μ K) : zMu yX0_commonStart cX0_commonStart 5 (some .int) 2 48 [.inr x0] μ (KI K) := by
  refine zMet_of (L0 := [some (.inr x0), none, none, none, none]) sy_X0_commonStart rfl (nb rfl) (Nat.le_refl _) (fun X C _ hR _ _ => ?_)
  have C : zC X cX0_commonStart RX0 5 (some .int) 2 48 274 := C
  have hx0 := h.1
  replace h := h.2
  refine v_bipush (q := 2) C dX0_commonStart_0 rfl (by decide) ?_
  refine v_istoren (q := 3) C dX0_commonStart_2 rfl (nb rfl) (L' := [some (.inr x0), some (.inl ((-9))), none, none, none]) rfl ?_
  refine v_iconst (q := 4) C dX0_commonStart_3 rfl (by decide) ?_
  refine v_istoren (q := 5) C dX0_commonStart_4 rfl (nb rfl) (L' := [some (.inr x0), some (.inl ((-9))), some (.inl 0), none, none]) rfl ?_
  refine v_iconst (q := 6) C dX0_commonStart_5 rfl (by decide) ?_
  refine v_istoren (q := 7) C dX0_commonStart_6 rfl (nb rfl) (L' := [some (.inr x0), some (.inl ((-9))), some (.inl 0), some (.inl 0), none]) rfl ?_
  exact (w_X0_commonStart_7  C hR  hx0 h)
theorem c_X10_copy {x0 : Int} {x1 : Int} {μ : ZM} {K : ZM → Prop} (h : P_X10_copy  x0 x1 μ K) : zMu yX10_copy cX10_copy 2 none 1 40 [.inr x0, .inr x1] μ (KV K) := by
  refine zMet_of (L0 := [some (.inr x0), some (.inr x1)]) sy_X10_copy rfl (nb rfl) (Nat.le_refl _) (fun X C _ _ _ hR => ?_)
  have C : zC X cX10_copy RX10 2 none 1 40 274 := C
  have hx0 := h.1
  replace h := h.2
  have hx1 := h.1
  replace h := h.2
  refine v_aloadn (q := 1) C dX10_copy_0 rfl rfl ?_
  refine v_aloadn (q := 2) C dX10_copy_1 rfl rfl ?_
  refine u_getI (q := 5) C kl10 fl_X10_18 (ob_tm hx1) (pt_size hx1) rfl rfl dX10_copy_2 rfl ?_
  refine u_put (q := 8) C kl10 fl_X10_18 (ob_tm hx0) (pt_size hx0) rfl rfl rfl rfl dX10_copy_5 rfl h (fun μ1 h => ?_)
  refine v_aloadn (q := 9) C dX10_copy_8 rfl rfl ?_
  refine u_getR (v := x1 + 1) (q := 12) C kl10 fl_X10_9 (ob_tm hx1) (pt_code hx1) (by omega) rfl rfl dX10_copy_9 rfl ?_
  refine v_iconst (q := 13) C dX10_copy_12 rfl (by decide) ?_
  refine v_aloadn (q := 14) C dX10_copy_13 rfl rfl ?_
  refine u_getR (v := x0 + 1) (q := 17) C kl10 fl_X10_9 (ob_tm hx0) (pt_code hx0) (by omega) rfl rfl dX10_copy_14 rfl ?_
  refine v_iconst (q := 18) C dX10_copy_17 rfl (by decide) ?_
  refine v_aloadn (q := 19) C dX10_copy_18 rfl rfl ?_
  refine u_getI (q := 22) C kl10 fl_X10_18 (ob_tm hx1) (pt_size hx1) rfl rfl dX10_copy_19 rfl ?_
  refine u_acopy (q := 25) C (ia_code hx1) (ia_code hx0) ml_X10_22 (nb rfl) (nb rfl) dX10_copy_22 rfl h (fun μ2 h => ?_)
  refine v_aloadn (q := 26) C dX10_copy_25 rfl rfl ?_
  refine u_getR (v := x1 + 2) (q := 29) C kl10 fl_X10_15 (ob_tm hx1) (pt_end hx1) (by omega) rfl rfl dX10_copy_26 rfl ?_
  refine v_iconst (q := 30) C dX10_copy_29 rfl (by decide) ?_
  refine v_aloadn (q := 31) C dX10_copy_30 rfl rfl ?_
  refine u_getR (v := x0 + 2) (q := 34) C kl10 fl_X10_15 (ob_tm hx0) (pt_end hx0) (by omega) rfl rfl dX10_copy_31 rfl ?_
  refine v_iconst (q := 35) C dX10_copy_34 rfl (by decide) ?_
  refine v_aloadn (q := 36) C dX10_copy_35 rfl rfl ?_
  refine u_getI (q := 39) C kl10 fl_X10_18 (ob_tm hx1) (pt_size hx1) rfl rfl dX10_copy_36 rfl ?_
  refine u_acopy (q := 42) C (ia_end hx1) (ia_end hx0) ml_X10_22 (nb rfl) (nb rfl) dX10_copy_39 rfl h (fun μ3 h => ?_)
  exact u_vret hR dX10_copy_42 h
theorem c_X0_copy {x0 : Int} {x1 : Int} {μ : ZM} {K : ZM → Prop} (h : P_X0_copy  x0 x1 μ K) : zMu yX0_copy cX0_copy 2 none 2 61 [.inr x0, .inr x1] μ (KV K) := by
  refine zMet_of (L0 := [some (.inr x0), some (.inr x1)]) sy_X0_copy rfl (nb rfl) (Nat.le_refl _) (fun X C _ _ _ hR => ?_)
  have C : zC X cX0_copy RX0 2 none 2 61 274 := C
  have hx0 := h.1
  replace h := h.2
  have hx1 := h.1
  replace h := h.2
  refine v_aloadn (q := 1) C dX0_copy_0 rfl rfl ?_
  refine u_getR (v := 6 * (x0 - 187) + 1) (q := 4) C kl0 fl_X0_12 (ob_cm hx0) (pt_left hx0) (by omega) rfl rfl dX0_copy_1 rfl ?_
  refine v_aloadn (q := 5) C dX0_copy_4 rfl rfl ?_
  refine u_getR (v := 6 * (x1 - 187) + 1) (q := 8) C kl0 fl_X0_12 (ob_cm hx1) (pt_left hx1) (by omega) rfl rfl dX0_copy_5 rfl ?_
  refine u_cVv1 (q := 11) C (c_X10_copy h) sy_X10_copy si_X10_copy ml_X0_21 (ob_tm (tm_left hx0)) (by decide) so_X10_copy ⟨nb rfl, nb rfl⟩ (nb rfl) dX0_copy_8 rfl (fun μ1 h => ?_)
  refine v_aloadn (q := 12) C dX0_copy_11 rfl rfl ?_
  refine u_getR (v := 6 * (x0 - 187) + 4) (q := 15) C kl0 fl_X0_18 (ob_cm hx0) (pt_right hx0) (by omega) rfl rfl dX0_copy_12 rfl ?_
  refine v_aloadn (q := 16) C dX0_copy_15 rfl rfl ?_
  refine u_getR (v := 6 * (x1 - 187) + 4) (q := 19) C kl0 fl_X0_18 (ob_cm hx1) (pt_right hx1) (by omega) rfl rfl dX0_copy_16 rfl ?_
  refine u_cVv1 (q := 22) C (c_X10_copy h) sy_X10_copy si_X10_copy ml_X0_21 (ob_tm (tm_right hx0)) (by decide) so_X10_copy ⟨nb rfl, nb rfl⟩ (nb rfl) dX0_copy_19 rfl (fun μ2 h => ?_)
  exact u_vret hR dX0_copy_22 h
theorem c_X3_depthOf {x1 : Int} {μ : ZM} {K : Int → ZM → Prop} (h : P_X3_depthOf  x1 μ K) : zMu yX3_depthOf cX3_depthOf 3 (some .int) 0 0 [.inr 207, .inl x1] μ (KI K) := by
  refine zMet_of (L0 := [some (.inr 207), some (.inl x1), none]) sy_X3_depthOf rfl (nb rfl) (Nat.le_refl _) (fun X C _ hR _ _ => ?_)
  have C : zC X cX3_depthOf RX3 3 (some .int) 0 0 274 := C
  refine v_iloadn (q := 1) C dX3_depthOf_0 rfl rfl ?_
  refine v_bipush (q := 3) C dX3_depthOf_1 rfl (by decide) ?_
  refine u_isub (q := 4) C dX3_depthOf_3 rfl h (fun h => ?_)
  refine v_istoren (q := 5) C dX3_depthOf_4 rfl (nb rfl) (L' := [some (.inr 207), some (.inl x1), some (.inl (x1 - 97))]) rfl ?_
  refine v_iloadn (q := 6) C dX3_depthOf_5 rfl rfl ?_
  refine v_if_lt (q := 9) (tgt := 26) C dX3_depthOf_6 rfl rfl h (fun h => ?_) (fun h => ?_)
  · refine v_iconst (q := 27) C dX3_depthOf_26 rfl (by decide) ?_
    exact u_iret hR dX3_depthOf_27 h
  · refine v_iloadn (q := 10) C dX3_depthOf_9 rfl rfl ?_
    refine v_aloadn (q := 11) C dX3_depthOf_10 rfl rfl ?_
    refine u_getI (q := 14) C kl3 fl_X3_28 ob_207 pt_207_4 rfl rfl dX3_depthOf_11 rfl ?_
    refine v_icmp_ge (q := 17) (tgt := 26) C dX3_depthOf_14 rfl rfl h (fun h => ?_) (fun h => ?_)
    · refine v_iconst (q := 27) C dX3_depthOf_26 rfl (by decide) ?_
      exact u_iret hR dX3_depthOf_27 h
    · refine v_aloadn (q := 18) C dX3_depthOf_17 rfl rfl ?_
      refine u_getR (q := 21) C kl3 fl_X3_15 ob_207 pt_207_1 (by decide) rfl rfl dX3_depthOf_18 rfl ?_
      refine v_iloadn (q := 22) C dX3_depthOf_21 rfl rfl ?_
      refine u_iald (q := 23) C ia_209 dX3_depthOf_22 rfl h (fun h => ?_)
      refine v_goto (q := 27) C dX3_depthOf_23 rfl ?_
      exact u_iret hR dX3_depthOf_27 h
theorem w_X0_deepestCall_80 {X : ZX} (C : zC X cX0_deepestCall RX0 5 (some .int) 2 42 274) {K : Int → ZM → Prop} (hR : zRi X cX0_deepestCall (some .int) 274 (KN (KI K)))  {x0 : Int} {x1 : Int} {x3 : Int} {x4 : Int} {μ : ZM} {G5 : Int → Int → ZM → Prop} (hG5 : ∀ (x3 x4 : Int) (μ : ZM), G5 x3 x4 μ → zV X 5 [some (.inr x0), some (.inl x1), some (.inr 207), some (.inl x3), some (.inl x4)] [] 274 (z_ov μ)) (hx0 : z_cm x0) (h : P_X0_deepestCall_80  G5 x0 x1 x3 x4 μ K) : zV X 80 [some (.inr x0), some (.inl x1), some (.inr 207), some (.inl x3), some (.inl x4)] [] 274 (z_ov μ) := by
  refine u_iinc (q := 83) C dX0_deepestCall_80 rfl (nb rfl) rfl (L' := [some (.inr x0), some (.inl x1), some (.inr 207), some (.inl x3), some (.inl (x4 + 1))]) rfl h (fun h => ?_)
  refine v_goto (q := 5) C dX0_deepestCall_83 rfl ?_
  exact (hG5 _ _ _ h)
theorem w_X0_deepestCall_46 {X : ZX} (C : zC X cX0_deepestCall RX0 5 (some .int) 2 42 274) {K : Int → ZM → Prop} (hR : zRi X cX0_deepestCall (some .int) 274 (KN (KI K)))  {x0 : Int} {x1 : Int} {x3 : Int} {x4 : Int} {μ : ZM} {G5 : Int → Int → ZM → Prop} (hG5 : ∀ (x3 x4 : Int) (μ : ZM), G5 x3 x4 μ → zV X 5 [some (.inr x0), some (.inl x1), some (.inr 207), some (.inl x3), some (.inl x4)] [] 274 (z_ov μ)) (hx0 : z_cm x0) (h : P_X0_deepestCall_46  G5 x0 x1 x3 x4 μ K) : zV X 46 [some (.inr x0), some (.inl x1), some (.inr 207), some (.inl x3), some (.inl x4)] [] 274 (z_ov μ) := by
  refine v_aloadn (q := 47) C dX0_deepestCall_46 rfl rfl ?_
  refine u_getR (v := 6 * (x0 - 187) + 4) (q := 50) C kl0 fl_X0_18 (ob_cm hx0) (pt_right hx0) (by omega) rfl rfl dX0_deepestCall_47 rfl ?_
  refine v_iloadn (q := 51) C dX0_deepestCall_50 rfl rfl ?_
  refine v_iload (q := 53) C dX0_deepestCall_51 rfl rfl ?_
  refine u_cVi2 (q := 56) C (c_X10_isCall h) sy_X10_isCall si_X10_isCall ml_X0_33 (ob_tm (tm_right hx0)) (by decide) so_X10_isCall ⟨nb rfl, nb rfl⟩ (nb rfl) dX0_deepestCall_53 rfl (fun r4 μ3 h => ?_)
  refine v_if_eq (q := 59) (tgt := 80) C dX0_deepestCall_56 rfl rfl h (fun h => ?_) (fun h => ?_)
  · exact (w_X0_deepestCall_80  C hR hG5 hx0 h)
  · refine v_iloadn (q := 60) C dX0_deepestCall_59 rfl rfl ?_
    refine v_aloadn (q := 61) C dX0_deepestCall_60 rfl rfl ?_
    refine v_aloadn (q := 62) C dX0_deepestCall_61 rfl rfl ?_
    refine u_getR (v := 6 * (x0 - 187) + 4) (q := 65) C kl0 fl_X0_18 (ob_cm hx0) (pt_right hx0) (by omega) rfl rfl dX0_deepestCall_62 rfl ?_
    refine u_getR (v := 6 * (x0 - 187) + 4 + 1) (q := 68) C kl10 fl_X0_37 (ob_tm (tm_right hx0)) (pt_code (tm_right hx0)) (by omega) rfl rfl dX0_deepestCall_65 rfl ?_
    refine v_iload (q := 70) C dX0_deepestCall_68 rfl rfl ?_
    refine v_iconst (q := 71) C dX0_deepestCall_70 rfl (by decide) ?_
    refine u_isub (q := 72) C dX0_deepestCall_71 rfl h (fun h => ?_)
    refine u_iald (q := 73) C (ia_code (tm_right hx0)) dX0_deepestCall_72 rfl h (fun h => ?_)
    refine u_cVi1 (q := 76) C (c_X3_depthOf h) sy_X3_depthOf si_X3_depthOf ml_X0_41 ob_207 (by decide) so_X3_depthOf ⟨nb rfl, nb rfl⟩ (nb rfl) dX0_deepestCall_73 rfl (fun r6 μ5 h => ?_)
    refine v_max (q := 79) C ml_X0_47 (nb rfl) (nb rfl) (Nat.le_refl _) dX0_deepestCall_76 rfl ?_
    refine v_istoren (q := 80) C dX0_deepestCall_79 rfl (nb rfl) (L' := [some (.inr x0), some (.inl x1), some (.inr 207), some (.inl (max x3 r6)), some (.inl x4)]) rfl ?_
    exact (w_X0_deepestCall_80  C hR hG5 hx0 h)
theorem w_X0_deepestCall_5 {X : ZX} (C : zC X cX0_deepestCall RX0 5 (some .int) 2 42 274) {K : Int → ZM → Prop} (hR : zRi X cX0_deepestCall (some .int) 274 (KN (KI K)))  {x0 : Int} {x1 : Int} {x3 : Int} {x4 : Int} {μ : ZM}  (hx0 : z_cm x0) (h : P_X0_deepestCall_5   x0 x1 x3 x4 μ K) : zV X 5 [some (.inr x0), some (.inl x1), some (.inr 207), some (.inl x3), some (.inl x4)] [] 274 (z_ov μ) := by
  refine h (fun x3 x4 μ => zV X 5 [some (.inr x0), some (.inl x1), some (.inr 207), some (.inl x3), some (.inl x4)] [] 274 (z_ov μ)) (fun x3 x4 μ h => ?_)
  refine v_iload (q := 7) C dX0_deepestCall_5 rfl rfl ?_
  refine v_bipush (q := 9) C dX0_deepestCall_7 rfl (by decide) ?_
  refine v_icmp_ge (q := 12) (tgt := 86) C dX0_deepestCall_9 rfl rfl h (fun h => ?_) (fun h => ?_)
  · refine v_iloadn (q := 87) C dX0_deepestCall_86 rfl rfl ?_
    exact u_iret hR dX0_deepestCall_87 h
  · refine v_aloadn (q := 13) C dX0_deepestCall_12 rfl rfl ?_
    refine u_getR (v := 6 * (x0 - 187) + 1) (q := 16) C kl0 fl_X0_12 (ob_cm hx0) (pt_left hx0) (by omega) rfl rfl dX0_deepestCall_13 rfl ?_
    refine v_iloadn (q := 17) C dX0_deepestCall_16 rfl rfl ?_
    refine v_iload (q := 19) C dX0_deepestCall_17 rfl rfl ?_
    refine u_cVi2 (q := 22) C (c_X10_isCall h) sy_X10_isCall si_X10_isCall ml_X0_33 (ob_tm (tm_left hx0)) (by decide) so_X10_isCall ⟨nb rfl, nb rfl⟩ (nb rfl) dX0_deepestCall_19 rfl (fun r2 μ1 h => ?_)
    refine v_if_eq (q := 25) (tgt := 46) C dX0_deepestCall_22 rfl rfl h (fun h => ?_) (fun h => ?_)
    · exact (w_X0_deepestCall_46  C hR (fun _ _ _ h => h) hx0 h)
    · refine v_iloadn (q := 26) C dX0_deepestCall_25 rfl rfl ?_
      refine v_aloadn (q := 27) C dX0_deepestCall_26 rfl rfl ?_
      refine v_aloadn (q := 28) C dX0_deepestCall_27 rfl rfl ?_
      refine u_getR (v := 6 * (x0 - 187) + 1) (q := 31) C kl0 fl_X0_12 (ob_cm hx0) (pt_left hx0) (by omega) rfl rfl dX0_deepestCall_28 rfl ?_
      refine u_getR (v := 6 * (x0 - 187) + 1 + 1) (q := 34) C kl10 fl_X0_37 (ob_tm (tm_left hx0)) (pt_code (tm_left hx0)) (by omega) rfl rfl dX0_deepestCall_31 rfl ?_
      refine v_iload (q := 36) C dX0_deepestCall_34 rfl rfl ?_
      refine v_iconst (q := 37) C dX0_deepestCall_36 rfl (by decide) ?_
      refine u_isub (q := 38) C dX0_deepestCall_37 rfl h (fun h => ?_)
      refine u_iald (q := 39) C (ia_code (tm_left hx0)) dX0_deepestCall_38 rfl h (fun h => ?_)
      refine u_cVi1 (q := 42) C (c_X3_depthOf h) sy_X3_depthOf si_X3_depthOf ml_X0_41 ob_207 (by decide) so_X3_depthOf ⟨nb rfl, nb rfl⟩ (nb rfl) dX0_deepestCall_39 rfl (fun r8 μ7 h => ?_)
      refine v_max (q := 45) C ml_X0_47 (nb rfl) (nb rfl) (Nat.le_refl _) dX0_deepestCall_42 rfl ?_
      refine v_istoren (q := 46) C dX0_deepestCall_45 rfl (nb rfl) (L' := [some (.inr x0), some (.inl x1), some (.inr 207), some (.inl (max x3 r8)), some (.inl x4)]) rfl ?_
      exact (w_X0_deepestCall_46  C hR (fun _ _ _ h => h) hx0 h)
theorem c_X0_deepestCall {x0 : Int} {x1 : Int} {μ : ZM} {K : Int → ZM → Prop} (h : P_X0_deepestCall  x0 x1 μ K) : zMu yX0_deepestCall cX0_deepestCall 5 (some .int) 2 42 [.inr x0, .inl x1, .inr 207] μ (KI K) := by
  refine zMet_of (L0 := [some (.inr x0), some (.inl x1), some (.inr 207), none, none]) sy_X0_deepestCall rfl (nb rfl) (Nat.le_refl _) (fun X C _ hR _ _ => ?_)
  have C : zC X cX0_deepestCall RX0 5 (some .int) 2 42 274 := C
  have hx0 := h.1
  replace h := h.2
  refine v_iconst (q := 1) C dX0_deepestCall_0 rfl (by decide) ?_
  refine v_istoren (q := 2) C dX0_deepestCall_1 rfl (nb rfl) (L' := [some (.inr x0), some (.inl x1), some (.inr 207), some (.inl 0), none]) rfl ?_
  refine v_iconst (q := 3) C dX0_deepestCall_2 rfl (by decide) ?_
  refine v_istore (q := 5) C dX0_deepestCall_3 rfl (nb rfl) (L' := [some (.inr x0), some (.inl x1), some (.inr 207), some (.inl 0), some (.inl 1)]) rfl ?_
  exact (w_X0_deepestCall_5  C hR  hx0 h)
theorem w_X10_has_2 {X : ZX} (C : zC X cX10_has RX10 3 (some .boolean) 0 0 274) {K : Int → ZM → Prop} (hR : zRi X cX10_has (some .boolean) 274 (KN (KI K)))  {x0 : Int} {x1 : Int} {x2 : Int} {μ : ZM}  (hx0 : z_tm x0) (h : P_X10_has_2   x0 x1 x2 μ K) : zV X 2 [some (.inr x0), some (.inl x1), some (.inl x2)] [] 274 (z_ov μ) := by
  refine h (fun x2 μ => zV X 2 [some (.inr x0), some (.inl x1), some (.inl x2)] [] 274 (z_ov μ)) (fun x2 μ h => ?_)
  refine v_iloadn (q := 3) C dX10_has_2 rfl rfl ?_
  refine v_aloadn (q := 4) C dX10_has_3 rfl rfl ?_
  refine u_getI (q := 7) C kl10 fl_X10_18 (ob_tm hx0) (pt_size hx0) rfl rfl dX10_has_4 rfl ?_
  refine v_icmp_ge (q := 10) (tgt := 28) C dX10_has_7 rfl rfl h (fun h => ?_) (fun h => ?_)
  · refine v_iconst (q := 29) C dX10_has_28 rfl (by decide) ?_
    exact u_zret hR dX10_has_29 h
  · refine v_aloadn (q := 11) C dX10_has_10 rfl rfl ?_
    refine u_getR (v := x0 + 1) (q := 14) C kl10 fl_X10_9 (ob_tm hx0) (pt_code hx0) (by omega) rfl rfl dX10_has_11 rfl ?_
    refine v_iloadn (q := 15) C dX10_has_14 rfl rfl ?_
    refine u_iald (q := 16) C (ia_code hx0) dX10_has_15 rfl h (fun h => ?_)
    refine v_iloadn (q := 17) C dX10_has_16 rfl rfl ?_
    refine v_icmp_ne (q := 20) (tgt := 22) C dX10_has_17 rfl rfl h (fun h => ?_) (fun h => ?_)
    · refine v_iconst (q := 21) C dX10_has_20 rfl (by decide) ?_
      exact u_zret hR dX10_has_21 h
    · refine u_iinc (q := 25) C dX10_has_22 rfl (nb rfl) rfl (L' := [some (.inr x0), some (.inl x1), some (.inl (x2 + 1))]) rfl h (fun h => ?_)
      refine v_goto (q := 2) C dX10_has_25 rfl ?_
      exact h
theorem c_X10_has {x0 : Int} {x1 : Int} {μ : ZM} {K : Int → ZM → Prop} (h : P_X10_has  x0 x1 μ K) : zMu yX10_has cX10_has 3 (some .boolean) 0 0 [.inr x0, .inl x1] μ (KI K) := by
  refine zMet_of (L0 := [some (.inr x0), some (.inl x1), none]) sy_X10_has rfl (nb rfl) (Nat.le_refl _) (fun X C _ hR _ _ => ?_)
  have C : zC X cX10_has RX10 3 (some .boolean) 0 0 274 := C
  have hx0 := h.1
  replace h := h.2
  refine v_iconst (q := 1) C dX10_has_0 rfl (by decide) ?_
  refine v_istoren (q := 2) C dX10_has_1 rfl (nb rfl) (L' := [some (.inr x0), some (.inl x1), some (.inl 0)]) rfl ?_
  exact (w_X10_has_2  C hR  hx0 h)
theorem w_X0_has_28 {X : ZX} (C : zC X cX0_has RX0 2 (some .boolean) 1 22 274) {K : Int → ZM → Prop} (hR : zRi X cX0_has (some .boolean) 274 (KN (KI K)))   {μ : ZM}   (h : P_X0_has_28    μ K) : zV X 28 [none, none] [] 274 (z_ov μ) := by
  refine v_iconst (q := 29) C dX0_has_28 rfl (by decide) ?_
  refine v_goto (q := 33) C dX0_has_29 rfl ?_
  exact u_zret hR dX0_has_33 h
theorem c_X0_has {x0 : Int} {x1 : Int} {μ : ZM} {K : Int → ZM → Prop} (h : P_X0_has  x0 x1 μ K) : zMu yX0_has cX0_has 2 (some .boolean) 1 22 [.inr x0, .inl x1] μ (KI K) := by
  refine zMet_of (L0 := [some (.inr x0), some (.inl x1)]) sy_X0_has rfl (nb rfl) (Nat.le_refl _) (fun X C _ hR _ _ => ?_)
  have C : zC X cX0_has RX0 2 (some .boolean) 1 22 274 := C
  have hx0 := h.1
  replace h := h.2
  refine v_aloadn (q := 1) C dX0_has_0 rfl rfl ?_
  refine u_getR (v := 6 * (x0 - 187) + 1) (q := 4) C kl0 fl_X0_12 (ob_cm hx0) (pt_left hx0) (by omega) rfl rfl dX0_has_1 rfl ?_
  refine v_bipush (q := 6) C dX0_has_4 rfl (by decide) ?_
  refine v_iloadn (q := 7) C dX0_has_6 rfl rfl ?_
  refine u_iadd (q := 8) C dX0_has_7 rfl h (fun h => ?_)
  refine u_cVi1 (q := 11) C (c_X10_has h) sy_X10_has si_X10_has ml_X0_29 (ob_tm (tm_left hx0)) (by decide) so_X10_has ⟨nb rfl, nb rfl⟩ (nb rfl) dX0_has_8 rfl (fun r2 μ1 h => ?_)
  refine v_if_ne (q := 14) (tgt := 28) C dX0_has_11 rfl rfl h (fun h => ?_) (fun h => ?_)
  · refine v_aloadn (q := 15) C dX0_has_14 rfl rfl ?_
    refine u_getR (v := 6 * (x0 - 187) + 4) (q := 18) C kl0 fl_X0_18 (ob_cm hx0) (pt_right hx0) (by omega) rfl rfl dX0_has_15 rfl ?_
    refine v_bipush (q := 20) C dX0_has_18 rfl (by decide) ?_
    refine v_iloadn (q := 21) C dX0_has_20 rfl rfl ?_
    refine u_iadd (q := 22) C dX0_has_21 rfl h (fun h => ?_)
    refine u_cVi1 (q := 25) C (c_X10_has h) sy_X10_has si_X10_has ml_X0_29 (ob_tm (tm_right hx0)) (by decide) so_X10_has ⟨nb rfl, nb rfl⟩ (nb rfl) dX0_has_22 rfl (fun r4 μ3 h => ?_)
    refine v_if_eq (q := 28) (tgt := 32) C dX0_has_25 rfl rfl h (fun h => ?_) (fun h => ?_)
    · refine v_iconst (q := 33) C dX0_has_32 rfl (by decide) ?_
      exact u_zret hR dX0_has_33 h
    · exact v_mask [false, false] rfl (w_X0_has_28  C hR   h)
  · exact v_mask [false, false] rfl (w_X0_has_28  C hR   h)
theorem w_X0_freeVariable_2 {X : ZX} (C : zC X cX0_freeVariable RX0 2 (some .int) 2 43 274) {K : Int → ZM → Prop} (hR : zRi X cX0_freeVariable (some .int) 274 (KN (KI K)))  {x0 : Int} {x1 : Int} {μ : ZM}  (hx0 : z_cm x0) (h : P_X0_freeVariable_2   x0 x1 μ K) : zV X 2 [some (.inr x0), some (.inl x1)] [] 274 (z_ov μ) := by
  refine h (fun x1 μ => zV X 2 [some (.inr x0), some (.inl x1)] [] 274 (z_ov μ)) (fun x1 μ h => ?_)
  refine v_iloadn (q := 3) C dX0_freeVariable_2 rfl rfl ?_
  refine v_iconst (q := 4) C dX0_freeVariable_3 rfl (by decide) ?_
  refine v_icmp_ge (q := 7) (tgt := 23) C dX0_freeVariable_4 rfl rfl h (fun h => ?_) (fun h => ?_)
  · refine v_bipush (q := 25) C dX0_freeVariable_23 rfl (by decide) ?_
    exact u_iret hR dX0_freeVariable_25 h
  · refine v_aloadn (q := 8) C dX0_freeVariable_7 rfl rfl ?_
    refine v_iloadn (q := 9) C dX0_freeVariable_8 rfl rfl ?_
    refine u_cVi1 (q := 12) C (c_X0_has h) sy_X0_has si_X0_has ml_X0_74 (ob_cm hx0) (by decide) so_X0_has ⟨nb rfl, nb rfl⟩ (nb rfl) dX0_freeVariable_9 rfl (fun r2 μ1 h => ?_)
    refine v_if_ne (q := 15) (tgt := 17) C dX0_freeVariable_12 rfl rfl h (fun h => ?_) (fun h => ?_)
    · refine v_iloadn (q := 16) C dX0_freeVariable_15 rfl rfl ?_
      exact u_iret hR dX0_freeVariable_16 h
    · refine u_iinc (q := 20) C dX0_freeVariable_17 rfl (nb rfl) rfl (L' := [some (.inr x0), some (.inl (x1 + 1))]) rfl h (fun h => ?_)
      refine v_goto (q := 2) C dX0_freeVariable_20 rfl ?_
      exact h
theorem c_X0_freeVariable {x0 : Int} {μ : ZM} {K : Int → ZM → Prop} (h : P_X0_freeVariable  x0 μ K) : zMu yX0_freeVariable cX0_freeVariable 2 (some .int) 2 43 [.inr x0] μ (KI K) := by
  refine zMet_of (L0 := [some (.inr x0), none]) sy_X0_freeVariable rfl (nb rfl) (Nat.le_refl _) (fun X C _ hR _ _ => ?_)
  have C : zC X cX0_freeVariable RX0 2 (some .int) 2 43 274 := C
  have hx0 := h.1
  replace h := h.2
  refine v_iconst (q := 1) C dX0_freeVariable_0 rfl (by decide) ?_
  refine v_istoren (q := 2) C dX0_freeVariable_1 rfl (nb rfl) (L' := [some (.inr x0), some (.inl 0)]) rfl ?_
  exact (w_X0_freeVariable_2  C hR  hx0 h)
theorem c_X10_empty {x0 : Int} {μ : ZM} {K : ZM → Prop} (h : P_X10_empty  x0 μ K) : zMu yX10_empty cX10_empty 1 none 0 0 [.inr x0] μ (KV K) := by
  refine zMet_of (L0 := [some (.inr x0)]) sy_X10_empty rfl (nb rfl) (Nat.le_refl _) (fun X C _ _ _ hR => ?_)
  have C : zC X cX10_empty RX10 1 none 0 0 274 := C
  have hx0 := h.1
  replace h := h.2
  refine v_aloadn (q := 1) C dX10_empty_0 rfl rfl ?_
  refine v_iconst (q := 2) C dX10_empty_1 rfl (by decide) ?_
  refine u_put (q := 5) C kl10 fl_X10_18 (ob_tm hx0) (pt_size hx0) rfl rfl rfl rfl dX10_empty_2 rfl h (fun μ1 h => ?_)
  exact u_vret hR dX10_empty_5 h
theorem c_X10_add {x0 : Int} {x1 : Int} {μ : ZM} {K : Int → ZM → Prop} (h : P_X10_add  x0 x1 μ K) : zMu yX10_add cX10_add 2 (some .boolean) 0 0 [.inr x0, .inl x1] μ (KI K) := by
  refine zMet_of (L0 := [some (.inr x0), some (.inl x1)]) sy_X10_add rfl (nb rfl) (Nat.le_refl _) (fun X C _ hR _ _ => ?_)
  have C : zC X cX10_add RX10 2 (some .boolean) 0 0 274 := C
  have hx0 := h.1
  replace h := h.2
  refine v_aloadn (q := 1) C dX10_add_0 rfl rfl ?_
  refine u_getI (q := 4) C kl10 fl_X10_18 (ob_tm hx0) (pt_size hx0) rfl rfl dX10_add_1 rfl ?_
  refine v_if_lt (q := 7) (tgt := 16) C dX10_add_4 rfl rfl h (fun h => ?_) (fun h => ?_)
  · refine v_iconst (q := 17) C dX10_add_16 rfl (by decide) ?_
    exact u_zret hR dX10_add_17 h
  · refine v_aloadn (q := 8) C dX10_add_7 rfl rfl ?_
    refine u_getI (q := 11) C kl10 fl_X10_18 (ob_tm hx0) (pt_size hx0) rfl rfl dX10_add_8 rfl ?_
    refine v_bipush (q := 13) C dX10_add_11 rfl (by decide) ?_
    refine v_icmp_lt (q := 16) (tgt := 18) C dX10_add_13 rfl rfl h (fun h => ?_) (fun h => ?_)
    · refine v_aloadn (q := 19) C dX10_add_18 rfl rfl ?_
      refine u_getR (v := x0 + 1) (q := 22) C kl10 fl_X10_9 (ob_tm hx0) (pt_code hx0) (by omega) rfl rfl dX10_add_19 rfl ?_
      refine v_aloadn (q := 23) C dX10_add_22 rfl rfl ?_
      refine u_getI (q := 26) C kl10 fl_X10_18 (ob_tm hx0) (pt_size hx0) rfl rfl dX10_add_23 rfl ?_
      refine v_iloadn (q := 27) C dX10_add_26 rfl rfl ?_
      refine u_iast (q := 28) C (ia_code hx0) dX10_add_27 rfl h (fun μ1 h => ?_)
      refine v_aloadn (q := 29) C dX10_add_28 rfl rfl ?_
      refine v_dup (q := 30) C dX10_add_29 rfl ?_
      refine u_getI (q := 33) C kl10 fl_X10_18 (ob_tm hx0) (pt_size hx0) rfl rfl dX10_add_30 rfl ?_
      refine v_iconst (q := 34) C dX10_add_33 rfl (by decide) ?_
      refine u_iadd (q := 35) C dX10_add_34 rfl h (fun h => ?_)
      refine u_put (q := 38) C kl10 fl_X10_18 (ob_tm hx0) (pt_size hx0) rfl rfl rfl rfl dX10_add_35 rfl h (fun μ2 h => ?_)
      refine v_iconst (q := 39) C dX10_add_38 rfl (by decide) ?_
      exact u_zret hR dX10_add_39 h
    · refine v_iconst (q := 17) C dX10_add_16 rfl (by decide) ?_
      exact u_zret hR dX10_add_17 h
theorem w_X0_putVariable_89 {X : ZX} (C : zC X cX0_putVariable RX0 8 none 1 25 274) {K : ZM → Prop} (hR : zRv X cX0_putVariable none 274 (KN (KV K)))  {x0 : Int} {x1 : Int} {x2 : Int} {x3 : Int} {x4 : Int} {x5 : Int} {x6 : Int} {μ : ZM} {G11 : Int → Int → ZM → Prop} (hG11 : ∀ (x5 x6 : Int) (μ : ZM), G11 x5 x6 μ → zV X 11 [some (.inr x0), some (.inr x1), some (.inl x2), some (.inl x3), some (.inr x4), some (.inl x5), some (.inl x6), none] [] 274 (z_ov μ)) (hx0 : z_cm x0) (hx1 : z_tm x1) (hx4 : z_tm x4) (h : P_X0_putVariable_89  G11 x0 x1 x2 x3 x4 x5 x6 μ K) : zV X 89 [some (.inr x0), some (.inr x1), some (.inl x2), some (.inl x3), some (.inr x4), some (.inl x5), some (.inl x6), none] [] 274 (z_ov μ) := by
  refine u_iinc (q := 92) C dX0_putVariable_89 rfl (nb rfl) rfl (L' := [some (.inr x0), some (.inr x1), some (.inl x2), some (.inl x3), some (.inr x4), some (.inl x5), some (.inl (x6 + 1)), none]) rfl h (fun h => ?_)
  refine v_goto (q := 11) C dX0_putVariable_92 rfl ?_
  exact (hG11 _ _ _ h)
theorem w_X0_putVariable_87 {X : ZX} (C : zC X cX0_putVariable RX0 8 none 1 25 274) {K : ZM → Prop} (hR : zRv X cX0_putVariable none 274 (KN (KV K)))  {x0 : Int} {x1 : Int} {x2 : Int} {x3 : Int} {x4 : Int} {x6 : Int} {s0 : Int} {μ : ZM} {G11 : Int → Int → ZM → Prop} (hG11 : ∀ (x5 x6 : Int) (μ : ZM), G11 x5 x6 μ → zV X 11 [some (.inr x0), some (.inr x1), some (.inl x2), some (.inl x3), some (.inr x4), some (.inl x5), some (.inl x6), none] [] 274 (z_ov μ)) (hx0 : z_cm x0) (hx1 : z_tm x1) (hx4 : z_tm x4) (h : P_X0_putVariable_87  G11 x0 x1 x2 x3 x4 x6 s0 μ K) : zV X 87 [some (.inr x0), some (.inr x1), some (.inl x2), some (.inl x3), some (.inr x4), none, some (.inl x6), none] [.inl s0] 274 (z_ov μ) := by
  refine v_istore (q := 89) C dX0_putVariable_87 rfl (nb rfl) (L' := [some (.inr x0), some (.inr x1), some (.inl x2), some (.inl x3), some (.inr x4), some (.inl s0), some (.inl x6), none]) rfl ?_
  exact (w_X0_putVariable_89  C hR hG11 hx0 hx1 hx4 h)
theorem w_X0_putVariable_64 {X : ZX} (C : zC X cX0_putVariable RX0 8 none 1 25 274) {K : ZM → Prop} (hR : zRv X cX0_putVariable none 274 (KN (KV K)))  {x0 : Int} {x1 : Int} {x2 : Int} {x3 : Int} {x4 : Int} {x6 : Int} {x7 : Int} {s0 : Int} {s1 : Int} {μ : ZM} {G11 : Int → Int → ZM → Prop} (hG11 : ∀ (x5 x6 : Int) (μ : ZM), G11 x5 x6 μ → zV X 11 [some (.inr x0), some (.inr x1), some (.inl x2), some (.inl x3), some (.inr x4), some (.inl x5), some (.inl x6), none] [] 274 (z_ov μ)) (hx0 : z_cm x0) (hx1 : z_tm x1) (hx4 : z_tm x4) (hs0 : z_tm s0) (h : P_X0_putVariable_64  G11 x0 x1 x2 x3 x4 x6 x7 s0 s1 μ K) : zV X 64 [some (.inr x0), some (.inr x1), some (.inl x2), some (.inl x3), some (.inr x4), none, some (.inl x6), some (.inl x7)] [.inl s1, .inr s0] 274 (z_ov μ) := by
  refine u_cVi1 (q := 67) C (c_X10_add h) sy_X10_add si_X10_add ml_X0_103 (ob_tm hs0) (by decide) so_X10_add ⟨nb rfl, nb rfl⟩ (nb rfl) dX0_putVariable_64 rfl (fun r5 μ4 h => ?_)
  refine v_pop (q := 68) C dX0_putVariable_67 rfl ?_
  refine v_iload (q := 70) C dX0_putVariable_68 rfl rfl ?_
  refine v_if_eq (q := 73) (tgt := 83) C dX0_putVariable_70 rfl rfl h (fun h => ?_) (fun h => ?_)
  · refine v_iload (q := 85) C dX0_putVariable_83 rfl rfl ?_
    refine v_iconst (q := 86) C dX0_putVariable_85 rfl (by decide) ?_
    refine u_iadd (q := 87) C dX0_putVariable_86 rfl h (fun h => ?_)
    exact v_mask [true, true, true, true, true, false, true, false] rfl (w_X0_putVariable_87  C hR hG11 hx0 hx1 hx4 h)
  · refine v_aloadn (q := 74) C dX0_putVariable_73 rfl rfl ?_
    refine u_getR (v := x1 + 2) (q := 77) C kl10 fl_X0_64 (ob_tm hx1) (pt_end hx1) (by omega) rfl rfl dX0_putVariable_74 rfl ?_
    refine v_iload (q := 79) C dX0_putVariable_77 rfl rfl ?_
    refine u_iald (q := 80) C (ia_end hx1) dX0_putVariable_79 rfl h (fun h => ?_)
    refine v_goto (q := 87) C dX0_putVariable_80 rfl ?_
    exact v_mask [true, true, true, true, true, false, true, false] rfl (w_X0_putVariable_87  C hR hG11 hx0 hx1 hx4 h)
theorem w_X0_putVariable_11 {X : ZX} (C : zC X cX0_putVariable RX0 8 none 1 25 274) {K : ZM → Prop} (hR : zRv X cX0_putVariable none 274 (KN (KV K)))  {x0 : Int} {x1 : Int} {x2 : Int} {x3 : Int} {x4 : Int} {x5 : Int} {x6 : Int} {μ : ZM}  (hx0 : z_cm x0) (hx1 : z_tm x1) (hx4 : z_tm x4) (h : P_X0_putVariable_11   x0 x1 x2 x3 x4 x5 x6 μ K) : zV X 11 [some (.inr x0), some (.inr x1), some (.inl x2), some (.inl x3), some (.inr x4), some (.inl x5), some (.inl x6), none] [] 274 (z_ov μ) := by
  refine h (fun x5 x6 μ => zV X 11 [some (.inr x0), some (.inr x1), some (.inl x2), some (.inl x3), some (.inr x4), some (.inl x5), some (.inl x6), none] [] 274 (z_ov μ)) (fun x5 x6 μ h => ?_)
  refine v_iload (q := 13) C dX0_putVariable_11 rfl rfl ?_
  refine v_aloadn (q := 14) C dX0_putVariable_13 rfl rfl ?_
  refine u_getI (q := 17) C kl10 fl_X0_60 (ob_tm hx1) (pt_size hx1) rfl rfl dX0_putVariable_14 rfl ?_
  refine v_icmp_ge (q := 20) (tgt := 95) C dX0_putVariable_17 rfl rfl h (fun h => ?_) (fun h => ?_)
  · exact u_vret hR dX0_putVariable_95 h
  · refine v_iload (q := 22) C dX0_putVariable_20 rfl rfl ?_
    refine v_iload (q := 24) C dX0_putVariable_22 rfl rfl ?_
    refine v_icmp_ge (q := 27) (tgt := 30) C dX0_putVariable_24 rfl rfl h (fun h => ?_) (fun h => ?_)
    · refine v_aloadn (q := 31) C dX0_putVariable_30 rfl rfl ?_
      refine u_getR (v := 6 * (x0 - 187) + 1) (q := 34) C kl0 fl_X0_12 (ob_cm hx0) (pt_left hx0) (by omega) rfl rfl dX0_putVariable_31 rfl ?_
      refine v_iloadn (q := 35) C dX0_putVariable_34 rfl rfl ?_
      refine v_aloadn (q := 36) C dX0_putVariable_35 rfl rfl ?_
      refine v_iload (q := 38) C dX0_putVariable_36 rfl rfl ?_
      refine u_cVi3 (q := 41) C (c_X10_isSameAt h) sy_X10_isSameAt si_X10_isSameAt ml_X0_99 (ob_tm (tm_left hx0)) (by decide) so_X10_isSameAt ⟨nb rfl, nb rfl⟩ (nb rfl) dX0_putVariable_38 rfl (fun r3 μ2 h => ?_)
      refine v_istore (q := 43) C dX0_putVariable_41 rfl (nb rfl) (L' := [some (.inr x0), some (.inr x1), some (.inl x2), some (.inl x3), some (.inr x4), some (.inl x5), some (.inl x6), some (.inl r3)]) rfl ?_
      refine v_aload (q := 45) C dX0_putVariable_43 rfl rfl ?_
      refine v_iload (q := 47) C dX0_putVariable_45 rfl rfl ?_
      refine v_if_eq (q := 50) (tgt := 57) C dX0_putVariable_47 rfl rfl h (fun h => ?_) (fun h => ?_)
      · refine v_aloadn (q := 58) C dX0_putVariable_57 rfl rfl ?_
        refine u_getR (v := x1 + 1) (q := 61) C kl10 fl_X0_37 (ob_tm hx1) (pt_code hx1) (by omega) rfl rfl dX0_putVariable_58 rfl ?_
        refine v_iload (q := 63) C dX0_putVariable_61 rfl rfl ?_
        refine u_iald (q := 64) C (ia_code hx1) dX0_putVariable_63 rfl h (fun h => ?_)
        exact v_mask [true, true, true, true, true, false, true, true] rfl (w_X0_putVariable_64  C hR (fun _ _ _ h => h) hx0 hx1 hx4 hx4 h)
      · refine v_bipush (q := 52) C dX0_putVariable_50 rfl (by decide) ?_
        refine v_iloadn (q := 53) C dX0_putVariable_52 rfl rfl ?_
        refine u_iadd (q := 54) C dX0_putVariable_53 rfl h (fun h => ?_)
        refine v_goto (q := 64) C dX0_putVariable_54 rfl ?_
        exact v_mask [true, true, true, true, true, false, true, true] rfl (w_X0_putVariable_64  C hR (fun _ _ _ h => h) hx0 hx1 hx4 hx4 h)
    · refine v_goto (q := 89) C dX0_putVariable_27 rfl ?_
      exact (w_X0_putVariable_89  C hR (fun _ _ _ h => h) hx0 hx1 hx4 h)
theorem c_X0_putVariable {x0 : Int} {x1 : Int} {x2 : Int} {x3 : Int} {x4 : Int} {μ : ZM} {K : ZM → Prop} (h : P_X0_putVariable  x0 x1 x2 x3 x4 μ K) : zMu yX0_putVariable cX0_putVariable 8 none 1 25 [.inr x0, .inr x1, .inl x2, .inl x3, .inr x4] μ (KV K) := by
  refine zMet_of (L0 := [some (.inr x0), some (.inr x1), some (.inl x2), some (.inl x3), some (.inr x4), none, none, none]) sy_X0_putVariable rfl (nb rfl) (Nat.le_refl _) (fun X C _ _ _ hR => ?_)
  have C : zC X cX0_putVariable RX0 8 none 1 25 274 := C
  have hx0 := h.1
  replace h := h.2
  have hx1 := h.1
  replace h := h.2
  have hx4 := h.1
  replace h := h.2
  refine v_aload (q := 2) C dX0_putVariable_0 rfl rfl ?_
  refine u_cVv0 (q := 5) C (c_X10_empty h) sy_X10_empty si_X10_empty ml_X0_96 (ob_tm hx4) (by decide) so_X10_empty ⟨nb rfl, nb rfl⟩ (nb rfl) dX0_putVariable_2 rfl (fun μ1 h => ?_)
  refine v_iconst (q := 6) C dX0_putVariable_5 rfl (by decide) ?_
  refine v_istore (q := 8) C dX0_putVariable_6 rfl (nb rfl) (L' := [some (.inr x0), some (.inr x1), some (.inl x2), some (.inl x3), some (.inr x4), some (.inl 0), none, none]) rfl ?_
  refine v_iconst (q := 9) C dX0_putVariable_8 rfl (by decide) ?_
  refine v_istore (q := 11) C dX0_putVariable_9 rfl (nb rfl) (L' := [some (.inr x0), some (.inr x1), some (.inl x2), some (.inl x3), some (.inr x4), some (.inl 0), some (.inl 0), none]) rfl ?_
  exact (w_X0_putVariable_11  C hR  hx0 hx1 hx4 h)
theorem w_X10_close_76 {X : ZX} (C : zC X cX10_close RX10 7 none 0 0 274) {K : ZM → Prop} (hR : zRv X cX10_close none 274 (KN (KV K)))  {x0 : Int} {x2 : Int} {x3 : Int} {μ : ZM} {G7 : Int → ZM → Prop} (hG7 : ∀ (x2 : Int) (μ : ZM), G7 x2 μ → zV X 7 [some (.inr x0), some (.inr 211), some (.inl x2), none, none, none, none] [] 274 (z_ov μ)) (hx0 : z_tm x0) (h : P_X10_close_76  G7 x0 x2 x3 μ K) : zV X 76 [some (.inr x0), some (.inr 211), some (.inl x2), some (.inl x3), none, none, none] [] 274 (z_ov μ) := by
  refine v_aloadn (q := 77) C dX10_close_76 rfl rfl ?_
  refine u_getR (v := x0 + 2) (q := 80) C kl10 fl_X10_15 (ob_tm hx0) (pt_end hx0) (by omega) rfl rfl dX10_close_77 rfl ?_
  refine v_iloadn (q := 81) C dX10_close_80 rfl rfl ?_
  refine v_iloadn (q := 82) C dX10_close_81 rfl rfl ?_
  refine u_iast (q := 83) C (ia_end hx0) dX10_close_82 rfl h (fun μ1 h => ?_)
  refine u_iinc (q := 86) C dX10_close_83 rfl (nb rfl) rfl (L' := [some (.inr x0), some (.inr 211), some (.inl (x2 + (-1))), some (.inl x3), none, none, none]) rfl h (fun h => ?_)
  refine v_goto (q := 7) C dX10_close_86 rfl ?_
  exact v_mask [true, true, true, false, false, false, false] rfl (hG7 _ _ h)
theorem w_X10_close_48 {X : ZX} (C : zC X cX10_close RX10 7 none 0 0 274) {K : ZM → Prop} (hR : zRv X cX10_close none 274 (KN (KV K)))  {x0 : Int} {x2 : Int} {x3 : Int} {x5 : Int} {x6 : Int} {μ : ZM} {G7 : Int → ZM → Prop} (hG7 : ∀ (x2 : Int) (μ : ZM), G7 x2 μ → zV X 7 [some (.inr x0), some (.inr 211), some (.inl x2), none, none, none, none] [] 274 (z_ov μ)) (hx0 : z_tm x0) (h : P_X10_close_48  G7 x0 x2 x5 x3 x6 μ K) : zV X 48 [some (.inr x0), some (.inr 211), some (.inl x2), some (.inl x3), none, some (.inl x5), some (.inl x6)] [] 274 (z_ov μ) := by
  refine h (fun x3 x6 μ => zV X 48 [some (.inr x0), some (.inr 211), some (.inl x2), some (.inl x3), none, some (.inl x5), some (.inl x6)] [] 274 (z_ov μ)) (fun x3 x6 μ h => ?_)
  refine v_iload (q := 50) C dX10_close_48 rfl rfl ?_
  refine v_iload (q := 52) C dX10_close_50 rfl rfl ?_
  refine v_icmp_ge (q := 55) (tgt := 76) C dX10_close_52 rfl rfl h (fun h => ?_) (fun h => ?_)
  · exact v_mask [true, true, true, true, false, false, false] rfl (w_X10_close_76  C hR hG7 hx0 h)
  · refine v_iloadn (q := 56) C dX10_close_55 rfl rfl ?_
    refine v_aloadn (q := 57) C dX10_close_56 rfl rfl ?_
    refine u_getI (q := 60) C kl10 fl_X10_18 (ob_tm hx0) (pt_size hx0) rfl rfl dX10_close_57 rfl ?_
    refine v_icmp_ge (q := 63) (tgt := 76) C dX10_close_60 rfl rfl h (fun h => ?_) (fun h => ?_)
    · exact v_mask [true, true, true, true, false, false, false] rfl (w_X10_close_76  C hR hG7 hx0 h)
    · refine v_aloadn (q := 64) C dX10_close_63 rfl rfl ?_
      refine u_getR (v := x0 + 2) (q := 67) C kl10 fl_X10_15 (ob_tm hx0) (pt_end hx0) (by omega) rfl rfl dX10_close_64 rfl ?_
      refine v_iloadn (q := 68) C dX10_close_67 rfl rfl ?_
      refine u_iald (q := 69) C (ia_end hx0) dX10_close_68 rfl h (fun h => ?_)
      refine v_istoren (q := 70) C dX10_close_69 rfl (nb rfl) (L' := [some (.inr x0), some (.inr 211), some (.inl x2), some (.inl (μ (x0 + 2) x3)), none, some (.inl x5), some (.inl x6)]) rfl ?_
      refine u_iinc (q := 73) C dX10_close_70 rfl (nb rfl) rfl (L' := [some (.inr x0), some (.inr 211), some (.inl x2), some (.inl (μ (x0 + 2) x3)), none, some (.inl x5), some (.inl (x6 + 1))]) rfl h (fun h => ?_)
      refine v_goto (q := 48) C dX10_close_73 rfl ?_
      exact h
theorem w_X10_close_43 {X : ZX} (C : zC X cX10_close RX10 7 none 0 0 274) {K : ZM → Prop} (hR : zRv X cX10_close none 274 (KN (KV K)))  {x0 : Int} {x2 : Int} {x3 : Int} {s0 : Int} {μ : ZM} {G7 : Int → ZM → Prop} (hG7 : ∀ (x2 : Int) (μ : ZM), G7 x2 μ → zV X 7 [some (.inr x0), some (.inr 211), some (.inl x2), none, none, none, none] [] 274 (z_ov μ)) (hx0 : z_tm x0) (h : P_X10_close_43  G7 x0 x2 x3 s0 μ K) : zV X 43 [some (.inr x0), some (.inr 211), some (.inl x2), some (.inl x3), none, none, none] [.inl s0] 274 (z_ov μ) := by
  refine v_istore (q := 45) C dX10_close_43 rfl (nb rfl) (L' := [some (.inr x0), some (.inr 211), some (.inl x2), some (.inl x3), none, some (.inl s0), none]) rfl ?_
  refine v_iconst (q := 46) C dX10_close_45 rfl (by decide) ?_
  refine v_istore (q := 48) C dX10_close_46 rfl (nb rfl) (L' := [some (.inr x0), some (.inr 211), some (.inl x2), some (.inl x3), none, some (.inl s0), some (.inl 0)]) rfl ?_
  exact (w_X10_close_48  C hR hG7 hx0 h)
theorem w_X10_close_42 {X : ZX} (C : zC X cX10_close RX10 7 none 0 0 274) {K : ZM → Prop} (hR : zRv X cX10_close none 274 (KN (KV K)))  {x0 : Int} {x2 : Int} {x3 : Int} {μ : ZM} {G7 : Int → ZM → Prop} (hG7 : ∀ (x2 : Int) (μ : ZM), G7 x2 μ → zV X 7 [some (.inr x0), some (.inr 211), some (.inl x2), none, none, none, none] [] 274 (z_ov μ)) (hx0 : z_tm x0) (h : P_X10_close_42  G7 x0 x2 x3 μ K) : zV X 42 [some (.inr x0), some (.inr 211), some (.inl x2), some (.inl x3), none, none, none] [] 274 (z_ov μ) := by
  refine v_iconst (q := 43) C dX10_close_42 rfl (by decide) ?_
  exact (w_X10_close_43  C hR hG7 hx0 h)
theorem w_X10_close_7 {X : ZX} (C : zC X cX10_close RX10 7 none 0 0 274) {K : ZM → Prop} (hR : zRv X cX10_close none 274 (KN (KV K)))  {x0 : Int} {x2 : Int} {μ : ZM}  (hx0 : z_tm x0) (h : P_X10_close_7   x0 x2 μ K) : zV X 7 [some (.inr x0), some (.inr 211), some (.inl x2), none, none, none, none] [] 274 (z_ov μ) := by
  refine h (fun x2 μ => zV X 7 [some (.inr x0), some (.inr 211), some (.inl x2), none, none, none, none] [] 274 (z_ov μ)) (fun x2 μ h => ?_)
  refine v_iloadn (q := 8) C dX10_close_7 rfl rfl ?_
  refine v_if_lt (q := 11) (tgt := 89) C dX10_close_8 rfl rfl h (fun h => ?_) (fun h => ?_)
  · exact u_vret hR dX10_close_89 h
  · refine v_iloadn (q := 12) C dX10_close_11 rfl rfl ?_
    refine v_iconst (q := 13) C dX10_close_12 rfl (by decide) ?_
    refine u_iadd (q := 14) C dX10_close_13 rfl h (fun h => ?_)
    refine v_istoren (q := 15) C dX10_close_14 rfl (nb rfl) (L' := [some (.inr x0), some (.inr 211), some (.inl x2), some (.inl (x2 + 1)), none, none, none]) rfl ?_
    refine v_aloadn (q := 16) C dX10_close_15 rfl rfl ?_
    refine u_getR (v := x0 + 1) (q := 19) C kl10 fl_X10_9 (ob_tm hx0) (pt_code hx0) (by omega) rfl rfl dX10_close_16 rfl ?_
    refine v_iloadn (q := 20) C dX10_close_19 rfl rfl ?_
    refine u_iald (q := 21) C (ia_code hx0) dX10_close_20 rfl h (fun h => ?_)
    refine v_istore (q := 23) C dX10_close_21 rfl (nb rfl) (L' := [some (.inr x0), some (.inr 211), some (.inl x2), some (.inl (x2 + 1)), some (.inl (μ (x0 + 1) x2)), none, none]) rfl ?_
    refine v_iload (q := 25) C dX10_close_23 rfl rfl ?_
    refine v_if_lt (q := 28) (tgt := 42) C dX10_close_25 rfl rfl h (fun h => ?_) (fun h => ?_)
    · exact v_mask [true, true, true, true, false, false, false] rfl (w_X10_close_42  C hR (fun _ _ h => h) hx0 h)
    · refine v_iload (q := 30) C dX10_close_28 rfl rfl ?_
      refine v_aloadn (q := 31) C dX10_close_30 rfl rfl ?_
      refine u_alen (v := 128) (q := 32) C ⟨(ia_211).1, (ia_211).2.1⟩ (Or.inl rfl) (nb rfl) rfl dX10_close_31 rfl ?_
      refine v_icmp_ge (q := 35) (tgt := 42) C dX10_close_32 rfl rfl h (fun h => ?_) (fun h => ?_)
      · exact v_mask [true, true, true, true, false, false, false] rfl (w_X10_close_42  C hR (fun _ _ h => h) hx0 h)
      · refine v_aloadn (q := 36) C dX10_close_35 rfl rfl ?_
        refine v_iload (q := 38) C dX10_close_36 rfl rfl ?_
        refine u_iald (q := 39) C ia_211 dX10_close_38 rfl h (fun h => ?_)
        refine v_goto (q := 43) C dX10_close_39 rfl ?_
        exact v_mask [true, true, true, true, false, false, false] rfl (w_X10_close_43  C hR (fun _ _ h => h) hx0 h)
theorem c_X10_close {x0 : Int} {μ : ZM} {K : ZM → Prop} (h : P_X10_close  x0 μ K) : zMu yX10_close cX10_close 7 none 0 0 [.inr x0, .inr 211] μ (KV K) := by
  refine zMet_of (L0 := [some (.inr x0), some (.inr 211), none, none, none, none, none]) sy_X10_close rfl (nb rfl) (Nat.le_refl _) (fun X C _ _ _ hR => ?_)
  have C : zC X cX10_close RX10 7 none 0 0 274 := C
  have hx0 := h.1
  replace h := h.2
  refine v_aloadn (q := 1) C dX10_close_0 rfl rfl ?_
  refine u_getI (q := 4) C kl10 fl_X10_18 (ob_tm hx0) (pt_size hx0) rfl rfl dX10_close_1 rfl ?_
  refine v_iconst (q := 5) C dX10_close_4 rfl (by decide) ?_
  refine u_isub (q := 6) C dX10_close_5 rfl h (fun h => ?_)
  refine v_istoren (q := 7) C dX10_close_6 rfl (nb rfl) (L' := [some (.inr x0), some (.inr 211), some (.inl ((μ x0 2) - 1)), none, none, none, none]) rfl ?_
  exact (w_X10_close_7  C hR  hx0 h)
theorem w_X0_generalize_20 {X : ZX} (C : zC X cX0_generalize RX0 5 (some .int) 3 82 274) {K : Int → ZM → Prop} (hR : zRi X cX0_generalize (some .int) 274 (KN (KI K)))  {x0 : Int} {x1 : Int} {x3 : Int} {s0 : Int} {μ : ZM}  (hx0 : z_cm x0) (hx1 : z_cm x1) (h : P_X0_generalize_20   x0 x1 x3 s0 μ K) : zV X 20 [some (.inr x0), some (.inr x1), some (.inr 207), some (.inl x3), none] [.inl s0] 274 (z_ov μ) := by
  refine v_istore (q := 22) C dX0_generalize_20 rfl (nb rfl) (L' := [some (.inr x0), some (.inr x1), some (.inr 207), some (.inl x3), some (.inl s0)]) rfl ?_
  refine v_iload (q := 24) C dX0_generalize_22 rfl rfl ?_
  refine v_bipush (q := 26) C dX0_generalize_24 rfl (by decide) ?_
  refine v_icmp_ne (q := 29) (tgt := 37) C dX0_generalize_26 rfl rfl h (fun h => ?_) (fun h => ?_)
  · refine v_aloadn (q := 30) C dX0_generalize_29 rfl rfl ?_
    refine v_aloadn (q := 31) C dX0_generalize_30 rfl rfl ?_
    refine u_cVv1 (q := 34) C (c_X0_copy h) sy_X0_copy si_X0_copy ml_X0_82 (ob_cm hx1) (by decide) so_X0_copy ⟨nb rfl, nb rfl⟩ (nb rfl) dX0_generalize_31 rfl (fun μ3 h => ?_)
    refine v_bipush (q := 36) C dX0_generalize_34 rfl (by decide) ?_
    exact u_iret hR dX0_generalize_36 h
  · refine v_aloadn (q := 38) C dX0_generalize_37 rfl rfl ?_
    refine v_aloadn (q := 39) C dX0_generalize_38 rfl rfl ?_
    refine u_getR (v := 6 * (x0 - 187) + 1) (q := 42) C kl0 fl_X0_12 (ob_cm hx0) (pt_left hx0) (by omega) rfl rfl dX0_generalize_39 rfl ?_
    refine v_iloadn (q := 43) C dX0_generalize_42 rfl rfl ?_
    refine v_iload (q := 45) C dX0_generalize_43 rfl rfl ?_
    refine v_aloadn (q := 46) C dX0_generalize_45 rfl rfl ?_
    refine u_getR (v := 6 * (x1 - 187) + 1) (q := 49) C kl0 fl_X0_12 (ob_cm hx1) (pt_left hx1) (by omega) rfl rfl dX0_generalize_46 rfl ?_
    refine u_cVv4 (q := 52) C (c_X0_putVariable h) sy_X0_putVariable si_X0_putVariable ml_X0_85 (ob_cm hx0) (by decide) so_X0_putVariable ⟨nb rfl, nb rfl⟩ (nb rfl) dX0_generalize_49 rfl (fun μ4 h => ?_)
    refine v_aloadn (q := 53) C dX0_generalize_52 rfl rfl ?_
    refine v_aloadn (q := 54) C dX0_generalize_53 rfl rfl ?_
    refine u_getR (v := 6 * (x0 - 187) + 4) (q := 57) C kl0 fl_X0_18 (ob_cm hx0) (pt_right hx0) (by omega) rfl rfl dX0_generalize_54 rfl ?_
    refine v_iloadn (q := 58) C dX0_generalize_57 rfl rfl ?_
    refine v_iload (q := 60) C dX0_generalize_58 rfl rfl ?_
    refine v_aloadn (q := 61) C dX0_generalize_60 rfl rfl ?_
    refine u_getR (v := 6 * (x1 - 187) + 4) (q := 64) C kl0 fl_X0_18 (ob_cm hx1) (pt_right hx1) (by omega) rfl rfl dX0_generalize_61 rfl ?_
    refine u_cVv4 (q := 67) C (c_X0_putVariable h) sy_X0_putVariable si_X0_putVariable ml_X0_85 (ob_cm hx0) (by decide) so_X0_putVariable ⟨nb rfl, nb rfl⟩ (nb rfl) dX0_generalize_64 rfl (fun μ5 h => ?_)
    refine v_aloadn (q := 68) C dX0_generalize_67 rfl rfl ?_
    refine u_getR (v := 6 * (x1 - 187) + 1) (q := 71) C kl0 fl_X0_12 (ob_cm hx1) (pt_left hx1) (by omega) rfl rfl dX0_generalize_68 rfl ?_
    refine v_aloadn (q := 72) C dX0_generalize_71 rfl rfl ?_
    refine u_getR (q := 75) C kl3 fl_X0_89 ob_207 pt_207_3 (by decide) rfl rfl dX0_generalize_72 rfl ?_
    refine u_cVv1 (q := 78) C (c_X10_close h) sy_X10_close si_X10_close ml_X0_92 (ob_tm (tm_left hx1)) (by decide) so_X10_close ⟨nb rfl, nb rfl⟩ (nb rfl) dX0_generalize_75 rfl (fun μ6 h => ?_)
    refine v_aloadn (q := 79) C dX0_generalize_78 rfl rfl ?_
    refine u_getR (v := 6 * (x1 - 187) + 4) (q := 82) C kl0 fl_X0_18 (ob_cm hx1) (pt_right hx1) (by omega) rfl rfl dX0_generalize_79 rfl ?_
    refine v_aloadn (q := 83) C dX0_generalize_82 rfl rfl ?_
    refine u_getR (q := 86) C kl3 fl_X0_89 ob_207 pt_207_3 (by decide) rfl rfl dX0_generalize_83 rfl ?_
    refine u_cVv1 (q := 89) C (c_X10_close h) sy_X10_close si_X10_close ml_X0_92 (ob_tm (tm_right hx1)) (by decide) so_X10_close ⟨nb rfl, nb rfl⟩ (nb rfl) dX0_generalize_86 rfl (fun μ7 h => ?_)
    refine v_iload (q := 91) C dX0_generalize_89 rfl rfl ?_
    exact u_iret hR dX0_generalize_91 h
theorem c_X0_generalize {x0 : Int} {x1 : Int} {μ : ZM} {K : Int → ZM → Prop} (h : P_X0_generalize  x0 x1 μ K) : zMu yX0_generalize cX0_generalize 5 (some .int) 3 82 [.inr x0, .inr x1, .inr 207] μ (KI K) := by
  refine zMet_of (L0 := [some (.inr x0), some (.inr x1), some (.inr 207), none, none]) sy_X0_generalize rfl (nb rfl) (Nat.le_refl _) (fun X C _ hR _ _ => ?_)
  have C : zC X cX0_generalize RX0 5 (some .int) 3 82 274 := C
  have hx0 := h.1
  replace h := h.2
  have hx1 := h.1
  replace h := h.2
  refine v_aloadn (q := 1) C dX0_generalize_0 rfl rfl ?_
  refine u_cVi0 (q := 4) C (c_X0_commonStart h) sy_X0_commonStart si_X0_commonStart ml_X0_75 (ob_cm hx0) (by decide) so_X0_commonStart ⟨nb rfl, nb rfl⟩ (nb rfl) dX0_generalize_1 rfl (fun r2 μ1 h => ?_)
  refine v_istoren (q := 5) C dX0_generalize_4 rfl (nb rfl) (L' := [some (.inr x0), some (.inr x1), some (.inr 207), some (.inl r2), none]) rfl ?_
  refine v_iloadn (q := 6) C dX0_generalize_5 rfl rfl ?_
  refine v_bipush (q := 8) C dX0_generalize_6 rfl (by decide) ?_
  refine v_icmp_ne (q := 11) (tgt := 16) C dX0_generalize_8 rfl rfl h (fun h => ?_) (fun h => ?_)
  · refine v_bipush (q := 13) C dX0_generalize_11 rfl (by decide) ?_
    refine v_goto (q := 20) C dX0_generalize_13 rfl ?_
    exact (w_X0_generalize_20  C hR  hx0 hx1 h)
  · refine v_aloadn (q := 17) C dX0_generalize_16 rfl rfl ?_
    refine u_cVi0 (q := 20) C (c_X0_freeVariable h) sy_X0_freeVariable si_X0_freeVariable ml_X0_79 (ob_cm hx0) (by decide) so_X0_freeVariable ⟨nb rfl, nb rfl⟩ (nb rfl) dX0_generalize_17 rfl (fun r9 μ8 h => ?_)
    exact (w_X0_generalize_20  C hR  hx0 hx1 h)
theorem w_X0_inductionVariable_68 {X : ZX} (C : zC X cX0_inductionVariable RX0 8 (some .int) 3 66 274) {K : Int → ZM → Prop} (hR : zRi X cX0_inductionVariable (some .int) 274 (KN (KI K)))  {x0 : Int} {x2 : Int} {x3 : Int} {x4 : Int} {x5 : Int} {μ : ZM} {G11 : Int → Int → Int → Int → ZM → Prop} (hG11 : ∀ (x2 x3 x4 x5 : Int) (μ : ZM), G11 x2 x3 x4 x5 μ → zV X 11 [some (.inr x0), some (.inr 207), some (.inl x2), some (.inl x3), some (.inl x4), some (.inl x5), none, none] [] 274 (z_ov μ)) (hx0 : z_cm x0) (h : P_X0_inductionVariable_68  G11 x0 x2 x3 x4 x5 μ K) : zV X 68 [some (.inr x0), some (.inr 207), some (.inl x2), some (.inl x3), some (.inl x4), some (.inl x5), none, none] [] 274 (z_ov μ) := by
  refine u_iinc (q := 71) C dX0_inductionVariable_68 rfl (nb rfl) rfl (L' := [some (.inr x0), some (.inr 207), some (.inl x2), some (.inl x3), some (.inl x4), some (.inl (x5 + 1)), none, none]) rfl h (fun h => ?_)
  refine v_goto (q := 11) C dX0_inductionVariable_71 rfl ?_
  exact (hG11 _ _ _ _ _ h)
theorem w_X0_inductionVariable_58 {X : ZX} (C : zC X cX0_inductionVariable RX0 8 (some .int) 3 66 274) {K : Int → ZM → Prop} (hR : zRi X cX0_inductionVariable (some .int) 274 (KN (KI K)))  {x0 : Int} {x5 : Int} {x6 : Int} {x7 : Int} {μ : ZM} {G11 : Int → Int → Int → Int → ZM → Prop} (hG11 : ∀ (x2 x3 x4 x5 : Int) (μ : ZM), G11 x2 x3 x4 x5 μ → zV X 11 [some (.inr x0), some (.inr 207), some (.inl x2), some (.inl x3), some (.inl x4), some (.inl x5), none, none] [] 274 (z_ov μ)) (hx0 : z_cm x0) (h : P_X0_inductionVariable_58  G11 x0 x5 x6 x7 μ K) : zV X 58 [some (.inr x0), some (.inr 207), none, none, none, some (.inl x5), some (.inl x6), some (.inl x7)] [] 274 (z_ov μ) := by
  refine v_iload (q := 60) C dX0_inductionVariable_58 rfl rfl ?_
  refine v_istoren (q := 61) C dX0_inductionVariable_60 rfl (nb rfl) (L' := [some (.inr x0), some (.inr 207), some (.inl x5), none, none, some (.inl x5), some (.inl x6), some (.inl x7)]) rfl ?_
  refine v_iload (q := 63) C dX0_inductionVariable_61 rfl rfl ?_
  refine v_istoren (q := 64) C dX0_inductionVariable_63 rfl (nb rfl) (L' := [some (.inr x0), some (.inr 207), some (.inl x5), some (.inl x6), none, some (.inl x5), some (.inl x6), some (.inl x7)]) rfl ?_
  refine v_iload (q := 66) C dX0_inductionVariable_64 rfl rfl ?_
  refine v_istore (q := 68) C dX0_inductionVariable_66 rfl (nb rfl) (L' := [some (.inr x0), some (.inr 207), some (.inl x5), some (.inl x6), some (.inl x7), some (.inl x5), some (.inl x6), some (.inl x7)]) rfl ?_
  exact v_mask [true, true, true, true, true, true, false, false] rfl (w_X0_inductionVariable_68  C hR hG11 hx0 h)
theorem w_X0_inductionVariable_11 {X : ZX} (C : zC X cX0_inductionVariable RX0 8 (some .int) 3 66 274) {K : Int → ZM → Prop} (hR : zRi X cX0_inductionVariable (some .int) 274 (KN (KI K)))  {x0 : Int} {x2 : Int} {x3 : Int} {x4 : Int} {x5 : Int} {μ : ZM}  (hx0 : z_cm x0) (h : P_X0_inductionVariable_11   x0 x2 x3 x4 x5 μ K) : zV X 11 [some (.inr x0), some (.inr 207), some (.inl x2), some (.inl x3), some (.inl x4), some (.inl x5), none, none] [] 274 (z_ov μ) := by
  refine h (fun x2 x3 x4 x5 μ => zV X 11 [some (.inr x0), some (.inr 207), some (.inl x2), some (.inl x3), some (.inl x4), some (.inl x5), none, none] [] 274 (z_ov μ)) (fun x2 x3 x4 x5 μ h => ?_)
  refine v_iload (q := 13) C dX0_inductionVariable_11 rfl rfl ?_
  refine v_iconst (q := 14) C dX0_inductionVariable_13 rfl (by decide) ?_
  refine v_icmp_ge (q := 17) (tgt := 74) C dX0_inductionVariable_14 rfl rfl h (fun h => ?_) (fun h => ?_)
  · refine v_iloadn (q := 75) C dX0_inductionVariable_74 rfl rfl ?_
    exact u_iret hR dX0_inductionVariable_75 h
  · refine v_aloadn (q := 18) C dX0_inductionVariable_17 rfl rfl ?_
    refine v_iload (q := 20) C dX0_inductionVariable_18 rfl rfl ?_
    refine u_cVi1 (q := 23) C (c_X0_callsOf h) sy_X0_callsOf si_X0_callsOf ml_X0_53 (ob_cm hx0) (by decide) so_X0_callsOf ⟨nb rfl, nb rfl⟩ (nb rfl) dX0_inductionVariable_20 rfl (fun r2 μ1 h => ?_)
    refine v_istore (q := 25) C dX0_inductionVariable_23 rfl (nb rfl) (L' := [some (.inr x0), some (.inr 207), some (.inl x2), some (.inl x3), some (.inl x4), some (.inl x5), some (.inl r2), none]) rfl ?_
    refine v_aloadn (q := 26) C dX0_inductionVariable_25 rfl rfl ?_
    refine v_iload (q := 28) C dX0_inductionVariable_26 rfl rfl ?_
    refine v_aloadn (q := 29) C dX0_inductionVariable_28 rfl rfl ?_
    refine u_cVi2 (q := 32) C (c_X0_deepestCall h) sy_X0_deepestCall si_X0_deepestCall ml_X0_56 (ob_cm hx0) (by decide) so_X0_deepestCall ⟨nb rfl, nb rfl⟩ (nb rfl) dX0_inductionVariable_29 rfl (fun r4 μ3 h => ?_)
    refine v_istore (q := 34) C dX0_inductionVariable_32 rfl (nb rfl) (L' := [some (.inr x0), some (.inr 207), some (.inl x2), some (.inl x3), some (.inl x4), some (.inl x5), some (.inl r2), some (.inl r4)]) rfl ?_
    refine v_iload (q := 36) C dX0_inductionVariable_34 rfl rfl ?_
    refine v_iloadn (q := 37) C dX0_inductionVariable_36 rfl rfl ?_
    refine v_icmp_gt (q := 40) (tgt := 58) C dX0_inductionVariable_37 rfl rfl h (fun h => ?_) (fun h => ?_)
    · exact v_mask [true, true, false, false, false, true, true, true] rfl (w_X0_inductionVariable_58  C hR (fun _ _ _ _ _ h => h) hx0 h)
    · refine v_iload (q := 42) C dX0_inductionVariable_40 rfl rfl ?_
      refine v_if_le (q := 45) (tgt := 68) C dX0_inductionVariable_42 rfl rfl h (fun h => ?_) (fun h => ?_)
      · exact v_mask [true, true, true, true, true, true, false, false] rfl (w_X0_inductionVariable_68  C hR (fun _ _ _ _ _ h => h) hx0 h)
      · refine v_iload (q := 47) C dX0_inductionVariable_45 rfl rfl ?_
        refine v_iloadn (q := 48) C dX0_inductionVariable_47 rfl rfl ?_
        refine v_icmp_ne (q := 51) (tgt := 68) C dX0_inductionVariable_48 rfl rfl h (fun h => ?_) (fun h => ?_)
        · refine v_iload (q := 53) C dX0_inductionVariable_51 rfl rfl ?_
          refine v_iload (q := 55) C dX0_inductionVariable_53 rfl rfl ?_
          refine v_icmp_ge (q := 58) (tgt := 68) C dX0_inductionVariable_55 rfl rfl h (fun h => ?_) (fun h => ?_)
          · exact v_mask [true, true, true, true, true, true, false, false] rfl (w_X0_inductionVariable_68  C hR (fun _ _ _ _ _ h => h) hx0 h)
          · exact v_mask [true, true, false, false, false, true, true, true] rfl (w_X0_inductionVariable_58  C hR (fun _ _ _ _ _ h => h) hx0 h)
        · exact v_mask [true, true, true, true, true, true, false, false] rfl (w_X0_inductionVariable_68  C hR (fun _ _ _ _ _ h => h) hx0 h)
theorem c_X0_inductionVariable {x0 : Int} {μ : ZM} {K : Int → ZM → Prop} (h : P_X0_inductionVariable  x0 μ K) : zMu yX0_inductionVariable cX0_inductionVariable 8 (some .int) 3 66 [.inr x0, .inr 207] μ (KI K) := by
  refine zMet_of (L0 := [some (.inr x0), some (.inr 207), none, none, none, none, none, none]) sy_X0_inductionVariable rfl (nb rfl) (Nat.le_refl _) (fun X C _ hR _ _ => ?_)
  have C : zC X cX0_inductionVariable RX0 8 (some .int) 3 66 274 := C
  have hx0 := h.1
  replace h := h.2
  refine v_bipush (q := 2) C dX0_inductionVariable_0 rfl (by decide) ?_
  refine v_istoren (q := 3) C dX0_inductionVariable_2 rfl (nb rfl) (L' := [some (.inr x0), some (.inr 207), some (.inl ((-9))), none, none, none, none, none]) rfl ?_
  refine v_iconst (q := 4) C dX0_inductionVariable_3 rfl (by decide) ?_
  refine v_istoren (q := 5) C dX0_inductionVariable_4 rfl (nb rfl) (L' := [some (.inr x0), some (.inr 207), some (.inl ((-9))), some (.inl 0), none, none, none, none]) rfl ?_
  refine v_iconst (q := 6) C dX0_inductionVariable_5 rfl (by decide) ?_
  refine v_istore (q := 8) C dX0_inductionVariable_6 rfl (nb rfl) (L' := [some (.inr x0), some (.inr 207), some (.inl ((-9))), some (.inl 0), some (.inl 0), none, none, none]) rfl ?_
  refine v_iconst (q := 9) C dX0_inductionVariable_8 rfl (by decide) ?_
  refine v_istore (q := 11) C dX0_inductionVariable_9 rfl (nb rfl) (L' := [some (.inr x0), some (.inr 207), some (.inl ((-9))), some (.inl 0), some (.inl 0), some (.inl 0), none, none]) rfl ?_
  exact (w_X0_inductionVariable_11  C hR  hx0 h)
theorem c_X10_isSame {x0 : Int} {x1 : Int} {μ : ZM} {K : Int → ZM → Prop} (h : P_X10_isSame  x0 x1 μ K) : zMu yX10_isSame cX10_isSame 2 (some .boolean) 1 25 [.inr x0, .inr x1] μ (KI K) := by
  refine zMet_of (L0 := [some (.inr x0), some (.inr x1)]) sy_X10_isSame rfl (nb rfl) (Nat.le_refl _) (fun X C _ hR _ _ => ?_)
  have C : zC X cX10_isSame RX10 2 (some .boolean) 1 25 274 := C
  have hx0 := h.1
  replace h := h.2
  have hx1 := h.1
  replace h := h.2
  refine v_aloadn (q := 1) C dX10_isSame_0 rfl rfl ?_
  refine u_getI (q := 4) C kl10 fl_X10_18 (ob_tm hx0) (pt_size hx0) rfl rfl dX10_isSame_1 rfl ?_
  refine v_aloadn (q := 5) C dX10_isSame_4 rfl rfl ?_
  refine u_getI (q := 8) C kl10 fl_X10_18 (ob_tm hx1) (pt_size hx1) rfl rfl dX10_isSame_5 rfl ?_
  refine v_icmp_ne (q := 11) (tgt := 25) C dX10_isSame_8 rfl rfl h (fun h => ?_) (fun h => ?_)
  · refine v_aloadn (q := 12) C dX10_isSame_11 rfl rfl ?_
    refine v_iconst (q := 13) C dX10_isSame_12 rfl (by decide) ?_
    refine v_aloadn (q := 14) C dX10_isSame_13 rfl rfl ?_
    refine v_iconst (q := 15) C dX10_isSame_14 rfl (by decide) ?_
    refine u_cVi3 (q := 18) C (c_X10_isSameAt h) sy_X10_isSameAt si_X10_isSameAt ml_X10_28 (ob_tm hx0) (by decide) so_X10_isSameAt ⟨nb rfl, nb rfl⟩ (nb rfl) dX10_isSame_15 rfl (fun r2 μ1 h => ?_)
    refine v_if_eq (q := 21) (tgt := 25) C dX10_isSame_18 rfl rfl h (fun h => ?_) (fun h => ?_)
    · refine v_iconst (q := 26) C dX10_isSame_25 rfl (by decide) ?_
      exact u_zret hR dX10_isSame_26 h
    · refine v_iconst (q := 22) C dX10_isSame_21 rfl (by decide) ?_
      refine v_goto (q := 26) C dX10_isSame_22 rfl ?_
      exact u_zret hR dX10_isSame_26 h
  · refine v_iconst (q := 26) C dX10_isSame_25 rfl (by decide) ?_
    exact u_zret hR dX10_isSame_26 h
theorem c_X0_isSame {x0 : Int} {x1 : Int} {μ : ZM} {K : Int → ZM → Prop} (h : P_X0_isSame  x0 x1 μ K) : zMu yX0_isSame cX0_isSame 2 (some .boolean) 2 46 [.inr x0, .inr x1] μ (KI K) := by
  refine zMet_of (L0 := [some (.inr x0), some (.inr x1)]) sy_X0_isSame rfl (nb rfl) (Nat.le_refl _) (fun X C _ hR _ _ => ?_)
  have C : zC X cX0_isSame RX0 2 (some .boolean) 2 46 274 := C
  have hx0 := h.1
  replace h := h.2
  have hx1 := h.1
  replace h := h.2
  refine v_aloadn (q := 1) C dX0_isSame_0 rfl rfl ?_
  refine u_getR (v := 6 * (x0 - 187) + 1) (q := 4) C kl0 fl_X0_12 (ob_cm hx0) (pt_left hx0) (by omega) rfl rfl dX0_isSame_1 rfl ?_
  refine v_aloadn (q := 5) C dX0_isSame_4 rfl rfl ?_
  refine u_getR (v := 6 * (x1 - 187) + 1) (q := 8) C kl0 fl_X0_12 (ob_cm hx1) (pt_left hx1) (by omega) rfl rfl dX0_isSame_5 rfl ?_
  refine u_cVi1 (q := 11) C (c_X10_isSame h) sy_X10_isSame si_X10_isSame ml_X0_25 (ob_tm (tm_left hx0)) (by decide) so_X10_isSame ⟨nb rfl, nb rfl⟩ (nb rfl) dX0_isSame_8 rfl (fun r2 μ1 h => ?_)
  refine v_if_eq (q := 14) (tgt := 32) C dX0_isSame_11 rfl rfl h (fun h => ?_) (fun h => ?_)
  · refine v_iconst (q := 33) C dX0_isSame_32 rfl (by decide) ?_
    exact u_zret hR dX0_isSame_33 h
  · refine v_aloadn (q := 15) C dX0_isSame_14 rfl rfl ?_
    refine u_getR (v := 6 * (x0 - 187) + 4) (q := 18) C kl0 fl_X0_18 (ob_cm hx0) (pt_right hx0) (by omega) rfl rfl dX0_isSame_15 rfl ?_
    refine v_aloadn (q := 19) C dX0_isSame_18 rfl rfl ?_
    refine u_getR (v := 6 * (x1 - 187) + 4) (q := 22) C kl0 fl_X0_18 (ob_cm hx1) (pt_right hx1) (by omega) rfl rfl dX0_isSame_19 rfl ?_
    refine u_cVi1 (q := 25) C (c_X10_isSame h) sy_X10_isSame si_X10_isSame ml_X0_25 (ob_tm (tm_right hx0)) (by decide) so_X10_isSame ⟨nb rfl, nb rfl⟩ (nb rfl) dX0_isSame_22 rfl (fun r4 μ3 h => ?_)
    refine v_if_eq (q := 28) (tgt := 32) C dX0_isSame_25 rfl rfl h (fun h => ?_) (fun h => ?_)
    · refine v_iconst (q := 33) C dX0_isSame_32 rfl (by decide) ?_
      exact u_zret hR dX0_isSame_33 h
    · refine v_iconst (q := 29) C dX0_isSame_28 rfl (by decide) ?_
      refine v_goto (q := 33) C dX0_isSame_29 rfl ?_
      exact u_zret hR dX0_isSame_33 h
theorem c_X0_isTrivial {x0 : Int} {μ : ZM} {K : Int → ZM → Prop} (h : P_X0_isTrivial  x0 μ K) : zMu yX0_isTrivial cX0_isTrivial 1 (some .boolean) 2 46 [.inr x0] μ (KI K) := by
  refine zMet_of (L0 := [some (.inr x0)]) sy_X0_isTrivial rfl (nb rfl) (Nat.le_refl _) (fun X C _ hR _ _ => ?_)
  have C : zC X cX0_isTrivial RX0 1 (some .boolean) 2 46 274 := C
  have hx0 := h.1
  replace h := h.2
  refine v_aloadn (q := 1) C dX0_isTrivial_0 rfl rfl ?_
  refine u_getR (v := 6 * (x0 - 187) + 1) (q := 4) C kl0 fl_X0_12 (ob_cm hx0) (pt_left hx0) (by omega) rfl rfl dX0_isTrivial_1 rfl ?_
  refine v_aloadn (q := 5) C dX0_isTrivial_4 rfl rfl ?_
  refine u_getR (v := 6 * (x0 - 187) + 4) (q := 8) C kl0 fl_X0_18 (ob_cm hx0) (pt_right hx0) (by omega) rfl rfl dX0_isTrivial_5 rfl ?_
  refine u_cVi1 (q := 11) C (c_X10_isSame h) sy_X10_isSame si_X10_isSame ml_X0_25 (ob_tm (tm_left hx0)) (by decide) so_X10_isSame ⟨nb rfl, nb rfl⟩ (nb rfl) dX0_isTrivial_8 rfl (fun r2 μ1 h => ?_)
  exact u_zret hR dX0_isTrivial_11 h
theorem c_X0_part {x0 : Int} {x1 : Int} {μ : ZM} {K : Int → ZM → Prop} (h : P_X0_part  x0 x1 μ K) : zMu yX0_part cX0_part 2 (some (.object "SteeredClaims$Term")) 0 0 [.inr x0, .inl x1] μ (KA K) := by
  refine zMet_of (L0 := [some (.inr x0), some (.inl x1)]) sy_X0_part rfl (nb rfl) (Nat.le_refl _) (fun X C _ _ hR _ => ?_)
  have C : zC X cX0_part RX0 2 (some (.object "SteeredClaims$Term")) 0 0 274 := C
  have hx0 := h.1
  replace h := h.2
  refine v_iloadn (q := 1) C dX0_part_0 rfl rfl ?_
  refine v_if_ne (q := 4) (tgt := 11) C dX0_part_1 rfl rfl h (fun h => ?_) (fun h => ?_)
  · refine v_aloadn (q := 5) C dX0_part_4 rfl rfl ?_
    refine u_getR (v := 6 * (x0 - 187) + 1) (q := 8) C kl0 fl_X0_12 (ob_cm hx0) (pt_left hx0) (by omega) rfl rfl dX0_part_5 rfl ?_
    refine v_goto (q := 15) C dX0_part_8 rfl ?_
    exact u_aret hR dX0_part_15 h
  · refine v_aloadn (q := 12) C dX0_part_11 rfl rfl ?_
    refine u_getR (v := 6 * (x0 - 187) + 4) (q := 15) C kl0 fl_X0_18 (ob_cm hx0) (pt_right hx0) (by omega) rfl rfl dX0_part_12 rfl ?_
    exact u_aret hR dX0_part_15 h
theorem w_X1_findDepths_80 {X : ZX} (C : zC X cX1_findDepths RX1 4 none 0 0 274) {K : ZM → Prop} (hR : zRv X cX1_findDepths none 274 (KN (KV K)))  {x1 : Int} {x2 : Int} {μ : ZM} {G9 : Int → ZM → Prop} (hG9 : ∀ (x2 : Int) (μ : ZM), G9 x2 μ → zV X 9 [some (.inr 233), some (.inr x1), some (.inl x2), none] [] 274 (z_ov μ)) (hx1 : z_tm x1) (h : P_X1_findDepths_80  G9 x1 x2 μ K) : zV X 80 [some (.inr 233), some (.inr x1), some (.inl x2), none] [] 274 (z_ov μ) := by
  refine u_iinc (q := 83) C dX1_findDepths_80 rfl (nb rfl) rfl (L' := [some (.inr 233), some (.inr x1), some (.inl (x2 + 1)), none]) rfl h (fun h => ?_)
  refine v_goto (q := 9) C dX1_findDepths_83 rfl ?_
  exact (hG9 _ _ h)
theorem w_X1_findDepths_9 {X : ZX} (C : zC X cX1_findDepths RX1 4 none 0 0 274) {K : ZM → Prop} (hR : zRv X cX1_findDepths none 274 (KN (KV K)))  {x1 : Int} {x2 : Int} {μ : ZM}  (hx1 : z_tm x1) (h : P_X1_findDepths_9   x1 x2 μ K) : zV X 9 [some (.inr 233), some (.inr x1), some (.inl x2), none] [] 274 (z_ov μ) := by
  refine h (fun x2 μ => zV X 9 [some (.inr 233), some (.inr x1), some (.inl x2), none] [] 274 (z_ov μ)) (fun x2 μ h => ?_)
  refine v_iloadn (q := 10) C dX1_findDepths_9 rfl rfl ?_
  refine v_iconst (q := 11) C dX1_findDepths_10 rfl (by decide) ?_
  refine u_iadd (q := 12) C dX1_findDepths_11 rfl h (fun h => ?_)
  refine v_aloadn (q := 13) C dX1_findDepths_12 rfl rfl ?_
  refine u_getI (q := 16) C kl10 fl_X1_18 (ob_tm hx1) (pt_size hx1) rfl rfl dX1_findDepths_13 rfl ?_
  refine v_icmp_ge (q := 19) (tgt := 86) C dX1_findDepths_16 rfl rfl h (fun h => ?_) (fun h => ?_)
  · exact u_vret hR dX1_findDepths_86 h
  · refine v_aloadn (q := 20) C dX1_findDepths_19 rfl rfl ?_
    refine u_getR (v := x1 + 2) (q := 23) C kl10 fl_X1_33 (ob_tm hx1) (pt_end hx1) (by omega) rfl rfl dX1_findDepths_20 rfl ?_
    refine v_iloadn (q := 24) C dX1_findDepths_23 rfl rfl ?_
    refine u_iald (q := 25) C (ia_end hx1) dX1_findDepths_24 rfl h (fun h => ?_)
    refine v_iloadn (q := 26) C dX1_findDepths_25 rfl rfl ?_
    refine v_iconst (q := 27) C dX1_findDepths_26 rfl (by decide) ?_
    refine u_iadd (q := 28) C dX1_findDepths_27 rfl h (fun h => ?_)
    refine v_icmp_le (q := 31) (tgt := 80) C dX1_findDepths_28 rfl rfl h (fun h => ?_) (fun h => ?_)
    · exact (w_X1_findDepths_80  C hR (fun _ _ h => h) hx1 h)
    · refine v_aloadn (q := 32) C dX1_findDepths_31 rfl rfl ?_
      refine u_getR (q := 35) C kl1 fl_X1_15 ob_233 pt_233_1 (by decide) rfl rfl dX1_findDepths_32 rfl ?_
      refine v_iloadn (q := 36) C dX1_findDepths_35 rfl rfl ?_
      refine v_iconst (q := 37) C dX1_findDepths_36 rfl (by decide) ?_
      refine u_iadd (q := 38) C dX1_findDepths_37 rfl h (fun h => ?_)
      refine v_aloadn (q := 39) C dX1_findDepths_38 rfl rfl ?_
      refine u_getR (q := 42) C kl1 fl_X1_15 ob_233 pt_233_1 (by decide) rfl rfl dX1_findDepths_39 rfl ?_
      refine v_iloadn (q := 43) C dX1_findDepths_42 rfl rfl ?_
      refine u_iald (q := 44) C ia_235 dX1_findDepths_43 rfl h (fun h => ?_)
      refine v_iconst (q := 45) C dX1_findDepths_44 rfl (by decide) ?_
      refine u_iadd (q := 46) C dX1_findDepths_45 rfl h (fun h => ?_)
      refine u_iast (q := 47) C ia_235 dX1_findDepths_46 rfl h (fun μ2 h => ?_)
      refine v_aloadn (q := 48) C dX1_findDepths_47 rfl rfl ?_
      refine u_getR (v := x1 + 2) (q := 51) C kl10 fl_X1_33 (ob_tm hx1) (pt_end hx1) (by omega) rfl rfl dX1_findDepths_48 rfl ?_
      refine v_iloadn (q := 52) C dX1_findDepths_51 rfl rfl ?_
      refine v_iconst (q := 53) C dX1_findDepths_52 rfl (by decide) ?_
      refine u_iadd (q := 54) C dX1_findDepths_53 rfl h (fun h => ?_)
      refine u_iald (q := 55) C (ia_end hx1) dX1_findDepths_54 rfl h (fun h => ?_)
      refine v_istoren (q := 56) C dX1_findDepths_55 rfl (nb rfl) (L' := [some (.inr 233), some (.inr x1), some (.inl x2), some (.inl (μ2 (x1 + 2) (x2 + 1)))]) rfl ?_
      refine v_iloadn (q := 57) C dX1_findDepths_56 rfl rfl ?_
      refine v_aloadn (q := 58) C dX1_findDepths_57 rfl rfl ?_
      refine u_getR (v := x1 + 2) (q := 61) C kl10 fl_X1_33 (ob_tm hx1) (pt_end hx1) (by omega) rfl rfl dX1_findDepths_58 rfl ?_
      refine v_iloadn (q := 62) C dX1_findDepths_61 rfl rfl ?_
      refine u_iald (q := 63) C (ia_end hx1) dX1_findDepths_62 rfl h (fun h => ?_)
      refine v_icmp_ge (q := 66) (tgt := 80) C dX1_findDepths_63 rfl rfl h (fun h => ?_) (fun h => ?_)
      · exact v_mask [true, true, true, false] rfl (w_X1_findDepths_80  C hR (fun _ _ h => h) hx1 h)
      · refine v_aloadn (q := 67) C dX1_findDepths_66 rfl rfl ?_
        refine u_getR (q := 70) C kl1 fl_X1_15 ob_233 pt_233_1 (by decide) rfl rfl dX1_findDepths_67 rfl ?_
        refine v_iloadn (q := 71) C dX1_findDepths_70 rfl rfl ?_
        refine v_aloadn (q := 72) C dX1_findDepths_71 rfl rfl ?_
        refine u_getR (q := 75) C kl1 fl_X1_15 ob_233 pt_233_1 (by decide) rfl rfl dX1_findDepths_72 rfl ?_
        refine v_iloadn (q := 76) C dX1_findDepths_75 rfl rfl ?_
        refine u_iald (q := 77) C ia_235 dX1_findDepths_76 rfl h (fun h => ?_)
        refine v_iconst (q := 78) C dX1_findDepths_77 rfl (by decide) ?_
        refine u_iadd (q := 79) C dX1_findDepths_78 rfl h (fun h => ?_)
        refine u_iast (q := 80) C ia_235 dX1_findDepths_79 rfl h (fun μ3 h => ?_)
        exact v_mask [true, true, true, false] rfl (w_X1_findDepths_80  C hR (fun _ _ h => h) hx1 h)
theorem c_X1_findDepths {x1 : Int} {μ : ZM} {K : ZM → Prop} (h : P_X1_findDepths  x1 μ K) : zMu yX1_findDepths cX1_findDepths 4 none 0 0 [.inr 233, .inr x1] μ (KV K) := by
  refine zMet_of (L0 := [some (.inr 233), some (.inr x1), none, none]) sy_X1_findDepths rfl (nb rfl) (Nat.le_refl _) (fun X C _ _ _ hR => ?_)
  have C : zC X cX1_findDepths RX1 4 none 0 0 274 := C
  have hx1 := h.1
  replace h := h.2
  refine v_aloadn (q := 1) C dX1_findDepths_0 rfl rfl ?_
  refine u_getR (q := 4) C kl1 fl_X1_15 ob_233 pt_233_1 (by decide) rfl rfl dX1_findDepths_1 rfl ?_
  refine v_iconst (q := 5) C dX1_findDepths_4 rfl (by decide) ?_
  refine v_iconst (q := 6) C dX1_findDepths_5 rfl (by decide) ?_
  refine u_iast (q := 7) C ia_235 dX1_findDepths_6 rfl h (fun μ1 h => ?_)
  refine v_iconst (q := 8) C dX1_findDepths_7 rfl (by decide) ?_
  refine v_istoren (q := 9) C dX1_findDepths_8 rfl (nb rfl) (L' := [some (.inr 233), some (.inr x1), some (.inl 0), none]) rfl ?_
  exact (w_X1_findDepths_9  C hR  hx1 h)
theorem w_X1_smallestAt_213 {X : ZX} (C : zC X cX1_smallestAt RX1 13 (some .int) 1 40 274) {K : Int → ZM → Prop} (hR : zRi X cX1_smallestAt (some .int) 274 (KN (KI K)))  {x11 : Int} {μ : ZM}   (h : P_X1_smallestAt_213   x11 μ K) : zV X 213 [none, none, none, none, none, none, none, none, none, none, none, some (.inl x11), none] [] 274 (z_ov μ) := by
  refine v_iload (q := 215) C dX1_smallestAt_213 rfl rfl ?_
  refine v_ldc (q := 217) C kc_X1_32 dX1_smallestAt_215 rfl (by decide) ?_
  refine v_min (q := 220) C ml_X1_39 (nb rfl) (nb rfl) (Nat.le_refl _) dX1_smallestAt_217 rfl ?_
  exact u_iret hR dX1_smallestAt_220 h
theorem w_X1_smallestAt_204 {X : ZX} (C : zC X cX1_smallestAt RX1 13 (some .int) 1 40 274) {K : Int → ZM → Prop} (hR : zRi X cX1_smallestAt (some .int) 274 (KN (KI K)))  {x11 : Int} {x12 : Int} {μ : ZM}   (h : P_X1_smallestAt_204   x11 x12 μ K) : zV X 204 [none, none, none, none, none, none, none, none, none, none, none, some (.inl x11), some (.inl x12)] [] 274 (z_ov μ) := by
  refine v_iload (q := 206) C dX1_smallestAt_204 rfl rfl ?_
  refine v_iload (q := 208) C dX1_smallestAt_206 rfl rfl ?_
  refine v_min (q := 211) C ml_X1_39 (nb rfl) (nb rfl) (Nat.le_refl _) dX1_smallestAt_208 rfl ?_
  refine v_istore (q := 213) C dX1_smallestAt_211 rfl (nb rfl) (L' := [none, none, none, none, none, none, none, none, none, none, none, some (.inl (min x11 x12)), some (.inl x12)]) rfl ?_
  exact v_mask [false, false, false, false, false, false, false, false, false, false, false, true, false] rfl (w_X1_smallestAt_213  C hR   h)
theorem w_X1_smallestAt_140 {X : ZX} (C : zC X cX1_smallestAt RX1 13 (some .int) 1 40 274) {K : Int → ZM → Prop} (hR : zRi X cX1_smallestAt (some .int) 274 (KN (KI K)))  {x2 : Int} {x3 : Int} {x4 : Int} {x7 : Int} {x8 : Int} {x9 : Int} {x10 : Int} {μ : ZM}  (hx3 : z_tm x3) (h : P_X1_smallestAt_140   x2 x3 x4 x7 x8 x9 x10 μ K) : zV X 140 [some (.inr 233), none, some (.inl x2), some (.inr x3), some (.inl x4), none, none, some (.inl x7), some (.inl x8), some (.inl x9), some (.inl x10), none, none] [] 274 (z_ov μ) := by
  refine v_iload (q := 142) C dX1_smallestAt_140 rfl rfl ?_
  refine v_aloadn (q := 143) C dX1_smallestAt_142 rfl rfl ?_
  refine u_getR (q := 146) C kl1 fl_X1_15 ob_233 pt_233_1 (by decide) rfl rfl dX1_smallestAt_143 rfl ?_
  refine v_iloadn (q := 147) C dX1_smallestAt_146 rfl rfl ?_
  refine u_iald (q := 148) C ia_235 dX1_smallestAt_147 rfl h (fun h => ?_)
  refine u_iadd (q := 149) C dX1_smallestAt_148 rfl h (fun h => ?_)
  refine v_istore (q := 151) C dX1_smallestAt_149 rfl (nb rfl) (L' := [some (.inr 233), none, some (.inl x2), some (.inr x3), some (.inl x4), none, none, some (.inl x7), some (.inl x8), some (.inl x9), some (.inl x10), some (.inl (x10 + (μ 235 x2))), none]) rfl ?_
  refine v_iload (q := 153) C dX1_smallestAt_151 rfl rfl ?_
  refine v_if_eq (q := 156) (tgt := 213) C dX1_smallestAt_153 rfl rfl h (fun h => ?_) (fun h => ?_)
  · exact v_mask [false, false, false, false, false, false, false, false, false, false, false, true, false] rfl (w_X1_smallestAt_213  C hR   h)
  · refine v_aloadn (q := 157) C dX1_smallestAt_156 rfl rfl ?_
    refine u_getR (q := 160) C kl1 fl_X1_9 ob_233 pt_233_0 (by decide) rfl rfl dX1_smallestAt_157 rfl ?_
    refine v_iloadn (q := 161) C dX1_smallestAt_160 rfl rfl ?_
    refine v_iconst (q := 162) C dX1_smallestAt_161 rfl (by decide) ?_
    refine u_iadd (q := 163) C dX1_smallestAt_162 rfl h (fun h => ?_)
    refine v_bipush (q := 165) C dX1_smallestAt_163 rfl (by decide) ?_
    refine u_imul (q := 166) C dX1_smallestAt_165 rfl h (fun h => ?_)
    refine v_iload (q := 168) C dX1_smallestAt_166 rfl rfl ?_
    refine u_iadd (q := 169) C dX1_smallestAt_168 rfl h (fun h => ?_)
    refine v_iconst (q := 170) C dX1_smallestAt_169 rfl (by decide) ?_
    refine u_iadd (q := 171) C dX1_smallestAt_170 rfl h (fun h => ?_)
    refine u_iald (q := 172) C ia_234 dX1_smallestAt_171 rfl h (fun h => ?_)
    refine v_istore (q := 174) C dX1_smallestAt_172 rfl (nb rfl) (L' := [some (.inr 233), none, some (.inl x2), some (.inr x3), some (.inl x4), none, none, some (.inl x7), some (.inl x8), some (.inl x9), some (.inl x10), some (.inl (x10 + (μ 235 x2))), some (.inl (μ 234 ((((x2 + 1) * 40) + x4) + 1)))]) rfl ?_
    refine v_iload (q := 176) C dX1_smallestAt_174 rfl rfl ?_
    refine v_if_eq (q := 179) (tgt := 204) C dX1_smallestAt_176 rfl rfl h (fun h => ?_) (fun h => ?_)
    · exact v_mask [false, false, false, false, false, false, false, false, false, false, false, true, true] rfl (w_X1_smallestAt_204  C hR   h)
    · refine v_iload (q := 181) C dX1_smallestAt_179 rfl rfl ?_
      refine v_aloadn (q := 182) C dX1_smallestAt_181 rfl rfl ?_
      refine u_getR (q := 185) C kl1 fl_X1_9 ob_233 pt_233_0 (by decide) rfl rfl dX1_smallestAt_182 rfl ?_
      refine v_iload (q := 187) C dX1_smallestAt_185 rfl rfl ?_
      refine v_bipush (q := 189) C dX1_smallestAt_187 rfl (by decide) ?_
      refine u_imul (q := 190) C dX1_smallestAt_189 rfl h (fun h => ?_)
      refine v_aloadn (q := 191) C dX1_smallestAt_190 rfl rfl ?_
      refine u_getR (v := x3 + 2) (q := 194) C kl10 fl_X1_33 (ob_tm hx3) (pt_end hx3) (by omega) rfl rfl dX1_smallestAt_191 rfl ?_
      refine v_iload (q := 196) C dX1_smallestAt_194 rfl rfl ?_
      refine v_iconst (q := 197) C dX1_smallestAt_196 rfl (by decide) ?_
      refine u_iadd (q := 198) C dX1_smallestAt_197 rfl h (fun h => ?_)
      refine u_iald (q := 199) C (ia_end hx3) dX1_smallestAt_198 rfl h (fun h => ?_)
      refine u_iadd (q := 200) C dX1_smallestAt_199 rfl h (fun h => ?_)
      refine u_iald (q := 201) C ia_234 dX1_smallestAt_200 rfl h (fun h => ?_)
      refine u_iadd (q := 202) C dX1_smallestAt_201 rfl h (fun h => ?_)
      refine v_istore (q := 204) C dX1_smallestAt_202 rfl (nb rfl) (L' := [some (.inr 233), none, some (.inl x2), some (.inr x3), some (.inl x4), none, none, some (.inl x7), some (.inl x8), some (.inl x9), some (.inl x10), some (.inl (x10 + (μ 235 x2))), some (.inl ((μ 234 ((((x2 + 1) * 40) + x4) + 1)) + (μ 234 ((x8 * 40) + (μ (x3 + 2) (x4 + 1))))))]) rfl ?_
      exact v_mask [false, false, false, false, false, false, false, false, false, false, false, true, true] rfl (w_X1_smallestAt_204  C hR   h)
theorem w_X1_smallestAt_97 {X : ZX} (C : zC X cX1_smallestAt RX1 13 (some .int) 1 40 274) {K : Int → ZM → Prop} (hR : zRi X cX1_smallestAt (some .int) 274 (KN (KI K)))  {x2 : Int} {x3 : Int} {x4 : Int} {x7 : Int} {x8 : Int} {s0 : Int} {μ : ZM}  (hx3 : z_tm x3) (h : P_X1_smallestAt_97   x2 x3 x4 x7 x8 s0 μ K) : zV X 97 [some (.inr 233), none, some (.inl x2), some (.inr x3), some (.inl x4), none, none, some (.inl x7), some (.inl x8), none, none, none, none] [.inl s0] 274 (z_ov μ) := by
  refine v_istore (q := 99) C dX1_smallestAt_97 rfl (nb rfl) (L' := [some (.inr 233), none, some (.inl x2), some (.inr x3), some (.inl x4), none, none, some (.inl x7), some (.inl x8), some (.inl s0), none, none, none]) rfl ?_
  refine v_aloadn (q := 100) C dX1_smallestAt_99 rfl rfl ?_
  refine u_getR (q := 103) C kl1 fl_X1_9 ob_233 pt_233_0 (by decide) rfl rfl dX1_smallestAt_100 rfl ?_
  refine v_iloadn (q := 104) C dX1_smallestAt_103 rfl rfl ?_
  refine v_iconst (q := 105) C dX1_smallestAt_104 rfl (by decide) ?_
  refine u_iadd (q := 106) C dX1_smallestAt_105 rfl h (fun h => ?_)
  refine v_bipush (q := 108) C dX1_smallestAt_106 rfl (by decide) ?_
  refine u_imul (q := 109) C dX1_smallestAt_108 rfl h (fun h => ?_)
  refine v_iload (q := 111) C dX1_smallestAt_109 rfl rfl ?_
  refine u_iadd (q := 112) C dX1_smallestAt_111 rfl h (fun h => ?_)
  refine u_iald (q := 113) C ia_234 dX1_smallestAt_112 rfl h (fun h => ?_)
  refine v_istore (q := 115) C dX1_smallestAt_113 rfl (nb rfl) (L' := [some (.inr 233), none, some (.inl x2), some (.inr x3), some (.inl x4), none, none, some (.inl x7), some (.inl x8), some (.inl s0), some (.inl (μ 234 (((x2 + 1) * 40) + x4))), none, none]) rfl ?_
  refine v_iload (q := 117) C dX1_smallestAt_115 rfl rfl ?_
  refine v_if_eq (q := 120) (tgt := 140) C dX1_smallestAt_117 rfl rfl h (fun h => ?_) (fun h => ?_)
  · exact (w_X1_smallestAt_140  C hR  hx3 h)
  · refine v_iload (q := 122) C dX1_smallestAt_120 rfl rfl ?_
    refine v_aloadn (q := 123) C dX1_smallestAt_122 rfl rfl ?_
    refine u_getR (q := 126) C kl1 fl_X1_9 ob_233 pt_233_0 (by decide) rfl rfl dX1_smallestAt_123 rfl ?_
    refine v_iload (q := 128) C dX1_smallestAt_126 rfl rfl ?_
    refine v_bipush (q := 130) C dX1_smallestAt_128 rfl (by decide) ?_
    refine u_imul (q := 131) C dX1_smallestAt_130 rfl h (fun h => ?_)
    refine v_iload (q := 133) C dX1_smallestAt_131 rfl rfl ?_
    refine u_iadd (q := 134) C dX1_smallestAt_133 rfl h (fun h => ?_)
    refine u_iald (q := 135) C ia_234 dX1_smallestAt_134 rfl h (fun h => ?_)
    refine v_min (q := 138) C ml_X1_39 (nb rfl) (nb rfl) (Nat.le_refl _) dX1_smallestAt_135 rfl ?_
    refine v_istore (q := 140) C dX1_smallestAt_138 rfl (nb rfl) (L' := [some (.inr 233), none, some (.inl x2), some (.inr x3), some (.inl x4), none, none, some (.inl x7), some (.inl x8), some (.inl s0), some (.inl (min (μ 234 (((x2 + 1) * 40) + x4)) (μ 234 ((x8 * 40) + x4)))), none, none]) rfl ?_
    exact (w_X1_smallestAt_140  C hR  hx3 h)
theorem w_X1_smallestAt_53 {X : ZX} (C : zC X cX1_smallestAt RX1 13 (some .int) 1 40 274) {K : Int → ZM → Prop} (hR : zRi X cX1_smallestAt (some .int) 274 (KN (KI K)))  {x1 : Int} {x2 : Int} {x3 : Int} {x4 : Int} {x5 : Int} {s0 : Int} {μ : ZM}  (hx1 : z_tm x1) (hx3 : z_tm x3) (h : P_X1_smallestAt_53   x1 x2 x3 x4 x5 s0 μ K) : zV X 53 [some (.inr 233), some (.inr x1), some (.inl x2), some (.inr x3), some (.inl x4), some (.inl x5), none, none, none, none, none, none, none] [.inl s0] 274 (z_ov μ) := by
  refine v_istore (q := 55) C dX1_smallestAt_53 rfl (nb rfl) (L' := [some (.inr 233), some (.inr x1), some (.inl x2), some (.inr x3), some (.inl x4), some (.inl x5), none, some (.inl s0), none, none, none, none, none]) rfl ?_
  refine v_iload (q := 57) C dX1_smallestAt_55 rfl rfl ?_
  refine v_iloadn (q := 58) C dX1_smallestAt_57 rfl rfl ?_
  refine v_iconst (q := 59) C dX1_smallestAt_58 rfl (by decide) ?_
  refine u_iadd (q := 60) C dX1_smallestAt_59 rfl h (fun h => ?_)
  refine v_icmp_gt (q := 63) (tgt := 75) C dX1_smallestAt_60 rfl rfl h (fun h => ?_) (fun h => ?_)
  · refine v_aloadn (q := 76) C dX1_smallestAt_75 rfl rfl ?_
    refine u_getR (v := x1 + 2) (q := 79) C kl10 fl_X1_33 (ob_tm hx1) (pt_end hx1) (by omega) rfl rfl dX1_smallestAt_76 rfl ?_
    refine v_iloadn (q := 80) C dX1_smallestAt_79 rfl rfl ?_
    refine v_iconst (q := 81) C dX1_smallestAt_80 rfl (by decide) ?_
    refine u_iadd (q := 82) C dX1_smallestAt_81 rfl h (fun h => ?_)
    refine u_iald (q := 83) C (ia_end hx1) dX1_smallestAt_82 rfl h (fun h => ?_)
    refine v_istore (q := 85) C dX1_smallestAt_83 rfl (nb rfl) (L' := [some (.inr 233), some (.inr x1), some (.inl x2), some (.inr x3), some (.inl x4), some (.inl x5), none, some (.inl s0), some (.inl (μ (x1 + 2) (x2 + 1))), none, none, none, none]) rfl ?_
    refine v_iload (q := 87) C dX1_smallestAt_85 rfl rfl ?_
    refine v_iload (q := 89) C dX1_smallestAt_87 rfl rfl ?_
    refine v_icmp_ge (q := 92) (tgt := 96) C dX1_smallestAt_89 rfl rfl h (fun h => ?_) (fun h => ?_)
    · refine v_iconst (q := 97) C dX1_smallestAt_96 rfl (by decide) ?_
      exact v_mask [true, false, true, true, true, false, false, true, true, false, false, false, false] rfl (w_X1_smallestAt_97  C hR  hx3 h)
    · refine v_iconst (q := 93) C dX1_smallestAt_92 rfl (by decide) ?_
      refine v_goto (q := 97) C dX1_smallestAt_93 rfl ?_
      exact v_mask [true, false, true, true, true, false, false, true, true, false, false, false, false] rfl (w_X1_smallestAt_97  C hR  hx3 h)
  · refine v_iload (q := 65) C dX1_smallestAt_63 rfl rfl ?_
    refine v_if_eq (q := 68) (tgt := 72) C dX1_smallestAt_65 rfl rfl h (fun h => ?_) (fun h => ?_)
    · refine v_ldc (q := 74) C kc_X1_32 dX1_smallestAt_72 rfl (by decide) ?_
      exact u_iret hR dX1_smallestAt_74 h
    · refine v_iconst (q := 69) C dX1_smallestAt_68 rfl (by decide) ?_
      refine v_goto (q := 74) C dX1_smallestAt_69 rfl ?_
      exact u_iret hR dX1_smallestAt_74 h
theorem c_X1_smallestAt {x1 : Int} {x2 : Int} {x3 : Int} {x4 : Int} {μ : ZM} {K : Int → ZM → Prop} (h : P_X1_smallestAt  x1 x2 x3 x4 μ K) : zMu yX1_smallestAt cX1_smallestAt 13 (some .int) 1 40 [.inr 233, .inr x1, .inl x2, .inr x3, .inl x4] μ (KI K) := by
  refine zMet_of (L0 := [some (.inr 233), some (.inr x1), some (.inl x2), some (.inr x3), some (.inl x4), none, none, none, none, none, none, none, none]) sy_X1_smallestAt rfl (nb rfl) (Nat.le_refl _) (fun X C _ hR _ _ => ?_)
  have C : zC X cX1_smallestAt RX1 13 (some .int) 1 40 274 := C
  have hx1 := h.1
  replace h := h.2
  have hx3 := h.1
  replace h := h.2
  refine v_aloadn (q := 1) C dX1_smallestAt_0 rfl rfl ?_
  refine u_getR (v := x1 + 2) (q := 4) C kl10 fl_X1_33 (ob_tm hx1) (pt_end hx1) (by omega) rfl rfl dX1_smallestAt_1 rfl ?_
  refine v_iloadn (q := 5) C dX1_smallestAt_4 rfl rfl ?_
  refine u_iald (q := 6) C (ia_end hx1) dX1_smallestAt_5 rfl h (fun h => ?_)
  refine v_istore (q := 8) C dX1_smallestAt_6 rfl (nb rfl) (L' := [some (.inr 233), some (.inr x1), some (.inl x2), some (.inr x3), some (.inl x4), some (.inl (μ (x1 + 2) x2)), none, none, none, none, none, none, none]) rfl ?_
  refine v_aloadn (q := 9) C dX1_smallestAt_8 rfl rfl ?_
  refine u_getR (v := x3 + 2) (q := 12) C kl10 fl_X1_33 (ob_tm hx3) (pt_end hx3) (by omega) rfl rfl dX1_smallestAt_9 rfl ?_
  refine v_iload (q := 14) C dX1_smallestAt_12 rfl rfl ?_
  refine u_iald (q := 15) C (ia_end hx3) dX1_smallestAt_14 rfl h (fun h => ?_)
  refine v_istore (q := 17) C dX1_smallestAt_15 rfl (nb rfl) (L' := [some (.inr 233), some (.inr x1), some (.inl x2), some (.inr x3), some (.inl x4), some (.inl (μ (x1 + 2) x2)), some (.inl (μ (x3 + 2) x4)), none, none, none, none, none, none]) rfl ?_
  refine v_iload (q := 19) C dX1_smallestAt_17 rfl rfl ?_
  refine v_iloadn (q := 20) C dX1_smallestAt_19 rfl rfl ?_
  refine u_isub (q := 21) C dX1_smallestAt_20 rfl h (fun h => ?_)
  refine v_iload (q := 23) C dX1_smallestAt_21 rfl rfl ?_
  refine v_iload (q := 25) C dX1_smallestAt_23 rfl rfl ?_
  refine u_isub (q := 26) C dX1_smallestAt_25 rfl h (fun h => ?_)
  refine v_icmp_ge (q := 29) (tgt := 32) C dX1_smallestAt_26 rfl rfl h (fun h => ?_) (fun h => ?_)
  · refine v_aloadn (q := 33) C dX1_smallestAt_32 rfl rfl ?_
    refine u_getR (v := x1 + 1) (q := 36) C kl10 fl_X1_36 (ob_tm hx1) (pt_code hx1) (by omega) rfl rfl dX1_smallestAt_33 rfl ?_
    refine v_iloadn (q := 37) C dX1_smallestAt_36 rfl rfl ?_
    refine u_iald (q := 38) C (ia_code hx1) dX1_smallestAt_37 rfl h (fun h => ?_)
    refine v_aloadn (q := 39) C dX1_smallestAt_38 rfl rfl ?_
    refine u_getR (v := x3 + 1) (q := 42) C kl10 fl_X1_36 (ob_tm hx3) (pt_code hx3) (by omega) rfl rfl dX1_smallestAt_39 rfl ?_
    refine v_iload (q := 44) C dX1_smallestAt_42 rfl rfl ?_
    refine u_iald (q := 45) C (ia_code hx3) dX1_smallestAt_44 rfl h (fun h => ?_)
    refine v_icmp_ne (q := 48) (tgt := 52) C dX1_smallestAt_45 rfl rfl h (fun h => ?_) (fun h => ?_)
    · refine v_iconst (q := 49) C dX1_smallestAt_48 rfl (by decide) ?_
      refine v_goto (q := 53) C dX1_smallestAt_49 rfl ?_
      exact v_mask [true, true, true, true, true, true, false, false, false, false, false, false, false] rfl (w_X1_smallestAt_53  C hR  hx1 hx3 h)
    · refine v_iconst (q := 53) C dX1_smallestAt_52 rfl (by decide) ?_
      exact v_mask [true, true, true, true, true, true, false, false, false, false, false, false, false] rfl (w_X1_smallestAt_53  C hR  hx1 hx3 h)
  · refine v_ldc (q := 31) C kc_X1_32 dX1_smallestAt_29 rfl (by decide) ?_
    exact u_iret hR dX1_smallestAt_31 h
theorem w_X1_smallest_46 {X : ZX} (C : zC X cX1_smallest RX1 5 (some .int) 2 72 274) {K : Int → ZM → Prop} (hR : zRi X cX1_smallest (some .int) 274 (KN (KI K)))  {x1 : Int} {x2 : Int} {x3 : Int} {x4 : Int} {μ : ZM} {G34 : Int → ZM → Prop} (hG34 : ∀ (x3 : Int) (μ : ZM), G34 x3 μ → zV X 34 [some (.inr 233), some (.inr x1), some (.inr x2), some (.inl x3), none] [] 274 (z_ov μ)) (hx1 : z_tm x1) (hx2 : z_tm x2) (h : P_X1_smallest_46  G34 x1 x2 x3 x4 μ K) : zV X 46 [some (.inr 233), some (.inr x1), some (.inr x2), some (.inl x3), some (.inl x4)] [] 274 (z_ov μ) := by
  refine h (fun x4 μ => zV X 46 [some (.inr 233), some (.inr x1), some (.inr x2), some (.inl x3), some (.inl x4)] [] 274 (z_ov μ)) (fun x4 μ h => ?_)
  refine v_iload (q := 48) C dX1_smallest_46 rfl rfl ?_
  refine v_if_lt (q := 51) (tgt := 78) C dX1_smallest_48 rfl rfl h (fun h => ?_) (fun h => ?_)
  · refine u_iinc (q := 81) C dX1_smallest_78 rfl (nb rfl) rfl (L' := [some (.inr 233), some (.inr x1), some (.inr x2), some (.inl (x3 + (-1))), some (.inl x4)]) rfl h (fun h => ?_)
    refine v_goto (q := 34) C dX1_smallest_81 rfl ?_
    exact v_mask [true, true, true, true, false] rfl (hG34 _ _ h)
  · refine v_aloadn (q := 52) C dX1_smallest_51 rfl rfl ?_
    refine u_getR (q := 55) C kl1 fl_X1_9 ob_233 pt_233_0 (by decide) rfl rfl dX1_smallest_52 rfl ?_
    refine v_iloadn (q := 56) C dX1_smallest_55 rfl rfl ?_
    refine v_bipush (q := 58) C dX1_smallest_56 rfl (by decide) ?_
    refine u_imul (q := 59) C dX1_smallest_58 rfl h (fun h => ?_)
    refine v_iload (q := 61) C dX1_smallest_59 rfl rfl ?_
    refine u_iadd (q := 62) C dX1_smallest_61 rfl h (fun h => ?_)
    refine v_aloadn (q := 63) C dX1_smallest_62 rfl rfl ?_
    refine v_aloadn (q := 64) C dX1_smallest_63 rfl rfl ?_
    refine v_iloadn (q := 65) C dX1_smallest_64 rfl rfl ?_
    refine v_aloadn (q := 66) C dX1_smallest_65 rfl rfl ?_
    refine v_iload (q := 68) C dX1_smallest_66 rfl rfl ?_
    refine u_cVi4 (q := 71) C (c_X1_smallestAt h) sy_X1_smallestAt si_X1_smallestAt ml_X1_28 ob_233 (by decide) so_X1_smallestAt ⟨nb rfl, nb rfl⟩ (nb rfl) dX1_smallest_68 rfl (fun r3 μ2 h => ?_)
    refine u_iast (q := 72) C ia_234 dX1_smallest_71 rfl h (fun μ4 h => ?_)
    refine u_iinc (q := 75) C dX1_smallest_72 rfl (nb rfl) rfl (L' := [some (.inr 233), some (.inr x1), some (.inr x2), some (.inl x3), some (.inl (x4 + (-1)))]) rfl h (fun h => ?_)
    refine v_goto (q := 46) C dX1_smallest_75 rfl ?_
    exact h
theorem w_X1_smallest_34 {X : ZX} (C : zC X cX1_smallest RX1 5 (some .int) 2 72 274) {K : Int → ZM → Prop} (hR : zRi X cX1_smallest (some .int) 274 (KN (KI K)))  {x1 : Int} {x2 : Int} {x3 : Int} {μ : ZM}  (hx1 : z_tm x1) (hx2 : z_tm x2) (h : P_X1_smallest_34   x1 x2 x3 μ K) : zV X 34 [some (.inr 233), some (.inr x1), some (.inr x2), some (.inl x3), none] [] 274 (z_ov μ) := by
  refine h (fun x3 μ => zV X 34 [some (.inr 233), some (.inr x1), some (.inr x2), some (.inl x3), none] [] 274 (z_ov μ)) (fun x3 μ h => ?_)
  refine v_iloadn (q := 35) C dX1_smallest_34 rfl rfl ?_
  refine v_if_lt (q := 38) (tgt := 84) C dX1_smallest_35 rfl rfl h (fun h => ?_) (fun h => ?_)
  · refine v_aloadn (q := 85) C dX1_smallest_84 rfl rfl ?_
    refine u_getR (q := 88) C kl1 fl_X1_9 ob_233 pt_233_0 (by decide) rfl rfl dX1_smallest_85 rfl ?_
    refine v_iconst (q := 89) C dX1_smallest_88 rfl (by decide) ?_
    refine u_iald (q := 90) C ia_234 dX1_smallest_89 rfl h (fun h => ?_)
    refine v_ldc (q := 92) C kc_X1_32 dX1_smallest_90 rfl (by decide) ?_
    refine v_icmp_lt (q := 95) (tgt := 100) C dX1_smallest_92 rfl rfl h (fun h => ?_) (fun h => ?_)
    · refine v_aloadn (q := 101) C dX1_smallest_100 rfl rfl ?_
      refine u_getR (q := 104) C kl1 fl_X1_9 ob_233 pt_233_0 (by decide) rfl rfl dX1_smallest_101 rfl ?_
      refine v_iconst (q := 105) C dX1_smallest_104 rfl (by decide) ?_
      refine u_iald (q := 106) C ia_234 dX1_smallest_105 rfl h (fun h => ?_)
      exact u_iret hR dX1_smallest_106 h
    · refine v_bipush (q := 97) C dX1_smallest_95 rfl (by decide) ?_
      refine v_goto (q := 106) C dX1_smallest_97 rfl ?_
      exact u_iret hR dX1_smallest_106 h
  · refine v_aloadn (q := 39) C dX1_smallest_38 rfl rfl ?_
    refine u_getI (q := 42) C kl10 fl_X1_18 (ob_tm hx2) (pt_size hx2) rfl rfl dX1_smallest_39 rfl ?_
    refine v_iconst (q := 43) C dX1_smallest_42 rfl (by decide) ?_
    refine u_isub (q := 44) C dX1_smallest_43 rfl h (fun h => ?_)
    refine v_istore (q := 46) C dX1_smallest_44 rfl (nb rfl) (L' := [some (.inr 233), some (.inr x1), some (.inr x2), some (.inl x3), some (.inl ((μ x2 2) - 1))]) rfl ?_
    exact (w_X1_smallest_46  C hR (fun _ _ h => h) hx1 hx2 h)
theorem c_X1_smallest {x1 : Int} {x2 : Int} {μ : ZM} {K : Int → ZM → Prop} (h : P_X1_smallest  x1 x2 μ K) : zMu yX1_smallest cX1_smallest 5 (some .int) 2 72 [.inr 233, .inr x1, .inr x2] μ (KI K) := by
  refine zMet_of (L0 := [some (.inr 233), some (.inr x1), some (.inr x2), none, none]) sy_X1_smallest rfl (nb rfl) (Nat.le_refl _) (fun X C _ hR _ _ => ?_)
  have C : zC X cX1_smallest RX1 5 (some .int) 2 72 274 := C
  have hx1 := h.1
  replace h := h.2
  have hx2 := h.1
  replace h := h.2
  refine v_aloadn (q := 1) C dX1_smallest_0 rfl rfl ?_
  refine u_getI (q := 4) C kl10 fl_X1_18 (ob_tm hx2) (pt_size hx2) rfl rfl dX1_smallest_1 rfl ?_
  refine v_iconst (q := 5) C dX1_smallest_4 rfl (by decide) ?_
  refine v_icmp_lt (q := 8) (tgt := 19) C dX1_smallest_5 rfl rfl h (fun h => ?_) (fun h => ?_)
  · refine v_bipush (q := 21) C dX1_smallest_19 rfl (by decide) ?_
    exact u_iret hR dX1_smallest_21 h
  · refine v_aloadn (q := 9) C dX1_smallest_8 rfl rfl ?_
    refine u_getI (q := 12) C kl10 fl_X1_18 (ob_tm hx1) (pt_size hx1) rfl rfl dX1_smallest_9 rfl ?_
    refine v_aloadn (q := 13) C dX1_smallest_12 rfl rfl ?_
    refine u_getI (q := 16) C kl10 fl_X1_18 (ob_tm hx2) (pt_size hx2) rfl rfl dX1_smallest_13 rfl ?_
    refine v_icmp_ge (q := 19) (tgt := 22) C dX1_smallest_16 rfl rfl h (fun h => ?_) (fun h => ?_)
    · refine v_aloadn (q := 23) C dX1_smallest_22 rfl rfl ?_
      refine v_aloadn (q := 24) C dX1_smallest_23 rfl rfl ?_
      refine u_cVv1 (q := 27) C (c_X1_findDepths h) sy_X1_findDepths si_X1_findDepths ml_X1_24 ob_233 (by decide) so_X1_findDepths ⟨nb rfl, nb rfl⟩ (nb rfl) dX1_smallest_24 rfl (fun μ1 h => ?_)
      refine v_aloadn (q := 28) C dX1_smallest_27 rfl rfl ?_
      refine u_getI (q := 31) C kl10 fl_X1_18 (ob_tm hx1) (pt_size hx1) rfl rfl dX1_smallest_28 rfl ?_
      refine v_iconst (q := 32) C dX1_smallest_31 rfl (by decide) ?_
      refine u_isub (q := 33) C dX1_smallest_32 rfl h (fun h => ?_)
      refine v_istoren (q := 34) C dX1_smallest_33 rfl (nb rfl) (L' := [some (.inr 233), some (.inr x1), some (.inr x2), some (.inl ((μ1 x1 2) - 1)), none]) rfl ?_
      exact (w_X1_smallest_34  C hR  hx1 hx2 h)
    · refine v_bipush (q := 21) C dX1_smallest_19 rfl (by decide) ?_
      exact u_iret hR dX1_smallest_21 h
theorem w_X2_call_128 {X : ZX} (C : zC X cX2_call RX2 6 (some .boolean) 1 40 274) {K : Int → ZM → Prop} (hR : zRi X cX2_call (some .boolean) 274 (KN (KI K)))  {x2 : Int} {x4 : Int} {s1 : Int} {s2 : Int} {μ : ZM}   (h : P_X2_call_128   x2 x4 s1 s2 μ K) : zV X 128 [some (.inr 215), none, some (.inl x2), none, some (.inl x4), none] [.inl s2, .inl s1, .inr 210] 274 (z_ov μ) := by
  refine u_iadd (q := 129) C dX2_call_128 rfl h (fun h => ?_)
  have hb3 := h.1
  refine u_fald (v := 115 + 3 * (s1 + s2)) (q := 130) C fa_210 (Or.inl rfl) dX2_call_129 rfl h (fun h9 => ⟨fe_210 h9, by omega⟩) (fun h => ?_)
  have hf4 : z_tm (115 + 3 * (s1 + s2)) := by omega
  refine v_astore (q := 132) C dX2_call_130 rfl (nb rfl) (L' := [some (.inr 215), none, some (.inl x2), none, some (.inl x4), some (.inr (115 + 3 * (s1 + s2)))]) rfl ?_
  refine v_aloadn (q := 133) C dX2_call_132 rfl rfl ?_
  refine v_dup (q := 134) C dX2_call_133 rfl ?_
  refine u_getI (q := 137) C kl2 fl_X2_65 ob_215 pt_215_8 rfl rfl dX2_call_134 rfl ?_
  refine v_iconst (q := 138) C dX2_call_137 rfl (by decide) ?_
  refine u_iadd (q := 139) C dX2_call_138 rfl h (fun h => ?_)
  refine u_put (q := 142) C kl2 fl_X2_65 ob_215 pt_215_8 rfl rfl rfl rfl dX2_call_139 rfl h (fun μ5 h => ?_)
  refine v_aloadn (q := 143) C dX2_call_142 rfl rfl ?_
  refine u_getR (q := 146) C kl2 fl_X2_17 ob_215 pt_215_3 (by decide) rfl rfl dX2_call_143 rfl ?_
  refine v_aloadn (q := 147) C dX2_call_146 rfl rfl ?_
  refine u_getI (q := 150) C kl2 fl_X2_65 ob_215 pt_215_8 rfl rfl dX2_call_147 rfl ?_
  refine v_aload (q := 152) C dX2_call_150 rfl rfl ?_
  refine u_aast (q := 153) C ra_217 hf4 dX2_call_152 rfl h (fun μ6 h => ?_)
  refine v_aloadn (q := 154) C dX2_call_153 rfl rfl ?_
  refine u_getR (q := 157) C kl2 fl_X2_21 ob_215 pt_215_4 (by decide) rfl rfl dX2_call_154 rfl ?_
  refine v_aloadn (q := 158) C dX2_call_157 rfl rfl ?_
  refine u_getI (q := 161) C kl2 fl_X2_65 ob_215 pt_215_8 rfl rfl dX2_call_158 rfl ?_
  refine v_aload (q := 163) C dX2_call_161 rfl rfl ?_
  refine u_getI (q := 166) C kl10 fl_X2_68 (ob_tm hf4) (pt_size hf4) rfl rfl dX2_call_163 rfl ?_
  refine u_iast (q := 167) C ia_218 dX2_call_166 rfl h (fun μ7 h => ?_)
  refine v_aloadn (q := 168) C dX2_call_167 rfl rfl ?_
  refine u_getR (q := 171) C kl2 fl_X2_24 ob_215 pt_215_5 (by decide) rfl rfl dX2_call_168 rfl ?_
  refine v_aloadn (q := 172) C dX2_call_171 rfl rfl ?_
  refine u_getI (q := 175) C kl2 fl_X2_65 ob_215 pt_215_8 rfl rfl dX2_call_172 rfl ?_
  refine v_iload (q := 177) C dX2_call_175 rfl rfl ?_
  refine v_iloadn (q := 178) C dX2_call_177 rfl rfl ?_
  refine u_isub (q := 179) C dX2_call_178 rfl h (fun h => ?_)
  refine u_iast (q := 180) C ia_219 dX2_call_179 rfl h (fun μ8 h => ?_)
  refine v_aloadn (q := 181) C dX2_call_180 rfl rfl ?_
  refine u_getR (q := 184) C kl2 fl_X2_27 ob_215 pt_215_6 (by decide) rfl rfl dX2_call_181 rfl ?_
  refine v_aloadn (q := 185) C dX2_call_184 rfl rfl ?_
  refine u_getI (q := 188) C kl2 fl_X2_65 ob_215 pt_215_8 rfl rfl dX2_call_185 rfl ?_
  refine v_aloadn (q := 189) C dX2_call_188 rfl rfl ?_
  refine u_getR (q := 192) C kl2 fl_X2_30 ob_215 pt_215_7 (by decide) rfl rfl dX2_call_189 rfl ?_
  refine v_aloadn (q := 193) C dX2_call_192 rfl rfl ?_
  refine u_getI (q := 196) C kl2 fl_X2_62 ob_215 pt_215_9 rfl rfl dX2_call_193 rfl ?_
  refine u_iald (q := 197) C ia_221 dX2_call_196 rfl h (fun h => ?_)
  refine u_iast (q := 198) C ia_220 dX2_call_197 rfl h (fun μ9 h => ?_)
  refine v_iconst (q := 199) C dX2_call_198 rfl (by decide) ?_
  exact u_zret hR dX2_call_199 h
theorem c_X2_call {x1 : Int} {μ : ZM} {K : Int → ZM → Prop} (h : P_X2_call  x1 μ K) : zMu yX2_call cX2_call 6 (some .boolean) 1 40 [.inr 215, .inl x1] μ (KI K) := by
  refine zMet_of (L0 := [some (.inr 215), some (.inl x1), none, none, none, none]) sy_X2_call rfl (nb rfl) (Nat.le_refl _) (fun X C _ hR _ _ => ?_)
  have C : zC X cX2_call RX2 6 (some .boolean) 1 40 274 := C
  refine v_iloadn (q := 1) C dX2_call_0 rfl rfl ?_
  refine v_if_lt (q := 4) (tgt := 35) C dX2_call_1 rfl rfl h (fun h => ?_) (fun h => ?_)
  · refine v_iconst (q := 36) C dX2_call_35 rfl (by decide) ?_
    exact u_zret hR dX2_call_36 h
  · refine v_iloadn (q := 5) C dX2_call_4 rfl rfl ?_
    refine v_aloadn (q := 6) C dX2_call_5 rfl rfl ?_
    refine u_getR (q := 9) C kl2 fl_X2_33 ob_215 pt_215_0 (by decide) rfl rfl dX2_call_6 rfl ?_
    refine u_getI (q := 12) C kl3 fl_X2_84 ob_207 pt_207_4 rfl rfl dX2_call_9 rfl ?_
    refine v_icmp_ge (q := 15) (tgt := 35) C dX2_call_12 rfl rfl h (fun h => ?_) (fun h => ?_)
    · refine v_iconst (q := 36) C dX2_call_35 rfl (by decide) ?_
      exact u_zret hR dX2_call_36 h
    · refine v_aloadn (q := 16) C dX2_call_15 rfl rfl ?_
      refine u_getI (q := 19) C kl2 fl_X2_58 ob_215 pt_215_2 rfl rfl dX2_call_16 rfl ?_
      refine v_bipush (q := 21) C dX2_call_19 rfl (by decide) ?_
      refine v_icmp_ge (q := 24) (tgt := 35) C dX2_call_21 rfl rfl h (fun h => ?_) (fun h => ?_)
      · refine v_iconst (q := 36) C dX2_call_35 rfl (by decide) ?_
        exact u_zret hR dX2_call_36 h
      · refine v_aloadn (q := 25) C dX2_call_24 rfl rfl ?_
        refine u_getI (q := 28) C kl2 fl_X2_65 ob_215 pt_215_8 rfl rfl dX2_call_25 rfl ?_
        refine v_iconst (q := 29) C dX2_call_28 rfl (by decide) ?_
        refine u_iadd (q := 30) C dX2_call_29 rfl h (fun h => ?_)
        refine v_bipush (q := 32) C dX2_call_30 rfl (by decide) ?_
        refine v_icmp_lt (q := 35) (tgt := 37) C dX2_call_32 rfl rfl h (fun h => ?_) (fun h => ?_)
        · refine v_aloadn (q := 38) C dX2_call_37 rfl rfl ?_
          refine u_getR (q := 41) C kl2 fl_X2_33 ob_215 pt_215_0 (by decide) rfl rfl dX2_call_38 rfl ?_
          refine u_getR (q := 44) C kl3 fl_X2_89 ob_207 pt_207_1 (by decide) rfl rfl dX2_call_41 rfl ?_
          refine v_iloadn (q := 45) C dX2_call_44 rfl rfl ?_
          refine u_iald (q := 46) C ia_209 dX2_call_45 rfl h (fun h => ?_)
          refine v_istoren (q := 47) C dX2_call_46 rfl (nb rfl) (L' := [some (.inr 215), some (.inl x1), some (.inl (μ 209 x1)), none, none, none]) rfl ?_
          refine v_aloadn (q := 48) C dX2_call_47 rfl rfl ?_
          refine u_getR (q := 51) C kl2 fl_X2_33 ob_215 pt_215_0 (by decide) rfl rfl dX2_call_48 rfl ?_
          refine u_getR (q := 54) C kl3 fl_X2_92 ob_207 pt_207_0 (by decide) rfl rfl dX2_call_51 rfl ?_
          refine v_iloadn (q := 55) C dX2_call_54 rfl rfl ?_
          refine u_iald (q := 56) C ia_208 dX2_call_55 rfl h (fun h => ?_)
          refine v_istoren (q := 57) C dX2_call_56 rfl (nb rfl) (L' := [some (.inr 215), some (.inl x1), some (.inl (μ 209 x1)), some (.inl (μ 208 x1)), none, none]) rfl ?_
          refine v_aloadn (q := 58) C dX2_call_57 rfl rfl ?_
          refine u_getI (q := 61) C kl2 fl_X2_62 ob_215 pt_215_9 rfl rfl dX2_call_58 rfl ?_
          refine v_iloadn (q := 62) C dX2_call_61 rfl rfl ?_
          refine v_icmp_ge (q := 65) (tgt := 67) C dX2_call_62 rfl rfl h (fun h => ?_) (fun h => ?_)
          · refine v_aloadn (q := 68) C dX2_call_67 rfl rfl ?_
            refine v_dup (q := 69) C dX2_call_68 rfl ?_
            refine u_getI (q := 72) C kl2 fl_X2_58 ob_215 pt_215_2 rfl rfl dX2_call_69 rfl ?_
            refine v_iconst (q := 73) C dX2_call_72 rfl (by decide) ?_
            refine u_iadd (q := 74) C dX2_call_73 rfl h (fun h => ?_)
            refine u_put (q := 77) C kl2 fl_X2_58 ob_215 pt_215_2 rfl rfl rfl rfl dX2_call_74 rfl h (fun μ1 h => ?_)
            refine v_aloadn (q := 78) C dX2_call_77 rfl rfl ?_
            refine v_dup (q := 79) C dX2_call_78 rfl ?_
            refine u_getI (q := 82) C kl2 fl_X2_62 ob_215 pt_215_9 rfl rfl dX2_call_79 rfl ?_
            refine v_iloadn (q := 83) C dX2_call_82 rfl rfl ?_
            refine u_isub (q := 84) C dX2_call_83 rfl h (fun h => ?_)
            refine u_put (q := 87) C kl2 fl_X2_62 ob_215 pt_215_9 rfl rfl rfl rfl dX2_call_84 rfl h (fun μ2 h => ?_)
            refine v_aloadn (q := 88) C dX2_call_87 rfl rfl ?_
            refine u_getR (q := 91) C kl2 fl_X2_30 ob_215 pt_215_7 (by decide) rfl rfl dX2_call_88 rfl ?_
            refine v_aloadn (q := 92) C dX2_call_91 rfl rfl ?_
            refine u_getI (q := 95) C kl2 fl_X2_62 ob_215 pt_215_9 rfl rfl dX2_call_92 rfl ?_
            refine v_iloadn (q := 96) C dX2_call_95 rfl rfl ?_
            refine u_iadd (q := 97) C dX2_call_96 rfl h (fun h => ?_)
            refine v_iconst (q := 98) C dX2_call_97 rfl (by decide) ?_
            refine u_isub (q := 99) C dX2_call_98 rfl h (fun h => ?_)
            refine u_iald (q := 100) C ia_221 dX2_call_99 rfl h (fun h => ?_)
            refine v_istore (q := 102) C dX2_call_100 rfl (nb rfl) (L' := [some (.inr 215), some (.inl x1), some (.inl (μ 209 x1)), some (.inl (μ 208 x1)), some (.inl (μ2 221 (((μ2 215 9) + (μ 208 x1)) - 1))), none]) rfl ?_
            refine v_aloadn (q := 103) C dX2_call_102 rfl rfl ?_
            refine u_getR (q := 106) C kl2 fl_X2_33 ob_215 pt_215_0 (by decide) rfl rfl dX2_call_103 rfl ?_
            refine u_getR (q := 109) C kl3 fl_X2_95 ob_207 pt_207_2 (by decide) rfl rfl dX2_call_106 rfl ?_
            refine v_iloadn (q := 110) C dX2_call_109 rfl rfl ?_
            refine v_iconst (q := 111) C dX2_call_110 rfl (by decide) ?_
            refine u_imul (q := 112) C dX2_call_111 rfl h (fun h => ?_)
            refine v_iload (q := 114) C dX2_call_112 rfl rfl ?_
            refine v_iloadn (q := 115) C dX2_call_114 rfl rfl ?_
            refine v_icmp_lt (q := 118) (tgt := 122) C dX2_call_115 rfl rfl h (fun h => ?_) (fun h => ?_)
            · refine v_iload (q := 124) C dX2_call_122 rfl rfl ?_
              refine v_iconst (q := 125) C dX2_call_124 rfl (by decide) ?_
              refine v_max (q := 128) C ml_X2_98 (nb rfl) (nb rfl) (Nat.le_refl _) dX2_call_125 rfl ?_
              exact v_mask [true, false, true, false, true, false] rfl (w_X2_call_128  C hR   h)
            · refine v_iconst (q := 119) C dX2_call_118 rfl (by decide) ?_
              refine v_goto (q := 128) C dX2_call_119 rfl ?_
              exact v_mask [true, false, true, false, true, false] rfl (w_X2_call_128  C hR   h)
          · refine v_iconst (q := 66) C dX2_call_65 rfl (by decide) ?_
            exact u_zret hR dX2_call_66 h
        · refine v_iconst (q := 36) C dX2_call_35 rfl (by decide) ?_
          exact u_zret hR dX2_call_36 h
theorem w_X2_take_161 {X : ZX} (C : zC X cX2_take RX2 3 (some .boolean) 0 0 274) {K : Int → ZM → Prop} (hR : zRi X cX2_take (some .boolean) 274 (KN (KI K)))   {μ : ZM}   (h : P_X2_take_161    μ K) : zV X 161 [some (.inr 215), none, none] [] 274 (z_ov μ) := by
  refine v_aloadn (q := 162) C dX2_take_161 rfl rfl ?_
  refine v_dup (q := 163) C dX2_take_162 rfl ?_
  refine u_getI (q := 166) C kl2 fl_X2_62 ob_215 pt_215_9 rfl rfl dX2_take_163 rfl ?_
  refine v_iconst (q := 167) C dX2_take_166 rfl (by decide) ?_
  refine u_iadd (q := 168) C dX2_take_167 rfl h (fun h => ?_)
  refine u_put (q := 171) C kl2 fl_X2_62 ob_215 pt_215_9 rfl rfl rfl rfl dX2_take_168 rfl h (fun μ3 h => ?_)
  refine v_iconst (q := 172) C dX2_take_171 rfl (by decide) ?_
  exact u_zret hR dX2_take_172 h
theorem c_X2_take {x1 : Int} {x2 : Int} {μ : ZM} {K : Int → ZM → Prop} (h : P_X2_take  x1 x2 μ K) : zMu yX2_take cX2_take 3 (some .boolean) 0 0 [.inr 215, .inl x1, .inl x2] μ (KI K) := by
  refine zMet_of (L0 := [some (.inr 215), some (.inl x1), some (.inl x2)]) sy_X2_take rfl (nb rfl) (Nat.le_refl _) (fun X C _ hR _ _ => ?_)
  have C : zC X cX2_take RX2 3 (some .boolean) 0 0 274 := C
  refine v_iloadn (q := 1) C dX2_take_0 rfl rfl ?_
  refine v_bipush (q := 3) C dX2_take_1 rfl (by decide) ?_
  refine v_icmp_ne (q := 6) (tgt := 49) C dX2_take_3 rfl rfl h (fun h => ?_) (fun h => ?_)
  · refine v_aloadn (q := 7) C dX2_take_6 rfl rfl ?_
    refine u_getI (q := 10) C kl2 fl_X2_62 ob_215 pt_215_9 rfl rfl dX2_take_7 rfl ?_
    refine v_iconst (q := 11) C dX2_take_10 rfl (by decide) ?_
    refine v_icmp_lt (q := 14) (tgt := 30) C dX2_take_11 rfl rfl h (fun h => ?_) (fun h => ?_)
    · refine v_iconst (q := 31) C dX2_take_30 rfl (by decide) ?_
      exact u_zret hR dX2_take_31 h
    · refine v_aloadn (q := 15) C dX2_take_14 rfl rfl ?_
      refine u_getR (q := 18) C kl2 fl_X2_30 ob_215 pt_215_7 (by decide) rfl rfl dX2_take_15 rfl ?_
      refine v_aloadn (q := 19) C dX2_take_18 rfl rfl ?_
      refine u_getI (q := 22) C kl2 fl_X2_62 ob_215 pt_215_9 rfl rfl dX2_take_19 rfl ?_
      refine v_iconst (q := 23) C dX2_take_22 rfl (by decide) ?_
      refine u_isub (q := 24) C dX2_take_23 rfl h (fun h => ?_)
      refine u_iald (q := 25) C ia_221 dX2_take_24 rfl h (fun h => ?_)
      refine v_bipush (q := 27) C dX2_take_25 rfl (by decide) ?_
      refine v_icmp_lt (q := 30) (tgt := 32) C dX2_take_27 rfl rfl h (fun h => ?_) (fun h => ?_)
      · refine v_aloadn (q := 33) C dX2_take_32 rfl rfl ?_
        refine u_getR (q := 36) C kl2 fl_X2_30 ob_215 pt_215_7 (by decide) rfl rfl dX2_take_33 rfl ?_
        refine v_aloadn (q := 37) C dX2_take_36 rfl rfl ?_
        refine u_getI (q := 40) C kl2 fl_X2_62 ob_215 pt_215_9 rfl rfl dX2_take_37 rfl ?_
        refine v_iconst (q := 41) C dX2_take_40 rfl (by decide) ?_
        refine u_isub (q := 42) C dX2_take_41 rfl h (fun h => ?_)
        refine v_dup2 (q := 43) C dX2_take_42 rfl ?_
        refine u_iald (q := 44) C ia_221 dX2_take_43 rfl h (fun h => ?_)
        refine v_iconst (q := 45) C dX2_take_44 rfl (by decide) ?_
        refine u_iadd (q := 46) C dX2_take_45 rfl h (fun h => ?_)
        refine u_iast (q := 47) C ia_221 dX2_take_46 rfl h (fun μ1 h => ?_)
        refine v_iconst (q := 48) C dX2_take_47 rfl (by decide) ?_
        exact u_zret hR dX2_take_48 h
      · refine v_iconst (q := 31) C dX2_take_30 rfl (by decide) ?_
        exact u_zret hR dX2_take_31 h
  · refine v_aloadn (q := 50) C dX2_take_49 rfl rfl ?_
    refine u_getI (q := 53) C kl2 fl_X2_62 ob_215 pt_215_9 rfl rfl dX2_take_50 rfl ?_
    refine v_if_lt (q := 56) (tgt := 66) C dX2_take_53 rfl rfl h (fun h => ?_) (fun h => ?_)
    · refine v_iconst (q := 67) C dX2_take_66 rfl (by decide) ?_
      exact u_zret hR dX2_take_67 h
    · refine v_aloadn (q := 57) C dX2_take_56 rfl rfl ?_
      refine u_getI (q := 60) C kl2 fl_X2_62 ob_215 pt_215_9 rfl rfl dX2_take_57 rfl ?_
      refine v_sipush (q := 63) C dX2_take_60 rfl (by decide) ?_
      refine v_icmp_lt (q := 66) (tgt := 68) C dX2_take_63 rfl rfl h (fun h => ?_) (fun h => ?_)
      · refine v_iloadn (q := 69) C dX2_take_68 rfl rfl ?_
        by_cases hk0 : x1 = 120
        · replace h := z_ifp h hk0
          refine v_tableIn (off := 27) (tgt := 96) C dX2_take_69 ⟨by omega, by omega⟩ (by rw [hk0]; rfl) rfl ?_
          refine v_aloadn (q := 97) C dX2_take_96 rfl rfl ?_
          refine u_getR (q := 100) C kl2 fl_X2_30 ob_215 pt_215_7 (by decide) rfl rfl dX2_take_97 rfl ?_
          refine v_aloadn (q := 101) C dX2_take_100 rfl rfl ?_
          refine u_getI (q := 104) C kl2 fl_X2_62 ob_215 pt_215_9 rfl rfl dX2_take_101 rfl ?_
          refine v_aloadn (q := 105) C dX2_take_104 rfl rfl ?_
          refine u_getR (q := 108) C kl2 fl_X2_24 ob_215 pt_215_5 (by decide) rfl rfl dX2_take_105 rfl ?_
          refine v_aloadn (q := 109) C dX2_take_108 rfl rfl ?_
          refine u_getI (q := 112) C kl2 fl_X2_65 ob_215 pt_215_8 rfl rfl dX2_take_109 rfl ?_
          refine u_iald (q := 113) C ia_219 dX2_take_112 rfl h (fun h => ?_)
          refine u_iast (q := 114) C ia_221 dX2_take_113 rfl h (fun μ6 h => ?_)
          refine v_goto (q := 161) C dX2_take_114 rfl ?_
          exact v_mask [true, false, false] rfl (w_X2_take_161  C hR   h)
        · replace h := z_ifn h hk0
          by_cases hk1 : x1 = 121
          · replace h := z_ifp h hk1
            refine v_tableIn (off := 48) (tgt := 117) C dX2_take_69 ⟨by omega, by omega⟩ (by rw [hk1]; rfl) rfl ?_
            refine v_aloadn (q := 118) C dX2_take_117 rfl rfl ?_
            refine u_getR (q := 121) C kl2 fl_X2_30 ob_215 pt_215_7 (by decide) rfl rfl dX2_take_118 rfl ?_
            refine v_aloadn (q := 122) C dX2_take_121 rfl rfl ?_
            refine u_getI (q := 125) C kl2 fl_X2_62 ob_215 pt_215_9 rfl rfl dX2_take_122 rfl ?_
            refine v_aloadn (q := 126) C dX2_take_125 rfl rfl ?_
            refine u_getR (q := 129) C kl2 fl_X2_27 ob_215 pt_215_6 (by decide) rfl rfl dX2_take_126 rfl ?_
            refine v_aloadn (q := 130) C dX2_take_129 rfl rfl ?_
            refine u_getI (q := 133) C kl2 fl_X2_65 ob_215 pt_215_8 rfl rfl dX2_take_130 rfl ?_
            refine u_iald (q := 134) C ia_220 dX2_take_133 rfl h (fun h => ?_)
            refine u_iast (q := 135) C ia_221 dX2_take_134 rfl h (fun μ5 h => ?_)
            refine v_goto (q := 161) C dX2_take_135 rfl ?_
            exact v_mask [true, false, false] rfl (w_X2_take_161  C hR   h)
          · replace h := z_ifn h hk1
            by_cases hk2 : x1 = 122
            · replace h := z_ifp h hk2
              refine v_tableIn (off := 69) (tgt := 138) C dX2_take_69 ⟨by omega, by omega⟩ (by rw [hk2]; rfl) rfl ?_
              refine v_aloadn (q := 139) C dX2_take_138 rfl rfl ?_
              refine u_getR (q := 142) C kl2 fl_X2_30 ob_215 pt_215_7 (by decide) rfl rfl dX2_take_139 rfl ?_
              refine v_aloadn (q := 143) C dX2_take_142 rfl rfl ?_
              refine u_getI (q := 146) C kl2 fl_X2_62 ob_215 pt_215_9 rfl rfl dX2_take_143 rfl ?_
              refine v_iloadn (q := 147) C dX2_take_146 rfl rfl ?_
              refine u_iast (q := 148) C ia_221 dX2_take_147 rfl h (fun μ4 h => ?_)
              refine v_goto (q := 161) C dX2_take_148 rfl ?_
              exact v_mask [true, false, false] rfl (w_X2_take_161  C hR   h)
            · replace h := z_ifn h hk2
              refine v_tableOut (tgt := 151) C dX2_take_69 (by omega) rfl ?_
              refine v_aloadn (q := 152) C dX2_take_151 rfl rfl ?_
              refine u_getR (q := 155) C kl2 fl_X2_30 ob_215 pt_215_7 (by decide) rfl rfl dX2_take_152 rfl ?_
              refine v_aloadn (q := 156) C dX2_take_155 rfl rfl ?_
              refine u_getI (q := 159) C kl2 fl_X2_62 ob_215 pt_215_9 rfl rfl dX2_take_156 rfl ?_
              refine v_iconst (q := 160) C dX2_take_159 rfl (by decide) ?_
              refine u_iast (q := 161) C ia_221 dX2_take_160 rfl h (fun μ2 h => ?_)
              exact v_mask [true, false, false] rfl (w_X2_take_161  C hR   h)
      · refine v_iconst (q := 67) C dX2_take_66 rfl (by decide) ?_
        exact u_zret hR dX2_take_67 h
theorem w_X2_valueOf_196 {X : ZX} (C : zC X cX2_valueOf RX2 8 (some .int) 2 65 274) {K : Int → ZM → Prop} (hR : zRi X cX2_valueOf (some .int) 274 (KN (KI K)))  {x4 : Int} {x5 : Int} {μ : ZM} {G49 : Int → ZM → Prop} (hG49 : ∀ (x5 : Int) (μ : ZM), G49 x5 μ → zV X 49 [some (.inr 215), none, none, none, some (.inl x4), some (.inl x5), none, none] [] 274 (z_ov μ))  (h : P_X2_valueOf_196  G49 x4 x5 μ K) : zV X 196 [some (.inr 215), none, none, none, some (.inl x4), some (.inl x5), none, none] [] 274 (z_ov μ) := by
  refine u_iinc (q := 199) C dX2_valueOf_196 rfl (nb rfl) rfl (L' := [some (.inr 215), none, none, none, some (.inl x4), some (.inl (x5 + 1)), none, none]) rfl h (fun h => ?_)
  refine v_goto (q := 49) C dX2_valueOf_199 rfl ?_
  exact (hG49 _ _ h)
theorem w_X2_valueOf_186 {X : ZX} (C : zC X cX2_valueOf RX2 8 (some .int) 2 65 274) {K : Int → ZM → Prop} (hR : zRi X cX2_valueOf (some .int) 274 (KN (KI K)))  {x4 : Int} {x5 : Int} {s0 : Int} {μ : ZM} {G49 : Int → ZM → Prop} (hG49 : ∀ (x5 : Int) (μ : ZM), G49 x5 μ → zV X 49 [some (.inr 215), none, none, none, some (.inl x4), some (.inl x5), none, none] [] 274 (z_ov μ))  (h : P_X2_valueOf_186  G49 x4 x5 s0 μ K) : zV X 186 [some (.inr 215), none, none, none, some (.inl x4), some (.inl x5), none, none] [.inl s0] 274 (z_ov μ) := by
  refine v_istore (q := 188) C dX2_valueOf_186 rfl (nb rfl) (L' := [some (.inr 215), none, none, none, some (.inl x4), some (.inl x5), none, some (.inl s0)]) rfl ?_
  refine v_iload (q := 190) C dX2_valueOf_188 rfl rfl ?_
  refine v_if_ne (q := 193) (tgt := 196) C dX2_valueOf_190 rfl rfl h (fun h => ?_) (fun h => ?_)
  · refine v_bipush (q := 195) C dX2_valueOf_193 rfl (by decide) ?_
    exact u_iret hR dX2_valueOf_195 h
  · exact v_mask [true, false, false, false, true, true, false, false] rfl (w_X2_valueOf_196  C hR hG49  h)
theorem w_X2_valueOf_96 {X : ZX} (C : zC X cX2_valueOf RX2 8 (some .int) 2 65 274) {K : Int → ZM → Prop} (hR : zRi X cX2_valueOf (some .int) 274 (KN (KI K)))  {x4 : Int} {x5 : Int} {μ : ZM} {G49 : Int → ZM → Prop} (hG49 : ∀ (x5 : Int) (μ : ZM), G49 x5 μ → zV X 49 [some (.inr 215), none, none, none, some (.inl x4), some (.inl x5), none, none] [] 274 (z_ov μ))  (h : P_X2_valueOf_96  G49 x4 x5 μ K) : zV X 96 [some (.inr 215), none, none, none, some (.inl x4), some (.inl x5), none, none] [] 274 (z_ov μ) := by
  refine v_aloadn (q := 97) C dX2_valueOf_96 rfl rfl ?_
  refine u_getR (q := 100) C kl2 fl_X2_21 ob_215 pt_215_4 (by decide) rfl rfl dX2_valueOf_97 rfl ?_
  refine v_aloadn (q := 101) C dX2_valueOf_100 rfl rfl ?_
  refine u_getI (q := 104) C kl2 fl_X2_65 ob_215 pt_215_8 rfl rfl dX2_valueOf_101 rfl ?_
  refine u_iald (q := 105) C ia_218 dX2_valueOf_104 rfl h (fun h => ?_)
  refine v_if_gt (q := 108) (tgt := 121) C dX2_valueOf_105 rfl rfl h (fun h => ?_) (fun h => ?_)
  · refine v_aloadn (q := 122) C dX2_valueOf_121 rfl rfl ?_
    refine u_getR (q := 125) C kl2 fl_X2_21 ob_215 pt_215_4 (by decide) rfl rfl dX2_valueOf_122 rfl ?_
    refine v_aloadn (q := 126) C dX2_valueOf_125 rfl rfl ?_
    refine u_getI (q := 129) C kl2 fl_X2_65 ob_215 pt_215_8 rfl rfl dX2_valueOf_126 rfl ?_
    refine v_dup2 (q := 130) C dX2_valueOf_129 rfl ?_
    refine u_iald (q := 131) C ia_218 dX2_valueOf_130 rfl h (fun h => ?_)
    refine v_iconst (q := 132) C dX2_valueOf_131 rfl (by decide) ?_
    refine u_isub (q := 133) C dX2_valueOf_132 rfl h (fun h => ?_)
    refine u_iast (q := 134) C ia_218 dX2_valueOf_133 rfl h (fun μ8 h => ?_)
    refine v_aloadn (q := 135) C dX2_valueOf_134 rfl rfl ?_
    refine u_getR (q := 138) C kl2 fl_X2_17 ob_215 pt_215_3 (by decide) rfl rfl dX2_valueOf_135 rfl ?_
    refine v_aloadn (q := 139) C dX2_valueOf_138 rfl rfl ?_
    refine u_getI (q := 142) C kl2 fl_X2_65 ob_215 pt_215_8 rfl rfl dX2_valueOf_139 rfl ?_
    refine u_aald (q := 143) C ra_217 dX2_valueOf_142 rfl h (fun h => ?_)
    have hf9 := h.1
    replace h := h.2
    refine u_getR (v := μ8 217 (μ8 215 8) + 1) (q := 146) C kl10 fl_X2_71 (ob_tm hf9) (pt_code hf9) (by omega) rfl rfl dX2_valueOf_143 rfl ?_
    refine v_aloadn (q := 147) C dX2_valueOf_146 rfl rfl ?_
    refine u_getR (q := 150) C kl2 fl_X2_21 ob_215 pt_215_4 (by decide) rfl rfl dX2_valueOf_147 rfl ?_
    refine v_aloadn (q := 151) C dX2_valueOf_150 rfl rfl ?_
    refine u_getI (q := 154) C kl2 fl_X2_65 ob_215 pt_215_8 rfl rfl dX2_valueOf_151 rfl ?_
    refine u_iald (q := 155) C ia_218 dX2_valueOf_154 rfl h (fun h => ?_)
    refine u_iald (q := 156) C (ia_code hf9) dX2_valueOf_155 rfl h (fun h => ?_)
    refine v_istore (q := 158) C dX2_valueOf_156 rfl (nb rfl) (L' := [some (.inr 215), none, none, none, some (.inl x4), some (.inl x5), some (.inl (μ8 (μ8 217 (μ8 215 8) + 1) (μ8 218 (μ8 215 8)))), none]) rfl ?_
    refine v_iload (q := 160) C dX2_valueOf_158 rfl rfl ?_
    refine u_cSi1 (q := 163) C (c_X10_isLetter h) sy_X10_isLetter ss_X10_isLetter ml_X2_74 ⟨nb rfl, nb rfl⟩ (nb rfl) dX2_valueOf_160 rfl (fun r11 μ10 h => ?_)
    refine v_if_eq (q := 166) (tgt := 178) C dX2_valueOf_163 rfl rfl h (fun h => ?_) (fun h => ?_)
    · refine v_aloadn (q := 179) C dX2_valueOf_178 rfl rfl ?_
      refine v_iload (q := 181) C dX2_valueOf_179 rfl rfl ?_
      refine v_iload (q := 183) C dX2_valueOf_181 rfl rfl ?_
      refine u_cVi2 (q := 186) C (c_X2_take h) sy_X2_take si_X2_take ml_X2_80 ob_215 (by decide) so_X2_take ⟨nb rfl, nb rfl⟩ (nb rfl) dX2_valueOf_183 rfl (fun r13 μ12 h => ?_)
      exact v_mask [true, false, false, false, true, true, false, false] rfl (w_X2_valueOf_186  C hR hG49  h)
    · refine v_aloadn (q := 167) C dX2_valueOf_166 rfl rfl ?_
      refine v_iload (q := 169) C dX2_valueOf_167 rfl rfl ?_
      refine v_bipush (q := 171) C dX2_valueOf_169 rfl (by decide) ?_
      refine u_isub (q := 172) C dX2_valueOf_171 rfl h (fun h => ?_)
      refine u_cVi1 (q := 175) C (c_X2_call h) sy_X2_call si_X2_call ml_X2_77 ob_215 (by decide) so_X2_call ⟨nb rfl, nb rfl⟩ (nb rfl) dX2_valueOf_172 rfl (fun r15 μ14 h => ?_)
      refine v_goto (q := 186) C dX2_valueOf_175 rfl ?_
      exact v_mask [true, false, false, false, true, true, false, false] rfl (w_X2_valueOf_186  C hR hG49  h)
  · refine v_aloadn (q := 109) C dX2_valueOf_108 rfl rfl ?_
    refine v_dup (q := 110) C dX2_valueOf_109 rfl ?_
    refine u_getI (q := 113) C kl2 fl_X2_65 ob_215 pt_215_8 rfl rfl dX2_valueOf_110 rfl ?_
    refine v_iconst (q := 114) C dX2_valueOf_113 rfl (by decide) ?_
    refine u_isub (q := 115) C dX2_valueOf_114 rfl h (fun h => ?_)
    refine u_put (q := 118) C kl2 fl_X2_65 ob_215 pt_215_8 rfl rfl rfl rfl dX2_valueOf_115 rfl h (fun μ16 h => ?_)
    refine v_goto (q := 196) C dX2_valueOf_118 rfl ?_
    exact (w_X2_valueOf_196  C hR hG49  h)
theorem w_X2_valueOf_49 {X : ZX} (C : zC X cX2_valueOf RX2 8 (some .int) 2 65 274) {K : Int → ZM → Prop} (hR : zRi X cX2_valueOf (some .int) 274 (KN (KI K)))  {x4 : Int} {x5 : Int} {μ : ZM}   (h : P_X2_valueOf_49   x4 x5 μ K) : zV X 49 [some (.inr 215), none, none, none, some (.inl x4), some (.inl x5), none, none] [] 274 (z_ov μ) := by
  refine h (fun x5 μ => zV X 49 [some (.inr 215), none, none, none, some (.inl x4), some (.inl x5), none, none] [] 274 (z_ov μ)) (fun x5 μ h => ?_)
  refine v_iload (q := 51) C dX2_valueOf_49 rfl rfl ?_
  refine v_sipush (q := 54) C dX2_valueOf_51 rfl (by decide) ?_
  refine v_icmp_ge (q := 57) (tgt := 202) C dX2_valueOf_54 rfl rfl h (fun h => ?_) (fun h => ?_)
  · refine v_bipush (q := 204) C dX2_valueOf_202 rfl (by decide) ?_
    exact u_iret hR dX2_valueOf_204 h
  · refine v_aloadn (q := 58) C dX2_valueOf_57 rfl rfl ?_
    refine u_getR (q := 61) C kl2 fl_X2_21 ob_215 pt_215_4 (by decide) rfl rfl dX2_valueOf_58 rfl ?_
    refine v_aloadn (q := 62) C dX2_valueOf_61 rfl rfl ?_
    refine u_getI (q := 65) C kl2 fl_X2_65 ob_215 pt_215_8 rfl rfl dX2_valueOf_62 rfl ?_
    refine u_iald (q := 66) C ia_218 dX2_valueOf_65 rfl h (fun h => ?_)
    refine v_if_gt (q := 69) (tgt := 96) C dX2_valueOf_66 rfl rfl h (fun h => ?_) (fun h => ?_)
    · exact (w_X2_valueOf_96  C hR (fun _ _ h => h)  h)
    · refine v_aloadn (q := 70) C dX2_valueOf_69 rfl rfl ?_
      refine u_getI (q := 73) C kl2 fl_X2_65 ob_215 pt_215_8 rfl rfl dX2_valueOf_70 rfl ?_
      refine v_if_ne (q := 76) (tgt := 96) C dX2_valueOf_73 rfl rfl h (fun h => ?_) (fun h => ?_)
      · refine v_aloadn (q := 77) C dX2_valueOf_76 rfl rfl ?_
        refine u_getI (q := 80) C kl2 fl_X2_62 ob_215 pt_215_9 rfl rfl dX2_valueOf_77 rfl ?_
        refine v_iconst (q := 81) C dX2_valueOf_80 rfl (by decide) ?_
        refine v_icmp_ne (q := 84) (tgt := 93) C dX2_valueOf_81 rfl rfl h (fun h => ?_) (fun h => ?_)
        · refine v_aloadn (q := 85) C dX2_valueOf_84 rfl rfl ?_
          refine u_getR (q := 88) C kl2 fl_X2_30 ob_215 pt_215_7 (by decide) rfl rfl dX2_valueOf_85 rfl ?_
          refine v_iconst (q := 89) C dX2_valueOf_88 rfl (by decide) ?_
          refine u_iald (q := 90) C ia_221 dX2_valueOf_89 rfl h (fun h => ?_)
          refine v_goto (q := 95) C dX2_valueOf_90 rfl ?_
          exact u_iret hR dX2_valueOf_95 h
        · refine v_bipush (q := 95) C dX2_valueOf_93 rfl (by decide) ?_
          exact u_iret hR dX2_valueOf_95 h
      · exact (w_X2_valueOf_96  C hR (fun _ _ h => h)  h)
theorem c_X2_valueOf {x1 : Int} {x2 : Int} {x3 : Int} {x4 : Int} {μ : ZM} {K : Int → ZM → Prop} (h : P_X2_valueOf  x1 x2 x3 x4 μ K) : zMu yX2_valueOf cX2_valueOf 8 (some .int) 2 65 [.inr 215, .inr x1, .inl x2, .inl x3, .inl x4] μ (KI K) := by
  refine zMet_of (L0 := [some (.inr 215), some (.inr x1), some (.inl x2), some (.inl x3), some (.inl x4), none, none, none]) sy_X2_valueOf rfl (nb rfl) (Nat.le_refl _) (fun X C _ hR _ _ => ?_)
  have C : zC X cX2_valueOf RX2 8 (some .int) 2 65 274 := C
  have hx1 := h.1
  replace h := h.2
  refine v_aloadn (q := 1) C dX2_valueOf_0 rfl rfl ?_
  refine v_iconst (q := 2) C dX2_valueOf_1 rfl (by decide) ?_
  refine u_put (q := 5) C kl2 fl_X2_58 ob_215 pt_215_2 rfl rfl rfl rfl dX2_valueOf_2 rfl h (fun μ1 h => ?_)
  refine v_aloadn (q := 6) C dX2_valueOf_5 rfl rfl ?_
  refine v_iconst (q := 7) C dX2_valueOf_6 rfl (by decide) ?_
  refine u_put (q := 10) C kl2 fl_X2_62 ob_215 pt_215_9 rfl rfl rfl rfl dX2_valueOf_7 rfl h (fun μ2 h => ?_)
  refine v_aloadn (q := 11) C dX2_valueOf_10 rfl rfl ?_
  refine v_iconst (q := 12) C dX2_valueOf_11 rfl (by decide) ?_
  refine u_put (q := 15) C kl2 fl_X2_65 ob_215 pt_215_8 rfl rfl rfl rfl dX2_valueOf_12 rfl h (fun μ3 h => ?_)
  refine v_aloadn (q := 16) C dX2_valueOf_15 rfl rfl ?_
  refine u_getR (q := 19) C kl2 fl_X2_17 ob_215 pt_215_3 (by decide) rfl rfl dX2_valueOf_16 rfl ?_
  refine v_iconst (q := 20) C dX2_valueOf_19 rfl (by decide) ?_
  refine v_aloadn (q := 21) C dX2_valueOf_20 rfl rfl ?_
  refine u_aast (q := 22) C ra_217 hx1 dX2_valueOf_21 rfl h (fun μ4 h => ?_)
  refine v_aloadn (q := 23) C dX2_valueOf_22 rfl rfl ?_
  refine u_getR (q := 26) C kl2 fl_X2_21 ob_215 pt_215_4 (by decide) rfl rfl dX2_valueOf_23 rfl ?_
  refine v_iconst (q := 27) C dX2_valueOf_26 rfl (by decide) ?_
  refine v_aloadn (q := 28) C dX2_valueOf_27 rfl rfl ?_
  refine u_getI (q := 31) C kl10 fl_X2_68 (ob_tm hx1) (pt_size hx1) rfl rfl dX2_valueOf_28 rfl ?_
  refine u_iast (q := 32) C ia_218 dX2_valueOf_31 rfl h (fun μ5 h => ?_)
  refine v_aloadn (q := 33) C dX2_valueOf_32 rfl rfl ?_
  refine u_getR (q := 36) C kl2 fl_X2_24 ob_215 pt_215_5 (by decide) rfl rfl dX2_valueOf_33 rfl ?_
  refine v_iconst (q := 37) C dX2_valueOf_36 rfl (by decide) ?_
  refine v_iloadn (q := 38) C dX2_valueOf_37 rfl rfl ?_
  refine u_iast (q := 39) C ia_219 dX2_valueOf_38 rfl h (fun μ6 h => ?_)
  refine v_aloadn (q := 40) C dX2_valueOf_39 rfl rfl ?_
  refine u_getR (q := 43) C kl2 fl_X2_27 ob_215 pt_215_6 (by decide) rfl rfl dX2_valueOf_40 rfl ?_
  refine v_iconst (q := 44) C dX2_valueOf_43 rfl (by decide) ?_
  refine v_iloadn (q := 45) C dX2_valueOf_44 rfl rfl ?_
  refine u_iast (q := 46) C ia_220 dX2_valueOf_45 rfl h (fun μ7 h => ?_)
  refine v_iconst (q := 47) C dX2_valueOf_46 rfl (by decide) ?_
  refine v_istore (q := 49) C dX2_valueOf_47 rfl (nb rfl) (L' := [some (.inr 215), some (.inr x1), some (.inl x2), some (.inl x3), some (.inl x4), some (.inl 0), none, none]) rfl ?_
  exact v_mask [true, false, false, false, true, true, false, false] rfl (w_X2_valueOf_49  C hR   h)
