theorem w_X12_value_40 {X : ZX} (C : zC X cX12_value RX12 6 (some .int) 4 97 274) {K : Int → ZM → Prop} (hR : zRi X cX12_value (some .int) 274 (KN (KI K)))  {x1 : Int} {x2 : Int} {x3 : Int} {x4 : Int} {μ : ZM}   (h : P_X12_value_40   x1 x2 x3 x4 μ K) : zV X 40 [some (.inr 248), some (.inl x1), some (.inl x2), some (.inl x3), some (.inl x4), none] [] 274 (z_ov μ) := by
  refine v_iload (q := 42) C dX12_value_40 rfl rfl ?_
  refine v_iconst (q := 43) C dX12_value_42 rfl (by decide) ?_
  refine v_iconst (q := 44) C dX12_value_43 rfl (by decide) ?_
  refine u_cSi3 (q := 47) C (c_X12_within h) sy_X12_within ss_X12_within ml_X12_96 ⟨nb rfl, nb rfl⟩ (nb rfl) dX12_value_44 rfl (fun r8 μ7 h => ?_)
  refine v_if_ne (q := 50) (tgt := 53) C dX12_value_47 rfl rfl h (fun h => ?_) (fun h => ?_)
  · refine v_bipush (q := 52) C dX12_value_50 rfl (by decide) ?_
    exact u_iret hR dX12_value_52 h
  · refine v_aloadn (q := 54) C dX12_value_53 rfl rfl ?_
    refine v_iconst (q := 55) C dX12_value_54 rfl (by decide) ?_
    refine u_put (q := 58) C kl12 fl_X12_187 ob_248 pt_248_15 rfl rfl rfl rfl dX12_value_55 rfl h (fun μ9 h => ?_)
    refine v_aloadn (q := 59) C dX12_value_58 rfl rfl ?_
    refine v_iconst (q := 60) C dX12_value_59 rfl (by decide) ?_
    refine u_put (q := 63) C kl12 fl_X12_180 ob_248 pt_248_16 rfl rfl rfl rfl dX12_value_60 rfl h (fun μ10 h => ?_)
    refine v_aloadn (q := 64) C dX12_value_63 rfl rfl ?_
    refine v_iconst (q := 65) C dX12_value_64 rfl (by decide) ?_
    refine u_put (q := 68) C kl12 fl_X12_177 ob_248 pt_248_22 rfl rfl rfl rfl dX12_value_65 rfl h (fun μ11 h => ?_)
    refine v_aloadn (q := 69) C dX12_value_68 rfl rfl ?_
    refine v_iloadn (q := 70) C dX12_value_69 rfl rfl ?_
    refine v_iloadn (q := 71) C dX12_value_70 rfl rfl ?_
    refine v_iloadn (q := 72) C dX12_value_71 rfl rfl ?_
    refine u_cVi3 (q := 75) C (c_X12_calls h) sy_X12_calls si_X12_calls ml_X12_190 ob_248 (by decide) so_X12_calls ⟨nb rfl, nb rfl⟩ (nb rfl) dX12_value_72 rfl (fun r13 μ12 h => ?_)
    refine v_pop (q := 76) C dX12_value_75 rfl ?_
    refine v_aloadn (q := 77) C dX12_value_76 rfl rfl ?_
    refine u_cVi0 (q := 80) C (c_X12_works h) sy_X12_works si_X12_works ml_X12_199 ob_248 (by decide) so_X12_works ⟨nb rfl, nb rfl⟩ (nb rfl) dX12_value_77 rfl (fun r15 μ14 h => ?_)
    refine v_istore (q := 82) C dX12_value_80 rfl (nb rfl) (L' := [some (.inr 248), some (.inl x1), some (.inl x2), some (.inl x3), some (.inl x4), some (.inl r15)]) rfl ?_
    refine v_iload (q := 84) C dX12_value_82 rfl rfl ?_
    refine v_bipush (q := 86) C dX12_value_84 rfl (by decide) ?_
    refine v_icmp_ne (q := 89) (tgt := 94) C dX12_value_86 rfl rfl h (fun h => ?_) (fun h => ?_)
    · refine v_bipush (q := 91) C dX12_value_89 rfl (by decide) ?_
      refine v_goto (q := 108) C dX12_value_91 rfl ?_
      exact u_iret hR dX12_value_108 h
    · refine v_iload (q := 96) C dX12_value_94 rfl rfl ?_
      refine v_if_ne (q := 99) (tgt := 104) C dX12_value_96 rfl rfl h (fun h => ?_) (fun h => ?_)
      · refine v_iload (q := 101) C dX12_value_99 rfl rfl ?_
        refine v_goto (q := 108) C dX12_value_101 rfl ?_
        exact u_iret hR dX12_value_108 h
      · refine v_aloadn (q := 105) C dX12_value_104 rfl rfl ?_
        refine u_getI (q := 108) C kl12 fl_X12_180 ob_248 pt_248_16 rfl rfl dX12_value_105 rfl ?_
        exact u_iret hR dX12_value_108 h
theorem c_X12_value {x1 : Int} {x2 : Int} {x3 : Int} {x4 : Int} {μ : ZM} {K : Int → ZM → Prop} (h : P_X12_value  x1 x2 x3 x4 μ K) : zMu yX12_value cX12_value 6 (some .int) 4 97 [.inr 248, .inl x1, .inl x2, .inl x3, .inl x4] μ (KI K) := by
  refine zMet_of (L0 := [some (.inr 248), some (.inl x1), some (.inl x2), some (.inl x3), some (.inl x4), none]) sy_X12_value rfl (nb rfl) (Nat.le_refl _) (fun X C _ hR _ _ => ?_)
  have C : zC X cX12_value RX12 6 (some .int) 4 97 274 := C
  refine v_aloadn (q := 1) C dX12_value_0 rfl rfl ?_
  refine v_iloadn (q := 2) C dX12_value_1 rfl rfl ?_
  refine u_cVi1 (q := 5) C (c_X12_isFunction h) sy_X12_isFunction si_X12_isFunction ml_X12_144 ob_248 (by decide) so_X12_isFunction ⟨nb rfl, nb rfl⟩ (nb rfl) dX12_value_2 rfl (fun r2 μ1 h => ?_)
  refine v_if_ne (q := 8) (tgt := 10) C dX12_value_5 rfl rfl h (fun h => ?_) (fun h => ?_)
  · refine v_iconst (q := 9) C dX12_value_8 rfl (by decide) ?_
    exact u_iret hR dX12_value_9 h
  · refine v_iloadn (q := 11) C dX12_value_10 rfl rfl ?_
    refine v_iconst (q := 12) C dX12_value_11 rfl (by decide) ?_
    refine v_bipush (q := 14) C dX12_value_12 rfl (by decide) ?_
    refine u_cSi3 (q := 17) C (c_X12_within h) sy_X12_within ss_X12_within ml_X12_96 ⟨nb rfl, nb rfl⟩ (nb rfl) dX12_value_14 rfl (fun r4 μ3 h => ?_)
    refine v_if_eq (q := 20) (tgt := 50) C dX12_value_17 rfl rfl h (fun h => ?_) (fun h => ?_)
    · refine v_bipush (q := 52) C dX12_value_50 rfl (by decide) ?_
      exact u_iret hR dX12_value_52 h
    · refine v_aloadn (q := 21) C dX12_value_20 rfl rfl ?_
      refine u_getR (q := 24) C kl12 fl_X12_19 ob_248 pt_248_5 (by decide) rfl rfl dX12_value_21 rfl ?_
      refine v_iloadn (q := 25) C dX12_value_24 rfl rfl ?_
      refine u_iald (q := 26) C ia_252 dX12_value_25 rfl h (fun h => ?_)
      refine v_iconst (q := 27) C dX12_value_26 rfl (by decide) ?_
      refine v_icmp_ne (q := 30) (tgt := 40) C dX12_value_27 rfl rfl h (fun h => ?_) (fun h => ?_)
      · refine v_iloadn (q := 31) C dX12_value_30 rfl rfl ?_
        refine v_iconst (q := 32) C dX12_value_31 rfl (by decide) ?_
        refine v_bipush (q := 34) C dX12_value_32 rfl (by decide) ?_
        refine u_cSi3 (q := 37) C (c_X12_within h) sy_X12_within ss_X12_within ml_X12_96 ⟨nb rfl, nb rfl⟩ (nb rfl) dX12_value_34 rfl (fun r6 μ5 h => ?_)
        refine v_if_eq (q := 40) (tgt := 50) C dX12_value_37 rfl rfl h (fun h => ?_) (fun h => ?_)
        · refine v_bipush (q := 52) C dX12_value_50 rfl (by decide) ?_
          exact u_iret hR dX12_value_52 h
        · exact (w_X12_value_40  C hR   h)
      · exact (w_X12_value_40  C hR   h)
theorem w_X12_why_51 {X : ZX} (C : zC X cX12_why RX12 2 (some .int) 1 22 274) {K : Int → ZM → Prop} (hR : zRi X cX12_why (some .int) 274 (KN (KI K)))  {x1 : Int} {μ : ZM}   (h : P_X12_why_51   x1 μ K) : zV X 51 [some (.inr 248), some (.inl x1)] [] 274 (z_ov μ) := by
  refine v_iloadn (q := 52) C dX12_why_51 rfl rfl ?_
  refine v_aloadn (q := 53) C dX12_why_52 rfl rfl ?_
  refine u_getI (q := 56) C kl12 fl_X12_337 ob_248 pt_248_43 rfl rfl dX12_why_53 rfl ?_
  refine v_icmp_ge (q := 59) (tgt := 63) C dX12_why_56 rfl rfl h (fun h => ?_) (fun h => ?_)
  · refine v_iloadn (q := 64) C dX12_why_63 rfl rfl ?_
    refine v_aloadn (q := 65) C dX12_why_64 rfl rfl ?_
    refine u_getI (q := 68) C kl12 fl_X12_337 ob_248 pt_248_43 rfl rfl dX12_why_65 rfl ?_
    refine v_icmp_ne (q := 71) (tgt := 78) C dX12_why_68 rfl rfl h (fun h => ?_) (fun h => ?_)
    · refine v_aloadn (q := 72) C dX12_why_71 rfl rfl ?_
      refine u_getI (q := 75) C kl12 fl_X12_340 ob_248 pt_248_44 rfl rfl dX12_why_72 rfl ?_
      refine v_goto (q := 101) C dX12_why_75 rfl ?_
      exact u_iret hR dX12_why_101 h
    · refine v_iloadn (q := 79) C dX12_why_78 rfl rfl ?_
      refine v_aloadn (q := 80) C dX12_why_79 rfl rfl ?_
      refine u_getI (q := 83) C kl12 fl_X12_337 ob_248 pt_248_43 rfl rfl dX12_why_80 rfl ?_
      refine v_iconst (q := 84) C dX12_why_83 rfl (by decide) ?_
      refine u_iadd (q := 85) C dX12_why_84 rfl h (fun h => ?_)
      refine v_icmp_ne (q := 88) (tgt := 99) C dX12_why_85 rfl rfl h (fun h => ?_) (fun h => ?_)
      · refine v_aloadn (q := 89) C dX12_why_88 rfl rfl ?_
        refine u_getI (q := 92) C kl12 fl_X12_352 ob_248 pt_248_45 rfl rfl dX12_why_89 rfl ?_
        refine v_if_eq (q := 95) (tgt := 99) C dX12_why_92 rfl rfl h (fun h => ?_) (fun h => ?_)
        · refine v_bipush (q := 101) C dX12_why_99 rfl (by decide) ?_
          exact u_iret hR dX12_why_101 h
        · refine v_iconst (q := 96) C dX12_why_95 rfl (by decide) ?_
          refine v_goto (q := 101) C dX12_why_96 rfl ?_
          exact u_iret hR dX12_why_101 h
      · refine v_bipush (q := 101) C dX12_why_99 rfl (by decide) ?_
        exact u_iret hR dX12_why_101 h
  · refine v_iconst (q := 60) C dX12_why_59 rfl (by decide) ?_
    refine v_goto (q := 101) C dX12_why_60 rfl ?_
    exact u_iret hR dX12_why_101 h
theorem c_X12_why {x1 : Int} {μ : ZM} {K : Int → ZM → Prop} (h : P_X12_why  x1 μ K) : zMu yX12_why cX12_why 2 (some .int) 1 22 [.inr 248, .inl x1] μ (KI K) := by
  refine zMet_of (L0 := [some (.inr 248), some (.inl x1)]) sy_X12_why rfl (nb rfl) (Nat.le_refl _) (fun X C _ hR _ _ => ?_)
  have C : zC X cX12_why RX12 2 (some .int) 1 22 274 := C
  refine v_iloadn (q := 1) C dX12_why_0 rfl rfl ?_
  refine v_iconst (q := 2) C dX12_why_1 rfl (by decide) ?_
  refine v_bipush (q := 4) C dX12_why_2 rfl (by decide) ?_
  refine u_cSi3 (q := 7) C (c_X12_within h) sy_X12_within ss_X12_within ml_X12_96 ⟨nb rfl, nb rfl⟩ (nb rfl) dX12_why_4 rfl (fun r2 μ1 h => ?_)
  refine v_if_ne (q := 10) (tgt := 13) C dX12_why_7 rfl rfl h (fun h => ?_) (fun h => ?_)
  · refine v_bipush (q := 12) C dX12_why_10 rfl (by decide) ?_
    exact u_iret hR dX12_why_12 h
  · refine v_aloadn (q := 14) C dX12_why_13 rfl rfl ?_
    refine u_getI (q := 17) C kl12 fl_X12_79 ob_248 pt_248_42 rfl rfl dX12_why_14 rfl ?_
    refine v_iconst (q := 18) C dX12_why_17 rfl (by decide) ?_
    refine v_icmp_ne (q := 21) (tgt := 32) C dX12_why_18 rfl rfl h (fun h => ?_) (fun h => ?_)
    · refine v_iloadn (q := 22) C dX12_why_21 rfl rfl ?_
      refine v_if_ne (q := 25) (tgt := 29) C dX12_why_22 rfl rfl h (fun h => ?_) (fun h => ?_)
      · refine v_iconst (q := 26) C dX12_why_25 rfl (by decide) ?_
        refine v_goto (q := 31) C dX12_why_26 rfl ?_
        exact u_iret hR dX12_why_31 h
      · refine v_bipush (q := 31) C dX12_why_29 rfl (by decide) ?_
        exact u_iret hR dX12_why_31 h
    · refine v_aloadn (q := 33) C dX12_why_32 rfl rfl ?_
      refine u_getI (q := 36) C kl12 fl_X12_79 ob_248 pt_248_42 rfl rfl dX12_why_33 rfl ?_
      refine v_iconst (q := 37) C dX12_why_36 rfl (by decide) ?_
      refine v_icmp_eq (q := 40) (tgt := 51) C dX12_why_37 rfl rfl h (fun h => ?_) (fun h => ?_)
      · exact (w_X12_why_51  C hR   h)
      · refine v_aloadn (q := 41) C dX12_why_40 rfl rfl ?_
        refine u_getI (q := 44) C kl12 fl_X12_79 ob_248 pt_248_42 rfl rfl dX12_why_41 rfl ?_
        refine v_iconst (q := 45) C dX12_why_44 rfl (by decide) ?_
        refine v_icmp_eq (q := 48) (tgt := 51) C dX12_why_45 rfl rfl h (fun h => ?_) (fun h => ?_)
        · exact (w_X12_why_51  C hR   h)
        · refine v_bipush (q := 50) C dX12_why_48 rfl (by decide) ?_
          exact u_iret hR dX12_why_50 h
theorem c_X12_wipe  {μ : ZM} {K : Int → ZM → Prop} (h : P_X12_wipe   μ K) : zMu yX12_wipe cX12_wipe 2 (some .int) 0 0 [.inr 248] μ (KI K) := by
  refine zMet_of (L0 := [some (.inr 248), none]) sy_X12_wipe rfl (nb rfl) (Nat.le_refl _) (fun X C _ hR _ _ => ?_)
  have C : zC X cX12_wipe RX12 2 (some .int) 0 0 274 := C
  refine v_aloadn (q := 1) C dX12_wipe_0 rfl rfl ?_
  refine u_getI (q := 4) C kl12 fl_X12_108 ob_248 pt_248_3 rfl rfl dX12_wipe_1 rfl ?_
  refine v_istoren (q := 5) C dX12_wipe_4 rfl (nb rfl) (L' := [some (.inr 248), some (.inl (μ 248 3))]) rfl ?_
  refine v_aloadn (q := 6) C dX12_wipe_5 rfl rfl ?_
  refine v_iconst (q := 7) C dX12_wipe_6 rfl (by decide) ?_
  refine u_put (q := 10) C kl12 fl_X12_108 ob_248 pt_248_3 rfl rfl rfl rfl dX12_wipe_7 rfl h (fun μ1 h => ?_)
  refine v_iloadn (q := 11) C dX12_wipe_10 rfl rfl ?_
  exact u_iret hR dX12_wipe_11 h
