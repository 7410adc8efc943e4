theorem c_X12_counter {x1 : Int} {μ : ZM} {K : Int → ZM → Prop} (h : P_X12_counter  x1 μ K) : zMu yX12_counter cX12_counter 3 (some .int) 7 173 [.inr 248, .inl x1] μ (KI K) := by
  refine zMet_of (L0 := [some (.inr 248), some (.inl x1), none]) sy_X12_counter rfl (nb rfl) (Nat.le_refl _) (fun X C _ hR _ _ => ?_)
  have C : zC X cX12_counter RX12 3 (some .int) 7 173 274 := C
  refine v_iloadn (q := 1) C dX12_counter_0 rfl rfl ?_
  refine v_iconst (q := 2) C dX12_counter_1 rfl (by decide) ?_
  refine v_iconst (q := 3) C dX12_counter_2 rfl (by decide) ?_
  refine u_cSi3 (q := 6) C (c_X12_within h) sy_X12_within ss_X12_within ml_X12_96 ⟨nb rfl, nb rfl⟩ (nb rfl) dX12_counter_3 rfl (fun r2 μ1 h => ?_)
  refine v_if_ne (q := 9) (tgt := 12) C dX12_counter_6 rfl rfl h (fun h => ?_) (fun h => ?_)
  · refine v_bipush (q := 11) C dX12_counter_9 rfl (by decide) ?_
    exact u_iret hR dX12_counter_11 h
  · refine v_aloadn (q := 13) C dX12_counter_12 rfl rfl ?_
    refine u_getI (q := 16) C kl12 fl_X12_164 ob_248 pt_248_9 rfl rfl dX12_counter_13 rfl ?_
    refine v_if_ne (q := 19) (tgt := 22) C dX12_counter_16 rfl rfl h (fun h => ?_) (fun h => ?_)
    · refine v_bipush (q := 21) C dX12_counter_19 rfl (by decide) ?_
      exact u_iret hR dX12_counter_21 h
    · refine v_aloadn (q := 23) C dX12_counter_22 rfl rfl ?_
      refine v_iconst (q := 24) C dX12_counter_23 rfl (by decide) ?_
      refine v_iconst (q := 25) C dX12_counter_24 rfl (by decide) ?_
      refine u_cVi2 (q := 28) C (c_X12_counterexample h) sy_X12_counterexample si_X12_counterexample ml_X12_218 ob_248 (by decide) so_X12_counterexample ⟨nb rfl, nb rfl⟩ (nb rfl) dX12_counter_25 rfl (fun r4 μ3 h => ?_)
      refine v_istoren (q := 29) C dX12_counter_28 rfl (nb rfl) (L' := [some (.inr 248), some (.inl x1), some (.inl r4)]) rfl ?_
      refine v_iloadn (q := 30) C dX12_counter_29 rfl rfl ?_
      refine v_bipush (q := 32) C dX12_counter_30 rfl (by decide) ?_
      refine v_icmp_ne (q := 35) (tgt := 40) C dX12_counter_32 rfl rfl h (fun h => ?_) (fun h => ?_)
      · refine v_bipush (q := 37) C dX12_counter_35 rfl (by decide) ?_
        refine v_goto (q := 67) C dX12_counter_37 rfl ?_
        exact u_iret hR dX12_counter_67 h
      · refine v_iloadn (q := 41) C dX12_counter_40 rfl rfl ?_
        refine v_if_ne (q := 44) (tgt := 51) C dX12_counter_41 rfl rfl h (fun h => ?_) (fun h => ?_)
        · refine v_iloadn (q := 45) C dX12_counter_44 rfl rfl ?_
          refine v_bipush (q := 47) C dX12_counter_45 rfl (by decide) ?_
          refine u_idiv (q := 48) C dX12_counter_47 rfl h (fun h => ?_)
          refine v_goto (q := 67) C dX12_counter_48 rfl ?_
          exact u_iret hR dX12_counter_67 h
        · refine v_iloadn (q := 52) C dX12_counter_51 rfl rfl ?_
          refine v_iconst (q := 53) C dX12_counter_52 rfl (by decide) ?_
          refine v_icmp_ne (q := 56) (tgt := 64) C dX12_counter_53 rfl rfl h (fun h => ?_) (fun h => ?_)
          · refine v_iloadn (q := 57) C dX12_counter_56 rfl rfl ?_
            refine v_iconst (q := 58) C dX12_counter_57 rfl (by decide) ?_
            refine u_idiv (q := 59) C dX12_counter_58 rfl h (fun h => ?_)
            refine v_iconst (q := 60) C dX12_counter_59 rfl (by decide) ?_
            refine u_irem (q := 61) C dX12_counter_60 rfl h (fun h => ?_)
            refine v_goto (q := 67) C dX12_counter_61 rfl ?_
            exact u_iret hR dX12_counter_67 h
          · refine v_iloadn (q := 65) C dX12_counter_64 rfl rfl ?_
            refine v_iconst (q := 66) C dX12_counter_65 rfl (by decide) ?_
            refine u_irem (q := 67) C dX12_counter_66 rfl h (fun h => ?_)
            exact u_iret hR dX12_counter_67 h
theorem c_X12_difference  {μ : ZM} {K : Int → ZM → Prop} (h : P_X12_difference   μ K) : zMu yX12_difference cX12_difference 2 (some .int) 6 139 [.inr 248] μ (KI K) := by
  refine zMet_of (L0 := [some (.inr 248), none]) sy_X12_difference rfl (nb rfl) (Nat.le_refl _) (fun X C _ hR _ _ => ?_)
  have C : zC X cX12_difference RX12 2 (some .int) 6 139 274 := C
  refine v_aloadn (q := 1) C dX12_difference_0 rfl rfl ?_
  refine u_getI (q := 4) C kl12 fl_X12_164 ob_248 pt_248_9 rfl rfl dX12_difference_1 rfl ?_
  refine v_if_ne (q := 7) (tgt := 10) C dX12_difference_4 rfl rfl h (fun h => ?_) (fun h => ?_)
  · refine v_bipush (q := 9) C dX12_difference_7 rfl (by decide) ?_
    exact u_iret hR dX12_difference_9 h
  · refine v_aloadn (q := 11) C dX12_difference_10 rfl rfl ?_
    refine v_iconst (q := 12) C dX12_difference_11 rfl (by decide) ?_
    refine v_iconst (q := 13) C dX12_difference_12 rfl (by decide) ?_
    refine u_cVi2 (q := 16) C (c_X12_differenceOf h) sy_X12_differenceOf si_X12_differenceOf ml_X12_279 ob_248 (by decide) so_X12_differenceOf ⟨nb rfl, nb rfl⟩ (nb rfl) dX12_difference_13 rfl (fun r2 μ1 h => ?_)
    refine v_istoren (q := 17) C dX12_difference_16 rfl (nb rfl) (L' := [some (.inr 248), some (.inl r2)]) rfl ?_
    refine v_iloadn (q := 18) C dX12_difference_17 rfl rfl ?_
    refine v_ldcw (q := 21) C kc_X12_269 dX12_difference_18 rfl (by decide) ?_
    refine v_icmp_lt (q := 24) (tgt := 29) C dX12_difference_21 rfl rfl h (fun h => ?_) (fun h => ?_)
    · refine v_iloadn (q := 30) C dX12_difference_29 rfl rfl ?_
      exact u_iret hR dX12_difference_30 h
    · refine v_bipush (q := 26) C dX12_difference_24 rfl (by decide) ?_
      refine v_goto (q := 30) C dX12_difference_26 rfl ?_
      exact u_iret hR dX12_difference_30 h
theorem w_X12_keepsBody_16 {X : ZX} (C : zC X cX12_keepsBody RX12 4 none 0 0 274) {K : ZM → Prop} (hR : zRv X cX12_keepsBody none 274 (KN (KV K)))  {x1 : Int} {x2 : Int} {x3 : Int} {μ : ZM}   (h : P_X12_keepsBody_16   x1 x2 x3 μ K) : zV X 16 [some (.inr 248), some (.inl x1), some (.inl x2), some (.inl x3)] [] 274 (z_ov μ) := by
  refine h (fun x3 μ => zV X 16 [some (.inr 248), some (.inl x1), some (.inl x2), some (.inl x3)] [] 274 (z_ov μ)) (fun x3 μ h => ?_)
  refine v_iloadn (q := 17) C dX12_keepsBody_16 rfl rfl ?_
  refine v_aloadn (q := 18) C dX12_keepsBody_17 rfl rfl ?_
  refine u_getI (q := 21) C kl12 fl_X12_117 ob_248 pt_248_12 rfl rfl dX12_keepsBody_18 rfl ?_
  refine v_icmp_ge (q := 24) (tgt := 51) C dX12_keepsBody_21 rfl rfl h (fun h => ?_) (fun h => ?_)
  · exact u_vret hR dX12_keepsBody_51 h
  · refine v_aloadn (q := 25) C dX12_keepsBody_24 rfl rfl ?_
    refine u_getR (q := 28) C kl12 fl_X12_25 ob_248 pt_248_7 (by decide) rfl rfl dX12_keepsBody_25 rfl ?_
    refine v_bipush (q := 30) C dX12_keepsBody_28 rfl (by decide) ?_
    refine v_iconst (q := 31) C dX12_keepsBody_30 rfl (by decide) ?_
    refine v_iloadn (q := 32) C dX12_keepsBody_31 rfl rfl ?_
    refine u_imul (q := 33) C dX12_keepsBody_32 rfl h (fun h => ?_)
    refine v_iloadn (q := 34) C dX12_keepsBody_33 rfl rfl ?_
    refine u_iadd (q := 35) C dX12_keepsBody_34 rfl h (fun h => ?_)
    refine u_imul (q := 36) C dX12_keepsBody_35 rfl h (fun h => ?_)
    refine v_iloadn (q := 37) C dX12_keepsBody_36 rfl rfl ?_
    refine u_iadd (q := 38) C dX12_keepsBody_37 rfl h (fun h => ?_)
    refine v_aloadn (q := 39) C dX12_keepsBody_38 rfl rfl ?_
    refine u_getR (q := 42) C kl12 fl_X12_31 ob_248 pt_248_11 (by decide) rfl rfl dX12_keepsBody_39 rfl ?_
    refine v_iloadn (q := 43) C dX12_keepsBody_42 rfl rfl ?_
    refine u_iald (q := 44) C ia_256 dX12_keepsBody_43 rfl h (fun h => ?_)
    refine u_iast (q := 45) C ia_254 dX12_keepsBody_44 rfl h (fun μ2 h => ?_)
    refine u_iinc (q := 48) C dX12_keepsBody_45 rfl (nb rfl) rfl (L' := [some (.inr 248), some (.inl x1), some (.inl x2), some (.inl (x3 + 1))]) rfl h (fun h => ?_)
    refine v_goto (q := 16) C dX12_keepsBody_48 rfl ?_
    exact h
theorem c_X12_keepsBody {x1 : Int} {x2 : Int} {μ : ZM} {K : ZM → Prop} (h : P_X12_keepsBody  x1 x2 μ K) : zMu yX12_keepsBody cX12_keepsBody 4 none 0 0 [.inr 248, .inl x1, .inl x2] μ (KV K) := by
  refine zMet_of (L0 := [some (.inr 248), some (.inl x1), some (.inl x2), none]) sy_X12_keepsBody rfl (nb rfl) (Nat.le_refl _) (fun X C _ _ _ hR => ?_)
  have C : zC X cX12_keepsBody RX12 4 none 0 0 274 := C
  refine v_aloadn (q := 1) C dX12_keepsBody_0 rfl rfl ?_
  refine u_getR (q := 4) C kl12 fl_X12_28 ob_248 pt_248_8 (by decide) rfl rfl dX12_keepsBody_1 rfl ?_
  refine v_iconst (q := 5) C dX12_keepsBody_4 rfl (by decide) ?_
  refine v_iloadn (q := 6) C dX12_keepsBody_5 rfl rfl ?_
  refine u_imul (q := 7) C dX12_keepsBody_6 rfl h (fun h => ?_)
  refine v_iloadn (q := 8) C dX12_keepsBody_7 rfl rfl ?_
  refine u_iadd (q := 9) C dX12_keepsBody_8 rfl h (fun h => ?_)
  refine v_aloadn (q := 10) C dX12_keepsBody_9 rfl rfl ?_
  refine u_getI (q := 13) C kl12 fl_X12_117 ob_248 pt_248_12 rfl rfl dX12_keepsBody_10 rfl ?_
  refine u_iast (q := 14) C ia_255 dX12_keepsBody_13 rfl h (fun μ1 h => ?_)
  refine v_iconst (q := 15) C dX12_keepsBody_14 rfl (by decide) ?_
  refine v_istoren (q := 16) C dX12_keepsBody_15 rfl (nb rfl) (L' := [some (.inr 248), some (.inl x1), some (.inl x2), some (.inl 0)]) rfl ?_
  exact (w_X12_keepsBody_16  C hR   h)
theorem w_X12_readsFunction_17 {X : ZX} (C : zC X cX12_readsFunction RX12 5 (some .boolean) 4 99 274) {K : Int → ZM → Prop} (hR : zRi X cX12_readsFunction (some .boolean) 274 (KN (KI K)))  {x1 : Int} {x2 : Int} {x3 : Int} {x4 : Int} {μ : ZM}   (h : P_X12_readsFunction_17   x1 x2 x3 x4 μ K) : zV X 17 [some (.inr 248), some (.inl x1), some (.inl x2), some (.inl x3), some (.inl x4)] [] 274 (z_ov μ) := by
  refine h (fun x4 μ => zV X 17 [some (.inr 248), some (.inl x1), some (.inl x2), some (.inl x3), some (.inl x4)] [] 274 (z_ov μ)) (fun x4 μ h => ?_)
  refine v_iload (q := 19) C dX12_readsFunction_17 rfl rfl ?_
  refine v_iloadn (q := 20) C dX12_readsFunction_19 rfl rfl ?_
  refine v_icmp_ge (q := 23) (tgt := 61) C dX12_readsFunction_20 rfl rfl h (fun h => ?_) (fun h => ?_)
  · refine v_aloadn (q := 62) C dX12_readsFunction_61 rfl rfl ?_
    refine v_bipush (q := 64) C dX12_readsFunction_62 rfl (by decide) ?_
    refine v_iconst (q := 65) C dX12_readsFunction_64 rfl (by decide) ?_
    refine v_iloadn (q := 66) C dX12_readsFunction_65 rfl rfl ?_
    refine v_iconst (q := 67) C dX12_readsFunction_66 rfl (by decide) ?_
    refine v_iloadn (q := 68) C dX12_readsFunction_67 rfl rfl ?_
    refine v_iconst (q := 69) C dX12_readsFunction_68 rfl (by decide) ?_
    refine u_cVi6 (q := 72) C (c_X12_readsTerm h) sy_X12_readsTerm si_X12_readsTerm ml_X12_127 ob_248 (by decide) so_X12_readsTerm ⟨nb rfl, nb rfl⟩ (nb rfl) dX12_readsFunction_69 rfl (fun r2 μ1 h => ?_)
    refine v_if_ne (q := 75) (tgt := 77) C dX12_readsFunction_72 rfl rfl h (fun h => ?_) (fun h => ?_)
    · refine v_iconst (q := 76) C dX12_readsFunction_75 rfl (by decide) ?_
      exact u_zret hR dX12_readsFunction_76 h
    · refine v_aloadn (q := 78) C dX12_readsFunction_77 rfl rfl ?_
      refine v_iloadn (q := 79) C dX12_readsFunction_78 rfl rfl ?_
      refine v_iconst (q := 80) C dX12_readsFunction_79 rfl (by decide) ?_
      refine u_cVv2 (q := 83) C (c_X12_keepsBody h) sy_X12_keepsBody si_X12_keepsBody ml_X12_133 ob_248 (by decide) so_X12_keepsBody ⟨nb rfl, nb rfl⟩ (nb rfl) dX12_readsFunction_80 rfl (fun μ3 h => ?_)
      refine v_aloadn (q := 84) C dX12_readsFunction_83 rfl rfl ?_
      refine u_getI (q := 87) C kl12 fl_X12_120 ob_248 pt_248_10 rfl rfl dX12_readsFunction_84 rfl ?_
      refine v_aloadn (q := 88) C dX12_readsFunction_87 rfl rfl ?_
      refine u_getI (q := 91) C kl12 fl_X12_108 ob_248 pt_248_3 rfl rfl dX12_readsFunction_88 rfl ?_
      refine v_icmp_ne (q := 94) (tgt := 98) C dX12_readsFunction_91 rfl rfl h (fun h => ?_) (fun h => ?_)
      · refine v_iconst (q := 95) C dX12_readsFunction_94 rfl (by decide) ?_
        refine v_goto (q := 99) C dX12_readsFunction_95 rfl ?_
        exact u_zret hR dX12_readsFunction_99 h
      · refine v_iconst (q := 99) C dX12_readsFunction_98 rfl (by decide) ?_
        exact u_zret hR dX12_readsFunction_99 h
  · refine v_aloadn (q := 24) C dX12_readsFunction_23 rfl rfl ?_
    refine v_bipush (q := 26) C dX12_readsFunction_24 rfl (by decide) ?_
    refine v_iconst (q := 27) C dX12_readsFunction_26 rfl (by decide) ?_
    refine v_iloadn (q := 28) C dX12_readsFunction_27 rfl rfl ?_
    refine v_iconst (q := 29) C dX12_readsFunction_28 rfl (by decide) ?_
    refine v_iloadn (q := 30) C dX12_readsFunction_29 rfl rfl ?_
    refine v_iconst (q := 31) C dX12_readsFunction_30 rfl (by decide) ?_
    refine u_cVi6 (q := 34) C (c_X12_readsTerm h) sy_X12_readsTerm si_X12_readsTerm ml_X12_127 ob_248 (by decide) so_X12_readsTerm ⟨nb rfl, nb rfl⟩ (nb rfl) dX12_readsFunction_31 rfl (fun r5 μ4 h => ?_)
    refine v_if_eq (q := 37) (tgt := 46) C dX12_readsFunction_34 rfl rfl h (fun h => ?_) (fun h => ?_)
    · refine v_iconst (q := 47) C dX12_readsFunction_46 rfl (by decide) ?_
      exact u_zret hR dX12_readsFunction_47 h
    · refine v_aloadn (q := 38) C dX12_readsFunction_37 rfl rfl ?_
      refine v_bipush (q := 40) C dX12_readsFunction_38 rfl (by decide) ?_
      refine u_cVi1 (q := 43) C (c_X12_reads h) sy_X12_reads si_X12_reads ml_X12_131 ob_248 (by decide) so_X12_reads ⟨nb rfl, nb rfl⟩ (nb rfl) dX12_readsFunction_40 rfl (fun r7 μ6 h => ?_)
      refine v_if_ne (q := 46) (tgt := 48) C dX12_readsFunction_43 rfl rfl h (fun h => ?_) (fun h => ?_)
      · refine v_iconst (q := 47) C dX12_readsFunction_46 rfl (by decide) ?_
        exact u_zret hR dX12_readsFunction_47 h
      · refine v_aloadn (q := 49) C dX12_readsFunction_48 rfl rfl ?_
        refine v_iloadn (q := 50) C dX12_readsFunction_49 rfl rfl ?_
        refine v_iload (q := 52) C dX12_readsFunction_50 rfl rfl ?_
        refine u_cVv2 (q := 55) C (c_X12_keepsBody h) sy_X12_keepsBody si_X12_keepsBody ml_X12_133 ob_248 (by decide) so_X12_keepsBody ⟨nb rfl, nb rfl⟩ (nb rfl) dX12_readsFunction_52 rfl (fun μ8 h => ?_)
        refine u_iinc (q := 58) C dX12_readsFunction_55 rfl (nb rfl) rfl (L' := [some (.inr 248), some (.inl x1), some (.inl x2), some (.inl x3), some (.inl (x4 + 1))]) rfl h (fun h => ?_)
        refine v_goto (q := 17) C dX12_readsFunction_58 rfl ?_
        exact h
theorem w_X12_readsFunction_13 {X : ZX} (C : zC X cX12_readsFunction RX12 5 (some .boolean) 4 99 274) {K : Int → ZM → Prop} (hR : zRi X cX12_readsFunction (some .boolean) 274 (KN (KI K)))  {x1 : Int} {x2 : Int} {s0 : Int} {μ : ZM}   (h : P_X12_readsFunction_13   x1 x2 s0 μ K) : zV X 13 [some (.inr 248), some (.inl x1), some (.inl x2), none, none] [.inl s0] 274 (z_ov μ) := by
  refine v_istoren (q := 14) C dX12_readsFunction_13 rfl (nb rfl) (L' := [some (.inr 248), some (.inl x1), some (.inl x2), some (.inl s0), none]) rfl ?_
  refine v_iconst (q := 15) C dX12_readsFunction_14 rfl (by decide) ?_
  refine v_istore (q := 17) C dX12_readsFunction_15 rfl (nb rfl) (L' := [some (.inr 248), some (.inl x1), some (.inl x2), some (.inl s0), some (.inl 0)]) rfl ?_
  exact (w_X12_readsFunction_17  C hR   h)
theorem c_X12_readsFunction {x1 : Int} {x2 : Int} {μ : ZM} {K : Int → ZM → Prop} (h : P_X12_readsFunction  x1 x2 μ K) : zMu yX12_readsFunction cX12_readsFunction 5 (some .boolean) 4 99 [.inr 248, .inl x1, .inl x2] μ (KI K) := by
  refine zMet_of (L0 := [some (.inr 248), some (.inl x1), some (.inl x2), none, none]) sy_X12_readsFunction rfl (nb rfl) (Nat.le_refl _) (fun X C _ hR _ _ => ?_)
  have C : zC X cX12_readsFunction RX12 5 (some .boolean) 4 99 274 := C
  refine v_aloadn (q := 1) C dX12_readsFunction_0 rfl rfl ?_
  refine u_getI (q := 4) C kl12 fl_X12_114 ob_248 pt_248_13 rfl rfl dX12_readsFunction_1 rfl ?_
  refine v_iconst (q := 5) C dX12_readsFunction_4 rfl (by decide) ?_
  refine v_icmp_ne (q := 8) (tgt := 12) C dX12_readsFunction_5 rfl rfl h (fun h => ?_) (fun h => ?_)
  · refine v_iconst (q := 9) C dX12_readsFunction_8 rfl (by decide) ?_
    refine v_goto (q := 13) C dX12_readsFunction_9 rfl ?_
    exact (w_X12_readsFunction_13  C hR   h)
  · refine v_iconst (q := 13) C dX12_readsFunction_12 rfl (by decide) ?_
    exact (w_X12_readsFunction_13  C hR   h)
theorem c_X12_function {x1 : Int} {x2 : Int} {μ : ZM} {K : Int → ZM → Prop} (h : P_X12_function  x1 x2 μ K) : zMu yX12_function cX12_function 3 (some .int) 5 123 [.inr 248, .inl x1, .inl x2] μ (KI K) := by
  refine zMet_of (L0 := [some (.inr 248), some (.inl x1), some (.inl x2)]) sy_X12_function rfl (nb rfl) (Nat.le_refl _) (fun X C _ hR _ _ => ?_)
  have C : zC X cX12_function RX12 3 (some .int) 5 123 274 := C
  refine v_iloadn (q := 1) C dX12_function_0 rfl rfl ?_
  refine v_iconst (q := 2) C dX12_function_1 rfl (by decide) ?_
  refine v_iconst (q := 3) C dX12_function_2 rfl (by decide) ?_
  refine u_cSi3 (q := 6) C (c_X12_within h) sy_X12_within ss_X12_within ml_X12_96 ⟨nb rfl, nb rfl⟩ (nb rfl) dX12_function_3 rfl (fun r2 μ1 h => ?_)
  refine v_if_eq (q := 9) (tgt := 18) C dX12_function_6 rfl rfl h (fun h => ?_) (fun h => ?_)
  · refine v_bipush (q := 20) C dX12_function_18 rfl (by decide) ?_
    exact u_iret hR dX12_function_20 h
  · refine v_iloadn (q := 10) C dX12_function_9 rfl rfl ?_
    refine v_iconst (q := 11) C dX12_function_10 rfl (by decide) ?_
    refine v_iconst (q := 12) C dX12_function_11 rfl (by decide) ?_
    refine u_cSi3 (q := 15) C (c_X12_within h) sy_X12_within ss_X12_within ml_X12_96 ⟨nb rfl, nb rfl⟩ (nb rfl) dX12_function_12 rfl (fun r4 μ3 h => ?_)
    refine v_if_ne (q := 18) (tgt := 21) C dX12_function_15 rfl rfl h (fun h => ?_) (fun h => ?_)
    · refine v_bipush (q := 20) C dX12_function_18 rfl (by decide) ?_
      exact u_iret hR dX12_function_20 h
    · refine v_aloadn (q := 22) C dX12_function_21 rfl rfl ?_
      refine u_getI (q := 25) C kl12 fl_X12_137 ob_248 pt_248_4 rfl rfl dX12_function_22 rfl ?_
      refine v_bipush (q := 27) C dX12_function_25 rfl (by decide) ?_
      refine v_icmp_ne (q := 30) (tgt := 33) C dX12_function_27 rfl rfl h (fun h => ?_) (fun h => ?_)
      · refine v_bipush (q := 32) C dX12_function_30 rfl (by decide) ?_
        exact u_iret hR dX12_function_32 h
      · refine v_aloadn (q := 34) C dX12_function_33 rfl rfl ?_
        refine v_iconst (q := 35) C dX12_function_34 rfl (by decide) ?_
        refine u_put (q := 38) C kl12 fl_X12_120 ob_248 pt_248_10 rfl rfl rfl rfl dX12_function_35 rfl h (fun μ5 h => ?_)
        refine v_aloadn (q := 39) C dX12_function_38 rfl rfl ?_
        refine v_iloadn (q := 40) C dX12_function_39 rfl rfl ?_
        refine u_put (q := 43) C kl12 fl_X12_114 ob_248 pt_248_13 rfl rfl rfl rfl dX12_function_40 rfl h (fun μ6 h => ?_)
        refine v_aloadn (q := 44) C dX12_function_43 rfl rfl ?_
        refine v_aloadn (q := 45) C dX12_function_44 rfl rfl ?_
        refine u_getI (q := 48) C kl12 fl_X12_137 ob_248 pt_248_4 rfl rfl dX12_function_45 rfl ?_
        refine v_iloadn (q := 49) C dX12_function_48 rfl rfl ?_
        refine u_cVi2 (q := 52) C (c_X12_readsFunction h) sy_X12_readsFunction si_X12_readsFunction ml_X12_140 ob_248 (by decide) so_X12_readsFunction ⟨nb rfl, nb rfl⟩ (nb rfl) dX12_function_49 rfl (fun r8 μ7 h => ?_)
        refine v_if_ne (q := 55) (tgt := 63) C dX12_function_52 rfl rfl h (fun h => ?_) (fun h => ?_)
        · refine v_bipush (q := 57) C dX12_function_55 rfl (by decide) ?_
          refine v_aloadn (q := 58) C dX12_function_57 rfl rfl ?_
          refine u_getI (q := 61) C kl12 fl_X12_120 ob_248 pt_248_10 rfl rfl dX12_function_58 rfl ?_
          refine u_isub (q := 62) C dX12_function_61 rfl h (fun h => ?_)
          exact u_iret hR dX12_function_62 h
        · refine v_aloadn (q := 64) C dX12_function_63 rfl rfl ?_
          refine u_getR (q := 67) C kl12 fl_X12_19 ob_248 pt_248_5 (by decide) rfl rfl dX12_function_64 rfl ?_
          refine v_aloadn (q := 68) C dX12_function_67 rfl rfl ?_
          refine u_getI (q := 71) C kl12 fl_X12_137 ob_248 pt_248_4 rfl rfl dX12_function_68 rfl ?_
          refine v_iloadn (q := 72) C dX12_function_71 rfl rfl ?_
          refine u_iast (q := 73) C ia_252 dX12_function_72 rfl h (fun μ9 h => ?_)
          refine v_aloadn (q := 74) C dX12_function_73 rfl rfl ?_
          refine u_getR (q := 77) C kl12 fl_X12_22 ob_248 pt_248_6 (by decide) rfl rfl dX12_function_74 rfl ?_
          refine v_aloadn (q := 78) C dX12_function_77 rfl rfl ?_
          refine u_getI (q := 81) C kl12 fl_X12_137 ob_248 pt_248_4 rfl rfl dX12_function_78 rfl ?_
          refine v_iloadn (q := 82) C dX12_function_81 rfl rfl ?_
          refine u_iast (q := 83) C ia_253 dX12_function_82 rfl h (fun μ10 h => ?_)
          refine v_aloadn (q := 84) C dX12_function_83 rfl rfl ?_
          refine v_dup (q := 85) C dX12_function_84 rfl ?_
          refine u_getI (q := 88) C kl12 fl_X12_137 ob_248 pt_248_4 rfl rfl dX12_function_85 rfl ?_
          refine v_iconst (q := 89) C dX12_function_88 rfl (by decide) ?_
          refine u_iadd (q := 90) C dX12_function_89 rfl h (fun h => ?_)
          refine u_put (q := 93) C kl12 fl_X12_137 ob_248 pt_248_4 rfl rfl rfl rfl dX12_function_90 rfl h (fun μ11 h => ?_)
          refine v_aloadn (q := 94) C dX12_function_93 rfl rfl ?_
          refine u_getI (q := 97) C kl12 fl_X12_137 ob_248 pt_248_4 rfl rfl dX12_function_94 rfl ?_
          refine v_iconst (q := 98) C dX12_function_97 rfl (by decide) ?_
          refine u_isub (q := 99) C dX12_function_98 rfl h (fun h => ?_)
          exact u_iret hR dX12_function_99 h
theorem w_X12_generalizes_101 {X : ZX} (C : zC X cX12_generalizes RX12 7 none 2 48 274) {K : ZM → Prop} (hR : zRv X cX12_generalizes none 274 (KN (KV K)))  {x1 : Int} {x2 : Int} {x3 : Int} {x4 : Int} {s0 : Int} {s1 : Int} {μ : ZM} {G11 : Int → ZM → Prop} (hG11 : ∀ (x5 : Int) (μ : ZM), G11 x5 μ → zV X 11 [some (.inr 248), some (.inl x1), some (.inl x2), some (.inl x3), some (.inl x4), some (.inl x5), none] [] 274 (z_ov μ))  (h : P_X12_generalizes_101  G11 x1 x2 x3 x4 s0 s1 μ K) : zV X 101 [some (.inr 248), some (.inl x1), some (.inl x2), some (.inl x3), some (.inl x4), none, none] [.inl s1, .inl s0] 274 (z_ov μ) := by
  refine u_iadd (q := 102) C dX12_generalizes_101 rfl h (fun h => ?_)
  refine v_istore (q := 104) C dX12_generalizes_102 rfl (nb rfl) (L' := [some (.inr 248), some (.inl x1), some (.inl x2), some (.inl x3), some (.inl x4), some (.inl (s0 + s1)), none]) rfl ?_
  refine v_goto (q := 11) C dX12_generalizes_104 rfl ?_
  exact (hG11 _ _ h)
theorem w_X12_generalizes_83 {X : ZX} (C : zC X cX12_generalizes RX12 7 none 2 48 274) {K : ZM → Prop} (hR : zRv X cX12_generalizes none 274 (KN (KV K)))  {x1 : Int} {x2 : Int} {x3 : Int} {x4 : Int} {x5 : Int} {x6 : Int} {s1 : Int} {s2 : Int} {μ : ZM} {G11 : Int → ZM → Prop} (hG11 : ∀ (x5 : Int) (μ : ZM), G11 x5 μ → zV X 11 [some (.inr 248), some (.inl x1), some (.inl x2), some (.inl x3), some (.inl x4), some (.inl x5), none] [] 274 (z_ov μ))  (h : P_X12_generalizes_83  G11 x1 x2 x3 x4 x5 x6 s1 s2 μ K) : zV X 83 [some (.inr 248), some (.inl x1), some (.inl x2), some (.inl x3), some (.inl x4), some (.inl x5), some (.inl x6)] [.inl s2, .inl s1, .inr 248] 274 (z_ov μ) := by
  refine u_cVv2 (q := 86) C (c_X12_puts h) sy_X12_puts si_X12_puts ml_X12_150 ob_248 (by decide) so_X12_puts ⟨nb rfl, nb rfl⟩ (nb rfl) dX12_generalizes_83 rfl (fun μ4 h => ?_)
  refine v_iload (q := 88) C dX12_generalizes_86 rfl rfl ?_
  refine v_iload (q := 90) C dX12_generalizes_88 rfl rfl ?_
  refine v_if_eq (q := 93) (tgt := 100) C dX12_generalizes_90 rfl rfl h (fun h => ?_) (fun h => ?_)
  · refine v_iconst (q := 101) C dX12_generalizes_100 rfl (by decide) ?_
    exact v_mask [true, true, true, true, true, false, false] rfl (w_X12_generalizes_101  C hR hG11  h)
  · refine v_aloadn (q := 94) C dX12_generalizes_93 rfl rfl ?_
    refine u_getI (q := 97) C kl12 fl_X12_315 ob_248 pt_248_38 rfl rfl dX12_generalizes_94 rfl ?_
    refine v_goto (q := 101) C dX12_generalizes_97 rfl ?_
    exact v_mask [true, true, true, true, true, false, false] rfl (w_X12_generalizes_101  C hR hG11  h)
theorem w_X12_generalizes_62 {X : ZX} (C : zC X cX12_generalizes RX12 7 none 2 48 274) {K : ZM → Prop} (hR : zRv X cX12_generalizes none 274 (KN (KV K)))  {x1 : Int} {x2 : Int} {x3 : Int} {x4 : Int} {x5 : Int} {s0 : Int} {μ : ZM} {G11 : Int → ZM → Prop} (hG11 : ∀ (x5 : Int) (μ : ZM), G11 x5 μ → zV X 11 [some (.inr 248), some (.inl x1), some (.inl x2), some (.inl x3), some (.inl x4), some (.inl x5), none] [] 274 (z_ov μ))  (h : P_X12_generalizes_62  G11 x1 x2 x3 x4 x5 s0 μ K) : zV X 62 [some (.inr 248), some (.inl x1), some (.inl x2), some (.inl x3), some (.inl x4), some (.inl x5), none] [.inl s0] 274 (z_ov μ) := by
  refine v_istore (q := 64) C dX12_generalizes_62 rfl (nb rfl) (L' := [some (.inr 248), some (.inl x1), some (.inl x2), some (.inl x3), some (.inl x4), some (.inl x5), some (.inl s0)]) rfl ?_
  refine v_aloadn (q := 65) C dX12_generalizes_64 rfl rfl ?_
  refine v_iload (q := 67) C dX12_generalizes_65 rfl rfl ?_
  refine v_iload (q := 69) C dX12_generalizes_67 rfl rfl ?_
  refine v_if_eq (q := 72) (tgt := 76) C dX12_generalizes_69 rfl rfl h (fun h => ?_) (fun h => ?_)
  · refine v_aloadn (q := 77) C dX12_generalizes_76 rfl rfl ?_
    refine v_iloadn (q := 78) C dX12_generalizes_77 rfl rfl ?_
    refine v_iload (q := 80) C dX12_generalizes_78 rfl rfl ?_
    refine u_cVi2 (q := 83) C (c_X12_at h) sy_X12_at si_X12_at ml_X12_92 ob_248 (by decide) so_X12_at ⟨nb rfl, nb rfl⟩ (nb rfl) dX12_generalizes_80 rfl (fun r3 μ2 h => ?_)
    exact (w_X12_generalizes_83  C hR hG11  h)
  · refine v_iloadn (q := 73) C dX12_generalizes_72 rfl rfl ?_
    refine v_goto (q := 83) C dX12_generalizes_73 rfl ?_
    exact (w_X12_generalizes_83  C hR hG11  h)
theorem w_X12_generalizes_61 {X : ZX} (C : zC X cX12_generalizes RX12 7 none 2 48 274) {K : ZM → Prop} (hR : zRv X cX12_generalizes none 274 (KN (KV K)))  {x1 : Int} {x2 : Int} {x3 : Int} {x4 : Int} {x5 : Int} {μ : ZM} {G11 : Int → ZM → Prop} (hG11 : ∀ (x5 : Int) (μ : ZM), G11 x5 μ → zV X 11 [some (.inr 248), some (.inl x1), some (.inl x2), some (.inl x3), some (.inl x4), some (.inl x5), none] [] 274 (z_ov μ))  (h : P_X12_generalizes_61  G11 x1 x2 x3 x4 x5 μ K) : zV X 61 [some (.inr 248), some (.inl x1), some (.inl x2), some (.inl x3), some (.inl x4), some (.inl x5), none] [] 274 (z_ov μ) := by
  refine v_iconst (q := 62) C dX12_generalizes_61 rfl (by decide) ?_
  exact (w_X12_generalizes_62  C hR hG11  h)
theorem w_X12_generalizes_11 {X : ZX} (C : zC X cX12_generalizes RX12 7 none 2 48 274) {K : ZM → Prop} (hR : zRv X cX12_generalizes none 274 (KN (KV K)))  {x1 : Int} {x2 : Int} {x3 : Int} {x4 : Int} {x5 : Int} {μ : ZM}   (h : P_X12_generalizes_11   x1 x2 x3 x4 x5 μ K) : zV X 11 [some (.inr 248), some (.inl x1), some (.inl x2), some (.inl x3), some (.inl x4), some (.inl x5), none] [] 274 (z_ov μ) := by
  refine h (fun x5 μ => zV X 11 [some (.inr 248), some (.inl x1), some (.inl x2), some (.inl x3), some (.inl x4), some (.inl x5), none] [] 274 (z_ov μ)) (fun x5 μ h => ?_)
  refine v_iload (q := 13) C dX12_generalizes_11 rfl rfl ?_
  refine v_aloadn (q := 14) C dX12_generalizes_13 rfl rfl ?_
  refine u_getR (q := 17) C kl12 fl_X12_13 ob_248 pt_248_1 (by decide) rfl rfl dX12_generalizes_14 rfl ?_
  refine v_iloadn (q := 18) C dX12_generalizes_17 rfl rfl ?_
  refine u_iald (q := 19) C ia_250 dX12_generalizes_18 rfl h (fun h => ?_)
  refine v_icmp_ge (q := 22) (tgt := 107) C dX12_generalizes_19 rfl rfl h (fun h => ?_) (fun h => ?_)
  · exact u_vret hR dX12_generalizes_107 h
  · refine v_iload (q := 24) C dX12_generalizes_22 rfl rfl ?_
    refine v_aloadn (q := 25) C dX12_generalizes_24 rfl rfl ?_
    refine u_getI (q := 28) C kl12 fl_X12_315 ob_248 pt_248_38 rfl rfl dX12_generalizes_25 rfl ?_
    refine u_iadd (q := 29) C dX12_generalizes_28 rfl h (fun h => ?_)
    refine v_aloadn (q := 30) C dX12_generalizes_29 rfl rfl ?_
    refine u_getR (q := 33) C kl12 fl_X12_13 ob_248 pt_248_1 (by decide) rfl rfl dX12_generalizes_30 rfl ?_
    refine v_iloadn (q := 34) C dX12_generalizes_33 rfl rfl ?_
    refine u_iald (q := 35) C ia_250 dX12_generalizes_34 rfl h (fun h => ?_)
    refine v_icmp_gt (q := 38) (tgt := 61) C dX12_generalizes_35 rfl rfl h (fun h => ?_) (fun h => ?_)
    · exact (w_X12_generalizes_61  C hR (fun _ _ h => h)  h)
    · refine v_aloadn (q := 39) C dX12_generalizes_38 rfl rfl ?_
      refine v_iloadn (q := 40) C dX12_generalizes_39 rfl rfl ?_
      refine v_iload (q := 42) C dX12_generalizes_40 rfl rfl ?_
      refine v_iloadn (q := 43) C dX12_generalizes_42 rfl rfl ?_
      refine v_aloadn (q := 44) C dX12_generalizes_43 rfl rfl ?_
      refine u_getI (q := 47) C kl12 fl_X12_321 ob_248 pt_248_37 rfl rfl dX12_generalizes_44 rfl ?_
      refine v_aloadn (q := 48) C dX12_generalizes_47 rfl rfl ?_
      refine u_getI (q := 51) C kl12 fl_X12_315 ob_248 pt_248_38 rfl rfl dX12_generalizes_48 rfl ?_
      refine u_cVi5 (q := 54) C (c_X12_isSamePart h) sy_X12_isSamePart si_X12_isSamePart ml_X12_282 ob_248 (by decide) so_X12_isSamePart ⟨nb rfl, nb rfl⟩ (nb rfl) dX12_generalizes_51 rfl (fun r6 μ5 h => ?_)
      refine v_if_eq (q := 57) (tgt := 61) C dX12_generalizes_54 rfl rfl h (fun h => ?_) (fun h => ?_)
      · exact (w_X12_generalizes_61  C hR (fun _ _ h => h)  h)
      · refine v_iconst (q := 58) C dX12_generalizes_57 rfl (by decide) ?_
        refine v_goto (q := 62) C dX12_generalizes_58 rfl ?_
        exact (w_X12_generalizes_62  C hR (fun _ _ h => h)  h)
theorem c_X12_generalizes {x1 : Int} {x2 : Int} {x3 : Int} {x4 : Int} {μ : ZM} {K : ZM → Prop} (h : P_X12_generalizes  x1 x2 x3 x4 μ K) : zMu yX12_generalizes cX12_generalizes 7 none 2 48 [.inr 248, .inl x1, .inl x2, .inl x3, .inl x4] μ (KV K) := by
  refine zMet_of (L0 := [some (.inr 248), some (.inl x1), some (.inl x2), some (.inl x3), some (.inl x4), none, none]) sy_X12_generalizes rfl (nb rfl) (Nat.le_refl _) (fun X C _ _ _ hR => ?_)
  have C : zC X cX12_generalizes RX12 7 none 2 48 274 := C
  refine v_aloadn (q := 1) C dX12_generalizes_0 rfl rfl ?_
  refine u_getR (q := 4) C kl12 fl_X12_13 ob_248 pt_248_1 (by decide) rfl rfl dX12_generalizes_1 rfl ?_
  refine v_iload (q := 6) C dX12_generalizes_4 rfl rfl ?_
  refine v_iconst (q := 7) C dX12_generalizes_6 rfl (by decide) ?_
  refine u_iast (q := 8) C ia_250 dX12_generalizes_7 rfl h (fun μ1 h => ?_)
  refine v_iconst (q := 9) C dX12_generalizes_8 rfl (by decide) ?_
  refine v_istore (q := 11) C dX12_generalizes_9 rfl (nb rfl) (L' := [some (.inr 248), some (.inl x1), some (.inl x2), some (.inl x3), some (.inl x4), some (.inl 0), none]) rfl ?_
  exact (w_X12_generalizes_11  C hR   h)
theorem w_X12_makesGeneral_51 {X : ZX} (C : zC X cX12_makesGeneral RX12 4 (some .int) 5 111 274) {K : Int → ZM → Prop} (hR : zRi X cX12_makesGeneral (some .int) 274 (KN (KI K)))  {x1 : Int} {x2 : Int} {μ : ZM}   (h : P_X12_makesGeneral_51   x1 x2 μ K) : zV X 51 [some (.inr 248), some (.inl x1), some (.inl x2), none] [] 274 (z_ov μ) := by
  refine v_aloadn (q := 52) C dX12_makesGeneral_51 rfl rfl ?_
  refine v_iloadn (q := 53) C dX12_makesGeneral_52 rfl rfl ?_
  refine v_bipush (q := 55) C dX12_makesGeneral_53 rfl (by decide) ?_
  refine u_cVv2 (q := 58) C (c_X12_copies h) sy_X12_copies si_X12_copies ml_X12_161 ob_248 (by decide) so_X12_copies ⟨nb rfl, nb rfl⟩ (nb rfl) dX12_makesGeneral_55 rfl (fun μ1 h => ?_)
  refine v_aloadn (q := 59) C dX12_makesGeneral_58 rfl rfl ?_
  refine v_iloadn (q := 60) C dX12_makesGeneral_59 rfl rfl ?_
  refine v_bipush (q := 62) C dX12_makesGeneral_60 rfl (by decide) ?_
  refine u_cVv2 (q := 65) C (c_X12_copies h) sy_X12_copies si_X12_copies ml_X12_161 ob_248 (by decide) so_X12_copies ⟨nb rfl, nb rfl⟩ (nb rfl) dX12_makesGeneral_62 rfl (fun μ2 h => ?_)
  refine v_bipush (q := 67) C dX12_makesGeneral_65 rfl (by decide) ?_
  exact u_iret hR dX12_makesGeneral_67 h
theorem w_X12_makesGeneral_37 {X : ZX} (C : zC X cX12_makesGeneral RX12 4 (some .int) 5 111 274) {K : Int → ZM → Prop} (hR : zRi X cX12_makesGeneral (some .int) 274 (KN (KI K)))  {x1 : Int} {x2 : Int} {x3 : Int} {μ : ZM}   (h : P_X12_makesGeneral_37   x1 x2 x3 μ K) : zV X 37 [some (.inr 248), some (.inl x1), some (.inl x2), some (.inl x3)] [] 274 (z_ov μ) := by
  refine v_iloadn (q := 38) C dX12_makesGeneral_37 rfl rfl ?_
  refine v_iconst (q := 39) C dX12_makesGeneral_38 rfl (by decide) ?_
  refine v_icmp_eq (q := 42) (tgt := 51) C dX12_makesGeneral_39 rfl rfl h (fun h => ?_) (fun h => ?_)
  · exact v_mask [true, true, true, false] rfl (w_X12_makesGeneral_51  C hR   h)
  · refine v_aloadn (q := 43) C dX12_makesGeneral_42 rfl rfl ?_
    refine v_iloadn (q := 44) C dX12_makesGeneral_43 rfl rfl ?_
    refine v_iloadn (q := 45) C dX12_makesGeneral_44 rfl rfl ?_
    refine u_cVi2 (q := 48) C (c_X12_findCommon h) sy_X12_findCommon si_X12_findCommon ml_X12_324 ob_248 (by decide) so_X12_findCommon ⟨nb rfl, nb rfl⟩ (nb rfl) dX12_makesGeneral_45 rfl (fun r4 μ3 h => ?_)
    refine v_if_ne (q := 51) (tgt := 68) C dX12_makesGeneral_48 rfl rfl h (fun h => ?_) (fun h => ?_)
    · exact v_mask [true, true, true, false] rfl (w_X12_makesGeneral_51  C hR   h)
    · refine v_aloadn (q := 69) C dX12_makesGeneral_68 rfl rfl ?_
      refine v_iloadn (q := 70) C dX12_makesGeneral_69 rfl rfl ?_
      refine v_iloadn (q := 71) C dX12_makesGeneral_70 rfl rfl ?_
      refine v_bipush (q := 73) C dX12_makesGeneral_71 rfl (by decide) ?_
      refine v_iloadn (q := 74) C dX12_makesGeneral_73 rfl rfl ?_
      refine u_iadd (q := 75) C dX12_makesGeneral_74 rfl h (fun h => ?_)
      refine v_bipush (q := 77) C dX12_makesGeneral_75 rfl (by decide) ?_
      refine u_cVv4 (q := 80) C (c_X12_generalizes h) sy_X12_generalizes si_X12_generalizes ml_X12_327 ob_248 (by decide) so_X12_generalizes ⟨nb rfl, nb rfl⟩ (nb rfl) dX12_makesGeneral_77 rfl (fun μ5 h => ?_)
      refine v_aloadn (q := 81) C dX12_makesGeneral_80 rfl rfl ?_
      refine v_iloadn (q := 82) C dX12_makesGeneral_81 rfl rfl ?_
      refine v_iloadn (q := 83) C dX12_makesGeneral_82 rfl rfl ?_
      refine v_bipush (q := 85) C dX12_makesGeneral_83 rfl (by decide) ?_
      refine v_iloadn (q := 86) C dX12_makesGeneral_85 rfl rfl ?_
      refine u_iadd (q := 87) C dX12_makesGeneral_86 rfl h (fun h => ?_)
      refine v_bipush (q := 89) C dX12_makesGeneral_87 rfl (by decide) ?_
      refine u_cVv4 (q := 92) C (c_X12_generalizes h) sy_X12_generalizes si_X12_generalizes ml_X12_327 ob_248 (by decide) so_X12_generalizes ⟨nb rfl, nb rfl⟩ (nb rfl) dX12_makesGeneral_89 rfl (fun μ6 h => ?_)
      refine v_iloadn (q := 93) C dX12_makesGeneral_92 rfl rfl ?_
      exact u_iret hR dX12_makesGeneral_93 h
theorem w_X12_makesGeneral_31 {X : ZX} (C : zC X cX12_makesGeneral RX12 4 (some .int) 5 111 274) {K : Int → ZM → Prop} (hR : zRi X cX12_makesGeneral (some .int) 274 (KN (KI K)))  {x1 : Int} {x2 : Int} {x3 : Int} {μ : ZM} {G2 : Int → ZM → Prop} (hG2 : ∀ (x3 : Int) (μ : ZM), G2 x3 μ → zV X 2 [some (.inr 248), some (.inl x1), some (.inl x2), some (.inl x3)] [] 274 (z_ov μ))  (h : P_X12_makesGeneral_31  G2 x1 x2 x3 μ K) : zV X 31 [some (.inr 248), some (.inl x1), some (.inl x2), some (.inl x3)] [] 274 (z_ov μ) := by
  refine u_iinc (q := 34) C dX12_makesGeneral_31 rfl (nb rfl) rfl (L' := [some (.inr 248), some (.inl x1), some (.inl x2), some (.inl (x3 + 1))]) rfl h (fun h => ?_)
  refine v_goto (q := 2) C dX12_makesGeneral_34 rfl ?_
  exact (hG2 _ _ h)
theorem w_X12_makesGeneral_2 {X : ZX} (C : zC X cX12_makesGeneral RX12 4 (some .int) 5 111 274) {K : Int → ZM → Prop} (hR : zRi X cX12_makesGeneral (some .int) 274 (KN (KI K)))  {x1 : Int} {x2 : Int} {x3 : Int} {μ : ZM}   (h : P_X12_makesGeneral_2   x1 x2 x3 μ K) : zV X 2 [some (.inr 248), some (.inl x1), some (.inl x2), some (.inl x3)] [] 274 (z_ov μ) := by
  refine h (fun x3 μ => zV X 2 [some (.inr 248), some (.inl x1), some (.inl x2), some (.inl x3)] [] 274 (z_ov μ)) (fun x3 μ h => ?_)
  refine v_iloadn (q := 3) C dX12_makesGeneral_2 rfl rfl ?_
  refine v_iconst (q := 4) C dX12_makesGeneral_3 rfl (by decide) ?_
  refine v_icmp_ge (q := 7) (tgt := 37) C dX12_makesGeneral_4 rfl rfl h (fun h => ?_) (fun h => ?_)
  · exact (w_X12_makesGeneral_37  C hR   h)
  · refine v_aloadn (q := 8) C dX12_makesGeneral_7 rfl rfl ?_
    refine v_iloadn (q := 9) C dX12_makesGeneral_8 rfl rfl ?_
    refine v_bipush (q := 11) C dX12_makesGeneral_9 rfl (by decide) ?_
    refine v_iloadn (q := 12) C dX12_makesGeneral_11 rfl rfl ?_
    refine u_iadd (q := 13) C dX12_makesGeneral_12 rfl h (fun h => ?_)
    refine u_cVi2 (q := 16) C (c_X12_hasSign h) sy_X12_hasSign si_X12_hasSign ml_X12_211 ob_248 (by decide) so_X12_hasSign ⟨nb rfl, nb rfl⟩ (nb rfl) dX12_makesGeneral_13 rfl (fun r8 μ7 h => ?_)
    refine v_if_ne (q := 19) (tgt := 31) C dX12_makesGeneral_16 rfl rfl h (fun h => ?_) (fun h => ?_)
    · refine v_aloadn (q := 20) C dX12_makesGeneral_19 rfl rfl ?_
      refine v_iloadn (q := 21) C dX12_makesGeneral_20 rfl rfl ?_
      refine v_bipush (q := 23) C dX12_makesGeneral_21 rfl (by decide) ?_
      refine v_iloadn (q := 24) C dX12_makesGeneral_23 rfl rfl ?_
      refine u_iadd (q := 25) C dX12_makesGeneral_24 rfl h (fun h => ?_)
      refine u_cVi2 (q := 28) C (c_X12_hasSign h) sy_X12_hasSign si_X12_hasSign ml_X12_211 ob_248 (by decide) so_X12_hasSign ⟨nb rfl, nb rfl⟩ (nb rfl) dX12_makesGeneral_25 rfl (fun r10 μ9 h => ?_)
      refine v_if_eq (q := 31) (tgt := 37) C dX12_makesGeneral_28 rfl rfl h (fun h => ?_) (fun h => ?_)
      · exact (w_X12_makesGeneral_37  C hR   h)
      · exact (w_X12_makesGeneral_31  C hR (fun _ _ h => h)  h)
    · exact (w_X12_makesGeneral_31  C hR (fun _ _ h => h)  h)
theorem c_X12_makesGeneral {x1 : Int} {x2 : Int} {μ : ZM} {K : Int → ZM → Prop} (h : P_X12_makesGeneral  x1 x2 μ K) : zMu yX12_makesGeneral cX12_makesGeneral 4 (some .int) 5 111 [.inr 248, .inl x1, .inl x2] μ (KI K) := by
  refine zMet_of (L0 := [some (.inr 248), some (.inl x1), some (.inl x2), none]) sy_X12_makesGeneral rfl (nb rfl) (Nat.le_refl _) (fun X C _ hR _ _ => ?_)
  have C : zC X cX12_makesGeneral RX12 4 (some .int) 5 111 274 := C
  refine v_iconst (q := 1) C dX12_makesGeneral_0 rfl (by decide) ?_
  refine v_istoren (q := 2) C dX12_makesGeneral_1 rfl (nb rfl) (L' := [some (.inr 248), some (.inl x1), some (.inl x2), some (.inl 0)]) rfl ?_
  exact (w_X12_makesGeneral_2  C hR   h)
theorem c_X12_told {x1 : Int} {x2 : Int} {μ : ZM} {K : Int → ZM → Prop} (h : P_X12_told  x1 x2 μ K) : zMu yX12_told cX12_told 3 (some .int) 1 22 [.inr 248, .inl x1, .inl x2] μ (KI K) := by
  refine zMet_of (L0 := [some (.inr 248), some (.inl x1), some (.inl x2)]) sy_X12_told rfl (nb rfl) (Nat.le_refl _) (fun X C _ hR _ _ => ?_)
  have C : zC X cX12_told RX12 3 (some .int) 1 22 274 := C
  refine v_iloadn (q := 1) C dX12_told_0 rfl rfl ?_
  refine v_bipush (q := 3) C dX12_told_1 rfl (by decide) ?_
  refine v_icmp_ne (q := 6) (tgt := 15) C dX12_told_3 rfl rfl h (fun h => ?_) (fun h => ?_)
  · refine v_aloadn (q := 7) C dX12_told_6 rfl rfl ?_
    refine u_getR (q := 10) C kl12 fl_X12_13 ob_248 pt_248_1 (by decide) rfl rfl dX12_told_7 rfl ?_
    refine v_iloadn (q := 11) C dX12_told_10 rfl rfl ?_
    refine u_iald (q := 12) C ia_250 dX12_told_11 rfl h (fun h => ?_)
    refine v_goto (q := 36) C dX12_told_12 rfl ?_
    exact u_iret hR dX12_told_36 h
  · refine v_iloadn (q := 16) C dX12_told_15 rfl rfl ?_
    refine v_aloadn (q := 17) C dX12_told_16 rfl rfl ?_
    refine u_getR (q := 20) C kl12 fl_X12_13 ob_248 pt_248_1 (by decide) rfl rfl dX12_told_17 rfl ?_
    refine v_iloadn (q := 21) C dX12_told_20 rfl rfl ?_
    refine u_iald (q := 22) C ia_250 dX12_told_21 rfl h (fun h => ?_)
    refine v_icmp_ge (q := 25) (tgt := 34) C dX12_told_22 rfl rfl h (fun h => ?_) (fun h => ?_)
    · refine v_bipush (q := 36) C dX12_told_34 rfl (by decide) ?_
      exact u_iret hR dX12_told_36 h
    · refine v_aloadn (q := 26) C dX12_told_25 rfl rfl ?_
      refine v_iloadn (q := 27) C dX12_told_26 rfl rfl ?_
      refine v_iloadn (q := 28) C dX12_told_27 rfl rfl ?_
      refine u_cVi2 (q := 31) C (c_X12_at h) sy_X12_at si_X12_at ml_X12_92 ob_248 (by decide) so_X12_at ⟨nb rfl, nb rfl⟩ (nb rfl) dX12_told_28 rfl (fun r2 μ1 h => ?_)
      refine v_goto (q := 36) C dX12_told_31 rfl ?_
      exact u_iret hR dX12_told_36 h
theorem w_X12_general_28 {X : ZX} (C : zC X cX12_general RX12 3 (some .int) 6 134 274) {K : Int → ZM → Prop} (hR : zRi X cX12_general (some .int) 274 (KN (KI K)))  {x1 : Int} {x2 : Int} {μ : ZM}   (h : P_X12_general_28   x1 x2 μ K) : zV X 28 [some (.inr 248), some (.inl x1), some (.inl x2)] [] 274 (z_ov μ) := by
  refine v_aloadn (q := 29) C dX12_general_28 rfl rfl ?_
  refine u_getI (q := 32) C kl12 fl_X12_164 ob_248 pt_248_9 rfl rfl dX12_general_29 rfl ?_
  refine v_if_ne (q := 35) (tgt := 38) C dX12_general_32 rfl rfl h (fun h => ?_) (fun h => ?_)
  · refine v_bipush (q := 37) C dX12_general_35 rfl (by decide) ?_
    exact u_iret hR dX12_general_37 h
  · refine v_aloadn (q := 39) C dX12_general_38 rfl rfl ?_
    refine v_iconst (q := 40) C dX12_general_39 rfl (by decide) ?_
    refine v_iconst (q := 41) C dX12_general_40 rfl (by decide) ?_
    refine u_cVi2 (q := 44) C (c_X12_makesGeneral h) sy_X12_makesGeneral si_X12_makesGeneral ml_X12_331 ob_248 (by decide) so_X12_makesGeneral ⟨nb rfl, nb rfl⟩ (nb rfl) dX12_general_41 rfl (fun r4 μ3 h => ?_)
    refine v_pop (q := 45) C dX12_general_44 rfl ?_
    refine v_aloadn (q := 46) C dX12_general_45 rfl rfl ?_
    refine v_bipush (q := 48) C dX12_general_46 rfl (by decide) ?_
    refine v_iloadn (q := 49) C dX12_general_48 rfl rfl ?_
    refine u_iadd (q := 50) C dX12_general_49 rfl h (fun h => ?_)
    refine v_iloadn (q := 51) C dX12_general_50 rfl rfl ?_
    refine u_cVi2 (q := 54) C (c_X12_told h) sy_X12_told si_X12_told ml_X12_168 ob_248 (by decide) so_X12_told ⟨nb rfl, nb rfl⟩ (nb rfl) dX12_general_51 rfl (fun r6 μ5 h => ?_)
    exact u_iret hR dX12_general_54 h
theorem c_X12_general {x1 : Int} {x2 : Int} {μ : ZM} {K : Int → ZM → Prop} (h : P_X12_general  x1 x2 μ K) : zMu yX12_general cX12_general 3 (some .int) 6 134 [.inr 248, .inl x1, .inl x2] μ (KI K) := by
  refine zMet_of (L0 := [some (.inr 248), some (.inl x1), some (.inl x2)]) sy_X12_general rfl (nb rfl) (Nat.le_refl _) (fun X C _ hR _ _ => ?_)
  have C : zC X cX12_general RX12 3 (some .int) 6 134 274 := C
  refine v_iloadn (q := 1) C dX12_general_0 rfl rfl ?_
  refine v_iconst (q := 2) C dX12_general_1 rfl (by decide) ?_
  refine v_iconst (q := 3) C dX12_general_2 rfl (by decide) ?_
  refine u_cSi3 (q := 6) C (c_X12_within h) sy_X12_within ss_X12_within ml_X12_96 ⟨nb rfl, nb rfl⟩ (nb rfl) dX12_general_3 rfl (fun r2 μ1 h => ?_)
  refine v_if_eq (q := 9) (tgt := 25) C dX12_general_6 rfl rfl h (fun h => ?_) (fun h => ?_)
  · refine v_bipush (q := 27) C dX12_general_25 rfl (by decide) ?_
    exact u_iret hR dX12_general_27 h
  · refine v_iloadn (q := 10) C dX12_general_9 rfl rfl ?_
    refine v_bipush (q := 12) C dX12_general_10 rfl (by decide) ?_
    refine v_icmp_eq (q := 15) (tgt := 28) C dX12_general_12 rfl rfl h (fun h => ?_) (fun h => ?_)
    · exact (w_X12_general_28  C hR   h)
    · refine v_iloadn (q := 16) C dX12_general_15 rfl rfl ?_
      refine v_iconst (q := 17) C dX12_general_16 rfl (by decide) ?_
      refine v_bipush (q := 19) C dX12_general_17 rfl (by decide) ?_
      refine u_cSi3 (q := 22) C (c_X12_within h) sy_X12_within ss_X12_within ml_X12_96 ⟨nb rfl, nb rfl⟩ (nb rfl) dX12_general_19 rfl (fun r8 μ7 h => ?_)
      refine v_if_ne (q := 25) (tgt := 28) C dX12_general_22 rfl rfl h (fun h => ?_) (fun h => ?_)
      · refine v_bipush (q := 27) C dX12_general_25 rfl (by decide) ?_
        exact u_iret hR dX12_general_27 h
      · exact (w_X12_general_28  C hR   h)
theorem w_X12_guesses_101 {X : ZX} (C : zC X cX12_guesses RX12 4 (some .int) 7 173 274) {K : Int → ZM → Prop} (hR : zRi X cX12_guesses (some .int) 274 (KN (KI K)))  {s1 : Int} {μ : ZM}   (h : P_X12_guesses_101   s1 μ K) : zV X 101 [some (.inr 248), none, none, none] [.inl s1, .inr 248] 274 (z_ov μ) := by
  refine v_aloadn (q := 102) C dX12_guesses_101 rfl rfl ?_
  refine v_iconst (q := 103) C dX12_guesses_102 rfl (by decide) ?_
  refine v_iconst (q := 104) C dX12_guesses_103 rfl (by decide) ?_
  refine u_cVi2 (q := 107) C (c_X12_slotOf h) sy_X12_slotOf si_X12_slotOf ml_X12_346 ob_248 (by decide) so_X12_slotOf ⟨nb rfl, nb rfl⟩ (nb rfl) dX12_guesses_104 rfl (fun r13 μ12 h => ?_)
  refine u_cVv2 (q := 110) C (c_X12_copies h) sy_X12_copies si_X12_copies ml_X12_161 ob_248 (by decide) so_X12_copies ⟨nb rfl, nb rfl⟩ (nb rfl) dX12_guesses_107 rfl (fun μ14 h => ?_)
  refine v_bipush (q := 112) C dX12_guesses_110 rfl (by decide) ?_
  exact u_iret hR dX12_guesses_112 h
theorem w_X12_guesses_79 {X : ZX} (C : zC X cX12_guesses RX12 4 (some .int) 7 173 274) {K : Int → ZM → Prop} (hR : zRi X cX12_guesses (some .int) 274 (KN (KI K)))  {x2 : Int} {x3 : Int} {s1 : Int} {μ : ZM}   (h : P_X12_guesses_79   x2 x3 s1 μ K) : zV X 79 [some (.inr 248), none, some (.inl x2), some (.inl x3)] [.inl s1, .inr 248] 274 (z_ov μ) := by
  refine v_aloadn (q := 80) C dX12_guesses_79 rfl rfl ?_
  refine v_iconst (q := 81) C dX12_guesses_80 rfl (by decide) ?_
  refine v_iconst (q := 82) C dX12_guesses_81 rfl (by decide) ?_
  refine u_cVi2 (q := 85) C (c_X12_slotOf h) sy_X12_slotOf si_X12_slotOf ml_X12_346 ob_248 (by decide) so_X12_slotOf ⟨nb rfl, nb rfl⟩ (nb rfl) dX12_guesses_82 rfl (fun r10 μ9 h => ?_)
  refine u_cVv2 (q := 88) C (c_X12_copies h) sy_X12_copies si_X12_copies ml_X12_161 ob_248 (by decide) so_X12_copies ⟨nb rfl, nb rfl⟩ (nb rfl) dX12_guesses_85 rfl (fun μ11 h => ?_)
  refine v_aloadn (q := 89) C dX12_guesses_88 rfl rfl ?_
  refine v_iloadn (q := 90) C dX12_guesses_89 rfl rfl ?_
  refine v_bipush (q := 92) C dX12_guesses_90 rfl (by decide) ?_
  refine v_icmp_ne (q := 95) (tgt := 99) C dX12_guesses_92 rfl rfl h (fun h => ?_) (fun h => ?_)
  · refine v_iloadn (q := 96) C dX12_guesses_95 rfl rfl ?_
    refine v_goto (q := 101) C dX12_guesses_96 rfl ?_
    exact v_mask [true, false, false, false] rfl (w_X12_guesses_101  C hR   h)
  · refine v_bipush (q := 101) C dX12_guesses_99 rfl (by decide) ?_
    exact v_mask [true, false, false, false] rfl (w_X12_guesses_101  C hR   h)
theorem w_X12_guesses_48 {X : ZX} (C : zC X cX12_guesses RX12 4 (some .int) 7 173 274) {K : Int → ZM → Prop} (hR : zRi X cX12_guesses (some .int) 274 (KN (KI K)))  {x1 : Int} {x2 : Int} {s0 : Int} {μ : ZM}   (h : P_X12_guesses_48   x1 x2 s0 μ K) : zV X 48 [some (.inr 248), some (.inl x1), some (.inl x2), none] [.inl s0] 274 (z_ov μ) := by
  refine v_istoren (q := 49) C dX12_guesses_48 rfl (nb rfl) (L' := [some (.inr 248), some (.inl x1), some (.inl x2), some (.inl s0)]) rfl ?_
  refine v_aloadn (q := 50) C dX12_guesses_49 rfl rfl ?_
  refine v_bipush (q := 52) C dX12_guesses_50 rfl (by decide) ?_
  refine v_iloadn (q := 53) C dX12_guesses_52 rfl rfl ?_
  refine u_cVv2 (q := 56) C (c_X12_notesIt h) sy_X12_notesIt si_X12_notesIt ml_X12_308 ob_248 (by decide) so_X12_notesIt ⟨nb rfl, nb rfl⟩ (nb rfl) dX12_guesses_53 rfl (fun μ7 h => ?_)
  refine v_aloadn (q := 57) C dX12_guesses_56 rfl rfl ?_
  refine v_dup (q := 58) C dX12_guesses_57 rfl ?_
  refine u_getI (q := 61) C kl12 fl_X12_334 ob_248 pt_248_46 rfl rfl dX12_guesses_58 rfl ?_
  refine v_iconst (q := 62) C dX12_guesses_61 rfl (by decide) ?_
  refine u_iadd (q := 63) C dX12_guesses_62 rfl h (fun h => ?_)
  refine u_put (q := 66) C kl12 fl_X12_334 ob_248 pt_248_46 rfl rfl rfl rfl dX12_guesses_63 rfl h (fun μ8 h => ?_)
  refine v_aloadn (q := 67) C dX12_guesses_66 rfl rfl ?_
  refine v_iloadn (q := 68) C dX12_guesses_67 rfl rfl ?_
  refine v_bipush (q := 70) C dX12_guesses_68 rfl (by decide) ?_
  refine v_icmp_ne (q := 73) (tgt := 77) C dX12_guesses_70 rfl rfl h (fun h => ?_) (fun h => ?_)
  · refine v_iloadn (q := 74) C dX12_guesses_73 rfl rfl ?_
    refine v_goto (q := 79) C dX12_guesses_74 rfl ?_
    exact v_mask [true, false, true, true] rfl (w_X12_guesses_79  C hR   h)
  · refine v_bipush (q := 79) C dX12_guesses_77 rfl (by decide) ?_
    exact v_mask [true, false, true, true] rfl (w_X12_guesses_79  C hR   h)
theorem w_X12_guesses_46 {X : ZX} (C : zC X cX12_guesses RX12 4 (some .int) 7 173 274) {K : Int → ZM → Prop} (hR : zRi X cX12_guesses (some .int) 274 (KN (KI K)))  {x1 : Int} {x2 : Int} {μ : ZM}   (h : P_X12_guesses_46   x1 x2 μ K) : zV X 46 [some (.inr 248), some (.inl x1), some (.inl x2), none] [] 274 (z_ov μ) := by
  refine v_bipush (q := 48) C dX12_guesses_46 rfl (by decide) ?_
  exact (w_X12_guesses_48  C hR   h)
theorem c_X12_guesses  {μ : ZM} {K : Int → ZM → Prop} (h : P_X12_guesses   μ K) : zMu yX12_guesses cX12_guesses 4 (some .int) 7 173 [.inr 248] μ (KI K) := by
  refine zMet_of (L0 := [some (.inr 248), none, none, none]) sy_X12_guesses rfl (nb rfl) (Nat.le_refl _) (fun X C _ hR _ _ => ?_)
  have C : zC X cX12_guesses RX12 4 (some .int) 7 173 274 := C
  refine v_aloadn (q := 1) C dX12_guesses_0 rfl rfl ?_
  refine v_bipush (q := 3) C dX12_guesses_1 rfl (by decide) ?_
  refine v_iconst (q := 4) C dX12_guesses_3 rfl (by decide) ?_
  refine u_cVi2 (q := 7) C (c_X12_slotOf h) sy_X12_slotOf si_X12_slotOf ml_X12_346 ob_248 (by decide) so_X12_slotOf ⟨nb rfl, nb rfl⟩ (nb rfl) dX12_guesses_4 rfl (fun r2 μ1 h => ?_)
  refine v_istoren (q := 8) C dX12_guesses_7 rfl (nb rfl) (L' := [some (.inr 248), some (.inl r2), none, none]) rfl ?_
  refine v_aloadn (q := 9) C dX12_guesses_8 rfl rfl ?_
  refine v_bipush (q := 11) C dX12_guesses_9 rfl (by decide) ?_
  refine v_iconst (q := 12) C dX12_guesses_11 rfl (by decide) ?_
  refine u_cVi2 (q := 15) C (c_X12_slotOf h) sy_X12_slotOf si_X12_slotOf ml_X12_346 ob_248 (by decide) so_X12_slotOf ⟨nb rfl, nb rfl⟩ (nb rfl) dX12_guesses_12 rfl (fun r4 μ3 h => ?_)
  refine v_istoren (q := 16) C dX12_guesses_15 rfl (nb rfl) (L' := [some (.inr 248), some (.inl r2), some (.inl r4), none]) rfl ?_
  refine v_aloadn (q := 17) C dX12_guesses_16 rfl rfl ?_
  refine v_iloadn (q := 18) C dX12_guesses_17 rfl rfl ?_
  refine v_iloadn (q := 19) C dX12_guesses_18 rfl rfl ?_
  refine u_cVi2 (q := 22) C (c_X12_makesGeneral h) sy_X12_makesGeneral si_X12_makesGeneral ml_X12_331 ob_248 (by decide) so_X12_makesGeneral ⟨nb rfl, nb rfl⟩ (nb rfl) dX12_guesses_19 rfl (fun r6 μ5 h => ?_)
  refine v_istoren (q := 23) C dX12_guesses_22 rfl (nb rfl) (L' := [some (.inr 248), some (.inl r2), some (.inl r4), some (.inl r6)]) rfl ?_
  refine v_iloadn (q := 24) C dX12_guesses_23 rfl rfl ?_
  refine v_bipush (q := 26) C dX12_guesses_24 rfl (by decide) ?_
  refine v_icmp_eq (q := 29) (tgt := 46) C dX12_guesses_26 rfl rfl h (fun h => ?_) (fun h => ?_)
  · exact v_mask [true, true, true, false] rfl (w_X12_guesses_46  C hR   h)
  · refine v_aloadn (q := 30) C dX12_guesses_29 rfl rfl ?_
    refine v_bipush (q := 32) C dX12_guesses_30 rfl (by decide) ?_
    refine v_bipush (q := 34) C dX12_guesses_32 rfl (by decide) ?_
    refine u_cVi2 (q := 37) C (c_X12_counterexample h) sy_X12_counterexample si_X12_counterexample ml_X12_218 ob_248 (by decide) so_X12_counterexample ⟨nb rfl, nb rfl⟩ (nb rfl) dX12_guesses_34 rfl (fun r16 μ15 h => ?_)
    refine v_bipush (q := 39) C dX12_guesses_37 rfl (by decide) ?_
    refine v_icmp_ne (q := 42) (tgt := 46) C dX12_guesses_39 rfl rfl h (fun h => ?_) (fun h => ?_)
    · refine v_iloadn (q := 43) C dX12_guesses_42 rfl rfl ?_
      refine v_goto (q := 48) C dX12_guesses_43 rfl ?_
      exact v_mask [true, true, true, false] rfl (w_X12_guesses_48  C hR   h)
    · exact v_mask [true, true, true, false] rfl (w_X12_guesses_46  C hR   h)
theorem c_X12_holds {x1 : Int} {x2 : Int} {x3 : Int} {μ : ZM} {K : Int → ZM → Prop} (h : P_X12_holds  x1 x2 x3 μ K) : zMu yX12_holds cX12_holds 4 (some .int) 6 148 [.inr 248, .inl x1, .inl x2, .inl x3] μ (KI K) := by
  refine zMet_of (L0 := [some (.inr 248), some (.inl x1), some (.inl x2), some (.inl x3)]) sy_X12_holds rfl (nb rfl) (Nat.le_refl _) (fun X C _ hR _ _ => ?_)
  have C : zC X cX12_holds RX12 4 (some .int) 6 148 274 := C
  refine v_iloadn (q := 1) C dX12_holds_0 rfl rfl ?_
  refine v_iconst (q := 2) C dX12_holds_1 rfl (by decide) ?_
  refine v_iconst (q := 3) C dX12_holds_2 rfl (by decide) ?_
  refine u_cSi3 (q := 6) C (c_X12_within h) sy_X12_within ss_X12_within ml_X12_96 ⟨nb rfl, nb rfl⟩ (nb rfl) dX12_holds_3 rfl (fun r2 μ1 h => ?_)
  refine v_if_eq (q := 9) (tgt := 27) C dX12_holds_6 rfl rfl h (fun h => ?_) (fun h => ?_)
  · refine v_bipush (q := 29) C dX12_holds_27 rfl (by decide) ?_
    exact u_iret hR dX12_holds_29 h
  · refine v_iloadn (q := 10) C dX12_holds_9 rfl rfl ?_
    refine v_iconst (q := 11) C dX12_holds_10 rfl (by decide) ?_
    refine v_iconst (q := 12) C dX12_holds_11 rfl (by decide) ?_
    refine u_cSi3 (q := 15) C (c_X12_within h) sy_X12_within ss_X12_within ml_X12_96 ⟨nb rfl, nb rfl⟩ (nb rfl) dX12_holds_12 rfl (fun r4 μ3 h => ?_)
    refine v_if_eq (q := 18) (tgt := 27) C dX12_holds_15 rfl rfl h (fun h => ?_) (fun h => ?_)
    · refine v_bipush (q := 29) C dX12_holds_27 rfl (by decide) ?_
      exact u_iret hR dX12_holds_29 h
    · refine v_iloadn (q := 19) C dX12_holds_18 rfl rfl ?_
      refine v_iconst (q := 20) C dX12_holds_19 rfl (by decide) ?_
      refine v_iconst (q := 21) C dX12_holds_20 rfl (by decide) ?_
      refine u_cSi3 (q := 24) C (c_X12_within h) sy_X12_within ss_X12_within ml_X12_96 ⟨nb rfl, nb rfl⟩ (nb rfl) dX12_holds_21 rfl (fun r6 μ5 h => ?_)
      refine v_if_ne (q := 27) (tgt := 30) C dX12_holds_24 rfl rfl h (fun h => ?_) (fun h => ?_)
      · refine v_bipush (q := 29) C dX12_holds_27 rfl (by decide) ?_
        exact u_iret hR dX12_holds_29 h
      · refine v_aloadn (q := 31) C dX12_holds_30 rfl rfl ?_
        refine u_getI (q := 34) C kl12 fl_X12_164 ob_248 pt_248_9 rfl rfl dX12_holds_31 rfl ?_
        refine v_if_eq (q := 37) (tgt := 49) C dX12_holds_34 rfl rfl h (fun h => ?_) (fun h => ?_)
        · refine v_bipush (q := 51) C dX12_holds_49 rfl (by decide) ?_
          exact u_iret hR dX12_holds_51 h
        · refine v_aloadn (q := 38) C dX12_holds_37 rfl rfl ?_
          refine v_iconst (q := 39) C dX12_holds_38 rfl (by decide) ?_
          refine v_iconst (q := 40) C dX12_holds_39 rfl (by decide) ?_
          refine v_iloadn (q := 41) C dX12_holds_40 rfl rfl ?_
          refine v_iloadn (q := 42) C dX12_holds_41 rfl rfl ?_
          refine v_iloadn (q := 43) C dX12_holds_42 rfl rfl ?_
          refine u_cVi5 (q := 46) C (c_X12_holdsBy h) sy_X12_holdsBy si_X12_holdsBy ml_X12_207 ob_248 (by decide) so_X12_holdsBy ⟨nb rfl, nb rfl⟩ (nb rfl) dX12_holds_43 rfl (fun r8 μ7 h => ?_)
          refine v_goto (q := 51) C dX12_holds_46 rfl ?_
          exact u_iret hR dX12_holds_51 h
theorem c_X12_isKnown {x1 : Int} {μ : ZM} {K : Int → ZM → Prop} (h : P_X12_isKnown  x1 μ K) : zMu yX12_isKnown cX12_isKnown 2 (some .boolean) 1 22 [.inr 248, .inl x1] μ (KI K) := by
  refine zMet_of (L0 := [some (.inr 248), some (.inl x1)]) sy_X12_isKnown rfl (nb rfl) (Nat.le_refl _) (fun X C _ hR _ _ => ?_)
  have C : zC X cX12_isKnown RX12 2 (some .boolean) 1 22 274 := C
  refine v_iloadn (q := 1) C dX12_isKnown_0 rfl rfl ?_
  refine v_iconst (q := 2) C dX12_isKnown_1 rfl (by decide) ?_
  refine v_aloadn (q := 3) C dX12_isKnown_2 rfl rfl ?_
  refine u_getI (q := 6) C kl12 fl_X12_171 ob_248 pt_248_35 rfl rfl dX12_isKnown_3 rfl ?_
  refine v_iconst (q := 7) C dX12_isKnown_6 rfl (by decide) ?_
  refine u_isub (q := 8) C dX12_isKnown_7 rfl h (fun h => ?_)
  refine u_cSi3 (q := 11) C (c_X12_within h) sy_X12_within ss_X12_within ml_X12_96 ⟨nb rfl, nb rfl⟩ (nb rfl) dX12_isKnown_8 rfl (fun r2 μ1 h => ?_)
  exact u_zret hR dX12_isKnown_11 h
theorem w_X12_lemma_38 {X : ZX} (C : zC X cX12_lemma RX12 4 (some .int) 2 44 274) {K : Int → ZM → Prop} (hR : zRi X cX12_lemma (some .int) 274 (KN (KI K)))  {x1 : Int} {x2 : Int} {x3 : Int} {μ : ZM}   (h : P_X12_lemma_38   x1 x2 x3 μ K) : zV X 38 [some (.inr 248), some (.inl x1), some (.inl x2), some (.inl x3)] [] 274 (z_ov μ) := by
  refine v_aloadn (q := 39) C dX12_lemma_38 rfl rfl ?_
  refine v_bipush (q := 41) C dX12_lemma_39 rfl (by decide) ?_
  refine v_iconst (q := 42) C dX12_lemma_41 rfl (by decide) ?_
  refine v_iloadn (q := 43) C dX12_lemma_42 rfl rfl ?_
  refine u_imul (q := 44) C dX12_lemma_43 rfl h (fun h => ?_)
  refine u_iadd (q := 45) C dX12_lemma_44 rfl h (fun h => ?_)
  refine v_iloadn (q := 46) C dX12_lemma_45 rfl rfl ?_
  refine u_iadd (q := 47) C dX12_lemma_46 rfl h (fun h => ?_)
  refine v_iloadn (q := 48) C dX12_lemma_47 rfl rfl ?_
  refine u_cVi2 (q := 51) C (c_X12_told h) sy_X12_told si_X12_told ml_X12_168 ob_248 (by decide) so_X12_told ⟨nb rfl, nb rfl⟩ (nb rfl) dX12_lemma_48 rfl (fun r6 μ5 h => ?_)
  exact u_iret hR dX12_lemma_51 h
theorem c_X12_lemma {x1 : Int} {x2 : Int} {x3 : Int} {μ : ZM} {K : Int → ZM → Prop} (h : P_X12_lemma  x1 x2 x3 μ K) : zMu yX12_lemma cX12_lemma 4 (some .int) 2 44 [.inr 248, .inl x1, .inl x2, .inl x3] μ (KI K) := by
  refine zMet_of (L0 := [some (.inr 248), some (.inl x1), some (.inl x2), some (.inl x3)]) sy_X12_lemma rfl (nb rfl) (Nat.le_refl _) (fun X C _ hR _ _ => ?_)
  have C : zC X cX12_lemma RX12 4 (some .int) 2 44 274 := C
  refine v_aloadn (q := 1) C dX12_lemma_0 rfl rfl ?_
  refine v_iloadn (q := 2) C dX12_lemma_1 rfl rfl ?_
  refine u_cVi1 (q := 5) C (c_X12_isKnown h) sy_X12_isKnown si_X12_isKnown ml_X12_383 ob_248 (by decide) so_X12_isKnown ⟨nb rfl, nb rfl⟩ (nb rfl) dX12_lemma_2 rfl (fun r2 μ1 h => ?_)
  refine v_if_ne (q := 8) (tgt := 10) C dX12_lemma_5 rfl rfl h (fun h => ?_) (fun h => ?_)
  · refine v_iconst (q := 9) C dX12_lemma_8 rfl (by decide) ?_
    exact u_iret hR dX12_lemma_9 h
  · refine v_iloadn (q := 11) C dX12_lemma_10 rfl rfl ?_
    refine v_iconst (q := 12) C dX12_lemma_11 rfl (by decide) ?_
    refine v_iconst (q := 13) C dX12_lemma_12 rfl (by decide) ?_
    refine u_cSi3 (q := 16) C (c_X12_within h) sy_X12_within ss_X12_within ml_X12_96 ⟨nb rfl, nb rfl⟩ (nb rfl) dX12_lemma_13 rfl (fun r4 μ3 h => ?_)
    refine v_if_eq (q := 19) (tgt := 35) C dX12_lemma_16 rfl rfl h (fun h => ?_) (fun h => ?_)
    · refine v_bipush (q := 37) C dX12_lemma_35 rfl (by decide) ?_
      exact u_iret hR dX12_lemma_37 h
    · refine v_iloadn (q := 20) C dX12_lemma_19 rfl rfl ?_
      refine v_bipush (q := 22) C dX12_lemma_20 rfl (by decide) ?_
      refine v_icmp_eq (q := 25) (tgt := 38) C dX12_lemma_22 rfl rfl h (fun h => ?_) (fun h => ?_)
      · exact (w_X12_lemma_38  C hR   h)
      · refine v_iloadn (q := 26) C dX12_lemma_25 rfl rfl ?_
        refine v_iconst (q := 27) C dX12_lemma_26 rfl (by decide) ?_
        refine v_bipush (q := 29) C dX12_lemma_27 rfl (by decide) ?_
        refine u_cSi3 (q := 32) C (c_X12_within h) sy_X12_within ss_X12_within ml_X12_96 ⟨nb rfl, nb rfl⟩ (nb rfl) dX12_lemma_29 rfl (fun r8 μ7 h => ?_)
        refine v_if_ne (q := 35) (tgt := 38) C dX12_lemma_32 rfl rfl h (fun h => ?_) (fun h => ?_)
        · refine v_bipush (q := 37) C dX12_lemma_35 rfl (by decide) ?_
          exact u_iret hR dX12_lemma_37 h
        · exact (w_X12_lemma_38  C hR   h)
theorem c_X12_many {x1 : Int} {μ : ZM} {K : Int → ZM → Prop} (h : P_X12_many  x1 μ K) : zMu yX12_many cX12_many 2 (some .int) 0 0 [.inr 248, .inl x1] μ (KI K) := by
  refine zMet_of (L0 := [some (.inr 248), some (.inl x1)]) sy_X12_many rfl (nb rfl) (Nat.le_refl _) (fun X C _ hR _ _ => ?_)
  have C : zC X cX12_many RX12 2 (some .int) 0 0 274 := C
  refine v_iloadn (q := 1) C dX12_many_0 rfl rfl ?_
  by_cases hk0 : x1 = 0
  · replace h := z_ifp h hk0
    refine v_tableIn (off := 31) (tgt := 32) C dX12_many_1 ⟨by omega, by omega⟩ (by rw [hk0]; rfl) rfl ?_
    refine v_aloadn (q := 33) C dX12_many_32 rfl rfl ?_
    refine u_getI (q := 36) C kl12 fl_X12_137 ob_248 pt_248_4 rfl rfl dX12_many_33 rfl ?_
    exact u_iret hR dX12_many_36 h
  · replace h := z_ifn h hk0
    by_cases hk1 : x1 = 1
    · replace h := z_ifp h hk1
      refine v_tableIn (off := 36) (tgt := 37) C dX12_many_1 ⟨by omega, by omega⟩ (by rw [hk1]; rfl) rfl ?_
      refine v_aloadn (q := 38) C dX12_many_37 rfl rfl ?_
      refine u_getI (q := 41) C kl12 fl_X12_171 ob_248 pt_248_35 rfl rfl dX12_many_38 rfl ?_
      exact u_iret hR dX12_many_41 h
    · replace h := z_ifn h hk1
      by_cases hk2 : x1 = 2
      · replace h := z_ifp h hk2
        refine v_tableIn (off := 41) (tgt := 42) C dX12_many_1 ⟨by omega, by omega⟩ (by rw [hk2]; rfl) rfl ?_
        refine v_aloadn (q := 43) C dX12_many_42 rfl rfl ?_
        refine u_getI (q := 46) C kl12 fl_X12_108 ob_248 pt_248_3 rfl rfl dX12_many_43 rfl ?_
        exact u_iret hR dX12_many_46 h
      · replace h := z_ifn h hk2
        by_cases hk3 : x1 = 3
        · replace h := z_ifp h hk3
          refine v_tableIn (off := 46) (tgt := 47) C dX12_many_1 ⟨by omega, by omega⟩ (by rw [hk3]; rfl) rfl ?_
          refine v_aloadn (q := 48) C dX12_many_47 rfl rfl ?_
          refine u_getI (q := 51) C kl12 fl_X12_174 ob_248 pt_248_39 rfl rfl dX12_many_48 rfl ?_
          exact u_iret hR dX12_many_51 h
        · replace h := z_ifn h hk3
          refine v_tableOut (tgt := 52) C dX12_many_1 (by omega) rfl ?_
          refine v_bipush (q := 54) C dX12_many_52 rfl (by decide) ?_
          exact u_iret hR dX12_many_54 h
theorem w_X12_takesCase_153 {X : ZX} (C : zC X cX12_takesCase RX12 9 none 1 22 274) {K : ZM → Prop} (hR : zRv X cX12_takesCase none 274 (KN (KV K)))  {x2 : Int} {x3 : Int} {x4 : Int} {x5 : Int} {x6 : Int} {s1 : Int} {s2 : Int} {μ : ZM} {G64 : Int → ZM → Prop} (hG64 : ∀ (x6 : Int) (μ : ZM), G64 x6 μ → zV X 64 [some (.inr 248), none, some (.inl x2), some (.inl x3), some (.inl x4), some (.inl x5), some (.inl x6), none, none] [] 274 (z_ov μ))  (h : P_X12_takesCase_153  G64 x2 x3 x4 x5 x6 s1 s2 μ K) : zV X 153 [some (.inr 248), none, some (.inl x2), some (.inl x3), some (.inl x4), some (.inl x5), some (.inl x6), none, none] [.inl s2, .inl s1, .inr 248] 274 (z_ov μ) := by
  refine u_cVv2 (q := 156) C (c_X12_puts h) sy_X12_puts si_X12_puts ml_X12_150 ob_248 (by decide) so_X12_puts ⟨nb rfl, nb rfl⟩ (nb rfl) dX12_takesCase_153 rfl (fun μ8 h => ?_)
  refine u_iinc (q := 159) C dX12_takesCase_156 rfl (nb rfl) rfl (L' := [some (.inr 248), none, some (.inl x2), some (.inl x3), some (.inl x4), some (.inl x5), some (.inl (x6 + 1)), none, none]) rfl h (fun h => ?_)
  refine v_goto (q := 64) C dX12_takesCase_159 rfl ?_
  exact (hG64 _ _ h)
theorem w_X12_takesCase_146 {X : ZX} (C : zC X cX12_takesCase RX12 9 none 1 22 274) {K : ZM → Prop} (hR : zRv X cX12_takesCase none 274 (KN (KV K)))  {x2 : Int} {x3 : Int} {x4 : Int} {x5 : Int} {x6 : Int} {s1 : Int} {μ : ZM} {G64 : Int → ZM → Prop} (hG64 : ∀ (x6 : Int) (μ : ZM), G64 x6 μ → zV X 64 [some (.inr 248), none, some (.inl x2), some (.inl x3), some (.inl x4), some (.inl x5), some (.inl x6), none, none] [] 274 (z_ov μ))  (h : P_X12_takesCase_146  G64 x2 x3 x4 x5 x6 s1 μ K) : zV X 146 [some (.inr 248), none, some (.inl x2), some (.inl x3), some (.inl x4), some (.inl x5), some (.inl x6), none, none] [.inl s1, .inr 248] 274 (z_ov μ) := by
  refine v_aloadn (q := 147) C dX12_takesCase_146 rfl rfl ?_
  refine v_iloadn (q := 148) C dX12_takesCase_147 rfl rfl ?_
  refine v_iload (q := 150) C dX12_takesCase_148 rfl rfl ?_
  refine u_cVi2 (q := 153) C (c_X12_at h) sy_X12_at si_X12_at ml_X12_92 ob_248 (by decide) so_X12_at ⟨nb rfl, nb rfl⟩ (nb rfl) dX12_takesCase_150 rfl (fun r7 μ6 h => ?_)
  exact (w_X12_takesCase_153  C hR hG64  h)
theorem w_X12_takesCase_129 {X : ZX} (C : zC X cX12_takesCase RX12 9 none 1 22 274) {K : ZM → Prop} (hR : zRv X cX12_takesCase none 274 (KN (KV K)))  {x2 : Int} {x3 : Int} {x4 : Int} {x5 : Int} {x6 : Int} {x7 : Int} {μ : ZM} {G64 : Int → ZM → Prop} (hG64 : ∀ (x6 : Int) (μ : ZM), G64 x6 μ → zV X 64 [some (.inr 248), none, some (.inl x2), some (.inl x3), some (.inl x4), some (.inl x5), some (.inl x6), none, none] [] 274 (z_ov μ))  (h : P_X12_takesCase_129  G64 x2 x3 x4 x5 x6 x7 μ K) : zV X 129 [some (.inr 248), none, some (.inl x2), some (.inl x3), some (.inl x4), some (.inl x5), some (.inl x6), some (.inl x7), none] [] 274 (z_ov μ) := by
  refine v_aloadn (q := 130) C dX12_takesCase_129 rfl rfl ?_
  refine v_iloadn (q := 131) C dX12_takesCase_130 rfl rfl ?_
  refine v_iload (q := 133) C dX12_takesCase_131 rfl rfl ?_
  refine v_if_eq (q := 136) (tgt := 146) C dX12_takesCase_133 rfl rfl h (fun h => ?_) (fun h => ?_)
  · exact v_mask [true, false, true, true, true, true, true, false, false] rfl (w_X12_takesCase_146  C hR hG64  h)
  · refine v_iload (q := 138) C dX12_takesCase_136 rfl rfl ?_
    refine v_if_ne (q := 141) (tgt := 146) C dX12_takesCase_138 rfl rfl h (fun h => ?_) (fun h => ?_)
    · refine v_bipush (q := 143) C dX12_takesCase_141 rfl (by decide) ?_
      refine v_goto (q := 153) C dX12_takesCase_143 rfl ?_
      exact v_mask [true, false, true, true, true, true, true, false, false] rfl (w_X12_takesCase_153  C hR hG64  h)
    · exact v_mask [true, false, true, true, true, true, true, false, false] rfl (w_X12_takesCase_146  C hR hG64  h)
theorem w_X12_takesCase_97 {X : ZX} (C : zC X cX12_takesCase RX12 9 none 1 22 274) {K : ZM → Prop} (hR : zRv X cX12_takesCase none 274 (KN (KV K)))  {x2 : Int} {x3 : Int} {x4 : Int} {x5 : Int} {x6 : Int} {x7 : Int} {x8 : Int} {μ : ZM} {G64 : Int → ZM → Prop} (hG64 : ∀ (x6 : Int) (μ : ZM), G64 x6 μ → zV X 64 [some (.inr 248), none, some (.inl x2), some (.inl x3), some (.inl x4), some (.inl x5), some (.inl x6), none, none] [] 274 (z_ov μ))  (h : P_X12_takesCase_97  G64 x2 x3 x4 x5 x6 x7 x8 μ K) : zV X 97 [some (.inr 248), none, some (.inl x2), some (.inl x3), some (.inl x4), some (.inl x5), some (.inl x6), some (.inl x7), some (.inl x8)] [] 274 (z_ov μ) := by
  refine h (fun x8 μ => zV X 97 [some (.inr 248), none, some (.inl x2), some (.inl x3), some (.inl x4), some (.inl x5), some (.inl x6), some (.inl x7), some (.inl x8)] [] 274 (z_ov μ)) (fun x8 μ h => ?_)
  refine v_iload (q := 99) C dX12_takesCase_97 rfl rfl ?_
  refine v_aloadn (q := 100) C dX12_takesCase_99 rfl rfl ?_
  refine u_getR (q := 103) C kl12 fl_X12_83 ob_248 pt_248_47 (by decide) rfl rfl dX12_takesCase_100 rfl ?_
  refine v_aloadn (q := 104) C dX12_takesCase_103 rfl rfl ?_
  refine u_getI (q := 107) C kl12 fl_X12_334 ob_248 pt_248_46 rfl rfl dX12_takesCase_104 rfl ?_
  refine u_iald (q := 108) C ia_272 dX12_takesCase_107 rfl h (fun h => ?_)
  refine v_icmp_ge (q := 111) (tgt := 129) C dX12_takesCase_108 rfl rfl h (fun h => ?_) (fun h => ?_)
  · exact v_mask [true, false, true, true, true, true, true, true, false] rfl (w_X12_takesCase_129  C hR hG64  h)
  · refine v_iload (q := 113) C dX12_takesCase_111 rfl rfl ?_
    refine v_if_eq (q := 116) (tgt := 129) C dX12_takesCase_113 rfl rfl h (fun h => ?_) (fun h => ?_)
    · exact v_mask [true, false, true, true, true, true, true, true, false] rfl (w_X12_takesCase_129  C hR hG64  h)
    · refine v_aloadn (q := 117) C dX12_takesCase_116 rfl rfl ?_
      refine v_iloadn (q := 118) C dX12_takesCase_117 rfl rfl ?_
      refine v_bipush (q := 120) C dX12_takesCase_118 rfl (by decide) ?_
      refine u_cVv2 (q := 123) C (c_X12_puts h) sy_X12_puts si_X12_puts ml_X12_150 ob_248 (by decide) so_X12_puts ⟨nb rfl, nb rfl⟩ (nb rfl) dX12_takesCase_120 rfl (fun μ9 h => ?_)
      refine u_iinc (q := 126) C dX12_takesCase_123 rfl (nb rfl) rfl (L' := [some (.inr 248), none, some (.inl x2), some (.inl x3), some (.inl x4), some (.inl x5), some (.inl x6), some (.inl x7), some (.inl (x8 + 1))]) rfl h (fun h => ?_)
      refine v_goto (q := 97) C dX12_takesCase_126 rfl ?_
      exact h
theorem w_X12_takesCase_92 {X : ZX} (C : zC X cX12_takesCase RX12 9 none 1 22 274) {K : ZM → Prop} (hR : zRv X cX12_takesCase none 274 (KN (KV K)))  {x2 : Int} {x3 : Int} {x4 : Int} {x5 : Int} {x6 : Int} {s0 : Int} {μ : ZM} {G64 : Int → ZM → Prop} (hG64 : ∀ (x6 : Int) (μ : ZM), G64 x6 μ → zV X 64 [some (.inr 248), none, some (.inl x2), some (.inl x3), some (.inl x4), some (.inl x5), some (.inl x6), none, none] [] 274 (z_ov μ))  (h : P_X12_takesCase_92  G64 x2 x3 x4 x5 x6 s0 μ K) : zV X 92 [some (.inr 248), none, some (.inl x2), some (.inl x3), some (.inl x4), some (.inl x5), some (.inl x6), none, none] [.inl s0] 274 (z_ov μ) := by
  refine v_istore (q := 94) C dX12_takesCase_92 rfl (nb rfl) (L' := [some (.inr 248), none, some (.inl x2), some (.inl x3), some (.inl x4), some (.inl x5), some (.inl x6), some (.inl s0), none]) rfl ?_
  refine v_iconst (q := 95) C dX12_takesCase_94 rfl (by decide) ?_
  refine v_istore (q := 97) C dX12_takesCase_95 rfl (nb rfl) (L' := [some (.inr 248), none, some (.inl x2), some (.inl x3), some (.inl x4), some (.inl x5), some (.inl x6), some (.inl s0), some (.inl 0)]) rfl ?_
  exact (w_X12_takesCase_97  C hR hG64  h)
theorem w_X12_takesCase_64 {X : ZX} (C : zC X cX12_takesCase RX12 9 none 1 22 274) {K : ZM → Prop} (hR : zRv X cX12_takesCase none 274 (KN (KV K)))  {x2 : Int} {x3 : Int} {x4 : Int} {x5 : Int} {x6 : Int} {μ : ZM}   (h : P_X12_takesCase_64   x2 x3 x4 x5 x6 μ K) : zV X 64 [some (.inr 248), none, some (.inl x2), some (.inl x3), some (.inl x4), some (.inl x5), some (.inl x6), none, none] [] 274 (z_ov μ) := by
  refine h (fun x6 μ => zV X 64 [some (.inr 248), none, some (.inl x2), some (.inl x3), some (.inl x4), some (.inl x5), some (.inl x6), none, none] [] 274 (z_ov μ)) (fun x6 μ h => ?_)
  refine v_iload (q := 66) C dX12_takesCase_64 rfl rfl ?_
  refine v_aloadn (q := 67) C dX12_takesCase_66 rfl rfl ?_
  refine u_getR (q := 70) C kl12 fl_X12_13 ob_248 pt_248_1 (by decide) rfl rfl dX12_takesCase_67 rfl ?_
  refine v_iloadn (q := 71) C dX12_takesCase_70 rfl rfl ?_
  refine u_iald (q := 72) C ia_250 dX12_takesCase_71 rfl h (fun h => ?_)
  refine v_icmp_ge (q := 75) (tgt := 162) C dX12_takesCase_72 rfl rfl h (fun h => ?_) (fun h => ?_)
  · exact u_vret hR dX12_takesCase_162 h
  · refine v_aloadn (q := 76) C dX12_takesCase_75 rfl rfl ?_
    refine v_iloadn (q := 77) C dX12_takesCase_76 rfl rfl ?_
    refine v_iload (q := 79) C dX12_takesCase_77 rfl rfl ?_
    refine u_cVi2 (q := 82) C (c_X12_at h) sy_X12_at si_X12_at ml_X12_92 ob_248 (by decide) so_X12_at ⟨nb rfl, nb rfl⟩ (nb rfl) dX12_takesCase_79 rfl (fun r5 μ4 h => ?_)
    refine v_iload (q := 84) C dX12_takesCase_82 rfl rfl ?_
    refine v_icmp_ne (q := 87) (tgt := 91) C dX12_takesCase_84 rfl rfl h (fun h => ?_) (fun h => ?_)
    · refine v_iconst (q := 88) C dX12_takesCase_87 rfl (by decide) ?_
      refine v_goto (q := 92) C dX12_takesCase_88 rfl ?_
      exact (w_X12_takesCase_92  C hR (fun _ _ h => h)  h)
    · refine v_iconst (q := 92) C dX12_takesCase_91 rfl (by decide) ?_
      exact (w_X12_takesCase_92  C hR (fun _ _ h => h)  h)
theorem w_X12_takesCase_52 {X : ZX} (C : zC X cX12_takesCase RX12 9 none 1 22 274) {K : ZM → Prop} (hR : zRv X cX12_takesCase none 274 (KN (KV K)))  {x2 : Int} {x3 : Int} {x4 : Int} {s0 : Int} {μ : ZM}   (h : P_X12_takesCase_52   x2 x3 x4 s0 μ K) : zV X 52 [some (.inr 248), none, some (.inl x2), some (.inl x3), some (.inl x4), none, none, none, none] [.inl s0] 274 (z_ov μ) := by
  refine v_istore (q := 54) C dX12_takesCase_52 rfl (nb rfl) (L' := [some (.inr 248), none, some (.inl x2), some (.inl x3), some (.inl x4), some (.inl s0), none, none, none]) rfl ?_
  refine v_aloadn (q := 55) C dX12_takesCase_54 rfl rfl ?_
  refine u_getR (q := 58) C kl12 fl_X12_13 ob_248 pt_248_1 (by decide) rfl rfl dX12_takesCase_55 rfl ?_
  refine v_iloadn (q := 59) C dX12_takesCase_58 rfl rfl ?_
  refine v_iconst (q := 60) C dX12_takesCase_59 rfl (by decide) ?_
  refine u_iast (q := 61) C ia_250 dX12_takesCase_60 rfl h (fun μ3 h => ?_)
  refine v_iconst (q := 62) C dX12_takesCase_61 rfl (by decide) ?_
  refine v_istore (q := 64) C dX12_takesCase_62 rfl (nb rfl) (L' := [some (.inr 248), none, some (.inl x2), some (.inl x3), some (.inl x4), some (.inl s0), some (.inl 0), none, none]) rfl ?_
  exact (w_X12_takesCase_64  C hR   h)
theorem c_X12_takesCase {x1 : Int} {μ : ZM} {K : ZM → Prop} (h : P_X12_takesCase  x1 μ K) : zMu yX12_takesCase cX12_takesCase 9 none 1 22 [.inr 248, .inl x1] μ (KV K) := by
  refine zMet_of (L0 := [some (.inr 248), some (.inl x1), none, none, none, none, none, none, none]) sy_X12_takesCase rfl (nb rfl) (Nat.le_refl _) (fun X C _ _ _ hR => ?_)
  have C : zC X cX12_takesCase RX12 9 none 1 22 274 := C
  refine v_aloadn (q := 1) C dX12_takesCase_0 rfl rfl ?_
  refine v_iconst (q := 2) C dX12_takesCase_1 rfl (by decide) ?_
  refine v_iloadn (q := 3) C dX12_takesCase_2 rfl rfl ?_
  refine u_cVi2 (q := 6) C (c_X12_slotOf h) sy_X12_slotOf si_X12_slotOf ml_X12_346 ob_248 (by decide) so_X12_slotOf ⟨nb rfl, nb rfl⟩ (nb rfl) dX12_takesCase_3 rfl (fun r2 μ1 h => ?_)
  refine v_istoren (q := 7) C dX12_takesCase_6 rfl (nb rfl) (L' := [some (.inr 248), some (.inl x1), some (.inl r2), none, none, none, none, none, none]) rfl ?_
  refine v_bipush (q := 9) C dX12_takesCase_7 rfl (by decide) ?_
  refine v_iloadn (q := 10) C dX12_takesCase_9 rfl rfl ?_
  refine u_iadd (q := 11) C dX12_takesCase_10 rfl h (fun h => ?_)
  refine v_istoren (q := 12) C dX12_takesCase_11 rfl (nb rfl) (L' := [some (.inr 248), some (.inl x1), some (.inl r2), some (.inl (24 + x1)), none, none, none, none, none]) rfl ?_
  refine v_bipush (q := 14) C dX12_takesCase_12 rfl (by decide) ?_
  refine v_aloadn (q := 15) C dX12_takesCase_14 rfl rfl ?_
  refine u_getR (q := 18) C kl12 fl_X12_86 ob_248 pt_248_48 (by decide) rfl rfl dX12_takesCase_15 rfl ?_
  refine v_aloadn (q := 19) C dX12_takesCase_18 rfl rfl ?_
  refine u_getI (q := 22) C kl12 fl_X12_334 ob_248 pt_248_46 rfl rfl dX12_takesCase_19 rfl ?_
  refine u_iald (q := 23) C ia_273 dX12_takesCase_22 rfl h (fun h => ?_)
  refine u_iadd (q := 24) C dX12_takesCase_23 rfl h (fun h => ?_)
  refine v_istore (q := 26) C dX12_takesCase_24 rfl (nb rfl) (L' := [some (.inr 248), some (.inl x1), some (.inl r2), some (.inl (24 + x1)), some (.inl (120 + (μ1 273 (μ1 248 46)))), none, none, none, none]) rfl ?_
  refine v_aloadn (q := 27) C dX12_takesCase_26 rfl rfl ?_
  refine u_getR (q := 30) C kl12 fl_X12_83 ob_248 pt_248_47 (by decide) rfl rfl dX12_takesCase_27 rfl ?_
  refine v_aloadn (q := 31) C dX12_takesCase_30 rfl rfl ?_
  refine u_getI (q := 34) C kl12 fl_X12_334 ob_248 pt_248_46 rfl rfl dX12_takesCase_31 rfl ?_
  refine u_iald (q := 35) C ia_272 dX12_takesCase_34 rfl h (fun h => ?_)
  refine v_aloadn (q := 36) C dX12_takesCase_35 rfl rfl ?_
  refine u_getR (q := 39) C kl12 fl_X12_89 ob_248 pt_248_49 (by decide) rfl rfl dX12_takesCase_36 rfl ?_
  refine v_aloadn (q := 40) C dX12_takesCase_39 rfl rfl ?_
  refine u_getI (q := 43) C kl12 fl_X12_334 ob_248 pt_248_46 rfl rfl dX12_takesCase_40 rfl ?_
  refine u_iald (q := 44) C ia_274 dX12_takesCase_43 rfl h (fun h => ?_)
  refine v_icmp_ne (q := 47) (tgt := 51) C dX12_takesCase_44 rfl rfl h (fun h => ?_) (fun h => ?_)
  · refine v_iconst (q := 48) C dX12_takesCase_47 rfl (by decide) ?_
    refine v_goto (q := 52) C dX12_takesCase_48 rfl ?_
    exact v_mask [true, false, true, true, true, false, false, false, false] rfl (w_X12_takesCase_52  C hR   h)
  · refine v_iconst (q := 52) C dX12_takesCase_51 rfl (by decide) ?_
    exact v_mask [true, false, true, true, true, false, false, false, false] rfl (w_X12_takesCase_52  C hR   h)
theorem w_X12_nextCase_157 {X : ZX} (C : zC X cX12_nextCase RX12 2 (some .int) 9 212 274) {K : Int → ZM → Prop} (hR : zRi X cX12_nextCase (some .int) 274 (KN (KI K)))  {x1 : Int} {μ : ZM}   (h : P_X12_nextCase_157   x1 μ K) : zV X 157 [some (.inr 248), some (.inl x1)] [] 274 (z_ov μ) := by
  refine v_iloadn (q := 158) C dX12_nextCase_157 rfl rfl ?_
  refine v_if_eq (q := 161) (tgt := 176) C dX12_nextCase_158 rfl rfl h (fun h => ?_) (fun h => ?_)
  · refine v_aloadn (q := 177) C dX12_nextCase_176 rfl rfl ?_
    refine u_getI (q := 180) C kl12 fl_X12_334 ob_248 pt_248_46 rfl rfl dX12_nextCase_177 rfl ?_
    refine v_iconst (q := 181) C dX12_nextCase_180 rfl (by decide) ?_
    refine v_icmp_ne (q := 184) (tgt := 196) C dX12_nextCase_181 rfl rfl h (fun h => ?_) (fun h => ?_)
    · refine v_aloadn (q := 185) C dX12_nextCase_184 rfl rfl ?_
      refine v_iconst (q := 186) C dX12_nextCase_185 rfl (by decide) ?_
      refine u_putZ (q := 189) C kl12 fl_X12_352 ob_248 pt_248_45 rfl rfl rfl rfl dX12_nextCase_186 rfl h (fun μ26 h => ?_)
      refine v_aloadn (q := 190) C dX12_nextCase_189 rfl rfl ?_
      refine v_iconst (q := 191) C dX12_nextCase_190 rfl (by decide) ?_
      refine v_iconst (q := 192) C dX12_nextCase_191 rfl (by decide) ?_
      refine u_cVi2 (q := 195) C (c_X12_fails h) sy_X12_fails si_X12_fails ml_X12_355 ob_248 (by decide) so_X12_fails ⟨nb rfl, nb rfl⟩ (nb rfl) dX12_nextCase_192 rfl (fun r28 μ27 h => ?_)
      exact u_iret hR dX12_nextCase_195 h
    · refine v_aloadn (q := 197) C dX12_nextCase_196 rfl rfl ?_
      refine u_cVi0 (q := 200) C (c_X12_guesses h) sy_X12_guesses si_X12_guesses ml_X12_374 ob_248 (by decide) so_X12_guesses ⟨nb rfl, nb rfl⟩ (nb rfl) dX12_nextCase_197 rfl (fun r30 μ29 h => ?_)
      exact u_iret hR dX12_nextCase_200 h
  · refine v_aloadn (q := 162) C dX12_nextCase_161 rfl rfl ?_
    refine u_getR (q := 165) C kl12 fl_X12_83 ob_248 pt_248_47 (by decide) rfl rfl dX12_nextCase_162 rfl ?_
    refine v_aloadn (q := 166) C dX12_nextCase_165 rfl rfl ?_
    refine u_getI (q := 169) C kl12 fl_X12_334 ob_248 pt_248_46 rfl rfl dX12_nextCase_166 rfl ?_
    refine v_dup2 (q := 170) C dX12_nextCase_169 rfl ?_
    refine u_iald (q := 171) C ia_272 dX12_nextCase_170 rfl h (fun h => ?_)
    refine v_iconst (q := 172) C dX12_nextCase_171 rfl (by decide) ?_
    refine u_iadd (q := 173) C dX12_nextCase_172 rfl h (fun h => ?_)
    refine u_iast (q := 174) C ia_272 dX12_nextCase_173 rfl h (fun μ31 h => ?_)
    refine v_iconst (q := 175) C dX12_nextCase_174 rfl (by decide) ?_
    exact u_iret hR dX12_nextCase_175 h
theorem c_X12_nextCase  {μ : ZM} {K : Int → ZM → Prop} (h : P_X12_nextCase   μ K) : zMu yX12_nextCase cX12_nextCase 2 (some .int) 9 212 [.inr 248] μ (KI K) := by
  refine zMet_of (L0 := [some (.inr 248), none]) sy_X12_nextCase rfl (nb rfl) (Nat.le_refl _) (fun X C _ hR _ _ => ?_)
  have C : zC X cX12_nextCase RX12 2 (some .int) 9 212 274 := C
  refine v_aloadn (q := 1) C dX12_nextCase_0 rfl rfl ?_
  refine u_getR (q := 4) C kl12 fl_X12_83 ob_248 pt_248_47 (by decide) rfl rfl dX12_nextCase_1 rfl ?_
  refine v_aloadn (q := 5) C dX12_nextCase_4 rfl rfl ?_
  refine u_getI (q := 8) C kl12 fl_X12_334 ob_248 pt_248_46 rfl rfl dX12_nextCase_5 rfl ?_
  refine u_iald (q := 9) C ia_272 dX12_nextCase_8 rfl h (fun h => ?_)
  refine v_aloadn (q := 10) C dX12_nextCase_9 rfl rfl ?_
  refine u_getR (q := 13) C kl12 fl_X12_89 ob_248 pt_248_49 (by decide) rfl rfl dX12_nextCase_10 rfl ?_
  refine v_aloadn (q := 14) C dX12_nextCase_13 rfl rfl ?_
  refine u_getI (q := 17) C kl12 fl_X12_334 ob_248 pt_248_46 rfl rfl dX12_nextCase_14 rfl ?_
  refine u_iald (q := 18) C ia_274 dX12_nextCase_17 rfl h (fun h => ?_)
  refine v_icmp_le (q := 21) (tgt := 26) C dX12_nextCase_18 rfl rfl h (fun h => ?_) (fun h => ?_)
  · refine v_aloadn (q := 27) C dX12_nextCase_26 rfl rfl ?_
    refine v_iconst (q := 28) C dX12_nextCase_27 rfl (by decide) ?_
    refine v_aloadn (q := 29) C dX12_nextCase_28 rfl rfl ?_
    refine u_getR (q := 32) C kl12 fl_X12_83 ob_248 pt_248_47 (by decide) rfl rfl dX12_nextCase_29 rfl ?_
    refine v_aloadn (q := 33) C dX12_nextCase_32 rfl rfl ?_
    refine u_getI (q := 36) C kl12 fl_X12_334 ob_248 pt_248_46 rfl rfl dX12_nextCase_33 rfl ?_
    refine u_iald (q := 37) C ia_272 dX12_nextCase_36 rfl h (fun h => ?_)
    refine u_cVv2 (q := 40) C (c_X12_notesIt h) sy_X12_notesIt si_X12_notesIt ml_X12_308 ob_248 (by decide) so_X12_notesIt ⟨nb rfl, nb rfl⟩ (nb rfl) dX12_nextCase_37 rfl (fun μ1 h => ?_)
    refine v_aloadn (q := 41) C dX12_nextCase_40 rfl rfl ?_
    refine v_iconst (q := 42) C dX12_nextCase_41 rfl (by decide) ?_
    refine u_cVv1 (q := 45) C (c_X12_takesCase h) sy_X12_takesCase si_X12_takesCase ml_X12_368 ob_248 (by decide) so_X12_takesCase ⟨nb rfl, nb rfl⟩ (nb rfl) dX12_nextCase_42 rfl (fun μ2 h => ?_)
    refine v_aloadn (q := 46) C dX12_nextCase_45 rfl rfl ?_
    refine v_iconst (q := 47) C dX12_nextCase_46 rfl (by decide) ?_
    refine u_cVv1 (q := 50) C (c_X12_takesCase h) sy_X12_takesCase si_X12_takesCase ml_X12_368 ob_248 (by decide) so_X12_takesCase ⟨nb rfl, nb rfl⟩ (nb rfl) dX12_nextCase_47 rfl (fun μ3 h => ?_)
    refine v_aloadn (q := 51) C dX12_nextCase_50 rfl rfl ?_
    refine v_bipush (q := 53) C dX12_nextCase_51 rfl (by decide) ?_
    refine v_aloadn (q := 54) C dX12_nextCase_53 rfl rfl ?_
    refine v_bipush (q := 56) C dX12_nextCase_54 rfl (by decide) ?_
    refine v_iconst (q := 57) C dX12_nextCase_56 rfl (by decide) ?_
    refine u_cVi2 (q := 60) C (c_X12_slotOf h) sy_X12_slotOf si_X12_slotOf ml_X12_346 ob_248 (by decide) so_X12_slotOf ⟨nb rfl, nb rfl⟩ (nb rfl) dX12_nextCase_57 rfl (fun r5 μ4 h => ?_)
    refine u_cVv2 (q := 63) C (c_X12_copies h) sy_X12_copies si_X12_copies ml_X12_161 ob_248 (by decide) so_X12_copies ⟨nb rfl, nb rfl⟩ (nb rfl) dX12_nextCase_60 rfl (fun μ6 h => ?_)
    refine v_aloadn (q := 64) C dX12_nextCase_63 rfl rfl ?_
    refine v_bipush (q := 66) C dX12_nextCase_64 rfl (by decide) ?_
    refine v_aloadn (q := 67) C dX12_nextCase_66 rfl rfl ?_
    refine v_bipush (q := 69) C dX12_nextCase_67 rfl (by decide) ?_
    refine v_iconst (q := 70) C dX12_nextCase_69 rfl (by decide) ?_
    refine u_cVi2 (q := 73) C (c_X12_slotOf h) sy_X12_slotOf si_X12_slotOf ml_X12_346 ob_248 (by decide) so_X12_slotOf ⟨nb rfl, nb rfl⟩ (nb rfl) dX12_nextCase_70 rfl (fun r8 μ7 h => ?_)
    refine u_cVv2 (q := 76) C (c_X12_copies h) sy_X12_copies si_X12_copies ml_X12_161 ob_248 (by decide) so_X12_copies ⟨nb rfl, nb rfl⟩ (nb rfl) dX12_nextCase_73 rfl (fun μ9 h => ?_)
    refine v_aloadn (q := 77) C dX12_nextCase_76 rfl rfl ?_
    refine u_cVi0 (q := 80) C (c_X12_normalGoal h) sy_X12_normalGoal si_X12_normalGoal ml_X12_365 ob_248 (by decide) so_X12_normalGoal ⟨nb rfl, nb rfl⟩ (nb rfl) dX12_nextCase_77 rfl (fun r11 μ10 h => ?_)
    refine v_if_ne (q := 83) (tgt := 85) C dX12_nextCase_80 rfl rfl h (fun h => ?_) (fun h => ?_)
    · refine v_iconst (q := 84) C dX12_nextCase_83 rfl (by decide) ?_
      exact u_iret hR dX12_nextCase_84 h
    · refine v_aloadn (q := 86) C dX12_nextCase_85 rfl rfl ?_
      refine v_aloadn (q := 87) C dX12_nextCase_86 rfl rfl ?_
      refine v_bipush (q := 89) C dX12_nextCase_87 rfl (by decide) ?_
      refine v_iconst (q := 90) C dX12_nextCase_89 rfl (by decide) ?_
      refine u_cVi2 (q := 93) C (c_X12_slotOf h) sy_X12_slotOf si_X12_slotOf ml_X12_346 ob_248 (by decide) so_X12_slotOf ⟨nb rfl, nb rfl⟩ (nb rfl) dX12_nextCase_90 rfl (fun r13 μ12 h => ?_)
      refine v_aloadn (q := 94) C dX12_nextCase_93 rfl rfl ?_
      refine v_bipush (q := 96) C dX12_nextCase_94 rfl (by decide) ?_
      refine v_iconst (q := 97) C dX12_nextCase_96 rfl (by decide) ?_
      refine u_cVi2 (q := 100) C (c_X12_slotOf h) sy_X12_slotOf si_X12_slotOf ml_X12_346 ob_248 (by decide) so_X12_slotOf ⟨nb rfl, nb rfl⟩ (nb rfl) dX12_nextCase_97 rfl (fun r15 μ14 h => ?_)
      refine u_cVi2 (q := 103) C (c_X12_areSame h) sy_X12_areSame si_X12_areSame ml_X12_343 ob_248 (by decide) so_X12_areSame ⟨nb rfl, nb rfl⟩ (nb rfl) dX12_nextCase_100 rfl (fun r17 μ16 h => ?_)
      refine v_istoren (q := 104) C dX12_nextCase_103 rfl (nb rfl) (L' := [some (.inr 248), some (.inl r17)]) rfl ?_
      refine v_iloadn (q := 105) C dX12_nextCase_104 rfl rfl ?_
      refine v_if_ne (q := 108) (tgt := 157) C dX12_nextCase_105 rfl rfl h (fun h => ?_) (fun h => ?_)
      · refine v_aloadn (q := 109) C dX12_nextCase_108 rfl rfl ?_
        refine u_getR (q := 112) C kl12 fl_X12_83 ob_248 pt_248_47 (by decide) rfl rfl dX12_nextCase_109 rfl ?_
        refine v_aloadn (q := 113) C dX12_nextCase_112 rfl rfl ?_
        refine u_getI (q := 116) C kl12 fl_X12_334 ob_248 pt_248_46 rfl rfl dX12_nextCase_113 rfl ?_
        refine u_iald (q := 117) C ia_272 dX12_nextCase_116 rfl h (fun h => ?_)
        refine v_aloadn (q := 118) C dX12_nextCase_117 rfl rfl ?_
        refine u_getR (q := 121) C kl12 fl_X12_89 ob_248 pt_248_49 (by decide) rfl rfl dX12_nextCase_118 rfl ?_
        refine v_aloadn (q := 122) C dX12_nextCase_121 rfl rfl ?_
        refine u_getI (q := 125) C kl12 fl_X12_334 ob_248 pt_248_46 rfl rfl dX12_nextCase_122 rfl ?_
        refine u_iald (q := 126) C ia_274 dX12_nextCase_125 rfl h (fun h => ?_)
        refine v_icmp_ne (q := 129) (tgt := 157) C dX12_nextCase_126 rfl rfl h (fun h => ?_) (fun h => ?_)
        · refine v_aloadn (q := 130) C dX12_nextCase_129 rfl rfl ?_
          refine u_cVi0 (q := 133) C (c_X12_carries h) sy_X12_carries si_X12_carries ml_X12_371 ob_248 (by decide) so_X12_carries ⟨nb rfl, nb rfl⟩ (nb rfl) dX12_nextCase_130 rfl (fun r19 μ18 h => ?_)
          refine v_if_ne (q := 136) (tgt := 138) C dX12_nextCase_133 rfl rfl h (fun h => ?_) (fun h => ?_)
          · refine v_iconst (q := 137) C dX12_nextCase_136 rfl (by decide) ?_
            exact u_iret hR dX12_nextCase_137 h
          · refine v_aloadn (q := 139) C dX12_nextCase_138 rfl rfl ?_
            refine v_aloadn (q := 140) C dX12_nextCase_139 rfl rfl ?_
            refine v_bipush (q := 142) C dX12_nextCase_140 rfl (by decide) ?_
            refine v_iconst (q := 143) C dX12_nextCase_142 rfl (by decide) ?_
            refine u_cVi2 (q := 146) C (c_X12_slotOf h) sy_X12_slotOf si_X12_slotOf ml_X12_346 ob_248 (by decide) so_X12_slotOf ⟨nb rfl, nb rfl⟩ (nb rfl) dX12_nextCase_143 rfl (fun r21 μ20 h => ?_)
            refine v_aloadn (q := 147) C dX12_nextCase_146 rfl rfl ?_
            refine v_bipush (q := 149) C dX12_nextCase_147 rfl (by decide) ?_
            refine v_iconst (q := 150) C dX12_nextCase_149 rfl (by decide) ?_
            refine u_cVi2 (q := 153) C (c_X12_slotOf h) sy_X12_slotOf si_X12_slotOf ml_X12_346 ob_248 (by decide) so_X12_slotOf ⟨nb rfl, nb rfl⟩ (nb rfl) dX12_nextCase_150 rfl (fun r23 μ22 h => ?_)
            refine u_cVi2 (q := 156) C (c_X12_areSame h) sy_X12_areSame si_X12_areSame ml_X12_343 ob_248 (by decide) so_X12_areSame ⟨nb rfl, nb rfl⟩ (nb rfl) dX12_nextCase_153 rfl (fun r25 μ24 h => ?_)
            refine v_istoren (q := 157) C dX12_nextCase_156 rfl (nb rfl) (L' := [some (.inr 248), some (.inl r25)]) rfl ?_
            exact (w_X12_nextCase_157  C hR   h)
        · exact (w_X12_nextCase_157  C hR   h)
      · exact (w_X12_nextCase_157  C hR   h)
  · refine v_aloadn (q := 22) C dX12_nextCase_21 rfl rfl ?_
    refine u_cVi0 (q := 25) C (c_X12_proves h) sy_X12_proves si_X12_proves ml_X12_359 ob_248 (by decide) so_X12_proves ⟨nb rfl, nb rfl⟩ (nb rfl) dX12_nextCase_22 rfl (fun r33 μ32 h => ?_)
    exact u_iret hR dX12_nextCase_25 h
theorem w_X12_normal_28 {X : ZX} (C : zC X cX12_normal RX12 3 (some .int) 5 120 274) {K : Int → ZM → Prop} (hR : zRi X cX12_normal (some .int) 274 (KN (KI K)))  {x1 : Int} {x2 : Int} {μ : ZM}   (h : P_X12_normal_28   x1 x2 μ K) : zV X 28 [some (.inr 248), some (.inl x1), some (.inl x2)] [] 274 (z_ov μ) := by
  refine v_aloadn (q := 29) C dX12_normal_28 rfl rfl ?_
  refine u_getI (q := 32) C kl12 fl_X12_164 ob_248 pt_248_9 rfl rfl dX12_normal_29 rfl ?_
  refine v_if_eq (q := 35) (tgt := 57) C dX12_normal_32 rfl rfl h (fun h => ?_) (fun h => ?_)
  · refine v_bipush (q := 59) C dX12_normal_57 rfl (by decide) ?_
    exact u_iret hR dX12_normal_59 h
  · refine v_aloadn (q := 36) C dX12_normal_35 rfl rfl ?_
    refine v_iconst (q := 37) C dX12_normal_36 rfl (by decide) ?_
    refine v_iloadn (q := 38) C dX12_normal_37 rfl rfl ?_
    refine u_iadd (q := 39) C dX12_normal_38 rfl h (fun h => ?_)
    refine v_bipush (q := 41) C dX12_normal_39 rfl (by decide) ?_
    refine u_cVi2 (q := 44) C (c_X12_makesNormal h) sy_X12_makesNormal si_X12_makesNormal ml_X12_248 ob_248 (by decide) so_X12_makesNormal ⟨nb rfl, nb rfl⟩ (nb rfl) dX12_normal_41 rfl (fun r4 μ3 h => ?_)
    refine v_if_eq (q := 47) (tgt := 57) C dX12_normal_44 rfl rfl h (fun h => ?_) (fun h => ?_)
    · refine v_bipush (q := 59) C dX12_normal_57 rfl (by decide) ?_
      exact u_iret hR dX12_normal_59 h
    · refine v_aloadn (q := 48) C dX12_normal_47 rfl rfl ?_
      refine v_bipush (q := 50) C dX12_normal_48 rfl (by decide) ?_
      refine v_iloadn (q := 51) C dX12_normal_50 rfl rfl ?_
      refine u_cVi2 (q := 54) C (c_X12_told h) sy_X12_told si_X12_told ml_X12_168 ob_248 (by decide) so_X12_told ⟨nb rfl, nb rfl⟩ (nb rfl) dX12_normal_51 rfl (fun r6 μ5 h => ?_)
      refine v_goto (q := 59) C dX12_normal_54 rfl ?_
      exact u_iret hR dX12_normal_59 h
theorem c_X12_normal {x1 : Int} {x2 : Int} {μ : ZM} {K : Int → ZM → Prop} (h : P_X12_normal  x1 x2 μ K) : zMu yX12_normal cX12_normal 3 (some .int) 5 120 [.inr 248, .inl x1, .inl x2] μ (KI K) := by
  refine zMet_of (L0 := [some (.inr 248), some (.inl x1), some (.inl x2)]) sy_X12_normal rfl (nb rfl) (Nat.le_refl _) (fun X C _ hR _ _ => ?_)
  have C : zC X cX12_normal RX12 3 (some .int) 5 120 274 := C
  refine v_iloadn (q := 1) C dX12_normal_0 rfl rfl ?_
  refine v_iconst (q := 2) C dX12_normal_1 rfl (by decide) ?_
  refine v_iconst (q := 3) C dX12_normal_2 rfl (by decide) ?_
  refine u_cSi3 (q := 6) C (c_X12_within h) sy_X12_within ss_X12_within ml_X12_96 ⟨nb rfl, nb rfl⟩ (nb rfl) dX12_normal_3 rfl (fun r2 μ1 h => ?_)
  refine v_if_eq (q := 9) (tgt := 25) C dX12_normal_6 rfl rfl h (fun h => ?_) (fun h => ?_)
  · refine v_bipush (q := 27) C dX12_normal_25 rfl (by decide) ?_
    exact u_iret hR dX12_normal_27 h
  · refine v_iloadn (q := 10) C dX12_normal_9 rfl rfl ?_
    refine v_bipush (q := 12) C dX12_normal_10 rfl (by decide) ?_
    refine v_icmp_eq (q := 15) (tgt := 28) C dX12_normal_12 rfl rfl h (fun h => ?_) (fun h => ?_)
    · exact (w_X12_normal_28  C hR   h)
    · refine v_iloadn (q := 16) C dX12_normal_15 rfl rfl ?_
      refine v_iconst (q := 17) C dX12_normal_16 rfl (by decide) ?_
      refine v_bipush (q := 19) C dX12_normal_17 rfl (by decide) ?_
      refine u_cSi3 (q := 22) C (c_X12_within h) sy_X12_within ss_X12_within ml_X12_96 ⟨nb rfl, nb rfl⟩ (nb rfl) dX12_normal_19 rfl (fun r8 μ7 h => ?_)
      refine v_if_ne (q := 25) (tgt := 28) C dX12_normal_22 rfl rfl h (fun h => ?_) (fun h => ?_)
      · refine v_bipush (q := 27) C dX12_normal_25 rfl (by decide) ?_
        exact u_iret hR dX12_normal_27 h
      · exact (w_X12_normal_28  C hR   h)
theorem c_X12_ofFunction {x1 : Int} {x2 : Int} {μ : ZM} {K : Int → ZM → Prop} (h : P_X12_ofFunction  x1 x2 μ K) : zMu yX12_ofFunction cX12_ofFunction 3 (some .int) 2 43 [.inr 248, .inl x1, .inl x2] μ (KI K) := by
  refine zMet_of (L0 := [some (.inr 248), some (.inl x1), some (.inl x2)]) sy_X12_ofFunction rfl (nb rfl) (Nat.le_refl _) (fun X C _ hR _ _ => ?_)
  have C : zC X cX12_ofFunction RX12 3 (some .int) 2 43 274 := C
  refine v_aloadn (q := 1) C dX12_ofFunction_0 rfl rfl ?_
  refine v_iloadn (q := 2) C dX12_ofFunction_1 rfl rfl ?_
  refine u_cVi1 (q := 5) C (c_X12_isFunction h) sy_X12_isFunction si_X12_isFunction ml_X12_144 ob_248 (by decide) so_X12_isFunction ⟨nb rfl, nb rfl⟩ (nb rfl) dX12_ofFunction_2 rfl (fun r2 μ1 h => ?_)
  refine v_if_ne (q := 8) (tgt := 10) C dX12_ofFunction_5 rfl rfl h (fun h => ?_) (fun h => ?_)
  · refine v_iconst (q := 9) C dX12_ofFunction_8 rfl (by decide) ?_
    exact u_iret hR dX12_ofFunction_9 h
  · refine v_iloadn (q := 11) C dX12_ofFunction_10 rfl rfl ?_
    by_cases hk0 : x2 = 0
    · replace h := z_ifp h hk0
      refine v_tableIn (off := 33) (tgt := 44) C dX12_ofFunction_11 ⟨by omega, by omega⟩ (by rw [hk0]; rfl) rfl ?_
      refine v_aloadn (q := 45) C dX12_ofFunction_44 rfl rfl ?_
      refine u_getR (q := 48) C kl12 fl_X12_19 ob_248 pt_248_5 (by decide) rfl rfl dX12_ofFunction_45 rfl ?_
      refine v_iloadn (q := 49) C dX12_ofFunction_48 rfl rfl ?_
      refine u_iald (q := 50) C ia_252 dX12_ofFunction_49 rfl h (fun h => ?_)
      exact u_iret hR dX12_ofFunction_50 h
    · replace h := z_ifn h hk0
      by_cases hk1 : x2 = 1
      · replace h := z_ifp h hk1
        refine v_tableIn (off := 40) (tgt := 51) C dX12_ofFunction_11 ⟨by omega, by omega⟩ (by rw [hk1]; rfl) rfl ?_
        refine v_aloadn (q := 52) C dX12_ofFunction_51 rfl rfl ?_
        refine u_getR (q := 55) C kl12 fl_X12_22 ob_248 pt_248_6 (by decide) rfl rfl dX12_ofFunction_52 rfl ?_
        refine v_iloadn (q := 56) C dX12_ofFunction_55 rfl rfl ?_
        refine u_iald (q := 57) C ia_253 dX12_ofFunction_56 rfl h (fun h => ?_)
        exact u_iret hR dX12_ofFunction_57 h
      · replace h := z_ifn h hk1
        by_cases hk2 : x2 = 2
        · replace h := z_ifp h hk2
          refine v_tableIn (off := 47) (tgt := 58) C dX12_ofFunction_11 ⟨by omega, by omega⟩ (by rw [hk2]; rfl) rfl ?_
          refine v_aloadn (q := 59) C dX12_ofFunction_58 rfl rfl ?_
          refine v_iloadn (q := 60) C dX12_ofFunction_59 rfl rfl ?_
          refine v_iloadn (q := 61) C dX12_ofFunction_60 rfl rfl ?_
          refine v_iconst (q := 62) C dX12_ofFunction_61 rfl (by decide) ?_
          refine u_isub (q := 63) C dX12_ofFunction_62 rfl h (fun h => ?_)
          refine u_cVi2 (q := 66) C (c_X12_bodyLong h) sy_X12_bodyLong si_X12_bodyLong ml_X12_147 ob_248 (by decide) so_X12_bodyLong ⟨nb rfl, nb rfl⟩ (nb rfl) dX12_ofFunction_63 rfl (fun r8 μ7 h => ?_)
          exact u_iret hR dX12_ofFunction_66 h
        · replace h := z_ifn h hk2
          by_cases hk3 : x2 = 3
          · replace h := z_ifp h hk3
            refine v_tableIn (off := 47) (tgt := 58) C dX12_ofFunction_11 ⟨by omega, by omega⟩ (by rw [hk3]; rfl) rfl ?_
            refine v_aloadn (q := 59) C dX12_ofFunction_58 rfl rfl ?_
            refine v_iloadn (q := 60) C dX12_ofFunction_59 rfl rfl ?_
            refine v_iloadn (q := 61) C dX12_ofFunction_60 rfl rfl ?_
            refine v_iconst (q := 62) C dX12_ofFunction_61 rfl (by decide) ?_
            refine u_isub (q := 63) C dX12_ofFunction_62 rfl h (fun h => ?_)
            refine u_cVi2 (q := 66) C (c_X12_bodyLong h) sy_X12_bodyLong si_X12_bodyLong ml_X12_147 ob_248 (by decide) so_X12_bodyLong ⟨nb rfl, nb rfl⟩ (nb rfl) dX12_ofFunction_63 rfl (fun r6 μ5 h => ?_)
            exact u_iret hR dX12_ofFunction_66 h
          · replace h := z_ifn h hk3
            by_cases hk4 : x2 = 4
            · replace h := z_ifp h hk4
              refine v_tableIn (off := 47) (tgt := 58) C dX12_ofFunction_11 ⟨by omega, by omega⟩ (by rw [hk4]; rfl) rfl ?_
              refine v_aloadn (q := 59) C dX12_ofFunction_58 rfl rfl ?_
              refine v_iloadn (q := 60) C dX12_ofFunction_59 rfl rfl ?_
              refine v_iloadn (q := 61) C dX12_ofFunction_60 rfl rfl ?_
              refine v_iconst (q := 62) C dX12_ofFunction_61 rfl (by decide) ?_
              refine u_isub (q := 63) C dX12_ofFunction_62 rfl h (fun h => ?_)
              refine u_cVi2 (q := 66) C (c_X12_bodyLong h) sy_X12_bodyLong si_X12_bodyLong ml_X12_147 ob_248 (by decide) so_X12_bodyLong ⟨nb rfl, nb rfl⟩ (nb rfl) dX12_ofFunction_63 rfl (fun r4 μ3 h => ?_)
              exact u_iret hR dX12_ofFunction_66 h
            · replace h := z_ifn h hk4
              refine v_tableOut (tgt := 67) C dX12_ofFunction_11 (by omega) rfl ?_
              refine v_bipush (q := 69) C dX12_ofFunction_67 rfl (by decide) ?_
              exact u_iret hR dX12_ofFunction_69 h
theorem w_X12_prove_161 {X : ZX} (C : zC X cX12_prove RX12 3 (some .int) 10 233 274) {K : Int → ZM → Prop} (hR : zRi X cX12_prove (some .int) 274 (KN (KI K)))  {x1 : Int} {s0 : Int} {μ : ZM} {G58 : Int → Int → ZM → Prop} (hG58 : ∀ (x1 x2 : Int) (μ : ZM), G58 x1 x2 μ → zV X 58 [some (.inr 248), some (.inl x1), some (.inl x2)] [] 274 (z_ov μ))  (h : P_X12_prove_161  G58 x1 s0 μ K) : zV X 161 [some (.inr 248), some (.inl x1), none] [.inl s0] 274 (z_ov μ) := by
  refine v_istoren (q := 162) C dX12_prove_161 rfl (nb rfl) (L' := [some (.inr 248), some (.inl x1), some (.inl s0)]) rfl ?_
  refine v_goto (q := 58) C dX12_prove_162 rfl ?_
  exact (hG58 _ _ _ h)
theorem w_X12_prove_160 {X : ZX} (C : zC X cX12_prove RX12 3 (some .int) 10 233 274) {K : Int → ZM → Prop} (hR : zRi X cX12_prove (some .int) 274 (KN (KI K)))  {x1 : Int} {μ : ZM} {G58 : Int → Int → ZM → Prop} (hG58 : ∀ (x1 x2 : Int) (μ : ZM), G58 x1 x2 μ → zV X 58 [some (.inr 248), some (.inl x1), some (.inl x2)] [] 274 (z_ov μ))  (h : P_X12_prove_160  G58 x1 μ K) : zV X 160 [some (.inr 248), some (.inl x1), none] [] 274 (z_ov μ) := by
  refine v_iconst (q := 161) C dX12_prove_160 rfl (by decide) ?_
  exact (w_X12_prove_161  C hR hG58  h)
theorem w_X12_prove_147 {X : ZX} (C : zC X cX12_prove RX12 3 (some .int) 10 233 274) {K : Int → ZM → Prop} (hR : zRi X cX12_prove (some .int) 274 (KN (KI K)))  {x1 : Int} {x2 : Int} {μ : ZM} {G58 : Int → Int → ZM → Prop} (hG58 : ∀ (x1 x2 : Int) (μ : ZM), G58 x1 x2 μ → zV X 58 [some (.inr 248), some (.inl x1), some (.inl x2)] [] 274 (z_ov μ))  (h : P_X12_prove_147  G58 x1 x2 μ K) : zV X 147 [some (.inr 248), some (.inl x1), some (.inl x2)] [] 274 (z_ov μ) := by
  refine v_iloadn (q := 148) C dX12_prove_147 rfl rfl ?_
  refine v_if_eq (q := 151) (tgt := 160) C dX12_prove_148 rfl rfl h (fun h => ?_) (fun h => ?_)
  · exact v_mask [true, true, false] rfl (w_X12_prove_160  C hR hG58  h)
  · refine v_iloadn (q := 152) C dX12_prove_151 rfl rfl ?_
    refine v_iconst (q := 153) C dX12_prove_152 rfl (by decide) ?_
    refine v_icmp_eq (q := 156) (tgt := 160) C dX12_prove_153 rfl rfl h (fun h => ?_) (fun h => ?_)
    · exact v_mask [true, true, false] rfl (w_X12_prove_160  C hR hG58  h)
    · refine v_iconst (q := 157) C dX12_prove_156 rfl (by decide) ?_
      refine v_goto (q := 161) C dX12_prove_157 rfl ?_
      exact v_mask [true, true, false] rfl (w_X12_prove_161  C hR hG58  h)
theorem w_X12_prove_141 {X : ZX} (C : zC X cX12_prove RX12 3 (some .int) 10 233 274) {K : Int → ZM → Prop} (hR : zRi X cX12_prove (some .int) 274 (KN (KI K)))  {x2 : Int} {s0 : Int} {μ : ZM} {G58 : Int → Int → ZM → Prop} (hG58 : ∀ (x1 x2 : Int) (μ : ZM), G58 x1 x2 μ → zV X 58 [some (.inr 248), some (.inl x1), some (.inl x2)] [] 274 (z_ov μ))  (h : P_X12_prove_141  G58 x2 s0 μ K) : zV X 141 [some (.inr 248), none, some (.inl x2)] [.inl s0] 274 (z_ov μ) := by
  refine v_istoren (q := 142) C dX12_prove_141 rfl (nb rfl) (L' := [some (.inr 248), some (.inl s0), some (.inl x2)]) rfl ?_
  refine v_goto (q := 147) C dX12_prove_142 rfl ?_
  exact (w_X12_prove_147  C hR hG58  h)
theorem w_X12_prove_125 {X : ZX} (C : zC X cX12_prove RX12 3 (some .int) 10 233 274) {K : Int → ZM → Prop} (hR : zRi X cX12_prove (some .int) 274 (KN (KI K)))  {x1 : Int} {x2 : Int} {s1 : Int} {s2 : Int} {s3 : Int} {μ : ZM} {G58 : Int → Int → ZM → Prop} (hG58 : ∀ (x1 x2 : Int) (μ : ZM), G58 x1 x2 μ → zV X 58 [some (.inr 248), some (.inl x1), some (.inl x2)] [] 274 (z_ov μ))  (h : P_X12_prove_125  G58 x1 x2 s1 s2 s3 μ K) : zV X 125 [some (.inr 248), some (.inl x1), some (.inl x2)] [.inl s3, .inl s2, .inl s1, .inr 272] 274 (z_ov μ) := by
  refine u_iadd (q := 126) C dX12_prove_125 rfl h (fun h => ?_)
  refine u_iast (q := 127) C ia_272 dX12_prove_126 rfl h (fun μ17 h => ?_)
  refine v_iloadn (q := 128) C dX12_prove_127 rfl rfl ?_
  refine v_if_ne (q := 131) (tgt := 135) C dX12_prove_128 rfl rfl h (fun h => ?_) (fun h => ?_)
  · refine v_iconst (q := 132) C dX12_prove_131 rfl (by decide) ?_
    refine v_goto (q := 141) C dX12_prove_132 rfl ?_
    exact v_mask [true, false, true] rfl (w_X12_prove_141  C hR hG58  h)
  · refine v_aloadn (q := 136) C dX12_prove_135 rfl rfl ?_
    refine v_iconst (q := 137) C dX12_prove_136 rfl (by decide) ?_
    refine v_iconst (q := 138) C dX12_prove_137 rfl (by decide) ?_
    refine u_cVi2 (q := 141) C (c_X12_fails h) sy_X12_fails si_X12_fails ml_X12_355 ob_248 (by decide) so_X12_fails ⟨nb rfl, nb rfl⟩ (nb rfl) dX12_prove_138 rfl (fun r19 μ18 h => ?_)
    exact v_mask [true, false, true] rfl (w_X12_prove_141  C hR hG58  h)
theorem w_X12_prove_58 {X : ZX} (C : zC X cX12_prove RX12 3 (some .int) 10 233 274) {K : Int → ZM → Prop} (hR : zRi X cX12_prove (some .int) 274 (KN (KI K)))  {x1 : Int} {x2 : Int} {μ : ZM}   (h : P_X12_prove_58   x1 x2 μ K) : zV X 58 [some (.inr 248), some (.inl x1), some (.inl x2)] [] 274 (z_ov μ) := by
  refine h (fun x1 x2 μ => zV X 58 [some (.inr 248), some (.inl x1), some (.inl x2)] [] 274 (z_ov μ)) (fun x1 x2 μ h => ?_)
  refine v_iloadn (q := 59) C dX12_prove_58 rfl rfl ?_
  refine v_if_eq (q := 62) (tgt := 165) C dX12_prove_59 rfl rfl h (fun h => ?_) (fun h => ?_)
  · refine v_aloadn (q := 166) C dX12_prove_165 rfl rfl ?_
    refine v_iloadn (q := 167) C dX12_prove_166 rfl rfl ?_
    refine u_put (q := 170) C kl12 fl_X12_79 ob_248 pt_248_42 rfl rfl rfl rfl dX12_prove_167 rfl h (fun μ11 h => ?_)
    refine v_iloadn (q := 171) C dX12_prove_170 rfl rfl ?_
    exact u_iret hR dX12_prove_171 h
  · refine v_iloadn (q := 63) C dX12_prove_62 rfl rfl ?_
    refine v_iconst (q := 64) C dX12_prove_63 rfl (by decide) ?_
    refine v_icmp_ne (q := 67) (tgt := 75) C dX12_prove_64 rfl rfl h (fun h => ?_) (fun h => ?_)
    · refine v_aloadn (q := 68) C dX12_prove_67 rfl rfl ?_
      refine u_cVi0 (q := 71) C (c_X12_nextCase h) sy_X12_nextCase si_X12_nextCase ml_X12_380 ob_248 (by decide) so_X12_nextCase ⟨nb rfl, nb rfl⟩ (nb rfl) dX12_prove_68 rfl (fun r13 μ12 h => ?_)
      refine v_istoren (q := 72) C dX12_prove_71 rfl (nb rfl) (L' := [some (.inr 248), some (.inl r13), some (.inl x2)]) rfl ?_
      refine v_goto (q := 147) C dX12_prove_72 rfl ?_
      exact (w_X12_prove_147  C hR (fun _ _ _ h => h)  h)
    · refine v_iloadn (q := 76) C dX12_prove_75 rfl rfl ?_
      refine v_bipush (q := 78) C dX12_prove_76 rfl (by decide) ?_
      refine v_icmp_ne (q := 81) (tgt := 89) C dX12_prove_78 rfl rfl h (fun h => ?_) (fun h => ?_)
      · refine v_aloadn (q := 82) C dX12_prove_81 rfl rfl ?_
        refine u_cVi0 (q := 85) C (c_X12_begins h) sy_X12_begins si_X12_begins ml_X12_377 ob_248 (by decide) so_X12_begins ⟨nb rfl, nb rfl⟩ (nb rfl) dX12_prove_82 rfl (fun r15 μ14 h => ?_)
        refine v_istoren (q := 86) C dX12_prove_85 rfl (nb rfl) (L' := [some (.inr 248), some (.inl r15), some (.inl x2)]) rfl ?_
        refine v_goto (q := 147) C dX12_prove_86 rfl ?_
        exact (w_X12_prove_147  C hR (fun _ _ _ h => h)  h)
      · refine v_aloadn (q := 90) C dX12_prove_89 rfl rfl ?_
        refine u_getI (q := 93) C kl12 fl_X12_334 ob_248 pt_248_46 rfl rfl dX12_prove_90 rfl ?_
        refine v_if_le (q := 96) (tgt := 145) C dX12_prove_93 rfl rfl h (fun h => ?_) (fun h => ?_)
        · refine v_iconst (q := 146) C dX12_prove_145 rfl (by decide) ?_
          refine v_istoren (q := 147) C dX12_prove_146 rfl (nb rfl) (L' := [some (.inr 248), some (.inl x1), some (.inl 0)]) rfl ?_
          exact (w_X12_prove_147  C hR (fun _ _ _ h => h)  h)
        · refine v_aloadn (q := 97) C dX12_prove_96 rfl rfl ?_
          refine v_dup (q := 98) C dX12_prove_97 rfl ?_
          refine u_getI (q := 101) C kl12 fl_X12_334 ob_248 pt_248_46 rfl rfl dX12_prove_98 rfl ?_
          refine v_iconst (q := 102) C dX12_prove_101 rfl (by decide) ?_
          refine u_isub (q := 103) C dX12_prove_102 rfl h (fun h => ?_)
          refine u_put (q := 106) C kl12 fl_X12_334 ob_248 pt_248_46 rfl rfl rfl rfl dX12_prove_103 rfl h (fun μ16 h => ?_)
          refine v_aloadn (q := 107) C dX12_prove_106 rfl rfl ?_
          refine u_getR (q := 110) C kl12 fl_X12_83 ob_248 pt_248_47 (by decide) rfl rfl dX12_prove_107 rfl ?_
          refine v_aloadn (q := 111) C dX12_prove_110 rfl rfl ?_
          refine u_getI (q := 114) C kl12 fl_X12_334 ob_248 pt_248_46 rfl rfl dX12_prove_111 rfl ?_
          refine v_dup2 (q := 115) C dX12_prove_114 rfl ?_
          refine u_iald (q := 116) C ia_272 dX12_prove_115 rfl h (fun h => ?_)
          refine v_iloadn (q := 117) C dX12_prove_116 rfl rfl ?_
          refine v_if_ne (q := 120) (tgt := 124) C dX12_prove_117 rfl rfl h (fun h => ?_) (fun h => ?_)
          · refine v_iconst (q := 121) C dX12_prove_120 rfl (by decide) ?_
            refine v_goto (q := 125) C dX12_prove_121 rfl ?_
            exact (w_X12_prove_125  C hR (fun _ _ _ h => h)  h)
          · refine v_iconst (q := 125) C dX12_prove_124 rfl (by decide) ?_
            exact (w_X12_prove_125  C hR (fun _ _ _ h => h)  h)
theorem w_X12_prove_57 {X : ZX} (C : zC X cX12_prove RX12 3 (some .int) 10 233 274) {K : Int → ZM → Prop} (hR : zRi X cX12_prove (some .int) 274 (KN (KI K)))  {x1 : Int} {s0 : Int} {μ : ZM}   (h : P_X12_prove_57   x1 s0 μ K) : zV X 57 [some (.inr 248), some (.inl x1), none] [.inl s0] 274 (z_ov μ) := by
  refine v_istoren (q := 58) C dX12_prove_57 rfl (nb rfl) (L' := [some (.inr 248), some (.inl x1), some (.inl s0)]) rfl ?_
  exact (w_X12_prove_58  C hR   h)
theorem c_X12_prove  {μ : ZM} {K : Int → ZM → Prop} (h : P_X12_prove   μ K) : zMu yX12_prove cX12_prove 3 (some .int) 10 233 [.inr 248] μ (KI K) := by
  refine zMet_of (L0 := [some (.inr 248), none, none]) sy_X12_prove rfl (nb rfl) (Nat.le_refl _) (fun X C _ hR _ _ => ?_)
  have C : zC X cX12_prove RX12 3 (some .int) 10 233 274 := C
  refine v_aloadn (q := 1) C dX12_prove_0 rfl rfl ?_
  refine u_getI (q := 4) C kl12 fl_X12_164 ob_248 pt_248_9 rfl rfl dX12_prove_1 rfl ?_
  refine v_if_ne (q := 7) (tgt := 10) C dX12_prove_4 rfl rfl h (fun h => ?_) (fun h => ?_)
  · refine v_bipush (q := 9) C dX12_prove_7 rfl (by decide) ?_
    exact u_iret hR dX12_prove_9 h
  · refine v_aloadn (q := 11) C dX12_prove_10 rfl rfl ?_
    refine v_iconst (q := 12) C dX12_prove_11 rfl (by decide) ?_
    refine u_put (q := 15) C kl12 fl_X12_174 ob_248 pt_248_39 rfl rfl rfl rfl dX12_prove_12 rfl h (fun μ1 h => ?_)
    refine v_aloadn (q := 16) C dX12_prove_15 rfl rfl ?_
    refine v_iconst (q := 17) C dX12_prove_16 rfl (by decide) ?_
    refine u_put (q := 20) C kl12 fl_X12_334 ob_248 pt_248_46 rfl rfl rfl rfl dX12_prove_17 rfl h (fun μ2 h => ?_)
    refine v_aloadn (q := 21) C dX12_prove_20 rfl rfl ?_
    refine v_iconst (q := 22) C dX12_prove_21 rfl (by decide) ?_
    refine v_aloadn (q := 23) C dX12_prove_22 rfl rfl ?_
    refine v_iconst (q := 24) C dX12_prove_23 rfl (by decide) ?_
    refine v_iconst (q := 25) C dX12_prove_24 rfl (by decide) ?_
    refine u_cVi2 (q := 28) C (c_X12_slotOf h) sy_X12_slotOf si_X12_slotOf ml_X12_346 ob_248 (by decide) so_X12_slotOf ⟨nb rfl, nb rfl⟩ (nb rfl) dX12_prove_25 rfl (fun r4 μ3 h => ?_)
    refine u_cVv2 (q := 31) C (c_X12_copies h) sy_X12_copies si_X12_copies ml_X12_161 ob_248 (by decide) so_X12_copies ⟨nb rfl, nb rfl⟩ (nb rfl) dX12_prove_28 rfl (fun μ5 h => ?_)
    refine v_aloadn (q := 32) C dX12_prove_31 rfl rfl ?_
    refine v_iconst (q := 33) C dX12_prove_32 rfl (by decide) ?_
    refine v_aloadn (q := 34) C dX12_prove_33 rfl rfl ?_
    refine v_iconst (q := 35) C dX12_prove_34 rfl (by decide) ?_
    refine v_iconst (q := 36) C dX12_prove_35 rfl (by decide) ?_
    refine u_cVi2 (q := 39) C (c_X12_slotOf h) sy_X12_slotOf si_X12_slotOf ml_X12_346 ob_248 (by decide) so_X12_slotOf ⟨nb rfl, nb rfl⟩ (nb rfl) dX12_prove_36 rfl (fun r7 μ6 h => ?_)
    refine u_cVv2 (q := 42) C (c_X12_copies h) sy_X12_copies si_X12_copies ml_X12_161 ob_248 (by decide) so_X12_copies ⟨nb rfl, nb rfl⟩ (nb rfl) dX12_prove_39 rfl (fun μ8 h => ?_)
    refine v_aloadn (q := 43) C dX12_prove_42 rfl rfl ?_
    refine u_cVi0 (q := 46) C (c_X12_begins h) sy_X12_begins si_X12_begins ml_X12_377 ob_248 (by decide) so_X12_begins ⟨nb rfl, nb rfl⟩ (nb rfl) dX12_prove_43 rfl (fun r10 μ9 h => ?_)
    refine v_istoren (q := 47) C dX12_prove_46 rfl (nb rfl) (L' := [some (.inr 248), some (.inl r10), none]) rfl ?_
    refine v_iloadn (q := 48) C dX12_prove_47 rfl rfl ?_
    refine v_iconst (q := 49) C dX12_prove_48 rfl (by decide) ?_
    refine v_icmp_eq (q := 52) (tgt := 56) C dX12_prove_49 rfl rfl h (fun h => ?_) (fun h => ?_)
    · refine v_iconst (q := 57) C dX12_prove_56 rfl (by decide) ?_
      exact (w_X12_prove_57  C hR   h)
    · refine v_iconst (q := 53) C dX12_prove_52 rfl (by decide) ?_
      refine v_goto (q := 57) C dX12_prove_53 rfl ?_
      exact (w_X12_prove_57  C hR   h)
theorem c_X12_scheme {x1 : Int} {μ : ZM} {K : Int → ZM → Prop} (h : P_X12_scheme  x1 μ K) : zMu yX12_scheme cX12_scheme 2 (some .int) 4 93 [.inr 248, .inl x1] μ (KI K) := by
  refine zMet_of (L0 := [some (.inr 248), some (.inl x1)]) sy_X12_scheme rfl (nb rfl) (Nat.le_refl _) (fun X C _ hR _ _ => ?_)
  have C : zC X cX12_scheme RX12 2 (some .int) 4 93 274 := C
  refine v_iloadn (q := 1) C dX12_scheme_0 rfl rfl ?_
  refine v_iconst (q := 2) C dX12_scheme_1 rfl (by decide) ?_
  refine v_iconst (q := 3) C dX12_scheme_2 rfl (by decide) ?_
  refine u_cSi3 (q := 6) C (c_X12_within h) sy_X12_within ss_X12_within ml_X12_96 ⟨nb rfl, nb rfl⟩ (nb rfl) dX12_scheme_3 rfl (fun r2 μ1 h => ?_)
  refine v_if_ne (q := 9) (tgt := 12) C dX12_scheme_6 rfl rfl h (fun h => ?_) (fun h => ?_)
  · refine v_bipush (q := 11) C dX12_scheme_9 rfl (by decide) ?_
    exact u_iret hR dX12_scheme_11 h
  · refine v_aloadn (q := 13) C dX12_scheme_12 rfl rfl ?_
    refine u_getI (q := 16) C kl12 fl_X12_164 ob_248 pt_248_9 rfl rfl dX12_scheme_13 rfl ?_
    refine v_if_ne (q := 19) (tgt := 22) C dX12_scheme_16 rfl rfl h (fun h => ?_) (fun h => ?_)
    · refine v_bipush (q := 21) C dX12_scheme_19 rfl (by decide) ?_
      exact u_iret hR dX12_scheme_21 h
    · refine v_aloadn (q := 23) C dX12_scheme_22 rfl rfl ?_
      refine v_iconst (q := 24) C dX12_scheme_23 rfl (by decide) ?_
      refine v_iconst (q := 25) C dX12_scheme_24 rfl (by decide) ?_
      refine u_cVi2 (q := 28) C (c_X12_findScheme h) sy_X12_findScheme si_X12_findScheme ml_X12_263 ob_248 (by decide) so_X12_findScheme ⟨nb rfl, nb rfl⟩ (nb rfl) dX12_scheme_25 rfl (fun r4 μ3 h => ?_)
      refine v_if_ne (q := 31) (tgt := 34) C dX12_scheme_28 rfl rfl h (fun h => ?_) (fun h => ?_)
      · refine v_bipush (q := 33) C dX12_scheme_31 rfl (by decide) ?_
        exact u_iret hR dX12_scheme_33 h
      · refine v_iloadn (q := 35) C dX12_scheme_34 rfl rfl ?_
        refine v_if_ne (q := 38) (tgt := 45) C dX12_scheme_35 rfl rfl h (fun h => ?_) (fun h => ?_)
        · refine v_aloadn (q := 39) C dX12_scheme_38 rfl rfl ?_
          refine u_getI (q := 42) C kl12 fl_X12_260 ob_248 pt_248_28 rfl rfl dX12_scheme_39 rfl ?_
          refine v_goto (q := 61) C dX12_scheme_42 rfl ?_
          exact u_iret hR dX12_scheme_61 h
        · refine v_iloadn (q := 46) C dX12_scheme_45 rfl rfl ?_
          refine v_iconst (q := 47) C dX12_scheme_46 rfl (by decide) ?_
          refine v_icmp_ne (q := 50) (tgt := 57) C dX12_scheme_47 rfl rfl h (fun h => ?_) (fun h => ?_)
          · refine v_aloadn (q := 51) C dX12_scheme_50 rfl rfl ?_
            refine u_getI (q := 54) C kl12 fl_X12_257 ob_248 pt_248_29 rfl rfl dX12_scheme_51 rfl ?_
            refine v_goto (q := 61) C dX12_scheme_54 rfl ?_
            exact u_iret hR dX12_scheme_61 h
          · refine v_aloadn (q := 58) C dX12_scheme_57 rfl rfl ?_
            refine u_getI (q := 61) C kl12 fl_X12_251 ob_248 pt_248_30 rfl rfl dX12_scheme_58 rfl ?_
            exact u_iret hR dX12_scheme_61 h
theorem c_X12_script {x1 : Int} {x2 : Int} {μ : ZM} {K : Int → ZM → Prop} (h : P_X12_script  x1 x2 μ K) : zMu yX12_script cX12_script 3 (some .int) 1 22 [.inr 248, .inl x1, .inl x2] μ (KI K) := by
  refine zMet_of (L0 := [some (.inr 248), some (.inl x1), some (.inl x2)]) sy_X12_script rfl (nb rfl) (Nat.le_refl _) (fun X C _ hR _ _ => ?_)
  have C : zC X cX12_script RX12 3 (some .int) 1 22 274 := C
  refine v_iloadn (q := 1) C dX12_script_0 rfl rfl ?_
  refine v_iconst (q := 2) C dX12_script_1 rfl (by decide) ?_
  refine v_bipush (q := 4) C dX12_script_2 rfl (by decide) ?_
  refine u_cSi3 (q := 7) C (c_X12_within h) sy_X12_within ss_X12_within ml_X12_96 ⟨nb rfl, nb rfl⟩ (nb rfl) dX12_script_4 rfl (fun r2 μ1 h => ?_)
  refine v_if_eq (q := 10) (tgt := 19) C dX12_script_7 rfl rfl h (fun h => ?_) (fun h => ?_)
  · refine v_bipush (q := 21) C dX12_script_19 rfl (by decide) ?_
    exact u_iret hR dX12_script_21 h
  · refine v_iloadn (q := 11) C dX12_script_10 rfl rfl ?_
    refine v_iconst (q := 12) C dX12_script_11 rfl (by decide) ?_
    refine v_iconst (q := 13) C dX12_script_12 rfl (by decide) ?_
    refine u_cSi3 (q := 16) C (c_X12_within h) sy_X12_within ss_X12_within ml_X12_96 ⟨nb rfl, nb rfl⟩ (nb rfl) dX12_script_13 rfl (fun r4 μ3 h => ?_)
    refine v_if_ne (q := 19) (tgt := 22) C dX12_script_16 rfl rfl h (fun h => ?_) (fun h => ?_)
    · refine v_bipush (q := 21) C dX12_script_19 rfl (by decide) ?_
      exact u_iret hR dX12_script_21 h
    · refine v_iloadn (q := 23) C dX12_script_22 rfl rfl ?_
      refine v_aloadn (q := 24) C dX12_script_23 rfl rfl ?_
      refine u_getI (q := 27) C kl12 fl_X12_174 ob_248 pt_248_39 rfl rfl dX12_script_24 rfl ?_
      refine v_icmp_lt (q := 30) (tgt := 35) C dX12_script_27 rfl rfl h (fun h => ?_) (fun h => ?_)
      · refine v_iloadn (q := 36) C dX12_script_35 rfl rfl ?_
        refine v_if_ne (q := 39) (tgt := 48) C dX12_script_36 rfl rfl h (fun h => ?_) (fun h => ?_)
        · refine v_aloadn (q := 40) C dX12_script_39 rfl rfl ?_
          refine u_getR (q := 43) C kl12 fl_X12_73 ob_248 pt_248_40 (by decide) rfl rfl dX12_script_40 rfl ?_
          refine v_iloadn (q := 44) C dX12_script_43 rfl rfl ?_
          refine u_iald (q := 45) C ia_270 dX12_script_44 rfl h (fun h => ?_)
          refine v_goto (q := 54) C dX12_script_45 rfl ?_
          exact u_iret hR dX12_script_54 h
        · refine v_aloadn (q := 49) C dX12_script_48 rfl rfl ?_
          refine u_getR (q := 52) C kl12 fl_X12_76 ob_248 pt_248_41 (by decide) rfl rfl dX12_script_49 rfl ?_
          refine v_iloadn (q := 53) C dX12_script_52 rfl rfl ?_
          refine u_iald (q := 54) C ia_271 dX12_script_53 rfl h (fun h => ?_)
          exact u_iret hR dX12_script_54 h
      · refine v_bipush (q := 32) C dX12_script_30 rfl (by decide) ?_
        refine v_goto (q := 54) C dX12_script_32 rfl ?_
        exact u_iret hR dX12_script_54 h
theorem c_X12_side {x1 : Int} {x2 : Int} {μ : ZM} {K : Int → ZM → Prop} (h : P_X12_side  x1 x2 μ K) : zMu yX12_side cX12_side 3 (some .int) 2 44 [.inr 248, .inl x1, .inl x2] μ (KI K) := by
  refine zMet_of (L0 := [some (.inr 248), some (.inl x1), some (.inl x2)]) sy_X12_side rfl (nb rfl) (Nat.le_refl _) (fun X C _ hR _ _ => ?_)
  have C : zC X cX12_side RX12 3 (some .int) 2 44 274 := C
  refine v_iloadn (q := 1) C dX12_side_0 rfl rfl ?_
  refine v_iconst (q := 2) C dX12_side_1 rfl (by decide) ?_
  refine v_iconst (q := 3) C dX12_side_2 rfl (by decide) ?_
  refine u_cSi3 (q := 6) C (c_X12_within h) sy_X12_within ss_X12_within ml_X12_96 ⟨nb rfl, nb rfl⟩ (nb rfl) dX12_side_3 rfl (fun r2 μ1 h => ?_)
  refine v_if_eq (q := 9) (tgt := 19) C dX12_side_6 rfl rfl h (fun h => ?_) (fun h => ?_)
  · refine v_bipush (q := 21) C dX12_side_19 rfl (by decide) ?_
    exact u_iret hR dX12_side_21 h
  · refine v_iloadn (q := 10) C dX12_side_9 rfl rfl ?_
    refine v_iconst (q := 11) C dX12_side_10 rfl (by decide) ?_
    refine v_bipush (q := 13) C dX12_side_11 rfl (by decide) ?_
    refine u_cSi3 (q := 16) C (c_X12_within h) sy_X12_within ss_X12_within ml_X12_96 ⟨nb rfl, nb rfl⟩ (nb rfl) dX12_side_13 rfl (fun r4 μ3 h => ?_)
    refine v_if_ne (q := 19) (tgt := 22) C dX12_side_16 rfl rfl h (fun h => ?_) (fun h => ?_)
    · refine v_bipush (q := 21) C dX12_side_19 rfl (by decide) ?_
      exact u_iret hR dX12_side_21 h
    · refine v_aloadn (q := 23) C dX12_side_22 rfl rfl ?_
      refine u_getI (q := 26) C kl12 fl_X12_164 ob_248 pt_248_9 rfl rfl dX12_side_23 rfl ?_
      refine v_if_eq (q := 29) (tgt := 40) C dX12_side_26 rfl rfl h (fun h => ?_) (fun h => ?_)
      · refine v_bipush (q := 42) C dX12_side_40 rfl (by decide) ?_
        exact u_iret hR dX12_side_42 h
      · refine v_aloadn (q := 30) C dX12_side_29 rfl rfl ?_
        refine v_iconst (q := 31) C dX12_side_30 rfl (by decide) ?_
        refine v_iloadn (q := 32) C dX12_side_31 rfl rfl ?_
        refine u_iadd (q := 33) C dX12_side_32 rfl h (fun h => ?_)
        refine v_iloadn (q := 34) C dX12_side_33 rfl rfl ?_
        refine u_cVi2 (q := 37) C (c_X12_told h) sy_X12_told si_X12_told ml_X12_168 ob_248 (by decide) so_X12_told ⟨nb rfl, nb rfl⟩ (nb rfl) dX12_side_34 rfl (fun r6 μ5 h => ?_)
        refine v_goto (q := 42) C dX12_side_37 rfl ?_
        exact u_iret hR dX12_side_42 h
theorem w_X12_steered_19 {X : ZX} (C : zC X cX12_steered RX12 2 (some .int) 8 191 274) {K : Int → ZM → Prop} (hR : zRi X cX12_steered (some .int) 274 (KN (KI K)))  {x1 : Int} {μ : ZM}   (h : P_X12_steered_19   x1 μ K) : zV X 19 [some (.inr 248), some (.inl x1)] [] 274 (z_ov μ) := by
  refine v_aloadn (q := 20) C dX12_steered_19 rfl rfl ?_
  refine u_getI (q := 23) C kl12 fl_X12_164 ob_248 pt_248_9 rfl rfl dX12_steered_20 rfl ?_
  refine v_if_eq (q := 26) (tgt := 38) C dX12_steered_23 rfl rfl h (fun h => ?_) (fun h => ?_)
  · refine v_bipush (q := 40) C dX12_steered_38 rfl (by decide) ?_
    exact u_iret hR dX12_steered_40 h
  · refine v_aloadn (q := 27) C dX12_steered_26 rfl rfl ?_
    refine v_iconst (q := 28) C dX12_steered_27 rfl (by decide) ?_
    refine v_iconst (q := 29) C dX12_steered_28 rfl (by decide) ?_
    refine u_cVi2 (q := 32) C (c_X12_differenceOf h) sy_X12_differenceOf si_X12_differenceOf ml_X12_279 ob_248 (by decide) so_X12_differenceOf ⟨nb rfl, nb rfl⟩ (nb rfl) dX12_steered_29 rfl (fun r2 μ1 h => ?_)
    refine v_ldcw (q := 35) C kc_X12_269 dX12_steered_32 rfl (by decide) ?_
    refine v_icmp_lt (q := 38) (tgt := 41) C dX12_steered_35 rfl rfl h (fun h => ?_) (fun h => ?_)
    · refine v_aloadn (q := 42) C dX12_steered_41 rfl rfl ?_
      refine v_iconst (q := 43) C dX12_steered_42 rfl (by decide) ?_
      refine v_bipush (q := 45) C dX12_steered_43 rfl (by decide) ?_
      refine u_cVv2 (q := 48) C (c_X12_copies h) sy_X12_copies si_X12_copies ml_X12_161 ob_248 (by decide) so_X12_copies ⟨nb rfl, nb rfl⟩ (nb rfl) dX12_steered_45 rfl (fun μ3 h => ?_)
      refine v_aloadn (q := 49) C dX12_steered_48 rfl rfl ?_
      refine v_bipush (q := 51) C dX12_steered_49 rfl (by decide) ?_
      refine v_iconst (q := 52) C dX12_steered_51 rfl (by decide) ?_
      refine v_bipush (q := 54) C dX12_steered_52 rfl (by decide) ?_
      refine u_cVv3 (q := 57) C (c_X12_steers h) sy_X12_steers si_X12_steers ml_X12_311 ob_248 (by decide) so_X12_steers ⟨nb rfl, nb rfl⟩ (nb rfl) dX12_steered_54 rfl (fun μ4 h => ?_)
      refine v_aloadn (q := 58) C dX12_steered_57 rfl rfl ?_
      refine v_bipush (q := 60) C dX12_steered_58 rfl (by decide) ?_
      refine v_iloadn (q := 61) C dX12_steered_60 rfl rfl ?_
      refine u_cVi2 (q := 64) C (c_X12_told h) sy_X12_told si_X12_told ml_X12_168 ob_248 (by decide) so_X12_told ⟨nb rfl, nb rfl⟩ (nb rfl) dX12_steered_61 rfl (fun r6 μ5 h => ?_)
      exact u_iret hR dX12_steered_64 h
    · refine v_bipush (q := 40) C dX12_steered_38 rfl (by decide) ?_
      exact u_iret hR dX12_steered_40 h
theorem c_X12_steered {x1 : Int} {μ : ZM} {K : Int → ZM → Prop} (h : P_X12_steered  x1 μ K) : zMu yX12_steered cX12_steered 2 (some .int) 8 191 [.inr 248, .inl x1] μ (KI K) := by
  refine zMet_of (L0 := [some (.inr 248), some (.inl x1)]) sy_X12_steered rfl (nb rfl) (Nat.le_refl _) (fun X C _ hR _ _ => ?_)
  have C : zC X cX12_steered RX12 2 (some .int) 8 191 274 := C
  refine v_iloadn (q := 1) C dX12_steered_0 rfl rfl ?_
  refine v_bipush (q := 3) C dX12_steered_1 rfl (by decide) ?_
  refine v_icmp_eq (q := 6) (tgt := 19) C dX12_steered_3 rfl rfl h (fun h => ?_) (fun h => ?_)
  · exact (w_X12_steered_19  C hR   h)
  · refine v_iloadn (q := 7) C dX12_steered_6 rfl rfl ?_
    refine v_iconst (q := 8) C dX12_steered_7 rfl (by decide) ?_
    refine v_bipush (q := 10) C dX12_steered_8 rfl (by decide) ?_
    refine u_cSi3 (q := 13) C (c_X12_within h) sy_X12_within ss_X12_within ml_X12_96 ⟨nb rfl, nb rfl⟩ (nb rfl) dX12_steered_10 rfl (fun r8 μ7 h => ?_)
    refine v_if_ne (q := 16) (tgt := 19) C dX12_steered_13 rfl rfl h (fun h => ?_) (fun h => ?_)
    · refine v_bipush (q := 18) C dX12_steered_16 rfl (by decide) ?_
      exact u_iret hR dX12_steered_18 h
    · exact (w_X12_steered_19  C hR   h)
theorem w_X12_tested_94 {X : ZX} (C : zC X cX12_tested RX12 6 (some .int) 6 148 274) {K : Int → ZM → Prop} (hR : zRi X cX12_tested (some .int) 274 (KN (KI K)))  {x1 : Int} {x2 : Int} {x4 : Int} {s0 : Int} {s1 : Int} {μ : ZM} {G27 : Int → Int → ZM → Prop} (hG27 : ∀ (x3 x4 : Int) (μ : ZM), G27 x3 x4 μ → zV X 27 [some (.inr 248), some (.inl x1), some (.inl x2), some (.inl x3), some (.inl x4), none] [] 274 (z_ov μ))  (h : P_X12_tested_94  G27 x1 x2 x4 s0 s1 μ K) : zV X 94 [some (.inr 248), some (.inl x1), some (.inl x2), none, some (.inl x4), none] [.inl s1, .inl s0] 274 (z_ov μ) := by
  refine u_iadd (q := 95) C dX12_tested_94 rfl h (fun h => ?_)
  refine v_istoren (q := 96) C dX12_tested_95 rfl (nb rfl) (L' := [some (.inr 248), some (.inl x1), some (.inl x2), some (.inl (s0 + s1)), some (.inl x4), none]) rfl ?_
  refine u_iinc (q := 99) C dX12_tested_96 rfl (nb rfl) rfl (L' := [some (.inr 248), some (.inl x1), some (.inl x2), some (.inl (s0 + s1)), some (.inl (x4 + 1)), none]) rfl h (fun h => ?_)
  refine v_goto (q := 27) C dX12_tested_99 rfl ?_
  exact (hG27 _ _ _ h)
theorem w_X12_tested_85 {X : ZX} (C : zC X cX12_tested RX12 6 (some .int) 6 148 274) {K : Int → ZM → Prop} (hR : zRi X cX12_tested (some .int) 274 (KN (KI K)))  {x1 : Int} {x2 : Int} {x4 : Int} {s0 : Int} {s1 : Int} {μ : ZM} {G27 : Int → Int → ZM → Prop} (hG27 : ∀ (x3 x4 : Int) (μ : ZM), G27 x3 x4 μ → zV X 27 [some (.inr 248), some (.inl x1), some (.inl x2), some (.inl x3), some (.inl x4), none] [] 274 (z_ov μ))  (h : P_X12_tested_85  G27 x1 x2 x4 s0 s1 μ K) : zV X 85 [some (.inr 248), some (.inl x1), some (.inl x2), none, some (.inl x4), none] [.inl s1, .inl s0] 274 (z_ov μ) := by
  refine v_iloadn (q := 86) C dX12_tested_85 rfl rfl ?_
  refine v_icmp_ne (q := 89) (tgt := 93) C dX12_tested_86 rfl rfl h (fun h => ?_) (fun h => ?_)
  · refine v_iconst (q := 90) C dX12_tested_89 rfl (by decide) ?_
    refine v_goto (q := 94) C dX12_tested_90 rfl ?_
    exact (w_X12_tested_94  C hR hG27  h)
  · refine v_iconst (q := 94) C dX12_tested_93 rfl (by decide) ?_
    exact (w_X12_tested_94  C hR hG27  h)
theorem w_X12_tested_27 {X : ZX} (C : zC X cX12_tested RX12 6 (some .int) 6 148 274) {K : Int → ZM → Prop} (hR : zRi X cX12_tested (some .int) 274 (KN (KI K)))  {x1 : Int} {x2 : Int} {x3 : Int} {x4 : Int} {μ : ZM}   (h : P_X12_tested_27   x1 x2 x3 x4 μ K) : zV X 27 [some (.inr 248), some (.inl x1), some (.inl x2), some (.inl x3), some (.inl x4), none] [] 274 (z_ov μ) := by
  refine h (fun x3 x4 μ => zV X 27 [some (.inr 248), some (.inl x1), some (.inl x2), some (.inl x3), some (.inl x4), none] [] 274 (z_ov μ)) (fun x3 x4 μ h => ?_)
  refine v_iload (q := 29) C dX12_tested_27 rfl rfl ?_
  refine v_bipush (q := 31) C dX12_tested_29 rfl (by decide) ?_
  refine v_icmp_ge (q := 34) (tgt := 102) C dX12_tested_31 rfl rfl h (fun h => ?_) (fun h => ?_)
  · refine v_iloadn (q := 103) C dX12_tested_102 rfl rfl ?_
    exact u_iret hR dX12_tested_103 h
  · refine v_aloadn (q := 35) C dX12_tested_34 rfl rfl ?_
    refine v_bipush (q := 37) C dX12_tested_35 rfl (by decide) ?_
    refine v_iconst (q := 38) C dX12_tested_37 rfl (by decide) ?_
    refine v_iloadn (q := 39) C dX12_tested_38 rfl rfl ?_
    refine u_imul (q := 40) C dX12_tested_39 rfl h (fun h => ?_)
    refine u_iadd (q := 41) C dX12_tested_40 rfl h (fun h => ?_)
    refine v_bipush (q := 43) C dX12_tested_41 rfl (by decide) ?_
    refine v_iconst (q := 44) C dX12_tested_43 rfl (by decide) ?_
    refine v_iloadn (q := 45) C dX12_tested_44 rfl rfl ?_
    refine u_imul (q := 46) C dX12_tested_45 rfl h (fun h => ?_)
    refine u_iadd (q := 47) C dX12_tested_46 rfl h (fun h => ?_)
    refine v_iconst (q := 48) C dX12_tested_47 rfl (by decide) ?_
    refine u_iadd (q := 49) C dX12_tested_48 rfl h (fun h => ?_)
    refine v_iload (q := 51) C dX12_tested_49 rfl rfl ?_
    refine v_bipush (q := 53) C dX12_tested_51 rfl (by decide) ?_
    refine u_idiv (q := 54) C dX12_tested_53 rfl h (fun h => ?_)
    refine v_iload (q := 56) C dX12_tested_54 rfl rfl ?_
    refine v_iconst (q := 57) C dX12_tested_56 rfl (by decide) ?_
    refine u_idiv (q := 58) C dX12_tested_57 rfl h (fun h => ?_)
    refine v_iconst (q := 59) C dX12_tested_58 rfl (by decide) ?_
    refine u_irem (q := 60) C dX12_tested_59 rfl h (fun h => ?_)
    refine v_iload (q := 62) C dX12_tested_60 rfl rfl ?_
    refine v_iconst (q := 63) C dX12_tested_62 rfl (by decide) ?_
    refine u_irem (q := 64) C dX12_tested_63 rfl h (fun h => ?_)
    refine u_cVi5 (q := 67) C (c_X12_holdsBy h) sy_X12_holdsBy si_X12_holdsBy ml_X12_207 ob_248 (by decide) so_X12_holdsBy ⟨nb rfl, nb rfl⟩ (nb rfl) dX12_tested_64 rfl (fun r6 μ5 h => ?_)
    refine v_istore (q := 69) C dX12_tested_67 rfl (nb rfl) (L' := [some (.inr 248), some (.inl x1), some (.inl x2), some (.inl x3), some (.inl x4), some (.inl r6)]) rfl ?_
    refine v_iloadn (q := 70) C dX12_tested_69 rfl rfl ?_
    refine v_iload (q := 72) C dX12_tested_70 rfl rfl ?_
    refine v_bipush (q := 74) C dX12_tested_72 rfl (by decide) ?_
    refine v_icmp_ne (q := 77) (tgt := 81) C dX12_tested_74 rfl rfl h (fun h => ?_) (fun h => ?_)
    · refine v_iconst (q := 78) C dX12_tested_77 rfl (by decide) ?_
      refine v_goto (q := 85) C dX12_tested_78 rfl ?_
      exact v_mask [true, true, true, false, true, false] rfl (w_X12_tested_85  C hR (fun _ _ _ h => h)  h)
    · refine v_iconst (q := 82) C dX12_tested_81 rfl (by decide) ?_
      refine v_iload (q := 84) C dX12_tested_82 rfl rfl ?_
      refine u_isub (q := 85) C dX12_tested_84 rfl h (fun h => ?_)
      exact v_mask [true, true, true, false, true, false] rfl (w_X12_tested_85  C hR (fun _ _ _ h => h)  h)
theorem c_X12_tested {x1 : Int} {x2 : Int} {μ : ZM} {K : Int → ZM → Prop} (h : P_X12_tested  x1 x2 μ K) : zMu yX12_tested cX12_tested 6 (some .int) 6 148 [.inr 248, .inl x1, .inl x2] μ (KI K) := by
  refine zMet_of (L0 := [some (.inr 248), some (.inl x1), some (.inl x2), none, none, none]) sy_X12_tested rfl (nb rfl) (Nat.le_refl _) (fun X C _ hR _ _ => ?_)
  have C : zC X cX12_tested RX12 6 (some .int) 6 148 274 := C
  refine v_aloadn (q := 1) C dX12_tested_0 rfl rfl ?_
  refine v_iloadn (q := 2) C dX12_tested_1 rfl rfl ?_
  refine u_cVi1 (q := 5) C (c_X12_isKnown h) sy_X12_isKnown si_X12_isKnown ml_X12_383 ob_248 (by decide) so_X12_isKnown ⟨nb rfl, nb rfl⟩ (nb rfl) dX12_tested_2 rfl (fun r2 μ1 h => ?_)
  refine v_if_ne (q := 8) (tgt := 10) C dX12_tested_5 rfl rfl h (fun h => ?_) (fun h => ?_)
  · refine v_iconst (q := 9) C dX12_tested_8 rfl (by decide) ?_
    exact u_iret hR dX12_tested_9 h
  · refine v_iloadn (q := 11) C dX12_tested_10 rfl rfl ?_
    refine v_iconst (q := 12) C dX12_tested_11 rfl (by decide) ?_
    refine v_iconst (q := 13) C dX12_tested_12 rfl (by decide) ?_
    refine u_cSi3 (q := 16) C (c_X12_within h) sy_X12_within ss_X12_within ml_X12_96 ⟨nb rfl, nb rfl⟩ (nb rfl) dX12_tested_13 rfl (fun r4 μ3 h => ?_)
    refine v_if_ne (q := 19) (tgt := 22) C dX12_tested_16 rfl rfl h (fun h => ?_) (fun h => ?_)
    · refine v_bipush (q := 21) C dX12_tested_19 rfl (by decide) ?_
      exact u_iret hR dX12_tested_21 h
    · refine v_iconst (q := 23) C dX12_tested_22 rfl (by decide) ?_
      refine v_istoren (q := 24) C dX12_tested_23 rfl (nb rfl) (L' := [some (.inr 248), some (.inl x1), some (.inl x2), some (.inl 0), none, none]) rfl ?_
      refine v_iconst (q := 25) C dX12_tested_24 rfl (by decide) ?_
      refine v_istore (q := 27) C dX12_tested_25 rfl (nb rfl) (L' := [some (.inr 248), some (.inl x1), some (.inl x2), some (.inl 0), some (.inl 0), none]) rfl ?_
      exact (w_X12_tested_27  C hR   h)
theorem c_X12_type {x1 : Int} {μ : ZM} {K : Int → ZM → Prop} (h : P_X12_type  x1 μ K) : zMu yX12_type cX12_type 2 (some .int) 1 22 [.inr 248, .inl x1] μ (KI K) := by
  refine zMet_of (L0 := [some (.inr 248), some (.inl x1)]) sy_X12_type rfl (nb rfl) (Nat.le_refl _) (fun X C _ hR _ _ => ?_)
  have C : zC X cX12_type RX12 2 (some .int) 1 22 274 := C
  refine v_iloadn (q := 1) C dX12_type_0 rfl rfl ?_
  refine v_iconst (q := 2) C dX12_type_1 rfl (by decide) ?_
  refine v_bipush (q := 4) C dX12_type_2 rfl (by decide) ?_
  refine u_cSi3 (q := 7) C (c_X12_within h) sy_X12_within ss_X12_within ml_X12_96 ⟨nb rfl, nb rfl⟩ (nb rfl) dX12_type_4 rfl (fun r2 μ1 h => ?_)
  refine v_if_ne (q := 10) (tgt := 13) C dX12_type_7 rfl rfl h (fun h => ?_) (fun h => ?_)
  · refine v_bipush (q := 12) C dX12_type_10 rfl (by decide) ?_
    exact u_iret hR dX12_type_12 h
  · refine v_aloadn (q := 14) C dX12_type_13 rfl rfl ?_
    refine u_getI (q := 17) C kl12 fl_X12_108 ob_248 pt_248_3 rfl rfl dX12_type_14 rfl ?_
    refine v_bipush (q := 19) C dX12_type_17 rfl (by decide) ?_
    refine v_icmp_ne (q := 22) (tgt := 25) C dX12_type_19 rfl rfl h (fun h => ?_) (fun h => ?_)
    · refine v_bipush (q := 24) C dX12_type_22 rfl (by decide) ?_
      exact u_iret hR dX12_type_24 h
    · refine v_aloadn (q := 26) C dX12_type_25 rfl rfl ?_
      refine u_getR (q := 29) C kl12 fl_X12_16 ob_248 pt_248_2 (by decide) rfl rfl dX12_type_26 rfl ?_
      refine v_aloadn (q := 30) C dX12_type_29 rfl rfl ?_
      refine u_getI (q := 33) C kl12 fl_X12_108 ob_248 pt_248_3 rfl rfl dX12_type_30 rfl ?_
      refine v_iloadn (q := 34) C dX12_type_33 rfl rfl ?_
      refine u_iast (q := 35) C ia_251 dX12_type_34 rfl h (fun μ3 h => ?_)
      refine v_aloadn (q := 36) C dX12_type_35 rfl rfl ?_
      refine v_dup (q := 37) C dX12_type_36 rfl ?_
      refine u_getI (q := 40) C kl12 fl_X12_108 ob_248 pt_248_3 rfl rfl dX12_type_37 rfl ?_
      refine v_iconst (q := 41) C dX12_type_40 rfl (by decide) ?_
      refine u_iadd (q := 42) C dX12_type_41 rfl h (fun h => ?_)
      refine u_put (q := 45) C kl12 fl_X12_108 ob_248 pt_248_3 rfl rfl rfl rfl dX12_type_42 rfl h (fun μ4 h => ?_)
      refine v_aloadn (q := 46) C dX12_type_45 rfl rfl ?_
      refine u_getI (q := 49) C kl12 fl_X12_108 ob_248 pt_248_3 rfl rfl dX12_type_46 rfl ?_
      exact u_iret hR dX12_type_49 h
