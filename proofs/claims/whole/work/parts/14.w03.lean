theorem c_X11_difference  {μ : ZM} {K : Int → ZM → Prop} (h : P_X11_difference   μ K) : zMu yX11_difference cX11_difference 1 (some .int) 3 96 [.inr 206] μ (KI K) := by
  refine zMet_of (L0 := [some (.inr 206)]) sy_X11_difference rfl (nb rfl) (Nat.le_refl _) (fun X C _ hR _ _ => ?_)
  have C : zC X cX11_difference RX11 1 (some .int) 3 96 274 := C
  refine v_aloadn (q := 1) C dX11_difference_0 rfl rfl ?_
  refine u_getI (q := 4) C kl11 fl_X11_91 ob_206 pt_206_11 rfl rfl dX11_difference_1 rfl ?_
  refine v_if_eq (q := 7) (tgt := 31) C dX11_difference_4 rfl rfl h (fun h => ?_) (fun h => ?_)
  · refine v_bipush (q := 33) C dX11_difference_31 rfl (by decide) ?_
    exact u_iret hR dX11_difference_33 h
  · refine v_aloadn (q := 8) C dX11_difference_7 rfl rfl ?_
    refine u_getR (q := 11) C kl11 fl_X11_42 ob_206 pt_206_4 (by decide) rfl rfl dX11_difference_8 rfl ?_
    refine v_aloadn (q := 12) C dX11_difference_11 rfl rfl ?_
    refine u_getR (q := 15) C kl11 fl_X11_77 ob_206 pt_206_8 (by decide) rfl rfl dX11_difference_12 rfl ?_
    refine u_getR (q := 18) C kl0 fl_X11_144 ob_204 pt_204_0 (by decide) rfl rfl dX11_difference_15 rfl ?_
    refine v_aloadn (q := 19) C dX11_difference_18 rfl rfl ?_
    refine u_getR (q := 22) C kl11 fl_X11_77 ob_206 pt_206_8 (by decide) rfl rfl dX11_difference_19 rfl ?_
    refine u_getR (q := 25) C kl0 fl_X11_151 ob_204 pt_204_1 (by decide) rfl rfl dX11_difference_22 rfl ?_
    refine u_cVi2 (q := 28) C (c_X1_smallest h) sy_X1_smallest si_X1_smallest ml_X11_206 ob_233 (by decide) so_X1_smallest ⟨nb rfl, nb rfl⟩ (nb rfl) dX11_difference_25 rfl (fun r2 μ1 h => ?_)
    refine v_goto (q := 33) C dX11_difference_28 rfl ?_
    exact u_iret hR dX11_difference_33 h
theorem c_X11_function {x1 : Int} {x2 : Int} {μ : ZM} {K : Int → ZM → Prop} (h : P_X11_function  x1 x2 μ K) : zMu yX11_function cX11_function 3 (some .int) 4 93 [.inr 206, .inl x1, .inl x2] μ (KI K) := by
  refine zMet_of (L0 := [some (.inr 206), some (.inl x1), some (.inl x2)]) sy_X11_function rfl (nb rfl) (Nat.le_refl _) (fun X C _ hR _ _ => ?_)
  have C : zC X cX11_function RX11 3 (some .int) 4 93 274 := C
  refine v_iloadn (q := 1) C dX11_function_0 rfl rfl ?_
  refine v_iconst (q := 2) C dX11_function_1 rfl (by decide) ?_
  refine v_icmp_lt (q := 5) (tgt := 20) C dX11_function_2 rfl rfl h (fun h => ?_) (fun h => ?_)
  · refine v_bipush (q := 22) C dX11_function_20 rfl (by decide) ?_
    exact u_iret hR dX11_function_22 h
  · refine v_iloadn (q := 6) C dX11_function_5 rfl rfl ?_
    refine v_iconst (q := 7) C dX11_function_6 rfl (by decide) ?_
    refine v_icmp_gt (q := 10) (tgt := 20) C dX11_function_7 rfl rfl h (fun h => ?_) (fun h => ?_)
    · refine v_bipush (q := 22) C dX11_function_20 rfl (by decide) ?_
      exact u_iret hR dX11_function_22 h
    · refine v_iloadn (q := 11) C dX11_function_10 rfl rfl ?_
      refine v_iconst (q := 12) C dX11_function_11 rfl (by decide) ?_
      refine v_icmp_lt (q := 15) (tgt := 20) C dX11_function_12 rfl rfl h (fun h => ?_) (fun h => ?_)
      · refine v_bipush (q := 22) C dX11_function_20 rfl (by decide) ?_
        exact u_iret hR dX11_function_22 h
      · refine v_iloadn (q := 16) C dX11_function_15 rfl rfl ?_
        refine v_iconst (q := 17) C dX11_function_16 rfl (by decide) ?_
        refine v_icmp_le (q := 20) (tgt := 23) C dX11_function_17 rfl rfl h (fun h => ?_) (fun h => ?_)
        · refine v_aloadn (q := 24) C dX11_function_23 rfl rfl ?_
          refine u_getR (q := 27) C kl11 fl_X11_12 ob_206 pt_206_0 (by decide) rfl rfl dX11_function_24 rfl ?_
          refine u_getI (q := 30) C kl3 fl_X11_107 ob_207 pt_207_4 rfl rfl dX11_function_27 rfl ?_
          refine v_bipush (q := 32) C dX11_function_30 rfl (by decide) ?_
          refine v_icmp_lt (q := 35) (tgt := 38) C dX11_function_32 rfl rfl h (fun h => ?_) (fun h => ?_)
          · refine v_aloadn (q := 39) C dX11_function_38 rfl rfl ?_
            refine u_getR (q := 42) C kl11 fl_X11_21 ob_206 pt_206_1 (by decide) rfl rfl dX11_function_39 rfl ?_
            refine v_iloadn (q := 43) C dX11_function_42 rfl rfl ?_
            refine v_iloadn (q := 44) C dX11_function_43 rfl rfl ?_
            refine u_cVi2 (q := 47) C (c_X9_readFunction h) sy_X9_readFunction si_X9_readFunction ml_X11_108 ob_212 (by decide) so_X9_readFunction ⟨nb rfl, nb rfl⟩ (nb rfl) dX11_function_44 rfl (fun r2 μ1 h => ?_)
            refine v_if_ne (q := 50) (tgt := 61) C dX11_function_47 rfl rfl h (fun h => ?_) (fun h => ?_)
            · refine v_bipush (q := 52) C dX11_function_50 rfl (by decide) ?_
              refine v_aloadn (q := 53) C dX11_function_52 rfl rfl ?_
              refine u_getR (q := 56) C kl11 fl_X11_21 ob_206 pt_206_1 (by decide) rfl rfl dX11_function_53 rfl ?_
              refine u_getI (q := 59) C kl9 fl_X11_111 ob_212 pt_212_4 rfl rfl dX11_function_56 rfl ?_
              refine u_isub (q := 60) C dX11_function_59 rfl h (fun h => ?_)
              exact u_iret hR dX11_function_60 h
            · refine v_aloadn (q := 62) C dX11_function_61 rfl rfl ?_
              refine u_getR (q := 65) C kl11 fl_X11_12 ob_206 pt_206_0 (by decide) rfl rfl dX11_function_62 rfl ?_
              refine v_iloadn (q := 66) C dX11_function_65 rfl rfl ?_
              refine v_iloadn (q := 67) C dX11_function_66 rfl rfl ?_
              refine v_aloadn (q := 68) C dX11_function_67 rfl rfl ?_
              refine u_getR (q := 71) C kl11 fl_X11_21 ob_206 pt_206_1 (by decide) rfl rfl dX11_function_68 rfl ?_
              refine u_getR (q := 74) C kl9 fl_X11_114 ob_212 pt_212_1 (by decide) rfl rfl dX11_function_71 rfl ?_
              refine u_cVv3 (q := 77) C (c_X3_define h) sy_X3_define si_X3_define ml_X11_118 ob_207 (by decide) so_X3_define ⟨nb rfl, nb rfl⟩ (nb rfl) dX11_function_74 rfl (fun μ3 h => ?_)
              refine v_aloadn (q := 78) C dX11_function_77 rfl rfl ?_
              refine u_getR (q := 81) C kl11 fl_X11_12 ob_206 pt_206_0 (by decide) rfl rfl dX11_function_78 rfl ?_
              refine u_getI (q := 84) C kl3 fl_X11_107 ob_207 pt_207_4 rfl rfl dX11_function_81 rfl ?_
              refine v_iconst (q := 85) C dX11_function_84 rfl (by decide) ?_
              refine u_isub (q := 86) C dX11_function_85 rfl h (fun h => ?_)
              exact u_iret hR dX11_function_86 h
          · refine v_bipush (q := 37) C dX11_function_35 rfl (by decide) ?_
            exact u_iret hR dX11_function_37 h
        · refine v_bipush (q := 22) C dX11_function_20 rfl (by decide) ?_
          exact u_iret hR dX11_function_22 h
theorem c_X11_general {x1 : Int} {x2 : Int} {μ : ZM} {K : Int → ZM → Prop} (h : P_X11_general  x1 x2 μ K) : zMu yX11_general cX11_general 3 (some .int) 4 106 [.inr 206, .inl x1, .inl x2] μ (KI K) := by
  refine zMet_of (L0 := [some (.inr 206), some (.inl x1), some (.inl x2)]) sy_X11_general rfl (nb rfl) (Nat.le_refl _) (fun X C _ hR _ _ => ?_)
  have C : zC X cX11_general RX11 3 (some .int) 4 106 274 := C
  refine v_iloadn (q := 1) C dX11_general_0 rfl rfl ?_
  refine v_iconst (q := 2) C dX11_general_1 rfl (by decide) ?_
  refine u_cSi2 (q := 5) C (c_X11_isOutside h) sy_X11_isOutside ss_X11_isOutside ml_X11_95 ⟨nb rfl, nb rfl⟩ (nb rfl) dX11_general_2 rfl (fun r2 μ1 h => ?_)
  refine v_if_ne (q := 8) (tgt := 17) C dX11_general_5 rfl rfl h (fun h => ?_) (fun h => ?_)
  · refine v_iloadn (q := 9) C dX11_general_8 rfl rfl ?_
    refine v_bipush (q := 11) C dX11_general_9 rfl (by decide) ?_
    refine u_cSi2 (q := 14) C (c_X11_isNoPlace h) sy_X11_isNoPlace ss_X11_isNoPlace ml_X11_188 ⟨nb rfl, nb rfl⟩ (nb rfl) dX11_general_11 rfl (fun r4 μ3 h => ?_)
    refine v_if_eq (q := 17) (tgt := 20) C dX11_general_14 rfl rfl h (fun h => ?_) (fun h => ?_)
    · refine v_aloadn (q := 21) C dX11_general_20 rfl rfl ?_
      refine u_getI (q := 24) C kl11 fl_X11_91 ob_206 pt_206_11 rfl rfl dX11_general_21 rfl ?_
      refine v_if_ne (q := 27) (tgt := 30) C dX11_general_24 rfl rfl h (fun h => ?_) (fun h => ?_)
      · refine v_bipush (q := 29) C dX11_general_27 rfl (by decide) ?_
        exact u_iret hR dX11_general_29 h
      · refine v_aloadn (q := 31) C dX11_general_30 rfl rfl ?_
        refine u_getR (q := 34) C kl11 fl_X11_77 ob_206 pt_206_8 (by decide) rfl rfl dX11_general_31 rfl ?_
        refine v_aloadn (q := 35) C dX11_general_34 rfl rfl ?_
        refine u_getR (q := 38) C kl11 fl_X11_81 ob_206 pt_206_9 (by decide) rfl rfl dX11_general_35 rfl ?_
        refine v_aloadn (q := 39) C dX11_general_38 rfl rfl ?_
        refine u_getR (q := 42) C kl11 fl_X11_12 ob_206 pt_206_0 (by decide) rfl rfl dX11_general_39 rfl ?_
        refine u_cVi2 (q := 45) C (c_X0_generalize h) sy_X0_generalize si_X0_generalize ml_X11_224 ob_204 (by decide) so_X0_generalize ⟨nb rfl, nb rfl⟩ (nb rfl) dX11_general_42 rfl (fun r6 μ5 h => ?_)
        refine v_pop (q := 46) C dX11_general_45 rfl ?_
        refine v_aloadn (q := 47) C dX11_general_46 rfl rfl ?_
        refine u_getR (q := 50) C kl11 fl_X11_81 ob_206 pt_206_9 (by decide) rfl rfl dX11_general_47 rfl ?_
        refine v_iloadn (q := 51) C dX11_general_50 rfl rfl ?_
        refine u_cVa1 (q := 54) C (c_X0_part h) sy_X0_part si_X0_part ml_X11_154 ob_205 (by decide) so_X0_part ⟨nb rfl, nb rfl⟩ (nb rfl) dX11_general_51 rfl (fun r8 μ7 h => ?_)
        have hf9 := h.1
        replace h := h.2
        refine v_iloadn (q := 55) C dX11_general_54 rfl rfl ?_
        refine u_cVi1 (q := 58) C (c_X10_symbolOrSize h) sy_X10_symbolOrSize si_X10_symbolOrSize ml_X11_136 (ob_tm hf9) (by decide) so_X10_symbolOrSize ⟨nb rfl, nb rfl⟩ (nb rfl) dX11_general_55 rfl (fun r11 μ10 h => ?_)
        exact u_iret hR dX11_general_58 h
    · refine v_bipush (q := 19) C dX11_general_17 rfl (by decide) ?_
      exact u_iret hR dX11_general_19 h
  · refine v_bipush (q := 19) C dX11_general_17 rfl (by decide) ?_
    exact u_iret hR dX11_general_19 h
theorem c_X11_holds {x1 : Int} {x2 : Int} {x3 : Int} {μ : ZM} {K : Int → ZM → Prop} (h : P_X11_holds  x1 x2 x3 μ K) : zMu yX11_holds cX11_holds 4 (some .int) 4 118 [.inr 206, .inl x1, .inl x2, .inl x3] μ (KI K) := by
  refine zMet_of (L0 := [some (.inr 206), some (.inl x1), some (.inl x2), some (.inl x3)]) sy_X11_holds rfl (nb rfl) (Nat.le_refl _) (fun X C _ hR _ _ => ?_)
  have C : zC X cX11_holds RX11 4 (some .int) 4 118 274 := C
  refine v_iloadn (q := 1) C dX11_holds_0 rfl rfl ?_
  refine v_iconst (q := 2) C dX11_holds_1 rfl (by decide) ?_
  refine u_cSi2 (q := 5) C (c_X11_isOutside h) sy_X11_isOutside ss_X11_isOutside ml_X11_95 ⟨nb rfl, nb rfl⟩ (nb rfl) dX11_holds_2 rfl (fun r2 μ1 h => ?_)
  refine v_if_ne (q := 8) (tgt := 24) C dX11_holds_5 rfl rfl h (fun h => ?_) (fun h => ?_)
  · refine v_iloadn (q := 9) C dX11_holds_8 rfl rfl ?_
    refine v_iconst (q := 10) C dX11_holds_9 rfl (by decide) ?_
    refine u_cSi2 (q := 13) C (c_X11_isOutside h) sy_X11_isOutside ss_X11_isOutside ml_X11_95 ⟨nb rfl, nb rfl⟩ (nb rfl) dX11_holds_10 rfl (fun r4 μ3 h => ?_)
    refine v_if_ne (q := 16) (tgt := 24) C dX11_holds_13 rfl rfl h (fun h => ?_) (fun h => ?_)
    · refine v_iloadn (q := 17) C dX11_holds_16 rfl rfl ?_
      refine v_iconst (q := 18) C dX11_holds_17 rfl (by decide) ?_
      refine u_cSi2 (q := 21) C (c_X11_isOutside h) sy_X11_isOutside ss_X11_isOutside ml_X11_95 ⟨nb rfl, nb rfl⟩ (nb rfl) dX11_holds_18 rfl (fun r6 μ5 h => ?_)
      refine v_if_eq (q := 24) (tgt := 27) C dX11_holds_21 rfl rfl h (fun h => ?_) (fun h => ?_)
      · refine v_aloadn (q := 28) C dX11_holds_27 rfl rfl ?_
        refine u_getI (q := 31) C kl11 fl_X11_91 ob_206 pt_206_11 rfl rfl dX11_holds_28 rfl ?_
        refine v_if_eq (q := 34) (tgt := 51) C dX11_holds_31 rfl rfl h (fun h => ?_) (fun h => ?_)
        · refine v_bipush (q := 53) C dX11_holds_51 rfl (by decide) ?_
          exact u_iret hR dX11_holds_53 h
        · refine v_aloadn (q := 35) C dX11_holds_34 rfl rfl ?_
          refine u_getR (q := 38) C kl11 fl_X11_28 ob_206 pt_206_2 (by decide) rfl rfl dX11_holds_35 rfl ?_
          refine v_aloadn (q := 39) C dX11_holds_38 rfl rfl ?_
          refine u_getR (q := 42) C kl11 fl_X11_77 ob_206 pt_206_8 (by decide) rfl rfl dX11_holds_39 rfl ?_
          refine v_iloadn (q := 43) C dX11_holds_42 rfl rfl ?_
          refine v_iloadn (q := 44) C dX11_holds_43 rfl rfl ?_
          refine v_iloadn (q := 45) C dX11_holds_44 rfl rfl ?_
          refine u_cVi4 (q := 48) C (c_X2_compare h) sy_X2_compare si_X2_compare ml_X11_177 ob_215 (by decide) so_X2_compare ⟨nb rfl, nb rfl⟩ (nb rfl) dX11_holds_45 rfl (fun r8 μ7 h => ?_)
          refine v_goto (q := 53) C dX11_holds_48 rfl ?_
          exact u_iret hR dX11_holds_53 h
      · refine v_bipush (q := 26) C dX11_holds_24 rfl (by decide) ?_
        exact u_iret hR dX11_holds_26 h
    · refine v_bipush (q := 26) C dX11_holds_24 rfl (by decide) ?_
      exact u_iret hR dX11_holds_26 h
  · refine v_bipush (q := 26) C dX11_holds_24 rfl (by decide) ?_
    exact u_iret hR dX11_holds_26 h
theorem c_X11_lemma {x1 : Int} {x2 : Int} {x3 : Int} {μ : ZM} {K : Int → ZM → Prop} (h : P_X11_lemma  x1 x2 x3 μ K) : zMu yX11_lemma cX11_lemma 4 (some .int) 2 42 [.inr 206, .inl x1, .inl x2, .inl x3] μ (KI K) := by
  refine zMet_of (L0 := [some (.inr 206), some (.inl x1), some (.inl x2), some (.inl x3)]) sy_X11_lemma rfl (nb rfl) (Nat.le_refl _) (fun X C _ hR _ _ => ?_)
  have C : zC X cX11_lemma RX11 4 (some .int) 2 42 274 := C
  refine v_iloadn (q := 1) C dX11_lemma_0 rfl rfl ?_
  refine v_aloadn (q := 2) C dX11_lemma_1 rfl rfl ?_
  refine u_getR (q := 5) C kl11 fl_X11_54 ob_206 pt_206_5 (by decide) rfl rfl dX11_lemma_2 rfl ?_
  refine u_getI (q := 8) C kl4 fl_X11_161 ob_238 pt_238_1 rfl rfl dX11_lemma_5 rfl ?_
  refine v_iconst (q := 9) C dX11_lemma_8 rfl (by decide) ?_
  refine u_isub (q := 10) C dX11_lemma_9 rfl h (fun h => ?_)
  refine u_cSi2 (q := 13) C (c_X11_isOutside h) sy_X11_isOutside ss_X11_isOutside ml_X11_95 ⟨nb rfl, nb rfl⟩ (nb rfl) dX11_lemma_10 rfl (fun r2 μ1 h => ?_)
  refine v_if_eq (q := 16) (tgt := 18) C dX11_lemma_13 rfl rfl h (fun h => ?_) (fun h => ?_)
  · refine v_iloadn (q := 19) C dX11_lemma_18 rfl rfl ?_
    refine v_iconst (q := 20) C dX11_lemma_19 rfl (by decide) ?_
    refine u_cSi2 (q := 23) C (c_X11_isOutside h) sy_X11_isOutside ss_X11_isOutside ml_X11_95 ⟨nb rfl, nb rfl⟩ (nb rfl) dX11_lemma_20 rfl (fun r4 μ3 h => ?_)
    refine v_if_ne (q := 26) (tgt := 35) C dX11_lemma_23 rfl rfl h (fun h => ?_) (fun h => ?_)
    · refine v_iloadn (q := 27) C dX11_lemma_26 rfl rfl ?_
      refine v_bipush (q := 29) C dX11_lemma_27 rfl (by decide) ?_
      refine u_cSi2 (q := 32) C (c_X11_isNoPlace h) sy_X11_isNoPlace ss_X11_isNoPlace ml_X11_188 ⟨nb rfl, nb rfl⟩ (nb rfl) dX11_lemma_29 rfl (fun r6 μ5 h => ?_)
      refine v_if_eq (q := 35) (tgt := 38) C dX11_lemma_32 rfl rfl h (fun h => ?_) (fun h => ?_)
      · refine v_aloadn (q := 39) C dX11_lemma_38 rfl rfl ?_
        refine u_getR (q := 42) C kl11 fl_X11_54 ob_206 pt_206_5 (by decide) rfl rfl dX11_lemma_39 rfl ?_
        refine u_getR (q := 45) C kl4 fl_X11_255 ob_238 pt_238_0 (by decide) rfl rfl dX11_lemma_42 rfl ?_
        refine v_iloadn (q := 46) C dX11_lemma_45 rfl rfl ?_
        have hb7 := h.1
        refine u_fald (v := 187 + 1 * x1) (q := 47) C fa_239 (Or.inr rfl) dX11_lemma_46 rfl h (fun h9 => ⟨fe_239 h9, by omega⟩) (fun h => ?_)
        have hf8 : z_cm (187 + 1 * x1) := by omega
        refine v_iloadn (q := 48) C dX11_lemma_47 rfl rfl ?_
        refine u_cVa1 (q := 51) C (c_X0_part h) sy_X0_part si_X0_part ml_X11_154 (ob_cm hf8) (by decide) so_X0_part ⟨nb rfl, nb rfl⟩ (nb rfl) dX11_lemma_48 rfl (fun r10 μ9 h => ?_)
        have hf11 := h.1
        replace h := h.2
        refine v_iloadn (q := 52) C dX11_lemma_51 rfl rfl ?_
        refine u_cVi1 (q := 55) C (c_X10_symbolOrSize h) sy_X10_symbolOrSize si_X10_symbolOrSize ml_X11_136 (ob_tm hf11) (by decide) so_X10_symbolOrSize ⟨nb rfl, nb rfl⟩ (nb rfl) dX11_lemma_52 rfl (fun r13 μ12 h => ?_)
        exact u_iret hR dX11_lemma_55 h
      · refine v_bipush (q := 37) C dX11_lemma_35 rfl (by decide) ?_
        exact u_iret hR dX11_lemma_37 h
    · refine v_bipush (q := 37) C dX11_lemma_35 rfl (by decide) ?_
      exact u_iret hR dX11_lemma_37 h
  · refine v_iconst (q := 17) C dX11_lemma_16 rfl (by decide) ?_
    exact u_iret hR dX11_lemma_17 h
theorem c_X11_many {x1 : Int} {μ : ZM} {K : Int → ZM → Prop} (h : P_X11_many  x1 μ K) : zMu yX11_many cX11_many 2 (some .int) 0 0 [.inr 206, .inl x1] μ (KI K) := by
  refine zMet_of (L0 := [some (.inr 206), some (.inl x1)]) sy_X11_many rfl (nb rfl) (Nat.le_refl _) (fun X C _ hR _ _ => ?_)
  have C : zC X cX11_many RX11 2 (some .int) 0 0 274 := C
  refine v_iloadn (q := 1) C dX11_many_0 rfl rfl ?_
  by_cases hk0 : x1 = 0
  · replace h := z_ifp h hk0
    refine v_tableIn (off := 31) (tgt := 32) C dX11_many_1 ⟨by omega, by omega⟩ (by rw [hk0]; rfl) rfl ?_
    refine v_aloadn (q := 33) C dX11_many_32 rfl rfl ?_
    refine u_getR (q := 36) C kl11 fl_X11_12 ob_206 pt_206_0 (by decide) rfl rfl dX11_many_33 rfl ?_
    refine u_getI (q := 39) C kl3 fl_X11_107 ob_207 pt_207_4 rfl rfl dX11_many_36 rfl ?_
    exact u_iret hR dX11_many_39 h
  · replace h := z_ifn h hk0
    by_cases hk1 : x1 = 1
    · replace h := z_ifp h hk1
      refine v_tableIn (off := 39) (tgt := 40) C dX11_many_1 ⟨by omega, by omega⟩ (by rw [hk1]; rfl) rfl ?_
      refine v_aloadn (q := 41) C dX11_many_40 rfl rfl ?_
      refine u_getR (q := 44) C kl11 fl_X11_54 ob_206 pt_206_5 (by decide) rfl rfl dX11_many_41 rfl ?_
      refine u_getI (q := 47) C kl4 fl_X11_161 ob_238 pt_238_1 rfl rfl dX11_many_44 rfl ?_
      exact u_iret hR dX11_many_47 h
    · replace h := z_ifn h hk1
      by_cases hk2 : x1 = 2
      · replace h := z_ifp h hk2
        refine v_tableIn (off := 47) (tgt := 48) C dX11_many_1 ⟨by omega, by omega⟩ (by rw [hk2]; rfl) rfl ?_
        refine v_aloadn (q := 49) C dX11_many_48 rfl rfl ?_
        refine u_getR (q := 52) C kl11 fl_X11_21 ob_206 pt_206_1 (by decide) rfl rfl dX11_many_49 rfl ?_
        refine u_getI (q := 55) C kl9 fl_X11_99 ob_212 pt_212_3 rfl rfl dX11_many_52 rfl ?_
        exact u_iret hR dX11_many_55 h
      · replace h := z_ifn h hk2
        by_cases hk3 : x1 = 3
        · replace h := z_ifp h hk3
          refine v_tableIn (off := 55) (tgt := 56) C dX11_many_1 ⟨by omega, by omega⟩ (by rw [hk3]; rfl) rfl ?_
          refine v_aloadn (q := 57) C dX11_many_56 rfl rfl ?_
          refine u_getR (q := 60) C kl11 fl_X11_61 ob_206 pt_206_6 (by decide) rfl rfl dX11_many_57 rfl ?_
          refine u_getI (q := 63) C kl7 fl_X11_248 ob_240 pt_240_3 rfl rfl dX11_many_60 rfl ?_
          exact u_iret hR dX11_many_63 h
        · replace h := z_ifn h hk3
          refine v_tableOut (tgt := 64) C dX11_many_1 (by omega) rfl ?_
          refine v_bipush (q := 66) C dX11_many_64 rfl (by decide) ?_
          exact u_iret hR dX11_many_66 h
theorem c_X11_normal {x1 : Int} {x2 : Int} {μ : ZM} {K : Int → ZM → Prop} (h : P_X11_normal  x1 x2 μ K) : zMu yX11_normal cX11_normal 3 (some .int) 4 101 [.inr 206, .inl x1, .inl x2] μ (KI K) := by
  refine zMet_of (L0 := [some (.inr 206), some (.inl x1), some (.inl x2)]) sy_X11_normal rfl (nb rfl) (Nat.le_refl _) (fun X C _ hR _ _ => ?_)
  have C : zC X cX11_normal RX11 3 (some .int) 4 101 274 := C
  refine v_iloadn (q := 1) C dX11_normal_0 rfl rfl ?_
  refine v_iconst (q := 2) C dX11_normal_1 rfl (by decide) ?_
  refine u_cSi2 (q := 5) C (c_X11_isOutside h) sy_X11_isOutside ss_X11_isOutside ml_X11_95 ⟨nb rfl, nb rfl⟩ (nb rfl) dX11_normal_2 rfl (fun r2 μ1 h => ?_)
  refine v_if_ne (q := 8) (tgt := 17) C dX11_normal_5 rfl rfl h (fun h => ?_) (fun h => ?_)
  · refine v_iloadn (q := 9) C dX11_normal_8 rfl rfl ?_
    refine v_bipush (q := 11) C dX11_normal_9 rfl (by decide) ?_
    refine u_cSi2 (q := 14) C (c_X11_isNoPlace h) sy_X11_isNoPlace ss_X11_isNoPlace ml_X11_188 ⟨nb rfl, nb rfl⟩ (nb rfl) dX11_normal_11 rfl (fun r4 μ3 h => ?_)
    refine v_if_eq (q := 17) (tgt := 20) C dX11_normal_14 rfl rfl h (fun h => ?_) (fun h => ?_)
    · refine v_aloadn (q := 21) C dX11_normal_20 rfl rfl ?_
      refine u_getI (q := 24) C kl11 fl_X11_91 ob_206 pt_206_11 rfl rfl dX11_normal_21 rfl ?_
      refine v_if_eq (q := 27) (tgt := 53) C dX11_normal_24 rfl rfl h (fun h => ?_) (fun h => ?_)
      · refine v_bipush (q := 55) C dX11_normal_53 rfl (by decide) ?_
        exact u_iret hR dX11_normal_55 h
      · refine v_aloadn (q := 28) C dX11_normal_27 rfl rfl ?_
        refine u_getR (q := 31) C kl11 fl_X11_35 ob_206 pt_206_3 (by decide) rfl rfl dX11_normal_28 rfl ?_
        refine v_aloadn (q := 32) C dX11_normal_31 rfl rfl ?_
        refine u_getR (q := 35) C kl11 fl_X11_77 ob_206 pt_206_8 (by decide) rfl rfl dX11_normal_32 rfl ?_
        refine v_iloadn (q := 36) C dX11_normal_35 rfl rfl ?_
        refine u_cVa1 (q := 39) C (c_X0_part h) sy_X0_part si_X0_part ml_X11_154 ob_204 (by decide) so_X0_part ⟨nb rfl, nb rfl⟩ (nb rfl) dX11_normal_36 rfl (fun r6 μ5 h => ?_)
        have hf7 := h.1
        replace h := h.2
        refine v_aloadn (q := 40) C dX11_normal_39 rfl rfl ?_
        refine u_getR (q := 43) C kl11 fl_X11_87 ob_206 pt_206_10 (by decide) rfl rfl dX11_normal_40 rfl ?_
        refine v_bipush (q := 45) C dX11_normal_43 rfl (by decide) ?_
        refine v_iconst (q := 46) C dX11_normal_45 rfl (by decide) ?_
        refine v_iconst (q := 47) C dX11_normal_46 rfl (by decide) ?_
        refine u_cVi5 (q := 50) C (c_X6_rewrite h) sy_X6_rewrite si_X6_rewrite ml_X11_191 ob_222 (by decide) so_X6_rewrite ⟨nb rfl, nb rfl⟩ (nb rfl) dX11_normal_47 rfl (fun r9 μ8 h => ?_)
        refine v_if_ne (q := 53) (tgt := 56) C dX11_normal_50 rfl rfl h (fun h => ?_) (fun h => ?_)
        · refine v_bipush (q := 55) C dX11_normal_53 rfl (by decide) ?_
          exact u_iret hR dX11_normal_55 h
        · refine v_aloadn (q := 57) C dX11_normal_56 rfl rfl ?_
          refine u_getR (q := 60) C kl11 fl_X11_87 ob_206 pt_206_10 (by decide) rfl rfl dX11_normal_57 rfl ?_
          refine v_iloadn (q := 61) C dX11_normal_60 rfl rfl ?_
          refine u_cVi1 (q := 64) C (c_X10_symbolOrSize h) sy_X10_symbolOrSize si_X10_symbolOrSize ml_X11_136 ob_178 (by decide) so_X10_symbolOrSize ⟨nb rfl, nb rfl⟩ (nb rfl) dX11_normal_61 rfl (fun r11 μ10 h => ?_)
          exact u_iret hR dX11_normal_64 h
    · refine v_bipush (q := 19) C dX11_normal_17 rfl (by decide) ?_
      exact u_iret hR dX11_normal_19 h
  · refine v_bipush (q := 19) C dX11_normal_17 rfl (by decide) ?_
    exact u_iret hR dX11_normal_19 h
theorem c_X11_ofFunction {x1 : Int} {x2 : Int} {μ : ZM} {K : Int → ZM → Prop} (h : P_X11_ofFunction  x1 x2 μ K) : zMu yX11_ofFunction cX11_ofFunction 4 (some .int) 1 22 [.inr 206, .inl x1, .inl x2] μ (KI K) := by
  refine zMet_of (L0 := [some (.inr 206), some (.inl x1), some (.inl x2), none]) sy_X11_ofFunction rfl (nb rfl) (Nat.le_refl _) (fun X C _ hR _ _ => ?_)
  have C : zC X cX11_ofFunction RX11 4 (some .int) 1 22 274 := C
  refine v_iloadn (q := 1) C dX11_ofFunction_0 rfl rfl ?_
  refine v_aloadn (q := 2) C dX11_ofFunction_1 rfl rfl ?_
  refine u_getR (q := 5) C kl11 fl_X11_12 ob_206 pt_206_0 (by decide) rfl rfl dX11_ofFunction_2 rfl ?_
  refine u_getI (q := 8) C kl3 fl_X11_107 ob_207 pt_207_4 rfl rfl dX11_ofFunction_5 rfl ?_
  refine v_iconst (q := 9) C dX11_ofFunction_8 rfl (by decide) ?_
  refine u_isub (q := 10) C dX11_ofFunction_9 rfl h (fun h => ?_)
  refine u_cSi2 (q := 13) C (c_X11_isOutside h) sy_X11_isOutside ss_X11_isOutside ml_X11_95 ⟨nb rfl, nb rfl⟩ (nb rfl) dX11_ofFunction_10 rfl (fun r2 μ1 h => ?_)
  refine v_if_eq (q := 16) (tgt := 18) C dX11_ofFunction_13 rfl rfl h (fun h => ?_) (fun h => ?_)
  · refine v_iloadn (q := 19) C dX11_ofFunction_18 rfl rfl ?_
    refine v_iconst (q := 20) C dX11_ofFunction_19 rfl (by decide) ?_
    refine u_cSi2 (q := 23) C (c_X11_isOutside h) sy_X11_isOutside ss_X11_isOutside ml_X11_95 ⟨nb rfl, nb rfl⟩ (nb rfl) dX11_ofFunction_20 rfl (fun r4 μ3 h => ?_)
    refine v_if_eq (q := 26) (tgt := 29) C dX11_ofFunction_23 rfl rfl h (fun h => ?_) (fun h => ?_)
    · refine v_iloadn (q := 30) C dX11_ofFunction_29 rfl rfl ?_
      refine v_if_ne (q := 33) (tgt := 43) C dX11_ofFunction_30 rfl rfl h (fun h => ?_) (fun h => ?_)
      · refine v_aloadn (q := 34) C dX11_ofFunction_33 rfl rfl ?_
        refine u_getR (q := 37) C kl11 fl_X11_12 ob_206 pt_206_0 (by decide) rfl rfl dX11_ofFunction_34 rfl ?_
        refine u_getR (q := 40) C kl3 fl_X11_122 ob_207 pt_207_0 (by decide) rfl rfl dX11_ofFunction_37 rfl ?_
        refine v_iloadn (q := 41) C dX11_ofFunction_40 rfl rfl ?_
        refine u_iald (q := 42) C ia_208 dX11_ofFunction_41 rfl h (fun h => ?_)
        exact u_iret hR dX11_ofFunction_42 h
      · refine v_iloadn (q := 44) C dX11_ofFunction_43 rfl rfl ?_
        refine v_iconst (q := 45) C dX11_ofFunction_44 rfl (by decide) ?_
        refine v_icmp_ne (q := 48) (tgt := 58) C dX11_ofFunction_45 rfl rfl h (fun h => ?_) (fun h => ?_)
        · refine v_aloadn (q := 49) C dX11_ofFunction_48 rfl rfl ?_
          refine u_getR (q := 52) C kl11 fl_X11_12 ob_206 pt_206_0 (by decide) rfl rfl dX11_ofFunction_49 rfl ?_
          refine u_getR (q := 55) C kl3 fl_X11_126 ob_207 pt_207_1 (by decide) rfl rfl dX11_ofFunction_52 rfl ?_
          refine v_iloadn (q := 56) C dX11_ofFunction_55 rfl rfl ?_
          refine u_iald (q := 57) C ia_209 dX11_ofFunction_56 rfl h (fun h => ?_)
          exact u_iret hR dX11_ofFunction_57 h
        · refine v_aloadn (q := 59) C dX11_ofFunction_58 rfl rfl ?_
          refine u_getR (q := 62) C kl11 fl_X11_12 ob_206 pt_206_0 (by decide) rfl rfl dX11_ofFunction_59 rfl ?_
          refine v_iloadn (q := 63) C dX11_ofFunction_62 rfl rfl ?_
          refine v_iloadn (q := 64) C dX11_ofFunction_63 rfl rfl ?_
          refine v_iconst (q := 65) C dX11_ofFunction_64 rfl (by decide) ?_
          refine u_isub (q := 66) C dX11_ofFunction_65 rfl h (fun h => ?_)
          refine u_cVa2 (q := 69) C (c_X3_bodyOf h) sy_X3_bodyOf si_X3_bodyOf ml_X11_129 ob_207 (by decide) so_X3_bodyOf ⟨nb rfl, nb rfl⟩ (nb rfl) dX11_ofFunction_66 rfl (fun r6 μ5 h => ?_)
          refine v_astoren (q := 70) C dX11_ofFunction_69 rfl (nb rfl) (L' := [some (.inr 206), some (.inl x1), some (.inl x2), some (.inr r6)]) rfl ?_
          refine v_aloadn (q := 71) C dX11_ofFunction_70 rfl rfl ?_
          refine v_ifnonnull (q := 74) (tgt := 79) C dX11_ofFunction_71 rfl rfl h (fun h => ?_) (fun h => ?_)
          · refine v_bipush (q := 76) C dX11_ofFunction_74 rfl (by decide) ?_
            refine v_goto (q := 83) C dX11_ofFunction_76 rfl ?_
            exact u_iret hR dX11_ofFunction_83 h
          · refine v_aloadn (q := 80) C dX11_ofFunction_79 rfl rfl ?_
            have hf7 := h.1
            replace h := h.2
            refine u_getI (q := 83) C kl10 fl_X11_133 (ob_tm hf7) (pt_size hf7) rfl rfl dX11_ofFunction_80 rfl ?_
            exact u_iret hR dX11_ofFunction_83 h
    · refine v_bipush (q := 28) C dX11_ofFunction_26 rfl (by decide) ?_
      exact u_iret hR dX11_ofFunction_28 h
  · refine v_iconst (q := 17) C dX11_ofFunction_16 rfl (by decide) ?_
    exact u_iret hR dX11_ofFunction_17 h
theorem c_X11_prove  {μ : ZM} {K : Int → ZM → Prop} (h : P_X11_prove   μ K) : zMu yX11_prove cX11_prove 2 (some .int) 27 626 [.inr 206] μ (KI K) := by
  refine zMet_of (L0 := [some (.inr 206), none]) sy_X11_prove rfl (nb rfl) (Nat.le_refl _) (fun X C _ hR _ _ => ?_)
  have C : zC X cX11_prove RX11 2 (some .int) 27 626 274 := C
  refine v_aloadn (q := 1) C dX11_prove_0 rfl rfl ?_
  refine u_getI (q := 4) C kl11 fl_X11_91 ob_206 pt_206_11 rfl rfl dX11_prove_1 rfl ?_
  refine v_if_ne (q := 7) (tgt := 10) C dX11_prove_4 rfl rfl h (fun h => ?_) (fun h => ?_)
  · refine v_bipush (q := 9) C dX11_prove_7 rfl (by decide) ?_
    exact u_iret hR dX11_prove_9 h
  · refine v_aloadn (q := 11) C dX11_prove_10 rfl rfl ?_
    refine u_getR (q := 14) C kl11 fl_X11_61 ob_206 pt_206_6 (by decide) rfl rfl dX11_prove_11 rfl ?_
    refine u_cVv0 (q := 17) C (c_X7_empty h) sy_X7_empty si_X7_empty ml_X11_162 ob_240 (by decide) so_X7_empty ⟨nb rfl, nb rfl⟩ (nb rfl) dX11_prove_14 rfl (fun μ1 h => ?_)
    refine v_aloadn (q := 18) C dX11_prove_17 rfl rfl ?_
    refine u_getR (q := 21) C kl11 fl_X11_70 ob_206 pt_206_7 (by decide) rfl rfl dX11_prove_18 rfl ?_
    refine u_getR (q := 24) C kl8 fl_X11_228 ob_244 pt_244_0 (by decide) rfl rfl dX11_prove_21 rfl ?_
    refine v_iconst (q := 25) C dX11_prove_24 rfl (by decide) ?_
    have hb2 := h.1
    refine u_fald (v := 195 + 1 * 0) (q := 26) C fa_245 (Or.inr rfl) dX11_prove_25 rfl h (fun h9 => ⟨fe_245 h9, by omega⟩) (fun h => ?_)
    have hf3 : z_cm (195 + 1 * 0) := by omega
    refine v_aloadn (q := 27) C dX11_prove_26 rfl rfl ?_
    refine u_getR (q := 30) C kl11 fl_X11_77 ob_206 pt_206_8 (by decide) rfl rfl dX11_prove_27 rfl ?_
    refine u_cVv1 (q := 33) C (c_X0_copy h) sy_X0_copy si_X0_copy ml_X11_232 (ob_cm hf3) (by decide) so_X0_copy ⟨nb rfl, nb rfl⟩ (nb rfl) dX11_prove_30 rfl (fun μ4 h => ?_)
    refine v_aloadn (q := 34) C dX11_prove_33 rfl rfl ?_
    refine u_getR (q := 37) C kl11 fl_X11_70 ob_206 pt_206_7 (by decide) rfl rfl dX11_prove_34 rfl ?_
    refine v_iconst (q := 38) C dX11_prove_37 rfl (by decide) ?_
    refine u_cNi1 (q := 41) C (c_att 3 h) sy_X8_attempt si_X8_attempt mn_X11_235 ob_244 (by decide) so_X8_attempt ⟨nb rfl, nb rfl⟩ (nb rfl) dX11_prove_38 rfl (fun r6 μ5 h => ?_)
    refine v_istoren (q := 42) C dX11_prove_41 rfl (nb rfl) (L' := [some (.inr 206), some (.inl r6)]) rfl ?_
    refine v_iloadn (q := 43) C dX11_prove_42 rfl rfl ?_
    refine v_iconst (q := 44) C dX11_prove_43 rfl (by decide) ?_
    refine v_icmp_ne (q := 47) (tgt := 56) C dX11_prove_44 rfl rfl h (fun h => ?_) (fun h => ?_)
    · refine v_aloadn (q := 48) C dX11_prove_47 rfl rfl ?_
      refine u_getR (q := 51) C kl11 fl_X11_61 ob_206 pt_206_6 (by decide) rfl rfl dX11_prove_48 rfl ?_
      refine v_iconst (q := 52) C dX11_prove_51 rfl (by decide) ?_
      refine v_iconst (q := 53) C dX11_prove_52 rfl (by decide) ?_
      refine u_cVv2 (q := 56) C (c_X7_blame h) sy_X7_blame si_X7_blame ml_X11_238 ob_240 (by decide) so_X7_blame ⟨nb rfl, nb rfl⟩ (nb rfl) dX11_prove_53 rfl (fun μ7 h => ?_)
      refine v_iloadn (q := 57) C dX11_prove_56 rfl rfl ?_
      exact u_iret hR dX11_prove_57 h
    · refine v_iloadn (q := 57) C dX11_prove_56 rfl rfl ?_
      exact u_iret hR dX11_prove_57 h
theorem c_X11_scheme {x1 : Int} {μ : ZM} {K : Int → ZM → Prop} (h : P_X11_scheme  x1 μ K) : zMu yX11_scheme cX11_scheme 3 (some .int) 4 93 [.inr 206, .inl x1] μ (KI K) := by
  refine zMet_of (L0 := [some (.inr 206), some (.inl x1), none]) sy_X11_scheme rfl (nb rfl) (Nat.le_refl _) (fun X C _ hR _ _ => ?_)
  have C : zC X cX11_scheme RX11 3 (some .int) 4 93 274 := C
  refine v_iloadn (q := 1) C dX11_scheme_0 rfl rfl ?_
  refine v_iconst (q := 2) C dX11_scheme_1 rfl (by decide) ?_
  refine u_cSi2 (q := 5) C (c_X11_isOutside h) sy_X11_isOutside ss_X11_isOutside ml_X11_95 ⟨nb rfl, nb rfl⟩ (nb rfl) dX11_scheme_2 rfl (fun r2 μ1 h => ?_)
  refine v_if_eq (q := 8) (tgt := 11) C dX11_scheme_5 rfl rfl h (fun h => ?_) (fun h => ?_)
  · refine v_aloadn (q := 12) C dX11_scheme_11 rfl rfl ?_
    refine u_getI (q := 15) C kl11 fl_X11_91 ob_206 pt_206_11 rfl rfl dX11_scheme_12 rfl ?_
    refine v_if_ne (q := 18) (tgt := 21) C dX11_scheme_15 rfl rfl h (fun h => ?_) (fun h => ?_)
    · refine v_bipush (q := 20) C dX11_scheme_18 rfl (by decide) ?_
      exact u_iret hR dX11_scheme_20 h
    · refine v_aloadn (q := 22) C dX11_scheme_21 rfl rfl ?_
      refine u_getR (q := 25) C kl11 fl_X11_77 ob_206 pt_206_8 (by decide) rfl rfl dX11_scheme_22 rfl ?_
      refine v_aloadn (q := 26) C dX11_scheme_25 rfl rfl ?_
      refine u_getR (q := 29) C kl11 fl_X11_12 ob_206 pt_206_0 (by decide) rfl rfl dX11_scheme_26 rfl ?_
      refine u_cVi1 (q := 32) C (c_X0_inductionVariable h) sy_X0_inductionVariable si_X0_inductionVariable ml_X11_195 ob_204 (by decide) so_X0_inductionVariable ⟨nb rfl, nb rfl⟩ (nb rfl) dX11_scheme_29 rfl (fun r4 μ3 h => ?_)
      refine v_istoren (q := 33) C dX11_scheme_32 rfl (nb rfl) (L' := [some (.inr 206), some (.inl x1), some (.inl r4)]) rfl ?_
      refine v_iloadn (q := 34) C dX11_scheme_33 rfl rfl ?_
      refine v_bipush (q := 36) C dX11_scheme_34 rfl (by decide) ?_
      refine v_icmp_eq (q := 39) (tgt := 43) C dX11_scheme_36 rfl rfl h (fun h => ?_) (fun h => ?_)
      · refine v_iloadn (q := 44) C dX11_scheme_43 rfl rfl ?_
        exact u_iret hR dX11_scheme_44 h
      · refine v_iloadn (q := 40) C dX11_scheme_39 rfl rfl ?_
        refine v_if_ne (q := 43) (tgt := 45) C dX11_scheme_40 rfl rfl h (fun h => ?_) (fun h => ?_)
        · refine v_iloadn (q := 44) C dX11_scheme_43 rfl rfl ?_
          exact u_iret hR dX11_scheme_44 h
        · refine v_iloadn (q := 46) C dX11_scheme_45 rfl rfl ?_
          refine v_iconst (q := 47) C dX11_scheme_46 rfl (by decide) ?_
          refine v_icmp_ne (q := 50) (tgt := 65) C dX11_scheme_47 rfl rfl h (fun h => ?_) (fun h => ?_)
          · refine v_aloadn (q := 51) C dX11_scheme_50 rfl rfl ?_
            refine u_getR (q := 54) C kl11 fl_X11_77 ob_206 pt_206_8 (by decide) rfl rfl dX11_scheme_51 rfl ?_
            refine v_iloadn (q := 55) C dX11_scheme_54 rfl rfl ?_
            refine v_aloadn (q := 56) C dX11_scheme_55 rfl rfl ?_
            refine u_getR (q := 59) C kl11 fl_X11_12 ob_206 pt_206_0 (by decide) rfl rfl dX11_scheme_56 rfl ?_
            refine u_cVi2 (q := 62) C (c_X0_deepestCall h) sy_X0_deepestCall si_X0_deepestCall ml_X11_199 ob_204 (by decide) so_X0_deepestCall ⟨nb rfl, nb rfl⟩ (nb rfl) dX11_scheme_59 rfl (fun r6 μ5 h => ?_)
            refine v_goto (q := 73) C dX11_scheme_62 rfl ?_
            exact u_iret hR dX11_scheme_73 h
          · refine v_aloadn (q := 66) C dX11_scheme_65 rfl rfl ?_
            refine u_getR (q := 69) C kl11 fl_X11_77 ob_206 pt_206_8 (by decide) rfl rfl dX11_scheme_66 rfl ?_
            refine v_iloadn (q := 70) C dX11_scheme_69 rfl rfl ?_
            refine u_cVi1 (q := 73) C (c_X0_callsOf h) sy_X0_callsOf si_X0_callsOf ml_X11_203 ob_204 (by decide) so_X0_callsOf ⟨nb rfl, nb rfl⟩ (nb rfl) dX11_scheme_70 rfl (fun r8 μ7 h => ?_)
            exact u_iret hR dX11_scheme_73 h
  · refine v_bipush (q := 10) C dX11_scheme_8 rfl (by decide) ?_
    exact u_iret hR dX11_scheme_10 h
theorem c_X11_script {x1 : Int} {x2 : Int} {μ : ZM} {K : Int → ZM → Prop} (h : P_X11_script  x1 x2 μ K) : zMu yX11_script cX11_script 3 (some .int) 1 21 [.inr 206, .inl x1, .inl x2] μ (KI K) := by
  refine zMet_of (L0 := [some (.inr 206), some (.inl x1), some (.inl x2)]) sy_X11_script rfl (nb rfl) (Nat.le_refl _) (fun X C _ hR _ _ => ?_)
  have C : zC X cX11_script RX11 3 (some .int) 1 21 274 := C
  refine v_iloadn (q := 1) C dX11_script_0 rfl rfl ?_
  refine v_bipush (q := 3) C dX11_script_1 rfl (by decide) ?_
  refine u_cSi2 (q := 6) C (c_X11_isOutside h) sy_X11_isOutside ss_X11_isOutside ml_X11_95 ⟨nb rfl, nb rfl⟩ (nb rfl) dX11_script_3 rfl (fun r2 μ1 h => ?_)
  refine v_if_ne (q := 9) (tgt := 17) C dX11_script_6 rfl rfl h (fun h => ?_) (fun h => ?_)
  · refine v_iloadn (q := 10) C dX11_script_9 rfl rfl ?_
    refine v_iconst (q := 11) C dX11_script_10 rfl (by decide) ?_
    refine u_cSi2 (q := 14) C (c_X11_isOutside h) sy_X11_isOutside ss_X11_isOutside ml_X11_95 ⟨nb rfl, nb rfl⟩ (nb rfl) dX11_script_11 rfl (fun r4 μ3 h => ?_)
    refine v_if_eq (q := 17) (tgt := 20) C dX11_script_14 rfl rfl h (fun h => ?_) (fun h => ?_)
    · refine v_iloadn (q := 21) C dX11_script_20 rfl rfl ?_
      refine v_aloadn (q := 22) C dX11_script_21 rfl rfl ?_
      refine u_getR (q := 25) C kl11 fl_X11_61 ob_206 pt_206_6 (by decide) rfl rfl dX11_script_22 rfl ?_
      refine u_getI (q := 28) C kl7 fl_X11_248 ob_240 pt_240_3 rfl rfl dX11_script_25 rfl ?_
      refine v_icmp_lt (q := 31) (tgt := 34) C dX11_script_28 rfl rfl h (fun h => ?_) (fun h => ?_)
      · refine v_iloadn (q := 35) C dX11_script_34 rfl rfl ?_
        refine v_if_ne (q := 38) (tgt := 50) C dX11_script_35 rfl rfl h (fun h => ?_) (fun h => ?_)
        · refine v_aloadn (q := 39) C dX11_script_38 rfl rfl ?_
          refine u_getR (q := 42) C kl11 fl_X11_61 ob_206 pt_206_6 (by decide) rfl rfl dX11_script_39 rfl ?_
          refine u_getR (q := 45) C kl7 fl_X11_249 ob_240 pt_240_0 (by decide) rfl rfl dX11_script_42 rfl ?_
          refine v_iloadn (q := 46) C dX11_script_45 rfl rfl ?_
          refine u_iald (q := 47) C ia_241 dX11_script_46 rfl h (fun h => ?_)
          refine v_goto (q := 59) C dX11_script_47 rfl ?_
          exact u_iret hR dX11_script_59 h
        · refine v_aloadn (q := 51) C dX11_script_50 rfl rfl ?_
          refine u_getR (q := 54) C kl11 fl_X11_61 ob_206 pt_206_6 (by decide) rfl rfl dX11_script_51 rfl ?_
          refine u_getR (q := 57) C kl7 fl_X11_252 ob_240 pt_240_1 (by decide) rfl rfl dX11_script_54 rfl ?_
          refine v_iloadn (q := 58) C dX11_script_57 rfl rfl ?_
          refine u_iald (q := 59) C ia_242 dX11_script_58 rfl h (fun h => ?_)
          exact u_iret hR dX11_script_59 h
      · refine v_bipush (q := 33) C dX11_script_31 rfl (by decide) ?_
        exact u_iret hR dX11_script_33 h
    · refine v_bipush (q := 19) C dX11_script_17 rfl (by decide) ?_
      exact u_iret hR dX11_script_19 h
  · refine v_bipush (q := 19) C dX11_script_17 rfl (by decide) ?_
    exact u_iret hR dX11_script_19 h
theorem c_X11_side {x1 : Int} {x2 : Int} {μ : ZM} {K : Int → ZM → Prop} (h : P_X11_side  x1 x2 μ K) : zMu yX11_side cX11_side 3 (some .int) 1 21 [.inr 206, .inl x1, .inl x2] μ (KI K) := by
  refine zMet_of (L0 := [some (.inr 206), some (.inl x1), some (.inl x2)]) sy_X11_side rfl (nb rfl) (Nat.le_refl _) (fun X C _ hR _ _ => ?_)
  have C : zC X cX11_side RX11 3 (some .int) 1 21 274 := C
  refine v_iloadn (q := 1) C dX11_side_0 rfl rfl ?_
  refine v_iconst (q := 2) C dX11_side_1 rfl (by decide) ?_
  refine u_cSi2 (q := 5) C (c_X11_isOutside h) sy_X11_isOutside ss_X11_isOutside ml_X11_95 ⟨nb rfl, nb rfl⟩ (nb rfl) dX11_side_2 rfl (fun r2 μ1 h => ?_)
  refine v_if_ne (q := 8) (tgt := 17) C dX11_side_5 rfl rfl h (fun h => ?_) (fun h => ?_)
  · refine v_iloadn (q := 9) C dX11_side_8 rfl rfl ?_
    refine v_bipush (q := 11) C dX11_side_9 rfl (by decide) ?_
    refine u_cSi2 (q := 14) C (c_X11_isOutside h) sy_X11_isOutside ss_X11_isOutside ml_X11_95 ⟨nb rfl, nb rfl⟩ (nb rfl) dX11_side_11 rfl (fun r4 μ3 h => ?_)
    refine v_if_eq (q := 17) (tgt := 20) C dX11_side_14 rfl rfl h (fun h => ?_) (fun h => ?_)
    · refine v_aloadn (q := 21) C dX11_side_20 rfl rfl ?_
      refine u_getI (q := 24) C kl11 fl_X11_91 ob_206 pt_206_11 rfl rfl dX11_side_21 rfl ?_
      refine v_if_eq (q := 27) (tgt := 42) C dX11_side_24 rfl rfl h (fun h => ?_) (fun h => ?_)
      · refine v_bipush (q := 44) C dX11_side_42 rfl (by decide) ?_
        exact u_iret hR dX11_side_44 h
      · refine v_aloadn (q := 28) C dX11_side_27 rfl rfl ?_
        refine u_getR (q := 31) C kl11 fl_X11_77 ob_206 pt_206_8 (by decide) rfl rfl dX11_side_28 rfl ?_
        refine v_iloadn (q := 32) C dX11_side_31 rfl rfl ?_
        refine u_cVa1 (q := 35) C (c_X0_part h) sy_X0_part si_X0_part ml_X11_154 ob_204 (by decide) so_X0_part ⟨nb rfl, nb rfl⟩ (nb rfl) dX11_side_32 rfl (fun r6 μ5 h => ?_)
        have hf7 := h.1
        replace h := h.2
        refine v_iloadn (q := 36) C dX11_side_35 rfl rfl ?_
        refine u_cVi1 (q := 39) C (c_X10_symbolOrSize h) sy_X10_symbolOrSize si_X10_symbolOrSize ml_X11_136 (ob_tm hf7) (by decide) so_X10_symbolOrSize ⟨nb rfl, nb rfl⟩ (nb rfl) dX11_side_36 rfl (fun r9 μ8 h => ?_)
        refine v_goto (q := 44) C dX11_side_39 rfl ?_
        exact u_iret hR dX11_side_44 h
    · refine v_bipush (q := 19) C dX11_side_17 rfl (by decide) ?_
      exact u_iret hR dX11_side_19 h
  · refine v_bipush (q := 19) C dX11_side_17 rfl (by decide) ?_
    exact u_iret hR dX11_side_19 h
theorem w_X11_steered_103 {X : ZX} (C : zC X cX11_steered RX11 3 (some .int) 5 146 274) {K : Int → ZM → Prop} (hR : zRi X cX11_steered (some .int) 274 (KN (KI K)))  {x1 : Int} {μ : ZM}   (h : P_X11_steered_103   x1 μ K) : zV X 103 [some (.inr 206), some (.inl x1), none] [] 274 (z_ov μ) := by
  refine v_aloadn (q := 104) C dX11_steered_103 rfl rfl ?_
  refine u_getR (q := 107) C kl11 fl_X11_87 ob_206 pt_206_10 (by decide) rfl rfl dX11_steered_104 rfl ?_
  refine v_iloadn (q := 108) C dX11_steered_107 rfl rfl ?_
  refine u_cVi1 (q := 111) C (c_X10_symbolOrSize h) sy_X10_symbolOrSize si_X10_symbolOrSize ml_X11_136 ob_178 (by decide) so_X10_symbolOrSize ⟨nb rfl, nb rfl⟩ (nb rfl) dX11_steered_108 rfl (fun r7 μ6 h => ?_)
  exact u_iret hR dX11_steered_111 h
theorem w_X11_steered_64 {X : ZX} (C : zC X cX11_steered RX11 3 (some .int) 5 146 274) {K : Int → ZM → Prop} (hR : zRi X cX11_steered (some .int) 274 (KN (KI K)))  {x1 : Int} {x2 : Int} {μ : ZM}   (h : P_X11_steered_64   x1 x2 μ K) : zV X 64 [some (.inr 206), some (.inl x1), some (.inl x2)] [] 274 (z_ov μ) := by
  refine h (fun x2 μ => zV X 64 [some (.inr 206), some (.inl x1), some (.inl x2)] [] 274 (z_ov μ)) (fun x2 μ h => ?_)
  refine v_iloadn (q := 65) C dX11_steered_64 rfl rfl ?_
  refine v_sipush (q := 68) C dX11_steered_65 rfl (by decide) ?_
  refine v_icmp_ge (q := 71) (tgt := 103) C dX11_steered_68 rfl rfl h (fun h => ?_) (fun h => ?_)
  · exact v_mask [true, true, false] rfl (w_X11_steered_103  C hR   h)
  · refine v_aloadn (q := 72) C dX11_steered_71 rfl rfl ?_
    refine u_getR (q := 75) C kl11 fl_X11_54 ob_206 pt_206_5 (by decide) rfl rfl dX11_steered_72 rfl ?_
    refine v_aloadn (q := 76) C dX11_steered_75 rfl rfl ?_
    refine u_getR (q := 79) C kl11 fl_X11_87 ob_206 pt_206_10 (by decide) rfl rfl dX11_steered_76 rfl ?_
    refine v_aloadn (q := 80) C dX11_steered_79 rfl rfl ?_
    refine u_getR (q := 83) C kl11 fl_X11_77 ob_206 pt_206_8 (by decide) rfl rfl dX11_steered_80 rfl ?_
    refine u_getR (q := 86) C kl0 fl_X11_151 ob_204 pt_204_1 (by decide) rfl rfl dX11_steered_83 rfl ?_
    refine u_cVi2 (q := 89) C (c_X4_ripple h) sy_X4_ripple si_X4_ripple ml_X11_210 ob_238 (by decide) so_X4_ripple ⟨nb rfl, nb rfl⟩ (nb rfl) dX11_steered_86 rfl (fun r9 μ8 h => ?_)
    refine v_bipush (q := 91) C dX11_steered_89 rfl (by decide) ?_
    refine v_icmp_ne (q := 94) (tgt := 97) C dX11_steered_91 rfl rfl h (fun h => ?_) (fun h => ?_)
    · refine v_goto (q := 103) C dX11_steered_94 rfl ?_
      exact v_mask [true, true, false] rfl (w_X11_steered_103  C hR   h)
    · refine u_iinc (q := 100) C dX11_steered_97 rfl (nb rfl) rfl (L' := [some (.inr 206), some (.inl x1), some (.inl (x2 + 1))]) rfl h (fun h => ?_)
      refine v_goto (q := 64) C dX11_steered_100 rfl ?_
      exact h
theorem c_X11_steered {x1 : Int} {μ : ZM} {K : Int → ZM → Prop} (h : P_X11_steered  x1 μ K) : zMu yX11_steered cX11_steered 3 (some .int) 5 146 [.inr 206, .inl x1] μ (KI K) := by
  refine zMet_of (L0 := [some (.inr 206), some (.inl x1), none]) sy_X11_steered rfl (nb rfl) (Nat.le_refl _) (fun X C _ hR _ _ => ?_)
  have C : zC X cX11_steered RX11 3 (some .int) 5 146 274 := C
  refine v_iloadn (q := 1) C dX11_steered_0 rfl rfl ?_
  refine v_bipush (q := 3) C dX11_steered_1 rfl (by decide) ?_
  refine u_cSi2 (q := 6) C (c_X11_isNoPlace h) sy_X11_isNoPlace ss_X11_isNoPlace ml_X11_188 ⟨nb rfl, nb rfl⟩ (nb rfl) dX11_steered_3 rfl (fun r2 μ1 h => ?_)
  refine v_if_eq (q := 9) (tgt := 12) C dX11_steered_6 rfl rfl h (fun h => ?_) (fun h => ?_)
  · refine v_aloadn (q := 13) C dX11_steered_12 rfl rfl ?_
    refine u_getI (q := 16) C kl11 fl_X11_91 ob_206 pt_206_11 rfl rfl dX11_steered_13 rfl ?_
    refine v_if_eq (q := 19) (tgt := 45) C dX11_steered_16 rfl rfl h (fun h => ?_) (fun h => ?_)
    · refine v_bipush (q := 47) C dX11_steered_45 rfl (by decide) ?_
      exact u_iret hR dX11_steered_47 h
    · refine v_aloadn (q := 20) C dX11_steered_19 rfl rfl ?_
      refine u_getR (q := 23) C kl11 fl_X11_42 ob_206 pt_206_4 (by decide) rfl rfl dX11_steered_20 rfl ?_
      refine v_aloadn (q := 24) C dX11_steered_23 rfl rfl ?_
      refine u_getR (q := 27) C kl11 fl_X11_77 ob_206 pt_206_8 (by decide) rfl rfl dX11_steered_24 rfl ?_
      refine u_getR (q := 30) C kl0 fl_X11_144 ob_204 pt_204_0 (by decide) rfl rfl dX11_steered_27 rfl ?_
      refine v_aloadn (q := 31) C dX11_steered_30 rfl rfl ?_
      refine u_getR (q := 34) C kl11 fl_X11_77 ob_206 pt_206_8 (by decide) rfl rfl dX11_steered_31 rfl ?_
      refine u_getR (q := 37) C kl0 fl_X11_151 ob_204 pt_204_1 (by decide) rfl rfl dX11_steered_34 rfl ?_
      refine u_cVi2 (q := 40) C (c_X1_smallest h) sy_X1_smallest si_X1_smallest ml_X11_206 ob_233 (by decide) so_X1_smallest ⟨nb rfl, nb rfl⟩ (nb rfl) dX11_steered_37 rfl (fun r4 μ3 h => ?_)
      refine v_bipush (q := 42) C dX11_steered_40 rfl (by decide) ?_
      refine v_icmp_ne (q := 45) (tgt := 48) C dX11_steered_42 rfl rfl h (fun h => ?_) (fun h => ?_)
      · refine v_bipush (q := 47) C dX11_steered_45 rfl (by decide) ?_
        exact u_iret hR dX11_steered_47 h
      · refine v_aloadn (q := 49) C dX11_steered_48 rfl rfl ?_
        refine u_getR (q := 52) C kl11 fl_X11_87 ob_206 pt_206_10 (by decide) rfl rfl dX11_steered_49 rfl ?_
        refine v_aloadn (q := 53) C dX11_steered_52 rfl rfl ?_
        refine u_getR (q := 56) C kl11 fl_X11_77 ob_206 pt_206_8 (by decide) rfl rfl dX11_steered_53 rfl ?_
        refine u_getR (q := 59) C kl0 fl_X11_144 ob_204 pt_204_0 (by decide) rfl rfl dX11_steered_56 rfl ?_
        refine u_cVv1 (q := 62) C (c_X10_copy h) sy_X10_copy si_X10_copy ml_X11_147 ob_178 (by decide) so_X10_copy ⟨nb rfl, nb rfl⟩ (nb rfl) dX11_steered_59 rfl (fun μ5 h => ?_)
        refine v_iconst (q := 63) C dX11_steered_62 rfl (by decide) ?_
        refine v_istoren (q := 64) C dX11_steered_63 rfl (nb rfl) (L' := [some (.inr 206), some (.inl x1), some (.inl 0)]) rfl ?_
        exact (w_X11_steered_64  C hR   h)
  · refine v_bipush (q := 11) C dX11_steered_9 rfl (by decide) ?_
    exact u_iret hR dX11_steered_11 h
theorem w_X11_tested_48 {X : ZX} (C : zC X cX11_tested RX11 4 (some .int) 5 147 274) {K : Int → ZM → Prop} (hR : zRi X cX11_tested (some .int) 274 (KN (KI K)))  {x1 : Int} {s0 : Int} {μ : ZM}   (h : P_X11_tested_48   x1 s0 μ K) : zV X 48 [some (.inr 206), some (.inl x1), none, none] [.inl s0] 274 (z_ov μ) := by
  refine v_istoren (q := 49) C dX11_tested_48 rfl (nb rfl) (L' := [some (.inr 206), some (.inl x1), none, some (.inl s0)]) rfl ?_
  refine v_aloadn (q := 50) C dX11_tested_49 rfl rfl ?_
  refine u_getR (q := 53) C kl11 fl_X11_28 ob_206 pt_206_2 (by decide) rfl rfl dX11_tested_50 rfl ?_
  refine v_aloadn (q := 54) C dX11_tested_53 rfl rfl ?_
  refine u_getR (q := 57) C kl11 fl_X11_54 ob_206 pt_206_5 (by decide) rfl rfl dX11_tested_54 rfl ?_
  refine u_getR (q := 60) C kl4 fl_X11_255 ob_238 pt_238_0 (by decide) rfl rfl dX11_tested_57 rfl ?_
  refine v_iloadn (q := 61) C dX11_tested_60 rfl rfl ?_
  have hb5 := h.1
  refine u_fald (v := 187 + 1 * x1) (q := 62) C fa_239 (Or.inr rfl) dX11_tested_61 rfl h (fun h9 => ⟨fe_239 h9, by omega⟩) (fun h => ?_)
  have hf6 : z_cm (187 + 1 * x1) := by omega
  refine v_iloadn (q := 63) C dX11_tested_62 rfl rfl ?_
  refine u_cVi2 (q := 66) C (c_X2_countTriples h) sy_X2_countTriples si_X2_countTriples ml_X11_258 ob_215 (by decide) so_X2_countTriples ⟨nb rfl, nb rfl⟩ (nb rfl) dX11_tested_63 rfl (fun r8 μ7 h => ?_)
  exact u_iret hR dX11_tested_66 h
theorem c_X11_tested {x1 : Int} {x2 : Int} {μ : ZM} {K : Int → ZM → Prop} (h : P_X11_tested  x1 x2 μ K) : zMu yX11_tested cX11_tested 4 (some .int) 5 147 [.inr 206, .inl x1, .inl x2] μ (KI K) := by
  refine zMet_of (L0 := [some (.inr 206), some (.inl x1), some (.inl x2), none]) sy_X11_tested rfl (nb rfl) (Nat.le_refl _) (fun X C _ hR _ _ => ?_)
  have C : zC X cX11_tested RX11 4 (some .int) 5 147 274 := C
  refine v_iloadn (q := 1) C dX11_tested_0 rfl rfl ?_
  refine v_aloadn (q := 2) C dX11_tested_1 rfl rfl ?_
  refine u_getR (q := 5) C kl11 fl_X11_54 ob_206 pt_206_5 (by decide) rfl rfl dX11_tested_2 rfl ?_
  refine u_getI (q := 8) C kl4 fl_X11_161 ob_238 pt_238_1 rfl rfl dX11_tested_5 rfl ?_
  refine v_iconst (q := 9) C dX11_tested_8 rfl (by decide) ?_
  refine u_isub (q := 10) C dX11_tested_9 rfl h (fun h => ?_)
  refine u_cSi2 (q := 13) C (c_X11_isOutside h) sy_X11_isOutside ss_X11_isOutside ml_X11_95 ⟨nb rfl, nb rfl⟩ (nb rfl) dX11_tested_10 rfl (fun r2 μ1 h => ?_)
  refine v_if_eq (q := 16) (tgt := 18) C dX11_tested_13 rfl rfl h (fun h => ?_) (fun h => ?_)
  · refine v_iloadn (q := 19) C dX11_tested_18 rfl rfl ?_
    refine v_iconst (q := 20) C dX11_tested_19 rfl (by decide) ?_
    refine u_cSi2 (q := 23) C (c_X11_isOutside h) sy_X11_isOutside ss_X11_isOutside ml_X11_95 ⟨nb rfl, nb rfl⟩ (nb rfl) dX11_tested_20 rfl (fun r4 μ3 h => ?_)
    refine v_if_eq (q := 26) (tgt := 29) C dX11_tested_23 rfl rfl h (fun h => ?_) (fun h => ?_)
    · refine v_iloadn (q := 30) C dX11_tested_29 rfl rfl ?_
      refine v_if_ne (q := 33) (tgt := 37) C dX11_tested_30 rfl rfl h (fun h => ?_) (fun h => ?_)
      · refine v_iconst (q := 34) C dX11_tested_33 rfl (by decide) ?_
        refine v_goto (q := 48) C dX11_tested_34 rfl ?_
        exact v_mask [true, true, false, false] rfl (w_X11_tested_48  C hR   h)
      · refine v_iloadn (q := 38) C dX11_tested_37 rfl rfl ?_
        refine v_iconst (q := 39) C dX11_tested_38 rfl (by decide) ?_
        refine v_icmp_ne (q := 42) (tgt := 46) C dX11_tested_39 rfl rfl h (fun h => ?_) (fun h => ?_)
        · refine v_iconst (q := 43) C dX11_tested_42 rfl (by decide) ?_
          refine v_goto (q := 48) C dX11_tested_43 rfl ?_
          exact v_mask [true, true, false, false] rfl (w_X11_tested_48  C hR   h)
        · refine v_bipush (q := 48) C dX11_tested_46 rfl (by decide) ?_
          exact v_mask [true, true, false, false] rfl (w_X11_tested_48  C hR   h)
    · refine v_bipush (q := 28) C dX11_tested_26 rfl (by decide) ?_
      exact u_iret hR dX11_tested_28 h
  · refine v_iconst (q := 17) C dX11_tested_16 rfl (by decide) ?_
    exact u_iret hR dX11_tested_17 h
theorem c_X11_type {x1 : Int} {μ : ZM} {K : Int → ZM → Prop} (h : P_X11_type  x1 μ K) : zMu yX11_type cX11_type 2 (some .int) 1 21 [.inr 206, .inl x1] μ (KI K) := by
  refine zMet_of (L0 := [some (.inr 206), some (.inl x1)]) sy_X11_type rfl (nb rfl) (Nat.le_refl _) (fun X C _ hR _ _ => ?_)
  have C : zC X cX11_type RX11 2 (some .int) 1 21 274 := C
  refine v_iloadn (q := 1) C dX11_type_0 rfl rfl ?_
  refine v_bipush (q := 3) C dX11_type_1 rfl (by decide) ?_
  refine u_cSi2 (q := 6) C (c_X11_isOutside h) sy_X11_isOutside ss_X11_isOutside ml_X11_95 ⟨nb rfl, nb rfl⟩ (nb rfl) dX11_type_3 rfl (fun r2 μ1 h => ?_)
  refine v_if_eq (q := 9) (tgt := 12) C dX11_type_6 rfl rfl h (fun h => ?_) (fun h => ?_)
  · refine v_aloadn (q := 13) C dX11_type_12 rfl rfl ?_
    refine u_getR (q := 16) C kl11 fl_X11_21 ob_206 pt_206_1 (by decide) rfl rfl dX11_type_13 rfl ?_
    refine u_getI (q := 19) C kl9 fl_X11_99 ob_212 pt_212_3 rfl rfl dX11_type_16 rfl ?_
    refine v_bipush (q := 21) C dX11_type_19 rfl (by decide) ?_
    refine v_icmp_lt (q := 24) (tgt := 27) C dX11_type_21 rfl rfl h (fun h => ?_) (fun h => ?_)
    · refine v_aloadn (q := 28) C dX11_type_27 rfl rfl ?_
      refine u_getR (q := 31) C kl11 fl_X11_21 ob_206 pt_206_1 (by decide) rfl rfl dX11_type_28 rfl ?_
      refine v_iloadn (q := 32) C dX11_type_31 rfl rfl ?_
      refine u_cVv1 (q := 35) C (c_X9_put h) sy_X9_put si_X9_put ml_X11_103 ob_212 (by decide) so_X9_put ⟨nb rfl, nb rfl⟩ (nb rfl) dX11_type_32 rfl (fun μ3 h => ?_)
      refine v_aloadn (q := 36) C dX11_type_35 rfl rfl ?_
      refine u_getR (q := 39) C kl11 fl_X11_21 ob_206 pt_206_1 (by decide) rfl rfl dX11_type_36 rfl ?_
      refine u_getI (q := 42) C kl9 fl_X11_99 ob_212 pt_212_3 rfl rfl dX11_type_39 rfl ?_
      exact u_iret hR dX11_type_42 h
    · refine v_bipush (q := 26) C dX11_type_24 rfl (by decide) ?_
      exact u_iret hR dX11_type_26 h
  · refine v_bipush (q := 11) C dX11_type_9 rfl (by decide) ?_
    exact u_iret hR dX11_type_11 h
theorem w_X11_value_145 {X : ZX} (C : zC X cX11_value RX11 7 (some .int) 3 92 274) {K : Int → ZM → Prop} (hR : zRi X cX11_value (some .int) 274 (KN (KI K)))  {x6 : Int} {μ : ZM}   (h : P_X11_value_145   x6 μ K) : zV X 145 [none, none, none, none, none, none, some (.inl x6)] [] 274 (z_ov μ) := by
  refine v_iload (q := 147) C dX11_value_145 rfl rfl ?_
  refine v_goto (q := 157) C dX11_value_147 rfl ?_
  exact u_iret hR dX11_value_157 h
theorem w_X11_value_117 {X : ZX} (C : zC X cX11_value RX11 7 (some .int) 3 92 274) {K : Int → ZM → Prop} (hR : zRi X cX11_value (some .int) 274 (KN (KI K)))  {x2 : Int} {x3 : Int} {x4 : Int} {μ : ZM}   (h : P_X11_value_117   x2 x3 x4 μ K) : zV X 117 [some (.inr 206), none, some (.inl x2), some (.inl x3), some (.inl x4), none, none] [] 274 (z_ov μ) := by
  refine v_aloadn (q := 118) C dX11_value_117 rfl rfl ?_
  refine u_getR (q := 121) C kl11 fl_X11_28 ob_206 pt_206_2 (by decide) rfl rfl dX11_value_118 rfl ?_
  refine v_aloadn (q := 122) C dX11_value_121 rfl rfl ?_
  refine u_getR (q := 125) C kl11 fl_X11_87 ob_206 pt_206_10 (by decide) rfl rfl dX11_value_122 rfl ?_
  refine v_iloadn (q := 126) C dX11_value_125 rfl rfl ?_
  refine v_iloadn (q := 127) C dX11_value_126 rfl rfl ?_
  refine v_iconst (q := 128) C dX11_value_127 rfl (by decide) ?_
  refine u_cVi4 (q := 131) C (c_X2_valueOf h) sy_X2_valueOf si_X2_valueOf ml_X11_170 ob_215 (by decide) so_X2_valueOf ⟨nb rfl, nb rfl⟩ (nb rfl) dX11_value_128 rfl (fun r13 μ12 h => ?_)
  refine v_istore (q := 133) C dX11_value_131 rfl (nb rfl) (L' := [some (.inr 206), none, some (.inl x2), some (.inl x3), some (.inl x4), none, some (.inl r13)]) rfl ?_
  refine v_iload (q := 135) C dX11_value_133 rfl rfl ?_
  refine v_bipush (q := 137) C dX11_value_135 rfl (by decide) ?_
  refine v_icmp_eq (q := 140) (tgt := 145) C dX11_value_137 rfl rfl h (fun h => ?_) (fun h => ?_)
  · exact v_mask [false, false, false, false, false, false, true] rfl (w_X11_value_145  C hR   h)
  · refine v_iload (q := 142) C dX11_value_140 rfl rfl ?_
    refine v_if_ne (q := 145) (tgt := 150) C dX11_value_142 rfl rfl h (fun h => ?_) (fun h => ?_)
    · exact v_mask [false, false, false, false, false, false, true] rfl (w_X11_value_145  C hR   h)
    · refine v_aloadn (q := 151) C dX11_value_150 rfl rfl ?_
      refine u_getR (q := 154) C kl11 fl_X11_28 ob_206 pt_206_2 (by decide) rfl rfl dX11_value_151 rfl ?_
      refine u_getI (q := 157) C kl2 fl_X11_174 ob_215 pt_215_2 rfl rfl dX11_value_154 rfl ?_
      exact u_iret hR dX11_value_157 h
theorem w_X11_value_73 {X : ZX} (C : zC X cX11_value RX11 7 (some .int) 3 92 274) {K : Int → ZM → Prop} (hR : zRi X cX11_value (some .int) 274 (KN (KI K)))  {x1 : Int} {x2 : Int} {x3 : Int} {x4 : Int} {x5 : Int} {μ : ZM}   (h : P_X11_value_73   x1 x2 x3 x4 x5 μ K) : zV X 73 [some (.inr 206), some (.inl x1), some (.inl x2), some (.inl x3), some (.inl x4), some (.inl x5), none] [] 274 (z_ov μ) := by
  refine v_aloadn (q := 74) C dX11_value_73 rfl rfl ?_
  refine u_getR (q := 77) C kl11 fl_X11_87 ob_206 pt_206_10 (by decide) rfl rfl dX11_value_74 rfl ?_
  refine u_cVv0 (q := 80) C (c_X10_empty h) sy_X10_empty si_X10_empty ml_X11_165 ob_178 (by decide) so_X10_empty ⟨nb rfl, nb rfl⟩ (nb rfl) dX11_value_77 rfl (fun μ7 h => ?_)
  refine v_aloadn (q := 81) C dX11_value_80 rfl rfl ?_
  refine u_getR (q := 84) C kl11 fl_X11_87 ob_206 pt_206_10 (by decide) rfl rfl dX11_value_81 rfl ?_
  refine v_bipush (q := 86) C dX11_value_84 rfl (by decide) ?_
  refine v_iloadn (q := 87) C dX11_value_86 rfl rfl ?_
  refine u_iadd (q := 88) C dX11_value_87 rfl h (fun h => ?_)
  refine u_cVi1 (q := 91) C (c_X10_add h) sy_X10_add si_X10_add ml_X11_166 ob_178 (by decide) so_X10_add ⟨nb rfl, nb rfl⟩ (nb rfl) dX11_value_88 rfl (fun r9 μ8 h => ?_)
  refine v_pop (q := 92) C dX11_value_91 rfl ?_
  refine v_aloadn (q := 93) C dX11_value_92 rfl rfl ?_
  refine u_getR (q := 96) C kl11 fl_X11_87 ob_206 pt_206_10 (by decide) rfl rfl dX11_value_93 rfl ?_
  refine v_bipush (q := 98) C dX11_value_96 rfl (by decide) ?_
  refine u_cVi1 (q := 101) C (c_X10_add h) sy_X10_add si_X10_add ml_X11_166 ob_178 (by decide) so_X10_add ⟨nb rfl, nb rfl⟩ (nb rfl) dX11_value_98 rfl (fun r11 μ10 h => ?_)
  refine v_pop (q := 102) C dX11_value_101 rfl ?_
  refine v_iload (q := 104) C dX11_value_102 rfl rfl ?_
  refine v_if_eq (q := 107) (tgt := 117) C dX11_value_104 rfl rfl h (fun h => ?_) (fun h => ?_)
  · exact v_mask [true, false, true, true, true, false, false] rfl (w_X11_value_117  C hR   h)
  · refine v_aloadn (q := 108) C dX11_value_107 rfl rfl ?_
    refine u_getR (q := 111) C kl11 fl_X11_87 ob_206 pt_206_10 (by decide) rfl rfl dX11_value_108 rfl ?_
    refine v_bipush (q := 113) C dX11_value_111 rfl (by decide) ?_
    refine u_cVi1 (q := 116) C (c_X10_add h) sy_X10_add si_X10_add ml_X11_166 ob_178 (by decide) so_X10_add ⟨nb rfl, nb rfl⟩ (nb rfl) dX11_value_113 rfl (fun r15 μ14 h => ?_)
    refine v_pop (q := 117) C dX11_value_116 rfl ?_
    exact v_mask [true, false, true, true, true, false, false] rfl (w_X11_value_117  C hR   h)
theorem w_X11_value_36 {X : ZX} (C : zC X cX11_value RX11 7 (some .int) 3 92 274) {K : Int → ZM → Prop} (hR : zRi X cX11_value (some .int) 274 (KN (KI K)))  {x1 : Int} {x2 : Int} {x3 : Int} {x4 : Int} {s0 : Int} {μ : ZM}   (h : P_X11_value_36   x1 x2 x3 x4 s0 μ K) : zV X 36 [some (.inr 206), some (.inl x1), some (.inl x2), some (.inl x3), some (.inl x4), none, none] [.inl s0] 274 (z_ov μ) := by
  refine v_istore (q := 38) C dX11_value_36 rfl (nb rfl) (L' := [some (.inr 206), some (.inl x1), some (.inl x2), some (.inl x3), some (.inl x4), some (.inl s0), none]) rfl ?_
  refine v_iloadn (q := 39) C dX11_value_38 rfl rfl ?_
  refine v_bipush (q := 41) C dX11_value_39 rfl (by decide) ?_
  refine u_cSi2 (q := 44) C (c_X11_isOutside h) sy_X11_isOutside ss_X11_isOutside ml_X11_95 ⟨nb rfl, nb rfl⟩ (nb rfl) dX11_value_41 rfl (fun r4 μ3 h => ?_)
  refine v_if_ne (q := 47) (tgt := 70) C dX11_value_44 rfl rfl h (fun h => ?_) (fun h => ?_)
  · refine v_iload (q := 49) C dX11_value_47 rfl rfl ?_
    refine v_iconst (q := 50) C dX11_value_49 rfl (by decide) ?_
    refine u_cSi2 (q := 53) C (c_X11_isOutside h) sy_X11_isOutside ss_X11_isOutside ml_X11_95 ⟨nb rfl, nb rfl⟩ (nb rfl) dX11_value_50 rfl (fun r6 μ5 h => ?_)
    refine v_if_ne (q := 56) (tgt := 70) C dX11_value_53 rfl rfl h (fun h => ?_) (fun h => ?_)
    · refine v_iload (q := 58) C dX11_value_56 rfl rfl ?_
      refine v_if_eq (q := 61) (tgt := 73) C dX11_value_58 rfl rfl h (fun h => ?_) (fun h => ?_)
      · exact (w_X11_value_73  C hR   h)
      · refine v_iloadn (q := 62) C dX11_value_61 rfl rfl ?_
        refine v_bipush (q := 64) C dX11_value_62 rfl (by decide) ?_
        refine u_cSi2 (q := 67) C (c_X11_isOutside h) sy_X11_isOutside ss_X11_isOutside ml_X11_95 ⟨nb rfl, nb rfl⟩ (nb rfl) dX11_value_64 rfl (fun r17 μ16 h => ?_)
        refine v_if_eq (q := 70) (tgt := 73) C dX11_value_67 rfl rfl h (fun h => ?_) (fun h => ?_)
        · exact (w_X11_value_73  C hR   h)
        · refine v_bipush (q := 72) C dX11_value_70 rfl (by decide) ?_
          exact u_iret hR dX11_value_72 h
    · refine v_bipush (q := 72) C dX11_value_70 rfl (by decide) ?_
      exact u_iret hR dX11_value_72 h
  · refine v_bipush (q := 72) C dX11_value_70 rfl (by decide) ?_
    exact u_iret hR dX11_value_72 h
theorem c_X11_value {x1 : Int} {x2 : Int} {x3 : Int} {x4 : Int} {μ : ZM} {K : Int → ZM → Prop} (h : P_X11_value  x1 x2 x3 x4 μ K) : zMu yX11_value cX11_value 7 (some .int) 3 92 [.inr 206, .inl x1, .inl x2, .inl x3, .inl x4] μ (KI K) := by
  refine zMet_of (L0 := [some (.inr 206), some (.inl x1), some (.inl x2), some (.inl x3), some (.inl x4), none, none]) sy_X11_value rfl (nb rfl) (Nat.le_refl _) (fun X C _ hR _ _ => ?_)
  have C : zC X cX11_value RX11 7 (some .int) 3 92 274 := C
  refine v_iloadn (q := 1) C dX11_value_0 rfl rfl ?_
  refine v_aloadn (q := 2) C dX11_value_1 rfl rfl ?_
  refine u_getR (q := 5) C kl11 fl_X11_12 ob_206 pt_206_0 (by decide) rfl rfl dX11_value_2 rfl ?_
  refine u_getI (q := 8) C kl3 fl_X11_107 ob_207 pt_207_4 rfl rfl dX11_value_5 rfl ?_
  refine v_iconst (q := 9) C dX11_value_8 rfl (by decide) ?_
  refine u_isub (q := 10) C dX11_value_9 rfl h (fun h => ?_)
  refine u_cSi2 (q := 13) C (c_X11_isOutside h) sy_X11_isOutside ss_X11_isOutside ml_X11_95 ⟨nb rfl, nb rfl⟩ (nb rfl) dX11_value_10 rfl (fun r2 μ1 h => ?_)
  refine v_if_eq (q := 16) (tgt := 18) C dX11_value_13 rfl rfl h (fun h => ?_) (fun h => ?_)
  · refine v_aloadn (q := 19) C dX11_value_18 rfl rfl ?_
    refine u_getR (q := 22) C kl11 fl_X11_12 ob_206 pt_206_0 (by decide) rfl rfl dX11_value_19 rfl ?_
    refine u_getR (q := 25) C kl3 fl_X11_122 ob_207 pt_207_0 (by decide) rfl rfl dX11_value_22 rfl ?_
    refine v_iloadn (q := 26) C dX11_value_25 rfl rfl ?_
    refine u_iald (q := 27) C ia_208 dX11_value_26 rfl h (fun h => ?_)
    refine v_iconst (q := 28) C dX11_value_27 rfl (by decide) ?_
    refine v_icmp_ne (q := 31) (tgt := 35) C dX11_value_28 rfl rfl h (fun h => ?_) (fun h => ?_)
    · refine v_iconst (q := 32) C dX11_value_31 rfl (by decide) ?_
      refine v_goto (q := 36) C dX11_value_32 rfl ?_
      exact (w_X11_value_36  C hR   h)
    · refine v_iconst (q := 36) C dX11_value_35 rfl (by decide) ?_
      exact (w_X11_value_36  C hR   h)
  · refine v_iconst (q := 17) C dX11_value_16 rfl (by decide) ?_
    exact u_iret hR dX11_value_17 h
theorem c_X11_why {x1 : Int} {μ : ZM} {K : Int → ZM → Prop} (h : P_X11_why  x1 μ K) : zMu yX11_why cX11_why 2 (some .int) 1 21 [.inr 206, .inl x1] μ (KI K) := by
  refine zMet_of (L0 := [some (.inr 206), some (.inl x1)]) sy_X11_why rfl (nb rfl) (Nat.le_refl _) (fun X C _ hR _ _ => ?_)
  have C : zC X cX11_why RX11 2 (some .int) 1 21 274 := C
  refine v_iloadn (q := 1) C dX11_why_0 rfl rfl ?_
  refine v_bipush (q := 3) C dX11_why_1 rfl (by decide) ?_
  refine u_cSi2 (q := 6) C (c_X11_isOutside h) sy_X11_isOutside ss_X11_isOutside ml_X11_95 ⟨nb rfl, nb rfl⟩ (nb rfl) dX11_why_3 rfl (fun r2 μ1 h => ?_)
  refine v_if_eq (q := 9) (tgt := 12) C dX11_why_6 rfl rfl h (fun h => ?_) (fun h => ?_)
  · refine v_iloadn (q := 13) C dX11_why_12 rfl rfl ?_
    refine v_aloadn (q := 14) C dX11_why_13 rfl rfl ?_
    refine u_getR (q := 17) C kl11 fl_X11_61 ob_206 pt_206_6 (by decide) rfl rfl dX11_why_14 rfl ?_
    refine u_getI (q := 20) C kl7 fl_X11_242 ob_240 pt_240_4 rfl rfl dX11_why_17 rfl ?_
    refine v_icmp_ge (q := 23) (tgt := 35) C dX11_why_20 rfl rfl h (fun h => ?_) (fun h => ?_)
    · refine v_bipush (q := 37) C dX11_why_35 rfl (by decide) ?_
      exact u_iret hR dX11_why_37 h
    · refine v_aloadn (q := 24) C dX11_why_23 rfl rfl ?_
      refine u_getR (q := 27) C kl11 fl_X11_61 ob_206 pt_206_6 (by decide) rfl rfl dX11_why_24 rfl ?_
      refine u_getR (q := 30) C kl7 fl_X11_245 ob_240 pt_240_2 (by decide) rfl rfl dX11_why_27 rfl ?_
      refine v_iloadn (q := 31) C dX11_why_30 rfl rfl ?_
      refine u_iald (q := 32) C ia_243 dX11_why_31 rfl h (fun h => ?_)
      refine v_goto (q := 37) C dX11_why_32 rfl ?_
      exact u_iret hR dX11_why_37 h
  · refine v_bipush (q := 11) C dX11_why_9 rfl (by decide) ?_
    exact u_iret hR dX11_why_11 h
theorem c_X11_wipe  {μ : ZM} {K : Int → ZM → Prop} (h : P_X11_wipe   μ K) : zMu yX11_wipe cX11_wipe 2 (some .int) 0 0 [.inr 206] μ (KI K) := by
  refine zMet_of (L0 := [some (.inr 206), none]) sy_X11_wipe rfl (nb rfl) (Nat.le_refl _) (fun X C _ hR _ _ => ?_)
  have C : zC X cX11_wipe RX11 2 (some .int) 0 0 274 := C
  refine v_aloadn (q := 1) C dX11_wipe_0 rfl rfl ?_
  refine u_getR (q := 4) C kl11 fl_X11_21 ob_206 pt_206_1 (by decide) rfl rfl dX11_wipe_1 rfl ?_
  refine u_getI (q := 7) C kl9 fl_X11_99 ob_212 pt_212_3 rfl rfl dX11_wipe_4 rfl ?_
  refine v_istoren (q := 8) C dX11_wipe_7 rfl (nb rfl) (L' := [some (.inr 206), some (.inl (μ 212 3))]) rfl ?_
  refine v_aloadn (q := 9) C dX11_wipe_8 rfl rfl ?_
  refine u_getR (q := 12) C kl11 fl_X11_21 ob_206 pt_206_1 (by decide) rfl rfl dX11_wipe_9 rfl ?_
  refine v_iconst (q := 13) C dX11_wipe_12 rfl (by decide) ?_
  refine u_put (q := 16) C kl9 fl_X11_99 ob_212 pt_212_3 rfl rfl rfl rfl dX11_wipe_13 rfl h (fun μ1 h => ?_)
  refine v_iloadn (q := 17) C dX11_wipe_16 rfl rfl ?_
  exact u_iret hR dX11_wipe_17 h
theorem c_X12_anew  {μ : ZM} {K : Int → ZM → Prop} (h : P_X12_anew   μ K) : zMu yX12_anew cX12_anew 2 (some .int) 0 0 [.inr 248] μ (KI K) := by
  refine zMet_of (L0 := [some (.inr 248), none]) sy_X12_anew rfl (nb rfl) (Nat.le_refl _) (fun X C _ hR _ _ => ?_)
  have C : zC X cX12_anew RX12 2 (some .int) 0 0 274 := C
  refine v_aloadn (q := 1) C dX12_anew_0 rfl rfl ?_
  refine u_getI (q := 4) C kl12 fl_X12_137 ob_248 pt_248_4 rfl rfl dX12_anew_1 rfl ?_
  refine v_istoren (q := 5) C dX12_anew_4 rfl (nb rfl) (L' := [some (.inr 248), some (.inl (μ 248 4))]) rfl ?_
  refine v_aloadn (q := 6) C dX12_anew_5 rfl rfl ?_
  refine v_iconst (q := 7) C dX12_anew_6 rfl (by decide) ?_
  refine u_put (q := 10) C kl12 fl_X12_137 ob_248 pt_248_4 rfl rfl rfl rfl dX12_anew_7 rfl h (fun μ1 h => ?_)
  refine v_aloadn (q := 11) C dX12_anew_10 rfl rfl ?_
  refine v_iconst (q := 12) C dX12_anew_11 rfl (by decide) ?_
  refine u_put (q := 15) C kl12 fl_X12_171 ob_248 pt_248_35 rfl rfl rfl rfl dX12_anew_12 rfl h (fun μ2 h => ?_)
  refine v_aloadn (q := 16) C dX12_anew_15 rfl rfl ?_
  refine v_iconst (q := 17) C dX12_anew_16 rfl (by decide) ?_
  refine u_putZ (q := 20) C kl12 fl_X12_164 ob_248 pt_248_9 rfl rfl rfl rfl dX12_anew_17 rfl h (fun μ3 h => ?_)
  refine v_aloadn (q := 21) C dX12_anew_20 rfl rfl ?_
  refine v_iconst (q := 22) C dX12_anew_21 rfl (by decide) ?_
  refine u_put (q := 25) C kl12 fl_X12_174 ob_248 pt_248_39 rfl rfl rfl rfl dX12_anew_22 rfl h (fun μ4 h => ?_)
  refine v_aloadn (q := 26) C dX12_anew_25 rfl rfl ?_
  refine v_bipush (q := 28) C dX12_anew_26 rfl (by decide) ?_
  refine u_put (q := 31) C kl12 fl_X12_79 ob_248 pt_248_42 rfl rfl rfl rfl dX12_anew_28 rfl h (fun μ5 h => ?_)
  refine v_iloadn (q := 32) C dX12_anew_31 rfl rfl ?_
  exact u_iret hR dX12_anew_32 h
theorem c_X12_at {x1 : Int} {x2 : Int} {μ : ZM} {K : Int → ZM → Prop} (h : P_X12_at  x1 x2 μ K) : zMu yX12_at cX12_at 3 (some .int) 0 0 [.inr 248, .inl x1, .inl x2] μ (KI K) := by
  refine zMet_of (L0 := [some (.inr 248), some (.inl x1), some (.inl x2)]) sy_X12_at rfl (nb rfl) (Nat.le_refl _) (fun X C _ hR _ _ => ?_)
  have C : zC X cX12_at RX12 3 (some .int) 0 0 274 := C
  refine v_aloadn (q := 1) C dX12_at_0 rfl rfl ?_
  refine u_getR (q := 4) C kl12 fl_X12_7 ob_248 pt_248_0 (by decide) rfl rfl dX12_at_1 rfl ?_
  refine v_sipush (q := 7) C dX12_at_4 rfl (by decide) ?_
  refine v_iloadn (q := 8) C dX12_at_7 rfl rfl ?_
  refine u_imul (q := 9) C dX12_at_8 rfl h (fun h => ?_)
  refine v_iloadn (q := 10) C dX12_at_9 rfl rfl ?_
  refine u_iadd (q := 11) C dX12_at_10 rfl h (fun h => ?_)
  refine u_iald (q := 12) C ia_249 dX12_at_11 rfl h (fun h => ?_)
  exact u_iret hR dX12_at_12 h
theorem w_X12_areSame_61 {X : ZX} (C : zC X cX12_areSame RX12 5 (some .boolean) 1 22 274) {K : Int → ZM → Prop} (hR : zRi X cX12_areSame (some .boolean) 274 (KN (KI K)))  {x1 : Int} {x2 : Int} {x4 : Int} {s0 : Int} {μ : ZM} {G24 : Int → Int → ZM → Prop} (hG24 : ∀ (x3 x4 : Int) (μ : ZM), G24 x3 x4 μ → zV X 24 [some (.inr 248), some (.inl x1), some (.inl x2), some (.inl x3), some (.inl x4)] [] 274 (z_ov μ))  (h : P_X12_areSame_61  G24 x1 x2 x4 s0 μ K) : zV X 61 [some (.inr 248), some (.inl x1), some (.inl x2), none, some (.inl x4)] [.inl s0] 274 (z_ov μ) := by
  refine v_istoren (q := 62) C dX12_areSame_61 rfl (nb rfl) (L' := [some (.inr 248), some (.inl x1), some (.inl x2), some (.inl s0), some (.inl x4)]) rfl ?_
  refine u_iinc (q := 65) C dX12_areSame_62 rfl (nb rfl) rfl (L' := [some (.inr 248), some (.inl x1), some (.inl x2), some (.inl s0), some (.inl (x4 + 1))]) rfl h (fun h => ?_)
  refine v_goto (q := 24) C dX12_areSame_65 rfl ?_
  exact (hG24 _ _ _ h)
theorem w_X12_areSame_24 {X : ZX} (C : zC X cX12_areSame RX12 5 (some .boolean) 1 22 274) {K : Int → ZM → Prop} (hR : zRi X cX12_areSame (some .boolean) 274 (KN (KI K)))  {x1 : Int} {x2 : Int} {x3 : Int} {x4 : Int} {μ : ZM}   (h : P_X12_areSame_24   x1 x2 x3 x4 μ K) : zV X 24 [some (.inr 248), some (.inl x1), some (.inl x2), some (.inl x3), some (.inl x4)] [] 274 (z_ov μ) := by
  refine h (fun x3 x4 μ => zV X 24 [some (.inr 248), some (.inl x1), some (.inl x2), some (.inl x3), some (.inl x4)] [] 274 (z_ov μ)) (fun x3 x4 μ h => ?_)
  refine v_iload (q := 26) C dX12_areSame_24 rfl rfl ?_
  refine v_aloadn (q := 27) C dX12_areSame_26 rfl rfl ?_
  refine u_getR (q := 30) C kl12 fl_X12_13 ob_248 pt_248_1 (by decide) rfl rfl dX12_areSame_27 rfl ?_
  refine v_iloadn (q := 31) C dX12_areSame_30 rfl rfl ?_
  refine u_iald (q := 32) C ia_250 dX12_areSame_31 rfl h (fun h => ?_)
  refine v_icmp_ge (q := 35) (tgt := 68) C dX12_areSame_32 rfl rfl h (fun h => ?_) (fun h => ?_)
  · refine v_iloadn (q := 69) C dX12_areSame_68 rfl rfl ?_
    exact u_zret hR dX12_areSame_69 h
  · refine v_iloadn (q := 36) C dX12_areSame_35 rfl rfl ?_
    refine v_if_eq (q := 39) (tgt := 68) C dX12_areSame_36 rfl rfl h (fun h => ?_) (fun h => ?_)
    · refine v_iloadn (q := 69) C dX12_areSame_68 rfl rfl ?_
      exact u_zret hR dX12_areSame_69 h
    · refine v_aloadn (q := 40) C dX12_areSame_39 rfl rfl ?_
      refine v_iloadn (q := 41) C dX12_areSame_40 rfl rfl ?_
      refine v_iload (q := 43) C dX12_areSame_41 rfl rfl ?_
      refine u_cVi2 (q := 46) C (c_X12_at h) sy_X12_at si_X12_at ml_X12_92 ob_248 (by decide) so_X12_at ⟨nb rfl, nb rfl⟩ (nb rfl) dX12_areSame_43 rfl (fun r2 μ1 h => ?_)
      refine v_aloadn (q := 47) C dX12_areSame_46 rfl rfl ?_
      refine v_iloadn (q := 48) C dX12_areSame_47 rfl rfl ?_
      refine v_iload (q := 50) C dX12_areSame_48 rfl rfl ?_
      refine u_cVi2 (q := 53) C (c_X12_at h) sy_X12_at si_X12_at ml_X12_92 ob_248 (by decide) so_X12_at ⟨nb rfl, nb rfl⟩ (nb rfl) dX12_areSame_50 rfl (fun r4 μ3 h => ?_)
      refine v_icmp_ne (q := 56) (tgt := 60) C dX12_areSame_53 rfl rfl h (fun h => ?_) (fun h => ?_)
      · refine v_iconst (q := 57) C dX12_areSame_56 rfl (by decide) ?_
        refine v_goto (q := 61) C dX12_areSame_57 rfl ?_
        exact v_mask [true, true, true, false, true] rfl (w_X12_areSame_61  C hR (fun _ _ _ h => h)  h)
      · refine v_iconst (q := 61) C dX12_areSame_60 rfl (by decide) ?_
        exact v_mask [true, true, true, false, true] rfl (w_X12_areSame_61  C hR (fun _ _ _ h => h)  h)
theorem w_X12_areSame_20 {X : ZX} (C : zC X cX12_areSame RX12 5 (some .boolean) 1 22 274) {K : Int → ZM → Prop} (hR : zRi X cX12_areSame (some .boolean) 274 (KN (KI K)))  {x1 : Int} {x2 : Int} {s0 : Int} {μ : ZM}   (h : P_X12_areSame_20   x1 x2 s0 μ K) : zV X 20 [some (.inr 248), some (.inl x1), some (.inl x2), none, none] [.inl s0] 274 (z_ov μ) := by
  refine v_istoren (q := 21) C dX12_areSame_20 rfl (nb rfl) (L' := [some (.inr 248), some (.inl x1), some (.inl x2), some (.inl s0), none]) rfl ?_
  refine v_iconst (q := 22) C dX12_areSame_21 rfl (by decide) ?_
  refine v_istore (q := 24) C dX12_areSame_22 rfl (nb rfl) (L' := [some (.inr 248), some (.inl x1), some (.inl x2), some (.inl s0), some (.inl 0)]) rfl ?_
  exact (w_X12_areSame_24  C hR   h)
theorem c_X12_areSame {x1 : Int} {x2 : Int} {μ : ZM} {K : Int → ZM → Prop} (h : P_X12_areSame  x1 x2 μ K) : zMu yX12_areSame cX12_areSame 5 (some .boolean) 1 22 [.inr 248, .inl x1, .inl x2] μ (KI K) := by
  refine zMet_of (L0 := [some (.inr 248), some (.inl x1), some (.inl x2), none, none]) sy_X12_areSame rfl (nb rfl) (Nat.le_refl _) (fun X C _ hR _ _ => ?_)
  have C : zC X cX12_areSame RX12 5 (some .boolean) 1 22 274 := C
  refine v_aloadn (q := 1) C dX12_areSame_0 rfl rfl ?_
  refine u_getR (q := 4) C kl12 fl_X12_13 ob_248 pt_248_1 (by decide) rfl rfl dX12_areSame_1 rfl ?_
  refine v_iloadn (q := 5) C dX12_areSame_4 rfl rfl ?_
  refine u_iald (q := 6) C ia_250 dX12_areSame_5 rfl h (fun h => ?_)
  refine v_aloadn (q := 7) C dX12_areSame_6 rfl rfl ?_
  refine u_getR (q := 10) C kl12 fl_X12_13 ob_248 pt_248_1 (by decide) rfl rfl dX12_areSame_7 rfl ?_
  refine v_iloadn (q := 11) C dX12_areSame_10 rfl rfl ?_
  refine u_iald (q := 12) C ia_250 dX12_areSame_11 rfl h (fun h => ?_)
  refine v_icmp_ne (q := 15) (tgt := 19) C dX12_areSame_12 rfl rfl h (fun h => ?_) (fun h => ?_)
  · refine v_iconst (q := 16) C dX12_areSame_15 rfl (by decide) ?_
    refine v_goto (q := 20) C dX12_areSame_16 rfl ?_
    exact (w_X12_areSame_20  C hR   h)
  · refine v_iconst (q := 20) C dX12_areSame_19 rfl (by decide) ?_
    exact (w_X12_areSame_20  C hR   h)
theorem c_X12_within {x0 : Int} {x1 : Int} {x2 : Int} {μ : ZM} {K : Int → ZM → Prop} (h : P_X12_within  x0 x1 x2 μ K) : zMu yX12_within cX12_within 3 (some .boolean) 0 0 [.inl x0, .inl x1, .inl x2] μ (KI K) := by
  refine zMet_of (L0 := [some (.inl x0), some (.inl x1), some (.inl x2)]) sy_X12_within rfl (nb rfl) (Nat.le_refl _) (fun X C _ hR _ _ => ?_)
  have C : zC X cX12_within RX12 3 (some .boolean) 0 0 274 := C
  refine v_iloadn (q := 1) C dX12_within_0 rfl rfl ?_
  refine v_iloadn (q := 2) C dX12_within_1 rfl rfl ?_
  refine v_icmp_lt (q := 5) (tgt := 14) C dX12_within_2 rfl rfl h (fun h => ?_) (fun h => ?_)
  · refine v_iconst (q := 15) C dX12_within_14 rfl (by decide) ?_
    exact u_zret hR dX12_within_15 h
  · refine v_iloadn (q := 6) C dX12_within_5 rfl rfl ?_
    refine v_iloadn (q := 7) C dX12_within_6 rfl rfl ?_
    refine v_icmp_gt (q := 10) (tgt := 14) C dX12_within_7 rfl rfl h (fun h => ?_) (fun h => ?_)
    · refine v_iconst (q := 15) C dX12_within_14 rfl (by decide) ?_
      exact u_zret hR dX12_within_15 h
    · refine v_iconst (q := 11) C dX12_within_10 rfl (by decide) ?_
      refine v_goto (q := 15) C dX12_within_11 rfl ?_
      exact u_zret hR dX12_within_15 h
theorem c_X12_isLetter {x0 : Int} {μ : ZM} {K : Int → ZM → Prop} (h : P_X12_isLetter  x0 μ K) : zMu yX12_isLetter cX12_isLetter 1 (some .boolean) 1 22 [.inl x0] μ (KI K) := by
  refine zMet_of (L0 := [some (.inl x0)]) sy_X12_isLetter rfl (nb rfl) (Nat.le_refl _) (fun X C _ hR _ _ => ?_)
  have C : zC X cX12_isLetter RX12 1 (some .boolean) 1 22 274 := C
  refine v_iloadn (q := 1) C dX12_isLetter_0 rfl rfl ?_
  refine v_bipush (q := 3) C dX12_isLetter_1 rfl (by decide) ?_
  refine v_bipush (q := 5) C dX12_isLetter_3 rfl (by decide) ?_
  refine u_cSi3 (q := 8) C (c_X12_within h) sy_X12_within ss_X12_within ml_X12_96 ⟨nb rfl, nb rfl⟩ (nb rfl) dX12_isLetter_5 rfl (fun r2 μ1 h => ?_)
  exact u_zret hR dX12_isLetter_8 h
theorem c_X12_arity {x1 : Int} {μ : ZM} {K : Int → ZM → Prop} (h : P_X12_arity  x1 μ K) : zMu yX12_arity cX12_arity 2 (some .int) 2 42 [.inr 248, .inl x1] μ (KI K) := by
  refine zMet_of (L0 := [some (.inr 248), some (.inl x1)]) sy_X12_arity rfl (nb rfl) (Nat.le_refl _) (fun X C _ hR _ _ => ?_)
  have C : zC X cX12_arity RX12 2 (some .int) 2 42 274 := C
  refine v_iloadn (q := 1) C dX12_arity_0 rfl rfl ?_
  refine v_bipush (q := 3) C dX12_arity_1 rfl (by decide) ?_
  refine v_icmp_ne (q := 6) (tgt := 10) C dX12_arity_3 rfl rfl h (fun h => ?_) (fun h => ?_)
  · refine v_iconst (q := 7) C dX12_arity_6 rfl (by decide) ?_
    refine v_goto (q := 30) C dX12_arity_7 rfl ?_
    exact u_iret hR dX12_arity_30 h
  · refine v_iloadn (q := 11) C dX12_arity_10 rfl rfl ?_
    refine u_cSi1 (q := 14) C (c_X12_isLetter h) sy_X12_isLetter ss_X12_isLetter ml_X12_100 ⟨nb rfl, nb rfl⟩ (nb rfl) dX12_arity_11 rfl (fun r2 μ1 h => ?_)
    refine v_if_eq (q := 17) (tgt := 29) C dX12_arity_14 rfl rfl h (fun h => ?_) (fun h => ?_)
    · refine v_iconst (q := 30) C dX12_arity_29 rfl (by decide) ?_
      exact u_iret hR dX12_arity_30 h
    · refine v_aloadn (q := 18) C dX12_arity_17 rfl rfl ?_
      refine u_getR (q := 21) C kl12 fl_X12_19 ob_248 pt_248_5 (by decide) rfl rfl dX12_arity_18 rfl ?_
      refine v_iloadn (q := 22) C dX12_arity_21 rfl rfl ?_
      refine v_bipush (q := 24) C dX12_arity_22 rfl (by decide) ?_
      refine u_isub (q := 25) C dX12_arity_24 rfl h (fun h => ?_)
      refine u_iald (q := 26) C ia_252 dX12_arity_25 rfl h (fun h => ?_)
      refine v_goto (q := 30) C dX12_arity_26 rfl ?_
      exact u_iret hR dX12_arity_30 h
theorem c_X12_atMost {x1 : Int} {μ : ZM} {K : Int → ZM → Prop} (h : P_X12_atMost  x1 μ K) : zMu yX12_atMost cX12_atMost 2 (some .int) 0 0 [.inr 248, .inl x1] μ (KI K) := by
  refine zMet_of (L0 := [some (.inr 248), some (.inl x1)]) sy_X12_atMost rfl (nb rfl) (Nat.le_refl _) (fun X C _ hR _ _ => ?_)
  have C : zC X cX12_atMost RX12 2 (some .int) 0 0 274 := C
  refine v_iloadn (q := 1) C dX12_atMost_0 rfl rfl ?_
  refine v_ldcw (q := 4) C kc_X12_269 dX12_atMost_1 rfl (by decide) ?_
  refine v_icmp_le (q := 7) (tgt := 13) C dX12_atMost_4 rfl rfl h (fun h => ?_) (fun h => ?_)
  · refine v_iloadn (q := 14) C dX12_atMost_13 rfl rfl ?_
    exact u_iret hR dX12_atMost_14 h
  · refine v_ldcw (q := 10) C kc_X12_269 dX12_atMost_7 rfl (by decide) ?_
    refine v_goto (q := 14) C dX12_atMost_10 rfl ?_
    exact u_iret hR dX12_atMost_14 h
theorem c_X12_back  {μ : ZM} {K : Int → ZM → Prop} (h : P_X12_back   μ K) : zMu yX12_back cX12_back 1 (some .int) 0 0 [.inr 248] μ (KI K) := by
  refine zMet_of (L0 := [some (.inr 248)]) sy_X12_back rfl (nb rfl) (Nat.le_refl _) (fun X C _ hR _ _ => ?_)
  have C : zC X cX12_back RX12 1 (some .int) 0 0 274 := C
  refine v_aloadn (q := 1) C dX12_back_0 rfl rfl ?_
  refine u_getI (q := 4) C kl12 fl_X12_171 ob_248 pt_248_35 rfl rfl dX12_back_1 rfl ?_
  refine v_if_ne (q := 7) (tgt := 10) C dX12_back_4 rfl rfl h (fun h => ?_) (fun h => ?_)
  · refine v_bipush (q := 9) C dX12_back_7 rfl (by decide) ?_
    exact u_iret hR dX12_back_9 h
  · refine v_aloadn (q := 11) C dX12_back_10 rfl rfl ?_
    refine v_dup (q := 12) C dX12_back_11 rfl ?_
    refine u_getI (q := 15) C kl12 fl_X12_171 ob_248 pt_248_35 rfl rfl dX12_back_12 rfl ?_
    refine v_iconst (q := 16) C dX12_back_15 rfl (by decide) ?_
    refine u_isub (q := 17) C dX12_back_16 rfl h (fun h => ?_)
    refine u_put (q := 20) C kl12 fl_X12_171 ob_248 pt_248_35 rfl rfl rfl rfl dX12_back_17 rfl h (fun μ1 h => ?_)
    refine v_aloadn (q := 21) C dX12_back_20 rfl rfl ?_
    refine u_getI (q := 24) C kl12 fl_X12_171 ob_248 pt_248_35 rfl rfl dX12_back_21 rfl ?_
    exact u_iret hR dX12_back_24 h
theorem c_X12_slotOf {x1 : Int} {x2 : Int} {μ : ZM} {K : Int → ZM → Prop} (h : P_X12_slotOf  x1 x2 μ K) : zMu yX12_slotOf cX12_slotOf 3 (some .int) 0 0 [.inr 248, .inl x1, .inl x2] μ (KI K) := by
  refine zMet_of (L0 := [some (.inr 248), some (.inl x1), some (.inl x2)]) sy_X12_slotOf rfl (nb rfl) (Nat.le_refl _) (fun X C _ hR _ _ => ?_)
  have C : zC X cX12_slotOf RX12 3 (some .int) 0 0 274 := C
  refine v_bipush (q := 2) C dX12_slotOf_0 rfl (by decide) ?_
  refine v_aloadn (q := 3) C dX12_slotOf_2 rfl rfl ?_
  refine u_getI (q := 6) C kl12 fl_X12_334 ob_248 pt_248_46 rfl rfl dX12_slotOf_3 rfl ?_
  refine u_imul (q := 7) C dX12_slotOf_6 rfl h (fun h => ?_)
  refine v_iloadn (q := 8) C dX12_slotOf_7 rfl rfl ?_
  refine u_iadd (q := 9) C dX12_slotOf_8 rfl h (fun h => ?_)
  refine v_iloadn (q := 10) C dX12_slotOf_9 rfl rfl ?_
  refine u_iadd (q := 11) C dX12_slotOf_10 rfl h (fun h => ?_)
  exact u_iret hR dX12_slotOf_11 h
theorem c_X12_notesIt {x1 : Int} {x2 : Int} {μ : ZM} {K : ZM → Prop} (h : P_X12_notesIt  x1 x2 μ K) : zMu yX12_notesIt cX12_notesIt 3 none 0 0 [.inr 248, .inl x1, .inl x2] μ (KV K) := by
  refine zMet_of (L0 := [some (.inr 248), some (.inl x1), some (.inl x2)]) sy_X12_notesIt rfl (nb rfl) (Nat.le_refl _) (fun X C _ _ _ hR => ?_)
  have C : zC X cX12_notesIt RX12 3 none 0 0 274 := C
  refine v_aloadn (q := 1) C dX12_notesIt_0 rfl rfl ?_
  refine u_getI (q := 4) C kl12 fl_X12_174 ob_248 pt_248_39 rfl rfl dX12_notesIt_1 rfl ?_
  refine v_bipush (q := 6) C dX12_notesIt_4 rfl (by decide) ?_
  refine v_icmp_ge (q := 9) (tgt := 39) C dX12_notesIt_6 rfl rfl h (fun h => ?_) (fun h => ?_)
  · exact u_vret hR dX12_notesIt_39 h
  · refine v_aloadn (q := 10) C dX12_notesIt_9 rfl rfl ?_
    refine u_getR (q := 13) C kl12 fl_X12_73 ob_248 pt_248_40 (by decide) rfl rfl dX12_notesIt_10 rfl ?_
    refine v_aloadn (q := 14) C dX12_notesIt_13 rfl rfl ?_
    refine u_getI (q := 17) C kl12 fl_X12_174 ob_248 pt_248_39 rfl rfl dX12_notesIt_14 rfl ?_
    refine v_iloadn (q := 18) C dX12_notesIt_17 rfl rfl ?_
    refine u_iast (q := 19) C ia_270 dX12_notesIt_18 rfl h (fun μ1 h => ?_)
    refine v_aloadn (q := 20) C dX12_notesIt_19 rfl rfl ?_
    refine u_getR (q := 23) C kl12 fl_X12_76 ob_248 pt_248_41 (by decide) rfl rfl dX12_notesIt_20 rfl ?_
    refine v_aloadn (q := 24) C dX12_notesIt_23 rfl rfl ?_
    refine u_getI (q := 27) C kl12 fl_X12_174 ob_248 pt_248_39 rfl rfl dX12_notesIt_24 rfl ?_
    refine v_iloadn (q := 28) C dX12_notesIt_27 rfl rfl ?_
    refine u_iast (q := 29) C ia_271 dX12_notesIt_28 rfl h (fun μ2 h => ?_)
    refine v_aloadn (q := 30) C dX12_notesIt_29 rfl rfl ?_
    refine v_dup (q := 31) C dX12_notesIt_30 rfl ?_
    refine u_getI (q := 34) C kl12 fl_X12_174 ob_248 pt_248_39 rfl rfl dX12_notesIt_31 rfl ?_
    refine v_iconst (q := 35) C dX12_notesIt_34 rfl (by decide) ?_
    refine u_iadd (q := 36) C dX12_notesIt_35 rfl h (fun h => ?_)
    refine u_put (q := 39) C kl12 fl_X12_174 ob_248 pt_248_39 rfl rfl rfl rfl dX12_notesIt_36 rfl h (fun μ3 h => ?_)
    exact u_vret hR dX12_notesIt_39 h
theorem w_X12_hasSign_2 {X : ZX} (C : zC X cX12_hasSign RX12 4 (some .boolean) 1 22 274) {K : Int → ZM → Prop} (hR : zRi X cX12_hasSign (some .boolean) 274 (KN (KI K)))  {x1 : Int} {x2 : Int} {x3 : Int} {μ : ZM}   (h : P_X12_hasSign_2   x1 x2 x3 μ K) : zV X 2 [some (.inr 248), some (.inl x1), some (.inl x2), some (.inl x3)] [] 274 (z_ov μ) := by
  refine h (fun x3 μ => zV X 2 [some (.inr 248), some (.inl x1), some (.inl x2), some (.inl x3)] [] 274 (z_ov μ)) (fun x3 μ h => ?_)
  refine v_iloadn (q := 3) C dX12_hasSign_2 rfl rfl ?_
  refine v_aloadn (q := 4) C dX12_hasSign_3 rfl rfl ?_
  refine u_getR (q := 7) C kl12 fl_X12_13 ob_248 pt_248_1 (by decide) rfl rfl dX12_hasSign_4 rfl ?_
  refine v_iloadn (q := 8) C dX12_hasSign_7 rfl rfl ?_
  refine u_iald (q := 9) C ia_250 dX12_hasSign_8 rfl h (fun h => ?_)
  refine v_icmp_ge (q := 12) (tgt := 30) C dX12_hasSign_9 rfl rfl h (fun h => ?_) (fun h => ?_)
  · refine v_iconst (q := 31) C dX12_hasSign_30 rfl (by decide) ?_
    exact u_zret hR dX12_hasSign_31 h
  · refine v_aloadn (q := 13) C dX12_hasSign_12 rfl rfl ?_
    refine v_iloadn (q := 14) C dX12_hasSign_13 rfl rfl ?_
    refine v_iloadn (q := 15) C dX12_hasSign_14 rfl rfl ?_
    refine u_cVi2 (q := 18) C (c_X12_at h) sy_X12_at si_X12_at ml_X12_92 ob_248 (by decide) so_X12_at ⟨nb rfl, nb rfl⟩ (nb rfl) dX12_hasSign_15 rfl (fun r2 μ1 h => ?_)
    refine v_iloadn (q := 19) C dX12_hasSign_18 rfl rfl ?_
    refine v_icmp_ne (q := 22) (tgt := 24) C dX12_hasSign_19 rfl rfl h (fun h => ?_) (fun h => ?_)
    · refine v_iconst (q := 23) C dX12_hasSign_22 rfl (by decide) ?_
      exact u_zret hR dX12_hasSign_23 h
    · refine u_iinc (q := 27) C dX12_hasSign_24 rfl (nb rfl) rfl (L' := [some (.inr 248), some (.inl x1), some (.inl x2), some (.inl (x3 + 1))]) rfl h (fun h => ?_)
      refine v_goto (q := 2) C dX12_hasSign_27 rfl ?_
      exact h
theorem c_X12_hasSign {x1 : Int} {x2 : Int} {μ : ZM} {K : Int → ZM → Prop} (h : P_X12_hasSign  x1 x2 μ K) : zMu yX12_hasSign cX12_hasSign 4 (some .boolean) 1 22 [.inr 248, .inl x1, .inl x2] μ (KI K) := by
  refine zMet_of (L0 := [some (.inr 248), some (.inl x1), some (.inl x2), none]) sy_X12_hasSign rfl (nb rfl) (Nat.le_refl _) (fun X C _ hR _ _ => ?_)
  have C : zC X cX12_hasSign RX12 4 (some .boolean) 1 22 274 := C
  refine v_iconst (q := 1) C dX12_hasSign_0 rfl (by decide) ?_
  refine v_istoren (q := 2) C dX12_hasSign_1 rfl (nb rfl) (L' := [some (.inr 248), some (.inl x1), some (.inl x2), some (.inl 0)]) rfl ?_
  exact (w_X12_hasSign_2  C hR   h)
theorem w_X12_upTo_24 {X : ZX} (C : zC X cX12_upTo RX12 4 (some .int) 2 45 274) {K : Int → ZM → Prop} (hR : zRi X cX12_upTo (some .int) 274 (KN (KI K)))   {μ : ZM}   (h : P_X12_upTo_24    μ K) : zV X 24 [none, none, none, none] [] 274 (z_ov μ) := by
  refine v_iconst (q := 25) C dX12_upTo_24 rfl (by decide) ?_
  refine v_goto (q := 29) C dX12_upTo_25 rfl ?_
  exact u_iret hR dX12_upTo_29 h
theorem c_X12_upTo {x1 : Int} {x2 : Int} {x3 : Int} {μ : ZM} {K : Int → ZM → Prop} (h : P_X12_upTo  x1 x2 x3 μ K) : zMu yX12_upTo cX12_upTo 4 (some .int) 2 45 [.inr 248, .inl x1, .inl x2, .inl x3] μ (KI K) := by
  refine zMet_of (L0 := [some (.inr 248), some (.inl x1), some (.inl x2), some (.inl x3)]) sy_X12_upTo rfl (nb rfl) (Nat.le_refl _) (fun X C _ hR _ _ => ?_)
  have C : zC X cX12_upTo RX12 4 (some .int) 2 45 274 := C
  refine v_aloadn (q := 1) C dX12_upTo_0 rfl rfl ?_
  refine v_iloadn (q := 2) C dX12_upTo_1 rfl rfl ?_
  refine v_bipush (q := 4) C dX12_upTo_2 rfl (by decide) ?_
  refine v_iloadn (q := 5) C dX12_upTo_4 rfl rfl ?_
  refine u_iadd (q := 6) C dX12_upTo_5 rfl h (fun h => ?_)
  refine u_cVi2 (q := 9) C (c_X12_hasSign h) sy_X12_hasSign si_X12_hasSign ml_X12_211 ob_248 (by decide) so_X12_hasSign ⟨nb rfl, nb rfl⟩ (nb rfl) dX12_upTo_6 rfl (fun r2 μ1 h => ?_)
  refine v_if_ne (q := 12) (tgt := 24) C dX12_upTo_9 rfl rfl h (fun h => ?_) (fun h => ?_)
  · refine v_aloadn (q := 13) C dX12_upTo_12 rfl rfl ?_
    refine v_iloadn (q := 14) C dX12_upTo_13 rfl rfl ?_
    refine v_bipush (q := 16) C dX12_upTo_14 rfl (by decide) ?_
    refine v_iloadn (q := 17) C dX12_upTo_16 rfl rfl ?_
    refine u_iadd (q := 18) C dX12_upTo_17 rfl h (fun h => ?_)
    refine u_cVi2 (q := 21) C (c_X12_hasSign h) sy_X12_hasSign si_X12_hasSign ml_X12_211 ob_248 (by decide) so_X12_hasSign ⟨nb rfl, nb rfl⟩ (nb rfl) dX12_upTo_18 rfl (fun r4 μ3 h => ?_)
    refine v_if_eq (q := 24) (tgt := 28) C dX12_upTo_21 rfl rfl h (fun h => ?_) (fun h => ?_)
    · refine v_iconst (q := 29) C dX12_upTo_28 rfl (by decide) ?_
      exact u_iret hR dX12_upTo_29 h
    · exact v_mask [false, false, false, false] rfl (w_X12_upTo_24  C hR   h)
  · exact v_mask [false, false, false, false] rfl (w_X12_upTo_24  C hR   h)
theorem c_X12_enters {x1 : Int} {x2 : Int} {x3 : Int} {x4 : Int} {x5 : Int} {μ : ZM} {K : ZM → Prop} (h : P_X12_enters  x1 x2 x3 x4 x5 μ K) : zMu yX12_enters cX12_enters 6 none 0 0 [.inr 248, .inl x1, .inl x2, .inl x3, .inl x4, .inl x5] μ (KV K) := by
  refine zMet_of (L0 := [some (.inr 248), some (.inl x1), some (.inl x2), some (.inl x3), some (.inl x4), some (.inl x5)]) sy_X12_enters rfl (nb rfl) (Nat.le_refl _) (fun X C _ _ _ hR => ?_)
  have C : zC X cX12_enters RX12 6 none 0 0 274 := C
  refine v_aloadn (q := 1) C dX12_enters_0 rfl rfl ?_
  refine u_getR (q := 4) C kl12 fl_X12_37 ob_248 pt_248_17 (by decide) rfl rfl dX12_enters_1 rfl ?_
  refine v_aloadn (q := 5) C dX12_enters_4 rfl rfl ?_
  refine u_getI (q := 8) C kl12 fl_X12_177 ob_248 pt_248_22 rfl rfl dX12_enters_5 rfl ?_
  refine v_iloadn (q := 9) C dX12_enters_8 rfl rfl ?_
  refine u_iast (q := 10) C ia_258 dX12_enters_9 rfl h (fun μ1 h => ?_)
  refine v_aloadn (q := 11) C dX12_enters_10 rfl rfl ?_
  refine u_getR (q := 14) C kl12 fl_X12_40 ob_248 pt_248_18 (by decide) rfl rfl dX12_enters_11 rfl ?_
  refine v_aloadn (q := 15) C dX12_enters_14 rfl rfl ?_
  refine u_getI (q := 18) C kl12 fl_X12_177 ob_248 pt_248_22 rfl rfl dX12_enters_15 rfl ?_
  refine v_iloadn (q := 19) C dX12_enters_18 rfl rfl ?_
  refine v_iconst (q := 20) C dX12_enters_19 rfl (by decide) ?_
  refine u_isub (q := 21) C dX12_enters_20 rfl h (fun h => ?_)
  refine u_iast (q := 22) C ia_259 dX12_enters_21 rfl h (fun μ2 h => ?_)
  refine v_aloadn (q := 23) C dX12_enters_22 rfl rfl ?_
  refine u_getR (q := 26) C kl12 fl_X12_43 ob_248 pt_248_19 (by decide) rfl rfl dX12_enters_23 rfl ?_
  refine v_aloadn (q := 27) C dX12_enters_26 rfl rfl ?_
  refine u_getI (q := 30) C kl12 fl_X12_177 ob_248 pt_248_22 rfl rfl dX12_enters_27 rfl ?_
  refine v_iloadn (q := 31) C dX12_enters_30 rfl rfl ?_
  refine u_iast (q := 32) C ia_260 dX12_enters_31 rfl h (fun μ3 h => ?_)
  refine v_aloadn (q := 33) C dX12_enters_32 rfl rfl ?_
  refine u_getR (q := 36) C kl12 fl_X12_46 ob_248 pt_248_20 (by decide) rfl rfl dX12_enters_33 rfl ?_
  refine v_aloadn (q := 37) C dX12_enters_36 rfl rfl ?_
  refine u_getI (q := 40) C kl12 fl_X12_177 ob_248 pt_248_22 rfl rfl dX12_enters_37 rfl ?_
  refine v_iload (q := 42) C dX12_enters_40 rfl rfl ?_
  refine u_iast (q := 43) C ia_261 dX12_enters_42 rfl h (fun μ4 h => ?_)
  refine v_aloadn (q := 44) C dX12_enters_43 rfl rfl ?_
  refine u_getR (q := 47) C kl12 fl_X12_49 ob_248 pt_248_21 (by decide) rfl rfl dX12_enters_44 rfl ?_
  refine v_aloadn (q := 48) C dX12_enters_47 rfl rfl ?_
  refine u_getI (q := 51) C kl12 fl_X12_177 ob_248 pt_248_22 rfl rfl dX12_enters_48 rfl ?_
  refine v_iload (q := 53) C dX12_enters_51 rfl rfl ?_
  refine u_iast (q := 54) C ia_262 dX12_enters_53 rfl h (fun μ5 h => ?_)
  refine v_aloadn (q := 55) C dX12_enters_54 rfl rfl ?_
  refine v_dup (q := 56) C dX12_enters_55 rfl ?_
  refine u_getI (q := 59) C kl12 fl_X12_177 ob_248 pt_248_22 rfl rfl dX12_enters_56 rfl ?_
  refine v_iconst (q := 60) C dX12_enters_59 rfl (by decide) ?_
  refine u_iadd (q := 61) C dX12_enters_60 rfl h (fun h => ?_)
  refine u_put (q := 64) C kl12 fl_X12_177 ob_248 pt_248_22 rfl rfl rfl rfl dX12_enters_61 rfl h (fun μ6 h => ?_)
  exact u_vret hR dX12_enters_64 h
theorem c_X12_signOf {x1 : Int} {x2 : Int} {μ : ZM} {K : Int → ZM → Prop} (h : P_X12_signOf  x1 x2 μ K) : zMu yX12_signOf cX12_signOf 4 (some .int) 1 22 [.inr 248, .inl x1, .inl x2] μ (KI K) := by
  refine zMet_of (L0 := [some (.inr 248), some (.inl x1), some (.inl x2), none]) sy_X12_signOf rfl (nb rfl) (Nat.le_refl _) (fun X C _ hR _ _ => ?_)
  have C : zC X cX12_signOf RX12 4 (some .int) 1 22 274 := C
  refine v_aloadn (q := 1) C dX12_signOf_0 rfl rfl ?_
  refine u_getR (q := 4) C kl12 fl_X12_37 ob_248 pt_248_17 (by decide) rfl rfl dX12_signOf_1 rfl ?_
  refine v_iloadn (q := 5) C dX12_signOf_4 rfl rfl ?_
  refine u_iald (q := 6) C ia_258 dX12_signOf_5 rfl h (fun h => ?_)
  refine v_istoren (q := 7) C dX12_signOf_6 rfl (nb rfl) (L' := [some (.inr 248), some (.inl x1), some (.inl x2), some (.inl (μ 258 x1))]) rfl ?_
  refine v_iloadn (q := 8) C dX12_signOf_7 rfl rfl ?_
  refine v_bipush (q := 10) C dX12_signOf_8 rfl (by decide) ?_
  refine v_icmp_ge (q := 13) (tgt := 22) C dX12_signOf_10 rfl rfl h (fun h => ?_) (fun h => ?_)
  · refine v_aloadn (q := 23) C dX12_signOf_22 rfl rfl ?_
    refine u_getR (q := 26) C kl12 fl_X12_25 ob_248 pt_248_7 (by decide) rfl rfl dX12_signOf_23 rfl ?_
    refine v_bipush (q := 28) C dX12_signOf_26 rfl (by decide) ?_
    refine v_iloadn (q := 29) C dX12_signOf_28 rfl rfl ?_
    refine v_bipush (q := 31) C dX12_signOf_29 rfl (by decide) ?_
    refine u_isub (q := 32) C dX12_signOf_31 rfl h (fun h => ?_)
    refine u_imul (q := 33) C dX12_signOf_32 rfl h (fun h => ?_)
    refine v_iloadn (q := 34) C dX12_signOf_33 rfl rfl ?_
    refine u_iadd (q := 35) C dX12_signOf_34 rfl h (fun h => ?_)
    refine u_iald (q := 36) C ia_254 dX12_signOf_35 rfl h (fun h => ?_)
    exact u_iret hR dX12_signOf_36 h
  · refine v_aloadn (q := 14) C dX12_signOf_13 rfl rfl ?_
    refine v_iloadn (q := 15) C dX12_signOf_14 rfl rfl ?_
    refine v_iloadn (q := 16) C dX12_signOf_15 rfl rfl ?_
    refine u_cVi2 (q := 19) C (c_X12_at h) sy_X12_at si_X12_at ml_X12_92 ob_248 (by decide) so_X12_at ⟨nb rfl, nb rfl⟩ (nb rfl) dX12_signOf_16 rfl (fun r2 μ1 h => ?_)
    refine v_goto (q := 36) C dX12_signOf_19 rfl ?_
    exact u_iret hR dX12_signOf_36 h
theorem c_X12_isVariable {x0 : Int} {μ : ZM} {K : Int → ZM → Prop} (h : P_X12_isVariable  x0 μ K) : zMu yX12_isVariable cX12_isVariable 1 (some .boolean) 1 22 [.inl x0] μ (KI K) := by
  refine zMet_of (L0 := [some (.inl x0)]) sy_X12_isVariable rfl (nb rfl) (Nat.le_refl _) (fun X C _ hR _ _ => ?_)
  have C : zC X cX12_isVariable RX12 1 (some .boolean) 1 22 274 := C
  refine v_iloadn (q := 1) C dX12_isVariable_0 rfl rfl ?_
  refine v_bipush (q := 3) C dX12_isVariable_1 rfl (by decide) ?_
  refine v_bipush (q := 5) C dX12_isVariable_3 rfl (by decide) ?_
  refine u_cSi3 (q := 8) C (c_X12_within h) sy_X12_within ss_X12_within ml_X12_96 ⟨nb rfl, nb rfl⟩ (nb rfl) dX12_isVariable_5 rfl (fun r2 μ1 h => ?_)
  exact u_zret hR dX12_isVariable_8 h
theorem w_X12_calls_48 {X : ZX} (C : zC X cX12_calls RX12 6 (some .boolean) 1 25 274) {K : Int → ZM → Prop} (hR : zRi X cX12_calls (some .boolean) 274 (KN (KI K)))  {x1 : Int} {x2 : Int} {x3 : Int} {x4 : Int} {s0 : Int} {μ : ZM}   (h : P_X12_calls_48   x1 x2 x3 x4 s0 μ K) : zV X 48 [some (.inr 248), some (.inl x1), some (.inl x2), some (.inl x3), some (.inl x4), none] [.inl s0] 274 (z_ov μ) := by
  refine v_istore (q := 50) C dX12_calls_48 rfl (nb rfl) (L' := [some (.inr 248), some (.inl x1), some (.inl x2), some (.inl x3), some (.inl x4), some (.inl s0)]) rfl ?_
  refine v_aloadn (q := 51) C dX12_calls_50 rfl rfl ?_
  refine v_bipush (q := 53) C dX12_calls_51 rfl (by decide) ?_
  refine v_iconst (q := 54) C dX12_calls_53 rfl (by decide) ?_
  refine v_iloadn (q := 55) C dX12_calls_54 rfl rfl ?_
  refine u_imul (q := 56) C dX12_calls_55 rfl h (fun h => ?_)
  refine u_iadd (q := 57) C dX12_calls_56 rfl h (fun h => ?_)
  refine v_iload (q := 59) C dX12_calls_57 rfl rfl ?_
  refine u_iadd (q := 60) C dX12_calls_59 rfl h (fun h => ?_)
  refine v_aloadn (q := 61) C dX12_calls_60 rfl rfl ?_
  refine u_getR (q := 64) C kl12 fl_X12_28 ob_248 pt_248_8 (by decide) rfl rfl dX12_calls_61 rfl ?_
  refine v_iconst (q := 65) C dX12_calls_64 rfl (by decide) ?_
  refine v_iloadn (q := 66) C dX12_calls_65 rfl rfl ?_
  refine u_imul (q := 67) C dX12_calls_66 rfl h (fun h => ?_)
  refine v_iload (q := 69) C dX12_calls_67 rfl rfl ?_
  refine u_iadd (q := 70) C dX12_calls_69 rfl h (fun h => ?_)
  refine u_iald (q := 71) C ia_255 dX12_calls_70 rfl h (fun h => ?_)
  refine v_iloadn (q := 72) C dX12_calls_71 rfl rfl ?_
  refine v_iload (q := 74) C dX12_calls_72 rfl rfl ?_
  refine u_isub (q := 75) C dX12_calls_74 rfl h (fun h => ?_)
  refine v_iloadn (q := 76) C dX12_calls_75 rfl rfl ?_
  refine v_iconst (q := 77) C dX12_calls_76 rfl (by decide) ?_
  refine u_cVv5 (q := 80) C (c_X12_enters h) sy_X12_enters si_X12_enters ml_X12_183 ob_248 (by decide) so_X12_enters ⟨nb rfl, nb rfl⟩ (nb rfl) dX12_calls_77 rfl (fun μ2 h => ?_)
  refine v_iconst (q := 81) C dX12_calls_80 rfl (by decide) ?_
  exact u_zret hR dX12_calls_81 h
theorem c_X12_calls {x1 : Int} {x2 : Int} {x3 : Int} {μ : ZM} {K : Int → ZM → Prop} (h : P_X12_calls  x1 x2 x3 μ K) : zMu yX12_calls cX12_calls 6 (some .boolean) 1 25 [.inr 248, .inl x1, .inl x2, .inl x3] μ (KI K) := by
  refine zMet_of (L0 := [some (.inr 248), some (.inl x1), some (.inl x2), some (.inl x3), none, none]) sy_X12_calls rfl (nb rfl) (Nat.le_refl _) (fun X C _ hR _ _ => ?_)
  have C : zC X cX12_calls RX12 6 (some .boolean) 1 25 274 := C
  refine v_aloadn (q := 1) C dX12_calls_0 rfl rfl ?_
  refine v_dup (q := 2) C dX12_calls_1 rfl ?_
  refine u_getI (q := 5) C kl12 fl_X12_180 ob_248 pt_248_16 rfl rfl dX12_calls_2 rfl ?_
  refine v_iconst (q := 6) C dX12_calls_5 rfl (by decide) ?_
  refine u_iadd (q := 7) C dX12_calls_6 rfl h (fun h => ?_)
  refine u_put (q := 10) C kl12 fl_X12_180 ob_248 pt_248_16 rfl rfl rfl rfl dX12_calls_7 rfl h (fun μ1 h => ?_)
  refine v_aloadn (q := 11) C dX12_calls_10 rfl rfl ?_
  refine u_getI (q := 14) C kl12 fl_X12_180 ob_248 pt_248_16 rfl rfl dX12_calls_11 rfl ?_
  refine v_bipush (q := 16) C dX12_calls_14 rfl (by decide) ?_
  refine v_icmp_le (q := 19) (tgt := 21) C dX12_calls_16 rfl rfl h (fun h => ?_) (fun h => ?_)
  · refine v_aloadn (q := 22) C dX12_calls_21 rfl rfl ?_
    refine u_getR (q := 25) C kl12 fl_X12_22 ob_248 pt_248_6 (by decide) rfl rfl dX12_calls_22 rfl ?_
    refine v_iloadn (q := 26) C dX12_calls_25 rfl rfl ?_
    refine u_iald (q := 27) C ia_253 dX12_calls_26 rfl h (fun h => ?_)
    refine v_istore (q := 29) C dX12_calls_27 rfl (nb rfl) (L' := [some (.inr 248), some (.inl x1), some (.inl x2), some (.inl x3), some (.inl (μ1 253 x1)), none]) rfl ?_
    refine v_iloadn (q := 30) C dX12_calls_29 rfl rfl ?_
    refine v_if_ne (q := 33) (tgt := 37) C dX12_calls_30 rfl rfl h (fun h => ?_) (fun h => ?_)
    · refine v_iconst (q := 34) C dX12_calls_33 rfl (by decide) ?_
      refine v_goto (q := 48) C dX12_calls_34 rfl ?_
      exact (w_X12_calls_48  C hR   h)
    · refine v_iloadn (q := 38) C dX12_calls_37 rfl rfl ?_
      refine v_iload (q := 40) C dX12_calls_38 rfl rfl ?_
      refine v_icmp_lt (q := 43) (tgt := 47) C dX12_calls_40 rfl rfl h (fun h => ?_) (fun h => ?_)
      · refine v_iconst (q := 48) C dX12_calls_47 rfl (by decide) ?_
        exact (w_X12_calls_48  C hR   h)
      · refine v_iconst (q := 44) C dX12_calls_43 rfl (by decide) ?_
        refine v_goto (q := 48) C dX12_calls_44 rfl ?_
        exact (w_X12_calls_48  C hR   h)
  · refine v_iconst (q := 20) C dX12_calls_19 rfl (by decide) ?_
    exact u_zret hR dX12_calls_20 h
theorem w_X12_takesSign_180 {X : ZX} (C : zC X cX12_takesSign RX12 6 (some .boolean) 2 50 274) {K : Int → ZM → Prop} (hR : zRi X cX12_takesSign (some .boolean) 274 (KN (KI K)))  {x3 : Int} {x4 : Int} {s0 : Int} {μ : ZM}   (h : P_X12_takesSign_180   x3 x4 s0 μ K) : zV X 180 [some (.inr 248), none, none, some (.inl x3), some (.inl x4), none] [.inl s0] 274 (z_ov μ) := by
  refine v_istore (q := 182) C dX12_takesSign_180 rfl (nb rfl) (L' := [some (.inr 248), none, none, some (.inl x3), some (.inl x4), some (.inl s0)]) rfl ?_
  refine v_aloadn (q := 183) C dX12_takesSign_182 rfl rfl ?_
  refine v_dup (q := 184) C dX12_takesSign_183 rfl ?_
  refine u_getI (q := 187) C kl12 fl_X12_187 ob_248 pt_248_15 rfl rfl dX12_takesSign_184 rfl ?_
  refine v_aloadn (q := 188) C dX12_takesSign_187 rfl rfl ?_
  refine u_getR (q := 191) C kl12 fl_X12_19 ob_248 pt_248_5 (by decide) rfl rfl dX12_takesSign_188 rfl ?_
  refine v_iloadn (q := 192) C dX12_takesSign_191 rfl rfl ?_
  refine u_iald (q := 193) C ia_252 dX12_takesSign_192 rfl h (fun h => ?_)
  refine u_isub (q := 194) C dX12_takesSign_193 rfl h (fun h => ?_)
  refine u_put (q := 197) C kl12 fl_X12_187 ob_248 pt_248_15 rfl rfl rfl rfl dX12_takesSign_194 rfl h (fun μ6 h => ?_)
  refine v_aloadn (q := 198) C dX12_takesSign_197 rfl rfl ?_
  refine v_iloadn (q := 199) C dX12_takesSign_198 rfl rfl ?_
  refine v_iload (q := 201) C dX12_takesSign_199 rfl rfl ?_
  refine v_iload (q := 203) C dX12_takesSign_201 rfl rfl ?_
  refine u_cVi3 (q := 206) C (c_X12_calls h) sy_X12_calls si_X12_calls ml_X12_190 ob_248 (by decide) so_X12_calls ⟨nb rfl, nb rfl⟩ (nb rfl) dX12_takesSign_203 rfl (fun r8 μ7 h => ?_)
  exact u_zret hR dX12_takesSign_206 h
theorem w_X12_takesSign_123 {X : ZX} (C : zC X cX12_takesSign RX12 6 (some .boolean) 2 50 274) {K : Int → ZM → Prop} (hR : zRi X cX12_takesSign (some .boolean) 274 (KN (KI K)))  {s1 : Int} {s2 : Int} {μ : ZM}   (h : P_X12_takesSign_123   s1 s2 μ K) : zV X 123 [some (.inr 248), none, none, none, none, none] [.inl s2, .inl s1, .inr 257] 274 (z_ov μ) := by
  refine u_iast (q := 124) C ia_257 dX12_takesSign_123 rfl h (fun μ9 h => ?_)
  refine v_aloadn (q := 125) C dX12_takesSign_124 rfl rfl ?_
  refine v_dup (q := 126) C dX12_takesSign_125 rfl ?_
  refine u_getI (q := 129) C kl12 fl_X12_187 ob_248 pt_248_15 rfl rfl dX12_takesSign_126 rfl ?_
  refine v_iconst (q := 130) C dX12_takesSign_129 rfl (by decide) ?_
  refine u_iadd (q := 131) C dX12_takesSign_130 rfl h (fun h => ?_)
  refine u_put (q := 134) C kl12 fl_X12_187 ob_248 pt_248_15 rfl rfl rfl rfl dX12_takesSign_131 rfl h (fun μ10 h => ?_)
  refine v_goto (q := 207) C dX12_takesSign_134 rfl ?_
  refine v_iconst (q := 208) C dX12_takesSign_207 rfl (by decide) ?_
  exact u_zret hR dX12_takesSign_208 h
theorem c_X12_takesSign {x1 : Int} {x2 : Int} {μ : ZM} {K : Int → ZM → Prop} (h : P_X12_takesSign  x1 x2 μ K) : zMu yX12_takesSign cX12_takesSign 6 (some .boolean) 2 50 [.inr 248, .inl x1, .inl x2] μ (KI K) := by
  refine zMet_of (L0 := [some (.inr 248), some (.inl x1), some (.inl x2), none, none, none]) sy_X12_takesSign rfl (nb rfl) (Nat.le_refl _) (fun X C _ hR _ _ => ?_)
  have C : zC X cX12_takesSign RX12 6 (some .boolean) 2 50 274 := C
  refine v_iloadn (q := 1) C dX12_takesSign_0 rfl rfl ?_
  refine v_bipush (q := 3) C dX12_takesSign_1 rfl (by decide) ?_
  refine v_icmp_ne (q := 6) (tgt := 29) C dX12_takesSign_3 rfl rfl h (fun h => ?_) (fun h => ?_)
  · refine v_aloadn (q := 7) C dX12_takesSign_6 rfl rfl ?_
    refine u_getR (q := 10) C kl12 fl_X12_34 ob_248 pt_248_14 (by decide) rfl rfl dX12_takesSign_7 rfl ?_
    refine v_aloadn (q := 11) C dX12_takesSign_10 rfl rfl ?_
    refine u_getI (q := 14) C kl12 fl_X12_187 ob_248 pt_248_15 rfl rfl dX12_takesSign_11 rfl ?_
    refine v_iconst (q := 15) C dX12_takesSign_14 rfl (by decide) ?_
    refine u_iast (q := 16) C ia_257 dX12_takesSign_15 rfl h (fun μ1 h => ?_)
    refine v_aloadn (q := 17) C dX12_takesSign_16 rfl rfl ?_
    refine v_dup (q := 18) C dX12_takesSign_17 rfl ?_
    refine u_getI (q := 21) C kl12 fl_X12_187 ob_248 pt_248_15 rfl rfl dX12_takesSign_18 rfl ?_
    refine v_iconst (q := 22) C dX12_takesSign_21 rfl (by decide) ?_
    refine u_iadd (q := 23) C dX12_takesSign_22 rfl h (fun h => ?_)
    refine u_put (q := 26) C kl12 fl_X12_187 ob_248 pt_248_15 rfl rfl rfl rfl dX12_takesSign_23 rfl h (fun μ2 h => ?_)
    refine v_goto (q := 207) C dX12_takesSign_26 rfl ?_
    refine v_iconst (q := 208) C dX12_takesSign_207 rfl (by decide) ?_
    exact u_zret hR dX12_takesSign_208 h
  · refine v_iloadn (q := 30) C dX12_takesSign_29 rfl rfl ?_
    refine v_bipush (q := 32) C dX12_takesSign_30 rfl (by decide) ?_
    refine v_icmp_ne (q := 35) (tgt := 72) C dX12_takesSign_32 rfl rfl h (fun h => ?_) (fun h => ?_)
    · refine v_aloadn (q := 36) C dX12_takesSign_35 rfl rfl ?_
      refine u_getR (q := 39) C kl12 fl_X12_34 ob_248 pt_248_14 (by decide) rfl rfl dX12_takesSign_36 rfl ?_
      refine v_aloadn (q := 40) C dX12_takesSign_39 rfl rfl ?_
      refine u_getI (q := 43) C kl12 fl_X12_187 ob_248 pt_248_15 rfl rfl dX12_takesSign_40 rfl ?_
      refine v_iconst (q := 44) C dX12_takesSign_43 rfl (by decide) ?_
      refine u_isub (q := 45) C dX12_takesSign_44 rfl h (fun h => ?_)
      refine v_dup2 (q := 46) C dX12_takesSign_45 rfl ?_
      refine u_iald (q := 47) C ia_257 dX12_takesSign_46 rfl h (fun h => ?_)
      refine v_iconst (q := 48) C dX12_takesSign_47 rfl (by decide) ?_
      refine u_iadd (q := 49) C dX12_takesSign_48 rfl h (fun h => ?_)
      refine u_iast (q := 50) C ia_257 dX12_takesSign_49 rfl h (fun μ3 h => ?_)
      refine v_aloadn (q := 51) C dX12_takesSign_50 rfl rfl ?_
      refine u_getR (q := 54) C kl12 fl_X12_34 ob_248 pt_248_14 (by decide) rfl rfl dX12_takesSign_51 rfl ?_
      refine v_aloadn (q := 55) C dX12_takesSign_54 rfl rfl ?_
      refine u_getI (q := 58) C kl12 fl_X12_187 ob_248 pt_248_15 rfl rfl dX12_takesSign_55 rfl ?_
      refine v_iconst (q := 59) C dX12_takesSign_58 rfl (by decide) ?_
      refine u_isub (q := 60) C dX12_takesSign_59 rfl h (fun h => ?_)
      refine u_iald (q := 61) C ia_257 dX12_takesSign_60 rfl h (fun h => ?_)
      refine v_bipush (q := 63) C dX12_takesSign_61 rfl (by decide) ?_
      refine v_icmp_gt (q := 66) (tgt := 70) C dX12_takesSign_63 rfl rfl h (fun h => ?_) (fun h => ?_)
      · refine v_iconst (q := 71) C dX12_takesSign_70 rfl (by decide) ?_
        exact u_zret hR dX12_takesSign_71 h
      · refine v_iconst (q := 67) C dX12_takesSign_66 rfl (by decide) ?_
        refine v_goto (q := 71) C dX12_takesSign_67 rfl ?_
        exact u_zret hR dX12_takesSign_71 h
    · refine v_iloadn (q := 73) C dX12_takesSign_72 rfl rfl ?_
      refine u_cSi1 (q := 76) C (c_X12_isVariable h) sy_X12_isVariable ss_X12_isVariable ml_X12_111 ⟨nb rfl, nb rfl⟩ (nb rfl) dX12_takesSign_73 rfl (fun r5 μ4 h => ?_)
      refine v_if_eq (q := 79) (tgt := 137) C dX12_takesSign_76 rfl rfl h (fun h => ?_) (fun h => ?_)
      · refine v_iloadn (q := 138) C dX12_takesSign_137 rfl rfl ?_
        refine v_bipush (q := 140) C dX12_takesSign_138 rfl (by decide) ?_
        refine u_isub (q := 141) C dX12_takesSign_140 rfl h (fun h => ?_)
        refine v_istoren (q := 142) C dX12_takesSign_141 rfl (nb rfl) (L' := [some (.inr 248), some (.inl x1), some (.inl x2), some (.inl (x2 - 97)), none, none]) rfl ?_
        refine v_aloadn (q := 143) C dX12_takesSign_142 rfl rfl ?_
        refine u_getR (q := 146) C kl12 fl_X12_34 ob_248 pt_248_14 (by decide) rfl rfl dX12_takesSign_143 rfl ?_
        refine v_aloadn (q := 147) C dX12_takesSign_146 rfl rfl ?_
        refine u_getI (q := 150) C kl12 fl_X12_187 ob_248 pt_248_15 rfl rfl dX12_takesSign_147 rfl ?_
        refine v_iconst (q := 151) C dX12_takesSign_150 rfl (by decide) ?_
        refine u_isub (q := 152) C dX12_takesSign_151 rfl h (fun h => ?_)
        refine u_iald (q := 153) C ia_257 dX12_takesSign_152 rfl h (fun h => ?_)
        refine v_istore (q := 155) C dX12_takesSign_153 rfl (nb rfl) (L' := [some (.inr 248), some (.inl x1), some (.inl x2), some (.inl (x2 - 97)), some (.inl (μ4 257 ((μ4 248 15) - 1))), none]) rfl ?_
        refine v_aloadn (q := 156) C dX12_takesSign_155 rfl rfl ?_
        refine u_getR (q := 159) C kl12 fl_X12_19 ob_248 pt_248_5 (by decide) rfl rfl dX12_takesSign_156 rfl ?_
        refine v_iloadn (q := 160) C dX12_takesSign_159 rfl rfl ?_
        refine u_iald (q := 161) C ia_252 dX12_takesSign_160 rfl h (fun h => ?_)
        refine v_iconst (q := 162) C dX12_takesSign_161 rfl (by decide) ?_
        refine v_icmp_ne (q := 165) (tgt := 179) C dX12_takesSign_162 rfl rfl h (fun h => ?_) (fun h => ?_)
        · refine v_aloadn (q := 166) C dX12_takesSign_165 rfl rfl ?_
          refine u_getR (q := 169) C kl12 fl_X12_34 ob_248 pt_248_14 (by decide) rfl rfl dX12_takesSign_166 rfl ?_
          refine v_aloadn (q := 170) C dX12_takesSign_169 rfl rfl ?_
          refine u_getI (q := 173) C kl12 fl_X12_187 ob_248 pt_248_15 rfl rfl dX12_takesSign_170 rfl ?_
          refine v_iconst (q := 174) C dX12_takesSign_173 rfl (by decide) ?_
          refine u_isub (q := 175) C dX12_takesSign_174 rfl h (fun h => ?_)
          refine u_iald (q := 176) C ia_257 dX12_takesSign_175 rfl h (fun h => ?_)
          refine v_goto (q := 180) C dX12_takesSign_176 rfl ?_
          exact v_mask [true, false, false, true, true, false] rfl (w_X12_takesSign_180  C hR   h)
        · refine v_iconst (q := 180) C dX12_takesSign_179 rfl (by decide) ?_
          exact v_mask [true, false, false, true, true, false] rfl (w_X12_takesSign_180  C hR   h)
      · refine v_aloadn (q := 80) C dX12_takesSign_79 rfl rfl ?_
        refine u_getR (q := 83) C kl12 fl_X12_34 ob_248 pt_248_14 (by decide) rfl rfl dX12_takesSign_80 rfl ?_
        refine v_aloadn (q := 84) C dX12_takesSign_83 rfl rfl ?_
        refine u_getI (q := 87) C kl12 fl_X12_187 ob_248 pt_248_15 rfl rfl dX12_takesSign_84 rfl ?_
        refine v_iloadn (q := 88) C dX12_takesSign_87 rfl rfl ?_
        refine v_bipush (q := 90) C dX12_takesSign_88 rfl (by decide) ?_
        refine v_icmp_ne (q := 93) (tgt := 102) C dX12_takesSign_90 rfl rfl h (fun h => ?_) (fun h => ?_)
        · refine v_aloadn (q := 94) C dX12_takesSign_93 rfl rfl ?_
          refine u_getR (q := 97) C kl12 fl_X12_43 ob_248 pt_248_19 (by decide) rfl rfl dX12_takesSign_94 rfl ?_
          refine v_iloadn (q := 98) C dX12_takesSign_97 rfl rfl ?_
          refine u_iald (q := 99) C ia_260 dX12_takesSign_98 rfl h (fun h => ?_)
          refine v_goto (q := 123) C dX12_takesSign_99 rfl ?_
          exact v_mask [true, false, false, false, false, false] rfl (w_X12_takesSign_123  C hR   h)
        · refine v_iloadn (q := 103) C dX12_takesSign_102 rfl rfl ?_
          refine v_bipush (q := 105) C dX12_takesSign_103 rfl (by decide) ?_
          refine v_icmp_ne (q := 108) (tgt := 117) C dX12_takesSign_105 rfl rfl h (fun h => ?_) (fun h => ?_)
          · refine v_aloadn (q := 109) C dX12_takesSign_108 rfl rfl ?_
            refine u_getR (q := 112) C kl12 fl_X12_46 ob_248 pt_248_20 (by decide) rfl rfl dX12_takesSign_109 rfl ?_
            refine v_iloadn (q := 113) C dX12_takesSign_112 rfl rfl ?_
            refine u_iald (q := 114) C ia_261 dX12_takesSign_113 rfl h (fun h => ?_)
            refine v_goto (q := 123) C dX12_takesSign_114 rfl ?_
            exact v_mask [true, false, false, false, false, false] rfl (w_X12_takesSign_123  C hR   h)
          · refine v_aloadn (q := 118) C dX12_takesSign_117 rfl rfl ?_
            refine u_getR (q := 121) C kl12 fl_X12_49 ob_248 pt_248_21 (by decide) rfl rfl dX12_takesSign_118 rfl ?_
            refine v_iloadn (q := 122) C dX12_takesSign_121 rfl rfl ?_
            refine u_iald (q := 123) C ia_262 dX12_takesSign_122 rfl h (fun h => ?_)
            exact v_mask [true, false, false, false, false, false] rfl (w_X12_takesSign_123  C hR   h)
theorem w_X12_works_70 {X : ZX} (C : zC X cX12_works RX12 3 (some .int) 3 75 274) {K : Int → ZM → Prop} (hR : zRi X cX12_works (some .int) 274 (KN (KI K)))   {μ : ZM} {G0 : ZM → Prop} (hG0 : ∀ (μ : ZM), G0 μ → zV X 0 [some (.inr 248), none, none] [] 274 (z_ov μ))  (h : P_X12_works_70  G0  μ K) : zV X 70 [some (.inr 248), none, none] [] 274 (z_ov μ) := by
  refine v_goto (q := 0) C dX12_works_70 rfl ?_
  exact (hG0 _ h)
theorem w_X12_works_0 {X : ZX} (C : zC X cX12_works RX12 3 (some .int) 3 75 274) {K : Int → ZM → Prop} (hR : zRi X cX12_works (some .int) 274 (KN (KI K)))   {μ : ZM}   (h : P_X12_works_0    μ K) : zV X 0 [some (.inr 248), none, none] [] 274 (z_ov μ) := by
  refine h (fun  μ => zV X 0 [some (.inr 248), none, none] [] 274 (z_ov μ)) (fun  μ h => ?_)
  refine v_aloadn (q := 1) C dX12_works_0 rfl rfl ?_
  refine u_getI (q := 4) C kl12 fl_X12_177 ob_248 pt_248_22 rfl rfl dX12_works_1 rfl ?_
  refine v_if_le (q := 7) (tgt := 73) C dX12_works_4 rfl rfl h (fun h => ?_) (fun h => ?_)
  · refine v_aloadn (q := 74) C dX12_works_73 rfl rfl ?_
    refine u_getR (q := 77) C kl12 fl_X12_34 ob_248 pt_248_14 (by decide) rfl rfl dX12_works_74 rfl ?_
    refine v_iconst (q := 78) C dX12_works_77 rfl (by decide) ?_
    refine u_iald (q := 79) C ia_257 dX12_works_78 rfl h (fun h => ?_)
    exact u_iret hR dX12_works_79 h
  · refine v_aloadn (q := 8) C dX12_works_7 rfl rfl ?_
    refine u_getI (q := 11) C kl12 fl_X12_177 ob_248 pt_248_22 rfl rfl dX12_works_8 rfl ?_
    refine v_iconst (q := 12) C dX12_works_11 rfl (by decide) ?_
    refine u_isub (q := 13) C dX12_works_12 rfl h (fun h => ?_)
    refine v_istoren (q := 14) C dX12_works_13 rfl (nb rfl) (L' := [some (.inr 248), some (.inl ((μ 248 22) - 1)), none]) rfl ?_
    refine v_aloadn (q := 15) C dX12_works_14 rfl rfl ?_
    refine u_getR (q := 18) C kl12 fl_X12_40 ob_248 pt_248_18 (by decide) rfl rfl dX12_works_15 rfl ?_
    refine v_iloadn (q := 19) C dX12_works_18 rfl rfl ?_
    refine u_iald (q := 20) C ia_259 dX12_works_19 rfl h (fun h => ?_)
    refine v_if_ge (q := 23) (tgt := 36) C dX12_works_20 rfl rfl h (fun h => ?_) (fun h => ?_)
    · refine v_aloadn (q := 37) C dX12_works_36 rfl rfl ?_
      refine v_iloadn (q := 38) C dX12_works_37 rfl rfl ?_
      refine v_aloadn (q := 39) C dX12_works_38 rfl rfl ?_
      refine u_getR (q := 42) C kl12 fl_X12_40 ob_248 pt_248_18 (by decide) rfl rfl dX12_works_39 rfl ?_
      refine v_iloadn (q := 43) C dX12_works_42 rfl rfl ?_
      refine u_iald (q := 44) C ia_259 dX12_works_43 rfl h (fun h => ?_)
      refine u_cVi2 (q := 47) C (c_X12_signOf h) sy_X12_signOf si_X12_signOf ml_X12_193 ob_248 (by decide) so_X12_signOf ⟨nb rfl, nb rfl⟩ (nb rfl) dX12_works_44 rfl (fun r2 μ1 h => ?_)
      refine v_istoren (q := 48) C dX12_works_47 rfl (nb rfl) (L' := [some (.inr 248), some (.inl ((μ 248 22) - 1)), some (.inl r2)]) rfl ?_
      refine v_aloadn (q := 49) C dX12_works_48 rfl rfl ?_
      refine u_getR (q := 52) C kl12 fl_X12_40 ob_248 pt_248_18 (by decide) rfl rfl dX12_works_49 rfl ?_
      refine v_iloadn (q := 53) C dX12_works_52 rfl rfl ?_
      refine v_dup2 (q := 54) C dX12_works_53 rfl ?_
      refine u_iald (q := 55) C ia_259 dX12_works_54 rfl h (fun h => ?_)
      refine v_iconst (q := 56) C dX12_works_55 rfl (by decide) ?_
      refine u_isub (q := 57) C dX12_works_56 rfl h (fun h => ?_)
      refine u_iast (q := 58) C ia_259 dX12_works_57 rfl h (fun μ3 h => ?_)
      refine v_aloadn (q := 59) C dX12_works_58 rfl rfl ?_
      refine v_iloadn (q := 60) C dX12_works_59 rfl rfl ?_
      refine v_iloadn (q := 61) C dX12_works_60 rfl rfl ?_
      refine u_cVi2 (q := 64) C (c_X12_takesSign h) sy_X12_takesSign si_X12_takesSign ml_X12_196 ob_248 (by decide) so_X12_takesSign ⟨nb rfl, nb rfl⟩ (nb rfl) dX12_works_61 rfl (fun r5 μ4 h => ?_)
      refine v_if_ne (q := 67) (tgt := 70) C dX12_works_64 rfl rfl h (fun h => ?_) (fun h => ?_)
      · refine v_bipush (q := 69) C dX12_works_67 rfl (by decide) ?_
        exact u_iret hR dX12_works_69 h
      · exact v_mask [true, false, false] rfl (w_X12_works_70  C hR (fun _ h => h)  h)
    · refine v_aloadn (q := 24) C dX12_works_23 rfl rfl ?_
      refine v_dup (q := 25) C dX12_works_24 rfl ?_
      refine u_getI (q := 28) C kl12 fl_X12_177 ob_248 pt_248_22 rfl rfl dX12_works_25 rfl ?_
      refine v_iconst (q := 29) C dX12_works_28 rfl (by decide) ?_
      refine u_isub (q := 30) C dX12_works_29 rfl h (fun h => ?_)
      refine u_put (q := 33) C kl12 fl_X12_177 ob_248 pt_248_22 rfl rfl rfl rfl dX12_works_30 rfl h (fun μ6 h => ?_)
      refine v_goto (q := 70) C dX12_works_33 rfl ?_
      exact v_mask [true, false, false] rfl (w_X12_works_70  C hR (fun _ h => h)  h)
theorem c_X12_works  {μ : ZM} {K : Int → ZM → Prop} (h : P_X12_works   μ K) : zMu yX12_works cX12_works 3 (some .int) 3 75 [.inr 248] μ (KI K) := by
  refine zMet_of (L0 := [some (.inr 248), none, none]) sy_X12_works rfl (nb rfl) (Nat.le_refl _) (fun X C _ hR _ _ => ?_)
  have C : zC X cX12_works RX12 3 (some .int) 3 75 274 := C
  exact (w_X12_works_0  C hR   h)
theorem c_X12_valueOf {x1 : Int} {x2 : Int} {x3 : Int} {x4 : Int} {μ : ZM} {K : Int → ZM → Prop} (h : P_X12_valueOf  x1 x2 x3 x4 μ K) : zMu yX12_valueOf cX12_valueOf 5 (some .int) 4 97 [.inr 248, .inl x1, .inl x2, .inl x3, .inl x4] μ (KI K) := by
  refine zMet_of (L0 := [some (.inr 248), some (.inl x1), some (.inl x2), some (.inl x3), some (.inl x4)]) sy_X12_valueOf rfl (nb rfl) (Nat.le_refl _) (fun X C _ hR _ _ => ?_)
  have C : zC X cX12_valueOf RX12 5 (some .int) 4 97 274 := C
  refine v_aloadn (q := 1) C dX12_valueOf_0 rfl rfl ?_
  refine v_iconst (q := 2) C dX12_valueOf_1 rfl (by decide) ?_
  refine u_put (q := 5) C kl12 fl_X12_187 ob_248 pt_248_15 rfl rfl rfl rfl dX12_valueOf_2 rfl h (fun μ1 h => ?_)
  refine v_aloadn (q := 6) C dX12_valueOf_5 rfl rfl ?_
  refine v_iconst (q := 7) C dX12_valueOf_6 rfl (by decide) ?_
  refine u_put (q := 10) C kl12 fl_X12_180 ob_248 pt_248_16 rfl rfl rfl rfl dX12_valueOf_7 rfl h (fun μ2 h => ?_)
  refine v_aloadn (q := 11) C dX12_valueOf_10 rfl rfl ?_
  refine v_iconst (q := 12) C dX12_valueOf_11 rfl (by decide) ?_
  refine u_put (q := 15) C kl12 fl_X12_177 ob_248 pt_248_22 rfl rfl rfl rfl dX12_valueOf_12 rfl h (fun μ3 h => ?_)
  refine v_aloadn (q := 16) C dX12_valueOf_15 rfl rfl ?_
  refine v_iloadn (q := 17) C dX12_valueOf_16 rfl rfl ?_
  refine v_aloadn (q := 18) C dX12_valueOf_17 rfl rfl ?_
  refine u_getR (q := 21) C kl12 fl_X12_13 ob_248 pt_248_1 (by decide) rfl rfl dX12_valueOf_18 rfl ?_
  refine v_iloadn (q := 22) C dX12_valueOf_21 rfl rfl ?_
  refine u_iald (q := 23) C ia_250 dX12_valueOf_22 rfl h (fun h => ?_)
  refine v_iloadn (q := 24) C dX12_valueOf_23 rfl rfl ?_
  refine v_iloadn (q := 25) C dX12_valueOf_24 rfl rfl ?_
  refine v_iload (q := 27) C dX12_valueOf_25 rfl rfl ?_
  refine u_cVv5 (q := 30) C (c_X12_enters h) sy_X12_enters si_X12_enters ml_X12_183 ob_248 (by decide) so_X12_enters ⟨nb rfl, nb rfl⟩ (nb rfl) dX12_valueOf_27 rfl (fun μ4 h => ?_)
  refine v_aloadn (q := 31) C dX12_valueOf_30 rfl rfl ?_
  refine u_cVi0 (q := 34) C (c_X12_works h) sy_X12_works si_X12_works ml_X12_199 ob_248 (by decide) so_X12_works ⟨nb rfl, nb rfl⟩ (nb rfl) dX12_valueOf_31 rfl (fun r6 μ5 h => ?_)
  exact u_iret hR dX12_valueOf_34 h
theorem w_X12_holdsBy_34 {X : ZX} (C : zC X cX12_holdsBy RX12 8 (some .int) 5 121 274) {K : Int → ZM → Prop} (hR : zRi X cX12_holdsBy (some .int) 274 (KN (KI K)))  {x6 : Int} {s0 : Int} {μ : ZM}   (h : P_X12_holdsBy_34   x6 s0 μ K) : zV X 34 [none, none, none, none, none, none, some (.inl x6), none] [.inl s0] 274 (z_ov μ) := by
  refine v_istore (q := 36) C dX12_holdsBy_34 rfl (nb rfl) (L' := [none, none, none, none, none, none, some (.inl x6), some (.inl s0)]) rfl ?_
  refine v_iload (q := 38) C dX12_holdsBy_36 rfl rfl ?_
  refine v_bipush (q := 40) C dX12_holdsBy_38 rfl (by decide) ?_
  refine v_icmp_ne (q := 43) (tgt := 48) C dX12_holdsBy_40 rfl rfl h (fun h => ?_) (fun h => ?_)
  · refine v_bipush (q := 45) C dX12_holdsBy_43 rfl (by decide) ?_
    refine v_goto (q := 60) C dX12_holdsBy_45 rfl ?_
    exact u_iret hR dX12_holdsBy_60 h
  · refine v_iload (q := 50) C dX12_holdsBy_48 rfl rfl ?_
    refine v_iload (q := 52) C dX12_holdsBy_50 rfl rfl ?_
    refine v_icmp_ne (q := 55) (tgt := 59) C dX12_holdsBy_52 rfl rfl h (fun h => ?_) (fun h => ?_)
    · refine v_iconst (q := 56) C dX12_holdsBy_55 rfl (by decide) ?_
      refine v_goto (q := 60) C dX12_holdsBy_56 rfl ?_
      exact u_iret hR dX12_holdsBy_60 h
    · refine v_iconst (q := 60) C dX12_holdsBy_59 rfl (by decide) ?_
      exact u_iret hR dX12_holdsBy_60 h
theorem c_X12_holdsBy {x1 : Int} {x2 : Int} {x3 : Int} {x4 : Int} {x5 : Int} {μ : ZM} {K : Int → ZM → Prop} (h : P_X12_holdsBy  x1 x2 x3 x4 x5 μ K) : zMu yX12_holdsBy cX12_holdsBy 8 (some .int) 5 121 [.inr 248, .inl x1, .inl x2, .inl x3, .inl x4, .inl x5] μ (KI K) := by
  refine zMet_of (L0 := [some (.inr 248), some (.inl x1), some (.inl x2), some (.inl x3), some (.inl x4), some (.inl x5), none, none]) sy_X12_holdsBy rfl (nb rfl) (Nat.le_refl _) (fun X C _ hR _ _ => ?_)
  have C : zC X cX12_holdsBy RX12 8 (some .int) 5 121 274 := C
  refine v_aloadn (q := 1) C dX12_holdsBy_0 rfl rfl ?_
  refine v_iloadn (q := 2) C dX12_holdsBy_1 rfl rfl ?_
  refine v_iloadn (q := 3) C dX12_holdsBy_2 rfl rfl ?_
  refine v_iload (q := 5) C dX12_holdsBy_3 rfl rfl ?_
  refine v_iload (q := 7) C dX12_holdsBy_5 rfl rfl ?_
  refine u_cVi4 (q := 10) C (c_X12_valueOf h) sy_X12_valueOf si_X12_valueOf ml_X12_203 ob_248 (by decide) so_X12_valueOf ⟨nb rfl, nb rfl⟩ (nb rfl) dX12_holdsBy_7 rfl (fun r2 μ1 h => ?_)
  refine v_istore (q := 12) C dX12_holdsBy_10 rfl (nb rfl) (L' := [some (.inr 248), some (.inl x1), some (.inl x2), some (.inl x3), some (.inl x4), some (.inl x5), some (.inl r2), none]) rfl ?_
  refine v_iload (q := 14) C dX12_holdsBy_12 rfl rfl ?_
  refine v_bipush (q := 16) C dX12_holdsBy_14 rfl (by decide) ?_
  refine v_icmp_ne (q := 19) (tgt := 24) C dX12_holdsBy_16 rfl rfl h (fun h => ?_) (fun h => ?_)
  · refine v_bipush (q := 21) C dX12_holdsBy_19 rfl (by decide) ?_
    refine v_goto (q := 34) C dX12_holdsBy_21 rfl ?_
    exact v_mask [false, false, false, false, false, false, true, false] rfl (w_X12_holdsBy_34  C hR   h)
  · refine v_aloadn (q := 25) C dX12_holdsBy_24 rfl rfl ?_
    refine v_iloadn (q := 26) C dX12_holdsBy_25 rfl rfl ?_
    refine v_iloadn (q := 27) C dX12_holdsBy_26 rfl rfl ?_
    refine v_iload (q := 29) C dX12_holdsBy_27 rfl rfl ?_
    refine v_iload (q := 31) C dX12_holdsBy_29 rfl rfl ?_
    refine u_cVi4 (q := 34) C (c_X12_valueOf h) sy_X12_valueOf si_X12_valueOf ml_X12_203 ob_248 (by decide) so_X12_valueOf ⟨nb rfl, nb rfl⟩ (nb rfl) dX12_holdsBy_31 rfl (fun r4 μ3 h => ?_)
    exact v_mask [false, false, false, false, false, false, true, false] rfl (w_X12_holdsBy_34  C hR   h)
