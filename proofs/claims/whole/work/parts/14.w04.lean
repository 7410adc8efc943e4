theorem w_X12_counterexample_31 {X : ZX} (C : zC X cX12_counterexample RX12 6 (some .int) 6 148 274) {K : Int → ZM → Prop} (hR : zRi X cX12_counterexample (some .int) 274 (KN (KI K)))  {x1 : Int} {x2 : Int} {x3 : Int} {x4 : Int} {x5 : Int} {μ : ZM} {G2 : Int → ZM → Prop} (hG2 : ∀ (x3 : Int) (μ : ZM), G2 x3 μ → zV X 2 [some (.inr 248), some (.inl x1), some (.inl x2), some (.inl x3), none, none] [] 274 (z_ov μ)) {G16 : Int → ZM → Prop} (hG16 : ∀ (x4 : Int) (μ : ZM), G16 x4 μ → zV X 16 [some (.inr 248), some (.inl x1), some (.inl x2), some (.inl x3), some (.inl x4), none] [] 274 (z_ov μ))  (h : P_X12_counterexample_31  G2 G16 x1 x2 x3 x4 x5 μ K) : zV X 31 [some (.inr 248), some (.inl x1), some (.inl x2), some (.inl x3), some (.inl x4), some (.inl x5)] [] 274 (z_ov μ) := by
  refine h (fun x5 μ => zV X 31 [some (.inr 248), some (.inl x1), some (.inl x2), some (.inl x3), some (.inl x4), some (.inl x5)] [] 274 (z_ov μ)) (fun x5 μ h => ?_)
  refine v_iload (q := 33) C dX12_counterexample_31 rfl rfl ?_
  refine v_aloadn (q := 34) C dX12_counterexample_33 rfl rfl ?_
  refine v_iloadn (q := 35) C dX12_counterexample_34 rfl rfl ?_
  refine v_iloadn (q := 36) C dX12_counterexample_35 rfl rfl ?_
  refine v_iconst (q := 37) C dX12_counterexample_36 rfl (by decide) ?_
  refine u_cVi3 (q := 40) C (c_X12_upTo h) sy_X12_upTo si_X12_upTo ml_X12_214 ob_248 (by decide) so_X12_upTo ⟨nb rfl, nb rfl⟩ (nb rfl) dX12_counterexample_37 rfl (fun r6 μ5 h => ?_)
  refine v_icmp_gt (q := 43) (tgt := 76) C dX12_counterexample_40 rfl rfl h (fun h => ?_) (fun h => ?_)
  · refine u_iinc (q := 79) C dX12_counterexample_76 rfl (nb rfl) rfl (L' := [some (.inr 248), some (.inl x1), some (.inl x2), some (.inl x3), some (.inl (x4 + 1)), some (.inl x5)]) rfl h (fun h => ?_)
    refine v_goto (q := 16) C dX12_counterexample_79 rfl ?_
    exact v_mask [true, true, true, true, true, false] rfl (hG16 _ _ h)
  · refine v_aloadn (q := 44) C dX12_counterexample_43 rfl rfl ?_
    refine v_iloadn (q := 45) C dX12_counterexample_44 rfl rfl ?_
    refine v_iloadn (q := 46) C dX12_counterexample_45 rfl rfl ?_
    refine v_iloadn (q := 47) C dX12_counterexample_46 rfl rfl ?_
    refine v_iload (q := 49) C dX12_counterexample_47 rfl rfl ?_
    refine v_iload (q := 51) C dX12_counterexample_49 rfl rfl ?_
    refine u_cVi5 (q := 54) C (c_X12_holdsBy h) sy_X12_holdsBy si_X12_holdsBy ml_X12_207 ob_248 (by decide) so_X12_holdsBy ⟨nb rfl, nb rfl⟩ (nb rfl) dX12_counterexample_51 rfl (fun r8 μ7 h => ?_)
    refine v_if_ne (q := 57) (tgt := 70) C dX12_counterexample_54 rfl rfl h (fun h => ?_) (fun h => ?_)
    · refine v_bipush (q := 59) C dX12_counterexample_57 rfl (by decide) ?_
      refine v_iloadn (q := 60) C dX12_counterexample_59 rfl rfl ?_
      refine u_imul (q := 61) C dX12_counterexample_60 rfl h (fun h => ?_)
      refine v_iconst (q := 62) C dX12_counterexample_61 rfl (by decide) ?_
      refine v_iload (q := 64) C dX12_counterexample_62 rfl rfl ?_
      refine u_imul (q := 65) C dX12_counterexample_64 rfl h (fun h => ?_)
      refine u_iadd (q := 66) C dX12_counterexample_65 rfl h (fun h => ?_)
      refine v_iload (q := 68) C dX12_counterexample_66 rfl rfl ?_
      refine u_iadd (q := 69) C dX12_counterexample_68 rfl h (fun h => ?_)
      exact u_iret hR dX12_counterexample_69 h
    · refine u_iinc (q := 73) C dX12_counterexample_70 rfl (nb rfl) rfl (L' := [some (.inr 248), some (.inl x1), some (.inl x2), some (.inl x3), some (.inl x4), some (.inl (x5 + 1))]) rfl h (fun h => ?_)
      refine v_goto (q := 31) C dX12_counterexample_73 rfl ?_
      exact h
theorem w_X12_counterexample_16 {X : ZX} (C : zC X cX12_counterexample RX12 6 (some .int) 6 148 274) {K : Int → ZM → Prop} (hR : zRi X cX12_counterexample (some .int) 274 (KN (KI K)))  {x1 : Int} {x2 : Int} {x3 : Int} {x4 : Int} {μ : ZM} {G2 : Int → ZM → Prop} (hG2 : ∀ (x3 : Int) (μ : ZM), G2 x3 μ → zV X 2 [some (.inr 248), some (.inl x1), some (.inl x2), some (.inl x3), none, none] [] 274 (z_ov μ))  (h : P_X12_counterexample_16  G2 x1 x2 x3 x4 μ K) : zV X 16 [some (.inr 248), some (.inl x1), some (.inl x2), some (.inl x3), some (.inl x4), none] [] 274 (z_ov μ) := by
  refine h (fun x4 μ => zV X 16 [some (.inr 248), some (.inl x1), some (.inl x2), some (.inl x3), some (.inl x4), none] [] 274 (z_ov μ)) (fun x4 μ h => ?_)
  refine v_iload (q := 18) C dX12_counterexample_16 rfl rfl ?_
  refine v_aloadn (q := 19) C dX12_counterexample_18 rfl rfl ?_
  refine v_iloadn (q := 20) C dX12_counterexample_19 rfl rfl ?_
  refine v_iloadn (q := 21) C dX12_counterexample_20 rfl rfl ?_
  refine v_iconst (q := 22) C dX12_counterexample_21 rfl (by decide) ?_
  refine u_cVi3 (q := 25) C (c_X12_upTo h) sy_X12_upTo si_X12_upTo ml_X12_214 ob_248 (by decide) so_X12_upTo ⟨nb rfl, nb rfl⟩ (nb rfl) dX12_counterexample_22 rfl (fun r4 μ3 h => ?_)
  refine v_icmp_gt (q := 28) (tgt := 82) C dX12_counterexample_25 rfl rfl h (fun h => ?_) (fun h => ?_)
  · refine u_iinc (q := 85) C dX12_counterexample_82 rfl (nb rfl) rfl (L' := [some (.inr 248), some (.inl x1), some (.inl x2), some (.inl (x3 + 1)), some (.inl x4), none]) rfl h (fun h => ?_)
    refine v_goto (q := 2) C dX12_counterexample_85 rfl ?_
    exact v_mask [true, true, true, true, false, false] rfl (hG2 _ _ h)
  · refine v_iconst (q := 29) C dX12_counterexample_28 rfl (by decide) ?_
    refine v_istore (q := 31) C dX12_counterexample_29 rfl (nb rfl) (L' := [some (.inr 248), some (.inl x1), some (.inl x2), some (.inl x3), some (.inl x4), some (.inl 0)]) rfl ?_
    exact (w_X12_counterexample_31  C hR hG2 (fun _ _ h => h)  h)
theorem w_X12_counterexample_2 {X : ZX} (C : zC X cX12_counterexample RX12 6 (some .int) 6 148 274) {K : Int → ZM → Prop} (hR : zRi X cX12_counterexample (some .int) 274 (KN (KI K)))  {x1 : Int} {x2 : Int} {x3 : Int} {μ : ZM}   (h : P_X12_counterexample_2   x1 x2 x3 μ K) : zV X 2 [some (.inr 248), some (.inl x1), some (.inl x2), some (.inl x3), none, none] [] 274 (z_ov μ) := by
  refine h (fun x3 μ => zV X 2 [some (.inr 248), some (.inl x1), some (.inl x2), some (.inl x3), none, none] [] 274 (z_ov μ)) (fun x3 μ h => ?_)
  refine v_iloadn (q := 3) C dX12_counterexample_2 rfl rfl ?_
  refine v_aloadn (q := 4) C dX12_counterexample_3 rfl rfl ?_
  refine v_iloadn (q := 5) C dX12_counterexample_4 rfl rfl ?_
  refine v_iloadn (q := 6) C dX12_counterexample_5 rfl rfl ?_
  refine v_iconst (q := 7) C dX12_counterexample_6 rfl (by decide) ?_
  refine u_cVi3 (q := 10) C (c_X12_upTo h) sy_X12_upTo si_X12_upTo ml_X12_214 ob_248 (by decide) so_X12_upTo ⟨nb rfl, nb rfl⟩ (nb rfl) dX12_counterexample_7 rfl (fun r2 μ1 h => ?_)
  refine v_icmp_gt (q := 13) (tgt := 88) C dX12_counterexample_10 rfl rfl h (fun h => ?_) (fun h => ?_)
  · refine v_bipush (q := 90) C dX12_counterexample_88 rfl (by decide) ?_
    exact u_iret hR dX12_counterexample_90 h
  · refine v_iconst (q := 14) C dX12_counterexample_13 rfl (by decide) ?_
    refine v_istore (q := 16) C dX12_counterexample_14 rfl (nb rfl) (L' := [some (.inr 248), some (.inl x1), some (.inl x2), some (.inl x3), some (.inl 0), none]) rfl ?_
    exact (w_X12_counterexample_16  C hR (fun _ _ h => h)  h)
theorem c_X12_counterexample {x1 : Int} {x2 : Int} {μ : ZM} {K : Int → ZM → Prop} (h : P_X12_counterexample  x1 x2 μ K) : zMu yX12_counterexample cX12_counterexample 6 (some .int) 6 148 [.inr 248, .inl x1, .inl x2] μ (KI K) := by
  refine zMet_of (L0 := [some (.inr 248), some (.inl x1), some (.inl x2), none, none, none]) sy_X12_counterexample rfl (nb rfl) (Nat.le_refl _) (fun X C _ hR _ _ => ?_)
  have C : zC X cX12_counterexample RX12 6 (some .int) 6 148 274 := C
  refine v_iconst (q := 1) C dX12_counterexample_0 rfl (by decide) ?_
  refine v_istoren (q := 2) C dX12_counterexample_1 rfl (nb rfl) (L' := [some (.inr 248), some (.inl x1), some (.inl x2), some (.inl 0), none, none]) rfl ?_
  exact (w_X12_counterexample_2  C hR   h)
theorem w_X12_fails_17 {X : ZX} (C : zC X cX12_fails RX12 3 (some .int) 1 22 274) {K : Int → ZM → Prop} (hR : zRi X cX12_fails (some .int) 274 (KN (KI K)))  {x1 : Int} {μ : ZM}   (h : P_X12_fails_17   x1 μ K) : zV X 17 [some (.inr 248), some (.inl x1), none] [] 274 (z_ov μ) := by
  refine v_aloadn (q := 18) C dX12_fails_17 rfl rfl ?_
  refine v_bipush (q := 20) C dX12_fails_18 rfl (by decide) ?_
  refine v_iloadn (q := 21) C dX12_fails_20 rfl rfl ?_
  refine u_cVv2 (q := 24) C (c_X12_notesIt h) sy_X12_notesIt si_X12_notesIt ml_X12_308 ob_248 (by decide) so_X12_notesIt ⟨nb rfl, nb rfl⟩ (nb rfl) dX12_fails_21 rfl (fun μ1 h => ?_)
  refine v_iloadn (q := 25) C dX12_fails_24 rfl rfl ?_
  exact u_iret hR dX12_fails_25 h
theorem c_X12_fails {x1 : Int} {x2 : Int} {μ : ZM} {K : Int → ZM → Prop} (h : P_X12_fails  x1 x2 μ K) : zMu yX12_fails cX12_fails 3 (some .int) 1 22 [.inr 248, .inl x1, .inl x2] μ (KI K) := by
  refine zMet_of (L0 := [some (.inr 248), some (.inl x1), some (.inl x2)]) sy_X12_fails rfl (nb rfl) (Nat.le_refl _) (fun X C _ hR _ _ => ?_)
  have C : zC X cX12_fails RX12 3 (some .int) 1 22 274 := C
  refine v_iloadn (q := 1) C dX12_fails_0 rfl rfl ?_
  refine v_if_eq (q := 4) (tgt := 17) C dX12_fails_1 rfl rfl h (fun h => ?_) (fun h => ?_)
  · exact v_mask [true, true, false] rfl (w_X12_fails_17  C hR   h)
  · refine v_aloadn (q := 5) C dX12_fails_4 rfl rfl ?_
    refine v_aloadn (q := 6) C dX12_fails_5 rfl rfl ?_
    refine u_getI (q := 9) C kl12 fl_X12_334 ob_248 pt_248_46 rfl rfl dX12_fails_6 rfl ?_
    refine u_put (q := 12) C kl12 fl_X12_337 ob_248 pt_248_43 rfl rfl rfl rfl dX12_fails_9 rfl h (fun μ2 h => ?_)
    refine v_aloadn (q := 13) C dX12_fails_12 rfl rfl ?_
    refine v_iloadn (q := 14) C dX12_fails_13 rfl rfl ?_
    refine u_put (q := 17) C kl12 fl_X12_340 ob_248 pt_248_44 rfl rfl rfl rfl dX12_fails_14 rfl h (fun μ3 h => ?_)
    exact v_mask [true, true, false] rfl (w_X12_fails_17  C hR   h)
theorem c_X12_longOf {x1 : Int} {μ : ZM} {K : Int → ZM → Prop} (h : P_X12_longOf  x1 μ K) : zMu yX12_longOf cX12_longOf 2 (some .int) 0 0 [.inr 248, .inl x1] μ (KI K) := by
  refine zMet_of (L0 := [some (.inr 248), some (.inl x1)]) sy_X12_longOf rfl (nb rfl) (Nat.le_refl _) (fun X C _ hR _ _ => ?_)
  have C : zC X cX12_longOf RX12 2 (some .int) 0 0 274 := C
  refine v_aloadn (q := 1) C dX12_longOf_0 rfl rfl ?_
  refine u_getR (q := 4) C kl12 fl_X12_55 ob_248 pt_248_24 (by decide) rfl rfl dX12_longOf_1 rfl ?_
  refine v_iloadn (q := 5) C dX12_longOf_4 rfl rfl ?_
  refine v_iconst (q := 6) C dX12_longOf_5 rfl (by decide) ?_
  refine u_iadd (q := 7) C dX12_longOf_6 rfl h (fun h => ?_)
  refine u_iald (q := 8) C ia_264 dX12_longOf_7 rfl h (fun h => ?_)
  refine v_aloadn (q := 9) C dX12_longOf_8 rfl rfl ?_
  refine u_getR (q := 12) C kl12 fl_X12_55 ob_248 pt_248_24 (by decide) rfl rfl dX12_longOf_9 rfl ?_
  refine v_iloadn (q := 13) C dX12_longOf_12 rfl rfl ?_
  refine u_iald (q := 14) C ia_264 dX12_longOf_13 rfl h (fun h => ?_)
  refine u_isub (q := 15) C dX12_longOf_14 rfl h (fun h => ?_)
  exact u_iret hR dX12_longOf_15 h
theorem w_X12_falls_13 {X : ZX} (C : zC X cX12_falls RX12 4 none 1 21 274) {K : ZM → Prop} (hR : zRv X cX12_falls none 274 (KN (KV K)))  {x1 : Int} {x2 : Int} {x3 : Int} {μ : ZM}   (h : P_X12_falls_13   x1 x2 x3 μ K) : zV X 13 [some (.inr 248), some (.inl x1), some (.inl x2), some (.inl x3)] [] 274 (z_ov μ) := by
  refine h (fun x3 μ => zV X 13 [some (.inr 248), some (.inl x1), some (.inl x2), some (.inl x3)] [] 274 (z_ov μ)) (fun x3 μ h => ?_)
  refine v_iloadn (q := 14) C dX12_falls_13 rfl rfl ?_
  refine v_iloadn (q := 15) C dX12_falls_14 rfl rfl ?_
  refine v_icmp_ge (q := 18) (tgt := 55) C dX12_falls_15 rfl rfl h (fun h => ?_) (fun h => ?_)
  · refine v_aloadn (q := 56) C dX12_falls_55 rfl rfl ?_
    refine u_getR (q := 59) C kl12 fl_X12_55 ob_248 pt_248_24 (by decide) rfl rfl dX12_falls_56 rfl ?_
    refine v_iloadn (q := 60) C dX12_falls_59 rfl rfl ?_
    refine v_iconst (q := 61) C dX12_falls_60 rfl (by decide) ?_
    refine u_iadd (q := 62) C dX12_falls_61 rfl h (fun h => ?_)
    refine v_aloadn (q := 63) C dX12_falls_62 rfl rfl ?_
    refine u_getR (q := 66) C kl12 fl_X12_55 ob_248 pt_248_24 (by decide) rfl rfl dX12_falls_63 rfl ?_
    refine v_iloadn (q := 67) C dX12_falls_66 rfl rfl ?_
    refine u_iald (q := 68) C ia_264 dX12_falls_67 rfl h (fun h => ?_)
    refine v_iloadn (q := 69) C dX12_falls_68 rfl rfl ?_
    refine u_iadd (q := 70) C dX12_falls_69 rfl h (fun h => ?_)
    refine u_iast (q := 71) C ia_264 dX12_falls_70 rfl h (fun μ3 h => ?_)
    refine v_aloadn (q := 72) C dX12_falls_71 rfl rfl ?_
    refine v_iloadn (q := 73) C dX12_falls_72 rfl rfl ?_
    refine v_iconst (q := 74) C dX12_falls_73 rfl (by decide) ?_
    refine u_iadd (q := 75) C dX12_falls_74 rfl h (fun h => ?_)
    refine u_put (q := 78) C kl12 fl_X12_224 ob_248 pt_248_25 rfl rfl rfl rfl dX12_falls_75 rfl h (fun μ4 h => ?_)
    exact u_vret hR dX12_falls_78 h
  · refine v_aloadn (q := 19) C dX12_falls_18 rfl rfl ?_
    refine u_getR (q := 22) C kl12 fl_X12_52 ob_248 pt_248_23 (by decide) rfl rfl dX12_falls_19 rfl ?_
    refine v_aloadn (q := 23) C dX12_falls_22 rfl rfl ?_
    refine u_getR (q := 26) C kl12 fl_X12_55 ob_248 pt_248_24 (by decide) rfl rfl dX12_falls_23 rfl ?_
    refine v_iloadn (q := 27) C dX12_falls_26 rfl rfl ?_
    refine u_iald (q := 28) C ia_264 dX12_falls_27 rfl h (fun h => ?_)
    refine v_iloadn (q := 29) C dX12_falls_28 rfl rfl ?_
    refine u_iadd (q := 30) C dX12_falls_29 rfl h (fun h => ?_)
    refine v_aloadn (q := 31) C dX12_falls_30 rfl rfl ?_
    refine u_getR (q := 34) C kl12 fl_X12_52 ob_248 pt_248_23 (by decide) rfl rfl dX12_falls_31 rfl ?_
    refine v_aloadn (q := 35) C dX12_falls_34 rfl rfl ?_
    refine u_getR (q := 38) C kl12 fl_X12_55 ob_248 pt_248_24 (by decide) rfl rfl dX12_falls_35 rfl ?_
    refine v_aloadn (q := 39) C dX12_falls_38 rfl rfl ?_
    refine u_getI (q := 42) C kl12 fl_X12_224 ob_248 pt_248_25 rfl rfl dX12_falls_39 rfl ?_
    refine v_iconst (q := 43) C dX12_falls_42 rfl (by decide) ?_
    refine u_isub (q := 44) C dX12_falls_43 rfl h (fun h => ?_)
    refine u_iald (q := 45) C ia_264 dX12_falls_44 rfl h (fun h => ?_)
    refine v_iloadn (q := 46) C dX12_falls_45 rfl rfl ?_
    refine u_iadd (q := 47) C dX12_falls_46 rfl h (fun h => ?_)
    refine u_iald (q := 48) C ia_263 dX12_falls_47 rfl h (fun h => ?_)
    refine u_iast (q := 49) C ia_263 dX12_falls_48 rfl h (fun μ5 h => ?_)
    refine u_iinc (q := 52) C dX12_falls_49 rfl (nb rfl) rfl (L' := [some (.inr 248), some (.inl x1), some (.inl x2), some (.inl (x3 + 1))]) rfl h (fun h => ?_)
    refine v_goto (q := 13) C dX12_falls_52 rfl ?_
    exact h
theorem c_X12_falls {x1 : Int} {μ : ZM} {K : ZM → Prop} (h : P_X12_falls  x1 μ K) : zMu yX12_falls cX12_falls 4 none 1 21 [.inr 248, .inl x1] μ (KV K) := by
  refine zMet_of (L0 := [some (.inr 248), some (.inl x1), none, none]) sy_X12_falls rfl (nb rfl) (Nat.le_refl _) (fun X C _ _ _ hR => ?_)
  have C : zC X cX12_falls RX12 4 none 1 21 274 := C
  refine v_aloadn (q := 1) C dX12_falls_0 rfl rfl ?_
  refine v_aloadn (q := 2) C dX12_falls_1 rfl rfl ?_
  refine u_getI (q := 5) C kl12 fl_X12_224 ob_248 pt_248_25 rfl rfl dX12_falls_2 rfl ?_
  refine v_iconst (q := 6) C dX12_falls_5 rfl (by decide) ?_
  refine u_isub (q := 7) C dX12_falls_6 rfl h (fun h => ?_)
  refine u_cVi1 (q := 10) C (c_X12_longOf h) sy_X12_longOf si_X12_longOf ml_X12_221 ob_248 (by decide) so_X12_longOf ⟨nb rfl, nb rfl⟩ (nb rfl) dX12_falls_7 rfl (fun r2 μ1 h => ?_)
  refine v_istoren (q := 11) C dX12_falls_10 rfl (nb rfl) (L' := [some (.inr 248), some (.inl x1), some (.inl r2), none]) rfl ?_
  refine v_iconst (q := 12) C dX12_falls_11 rfl (by decide) ?_
  refine v_istoren (q := 13) C dX12_falls_12 rfl (nb rfl) (L' := [some (.inr 248), some (.inl x1), some (.inl r2), some (.inl 0)]) rfl ?_
  exact (w_X12_falls_13  C hR   h)
theorem w_X12_pushes_11 {X : ZX} (C : zC X cX12_pushes RX12 5 none 1 21 274) {K : ZM → Prop} (hR : zRv X cX12_pushes none 274 (KN (KV K)))  {x1 : Int} {x2 : Int} {x3 : Int} {x4 : Int} {μ : ZM}   (h : P_X12_pushes_11   x1 x2 x3 x4 μ K) : zV X 11 [some (.inr 248), some (.inl x1), some (.inl x2), some (.inl x3), some (.inl x4)] [] 274 (z_ov μ) := by
  refine h (fun x4 μ => zV X 11 [some (.inr 248), some (.inl x1), some (.inl x2), some (.inl x3), some (.inl x4)] [] 274 (z_ov μ)) (fun x4 μ h => ?_)
  refine v_iload (q := 13) C dX12_pushes_11 rfl rfl ?_
  refine v_iloadn (q := 14) C dX12_pushes_13 rfl rfl ?_
  refine v_icmp_ge (q := 17) (tgt := 56) C dX12_pushes_14 rfl rfl h (fun h => ?_) (fun h => ?_)
  · refine v_aloadn (q := 57) C dX12_pushes_56 rfl rfl ?_
    refine u_getR (q := 60) C kl12 fl_X12_55 ob_248 pt_248_24 (by decide) rfl rfl dX12_pushes_57 rfl ?_
    refine v_aloadn (q := 61) C dX12_pushes_60 rfl rfl ?_
    refine u_getI (q := 64) C kl12 fl_X12_224 ob_248 pt_248_25 rfl rfl dX12_pushes_61 rfl ?_
    refine v_iconst (q := 65) C dX12_pushes_64 rfl (by decide) ?_
    refine u_iadd (q := 66) C dX12_pushes_65 rfl h (fun h => ?_)
    refine v_aloadn (q := 67) C dX12_pushes_66 rfl rfl ?_
    refine u_getR (q := 70) C kl12 fl_X12_55 ob_248 pt_248_24 (by decide) rfl rfl dX12_pushes_67 rfl ?_
    refine v_aloadn (q := 71) C dX12_pushes_70 rfl rfl ?_
    refine u_getI (q := 74) C kl12 fl_X12_224 ob_248 pt_248_25 rfl rfl dX12_pushes_71 rfl ?_
    refine u_iald (q := 75) C ia_264 dX12_pushes_74 rfl h (fun h => ?_)
    refine v_iloadn (q := 76) C dX12_pushes_75 rfl rfl ?_
    refine u_iadd (q := 77) C dX12_pushes_76 rfl h (fun h => ?_)
    refine u_iast (q := 78) C ia_264 dX12_pushes_77 rfl h (fun μ3 h => ?_)
    refine v_aloadn (q := 79) C dX12_pushes_78 rfl rfl ?_
    refine v_dup (q := 80) C dX12_pushes_79 rfl ?_
    refine u_getI (q := 83) C kl12 fl_X12_224 ob_248 pt_248_25 rfl rfl dX12_pushes_80 rfl ?_
    refine v_iconst (q := 84) C dX12_pushes_83 rfl (by decide) ?_
    refine u_iadd (q := 85) C dX12_pushes_84 rfl h (fun h => ?_)
    refine u_put (q := 88) C kl12 fl_X12_224 ob_248 pt_248_25 rfl rfl rfl rfl dX12_pushes_85 rfl h (fun μ4 h => ?_)
    exact u_vret hR dX12_pushes_88 h
  · refine v_aloadn (q := 18) C dX12_pushes_17 rfl rfl ?_
    refine u_getR (q := 21) C kl12 fl_X12_52 ob_248 pt_248_23 (by decide) rfl rfl dX12_pushes_18 rfl ?_
    refine v_aloadn (q := 22) C dX12_pushes_21 rfl rfl ?_
    refine u_getR (q := 25) C kl12 fl_X12_55 ob_248 pt_248_24 (by decide) rfl rfl dX12_pushes_22 rfl ?_
    refine v_aloadn (q := 26) C dX12_pushes_25 rfl rfl ?_
    refine u_getI (q := 29) C kl12 fl_X12_224 ob_248 pt_248_25 rfl rfl dX12_pushes_26 rfl ?_
    refine u_iald (q := 30) C ia_264 dX12_pushes_29 rfl h (fun h => ?_)
    refine v_iload (q := 32) C dX12_pushes_30 rfl rfl ?_
    refine u_iadd (q := 33) C dX12_pushes_32 rfl h (fun h => ?_)
    refine v_aloadn (q := 34) C dX12_pushes_33 rfl rfl ?_
    refine u_getR (q := 37) C kl12 fl_X12_52 ob_248 pt_248_23 (by decide) rfl rfl dX12_pushes_34 rfl ?_
    refine v_aloadn (q := 38) C dX12_pushes_37 rfl rfl ?_
    refine u_getR (q := 41) C kl12 fl_X12_55 ob_248 pt_248_24 (by decide) rfl rfl dX12_pushes_38 rfl ?_
    refine v_iloadn (q := 42) C dX12_pushes_41 rfl rfl ?_
    refine u_iald (q := 43) C ia_264 dX12_pushes_42 rfl h (fun h => ?_)
    refine v_iloadn (q := 44) C dX12_pushes_43 rfl rfl ?_
    refine u_iadd (q := 45) C dX12_pushes_44 rfl h (fun h => ?_)
    refine v_iload (q := 47) C dX12_pushes_45 rfl rfl ?_
    refine u_iadd (q := 48) C dX12_pushes_47 rfl h (fun h => ?_)
    refine u_iald (q := 49) C ia_263 dX12_pushes_48 rfl h (fun h => ?_)
    refine u_iast (q := 50) C ia_263 dX12_pushes_49 rfl h (fun μ5 h => ?_)
    refine u_iinc (q := 53) C dX12_pushes_50 rfl (nb rfl) rfl (L' := [some (.inr 248), some (.inl x1), some (.inl x2), some (.inl x3), some (.inl (x4 + 1))]) rfl h (fun h => ?_)
    refine v_goto (q := 11) C dX12_pushes_53 rfl ?_
    exact h
theorem c_X12_pushes {x1 : Int} {x2 : Int} {μ : ZM} {K : ZM → Prop} (h : P_X12_pushes  x1 x2 μ K) : zMu yX12_pushes cX12_pushes 5 none 1 21 [.inr 248, .inl x1, .inl x2] μ (KV K) := by
  refine zMet_of (L0 := [some (.inr 248), some (.inl x1), some (.inl x2), none, none]) sy_X12_pushes rfl (nb rfl) (Nat.le_refl _) (fun X C _ _ _ hR => ?_)
  have C : zC X cX12_pushes RX12 5 none 1 21 274 := C
  refine v_aloadn (q := 1) C dX12_pushes_0 rfl rfl ?_
  refine v_iloadn (q := 2) C dX12_pushes_1 rfl rfl ?_
  refine u_cVi1 (q := 5) C (c_X12_longOf h) sy_X12_longOf si_X12_longOf ml_X12_221 ob_248 (by decide) so_X12_longOf ⟨nb rfl, nb rfl⟩ (nb rfl) dX12_pushes_2 rfl (fun r2 μ1 h => ?_)
  refine v_iloadn (q := 6) C dX12_pushes_5 rfl rfl ?_
  refine u_isub (q := 7) C dX12_pushes_6 rfl h (fun h => ?_)
  refine v_istoren (q := 8) C dX12_pushes_7 rfl (nb rfl) (L' := [some (.inr 248), some (.inl x1), some (.inl x2), some (.inl (r2 - x2)), none]) rfl ?_
  refine v_iconst (q := 9) C dX12_pushes_8 rfl (by decide) ?_
  refine v_istore (q := 11) C dX12_pushes_9 rfl (nb rfl) (L' := [some (.inr 248), some (.inl x1), some (.inl x2), some (.inl (r2 - x2)), some (.inl 0)]) rfl ?_
  exact (w_X12_pushes_11  C hR   h)
theorem c_X12_pushesSign {x1 : Int} {μ : ZM} {K : ZM → Prop} (h : P_X12_pushesSign  x1 μ K) : zMu yX12_pushesSign cX12_pushesSign 2 none 0 0 [.inr 248, .inl x1] μ (KV K) := by
  refine zMet_of (L0 := [some (.inr 248), some (.inl x1)]) sy_X12_pushesSign rfl (nb rfl) (Nat.le_refl _) (fun X C _ _ _ hR => ?_)
  have C : zC X cX12_pushesSign RX12 2 none 0 0 274 := C
  refine v_aloadn (q := 1) C dX12_pushesSign_0 rfl rfl ?_
  refine u_getR (q := 4) C kl12 fl_X12_52 ob_248 pt_248_23 (by decide) rfl rfl dX12_pushesSign_1 rfl ?_
  refine v_aloadn (q := 5) C dX12_pushesSign_4 rfl rfl ?_
  refine u_getR (q := 8) C kl12 fl_X12_55 ob_248 pt_248_24 (by decide) rfl rfl dX12_pushesSign_5 rfl ?_
  refine v_aloadn (q := 9) C dX12_pushesSign_8 rfl rfl ?_
  refine u_getI (q := 12) C kl12 fl_X12_224 ob_248 pt_248_25 rfl rfl dX12_pushesSign_9 rfl ?_
  refine u_iald (q := 13) C ia_264 dX12_pushesSign_12 rfl h (fun h => ?_)
  refine v_iloadn (q := 14) C dX12_pushesSign_13 rfl rfl ?_
  refine u_iast (q := 15) C ia_263 dX12_pushesSign_14 rfl h (fun μ1 h => ?_)
  refine v_aloadn (q := 16) C dX12_pushesSign_15 rfl rfl ?_
  refine u_getR (q := 19) C kl12 fl_X12_55 ob_248 pt_248_24 (by decide) rfl rfl dX12_pushesSign_16 rfl ?_
  refine v_aloadn (q := 20) C dX12_pushesSign_19 rfl rfl ?_
  refine u_getI (q := 23) C kl12 fl_X12_224 ob_248 pt_248_25 rfl rfl dX12_pushesSign_20 rfl ?_
  refine v_iconst (q := 24) C dX12_pushesSign_23 rfl (by decide) ?_
  refine u_iadd (q := 25) C dX12_pushesSign_24 rfl h (fun h => ?_)
  refine v_aloadn (q := 26) C dX12_pushesSign_25 rfl rfl ?_
  refine u_getR (q := 29) C kl12 fl_X12_55 ob_248 pt_248_24 (by decide) rfl rfl dX12_pushesSign_26 rfl ?_
  refine v_aloadn (q := 30) C dX12_pushesSign_29 rfl rfl ?_
  refine u_getI (q := 33) C kl12 fl_X12_224 ob_248 pt_248_25 rfl rfl dX12_pushesSign_30 rfl ?_
  refine u_iald (q := 34) C ia_264 dX12_pushesSign_33 rfl h (fun h => ?_)
  refine v_iconst (q := 35) C dX12_pushesSign_34 rfl (by decide) ?_
  refine u_iadd (q := 36) C dX12_pushesSign_35 rfl h (fun h => ?_)
  refine u_iast (q := 37) C ia_264 dX12_pushesSign_36 rfl h (fun μ2 h => ?_)
  refine v_aloadn (q := 38) C dX12_pushesSign_37 rfl rfl ?_
  refine v_dup (q := 39) C dX12_pushesSign_38 rfl ?_
  refine u_getI (q := 42) C kl12 fl_X12_224 ob_248 pt_248_25 rfl rfl dX12_pushesSign_39 rfl ?_
  refine v_iconst (q := 43) C dX12_pushesSign_42 rfl (by decide) ?_
  refine u_iadd (q := 44) C dX12_pushesSign_43 rfl h (fun h => ?_)
  refine u_put (q := 47) C kl12 fl_X12_224 ob_248 pt_248_25 rfl rfl rfl rfl dX12_pushesSign_44 rfl h (fun μ3 h => ?_)
  exact u_vret hR dX12_pushesSign_47 h
theorem w_X12_joins_47 {X : ZX} (C : zC X cX12_joins RX12 9 (some .boolean) 2 44 274) {K : Int → ZM → Prop} (hR : zRi X cX12_joins (some .boolean) 274 (KN (KI K)))  {x3 : Int} {x4 : Int} {x5 : Int} {x6 : Int} {x7 : Int} {x8 : Int} {μ : ZM} {G23 : Int → ZM → Prop} (hG23 : ∀ (x5 : Int) (μ : ZM), G23 x5 μ → zV X 23 [some (.inr 248), none, none, some (.inl x3), some (.inl x4), some (.inl x5), none, none, none] [] 274 (z_ov μ))  (h : P_X12_joins_47  G23 x3 x4 x5 x6 x7 x8 μ K) : zV X 47 [some (.inr 248), none, none, some (.inl x3), some (.inl x4), some (.inl x5), some (.inl x6), some (.inl x7), some (.inl x8)] [] 274 (z_ov μ) := by
  refine h (fun x8 μ => zV X 47 [some (.inr 248), none, none, some (.inl x3), some (.inl x4), some (.inl x5), some (.inl x6), some (.inl x7), some (.inl x8)] [] 274 (z_ov μ)) (fun x8 μ h => ?_)
  refine v_iload (q := 49) C dX12_joins_47 rfl rfl ?_
  refine v_iload (q := 51) C dX12_joins_49 rfl rfl ?_
  refine v_icmp_ge (q := 54) (tgt := 92) C dX12_joins_51 rfl rfl h (fun h => ?_) (fun h => ?_)
  · refine v_aloadn (q := 93) C dX12_joins_92 rfl rfl ?_
    refine u_getR (q := 96) C kl12 fl_X12_55 ob_248 pt_248_24 (by decide) rfl rfl dX12_joins_93 rfl ?_
    refine v_aloadn (q := 97) C dX12_joins_96 rfl rfl ?_
    refine u_getI (q := 100) C kl12 fl_X12_224 ob_248 pt_248_25 rfl rfl dX12_joins_97 rfl ?_
    refine v_dup2 (q := 101) C dX12_joins_100 rfl ?_
    refine u_iald (q := 102) C ia_264 dX12_joins_101 rfl h (fun h => ?_)
    refine v_iload (q := 104) C dX12_joins_102 rfl rfl ?_
    refine u_iadd (q := 105) C dX12_joins_104 rfl h (fun h => ?_)
    refine u_iast (q := 106) C ia_264 dX12_joins_105 rfl h (fun μ8 h => ?_)
    refine u_iinc (q := 109) C dX12_joins_106 rfl (nb rfl) rfl (L' := [some (.inr 248), none, none, some (.inl x3), some (.inl x4), some (.inl (x5 + (-1))), some (.inl x6), some (.inl x7), some (.inl x8)]) rfl h (fun h => ?_)
    refine v_goto (q := 23) C dX12_joins_109 rfl ?_
    exact v_mask [true, false, false, true, true, true, false, false, false] rfl (hG23 _ _ h)
  · refine v_aloadn (q := 55) C dX12_joins_54 rfl rfl ?_
    refine u_getR (q := 58) C kl12 fl_X12_52 ob_248 pt_248_23 (by decide) rfl rfl dX12_joins_55 rfl ?_
    refine v_aloadn (q := 59) C dX12_joins_58 rfl rfl ?_
    refine u_getR (q := 62) C kl12 fl_X12_55 ob_248 pt_248_24 (by decide) rfl rfl dX12_joins_59 rfl ?_
    refine v_aloadn (q := 63) C dX12_joins_62 rfl rfl ?_
    refine u_getI (q := 66) C kl12 fl_X12_224 ob_248 pt_248_25 rfl rfl dX12_joins_63 rfl ?_
    refine u_iald (q := 67) C ia_264 dX12_joins_66 rfl h (fun h => ?_)
    refine v_iload (q := 69) C dX12_joins_67 rfl rfl ?_
    refine u_iadd (q := 70) C dX12_joins_69 rfl h (fun h => ?_)
    refine v_aloadn (q := 71) C dX12_joins_70 rfl rfl ?_
    refine u_getR (q := 74) C kl12 fl_X12_52 ob_248 pt_248_23 (by decide) rfl rfl dX12_joins_71 rfl ?_
    refine v_aloadn (q := 75) C dX12_joins_74 rfl rfl ?_
    refine u_getR (q := 78) C kl12 fl_X12_55 ob_248 pt_248_24 (by decide) rfl rfl dX12_joins_75 rfl ?_
    refine v_iload (q := 80) C dX12_joins_78 rfl rfl ?_
    refine u_iald (q := 81) C ia_264 dX12_joins_80 rfl h (fun h => ?_)
    refine v_iload (q := 83) C dX12_joins_81 rfl rfl ?_
    refine u_iadd (q := 84) C dX12_joins_83 rfl h (fun h => ?_)
    refine u_iald (q := 85) C ia_263 dX12_joins_84 rfl h (fun h => ?_)
    refine u_iast (q := 86) C ia_263 dX12_joins_85 rfl h (fun μ9 h => ?_)
    refine u_iinc (q := 89) C dX12_joins_86 rfl (nb rfl) rfl (L' := [some (.inr 248), none, none, some (.inl x3), some (.inl x4), some (.inl x5), some (.inl x6), some (.inl x7), some (.inl (x8 + 1))]) rfl h (fun h => ?_)
    refine v_goto (q := 47) C dX12_joins_89 rfl ?_
    exact h
theorem w_X12_joins_23 {X : ZX} (C : zC X cX12_joins RX12 9 (some .boolean) 2 44 274) {K : Int → ZM → Prop} (hR : zRi X cX12_joins (some .boolean) 274 (KN (KI K)))  {x3 : Int} {x4 : Int} {x5 : Int} {μ : ZM}   (h : P_X12_joins_23   x3 x4 x5 μ K) : zV X 23 [some (.inr 248), none, none, some (.inl x3), some (.inl x4), some (.inl x5), none, none, none] [] 274 (z_ov μ) := by
  refine h (fun x5 μ => zV X 23 [some (.inr 248), none, none, some (.inl x3), some (.inl x4), some (.inl x5), none, none, none] [] 274 (z_ov μ)) (fun x5 μ h => ?_)
  refine v_iload (q := 25) C dX12_joins_23 rfl rfl ?_
  refine v_if_le (q := 28) (tgt := 112) C dX12_joins_25 rfl rfl h (fun h => ?_) (fun h => ?_)
  · refine v_aloadn (q := 113) C dX12_joins_112 rfl rfl ?_
    refine v_iload (q := 115) C dX12_joins_113 rfl rfl ?_
    refine v_iconst (q := 116) C dX12_joins_115 rfl (by decide) ?_
    refine u_iadd (q := 117) C dX12_joins_116 rfl h (fun h => ?_)
    refine u_put (q := 120) C kl12 fl_X12_224 ob_248 pt_248_25 rfl rfl rfl rfl dX12_joins_117 rfl h (fun μ2 h => ?_)
    refine v_aloadn (q := 121) C dX12_joins_120 rfl rfl ?_
    refine v_iload (q := 123) C dX12_joins_121 rfl rfl ?_
    refine u_cVi1 (q := 126) C (c_X12_longOf h) sy_X12_longOf si_X12_longOf ml_X12_221 ob_248 (by decide) so_X12_longOf ⟨nb rfl, nb rfl⟩ (nb rfl) dX12_joins_123 rfl (fun r4 μ3 h => ?_)
    refine v_bipush (q := 128) C dX12_joins_126 rfl (by decide) ?_
    refine v_icmp_le (q := 131) (tgt := 133) C dX12_joins_128 rfl rfl h (fun h => ?_) (fun h => ?_)
    · refine v_aloadn (q := 134) C dX12_joins_133 rfl rfl ?_
      refine v_iloadn (q := 135) C dX12_joins_134 rfl rfl ?_
      refine u_cVv1 (q := 138) C (c_X12_falls h) sy_X12_falls si_X12_falls ml_X12_230 ob_248 (by decide) so_X12_falls ⟨nb rfl, nb rfl⟩ (nb rfl) dX12_joins_135 rfl (fun μ5 h => ?_)
      refine v_iconst (q := 139) C dX12_joins_138 rfl (by decide) ?_
      exact u_zret hR dX12_joins_139 h
    · refine v_iconst (q := 132) C dX12_joins_131 rfl (by decide) ?_
      exact u_zret hR dX12_joins_132 h
  · refine v_iloadn (q := 29) C dX12_joins_28 rfl rfl ?_
    refine v_iload (q := 31) C dX12_joins_29 rfl rfl ?_
    refine u_iadd (q := 32) C dX12_joins_31 rfl h (fun h => ?_)
    refine v_iconst (q := 33) C dX12_joins_32 rfl (by decide) ?_
    refine u_isub (q := 34) C dX12_joins_33 rfl h (fun h => ?_)
    refine v_istore (q := 36) C dX12_joins_34 rfl (nb rfl) (L' := [some (.inr 248), none, none, some (.inl x3), some (.inl x4), some (.inl x5), some (.inl ((x3 + x5) - 1)), none, none]) rfl ?_
    refine v_aloadn (q := 37) C dX12_joins_36 rfl rfl ?_
    refine v_iload (q := 39) C dX12_joins_37 rfl rfl ?_
    refine u_cVi1 (q := 42) C (c_X12_longOf h) sy_X12_longOf si_X12_longOf ml_X12_221 ob_248 (by decide) so_X12_longOf ⟨nb rfl, nb rfl⟩ (nb rfl) dX12_joins_39 rfl (fun r7 μ6 h => ?_)
    refine v_istore (q := 44) C dX12_joins_42 rfl (nb rfl) (L' := [some (.inr 248), none, none, some (.inl x3), some (.inl x4), some (.inl x5), some (.inl ((x3 + x5) - 1)), some (.inl r7), none]) rfl ?_
    refine v_iconst (q := 45) C dX12_joins_44 rfl (by decide) ?_
    refine v_istore (q := 47) C dX12_joins_45 rfl (nb rfl) (L' := [some (.inr 248), none, none, some (.inl x3), some (.inl x4), some (.inl x5), some (.inl ((x3 + x5) - 1)), some (.inl r7), some (.inl 0)]) rfl ?_
    exact (w_X12_joins_47  C hR (fun _ _ h => h)  h)
theorem c_X12_joins {x1 : Int} {x2 : Int} {μ : ZM} {K : Int → ZM → Prop} (h : P_X12_joins  x1 x2 μ K) : zMu yX12_joins cX12_joins 9 (some .boolean) 2 44 [.inr 248, .inl x1, .inl x2] μ (KI K) := by
  refine zMet_of (L0 := [some (.inr 248), some (.inl x1), some (.inl x2), none, none, none, none, none, none]) sy_X12_joins rfl (nb rfl) (Nat.le_refl _) (fun X C _ hR _ _ => ?_)
  have C : zC X cX12_joins RX12 9 (some .boolean) 2 44 274 := C
  refine v_aloadn (q := 1) C dX12_joins_0 rfl rfl ?_
  refine u_getI (q := 4) C kl12 fl_X12_224 ob_248 pt_248_25 rfl rfl dX12_joins_1 rfl ?_
  refine v_iloadn (q := 5) C dX12_joins_4 rfl rfl ?_
  refine u_isub (q := 6) C dX12_joins_5 rfl h (fun h => ?_)
  refine v_istoren (q := 7) C dX12_joins_6 rfl (nb rfl) (L' := [some (.inr 248), some (.inl x1), some (.inl x2), some (.inl ((μ 248 25) - x2)), none, none, none, none, none]) rfl ?_
  refine v_aloadn (q := 8) C dX12_joins_7 rfl rfl ?_
  refine v_iloadn (q := 9) C dX12_joins_8 rfl rfl ?_
  refine u_cVv1 (q := 12) C (c_X12_pushesSign h) sy_X12_pushesSign si_X12_pushesSign ml_X12_227 ob_248 (by decide) so_X12_pushesSign ⟨nb rfl, nb rfl⟩ (nb rfl) dX12_joins_9 rfl (fun μ1 h => ?_)
  refine v_aloadn (q := 13) C dX12_joins_12 rfl rfl ?_
  refine u_getI (q := 16) C kl12 fl_X12_224 ob_248 pt_248_25 rfl rfl dX12_joins_13 rfl ?_
  refine v_iconst (q := 17) C dX12_joins_16 rfl (by decide) ?_
  refine u_isub (q := 18) C dX12_joins_17 rfl h (fun h => ?_)
  refine v_istore (q := 20) C dX12_joins_18 rfl (nb rfl) (L' := [some (.inr 248), some (.inl x1), some (.inl x2), some (.inl ((μ 248 25) - x2)), some (.inl ((μ1 248 25) - 1)), none, none, none, none]) rfl ?_
  refine v_iloadn (q := 21) C dX12_joins_20 rfl rfl ?_
  refine v_istore (q := 23) C dX12_joins_21 rfl (nb rfl) (L' := [some (.inr 248), some (.inl x1), some (.inl x2), some (.inl ((μ 248 25) - x2)), some (.inl ((μ1 248 25) - 1)), some (.inl x2), none, none, none]) rfl ?_
  exact v_mask [true, false, false, true, true, true, false, false, false] rfl (w_X12_joins_23  C hR   h)
theorem c_X12_bodyFor {x1 : Int} {μ : ZM} {K : Int → ZM → Prop} (h : P_X12_bodyFor  x1 μ K) : zMu yX12_bodyFor cX12_bodyFor 4 (some .int) 0 0 [.inr 248, .inl x1] μ (KI K) := by
  refine zMet_of (L0 := [some (.inr 248), some (.inl x1), none, none]) sy_X12_bodyFor rfl (nb rfl) (Nat.le_refl _) (fun X C _ hR _ _ => ?_)
  have C : zC X cX12_bodyFor RX12 4 (some .int) 0 0 274 := C
  refine v_aloadn (q := 1) C dX12_bodyFor_0 rfl rfl ?_
  refine u_getR (q := 4) C kl12 fl_X12_52 ob_248 pt_248_23 (by decide) rfl rfl dX12_bodyFor_1 rfl ?_
  refine v_aloadn (q := 5) C dX12_bodyFor_4 rfl rfl ?_
  refine u_getR (q := 8) C kl12 fl_X12_55 ob_248 pt_248_24 (by decide) rfl rfl dX12_bodyFor_5 rfl ?_
  refine v_aloadn (q := 9) C dX12_bodyFor_8 rfl rfl ?_
  refine u_getI (q := 12) C kl12 fl_X12_224 ob_248 pt_248_25 rfl rfl dX12_bodyFor_9 rfl ?_
  refine v_iconst (q := 13) C dX12_bodyFor_12 rfl (by decide) ?_
  refine u_isub (q := 14) C dX12_bodyFor_13 rfl h (fun h => ?_)
  refine u_iald (q := 15) C ia_264 dX12_bodyFor_14 rfl h (fun h => ?_)
  refine u_iald (q := 16) C ia_263 dX12_bodyFor_15 rfl h (fun h => ?_)
  refine v_istoren (q := 17) C dX12_bodyFor_16 rfl (nb rfl) (L' := [some (.inr 248), some (.inl x1), some (.inl (μ 263 (μ 264 ((μ 248 25) - 1)))), none]) rfl ?_
  refine v_iloadn (q := 18) C dX12_bodyFor_17 rfl rfl ?_
  refine v_bipush (q := 20) C dX12_bodyFor_18 rfl (by decide) ?_
  refine v_icmp_ne (q := 23) (tgt := 25) C dX12_bodyFor_20 rfl rfl h (fun h => ?_) (fun h => ?_)
  · refine v_iconst (q := 24) C dX12_bodyFor_23 rfl (by decide) ?_
    exact u_iret hR dX12_bodyFor_24 h
  · refine v_iloadn (q := 26) C dX12_bodyFor_25 rfl rfl ?_
    refine v_bipush (q := 28) C dX12_bodyFor_26 rfl (by decide) ?_
    refine v_icmp_eq (q := 31) (tgt := 34) C dX12_bodyFor_28 rfl rfl h (fun h => ?_) (fun h => ?_)
    · refine v_aloadn (q := 35) C dX12_bodyFor_34 rfl rfl ?_
      refine u_getR (q := 38) C kl12 fl_X12_52 ob_248 pt_248_23 (by decide) rfl rfl dX12_bodyFor_35 rfl ?_
      refine v_aloadn (q := 39) C dX12_bodyFor_38 rfl rfl ?_
      refine u_getR (q := 42) C kl12 fl_X12_55 ob_248 pt_248_24 (by decide) rfl rfl dX12_bodyFor_39 rfl ?_
      refine v_aloadn (q := 43) C dX12_bodyFor_42 rfl rfl ?_
      refine u_getI (q := 46) C kl12 fl_X12_224 ob_248 pt_248_25 rfl rfl dX12_bodyFor_43 rfl ?_
      refine v_iconst (q := 47) C dX12_bodyFor_46 rfl (by decide) ?_
      refine u_isub (q := 48) C dX12_bodyFor_47 rfl h (fun h => ?_)
      refine u_iald (q := 49) C ia_264 dX12_bodyFor_48 rfl h (fun h => ?_)
      refine v_iconst (q := 50) C dX12_bodyFor_49 rfl (by decide) ?_
      refine u_iadd (q := 51) C dX12_bodyFor_50 rfl h (fun h => ?_)
      refine u_iald (q := 52) C ia_263 dX12_bodyFor_51 rfl h (fun h => ?_)
      refine v_istoren (q := 53) C dX12_bodyFor_52 rfl (nb rfl) (L' := [some (.inr 248), some (.inl x1), some (.inl (μ 263 (μ 264 ((μ 248 25) - 1)))), some (.inl (μ 263 ((μ 264 ((μ 248 25) - 1)) + 1)))]) rfl ?_
      refine v_aloadn (q := 54) C dX12_bodyFor_53 rfl rfl ?_
      refine u_getR (q := 57) C kl12 fl_X12_22 ob_248 pt_248_6 (by decide) rfl rfl dX12_bodyFor_54 rfl ?_
      refine v_iloadn (q := 58) C dX12_bodyFor_57 rfl rfl ?_
      refine u_iald (q := 59) C ia_253 dX12_bodyFor_58 rfl h (fun h => ?_)
      refine v_iconst (q := 60) C dX12_bodyFor_59 rfl (by decide) ?_
      refine v_icmp_ne (q := 63) (tgt := 67) C dX12_bodyFor_60 rfl rfl h (fun h => ?_) (fun h => ?_)
      · refine v_iconst (q := 64) C dX12_bodyFor_63 rfl (by decide) ?_
        refine v_goto (q := 89) C dX12_bodyFor_64 rfl ?_
        exact u_iret hR dX12_bodyFor_89 h
      · refine v_iloadn (q := 68) C dX12_bodyFor_67 rfl rfl ?_
        refine v_bipush (q := 70) C dX12_bodyFor_68 rfl (by decide) ?_
        refine v_icmp_ne (q := 73) (tgt := 77) C dX12_bodyFor_70 rfl rfl h (fun h => ?_) (fun h => ?_)
        · refine v_iconst (q := 74) C dX12_bodyFor_73 rfl (by decide) ?_
          refine v_goto (q := 89) C dX12_bodyFor_74 rfl ?_
          exact u_iret hR dX12_bodyFor_89 h
        · refine v_iloadn (q := 78) C dX12_bodyFor_77 rfl rfl ?_
          refine v_bipush (q := 80) C dX12_bodyFor_78 rfl (by decide) ?_
          refine v_icmp_ne (q := 83) (tgt := 87) C dX12_bodyFor_80 rfl rfl h (fun h => ?_) (fun h => ?_)
          · refine v_iconst (q := 84) C dX12_bodyFor_83 rfl (by decide) ?_
            refine v_goto (q := 89) C dX12_bodyFor_84 rfl ?_
            exact u_iret hR dX12_bodyFor_89 h
          · refine v_bipush (q := 89) C dX12_bodyFor_87 rfl (by decide) ?_
            exact u_iret hR dX12_bodyFor_89 h
    · refine v_bipush (q := 33) C dX12_bodyFor_31 rfl (by decide) ?_
      exact u_iret hR dX12_bodyFor_33 h
theorem w_X12_normalizes_67 {X : ZX} (C : zC X cX12_normalizes RX12 5 (some .boolean) 3 72 274) {K : Int → ZM → Prop} (hR : zRi X cX12_normalizes (some .boolean) 274 (KN (KI K)))  {x2 : Int} {μ : ZM}   (h : P_X12_normalizes_67   x2 μ K) : zV X 67 [some (.inr 248), none, some (.inl x2), none, none] [] 274 (z_ov μ) := by
  refine v_aloadn (q := 68) C dX12_normalizes_67 rfl rfl ?_
  refine v_iloadn (q := 69) C dX12_normalizes_68 rfl rfl ?_
  refine u_cVv1 (q := 72) C (c_X12_pushesSign h) sy_X12_pushesSign si_X12_pushesSign ml_X12_227 ob_248 (by decide) so_X12_pushesSign ⟨nb rfl, nb rfl⟩ (nb rfl) dX12_normalizes_69 rfl (fun μ3 h => ?_)
  refine v_iconst (q := 73) C dX12_normalizes_72 rfl (by decide) ?_
  exact u_zret hR dX12_normalizes_73 h
theorem w_X12_normalizes_54 {X : ZX} (C : zC X cX12_normalizes RX12 5 (some .boolean) 3 72 274) {K : Int → ZM → Prop} (hR : zRi X cX12_normalizes (some .boolean) 274 (KN (KI K)))  {x2 : Int} {μ : ZM}   (h : P_X12_normalizes_54   x2 μ K) : zV X 54 [some (.inr 248), none, some (.inl x2), none, none] [] 274 (z_ov μ) := by
  refine v_iloadn (q := 55) C dX12_normalizes_54 rfl rfl ?_
  refine v_bipush (q := 57) C dX12_normalizes_55 rfl (by decide) ?_
  refine v_icmp_eq (q := 60) (tgt := 67) C dX12_normalizes_57 rfl rfl h (fun h => ?_) (fun h => ?_)
  · exact (w_X12_normalizes_67  C hR   h)
  · refine v_iloadn (q := 61) C dX12_normalizes_60 rfl rfl ?_
    refine u_cSi1 (q := 64) C (c_X12_isVariable h) sy_X12_isVariable ss_X12_isVariable ml_X12_111 ⟨nb rfl, nb rfl⟩ (nb rfl) dX12_normalizes_61 rfl (fun r5 μ4 h => ?_)
    refine v_if_eq (q := 67) (tgt := 74) C dX12_normalizes_64 rfl rfl h (fun h => ?_) (fun h => ?_)
    · refine v_iloadn (q := 75) C dX12_normalizes_74 rfl rfl ?_
      refine v_bipush (q := 77) C dX12_normalizes_75 rfl (by decide) ?_
      refine v_icmp_ne (q := 80) (tgt := 87) C dX12_normalizes_77 rfl rfl h (fun h => ?_) (fun h => ?_)
      · refine v_aloadn (q := 81) C dX12_normalizes_80 rfl rfl ?_
        refine v_iloadn (q := 82) C dX12_normalizes_81 rfl rfl ?_
        refine v_iconst (q := 83) C dX12_normalizes_82 rfl (by decide) ?_
        refine u_cVi2 (q := 86) C (c_X12_joins h) sy_X12_joins si_X12_joins ml_X12_236 ob_248 (by decide) so_X12_joins ⟨nb rfl, nb rfl⟩ (nb rfl) dX12_normalizes_83 rfl (fun r7 μ6 h => ?_)
        exact u_zret hR dX12_normalizes_86 h
      · refine v_iloadn (q := 88) C dX12_normalizes_87 rfl rfl ?_
        refine v_bipush (q := 90) C dX12_normalizes_88 rfl (by decide) ?_
        refine u_isub (q := 91) C dX12_normalizes_90 rfl h (fun h => ?_)
        refine v_istoren (q := 92) C dX12_normalizes_91 rfl (nb rfl) (L' := [some (.inr 248), none, some (.inl x2), some (.inl (x2 - 97)), none]) rfl ?_
        refine v_aloadn (q := 93) C dX12_normalizes_92 rfl rfl ?_
        refine v_iloadn (q := 94) C dX12_normalizes_93 rfl rfl ?_
        refine u_cVi1 (q := 97) C (c_X12_bodyFor h) sy_X12_bodyFor si_X12_bodyFor ml_X12_239 ob_248 (by decide) so_X12_bodyFor ⟨nb rfl, nb rfl⟩ (nb rfl) dX12_normalizes_94 rfl (fun r9 μ8 h => ?_)
        refine v_istore (q := 99) C dX12_normalizes_97 rfl (nb rfl) (L' := [some (.inr 248), none, some (.inl x2), some (.inl (x2 - 97)), some (.inl r9)]) rfl ?_
        refine v_iload (q := 101) C dX12_normalizes_99 rfl rfl ?_
        refine v_bipush (q := 103) C dX12_normalizes_101 rfl (by decide) ?_
        refine v_icmp_ne (q := 106) (tgt := 118) C dX12_normalizes_103 rfl rfl h (fun h => ?_) (fun h => ?_)
        · refine v_aloadn (q := 107) C dX12_normalizes_106 rfl rfl ?_
          refine v_iloadn (q := 108) C dX12_normalizes_107 rfl rfl ?_
          refine v_aloadn (q := 109) C dX12_normalizes_108 rfl rfl ?_
          refine u_getR (q := 112) C kl12 fl_X12_19 ob_248 pt_248_5 (by decide) rfl rfl dX12_normalizes_109 rfl ?_
          refine v_iloadn (q := 113) C dX12_normalizes_112 rfl rfl ?_
          refine u_iald (q := 114) C ia_252 dX12_normalizes_113 rfl h (fun h => ?_)
          refine u_cVi2 (q := 117) C (c_X12_joins h) sy_X12_joins si_X12_joins ml_X12_236 ob_248 (by decide) so_X12_joins ⟨nb rfl, nb rfl⟩ (nb rfl) dX12_normalizes_114 rfl (fun r11 μ10 h => ?_)
          exact u_zret hR dX12_normalizes_117 h
        · refine v_aloadn (q := 119) C dX12_normalizes_118 rfl rfl ?_
          refine v_dup (q := 120) C dX12_normalizes_119 rfl ?_
          refine u_getI (q := 123) C kl12 fl_X12_242 ob_248 pt_248_26 rfl rfl dX12_normalizes_120 rfl ?_
          refine v_iconst (q := 124) C dX12_normalizes_123 rfl (by decide) ?_
          refine u_iadd (q := 125) C dX12_normalizes_124 rfl h (fun h => ?_)
          refine u_put (q := 128) C kl12 fl_X12_242 ob_248 pt_248_26 rfl rfl rfl rfl dX12_normalizes_125 rfl h (fun μ12 h => ?_)
          refine v_aloadn (q := 129) C dX12_normalizes_128 rfl rfl ?_
          refine u_getI (q := 132) C kl12 fl_X12_242 ob_248 pt_248_26 rfl rfl dX12_normalizes_129 rfl ?_
          refine v_bipush (q := 134) C dX12_normalizes_132 rfl (by decide) ?_
          refine v_icmp_le (q := 137) (tgt := 139) C dX12_normalizes_134 rfl rfl h (fun h => ?_) (fun h => ?_)
          · refine v_aloadn (q := 140) C dX12_normalizes_139 rfl rfl ?_
            refine v_bipush (q := 142) C dX12_normalizes_140 rfl (by decide) ?_
            refine v_iconst (q := 143) C dX12_normalizes_142 rfl (by decide) ?_
            refine v_iloadn (q := 144) C dX12_normalizes_143 rfl rfl ?_
            refine u_imul (q := 145) C dX12_normalizes_144 rfl h (fun h => ?_)
            refine u_iadd (q := 146) C dX12_normalizes_145 rfl h (fun h => ?_)
            refine v_iload (q := 148) C dX12_normalizes_146 rfl rfl ?_
            refine u_iadd (q := 149) C dX12_normalizes_148 rfl h (fun h => ?_)
            refine v_aloadn (q := 150) C dX12_normalizes_149 rfl rfl ?_
            refine u_getR (q := 153) C kl12 fl_X12_28 ob_248 pt_248_8 (by decide) rfl rfl dX12_normalizes_150 rfl ?_
            refine v_iconst (q := 154) C dX12_normalizes_153 rfl (by decide) ?_
            refine v_iloadn (q := 155) C dX12_normalizes_154 rfl rfl ?_
            refine u_imul (q := 156) C dX12_normalizes_155 rfl h (fun h => ?_)
            refine v_iload (q := 158) C dX12_normalizes_156 rfl rfl ?_
            refine u_iadd (q := 159) C dX12_normalizes_158 rfl h (fun h => ?_)
            refine u_iald (q := 160) C ia_255 dX12_normalizes_159 rfl h (fun h => ?_)
            refine v_aloadn (q := 161) C dX12_normalizes_160 rfl rfl ?_
            refine u_getI (q := 164) C kl12 fl_X12_224 ob_248 pt_248_25 rfl rfl dX12_normalizes_161 rfl ?_
            refine v_iconst (q := 165) C dX12_normalizes_164 rfl (by decide) ?_
            refine u_isub (q := 166) C dX12_normalizes_165 rfl h (fun h => ?_)
            refine v_aloadn (q := 167) C dX12_normalizes_166 rfl rfl ?_
            refine u_getI (q := 170) C kl12 fl_X12_224 ob_248 pt_248_25 rfl rfl dX12_normalizes_167 rfl ?_
            refine v_iconst (q := 171) C dX12_normalizes_170 rfl (by decide) ?_
            refine u_isub (q := 172) C dX12_normalizes_171 rfl h (fun h => ?_)
            refine v_aloadn (q := 173) C dX12_normalizes_172 rfl rfl ?_
            refine u_getR (q := 176) C kl12 fl_X12_22 ob_248 pt_248_6 (by decide) rfl rfl dX12_normalizes_173 rfl ?_
            refine v_iloadn (q := 177) C dX12_normalizes_176 rfl rfl ?_
            refine u_iald (q := 178) C ia_253 dX12_normalizes_177 rfl h (fun h => ?_)
            refine u_cVv5 (q := 181) C (c_X12_enters h) sy_X12_enters si_X12_enters ml_X12_183 ob_248 (by decide) so_X12_enters ⟨nb rfl, nb rfl⟩ (nb rfl) dX12_normalizes_178 rfl (fun μ13 h => ?_)
            refine v_aloadn (q := 182) C dX12_normalizes_181 rfl rfl ?_
            refine u_getR (q := 185) C kl12 fl_X12_58 ob_248 pt_248_27 (by decide) rfl rfl dX12_normalizes_182 rfl ?_
            refine v_aloadn (q := 186) C dX12_normalizes_185 rfl rfl ?_
            refine u_getI (q := 189) C kl12 fl_X12_177 ob_248 pt_248_22 rfl rfl dX12_normalizes_186 rfl ?_
            refine v_iconst (q := 190) C dX12_normalizes_189 rfl (by decide) ?_
            refine u_isub (q := 191) C dX12_normalizes_190 rfl h (fun h => ?_)
            refine v_aloadn (q := 192) C dX12_normalizes_191 rfl rfl ?_
            refine u_getI (q := 195) C kl12 fl_X12_224 ob_248 pt_248_25 rfl rfl dX12_normalizes_192 rfl ?_
            refine v_aloadn (q := 196) C dX12_normalizes_195 rfl rfl ?_
            refine u_getR (q := 199) C kl12 fl_X12_19 ob_248 pt_248_5 (by decide) rfl rfl dX12_normalizes_196 rfl ?_
            refine v_iloadn (q := 200) C dX12_normalizes_199 rfl rfl ?_
            refine u_iald (q := 201) C ia_252 dX12_normalizes_200 rfl h (fun h => ?_)
            refine u_isub (q := 202) C dX12_normalizes_201 rfl h (fun h => ?_)
            refine u_iast (q := 203) C ia_265 dX12_normalizes_202 rfl h (fun μ14 h => ?_)
            refine v_iconst (q := 204) C dX12_normalizes_203 rfl (by decide) ?_
            exact u_zret hR dX12_normalizes_204 h
          · refine v_iconst (q := 138) C dX12_normalizes_137 rfl (by decide) ?_
            exact u_zret hR dX12_normalizes_138 h
    · exact (w_X12_normalizes_67  C hR   h)
theorem w_X12_normalizes_49 {X : ZX} (C : zC X cX12_normalizes RX12 5 (some .boolean) 3 72 274) {K : Int → ZM → Prop} (hR : zRi X cX12_normalizes (some .boolean) 274 (KN (KI K)))  {s1 : Int} {s2 : Int} {μ : ZM}   (h : P_X12_normalizes_49   s1 s2 μ K) : zV X 49 [none, none, none, none, none] [.inl s2, .inl s1, .inr 248] 274 (z_ov μ) := by
  refine u_cVv2 (q := 52) C (c_X12_pushes h) sy_X12_pushes si_X12_pushes ml_X12_233 ob_248 (by decide) so_X12_pushes ⟨nb rfl, nb rfl⟩ (nb rfl) dX12_normalizes_49 rfl (fun μ15 h => ?_)
  refine v_iconst (q := 53) C dX12_normalizes_52 rfl (by decide) ?_
  exact u_zret hR dX12_normalizes_53 h
theorem w_X12_normalizes_33 {X : ZX} (C : zC X cX12_normalizes RX12 5 (some .boolean) 3 72 274) {K : Int → ZM → Prop} (hR : zRi X cX12_normalizes (some .boolean) 274 (KN (KI K)))  {x1 : Int} {x2 : Int} {s1 : Int} {μ : ZM}   (h : P_X12_normalizes_33   x1 x2 s1 μ K) : zV X 33 [some (.inr 248), some (.inl x1), some (.inl x2), none, none] [.inl s1, .inr 248] 274 (z_ov μ) := by
  refine v_iloadn (q := 34) C dX12_normalizes_33 rfl rfl ?_
  refine v_bipush (q := 36) C dX12_normalizes_34 rfl (by decide) ?_
  refine v_icmp_ne (q := 39) (tgt := 48) C dX12_normalizes_36 rfl rfl h (fun h => ?_) (fun h => ?_)
  · refine v_aloadn (q := 40) C dX12_normalizes_39 rfl rfl ?_
    refine u_getR (q := 43) C kl12 fl_X12_49 ob_248 pt_248_21 (by decide) rfl rfl dX12_normalizes_40 rfl ?_
    refine v_iloadn (q := 44) C dX12_normalizes_43 rfl rfl ?_
    refine u_iald (q := 45) C ia_262 dX12_normalizes_44 rfl h (fun h => ?_)
    refine v_goto (q := 49) C dX12_normalizes_45 rfl ?_
    exact v_mask [false, false, false, false, false] rfl (w_X12_normalizes_49  C hR   h)
  · refine v_iconst (q := 49) C dX12_normalizes_48 rfl (by decide) ?_
    exact v_mask [false, false, false, false, false] rfl (w_X12_normalizes_49  C hR   h)
theorem c_X12_normalizes {x1 : Int} {x2 : Int} {μ : ZM} {K : Int → ZM → Prop} (h : P_X12_normalizes  x1 x2 μ K) : zMu yX12_normalizes cX12_normalizes 5 (some .boolean) 3 72 [.inr 248, .inl x1, .inl x2] μ (KI K) := by
  refine zMet_of (L0 := [some (.inr 248), some (.inl x1), some (.inl x2), none, none]) sy_X12_normalizes rfl (nb rfl) (Nat.le_refl _) (fun X C _ hR _ _ => ?_)
  have C : zC X cX12_normalizes RX12 5 (some .boolean) 3 72 274 := C
  refine v_iloadn (q := 1) C dX12_normalizes_0 rfl rfl ?_
  refine u_cSi1 (q := 4) C (c_X12_isVariable h) sy_X12_isVariable ss_X12_isVariable ml_X12_111 ⟨nb rfl, nb rfl⟩ (nb rfl) dX12_normalizes_1 rfl (fun r2 μ1 h => ?_)
  refine v_if_eq (q := 7) (tgt := 54) C dX12_normalizes_4 rfl rfl h (fun h => ?_) (fun h => ?_)
  · exact v_mask [true, false, true, false, false] rfl (w_X12_normalizes_54  C hR   h)
  · refine v_iloadn (q := 8) C dX12_normalizes_7 rfl rfl ?_
    refine v_if_le (q := 11) (tgt := 54) C dX12_normalizes_8 rfl rfl h (fun h => ?_) (fun h => ?_)
    · exact v_mask [true, false, true, false, false] rfl (w_X12_normalizes_54  C hR   h)
    · refine v_aloadn (q := 12) C dX12_normalizes_11 rfl rfl ?_
      refine v_iloadn (q := 13) C dX12_normalizes_12 rfl rfl ?_
      refine v_bipush (q := 15) C dX12_normalizes_13 rfl (by decide) ?_
      refine v_icmp_ne (q := 18) (tgt := 27) C dX12_normalizes_15 rfl rfl h (fun h => ?_) (fun h => ?_)
      · refine v_aloadn (q := 19) C dX12_normalizes_18 rfl rfl ?_
        refine u_getR (q := 22) C kl12 fl_X12_43 ob_248 pt_248_19 (by decide) rfl rfl dX12_normalizes_19 rfl ?_
        refine v_iloadn (q := 23) C dX12_normalizes_22 rfl rfl ?_
        refine u_iald (q := 24) C ia_260 dX12_normalizes_23 rfl h (fun h => ?_)
        refine v_goto (q := 33) C dX12_normalizes_24 rfl ?_
        exact (w_X12_normalizes_33  C hR   h)
      · refine v_aloadn (q := 28) C dX12_normalizes_27 rfl rfl ?_
        refine u_getR (q := 31) C kl12 fl_X12_46 ob_248 pt_248_20 (by decide) rfl rfl dX12_normalizes_28 rfl ?_
        refine v_iloadn (q := 32) C dX12_normalizes_31 rfl rfl ?_
        refine u_iald (q := 33) C ia_261 dX12_normalizes_32 rfl h (fun h => ?_)
        exact (w_X12_normalizes_33  C hR   h)
theorem c_X12_puts {x1 : Int} {x2 : Int} {μ : ZM} {K : ZM → Prop} (h : P_X12_puts  x1 x2 μ K) : zMu yX12_puts cX12_puts 3 none 0 0 [.inr 248, .inl x1, .inl x2] μ (KV K) := by
  refine zMet_of (L0 := [some (.inr 248), some (.inl x1), some (.inl x2)]) sy_X12_puts rfl (nb rfl) (Nat.le_refl _) (fun X C _ _ _ hR => ?_)
  have C : zC X cX12_puts RX12 3 none 0 0 274 := C
  refine v_aloadn (q := 1) C dX12_puts_0 rfl rfl ?_
  refine u_getR (q := 4) C kl12 fl_X12_7 ob_248 pt_248_0 (by decide) rfl rfl dX12_puts_1 rfl ?_
  refine v_sipush (q := 7) C dX12_puts_4 rfl (by decide) ?_
  refine v_iloadn (q := 8) C dX12_puts_7 rfl rfl ?_
  refine u_imul (q := 9) C dX12_puts_8 rfl h (fun h => ?_)
  refine v_aloadn (q := 10) C dX12_puts_9 rfl rfl ?_
  refine u_getR (q := 13) C kl12 fl_X12_13 ob_248 pt_248_1 (by decide) rfl rfl dX12_puts_10 rfl ?_
  refine v_iloadn (q := 14) C dX12_puts_13 rfl rfl ?_
  refine u_iald (q := 15) C ia_250 dX12_puts_14 rfl h (fun h => ?_)
  refine u_iadd (q := 16) C dX12_puts_15 rfl h (fun h => ?_)
  refine v_iloadn (q := 17) C dX12_puts_16 rfl rfl ?_
  refine u_iast (q := 18) C ia_249 dX12_puts_17 rfl h (fun μ1 h => ?_)
  refine v_aloadn (q := 19) C dX12_puts_18 rfl rfl ?_
  refine u_getR (q := 22) C kl12 fl_X12_13 ob_248 pt_248_1 (by decide) rfl rfl dX12_puts_19 rfl ?_
  refine v_iloadn (q := 23) C dX12_puts_22 rfl rfl ?_
  refine v_dup2 (q := 24) C dX12_puts_23 rfl ?_
  refine u_iald (q := 25) C ia_250 dX12_puts_24 rfl h (fun h => ?_)
  refine v_iconst (q := 26) C dX12_puts_25 rfl (by decide) ?_
  refine u_iadd (q := 27) C dX12_puts_26 rfl h (fun h => ?_)
  refine u_iast (q := 28) C ia_250 dX12_puts_27 rfl h (fun μ2 h => ?_)
  exact u_vret hR dX12_puts_28 h
theorem w_X12_makesNormal_136 {X : ZX} (C : zC X cX12_makesNormal RX12 5 (some .boolean) 4 96 274) {K : Int → ZM → Prop} (hR : zRi X cX12_makesNormal (some .boolean) 274 (KN (KI K)))  {x2 : Int} {x3 : Int} {μ : ZM}   (h : P_X12_makesNormal_136   x2 x3 μ K) : zV X 136 [some (.inr 248), none, some (.inl x2), some (.inl x3), none] [] 274 (z_ov μ) := by
  refine h (fun x3 μ => zV X 136 [some (.inr 248), none, some (.inl x2), some (.inl x3), none] [] 274 (z_ov μ)) (fun x3 μ h => ?_)
  refine v_iloadn (q := 137) C dX12_makesNormal_136 rfl rfl ?_
  refine v_aloadn (q := 138) C dX12_makesNormal_137 rfl rfl ?_
  refine u_getR (q := 141) C kl12 fl_X12_55 ob_248 pt_248_24 (by decide) rfl rfl dX12_makesNormal_138 rfl ?_
  refine v_iconst (q := 142) C dX12_makesNormal_141 rfl (by decide) ?_
  refine u_iald (q := 143) C ia_264 dX12_makesNormal_142 rfl h (fun h => ?_)
  refine v_icmp_ge (q := 146) (tgt := 163) C dX12_makesNormal_143 rfl rfl h (fun h => ?_) (fun h => ?_)
  · refine v_iconst (q := 164) C dX12_makesNormal_163 rfl (by decide) ?_
    exact u_zret hR dX12_makesNormal_164 h
  · refine v_aloadn (q := 147) C dX12_makesNormal_146 rfl rfl ?_
    refine v_iloadn (q := 148) C dX12_makesNormal_147 rfl rfl ?_
    refine v_aloadn (q := 149) C dX12_makesNormal_148 rfl rfl ?_
    refine u_getR (q := 152) C kl12 fl_X12_52 ob_248 pt_248_23 (by decide) rfl rfl dX12_makesNormal_149 rfl ?_
    refine v_iloadn (q := 153) C dX12_makesNormal_152 rfl rfl ?_
    refine u_iald (q := 154) C ia_263 dX12_makesNormal_153 rfl h (fun h => ?_)
    refine u_cVv2 (q := 157) C (c_X12_puts h) sy_X12_puts si_X12_puts ml_X12_150 ob_248 (by decide) so_X12_puts ⟨nb rfl, nb rfl⟩ (nb rfl) dX12_makesNormal_154 rfl (fun μ7 h => ?_)
    refine u_iinc (q := 160) C dX12_makesNormal_157 rfl (nb rfl) rfl (L' := [some (.inr 248), none, some (.inl x2), some (.inl (x3 + 1)), none]) rfl h (fun h => ?_)
    refine v_goto (q := 136) C dX12_makesNormal_160 rfl ?_
    exact h
theorem w_X12_makesNormal_124 {X : ZX} (C : zC X cX12_makesNormal RX12 5 (some .boolean) 4 96 274) {K : Int → ZM → Prop} (hR : zRi X cX12_makesNormal (some .boolean) 274 (KN (KI K)))  {x2 : Int} {μ : ZM} {G36 : ZM → Prop} (hG36 : ∀ (μ : ZM), G36 μ → zV X 36 [some (.inr 248), none, some (.inl x2), none, none] [] 274 (z_ov μ))  (h : P_X12_makesNormal_124  G36 x2 μ K) : zV X 124 [some (.inr 248), none, some (.inl x2), none, none] [] 274 (z_ov μ) := by
  refine v_goto (q := 36) C dX12_makesNormal_124 rfl ?_
  exact (hG36 _ h)
theorem w_X12_makesNormal_36 {X : ZX} (C : zC X cX12_makesNormal RX12 5 (some .boolean) 4 96 274) {K : Int → ZM → Prop} (hR : zRi X cX12_makesNormal (some .boolean) 274 (KN (KI K)))  {x2 : Int} {μ : ZM}   (h : P_X12_makesNormal_36   x2 μ K) : zV X 36 [some (.inr 248), none, some (.inl x2), none, none] [] 274 (z_ov μ) := by
  refine h (fun  μ => zV X 36 [some (.inr 248), none, some (.inl x2), none, none] [] 274 (z_ov μ)) (fun  μ h => ?_)
  refine v_aloadn (q := 37) C dX12_makesNormal_36 rfl rfl ?_
  refine u_getI (q := 40) C kl12 fl_X12_177 ob_248 pt_248_22 rfl rfl dX12_makesNormal_37 rfl ?_
  refine v_if_le (q := 43) (tgt := 127) C dX12_makesNormal_40 rfl rfl h (fun h => ?_) (fun h => ?_)
  · refine v_aloadn (q := 128) C dX12_makesNormal_127 rfl rfl ?_
    refine u_getR (q := 131) C kl12 fl_X12_13 ob_248 pt_248_1 (by decide) rfl rfl dX12_makesNormal_128 rfl ?_
    refine v_iloadn (q := 132) C dX12_makesNormal_131 rfl rfl ?_
    refine v_iconst (q := 133) C dX12_makesNormal_132 rfl (by decide) ?_
    refine u_iast (q := 134) C ia_250 dX12_makesNormal_133 rfl h (fun μ6 h => ?_)
    refine v_iconst (q := 135) C dX12_makesNormal_134 rfl (by decide) ?_
    refine v_istoren (q := 136) C dX12_makesNormal_135 rfl (nb rfl) (L' := [some (.inr 248), none, some (.inl x2), some (.inl 0), none]) rfl ?_
    exact (w_X12_makesNormal_136  C hR   h)
  · refine v_aloadn (q := 44) C dX12_makesNormal_43 rfl rfl ?_
    refine u_getI (q := 47) C kl12 fl_X12_177 ob_248 pt_248_22 rfl rfl dX12_makesNormal_44 rfl ?_
    refine v_iconst (q := 48) C dX12_makesNormal_47 rfl (by decide) ?_
    refine u_isub (q := 49) C dX12_makesNormal_48 rfl h (fun h => ?_)
    refine v_istoren (q := 50) C dX12_makesNormal_49 rfl (nb rfl) (L' := [some (.inr 248), none, some (.inl x2), some (.inl ((μ 248 22) - 1)), none]) rfl ?_
    refine v_aloadn (q := 51) C dX12_makesNormal_50 rfl rfl ?_
    refine u_getR (q := 54) C kl12 fl_X12_40 ob_248 pt_248_18 (by decide) rfl rfl dX12_makesNormal_51 rfl ?_
    refine v_iloadn (q := 55) C dX12_makesNormal_54 rfl rfl ?_
    refine u_iald (q := 56) C ia_259 dX12_makesNormal_55 rfl h (fun h => ?_)
    refine v_if_ge (q := 59) (tgt := 89) C dX12_makesNormal_56 rfl rfl h (fun h => ?_) (fun h => ?_)
    · refine v_aloadn (q := 90) C dX12_makesNormal_89 rfl rfl ?_
      refine v_iloadn (q := 91) C dX12_makesNormal_90 rfl rfl ?_
      refine v_aloadn (q := 92) C dX12_makesNormal_91 rfl rfl ?_
      refine u_getR (q := 95) C kl12 fl_X12_40 ob_248 pt_248_18 (by decide) rfl rfl dX12_makesNormal_92 rfl ?_
      refine v_iloadn (q := 96) C dX12_makesNormal_95 rfl rfl ?_
      refine u_iald (q := 97) C ia_259 dX12_makesNormal_96 rfl h (fun h => ?_)
      refine u_cVi2 (q := 100) C (c_X12_signOf h) sy_X12_signOf si_X12_signOf ml_X12_193 ob_248 (by decide) so_X12_signOf ⟨nb rfl, nb rfl⟩ (nb rfl) dX12_makesNormal_97 rfl (fun r9 μ8 h => ?_)
      refine v_istore (q := 102) C dX12_makesNormal_100 rfl (nb rfl) (L' := [some (.inr 248), none, some (.inl x2), some (.inl ((μ 248 22) - 1)), some (.inl r9)]) rfl ?_
      refine v_aloadn (q := 103) C dX12_makesNormal_102 rfl rfl ?_
      refine u_getR (q := 106) C kl12 fl_X12_40 ob_248 pt_248_18 (by decide) rfl rfl dX12_makesNormal_103 rfl ?_
      refine v_iloadn (q := 107) C dX12_makesNormal_106 rfl rfl ?_
      refine v_dup2 (q := 108) C dX12_makesNormal_107 rfl ?_
      refine u_iald (q := 109) C ia_259 dX12_makesNormal_108 rfl h (fun h => ?_)
      refine v_iconst (q := 110) C dX12_makesNormal_109 rfl (by decide) ?_
      refine u_isub (q := 111) C dX12_makesNormal_110 rfl h (fun h => ?_)
      refine u_iast (q := 112) C ia_259 dX12_makesNormal_111 rfl h (fun μ10 h => ?_)
      refine v_aloadn (q := 113) C dX12_makesNormal_112 rfl rfl ?_
      refine v_iloadn (q := 114) C dX12_makesNormal_113 rfl rfl ?_
      refine v_iload (q := 116) C dX12_makesNormal_114 rfl rfl ?_
      refine u_cVi2 (q := 119) C (c_X12_normalizes h) sy_X12_normalizes si_X12_normalizes ml_X12_245 ob_248 (by decide) so_X12_normalizes ⟨nb rfl, nb rfl⟩ (nb rfl) dX12_makesNormal_116 rfl (fun r12 μ11 h => ?_)
      refine v_if_ne (q := 122) (tgt := 124) C dX12_makesNormal_119 rfl rfl h (fun h => ?_) (fun h => ?_)
      · refine v_iconst (q := 123) C dX12_makesNormal_122 rfl (by decide) ?_
        exact u_zret hR dX12_makesNormal_123 h
      · exact v_mask [true, false, true, false, false] rfl (w_X12_makesNormal_124  C hR (fun _ h => h)  h)
    · refine v_aloadn (q := 60) C dX12_makesNormal_59 rfl rfl ?_
      refine v_dup (q := 61) C dX12_makesNormal_60 rfl ?_
      refine u_getI (q := 64) C kl12 fl_X12_177 ob_248 pt_248_22 rfl rfl dX12_makesNormal_61 rfl ?_
      refine v_iconst (q := 65) C dX12_makesNormal_64 rfl (by decide) ?_
      refine u_isub (q := 66) C dX12_makesNormal_65 rfl h (fun h => ?_)
      refine u_put (q := 69) C kl12 fl_X12_177 ob_248 pt_248_22 rfl rfl rfl rfl dX12_makesNormal_66 rfl h (fun μ13 h => ?_)
      refine v_aloadn (q := 70) C dX12_makesNormal_69 rfl rfl ?_
      refine u_getI (q := 73) C kl12 fl_X12_177 ob_248 pt_248_22 rfl rfl dX12_makesNormal_70 rfl ?_
      refine v_if_le (q := 76) (tgt := 124) C dX12_makesNormal_73 rfl rfl h (fun h => ?_) (fun h => ?_)
      · exact v_mask [true, false, true, false, false] rfl (w_X12_makesNormal_124  C hR (fun _ h => h)  h)
      · refine v_aloadn (q := 77) C dX12_makesNormal_76 rfl rfl ?_
        refine v_aloadn (q := 78) C dX12_makesNormal_77 rfl rfl ?_
        refine u_getR (q := 81) C kl12 fl_X12_58 ob_248 pt_248_27 (by decide) rfl rfl dX12_makesNormal_78 rfl ?_
        refine v_iloadn (q := 82) C dX12_makesNormal_81 rfl rfl ?_
        refine u_iald (q := 83) C ia_265 dX12_makesNormal_82 rfl h (fun h => ?_)
        refine u_cVv1 (q := 86) C (c_X12_falls h) sy_X12_falls si_X12_falls ml_X12_230 ob_248 (by decide) so_X12_falls ⟨nb rfl, nb rfl⟩ (nb rfl) dX12_makesNormal_83 rfl (fun μ14 h => ?_)
        refine v_goto (q := 124) C dX12_makesNormal_86 rfl ?_
        exact v_mask [true, false, true, false, false] rfl (w_X12_makesNormal_124  C hR (fun _ h => h)  h)
theorem c_X12_makesNormal {x1 : Int} {x2 : Int} {μ : ZM} {K : Int → ZM → Prop} (h : P_X12_makesNormal  x1 x2 μ K) : zMu yX12_makesNormal cX12_makesNormal 5 (some .boolean) 4 96 [.inr 248, .inl x1, .inl x2] μ (KI K) := by
  refine zMet_of (L0 := [some (.inr 248), some (.inl x1), some (.inl x2), none, none]) sy_X12_makesNormal rfl (nb rfl) (Nat.le_refl _) (fun X C _ hR _ _ => ?_)
  have C : zC X cX12_makesNormal RX12 5 (some .boolean) 4 96 274 := C
  refine v_aloadn (q := 1) C dX12_makesNormal_0 rfl rfl ?_
  refine v_iconst (q := 2) C dX12_makesNormal_1 rfl (by decide) ?_
  refine u_put (q := 5) C kl12 fl_X12_224 ob_248 pt_248_25 rfl rfl rfl rfl dX12_makesNormal_2 rfl h (fun μ1 h => ?_)
  refine v_aloadn (q := 6) C dX12_makesNormal_5 rfl rfl ?_
  refine u_getR (q := 9) C kl12 fl_X12_55 ob_248 pt_248_24 (by decide) rfl rfl dX12_makesNormal_6 rfl ?_
  refine v_iconst (q := 10) C dX12_makesNormal_9 rfl (by decide) ?_
  refine v_iconst (q := 11) C dX12_makesNormal_10 rfl (by decide) ?_
  refine u_iast (q := 12) C ia_264 dX12_makesNormal_11 rfl h (fun μ2 h => ?_)
  refine v_aloadn (q := 13) C dX12_makesNormal_12 rfl rfl ?_
  refine v_iconst (q := 14) C dX12_makesNormal_13 rfl (by decide) ?_
  refine u_put (q := 17) C kl12 fl_X12_242 ob_248 pt_248_26 rfl rfl rfl rfl dX12_makesNormal_14 rfl h (fun μ3 h => ?_)
  refine v_aloadn (q := 18) C dX12_makesNormal_17 rfl rfl ?_
  refine v_iconst (q := 19) C dX12_makesNormal_18 rfl (by decide) ?_
  refine u_put (q := 22) C kl12 fl_X12_177 ob_248 pt_248_22 rfl rfl rfl rfl dX12_makesNormal_19 rfl h (fun μ4 h => ?_)
  refine v_aloadn (q := 23) C dX12_makesNormal_22 rfl rfl ?_
  refine v_iloadn (q := 24) C dX12_makesNormal_23 rfl rfl ?_
  refine v_aloadn (q := 25) C dX12_makesNormal_24 rfl rfl ?_
  refine u_getR (q := 28) C kl12 fl_X12_13 ob_248 pt_248_1 (by decide) rfl rfl dX12_makesNormal_25 rfl ?_
  refine v_iloadn (q := 29) C dX12_makesNormal_28 rfl rfl ?_
  refine u_iald (q := 30) C ia_250 dX12_makesNormal_29 rfl h (fun h => ?_)
  refine v_iconst (q := 31) C dX12_makesNormal_30 rfl (by decide) ?_
  refine v_iconst (q := 32) C dX12_makesNormal_31 rfl (by decide) ?_
  refine v_iconst (q := 33) C dX12_makesNormal_32 rfl (by decide) ?_
  refine u_cVv5 (q := 36) C (c_X12_enters h) sy_X12_enters si_X12_enters ml_X12_183 ob_248 (by decide) so_X12_enters ⟨nb rfl, nb rfl⟩ (nb rfl) dX12_makesNormal_33 rfl (fun μ5 h => ?_)
  exact v_mask [true, false, true, false, false] rfl (w_X12_makesNormal_36  C hR   h)
theorem w_X12_isLemma_42 {X : ZX} (C : zC X cX12_isLemma RX12 4 (some .boolean) 2 46 274) {K : Int → ZM → Prop} (hR : zRi X cX12_isLemma (some .boolean) 274 (KN (KI K)))  {x1 : Int} {x2 : Int} {x3 : Int} {μ : ZM} {G2 : Int → ZM → Prop} (hG2 : ∀ (x3 : Int) (μ : ZM), G2 x3 μ → zV X 2 [some (.inr 248), some (.inl x1), some (.inl x2), some (.inl x3)] [] 274 (z_ov μ))  (h : P_X12_isLemma_42  G2 x1 x2 x3 μ K) : zV X 42 [some (.inr 248), some (.inl x1), some (.inl x2), some (.inl x3)] [] 274 (z_ov μ) := by
  refine u_iinc (q := 45) C dX12_isLemma_42 rfl (nb rfl) rfl (L' := [some (.inr 248), some (.inl x1), some (.inl x2), some (.inl (x3 + 1))]) rfl h (fun h => ?_)
  refine v_goto (q := 2) C dX12_isLemma_45 rfl ?_
  exact (hG2 _ _ h)
theorem w_X12_isLemma_2 {X : ZX} (C : zC X cX12_isLemma RX12 4 (some .boolean) 2 46 274) {K : Int → ZM → Prop} (hR : zRi X cX12_isLemma (some .boolean) 274 (KN (KI K)))  {x1 : Int} {x2 : Int} {x3 : Int} {μ : ZM}   (h : P_X12_isLemma_2   x1 x2 x3 μ K) : zV X 2 [some (.inr 248), some (.inl x1), some (.inl x2), some (.inl x3)] [] 274 (z_ov μ) := by
  refine h (fun x3 μ => zV X 2 [some (.inr 248), some (.inl x1), some (.inl x2), some (.inl x3)] [] 274 (z_ov μ)) (fun x3 μ h => ?_)
  refine v_iloadn (q := 3) C dX12_isLemma_2 rfl rfl ?_
  refine v_aloadn (q := 4) C dX12_isLemma_3 rfl rfl ?_
  refine u_getI (q := 7) C kl12 fl_X12_171 ob_248 pt_248_35 rfl rfl dX12_isLemma_4 rfl ?_
  refine v_icmp_ge (q := 10) (tgt := 48) C dX12_isLemma_7 rfl rfl h (fun h => ?_) (fun h => ?_)
  · refine v_iconst (q := 49) C dX12_isLemma_48 rfl (by decide) ?_
    exact u_zret hR dX12_isLemma_49 h
  · refine v_aloadn (q := 11) C dX12_isLemma_10 rfl rfl ?_
    refine v_bipush (q := 13) C dX12_isLemma_11 rfl (by decide) ?_
    refine v_iconst (q := 14) C dX12_isLemma_13 rfl (by decide) ?_
    refine v_iloadn (q := 15) C dX12_isLemma_14 rfl rfl ?_
    refine u_imul (q := 16) C dX12_isLemma_15 rfl h (fun h => ?_)
    refine u_iadd (q := 17) C dX12_isLemma_16 rfl h (fun h => ?_)
    refine v_iloadn (q := 18) C dX12_isLemma_17 rfl rfl ?_
    refine u_cVi2 (q := 21) C (c_X12_areSame h) sy_X12_areSame si_X12_areSame ml_X12_343 ob_248 (by decide) so_X12_areSame ⟨nb rfl, nb rfl⟩ (nb rfl) dX12_isLemma_18 rfl (fun r2 μ1 h => ?_)
    refine v_if_eq (q := 24) (tgt := 42) C dX12_isLemma_21 rfl rfl h (fun h => ?_) (fun h => ?_)
    · exact (w_X12_isLemma_42  C hR (fun _ _ h => h)  h)
    · refine v_aloadn (q := 25) C dX12_isLemma_24 rfl rfl ?_
      refine v_bipush (q := 27) C dX12_isLemma_25 rfl (by decide) ?_
      refine v_iconst (q := 28) C dX12_isLemma_27 rfl (by decide) ?_
      refine v_iloadn (q := 29) C dX12_isLemma_28 rfl rfl ?_
      refine u_imul (q := 30) C dX12_isLemma_29 rfl h (fun h => ?_)
      refine u_iadd (q := 31) C dX12_isLemma_30 rfl h (fun h => ?_)
      refine v_iconst (q := 32) C dX12_isLemma_31 rfl (by decide) ?_
      refine u_iadd (q := 33) C dX12_isLemma_32 rfl h (fun h => ?_)
      refine v_iloadn (q := 34) C dX12_isLemma_33 rfl rfl ?_
      refine u_cVi2 (q := 37) C (c_X12_areSame h) sy_X12_areSame si_X12_areSame ml_X12_343 ob_248 (by decide) so_X12_areSame ⟨nb rfl, nb rfl⟩ (nb rfl) dX12_isLemma_34 rfl (fun r4 μ3 h => ?_)
      refine v_if_eq (q := 40) (tgt := 42) C dX12_isLemma_37 rfl rfl h (fun h => ?_) (fun h => ?_)
      · exact (w_X12_isLemma_42  C hR (fun _ _ h => h)  h)
      · refine v_iconst (q := 41) C dX12_isLemma_40 rfl (by decide) ?_
        exact u_zret hR dX12_isLemma_41 h
theorem c_X12_isLemma {x1 : Int} {x2 : Int} {μ : ZM} {K : Int → ZM → Prop} (h : P_X12_isLemma  x1 x2 μ K) : zMu yX12_isLemma cX12_isLemma 4 (some .boolean) 2 46 [.inr 248, .inl x1, .inl x2] μ (KI K) := by
  refine zMet_of (L0 := [some (.inr 248), some (.inl x1), some (.inl x2), none]) sy_X12_isLemma rfl (nb rfl) (Nat.le_refl _) (fun X C _ hR _ _ => ?_)
  have C : zC X cX12_isLemma RX12 4 (some .boolean) 2 46 274 := C
  refine v_iconst (q := 1) C dX12_isLemma_0 rfl (by decide) ?_
  refine v_istoren (q := 2) C dX12_isLemma_1 rfl (nb rfl) (L' := [some (.inr 248), some (.inl x1), some (.inl x2), some (.inl 0)]) rfl ?_
  exact (w_X12_isLemma_2  C hR   h)
theorem w_X12_copies_14 {X : ZX} (C : zC X cX12_copies RX12 4 none 1 22 274) {K : ZM → Prop} (hR : zRv X cX12_copies none 274 (KN (KV K)))  {x1 : Int} {x2 : Int} {x3 : Int} {μ : ZM}   (h : P_X12_copies_14   x1 x2 x3 μ K) : zV X 14 [some (.inr 248), some (.inl x1), some (.inl x2), some (.inl x3)] [] 274 (z_ov μ) := by
  refine h (fun x3 μ => zV X 14 [some (.inr 248), some (.inl x1), some (.inl x2), some (.inl x3)] [] 274 (z_ov μ)) (fun x3 μ h => ?_)
  refine v_iloadn (q := 15) C dX12_copies_14 rfl rfl ?_
  refine v_aloadn (q := 16) C dX12_copies_15 rfl rfl ?_
  refine u_getR (q := 19) C kl12 fl_X12_13 ob_248 pt_248_1 (by decide) rfl rfl dX12_copies_16 rfl ?_
  refine v_iloadn (q := 20) C dX12_copies_19 rfl rfl ?_
  refine u_iald (q := 21) C ia_250 dX12_copies_20 rfl h (fun h => ?_)
  refine v_icmp_ge (q := 24) (tgt := 48) C dX12_copies_21 rfl rfl h (fun h => ?_) (fun h => ?_)
  · exact u_vret hR dX12_copies_48 h
  · refine v_aloadn (q := 25) C dX12_copies_24 rfl rfl ?_
    refine u_getR (q := 28) C kl12 fl_X12_7 ob_248 pt_248_0 (by decide) rfl rfl dX12_copies_25 rfl ?_
    refine v_sipush (q := 31) C dX12_copies_28 rfl (by decide) ?_
    refine v_iloadn (q := 32) C dX12_copies_31 rfl rfl ?_
    refine u_imul (q := 33) C dX12_copies_32 rfl h (fun h => ?_)
    refine v_iloadn (q := 34) C dX12_copies_33 rfl rfl ?_
    refine u_iadd (q := 35) C dX12_copies_34 rfl h (fun h => ?_)
    refine v_aloadn (q := 36) C dX12_copies_35 rfl rfl ?_
    refine v_iloadn (q := 37) C dX12_copies_36 rfl rfl ?_
    refine v_iloadn (q := 38) C dX12_copies_37 rfl rfl ?_
    refine u_cVi2 (q := 41) C (c_X12_at h) sy_X12_at si_X12_at ml_X12_92 ob_248 (by decide) so_X12_at ⟨nb rfl, nb rfl⟩ (nb rfl) dX12_copies_38 rfl (fun r3 μ2 h => ?_)
    refine u_iast (q := 42) C ia_249 dX12_copies_41 rfl h (fun μ4 h => ?_)
    refine u_iinc (q := 45) C dX12_copies_42 rfl (nb rfl) rfl (L' := [some (.inr 248), some (.inl x1), some (.inl x2), some (.inl (x3 + 1))]) rfl h (fun h => ?_)
    refine v_goto (q := 14) C dX12_copies_45 rfl ?_
    exact h
theorem c_X12_copies {x1 : Int} {x2 : Int} {μ : ZM} {K : ZM → Prop} (h : P_X12_copies  x1 x2 μ K) : zMu yX12_copies cX12_copies 4 none 1 22 [.inr 248, .inl x1, .inl x2] μ (KV K) := by
  refine zMet_of (L0 := [some (.inr 248), some (.inl x1), some (.inl x2), none]) sy_X12_copies rfl (nb rfl) (Nat.le_refl _) (fun X C _ _ _ hR => ?_)
  have C : zC X cX12_copies RX12 4 none 1 22 274 := C
  refine v_aloadn (q := 1) C dX12_copies_0 rfl rfl ?_
  refine u_getR (q := 4) C kl12 fl_X12_13 ob_248 pt_248_1 (by decide) rfl rfl dX12_copies_1 rfl ?_
  refine v_iloadn (q := 5) C dX12_copies_4 rfl rfl ?_
  refine v_aloadn (q := 6) C dX12_copies_5 rfl rfl ?_
  refine u_getR (q := 9) C kl12 fl_X12_13 ob_248 pt_248_1 (by decide) rfl rfl dX12_copies_6 rfl ?_
  refine v_iloadn (q := 10) C dX12_copies_9 rfl rfl ?_
  refine u_iald (q := 11) C ia_250 dX12_copies_10 rfl h (fun h => ?_)
  refine u_iast (q := 12) C ia_250 dX12_copies_11 rfl h (fun μ1 h => ?_)
  refine v_iconst (q := 13) C dX12_copies_12 rfl (by decide) ?_
  refine v_istoren (q := 14) C dX12_copies_13 rfl (nb rfl) (L' := [some (.inr 248), some (.inl x1), some (.inl x2), some (.inl 0)]) rfl ?_
  exact (w_X12_copies_14  C hR   h)
theorem c_X12_proves  {μ : ZM} {K : Int → ZM → Prop} (h : P_X12_proves   μ K) : zMu yX12_proves cX12_proves 3 (some .int) 3 69 [.inr 248] μ (KI K) := by
  refine zMet_of (L0 := [some (.inr 248), none, none]) sy_X12_proves rfl (nb rfl) (Nat.le_refl _) (fun X C _ hR _ _ => ?_)
  have C : zC X cX12_proves RX12 3 (some .int) 3 69 274 := C
  refine v_aloadn (q := 1) C dX12_proves_0 rfl rfl ?_
  refine v_iconst (q := 2) C dX12_proves_1 rfl (by decide) ?_
  refine v_iconst (q := 3) C dX12_proves_2 rfl (by decide) ?_
  refine u_cVi2 (q := 6) C (c_X12_slotOf h) sy_X12_slotOf si_X12_slotOf ml_X12_346 ob_248 (by decide) so_X12_slotOf ⟨nb rfl, nb rfl⟩ (nb rfl) dX12_proves_3 rfl (fun r2 μ1 h => ?_)
  refine v_istoren (q := 7) C dX12_proves_6 rfl (nb rfl) (L' := [some (.inr 248), some (.inl r2), none]) rfl ?_
  refine v_aloadn (q := 8) C dX12_proves_7 rfl rfl ?_
  refine v_iconst (q := 9) C dX12_proves_8 rfl (by decide) ?_
  refine v_iconst (q := 10) C dX12_proves_9 rfl (by decide) ?_
  refine u_cVi2 (q := 13) C (c_X12_slotOf h) sy_X12_slotOf si_X12_slotOf ml_X12_346 ob_248 (by decide) so_X12_slotOf ⟨nb rfl, nb rfl⟩ (nb rfl) dX12_proves_10 rfl (fun r4 μ3 h => ?_)
  refine v_istoren (q := 14) C dX12_proves_13 rfl (nb rfl) (L' := [some (.inr 248), some (.inl r2), some (.inl r4)]) rfl ?_
  refine v_aloadn (q := 15) C dX12_proves_14 rfl rfl ?_
  refine v_bipush (q := 17) C dX12_proves_15 rfl (by decide) ?_
  refine v_aloadn (q := 18) C dX12_proves_17 rfl rfl ?_
  refine u_getI (q := 21) C kl12 fl_X12_334 ob_248 pt_248_46 rfl rfl dX12_proves_18 rfl ?_
  refine u_cVv2 (q := 24) C (c_X12_notesIt h) sy_X12_notesIt si_X12_notesIt ml_X12_308 ob_248 (by decide) so_X12_notesIt ⟨nb rfl, nb rfl⟩ (nb rfl) dX12_proves_21 rfl (fun μ5 h => ?_)
  refine v_aloadn (q := 25) C dX12_proves_24 rfl rfl ?_
  refine v_iloadn (q := 26) C dX12_proves_25 rfl rfl ?_
  refine v_iloadn (q := 27) C dX12_proves_26 rfl rfl ?_
  refine u_cVi2 (q := 30) C (c_X12_areSame h) sy_X12_areSame si_X12_areSame ml_X12_343 ob_248 (by decide) so_X12_areSame ⟨nb rfl, nb rfl⟩ (nb rfl) dX12_proves_27 rfl (fun r7 μ6 h => ?_)
  refine v_if_ne (q := 33) (tgt := 91) C dX12_proves_30 rfl rfl h (fun h => ?_) (fun h => ?_)
  · refine v_aloadn (q := 34) C dX12_proves_33 rfl rfl ?_
    refine u_getI (q := 37) C kl12 fl_X12_171 ob_248 pt_248_35 rfl rfl dX12_proves_34 rfl ?_
    refine v_bipush (q := 39) C dX12_proves_37 rfl (by decide) ?_
    refine v_icmp_ge (q := 42) (tgt := 91) C dX12_proves_39 rfl rfl h (fun h => ?_) (fun h => ?_)
    · refine v_iconst (q := 92) C dX12_proves_91 rfl (by decide) ?_
      exact u_iret hR dX12_proves_92 h
    · refine v_aloadn (q := 43) C dX12_proves_42 rfl rfl ?_
      refine v_iloadn (q := 44) C dX12_proves_43 rfl rfl ?_
      refine v_iloadn (q := 45) C dX12_proves_44 rfl rfl ?_
      refine u_cVi2 (q := 48) C (c_X12_isLemma h) sy_X12_isLemma si_X12_isLemma ml_X12_349 ob_248 (by decide) so_X12_isLemma ⟨nb rfl, nb rfl⟩ (nb rfl) dX12_proves_45 rfl (fun r9 μ8 h => ?_)
      refine v_if_ne (q := 51) (tgt := 91) C dX12_proves_48 rfl rfl h (fun h => ?_) (fun h => ?_)
      · refine v_aloadn (q := 52) C dX12_proves_51 rfl rfl ?_
        refine v_iloadn (q := 53) C dX12_proves_52 rfl rfl ?_
        refine v_bipush (q := 55) C dX12_proves_53 rfl (by decide) ?_
        refine v_iconst (q := 56) C dX12_proves_55 rfl (by decide) ?_
        refine v_aloadn (q := 57) C dX12_proves_56 rfl rfl ?_
        refine u_getI (q := 60) C kl12 fl_X12_171 ob_248 pt_248_35 rfl rfl dX12_proves_57 rfl ?_
        refine u_imul (q := 61) C dX12_proves_60 rfl h (fun h => ?_)
        refine u_iadd (q := 62) C dX12_proves_61 rfl h (fun h => ?_)
        refine u_cVv2 (q := 65) C (c_X12_copies h) sy_X12_copies si_X12_copies ml_X12_161 ob_248 (by decide) so_X12_copies ⟨nb rfl, nb rfl⟩ (nb rfl) dX12_proves_62 rfl (fun μ10 h => ?_)
        refine v_aloadn (q := 66) C dX12_proves_65 rfl rfl ?_
        refine v_iloadn (q := 67) C dX12_proves_66 rfl rfl ?_
        refine v_bipush (q := 69) C dX12_proves_67 rfl (by decide) ?_
        refine v_iconst (q := 70) C dX12_proves_69 rfl (by decide) ?_
        refine v_aloadn (q := 71) C dX12_proves_70 rfl rfl ?_
        refine u_getI (q := 74) C kl12 fl_X12_171 ob_248 pt_248_35 rfl rfl dX12_proves_71 rfl ?_
        refine u_imul (q := 75) C dX12_proves_74 rfl h (fun h => ?_)
        refine u_iadd (q := 76) C dX12_proves_75 rfl h (fun h => ?_)
        refine v_iconst (q := 77) C dX12_proves_76 rfl (by decide) ?_
        refine u_iadd (q := 78) C dX12_proves_77 rfl h (fun h => ?_)
        refine u_cVv2 (q := 81) C (c_X12_copies h) sy_X12_copies si_X12_copies ml_X12_161 ob_248 (by decide) so_X12_copies ⟨nb rfl, nb rfl⟩ (nb rfl) dX12_proves_78 rfl (fun μ11 h => ?_)
        refine v_aloadn (q := 82) C dX12_proves_81 rfl rfl ?_
        refine v_dup (q := 83) C dX12_proves_82 rfl ?_
        refine u_getI (q := 86) C kl12 fl_X12_171 ob_248 pt_248_35 rfl rfl dX12_proves_83 rfl ?_
        refine v_iconst (q := 87) C dX12_proves_86 rfl (by decide) ?_
        refine u_iadd (q := 88) C dX12_proves_87 rfl h (fun h => ?_)
        refine u_put (q := 91) C kl12 fl_X12_171 ob_248 pt_248_35 rfl rfl rfl rfl dX12_proves_88 rfl h (fun μ12 h => ?_)
        refine v_iconst (q := 92) C dX12_proves_91 rfl (by decide) ?_
        exact u_iret hR dX12_proves_92 h
      · refine v_iconst (q := 92) C dX12_proves_91 rfl (by decide) ?_
        exact u_iret hR dX12_proves_92 h
  · refine v_iconst (q := 92) C dX12_proves_91 rfl (by decide) ?_
    exact u_iret hR dX12_proves_92 h
theorem w_X12_callsIn_90 {X : ZX} (C : zC X cX12_callsIn RX12 7 (some .int) 2 42 274) {K : Int → ZM → Prop} (hR : zRi X cX12_callsIn (some .int) 274 (KN (KI K)))  {x1 : Int} {x2 : Int} {x3 : Int} {x5 : Int} {s0 : Int} {s1 : Int} {μ : ZM} {G6 : Int → Int → ZM → Prop} (hG6 : ∀ (x4 x5 : Int) (μ : ZM), G6 x4 x5 μ → zV X 6 [some (.inr 248), some (.inl x1), some (.inl x2), some (.inl x3), some (.inl x4), some (.inl x5), none] [] 274 (z_ov μ))  (h : P_X12_callsIn_90  G6 x1 x2 x3 x5 s0 s1 μ K) : zV X 90 [some (.inr 248), some (.inl x1), some (.inl x2), some (.inl x3), none, some (.inl x5), none] [.inl s1, .inl s0] 274 (z_ov μ) := by
  refine u_iadd (q := 91) C dX12_callsIn_90 rfl h (fun h => ?_)
  refine v_istore (q := 93) C dX12_callsIn_91 rfl (nb rfl) (L' := [some (.inr 248), some (.inl x1), some (.inl x2), some (.inl x3), some (.inl (s0 + s1)), some (.inl x5), none]) rfl ?_
  refine u_iinc (q := 96) C dX12_callsIn_93 rfl (nb rfl) rfl (L' := [some (.inr 248), some (.inl x1), some (.inl x2), some (.inl x3), some (.inl (s0 + s1)), some (.inl (x5 + 1)), none]) rfl h (fun h => ?_)
  refine v_goto (q := 6) C dX12_callsIn_96 rfl ?_
  exact (hG6 _ _ _ h)
theorem w_X12_callsIn_89 {X : ZX} (C : zC X cX12_callsIn RX12 7 (some .int) 2 42 274) {K : Int → ZM → Prop} (hR : zRi X cX12_callsIn (some .int) 274 (KN (KI K)))  {x1 : Int} {x2 : Int} {x3 : Int} {x5 : Int} {s0 : Int} {μ : ZM} {G6 : Int → Int → ZM → Prop} (hG6 : ∀ (x4 x5 : Int) (μ : ZM), G6 x4 x5 μ → zV X 6 [some (.inr 248), some (.inl x1), some (.inl x2), some (.inl x3), some (.inl x4), some (.inl x5), none] [] 274 (z_ov μ))  (h : P_X12_callsIn_89  G6 x1 x2 x3 x5 s0 μ K) : zV X 89 [some (.inr 248), some (.inl x1), some (.inl x2), some (.inl x3), none, some (.inl x5), none] [.inl s0] 274 (z_ov μ) := by
  refine v_iconst (q := 90) C dX12_callsIn_89 rfl (by decide) ?_
  exact (w_X12_callsIn_90  C hR hG6  h)
theorem w_X12_callsIn_85 {X : ZX} (C : zC X cX12_callsIn RX12 7 (some .int) 2 42 274) {K : Int → ZM → Prop} (hR : zRi X cX12_callsIn (some .int) 274 (KN (KI K)))  {x1 : Int} {x2 : Int} {x3 : Int} {x5 : Int} {s0 : Int} {μ : ZM} {G6 : Int → Int → ZM → Prop} (hG6 : ∀ (x4 x5 : Int) (μ : ZM), G6 x4 x5 μ → zV X 6 [some (.inr 248), some (.inl x1), some (.inl x2), some (.inl x3), some (.inl x4), some (.inl x5), none] [] 274 (z_ov μ))  (h : P_X12_callsIn_85  G6 x1 x2 x3 x5 s0 μ K) : zV X 85 [some (.inr 248), some (.inl x1), some (.inl x2), some (.inl x3), none, some (.inl x5), none] [.inl s0] 274 (z_ov μ) := by
  refine v_iconst (q := 86) C dX12_callsIn_85 rfl (by decide) ?_
  refine v_goto (q := 90) C dX12_callsIn_86 rfl ?_
  exact (w_X12_callsIn_90  C hR hG6  h)
theorem w_X12_callsIn_53 {X : ZX} (C : zC X cX12_callsIn RX12 7 (some .int) 2 42 274) {K : Int → ZM → Prop} (hR : zRi X cX12_callsIn (some .int) 274 (KN (KI K)))  {x1 : Int} {x2 : Int} {x3 : Int} {x4 : Int} {x5 : Int} {s0 : Int} {μ : ZM} {G6 : Int → Int → ZM → Prop} (hG6 : ∀ (x4 x5 : Int) (μ : ZM), G6 x4 x5 μ → zV X 6 [some (.inr 248), some (.inl x1), some (.inl x2), some (.inl x3), some (.inl x4), some (.inl x5), none] [] 274 (z_ov μ))  (h : P_X12_callsIn_53  G6 x1 x2 x3 x4 x5 s0 μ K) : zV X 53 [some (.inr 248), some (.inl x1), some (.inl x2), some (.inl x3), some (.inl x4), some (.inl x5), none] [.inl s0] 274 (z_ov μ) := by
  refine v_istore (q := 55) C dX12_callsIn_53 rfl (nb rfl) (L' := [some (.inr 248), some (.inl x1), some (.inl x2), some (.inl x3), some (.inl x4), some (.inl x5), some (.inl s0)]) rfl ?_
  refine v_iload (q := 57) C dX12_callsIn_55 rfl rfl ?_
  refine v_iload (q := 59) C dX12_callsIn_57 rfl rfl ?_
  refine v_if_eq (q := 62) (tgt := 89) C dX12_callsIn_59 rfl rfl h (fun h => ?_) (fun h => ?_)
  · exact v_mask [true, true, true, true, false, true, false] rfl (w_X12_callsIn_89  C hR hG6  h)
  · refine v_iloadn (q := 63) C dX12_callsIn_62 rfl rfl ?_
    refine v_if_eq (q := 66) (tgt := 85) C dX12_callsIn_63 rfl rfl h (fun h => ?_) (fun h => ?_)
    · exact v_mask [true, true, true, true, false, true, false] rfl (w_X12_callsIn_85  C hR hG6  h)
    · refine v_aloadn (q := 67) C dX12_callsIn_66 rfl rfl ?_
      refine u_getR (q := 70) C kl12 fl_X12_22 ob_248 pt_248_6 (by decide) rfl rfl dX12_callsIn_67 rfl ?_
      refine v_aloadn (q := 71) C dX12_callsIn_70 rfl rfl ?_
      refine v_iloadn (q := 72) C dX12_callsIn_71 rfl rfl ?_
      refine v_iload (q := 74) C dX12_callsIn_72 rfl rfl ?_
      refine u_cVi2 (q := 77) C (c_X12_at h) sy_X12_at si_X12_at ml_X12_92 ob_248 (by decide) so_X12_at ⟨nb rfl, nb rfl⟩ (nb rfl) dX12_callsIn_74 rfl (fun r6 μ5 h => ?_)
      refine v_bipush (q := 79) C dX12_callsIn_77 rfl (by decide) ?_
      refine u_isub (q := 80) C dX12_callsIn_79 rfl h (fun h => ?_)
      refine u_iald (q := 81) C ia_253 dX12_callsIn_80 rfl h (fun h => ?_)
      refine v_iloadn (q := 82) C dX12_callsIn_81 rfl rfl ?_
      refine v_icmp_ne (q := 85) (tgt := 89) C dX12_callsIn_82 rfl rfl h (fun h => ?_) (fun h => ?_)
      · exact v_mask [true, true, true, true, false, true, false] rfl (w_X12_callsIn_85  C hR hG6  h)
      · exact v_mask [true, true, true, true, false, true, false] rfl (w_X12_callsIn_89  C hR hG6  h)
theorem w_X12_callsIn_52 {X : ZX} (C : zC X cX12_callsIn RX12 7 (some .int) 2 42 274) {K : Int → ZM → Prop} (hR : zRi X cX12_callsIn (some .int) 274 (KN (KI K)))  {x1 : Int} {x2 : Int} {x3 : Int} {x4 : Int} {x5 : Int} {μ : ZM} {G6 : Int → Int → ZM → Prop} (hG6 : ∀ (x4 x5 : Int) (μ : ZM), G6 x4 x5 μ → zV X 6 [some (.inr 248), some (.inl x1), some (.inl x2), some (.inl x3), some (.inl x4), some (.inl x5), none] [] 274 (z_ov μ))  (h : P_X12_callsIn_52  G6 x1 x2 x3 x4 x5 μ K) : zV X 52 [some (.inr 248), some (.inl x1), some (.inl x2), some (.inl x3), some (.inl x4), some (.inl x5), none] [] 274 (z_ov μ) := by
  refine v_iconst (q := 53) C dX12_callsIn_52 rfl (by decide) ?_
  exact (w_X12_callsIn_53  C hR hG6  h)
theorem w_X12_callsIn_6 {X : ZX} (C : zC X cX12_callsIn RX12 7 (some .int) 2 42 274) {K : Int → ZM → Prop} (hR : zRi X cX12_callsIn (some .int) 274 (KN (KI K)))  {x1 : Int} {x2 : Int} {x3 : Int} {x4 : Int} {x5 : Int} {μ : ZM}   (h : P_X12_callsIn_6   x1 x2 x3 x4 x5 μ K) : zV X 6 [some (.inr 248), some (.inl x1), some (.inl x2), some (.inl x3), some (.inl x4), some (.inl x5), none] [] 274 (z_ov μ) := by
  refine h (fun x4 x5 μ => zV X 6 [some (.inr 248), some (.inl x1), some (.inl x2), some (.inl x3), some (.inl x4), some (.inl x5), none] [] 274 (z_ov μ)) (fun x4 x5 μ h => ?_)
  refine v_iload (q := 8) C dX12_callsIn_6 rfl rfl ?_
  refine v_iconst (q := 9) C dX12_callsIn_8 rfl (by decide) ?_
  refine u_iadd (q := 10) C dX12_callsIn_9 rfl h (fun h => ?_)
  refine v_aloadn (q := 11) C dX12_callsIn_10 rfl rfl ?_
  refine u_getR (q := 14) C kl12 fl_X12_13 ob_248 pt_248_1 (by decide) rfl rfl dX12_callsIn_11 rfl ?_
  refine v_iloadn (q := 15) C dX12_callsIn_14 rfl rfl ?_
  refine u_iald (q := 16) C ia_250 dX12_callsIn_15 rfl h (fun h => ?_)
  refine v_icmp_ge (q := 19) (tgt := 99) C dX12_callsIn_16 rfl rfl h (fun h => ?_) (fun h => ?_)
  · refine v_iload (q := 101) C dX12_callsIn_99 rfl rfl ?_
    exact u_iret hR dX12_callsIn_101 h
  · refine v_aloadn (q := 20) C dX12_callsIn_19 rfl rfl ?_
    refine v_iloadn (q := 21) C dX12_callsIn_20 rfl rfl ?_
    refine v_iload (q := 23) C dX12_callsIn_21 rfl rfl ?_
    refine u_cVi2 (q := 26) C (c_X12_at h) sy_X12_at si_X12_at ml_X12_92 ob_248 (by decide) so_X12_at ⟨nb rfl, nb rfl⟩ (nb rfl) dX12_callsIn_23 rfl (fun r2 μ1 h => ?_)
    refine u_cSi1 (q := 29) C (c_X12_isLetter h) sy_X12_isLetter ss_X12_isLetter ml_X12_100 ⟨nb rfl, nb rfl⟩ (nb rfl) dX12_callsIn_26 rfl (fun r4 μ3 h => ?_)
    refine v_if_eq (q := 32) (tgt := 52) C dX12_callsIn_29 rfl rfl h (fun h => ?_) (fun h => ?_)
    · exact (w_X12_callsIn_52  C hR (fun _ _ _ h => h)  h)
    · refine v_aloadn (q := 33) C dX12_callsIn_32 rfl rfl ?_
      refine v_iloadn (q := 34) C dX12_callsIn_33 rfl rfl ?_
      refine v_iload (q := 36) C dX12_callsIn_34 rfl rfl ?_
      refine v_iconst (q := 37) C dX12_callsIn_36 rfl (by decide) ?_
      refine u_iadd (q := 38) C dX12_callsIn_37 rfl h (fun h => ?_)
      refine u_cVi2 (q := 41) C (c_X12_at h) sy_X12_at si_X12_at ml_X12_92 ob_248 (by decide) so_X12_at ⟨nb rfl, nb rfl⟩ (nb rfl) dX12_callsIn_38 rfl (fun r8 μ7 h => ?_)
      refine v_bipush (q := 43) C dX12_callsIn_41 rfl (by decide) ?_
      refine v_iloadn (q := 44) C dX12_callsIn_43 rfl rfl ?_
      refine u_iadd (q := 45) C dX12_callsIn_44 rfl h (fun h => ?_)
      refine v_icmp_ne (q := 48) (tgt := 52) C dX12_callsIn_45 rfl rfl h (fun h => ?_) (fun h => ?_)
      · refine v_iconst (q := 49) C dX12_callsIn_48 rfl (by decide) ?_
        refine v_goto (q := 53) C dX12_callsIn_49 rfl ?_
        exact (w_X12_callsIn_53  C hR (fun _ _ _ h => h)  h)
      · exact (w_X12_callsIn_52  C hR (fun _ _ _ h => h)  h)
theorem c_X12_callsIn {x1 : Int} {x2 : Int} {x3 : Int} {μ : ZM} {K : Int → ZM → Prop} (h : P_X12_callsIn  x1 x2 x3 μ K) : zMu yX12_callsIn cX12_callsIn 7 (some .int) 2 42 [.inr 248, .inl x1, .inl x2, .inl x3] μ (KI K) := by
  refine zMet_of (L0 := [some (.inr 248), some (.inl x1), some (.inl x2), some (.inl x3), none, none, none]) sy_X12_callsIn rfl (nb rfl) (Nat.le_refl _) (fun X C _ hR _ _ => ?_)
  have C : zC X cX12_callsIn RX12 7 (some .int) 2 42 274 := C
  refine v_iconst (q := 1) C dX12_callsIn_0 rfl (by decide) ?_
  refine v_istore (q := 3) C dX12_callsIn_1 rfl (nb rfl) (L' := [some (.inr 248), some (.inl x1), some (.inl x2), some (.inl x3), some (.inl 0), none, none]) rfl ?_
  refine v_iconst (q := 4) C dX12_callsIn_3 rfl (by decide) ?_
  refine v_istore (q := 6) C dX12_callsIn_4 rfl (nb rfl) (L' := [some (.inr 248), some (.inl x1), some (.inl x2), some (.inl x3), some (.inl 0), some (.inl 0), none]) rfl ?_
  exact (w_X12_callsIn_6  C hR   h)
theorem w_X12_findScheme_103 {X : ZX} (C : zC X cX12_findScheme RX12 6 (some .boolean) 3 68 274) {K : Int → ZM → Prop} (hR : zRi X cX12_findScheme (some .boolean) 274 (KN (KI K)))  {x1 : Int} {x2 : Int} {x3 : Int} {μ : ZM} {G7 : Int → ZM → Prop} (hG7 : ∀ (x3 : Int) (μ : ZM), G7 x3 μ → zV X 7 [some (.inr 248), some (.inl x1), some (.inl x2), some (.inl x3), none, none] [] 274 (z_ov μ))  (h : P_X12_findScheme_103  G7 x1 x2 x3 μ K) : zV X 103 [some (.inr 248), some (.inl x1), some (.inl x2), some (.inl x3), none, none] [] 274 (z_ov μ) := by
  refine u_iinc (q := 106) C dX12_findScheme_103 rfl (nb rfl) rfl (L' := [some (.inr 248), some (.inl x1), some (.inl x2), some (.inl (x3 + 1)), none, none]) rfl h (fun h => ?_)
  refine v_goto (q := 7) C dX12_findScheme_106 rfl ?_
  exact (hG7 _ _ h)
theorem w_X12_findScheme_86 {X : ZX} (C : zC X cX12_findScheme RX12 6 (some .boolean) 3 68 274) {K : Int → ZM → Prop} (hR : zRi X cX12_findScheme (some .boolean) 274 (KN (KI K)))  {x1 : Int} {x2 : Int} {x3 : Int} {x4 : Int} {x5 : Int} {μ : ZM} {G7 : Int → ZM → Prop} (hG7 : ∀ (x3 : Int) (μ : ZM), G7 x3 μ → zV X 7 [some (.inr 248), some (.inl x1), some (.inl x2), some (.inl x3), none, none] [] 274 (z_ov μ))  (h : P_X12_findScheme_86  G7 x1 x2 x3 x4 x5 μ K) : zV X 86 [some (.inr 248), some (.inl x1), some (.inl x2), some (.inl x3), some (.inl x4), some (.inl x5)] [] 274 (z_ov μ) := by
  refine v_aloadn (q := 87) C dX12_findScheme_86 rfl rfl ?_
  refine v_iload (q := 89) C dX12_findScheme_87 rfl rfl ?_
  refine u_put (q := 92) C kl12 fl_X12_251 ob_248 pt_248_30 rfl rfl rfl rfl dX12_findScheme_89 rfl h (fun μ10 h => ?_)
  refine v_aloadn (q := 93) C dX12_findScheme_92 rfl rfl ?_
  refine v_iload (q := 95) C dX12_findScheme_93 rfl rfl ?_
  refine u_put (q := 98) C kl12 fl_X12_257 ob_248 pt_248_29 rfl rfl rfl rfl dX12_findScheme_95 rfl h (fun μ11 h => ?_)
  refine v_aloadn (q := 99) C dX12_findScheme_98 rfl rfl ?_
  refine v_iloadn (q := 100) C dX12_findScheme_99 rfl rfl ?_
  refine u_put (q := 103) C kl12 fl_X12_260 ob_248 pt_248_28 rfl rfl rfl rfl dX12_findScheme_100 rfl h (fun μ12 h => ?_)
  exact v_mask [true, true, true, true, false, false] rfl (w_X12_findScheme_103  C hR hG7  h)
theorem w_X12_findScheme_52 {X : ZX} (C : zC X cX12_findScheme RX12 6 (some .boolean) 3 68 274) {K : Int → ZM → Prop} (hR : zRi X cX12_findScheme (some .boolean) 274 (KN (KI K)))  {x1 : Int} {x2 : Int} {x3 : Int} {x4 : Int} {s0 : Int} {μ : ZM} {G7 : Int → ZM → Prop} (hG7 : ∀ (x3 : Int) (μ : ZM), G7 x3 μ → zV X 7 [some (.inr 248), some (.inl x1), some (.inl x2), some (.inl x3), none, none] [] 274 (z_ov μ))  (h : P_X12_findScheme_52  G7 x1 x2 x3 x4 s0 μ K) : zV X 52 [some (.inr 248), some (.inl x1), some (.inl x2), some (.inl x3), some (.inl x4), none] [.inl s0] 274 (z_ov μ) := by
  refine v_istore (q := 54) C dX12_findScheme_52 rfl (nb rfl) (L' := [some (.inr 248), some (.inl x1), some (.inl x2), some (.inl x3), some (.inl x4), some (.inl s0)]) rfl ?_
  refine v_iload (q := 56) C dX12_findScheme_54 rfl rfl ?_
  refine v_aloadn (q := 57) C dX12_findScheme_56 rfl rfl ?_
  refine u_getI (q := 60) C kl12 fl_X12_251 ob_248 pt_248_30 rfl rfl dX12_findScheme_57 rfl ?_
  refine v_icmp_gt (q := 63) (tgt := 86) C dX12_findScheme_60 rfl rfl h (fun h => ?_) (fun h => ?_)
  · exact (w_X12_findScheme_86  C hR hG7  h)
  · refine v_iload (q := 65) C dX12_findScheme_63 rfl rfl ?_
    refine v_if_le (q := 68) (tgt := 103) C dX12_findScheme_65 rfl rfl h (fun h => ?_) (fun h => ?_)
    · exact v_mask [true, true, true, true, false, false] rfl (w_X12_findScheme_103  C hR hG7  h)
    · refine v_iload (q := 70) C dX12_findScheme_68 rfl rfl ?_
      refine v_aloadn (q := 71) C dX12_findScheme_70 rfl rfl ?_
      refine u_getI (q := 74) C kl12 fl_X12_251 ob_248 pt_248_30 rfl rfl dX12_findScheme_71 rfl ?_
      refine v_icmp_ne (q := 77) (tgt := 103) C dX12_findScheme_74 rfl rfl h (fun h => ?_) (fun h => ?_)
      · refine v_iload (q := 79) C dX12_findScheme_77 rfl rfl ?_
        refine v_aloadn (q := 80) C dX12_findScheme_79 rfl rfl ?_
        refine u_getI (q := 83) C kl12 fl_X12_257 ob_248 pt_248_29 rfl rfl dX12_findScheme_80 rfl ?_
        refine v_icmp_ge (q := 86) (tgt := 103) C dX12_findScheme_83 rfl rfl h (fun h => ?_) (fun h => ?_)
        · exact v_mask [true, true, true, true, false, false] rfl (w_X12_findScheme_103  C hR hG7  h)
        · exact (w_X12_findScheme_86  C hR hG7  h)
      · exact v_mask [true, true, true, true, false, false] rfl (w_X12_findScheme_103  C hR hG7  h)
theorem w_X12_findScheme_7 {X : ZX} (C : zC X cX12_findScheme RX12 6 (some .boolean) 3 68 274) {K : Int → ZM → Prop} (hR : zRi X cX12_findScheme (some .boolean) 274 (KN (KI K)))  {x1 : Int} {x2 : Int} {x3 : Int} {μ : ZM}   (h : P_X12_findScheme_7   x1 x2 x3 μ K) : zV X 7 [some (.inr 248), some (.inl x1), some (.inl x2), some (.inl x3), none, none] [] 274 (z_ov μ) := by
  refine h (fun x3 μ => zV X 7 [some (.inr 248), some (.inl x1), some (.inl x2), some (.inl x3), none, none] [] 274 (z_ov μ)) (fun x3 μ h => ?_)
  refine v_iloadn (q := 8) C dX12_findScheme_7 rfl rfl ?_
  refine v_iconst (q := 9) C dX12_findScheme_8 rfl (by decide) ?_
  refine v_icmp_ge (q := 12) (tgt := 109) C dX12_findScheme_9 rfl rfl h (fun h => ?_) (fun h => ?_)
  · refine v_aloadn (q := 110) C dX12_findScheme_109 rfl rfl ?_
    refine u_getI (q := 113) C kl12 fl_X12_251 ob_248 pt_248_30 rfl rfl dX12_findScheme_110 rfl ?_
    refine v_if_le (q := 116) (tgt := 120) C dX12_findScheme_113 rfl rfl h (fun h => ?_) (fun h => ?_)
    · refine v_iconst (q := 121) C dX12_findScheme_120 rfl (by decide) ?_
      exact u_zret hR dX12_findScheme_121 h
    · refine v_iconst (q := 117) C dX12_findScheme_116 rfl (by decide) ?_
      refine v_goto (q := 121) C dX12_findScheme_117 rfl ?_
      exact u_zret hR dX12_findScheme_121 h
  · refine v_aloadn (q := 13) C dX12_findScheme_12 rfl rfl ?_
    refine v_iloadn (q := 14) C dX12_findScheme_13 rfl rfl ?_
    refine v_iloadn (q := 15) C dX12_findScheme_14 rfl rfl ?_
    refine v_iconst (q := 16) C dX12_findScheme_15 rfl (by decide) ?_
    refine u_cVi3 (q := 19) C (c_X12_callsIn h) sy_X12_callsIn si_X12_callsIn ml_X12_254 ob_248 (by decide) so_X12_callsIn ⟨nb rfl, nb rfl⟩ (nb rfl) dX12_findScheme_16 rfl (fun r3 μ2 h => ?_)
    refine v_aloadn (q := 20) C dX12_findScheme_19 rfl rfl ?_
    refine v_iloadn (q := 21) C dX12_findScheme_20 rfl rfl ?_
    refine v_iloadn (q := 22) C dX12_findScheme_21 rfl rfl ?_
    refine v_iconst (q := 23) C dX12_findScheme_22 rfl (by decide) ?_
    refine u_cVi3 (q := 26) C (c_X12_callsIn h) sy_X12_callsIn si_X12_callsIn ml_X12_254 ob_248 (by decide) so_X12_callsIn ⟨nb rfl, nb rfl⟩ (nb rfl) dX12_findScheme_23 rfl (fun r5 μ4 h => ?_)
    refine u_iadd (q := 27) C dX12_findScheme_26 rfl h (fun h => ?_)
    refine v_istore (q := 29) C dX12_findScheme_27 rfl (nb rfl) (L' := [some (.inr 248), some (.inl x1), some (.inl x2), some (.inl x3), some (.inl (r3 + r5)), none]) rfl ?_
    refine v_aloadn (q := 30) C dX12_findScheme_29 rfl rfl ?_
    refine v_iloadn (q := 31) C dX12_findScheme_30 rfl rfl ?_
    refine v_iloadn (q := 32) C dX12_findScheme_31 rfl rfl ?_
    refine v_iconst (q := 33) C dX12_findScheme_32 rfl (by decide) ?_
    refine u_cVi3 (q := 36) C (c_X12_callsIn h) sy_X12_callsIn si_X12_callsIn ml_X12_254 ob_248 (by decide) so_X12_callsIn ⟨nb rfl, nb rfl⟩ (nb rfl) dX12_findScheme_33 rfl (fun r7 μ6 h => ?_)
    refine v_aloadn (q := 37) C dX12_findScheme_36 rfl rfl ?_
    refine v_iloadn (q := 38) C dX12_findScheme_37 rfl rfl ?_
    refine v_iloadn (q := 39) C dX12_findScheme_38 rfl rfl ?_
    refine v_iconst (q := 40) C dX12_findScheme_39 rfl (by decide) ?_
    refine u_cVi3 (q := 43) C (c_X12_callsIn h) sy_X12_callsIn si_X12_callsIn ml_X12_254 ob_248 (by decide) so_X12_callsIn ⟨nb rfl, nb rfl⟩ (nb rfl) dX12_findScheme_40 rfl (fun r9 μ8 h => ?_)
    refine u_iadd (q := 44) C dX12_findScheme_43 rfl h (fun h => ?_)
    refine v_if_le (q := 47) (tgt := 51) C dX12_findScheme_44 rfl rfl h (fun h => ?_) (fun h => ?_)
    · refine v_iconst (q := 52) C dX12_findScheme_51 rfl (by decide) ?_
      exact (w_X12_findScheme_52  C hR (fun _ _ h => h)  h)
    · refine v_iconst (q := 48) C dX12_findScheme_47 rfl (by decide) ?_
      refine v_goto (q := 52) C dX12_findScheme_48 rfl ?_
      exact (w_X12_findScheme_52  C hR (fun _ _ h => h)  h)
theorem c_X12_findScheme {x1 : Int} {x2 : Int} {μ : ZM} {K : Int → ZM → Prop} (h : P_X12_findScheme  x1 x2 μ K) : zMu yX12_findScheme cX12_findScheme 6 (some .boolean) 3 68 [.inr 248, .inl x1, .inl x2] μ (KI K) := by
  refine zMet_of (L0 := [some (.inr 248), some (.inl x1), some (.inl x2), none, none, none]) sy_X12_findScheme rfl (nb rfl) (Nat.le_refl _) (fun X C _ hR _ _ => ?_)
  have C : zC X cX12_findScheme RX12 6 (some .boolean) 3 68 274 := C
  refine v_aloadn (q := 1) C dX12_findScheme_0 rfl rfl ?_
  refine v_iconst (q := 2) C dX12_findScheme_1 rfl (by decide) ?_
  refine u_put (q := 5) C kl12 fl_X12_251 ob_248 pt_248_30 rfl rfl rfl rfl dX12_findScheme_2 rfl h (fun μ1 h => ?_)
  refine v_iconst (q := 6) C dX12_findScheme_5 rfl (by decide) ?_
  refine v_istoren (q := 7) C dX12_findScheme_6 rfl (nb rfl) (L' := [some (.inr 248), some (.inl x1), some (.inl x2), some (.inl 0), none, none]) rfl ?_
  exact (w_X12_findScheme_7  C hR   h)
theorem c_X12_begins  {μ : ZM} {K : Int → ZM → Prop} (h : P_X12_begins   μ K) : zMu yX12_begins cX12_begins 3 (some .int) 7 173 [.inr 248] μ (KI K) := by
  refine zMet_of (L0 := [some (.inr 248), none, none]) sy_X12_begins rfl (nb rfl) (Nat.le_refl _) (fun X C _ hR _ _ => ?_)
  have C : zC X cX12_begins RX12 3 (some .int) 7 173 274 := C
  refine v_aloadn (q := 1) C dX12_begins_0 rfl rfl ?_
  refine v_iconst (q := 2) C dX12_begins_1 rfl (by decide) ?_
  refine v_iconst (q := 3) C dX12_begins_2 rfl (by decide) ?_
  refine u_cVi2 (q := 6) C (c_X12_slotOf h) sy_X12_slotOf si_X12_slotOf ml_X12_346 ob_248 (by decide) so_X12_slotOf ⟨nb rfl, nb rfl⟩ (nb rfl) dX12_begins_3 rfl (fun r2 μ1 h => ?_)
  refine v_istoren (q := 7) C dX12_begins_6 rfl (nb rfl) (L' := [some (.inr 248), some (.inl r2), none]) rfl ?_
  refine v_aloadn (q := 8) C dX12_begins_7 rfl rfl ?_
  refine v_iconst (q := 9) C dX12_begins_8 rfl (by decide) ?_
  refine v_iconst (q := 10) C dX12_begins_9 rfl (by decide) ?_
  refine u_cVi2 (q := 13) C (c_X12_slotOf h) sy_X12_slotOf si_X12_slotOf ml_X12_346 ob_248 (by decide) so_X12_slotOf ⟨nb rfl, nb rfl⟩ (nb rfl) dX12_begins_10 rfl (fun r4 μ3 h => ?_)
  refine v_istoren (q := 14) C dX12_begins_13 rfl (nb rfl) (L' := [some (.inr 248), some (.inl r2), some (.inl r4)]) rfl ?_
  refine v_aloadn (q := 15) C dX12_begins_14 rfl rfl ?_
  refine v_iconst (q := 16) C dX12_begins_15 rfl (by decide) ?_
  refine v_aloadn (q := 17) C dX12_begins_16 rfl rfl ?_
  refine u_getI (q := 20) C kl12 fl_X12_334 ob_248 pt_248_46 rfl rfl dX12_begins_17 rfl ?_
  refine u_cVv2 (q := 23) C (c_X12_notesIt h) sy_X12_notesIt si_X12_notesIt ml_X12_308 ob_248 (by decide) so_X12_notesIt ⟨nb rfl, nb rfl⟩ (nb rfl) dX12_begins_20 rfl (fun μ5 h => ?_)
  refine v_aloadn (q := 24) C dX12_begins_23 rfl rfl ?_
  refine v_iconst (q := 25) C dX12_begins_24 rfl (by decide) ?_
  refine u_putZ (q := 28) C kl12 fl_X12_352 ob_248 pt_248_45 rfl rfl rfl rfl dX12_begins_25 rfl h (fun μ6 h => ?_)
  refine v_aloadn (q := 29) C dX12_begins_28 rfl rfl ?_
  refine v_iloadn (q := 30) C dX12_begins_29 rfl rfl ?_
  refine v_iloadn (q := 31) C dX12_begins_30 rfl rfl ?_
  refine u_cVi2 (q := 34) C (c_X12_counterexample h) sy_X12_counterexample si_X12_counterexample ml_X12_218 ob_248 (by decide) so_X12_counterexample ⟨nb rfl, nb rfl⟩ (nb rfl) dX12_begins_31 rfl (fun r8 μ7 h => ?_)
  refine v_bipush (q := 36) C dX12_begins_34 rfl (by decide) ?_
  refine v_icmp_eq (q := 39) (tgt := 46) C dX12_begins_36 rfl rfl h (fun h => ?_) (fun h => ?_)
  · refine v_aloadn (q := 47) C dX12_begins_46 rfl rfl ?_
    refine v_iloadn (q := 48) C dX12_begins_47 rfl rfl ?_
    refine v_aloadn (q := 49) C dX12_begins_48 rfl rfl ?_
    refine v_iconst (q := 50) C dX12_begins_49 rfl (by decide) ?_
    refine v_iconst (q := 51) C dX12_begins_50 rfl (by decide) ?_
    refine u_cVi2 (q := 54) C (c_X12_slotOf h) sy_X12_slotOf si_X12_slotOf ml_X12_346 ob_248 (by decide) so_X12_slotOf ⟨nb rfl, nb rfl⟩ (nb rfl) dX12_begins_51 rfl (fun r10 μ9 h => ?_)
    refine u_cVi2 (q := 57) C (c_X12_makesNormal h) sy_X12_makesNormal si_X12_makesNormal ml_X12_248 ob_248 (by decide) so_X12_makesNormal ⟨nb rfl, nb rfl⟩ (nb rfl) dX12_begins_54 rfl (fun r12 μ11 h => ?_)
    refine v_if_eq (q := 60) (tgt := 74) C dX12_begins_57 rfl rfl h (fun h => ?_) (fun h => ?_)
    · refine v_iconst (q := 75) C dX12_begins_74 rfl (by decide) ?_
      exact u_iret hR dX12_begins_75 h
    · refine v_aloadn (q := 61) C dX12_begins_60 rfl rfl ?_
      refine v_iloadn (q := 62) C dX12_begins_61 rfl rfl ?_
      refine v_aloadn (q := 63) C dX12_begins_62 rfl rfl ?_
      refine v_iconst (q := 64) C dX12_begins_63 rfl (by decide) ?_
      refine v_iconst (q := 65) C dX12_begins_64 rfl (by decide) ?_
      refine u_cVi2 (q := 68) C (c_X12_slotOf h) sy_X12_slotOf si_X12_slotOf ml_X12_346 ob_248 (by decide) so_X12_slotOf ⟨nb rfl, nb rfl⟩ (nb rfl) dX12_begins_65 rfl (fun r14 μ13 h => ?_)
      refine u_cVi2 (q := 71) C (c_X12_makesNormal h) sy_X12_makesNormal si_X12_makesNormal ml_X12_248 ob_248 (by decide) so_X12_makesNormal ⟨nb rfl, nb rfl⟩ (nb rfl) dX12_begins_68 rfl (fun r16 μ15 h => ?_)
      refine v_if_ne (q := 74) (tgt := 76) C dX12_begins_71 rfl rfl h (fun h => ?_) (fun h => ?_)
      · refine v_iconst (q := 75) C dX12_begins_74 rfl (by decide) ?_
        exact u_iret hR dX12_begins_75 h
      · refine v_aloadn (q := 77) C dX12_begins_76 rfl rfl ?_
        refine v_aloadn (q := 78) C dX12_begins_77 rfl rfl ?_
        refine v_iconst (q := 79) C dX12_begins_78 rfl (by decide) ?_
        refine v_iconst (q := 80) C dX12_begins_79 rfl (by decide) ?_
        refine u_cVi2 (q := 83) C (c_X12_slotOf h) sy_X12_slotOf si_X12_slotOf ml_X12_346 ob_248 (by decide) so_X12_slotOf ⟨nb rfl, nb rfl⟩ (nb rfl) dX12_begins_80 rfl (fun r18 μ17 h => ?_)
        refine v_aloadn (q := 84) C dX12_begins_83 rfl rfl ?_
        refine v_iconst (q := 85) C dX12_begins_84 rfl (by decide) ?_
        refine v_iconst (q := 86) C dX12_begins_85 rfl (by decide) ?_
        refine u_cVi2 (q := 89) C (c_X12_slotOf h) sy_X12_slotOf si_X12_slotOf ml_X12_346 ob_248 (by decide) so_X12_slotOf ⟨nb rfl, nb rfl⟩ (nb rfl) dX12_begins_86 rfl (fun r20 μ19 h => ?_)
        refine u_cVi2 (q := 92) C (c_X12_areSame h) sy_X12_areSame si_X12_areSame ml_X12_343 ob_248 (by decide) so_X12_areSame ⟨nb rfl, nb rfl⟩ (nb rfl) dX12_begins_89 rfl (fun r22 μ21 h => ?_)
        refine v_if_eq (q := 95) (tgt := 106) C dX12_begins_92 rfl rfl h (fun h => ?_) (fun h => ?_)
        · refine v_aloadn (q := 107) C dX12_begins_106 rfl rfl ?_
          refine v_aloadn (q := 108) C dX12_begins_107 rfl rfl ?_
          refine v_iconst (q := 109) C dX12_begins_108 rfl (by decide) ?_
          refine v_iconst (q := 110) C dX12_begins_109 rfl (by decide) ?_
          refine u_cVi2 (q := 113) C (c_X12_slotOf h) sy_X12_slotOf si_X12_slotOf ml_X12_346 ob_248 (by decide) so_X12_slotOf ⟨nb rfl, nb rfl⟩ (nb rfl) dX12_begins_110 rfl (fun r24 μ23 h => ?_)
          refine v_aloadn (q := 114) C dX12_begins_113 rfl rfl ?_
          refine v_iconst (q := 115) C dX12_begins_114 rfl (by decide) ?_
          refine v_iconst (q := 116) C dX12_begins_115 rfl (by decide) ?_
          refine u_cVi2 (q := 119) C (c_X12_slotOf h) sy_X12_slotOf si_X12_slotOf ml_X12_346 ob_248 (by decide) so_X12_slotOf ⟨nb rfl, nb rfl⟩ (nb rfl) dX12_begins_116 rfl (fun r26 μ25 h => ?_)
          refine u_cVi2 (q := 122) C (c_X12_findScheme h) sy_X12_findScheme si_X12_findScheme ml_X12_263 ob_248 (by decide) so_X12_findScheme ⟨nb rfl, nb rfl⟩ (nb rfl) dX12_begins_119 rfl (fun r28 μ27 h => ?_)
          refine v_if_ne (q := 125) (tgt := 132) C dX12_begins_122 rfl rfl h (fun h => ?_) (fun h => ?_)
          · refine v_aloadn (q := 126) C dX12_begins_125 rfl rfl ?_
            refine v_iconst (q := 127) C dX12_begins_126 rfl (by decide) ?_
            refine v_iconst (q := 128) C dX12_begins_127 rfl (by decide) ?_
            refine u_cVi2 (q := 131) C (c_X12_fails h) sy_X12_fails si_X12_fails ml_X12_355 ob_248 (by decide) so_X12_fails ⟨nb rfl, nb rfl⟩ (nb rfl) dX12_begins_128 rfl (fun r30 μ29 h => ?_)
            exact u_iret hR dX12_begins_131 h
          · refine v_aloadn (q := 133) C dX12_begins_132 rfl rfl ?_
            refine v_iconst (q := 134) C dX12_begins_133 rfl (by decide) ?_
            refine v_bipush (q := 136) C dX12_begins_134 rfl (by decide) ?_
            refine v_aloadn (q := 137) C dX12_begins_136 rfl rfl ?_
            refine u_getI (q := 140) C kl12 fl_X12_257 ob_248 pt_248_29 rfl rfl dX12_begins_137 rfl ?_
            refine u_imul (q := 141) C dX12_begins_140 rfl h (fun h => ?_)
            refine v_aloadn (q := 142) C dX12_begins_141 rfl rfl ?_
            refine u_getI (q := 145) C kl12 fl_X12_260 ob_248 pt_248_28 rfl rfl dX12_begins_142 rfl ?_
            refine u_iadd (q := 146) C dX12_begins_145 rfl h (fun h => ?_)
            refine u_cVv2 (q := 149) C (c_X12_notesIt h) sy_X12_notesIt si_X12_notesIt ml_X12_308 ob_248 (by decide) so_X12_notesIt ⟨nb rfl, nb rfl⟩ (nb rfl) dX12_begins_146 rfl (fun μ31 h => ?_)
            refine v_aloadn (q := 150) C dX12_begins_149 rfl rfl ?_
            refine u_getR (q := 153) C kl12 fl_X12_86 ob_248 pt_248_48 (by decide) rfl rfl dX12_begins_150 rfl ?_
            refine v_aloadn (q := 154) C dX12_begins_153 rfl rfl ?_
            refine u_getI (q := 157) C kl12 fl_X12_334 ob_248 pt_248_46 rfl rfl dX12_begins_154 rfl ?_
            refine v_aloadn (q := 158) C dX12_begins_157 rfl rfl ?_
            refine u_getI (q := 161) C kl12 fl_X12_260 ob_248 pt_248_28 rfl rfl dX12_begins_158 rfl ?_
            refine u_iast (q := 162) C ia_273 dX12_begins_161 rfl h (fun μ32 h => ?_)
            refine v_aloadn (q := 163) C dX12_begins_162 rfl rfl ?_
            refine u_getR (q := 166) C kl12 fl_X12_89 ob_248 pt_248_49 (by decide) rfl rfl dX12_begins_163 rfl ?_
            refine v_aloadn (q := 167) C dX12_begins_166 rfl rfl ?_
            refine u_getI (q := 170) C kl12 fl_X12_334 ob_248 pt_248_46 rfl rfl dX12_begins_167 rfl ?_
            refine v_aloadn (q := 171) C dX12_begins_170 rfl rfl ?_
            refine u_getI (q := 174) C kl12 fl_X12_257 ob_248 pt_248_29 rfl rfl dX12_begins_171 rfl ?_
            refine u_iast (q := 175) C ia_274 dX12_begins_174 rfl h (fun μ33 h => ?_)
            refine v_aloadn (q := 176) C dX12_begins_175 rfl rfl ?_
            refine u_getR (q := 179) C kl12 fl_X12_83 ob_248 pt_248_47 (by decide) rfl rfl dX12_begins_176 rfl ?_
            refine v_aloadn (q := 180) C dX12_begins_179 rfl rfl ?_
            refine u_getI (q := 183) C kl12 fl_X12_334 ob_248 pt_248_46 rfl rfl dX12_begins_180 rfl ?_
            refine v_iconst (q := 184) C dX12_begins_183 rfl (by decide) ?_
            refine u_iast (q := 185) C ia_272 dX12_begins_184 rfl h (fun μ34 h => ?_)
            refine v_iconst (q := 186) C dX12_begins_185 rfl (by decide) ?_
            exact u_iret hR dX12_begins_186 h
        · refine v_aloadn (q := 96) C dX12_begins_95 rfl rfl ?_
          refine v_iconst (q := 97) C dX12_begins_96 rfl (by decide) ?_
          refine v_iconst (q := 98) C dX12_begins_97 rfl (by decide) ?_
          refine u_cVv2 (q := 101) C (c_X12_notesIt h) sy_X12_notesIt si_X12_notesIt ml_X12_308 ob_248 (by decide) so_X12_notesIt ⟨nb rfl, nb rfl⟩ (nb rfl) dX12_begins_98 rfl (fun μ35 h => ?_)
          refine v_aloadn (q := 102) C dX12_begins_101 rfl rfl ?_
          refine u_cVi0 (q := 105) C (c_X12_proves h) sy_X12_proves si_X12_proves ml_X12_359 ob_248 (by decide) so_X12_proves ⟨nb rfl, nb rfl⟩ (nb rfl) dX12_begins_102 rfl (fun r37 μ36 h => ?_)
          exact u_iret hR dX12_begins_105 h
  · refine v_aloadn (q := 40) C dX12_begins_39 rfl rfl ?_
    refine v_iconst (q := 41) C dX12_begins_40 rfl (by decide) ?_
    refine v_iconst (q := 42) C dX12_begins_41 rfl (by decide) ?_
    refine u_cVi2 (q := 45) C (c_X12_fails h) sy_X12_fails si_X12_fails ml_X12_355 ob_248 (by decide) so_X12_fails ⟨nb rfl, nb rfl⟩ (nb rfl) dX12_begins_42 rfl (fun r39 μ38 h => ?_)
    exact u_iret hR dX12_begins_45 h
theorem w_X12_end_5 {X : ZX} (C : zC X cX12_end RX12 5 (some .int) 3 63 274) {K : Int → ZM → Prop} (hR : zRi X cX12_end (some .int) 274 (KN (KI K)))  {x1 : Int} {x3 : Int} {x4 : Int} {μ : ZM}   (h : P_X12_end_5   x1 x3 x4 μ K) : zV X 5 [some (.inr 248), some (.inl x1), none, some (.inl x3), some (.inl x4)] [] 274 (z_ov μ) := by
  refine h (fun x3 x4 μ => zV X 5 [some (.inr 248), some (.inl x1), none, some (.inl x3), some (.inl x4)] [] 274 (z_ov μ)) (fun x3 x4 μ h => ?_)
  refine v_iloadn (q := 6) C dX12_end_5 rfl rfl ?_
  refine v_if_le (q := 9) (tgt := 31) C dX12_end_6 rfl rfl h (fun h => ?_) (fun h => ?_)
  · refine v_iload (q := 33) C dX12_end_31 rfl rfl ?_
    exact u_iret hR dX12_end_33 h
  · refine v_iloadn (q := 10) C dX12_end_9 rfl rfl ?_
    refine v_aloadn (q := 11) C dX12_end_10 rfl rfl ?_
    refine v_aloadn (q := 12) C dX12_end_11 rfl rfl ?_
    refine v_iloadn (q := 13) C dX12_end_12 rfl rfl ?_
    refine v_iload (q := 15) C dX12_end_13 rfl rfl ?_
    refine u_cVi2 (q := 18) C (c_X12_at h) sy_X12_at si_X12_at ml_X12_92 ob_248 (by decide) so_X12_at ⟨nb rfl, nb rfl⟩ (nb rfl) dX12_end_15 rfl (fun r2 μ1 h => ?_)
    refine u_cVi1 (q := 21) C (c_X12_arity h) sy_X12_arity si_X12_arity ml_X12_104 ob_248 (by decide) so_X12_arity ⟨nb rfl, nb rfl⟩ (nb rfl) dX12_end_18 rfl (fun r4 μ3 h => ?_)
    refine v_iconst (q := 22) C dX12_end_21 rfl (by decide) ?_
    refine u_isub (q := 23) C dX12_end_22 rfl h (fun h => ?_)
    refine u_iadd (q := 24) C dX12_end_23 rfl h (fun h => ?_)
    refine v_istoren (q := 25) C dX12_end_24 rfl (nb rfl) (L' := [some (.inr 248), some (.inl x1), none, some (.inl (x3 + (r4 - 1))), some (.inl x4)]) rfl ?_
    refine u_iinc (q := 28) C dX12_end_25 rfl (nb rfl) rfl (L' := [some (.inr 248), some (.inl x1), none, some (.inl (x3 + (r4 - 1))), some (.inl (x4 + 1))]) rfl h (fun h => ?_)
    refine v_goto (q := 5) C dX12_end_28 rfl ?_
    exact h
theorem c_X12_end {x1 : Int} {x2 : Int} {μ : ZM} {K : Int → ZM → Prop} (h : P_X12_end  x1 x2 μ K) : zMu yX12_end cX12_end 5 (some .int) 3 63 [.inr 248, .inl x1, .inl x2] μ (KI K) := by
  refine zMet_of (L0 := [some (.inr 248), some (.inl x1), some (.inl x2), none, none]) sy_X12_end rfl (nb rfl) (Nat.le_refl _) (fun X C _ hR _ _ => ?_)
  have C : zC X cX12_end RX12 5 (some .int) 3 63 274 := C
  refine v_iconst (q := 1) C dX12_end_0 rfl (by decide) ?_
  refine v_istoren (q := 2) C dX12_end_1 rfl (nb rfl) (L' := [some (.inr 248), some (.inl x1), some (.inl x2), some (.inl 1), none]) rfl ?_
  refine v_iloadn (q := 3) C dX12_end_2 rfl rfl ?_
  refine v_istore (q := 5) C dX12_end_3 rfl (nb rfl) (L' := [some (.inr 248), some (.inl x1), some (.inl x2), some (.inl 1), some (.inl x2)]) rfl ?_
  exact v_mask [true, true, false, true, true] rfl (w_X12_end_5  C hR   h)
theorem w_X12_isSamePart_3 {X : ZX} (C : zC X cX12_isSamePart RX12 7 (some .boolean) 1 22 274) {K : Int → ZM → Prop} (hR : zRi X cX12_isSamePart (some .boolean) 274 (KN (KI K)))  {x1 : Int} {x2 : Int} {x3 : Int} {x4 : Int} {x5 : Int} {x6 : Int} {μ : ZM}   (h : P_X12_isSamePart_3   x1 x2 x3 x4 x5 x6 μ K) : zV X 3 [some (.inr 248), some (.inl x1), some (.inl x2), some (.inl x3), some (.inl x4), some (.inl x5), some (.inl x6)] [] 274 (z_ov μ) := by
  refine h (fun x6 μ => zV X 3 [some (.inr 248), some (.inl x1), some (.inl x2), some (.inl x3), some (.inl x4), some (.inl x5), some (.inl x6)] [] 274 (z_ov μ)) (fun x6 μ h => ?_)
  refine v_iload (q := 5) C dX12_isSamePart_3 rfl rfl ?_
  refine v_iload (q := 7) C dX12_isSamePart_5 rfl rfl ?_
  refine v_icmp_ge (q := 10) (tgt := 40) C dX12_isSamePart_7 rfl rfl h (fun h => ?_) (fun h => ?_)
  · refine v_iconst (q := 41) C dX12_isSamePart_40 rfl (by decide) ?_
    exact u_zret hR dX12_isSamePart_41 h
  · refine v_aloadn (q := 11) C dX12_isSamePart_10 rfl rfl ?_
    refine v_iloadn (q := 12) C dX12_isSamePart_11 rfl rfl ?_
    refine v_iloadn (q := 13) C dX12_isSamePart_12 rfl rfl ?_
    refine v_iload (q := 15) C dX12_isSamePart_13 rfl rfl ?_
    refine u_iadd (q := 16) C dX12_isSamePart_15 rfl h (fun h => ?_)
    refine u_cVi2 (q := 19) C (c_X12_at h) sy_X12_at si_X12_at ml_X12_92 ob_248 (by decide) so_X12_at ⟨nb rfl, nb rfl⟩ (nb rfl) dX12_isSamePart_16 rfl (fun r2 μ1 h => ?_)
    refine v_aloadn (q := 20) C dX12_isSamePart_19 rfl rfl ?_
    refine v_iloadn (q := 21) C dX12_isSamePart_20 rfl rfl ?_
    refine v_iload (q := 23) C dX12_isSamePart_21 rfl rfl ?_
    refine v_iload (q := 25) C dX12_isSamePart_23 rfl rfl ?_
    refine u_iadd (q := 26) C dX12_isSamePart_25 rfl h (fun h => ?_)
    refine u_cVi2 (q := 29) C (c_X12_at h) sy_X12_at si_X12_at ml_X12_92 ob_248 (by decide) so_X12_at ⟨nb rfl, nb rfl⟩ (nb rfl) dX12_isSamePart_26 rfl (fun r4 μ3 h => ?_)
    refine v_icmp_eq (q := 32) (tgt := 34) C dX12_isSamePart_29 rfl rfl h (fun h => ?_) (fun h => ?_)
    · refine u_iinc (q := 37) C dX12_isSamePart_34 rfl (nb rfl) rfl (L' := [some (.inr 248), some (.inl x1), some (.inl x2), some (.inl x3), some (.inl x4), some (.inl x5), some (.inl (x6 + 1))]) rfl h (fun h => ?_)
      refine v_goto (q := 3) C dX12_isSamePart_37 rfl ?_
      exact h
    · refine v_iconst (q := 33) C dX12_isSamePart_32 rfl (by decide) ?_
      exact u_zret hR dX12_isSamePart_33 h
theorem c_X12_isSamePart {x1 : Int} {x2 : Int} {x3 : Int} {x4 : Int} {x5 : Int} {μ : ZM} {K : Int → ZM → Prop} (h : P_X12_isSamePart  x1 x2 x3 x4 x5 μ K) : zMu yX12_isSamePart cX12_isSamePart 7 (some .boolean) 1 22 [.inr 248, .inl x1, .inl x2, .inl x3, .inl x4, .inl x5] μ (KI K) := by
  refine zMet_of (L0 := [some (.inr 248), some (.inl x1), some (.inl x2), some (.inl x3), some (.inl x4), some (.inl x5), none]) sy_X12_isSamePart rfl (nb rfl) (Nat.le_refl _) (fun X C _ hR _ _ => ?_)
  have C : zC X cX12_isSamePart RX12 7 (some .boolean) 1 22 274 := C
  refine v_iconst (q := 1) C dX12_isSamePart_0 rfl (by decide) ?_
  refine v_istore (q := 3) C dX12_isSamePart_1 rfl (nb rfl) (L' := [some (.inr 248), some (.inl x1), some (.inl x2), some (.inl x3), some (.inl x4), some (.inl x5), some (.inl 0)]) rfl ?_
  exact (w_X12_isSamePart_3  C hR   h)
theorem c_X12_binds {x1 : Int} {x2 : Int} {x3 : Int} {μ : ZM} {K : Int → ZM → Prop} (h : P_X12_binds  x1 x2 x3 μ K) : zMu yX12_binds cX12_binds 5 (some .boolean) 4 87 [.inr 248, .inl x1, .inl x2, .inl x3] μ (KI K) := by
  refine zMet_of (L0 := [some (.inr 248), some (.inl x1), some (.inl x2), some (.inl x3), none]) sy_X12_binds rfl (nb rfl) (Nat.le_refl _) (fun X C _ hR _ _ => ?_)
  have C : zC X cX12_binds RX12 5 (some .boolean) 4 87 274 := C
  refine v_aloadn (q := 1) C dX12_binds_0 rfl rfl ?_
  refine v_iloadn (q := 2) C dX12_binds_1 rfl rfl ?_
  refine v_iloadn (q := 3) C dX12_binds_2 rfl rfl ?_
  refine u_cVi2 (q := 6) C (c_X12_end h) sy_X12_end si_X12_end ml_X12_266 ob_248 (by decide) so_X12_end ⟨nb rfl, nb rfl⟩ (nb rfl) dX12_binds_3 rfl (fun r2 μ1 h => ?_)
  refine v_iloadn (q := 7) C dX12_binds_6 rfl rfl ?_
  refine u_isub (q := 8) C dX12_binds_7 rfl h (fun h => ?_)
  refine v_istore (q := 10) C dX12_binds_8 rfl (nb rfl) (L' := [some (.inr 248), some (.inl x1), some (.inl x2), some (.inl x3), some (.inl (r2 - x3))]) rfl ?_
  refine v_aloadn (q := 11) C dX12_binds_10 rfl rfl ?_
  refine u_getR (q := 14) C kl12 fl_X12_67 ob_248 pt_248_33 (by decide) rfl rfl dX12_binds_11 rfl ?_
  refine v_iloadn (q := 15) C dX12_binds_14 rfl rfl ?_
  refine u_iald (q := 16) C ia_268 dX12_binds_15 rfl h (fun h => ?_)
  refine v_bipush (q := 18) C dX12_binds_16 rfl (by decide) ?_
  refine v_icmp_ne (q := 21) (tgt := 38) C dX12_binds_18 rfl rfl h (fun h => ?_) (fun h => ?_)
  · refine v_aloadn (q := 22) C dX12_binds_21 rfl rfl ?_
    refine u_getR (q := 25) C kl12 fl_X12_67 ob_248 pt_248_33 (by decide) rfl rfl dX12_binds_22 rfl ?_
    refine v_iloadn (q := 26) C dX12_binds_25 rfl rfl ?_
    refine v_iloadn (q := 27) C dX12_binds_26 rfl rfl ?_
    refine u_iast (q := 28) C ia_268 dX12_binds_27 rfl h (fun μ3 h => ?_)
    refine v_aloadn (q := 29) C dX12_binds_28 rfl rfl ?_
    refine u_getR (q := 32) C kl12 fl_X12_70 ob_248 pt_248_34 (by decide) rfl rfl dX12_binds_29 rfl ?_
    refine v_iloadn (q := 33) C dX12_binds_32 rfl rfl ?_
    refine v_iload (q := 35) C dX12_binds_33 rfl rfl ?_
    refine u_iast (q := 36) C ia_269 dX12_binds_35 rfl h (fun μ4 h => ?_)
    refine v_iconst (q := 37) C dX12_binds_36 rfl (by decide) ?_
    exact u_zret hR dX12_binds_37 h
  · refine v_aloadn (q := 39) C dX12_binds_38 rfl rfl ?_
    refine u_getR (q := 42) C kl12 fl_X12_70 ob_248 pt_248_34 (by decide) rfl rfl dX12_binds_39 rfl ?_
    refine v_iloadn (q := 43) C dX12_binds_42 rfl rfl ?_
    refine u_iald (q := 44) C ia_269 dX12_binds_43 rfl h (fun h => ?_)
    refine v_iload (q := 46) C dX12_binds_44 rfl rfl ?_
    refine v_icmp_ne (q := 49) (tgt := 71) C dX12_binds_46 rfl rfl h (fun h => ?_) (fun h => ?_)
    · refine v_aloadn (q := 50) C dX12_binds_49 rfl rfl ?_
      refine v_iloadn (q := 51) C dX12_binds_50 rfl rfl ?_
      refine v_iloadn (q := 52) C dX12_binds_51 rfl rfl ?_
      refine v_iloadn (q := 53) C dX12_binds_52 rfl rfl ?_
      refine v_aloadn (q := 54) C dX12_binds_53 rfl rfl ?_
      refine u_getR (q := 57) C kl12 fl_X12_67 ob_248 pt_248_33 (by decide) rfl rfl dX12_binds_54 rfl ?_
      refine v_iloadn (q := 58) C dX12_binds_57 rfl rfl ?_
      refine u_iald (q := 59) C ia_268 dX12_binds_58 rfl h (fun h => ?_)
      refine v_iload (q := 61) C dX12_binds_59 rfl rfl ?_
      refine u_cVi5 (q := 64) C (c_X12_isSamePart h) sy_X12_isSamePart si_X12_isSamePart ml_X12_282 ob_248 (by decide) so_X12_isSamePart ⟨nb rfl, nb rfl⟩ (nb rfl) dX12_binds_61 rfl (fun r6 μ5 h => ?_)
      refine v_if_eq (q := 67) (tgt := 71) C dX12_binds_64 rfl rfl h (fun h => ?_) (fun h => ?_)
      · refine v_iconst (q := 72) C dX12_binds_71 rfl (by decide) ?_
        exact u_zret hR dX12_binds_72 h
      · refine v_iconst (q := 68) C dX12_binds_67 rfl (by decide) ?_
        refine v_goto (q := 72) C dX12_binds_68 rfl ?_
        exact u_zret hR dX12_binds_72 h
    · refine v_iconst (q := 72) C dX12_binds_71 rfl (by decide) ?_
      exact u_zret hR dX12_binds_72 h
theorem c_X12_isFunction {x1 : Int} {μ : ZM} {K : Int → ZM → Prop} (h : P_X12_isFunction  x1 μ K) : zMu yX12_isFunction cX12_isFunction 2 (some .boolean) 1 22 [.inr 248, .inl x1] μ (KI K) := by
  refine zMet_of (L0 := [some (.inr 248), some (.inl x1)]) sy_X12_isFunction rfl (nb rfl) (Nat.le_refl _) (fun X C _ hR _ _ => ?_)
  have C : zC X cX12_isFunction RX12 2 (some .boolean) 1 22 274 := C
  refine v_iloadn (q := 1) C dX12_isFunction_0 rfl rfl ?_
  refine v_iconst (q := 2) C dX12_isFunction_1 rfl (by decide) ?_
  refine v_aloadn (q := 3) C dX12_isFunction_2 rfl rfl ?_
  refine u_getI (q := 6) C kl12 fl_X12_137 ob_248 pt_248_4 rfl rfl dX12_isFunction_3 rfl ?_
  refine v_iconst (q := 7) C dX12_isFunction_6 rfl (by decide) ?_
  refine u_isub (q := 8) C dX12_isFunction_7 rfl h (fun h => ?_)
  refine u_cSi3 (q := 11) C (c_X12_within h) sy_X12_within ss_X12_within ml_X12_96 ⟨nb rfl, nb rfl⟩ (nb rfl) dX12_isFunction_8 rfl (fun r2 μ1 h => ?_)
  exact u_zret hR dX12_isFunction_11 h
theorem w_X12_bodyLong_20 {X : ZX} (C : zC X cX12_bodyLong RX12 3 (some .int) 0 0 274) {K : Int → ZM → Prop} (hR : zRi X cX12_bodyLong (some .int) 274 (KN (KI K)))  {x1 : Int} {x2 : Int} {μ : ZM}   (h : P_X12_bodyLong_20   x1 x2 μ K) : zV X 20 [some (.inr 248), some (.inl x1), some (.inl x2)] [] 274 (z_ov μ) := by
  refine v_aloadn (q := 21) C dX12_bodyLong_20 rfl rfl ?_
  refine u_getR (q := 24) C kl12 fl_X12_28 ob_248 pt_248_8 (by decide) rfl rfl dX12_bodyLong_21 rfl ?_
  refine v_iconst (q := 25) C dX12_bodyLong_24 rfl (by decide) ?_
  refine v_iloadn (q := 26) C dX12_bodyLong_25 rfl rfl ?_
  refine u_imul (q := 27) C dX12_bodyLong_26 rfl h (fun h => ?_)
  refine v_iloadn (q := 28) C dX12_bodyLong_27 rfl rfl ?_
  refine u_iadd (q := 29) C dX12_bodyLong_28 rfl h (fun h => ?_)
  refine u_iald (q := 30) C ia_255 dX12_bodyLong_29 rfl h (fun h => ?_)
  exact u_iret hR dX12_bodyLong_30 h
theorem c_X12_bodyLong {x1 : Int} {x2 : Int} {μ : ZM} {K : Int → ZM → Prop} (h : P_X12_bodyLong  x1 x2 μ K) : zMu yX12_bodyLong cX12_bodyLong 3 (some .int) 0 0 [.inr 248, .inl x1, .inl x2] μ (KI K) := by
  refine zMet_of (L0 := [some (.inr 248), some (.inl x1), some (.inl x2)]) sy_X12_bodyLong rfl (nb rfl) (Nat.le_refl _) (fun X C _ hR _ _ => ?_)
  have C : zC X cX12_bodyLong RX12 3 (some .int) 0 0 274 := C
  refine v_iloadn (q := 1) C dX12_bodyLong_0 rfl rfl ?_
  refine v_iconst (q := 2) C dX12_bodyLong_1 rfl (by decide) ?_
  refine v_icmp_ne (q := 5) (tgt := 20) C dX12_bodyLong_2 rfl rfl h (fun h => ?_) (fun h => ?_)
  · refine v_aloadn (q := 6) C dX12_bodyLong_5 rfl rfl ?_
    refine u_getR (q := 9) C kl12 fl_X12_22 ob_248 pt_248_6 (by decide) rfl rfl dX12_bodyLong_6 rfl ?_
    refine v_iloadn (q := 10) C dX12_bodyLong_9 rfl rfl ?_
    refine u_iald (q := 11) C ia_253 dX12_bodyLong_10 rfl h (fun h => ?_)
    refine v_iconst (q := 12) C dX12_bodyLong_11 rfl (by decide) ?_
    refine v_icmp_ne (q := 15) (tgt := 20) C dX12_bodyLong_12 rfl rfl h (fun h => ?_) (fun h => ?_)
    · refine v_bipush (q := 17) C dX12_bodyLong_15 rfl (by decide) ?_
      refine v_goto (q := 30) C dX12_bodyLong_17 rfl ?_
      exact u_iret hR dX12_bodyLong_30 h
    · exact (w_X12_bodyLong_20  C hR   h)
  · exact (w_X12_bodyLong_20  C hR   h)
theorem c_X12_body {x1 : Int} {x2 : Int} {x3 : Int} {μ : ZM} {K : Int → ZM → Prop} (h : P_X12_body  x1 x2 x3 μ K) : zMu yX12_body cX12_body 4 (some .int) 2 43 [.inr 248, .inl x1, .inl x2, .inl x3] μ (KI K) := by
  refine zMet_of (L0 := [some (.inr 248), some (.inl x1), some (.inl x2), some (.inl x3)]) sy_X12_body rfl (nb rfl) (Nat.le_refl _) (fun X C _ hR _ _ => ?_)
  have C : zC X cX12_body RX12 4 (some .int) 2 43 274 := C
  refine v_aloadn (q := 1) C dX12_body_0 rfl rfl ?_
  refine v_iloadn (q := 2) C dX12_body_1 rfl rfl ?_
  refine u_cVi1 (q := 5) C (c_X12_isFunction h) sy_X12_isFunction si_X12_isFunction ml_X12_144 ob_248 (by decide) so_X12_isFunction ⟨nb rfl, nb rfl⟩ (nb rfl) dX12_body_2 rfl (fun r2 μ1 h => ?_)
  refine v_if_ne (q := 8) (tgt := 10) C dX12_body_5 rfl rfl h (fun h => ?_) (fun h => ?_)
  · refine v_iconst (q := 9) C dX12_body_8 rfl (by decide) ?_
    exact u_iret hR dX12_body_9 h
  · refine v_iloadn (q := 11) C dX12_body_10 rfl rfl ?_
    refine v_iconst (q := 12) C dX12_body_11 rfl (by decide) ?_
    refine v_iconst (q := 13) C dX12_body_12 rfl (by decide) ?_
    refine u_cSi3 (q := 16) C (c_X12_within h) sy_X12_within ss_X12_within ml_X12_96 ⟨nb rfl, nb rfl⟩ (nb rfl) dX12_body_13 rfl (fun r4 μ3 h => ?_)
    refine v_if_eq (q := 19) (tgt := 29) C dX12_body_16 rfl rfl h (fun h => ?_) (fun h => ?_)
    · refine v_bipush (q := 31) C dX12_body_29 rfl (by decide) ?_
      exact u_iret hR dX12_body_31 h
    · refine v_iloadn (q := 20) C dX12_body_19 rfl rfl ?_
      refine v_iconst (q := 21) C dX12_body_20 rfl (by decide) ?_
      refine v_bipush (q := 23) C dX12_body_21 rfl (by decide) ?_
      refine u_cSi3 (q := 26) C (c_X12_within h) sy_X12_within ss_X12_within ml_X12_96 ⟨nb rfl, nb rfl⟩ (nb rfl) dX12_body_23 rfl (fun r6 μ5 h => ?_)
      refine v_if_ne (q := 29) (tgt := 32) C dX12_body_26 rfl rfl h (fun h => ?_) (fun h => ?_)
      · refine v_bipush (q := 31) C dX12_body_29 rfl (by decide) ?_
        exact u_iret hR dX12_body_31 h
      · refine v_iloadn (q := 33) C dX12_body_32 rfl rfl ?_
        refine v_aloadn (q := 34) C dX12_body_33 rfl rfl ?_
        refine v_iloadn (q := 35) C dX12_body_34 rfl rfl ?_
        refine v_iloadn (q := 36) C dX12_body_35 rfl rfl ?_
        refine u_cVi2 (q := 39) C (c_X12_bodyLong h) sy_X12_bodyLong si_X12_bodyLong ml_X12_147 ob_248 (by decide) so_X12_bodyLong ⟨nb rfl, nb rfl⟩ (nb rfl) dX12_body_36 rfl (fun r8 μ7 h => ?_)
        refine v_icmp_ge (q := 42) (tgt := 60) C dX12_body_39 rfl rfl h (fun h => ?_) (fun h => ?_)
        · refine v_bipush (q := 62) C dX12_body_60 rfl (by decide) ?_
          exact u_iret hR dX12_body_62 h
        · refine v_aloadn (q := 43) C dX12_body_42 rfl rfl ?_
          refine u_getR (q := 46) C kl12 fl_X12_25 ob_248 pt_248_7 (by decide) rfl rfl dX12_body_43 rfl ?_
          refine v_bipush (q := 48) C dX12_body_46 rfl (by decide) ?_
          refine v_iconst (q := 49) C dX12_body_48 rfl (by decide) ?_
          refine v_iloadn (q := 50) C dX12_body_49 rfl rfl ?_
          refine u_imul (q := 51) C dX12_body_50 rfl h (fun h => ?_)
          refine v_iloadn (q := 52) C dX12_body_51 rfl rfl ?_
          refine u_iadd (q := 53) C dX12_body_52 rfl h (fun h => ?_)
          refine u_imul (q := 54) C dX12_body_53 rfl h (fun h => ?_)
          refine v_iloadn (q := 55) C dX12_body_54 rfl rfl ?_
          refine u_iadd (q := 56) C dX12_body_55 rfl h (fun h => ?_)
          refine u_iald (q := 57) C ia_254 dX12_body_56 rfl h (fun h => ?_)
          refine v_goto (q := 62) C dX12_body_57 rfl ?_
          exact u_iret hR dX12_body_62 h
