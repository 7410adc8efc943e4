theorem w_X12_findDeep_41 {X : ZX} (C : zC X cX12_findDeep RX12 4 none 4 87 274) {K : ZM → Prop} (hR : zRv X cX12_findDeep none 274 (KN (KV K)))  {x1 : Int} {x2 : Int} {x3 : Int} {μ : ZM} {G27 : Int → ZM → Prop} (hG27 : ∀ (x2 : Int) (μ : ZM), G27 x2 μ → zV X 27 [some (.inr 248), some (.inl x1), some (.inl x2), none] [] 274 (z_ov μ))  (h : P_X12_findDeep_41  G27 x1 x2 x3 μ K) : zV X 41 [some (.inr 248), some (.inl x1), some (.inl x2), some (.inl x3)] [] 274 (z_ov μ) := by
  refine h (fun x3 μ => zV X 41 [some (.inr 248), some (.inl x1), some (.inl x2), some (.inl x3)] [] 274 (z_ov μ)) (fun x3 μ h => ?_)
  refine v_iloadn (q := 42) C dX12_findDeep_41 rfl rfl ?_
  refine v_aloadn (q := 43) C dX12_findDeep_42 rfl rfl ?_
  refine v_iloadn (q := 44) C dX12_findDeep_43 rfl rfl ?_
  refine v_iloadn (q := 45) C dX12_findDeep_44 rfl rfl ?_
  refine u_cVi2 (q := 48) C (c_X12_end h) sy_X12_end si_X12_end ml_X12_266 ob_248 (by decide) so_X12_end ⟨nb rfl, nb rfl⟩ (nb rfl) dX12_findDeep_45 rfl (fun r2 μ1 h => ?_)
  refine v_icmp_ge (q := 51) (tgt := 67) C dX12_findDeep_48 rfl rfl h (fun h => ?_) (fun h => ?_)
  · refine u_iinc (q := 70) C dX12_findDeep_67 rfl (nb rfl) rfl (L' := [some (.inr 248), some (.inl x1), some (.inl (x2 + 1)), some (.inl x3)]) rfl h (fun h => ?_)
    refine v_goto (q := 27) C dX12_findDeep_70 rfl ?_
    exact v_mask [true, true, true, false] rfl (hG27 _ _ h)
  · refine v_aloadn (q := 52) C dX12_findDeep_51 rfl rfl ?_
    refine u_getR (q := 55) C kl12 fl_X12_64 ob_248 pt_248_32 (by decide) rfl rfl dX12_findDeep_52 rfl ?_
    refine v_iloadn (q := 56) C dX12_findDeep_55 rfl rfl ?_
    refine v_dup2 (q := 57) C dX12_findDeep_56 rfl ?_
    refine u_iald (q := 58) C ia_267 dX12_findDeep_57 rfl h (fun h => ?_)
    refine v_iconst (q := 59) C dX12_findDeep_58 rfl (by decide) ?_
    refine u_iadd (q := 60) C dX12_findDeep_59 rfl h (fun h => ?_)
    refine u_iast (q := 61) C ia_267 dX12_findDeep_60 rfl h (fun μ3 h => ?_)
    refine u_iinc (q := 64) C dX12_findDeep_61 rfl (nb rfl) rfl (L' := [some (.inr 248), some (.inl x1), some (.inl x2), some (.inl (x3 + 1))]) rfl h (fun h => ?_)
    refine v_goto (q := 41) C dX12_findDeep_64 rfl ?_
    exact h
theorem w_X12_findDeep_27 {X : ZX} (C : zC X cX12_findDeep RX12 4 none 4 87 274) {K : ZM → Prop} (hR : zRv X cX12_findDeep none 274 (KN (KV K)))  {x1 : Int} {x2 : Int} {μ : ZM}   (h : P_X12_findDeep_27   x1 x2 μ K) : zV X 27 [some (.inr 248), some (.inl x1), some (.inl x2), none] [] 274 (z_ov μ) := by
  refine h (fun x2 μ => zV X 27 [some (.inr 248), some (.inl x1), some (.inl x2), none] [] 274 (z_ov μ)) (fun x2 μ h => ?_)
  refine v_iloadn (q := 28) C dX12_findDeep_27 rfl rfl ?_
  refine v_aloadn (q := 29) C dX12_findDeep_28 rfl rfl ?_
  refine u_getR (q := 32) C kl12 fl_X12_13 ob_248 pt_248_1 (by decide) rfl rfl dX12_findDeep_29 rfl ?_
  refine v_iloadn (q := 33) C dX12_findDeep_32 rfl rfl ?_
  refine u_iald (q := 34) C ia_250 dX12_findDeep_33 rfl h (fun h => ?_)
  refine v_icmp_ge (q := 37) (tgt := 73) C dX12_findDeep_34 rfl rfl h (fun h => ?_) (fun h => ?_)
  · exact u_vret hR dX12_findDeep_73 h
  · refine v_iloadn (q := 38) C dX12_findDeep_37 rfl rfl ?_
    refine v_iconst (q := 39) C dX12_findDeep_38 rfl (by decide) ?_
    refine u_iadd (q := 40) C dX12_findDeep_39 rfl h (fun h => ?_)
    refine v_istoren (q := 41) C dX12_findDeep_40 rfl (nb rfl) (L' := [some (.inr 248), some (.inl x1), some (.inl x2), some (.inl (x2 + 1))]) rfl ?_
    exact (w_X12_findDeep_41  C hR (fun _ _ h => h)  h)
theorem w_X12_findDeep_2 {X : ZX} (C : zC X cX12_findDeep RX12 4 none 4 87 274) {K : ZM → Prop} (hR : zRv X cX12_findDeep none 274 (KN (KV K)))  {x1 : Int} {x2 : Int} {μ : ZM}   (h : P_X12_findDeep_2   x1 x2 μ K) : zV X 2 [some (.inr 248), some (.inl x1), some (.inl x2), none] [] 274 (z_ov μ) := by
  refine h (fun x2 μ => zV X 2 [some (.inr 248), some (.inl x1), some (.inl x2), none] [] 274 (z_ov μ)) (fun x2 μ h => ?_)
  refine v_iloadn (q := 3) C dX12_findDeep_2 rfl rfl ?_
  refine v_aloadn (q := 4) C dX12_findDeep_3 rfl rfl ?_
  refine u_getR (q := 7) C kl12 fl_X12_13 ob_248 pt_248_1 (by decide) rfl rfl dX12_findDeep_4 rfl ?_
  refine v_iloadn (q := 8) C dX12_findDeep_7 rfl rfl ?_
  refine u_iald (q := 9) C ia_250 dX12_findDeep_8 rfl h (fun h => ?_)
  refine v_icmp_ge (q := 12) (tgt := 25) C dX12_findDeep_9 rfl rfl h (fun h => ?_) (fun h => ?_)
  · refine v_iconst (q := 26) C dX12_findDeep_25 rfl (by decide) ?_
    refine v_istoren (q := 27) C dX12_findDeep_26 rfl (nb rfl) (L' := [some (.inr 248), some (.inl x1), some (.inl 0), none]) rfl ?_
    exact (w_X12_findDeep_27  C hR   h)
  · refine v_aloadn (q := 13) C dX12_findDeep_12 rfl rfl ?_
    refine u_getR (q := 16) C kl12 fl_X12_64 ob_248 pt_248_32 (by decide) rfl rfl dX12_findDeep_13 rfl ?_
    refine v_iloadn (q := 17) C dX12_findDeep_16 rfl rfl ?_
    refine v_iconst (q := 18) C dX12_findDeep_17 rfl (by decide) ?_
    refine u_iast (q := 19) C ia_267 dX12_findDeep_18 rfl h (fun μ4 h => ?_)
    refine u_iinc (q := 22) C dX12_findDeep_19 rfl (nb rfl) rfl (L' := [some (.inr 248), some (.inl x1), some (.inl (x2 + 1)), none]) rfl h (fun h => ?_)
    refine v_goto (q := 2) C dX12_findDeep_22 rfl ?_
    exact h
theorem c_X12_findDeep {x1 : Int} {μ : ZM} {K : ZM → Prop} (h : P_X12_findDeep  x1 μ K) : zMu yX12_findDeep cX12_findDeep 4 none 4 87 [.inr 248, .inl x1] μ (KV K) := by
  refine zMet_of (L0 := [some (.inr 248), some (.inl x1), none, none]) sy_X12_findDeep rfl (nb rfl) (Nat.le_refl _) (fun X C _ _ _ hR => ?_)
  have C : zC X cX12_findDeep RX12 4 none 4 87 274 := C
  refine v_iconst (q := 1) C dX12_findDeep_0 rfl (by decide) ?_
  refine v_istoren (q := 2) C dX12_findDeep_1 rfl (nb rfl) (L' := [some (.inr 248), some (.inl x1), some (.inl 0), none]) rfl ?_
  exact (w_X12_findDeep_2  C hR   h)
theorem w_X12_heldAt_220 {X : ZX} (C : zC X cX12_heldAt RX12 9 (some .int) 4 87 274) {K : Int → ZM → Prop} (hR : zRi X cX12_heldAt (some .int) 274 (KN (KI K)))  {s1 : Int} {μ : ZM}   (h : P_X12_heldAt_220   s1 μ K) : zV X 220 [none, none, none, none, none, none, none, none, none] [.inl s1, .inr 248] 274 (z_ov μ) := by
  refine u_cVi1 (q := 223) C (c_X12_atMost h) sy_X12_atMost si_X12_atMost ml_X12_270 ob_248 (by decide) so_X12_atMost ⟨nb rfl, nb rfl⟩ (nb rfl) dX12_heldAt_220 rfl (fun r12 μ11 h => ?_)
  exact u_iret hR dX12_heldAt_223 h
theorem w_X12_heldAt_203 {X : ZX} (C : zC X cX12_heldAt RX12 9 (some .int) 4 87 274) {K : Int → ZM → Prop} (hR : zRi X cX12_heldAt (some .int) 274 (KN (KI K)))  {x7 : Int} {s0 : Int} {μ : ZM}   (h : P_X12_heldAt_203   x7 s0 μ K) : zV X 203 [some (.inr 248), none, none, none, none, none, none, some (.inl x7), none] [.inl s0] 274 (z_ov μ) := by
  refine v_istore (q := 205) C dX12_heldAt_203 rfl (nb rfl) (L' := [some (.inr 248), none, none, none, none, none, none, some (.inl x7), some (.inl s0)]) rfl ?_
  refine v_aloadn (q := 206) C dX12_heldAt_205 rfl rfl ?_
  refine v_iload (q := 208) C dX12_heldAt_206 rfl rfl ?_
  refine v_iload (q := 210) C dX12_heldAt_208 rfl rfl ?_
  refine v_icmp_ge (q := 213) (tgt := 218) C dX12_heldAt_210 rfl rfl h (fun h => ?_) (fun h => ?_)
  · refine v_iload (q := 220) C dX12_heldAt_218 rfl rfl ?_
    exact v_mask [false, false, false, false, false, false, false, false, false] rfl (w_X12_heldAt_220  C hR   h)
  · refine v_iload (q := 215) C dX12_heldAt_213 rfl rfl ?_
    refine v_goto (q := 220) C dX12_heldAt_215 rfl ?_
    exact v_mask [false, false, false, false, false, false, false, false, false] rfl (w_X12_heldAt_220  C hR   h)
theorem w_X12_heldAt_169 {X : ZX} (C : zC X cX12_heldAt RX12 9 (some .int) 4 87 274) {K : Int → ZM → Prop} (hR : zRi X cX12_heldAt (some .int) 274 (KN (KI K)))  {x2 : Int} {x4 : Int} {x5 : Int} {x6 : Int} {s0 : Int} {μ : ZM}   (h : P_X12_heldAt_169   x2 x4 x5 x6 s0 μ K) : zV X 169 [some (.inr 248), none, some (.inl x2), none, some (.inl x4), some (.inl x5), some (.inl x6), none, none] [.inl s0] 274 (z_ov μ) := by
  refine v_istore (q := 171) C dX12_heldAt_169 rfl (nb rfl) (L' := [some (.inr 248), none, some (.inl x2), none, some (.inl x4), some (.inl x5), some (.inl x6), some (.inl s0), none]) rfl ?_
  refine v_iload (q := 173) C dX12_heldAt_171 rfl rfl ?_
  refine v_iconst (q := 174) C dX12_heldAt_173 rfl (by decide) ?_
  refine v_icmp_le (q := 177) (tgt := 200) C dX12_heldAt_174 rfl rfl h (fun h => ?_) (fun h => ?_)
  · refine v_ldcw (q := 203) C kc_X12_269 dX12_heldAt_200 rfl (by decide) ?_
    exact v_mask [true, false, false, false, false, false, false, true, false] rfl (w_X12_heldAt_203  C hR   h)
  · refine v_aloadn (q := 178) C dX12_heldAt_177 rfl rfl ?_
    refine u_getR (q := 181) C kl12 fl_X12_61 ob_248 pt_248_31 (by decide) rfl rfl dX12_heldAt_178 rfl ?_
    refine v_bipush (q := 183) C dX12_heldAt_181 rfl (by decide) ?_
    refine v_iload (q := 185) C dX12_heldAt_183 rfl rfl ?_
    refine u_imul (q := 186) C dX12_heldAt_185 rfl h (fun h => ?_)
    refine v_iload (q := 188) C dX12_heldAt_186 rfl rfl ?_
    refine u_iadd (q := 189) C dX12_heldAt_188 rfl h (fun h => ?_)
    refine u_iald (q := 190) C ia_266 dX12_heldAt_189 rfl h (fun h => ?_)
    refine v_aloadn (q := 191) C dX12_heldAt_190 rfl rfl ?_
    refine u_getR (q := 194) C kl12 fl_X12_64 ob_248 pt_248_32 (by decide) rfl rfl dX12_heldAt_191 rfl ?_
    refine v_iloadn (q := 195) C dX12_heldAt_194 rfl rfl ?_
    refine u_iald (q := 196) C ia_267 dX12_heldAt_195 rfl h (fun h => ?_)
    refine u_iadd (q := 197) C dX12_heldAt_196 rfl h (fun h => ?_)
    refine v_goto (q := 203) C dX12_heldAt_197 rfl ?_
    exact v_mask [true, false, false, false, false, false, false, true, false] rfl (w_X12_heldAt_203  C hR   h)
theorem w_X12_heldAt_153 {X : ZX} (C : zC X cX12_heldAt RX12 9 (some .int) 4 87 274) {K : Int → ZM → Prop} (hR : zRi X cX12_heldAt (some .int) 274 (KN (KI K)))  {x2 : Int} {x4 : Int} {x5 : Int} {x6 : Int} {x7 : Int} {s0 : Int} {μ : ZM}   (h : P_X12_heldAt_153   x2 x4 x5 x6 x7 s0 μ K) : zV X 153 [some (.inr 248), none, some (.inl x2), none, some (.inl x4), some (.inl x5), some (.inl x6), some (.inl x7), none] [.inl s0] 274 (z_ov μ) := by
  refine v_istore (q := 155) C dX12_heldAt_153 rfl (nb rfl) (L' := [some (.inr 248), none, some (.inl x2), none, some (.inl x4), some (.inl x5), some (.inl x6), some (.inl x7), some (.inl s0)]) rfl ?_
  refine v_iload (q := 157) C dX12_heldAt_155 rfl rfl ?_
  refine v_iload (q := 159) C dX12_heldAt_157 rfl rfl ?_
  refine v_icmp_ge (q := 162) (tgt := 167) C dX12_heldAt_159 rfl rfl h (fun h => ?_) (fun h => ?_)
  · refine v_iload (q := 169) C dX12_heldAt_167 rfl rfl ?_
    exact v_mask [true, false, true, false, true, true, true, false, false] rfl (w_X12_heldAt_169  C hR   h)
  · refine v_iload (q := 164) C dX12_heldAt_162 rfl rfl ?_
    refine v_goto (q := 169) C dX12_heldAt_164 rfl ?_
    exact v_mask [true, false, true, false, true, true, true, false, false] rfl (w_X12_heldAt_169  C hR   h)
theorem w_X12_heldAt_121 {X : ZX} (C : zC X cX12_heldAt RX12 9 (some .int) 4 87 274) {K : Int → ZM → Prop} (hR : zRi X cX12_heldAt (some .int) 274 (KN (KI K)))  {x2 : Int} {x4 : Int} {x5 : Int} {x6 : Int} {x7 : Int} {μ : ZM}   (h : P_X12_heldAt_121   x2 x4 x5 x6 x7 μ K) : zV X 121 [some (.inr 248), none, some (.inl x2), none, some (.inl x4), some (.inl x5), some (.inl x6), some (.inl x7), none] [] 274 (z_ov μ) := by
  refine v_iload (q := 123) C dX12_heldAt_121 rfl rfl ?_
  refine v_if_le (q := 126) (tgt := 150) C dX12_heldAt_123 rfl rfl h (fun h => ?_) (fun h => ?_)
  · refine v_ldcw (q := 153) C kc_X12_269 dX12_heldAt_150 rfl (by decide) ?_
    exact (w_X12_heldAt_153  C hR   h)
  · refine v_aloadn (q := 127) C dX12_heldAt_126 rfl rfl ?_
    refine u_getR (q := 130) C kl12 fl_X12_61 ob_248 pt_248_31 (by decide) rfl rfl dX12_heldAt_127 rfl ?_
    refine v_bipush (q := 132) C dX12_heldAt_130 rfl (by decide) ?_
    refine v_iloadn (q := 133) C dX12_heldAt_132 rfl rfl ?_
    refine v_iconst (q := 134) C dX12_heldAt_133 rfl (by decide) ?_
    refine u_iadd (q := 135) C dX12_heldAt_134 rfl h (fun h => ?_)
    refine u_imul (q := 136) C dX12_heldAt_135 rfl h (fun h => ?_)
    refine v_iload (q := 138) C dX12_heldAt_136 rfl rfl ?_
    refine u_iadd (q := 139) C dX12_heldAt_138 rfl h (fun h => ?_)
    refine u_iald (q := 140) C ia_266 dX12_heldAt_139 rfl h (fun h => ?_)
    refine v_aloadn (q := 141) C dX12_heldAt_140 rfl rfl ?_
    refine u_getR (q := 144) C kl12 fl_X12_64 ob_248 pt_248_32 (by decide) rfl rfl dX12_heldAt_141 rfl ?_
    refine v_iloadn (q := 145) C dX12_heldAt_144 rfl rfl ?_
    refine u_iald (q := 146) C ia_267 dX12_heldAt_145 rfl h (fun h => ?_)
    refine u_iadd (q := 147) C dX12_heldAt_146 rfl h (fun h => ?_)
    refine v_goto (q := 153) C dX12_heldAt_147 rfl ?_
    exact (w_X12_heldAt_153  C hR   h)
theorem w_X12_heldAt_118 {X : ZX} (C : zC X cX12_heldAt RX12 9 (some .int) 4 87 274) {K : Int → ZM → Prop} (hR : zRi X cX12_heldAt (some .int) 274 (KN (KI K)))  {x2 : Int} {x4 : Int} {x5 : Int} {x6 : Int} {s0 : Int} {s1 : Int} {μ : ZM}   (h : P_X12_heldAt_118   x2 x4 x5 x6 s0 s1 μ K) : zV X 118 [some (.inr 248), none, some (.inl x2), none, some (.inl x4), some (.inl x5), some (.inl x6), none, none] [.inl s1, .inl s0] 274 (z_ov μ) := by
  refine u_iadd (q := 119) C dX12_heldAt_118 rfl h (fun h => ?_)
  refine v_istore (q := 121) C dX12_heldAt_119 rfl (nb rfl) (L' := [some (.inr 248), none, some (.inl x2), none, some (.inl x4), some (.inl x5), some (.inl x6), some (.inl (s0 + s1)), none]) rfl ?_
  exact (w_X12_heldAt_121  C hR   h)
theorem w_X12_heldAt_83 {X : ZX} (C : zC X cX12_heldAt RX12 9 (some .int) 4 87 274) {K : Int → ZM → Prop} (hR : zRi X cX12_heldAt (some .int) 274 (KN (KI K)))  {x2 : Int} {x3 : Int} {x4 : Int} {x5 : Int} {x6 : Int} {s0 : Int} {s1 : Int} {μ : ZM}   (h : P_X12_heldAt_83   x2 x3 x4 x5 x6 s0 s1 μ K) : zV X 83 [some (.inr 248), none, some (.inl x2), some (.inl x3), some (.inl x4), some (.inl x5), some (.inl x6), none, none] [.inl s1, .inl s0] 274 (z_ov μ) := by
  refine u_iadd (q := 84) C dX12_heldAt_83 rfl h (fun h => ?_)
  refine v_istore (q := 86) C dX12_heldAt_84 rfl (nb rfl) (L' := [some (.inr 248), none, some (.inl x2), some (.inl x3), some (.inl x4), some (.inl x5), some (.inl x6), some (.inl (s0 + s1)), none]) rfl ?_
  refine v_iload (q := 88) C dX12_heldAt_86 rfl rfl ?_
  refine v_iload (q := 90) C dX12_heldAt_88 rfl rfl ?_
  refine v_iconst (q := 91) C dX12_heldAt_90 rfl (by decide) ?_
  refine v_icmp_le (q := 94) (tgt := 117) C dX12_heldAt_91 rfl rfl h (fun h => ?_) (fun h => ?_)
  · refine v_iconst (q := 118) C dX12_heldAt_117 rfl (by decide) ?_
    exact v_mask [true, false, true, false, true, true, true, false, false] rfl (w_X12_heldAt_118  C hR   h)
  · refine v_aloadn (q := 95) C dX12_heldAt_94 rfl rfl ?_
    refine u_getR (q := 98) C kl12 fl_X12_61 ob_248 pt_248_31 (by decide) rfl rfl dX12_heldAt_95 rfl ?_
    refine v_bipush (q := 100) C dX12_heldAt_98 rfl (by decide) ?_
    refine v_iload (q := 102) C dX12_heldAt_100 rfl rfl ?_
    refine u_imul (q := 103) C dX12_heldAt_102 rfl h (fun h => ?_)
    refine v_aloadn (q := 104) C dX12_heldAt_103 rfl rfl ?_
    refine v_iloadn (q := 105) C dX12_heldAt_104 rfl rfl ?_
    refine v_iload (q := 107) C dX12_heldAt_105 rfl rfl ?_
    refine v_iconst (q := 108) C dX12_heldAt_107 rfl (by decide) ?_
    refine u_iadd (q := 109) C dX12_heldAt_108 rfl h (fun h => ?_)
    refine u_cVi2 (q := 112) C (c_X12_end h) sy_X12_end si_X12_end ml_X12_266 ob_248 (by decide) so_X12_end ⟨nb rfl, nb rfl⟩ (nb rfl) dX12_heldAt_109 rfl (fun r14 μ13 h => ?_)
    refine u_iadd (q := 113) C dX12_heldAt_112 rfl h (fun h => ?_)
    refine u_iald (q := 114) C ia_266 dX12_heldAt_113 rfl h (fun h => ?_)
    refine v_goto (q := 118) C dX12_heldAt_114 rfl ?_
    exact v_mask [true, false, true, false, true, true, true, false, false] rfl (w_X12_heldAt_118  C hR   h)
theorem w_X12_heldAt_30 {X : ZX} (C : zC X cX12_heldAt RX12 9 (some .int) 4 87 274) {K : Int → ZM → Prop} (hR : zRi X cX12_heldAt (some .int) 274 (KN (KI K)))  {x1 : Int} {x2 : Int} {x3 : Int} {x4 : Int} {x5 : Int} {s0 : Int} {μ : ZM}   (h : P_X12_heldAt_30   x1 x2 x3 x4 x5 s0 μ K) : zV X 30 [some (.inr 248), some (.inl x1), some (.inl x2), some (.inl x3), some (.inl x4), some (.inl x5), none, none, none] [.inl s0] 274 (z_ov μ) := by
  refine v_istore (q := 32) C dX12_heldAt_30 rfl (nb rfl) (L' := [some (.inr 248), some (.inl x1), some (.inl x2), some (.inl x3), some (.inl x4), some (.inl x5), some (.inl s0), none, none]) rfl ?_
  refine v_ldcw (q := 35) C kc_X12_269 dX12_heldAt_32 rfl (by decide) ?_
  refine v_istore (q := 37) C dX12_heldAt_35 rfl (nb rfl) (L' := [some (.inr 248), some (.inl x1), some (.inl x2), some (.inl x3), some (.inl x4), some (.inl x5), some (.inl s0), some (.inl 100000), none]) rfl ?_
  refine v_aloadn (q := 38) C dX12_heldAt_37 rfl rfl ?_
  refine v_iloadn (q := 39) C dX12_heldAt_38 rfl rfl ?_
  refine v_iloadn (q := 40) C dX12_heldAt_39 rfl rfl ?_
  refine u_cVi2 (q := 43) C (c_X12_at h) sy_X12_at si_X12_at ml_X12_92 ob_248 (by decide) so_X12_at ⟨nb rfl, nb rfl⟩ (nb rfl) dX12_heldAt_40 rfl (fun r8 μ7 h => ?_)
  refine v_aloadn (q := 44) C dX12_heldAt_43 rfl rfl ?_
  refine v_iloadn (q := 45) C dX12_heldAt_44 rfl rfl ?_
  refine v_iload (q := 47) C dX12_heldAt_45 rfl rfl ?_
  refine u_cVi2 (q := 50) C (c_X12_at h) sy_X12_at si_X12_at ml_X12_92 ob_248 (by decide) so_X12_at ⟨nb rfl, nb rfl⟩ (nb rfl) dX12_heldAt_47 rfl (fun r10 μ9 h => ?_)
  refine v_icmp_ne (q := 53) (tgt := 121) C dX12_heldAt_50 rfl rfl h (fun h => ?_) (fun h => ?_)
  · refine v_iconst (q := 54) C dX12_heldAt_53 rfl (by decide) ?_
    refine v_istore (q := 56) C dX12_heldAt_54 rfl (nb rfl) (L' := [some (.inr 248), some (.inl x1), some (.inl x2), some (.inl x3), some (.inl x4), some (.inl x5), some (.inl s0), some (.inl 0), none]) rfl ?_
    refine v_iload (q := 58) C dX12_heldAt_56 rfl rfl ?_
    refine v_iload (q := 60) C dX12_heldAt_58 rfl rfl ?_
    refine v_if_le (q := 63) (tgt := 82) C dX12_heldAt_60 rfl rfl h (fun h => ?_) (fun h => ?_)
    · refine v_iconst (q := 83) C dX12_heldAt_82 rfl (by decide) ?_
      exact v_mask [true, false, true, true, true, true, true, false, false] rfl (w_X12_heldAt_83  C hR   h)
    · refine v_aloadn (q := 64) C dX12_heldAt_63 rfl rfl ?_
      refine u_getR (q := 67) C kl12 fl_X12_61 ob_248 pt_248_31 (by decide) rfl rfl dX12_heldAt_64 rfl ?_
      refine v_bipush (q := 69) C dX12_heldAt_67 rfl (by decide) ?_
      refine v_iloadn (q := 70) C dX12_heldAt_69 rfl rfl ?_
      refine v_iconst (q := 71) C dX12_heldAt_70 rfl (by decide) ?_
      refine u_iadd (q := 72) C dX12_heldAt_71 rfl h (fun h => ?_)
      refine u_imul (q := 73) C dX12_heldAt_72 rfl h (fun h => ?_)
      refine v_iload (q := 75) C dX12_heldAt_73 rfl rfl ?_
      refine u_iadd (q := 76) C dX12_heldAt_75 rfl h (fun h => ?_)
      refine v_iconst (q := 77) C dX12_heldAt_76 rfl (by decide) ?_
      refine u_iadd (q := 78) C dX12_heldAt_77 rfl h (fun h => ?_)
      refine u_iald (q := 79) C ia_266 dX12_heldAt_78 rfl h (fun h => ?_)
      refine v_goto (q := 83) C dX12_heldAt_79 rfl ?_
      exact v_mask [true, false, true, true, true, true, true, false, false] rfl (w_X12_heldAt_83  C hR   h)
  · exact v_mask [true, false, true, false, true, true, true, true, false] rfl (w_X12_heldAt_121  C hR   h)
theorem c_X12_heldAt {x1 : Int} {x2 : Int} {x3 : Int} {x4 : Int} {μ : ZM} {K : Int → ZM → Prop} (h : P_X12_heldAt  x1 x2 x3 x4 μ K) : zMu yX12_heldAt cX12_heldAt 9 (some .int) 4 87 [.inr 248, .inl x1, .inl x2, .inl x3, .inl x4] μ (KI K) := by
  refine zMet_of (L0 := [some (.inr 248), some (.inl x1), some (.inl x2), some (.inl x3), some (.inl x4), none, none, none, none]) sy_X12_heldAt rfl (nb rfl) (Nat.le_refl _) (fun X C _ hR _ _ => ?_)
  have C : zC X cX12_heldAt RX12 9 (some .int) 4 87 274 := C
  refine v_aloadn (q := 1) C dX12_heldAt_0 rfl rfl ?_
  refine v_aloadn (q := 2) C dX12_heldAt_1 rfl rfl ?_
  refine v_iloadn (q := 3) C dX12_heldAt_2 rfl rfl ?_
  refine v_iloadn (q := 4) C dX12_heldAt_3 rfl rfl ?_
  refine u_cVi2 (q := 7) C (c_X12_at h) sy_X12_at si_X12_at ml_X12_92 ob_248 (by decide) so_X12_at ⟨nb rfl, nb rfl⟩ (nb rfl) dX12_heldAt_4 rfl (fun r2 μ1 h => ?_)
  refine u_cVi1 (q := 10) C (c_X12_arity h) sy_X12_arity si_X12_arity ml_X12_104 ob_248 (by decide) so_X12_arity ⟨nb rfl, nb rfl⟩ (nb rfl) dX12_heldAt_7 rfl (fun r4 μ3 h => ?_)
  refine v_istore (q := 12) C dX12_heldAt_10 rfl (nb rfl) (L' := [some (.inr 248), some (.inl x1), some (.inl x2), some (.inl x3), some (.inl x4), some (.inl r4), none, none, none]) rfl ?_
  refine v_iload (q := 14) C dX12_heldAt_12 rfl rfl ?_
  refine v_iconst (q := 15) C dX12_heldAt_14 rfl (by decide) ?_
  refine v_icmp_ne (q := 18) (tgt := 29) C dX12_heldAt_15 rfl rfl h (fun h => ?_) (fun h => ?_)
  · refine v_aloadn (q := 19) C dX12_heldAt_18 rfl rfl ?_
    refine v_iloadn (q := 20) C dX12_heldAt_19 rfl rfl ?_
    refine v_iloadn (q := 21) C dX12_heldAt_20 rfl rfl ?_
    refine v_iconst (q := 22) C dX12_heldAt_21 rfl (by decide) ?_
    refine u_iadd (q := 23) C dX12_heldAt_22 rfl h (fun h => ?_)
    refine u_cVi2 (q := 26) C (c_X12_end h) sy_X12_end si_X12_end ml_X12_266 ob_248 (by decide) so_X12_end ⟨nb rfl, nb rfl⟩ (nb rfl) dX12_heldAt_23 rfl (fun r6 μ5 h => ?_)
    refine v_goto (q := 30) C dX12_heldAt_26 rfl ?_
    exact (w_X12_heldAt_30  C hR   h)
  · refine v_iconst (q := 30) C dX12_heldAt_29 rfl (by decide) ?_
    exact (w_X12_heldAt_30  C hR   h)
theorem w_X12_differenceOf_28 {X : ZX} (C : zC X cX12_differenceOf RX12 5 (some .int) 5 115 274) {K : Int → ZM → Prop} (hR : zRi X cX12_differenceOf (some .int) 274 (KN (KI K)))  {x1 : Int} {x2 : Int} {x3 : Int} {x4 : Int} {μ : ZM} {G14 : Int → ZM → Prop} (hG14 : ∀ (x3 : Int) (μ : ZM), G14 x3 μ → zV X 14 [some (.inr 248), some (.inl x1), some (.inl x2), some (.inl x3), none] [] 274 (z_ov μ))  (h : P_X12_differenceOf_28  G14 x1 x2 x3 x4 μ K) : zV X 28 [some (.inr 248), some (.inl x1), some (.inl x2), some (.inl x3), some (.inl x4)] [] 274 (z_ov μ) := by
  refine h (fun x4 μ => zV X 28 [some (.inr 248), some (.inl x1), some (.inl x2), some (.inl x3), some (.inl x4)] [] 274 (z_ov μ)) (fun x4 μ h => ?_)
  refine v_iload (q := 30) C dX12_differenceOf_28 rfl rfl ?_
  refine v_if_lt (q := 33) (tgt := 60) C dX12_differenceOf_30 rfl rfl h (fun h => ?_) (fun h => ?_)
  · refine u_iinc (q := 63) C dX12_differenceOf_60 rfl (nb rfl) rfl (L' := [some (.inr 248), some (.inl x1), some (.inl x2), some (.inl (x3 + (-1))), some (.inl x4)]) rfl h (fun h => ?_)
    refine v_goto (q := 14) C dX12_differenceOf_63 rfl ?_
    exact v_mask [true, true, true, true, false] rfl (hG14 _ _ h)
  · refine v_aloadn (q := 34) C dX12_differenceOf_33 rfl rfl ?_
    refine u_getR (q := 37) C kl12 fl_X12_61 ob_248 pt_248_31 (by decide) rfl rfl dX12_differenceOf_34 rfl ?_
    refine v_bipush (q := 39) C dX12_differenceOf_37 rfl (by decide) ?_
    refine v_iloadn (q := 40) C dX12_differenceOf_39 rfl rfl ?_
    refine u_imul (q := 41) C dX12_differenceOf_40 rfl h (fun h => ?_)
    refine v_iload (q := 43) C dX12_differenceOf_41 rfl rfl ?_
    refine u_iadd (q := 44) C dX12_differenceOf_43 rfl h (fun h => ?_)
    refine v_aloadn (q := 45) C dX12_differenceOf_44 rfl rfl ?_
    refine v_iloadn (q := 46) C dX12_differenceOf_45 rfl rfl ?_
    refine v_iloadn (q := 47) C dX12_differenceOf_46 rfl rfl ?_
    refine v_iloadn (q := 48) C dX12_differenceOf_47 rfl rfl ?_
    refine v_iload (q := 50) C dX12_differenceOf_48 rfl rfl ?_
    refine u_cVi4 (q := 53) C (c_X12_heldAt h) sy_X12_heldAt si_X12_heldAt ml_X12_276 ob_248 (by decide) so_X12_heldAt ⟨nb rfl, nb rfl⟩ (nb rfl) dX12_differenceOf_50 rfl (fun r3 μ2 h => ?_)
    refine u_iast (q := 54) C ia_266 dX12_differenceOf_53 rfl h (fun μ4 h => ?_)
    refine u_iinc (q := 57) C dX12_differenceOf_54 rfl (nb rfl) rfl (L' := [some (.inr 248), some (.inl x1), some (.inl x2), some (.inl x3), some (.inl (x4 + (-1)))]) rfl h (fun h => ?_)
    refine v_goto (q := 28) C dX12_differenceOf_57 rfl ?_
    exact h
theorem w_X12_differenceOf_14 {X : ZX} (C : zC X cX12_differenceOf RX12 5 (some .int) 5 115 274) {K : Int → ZM → Prop} (hR : zRi X cX12_differenceOf (some .int) 274 (KN (KI K)))  {x1 : Int} {x2 : Int} {x3 : Int} {μ : ZM}   (h : P_X12_differenceOf_14   x1 x2 x3 μ K) : zV X 14 [some (.inr 248), some (.inl x1), some (.inl x2), some (.inl x3), none] [] 274 (z_ov μ) := by
  refine h (fun x3 μ => zV X 14 [some (.inr 248), some (.inl x1), some (.inl x2), some (.inl x3), none] [] 274 (z_ov μ)) (fun x3 μ h => ?_)
  refine v_iloadn (q := 15) C dX12_differenceOf_14 rfl rfl ?_
  refine v_if_lt (q := 18) (tgt := 66) C dX12_differenceOf_15 rfl rfl h (fun h => ?_) (fun h => ?_)
  · refine v_aloadn (q := 67) C dX12_differenceOf_66 rfl rfl ?_
    refine u_getR (q := 70) C kl12 fl_X12_61 ob_248 pt_248_31 (by decide) rfl rfl dX12_differenceOf_67 rfl ?_
    refine v_iconst (q := 71) C dX12_differenceOf_70 rfl (by decide) ?_
    refine u_iald (q := 72) C ia_266 dX12_differenceOf_71 rfl h (fun h => ?_)
    exact u_iret hR dX12_differenceOf_72 h
  · refine v_aloadn (q := 19) C dX12_differenceOf_18 rfl rfl ?_
    refine u_getR (q := 22) C kl12 fl_X12_13 ob_248 pt_248_1 (by decide) rfl rfl dX12_differenceOf_19 rfl ?_
    refine v_iloadn (q := 23) C dX12_differenceOf_22 rfl rfl ?_
    refine u_iald (q := 24) C ia_250 dX12_differenceOf_23 rfl h (fun h => ?_)
    refine v_iconst (q := 25) C dX12_differenceOf_24 rfl (by decide) ?_
    refine u_isub (q := 26) C dX12_differenceOf_25 rfl h (fun h => ?_)
    refine v_istore (q := 28) C dX12_differenceOf_26 rfl (nb rfl) (L' := [some (.inr 248), some (.inl x1), some (.inl x2), some (.inl x3), some (.inl ((μ 250 x2) - 1))]) rfl ?_
    exact (w_X12_differenceOf_28  C hR (fun _ _ h => h)  h)
theorem c_X12_differenceOf {x1 : Int} {x2 : Int} {μ : ZM} {K : Int → ZM → Prop} (h : P_X12_differenceOf  x1 x2 μ K) : zMu yX12_differenceOf cX12_differenceOf 5 (some .int) 5 115 [.inr 248, .inl x1, .inl x2] μ (KI K) := by
  refine zMet_of (L0 := [some (.inr 248), some (.inl x1), some (.inl x2), none, none]) sy_X12_differenceOf rfl (nb rfl) (Nat.le_refl _) (fun X C _ hR _ _ => ?_)
  have C : zC X cX12_differenceOf RX12 5 (some .int) 5 115 274 := C
  refine v_aloadn (q := 1) C dX12_differenceOf_0 rfl rfl ?_
  refine v_iloadn (q := 2) C dX12_differenceOf_1 rfl rfl ?_
  refine u_cVv1 (q := 5) C (c_X12_findDeep h) sy_X12_findDeep si_X12_findDeep ml_X12_273 ob_248 (by decide) so_X12_findDeep ⟨nb rfl, nb rfl⟩ (nb rfl) dX12_differenceOf_2 rfl (fun μ1 h => ?_)
  refine v_aloadn (q := 6) C dX12_differenceOf_5 rfl rfl ?_
  refine u_getR (q := 9) C kl12 fl_X12_13 ob_248 pt_248_1 (by decide) rfl rfl dX12_differenceOf_6 rfl ?_
  refine v_iloadn (q := 10) C dX12_differenceOf_9 rfl rfl ?_
  refine u_iald (q := 11) C ia_250 dX12_differenceOf_10 rfl h (fun h => ?_)
  refine v_iconst (q := 12) C dX12_differenceOf_11 rfl (by decide) ?_
  refine u_isub (q := 13) C dX12_differenceOf_12 rfl h (fun h => ?_)
  refine v_istoren (q := 14) C dX12_differenceOf_13 rfl (nb rfl) (L' := [some (.inr 248), some (.inl x1), some (.inl x2), some (.inl ((μ1 250 x1) - 1)), none]) rfl ?_
  exact (w_X12_differenceOf_14  C hR   h)
theorem w_X12_isPattern_57 {X : ZX} (C : zC X cX12_isPattern RX12 4 (some .boolean) 2 45 274) {K : Int → ZM → Prop} (hR : zRi X cX12_isPattern (some .boolean) 274 (KN (KI K)))  {x1 : Int} {x2 : Int} {x3 : Int} {μ : ZM} {G26 : Int → ZM → Prop} (hG26 : ∀ (x3 : Int) (μ : ZM), G26 x3 μ → zV X 26 [some (.inr 248), some (.inl x1), some (.inl x2), some (.inl x3)] [] 274 (z_ov μ))  (h : P_X12_isPattern_57  G26 x1 x2 x3 μ K) : zV X 57 [some (.inr 248), some (.inl x1), some (.inl x2), some (.inl x3)] [] 274 (z_ov μ) := by
  refine u_iinc (q := 60) C dX12_isPattern_57 rfl (nb rfl) rfl (L' := [some (.inr 248), some (.inl x1), some (.inl x2), some (.inl (x3 + 1))]) rfl h (fun h => ?_)
  refine v_goto (q := 26) C dX12_isPattern_60 rfl ?_
  exact (hG26 _ _ h)
theorem w_X12_isPattern_26 {X : ZX} (C : zC X cX12_isPattern RX12 4 (some .boolean) 2 45 274) {K : Int → ZM → Prop} (hR : zRi X cX12_isPattern (some .boolean) 274 (KN (KI K)))  {x1 : Int} {x2 : Int} {x3 : Int} {μ : ZM}   (h : P_X12_isPattern_26   x1 x2 x3 μ K) : zV X 26 [some (.inr 248), some (.inl x1), some (.inl x2), some (.inl x3)] [] 274 (z_ov μ) := by
  refine h (fun x3 μ => zV X 26 [some (.inr 248), some (.inl x1), some (.inl x2), some (.inl x3)] [] 274 (z_ov μ)) (fun x3 μ h => ?_)
  refine v_iloadn (q := 27) C dX12_isPattern_26 rfl rfl ?_
  refine v_iconst (q := 28) C dX12_isPattern_27 rfl (by decide) ?_
  refine v_icmp_ge (q := 31) (tgt := 63) C dX12_isPattern_28 rfl rfl h (fun h => ?_) (fun h => ?_)
  · refine v_iconst (q := 64) C dX12_isPattern_63 rfl (by decide) ?_
    exact u_zret hR dX12_isPattern_64 h
  · refine v_aloadn (q := 32) C dX12_isPattern_31 rfl rfl ?_
    refine v_iloadn (q := 33) C dX12_isPattern_32 rfl rfl ?_
    refine v_bipush (q := 35) C dX12_isPattern_33 rfl (by decide) ?_
    refine v_iloadn (q := 36) C dX12_isPattern_35 rfl rfl ?_
    refine u_iadd (q := 37) C dX12_isPattern_36 rfl h (fun h => ?_)
    refine u_cVi2 (q := 40) C (c_X12_hasSign h) sy_X12_hasSign si_X12_hasSign ml_X12_211 ob_248 (by decide) so_X12_hasSign ⟨nb rfl, nb rfl⟩ (nb rfl) dX12_isPattern_37 rfl (fun r6 μ5 h => ?_)
    refine v_if_eq (q := 43) (tgt := 57) C dX12_isPattern_40 rfl rfl h (fun h => ?_) (fun h => ?_)
    · exact (w_X12_isPattern_57  C hR (fun _ _ h => h)  h)
    · refine v_aloadn (q := 44) C dX12_isPattern_43 rfl rfl ?_
      refine v_iloadn (q := 45) C dX12_isPattern_44 rfl rfl ?_
      refine v_bipush (q := 47) C dX12_isPattern_45 rfl (by decide) ?_
      refine v_iloadn (q := 48) C dX12_isPattern_47 rfl rfl ?_
      refine u_iadd (q := 49) C dX12_isPattern_48 rfl h (fun h => ?_)
      refine u_cVi2 (q := 52) C (c_X12_hasSign h) sy_X12_hasSign si_X12_hasSign ml_X12_211 ob_248 (by decide) so_X12_hasSign ⟨nb rfl, nb rfl⟩ (nb rfl) dX12_isPattern_49 rfl (fun r8 μ7 h => ?_)
      refine v_if_ne (q := 55) (tgt := 57) C dX12_isPattern_52 rfl rfl h (fun h => ?_) (fun h => ?_)
      · refine v_iconst (q := 56) C dX12_isPattern_55 rfl (by decide) ?_
        exact u_zret hR dX12_isPattern_56 h
      · exact (w_X12_isPattern_57  C hR (fun _ _ h => h)  h)
theorem w_X12_isPattern_24 {X : ZX} (C : zC X cX12_isPattern RX12 4 (some .boolean) 2 45 274) {K : Int → ZM → Prop} (hR : zRi X cX12_isPattern (some .boolean) 274 (KN (KI K)))  {x1 : Int} {x2 : Int} {μ : ZM}   (h : P_X12_isPattern_24   x1 x2 μ K) : zV X 24 [some (.inr 248), some (.inl x1), some (.inl x2), none] [] 274 (z_ov μ) := by
  refine v_iconst (q := 25) C dX12_isPattern_24 rfl (by decide) ?_
  refine v_istoren (q := 26) C dX12_isPattern_25 rfl (nb rfl) (L' := [some (.inr 248), some (.inl x1), some (.inl x2), some (.inl 0)]) rfl ?_
  exact (w_X12_isPattern_26  C hR   h)
theorem c_X12_isPattern {x1 : Int} {x2 : Int} {μ : ZM} {K : Int → ZM → Prop} (h : P_X12_isPattern  x1 x2 μ K) : zMu yX12_isPattern cX12_isPattern 4 (some .boolean) 2 45 [.inr 248, .inl x1, .inl x2] μ (KI K) := by
  refine zMet_of (L0 := [some (.inr 248), some (.inl x1), some (.inl x2), none]) sy_X12_isPattern rfl (nb rfl) (Nat.le_refl _) (fun X C _ hR _ _ => ?_)
  have C : zC X cX12_isPattern RX12 4 (some .boolean) 2 45 274 := C
  refine v_aloadn (q := 1) C dX12_isPattern_0 rfl rfl ?_
  refine u_getR (q := 4) C kl12 fl_X12_13 ob_248 pt_248_1 (by decide) rfl rfl dX12_isPattern_1 rfl ?_
  refine v_iloadn (q := 5) C dX12_isPattern_4 rfl rfl ?_
  refine u_iald (q := 6) C ia_250 dX12_isPattern_5 rfl h (fun h => ?_)
  refine v_iconst (q := 7) C dX12_isPattern_6 rfl (by decide) ?_
  refine v_icmp_ne (q := 10) (tgt := 24) C dX12_isPattern_7 rfl rfl h (fun h => ?_) (fun h => ?_)
  · refine v_aloadn (q := 11) C dX12_isPattern_10 rfl rfl ?_
    refine v_iloadn (q := 12) C dX12_isPattern_11 rfl rfl ?_
    refine v_iconst (q := 13) C dX12_isPattern_12 rfl (by decide) ?_
    refine u_cVi2 (q := 16) C (c_X12_at h) sy_X12_at si_X12_at ml_X12_92 ob_248 (by decide) so_X12_at ⟨nb rfl, nb rfl⟩ (nb rfl) dX12_isPattern_13 rfl (fun r2 μ1 h => ?_)
    refine u_cSi1 (q := 19) C (c_X12_isVariable h) sy_X12_isVariable ss_X12_isVariable ml_X12_111 ⟨nb rfl, nb rfl⟩ (nb rfl) dX12_isPattern_16 rfl (fun r4 μ3 h => ?_)
    refine v_if_eq (q := 22) (tgt := 24) C dX12_isPattern_19 rfl rfl h (fun h => ?_) (fun h => ?_)
    · exact (w_X12_isPattern_24  C hR   h)
    · refine v_iconst (q := 23) C dX12_isPattern_22 rfl (by decide) ?_
      exact u_zret hR dX12_isPattern_23 h
  · exact (w_X12_isPattern_24  C hR   h)
theorem w_X12_matches_127 {X : ZX} (C : zC X cX12_matches RX12 8 (some .boolean) 5 111 274) {K : Int → ZM → Prop} (hR : zRi X cX12_matches (some .boolean) 274 (KN (KI K)))  {x1 : Int} {x2 : Int} {x4 : Int} {x5 : Int} {x6 : Int} {μ : ZM} {G30 : Int → Int → ZM → Prop} (hG30 : ∀ (x5 x6 : Int) (μ : ZM), G30 x5 x6 μ → zV X 30 [some (.inr 248), some (.inl x1), some (.inl x2), none, some (.inl x4), some (.inl x5), some (.inl x6), none] [] 274 (z_ov μ))  (h : P_X12_matches_127  G30 x1 x2 x4 x5 x6 μ K) : zV X 127 [some (.inr 248), some (.inl x1), some (.inl x2), none, some (.inl x4), some (.inl x5), some (.inl x6), none] [] 274 (z_ov μ) := by
  refine u_iinc (q := 130) C dX12_matches_127 rfl (nb rfl) rfl (L' := [some (.inr 248), some (.inl x1), some (.inl x2), none, some (.inl x4), some (.inl x5), some (.inl (x6 + 1)), none]) rfl h (fun h => ?_)
  refine v_goto (q := 30) C dX12_matches_130 rfl ?_
  exact (hG30 _ _ _ h)
theorem w_X12_matches_110 {X : ZX} (C : zC X cX12_matches RX12 8 (some .boolean) 5 111 274) {K : Int → ZM → Prop} (hR : zRi X cX12_matches (some .boolean) 274 (KN (KI K)))  {x1 : Int} {x2 : Int} {x4 : Int} {x5 : Int} {x6 : Int} {x7 : Int} {μ : ZM} {G30 : Int → Int → ZM → Prop} (hG30 : ∀ (x5 x6 : Int) (μ : ZM), G30 x5 x6 μ → zV X 30 [some (.inr 248), some (.inl x1), some (.inl x2), none, some (.inl x4), some (.inl x5), some (.inl x6), none] [] 274 (z_ov μ))  (h : P_X12_matches_110  G30 x1 x2 x4 x5 x6 x7 μ K) : zV X 110 [some (.inr 248), some (.inl x1), some (.inl x2), none, some (.inl x4), some (.inl x5), some (.inl x6), some (.inl x7)] [] 274 (z_ov μ) := by
  refine v_aloadn (q := 111) C dX12_matches_110 rfl rfl ?_
  refine v_iloadn (q := 112) C dX12_matches_111 rfl rfl ?_
  refine v_iload (q := 114) C dX12_matches_112 rfl rfl ?_
  refine u_cVi2 (q := 117) C (c_X12_at h) sy_X12_at si_X12_at ml_X12_92 ob_248 (by decide) so_X12_at ⟨nb rfl, nb rfl⟩ (nb rfl) dX12_matches_114 rfl (fun r6 μ5 h => ?_)
  refine v_iload (q := 119) C dX12_matches_117 rfl rfl ?_
  refine v_icmp_eq (q := 122) (tgt := 124) C dX12_matches_119 rfl rfl h (fun h => ?_) (fun h => ?_)
  · refine u_iinc (q := 127) C dX12_matches_124 rfl (nb rfl) rfl (L' := [some (.inr 248), some (.inl x1), some (.inl x2), none, some (.inl x4), some (.inl (x5 + 1)), some (.inl x6), some (.inl x7)]) rfl h (fun h => ?_)
    exact v_mask [true, true, true, false, true, true, true, false] rfl (w_X12_matches_127  C hR hG30  h)
  · refine v_iconst (q := 123) C dX12_matches_122 rfl (by decide) ?_
    exact u_zret hR dX12_matches_123 h
theorem w_X12_matches_30 {X : ZX} (C : zC X cX12_matches RX12 8 (some .boolean) 5 111 274) {K : Int → ZM → Prop} (hR : zRi X cX12_matches (some .boolean) 274 (KN (KI K)))  {x1 : Int} {x2 : Int} {x4 : Int} {x5 : Int} {x6 : Int} {μ : ZM}   (h : P_X12_matches_30   x1 x2 x4 x5 x6 μ K) : zV X 30 [some (.inr 248), some (.inl x1), some (.inl x2), none, some (.inl x4), some (.inl x5), some (.inl x6), none] [] 274 (z_ov μ) := by
  refine h (fun x5 x6 μ => zV X 30 [some (.inr 248), some (.inl x1), some (.inl x2), none, some (.inl x4), some (.inl x5), some (.inl x6), none] [] 274 (z_ov μ)) (fun x5 x6 μ h => ?_)
  refine v_iload (q := 32) C dX12_matches_30 rfl rfl ?_
  refine v_aloadn (q := 33) C dX12_matches_32 rfl rfl ?_
  refine u_getR (q := 36) C kl12 fl_X12_13 ob_248 pt_248_1 (by decide) rfl rfl dX12_matches_33 rfl ?_
  refine v_iloadn (q := 37) C dX12_matches_36 rfl rfl ?_
  refine u_iald (q := 38) C ia_250 dX12_matches_37 rfl h (fun h => ?_)
  refine v_icmp_ge (q := 41) (tgt := 133) C dX12_matches_38 rfl rfl h (fun h => ?_) (fun h => ?_)
  · refine v_iconst (q := 134) C dX12_matches_133 rfl (by decide) ?_
    exact u_zret hR dX12_matches_134 h
  · refine v_aloadn (q := 42) C dX12_matches_41 rfl rfl ?_
    refine v_iloadn (q := 43) C dX12_matches_42 rfl rfl ?_
    refine v_iload (q := 45) C dX12_matches_43 rfl rfl ?_
    refine u_cVi2 (q := 48) C (c_X12_at h) sy_X12_at si_X12_at ml_X12_92 ob_248 (by decide) so_X12_at ⟨nb rfl, nb rfl⟩ (nb rfl) dX12_matches_45 rfl (fun r2 μ1 h => ?_)
    refine v_istore (q := 50) C dX12_matches_48 rfl (nb rfl) (L' := [some (.inr 248), some (.inl x1), some (.inl x2), none, some (.inl x4), some (.inl x5), some (.inl x6), some (.inl r2)]) rfl ?_
    refine v_iload (q := 52) C dX12_matches_50 rfl rfl ?_
    refine v_aloadn (q := 53) C dX12_matches_52 rfl rfl ?_
    refine u_getR (q := 56) C kl12 fl_X12_13 ob_248 pt_248_1 (by decide) rfl rfl dX12_matches_53 rfl ?_
    refine v_iloadn (q := 57) C dX12_matches_56 rfl rfl ?_
    refine u_iald (q := 58) C ia_250 dX12_matches_57 rfl h (fun h => ?_)
    refine v_icmp_lt (q := 61) (tgt := 63) C dX12_matches_58 rfl rfl h (fun h => ?_) (fun h => ?_)
    · refine v_iload (q := 65) C dX12_matches_63 rfl rfl ?_
      refine u_cSi1 (q := 68) C (c_X12_isVariable h) sy_X12_isVariable ss_X12_isVariable ml_X12_111 ⟨nb rfl, nb rfl⟩ (nb rfl) dX12_matches_65 rfl (fun r4 μ3 h => ?_)
      refine v_if_eq (q := 71) (tgt := 110) C dX12_matches_68 rfl rfl h (fun h => ?_) (fun h => ?_)
      · exact (w_X12_matches_110  C hR (fun _ _ _ h => h)  h)
      · refine v_iload (q := 73) C dX12_matches_71 rfl rfl ?_
        refine v_bipush (q := 75) C dX12_matches_73 rfl (by decide) ?_
        refine u_isub (q := 76) C dX12_matches_75 rfl h (fun h => ?_)
        refine v_iload (q := 78) C dX12_matches_76 rfl rfl ?_
        refine v_icmp_eq (q := 81) (tgt := 110) C dX12_matches_78 rfl rfl h (fun h => ?_) (fun h => ?_)
        · exact (w_X12_matches_110  C hR (fun _ _ _ h => h)  h)
        · refine v_aloadn (q := 82) C dX12_matches_81 rfl rfl ?_
          refine v_iload (q := 84) C dX12_matches_82 rfl rfl ?_
          refine v_bipush (q := 86) C dX12_matches_84 rfl (by decide) ?_
          refine u_isub (q := 87) C dX12_matches_86 rfl h (fun h => ?_)
          refine v_iloadn (q := 88) C dX12_matches_87 rfl rfl ?_
          refine v_iload (q := 90) C dX12_matches_88 rfl rfl ?_
          refine u_cVi3 (q := 93) C (c_X12_binds h) sy_X12_binds si_X12_binds ml_X12_286 ob_248 (by decide) so_X12_binds ⟨nb rfl, nb rfl⟩ (nb rfl) dX12_matches_90 rfl (fun r8 μ7 h => ?_)
          refine v_if_ne (q := 96) (tgt := 98) C dX12_matches_93 rfl rfl h (fun h => ?_) (fun h => ?_)
          · refine v_iconst (q := 97) C dX12_matches_96 rfl (by decide) ?_
            exact u_zret hR dX12_matches_97 h
          · refine v_aloadn (q := 99) C dX12_matches_98 rfl rfl ?_
            refine v_iloadn (q := 100) C dX12_matches_99 rfl rfl ?_
            refine v_iload (q := 102) C dX12_matches_100 rfl rfl ?_
            refine u_cVi2 (q := 105) C (c_X12_end h) sy_X12_end si_X12_end ml_X12_266 ob_248 (by decide) so_X12_end ⟨nb rfl, nb rfl⟩ (nb rfl) dX12_matches_102 rfl (fun r10 μ9 h => ?_)
            refine v_istore (q := 107) C dX12_matches_105 rfl (nb rfl) (L' := [some (.inr 248), some (.inl x1), some (.inl x2), none, some (.inl x4), some (.inl r10), some (.inl x6), some (.inl r2)]) rfl ?_
            refine v_goto (q := 127) C dX12_matches_107 rfl ?_
            exact v_mask [true, true, true, false, true, true, true, false] rfl (w_X12_matches_127  C hR (fun _ _ _ h => h)  h)
    · refine v_iconst (q := 62) C dX12_matches_61 rfl (by decide) ?_
      exact u_zret hR dX12_matches_62 h
theorem w_X12_matches_3 {X : ZX} (C : zC X cX12_matches RX12 8 (some .boolean) 5 111 274) {K : Int → ZM → Prop} (hR : zRi X cX12_matches (some .boolean) 274 (KN (KI K)))  {x1 : Int} {x2 : Int} {x3 : Int} {x4 : Int} {x5 : Int} {μ : ZM}   (h : P_X12_matches_3   x1 x2 x3 x4 x5 μ K) : zV X 3 [some (.inr 248), some (.inl x1), some (.inl x2), some (.inl x3), some (.inl x4), some (.inl x5), none, none] [] 274 (z_ov μ) := by
  refine h (fun x5 μ => zV X 3 [some (.inr 248), some (.inl x1), some (.inl x2), some (.inl x3), some (.inl x4), some (.inl x5), none, none] [] 274 (z_ov μ)) (fun x5 μ h => ?_)
  refine v_iload (q := 5) C dX12_matches_3 rfl rfl ?_
  refine v_iconst (q := 6) C dX12_matches_5 rfl (by decide) ?_
  refine v_icmp_ge (q := 9) (tgt := 24) C dX12_matches_6 rfl rfl h (fun h => ?_) (fun h => ?_)
  · refine v_iloadn (q := 25) C dX12_matches_24 rfl rfl ?_
    refine v_istore (q := 27) C dX12_matches_25 rfl (nb rfl) (L' := [some (.inr 248), some (.inl x1), some (.inl x2), some (.inl x3), some (.inl x4), some (.inl x3), none, none]) rfl ?_
    refine v_iconst (q := 28) C dX12_matches_27 rfl (by decide) ?_
    refine v_istore (q := 30) C dX12_matches_28 rfl (nb rfl) (L' := [some (.inr 248), some (.inl x1), some (.inl x2), some (.inl x3), some (.inl x4), some (.inl x3), some (.inl 0), none]) rfl ?_
    exact v_mask [true, true, true, false, true, true, true, false] rfl (w_X12_matches_30  C hR   h)
  · refine v_aloadn (q := 10) C dX12_matches_9 rfl rfl ?_
    refine u_getR (q := 13) C kl12 fl_X12_67 ob_248 pt_248_33 (by decide) rfl rfl dX12_matches_10 rfl ?_
    refine v_iload (q := 15) C dX12_matches_13 rfl rfl ?_
    refine v_bipush (q := 17) C dX12_matches_15 rfl (by decide) ?_
    refine u_iast (q := 18) C ia_268 dX12_matches_17 rfl h (fun μ11 h => ?_)
    refine u_iinc (q := 21) C dX12_matches_18 rfl (nb rfl) rfl (L' := [some (.inr 248), some (.inl x1), some (.inl x2), some (.inl x3), some (.inl x4), some (.inl (x5 + 1)), none, none]) rfl h (fun h => ?_)
    refine v_goto (q := 3) C dX12_matches_21 rfl ?_
    exact h
theorem c_X12_matches {x1 : Int} {x2 : Int} {x3 : Int} {x4 : Int} {μ : ZM} {K : Int → ZM → Prop} (h : P_X12_matches  x1 x2 x3 x4 μ K) : zMu yX12_matches cX12_matches 8 (some .boolean) 5 111 [.inr 248, .inl x1, .inl x2, .inl x3, .inl x4] μ (KI K) := by
  refine zMet_of (L0 := [some (.inr 248), some (.inl x1), some (.inl x2), some (.inl x3), some (.inl x4), none, none, none]) sy_X12_matches rfl (nb rfl) (Nat.le_refl _) (fun X C _ hR _ _ => ?_)
  have C : zC X cX12_matches RX12 8 (some .boolean) 5 111 274 := C
  refine v_iconst (q := 1) C dX12_matches_0 rfl (by decide) ?_
  refine v_istore (q := 3) C dX12_matches_1 rfl (nb rfl) (L' := [some (.inr 248), some (.inl x1), some (.inl x2), some (.inl x3), some (.inl x4), some (.inl 0), none, none]) rfl ?_
  exact (w_X12_matches_3  C hR   h)
theorem w_X12_longWith_60 {X : ZX} (C : zC X cX12_longWith RX12 5 (some .int) 2 42 274) {K : Int → ZM → Prop} (hR : zRi X cX12_longWith (some .int) 274 (KN (KI K)))  {x1 : Int} {x3 : Int} {s0 : Int} {s1 : Int} {μ : ZM} {G4 : Int → Int → ZM → Prop} (hG4 : ∀ (x2 x3 : Int) (μ : ZM), G4 x2 x3 μ → zV X 4 [some (.inr 248), some (.inl x1), some (.inl x2), some (.inl x3), none] [] 274 (z_ov μ))  (h : P_X12_longWith_60  G4 x1 x3 s0 s1 μ K) : zV X 60 [some (.inr 248), some (.inl x1), none, some (.inl x3), none] [.inl s1, .inl s0] 274 (z_ov μ) := by
  refine u_iadd (q := 61) C dX12_longWith_60 rfl h (fun h => ?_)
  refine v_istoren (q := 62) C dX12_longWith_61 rfl (nb rfl) (L' := [some (.inr 248), some (.inl x1), some (.inl (s0 + s1)), some (.inl x3), none]) rfl ?_
  refine u_iinc (q := 65) C dX12_longWith_62 rfl (nb rfl) rfl (L' := [some (.inr 248), some (.inl x1), some (.inl (s0 + s1)), some (.inl (x3 + 1)), none]) rfl h (fun h => ?_)
  refine v_goto (q := 4) C dX12_longWith_65 rfl ?_
  exact (hG4 _ _ _ h)
theorem w_X12_longWith_59 {X : ZX} (C : zC X cX12_longWith RX12 5 (some .int) 2 42 274) {K : Int → ZM → Prop} (hR : zRi X cX12_longWith (some .int) 274 (KN (KI K)))  {x1 : Int} {x3 : Int} {s0 : Int} {μ : ZM} {G4 : Int → Int → ZM → Prop} (hG4 : ∀ (x2 x3 : Int) (μ : ZM), G4 x2 x3 μ → zV X 4 [some (.inr 248), some (.inl x1), some (.inl x2), some (.inl x3), none] [] 274 (z_ov μ))  (h : P_X12_longWith_59  G4 x1 x3 s0 μ K) : zV X 59 [some (.inr 248), some (.inl x1), none, some (.inl x3), none] [.inl s0] 274 (z_ov μ) := by
  refine v_iconst (q := 60) C dX12_longWith_59 rfl (by decide) ?_
  exact (w_X12_longWith_60  C hR hG4  h)
theorem w_X12_longWith_4 {X : ZX} (C : zC X cX12_longWith RX12 5 (some .int) 2 42 274) {K : Int → ZM → Prop} (hR : zRi X cX12_longWith (some .int) 274 (KN (KI K)))  {x1 : Int} {x2 : Int} {x3 : Int} {μ : ZM}   (h : P_X12_longWith_4   x1 x2 x3 μ K) : zV X 4 [some (.inr 248), some (.inl x1), some (.inl x2), some (.inl x3), none] [] 274 (z_ov μ) := by
  refine h (fun x2 x3 μ => zV X 4 [some (.inr 248), some (.inl x1), some (.inl x2), some (.inl x3), none] [] 274 (z_ov μ)) (fun x2 x3 μ h => ?_)
  refine v_iloadn (q := 5) C dX12_longWith_4 rfl rfl ?_
  refine v_aloadn (q := 6) C dX12_longWith_5 rfl rfl ?_
  refine u_getR (q := 9) C kl12 fl_X12_13 ob_248 pt_248_1 (by decide) rfl rfl dX12_longWith_6 rfl ?_
  refine v_iloadn (q := 10) C dX12_longWith_9 rfl rfl ?_
  refine u_iald (q := 11) C ia_250 dX12_longWith_10 rfl h (fun h => ?_)
  refine v_icmp_ge (q := 14) (tgt := 68) C dX12_longWith_11 rfl rfl h (fun h => ?_) (fun h => ?_)
  · refine v_iloadn (q := 69) C dX12_longWith_68 rfl rfl ?_
    exact u_iret hR dX12_longWith_69 h
  · refine v_aloadn (q := 15) C dX12_longWith_14 rfl rfl ?_
    refine v_iloadn (q := 16) C dX12_longWith_15 rfl rfl ?_
    refine v_iloadn (q := 17) C dX12_longWith_16 rfl rfl ?_
    refine u_cVi2 (q := 20) C (c_X12_at h) sy_X12_at si_X12_at ml_X12_92 ob_248 (by decide) so_X12_at ⟨nb rfl, nb rfl⟩ (nb rfl) dX12_longWith_17 rfl (fun r2 μ1 h => ?_)
    refine v_istore (q := 22) C dX12_longWith_20 rfl (nb rfl) (L' := [some (.inr 248), some (.inl x1), some (.inl x2), some (.inl x3), some (.inl r2)]) rfl ?_
    refine v_iloadn (q := 23) C dX12_longWith_22 rfl rfl ?_
    refine v_iload (q := 25) C dX12_longWith_23 rfl rfl ?_
    refine u_cSi1 (q := 28) C (c_X12_isVariable h) sy_X12_isVariable ss_X12_isVariable ml_X12_111 ⟨nb rfl, nb rfl⟩ (nb rfl) dX12_longWith_25 rfl (fun r4 μ3 h => ?_)
    refine v_if_eq (q := 31) (tgt := 59) C dX12_longWith_28 rfl rfl h (fun h => ?_) (fun h => ?_)
    · exact v_mask [true, true, false, true, false] rfl (w_X12_longWith_59  C hR (fun _ _ _ h => h)  h)
    · refine v_aloadn (q := 32) C dX12_longWith_31 rfl rfl ?_
      refine u_getR (q := 35) C kl12 fl_X12_67 ob_248 pt_248_33 (by decide) rfl rfl dX12_longWith_32 rfl ?_
      refine v_iload (q := 37) C dX12_longWith_35 rfl rfl ?_
      refine v_bipush (q := 39) C dX12_longWith_37 rfl (by decide) ?_
      refine u_isub (q := 40) C dX12_longWith_39 rfl h (fun h => ?_)
      refine u_iald (q := 41) C ia_268 dX12_longWith_40 rfl h (fun h => ?_)
      refine v_bipush (q := 43) C dX12_longWith_41 rfl (by decide) ?_
      refine v_icmp_eq (q := 46) (tgt := 59) C dX12_longWith_43 rfl rfl h (fun h => ?_) (fun h => ?_)
      · exact v_mask [true, true, false, true, false] rfl (w_X12_longWith_59  C hR (fun _ _ _ h => h)  h)
      · refine v_aloadn (q := 47) C dX12_longWith_46 rfl rfl ?_
        refine u_getR (q := 50) C kl12 fl_X12_70 ob_248 pt_248_34 (by decide) rfl rfl dX12_longWith_47 rfl ?_
        refine v_iload (q := 52) C dX12_longWith_50 rfl rfl ?_
        refine v_bipush (q := 54) C dX12_longWith_52 rfl (by decide) ?_
        refine u_isub (q := 55) C dX12_longWith_54 rfl h (fun h => ?_)
        refine u_iald (q := 56) C ia_269 dX12_longWith_55 rfl h (fun h => ?_)
        refine v_goto (q := 60) C dX12_longWith_56 rfl ?_
        exact v_mask [true, true, false, true, false] rfl (w_X12_longWith_60  C hR (fun _ _ _ h => h)  h)
theorem c_X12_longWith {x1 : Int} {μ : ZM} {K : Int → ZM → Prop} (h : P_X12_longWith  x1 μ K) : zMu yX12_longWith cX12_longWith 5 (some .int) 2 42 [.inr 248, .inl x1] μ (KI K) := by
  refine zMet_of (L0 := [some (.inr 248), some (.inl x1), none, none, none]) sy_X12_longWith rfl (nb rfl) (Nat.le_refl _) (fun X C _ hR _ _ => ?_)
  have C : zC X cX12_longWith RX12 5 (some .int) 2 42 274 := C
  refine v_iconst (q := 1) C dX12_longWith_0 rfl (by decide) ?_
  refine v_istoren (q := 2) C dX12_longWith_1 rfl (nb rfl) (L' := [some (.inr 248), some (.inl x1), some (.inl 0), none, none]) rfl ?_
  refine v_iconst (q := 3) C dX12_longWith_2 rfl (by decide) ?_
  refine v_istoren (q := 4) C dX12_longWith_3 rfl (nb rfl) (L' := [some (.inr 248), some (.inl x1), some (.inl 0), some (.inl 0), none]) rfl ?_
  exact (w_X12_longWith_4  C hR   h)
theorem w_X12_replaces_183 {X : ZX} (C : zC X cX12_replaces RX12 8 (some .boolean) 4 87 274) {K : Int → ZM → Prop} (hR : zRi X cX12_replaces (some .boolean) 274 (KN (KI K)))  {x1 : Int} {x5 : Int} {μ : ZM}   (h : P_X12_replaces_183   x1 x5 μ K) : zV X 183 [some (.inr 248), some (.inl x1), none, none, none, some (.inl x5), none, none] [] 274 (z_ov μ) := by
  refine h (fun x5 μ => zV X 183 [some (.inr 248), some (.inl x1), none, none, none, some (.inl x5), none, none] [] 274 (z_ov μ)) (fun x5 μ h => ?_)
  refine v_iload (q := 185) C dX12_replaces_183 rfl rfl ?_
  refine v_aloadn (q := 186) C dX12_replaces_185 rfl rfl ?_
  refine u_getR (q := 189) C kl12 fl_X12_13 ob_248 pt_248_1 (by decide) rfl rfl dX12_replaces_186 rfl ?_
  refine v_iloadn (q := 190) C dX12_replaces_189 rfl rfl ?_
  refine u_iald (q := 191) C ia_250 dX12_replaces_190 rfl h (fun h => ?_)
  refine v_icmp_ge (q := 194) (tgt := 213) C dX12_replaces_191 rfl rfl h (fun h => ?_) (fun h => ?_)
  · refine v_iconst (q := 214) C dX12_replaces_213 rfl (by decide) ?_
    exact u_zret hR dX12_replaces_214 h
  · refine v_aloadn (q := 195) C dX12_replaces_194 rfl rfl ?_
    refine v_bipush (q := 197) C dX12_replaces_195 rfl (by decide) ?_
    refine v_aloadn (q := 198) C dX12_replaces_197 rfl rfl ?_
    refine v_iloadn (q := 199) C dX12_replaces_198 rfl rfl ?_
    refine v_iload (q := 201) C dX12_replaces_199 rfl rfl ?_
    refine u_cVi2 (q := 204) C (c_X12_at h) sy_X12_at si_X12_at ml_X12_92 ob_248 (by decide) so_X12_at ⟨nb rfl, nb rfl⟩ (nb rfl) dX12_replaces_201 rfl (fun r7 μ6 h => ?_)
    refine u_cVv2 (q := 207) C (c_X12_puts h) sy_X12_puts si_X12_puts ml_X12_150 ob_248 (by decide) so_X12_puts ⟨nb rfl, nb rfl⟩ (nb rfl) dX12_replaces_204 rfl (fun μ8 h => ?_)
    refine u_iinc (q := 210) C dX12_replaces_207 rfl (nb rfl) rfl (L' := [some (.inr 248), some (.inl x1), none, none, none, some (.inl (x5 + 1)), none, none]) rfl h (fun h => ?_)
    refine v_goto (q := 183) C dX12_replaces_210 rfl ?_
    exact h
theorem w_X12_replaces_173 {X : ZX} (C : zC X cX12_replaces RX12 8 (some .boolean) 4 87 274) {K : Int → ZM → Prop} (hR : zRi X cX12_replaces (some .boolean) 274 (KN (KI K)))  {x1 : Int} {x3 : Int} {x4 : Int} {x5 : Int} {μ : ZM} {G71 : Int → ZM → Prop} (hG71 : ∀ (x5 : Int) (μ : ZM), G71 x5 μ → zV X 71 [some (.inr 248), some (.inl x1), none, some (.inl x3), some (.inl x4), some (.inl x5), none, none] [] 274 (z_ov μ))  (h : P_X12_replaces_173  G71 x1 x3 x4 x5 μ K) : zV X 173 [some (.inr 248), some (.inl x1), none, some (.inl x3), some (.inl x4), some (.inl x5), none, none] [] 274 (z_ov μ) := by
  refine u_iinc (q := 176) C dX12_replaces_173 rfl (nb rfl) rfl (L' := [some (.inr 248), some (.inl x1), none, some (.inl x3), some (.inl x4), some (.inl (x5 + 1)), none, none]) rfl h (fun h => ?_)
  refine v_goto (q := 71) C dX12_replaces_176 rfl ?_
  exact (hG71 _ _ h)
theorem w_X12_replaces_165 {X : ZX} (C : zC X cX12_replaces RX12 8 (some .boolean) 4 87 274) {K : Int → ZM → Prop} (hR : zRi X cX12_replaces (some .boolean) 274 (KN (KI K)))  {x1 : Int} {x3 : Int} {x4 : Int} {x5 : Int} {x6 : Int} {μ : ZM} {G71 : Int → ZM → Prop} (hG71 : ∀ (x5 : Int) (μ : ZM), G71 x5 μ → zV X 71 [some (.inr 248), some (.inl x1), none, some (.inl x3), some (.inl x4), some (.inl x5), none, none] [] 274 (z_ov μ))  (h : P_X12_replaces_165  G71 x1 x3 x4 x5 x6 μ K) : zV X 165 [some (.inr 248), some (.inl x1), none, some (.inl x3), some (.inl x4), some (.inl x5), some (.inl x6), none] [] 274 (z_ov μ) := by
  refine v_aloadn (q := 166) C dX12_replaces_165 rfl rfl ?_
  refine v_bipush (q := 168) C dX12_replaces_166 rfl (by decide) ?_
  refine v_iload (q := 170) C dX12_replaces_168 rfl rfl ?_
  refine u_cVv2 (q := 173) C (c_X12_puts h) sy_X12_puts si_X12_puts ml_X12_150 ob_248 (by decide) so_X12_puts ⟨nb rfl, nb rfl⟩ (nb rfl) dX12_replaces_170 rfl (fun μ13 h => ?_)
  exact v_mask [true, true, false, true, true, true, false, false] rfl (w_X12_replaces_173  C hR hG71  h)
theorem w_X12_replaces_117 {X : ZX} (C : zC X cX12_replaces RX12 8 (some .boolean) 4 87 274) {K : Int → ZM → Prop} (hR : zRi X cX12_replaces (some .boolean) 274 (KN (KI K)))  {x1 : Int} {x3 : Int} {x4 : Int} {x5 : Int} {x6 : Int} {x7 : Int} {μ : ZM} {G71 : Int → ZM → Prop} (hG71 : ∀ (x5 : Int) (μ : ZM), G71 x5 μ → zV X 71 [some (.inr 248), some (.inl x1), none, some (.inl x3), some (.inl x4), some (.inl x5), none, none] [] 274 (z_ov μ))  (h : P_X12_replaces_117  G71 x1 x3 x4 x5 x6 x7 μ K) : zV X 117 [some (.inr 248), some (.inl x1), none, some (.inl x3), some (.inl x4), some (.inl x5), some (.inl x6), some (.inl x7)] [] 274 (z_ov μ) := by
  refine h (fun x7 μ => zV X 117 [some (.inr 248), some (.inl x1), none, some (.inl x3), some (.inl x4), some (.inl x5), some (.inl x6), some (.inl x7)] [] 274 (z_ov μ)) (fun x7 μ h => ?_)
  refine v_iload (q := 119) C dX12_replaces_117 rfl rfl ?_
  refine v_aloadn (q := 120) C dX12_replaces_119 rfl rfl ?_
  refine u_getR (q := 123) C kl12 fl_X12_70 ob_248 pt_248_34 (by decide) rfl rfl dX12_replaces_120 rfl ?_
  refine v_iload (q := 125) C dX12_replaces_123 rfl rfl ?_
  refine v_bipush (q := 127) C dX12_replaces_125 rfl (by decide) ?_
  refine u_isub (q := 128) C dX12_replaces_127 rfl h (fun h => ?_)
  refine u_iald (q := 129) C ia_269 dX12_replaces_128 rfl h (fun h => ?_)
  refine v_icmp_ge (q := 132) (tgt := 162) C dX12_replaces_129 rfl rfl h (fun h => ?_) (fun h => ?_)
  · refine v_goto (q := 173) C dX12_replaces_162 rfl ?_
    exact v_mask [true, true, false, true, true, true, false, false] rfl (w_X12_replaces_173  C hR hG71  h)
  · refine v_aloadn (q := 133) C dX12_replaces_132 rfl rfl ?_
    refine v_bipush (q := 135) C dX12_replaces_133 rfl (by decide) ?_
    refine v_aloadn (q := 136) C dX12_replaces_135 rfl rfl ?_
    refine v_iloadn (q := 137) C dX12_replaces_136 rfl rfl ?_
    refine v_aloadn (q := 138) C dX12_replaces_137 rfl rfl ?_
    refine u_getR (q := 141) C kl12 fl_X12_67 ob_248 pt_248_33 (by decide) rfl rfl dX12_replaces_138 rfl ?_
    refine v_iload (q := 143) C dX12_replaces_141 rfl rfl ?_
    refine v_bipush (q := 145) C dX12_replaces_143 rfl (by decide) ?_
    refine u_isub (q := 146) C dX12_replaces_145 rfl h (fun h => ?_)
    refine u_iald (q := 147) C ia_268 dX12_replaces_146 rfl h (fun h => ?_)
    refine v_iload (q := 149) C dX12_replaces_147 rfl rfl ?_
    refine u_iadd (q := 150) C dX12_replaces_149 rfl h (fun h => ?_)
    refine u_cVi2 (q := 153) C (c_X12_at h) sy_X12_at si_X12_at ml_X12_92 ob_248 (by decide) so_X12_at ⟨nb rfl, nb rfl⟩ (nb rfl) dX12_replaces_150 rfl (fun r15 μ14 h => ?_)
    refine u_cVv2 (q := 156) C (c_X12_puts h) sy_X12_puts si_X12_puts ml_X12_150 ob_248 (by decide) so_X12_puts ⟨nb rfl, nb rfl⟩ (nb rfl) dX12_replaces_153 rfl (fun μ16 h => ?_)
    refine u_iinc (q := 159) C dX12_replaces_156 rfl (nb rfl) rfl (L' := [some (.inr 248), some (.inl x1), none, some (.inl x3), some (.inl x4), some (.inl x5), some (.inl x6), some (.inl (x7 + 1))]) rfl h (fun h => ?_)
    refine v_goto (q := 117) C dX12_replaces_159 rfl ?_
    exact h
theorem w_X12_replaces_71 {X : ZX} (C : zC X cX12_replaces RX12 8 (some .boolean) 4 87 274) {K : Int → ZM → Prop} (hR : zRi X cX12_replaces (some .boolean) 274 (KN (KI K)))  {x1 : Int} {x3 : Int} {x4 : Int} {x5 : Int} {μ : ZM}   (h : P_X12_replaces_71   x1 x3 x4 x5 μ K) : zV X 71 [some (.inr 248), some (.inl x1), none, some (.inl x3), some (.inl x4), some (.inl x5), none, none] [] 274 (z_ov μ) := by
  refine h (fun x5 μ => zV X 71 [some (.inr 248), some (.inl x1), none, some (.inl x3), some (.inl x4), some (.inl x5), none, none] [] 274 (z_ov μ)) (fun x5 μ h => ?_)
  refine v_iload (q := 73) C dX12_replaces_71 rfl rfl ?_
  refine v_aloadn (q := 74) C dX12_replaces_73 rfl rfl ?_
  refine u_getR (q := 77) C kl12 fl_X12_13 ob_248 pt_248_1 (by decide) rfl rfl dX12_replaces_74 rfl ?_
  refine v_iloadn (q := 78) C dX12_replaces_77 rfl rfl ?_
  refine u_iald (q := 79) C ia_250 dX12_replaces_78 rfl h (fun h => ?_)
  refine v_icmp_ge (q := 82) (tgt := 179) C dX12_replaces_79 rfl rfl h (fun h => ?_) (fun h => ?_)
  · refine v_iload (q := 181) C dX12_replaces_179 rfl rfl ?_
    refine v_istore (q := 183) C dX12_replaces_181 rfl (nb rfl) (L' := [some (.inr 248), some (.inl x1), none, some (.inl x3), some (.inl x4), some (.inl x4), none, none]) rfl ?_
    exact v_mask [true, true, false, false, false, true, false, false] rfl (w_X12_replaces_183  C hR   h)
  · refine v_aloadn (q := 83) C dX12_replaces_82 rfl rfl ?_
    refine v_iloadn (q := 84) C dX12_replaces_83 rfl rfl ?_
    refine v_iload (q := 86) C dX12_replaces_84 rfl rfl ?_
    refine u_cVi2 (q := 89) C (c_X12_at h) sy_X12_at si_X12_at ml_X12_92 ob_248 (by decide) so_X12_at ⟨nb rfl, nb rfl⟩ (nb rfl) dX12_replaces_86 rfl (fun r10 μ9 h => ?_)
    refine v_istore (q := 91) C dX12_replaces_89 rfl (nb rfl) (L' := [some (.inr 248), some (.inl x1), none, some (.inl x3), some (.inl x4), some (.inl x5), some (.inl r10), none]) rfl ?_
    refine v_iload (q := 93) C dX12_replaces_91 rfl rfl ?_
    refine u_cSi1 (q := 96) C (c_X12_isVariable h) sy_X12_isVariable ss_X12_isVariable ml_X12_111 ⟨nb rfl, nb rfl⟩ (nb rfl) dX12_replaces_93 rfl (fun r12 μ11 h => ?_)
    refine v_if_eq (q := 99) (tgt := 165) C dX12_replaces_96 rfl rfl h (fun h => ?_) (fun h => ?_)
    · exact (w_X12_replaces_165  C hR (fun _ _ h => h)  h)
    · refine v_aloadn (q := 100) C dX12_replaces_99 rfl rfl ?_
      refine u_getR (q := 103) C kl12 fl_X12_67 ob_248 pt_248_33 (by decide) rfl rfl dX12_replaces_100 rfl ?_
      refine v_iload (q := 105) C dX12_replaces_103 rfl rfl ?_
      refine v_bipush (q := 107) C dX12_replaces_105 rfl (by decide) ?_
      refine u_isub (q := 108) C dX12_replaces_107 rfl h (fun h => ?_)
      refine u_iald (q := 109) C ia_268 dX12_replaces_108 rfl h (fun h => ?_)
      refine v_bipush (q := 111) C dX12_replaces_109 rfl (by decide) ?_
      refine v_icmp_eq (q := 114) (tgt := 165) C dX12_replaces_111 rfl rfl h (fun h => ?_) (fun h => ?_)
      · exact (w_X12_replaces_165  C hR (fun _ _ h => h)  h)
      · refine v_iconst (q := 115) C dX12_replaces_114 rfl (by decide) ?_
        refine v_istore (q := 117) C dX12_replaces_115 rfl (nb rfl) (L' := [some (.inr 248), some (.inl x1), none, some (.inl x3), some (.inl x4), some (.inl x5), some (.inl r10), some (.inl 0)]) rfl ?_
        exact (w_X12_replaces_117  C hR (fun _ _ h => h)  h)
theorem w_X12_replaces_43 {X : ZX} (C : zC X cX12_replaces RX12 8 (some .boolean) 4 87 274) {K : Int → ZM → Prop} (hR : zRi X cX12_replaces (some .boolean) 274 (KN (KI K)))  {x1 : Int} {x2 : Int} {x3 : Int} {x4 : Int} {x5 : Int} {μ : ZM}   (h : P_X12_replaces_43   x1 x2 x3 x4 x5 μ K) : zV X 43 [some (.inr 248), some (.inl x1), some (.inl x2), some (.inl x3), some (.inl x4), some (.inl x5), none, none] [] 274 (z_ov μ) := by
  refine h (fun x5 μ => zV X 43 [some (.inr 248), some (.inl x1), some (.inl x2), some (.inl x3), some (.inl x4), some (.inl x5), none, none] [] 274 (z_ov μ)) (fun x5 μ h => ?_)
  refine v_iload (q := 45) C dX12_replaces_43 rfl rfl ?_
  refine v_iloadn (q := 46) C dX12_replaces_45 rfl rfl ?_
  refine v_icmp_ge (q := 49) (tgt := 68) C dX12_replaces_46 rfl rfl h (fun h => ?_) (fun h => ?_)
  · refine v_iconst (q := 69) C dX12_replaces_68 rfl (by decide) ?_
    refine v_istore (q := 71) C dX12_replaces_69 rfl (nb rfl) (L' := [some (.inr 248), some (.inl x1), some (.inl x2), some (.inl x3), some (.inl x4), some (.inl 0), none, none]) rfl ?_
    exact v_mask [true, true, false, true, true, true, false, false] rfl (w_X12_replaces_71  C hR   h)
  · refine v_aloadn (q := 50) C dX12_replaces_49 rfl rfl ?_
    refine v_bipush (q := 52) C dX12_replaces_50 rfl (by decide) ?_
    refine v_aloadn (q := 53) C dX12_replaces_52 rfl rfl ?_
    refine v_iloadn (q := 54) C dX12_replaces_53 rfl rfl ?_
    refine v_iload (q := 56) C dX12_replaces_54 rfl rfl ?_
    refine u_cVi2 (q := 59) C (c_X12_at h) sy_X12_at si_X12_at ml_X12_92 ob_248 (by decide) so_X12_at ⟨nb rfl, nb rfl⟩ (nb rfl) dX12_replaces_56 rfl (fun r18 μ17 h => ?_)
    refine u_cVv2 (q := 62) C (c_X12_puts h) sy_X12_puts si_X12_puts ml_X12_150 ob_248 (by decide) so_X12_puts ⟨nb rfl, nb rfl⟩ (nb rfl) dX12_replaces_59 rfl (fun μ19 h => ?_)
    refine u_iinc (q := 65) C dX12_replaces_62 rfl (nb rfl) rfl (L' := [some (.inr 248), some (.inl x1), some (.inl x2), some (.inl x3), some (.inl x4), some (.inl (x5 + 1)), none, none]) rfl h (fun h => ?_)
    refine v_goto (q := 43) C dX12_replaces_65 rfl ?_
    exact h
theorem c_X12_replaces {x1 : Int} {x2 : Int} {x3 : Int} {μ : ZM} {K : Int → ZM → Prop} (h : P_X12_replaces  x1 x2 x3 μ K) : zMu yX12_replaces cX12_replaces 8 (some .boolean) 4 87 [.inr 248, .inl x1, .inl x2, .inl x3] μ (KI K) := by
  refine zMet_of (L0 := [some (.inr 248), some (.inl x1), some (.inl x2), some (.inl x3), none, none, none, none]) sy_X12_replaces rfl (nb rfl) (Nat.le_refl _) (fun X C _ hR _ _ => ?_)
  have C : zC X cX12_replaces RX12 8 (some .boolean) 4 87 274 := C
  refine v_aloadn (q := 1) C dX12_replaces_0 rfl rfl ?_
  refine v_iloadn (q := 2) C dX12_replaces_1 rfl rfl ?_
  refine v_iloadn (q := 3) C dX12_replaces_2 rfl rfl ?_
  refine u_cVi2 (q := 6) C (c_X12_end h) sy_X12_end si_X12_end ml_X12_266 ob_248 (by decide) so_X12_end ⟨nb rfl, nb rfl⟩ (nb rfl) dX12_replaces_3 rfl (fun r2 μ1 h => ?_)
  refine v_istore (q := 8) C dX12_replaces_6 rfl (nb rfl) (L' := [some (.inr 248), some (.inl x1), some (.inl x2), some (.inl x3), some (.inl r2), none, none, none]) rfl ?_
  refine v_aloadn (q := 9) C dX12_replaces_8 rfl rfl ?_
  refine u_getR (q := 12) C kl12 fl_X12_13 ob_248 pt_248_1 (by decide) rfl rfl dX12_replaces_9 rfl ?_
  refine v_iloadn (q := 13) C dX12_replaces_12 rfl rfl ?_
  refine u_iald (q := 14) C ia_250 dX12_replaces_13 rfl h (fun h => ?_)
  refine v_iload (q := 16) C dX12_replaces_14 rfl rfl ?_
  refine v_iloadn (q := 17) C dX12_replaces_16 rfl rfl ?_
  refine u_isub (q := 18) C dX12_replaces_17 rfl h (fun h => ?_)
  refine u_isub (q := 19) C dX12_replaces_18 rfl h (fun h => ?_)
  refine v_aloadn (q := 20) C dX12_replaces_19 rfl rfl ?_
  refine v_iloadn (q := 21) C dX12_replaces_20 rfl rfl ?_
  refine u_cVi1 (q := 24) C (c_X12_longWith h) sy_X12_longWith si_X12_longWith ml_X12_289 ob_248 (by decide) so_X12_longWith ⟨nb rfl, nb rfl⟩ (nb rfl) dX12_replaces_21 rfl (fun r4 μ3 h => ?_)
  refine u_iadd (q := 25) C dX12_replaces_24 rfl h (fun h => ?_)
  refine v_bipush (q := 27) C dX12_replaces_25 rfl (by decide) ?_
  refine v_icmp_le (q := 30) (tgt := 32) C dX12_replaces_27 rfl rfl h (fun h => ?_) (fun h => ?_)
  · refine v_aloadn (q := 33) C dX12_replaces_32 rfl rfl ?_
    refine u_getR (q := 36) C kl12 fl_X12_13 ob_248 pt_248_1 (by decide) rfl rfl dX12_replaces_33 rfl ?_
    refine v_bipush (q := 38) C dX12_replaces_36 rfl (by decide) ?_
    refine v_iconst (q := 39) C dX12_replaces_38 rfl (by decide) ?_
    refine u_iast (q := 40) C ia_250 dX12_replaces_39 rfl h (fun μ5 h => ?_)
    refine v_iconst (q := 41) C dX12_replaces_40 rfl (by decide) ?_
    refine v_istore (q := 43) C dX12_replaces_41 rfl (nb rfl) (L' := [some (.inr 248), some (.inl x1), some (.inl x2), some (.inl x3), some (.inl r2), some (.inl 0), none, none]) rfl ?_
    exact (w_X12_replaces_43  C hR   h)
  · refine v_iconst (q := 31) C dX12_replaces_30 rfl (by decide) ?_
    exact u_zret hR dX12_replaces_31 h
theorem w_X12_steersOnce_140 {X : ZX} (C : zC X cX12_steersOnce RX12 9 (some .boolean) 6 139 274) {K : Int → ZM → Prop} (hR : zRi X cX12_steersOnce (some .boolean) 274 (KN (KI K)))  {x1 : Int} {x2 : Int} {x3 : Int} {x4 : Int} {x5 : Int} {μ : ZM} {G3 : Int → ZM → Prop} (hG3 : ∀ (x4 : Int) (μ : ZM), G3 x4 μ → zV X 3 [some (.inr 248), some (.inl x1), some (.inl x2), some (.inl x3), some (.inl x4), none, none, none, none] [] 274 (z_ov μ)) {G17 : Int → ZM → Prop} (hG17 : ∀ (x5 : Int) (μ : ZM), G17 x5 μ → zV X 17 [some (.inr 248), some (.inl x1), some (.inl x2), some (.inl x3), some (.inl x4), some (.inl x5), none, none, none] [] 274 (z_ov μ))  (h : P_X12_steersOnce_140  G3 G17 x1 x2 x3 x4 x5 μ K) : zV X 140 [some (.inr 248), some (.inl x1), some (.inl x2), some (.inl x3), some (.inl x4), some (.inl x5), none, none, none] [] 274 (z_ov μ) := by
  refine u_iinc (q := 143) C dX12_steersOnce_140 rfl (nb rfl) rfl (L' := [some (.inr 248), some (.inl x1), some (.inl x2), some (.inl x3), some (.inl x4), some (.inl (x5 + 1)), none, none, none]) rfl h (fun h => ?_)
  refine v_goto (q := 17) C dX12_steersOnce_143 rfl ?_
  exact (hG17 _ _ h)
theorem w_X12_steersOnce_97 {X : ZX} (C : zC X cX12_steersOnce RX12 9 (some .boolean) 6 139 274) {K : Int → ZM → Prop} (hR : zRi X cX12_steersOnce (some .boolean) 274 (KN (KI K)))  {x1 : Int} {x2 : Int} {x3 : Int} {x4 : Int} {x5 : Int} {s0 : Int} {μ : ZM} {G3 : Int → ZM → Prop} (hG3 : ∀ (x4 : Int) (μ : ZM), G3 x4 μ → zV X 3 [some (.inr 248), some (.inl x1), some (.inl x2), some (.inl x3), some (.inl x4), none, none, none, none] [] 274 (z_ov μ)) {G17 : Int → ZM → Prop} (hG17 : ∀ (x5 : Int) (μ : ZM), G17 x5 μ → zV X 17 [some (.inr 248), some (.inl x1), some (.inl x2), some (.inl x3), some (.inl x4), some (.inl x5), none, none, none] [] 274 (z_ov μ))  (h : P_X12_steersOnce_97  G3 G17 x1 x2 x3 x4 x5 s0 μ K) : zV X 97 [some (.inr 248), some (.inl x1), some (.inl x2), some (.inl x3), some (.inl x4), some (.inl x5), none, none, none] [.inl s0] 274 (z_ov μ) := by
  refine v_istore (q := 99) C dX12_steersOnce_97 rfl (nb rfl) (L' := [some (.inr 248), some (.inl x1), some (.inl x2), some (.inl x3), some (.inl x4), some (.inl x5), none, none, some (.inl s0)]) rfl ?_
  refine v_iload (q := 101) C dX12_steersOnce_99 rfl rfl ?_
  refine v_if_eq (q := 104) (tgt := 140) C dX12_steersOnce_101 rfl rfl h (fun h => ?_) (fun h => ?_)
  · exact v_mask [true, true, true, true, true, true, false, false, false] rfl (w_X12_steersOnce_140  C hR hG3 hG17  h)
  · refine v_aloadn (q := 105) C dX12_steersOnce_104 rfl rfl ?_
    refine v_bipush (q := 107) C dX12_steersOnce_105 rfl (by decide) ?_
    refine v_iloadn (q := 108) C dX12_steersOnce_107 rfl rfl ?_
    refine u_cVi2 (q := 111) C (c_X12_differenceOf h) sy_X12_differenceOf si_X12_differenceOf ml_X12_279 ob_248 (by decide) so_X12_differenceOf ⟨nb rfl, nb rfl⟩ (nb rfl) dX12_steersOnce_108 rfl (fun r4 μ3 h => ?_)
    refine v_iloadn (q := 112) C dX12_steersOnce_111 rfl rfl ?_
    refine v_icmp_ge (q := 115) (tgt := 140) C dX12_steersOnce_112 rfl rfl h (fun h => ?_) (fun h => ?_)
    · exact v_mask [true, true, true, true, true, true, false, false, false] rfl (w_X12_steersOnce_140  C hR hG3 hG17  h)
    · refine v_aloadn (q := 116) C dX12_steersOnce_115 rfl rfl ?_
      refine v_bipush (q := 118) C dX12_steersOnce_116 rfl (by decide) ?_
      refine v_iloadn (q := 119) C dX12_steersOnce_118 rfl rfl ?_
      refine u_cVv2 (q := 122) C (c_X12_copies h) sy_X12_copies si_X12_copies ml_X12_161 ob_248 (by decide) so_X12_copies ⟨nb rfl, nb rfl⟩ (nb rfl) dX12_steersOnce_119 rfl (fun μ5 h => ?_)
      refine v_aloadn (q := 123) C dX12_steersOnce_122 rfl rfl ?_
      refine v_bipush (q := 125) C dX12_steersOnce_123 rfl (by decide) ?_
      refine v_iload (q := 127) C dX12_steersOnce_125 rfl rfl ?_
      refine v_iconst (q := 128) C dX12_steersOnce_127 rfl (by decide) ?_
      refine u_idiv (q := 129) C dX12_steersOnce_128 rfl h (fun h => ?_)
      refine u_imul (q := 130) C dX12_steersOnce_129 rfl h (fun h => ?_)
      refine v_iload (q := 132) C dX12_steersOnce_130 rfl rfl ?_
      refine v_iconst (q := 133) C dX12_steersOnce_132 rfl (by decide) ?_
      refine u_irem (q := 134) C dX12_steersOnce_133 rfl h (fun h => ?_)
      refine u_iadd (q := 135) C dX12_steersOnce_134 rfl h (fun h => ?_)
      refine u_put (q := 138) C kl12 fl_X12_302 ob_248 pt_248_36 rfl rfl rfl rfl dX12_steersOnce_135 rfl h (fun μ6 h => ?_)
      refine v_iconst (q := 139) C dX12_steersOnce_138 rfl (by decide) ?_
      exact u_zret hR dX12_steersOnce_139 h
theorem w_X12_steersOnce_96 {X : ZX} (C : zC X cX12_steersOnce RX12 9 (some .boolean) 6 139 274) {K : Int → ZM → Prop} (hR : zRi X cX12_steersOnce (some .boolean) 274 (KN (KI K)))  {x1 : Int} {x2 : Int} {x3 : Int} {x4 : Int} {x5 : Int} {μ : ZM} {G3 : Int → ZM → Prop} (hG3 : ∀ (x4 : Int) (μ : ZM), G3 x4 μ → zV X 3 [some (.inr 248), some (.inl x1), some (.inl x2), some (.inl x3), some (.inl x4), none, none, none, none] [] 274 (z_ov μ)) {G17 : Int → ZM → Prop} (hG17 : ∀ (x5 : Int) (μ : ZM), G17 x5 μ → zV X 17 [some (.inr 248), some (.inl x1), some (.inl x2), some (.inl x3), some (.inl x4), some (.inl x5), none, none, none] [] 274 (z_ov μ))  (h : P_X12_steersOnce_96  G3 G17 x1 x2 x3 x4 x5 μ K) : zV X 96 [some (.inr 248), some (.inl x1), some (.inl x2), some (.inl x3), some (.inl x4), some (.inl x5), none, none, none] [] 274 (z_ov μ) := by
  refine v_iconst (q := 97) C dX12_steersOnce_96 rfl (by decide) ?_
  exact (w_X12_steersOnce_97  C hR hG3 hG17  h)
theorem w_X12_steersOnce_53 {X : ZX} (C : zC X cX12_steersOnce RX12 9 (some .boolean) 6 139 274) {K : Int → ZM → Prop} (hR : zRi X cX12_steersOnce (some .boolean) 274 (KN (KI K)))  {x1 : Int} {x2 : Int} {x3 : Int} {x4 : Int} {x5 : Int} {x6 : Int} {s0 : Int} {μ : ZM} {G3 : Int → ZM → Prop} (hG3 : ∀ (x4 : Int) (μ : ZM), G3 x4 μ → zV X 3 [some (.inr 248), some (.inl x1), some (.inl x2), some (.inl x3), some (.inl x4), none, none, none, none] [] 274 (z_ov μ)) {G17 : Int → ZM → Prop} (hG17 : ∀ (x5 : Int) (μ : ZM), G17 x5 μ → zV X 17 [some (.inr 248), some (.inl x1), some (.inl x2), some (.inl x3), some (.inl x4), some (.inl x5), none, none, none] [] 274 (z_ov μ))  (h : P_X12_steersOnce_53  G3 G17 x1 x2 x3 x4 x5 x6 s0 μ K) : zV X 53 [some (.inr 248), some (.inl x1), some (.inl x2), some (.inl x3), some (.inl x4), some (.inl x5), some (.inl x6), none, none] [.inl s0] 274 (z_ov μ) := by
  refine v_istore (q := 55) C dX12_steersOnce_53 rfl (nb rfl) (L' := [some (.inr 248), some (.inl x1), some (.inl x2), some (.inl x3), some (.inl x4), some (.inl x5), some (.inl x6), some (.inl s0), none]) rfl ?_
  refine v_aloadn (q := 56) C dX12_steersOnce_55 rfl rfl ?_
  refine v_iload (q := 58) C dX12_steersOnce_56 rfl rfl ?_
  refine v_iload (q := 60) C dX12_steersOnce_58 rfl rfl ?_
  refine u_cVi2 (q := 63) C (c_X12_isPattern h) sy_X12_isPattern si_X12_isPattern ml_X12_292 ob_248 (by decide) so_X12_isPattern ⟨nb rfl, nb rfl⟩ (nb rfl) dX12_steersOnce_60 rfl (fun r2 μ1 h => ?_)
  refine v_if_eq (q := 66) (tgt := 96) C dX12_steersOnce_63 rfl rfl h (fun h => ?_) (fun h => ?_)
  · exact v_mask [true, true, true, true, true, true, false, false, false] rfl (w_X12_steersOnce_96  C hR hG3 hG17  h)
  · refine v_aloadn (q := 67) C dX12_steersOnce_66 rfl rfl ?_
    refine v_iload (q := 69) C dX12_steersOnce_67 rfl rfl ?_
    refine v_iloadn (q := 70) C dX12_steersOnce_69 rfl rfl ?_
    refine v_iload (q := 72) C dX12_steersOnce_70 rfl rfl ?_
    refine v_bipush (q := 74) C dX12_steersOnce_72 rfl (by decide) ?_
    refine u_cVi4 (q := 77) C (c_X12_matches h) sy_X12_matches si_X12_matches ml_X12_295 ob_248 (by decide) so_X12_matches ⟨nb rfl, nb rfl⟩ (nb rfl) dX12_steersOnce_74 rfl (fun r8 μ7 h => ?_)
    refine v_if_eq (q := 80) (tgt := 96) C dX12_steersOnce_77 rfl rfl h (fun h => ?_) (fun h => ?_)
    · exact v_mask [true, true, true, true, true, true, false, false, false] rfl (w_X12_steersOnce_96  C hR hG3 hG17  h)
    · refine v_aloadn (q := 81) C dX12_steersOnce_80 rfl rfl ?_
      refine v_iloadn (q := 82) C dX12_steersOnce_81 rfl rfl ?_
      refine v_iload (q := 84) C dX12_steersOnce_82 rfl rfl ?_
      refine v_iload (q := 86) C dX12_steersOnce_84 rfl rfl ?_
      refine u_cVi3 (q := 89) C (c_X12_replaces h) sy_X12_replaces si_X12_replaces ml_X12_299 ob_248 (by decide) so_X12_replaces ⟨nb rfl, nb rfl⟩ (nb rfl) dX12_steersOnce_86 rfl (fun r10 μ9 h => ?_)
      refine v_if_eq (q := 92) (tgt := 96) C dX12_steersOnce_89 rfl rfl h (fun h => ?_) (fun h => ?_)
      · exact v_mask [true, true, true, true, true, true, false, false, false] rfl (w_X12_steersOnce_96  C hR hG3 hG17  h)
      · refine v_iconst (q := 93) C dX12_steersOnce_92 rfl (by decide) ?_
        refine v_goto (q := 97) C dX12_steersOnce_93 rfl ?_
        exact v_mask [true, true, true, true, true, true, false, false, false] rfl (w_X12_steersOnce_97  C hR hG3 hG17  h)
theorem w_X12_steersOnce_17 {X : ZX} (C : zC X cX12_steersOnce RX12 9 (some .boolean) 6 139 274) {K : Int → ZM → Prop} (hR : zRi X cX12_steersOnce (some .boolean) 274 (KN (KI K)))  {x1 : Int} {x2 : Int} {x3 : Int} {x4 : Int} {x5 : Int} {μ : ZM} {G3 : Int → ZM → Prop} (hG3 : ∀ (x4 : Int) (μ : ZM), G3 x4 μ → zV X 3 [some (.inr 248), some (.inl x1), some (.inl x2), some (.inl x3), some (.inl x4), none, none, none, none] [] 274 (z_ov μ))  (h : P_X12_steersOnce_17  G3 x1 x2 x3 x4 x5 μ K) : zV X 17 [some (.inr 248), some (.inl x1), some (.inl x2), some (.inl x3), some (.inl x4), some (.inl x5), none, none, none] [] 274 (z_ov μ) := by
  refine h (fun x5 μ => zV X 17 [some (.inr 248), some (.inl x1), some (.inl x2), some (.inl x3), some (.inl x4), some (.inl x5), none, none, none] [] 274 (z_ov μ)) (fun x5 μ h => ?_)
  refine v_iload (q := 19) C dX12_steersOnce_17 rfl rfl ?_
  refine v_iconst (q := 20) C dX12_steersOnce_19 rfl (by decide) ?_
  refine v_aloadn (q := 21) C dX12_steersOnce_20 rfl rfl ?_
  refine u_getI (q := 24) C kl12 fl_X12_171 ob_248 pt_248_35 rfl rfl dX12_steersOnce_21 rfl ?_
  refine u_imul (q := 25) C dX12_steersOnce_24 rfl h (fun h => ?_)
  refine v_icmp_ge (q := 28) (tgt := 146) C dX12_steersOnce_25 rfl rfl h (fun h => ?_) (fun h => ?_)
  · refine u_iinc (q := 149) C dX12_steersOnce_146 rfl (nb rfl) rfl (L' := [some (.inr 248), some (.inl x1), some (.inl x2), some (.inl x3), some (.inl (x4 + 1)), some (.inl x5), none, none, none]) rfl h (fun h => ?_)
    refine v_goto (q := 3) C dX12_steersOnce_149 rfl ?_
    exact v_mask [true, true, true, true, true, false, false, false, false] rfl (hG3 _ _ h)
  · refine v_bipush (q := 30) C dX12_steersOnce_28 rfl (by decide) ?_
    refine v_iload (q := 32) C dX12_steersOnce_30 rfl rfl ?_
    refine u_iadd (q := 33) C dX12_steersOnce_32 rfl h (fun h => ?_)
    refine v_istore (q := 35) C dX12_steersOnce_33 rfl (nb rfl) (L' := [some (.inr 248), some (.inl x1), some (.inl x2), some (.inl x3), some (.inl x4), some (.inl x5), some (.inl (28 + x5)), none, none]) rfl ?_
    refine v_iload (q := 37) C dX12_steersOnce_35 rfl rfl ?_
    refine v_iconst (q := 38) C dX12_steersOnce_37 rfl (by decide) ?_
    refine u_irem (q := 39) C dX12_steersOnce_38 rfl h (fun h => ?_)
    refine v_if_ne (q := 42) (tgt := 49) C dX12_steersOnce_39 rfl rfl h (fun h => ?_) (fun h => ?_)
    · refine v_iload (q := 44) C dX12_steersOnce_42 rfl rfl ?_
      refine v_iconst (q := 45) C dX12_steersOnce_44 rfl (by decide) ?_
      refine u_iadd (q := 46) C dX12_steersOnce_45 rfl h (fun h => ?_)
      refine v_goto (q := 53) C dX12_steersOnce_46 rfl ?_
      exact (w_X12_steersOnce_53  C hR hG3 (fun _ _ h => h)  h)
    · refine v_iload (q := 51) C dX12_steersOnce_49 rfl rfl ?_
      refine v_iconst (q := 52) C dX12_steersOnce_51 rfl (by decide) ?_
      refine u_isub (q := 53) C dX12_steersOnce_52 rfl h (fun h => ?_)
      exact (w_X12_steersOnce_53  C hR hG3 (fun _ _ h => h)  h)
theorem w_X12_steersOnce_3 {X : ZX} (C : zC X cX12_steersOnce RX12 9 (some .boolean) 6 139 274) {K : Int → ZM → Prop} (hR : zRi X cX12_steersOnce (some .boolean) 274 (KN (KI K)))  {x1 : Int} {x2 : Int} {x3 : Int} {x4 : Int} {μ : ZM}   (h : P_X12_steersOnce_3   x1 x2 x3 x4 μ K) : zV X 3 [some (.inr 248), some (.inl x1), some (.inl x2), some (.inl x3), some (.inl x4), none, none, none, none] [] 274 (z_ov μ) := by
  refine h (fun x4 μ => zV X 3 [some (.inr 248), some (.inl x1), some (.inl x2), some (.inl x3), some (.inl x4), none, none, none, none] [] 274 (z_ov μ)) (fun x4 μ h => ?_)
  refine v_iload (q := 5) C dX12_steersOnce_3 rfl rfl ?_
  refine v_aloadn (q := 6) C dX12_steersOnce_5 rfl rfl ?_
  refine u_getR (q := 9) C kl12 fl_X12_13 ob_248 pt_248_1 (by decide) rfl rfl dX12_steersOnce_6 rfl ?_
  refine v_iloadn (q := 10) C dX12_steersOnce_9 rfl rfl ?_
  refine u_iald (q := 11) C ia_250 dX12_steersOnce_10 rfl h (fun h => ?_)
  refine v_icmp_ge (q := 14) (tgt := 152) C dX12_steersOnce_11 rfl rfl h (fun h => ?_) (fun h => ?_)
  · refine v_iconst (q := 153) C dX12_steersOnce_152 rfl (by decide) ?_
    exact u_zret hR dX12_steersOnce_153 h
  · refine v_iconst (q := 15) C dX12_steersOnce_14 rfl (by decide) ?_
    refine v_istore (q := 17) C dX12_steersOnce_15 rfl (nb rfl) (L' := [some (.inr 248), some (.inl x1), some (.inl x2), some (.inl x3), some (.inl x4), some (.inl 0), none, none, none]) rfl ?_
    exact (w_X12_steersOnce_17  C hR (fun _ _ h => h)  h)
theorem c_X12_steersOnce {x1 : Int} {x2 : Int} {x3 : Int} {μ : ZM} {K : Int → ZM → Prop} (h : P_X12_steersOnce  x1 x2 x3 μ K) : zMu yX12_steersOnce cX12_steersOnce 9 (some .boolean) 6 139 [.inr 248, .inl x1, .inl x2, .inl x3] μ (KI K) := by
  refine zMet_of (L0 := [some (.inr 248), some (.inl x1), some (.inl x2), some (.inl x3), none, none, none, none, none]) sy_X12_steersOnce rfl (nb rfl) (Nat.le_refl _) (fun X C _ hR _ _ => ?_)
  have C : zC X cX12_steersOnce RX12 9 (some .boolean) 6 139 274 := C
  refine v_iconst (q := 1) C dX12_steersOnce_0 rfl (by decide) ?_
  refine v_istore (q := 3) C dX12_steersOnce_1 rfl (nb rfl) (L' := [some (.inr 248), some (.inl x1), some (.inl x2), some (.inl x3), some (.inl 0), none, none, none, none]) rfl ?_
  exact (w_X12_steersOnce_3  C hR   h)
theorem w_X12_steers_8 {X : ZX} (C : zC X cX12_steers RX12 5 none 7 167 274) {K : ZM → Prop} (hR : zRv X cX12_steers none 274 (KN (KV K)))  {x1 : Int} {x2 : Int} {x3 : Int} {x4 : Int} {μ : ZM}   (h : P_X12_steers_8   x1 x2 x3 x4 μ K) : zV X 8 [some (.inr 248), some (.inl x1), some (.inl x2), some (.inl x3), some (.inl x4)] [] 274 (z_ov μ) := by
  refine h (fun x4 μ => zV X 8 [some (.inr 248), some (.inl x1), some (.inl x2), some (.inl x3), some (.inl x4)] [] 274 (z_ov μ)) (fun x4 μ h => ?_)
  refine v_iload (q := 10) C dX12_steers_8 rfl rfl ?_
  refine v_ldcw (q := 13) C kc_X12_269 dX12_steers_10 rfl (by decide) ?_
  refine v_icmp_ge (q := 16) (tgt := 58) C dX12_steers_13 rfl rfl h (fun h => ?_) (fun h => ?_)
  · exact u_vret hR dX12_steers_58 h
  · refine v_aloadn (q := 17) C dX12_steers_16 rfl rfl ?_
    refine v_iloadn (q := 18) C dX12_steers_17 rfl rfl ?_
    refine v_iloadn (q := 19) C dX12_steers_18 rfl rfl ?_
    refine v_iload (q := 21) C dX12_steers_19 rfl rfl ?_
    refine u_cVi3 (q := 24) C (c_X12_steersOnce h) sy_X12_steersOnce si_X12_steersOnce ml_X12_305 ob_248 (by decide) so_X12_steersOnce ⟨nb rfl, nb rfl⟩ (nb rfl) dX12_steers_21 rfl (fun r4 μ3 h => ?_)
    refine v_if_eq (q := 27) (tgt := 58) C dX12_steers_24 rfl rfl h (fun h => ?_) (fun h => ?_)
    · exact u_vret hR dX12_steers_58 h
    · refine v_aloadn (q := 28) C dX12_steers_27 rfl rfl ?_
      refine v_iloadn (q := 29) C dX12_steers_28 rfl rfl ?_
      refine v_iloadn (q := 30) C dX12_steers_29 rfl rfl ?_
      refine u_cVi2 (q := 33) C (c_X12_differenceOf h) sy_X12_differenceOf si_X12_differenceOf ml_X12_279 ob_248 (by decide) so_X12_differenceOf ⟨nb rfl, nb rfl⟩ (nb rfl) dX12_steers_30 rfl (fun r6 μ5 h => ?_)
      refine v_istore (q := 35) C dX12_steers_33 rfl (nb rfl) (L' := [some (.inr 248), some (.inl x1), some (.inl x2), some (.inl x3), some (.inl r6)]) rfl ?_
      refine v_iloadn (q := 36) C dX12_steers_35 rfl rfl ?_
      refine v_bipush (q := 38) C dX12_steers_36 rfl (by decide) ?_
      refine v_icmp_eq (q := 41) (tgt := 8) C dX12_steers_38 rfl rfl h (fun h => ?_) (fun h => ?_)
      · exact h
      · refine v_aloadn (q := 42) C dX12_steers_41 rfl rfl ?_
        refine v_iconst (q := 43) C dX12_steers_42 rfl (by decide) ?_
        refine v_aloadn (q := 44) C dX12_steers_43 rfl rfl ?_
        refine u_getI (q := 47) C kl12 fl_X12_302 ob_248 pt_248_36 rfl rfl dX12_steers_44 rfl ?_
        refine v_bipush (q := 49) C dX12_steers_47 rfl (by decide) ?_
        refine v_iloadn (q := 50) C dX12_steers_49 rfl rfl ?_
        refine u_imul (q := 51) C dX12_steers_50 rfl h (fun h => ?_)
        refine u_iadd (q := 52) C dX12_steers_51 rfl h (fun h => ?_)
        refine u_cVv2 (q := 55) C (c_X12_notesIt h) sy_X12_notesIt si_X12_notesIt ml_X12_308 ob_248 (by decide) so_X12_notesIt ⟨nb rfl, nb rfl⟩ (nb rfl) dX12_steers_52 rfl (fun μ7 h => ?_)
        refine v_goto (q := 8) C dX12_steers_55 rfl ?_
        exact h
theorem c_X12_steers {x1 : Int} {x2 : Int} {x3 : Int} {μ : ZM} {K : ZM → Prop} (h : P_X12_steers  x1 x2 x3 μ K) : zMu yX12_steers cX12_steers 5 none 7 167 [.inr 248, .inl x1, .inl x2, .inl x3] μ (KV K) := by
  refine zMet_of (L0 := [some (.inr 248), some (.inl x1), some (.inl x2), some (.inl x3), none]) sy_X12_steers rfl (nb rfl) (Nat.le_refl _) (fun X C _ _ _ hR => ?_)
  have C : zC X cX12_steers RX12 5 none 7 167 274 := C
  refine v_aloadn (q := 1) C dX12_steers_0 rfl rfl ?_
  refine v_iloadn (q := 2) C dX12_steers_1 rfl rfl ?_
  refine v_iloadn (q := 3) C dX12_steers_2 rfl rfl ?_
  refine u_cVi2 (q := 6) C (c_X12_differenceOf h) sy_X12_differenceOf si_X12_differenceOf ml_X12_279 ob_248 (by decide) so_X12_differenceOf ⟨nb rfl, nb rfl⟩ (nb rfl) dX12_steers_3 rfl (fun r2 μ1 h => ?_)
  refine v_istore (q := 8) C dX12_steers_6 rfl (nb rfl) (L' := [some (.inr 248), some (.inl x1), some (.inl x2), some (.inl x3), some (.inl r2)]) rfl ?_
  exact (w_X12_steers_8  C hR   h)
theorem w_X12_usesClaim_10 {X : ZX} (C : zC X cX12_usesClaim RX12 4 (some .int) 6 138 274) {K : Int → ZM → Prop} (hR : zRi X cX12_usesClaim (some .int) 274 (KN (KI K)))  {x1 : Int} {x2 : Int} {x3 : Int} {μ : ZM}   (h : P_X12_usesClaim_10   x1 x2 x3 μ K) : zV X 10 [some (.inr 248), some (.inl x1), some (.inl x2), some (.inl x3)] [] 274 (z_ov μ) := by
  refine h (fun x3 μ => zV X 10 [some (.inr 248), some (.inl x1), some (.inl x2), some (.inl x3)] [] 274 (z_ov μ)) (fun x3 μ h => ?_)
  refine v_iloadn (q := 11) C dX12_usesClaim_10 rfl rfl ?_
  refine v_aloadn (q := 12) C dX12_usesClaim_11 rfl rfl ?_
  refine u_getR (q := 15) C kl12 fl_X12_13 ob_248 pt_248_1 (by decide) rfl rfl dX12_usesClaim_12 rfl ?_
  refine v_iloadn (q := 16) C dX12_usesClaim_15 rfl rfl ?_
  refine u_iald (q := 17) C ia_250 dX12_usesClaim_16 rfl h (fun h => ?_)
  refine v_icmp_ge (q := 20) (tgt := 84) C dX12_usesClaim_17 rfl rfl h (fun h => ?_) (fun h => ?_)
  · refine v_iconst (q := 85) C dX12_usesClaim_84 rfl (by decide) ?_
    exact u_iret hR dX12_usesClaim_85 h
  · refine v_aloadn (q := 21) C dX12_usesClaim_20 rfl rfl ?_
    refine v_aloadn (q := 22) C dX12_usesClaim_21 rfl rfl ?_
    refine v_iconst (q := 23) C dX12_usesClaim_22 rfl (by decide) ?_
    refine v_iloadn (q := 24) C dX12_usesClaim_23 rfl rfl ?_
    refine u_cVi2 (q := 27) C (c_X12_slotOf h) sy_X12_slotOf si_X12_slotOf ml_X12_346 ob_248 (by decide) so_X12_slotOf ⟨nb rfl, nb rfl⟩ (nb rfl) dX12_usesClaim_24 rfl (fun r4 μ3 h => ?_)
    refine v_iloadn (q := 28) C dX12_usesClaim_27 rfl rfl ?_
    refine v_iloadn (q := 29) C dX12_usesClaim_28 rfl rfl ?_
    refine v_aloadn (q := 30) C dX12_usesClaim_29 rfl rfl ?_
    refine u_getR (q := 33) C kl12 fl_X12_86 ob_248 pt_248_48 (by decide) rfl rfl dX12_usesClaim_30 rfl ?_
    refine v_aloadn (q := 34) C dX12_usesClaim_33 rfl rfl ?_
    refine u_getI (q := 37) C kl12 fl_X12_334 ob_248 pt_248_46 rfl rfl dX12_usesClaim_34 rfl ?_
    refine u_iald (q := 38) C ia_273 dX12_usesClaim_37 rfl h (fun h => ?_)
    refine u_cVi4 (q := 41) C (c_X12_matches h) sy_X12_matches si_X12_matches ml_X12_295 ob_248 (by decide) so_X12_matches ⟨nb rfl, nb rfl⟩ (nb rfl) dX12_usesClaim_38 rfl (fun r6 μ5 h => ?_)
    refine v_if_eq (q := 44) (tgt := 78) C dX12_usesClaim_41 rfl rfl h (fun h => ?_) (fun h => ?_)
    · refine u_iinc (q := 81) C dX12_usesClaim_78 rfl (nb rfl) rfl (L' := [some (.inr 248), some (.inl x1), some (.inl x2), some (.inl (x3 + 1))]) rfl h (fun h => ?_)
      refine v_goto (q := 10) C dX12_usesClaim_81 rfl ?_
      exact h
    · refine v_aloadn (q := 45) C dX12_usesClaim_44 rfl rfl ?_
      refine v_iloadn (q := 46) C dX12_usesClaim_45 rfl rfl ?_
      refine v_iloadn (q := 47) C dX12_usesClaim_46 rfl rfl ?_
      refine v_aloadn (q := 48) C dX12_usesClaim_47 rfl rfl ?_
      refine v_iconst (q := 49) C dX12_usesClaim_48 rfl (by decide) ?_
      refine v_iconst (q := 50) C dX12_usesClaim_49 rfl (by decide) ?_
      refine v_iloadn (q := 51) C dX12_usesClaim_50 rfl rfl ?_
      refine u_isub (q := 52) C dX12_usesClaim_51 rfl h (fun h => ?_)
      refine u_cVi2 (q := 55) C (c_X12_slotOf h) sy_X12_slotOf si_X12_slotOf ml_X12_346 ob_248 (by decide) so_X12_slotOf ⟨nb rfl, nb rfl⟩ (nb rfl) dX12_usesClaim_52 rfl (fun r8 μ7 h => ?_)
      refine u_cVi3 (q := 58) C (c_X12_replaces h) sy_X12_replaces si_X12_replaces ml_X12_299 ob_248 (by decide) so_X12_replaces ⟨nb rfl, nb rfl⟩ (nb rfl) dX12_usesClaim_55 rfl (fun r10 μ9 h => ?_)
      refine v_if_ne (q := 61) (tgt := 63) C dX12_usesClaim_58 rfl rfl h (fun h => ?_) (fun h => ?_)
      · refine v_iconst (q := 62) C dX12_usesClaim_61 rfl (by decide) ?_
        exact u_iret hR dX12_usesClaim_62 h
      · refine v_aloadn (q := 64) C dX12_usesClaim_63 rfl rfl ?_
        refine v_bipush (q := 66) C dX12_usesClaim_64 rfl (by decide) ?_
        refine v_iloadn (q := 67) C dX12_usesClaim_66 rfl rfl ?_
        refine u_cVv2 (q := 70) C (c_X12_copies h) sy_X12_copies si_X12_copies ml_X12_161 ob_248 (by decide) so_X12_copies ⟨nb rfl, nb rfl⟩ (nb rfl) dX12_usesClaim_67 rfl (fun μ11 h => ?_)
        refine v_aloadn (q := 71) C dX12_usesClaim_70 rfl rfl ?_
        refine v_iconst (q := 72) C dX12_usesClaim_71 rfl (by decide) ?_
        refine v_iloadn (q := 73) C dX12_usesClaim_72 rfl rfl ?_
        refine u_cVv2 (q := 76) C (c_X12_notesIt h) sy_X12_notesIt si_X12_notesIt ml_X12_308 ob_248 (by decide) so_X12_notesIt ⟨nb rfl, nb rfl⟩ (nb rfl) dX12_usesClaim_73 rfl (fun μ12 h => ?_)
        refine v_iconst (q := 77) C dX12_usesClaim_76 rfl (by decide) ?_
        exact u_iret hR dX12_usesClaim_77 h
theorem c_X12_usesClaim {x1 : Int} {μ : ZM} {K : Int → ZM → Prop} (h : P_X12_usesClaim  x1 μ K) : zMu yX12_usesClaim cX12_usesClaim 4 (some .int) 6 138 [.inr 248, .inl x1] μ (KI K) := by
  refine zMet_of (L0 := [some (.inr 248), some (.inl x1), none, none]) sy_X12_usesClaim rfl (nb rfl) (Nat.le_refl _) (fun X C _ hR _ _ => ?_)
  have C : zC X cX12_usesClaim RX12 4 (some .int) 6 138 274 := C
  refine v_aloadn (q := 1) C dX12_usesClaim_0 rfl rfl ?_
  refine v_bipush (q := 3) C dX12_usesClaim_1 rfl (by decide) ?_
  refine v_iloadn (q := 4) C dX12_usesClaim_3 rfl rfl ?_
  refine u_cVi2 (q := 7) C (c_X12_slotOf h) sy_X12_slotOf si_X12_slotOf ml_X12_346 ob_248 (by decide) so_X12_slotOf ⟨nb rfl, nb rfl⟩ (nb rfl) dX12_usesClaim_4 rfl (fun r2 μ1 h => ?_)
  refine v_istoren (q := 8) C dX12_usesClaim_7 rfl (nb rfl) (L' := [some (.inr 248), some (.inl x1), some (.inl r2), none]) rfl ?_
  refine v_iconst (q := 9) C dX12_usesClaim_8 rfl (by decide) ?_
  refine v_istoren (q := 10) C dX12_usesClaim_9 rfl (nb rfl) (L' := [some (.inr 248), some (.inl x1), some (.inl r2), some (.inl 0)]) rfl ?_
  exact (w_X12_usesClaim_10  C hR   h)
theorem c_X12_normalGoal  {μ : ZM} {K : Int → ZM → Prop} (h : P_X12_normalGoal   μ K) : zMu yX12_normalGoal cX12_normalGoal 1 (some .boolean) 5 120 [.inr 248] μ (KI K) := by
  refine zMet_of (L0 := [some (.inr 248)]) sy_X12_normalGoal rfl (nb rfl) (Nat.le_refl _) (fun X C _ hR _ _ => ?_)
  have C : zC X cX12_normalGoal RX12 1 (some .boolean) 5 120 274 := C
  refine v_aloadn (q := 1) C dX12_normalGoal_0 rfl rfl ?_
  refine v_aloadn (q := 2) C dX12_normalGoal_1 rfl rfl ?_
  refine v_bipush (q := 4) C dX12_normalGoal_2 rfl (by decide) ?_
  refine v_iconst (q := 5) C dX12_normalGoal_4 rfl (by decide) ?_
  refine u_cVi2 (q := 8) C (c_X12_slotOf h) sy_X12_slotOf si_X12_slotOf ml_X12_346 ob_248 (by decide) so_X12_slotOf ⟨nb rfl, nb rfl⟩ (nb rfl) dX12_normalGoal_5 rfl (fun r2 μ1 h => ?_)
  refine v_bipush (q := 10) C dX12_normalGoal_8 rfl (by decide) ?_
  refine u_cVv2 (q := 13) C (c_X12_copies h) sy_X12_copies si_X12_copies ml_X12_161 ob_248 (by decide) so_X12_copies ⟨nb rfl, nb rfl⟩ (nb rfl) dX12_normalGoal_10 rfl (fun μ3 h => ?_)
  refine v_aloadn (q := 14) C dX12_normalGoal_13 rfl rfl ?_
  refine v_aloadn (q := 15) C dX12_normalGoal_14 rfl rfl ?_
  refine v_bipush (q := 17) C dX12_normalGoal_15 rfl (by decide) ?_
  refine v_iconst (q := 18) C dX12_normalGoal_17 rfl (by decide) ?_
  refine u_cVi2 (q := 21) C (c_X12_slotOf h) sy_X12_slotOf si_X12_slotOf ml_X12_346 ob_248 (by decide) so_X12_slotOf ⟨nb rfl, nb rfl⟩ (nb rfl) dX12_normalGoal_18 rfl (fun r5 μ4 h => ?_)
  refine v_bipush (q := 23) C dX12_normalGoal_21 rfl (by decide) ?_
  refine u_cVv2 (q := 26) C (c_X12_copies h) sy_X12_copies si_X12_copies ml_X12_161 ob_248 (by decide) so_X12_copies ⟨nb rfl, nb rfl⟩ (nb rfl) dX12_normalGoal_23 rfl (fun μ6 h => ?_)
  refine v_aloadn (q := 27) C dX12_normalGoal_26 rfl rfl ?_
  refine v_bipush (q := 29) C dX12_normalGoal_27 rfl (by decide) ?_
  refine v_aloadn (q := 30) C dX12_normalGoal_29 rfl rfl ?_
  refine v_bipush (q := 32) C dX12_normalGoal_30 rfl (by decide) ?_
  refine v_iconst (q := 33) C dX12_normalGoal_32 rfl (by decide) ?_
  refine u_cVi2 (q := 36) C (c_X12_slotOf h) sy_X12_slotOf si_X12_slotOf ml_X12_346 ob_248 (by decide) so_X12_slotOf ⟨nb rfl, nb rfl⟩ (nb rfl) dX12_normalGoal_33 rfl (fun r8 μ7 h => ?_)
  refine u_cVi2 (q := 39) C (c_X12_makesNormal h) sy_X12_makesNormal si_X12_makesNormal ml_X12_248 ob_248 (by decide) so_X12_makesNormal ⟨nb rfl, nb rfl⟩ (nb rfl) dX12_normalGoal_36 rfl (fun r10 μ9 h => ?_)
  refine v_if_eq (q := 42) (tgt := 62) C dX12_normalGoal_39 rfl rfl h (fun h => ?_) (fun h => ?_)
  · refine v_iconst (q := 63) C dX12_normalGoal_62 rfl (by decide) ?_
    exact u_zret hR dX12_normalGoal_63 h
  · refine v_aloadn (q := 43) C dX12_normalGoal_42 rfl rfl ?_
    refine v_bipush (q := 45) C dX12_normalGoal_43 rfl (by decide) ?_
    refine v_aloadn (q := 46) C dX12_normalGoal_45 rfl rfl ?_
    refine v_bipush (q := 48) C dX12_normalGoal_46 rfl (by decide) ?_
    refine v_iconst (q := 49) C dX12_normalGoal_48 rfl (by decide) ?_
    refine u_cVi2 (q := 52) C (c_X12_slotOf h) sy_X12_slotOf si_X12_slotOf ml_X12_346 ob_248 (by decide) so_X12_slotOf ⟨nb rfl, nb rfl⟩ (nb rfl) dX12_normalGoal_49 rfl (fun r12 μ11 h => ?_)
    refine u_cVi2 (q := 55) C (c_X12_makesNormal h) sy_X12_makesNormal si_X12_makesNormal ml_X12_248 ob_248 (by decide) so_X12_makesNormal ⟨nb rfl, nb rfl⟩ (nb rfl) dX12_normalGoal_52 rfl (fun r14 μ13 h => ?_)
    refine v_if_eq (q := 58) (tgt := 62) C dX12_normalGoal_55 rfl rfl h (fun h => ?_) (fun h => ?_)
    · refine v_iconst (q := 63) C dX12_normalGoal_62 rfl (by decide) ?_
      exact u_zret hR dX12_normalGoal_63 h
    · refine v_iconst (q := 59) C dX12_normalGoal_58 rfl (by decide) ?_
      refine v_goto (q := 63) C dX12_normalGoal_59 rfl ?_
      exact u_zret hR dX12_normalGoal_63 h
theorem w_X12_carries_50 {X : ZX} (C : zC X cX12_carries RX12 2 (some .boolean) 8 191 274) {K : Int → ZM → Prop} (hR : zRi X cX12_carries (some .boolean) 274 (KN (KI K)))  {s0 : Int} {μ : ZM}   (h : P_X12_carries_50   s0 μ K) : zV X 50 [some (.inr 248), none] [.inl s0] 274 (z_ov μ) := by
  refine v_istoren (q := 51) C dX12_carries_50 rfl (nb rfl) (L' := [some (.inr 248), some (.inl s0)]) rfl ?_
  refine v_iloadn (q := 52) C dX12_carries_51 rfl rfl ?_
  refine v_iconst (q := 53) C dX12_carries_52 rfl (by decide) ?_
  refine v_icmp_eq (q := 56) (tgt := 67) C dX12_carries_53 rfl rfl h (fun h => ?_) (fun h => ?_)
  · refine v_iconst (q := 68) C dX12_carries_67 rfl (by decide) ?_
    exact u_zret hR dX12_carries_68 h
  · refine v_aloadn (q := 57) C dX12_carries_56 rfl rfl ?_
    refine u_cVi0 (q := 60) C (c_X12_normalGoal h) sy_X12_normalGoal si_X12_normalGoal ml_X12_365 ob_248 (by decide) so_X12_normalGoal ⟨nb rfl, nb rfl⟩ (nb rfl) dX12_carries_57 rfl (fun r6 μ5 h => ?_)
    refine v_if_eq (q := 63) (tgt := 67) C dX12_carries_60 rfl rfl h (fun h => ?_) (fun h => ?_)
    · refine v_iconst (q := 68) C dX12_carries_67 rfl (by decide) ?_
      exact u_zret hR dX12_carries_68 h
    · refine v_iconst (q := 64) C dX12_carries_63 rfl (by decide) ?_
      refine v_goto (q := 68) C dX12_carries_64 rfl ?_
      exact u_zret hR dX12_carries_68 h
theorem w_X12_carries_2 {X : ZX} (C : zC X cX12_carries RX12 2 (some .boolean) 8 191 274) {K : Int → ZM → Prop} (hR : zRi X cX12_carries (some .boolean) 274 (KN (KI K)))  {x1 : Int} {μ : ZM}   (h : P_X12_carries_2   x1 μ K) : zV X 2 [some (.inr 248), some (.inl x1)] [] 274 (z_ov μ) := by
  refine h (fun x1 μ => zV X 2 [some (.inr 248), some (.inl x1)] [] 274 (z_ov μ)) (fun x1 μ h => ?_)
  refine v_iloadn (q := 3) C dX12_carries_2 rfl rfl ?_
  refine v_iconst (q := 4) C dX12_carries_3 rfl (by decide) ?_
  refine v_icmp_ge (q := 7) (tgt := 31) C dX12_carries_4 rfl rfl h (fun h => ?_) (fun h => ?_)
  · refine v_aloadn (q := 32) C dX12_carries_31 rfl rfl ?_
    refine v_iconst (q := 33) C dX12_carries_32 rfl (by decide) ?_
    refine u_cVi1 (q := 36) C (c_X12_usesClaim h) sy_X12_usesClaim si_X12_usesClaim ml_X12_362 ob_248 (by decide) so_X12_usesClaim ⟨nb rfl, nb rfl⟩ (nb rfl) dX12_carries_33 rfl (fun r2 μ1 h => ?_)
    refine v_istoren (q := 37) C dX12_carries_36 rfl (nb rfl) (L' := [some (.inr 248), some (.inl r2)]) rfl ?_
    refine v_iloadn (q := 38) C dX12_carries_37 rfl rfl ?_
    refine v_if_ne (q := 41) (tgt := 49) C dX12_carries_38 rfl rfl h (fun h => ?_) (fun h => ?_)
    · refine v_aloadn (q := 42) C dX12_carries_41 rfl rfl ?_
      refine v_iconst (q := 43) C dX12_carries_42 rfl (by decide) ?_
      refine u_cVi1 (q := 46) C (c_X12_usesClaim h) sy_X12_usesClaim si_X12_usesClaim ml_X12_362 ob_248 (by decide) so_X12_usesClaim ⟨nb rfl, nb rfl⟩ (nb rfl) dX12_carries_43 rfl (fun r4 μ3 h => ?_)
      refine v_goto (q := 50) C dX12_carries_46 rfl ?_
      exact v_mask [true, false] rfl (w_X12_carries_50  C hR   h)
    · refine v_iloadn (q := 50) C dX12_carries_49 rfl rfl ?_
      exact v_mask [true, false] rfl (w_X12_carries_50  C hR   h)
  · refine v_aloadn (q := 8) C dX12_carries_7 rfl rfl ?_
    refine v_aloadn (q := 9) C dX12_carries_8 rfl rfl ?_
    refine v_bipush (q := 11) C dX12_carries_9 rfl (by decide) ?_
    refine v_iloadn (q := 12) C dX12_carries_11 rfl rfl ?_
    refine u_cVi2 (q := 15) C (c_X12_slotOf h) sy_X12_slotOf si_X12_slotOf ml_X12_346 ob_248 (by decide) so_X12_slotOf ⟨nb rfl, nb rfl⟩ (nb rfl) dX12_carries_12 rfl (fun r8 μ7 h => ?_)
    refine v_aloadn (q := 16) C dX12_carries_15 rfl rfl ?_
    refine v_iconst (q := 17) C dX12_carries_16 rfl (by decide) ?_
    refine v_iloadn (q := 18) C dX12_carries_17 rfl rfl ?_
    refine u_cVi2 (q := 21) C (c_X12_slotOf h) sy_X12_slotOf si_X12_slotOf ml_X12_346 ob_248 (by decide) so_X12_slotOf ⟨nb rfl, nb rfl⟩ (nb rfl) dX12_carries_18 rfl (fun r10 μ9 h => ?_)
    refine v_iloadn (q := 22) C dX12_carries_21 rfl rfl ?_
    refine u_cVv3 (q := 25) C (c_X12_steers h) sy_X12_steers si_X12_steers ml_X12_311 ob_248 (by decide) so_X12_steers ⟨nb rfl, nb rfl⟩ (nb rfl) dX12_carries_22 rfl (fun μ11 h => ?_)
    refine u_iinc (q := 28) C dX12_carries_25 rfl (nb rfl) rfl (L' := [some (.inr 248), some (.inl (x1 + 1))]) rfl h (fun h => ?_)
    refine v_goto (q := 2) C dX12_carries_28 rfl ?_
    exact h
theorem c_X12_carries  {μ : ZM} {K : Int → ZM → Prop} (h : P_X12_carries   μ K) : zMu yX12_carries cX12_carries 2 (some .boolean) 8 191 [.inr 248] μ (KI K) := by
  refine zMet_of (L0 := [some (.inr 248), none]) sy_X12_carries rfl (nb rfl) (Nat.le_refl _) (fun X C _ hR _ _ => ?_)
  have C : zC X cX12_carries RX12 2 (some .boolean) 8 191 274 := C
  refine v_iconst (q := 1) C dX12_carries_0 rfl (by decide) ?_
  refine v_istoren (q := 2) C dX12_carries_1 rfl (nb rfl) (L' := [some (.inr 248), some (.inl 0)]) rfl ?_
  exact (w_X12_carries_2  C hR   h)
theorem w_X12_partsOf_12 {X : ZX} (C : zC X cX12_partsOf RX12 8 (some .int) 2 42 274) {K : Int → ZM → Prop} (hR : zRi X cX12_partsOf (some .int) 274 (KN (KI K)))  {x1 : Int} {μ : ZM}   (h : P_X12_partsOf_12   x1 μ K) : zV X 12 [none, some (.inl x1), none, none, none, none, none, none] [] 274 (z_ov μ) := by
  refine v_iloadn (q := 13) C dX12_partsOf_12 rfl rfl ?_
  refine v_bipush (q := 15) C dX12_partsOf_13 rfl (by decide) ?_
  refine v_icmp_ne (q := 18) (tgt := 22) C dX12_partsOf_15 rfl rfl h (fun h => ?_) (fun h => ?_)
  · refine v_iconst (q := 19) C dX12_partsOf_18 rfl (by decide) ?_
    refine v_goto (q := 23) C dX12_partsOf_19 rfl ?_
    exact u_iret hR dX12_partsOf_23 h
  · refine v_iconst (q := 23) C dX12_partsOf_22 rfl (by decide) ?_
    exact u_iret hR dX12_partsOf_23 h
theorem w_X12_partsOf_53 {X : ZX} (C : zC X cX12_partsOf RX12 8 (some .int) 2 42 274) {K : Int → ZM → Prop} (hR : zRi X cX12_partsOf (some .int) 274 (KN (KI K)))  {s0 : Int} {μ : ZM}   (h : P_X12_partsOf_53   s0 μ K) : zV X 53 [none, none, none, none, none, none, none, none] [.inl s0] 274 (z_ov μ) := by
  refine v_istore (q := 55) C dX12_partsOf_53 rfl (nb rfl) (L' := [none, none, none, none, none, none, none, some (.inl s0)]) rfl ?_
  refine v_iload (q := 57) C dX12_partsOf_55 rfl rfl ?_
  refine v_if_eq (q := 60) (tgt := 64) C dX12_partsOf_57 rfl rfl h (fun h => ?_) (fun h => ?_)
  · refine v_bipush (q := 66) C dX12_partsOf_64 rfl (by decide) ?_
    exact u_iret hR dX12_partsOf_66 h
  · refine v_iconst (q := 61) C dX12_partsOf_60 rfl (by decide) ?_
    refine v_goto (q := 66) C dX12_partsOf_61 rfl ?_
    exact u_iret hR dX12_partsOf_66 h
theorem c_X12_partsOf {x1 : Int} {x2 : Int} {x3 : Int} {x4 : Int} {x5 : Int} {x6 : Int} {μ : ZM} {K : Int → ZM → Prop} (h : P_X12_partsOf  x1 x2 x3 x4 x5 x6 μ K) : zMu yX12_partsOf cX12_partsOf 8 (some .int) 2 42 [.inr 248, .inl x1, .inl x2, .inl x3, .inl x4, .inl x5, .inl x6] μ (KI K) := by
  refine zMet_of (L0 := [some (.inr 248), some (.inl x1), some (.inl x2), some (.inl x3), some (.inl x4), some (.inl x5), some (.inl x6), none]) sy_X12_partsOf rfl (nb rfl) (Nat.le_refl _) (fun X C _ hR _ _ => ?_)
  have C : zC X cX12_partsOf RX12 8 (some .int) 2 42 274 := C
  refine v_iloadn (q := 1) C dX12_partsOf_0 rfl rfl ?_
  refine v_bipush (q := 3) C dX12_partsOf_1 rfl (by decide) ?_
  refine v_icmp_eq (q := 6) (tgt := 12) C dX12_partsOf_3 rfl rfl h (fun h => ?_) (fun h => ?_)
  · exact v_mask [false, true, false, false, false, false, false, false] rfl (w_X12_partsOf_12  C hR   h)
  · refine v_iloadn (q := 7) C dX12_partsOf_6 rfl rfl ?_
    refine v_bipush (q := 9) C dX12_partsOf_7 rfl (by decide) ?_
    refine v_icmp_ne (q := 12) (tgt := 24) C dX12_partsOf_9 rfl rfl h (fun h => ?_) (fun h => ?_)
    · exact v_mask [false, true, false, false, false, false, false, false] rfl (w_X12_partsOf_12  C hR   h)
    · refine v_iloadn (q := 25) C dX12_partsOf_24 rfl rfl ?_
      refine u_cSi1 (q := 28) C (c_X12_isVariable h) sy_X12_isVariable ss_X12_isVariable ml_X12_111 ⟨nb rfl, nb rfl⟩ (nb rfl) dX12_partsOf_25 rfl (fun r2 μ1 h => ?_)
      refine v_if_eq (q := 31) (tgt := 67) C dX12_partsOf_28 rfl rfl h (fun h => ?_) (fun h => ?_)
      · refine v_iloadn (q := 68) C dX12_partsOf_67 rfl rfl ?_
        refine v_bipush (q := 70) C dX12_partsOf_68 rfl (by decide) ?_
        refine v_bipush (q := 72) C dX12_partsOf_70 rfl (by decide) ?_
        refine v_iload (q := 74) C dX12_partsOf_72 rfl rfl ?_
        refine u_iadd (q := 75) C dX12_partsOf_74 rfl h (fun h => ?_)
        refine v_iconst (q := 76) C dX12_partsOf_75 rfl (by decide) ?_
        refine u_isub (q := 77) C dX12_partsOf_76 rfl h (fun h => ?_)
        refine u_cSi3 (q := 80) C (c_X12_within h) sy_X12_within ss_X12_within ml_X12_96 ⟨nb rfl, nb rfl⟩ (nb rfl) dX12_partsOf_77 rfl (fun r4 μ3 h => ?_)
        refine v_if_eq (q := 83) (tgt := 93) C dX12_partsOf_80 rfl rfl h (fun h => ?_) (fun h => ?_)
        · refine v_iload (q := 95) C dX12_partsOf_93 rfl rfl ?_
          refine v_if_eq (q := 98) (tgt := 114) C dX12_partsOf_95 rfl rfl h (fun h => ?_) (fun h => ?_)
          · refine v_bipush (q := 116) C dX12_partsOf_114 rfl (by decide) ?_
            exact u_iret hR dX12_partsOf_116 h
          · refine v_iloadn (q := 99) C dX12_partsOf_98 rfl rfl ?_
            refine v_bipush (q := 101) C dX12_partsOf_99 rfl (by decide) ?_
            refine v_iload (q := 103) C dX12_partsOf_101 rfl rfl ?_
            refine u_iadd (q := 104) C dX12_partsOf_103 rfl h (fun h => ?_)
            refine v_icmp_ne (q := 107) (tgt := 114) C dX12_partsOf_104 rfl rfl h (fun h => ?_) (fun h => ?_)
            · refine v_aloadn (q := 108) C dX12_partsOf_107 rfl rfl ?_
              refine u_getI (q := 111) C kl12 fl_X12_114 ob_248 pt_248_13 rfl rfl dX12_partsOf_108 rfl ?_
              refine v_goto (q := 116) C dX12_partsOf_111 rfl ?_
              exact u_iret hR dX12_partsOf_116 h
            · refine v_bipush (q := 116) C dX12_partsOf_114 rfl (by decide) ?_
              exact u_iret hR dX12_partsOf_116 h
        · refine v_aloadn (q := 84) C dX12_partsOf_83 rfl rfl ?_
          refine u_getR (q := 87) C kl12 fl_X12_19 ob_248 pt_248_5 (by decide) rfl rfl dX12_partsOf_84 rfl ?_
          refine v_iloadn (q := 88) C dX12_partsOf_87 rfl rfl ?_
          refine v_bipush (q := 90) C dX12_partsOf_88 rfl (by decide) ?_
          refine u_isub (q := 91) C dX12_partsOf_90 rfl h (fun h => ?_)
          refine u_iald (q := 92) C ia_252 dX12_partsOf_91 rfl h (fun h => ?_)
          exact u_iret hR dX12_partsOf_92 h
      · refine v_iloadn (q := 32) C dX12_partsOf_31 rfl rfl ?_
        refine v_bipush (q := 34) C dX12_partsOf_32 rfl (by decide) ?_
        refine v_icmp_ne (q := 37) (tgt := 41) C dX12_partsOf_34 rfl rfl h (fun h => ?_) (fun h => ?_)
        · refine v_iloadn (q := 38) C dX12_partsOf_37 rfl rfl ?_
          refine v_goto (q := 53) C dX12_partsOf_38 rfl ?_
          exact v_mask [false, false, false, false, false, false, false, false] rfl (w_X12_partsOf_53  C hR   h)
        · refine v_iloadn (q := 42) C dX12_partsOf_41 rfl rfl ?_
          refine v_bipush (q := 44) C dX12_partsOf_42 rfl (by decide) ?_
          refine v_icmp_ne (q := 47) (tgt := 51) C dX12_partsOf_44 rfl rfl h (fun h => ?_) (fun h => ?_)
          · refine v_iloadn (q := 48) C dX12_partsOf_47 rfl rfl ?_
            refine v_goto (q := 53) C dX12_partsOf_48 rfl ?_
            exact v_mask [false, false, false, false, false, false, false, false] rfl (w_X12_partsOf_53  C hR   h)
          · refine v_iload (q := 53) C dX12_partsOf_51 rfl rfl ?_
            exact v_mask [false, false, false, false, false, false, false, false] rfl (w_X12_partsOf_53  C hR   h)
theorem w_X12_readsTerm_144 {X : ZX} (C : zC X cX12_readsTerm RX12 11 (some .boolean) 3 69 274) {K : Int → ZM → Prop} (hR : zRi X cX12_readsTerm (some .boolean) 274 (KN (KI K)))  {x1 : Int} {x2 : Int} {x3 : Int} {x4 : Int} {x5 : Int} {x6 : Int} {x7 : Int} {s0 : Int} {μ : ZM} {G11 : Int → Int → ZM → Prop} (hG11 : ∀ (x7 x8 : Int) (μ : ZM), G11 x7 x8 μ → zV X 11 [some (.inr 248), some (.inl x1), some (.inl x2), some (.inl x3), some (.inl x4), some (.inl x5), some (.inl x6), some (.inl x7), some (.inl x8), none, none] [] 274 (z_ov μ))  (h : P_X12_readsTerm_144  G11 x1 x2 x3 x4 x5 x6 x7 s0 μ K) : zV X 144 [some (.inr 248), some (.inl x1), some (.inl x2), some (.inl x3), some (.inl x4), some (.inl x5), some (.inl x6), some (.inl x7), none, none, none] [.inl s0] 274 (z_ov μ) := by
  refine v_istore (q := 146) C dX12_readsTerm_144 rfl (nb rfl) (L' := [some (.inr 248), some (.inl x1), some (.inl x2), some (.inl x3), some (.inl x4), some (.inl x5), some (.inl x6), some (.inl x7), some (.inl s0), none, none]) rfl ?_
  refine v_aloadn (q := 147) C dX12_readsTerm_146 rfl rfl ?_
  refine v_dup (q := 148) C dX12_readsTerm_147 rfl ?_
  refine u_getI (q := 151) C kl12 fl_X12_120 ob_248 pt_248_10 rfl rfl dX12_readsTerm_148 rfl ?_
  refine v_iconst (q := 152) C dX12_readsTerm_151 rfl (by decide) ?_
  refine u_iadd (q := 153) C dX12_readsTerm_152 rfl h (fun h => ?_)
  refine u_put (q := 156) C kl12 fl_X12_120 ob_248 pt_248_10 rfl rfl rfl rfl dX12_readsTerm_153 rfl h (fun μ6 h => ?_)
  refine v_goto (q := 11) C dX12_readsTerm_156 rfl ?_
  exact (hG11 _ _ _ h)
theorem w_X12_readsTerm_143 {X : ZX} (C : zC X cX12_readsTerm RX12 11 (some .boolean) 3 69 274) {K : Int → ZM → Prop} (hR : zRi X cX12_readsTerm (some .boolean) 274 (KN (KI K)))  {x1 : Int} {x2 : Int} {x3 : Int} {x4 : Int} {x5 : Int} {x6 : Int} {x7 : Int} {μ : ZM} {G11 : Int → Int → ZM → Prop} (hG11 : ∀ (x7 x8 : Int) (μ : ZM), G11 x7 x8 μ → zV X 11 [some (.inr 248), some (.inl x1), some (.inl x2), some (.inl x3), some (.inl x4), some (.inl x5), some (.inl x6), some (.inl x7), some (.inl x8), none, none] [] 274 (z_ov μ))  (h : P_X12_readsTerm_143  G11 x1 x2 x3 x4 x5 x6 x7 μ K) : zV X 143 [some (.inr 248), some (.inl x1), some (.inl x2), some (.inl x3), some (.inl x4), some (.inl x5), some (.inl x6), some (.inl x7), none, none, none] [] 274 (z_ov μ) := by
  refine v_iconst (q := 144) C dX12_readsTerm_143 rfl (by decide) ?_
  exact (w_X12_readsTerm_144  C hR hG11  h)
theorem w_X12_readsTerm_71 {X : ZX} (C : zC X cX12_readsTerm RX12 11 (some .boolean) 3 69 274) {K : Int → ZM → Prop} (hR : zRi X cX12_readsTerm (some .boolean) 274 (KN (KI K)))  {x1 : Int} {x2 : Int} {x3 : Int} {x4 : Int} {x5 : Int} {x6 : Int} {x7 : Int} {x9 : Int} {s0 : Int} {μ : ZM} {G11 : Int → Int → ZM → Prop} (hG11 : ∀ (x7 x8 : Int) (μ : ZM), G11 x7 x8 μ → zV X 11 [some (.inr 248), some (.inl x1), some (.inl x2), some (.inl x3), some (.inl x4), some (.inl x5), some (.inl x6), some (.inl x7), some (.inl x8), none, none] [] 274 (z_ov μ))  (h : P_X12_readsTerm_71  G11 x1 x2 x3 x4 x5 x6 x7 x9 s0 μ K) : zV X 71 [some (.inr 248), some (.inl x1), some (.inl x2), some (.inl x3), some (.inl x4), some (.inl x5), some (.inl x6), some (.inl x7), none, some (.inl x9), none] [.inl s0] 274 (z_ov μ) := by
  refine v_istore (q := 73) C dX12_readsTerm_71 rfl (nb rfl) (L' := [some (.inr 248), some (.inl x1), some (.inl x2), some (.inl x3), some (.inl x4), some (.inl x5), some (.inl x6), some (.inl x7), none, some (.inl x9), some (.inl s0)]) rfl ?_
  refine v_iload (q := 75) C dX12_readsTerm_73 rfl rfl ?_
  refine v_if_lt (q := 78) (tgt := 92) C dX12_readsTerm_75 rfl rfl h (fun h => ?_) (fun h => ?_)
  · refine v_iconst (q := 93) C dX12_readsTerm_92 rfl (by decide) ?_
    exact u_zret hR dX12_readsTerm_93 h
  · refine v_aloadn (q := 79) C dX12_readsTerm_78 rfl rfl ?_
    refine u_getI (q := 82) C kl12 fl_X12_117 ob_248 pt_248_12 rfl rfl dX12_readsTerm_79 rfl ?_
    refine v_iload (q := 84) C dX12_readsTerm_82 rfl rfl ?_
    refine u_iadd (q := 85) C dX12_readsTerm_84 rfl h (fun h => ?_)
    refine v_iload (q := 87) C dX12_readsTerm_85 rfl rfl ?_
    refine u_iadd (q := 88) C dX12_readsTerm_87 rfl h (fun h => ?_)
    refine v_iloadn (q := 89) C dX12_readsTerm_88 rfl rfl ?_
    refine v_icmp_le (q := 92) (tgt := 94) C dX12_readsTerm_89 rfl rfl h (fun h => ?_) (fun h => ?_)
    · refine v_aloadn (q := 95) C dX12_readsTerm_94 rfl rfl ?_
      refine u_getR (q := 98) C kl12 fl_X12_31 ob_248 pt_248_11 (by decide) rfl rfl dX12_readsTerm_95 rfl ?_
      refine v_aloadn (q := 99) C dX12_readsTerm_98 rfl rfl ?_
      refine u_getI (q := 102) C kl12 fl_X12_117 ob_248 pt_248_12 rfl rfl dX12_readsTerm_99 rfl ?_
      refine v_iload (q := 104) C dX12_readsTerm_102 rfl rfl ?_
      refine u_iast (q := 105) C ia_256 dX12_readsTerm_104 rfl h (fun μ4 h => ?_)
      refine v_aloadn (q := 106) C dX12_readsTerm_105 rfl rfl ?_
      refine v_dup (q := 107) C dX12_readsTerm_106 rfl ?_
      refine u_getI (q := 110) C kl12 fl_X12_117 ob_248 pt_248_12 rfl rfl dX12_readsTerm_107 rfl ?_
      refine v_iconst (q := 111) C dX12_readsTerm_110 rfl (by decide) ?_
      refine u_iadd (q := 112) C dX12_readsTerm_111 rfl h (fun h => ?_)
      refine u_put (q := 115) C kl12 fl_X12_117 ob_248 pt_248_12 rfl rfl rfl rfl dX12_readsTerm_112 rfl h (fun μ5 h => ?_)
      refine v_iload (q := 117) C dX12_readsTerm_115 rfl rfl ?_
      refine v_iload (q := 119) C dX12_readsTerm_117 rfl rfl ?_
      refine v_iconst (q := 120) C dX12_readsTerm_119 rfl (by decide) ?_
      refine u_isub (q := 121) C dX12_readsTerm_120 rfl h (fun h => ?_)
      refine u_iadd (q := 122) C dX12_readsTerm_121 rfl h (fun h => ?_)
      refine v_istore (q := 124) C dX12_readsTerm_122 rfl (nb rfl) (L' := [some (.inr 248), some (.inl x1), some (.inl x2), some (.inl x3), some (.inl x4), some (.inl x5), some (.inl x6), some (.inl (x7 + (s0 - 1))), none, some (.inl x9), some (.inl s0)]) rfl ?_
      refine v_iload (q := 126) C dX12_readsTerm_124 rfl rfl ?_
      refine v_if_eq (q := 129) (tgt := 143) C dX12_readsTerm_126 rfl rfl h (fun h => ?_) (fun h => ?_)
      · exact v_mask [true, true, true, true, true, true, true, true, false, false, false] rfl (w_X12_readsTerm_143  C hR hG11  h)
      · refine v_iload (q := 131) C dX12_readsTerm_129 rfl rfl ?_
        refine v_bipush (q := 133) C dX12_readsTerm_131 rfl (by decide) ?_
        refine v_iload (q := 135) C dX12_readsTerm_133 rfl rfl ?_
        refine u_iadd (q := 136) C dX12_readsTerm_135 rfl h (fun h => ?_)
        refine v_icmp_ne (q := 139) (tgt := 143) C dX12_readsTerm_136 rfl rfl h (fun h => ?_) (fun h => ?_)
        · refine v_iconst (q := 140) C dX12_readsTerm_139 rfl (by decide) ?_
          refine v_goto (q := 144) C dX12_readsTerm_140 rfl ?_
          exact v_mask [true, true, true, true, true, true, true, true, false, false, false] rfl (w_X12_readsTerm_144  C hR hG11  h)
        · exact v_mask [true, true, true, true, true, true, true, true, false, false, false] rfl (w_X12_readsTerm_143  C hR hG11  h)
    · refine v_iconst (q := 93) C dX12_readsTerm_92 rfl (by decide) ?_
      exact u_zret hR dX12_readsTerm_93 h
theorem w_X12_readsTerm_57 {X : ZX} (C : zC X cX12_readsTerm RX12 11 (some .boolean) 3 69 274) {K : Int → ZM → Prop} (hR : zRi X cX12_readsTerm (some .boolean) 274 (KN (KI K)))  {x1 : Int} {x2 : Int} {x3 : Int} {x4 : Int} {x5 : Int} {x6 : Int} {x7 : Int} {x9 : Int} {μ : ZM} {G11 : Int → Int → ZM → Prop} (hG11 : ∀ (x7 x8 : Int) (μ : ZM), G11 x7 x8 μ → zV X 11 [some (.inr 248), some (.inl x1), some (.inl x2), some (.inl x3), some (.inl x4), some (.inl x5), some (.inl x6), some (.inl x7), some (.inl x8), none, none] [] 274 (z_ov μ))  (h : P_X12_readsTerm_57  G11 x1 x2 x3 x4 x5 x6 x7 x9 μ K) : zV X 57 [some (.inr 248), some (.inl x1), some (.inl x2), some (.inl x3), some (.inl x4), some (.inl x5), some (.inl x6), some (.inl x7), none, some (.inl x9), none] [] 274 (z_ov μ) := by
  refine v_aloadn (q := 58) C dX12_readsTerm_57 rfl rfl ?_
  refine v_iload (q := 60) C dX12_readsTerm_58 rfl rfl ?_
  refine v_iloadn (q := 61) C dX12_readsTerm_60 rfl rfl ?_
  refine v_iloadn (q := 62) C dX12_readsTerm_61 rfl rfl ?_
  refine v_iload (q := 64) C dX12_readsTerm_62 rfl rfl ?_
  refine v_iload (q := 66) C dX12_readsTerm_64 rfl rfl ?_
  refine v_iload (q := 68) C dX12_readsTerm_66 rfl rfl ?_
  refine u_cVi6 (q := 71) C (c_X12_partsOf h) sy_X12_partsOf si_X12_partsOf ml_X12_123 ob_248 (by decide) so_X12_partsOf ⟨nb rfl, nb rfl⟩ (nb rfl) dX12_readsTerm_68 rfl (fun r3 μ2 h => ?_)
  exact (w_X12_readsTerm_71  C hR hG11  h)
theorem w_X12_readsTerm_11 {X : ZX} (C : zC X cX12_readsTerm RX12 11 (some .boolean) 3 69 274) {K : Int → ZM → Prop} (hR : zRi X cX12_readsTerm (some .boolean) 274 (KN (KI K)))  {x1 : Int} {x2 : Int} {x3 : Int} {x4 : Int} {x5 : Int} {x6 : Int} {x7 : Int} {x8 : Int} {μ : ZM}   (h : P_X12_readsTerm_11   x1 x2 x3 x4 x5 x6 x7 x8 μ K) : zV X 11 [some (.inr 248), some (.inl x1), some (.inl x2), some (.inl x3), some (.inl x4), some (.inl x5), some (.inl x6), some (.inl x7), some (.inl x8), none, none] [] 274 (z_ov μ) := by
  refine h (fun x7 x8 μ => zV X 11 [some (.inr 248), some (.inl x1), some (.inl x2), some (.inl x3), some (.inl x4), some (.inl x5), some (.inl x6), some (.inl x7), some (.inl x8), none, none] [] 274 (z_ov μ)) (fun x7 x8 μ h => ?_)
  refine v_iload (q := 13) C dX12_readsTerm_11 rfl rfl ?_
  refine v_if_le (q := 16) (tgt := 159) C dX12_readsTerm_13 rfl rfl h (fun h => ?_) (fun h => ?_)
  · refine v_iconst (q := 160) C dX12_readsTerm_159 rfl (by decide) ?_
    exact u_zret hR dX12_readsTerm_160 h
  · refine v_aloadn (q := 17) C dX12_readsTerm_16 rfl rfl ?_
    refine u_getI (q := 20) C kl12 fl_X12_120 ob_248 pt_248_10 rfl rfl dX12_readsTerm_17 rfl ?_
    refine v_aloadn (q := 21) C dX12_readsTerm_20 rfl rfl ?_
    refine u_getI (q := 24) C kl12 fl_X12_108 ob_248 pt_248_3 rfl rfl dX12_readsTerm_21 rfl ?_
    refine v_icmp_ne (q := 27) (tgt := 29) C dX12_readsTerm_24 rfl rfl h (fun h => ?_) (fun h => ?_)
    · refine v_iconst (q := 28) C dX12_readsTerm_27 rfl (by decide) ?_
      exact u_zret hR dX12_readsTerm_28 h
    · refine v_aloadn (q := 30) C dX12_readsTerm_29 rfl rfl ?_
      refine u_getR (q := 33) C kl12 fl_X12_16 ob_248 pt_248_2 (by decide) rfl rfl dX12_readsTerm_30 rfl ?_
      refine v_aloadn (q := 34) C dX12_readsTerm_33 rfl rfl ?_
      refine u_getI (q := 37) C kl12 fl_X12_120 ob_248 pt_248_10 rfl rfl dX12_readsTerm_34 rfl ?_
      refine u_iald (q := 38) C ia_251 dX12_readsTerm_37 rfl h (fun h => ?_)
      refine v_istore (q := 40) C dX12_readsTerm_38 rfl (nb rfl) (L' := [some (.inr 248), some (.inl x1), some (.inl x2), some (.inl x3), some (.inl x4), some (.inl x5), some (.inl x6), some (.inl x7), some (.inl x8), some (.inl (μ 251 (μ 248 10))), none]) rfl ?_
      refine v_iload (q := 42) C dX12_readsTerm_40 rfl rfl ?_
      refine v_if_eq (q := 45) (tgt := 57) C dX12_readsTerm_42 rfl rfl h (fun h => ?_) (fun h => ?_)
      · exact v_mask [true, true, true, true, true, true, true, true, false, true, false] rfl (w_X12_readsTerm_57  C hR (fun _ _ _ h => h)  h)
      · refine v_iload (q := 47) C dX12_readsTerm_45 rfl rfl ?_
        refine v_bipush (q := 49) C dX12_readsTerm_47 rfl (by decide) ?_
        refine v_icmp_eq (q := 52) (tgt := 57) C dX12_readsTerm_49 rfl rfl h (fun h => ?_) (fun h => ?_)
        · exact v_mask [true, true, true, true, true, true, true, true, false, true, false] rfl (w_X12_readsTerm_57  C hR (fun _ _ _ h => h)  h)
        · refine v_bipush (q := 54) C dX12_readsTerm_52 rfl (by decide) ?_
          refine v_goto (q := 71) C dX12_readsTerm_54 rfl ?_
          exact v_mask [true, true, true, true, true, true, true, true, false, true, false] rfl (w_X12_readsTerm_71  C hR (fun _ _ _ h => h)  h)
theorem c_X12_readsTerm {x1 : Int} {x2 : Int} {x3 : Int} {x4 : Int} {x5 : Int} {x6 : Int} {μ : ZM} {K : Int → ZM → Prop} (h : P_X12_readsTerm  x1 x2 x3 x4 x5 x6 μ K) : zMu yX12_readsTerm cX12_readsTerm 11 (some .boolean) 3 69 [.inr 248, .inl x1, .inl x2, .inl x3, .inl x4, .inl x5, .inl x6] μ (KI K) := by
  refine zMet_of (L0 := [some (.inr 248), some (.inl x1), some (.inl x2), some (.inl x3), some (.inl x4), some (.inl x5), some (.inl x6), none, none, none, none]) sy_X12_readsTerm rfl (nb rfl) (Nat.le_refl _) (fun X C _ hR _ _ => ?_)
  have C : zC X cX12_readsTerm RX12 11 (some .boolean) 3 69 274 := C
  refine v_aloadn (q := 1) C dX12_readsTerm_0 rfl rfl ?_
  refine v_iconst (q := 2) C dX12_readsTerm_1 rfl (by decide) ?_
  refine u_put (q := 5) C kl12 fl_X12_117 ob_248 pt_248_12 rfl rfl rfl rfl dX12_readsTerm_2 rfl h (fun μ1 h => ?_)
  refine v_iconst (q := 6) C dX12_readsTerm_5 rfl (by decide) ?_
  refine v_istore (q := 8) C dX12_readsTerm_6 rfl (nb rfl) (L' := [some (.inr 248), some (.inl x1), some (.inl x2), some (.inl x3), some (.inl x4), some (.inl x5), some (.inl x6), some (.inl 1), none, none, none]) rfl ?_
  refine v_iconst (q := 9) C dX12_readsTerm_8 rfl (by decide) ?_
  refine v_istore (q := 11) C dX12_readsTerm_9 rfl (nb rfl) (L' := [some (.inr 248), some (.inl x1), some (.inl x2), some (.inl x3), some (.inl x4), some (.inl x5), some (.inl x6), some (.inl 1), some (.inl 0), none, none]) rfl ?_
  exact (w_X12_readsTerm_11  C hR   h)
theorem c_X12_reads {x1 : Int} {μ : ZM} {K : Int → ZM → Prop} (h : P_X12_reads  x1 μ K) : zMu yX12_reads cX12_reads 2 (some .boolean) 0 0 [.inr 248, .inl x1] μ (KI K) := by
  refine zMet_of (L0 := [some (.inr 248), some (.inl x1)]) sy_X12_reads rfl (nb rfl) (Nat.le_refl _) (fun X C _ hR _ _ => ?_)
  have C : zC X cX12_reads RX12 2 (some .boolean) 0 0 274 := C
  refine v_aloadn (q := 1) C dX12_reads_0 rfl rfl ?_
  refine u_getI (q := 4) C kl12 fl_X12_120 ob_248 pt_248_10 rfl rfl dX12_reads_1 rfl ?_
  refine v_aloadn (q := 5) C dX12_reads_4 rfl rfl ?_
  refine u_getI (q := 8) C kl12 fl_X12_108 ob_248 pt_248_3 rfl rfl dX12_reads_5 rfl ?_
  refine v_icmp_eq (q := 11) (tgt := 24) C dX12_reads_8 rfl rfl h (fun h => ?_) (fun h => ?_)
  · refine v_iconst (q := 25) C dX12_reads_24 rfl (by decide) ?_
    exact u_zret hR dX12_reads_25 h
  · refine v_aloadn (q := 12) C dX12_reads_11 rfl rfl ?_
    refine u_getR (q := 15) C kl12 fl_X12_16 ob_248 pt_248_2 (by decide) rfl rfl dX12_reads_12 rfl ?_
    refine v_aloadn (q := 16) C dX12_reads_15 rfl rfl ?_
    refine u_getI (q := 19) C kl12 fl_X12_120 ob_248 pt_248_10 rfl rfl dX12_reads_16 rfl ?_
    refine u_iald (q := 20) C ia_251 dX12_reads_19 rfl h (fun h => ?_)
    refine v_iloadn (q := 21) C dX12_reads_20 rfl rfl ?_
    refine v_icmp_eq (q := 24) (tgt := 26) C dX12_reads_21 rfl rfl h (fun h => ?_) (fun h => ?_)
    · refine v_aloadn (q := 27) C dX12_reads_26 rfl rfl ?_
      refine v_dup (q := 28) C dX12_reads_27 rfl ?_
      refine u_getI (q := 31) C kl12 fl_X12_120 ob_248 pt_248_10 rfl rfl dX12_reads_28 rfl ?_
      refine v_iconst (q := 32) C dX12_reads_31 rfl (by decide) ?_
      refine u_iadd (q := 33) C dX12_reads_32 rfl h (fun h => ?_)
      refine u_put (q := 36) C kl12 fl_X12_120 ob_248 pt_248_10 rfl rfl rfl rfl dX12_reads_33 rfl h (fun μ1 h => ?_)
      refine v_iconst (q := 37) C dX12_reads_36 rfl (by decide) ?_
      exact u_zret hR dX12_reads_37 h
    · refine v_iconst (q := 25) C dX12_reads_24 rfl (by decide) ?_
      exact u_zret hR dX12_reads_25 h
theorem w_X12_keepsSide_9 {X : ZX} (C : zC X cX12_keepsSide RX12 3 none 1 22 274) {K : ZM → Prop} (hR : zRv X cX12_keepsSide none 274 (KN (KV K)))  {x1 : Int} {x2 : Int} {μ : ZM}   (h : P_X12_keepsSide_9   x1 x2 μ K) : zV X 9 [some (.inr 248), some (.inl x1), some (.inl x2)] [] 274 (z_ov μ) := by
  refine h (fun x2 μ => zV X 9 [some (.inr 248), some (.inl x1), some (.inl x2)] [] 274 (z_ov μ)) (fun x2 μ h => ?_)
  refine v_iloadn (q := 10) C dX12_keepsSide_9 rfl rfl ?_
  refine v_aloadn (q := 11) C dX12_keepsSide_10 rfl rfl ?_
  refine u_getI (q := 14) C kl12 fl_X12_117 ob_248 pt_248_12 rfl rfl dX12_keepsSide_11 rfl ?_
  refine v_icmp_ge (q := 17) (tgt := 34) C dX12_keepsSide_14 rfl rfl h (fun h => ?_) (fun h => ?_)
  · exact u_vret hR dX12_keepsSide_34 h
  · refine v_aloadn (q := 18) C dX12_keepsSide_17 rfl rfl ?_
    refine v_iloadn (q := 19) C dX12_keepsSide_18 rfl rfl ?_
    refine v_aloadn (q := 20) C dX12_keepsSide_19 rfl rfl ?_
    refine u_getR (q := 23) C kl12 fl_X12_31 ob_248 pt_248_11 (by decide) rfl rfl dX12_keepsSide_20 rfl ?_
    refine v_iloadn (q := 24) C dX12_keepsSide_23 rfl rfl ?_
    refine u_iald (q := 25) C ia_256 dX12_keepsSide_24 rfl h (fun h => ?_)
    refine u_cVv2 (q := 28) C (c_X12_puts h) sy_X12_puts si_X12_puts ml_X12_150 ob_248 (by decide) so_X12_puts ⟨nb rfl, nb rfl⟩ (nb rfl) dX12_keepsSide_25 rfl (fun μ2 h => ?_)
    refine u_iinc (q := 31) C dX12_keepsSide_28 rfl (nb rfl) rfl (L' := [some (.inr 248), some (.inl x1), some (.inl (x2 + 1))]) rfl h (fun h => ?_)
    refine v_goto (q := 9) C dX12_keepsSide_31 rfl ?_
    exact h
theorem c_X12_keepsSide {x1 : Int} {μ : ZM} {K : ZM → Prop} (h : P_X12_keepsSide  x1 μ K) : zMu yX12_keepsSide cX12_keepsSide 3 none 1 22 [.inr 248, .inl x1] μ (KV K) := by
  refine zMet_of (L0 := [some (.inr 248), some (.inl x1), none]) sy_X12_keepsSide rfl (nb rfl) (Nat.le_refl _) (fun X C _ _ _ hR => ?_)
  have C : zC X cX12_keepsSide RX12 3 none 1 22 274 := C
  refine v_aloadn (q := 1) C dX12_keepsSide_0 rfl rfl ?_
  refine u_getR (q := 4) C kl12 fl_X12_13 ob_248 pt_248_1 (by decide) rfl rfl dX12_keepsSide_1 rfl ?_
  refine v_iloadn (q := 5) C dX12_keepsSide_4 rfl rfl ?_
  refine v_iconst (q := 6) C dX12_keepsSide_5 rfl (by decide) ?_
  refine u_iast (q := 7) C ia_250 dX12_keepsSide_6 rfl h (fun μ1 h => ?_)
  refine v_iconst (q := 8) C dX12_keepsSide_7 rfl (by decide) ?_
  refine v_istoren (q := 9) C dX12_keepsSide_8 rfl (nb rfl) (L' := [some (.inr 248), some (.inl x1), some (.inl 0)]) rfl ?_
  exact (w_X12_keepsSide_9  C hR   h)
theorem c_X12_readsClaim  {μ : ZM} {K : Int → ZM → Prop} (h : P_X12_readsClaim   μ K) : zMu yX12_readsClaim cX12_readsClaim 1 (some .boolean) 4 99 [.inr 248] μ (KI K) := by
  refine zMet_of (L0 := [some (.inr 248)]) sy_X12_readsClaim rfl (nb rfl) (Nat.le_refl _) (fun X C _ hR _ _ => ?_)
  have C : zC X cX12_readsClaim RX12 1 (some .boolean) 4 99 274 := C
  refine v_aloadn (q := 1) C dX12_readsClaim_0 rfl rfl ?_
  refine v_bipush (q := 3) C dX12_readsClaim_1 rfl (by decide) ?_
  refine v_iconst (q := 4) C dX12_readsClaim_3 rfl (by decide) ?_
  refine v_iconst (q := 5) C dX12_readsClaim_4 rfl (by decide) ?_
  refine v_iconst (q := 6) C dX12_readsClaim_5 rfl (by decide) ?_
  refine v_aloadn (q := 7) C dX12_readsClaim_6 rfl rfl ?_
  refine u_getI (q := 10) C kl12 fl_X12_137 ob_248 pt_248_4 rfl rfl dX12_readsClaim_7 rfl ?_
  refine v_iconst (q := 11) C dX12_readsClaim_10 rfl (by decide) ?_
  refine u_cVi6 (q := 14) C (c_X12_readsTerm h) sy_X12_readsTerm si_X12_readsTerm ml_X12_127 ob_248 (by decide) so_X12_readsTerm ⟨nb rfl, nb rfl⟩ (nb rfl) dX12_readsClaim_11 rfl (fun r2 μ1 h => ?_)
  refine v_if_eq (q := 17) (tgt := 26) C dX12_readsClaim_14 rfl rfl h (fun h => ?_) (fun h => ?_)
  · refine v_iconst (q := 27) C dX12_readsClaim_26 rfl (by decide) ?_
    exact u_zret hR dX12_readsClaim_27 h
  · refine v_aloadn (q := 18) C dX12_readsClaim_17 rfl rfl ?_
    refine v_bipush (q := 20) C dX12_readsClaim_18 rfl (by decide) ?_
    refine u_cVi1 (q := 23) C (c_X12_reads h) sy_X12_reads si_X12_reads ml_X12_131 ob_248 (by decide) so_X12_reads ⟨nb rfl, nb rfl⟩ (nb rfl) dX12_readsClaim_20 rfl (fun r4 μ3 h => ?_)
    refine v_if_ne (q := 26) (tgt := 28) C dX12_readsClaim_23 rfl rfl h (fun h => ?_) (fun h => ?_)
    · refine v_iconst (q := 27) C dX12_readsClaim_26 rfl (by decide) ?_
      exact u_zret hR dX12_readsClaim_27 h
    · refine v_aloadn (q := 29) C dX12_readsClaim_28 rfl rfl ?_
      refine v_bipush (q := 31) C dX12_readsClaim_29 rfl (by decide) ?_
      refine u_cVv1 (q := 34) C (c_X12_keepsSide h) sy_X12_keepsSide si_X12_keepsSide ml_X12_153 ob_248 (by decide) so_X12_keepsSide ⟨nb rfl, nb rfl⟩ (nb rfl) dX12_readsClaim_31 rfl (fun μ5 h => ?_)
      refine v_aloadn (q := 35) C dX12_readsClaim_34 rfl rfl ?_
      refine v_bipush (q := 37) C dX12_readsClaim_35 rfl (by decide) ?_
      refine v_iconst (q := 38) C dX12_readsClaim_37 rfl (by decide) ?_
      refine v_iconst (q := 39) C dX12_readsClaim_38 rfl (by decide) ?_
      refine v_iconst (q := 40) C dX12_readsClaim_39 rfl (by decide) ?_
      refine v_aloadn (q := 41) C dX12_readsClaim_40 rfl rfl ?_
      refine u_getI (q := 44) C kl12 fl_X12_137 ob_248 pt_248_4 rfl rfl dX12_readsClaim_41 rfl ?_
      refine v_iconst (q := 45) C dX12_readsClaim_44 rfl (by decide) ?_
      refine u_cVi6 (q := 48) C (c_X12_readsTerm h) sy_X12_readsTerm si_X12_readsTerm ml_X12_127 ob_248 (by decide) so_X12_readsTerm ⟨nb rfl, nb rfl⟩ (nb rfl) dX12_readsClaim_45 rfl (fun r7 μ6 h => ?_)
      refine v_if_ne (q := 51) (tgt := 53) C dX12_readsClaim_48 rfl rfl h (fun h => ?_) (fun h => ?_)
      · refine v_iconst (q := 52) C dX12_readsClaim_51 rfl (by decide) ?_
        exact u_zret hR dX12_readsClaim_52 h
      · refine v_aloadn (q := 54) C dX12_readsClaim_53 rfl rfl ?_
        refine v_bipush (q := 56) C dX12_readsClaim_54 rfl (by decide) ?_
        refine u_cVv1 (q := 59) C (c_X12_keepsSide h) sy_X12_keepsSide si_X12_keepsSide ml_X12_153 ob_248 (by decide) so_X12_keepsSide ⟨nb rfl, nb rfl⟩ (nb rfl) dX12_readsClaim_56 rfl (fun μ8 h => ?_)
        refine v_aloadn (q := 60) C dX12_readsClaim_59 rfl rfl ?_
        refine u_getI (q := 63) C kl12 fl_X12_120 ob_248 pt_248_10 rfl rfl dX12_readsClaim_60 rfl ?_
        refine v_aloadn (q := 64) C dX12_readsClaim_63 rfl rfl ?_
        refine u_getI (q := 67) C kl12 fl_X12_108 ob_248 pt_248_3 rfl rfl dX12_readsClaim_64 rfl ?_
        refine v_icmp_ne (q := 70) (tgt := 74) C dX12_readsClaim_67 rfl rfl h (fun h => ?_) (fun h => ?_)
        · refine v_iconst (q := 71) C dX12_readsClaim_70 rfl (by decide) ?_
          refine v_goto (q := 75) C dX12_readsClaim_71 rfl ?_
          exact u_zret hR dX12_readsClaim_75 h
        · refine v_iconst (q := 75) C dX12_readsClaim_74 rfl (by decide) ?_
          exact u_zret hR dX12_readsClaim_75 h
theorem c_X12_claim  {μ : ZM} {K : Int → ZM → Prop} (h : P_X12_claim   μ K) : zMu yX12_claim cX12_claim 1 (some .int) 5 119 [.inr 248] μ (KI K) := by
  refine zMet_of (L0 := [some (.inr 248)]) sy_X12_claim rfl (nb rfl) (Nat.le_refl _) (fun X C _ hR _ _ => ?_)
  have C : zC X cX12_claim RX12 1 (some .int) 5 119 274 := C
  refine v_aloadn (q := 1) C dX12_claim_0 rfl rfl ?_
  refine v_iconst (q := 2) C dX12_claim_1 rfl (by decide) ?_
  refine u_put (q := 5) C kl12 fl_X12_120 ob_248 pt_248_10 rfl rfl rfl rfl dX12_claim_2 rfl h (fun μ1 h => ?_)
  refine v_aloadn (q := 6) C dX12_claim_5 rfl rfl ?_
  refine u_cVi0 (q := 9) C (c_X12_readsClaim h) sy_X12_readsClaim si_X12_readsClaim ml_X12_157 ob_248 (by decide) so_X12_readsClaim ⟨nb rfl, nb rfl⟩ (nb rfl) dX12_claim_6 rfl (fun r3 μ2 h => ?_)
  refine v_if_ne (q := 12) (tgt := 20) C dX12_claim_9 rfl rfl h (fun h => ?_) (fun h => ?_)
  · refine v_bipush (q := 14) C dX12_claim_12 rfl (by decide) ?_
    refine v_aloadn (q := 15) C dX12_claim_14 rfl rfl ?_
    refine u_getI (q := 18) C kl12 fl_X12_120 ob_248 pt_248_10 rfl rfl dX12_claim_15 rfl ?_
    refine u_isub (q := 19) C dX12_claim_18 rfl h (fun h => ?_)
    exact u_iret hR dX12_claim_19 h
  · refine v_aloadn (q := 21) C dX12_claim_20 rfl rfl ?_
    refine v_bipush (q := 23) C dX12_claim_21 rfl (by decide) ?_
    refine v_iconst (q := 24) C dX12_claim_23 rfl (by decide) ?_
    refine u_cVv2 (q := 27) C (c_X12_copies h) sy_X12_copies si_X12_copies ml_X12_161 ob_248 (by decide) so_X12_copies ⟨nb rfl, nb rfl⟩ (nb rfl) dX12_claim_24 rfl (fun μ4 h => ?_)
    refine v_aloadn (q := 28) C dX12_claim_27 rfl rfl ?_
    refine v_bipush (q := 30) C dX12_claim_28 rfl (by decide) ?_
    refine v_iconst (q := 31) C dX12_claim_30 rfl (by decide) ?_
    refine u_cVv2 (q := 34) C (c_X12_copies h) sy_X12_copies si_X12_copies ml_X12_161 ob_248 (by decide) so_X12_copies ⟨nb rfl, nb rfl⟩ (nb rfl) dX12_claim_31 rfl (fun μ5 h => ?_)
    refine v_aloadn (q := 35) C dX12_claim_34 rfl rfl ?_
    refine v_iconst (q := 36) C dX12_claim_35 rfl (by decide) ?_
    refine u_putZ (q := 39) C kl12 fl_X12_164 ob_248 pt_248_9 rfl rfl rfl rfl dX12_claim_36 rfl h (fun μ6 h => ?_)
    refine v_aloadn (q := 40) C dX12_claim_39 rfl rfl ?_
    refine u_getR (q := 43) C kl12 fl_X12_13 ob_248 pt_248_1 (by decide) rfl rfl dX12_claim_40 rfl ?_
    refine v_iconst (q := 44) C dX12_claim_43 rfl (by decide) ?_
    refine u_iald (q := 45) C ia_250 dX12_claim_44 rfl h (fun h => ?_)
    refine v_aloadn (q := 46) C dX12_claim_45 rfl rfl ?_
    refine u_getR (q := 49) C kl12 fl_X12_13 ob_248 pt_248_1 (by decide) rfl rfl dX12_claim_46 rfl ?_
    refine v_iconst (q := 50) C dX12_claim_49 rfl (by decide) ?_
    refine u_iald (q := 51) C ia_250 dX12_claim_50 rfl h (fun h => ?_)
    refine u_iadd (q := 52) C dX12_claim_51 rfl h (fun h => ?_)
    exact u_iret hR dX12_claim_52 h
theorem w_X12_isPartOf_3 {X : ZX} (C : zC X cX12_isPartOf RX12 6 (some .boolean) 2 48 274) {K : Int → ZM → Prop} (hR : zRi X cX12_isPartOf (some .boolean) 274 (KN (KI K)))  {x1 : Int} {x2 : Int} {x3 : Int} {x4 : Int} {x5 : Int} {μ : ZM}   (h : P_X12_isPartOf_3   x1 x2 x3 x4 x5 μ K) : zV X 3 [some (.inr 248), some (.inl x1), some (.inl x2), some (.inl x3), some (.inl x4), some (.inl x5)] [] 274 (z_ov μ) := by
  refine h (fun x5 μ => zV X 3 [some (.inr 248), some (.inl x1), some (.inl x2), some (.inl x3), some (.inl x4), some (.inl x5)] [] 274 (z_ov μ)) (fun x5 μ h => ?_)
  refine v_iload (q := 5) C dX12_isPartOf_3 rfl rfl ?_
  refine v_iload (q := 7) C dX12_isPartOf_5 rfl rfl ?_
  refine u_iadd (q := 8) C dX12_isPartOf_7 rfl h (fun h => ?_)
  refine v_aloadn (q := 9) C dX12_isPartOf_8 rfl rfl ?_
  refine u_getR (q := 12) C kl12 fl_X12_13 ob_248 pt_248_1 (by decide) rfl rfl dX12_isPartOf_9 rfl ?_
  refine v_iloadn (q := 13) C dX12_isPartOf_12 rfl rfl ?_
  refine u_iald (q := 14) C ia_250 dX12_isPartOf_13 rfl h (fun h => ?_)
  refine v_icmp_gt (q := 17) (tgt := 39) C dX12_isPartOf_14 rfl rfl h (fun h => ?_) (fun h => ?_)
  · refine v_iconst (q := 40) C dX12_isPartOf_39 rfl (by decide) ?_
    exact u_zret hR dX12_isPartOf_40 h
  · refine v_aloadn (q := 18) C dX12_isPartOf_17 rfl rfl ?_
    refine v_iloadn (q := 19) C dX12_isPartOf_18 rfl rfl ?_
    refine v_iload (q := 21) C dX12_isPartOf_19 rfl rfl ?_
    refine v_iloadn (q := 22) C dX12_isPartOf_21 rfl rfl ?_
    refine v_iloadn (q := 23) C dX12_isPartOf_22 rfl rfl ?_
    refine v_iload (q := 25) C dX12_isPartOf_23 rfl rfl ?_
    refine u_cVi5 (q := 28) C (c_X12_isSamePart h) sy_X12_isSamePart si_X12_isSamePart ml_X12_282 ob_248 (by decide) so_X12_isSamePart ⟨nb rfl, nb rfl⟩ (nb rfl) dX12_isPartOf_25 rfl (fun r2 μ1 h => ?_)
    refine v_if_eq (q := 31) (tgt := 33) C dX12_isPartOf_28 rfl rfl h (fun h => ?_) (fun h => ?_)
    · refine u_iinc (q := 36) C dX12_isPartOf_33 rfl (nb rfl) rfl (L' := [some (.inr 248), some (.inl x1), some (.inl x2), some (.inl x3), some (.inl x4), some (.inl (x5 + 1))]) rfl h (fun h => ?_)
      refine v_goto (q := 3) C dX12_isPartOf_36 rfl ?_
      exact h
    · refine v_iconst (q := 32) C dX12_isPartOf_31 rfl (by decide) ?_
      exact u_zret hR dX12_isPartOf_32 h
theorem c_X12_isPartOf {x1 : Int} {x2 : Int} {x3 : Int} {x4 : Int} {μ : ZM} {K : Int → ZM → Prop} (h : P_X12_isPartOf  x1 x2 x3 x4 μ K) : zMu yX12_isPartOf cX12_isPartOf 6 (some .boolean) 2 48 [.inr 248, .inl x1, .inl x2, .inl x3, .inl x4] μ (KI K) := by
  refine zMet_of (L0 := [some (.inr 248), some (.inl x1), some (.inl x2), some (.inl x3), some (.inl x4), none]) sy_X12_isPartOf rfl (nb rfl) (Nat.le_refl _) (fun X C _ hR _ _ => ?_)
  have C : zC X cX12_isPartOf RX12 6 (some .boolean) 2 48 274 := C
  refine v_iconst (q := 1) C dX12_isPartOf_0 rfl (by decide) ?_
  refine v_istore (q := 3) C dX12_isPartOf_1 rfl (nb rfl) (L' := [some (.inr 248), some (.inl x1), some (.inl x2), some (.inl x3), some (.inl x4), some (.inl 0)]) rfl ?_
  exact (w_X12_isPartOf_3  C hR   h)
theorem w_X12_findCommon_71 {X : ZX} (C : zC X cX12_findCommon RX12 5 (some .boolean) 4 87 274) {K : Int → ZM → Prop} (hR : zRi X cX12_findCommon (some .boolean) 274 (KN (KI K)))  {x1 : Int} {x2 : Int} {x3 : Int} {μ : ZM} {G7 : Int → ZM → Prop} (hG7 : ∀ (x3 : Int) (μ : ZM), G7 x3 μ → zV X 7 [some (.inr 248), some (.inl x1), some (.inl x2), some (.inl x3), none] [] 274 (z_ov μ))  (h : P_X12_findCommon_71  G7 x1 x2 x3 μ K) : zV X 71 [some (.inr 248), some (.inl x1), some (.inl x2), some (.inl x3), none] [] 274 (z_ov μ) := by
  refine u_iinc (q := 74) C dX12_findCommon_71 rfl (nb rfl) rfl (L' := [some (.inr 248), some (.inl x1), some (.inl x2), some (.inl (x3 + 1)), none]) rfl h (fun h => ?_)
  refine v_goto (q := 7) C dX12_findCommon_74 rfl ?_
  exact (hG7 _ _ h)
theorem w_X12_findCommon_7 {X : ZX} (C : zC X cX12_findCommon RX12 5 (some .boolean) 4 87 274) {K : Int → ZM → Prop} (hR : zRi X cX12_findCommon (some .boolean) 274 (KN (KI K)))  {x1 : Int} {x2 : Int} {x3 : Int} {μ : ZM}   (h : P_X12_findCommon_7   x1 x2 x3 μ K) : zV X 7 [some (.inr 248), some (.inl x1), some (.inl x2), some (.inl x3), none] [] 274 (z_ov μ) := by
  refine h (fun x3 μ => zV X 7 [some (.inr 248), some (.inl x1), some (.inl x2), some (.inl x3), none] [] 274 (z_ov μ)) (fun x3 μ h => ?_)
  refine v_iloadn (q := 8) C dX12_findCommon_7 rfl rfl ?_
  refine v_aloadn (q := 9) C dX12_findCommon_8 rfl rfl ?_
  refine u_getR (q := 12) C kl12 fl_X12_13 ob_248 pt_248_1 (by decide) rfl rfl dX12_findCommon_9 rfl ?_
  refine v_iloadn (q := 13) C dX12_findCommon_12 rfl rfl ?_
  refine u_iald (q := 14) C ia_250 dX12_findCommon_13 rfl h (fun h => ?_)
  refine v_icmp_ge (q := 17) (tgt := 77) C dX12_findCommon_14 rfl rfl h (fun h => ?_) (fun h => ?_)
  · refine v_aloadn (q := 78) C dX12_findCommon_77 rfl rfl ?_
    refine u_getI (q := 81) C kl12 fl_X12_315 ob_248 pt_248_38 rfl rfl dX12_findCommon_78 rfl ?_
    refine v_if_le (q := 84) (tgt := 88) C dX12_findCommon_81 rfl rfl h (fun h => ?_) (fun h => ?_)
    · refine v_iconst (q := 89) C dX12_findCommon_88 rfl (by decide) ?_
      exact u_zret hR dX12_findCommon_89 h
    · refine v_iconst (q := 85) C dX12_findCommon_84 rfl (by decide) ?_
      refine v_goto (q := 89) C dX12_findCommon_85 rfl ?_
      exact u_zret hR dX12_findCommon_89 h
  · refine v_aloadn (q := 18) C dX12_findCommon_17 rfl rfl ?_
    refine v_iloadn (q := 19) C dX12_findCommon_18 rfl rfl ?_
    refine v_iloadn (q := 20) C dX12_findCommon_19 rfl rfl ?_
    refine u_cVi2 (q := 23) C (c_X12_end h) sy_X12_end si_X12_end ml_X12_266 ob_248 (by decide) so_X12_end ⟨nb rfl, nb rfl⟩ (nb rfl) dX12_findCommon_20 rfl (fun r3 μ2 h => ?_)
    refine v_iloadn (q := 24) C dX12_findCommon_23 rfl rfl ?_
    refine u_isub (q := 25) C dX12_findCommon_24 rfl h (fun h => ?_)
    refine v_istore (q := 27) C dX12_findCommon_25 rfl (nb rfl) (L' := [some (.inr 248), some (.inl x1), some (.inl x2), some (.inl x3), some (.inl (r3 - x3))]) rfl ?_
    refine v_aloadn (q := 28) C dX12_findCommon_27 rfl rfl ?_
    refine v_iloadn (q := 29) C dX12_findCommon_28 rfl rfl ?_
    refine v_iloadn (q := 30) C dX12_findCommon_29 rfl rfl ?_
    refine u_cVi2 (q := 33) C (c_X12_at h) sy_X12_at si_X12_at ml_X12_92 ob_248 (by decide) so_X12_at ⟨nb rfl, nb rfl⟩ (nb rfl) dX12_findCommon_30 rfl (fun r5 μ4 h => ?_)
    refine u_cSi1 (q := 36) C (c_X12_isLetter h) sy_X12_isLetter ss_X12_isLetter ml_X12_100 ⟨nb rfl, nb rfl⟩ (nb rfl) dX12_findCommon_33 rfl (fun r7 μ6 h => ?_)
    refine v_if_eq (q := 39) (tgt := 71) C dX12_findCommon_36 rfl rfl h (fun h => ?_) (fun h => ?_)
    · exact v_mask [true, true, true, true, false] rfl (w_X12_findCommon_71  C hR (fun _ _ h => h)  h)
    · refine v_iload (q := 41) C dX12_findCommon_39 rfl rfl ?_
      refine v_aloadn (q := 42) C dX12_findCommon_41 rfl rfl ?_
      refine u_getI (q := 45) C kl12 fl_X12_315 ob_248 pt_248_38 rfl rfl dX12_findCommon_42 rfl ?_
      refine v_icmp_le (q := 48) (tgt := 71) C dX12_findCommon_45 rfl rfl h (fun h => ?_) (fun h => ?_)
      · exact v_mask [true, true, true, true, false] rfl (w_X12_findCommon_71  C hR (fun _ _ h => h)  h)
      · refine v_aloadn (q := 49) C dX12_findCommon_48 rfl rfl ?_
        refine v_iloadn (q := 50) C dX12_findCommon_49 rfl rfl ?_
        refine v_iloadn (q := 51) C dX12_findCommon_50 rfl rfl ?_
        refine v_iloadn (q := 52) C dX12_findCommon_51 rfl rfl ?_
        refine v_iload (q := 54) C dX12_findCommon_52 rfl rfl ?_
        refine u_cVi4 (q := 57) C (c_X12_isPartOf h) sy_X12_isPartOf si_X12_isPartOf ml_X12_318 ob_248 (by decide) so_X12_isPartOf ⟨nb rfl, nb rfl⟩ (nb rfl) dX12_findCommon_54 rfl (fun r9 μ8 h => ?_)
        refine v_if_eq (q := 60) (tgt := 71) C dX12_findCommon_57 rfl rfl h (fun h => ?_) (fun h => ?_)
        · exact v_mask [true, true, true, true, false] rfl (w_X12_findCommon_71  C hR (fun _ _ h => h)  h)
        · refine v_aloadn (q := 61) C dX12_findCommon_60 rfl rfl ?_
          refine v_iloadn (q := 62) C dX12_findCommon_61 rfl rfl ?_
          refine u_put (q := 65) C kl12 fl_X12_321 ob_248 pt_248_37 rfl rfl rfl rfl dX12_findCommon_62 rfl h (fun μ10 h => ?_)
          refine v_aloadn (q := 66) C dX12_findCommon_65 rfl rfl ?_
          refine v_iload (q := 68) C dX12_findCommon_66 rfl rfl ?_
          refine u_put (q := 71) C kl12 fl_X12_315 ob_248 pt_248_38 rfl rfl rfl rfl dX12_findCommon_68 rfl h (fun μ11 h => ?_)
          exact v_mask [true, true, true, true, false] rfl (w_X12_findCommon_71  C hR (fun _ _ h => h)  h)
theorem c_X12_findCommon {x1 : Int} {x2 : Int} {μ : ZM} {K : Int → ZM → Prop} (h : P_X12_findCommon  x1 x2 μ K) : zMu yX12_findCommon cX12_findCommon 5 (some .boolean) 4 87 [.inr 248, .inl x1, .inl x2] μ (KI K) := by
  refine zMet_of (L0 := [some (.inr 248), some (.inl x1), some (.inl x2), none, none]) sy_X12_findCommon rfl (nb rfl) (Nat.le_refl _) (fun X C _ hR _ _ => ?_)
  have C : zC X cX12_findCommon RX12 5 (some .boolean) 4 87 274 := C
  refine v_aloadn (q := 1) C dX12_findCommon_0 rfl rfl ?_
  refine v_iconst (q := 2) C dX12_findCommon_1 rfl (by decide) ?_
  refine u_put (q := 5) C kl12 fl_X12_315 ob_248 pt_248_38 rfl rfl rfl rfl dX12_findCommon_2 rfl h (fun μ1 h => ?_)
  refine v_iconst (q := 6) C dX12_findCommon_5 rfl (by decide) ?_
  refine v_istoren (q := 7) C dX12_findCommon_6 rfl (nb rfl) (L' := [some (.inr 248), some (.inl x1), some (.inl x2), some (.inl 0), none]) rfl ?_
  exact (w_X12_findCommon_7  C hR   h)
theorem w_X12_common_19 {X : ZX} (C : zC X cX12_common RX12 2 (some .int) 5 111 274) {K : Int → ZM → Prop} (hR : zRi X cX12_common (some .int) 274 (KN (KI K)))  {x1 : Int} {μ : ZM}   (h : P_X12_common_19   x1 μ K) : zV X 19 [some (.inr 248), some (.inl x1)] [] 274 (z_ov μ) := by
  refine v_aloadn (q := 20) C dX12_common_19 rfl rfl ?_
  refine u_getI (q := 23) C kl12 fl_X12_164 ob_248 pt_248_9 rfl rfl dX12_common_20 rfl ?_
  refine v_if_ne (q := 26) (tgt := 29) C dX12_common_23 rfl rfl h (fun h => ?_) (fun h => ?_)
  · refine v_bipush (q := 28) C dX12_common_26 rfl (by decide) ?_
    exact u_iret hR dX12_common_28 h
  · refine v_aloadn (q := 30) C dX12_common_29 rfl rfl ?_
    refine v_iconst (q := 31) C dX12_common_30 rfl (by decide) ?_
    refine v_iconst (q := 32) C dX12_common_31 rfl (by decide) ?_
    refine u_cVi2 (q := 35) C (c_X12_findCommon h) sy_X12_findCommon si_X12_findCommon ml_X12_324 ob_248 (by decide) so_X12_findCommon ⟨nb rfl, nb rfl⟩ (nb rfl) dX12_common_32 rfl (fun r2 μ1 h => ?_)
    refine v_if_ne (q := 38) (tgt := 41) C dX12_common_35 rfl rfl h (fun h => ?_) (fun h => ?_)
    · refine v_bipush (q := 40) C dX12_common_38 rfl (by decide) ?_
      exact u_iret hR dX12_common_40 h
    · refine v_iloadn (q := 42) C dX12_common_41 rfl rfl ?_
      refine v_bipush (q := 44) C dX12_common_42 rfl (by decide) ?_
      refine v_icmp_ne (q := 47) (tgt := 54) C dX12_common_44 rfl rfl h (fun h => ?_) (fun h => ?_)
      · refine v_aloadn (q := 48) C dX12_common_47 rfl rfl ?_
        refine u_getI (q := 51) C kl12 fl_X12_315 ob_248 pt_248_38 rfl rfl dX12_common_48 rfl ?_
        refine v_goto (q := 78) C dX12_common_51 rfl ?_
        exact u_iret hR dX12_common_78 h
      · refine v_iloadn (q := 55) C dX12_common_54 rfl rfl ?_
        refine v_aloadn (q := 56) C dX12_common_55 rfl rfl ?_
        refine u_getI (q := 59) C kl12 fl_X12_315 ob_248 pt_248_38 rfl rfl dX12_common_56 rfl ?_
        refine v_icmp_ge (q := 62) (tgt := 76) C dX12_common_59 rfl rfl h (fun h => ?_) (fun h => ?_)
        · refine v_bipush (q := 78) C dX12_common_76 rfl (by decide) ?_
          exact u_iret hR dX12_common_78 h
        · refine v_aloadn (q := 63) C dX12_common_62 rfl rfl ?_
          refine v_iconst (q := 64) C dX12_common_63 rfl (by decide) ?_
          refine v_aloadn (q := 65) C dX12_common_64 rfl rfl ?_
          refine u_getI (q := 68) C kl12 fl_X12_321 ob_248 pt_248_37 rfl rfl dX12_common_65 rfl ?_
          refine v_iloadn (q := 69) C dX12_common_68 rfl rfl ?_
          refine u_iadd (q := 70) C dX12_common_69 rfl h (fun h => ?_)
          refine u_cVi2 (q := 73) C (c_X12_at h) sy_X12_at si_X12_at ml_X12_92 ob_248 (by decide) so_X12_at ⟨nb rfl, nb rfl⟩ (nb rfl) dX12_common_70 rfl (fun r4 μ3 h => ?_)
          refine v_goto (q := 78) C dX12_common_73 rfl ?_
          exact u_iret hR dX12_common_78 h
theorem c_X12_common {x1 : Int} {μ : ZM} {K : Int → ZM → Prop} (h : P_X12_common  x1 μ K) : zMu yX12_common cX12_common 2 (some .int) 5 111 [.inr 248, .inl x1] μ (KI K) := by
  refine zMet_of (L0 := [some (.inr 248), some (.inl x1)]) sy_X12_common rfl (nb rfl) (Nat.le_refl _) (fun X C _ hR _ _ => ?_)
  have C : zC X cX12_common RX12 2 (some .int) 5 111 274 := C
  refine v_iloadn (q := 1) C dX12_common_0 rfl rfl ?_
  refine v_bipush (q := 3) C dX12_common_1 rfl (by decide) ?_
  refine v_icmp_eq (q := 6) (tgt := 19) C dX12_common_3 rfl rfl h (fun h => ?_) (fun h => ?_)
  · exact (w_X12_common_19  C hR   h)
  · refine v_iloadn (q := 7) C dX12_common_6 rfl rfl ?_
    refine v_iconst (q := 8) C dX12_common_7 rfl (by decide) ?_
    refine v_bipush (q := 10) C dX12_common_8 rfl (by decide) ?_
    refine u_cSi3 (q := 13) C (c_X12_within h) sy_X12_within ss_X12_within ml_X12_96 ⟨nb rfl, nb rfl⟩ (nb rfl) dX12_common_10 rfl (fun r6 μ5 h => ?_)
    refine v_if_ne (q := 16) (tgt := 19) C dX12_common_13 rfl rfl h (fun h => ?_) (fun h => ?_)
    · refine v_bipush (q := 18) C dX12_common_16 rfl (by decide) ?_
      exact u_iret hR dX12_common_18 h
    · exact (w_X12_common_19  C hR   h)
