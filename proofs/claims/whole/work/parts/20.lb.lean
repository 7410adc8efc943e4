def P_L_law_796 (ln : Nat) (xv : Int → Int) (G18 : Int → ZM → Prop) (x3 : Int) (μ : ZM) (K : Int → ZM → Prop) : Prop := (zin (x3 + 5) ∧ G18 (x3 + 5) μ)
def P_L_law_18 (ln : Nat) (xv : Int → Int)   (x3 : Int) (μ : ZM) (K : Int → ZM → Prop) : Prop := z_lf1 (fun G18 x3 μ => (zin (((ln : Int)) - 5) ∧ if ((ln : Int)) - 5 < x3 then (zb 1 ∧ K 1 μ) else ((((0 : Int) ≤ x3 ∧ x3 < (ln : Int)) ∧ if (xv x3) % 32 = 0 then ((zin (x3 + 1) ∧ (((0 : Int) ≤ x3 + 1 ∧ x3 + 1 < (ln : Int)) ∧ P_X11_type (xv (x3 + 1)) μ (fun r94 μ93 => (zin (x3 + 1) ∧ (((0 : Int) ≤ x3 + 1 ∧ x3 + 1 < (ln : Int)) ∧ P_X12_type (xv (x3 + 1)) μ93 (fun r96 μ95 => if r94 = r96 then (P_L_law_796 ln xv G18 x3 μ95 K) else (zb 0 ∧ K 0 μ95)))))))) else (if (xv x3) % 32 = 1 then (P_X11_wipe  μ (fun r90 μ89 => P_X12_wipe  μ89 (fun r92 μ91 => if r90 = r92 then (P_L_law_796 ln xv G18 x3 μ91 K) else (zb 0 ∧ K 0 μ91)))) else (if (xv x3) % 32 = 2 then ((zin (x3 + 1) ∧ (((0 : Int) ≤ x3 + 1 ∧ x3 + 1 < (ln : Int)) ∧ (zin (x3 + 2) ∧ (((0 : Int) ≤ x3 + 2 ∧ x3 + 2 < (ln : Int)) ∧ P_X11_function (xv (x3 + 1)) (xv (x3 + 2)) μ (fun r86 μ85 => (zin (x3 + 1) ∧ (((0 : Int) ≤ x3 + 1 ∧ x3 + 1 < (ln : Int)) ∧ (zin (x3 + 2) ∧ (((0 : Int) ≤ x3 + 2 ∧ x3 + 2 < (ln : Int)) ∧ P_X12_function (xv (x3 + 1)) (xv (x3 + 2)) μ85 (fun r88 μ87 => if r86 = r88 then (P_L_law_796 ln xv G18 x3 μ87 K) else (zb 0 ∧ K 0 μ87)))))))))))) else (if (xv x3) % 32 = 3 then ((zin (x3 + 1) ∧ (((0 : Int) ≤ x3 + 1 ∧ x3 + 1 < (ln : Int)) ∧ (zin (x3 + 2) ∧ (((0 : Int) ≤ x3 + 2 ∧ x3 + 2 < (ln : Int)) ∧ P_X11_ofFunction (xv (x3 + 1)) (xv (x3 + 2)) μ (fun r82 μ81 => (zin (x3 + 1) ∧ (((0 : Int) ≤ x3 + 1 ∧ x3 + 1 < (ln : Int)) ∧ (zin (x3 + 2) ∧ (((0 : Int) ≤ x3 + 2 ∧ x3 + 2 < (ln : Int)) ∧ P_X12_ofFunction (xv (x3 + 1)) (xv (x3 + 2)) μ81 (fun r84 μ83 => if r82 = r84 then (P_L_law_796 ln xv G18 x3 μ83 K) else (zb 0 ∧ K 0 μ83)))))))))))) else (if (xv x3) % 32 = 4 then ((zin (x3 + 1) ∧ (((0 : Int) ≤ x3 + 1 ∧ x3 + 1 < (ln : Int)) ∧ (zin (x3 + 2) ∧ (((0 : Int) ≤ x3 + 2 ∧ x3 + 2 < (ln : Int)) ∧ (zin (x3 + 3) ∧ (((0 : Int) ≤ x3 + 3 ∧ x3 + 3 < (ln : Int)) ∧ P_X11_body (xv (x3 + 1)) (xv (x3 + 2)) (xv (x3 + 3)) μ (fun r78 μ77 => (zin (x3 + 1) ∧ (((0 : Int) ≤ x3 + 1 ∧ x3 + 1 < (ln : Int)) ∧ (zin (x3 + 2) ∧ (((0 : Int) ≤ x3 + 2 ∧ x3 + 2 < (ln : Int)) ∧ (zin (x3 + 3) ∧ (((0 : Int) ≤ x3 + 3 ∧ x3 + 3 < (ln : Int)) ∧ P_X12_body (xv (x3 + 1)) (xv (x3 + 2)) (xv (x3 + 3)) μ77 (fun r80 μ79 => if r78 = r80 then (P_L_law_796 ln xv G18 x3 μ79 K) else (zb 0 ∧ K 0 μ79)))))))))))))))) else (if (xv x3) % 32 = 5 then (P_X11_claim  μ (fun r74 μ73 => P_X12_claim  μ73 (fun r76 μ75 => if r74 = r76 then (P_L_law_796 ln xv G18 x3 μ75 K) else (zb 0 ∧ K 0 μ75)))) else (if (xv x3) % 32 = 6 then ((zin (x3 + 1) ∧ (((0 : Int) ≤ x3 + 1 ∧ x3 + 1 < (ln : Int)) ∧ (zin (x3 + 2) ∧ (((0 : Int) ≤ x3 + 2 ∧ x3 + 2 < (ln : Int)) ∧ P_X11_side (xv (x3 + 1)) (xv (x3 + 2)) μ (fun r70 μ69 => (zin (x3 + 1) ∧ (((0 : Int) ≤ x3 + 1 ∧ x3 + 1 < (ln : Int)) ∧ (zin (x3 + 2) ∧ (((0 : Int) ≤ x3 + 2 ∧ x3 + 2 < (ln : Int)) ∧ P_X12_side (xv (x3 + 1)) (xv (x3 + 2)) μ69 (fun r72 μ71 => if r70 = r72 then (P_L_law_796 ln xv G18 x3 μ71 K) else (zb 0 ∧ K 0 μ71)))))))))))) else (if (xv x3) % 32 = 7 then (P_X11_anew  μ (fun r66 μ65 => P_X12_anew  μ65 (fun r68 μ67 => if r66 = r68 then (P_L_law_796 ln xv G18 x3 μ67 K) else (zb 0 ∧ K 0 μ67)))) else (if (xv x3) % 32 = 8 then ((zin (x3 + 1) ∧ (((0 : Int) ≤ x3 + 1 ∧ x3 + 1 < (ln : Int)) ∧ (zin (x3 + 2) ∧ (((0 : Int) ≤ x3 + 2 ∧ x3 + 2 < (ln : Int)) ∧ (zin (x3 + 3) ∧ (((0 : Int) ≤ x3 + 3 ∧ x3 + 3 < (ln : Int)) ∧ (zin (x3 + 4) ∧ (((0 : Int) ≤ x3 + 4 ∧ x3 + 4 < (ln : Int)) ∧ P_X11_value (xv (x3 + 1)) (xv (x3 + 2)) (xv (x3 + 3)) (xv (x3 + 4)) μ (fun r62 μ61 => (zin (x3 + 1) ∧ (((0 : Int) ≤ x3 + 1 ∧ x3 + 1 < (ln : Int)) ∧ (zin (x3 + 2) ∧ (((0 : Int) ≤ x3 + 2 ∧ x3 + 2 < (ln : Int)) ∧ (zin (x3 + 3) ∧ (((0 : Int) ≤ x3 + 3 ∧ x3 + 3 < (ln : Int)) ∧ (zin (x3 + 4) ∧ (((0 : Int) ≤ x3 + 4 ∧ x3 + 4 < (ln : Int)) ∧ P_X12_value (xv (x3 + 1)) (xv (x3 + 2)) (xv (x3 + 3)) (xv (x3 + 4)) μ61 (fun r64 μ63 => if r62 = r64 then (P_L_law_796 ln xv G18 x3 μ63 K) else (zb 0 ∧ K 0 μ63)))))))))))))))))))) else (if (xv x3) % 32 = 9 then ((zin (x3 + 1) ∧ (((0 : Int) ≤ x3 + 1 ∧ x3 + 1 < (ln : Int)) ∧ (zin (x3 + 2) ∧ (((0 : Int) ≤ x3 + 2 ∧ x3 + 2 < (ln : Int)) ∧ (zin (x3 + 3) ∧ (((0 : Int) ≤ x3 + 3 ∧ x3 + 3 < (ln : Int)) ∧ P_X11_holds (xv (x3 + 1)) (xv (x3 + 2)) (xv (x3 + 3)) μ (fun r58 μ57 => (zin (x3 + 1) ∧ (((0 : Int) ≤ x3 + 1 ∧ x3 + 1 < (ln : Int)) ∧ (zin (x3 + 2) ∧ (((0 : Int) ≤ x3 + 2 ∧ x3 + 2 < (ln : Int)) ∧ (zin (x3 + 3) ∧ (((0 : Int) ≤ x3 + 3 ∧ x3 + 3 < (ln : Int)) ∧ P_X12_holds (xv (x3 + 1)) (xv (x3 + 2)) (xv (x3 + 3)) μ57 (fun r60 μ59 => if r58 = r60 then (P_L_law_796 ln xv G18 x3 μ59 K) else (zb 0 ∧ K 0 μ59)))))))))))))))) else (if (xv x3) % 32 = 10 then ((zin (x3 + 1) ∧ (((0 : Int) ≤ x3 + 1 ∧ x3 + 1 < (ln : Int)) ∧ P_X11_counter (xv (x3 + 1)) μ (fun r54 μ53 => (zin (x3 + 1) ∧ (((0 : Int) ≤ x3 + 1 ∧ x3 + 1 < (ln : Int)) ∧ P_X12_counter (xv (x3 + 1)) μ53 (fun r56 μ55 => if r54 = r56 then (P_L_law_796 ln xv G18 x3 μ55 K) else (zb 0 ∧ K 0 μ55)))))))) else (if (xv x3) % 32 = 11 then ((zin (x3 + 1) ∧ (((0 : Int) ≤ x3 + 1 ∧ x3 + 1 < (ln : Int)) ∧ (zin (x3 + 2) ∧ (((0 : Int) ≤ x3 + 2 ∧ x3 + 2 < (ln : Int)) ∧ P_X11_normal (xv (x3 + 1)) (xv (x3 + 2)) μ (fun r50 μ49 => (zin (x3 + 1) ∧ (((0 : Int) ≤ x3 + 1 ∧ x3 + 1 < (ln : Int)) ∧ (zin (x3 + 2) ∧ (((0 : Int) ≤ x3 + 2 ∧ x3 + 2 < (ln : Int)) ∧ P_X12_normal (xv (x3 + 1)) (xv (x3 + 2)) μ49 (fun r52 μ51 => if r50 = r52 then (P_L_law_796 ln xv G18 x3 μ51 K) else (zb 0 ∧ K 0 μ51)))))))))))) else (if (xv x3) % 32 = 12 then ((zin (x3 + 1) ∧ (((0 : Int) ≤ x3 + 1 ∧ x3 + 1 < (ln : Int)) ∧ P_X11_scheme (xv (x3 + 1)) μ (fun r46 μ45 => (zin (x3 + 1) ∧ (((0 : Int) ≤ x3 + 1 ∧ x3 + 1 < (ln : Int)) ∧ P_X12_scheme (xv (x3 + 1)) μ45 (fun r48 μ47 => if r46 = r48 then (P_L_law_796 ln xv G18 x3 μ47 K) else (zb 0 ∧ K 0 μ47)))))))) else (if (xv x3) % 32 = 13 then (P_X11_difference  μ (fun r42 μ41 => P_X12_difference  μ41 (fun r44 μ43 => if r42 = r44 then (P_L_law_796 ln xv G18 x3 μ43 K) else (zb 0 ∧ K 0 μ43)))) else (if (xv x3) % 32 = 14 then ((zin (x3 + 1) ∧ (((0 : Int) ≤ x3 + 1 ∧ x3 + 1 < (ln : Int)) ∧ P_X11_steered (xv (x3 + 1)) μ (fun r38 μ37 => (zin (x3 + 1) ∧ (((0 : Int) ≤ x3 + 1 ∧ x3 + 1 < (ln : Int)) ∧ P_X12_steered (xv (x3 + 1)) μ37 (fun r40 μ39 => if r38 = r40 then (P_L_law_796 ln xv G18 x3 μ39 K) else (zb 0 ∧ K 0 μ39)))))))) else (if (xv x3) % 32 = 15 then ((zin (x3 + 1) ∧ (((0 : Int) ≤ x3 + 1 ∧ x3 + 1 < (ln : Int)) ∧ P_X11_common (xv (x3 + 1)) μ (fun r34 μ33 => (zin (x3 + 1) ∧ (((0 : Int) ≤ x3 + 1 ∧ x3 + 1 < (ln : Int)) ∧ P_X12_common (xv (x3 + 1)) μ33 (fun r36 μ35 => if r34 = r36 then (P_L_law_796 ln xv G18 x3 μ35 K) else (zb 0 ∧ K 0 μ35)))))))) else (if (xv x3) % 32 = 16 then ((zin (x3 + 1) ∧ (((0 : Int) ≤ x3 + 1 ∧ x3 + 1 < (ln : Int)) ∧ (zin (x3 + 2) ∧ (((0 : Int) ≤ x3 + 2 ∧ x3 + 2 < (ln : Int)) ∧ P_X11_general (xv (x3 + 1)) (xv (x3 + 2)) μ (fun r30 μ29 => (zin (x3 + 1) ∧ (((0 : Int) ≤ x3 + 1 ∧ x3 + 1 < (ln : Int)) ∧ (zin (x3 + 2) ∧ (((0 : Int) ≤ x3 + 2 ∧ x3 + 2 < (ln : Int)) ∧ P_X12_general (xv (x3 + 1)) (xv (x3 + 2)) μ29 (fun r32 μ31 => if r30 = r32 then (P_L_law_796 ln xv G18 x3 μ31 K) else (zb 0 ∧ K 0 μ31)))))))))))) else (if (xv x3) % 32 = 17 then (P_X11_prove  μ (fun r26 μ25 => P_X12_prove  μ25 (fun r28 μ27 => if r26 = r28 then (P_L_law_796 ln xv G18 x3 μ27 K) else (zb 0 ∧ K 0 μ27)))) else (if (xv x3) % 32 = 18 then ((zin (x3 + 1) ∧ (((0 : Int) ≤ x3 + 1 ∧ x3 + 1 < (ln : Int)) ∧ P_X11_why (xv (x3 + 1)) μ (fun r22 μ21 => (zin (x3 + 1) ∧ (((0 : Int) ≤ x3 + 1 ∧ x3 + 1 < (ln : Int)) ∧ P_X12_why (xv (x3 + 1)) μ21 (fun r24 μ23 => if r22 = r24 then (P_L_law_796 ln xv G18 x3 μ23 K) else (zb 0 ∧ K 0 μ23)))))))) else (if (xv x3) % 32 = 19 then ((zin (x3 + 1) ∧ (((0 : Int) ≤ x3 + 1 ∧ x3 + 1 < (ln : Int)) ∧ (zin (x3 + 2) ∧ (((0 : Int) ≤ x3 + 2 ∧ x3 + 2 < (ln : Int)) ∧ P_X11_script (xv (x3 + 1)) (xv (x3 + 2)) μ (fun r18 μ17 => (zin (x3 + 1) ∧ (((0 : Int) ≤ x3 + 1 ∧ x3 + 1 < (ln : Int)) ∧ (zin (x3 + 2) ∧ (((0 : Int) ≤ x3 + 2 ∧ x3 + 2 < (ln : Int)) ∧ P_X12_script (xv (x3 + 1)) (xv (x3 + 2)) μ17 (fun r20 μ19 => if r18 = r20 then (P_L_law_796 ln xv G18 x3 μ19 K) else (zb 0 ∧ K 0 μ19)))))))))))) else (if (xv x3) % 32 = 20 then ((zin (x3 + 1) ∧ (((0 : Int) ≤ x3 + 1 ∧ x3 + 1 < (ln : Int)) ∧ (zin (x3 + 2) ∧ (((0 : Int) ≤ x3 + 2 ∧ x3 + 2 < (ln : Int)) ∧ (zin (x3 + 3) ∧ (((0 : Int) ≤ x3 + 3 ∧ x3 + 3 < (ln : Int)) ∧ P_X11_lemma (xv (x3 + 1)) (xv (x3 + 2)) (xv (x3 + 3)) μ (fun r14 μ13 => (zin (x3 + 1) ∧ (((0 : Int) ≤ x3 + 1 ∧ x3 + 1 < (ln : Int)) ∧ (zin (x3 + 2) ∧ (((0 : Int) ≤ x3 + 2 ∧ x3 + 2 < (ln : Int)) ∧ (zin (x3 + 3) ∧ (((0 : Int) ≤ x3 + 3 ∧ x3 + 3 < (ln : Int)) ∧ P_X12_lemma (xv (x3 + 1)) (xv (x3 + 2)) (xv (x3 + 3)) μ13 (fun r16 μ15 => if r14 = r16 then (P_L_law_796 ln xv G18 x3 μ15 K) else (zb 0 ∧ K 0 μ15)))))))))))))))) else (if (xv x3) % 32 = 21 then ((zin (x3 + 1) ∧ (((0 : Int) ≤ x3 + 1 ∧ x3 + 1 < (ln : Int)) ∧ (zin (x3 + 2) ∧ (((0 : Int) ≤ x3 + 2 ∧ x3 + 2 < (ln : Int)) ∧ P_X11_tested (xv (x3 + 1)) (xv (x3 + 2)) μ (fun r10 μ9 => (zin (x3 + 1) ∧ (((0 : Int) ≤ x3 + 1 ∧ x3 + 1 < (ln : Int)) ∧ (zin (x3 + 2) ∧ (((0 : Int) ≤ x3 + 2 ∧ x3 + 2 < (ln : Int)) ∧ P_X12_tested (xv (x3 + 1)) (xv (x3 + 2)) μ9 (fun r12 μ11 => if r10 = r12 then (P_L_law_796 ln xv G18 x3 μ11 K) else (zb 0 ∧ K 0 μ11)))))))))))) else (if (xv x3) % 32 = 22 then (P_X11_back  μ (fun r6 μ5 => P_X12_back  μ5 (fun r8 μ7 => if r6 = r8 then (P_L_law_796 ln xv G18 x3 μ7 K) else (zb 0 ∧ K 0 μ7)))) else (if (xv x3) % 32 = 23 then ((zin (x3 + 1) ∧ (((0 : Int) ≤ x3 + 1 ∧ x3 + 1 < (ln : Int)) ∧ P_X11_many (xv (x3 + 1)) μ (fun r2 μ1 => (zin (x3 + 1) ∧ (((0 : Int) ≤ x3 + 1 ∧ x3 + 1 < (ln : Int)) ∧ P_X12_many (xv (x3 + 1)) μ1 (fun r4 μ3 => if r2 = r4 then (P_L_law_796 ln xv G18 x3 μ3 K) else (zb 0 ∧ K 0 μ3)))))))) else (P_L_law_796 ln xv G18 x3 μ K)))))))))))))))))))))))))))) x3 μ
theorem w_L_law_796 {X : ZX} {ln : Nat} {xv : Int → Int} {d : Int} (hs : zScr X d ln xv) (hln : ln < 100000) (C : zC X cL_law RL 4 (some .boolean) 2048 84000 274) {K : Int → ZM → Prop} (hR : zRi X cL_law (some .boolean) 274 (KN (KI K)))  {x3 : Int} {μ : ZM} {G18 : Int → ZM → Prop} (hG18 : ∀ (x3 : Int) (μ : ZM), G18 x3 μ → zV X 18 [some (.inr d), some (.inr 206), some (.inr 248), some (.inl x3)] [] 274 (z_ov μ))  (h : P_L_law_796 ln xv G18 x3 μ K) : zV X 796 [some (.inr d), some (.inr 206), some (.inr 248), some (.inl x3)] [] 274 (z_ov μ) := by
  refine u_iinc (q := 799) C dL_law_796 rfl (nb rfl) rfl (L' := [some (.inr d), some (.inr 206), some (.inr 248), some (.inl (x3 + 5))]) rfl h (fun h => ?_)
  refine v_goto (q := 18) C dL_law_799 rfl ?_
  exact (hG18 _ _ h)
theorem w_L_law_18 {X : ZX} {ln : Nat} {xv : Int → Int} {d : Int} (hs : zScr X d ln xv) (hln : ln < 100000) (C : zC X cL_law RL 4 (some .boolean) 2048 84000 274) {K : Int → ZM → Prop} (hR : zRi X cL_law (some .boolean) 274 (KN (KI K)))  {x3 : Int} {μ : ZM}   (h : P_L_law_18 ln xv  x3 μ K) : zV X 18 [some (.inr d), some (.inr 206), some (.inr 248), some (.inl x3)] [] 274 (z_ov μ) := by
  refine h (fun x3 μ => zV X 18 [some (.inr d), some (.inr 206), some (.inr 248), some (.inl x3)] [] 274 (z_ov μ)) (fun x3 μ h => ?_)
  refine v_iloadn (q := 19) C dL_law_18 rfl rfl ?_
  refine v_aloadn (q := 20) C dL_law_19 rfl rfl ?_
  refine v_slen (q := 21) C hs hln dL_law_20 rfl ?_
  refine v_iconst (q := 22) C dL_law_21 rfl (by decide) ?_
  refine u_isub (q := 23) C dL_law_22 rfl h (fun h => ?_)
  refine v_icmp_gt (q := 26) (tgt := 802) C dL_law_23 rfl rfl h (fun h => ?_) (fun h => ?_)
  · refine v_iconst (q := 803) C dL_law_802 rfl (by decide) ?_
    exact u_zret hR dL_law_803 h
  · refine v_aloadn (q := 27) C dL_law_26 rfl rfl ?_
    refine v_iloadn (q := 28) C dL_law_27 rfl rfl ?_
    refine u_sald (q := 29) C hs dL_law_28 rfl h (fun h => ?_)
    refine v_bipush (q := 31) C dL_law_29 rfl (by decide) ?_
    refine v_iand31 (q := 32) C dL_law_31 rfl ?_
    by_cases hk0 : (xv x3) % 32 = 0
    · replace h := z_ifp h hk0
      refine v_tableIn (off := 112) (tgt := 144) C dL_law_32 ⟨by omega, by omega⟩ (by rw [hk0]; rfl) rfl ?_
      refine v_aloadn (q := 145) C dL_law_144 rfl rfl ?_
      refine v_aloadn (q := 146) C dL_law_145 rfl rfl ?_
      refine v_iloadn (q := 147) C dL_law_146 rfl rfl ?_
      refine v_iconst (q := 148) C dL_law_147 rfl (by decide) ?_
      refine u_iadd (q := 149) C dL_law_148 rfl h (fun h => ?_)
      refine u_sald (q := 150) C hs dL_law_149 rfl h (fun h => ?_)
      refine u_cVi1 (q := 153) C (c_X11_type h) sy_X11_type si_X11_type ml_L_13 ob_206 (by decide) so_X11_type ⟨nb rfl, nb rfl⟩ (nb rfl) dL_law_150 rfl (fun r94 μ93 h => ?_)
      refine v_aloadn (q := 154) C dL_law_153 rfl rfl ?_
      refine v_aloadn (q := 155) C dL_law_154 rfl rfl ?_
      refine v_iloadn (q := 156) C dL_law_155 rfl rfl ?_
      refine v_iconst (q := 157) C dL_law_156 rfl (by decide) ?_
      refine u_iadd (q := 158) C dL_law_157 rfl h (fun h => ?_)
      refine u_sald (q := 159) C hs dL_law_158 rfl h (fun h => ?_)
      refine u_cVi1 (q := 162) C (c_X12_type h) sy_X12_type si_X12_type ml_L_17 ob_248 (by decide) so_X12_type ⟨nb rfl, nb rfl⟩ (nb rfl) dL_law_159 rfl (fun r96 μ95 h => ?_)
      refine v_icmp_eq (q := 165) (tgt := 796) C dL_law_162 rfl rfl h (fun h => ?_) (fun h => ?_)
      · exact (w_L_law_796 hs hln C hR (fun _ _ h => h)  h)
      · refine v_iconst (q := 166) C dL_law_165 rfl (by decide) ?_
        exact u_zret hR dL_law_166 h
    · replace h := z_ifn h hk0
      by_cases hk1 : (xv x3) % 32 = 1
      · replace h := z_ifp h hk1
        refine v_tableIn (off := 135) (tgt := 167) C dL_law_32 ⟨by omega, by omega⟩ (by rw [hk1]; rfl) rfl ?_
        refine v_aloadn (q := 168) C dL_law_167 rfl rfl ?_
        refine u_cVi0 (q := 171) C (c_X11_wipe h) sy_X11_wipe si_X11_wipe ml_L_18 ob_206 (by decide) so_X11_wipe ⟨nb rfl, nb rfl⟩ (nb rfl) dL_law_168 rfl (fun r90 μ89 h => ?_)
        refine v_aloadn (q := 172) C dL_law_171 rfl rfl ?_
        refine u_cVi0 (q := 175) C (c_X12_wipe h) sy_X12_wipe si_X12_wipe ml_L_22 ob_248 (by decide) so_X12_wipe ⟨nb rfl, nb rfl⟩ (nb rfl) dL_law_172 rfl (fun r92 μ91 h => ?_)
        refine v_icmp_eq (q := 178) (tgt := 796) C dL_law_175 rfl rfl h (fun h => ?_) (fun h => ?_)
        · exact (w_L_law_796 hs hln C hR (fun _ _ h => h)  h)
        · refine v_iconst (q := 179) C dL_law_178 rfl (by decide) ?_
          exact u_zret hR dL_law_179 h
      · replace h := z_ifn h hk1
        by_cases hk2 : (xv x3) % 32 = 2
        · replace h := z_ifp h hk2
          refine v_tableIn (off := 148) (tgt := 180) C dL_law_32 ⟨by omega, by omega⟩ (by rw [hk2]; rfl) rfl ?_
          refine v_aloadn (q := 181) C dL_law_180 rfl rfl ?_
          refine v_aloadn (q := 182) C dL_law_181 rfl rfl ?_
          refine v_iloadn (q := 183) C dL_law_182 rfl rfl ?_
          refine v_iconst (q := 184) C dL_law_183 rfl (by decide) ?_
          refine u_iadd (q := 185) C dL_law_184 rfl h (fun h => ?_)
          refine u_sald (q := 186) C hs dL_law_185 rfl h (fun h => ?_)
          refine v_aloadn (q := 187) C dL_law_186 rfl rfl ?_
          refine v_iloadn (q := 188) C dL_law_187 rfl rfl ?_
          refine v_iconst (q := 189) C dL_law_188 rfl (by decide) ?_
          refine u_iadd (q := 190) C dL_law_189 rfl h (fun h => ?_)
          refine u_sald (q := 191) C hs dL_law_190 rfl h (fun h => ?_)
          refine u_cVi2 (q := 194) C (c_X11_function h) sy_X11_function si_X11_function ml_L_23 ob_206 (by decide) so_X11_function ⟨nb rfl, nb rfl⟩ (nb rfl) dL_law_191 rfl (fun r86 μ85 h => ?_)
          refine v_aloadn (q := 195) C dL_law_194 rfl rfl ?_
          refine v_aloadn (q := 196) C dL_law_195 rfl rfl ?_
          refine v_iloadn (q := 197) C dL_law_196 rfl rfl ?_
          refine v_iconst (q := 198) C dL_law_197 rfl (by decide) ?_
          refine u_iadd (q := 199) C dL_law_198 rfl h (fun h => ?_)
          refine u_sald (q := 200) C hs dL_law_199 rfl h (fun h => ?_)
          refine v_aloadn (q := 201) C dL_law_200 rfl rfl ?_
          refine v_iloadn (q := 202) C dL_law_201 rfl rfl ?_
          refine v_iconst (q := 203) C dL_law_202 rfl (by decide) ?_
          refine u_iadd (q := 204) C dL_law_203 rfl h (fun h => ?_)
          refine u_sald (q := 205) C hs dL_law_204 rfl h (fun h => ?_)
          refine u_cVi2 (q := 208) C (c_X12_function h) sy_X12_function si_X12_function ml_L_27 ob_248 (by decide) so_X12_function ⟨nb rfl, nb rfl⟩ (nb rfl) dL_law_205 rfl (fun r88 μ87 h => ?_)
          refine v_icmp_eq (q := 211) (tgt := 796) C dL_law_208 rfl rfl h (fun h => ?_) (fun h => ?_)
          · exact (w_L_law_796 hs hln C hR (fun _ _ h => h)  h)
          · refine v_iconst (q := 212) C dL_law_211 rfl (by decide) ?_
            exact u_zret hR dL_law_212 h
        · replace h := z_ifn h hk2
          by_cases hk3 : (xv x3) % 32 = 3
          · replace h := z_ifp h hk3
            refine v_tableIn (off := 181) (tgt := 213) C dL_law_32 ⟨by omega, by omega⟩ (by rw [hk3]; rfl) rfl ?_
            refine v_aloadn (q := 214) C dL_law_213 rfl rfl ?_
            refine v_aloadn (q := 215) C dL_law_214 rfl rfl ?_
            refine v_iloadn (q := 216) C dL_law_215 rfl rfl ?_
            refine v_iconst (q := 217) C dL_law_216 rfl (by decide) ?_
            refine u_iadd (q := 218) C dL_law_217 rfl h (fun h => ?_)
            refine u_sald (q := 219) C hs dL_law_218 rfl h (fun h => ?_)
            refine v_aloadn (q := 220) C dL_law_219 rfl rfl ?_
            refine v_iloadn (q := 221) C dL_law_220 rfl rfl ?_
            refine v_iconst (q := 222) C dL_law_221 rfl (by decide) ?_
            refine u_iadd (q := 223) C dL_law_222 rfl h (fun h => ?_)
            refine u_sald (q := 224) C hs dL_law_223 rfl h (fun h => ?_)
            refine u_cVi2 (q := 227) C (c_X11_ofFunction h) sy_X11_ofFunction si_X11_ofFunction ml_L_28 ob_206 (by decide) so_X11_ofFunction ⟨nb rfl, nb rfl⟩ (nb rfl) dL_law_224 rfl (fun r82 μ81 h => ?_)
            refine v_aloadn (q := 228) C dL_law_227 rfl rfl ?_
            refine v_aloadn (q := 229) C dL_law_228 rfl rfl ?_
            refine v_iloadn (q := 230) C dL_law_229 rfl rfl ?_
            refine v_iconst (q := 231) C dL_law_230 rfl (by decide) ?_
            refine u_iadd (q := 232) C dL_law_231 rfl h (fun h => ?_)
            refine u_sald (q := 233) C hs dL_law_232 rfl h (fun h => ?_)
            refine v_aloadn (q := 234) C dL_law_233 rfl rfl ?_
            refine v_iloadn (q := 235) C dL_law_234 rfl rfl ?_
            refine v_iconst (q := 236) C dL_law_235 rfl (by decide) ?_
            refine u_iadd (q := 237) C dL_law_236 rfl h (fun h => ?_)
            refine u_sald (q := 238) C hs dL_law_237 rfl h (fun h => ?_)
            refine u_cVi2 (q := 241) C (c_X12_ofFunction h) sy_X12_ofFunction si_X12_ofFunction ml_L_31 ob_248 (by decide) so_X12_ofFunction ⟨nb rfl, nb rfl⟩ (nb rfl) dL_law_238 rfl (fun r84 μ83 h => ?_)
            refine v_icmp_eq (q := 244) (tgt := 796) C dL_law_241 rfl rfl h (fun h => ?_) (fun h => ?_)
            · exact (w_L_law_796 hs hln C hR (fun _ _ h => h)  h)
            · refine v_iconst (q := 245) C dL_law_244 rfl (by decide) ?_
              exact u_zret hR dL_law_245 h
          · replace h := z_ifn h hk3
            by_cases hk4 : (xv x3) % 32 = 4
            · replace h := z_ifp h hk4
              refine v_tableIn (off := 214) (tgt := 246) C dL_law_32 ⟨by omega, by omega⟩ (by rw [hk4]; rfl) rfl ?_
              refine v_aloadn (q := 247) C dL_law_246 rfl rfl ?_
              refine v_aloadn (q := 248) C dL_law_247 rfl rfl ?_
              refine v_iloadn (q := 249) C dL_law_248 rfl rfl ?_
              refine v_iconst (q := 250) C dL_law_249 rfl (by decide) ?_
              refine u_iadd (q := 251) C dL_law_250 rfl h (fun h => ?_)
              refine u_sald (q := 252) C hs dL_law_251 rfl h (fun h => ?_)
              refine v_aloadn (q := 253) C dL_law_252 rfl rfl ?_
              refine v_iloadn (q := 254) C dL_law_253 rfl rfl ?_
              refine v_iconst (q := 255) C dL_law_254 rfl (by decide) ?_
              refine u_iadd (q := 256) C dL_law_255 rfl h (fun h => ?_)
              refine u_sald (q := 257) C hs dL_law_256 rfl h (fun h => ?_)
              refine v_aloadn (q := 258) C dL_law_257 rfl rfl ?_
              refine v_iloadn (q := 259) C dL_law_258 rfl rfl ?_
              refine v_iconst (q := 260) C dL_law_259 rfl (by decide) ?_
              refine u_iadd (q := 261) C dL_law_260 rfl h (fun h => ?_)
              refine u_sald (q := 262) C hs dL_law_261 rfl h (fun h => ?_)
              refine u_cVi3 (q := 265) C (c_X11_body h) sy_X11_body si_X11_body ml_L_32 ob_206 (by decide) so_X11_body ⟨nb rfl, nb rfl⟩ (nb rfl) dL_law_262 rfl (fun r78 μ77 h => ?_)
              refine v_aloadn (q := 266) C dL_law_265 rfl rfl ?_
              refine v_aloadn (q := 267) C dL_law_266 rfl rfl ?_
              refine v_iloadn (q := 268) C dL_law_267 rfl rfl ?_
              refine v_iconst (q := 269) C dL_law_268 rfl (by decide) ?_
              refine u_iadd (q := 270) C dL_law_269 rfl h (fun h => ?_)
              refine u_sald (q := 271) C hs dL_law_270 rfl h (fun h => ?_)
              refine v_aloadn (q := 272) C dL_law_271 rfl rfl ?_
              refine v_iloadn (q := 273) C dL_law_272 rfl rfl ?_
              refine v_iconst (q := 274) C dL_law_273 rfl (by decide) ?_
              refine u_iadd (q := 275) C dL_law_274 rfl h (fun h => ?_)
              refine u_sald (q := 276) C hs dL_law_275 rfl h (fun h => ?_)
              refine v_aloadn (q := 277) C dL_law_276 rfl rfl ?_
              refine v_iloadn (q := 278) C dL_law_277 rfl rfl ?_
              refine v_iconst (q := 279) C dL_law_278 rfl (by decide) ?_
              refine u_iadd (q := 280) C dL_law_279 rfl h (fun h => ?_)
              refine u_sald (q := 281) C hs dL_law_280 rfl h (fun h => ?_)
              refine u_cVi3 (q := 284) C (c_X12_body h) sy_X12_body si_X12_body ml_L_36 ob_248 (by decide) so_X12_body ⟨nb rfl, nb rfl⟩ (nb rfl) dL_law_281 rfl (fun r80 μ79 h => ?_)
              refine v_icmp_eq (q := 287) (tgt := 796) C dL_law_284 rfl rfl h (fun h => ?_) (fun h => ?_)
              · exact (w_L_law_796 hs hln C hR (fun _ _ h => h)  h)
              · refine v_iconst (q := 288) C dL_law_287 rfl (by decide) ?_
                exact u_zret hR dL_law_288 h
            · replace h := z_ifn h hk4
              by_cases hk5 : (xv x3) % 32 = 5
              · replace h := z_ifp h hk5
                refine v_tableIn (off := 257) (tgt := 289) C dL_law_32 ⟨by omega, by omega⟩ (by rw [hk5]; rfl) rfl ?_
                refine v_aloadn (q := 290) C dL_law_289 rfl rfl ?_
                refine u_cVi0 (q := 293) C (c_X11_claim h) sy_X11_claim si_X11_claim ml_L_37 ob_206 (by decide) so_X11_claim ⟨nb rfl, nb rfl⟩ (nb rfl) dL_law_290 rfl (fun r74 μ73 h => ?_)
                refine v_aloadn (q := 294) C dL_law_293 rfl rfl ?_
                refine u_cVi0 (q := 297) C (c_X12_claim h) sy_X12_claim si_X12_claim ml_L_40 ob_248 (by decide) so_X12_claim ⟨nb rfl, nb rfl⟩ (nb rfl) dL_law_294 rfl (fun r76 μ75 h => ?_)
                refine v_icmp_eq (q := 300) (tgt := 796) C dL_law_297 rfl rfl h (fun h => ?_) (fun h => ?_)
                · exact (w_L_law_796 hs hln C hR (fun _ _ h => h)  h)
                · refine v_iconst (q := 301) C dL_law_300 rfl (by decide) ?_
                  exact u_zret hR dL_law_301 h
              · replace h := z_ifn h hk5
                by_cases hk6 : (xv x3) % 32 = 6
                · replace h := z_ifp h hk6
                  refine v_tableIn (off := 270) (tgt := 302) C dL_law_32 ⟨by omega, by omega⟩ (by rw [hk6]; rfl) rfl ?_
                  refine v_aloadn (q := 303) C dL_law_302 rfl rfl ?_
                  refine v_aloadn (q := 304) C dL_law_303 rfl rfl ?_
                  refine v_iloadn (q := 305) C dL_law_304 rfl rfl ?_
                  refine v_iconst (q := 306) C dL_law_305 rfl (by decide) ?_
                  refine u_iadd (q := 307) C dL_law_306 rfl h (fun h => ?_)
                  refine u_sald (q := 308) C hs dL_law_307 rfl h (fun h => ?_)
                  refine v_aloadn (q := 309) C dL_law_308 rfl rfl ?_
                  refine v_iloadn (q := 310) C dL_law_309 rfl rfl ?_
                  refine v_iconst (q := 311) C dL_law_310 rfl (by decide) ?_
                  refine u_iadd (q := 312) C dL_law_311 rfl h (fun h => ?_)
                  refine u_sald (q := 313) C hs dL_law_312 rfl h (fun h => ?_)
                  refine u_cVi2 (q := 316) C (c_X11_side h) sy_X11_side si_X11_side ml_L_41 ob_206 (by decide) so_X11_side ⟨nb rfl, nb rfl⟩ (nb rfl) dL_law_313 rfl (fun r70 μ69 h => ?_)
                  refine v_aloadn (q := 317) C dL_law_316 rfl rfl ?_
                  refine v_aloadn (q := 318) C dL_law_317 rfl rfl ?_
                  refine v_iloadn (q := 319) C dL_law_318 rfl rfl ?_
                  refine v_iconst (q := 320) C dL_law_319 rfl (by decide) ?_
                  refine u_iadd (q := 321) C dL_law_320 rfl h (fun h => ?_)
                  refine u_sald (q := 322) C hs dL_law_321 rfl h (fun h => ?_)
                  refine v_aloadn (q := 323) C dL_law_322 rfl rfl ?_
                  refine v_iloadn (q := 324) C dL_law_323 rfl rfl ?_
                  refine v_iconst (q := 325) C dL_law_324 rfl (by decide) ?_
                  refine u_iadd (q := 326) C dL_law_325 rfl h (fun h => ?_)
                  refine u_sald (q := 327) C hs dL_law_326 rfl h (fun h => ?_)
                  refine u_cVi2 (q := 330) C (c_X12_side h) sy_X12_side si_X12_side ml_L_44 ob_248 (by decide) so_X12_side ⟨nb rfl, nb rfl⟩ (nb rfl) dL_law_327 rfl (fun r72 μ71 h => ?_)
                  refine v_icmp_eq (q := 333) (tgt := 796) C dL_law_330 rfl rfl h (fun h => ?_) (fun h => ?_)
                  · exact (w_L_law_796 hs hln C hR (fun _ _ h => h)  h)
                  · refine v_iconst (q := 334) C dL_law_333 rfl (by decide) ?_
                    exact u_zret hR dL_law_334 h
                · replace h := z_ifn h hk6
                  by_cases hk7 : (xv x3) % 32 = 7
                  · replace h := z_ifp h hk7
                    refine v_tableIn (off := 303) (tgt := 335) C dL_law_32 ⟨by omega, by omega⟩ (by rw [hk7]; rfl) rfl ?_
                    refine v_aloadn (q := 336) C dL_law_335 rfl rfl ?_
                    refine u_cVi0 (q := 339) C (c_X11_anew h) sy_X11_anew si_X11_anew ml_L_45 ob_206 (by decide) so_X11_anew ⟨nb rfl, nb rfl⟩ (nb rfl) dL_law_336 rfl (fun r66 μ65 h => ?_)
                    refine v_aloadn (q := 340) C dL_law_339 rfl rfl ?_
                    refine u_cVi0 (q := 343) C (c_X12_anew h) sy_X12_anew si_X12_anew ml_L_48 ob_248 (by decide) so_X12_anew ⟨nb rfl, nb rfl⟩ (nb rfl) dL_law_340 rfl (fun r68 μ67 h => ?_)
                    refine v_icmp_eq (q := 346) (tgt := 796) C dL_law_343 rfl rfl h (fun h => ?_) (fun h => ?_)
                    · exact (w_L_law_796 hs hln C hR (fun _ _ h => h)  h)
                    · refine v_iconst (q := 347) C dL_law_346 rfl (by decide) ?_
                      exact u_zret hR dL_law_347 h
                  · replace h := z_ifn h hk7
                    by_cases hk8 : (xv x3) % 32 = 8
                    · replace h := z_ifp h hk8
                      refine v_tableIn (off := 316) (tgt := 348) C dL_law_32 ⟨by omega, by omega⟩ (by rw [hk8]; rfl) rfl ?_
                      refine v_aloadn (q := 349) C dL_law_348 rfl rfl ?_
                      refine v_aloadn (q := 350) C dL_law_349 rfl rfl ?_
                      refine v_iloadn (q := 351) C dL_law_350 rfl rfl ?_
                      refine v_iconst (q := 352) C dL_law_351 rfl (by decide) ?_
                      refine u_iadd (q := 353) C dL_law_352 rfl h (fun h => ?_)
                      refine u_sald (q := 354) C hs dL_law_353 rfl h (fun h => ?_)
                      refine v_aloadn (q := 355) C dL_law_354 rfl rfl ?_
                      refine v_iloadn (q := 356) C dL_law_355 rfl rfl ?_
                      refine v_iconst (q := 357) C dL_law_356 rfl (by decide) ?_
                      refine u_iadd (q := 358) C dL_law_357 rfl h (fun h => ?_)
                      refine u_sald (q := 359) C hs dL_law_358 rfl h (fun h => ?_)
                      refine v_aloadn (q := 360) C dL_law_359 rfl rfl ?_
                      refine v_iloadn (q := 361) C dL_law_360 rfl rfl ?_
                      refine v_iconst (q := 362) C dL_law_361 rfl (by decide) ?_
                      refine u_iadd (q := 363) C dL_law_362 rfl h (fun h => ?_)
                      refine u_sald (q := 364) C hs dL_law_363 rfl h (fun h => ?_)
                      refine v_aloadn (q := 365) C dL_law_364 rfl rfl ?_
                      refine v_iloadn (q := 366) C dL_law_365 rfl rfl ?_
                      refine v_iconst (q := 367) C dL_law_366 rfl (by decide) ?_
                      refine u_iadd (q := 368) C dL_law_367 rfl h (fun h => ?_)
                      refine u_sald (q := 369) C hs dL_law_368 rfl h (fun h => ?_)
                      refine u_cVi4 (q := 372) C (c_X11_value h) sy_X11_value si_X11_value ml_L_49 ob_206 (by decide) so_X11_value ⟨nb rfl, nb rfl⟩ (nb rfl) dL_law_369 rfl (fun r62 μ61 h => ?_)
                      refine v_aloadn (q := 373) C dL_law_372 rfl rfl ?_
                      refine v_aloadn (q := 374) C dL_law_373 rfl rfl ?_
                      refine v_iloadn (q := 375) C dL_law_374 rfl rfl ?_
                      refine v_iconst (q := 376) C dL_law_375 rfl (by decide) ?_
                      refine u_iadd (q := 377) C dL_law_376 rfl h (fun h => ?_)
                      refine u_sald (q := 378) C hs dL_law_377 rfl h (fun h => ?_)
                      refine v_aloadn (q := 379) C dL_law_378 rfl rfl ?_
                      refine v_iloadn (q := 380) C dL_law_379 rfl rfl ?_
                      refine v_iconst (q := 381) C dL_law_380 rfl (by decide) ?_
                      refine u_iadd (q := 382) C dL_law_381 rfl h (fun h => ?_)
                      refine u_sald (q := 383) C hs dL_law_382 rfl h (fun h => ?_)
                      refine v_aloadn (q := 384) C dL_law_383 rfl rfl ?_
                      refine v_iloadn (q := 385) C dL_law_384 rfl rfl ?_
                      refine v_iconst (q := 386) C dL_law_385 rfl (by decide) ?_
                      refine u_iadd (q := 387) C dL_law_386 rfl h (fun h => ?_)
                      refine u_sald (q := 388) C hs dL_law_387 rfl h (fun h => ?_)
                      refine v_aloadn (q := 389) C dL_law_388 rfl rfl ?_
                      refine v_iloadn (q := 390) C dL_law_389 rfl rfl ?_
                      refine v_iconst (q := 391) C dL_law_390 rfl (by decide) ?_
                      refine u_iadd (q := 392) C dL_law_391 rfl h (fun h => ?_)
                      refine u_sald (q := 393) C hs dL_law_392 rfl h (fun h => ?_)
                      refine u_cVi4 (q := 396) C (c_X12_value h) sy_X12_value si_X12_value ml_L_53 ob_248 (by decide) so_X12_value ⟨nb rfl, nb rfl⟩ (nb rfl) dL_law_393 rfl (fun r64 μ63 h => ?_)
                      refine v_icmp_eq (q := 399) (tgt := 796) C dL_law_396 rfl rfl h (fun h => ?_) (fun h => ?_)
                      · exact (w_L_law_796 hs hln C hR (fun _ _ h => h)  h)
                      · refine v_iconst (q := 400) C dL_law_399 rfl (by decide) ?_
                        exact u_zret hR dL_law_400 h
                    · replace h := z_ifn h hk8
                      by_cases hk9 : (xv x3) % 32 = 9
                      · replace h := z_ifp h hk9
                        refine v_tableIn (off := 369) (tgt := 401) C dL_law_32 ⟨by omega, by omega⟩ (by rw [hk9]; rfl) rfl ?_
                        refine v_aloadn (q := 402) C dL_law_401 rfl rfl ?_
                        refine v_aloadn (q := 403) C dL_law_402 rfl rfl ?_
                        refine v_iloadn (q := 404) C dL_law_403 rfl rfl ?_
                        refine v_iconst (q := 405) C dL_law_404 rfl (by decide) ?_
                        refine u_iadd (q := 406) C dL_law_405 rfl h (fun h => ?_)
                        refine u_sald (q := 407) C hs dL_law_406 rfl h (fun h => ?_)
                        refine v_aloadn (q := 408) C dL_law_407 rfl rfl ?_
                        refine v_iloadn (q := 409) C dL_law_408 rfl rfl ?_
                        refine v_iconst (q := 410) C dL_law_409 rfl (by decide) ?_
                        refine u_iadd (q := 411) C dL_law_410 rfl h (fun h => ?_)
                        refine u_sald (q := 412) C hs dL_law_411 rfl h (fun h => ?_)
                        refine v_aloadn (q := 413) C dL_law_412 rfl rfl ?_
                        refine v_iloadn (q := 414) C dL_law_413 rfl rfl ?_
                        refine v_iconst (q := 415) C dL_law_414 rfl (by decide) ?_
                        refine u_iadd (q := 416) C dL_law_415 rfl h (fun h => ?_)
                        refine u_sald (q := 417) C hs dL_law_416 rfl h (fun h => ?_)
                        refine u_cVi3 (q := 420) C (c_X11_holds h) sy_X11_holds si_X11_holds ml_L_54 ob_206 (by decide) so_X11_holds ⟨nb rfl, nb rfl⟩ (nb rfl) dL_law_417 rfl (fun r58 μ57 h => ?_)
                        refine v_aloadn (q := 421) C dL_law_420 rfl rfl ?_
                        refine v_aloadn (q := 422) C dL_law_421 rfl rfl ?_
                        refine v_iloadn (q := 423) C dL_law_422 rfl rfl ?_
                        refine v_iconst (q := 424) C dL_law_423 rfl (by decide) ?_
                        refine u_iadd (q := 425) C dL_law_424 rfl h (fun h => ?_)
                        refine u_sald (q := 426) C hs dL_law_425 rfl h (fun h => ?_)
                        refine v_aloadn (q := 427) C dL_law_426 rfl rfl ?_
                        refine v_iloadn (q := 428) C dL_law_427 rfl rfl ?_
                        refine v_iconst (q := 429) C dL_law_428 rfl (by decide) ?_
                        refine u_iadd (q := 430) C dL_law_429 rfl h (fun h => ?_)
                        refine u_sald (q := 431) C hs dL_law_430 rfl h (fun h => ?_)
                        refine v_aloadn (q := 432) C dL_law_431 rfl rfl ?_
                        refine v_iloadn (q := 433) C dL_law_432 rfl rfl ?_
                        refine v_iconst (q := 434) C dL_law_433 rfl (by decide) ?_
                        refine u_iadd (q := 435) C dL_law_434 rfl h (fun h => ?_)
                        refine u_sald (q := 436) C hs dL_law_435 rfl h (fun h => ?_)
                        refine u_cVi3 (q := 439) C (c_X12_holds h) sy_X12_holds si_X12_holds ml_L_57 ob_248 (by decide) so_X12_holds ⟨nb rfl, nb rfl⟩ (nb rfl) dL_law_436 rfl (fun r60 μ59 h => ?_)
                        refine v_icmp_eq (q := 442) (tgt := 796) C dL_law_439 rfl rfl h (fun h => ?_) (fun h => ?_)
                        · exact (w_L_law_796 hs hln C hR (fun _ _ h => h)  h)
                        · refine v_iconst (q := 443) C dL_law_442 rfl (by decide) ?_
                          exact u_zret hR dL_law_443 h
                      · replace h := z_ifn h hk9
                        by_cases hk10 : (xv x3) % 32 = 10
                        · replace h := z_ifp h hk10
                          refine v_tableIn (off := 412) (tgt := 444) C dL_law_32 ⟨by omega, by omega⟩ (by rw [hk10]; rfl) rfl ?_
                          refine v_aloadn (q := 445) C dL_law_444 rfl rfl ?_
                          refine v_aloadn (q := 446) C dL_law_445 rfl rfl ?_
                          refine v_iloadn (q := 447) C dL_law_446 rfl rfl ?_
                          refine v_iconst (q := 448) C dL_law_447 rfl (by decide) ?_
                          refine u_iadd (q := 449) C dL_law_448 rfl h (fun h => ?_)
                          refine u_sald (q := 450) C hs dL_law_449 rfl h (fun h => ?_)
                          refine u_cVi1 (q := 453) C (c_X11_counter h) sy_X11_counter si_X11_counter ml_L_58 ob_206 (by decide) so_X11_counter ⟨nb rfl, nb rfl⟩ (nb rfl) dL_law_450 rfl (fun r54 μ53 h => ?_)
                          refine v_aloadn (q := 454) C dL_law_453 rfl rfl ?_
                          refine v_aloadn (q := 455) C dL_law_454 rfl rfl ?_
                          refine v_iloadn (q := 456) C dL_law_455 rfl rfl ?_
                          refine v_iconst (q := 457) C dL_law_456 rfl (by decide) ?_
                          refine u_iadd (q := 458) C dL_law_457 rfl h (fun h => ?_)
                          refine u_sald (q := 459) C hs dL_law_458 rfl h (fun h => ?_)
                          refine u_cVi1 (q := 462) C (c_X12_counter h) sy_X12_counter si_X12_counter ml_L_61 ob_248 (by decide) so_X12_counter ⟨nb rfl, nb rfl⟩ (nb rfl) dL_law_459 rfl (fun r56 μ55 h => ?_)
                          refine v_icmp_eq (q := 465) (tgt := 796) C dL_law_462 rfl rfl h (fun h => ?_) (fun h => ?_)
                          · exact (w_L_law_796 hs hln C hR (fun _ _ h => h)  h)
                          · refine v_iconst (q := 466) C dL_law_465 rfl (by decide) ?_
                            exact u_zret hR dL_law_466 h
                        · replace h := z_ifn h hk10
                          by_cases hk11 : (xv x3) % 32 = 11
                          · replace h := z_ifp h hk11
                            refine v_tableIn (off := 435) (tgt := 467) C dL_law_32 ⟨by omega, by omega⟩ (by rw [hk11]; rfl) rfl ?_
                            refine v_aloadn (q := 468) C dL_law_467 rfl rfl ?_
                            refine v_aloadn (q := 469) C dL_law_468 rfl rfl ?_
                            refine v_iloadn (q := 470) C dL_law_469 rfl rfl ?_
                            refine v_iconst (q := 471) C dL_law_470 rfl (by decide) ?_
                            refine u_iadd (q := 472) C dL_law_471 rfl h (fun h => ?_)
                            refine u_sald (q := 473) C hs dL_law_472 rfl h (fun h => ?_)
                            refine v_aloadn (q := 474) C dL_law_473 rfl rfl ?_
                            refine v_iloadn (q := 475) C dL_law_474 rfl rfl ?_
                            refine v_iconst (q := 476) C dL_law_475 rfl (by decide) ?_
                            refine u_iadd (q := 477) C dL_law_476 rfl h (fun h => ?_)
                            refine u_sald (q := 478) C hs dL_law_477 rfl h (fun h => ?_)
                            refine u_cVi2 (q := 481) C (c_X11_normal h) sy_X11_normal si_X11_normal ml_L_62 ob_206 (by decide) so_X11_normal ⟨nb rfl, nb rfl⟩ (nb rfl) dL_law_478 rfl (fun r50 μ49 h => ?_)
                            refine v_aloadn (q := 482) C dL_law_481 rfl rfl ?_
                            refine v_aloadn (q := 483) C dL_law_482 rfl rfl ?_
                            refine v_iloadn (q := 484) C dL_law_483 rfl rfl ?_
                            refine v_iconst (q := 485) C dL_law_484 rfl (by decide) ?_
                            refine u_iadd (q := 486) C dL_law_485 rfl h (fun h => ?_)
                            refine u_sald (q := 487) C hs dL_law_486 rfl h (fun h => ?_)
                            refine v_aloadn (q := 488) C dL_law_487 rfl rfl ?_
                            refine v_iloadn (q := 489) C dL_law_488 rfl rfl ?_
                            refine v_iconst (q := 490) C dL_law_489 rfl (by decide) ?_
                            refine u_iadd (q := 491) C dL_law_490 rfl h (fun h => ?_)
                            refine u_sald (q := 492) C hs dL_law_491 rfl h (fun h => ?_)
                            refine u_cVi2 (q := 495) C (c_X12_normal h) sy_X12_normal si_X12_normal ml_L_65 ob_248 (by decide) so_X12_normal ⟨nb rfl, nb rfl⟩ (nb rfl) dL_law_492 rfl (fun r52 μ51 h => ?_)
                            refine v_icmp_eq (q := 498) (tgt := 796) C dL_law_495 rfl rfl h (fun h => ?_) (fun h => ?_)
                            · exact (w_L_law_796 hs hln C hR (fun _ _ h => h)  h)
                            · refine v_iconst (q := 499) C dL_law_498 rfl (by decide) ?_
                              exact u_zret hR dL_law_499 h
                          · replace h := z_ifn h hk11
                            by_cases hk12 : (xv x3) % 32 = 12
                            · replace h := z_ifp h hk12
                              refine v_tableIn (off := 468) (tgt := 500) C dL_law_32 ⟨by omega, by omega⟩ (by rw [hk12]; rfl) rfl ?_
                              refine v_aloadn (q := 501) C dL_law_500 rfl rfl ?_
                              refine v_aloadn (q := 502) C dL_law_501 rfl rfl ?_
                              refine v_iloadn (q := 503) C dL_law_502 rfl rfl ?_
                              refine v_iconst (q := 504) C dL_law_503 rfl (by decide) ?_
                              refine u_iadd (q := 505) C dL_law_504 rfl h (fun h => ?_)
                              refine u_sald (q := 506) C hs dL_law_505 rfl h (fun h => ?_)
                              refine u_cVi1 (q := 509) C (c_X11_scheme h) sy_X11_scheme si_X11_scheme ml_L_66 ob_206 (by decide) so_X11_scheme ⟨nb rfl, nb rfl⟩ (nb rfl) dL_law_506 rfl (fun r46 μ45 h => ?_)
                              refine v_aloadn (q := 510) C dL_law_509 rfl rfl ?_
                              refine v_aloadn (q := 511) C dL_law_510 rfl rfl ?_
                              refine v_iloadn (q := 512) C dL_law_511 rfl rfl ?_
                              refine v_iconst (q := 513) C dL_law_512 rfl (by decide) ?_
                              refine u_iadd (q := 514) C dL_law_513 rfl h (fun h => ?_)
                              refine u_sald (q := 515) C hs dL_law_514 rfl h (fun h => ?_)
                              refine u_cVi1 (q := 518) C (c_X12_scheme h) sy_X12_scheme si_X12_scheme ml_L_69 ob_248 (by decide) so_X12_scheme ⟨nb rfl, nb rfl⟩ (nb rfl) dL_law_515 rfl (fun r48 μ47 h => ?_)
                              refine v_icmp_eq (q := 521) (tgt := 796) C dL_law_518 rfl rfl h (fun h => ?_) (fun h => ?_)
                              · exact (w_L_law_796 hs hln C hR (fun _ _ h => h)  h)
                              · refine v_iconst (q := 522) C dL_law_521 rfl (by decide) ?_
                                exact u_zret hR dL_law_522 h
                            · replace h := z_ifn h hk12
                              by_cases hk13 : (xv x3) % 32 = 13
                              · replace h := z_ifp h hk13
                                refine v_tableIn (off := 491) (tgt := 523) C dL_law_32 ⟨by omega, by omega⟩ (by rw [hk13]; rfl) rfl ?_
                                refine v_aloadn (q := 524) C dL_law_523 rfl rfl ?_
                                refine u_cVi0 (q := 527) C (c_X11_difference h) sy_X11_difference si_X11_difference ml_L_70 ob_206 (by decide) so_X11_difference ⟨nb rfl, nb rfl⟩ (nb rfl) dL_law_524 rfl (fun r42 μ41 h => ?_)
                                refine v_aloadn (q := 528) C dL_law_527 rfl rfl ?_
                                refine u_cVi0 (q := 531) C (c_X12_difference h) sy_X12_difference si_X12_difference ml_L_73 ob_248 (by decide) so_X12_difference ⟨nb rfl, nb rfl⟩ (nb rfl) dL_law_528 rfl (fun r44 μ43 h => ?_)
                                refine v_icmp_eq (q := 534) (tgt := 796) C dL_law_531 rfl rfl h (fun h => ?_) (fun h => ?_)
                                · exact (w_L_law_796 hs hln C hR (fun _ _ h => h)  h)
                                · refine v_iconst (q := 535) C dL_law_534 rfl (by decide) ?_
                                  exact u_zret hR dL_law_535 h
                              · replace h := z_ifn h hk13
                                by_cases hk14 : (xv x3) % 32 = 14
                                · replace h := z_ifp h hk14
                                  refine v_tableIn (off := 504) (tgt := 536) C dL_law_32 ⟨by omega, by omega⟩ (by rw [hk14]; rfl) rfl ?_
                                  refine v_aloadn (q := 537) C dL_law_536 rfl rfl ?_
                                  refine v_aloadn (q := 538) C dL_law_537 rfl rfl ?_
                                  refine v_iloadn (q := 539) C dL_law_538 rfl rfl ?_
                                  refine v_iconst (q := 540) C dL_law_539 rfl (by decide) ?_
                                  refine u_iadd (q := 541) C dL_law_540 rfl h (fun h => ?_)
                                  refine u_sald (q := 542) C hs dL_law_541 rfl h (fun h => ?_)
                                  refine u_cVi1 (q := 545) C (c_X11_steered h) sy_X11_steered si_X11_steered ml_L_74 ob_206 (by decide) so_X11_steered ⟨nb rfl, nb rfl⟩ (nb rfl) dL_law_542 rfl (fun r38 μ37 h => ?_)
                                  refine v_aloadn (q := 546) C dL_law_545 rfl rfl ?_
                                  refine v_aloadn (q := 547) C dL_law_546 rfl rfl ?_
                                  refine v_iloadn (q := 548) C dL_law_547 rfl rfl ?_
                                  refine v_iconst (q := 549) C dL_law_548 rfl (by decide) ?_
                                  refine u_iadd (q := 550) C dL_law_549 rfl h (fun h => ?_)
                                  refine u_sald (q := 551) C hs dL_law_550 rfl h (fun h => ?_)
                                  refine u_cVi1 (q := 554) C (c_X12_steered h) sy_X12_steered si_X12_steered ml_L_77 ob_248 (by decide) so_X12_steered ⟨nb rfl, nb rfl⟩ (nb rfl) dL_law_551 rfl (fun r40 μ39 h => ?_)
                                  refine v_icmp_eq (q := 557) (tgt := 796) C dL_law_554 rfl rfl h (fun h => ?_) (fun h => ?_)
                                  · exact (w_L_law_796 hs hln C hR (fun _ _ h => h)  h)
                                  · refine v_iconst (q := 558) C dL_law_557 rfl (by decide) ?_
                                    exact u_zret hR dL_law_558 h
                                · replace h := z_ifn h hk14
                                  by_cases hk15 : (xv x3) % 32 = 15
                                  · replace h := z_ifp h hk15
                                    refine v_tableIn (off := 527) (tgt := 559) C dL_law_32 ⟨by omega, by omega⟩ (by rw [hk15]; rfl) rfl ?_
                                    refine v_aloadn (q := 560) C dL_law_559 rfl rfl ?_
                                    refine v_aloadn (q := 561) C dL_law_560 rfl rfl ?_
                                    refine v_iloadn (q := 562) C dL_law_561 rfl rfl ?_
                                    refine v_iconst (q := 563) C dL_law_562 rfl (by decide) ?_
                                    refine u_iadd (q := 564) C dL_law_563 rfl h (fun h => ?_)
                                    refine u_sald (q := 565) C hs dL_law_564 rfl h (fun h => ?_)
                                    refine u_cVi1 (q := 568) C (c_X11_common h) sy_X11_common si_X11_common ml_L_78 ob_206 (by decide) so_X11_common ⟨nb rfl, nb rfl⟩ (nb rfl) dL_law_565 rfl (fun r34 μ33 h => ?_)
                                    refine v_aloadn (q := 569) C dL_law_568 rfl rfl ?_
                                    refine v_aloadn (q := 570) C dL_law_569 rfl rfl ?_
                                    refine v_iloadn (q := 571) C dL_law_570 rfl rfl ?_
                                    refine v_iconst (q := 572) C dL_law_571 rfl (by decide) ?_
                                    refine u_iadd (q := 573) C dL_law_572 rfl h (fun h => ?_)
                                    refine u_sald (q := 574) C hs dL_law_573 rfl h (fun h => ?_)
                                    refine u_cVi1 (q := 577) C (c_X12_common h) sy_X12_common si_X12_common ml_L_81 ob_248 (by decide) so_X12_common ⟨nb rfl, nb rfl⟩ (nb rfl) dL_law_574 rfl (fun r36 μ35 h => ?_)
                                    refine v_icmp_eq (q := 580) (tgt := 796) C dL_law_577 rfl rfl h (fun h => ?_) (fun h => ?_)
                                    · exact (w_L_law_796 hs hln C hR (fun _ _ h => h)  h)
                                    · refine v_iconst (q := 581) C dL_law_580 rfl (by decide) ?_
                                      exact u_zret hR dL_law_581 h
                                  · replace h := z_ifn h hk15
                                    by_cases hk16 : (xv x3) % 32 = 16
                                    · replace h := z_ifp h hk16
                                      refine v_tableIn (off := 550) (tgt := 582) C dL_law_32 ⟨by omega, by omega⟩ (by rw [hk16]; rfl) rfl ?_
                                      refine v_aloadn (q := 583) C dL_law_582 rfl rfl ?_
                                      refine v_aloadn (q := 584) C dL_law_583 rfl rfl ?_
                                      refine v_iloadn (q := 585) C dL_law_584 rfl rfl ?_
                                      refine v_iconst (q := 586) C dL_law_585 rfl (by decide) ?_
                                      refine u_iadd (q := 587) C dL_law_586 rfl h (fun h => ?_)
                                      refine u_sald (q := 588) C hs dL_law_587 rfl h (fun h => ?_)
                                      refine v_aloadn (q := 589) C dL_law_588 rfl rfl ?_
                                      refine v_iloadn (q := 590) C dL_law_589 rfl rfl ?_
                                      refine v_iconst (q := 591) C dL_law_590 rfl (by decide) ?_
                                      refine u_iadd (q := 592) C dL_law_591 rfl h (fun h => ?_)
                                      refine u_sald (q := 593) C hs dL_law_592 rfl h (fun h => ?_)
                                      refine u_cVi2 (q := 596) C (c_X11_general h) sy_X11_general si_X11_general ml_L_82 ob_206 (by decide) so_X11_general ⟨nb rfl, nb rfl⟩ (nb rfl) dL_law_593 rfl (fun r30 μ29 h => ?_)
                                      refine v_aloadn (q := 597) C dL_law_596 rfl rfl ?_
                                      refine v_aloadn (q := 598) C dL_law_597 rfl rfl ?_
                                      refine v_iloadn (q := 599) C dL_law_598 rfl rfl ?_
                                      refine v_iconst (q := 600) C dL_law_599 rfl (by decide) ?_
                                      refine u_iadd (q := 601) C dL_law_600 rfl h (fun h => ?_)
                                      refine u_sald (q := 602) C hs dL_law_601 rfl h (fun h => ?_)
                                      refine v_aloadn (q := 603) C dL_law_602 rfl rfl ?_
                                      refine v_iloadn (q := 604) C dL_law_603 rfl rfl ?_
                                      refine v_iconst (q := 605) C dL_law_604 rfl (by decide) ?_
                                      refine u_iadd (q := 606) C dL_law_605 rfl h (fun h => ?_)
                                      refine u_sald (q := 607) C hs dL_law_606 rfl h (fun h => ?_)
                                      refine u_cVi2 (q := 610) C (c_X12_general h) sy_X12_general si_X12_general ml_L_85 ob_248 (by decide) so_X12_general ⟨nb rfl, nb rfl⟩ (nb rfl) dL_law_607 rfl (fun r32 μ31 h => ?_)
                                      refine v_icmp_eq (q := 613) (tgt := 796) C dL_law_610 rfl rfl h (fun h => ?_) (fun h => ?_)
                                      · exact (w_L_law_796 hs hln C hR (fun _ _ h => h)  h)
                                      · refine v_iconst (q := 614) C dL_law_613 rfl (by decide) ?_
                                        exact u_zret hR dL_law_614 h
                                    · replace h := z_ifn h hk16
                                      by_cases hk17 : (xv x3) % 32 = 17
                                      · replace h := z_ifp h hk17
                                        refine v_tableIn (off := 583) (tgt := 615) C dL_law_32 ⟨by omega, by omega⟩ (by rw [hk17]; rfl) rfl ?_
                                        refine v_aloadn (q := 616) C dL_law_615 rfl rfl ?_
                                        refine u_cVi0 (q := 619) C (c_X11_prove h) sy_X11_prove si_X11_prove ml_L_86 ob_206 (by decide) so_X11_prove ⟨nb rfl, nb rfl⟩ (nb rfl) dL_law_616 rfl (fun r26 μ25 h => ?_)
                                        refine v_aloadn (q := 620) C dL_law_619 rfl rfl ?_
                                        refine u_cVi0 (q := 623) C (c_X12_prove h) sy_X12_prove si_X12_prove ml_L_89 ob_248 (by decide) so_X12_prove ⟨nb rfl, nb rfl⟩ (nb rfl) dL_law_620 rfl (fun r28 μ27 h => ?_)
                                        refine v_icmp_eq (q := 626) (tgt := 796) C dL_law_623 rfl rfl h (fun h => ?_) (fun h => ?_)
                                        · exact (w_L_law_796 hs hln C hR (fun _ _ h => h)  h)
                                        · refine v_iconst (q := 627) C dL_law_626 rfl (by decide) ?_
                                          exact u_zret hR dL_law_627 h
                                      · replace h := z_ifn h hk17
                                        by_cases hk18 : (xv x3) % 32 = 18
                                        · replace h := z_ifp h hk18
                                          refine v_tableIn (off := 596) (tgt := 628) C dL_law_32 ⟨by omega, by omega⟩ (by rw [hk18]; rfl) rfl ?_
                                          refine v_aloadn (q := 629) C dL_law_628 rfl rfl ?_
                                          refine v_aloadn (q := 630) C dL_law_629 rfl rfl ?_
                                          refine v_iloadn (q := 631) C dL_law_630 rfl rfl ?_
                                          refine v_iconst (q := 632) C dL_law_631 rfl (by decide) ?_
                                          refine u_iadd (q := 633) C dL_law_632 rfl h (fun h => ?_)
                                          refine u_sald (q := 634) C hs dL_law_633 rfl h (fun h => ?_)
                                          refine u_cVi1 (q := 637) C (c_X11_why h) sy_X11_why si_X11_why ml_L_90 ob_206 (by decide) so_X11_why ⟨nb rfl, nb rfl⟩ (nb rfl) dL_law_634 rfl (fun r22 μ21 h => ?_)
                                          refine v_aloadn (q := 638) C dL_law_637 rfl rfl ?_
                                          refine v_aloadn (q := 639) C dL_law_638 rfl rfl ?_
                                          refine v_iloadn (q := 640) C dL_law_639 rfl rfl ?_
                                          refine v_iconst (q := 641) C dL_law_640 rfl (by decide) ?_
                                          refine u_iadd (q := 642) C dL_law_641 rfl h (fun h => ?_)
                                          refine u_sald (q := 643) C hs dL_law_642 rfl h (fun h => ?_)
                                          refine u_cVi1 (q := 646) C (c_X12_why h) sy_X12_why si_X12_why ml_L_93 ob_248 (by decide) so_X12_why ⟨nb rfl, nb rfl⟩ (nb rfl) dL_law_643 rfl (fun r24 μ23 h => ?_)
                                          refine v_icmp_eq (q := 649) (tgt := 796) C dL_law_646 rfl rfl h (fun h => ?_) (fun h => ?_)
                                          · exact (w_L_law_796 hs hln C hR (fun _ _ h => h)  h)
                                          · refine v_iconst (q := 650) C dL_law_649 rfl (by decide) ?_
                                            exact u_zret hR dL_law_650 h
                                        · replace h := z_ifn h hk18
                                          by_cases hk19 : (xv x3) % 32 = 19
                                          · replace h := z_ifp h hk19
                                            refine v_tableIn (off := 619) (tgt := 651) C dL_law_32 ⟨by omega, by omega⟩ (by rw [hk19]; rfl) rfl ?_
                                            refine v_aloadn (q := 652) C dL_law_651 rfl rfl ?_
                                            refine v_aloadn (q := 653) C dL_law_652 rfl rfl ?_
                                            refine v_iloadn (q := 654) C dL_law_653 rfl rfl ?_
                                            refine v_iconst (q := 655) C dL_law_654 rfl (by decide) ?_
                                            refine u_iadd (q := 656) C dL_law_655 rfl h (fun h => ?_)
                                            refine u_sald (q := 657) C hs dL_law_656 rfl h (fun h => ?_)
                                            refine v_aloadn (q := 658) C dL_law_657 rfl rfl ?_
                                            refine v_iloadn (q := 659) C dL_law_658 rfl rfl ?_
                                            refine v_iconst (q := 660) C dL_law_659 rfl (by decide) ?_
                                            refine u_iadd (q := 661) C dL_law_660 rfl h (fun h => ?_)
                                            refine u_sald (q := 662) C hs dL_law_661 rfl h (fun h => ?_)
                                            refine u_cVi2 (q := 665) C (c_X11_script h) sy_X11_script si_X11_script ml_L_94 ob_206 (by decide) so_X11_script ⟨nb rfl, nb rfl⟩ (nb rfl) dL_law_662 rfl (fun r18 μ17 h => ?_)
                                            refine v_aloadn (q := 666) C dL_law_665 rfl rfl ?_
                                            refine v_aloadn (q := 667) C dL_law_666 rfl rfl ?_
                                            refine v_iloadn (q := 668) C dL_law_667 rfl rfl ?_
                                            refine v_iconst (q := 669) C dL_law_668 rfl (by decide) ?_
                                            refine u_iadd (q := 670) C dL_law_669 rfl h (fun h => ?_)
                                            refine u_sald (q := 671) C hs dL_law_670 rfl h (fun h => ?_)
                                            refine v_aloadn (q := 672) C dL_law_671 rfl rfl ?_
                                            refine v_iloadn (q := 673) C dL_law_672 rfl rfl ?_
                                            refine v_iconst (q := 674) C dL_law_673 rfl (by decide) ?_
                                            refine u_iadd (q := 675) C dL_law_674 rfl h (fun h => ?_)
                                            refine u_sald (q := 676) C hs dL_law_675 rfl h (fun h => ?_)
                                            refine u_cVi2 (q := 679) C (c_X12_script h) sy_X12_script si_X12_script ml_L_97 ob_248 (by decide) so_X12_script ⟨nb rfl, nb rfl⟩ (nb rfl) dL_law_676 rfl (fun r20 μ19 h => ?_)
                                            refine v_icmp_eq (q := 682) (tgt := 796) C dL_law_679 rfl rfl h (fun h => ?_) (fun h => ?_)
                                            · exact (w_L_law_796 hs hln C hR (fun _ _ h => h)  h)
                                            · refine v_iconst (q := 683) C dL_law_682 rfl (by decide) ?_
                                              exact u_zret hR dL_law_683 h
                                          · replace h := z_ifn h hk19
                                            by_cases hk20 : (xv x3) % 32 = 20
                                            · replace h := z_ifp h hk20
                                              refine v_tableIn (off := 652) (tgt := 684) C dL_law_32 ⟨by omega, by omega⟩ (by rw [hk20]; rfl) rfl ?_
                                              refine v_aloadn (q := 685) C dL_law_684 rfl rfl ?_
                                              refine v_aloadn (q := 686) C dL_law_685 rfl rfl ?_
                                              refine v_iloadn (q := 687) C dL_law_686 rfl rfl ?_
                                              refine v_iconst (q := 688) C dL_law_687 rfl (by decide) ?_
                                              refine u_iadd (q := 689) C dL_law_688 rfl h (fun h => ?_)
                                              refine u_sald (q := 690) C hs dL_law_689 rfl h (fun h => ?_)
                                              refine v_aloadn (q := 691) C dL_law_690 rfl rfl ?_
                                              refine v_iloadn (q := 692) C dL_law_691 rfl rfl ?_
                                              refine v_iconst (q := 693) C dL_law_692 rfl (by decide) ?_
                                              refine u_iadd (q := 694) C dL_law_693 rfl h (fun h => ?_)
                                              refine u_sald (q := 695) C hs dL_law_694 rfl h (fun h => ?_)
                                              refine v_aloadn (q := 696) C dL_law_695 rfl rfl ?_
                                              refine v_iloadn (q := 697) C dL_law_696 rfl rfl ?_
                                              refine v_iconst (q := 698) C dL_law_697 rfl (by decide) ?_
                                              refine u_iadd (q := 699) C dL_law_698 rfl h (fun h => ?_)
                                              refine u_sald (q := 700) C hs dL_law_699 rfl h (fun h => ?_)
                                              refine u_cVi3 (q := 703) C (c_X11_lemma h) sy_X11_lemma si_X11_lemma ml_L_98 ob_206 (by decide) so_X11_lemma ⟨nb rfl, nb rfl⟩ (nb rfl) dL_law_700 rfl (fun r14 μ13 h => ?_)
                                              refine v_aloadn (q := 704) C dL_law_703 rfl rfl ?_
                                              refine v_aloadn (q := 705) C dL_law_704 rfl rfl ?_
                                              refine v_iloadn (q := 706) C dL_law_705 rfl rfl ?_
                                              refine v_iconst (q := 707) C dL_law_706 rfl (by decide) ?_
                                              refine u_iadd (q := 708) C dL_law_707 rfl h (fun h => ?_)
                                              refine u_sald (q := 709) C hs dL_law_708 rfl h (fun h => ?_)
                                              refine v_aloadn (q := 710) C dL_law_709 rfl rfl ?_
                                              refine v_iloadn (q := 711) C dL_law_710 rfl rfl ?_
                                              refine v_iconst (q := 712) C dL_law_711 rfl (by decide) ?_
                                              refine u_iadd (q := 713) C dL_law_712 rfl h (fun h => ?_)
                                              refine u_sald (q := 714) C hs dL_law_713 rfl h (fun h => ?_)
                                              refine v_aloadn (q := 715) C dL_law_714 rfl rfl ?_
                                              refine v_iloadn (q := 716) C dL_law_715 rfl rfl ?_
                                              refine v_iconst (q := 717) C dL_law_716 rfl (by decide) ?_
                                              refine u_iadd (q := 718) C dL_law_717 rfl h (fun h => ?_)
                                              refine u_sald (q := 719) C hs dL_law_718 rfl h (fun h => ?_)
                                              refine u_cVi3 (q := 722) C (c_X12_lemma h) sy_X12_lemma si_X12_lemma ml_L_101 ob_248 (by decide) so_X12_lemma ⟨nb rfl, nb rfl⟩ (nb rfl) dL_law_719 rfl (fun r16 μ15 h => ?_)
                                              refine v_icmp_eq (q := 725) (tgt := 796) C dL_law_722 rfl rfl h (fun h => ?_) (fun h => ?_)
                                              · exact (w_L_law_796 hs hln C hR (fun _ _ h => h)  h)
                                              · refine v_iconst (q := 726) C dL_law_725 rfl (by decide) ?_
                                                exact u_zret hR dL_law_726 h
                                            · replace h := z_ifn h hk20
                                              by_cases hk21 : (xv x3) % 32 = 21
                                              · replace h := z_ifp h hk21
                                                refine v_tableIn (off := 695) (tgt := 727) C dL_law_32 ⟨by omega, by omega⟩ (by rw [hk21]; rfl) rfl ?_
                                                refine v_aloadn (q := 728) C dL_law_727 rfl rfl ?_
                                                refine v_aloadn (q := 729) C dL_law_728 rfl rfl ?_
                                                refine v_iloadn (q := 730) C dL_law_729 rfl rfl ?_
                                                refine v_iconst (q := 731) C dL_law_730 rfl (by decide) ?_
                                                refine u_iadd (q := 732) C dL_law_731 rfl h (fun h => ?_)
                                                refine u_sald (q := 733) C hs dL_law_732 rfl h (fun h => ?_)
                                                refine v_aloadn (q := 734) C dL_law_733 rfl rfl ?_
                                                refine v_iloadn (q := 735) C dL_law_734 rfl rfl ?_
                                                refine v_iconst (q := 736) C dL_law_735 rfl (by decide) ?_
                                                refine u_iadd (q := 737) C dL_law_736 rfl h (fun h => ?_)
                                                refine u_sald (q := 738) C hs dL_law_737 rfl h (fun h => ?_)
                                                refine u_cVi2 (q := 741) C (c_X11_tested h) sy_X11_tested si_X11_tested ml_L_102 ob_206 (by decide) so_X11_tested ⟨nb rfl, nb rfl⟩ (nb rfl) dL_law_738 rfl (fun r10 μ9 h => ?_)
                                                refine v_aloadn (q := 742) C dL_law_741 rfl rfl ?_
                                                refine v_aloadn (q := 743) C dL_law_742 rfl rfl ?_
                                                refine v_iloadn (q := 744) C dL_law_743 rfl rfl ?_
                                                refine v_iconst (q := 745) C dL_law_744 rfl (by decide) ?_
                                                refine u_iadd (q := 746) C dL_law_745 rfl h (fun h => ?_)
                                                refine u_sald (q := 747) C hs dL_law_746 rfl h (fun h => ?_)
                                                refine v_aloadn (q := 748) C dL_law_747 rfl rfl ?_
                                                refine v_iloadn (q := 749) C dL_law_748 rfl rfl ?_
                                                refine v_iconst (q := 750) C dL_law_749 rfl (by decide) ?_
                                                refine u_iadd (q := 751) C dL_law_750 rfl h (fun h => ?_)
                                                refine u_sald (q := 752) C hs dL_law_751 rfl h (fun h => ?_)
                                                refine u_cVi2 (q := 755) C (c_X12_tested h) sy_X12_tested si_X12_tested ml_L_105 ob_248 (by decide) so_X12_tested ⟨nb rfl, nb rfl⟩ (nb rfl) dL_law_752 rfl (fun r12 μ11 h => ?_)
                                                refine v_icmp_eq (q := 758) (tgt := 796) C dL_law_755 rfl rfl h (fun h => ?_) (fun h => ?_)
                                                · exact (w_L_law_796 hs hln C hR (fun _ _ h => h)  h)
                                                · refine v_iconst (q := 759) C dL_law_758 rfl (by decide) ?_
                                                  exact u_zret hR dL_law_759 h
                                              · replace h := z_ifn h hk21
                                                by_cases hk22 : (xv x3) % 32 = 22
                                                · replace h := z_ifp h hk22
                                                  refine v_tableIn (off := 728) (tgt := 760) C dL_law_32 ⟨by omega, by omega⟩ (by rw [hk22]; rfl) rfl ?_
                                                  refine v_aloadn (q := 761) C dL_law_760 rfl rfl ?_
                                                  refine u_cVi0 (q := 764) C (c_X11_back h) sy_X11_back si_X11_back ml_L_106 ob_206 (by decide) so_X11_back ⟨nb rfl, nb rfl⟩ (nb rfl) dL_law_761 rfl (fun r6 μ5 h => ?_)
                                                  refine v_aloadn (q := 765) C dL_law_764 rfl rfl ?_
                                                  refine u_cVi0 (q := 768) C (c_X12_back h) sy_X12_back si_X12_back ml_L_109 ob_248 (by decide) so_X12_back ⟨nb rfl, nb rfl⟩ (nb rfl) dL_law_765 rfl (fun r8 μ7 h => ?_)
                                                  refine v_icmp_eq (q := 771) (tgt := 796) C dL_law_768 rfl rfl h (fun h => ?_) (fun h => ?_)
                                                  · exact (w_L_law_796 hs hln C hR (fun _ _ h => h)  h)
                                                  · refine v_iconst (q := 772) C dL_law_771 rfl (by decide) ?_
                                                    exact u_zret hR dL_law_772 h
                                                · replace h := z_ifn h hk22
                                                  by_cases hk23 : (xv x3) % 32 = 23
                                                  · replace h := z_ifp h hk23
                                                    refine v_tableIn (off := 741) (tgt := 773) C dL_law_32 ⟨by omega, by omega⟩ (by rw [hk23]; rfl) rfl ?_
                                                    refine v_aloadn (q := 774) C dL_law_773 rfl rfl ?_
                                                    refine v_aloadn (q := 775) C dL_law_774 rfl rfl ?_
                                                    refine v_iloadn (q := 776) C dL_law_775 rfl rfl ?_
                                                    refine v_iconst (q := 777) C dL_law_776 rfl (by decide) ?_
                                                    refine u_iadd (q := 778) C dL_law_777 rfl h (fun h => ?_)
                                                    refine u_sald (q := 779) C hs dL_law_778 rfl h (fun h => ?_)
                                                    refine u_cVi1 (q := 782) C (c_X11_many h) sy_X11_many si_X11_many ml_L_110 ob_206 (by decide) so_X11_many ⟨nb rfl, nb rfl⟩ (nb rfl) dL_law_779 rfl (fun r2 μ1 h => ?_)
                                                    refine v_aloadn (q := 783) C dL_law_782 rfl rfl ?_
                                                    refine v_aloadn (q := 784) C dL_law_783 rfl rfl ?_
                                                    refine v_iloadn (q := 785) C dL_law_784 rfl rfl ?_
                                                    refine v_iconst (q := 786) C dL_law_785 rfl (by decide) ?_
                                                    refine u_iadd (q := 787) C dL_law_786 rfl h (fun h => ?_)
                                                    refine u_sald (q := 788) C hs dL_law_787 rfl h (fun h => ?_)
                                                    refine u_cVi1 (q := 791) C (c_X12_many h) sy_X12_many si_X12_many ml_L_113 ob_248 (by decide) so_X12_many ⟨nb rfl, nb rfl⟩ (nb rfl) dL_law_788 rfl (fun r4 μ3 h => ?_)
                                                    refine v_icmp_eq (q := 794) (tgt := 796) C dL_law_791 rfl rfl h (fun h => ?_) (fun h => ?_)
                                                    · exact (w_L_law_796 hs hln C hR (fun _ _ h => h)  h)
                                                    · refine v_iconst (q := 795) C dL_law_794 rfl (by decide) ?_
                                                      exact u_zret hR dL_law_795 h
                                                  · replace h := z_ifn h hk23
                                                    refine v_tableOut (tgt := 796) C dL_law_32 (by omega) rfl ?_
                                                    exact (w_L_law_796 hs hln C hR (fun _ _ h => h)  h)
