theorem cl_10 {dep d1 d2 d3 d4 : Int} (h1 : 0 ≤ d1 ∧ d1 ≤ 100000 ∧ (d1 < 100000 → d1 ≤ 1560)) (hd : 0 ≤ dep ∧ dep ≤ 39) : min (cl6 d1 + dep) 1000000 = cl6 (dstep 1 0 dep d1 d2 d3 d4) := by
  unfold cl6 dstep
  repeat' split
  all_goals omega
theorem cl_11 {dep d1 d2 d3 d4 : Int} (h1 : 0 ≤ d1 ∧ d1 ≤ 100000 ∧ (d1 < 100000 → d1 ≤ 1560)) (h3 : 0 ≤ d3 ∧ d3 ≤ 100000 ∧ (d3 < 100000 → d3 ≤ 1560)) (hd : 0 ≤ dep ∧ dep ≤ 39) : min (min (cl6 d1 + dep) (cl6 d3)) 1000000 = cl6 (dstep 1 1 dep d1 d2 d3 d4) := by
  unfold cl6 dstep
  repeat' split
  all_goals omega
theorem cl_20 {dep d1 d2 d3 d4 : Int} (h1 : 0 ≤ d1 ∧ d1 ≤ 100000 ∧ (d1 < 100000 → d1 ≤ 1560)) (h2 : 0 ≤ d2 ∧ d2 ≤ 100000 ∧ (d2 < 100000 → d2 ≤ 1560)) (hd : 0 ≤ dep ∧ dep ≤ 39) : min (min (cl6 d1) (cl6 d2) + dep) 1000000 = cl6 (dstep 2 0 dep d1 d2 d3 d4) := by
  unfold cl6 dstep
  repeat' split
  all_goals omega
theorem cl_21 {dep d1 d2 d3 d4 : Int} (h1 : 0 ≤ d1 ∧ d1 ≤ 100000 ∧ (d1 < 100000 → d1 ≤ 1560)) (h2 : 0 ≤ d2 ∧ d2 ≤ 100000 ∧ (d2 < 100000 → d2 ≤ 1560)) (h3 : 0 ≤ d3 ∧ d3 ≤ 100000 ∧ (d3 < 100000 → d3 ≤ 1560)) (h4 : 0 ≤ d4 ∧ d4 ≤ 100000 ∧ (d4 < 100000 → d4 ≤ 1560)) (hd : 0 ≤ dep ∧ dep ≤ 39) : min (min (min (cl6 d1) (cl6 d2) + dep) (cl6 d3 + cl6 d4)) 1000000 = cl6 (dstep 2 1 dep d1 d2 d3 d4) := by
  unfold cl6 dstep
  repeat' split
  all_goals omega
theorem cl_bd {d : Int} (h1 : 0 ≤ d ∧ d ≤ 100000) : 0 ≤ cl6 d ∧ cl6 d ≤ 1000000 := by
  unfold cl6
  split <;> omega
theorem s_findDepths {fs : List Fn} {t : Int} {A : List Int} {μ : ZM} {K : ZM → Prop} (ho : okF fs) (ht : z_tm t) (hT : Tm μ fs t A) (hA : okT fs A) (hl : A.length ≤ 40) (h : ∀ μ', (∀ a k, a ≠ 235 → μ' a k = μ a k) → (∀ p : Int, 0 ≤ p → p < (A.length : Int) → μ' 235 p = dpt fs A p) → K μ') : P_X1_findDepths t μ K := by
  have b := ht
  unfold z_tm at b
  have hA1 : 1 ≤ A.length := by
    cases A with
    | nil => exact absurd (show (1 : Int) = 0 from hA.1) (by decide)
    | cons c A => simp
  refine ⟨ht, by omega, ?_⟩
  show P_X1_findDepths_9 t 0 (z_upd μ 235 0 0) K
  refine z_lf1_ind (fun i μ' => 0 ≤ i ∧ i < (A.length : Int) ∧ (∀ a k, a ≠ 235 → μ' a k = μ a k) ∧ ∀ p : Int, 0 ≤ p → p < (A.length : Int) → (p ≤ i ∨ ∃ q, 0 ≤ q ∧ q < i ∧ arf fs (gt A q) = 2 ∧ en fs A (q + 1) = p) → μ' 235 p = dpt fs A p) (fun i _ => ((A.length : Int) - i).toNat) ?_ 0 _ ⟨by omega, by omega, fun a k q => zu_n q, fun p h1 h2 h3 => ?_⟩
  · intro i μ' G ⟨e1, e2, e3, e4⟩ hG
    have es : μ' t 2 = (A.length : Int) := (e3 _ _ (by omega)).trans hT.1
    have ee : ∀ j : Int, 0 ≤ j → j < (A.length : Int) → μ' (t + 2) j = en fs A j := fun j h1 h2 => (e3 _ _ (by omega)).trans (hT.2.2 j h1 h2)
    rw [es]
    refine ⟨⟨by omega, by omega⟩, ifb (fun g => h μ' e3 (fun p h1 h2 => e4 p h1 h2 (Or.inl (by omega)))) (fun g => ⟨by omega, ⟨by omega, by omega⟩, ?_⟩)⟩
    have hi : 0 ≤ i ∧ i < (A.length : Int) := ⟨e1, e2⟩
    have hap := arf_pos ho (gt A i)
    have hal := arf_le ho (gt A i)
    rw [ee i e1 e2]
    refine ifb (fun g1 => ⟨⟨by omega, by omega⟩, hG _ _ ⟨by omega, by omega, e3, fun p h1 h2 h3 => ?_⟩ (by omega)⟩) (fun g1 => ?_)
    · have a0 : arf fs (gt A i) = 0 := by
        rcases Int.lt_or_le (arf fs (gt A i)) 1 with q | q
        · omega
        · have := en_in ho hA hi q; omega
      rcases h3 with q | ⟨q, q1, q2, q3, q4⟩
      · by_cases ep : p = i + 1
        · have hb0 := en_0 hA
          rcases en_par (p := p) ho hA ⟨by omega, h2⟩ _ 0 (by omega) (by omega) (Nat.le_refl _) (by omega) with w | ⟨w, w1, w2, w3, w4⟩
          · rw [show p - 1 = i by omega] at w; omega
          · exact e4 p h1 h2 (Or.inr ⟨w, w1, by omega, w3, w4⟩)
        · exact e4 p h1 h2 (Or.inl (by omega))
      · by_cases eq : q = i
        · rw [eq] at q3; omega
        · exact e4 p h1 h2 (Or.inr ⟨q, q1, by omega, q3, q4⟩)
    · have a1 : 1 ≤ arf fs (gt A i) := by
        rcases Int.lt_or_le (arf fs (gt A i)) 1 with q | q
        · have := en_a0 (fs := fs) hi (by omega); omega
        · exact q
      have d1 := dpt_1 ho hA hi a1
      have di := e4 i e1 e2 (Or.inl (Int.le_refl i))
      have db := dpt_bd (fs := fs) (j := i) hl e2
      rw [di]
      simp only [z_wr]
      rw [show z_upd μ' 235 (i + 1) (dpt fs A i + 1) (t + 2) i = en fs A i from (zu_n (by omega)).trans (ee i e1 e2), show z_upd μ' 235 (i + 1) (dpt fs A i + 1) (t + 2) (i + 1) = en fs A (i + 1) from (zu_n (by omega)).trans (ee (i + 1) (by omega) (by omega)), show z_upd μ' 235 (i + 1) (dpt fs A i + 1) 235 i = dpt fs A i from (zu_k (by omega)).trans di]
      have b1 := en_bd (fs := fs) (T := A) (i := i + 1) ⟨by omega, by omega⟩
      refine ⟨⟨by omega, by omega⟩, by omega, ⟨by omega, by omega⟩, by omega, ⟨by omega, by omega⟩, by omega, by omega, ifb (fun g2 => ⟨⟨by omega, by omega⟩, hG _ _ ⟨by omega, by omega, fun a k q => (zu_n q).trans (e3 a k q), fun p h1 h2 h3 => ?_⟩ (by omega)⟩) (fun g2 => ?_)⟩
      · by_cases ep : p = i + 1
        · rw [ep, zu_s, d1]
        · rw [zu_k ep]
          rcases h3 with q | ⟨q, q1, q2, q3, q4⟩
          · exact e4 p h1 h2 (Or.inl (by omega))
          · by_cases eq : q = i
            · rw [eq] at q3
              have := en_lt2 ho hA hi q3
              omega
            · exact e4 p h1 h2 (Or.inr ⟨q, q1, by omega, q3, q4⟩)
      · have a2 : arf fs (gt A i) = 2 := by
          by_cases q : arf fs (gt A i) = 1
          · have := en_a1 (fs := fs) hi q; omega
          · omega
        have d2 := dpt_2 ho hA hi a2
        have k2 := en_k2 ho hA hi a2
        refine ⟨by omega, ⟨by omega, by omega⟩, by omega, ⟨by omega, by omega⟩, hG _ _ ⟨by omega, by omega, fun a k q => (zu_n q).trans ((zu_n q).trans (e3 a k q)), fun p h1 h2 h3 => ?_⟩ (by omega)⟩
        by_cases ep2 : p = en fs A (i + 1)
        · rw [ep2, zu_s, d2]
        · rw [zu_k ep2]
          by_cases ep : p = i + 1
          · rw [ep, zu_s, d1]
          · rw [zu_k ep]
            rcases h3 with q | ⟨q, q1, q2, q3, q4⟩
            · exact e4 p h1 h2 (Or.inl (by omega))
            · by_cases eq : q = i
              · rw [eq] at q4; omega
              · exact e4 p h1 h2 (Or.inr ⟨q, q1, by omega, q3, q4⟩)
  · have : p = 0 := by
      rcases h3 with q | ⟨q, q1, q2, -⟩ <;> omega
    rw [this, zu_s, dpt_0]
theorem s_smallestAt {fs : List Fn} {t t' i j : Int} {A B : List Int} {μ : ZM} {K : Int → ZM → Prop} (ho : okF fs) (ht : z_tm t) (ht' : z_tm t') (hT : Tm μ fs t A) (hT' : Tm μ fs t' B) (hA : okT fs A) (hB : okT fs B) (lA : A.length ≤ 40) (lB : B.length ≤ 40) (hi : 0 ≤ i ∧ i < (A.length : Int)) (hj : 0 ≤ j ∧ j < (B.length : Int)) (hd : ∀ p : Int, 0 ≤ p → p < (A.length : Int) → μ 235 p = dpt fs A p) (hb : ∀ i' j' : Int, i < i' → i' < (A.length : Int) → 0 ≤ j' → j' < (B.length : Int) → μ 234 (i' * 40 + j') = cl6 (dD fs A B i' j')) (h : K (cl6 (dD fs A B i j)) μ) : P_X1_smallestAt t i t' j μ K := by
  have hap := arf_pos ho (gt A i)
  have hal := arf_le ho (gt A i)
  have ba := en_bd (fs := fs) hi
  have bb := en_bd (fs := fs) hj
  have hdi := hd i hi.1 hi.2
  have db := dpt_bd (fs := fs) (j := i) lA hi.2
  have ees : ∀ q : Int, 0 ≤ q → q < (A.length : Int) → μ (t + 2) q = en fs A q := hT.2.2
  have ees' : ∀ q : Int, 0 ≤ q → q < (B.length : Int) → μ (t' + 2) q = en fs B q := hT'.2.2
  have hsz := dD_b ho hA hB lA hi hj
  unfold P_X1_smallestAt
  rw [ees i hi.1 hi.2, ees' j hj.1 hj.2, hT.2.1 i hi.1 hi.2, hT'.2.1 j hj.1 hj.2]
  refine ⟨ht, ht', by omega, by omega, ⟨by omega, by omega⟩, ⟨by omega, by omega⟩, ifb (fun g => ⟨by omega, by omega, ?_⟩) (fun g => ?_)⟩
  · rw [dD_s ho hA hi] at h
    have main : ∀ s : Int, s = eqi (gt A i) (gt B j) → (s = 0 ∨ s = 1) → P_X1_smallestAt_53 t i t' j (en fs A i) s μ K := by
      intro s hs hs2
      rw [← hs] at h
      unfold P_X1_smallestAt_53
      refine ⟨⟨by omega, by omega⟩, ifb (fun g1 => ⟨⟨by omega, by omega⟩, by omega, ?_⟩) (fun g1 => ?_)⟩
      · have a1 : 1 ≤ arf fs (gt A i) := by
          rcases Int.lt_or_le (arf fs (gt A i)) 1 with q | q
          · have := en_a0 (fs := fs) hi (by omega); omega
          · exact q
        have k1 := en_k1 hA hi a1
        have b1 := en_bd (fs := fs) (T := A) (i := i + 1) ⟨by omega, k1⟩
        rw [ees (i + 1) (by omega) k1]
        have D1 := dD_b (i := i + 1) (j := j) ho hA hB lA ⟨by omega, k1⟩ hj
        have D1' : 0 ≤ dD fs A B (i + 1) j ∧ dD fs A B (i + 1) j ≤ 100000 ∧ (dD fs A B (i + 1) j < 100000 → dD fs A B (i + 1) j ≤ 1560) := ⟨D1.1, D1.2.1, fun q => (D1.2.2 q).1⟩
        have t1 := hb (i + 1) j (by omega) k1 hj.1 hj.2
        have c1 := cl_bd ⟨D1.1, D1.2.1⟩
        have tail : ∀ (bi x10 : Int), 0 ≤ x10 ∧ x10 ≤ 1000000 → (bi = if arf fs (gt A i) = 2 then 1 else 0) → x10 = (if arf fs (gt A i) = 2 then min (cl6 (dD fs A B (i + 1) j)) (cl6 (dD fs A B (en fs A (i + 1)) j)) else cl6 (dD fs A B (i + 1) j)) → P_X1_smallestAt_140 i t' j s (en fs A (i + 1)) bi x10 μ K := by
          intro bi x10 hx hbi hx10
          unfold P_X1_smallestAt_140
          rw [hdi]
          refine ⟨by omega, ⟨by omega, by omega⟩, ifb (fun g2 => ?_) (fun g2 => ?_)⟩
          · rw [g2] at h
            show K (min (x10 + dpt fs A i) 1000000) μ
            by_cases a2 : arf fs (gt A i) = 2
            · rw [if_pos a2] at hx10
              have k2 := en_k2 ho hA hi a2
              have D2 := dD_b (i := en fs A (i + 1)) (j := j) ho hA hB lA ⟨by omega, k2⟩ hj
              rw [hx10, cl_20 (d3 := dD fs A B (i + 1) (j + 1)) (d4 := dD fs A B (en fs A (i + 1)) (en fs B (j + 1))) D1' ⟨D2.1, D2.2.1, fun q => (D2.2.2 q).1⟩ db]
              rw [a2] at h; exact h
            · rw [if_neg a2] at hx10
              have a1' : arf fs (gt A i) = 1 := by omega
              rw [hx10, cl_10 (d2 := dD fs A B (en fs A (i + 1)) j) (d3 := dD fs A B (i + 1) (j + 1)) (d4 := dD fs A B (en fs A (i + 1)) (en fs B (j + 1))) D1' db]
              rw [a1'] at h; exact h
          · have s1 : s = 1 := by omega
            rw [s1] at h hs
            have ge := eqi_1.mp hs.symm
            have kb1 := en_k1 hB hj (by rw [← ge]; exact a1)
            have D3 := dD_b (i := i + 1) (j := j + 1) ho hA hB lA ⟨by omega, k1⟩ ⟨by omega, kb1⟩
            have D3' : 0 ≤ dD fs A B (i + 1) (j + 1) ∧ dD fs A B (i + 1) (j + 1) ≤ 100000 ∧ (dD fs A B (i + 1) (j + 1) < 100000 → dD fs A B (i + 1) (j + 1) ≤ 1560) := ⟨D3.1, D3.2.1, fun q => (D3.2.2 q).1⟩
            have t3 := hb (i + 1) (j + 1) (by omega) k1 (by omega) kb1
            rw [show (i + 1) * 40 + j + 1 = (i + 1) * 40 + (j + 1) by omega, t3]
            have c3 := cl_bd ⟨D3.1, D3.2.1⟩
            refine ⟨⟨by omega, by omega⟩, ⟨by omega, by omega⟩, ⟨by omega, by omega⟩, ⟨by omega, by omega⟩, by omega, ifb (fun g3 => ?_) (fun g3 => ?_)⟩
            · have a1' : arf fs (gt A i) = 1 := by
                by_cases q : arf fs (gt A i) = 2
                · rw [if_pos q] at hbi; omega
                · omega
              rw [if_neg (by omega)] at hx10
              show K (min (min (x10 + dpt fs A i) (cl6 (dD fs A B (i + 1) (j + 1)))) 1000000) μ
              rw [hx10, cl_11 (d2 := dD fs A B (en fs A (i + 1)) j) (d4 := dD fs A B (en fs A (i + 1)) (en fs B (j + 1))) D1' D3' db]
              rw [a1'] at h; exact h
            · have a2 : arf fs (gt A i) = 2 := by
                by_cases q : arf fs (gt A i) = 2
                · exact q
                · rw [if_neg q] at hbi; omega
              rw [if_pos a2] at hx10
              have k2 := en_k2 ho hA hi a2
              have kb2 := en_k2 ho hB hj (by rw [← ge]; exact a2)
              have bb1 := en_bd (fs := fs) (T := B) (i := j + 1) ⟨by omega, kb1⟩
              have D2 := dD_b (i := en fs A (i + 1)) (j := j) ho hA hB lA ⟨by omega, k2⟩ hj
              have D4 := dD_b (i := en fs A (i + 1)) (j := en fs B (j + 1)) ho hA hB lA ⟨by omega, k2⟩ ⟨by omega, kb2⟩
              have c4 := cl_bd ⟨D4.1, D4.2.1⟩
              rw [ees' (j + 1) (by omega) kb1, hb (en fs A (i + 1)) (en fs B (j + 1)) (by omega) k2 (by omega) kb2]
              refine ⟨⟨by omega, by omega⟩, ⟨by omega, by omega⟩, by omega, ⟨by omega, by omega⟩, by omega, ⟨by omega, by omega⟩, ?_⟩
              show K (min (min (x10 + dpt fs A i) (cl6 (dD fs A B (i + 1) (j + 1)) + cl6 (dD fs A B (en fs A (i + 1)) (en fs B (j + 1))))) 1000000) μ
              rw [hx10, cl_21 D1' ⟨D2.1, D2.2.1, fun q => (D2.2.2 q).1⟩ D3' ⟨D4.1, D4.2.1, fun q => (D4.2.2 q).1⟩ db]
              rw [a2] at h; exact h
        have z1 : zin (i + 1) := ⟨by omega, by omega⟩
        have z2 : zin ((i + 1) * 40) := ⟨by omega, by omega⟩
        have z3 : zin ((i + 1) * 40 + j) := ⟨by omega, by omega⟩
        refine ifb (fun g2 => ?_) (fun g2 => ?_)
        · have a1' : arf fs (gt A i) = 1 := by
            by_cases q : arf fs (gt A i) = 2
            · have := en_lt2 ho hA hi q; omega
            · omega
          unfold P_X1_smallestAt_97
          rw [t1]
          exact ⟨z1, z2, z3, by omega, if0 (tail 0 _ c1 (by rw [if_neg (by omega)]) (by rw [if_neg (by omega)]))⟩
        · have a2 : arf fs (gt A i) = 2 := by
            by_cases q : arf fs (gt A i) = 1
            · have := en_a1 (fs := fs) hi q; omega
            · omega
          have k2 := en_k2 ho hA hi a2
          have D2 := dD_b (i := en fs A (i + 1)) (j := j) ho hA hB lA ⟨by omega, k2⟩ hj
          have c2 := cl_bd ⟨D2.1, D2.2.1⟩
          unfold P_X1_smallestAt_97
          rw [t1, hb (en fs A (i + 1)) j (by omega) k2 hj.1 hj.2]
          exact ⟨z1, z2, z3, by omega, if1 ⟨⟨by omega, by omega⟩, ⟨by omega, by omega⟩, by omega, tail 1 _ (by omega) (by rw [if_pos a2]) (by rw [if_pos a2])⟩⟩
      · have a0 : arf fs (gt A i) = 0 := by
          rcases Int.lt_or_le (arf fs (gt A i)) 1 with q | q
          · omega
          · have := en_in ho hA hi q; omega
        rw [a0] at h
        refine ifb (fun g2 => ?_) (fun g2 => ?_)
        · rw [g2] at h; exact h
        · rw [show s = 1 by omega] at h; exact h
    refine ifb (fun q => main 1 (by unfold eqi; rw [if_pos q]) (Or.inr rfl)) (fun q => main 0 (by unfold eqi; rw [if_neg q]) (Or.inl rfl))
  · have : cl6 (dD fs A B i j) = 1000000 := by
      unfold cl6
      rcases Int.lt_or_le (dD fs A B i j) 100000 with q | q
      · have := (hsz.2.2 q).2; omega
      · rw [if_neg (by omega)]
    rw [this] at h; exact h
