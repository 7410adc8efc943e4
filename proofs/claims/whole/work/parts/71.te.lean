theorem s_findDeep {fs : List Fn} {s : Int} {A : List Int} {μ : ZM} {K : ZM → Prop} (ho : okF fs) (hF : MF μ fs) (hs : 0 ≤ s ∧ s < 44) (hS : Sl μ s A) (hA : okT fs A) (lA : A.length ≤ 40) (h : ∀ μ', (∀ a k, a ≠ 267 → μ' a k = μ a k) → (∀ p : Int, 0 ≤ p → p < (A.length : Int) → μ' 267 p = dpt fs A p) → K μ') : P_X12_findDeep s μ K := by
  refine z_lf1_ind (fun i μ' => 0 ≤ i ∧ i ≤ (A.length : Int) ∧ (∀ a k, a ≠ 267 → μ' a k = μ a k) ∧ ∀ p : Int, 0 ≤ p → p < i → μ' 267 p = 0) (fun i _ => ((A.length : Int) - i).toNat) ?_ 0 μ ⟨by omega, by omega, fun _ _ _ => rfl, fun p h1 h2 => absurd h2 (by omega)⟩
  intro i0 μ0 G0 ⟨a1, a2, a3, a4⟩ hG0
  rw [show μ0 250 s = (A.length : Int) from (a3 _ _ (by omega)).trans hS.1]
  refine ⟨hs, ifb (fun g => ?_) (fun g => ⟨by omega, ⟨by omega, by omega⟩, hG0 _ _ ⟨by omega, by omega, fun a k q => (zu_n q).trans (a3 a k q), fun p h1 h2 => ?_⟩ (by omega)⟩)⟩
  · refine z_lf1_ind (fun i μ' => 0 ≤ i ∧ i ≤ (A.length : Int) ∧ (∀ a k, a ≠ 267 → μ' a k = μ a k) ∧ ∀ p : Int, 0 ≤ p → p < (A.length : Int) → μ' 267 p = sg (dq fs A p) i.toNat) (fun i _ => ((A.length : Int) - i).toNat) ?_ 0 μ0 ⟨by omega, by omega, a3, fun p h1 h2 => a4 p h1 (by omega)⟩
    intro i μ1 G ⟨e1, e2, e3, e4⟩ hG
    rw [show μ1 250 s = (A.length : Int) from (e3 _ _ (by omega)).trans hS.1]
    refine ⟨hs, ifb (fun g1 => h μ1 e3 (fun p h1 h2 => ?_)) (fun g1 => ⟨⟨by omega, by omega⟩, ?_⟩)⟩
    · rw [e4 p h1 h2, show i.toNat = A.length by omega]; rfl
    · have hi : 0 ≤ i ∧ i < (A.length : Int) := by omega
      have bi := en_bd (fs := fs) hi
      refine z_lf1_ind (fun j μ2 => i + 1 ≤ j ∧ j ≤ en fs A i ∧ (∀ a k, a ≠ 267 → μ2 a k = μ a k) ∧ ∀ p : Int, 0 ≤ p → p < (A.length : Int) → μ2 267 p = sg (dq fs A p) i.toNat + if i < p ∧ p < j then 1 else 0) (fun j _ => (en fs A i - j).toNat) ?_ _ μ1 ⟨by omega, by omega, e3, fun p h1 h2 => by rw [if_neg (by omega), Int.add_zero]; exact e4 p h1 h2⟩
      intro j μ2 G2 ⟨f1, f2, f3, f4⟩ hG2
      refine s_end (T := A) ho (hF.fr (fun a ha k => f3 _ _ (by omega)) (f3 _ _ (by omega))) hs (hS.ex (f3 _ _ (by omega)) (fun k _ _ => f3 _ _ (by omega))) hA (by omega) hi (ifb (fun g2 => ⟨⟨by omega, by omega⟩, hG _ _ ⟨by omega, by omega, f3, fun p h1 h2 => ?_⟩ (by omega)⟩) (fun g2 => ?_))
      · rw [f4 p h1 h2, sg_s e1, show j = en fs A i by omega]; rfl
      · have hv := f4 j (by omega) (by omega)
        rw [if_neg (by omega), Int.add_zero] at hv
        have bd := sg_bd (b := 1) (by omega) (n := i.toNat) (g := dq fs A j) (fun k => by unfold dq; split <;> omega)
        rw [hv]
        refine ⟨by omega, ⟨by omega, by omega⟩, by omega, ⟨by omega, by omega⟩, hG2 _ _ ⟨by omega, by omega, fun a k q => (zu_n q).trans (f3 a k q), fun p h1 h2 => ?_⟩ (by omega)⟩
        by_cases ep : p = j
        · rw [ep, zu_s, if_pos (by omega)]
        · rw [zu_k ep, f4 p h1 h2]
          by_cases q : i < p ∧ p < j
          · rw [if_pos q, if_pos (by omega)]
          · rw [if_neg q, if_neg (by omega)]
  · by_cases ep : p = i0
    · rw [ep, zu_s]
    · rw [zu_k ep]; exact a4 p h1 (by omega)
theorem s_heldAt {fs : List Fn} {s s' i j : Int} {A B : List Int} {μ : ZM} {K : Int → ZM → Prop} (ho : okF fs) (hF : MF μ fs) (hs : 0 ≤ s ∧ s < 44) (hs' : 0 ≤ s' ∧ s' < 44) (hS : Sl μ s A) (hS' : Sl μ s' B) (hA : okT fs A) (hB : okT fs B) (lA : A.length ≤ 40) (lB : B.length ≤ 40) (hi : 0 ≤ i ∧ i < (A.length : Int)) (hj : 0 ≤ j ∧ j < (B.length : Int)) (hd : ∀ p : Int, 0 ≤ p → p < (A.length : Int) → μ 267 p = dpt fs A p) (hb : ∀ i' j' : Int, i < i' → i' < (A.length : Int) → 0 ≤ j' → j' < (B.length : Int) → μ 266 (40 * i' + j') = dD fs A B i' j') (h : K (dD fs A B i j) μ) : P_X12_heldAt s i s' j μ K := by
  have hap := arf_pos ho (gt A i)
  have hal := arf_le ho (gt A i)
  have hdi := hd i hi.1 hi.2
  have db := dpt_bd (fs := fs) (j := i) lA hi.2
  rw [dD_s ho hA hi] at h
  generalize hav : arf fs (gt A i) = av at *
  have hk1 : 1 ≤ av → i + 1 < (A.length : Int) := fun q => en_k1 hA hi (by omega)
  have hk2 : av = 2 → en fs A (i + 1) < (A.length : Int) := fun q => en_k2 ho hA hi (by omega)
  have hb1 : 1 ≤ av → i + 1 < en fs A (i + 1) := fun q => (en_bd (fs := fs) (T := A) (i := i + 1) ⟨by omega, hk1 q⟩).1
  have D1 : 1 ≤ av → 0 ≤ dD fs A B (i + 1) j ∧ dD fs A B (i + 1) j ≤ 100000 := fun q => by
    have := dD_b (i := i + 1) (j := j) ho hA hB lA ⟨by omega, hk1 q⟩ hj
    exact ⟨this.1, this.2.1⟩
  have D2 : av = 2 → 0 ≤ dD fs A B (en fs A (i + 1)) j ∧ dD fs A B (en fs A (i + 1)) j ≤ 100000 := fun q => by
    have := dD_b (i := en fs A (i + 1)) (j := j) ho hA hB lA ⟨by have := hb1 (by omega); omega, hk2 q⟩ hj
    exact ⟨this.1, this.2.1⟩
  have h203 : ∀ x y : Int, K (min 100000 (min x y)) μ → P_X12_heldAt_203 x y μ K := by
    intro x y q
    have one : ∀ z : Int, z = min x y → P_X12_heldAt_220 z μ K := by
      intro z hz
      rw [← hz] at q
      refine ifb (fun g => ?_) (fun g => ?_)
      · rw [show min 100000 z = z by omega] at q; exact q
      · rw [show min 100000 z = 100000 by omega] at q; exact q
    exact ifb (fun g => one x (by omega)) (fun g => one y (by omega))
  have main : ∀ nx : Int, (av = 2 → nx = en fs A (i + 1)) → P_X12_heldAt_30 s i s' j av nx μ K := by
    intro nx hnx
    have h169 : ∀ z : Int, K (min 100000 (min z (if av = 2 then dD fs A B (en fs A (i + 1)) j + dpt fs A i else 100000))) μ → P_X12_heldAt_169 i j av nx z μ K := by
      intro z q
      refine ifb (fun g => ?_) (fun g => ?_)
      · rw [if_neg (by omega)] at q; exact h203 _ _ q
      · have a2 : av = 2 := by omega
        rw [if_pos a2] at q
        have b1 := hb1 (by omega)
        have k2 := hk2 a2
        have d2 := D2 a2
        rw [hnx a2, hb _ j (by omega) k2 hj.1 hj.2, hdi]
        exact ⟨⟨by omega, by omega⟩, ⟨by omega, by omega⟩, by omega, by omega, ⟨by omega, by omega⟩, h203 _ _ q⟩
    have h121 : ∀ z : Int, K (min 100000 (min z (min (if 1 ≤ av then dD fs A B (i + 1) j + dpt fs A i else 100000) (if av = 2 then dD fs A B (en fs A (i + 1)) j + dpt fs A i else 100000)))) μ → P_X12_heldAt_121 i j av nx z μ K := by
      intro z q
      have h153 : ∀ y : Int, y = (if 1 ≤ av then dD fs A B (i + 1) j + dpt fs A i else 100000) → P_X12_heldAt_153 i j av nx z y μ K := by
        intro y hy
        rw [← hy] at q
        generalize (if av = 2 then dD fs A B (en fs A (i + 1)) j + dpt fs A i else 100000) = m2 at *
        refine ifb (fun g => h169 z ?_) (fun g => h169 y ?_)
        · rw [show min 100000 (min z (min y m2)) = min 100000 (min z m2) by omega] at q; exact q
        · rw [show min 100000 (min z (min y m2)) = min 100000 (min y m2) by omega] at q; exact q
      refine ifb (fun g => h153 _ (by rw [if_neg (by omega)])) (fun g => ?_)
      have k1 := hk1 (by omega)
      have d1 := D1 (by omega)
      rw [hb _ j (by omega) k1 hj.1 hj.2, hdi]
      exact ⟨⟨by omega, by omega⟩, ⟨by omega, by omega⟩, ⟨by omega, by omega⟩, by omega, by omega, ⟨by omega, by omega⟩, h153 _ (by rw [if_pos (by omega)])⟩
    unfold dstep at h
    refine s_atT hs hS (by omega) hi (s_atT hs' hS' (by omega) hj (ifb (fun g => ?_) (fun g => ?_)))
    · rw [if_pos (eqi_1.mpr g)] at h
      have h83 : ∀ y : Int, y = (if 1 ≤ av then dD fs A B (i + 1) (j + 1) else 0) → 0 ≤ y ∧ y ≤ 100000 → P_X12_heldAt_83 i s' j av nx 0 y μ K := by
        intro y hy hy2
        rw [← hy] at h
        have h118 : ∀ z : Int, z = (if av = 2 then dD fs A B (en fs A (i + 1)) (en fs B (j + 1)) else 0) → 0 ≤ z ∧ z ≤ 100000 → P_X12_heldAt_118 i j av nx (0 + y) z μ K := by
          intro z hz hz2
          rw [← hz] at h
          refine ⟨⟨by omega, by omega⟩, h121 _ ?_⟩
          rw [Int.zero_add]; exact h
        refine ⟨⟨by omega, by omega⟩, ifb (fun g1 => h118 0 (by rw [if_neg (by omega)]) (by omega)) (fun g1 => ?_)⟩
        have a2 : av = 2 := by omega
        have kb1 := en_k1 hB hj (by rw [← g]; omega)
        have kb2 := en_k2 ho hB hj (by rw [← g]; omega)
        have bb1 := en_bd (fs := fs) (T := B) (i := j + 1) ⟨by omega, kb1⟩
        have b1 := hb1 (by omega)
        have k2 := hk2 a2
        have D4 := dD_b (i := en fs A (i + 1)) (j := en fs B (j + 1)) ho hA hB lA ⟨by omega, k2⟩ ⟨by omega, kb2⟩
        have hn := hnx a2
        refine ⟨⟨by omega, by omega⟩, ⟨by omega, by omega⟩, s_end (T := B) ho hF hs' hS' hB (by omega) ⟨by omega, kb1⟩ ?_⟩
        have e4 := hb (en fs A (i + 1)) (en fs B (j + 1)) (by omega) k2 (by omega) kb2
        rw [← hn] at e4
        rw [e4]
        exact ⟨⟨by omega, by omega⟩, by omega, h118 _ (by rw [if_pos a2, hn]) ⟨by rw [hn]; exact D4.1, by rw [hn]; exact D4.2.1⟩⟩
      refine ifb (fun g1 => h83 0 (by rw [if_neg (by omega)]) (by omega)) (fun g1 => ?_)
      have k1 := hk1 (by omega)
      have kb1 := en_k1 hB hj (by rw [← g]; omega)
      have D3 := dD_b (i := i + 1) (j := j + 1) ho hA hB lA ⟨by omega, k1⟩ ⟨by omega, kb1⟩
      rw [show 40 * (i + 1) + j + 1 = 40 * (i + 1) + (j + 1) by omega, hb _ (j + 1) (by omega) k1 (by omega) kb1]
      exact ⟨⟨by omega, by omega⟩, ⟨by omega, by omega⟩, ⟨by omega, by omega⟩, ⟨by omega, by omega⟩, by omega, h83 _ (by rw [if_pos (by omega)]) ⟨D3.1, D3.2.1⟩⟩
    · rw [if_neg (fun q => g (eqi_1.mp q))] at h
      exact h121 _ h
  refine s_atT hs hS (by omega) hi (s_arity hF (cv_gt hA hi) ?_)
  rw [hav]
  refine ifb (fun g => ⟨⟨by omega, by omega⟩, s_end (T := A) ho hF hs hS hA (by omega) ⟨by omega, hk1 (by omega)⟩ (main _ (fun _ => rfl))⟩) (fun g => main 0 (fun q => absurd q g))
theorem s_differenceOf {fs : List Fn} {s s' : Int} {A B : List Int} {μ : ZM} {K : Int → ZM → Prop} (ho : okF fs) (hF : MF μ fs) (hs : 0 ≤ s ∧ s < 44) (hs' : 0 ≤ s' ∧ s' < 44) (hS : Sl μ s A) (hS' : Sl μ s' B) (hA : okT fs A) (hB : okT fs B) (lA : A.length ≤ 40) (lB : B.length ≤ 40) (h : ∀ μ', (∀ a k, a ≠ 266 → a ≠ 267 → μ' a k = μ a k) → K (dD fs A B 0 0) μ') : P_X12_differenceOf s s' μ K := by
  have lA1 := okT_1 hA
  have lB1 := okT_1 hB
  refine s_findDeep ho hF hs hS hA lA (fun μ1 e1 d1 => ⟨hs, ?_⟩)
  rw [show μ1 250 s = (A.length : Int) from (e1 _ _ (by omega)).trans hS.1]
  refine ⟨⟨by omega, by omega⟩, ?_⟩
  refine z_lf1_ind (fun i μ' => -1 ≤ i ∧ i < (A.length : Int) ∧ (∀ a k, a ≠ 266 → μ' a k = μ1 a k) ∧ ∀ i' j' : Int, i < i' → i' < (A.length : Int) → 0 ≤ j' → j' < (B.length : Int) → μ' 266 (40 * i' + j') = dD fs A B i' j') (fun i _ => (i + 1).toNat) ?_ _ μ1 ⟨by omega, by omega, fun _ _ _ => rfl, fun i' j' h1 h2 => absurd h1 (by omega)⟩
  intro i μ' G ⟨e2, e3, e4, e5⟩ hG
  refine ifb (fun g1 => ?_) (fun g1 => ?_)
  · have hv := e5 0 0 (by omega) (by omega) (by omega) (by omega)
    rw [show 40 * (0 : Int) + 0 = 0 by omega] at hv
    rw [hv]
    exact ⟨by omega, h μ' (fun a k q1 q2 => (e4 a k q1).trans (e1 a k q2))⟩
  · rw [show μ' 250 s' = (B.length : Int) from (e4 _ _ (by omega)).trans ((e1 _ _ (by omega)).trans hS'.1)]
    refine ⟨hs', ⟨by omega, by omega⟩, ?_⟩
    refine z_lf1_ind (fun j μ2 => -1 ≤ j ∧ j < (B.length : Int) ∧ (∀ a k, a ≠ 266 → μ2 a k = μ1 a k) ∧ ∀ i' j' : Int, (i < i' ∨ (i' = i ∧ j < j')) → i' < (A.length : Int) → 0 ≤ j' → j' < (B.length : Int) → μ2 266 (40 * i' + j') = dD fs A B i' j') (fun j _ => (j + 1).toNat) ?_ _ μ' ⟨by omega, by omega, e4, fun i' j' h1 h2 h3 h4 => e5 i' j' (by omega) h2 h3 h4⟩
    intro j μ2 G2 ⟨f2, f3, f4, f5⟩ hG2
    refine ifb (fun g2 => ⟨⟨by omega, by omega⟩, hG _ _ ⟨by omega, by omega, f4, fun i' j' h1 h2 h3 h4 => f5 i' j' (by omega) h2 h3 h4⟩ (by omega)⟩) (fun g2 => ⟨⟨by omega, by omega⟩, ⟨by omega, by omega⟩, ?_⟩)
    have fr : ∀ a k, a ≠ 266 → a ≠ 267 → μ2 a k = μ a k := fun a k q1 q2 => (f4 a k q1).trans (e1 a k q2)
    refine s_heldAt (fs := fs) (A := A) (B := B) ho (hF.fr (fun a ha k => fr _ _ (by omega) (by omega)) (fr _ _ (by omega) (by omega))) hs hs' (hS.ex (fr _ _ (by omega) (by omega)) (fun k _ _ => fr _ _ (by omega) (by omega))) (hS'.ex (fr _ _ (by omega) (by omega)) (fun k _ _ => fr _ _ (by omega) (by omega))) hA hB lA lB ⟨by omega, by omega⟩ ⟨by omega, by omega⟩ (fun p h1 h2 => (f4 _ _ (by omega)).trans (d1 p h1 h2)) (fun i' j' h1 h2 h3 h4 => f5 i' j' (Or.inl h1) h2 h3 h4) ?_
    refine ⟨by omega, ⟨by omega, by omega⟩, hG2 _ _ ⟨by omega, by omega, fun a k q => (zu_n q).trans (f4 a k q), fun i' j' h1 h2 h3 h4 => ?_⟩ (by omega)⟩
    by_cases ee : i' = i ∧ j' = j
    · rw [ee.1, ee.2, zu_s]
    · rw [zu_k (by omega)]
      exact f5 i' j' (by omega) h2 h3 h4
theorem op_difference {μ : ZM} (hI : Inv μ) {K : Int → ZM → Prop} (hK : ∀ r μ1, Ans (P_X12_difference μ1) r → K r μ1) : P_X11_difference μ K := by
  have hI0 := hI
  obtain ⟨tp, fs, cl, ls, nt, cs, hc, hm, ho⟩ := hI
  obtain ⟨c1, c2, c3, c4, c5, c6, c7⟩ := id hc
  cases cl with
  | none =>
    have e1 : μ 206 11 = 0 := c3
    have e2 : μ 248 9 = 0 := hm.2.2.1
    unfold P_X11_difference
    rw [if_pos e1]
    refine hK _ _ (Ans.same hI0 (fun K' h' => ?_))
    unfold P_X12_difference
    rw [if_pos e2]; exact h'
  | some q =>
    obtain ⟨e1, t1, t2⟩ := id c3
    obtain ⟨o1, o2, l1, l2⟩ := ho.2.1 q rfl
    unfold P_X11_difference
    rw [if_neg (by omega)]
    refine s_smallest ho.1 (by decide) (by decide) t1 t2 o1 o2 (by omega) (by omega) (fun μ1 f1 => ?_)
    obtain ⟨hc1, hm1⟩ := hc.sc hm (fun a k y => f1 a k (by unfold oC at y; omega) (by unfold oC at y; omega))
    refine hK _ _ (fun K' hK' => ?_)
    obtain ⟨y1, y2, y3⟩ := hm1.2.2.1
    unfold P_X12_difference
    rw [if_neg (by omega)]
    refine s_differenceOf ho.1 hm1.2.1 (by omega) (by omega) y2 y3 o1 o2 (by omega) (by omega) (fun μ2 f2 => ?_)
    have hi := hK' μ2 (Inv.sc hc1 hm1 ho (fun a k y => f2 a k (by unfold oM at y; omega) (by unfold oM at y; omega)))
    unfold df at hi
    refine ifb (fun g => ?_) (fun g => ?_)
    · rw [if_pos g] at hi; exact hi
    · rw [if_neg g] at hi; exact hi
