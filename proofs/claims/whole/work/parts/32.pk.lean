theorem rf_0 {fs : List Fn} {oa hy : Int} {tp : List Int} {p : Int} {acc : List (List Int)} : rf fs oa hy tp 0 p acc = if (rb fs oa hy 1 tp p).1 = 0 then (0, (rb fs oa hy 1 tp p).2.1, []) else if (rb fs oa hy 1 tp p).2.1 = (tp.length : Int) then (1, (rb fs oa hy 1 tp p).2.1, acc ++ [(rb fs oa hy 1 tp p).2.2]) else (0, (rb fs oa hy 1 tp p).2.1, []) := rfl
theorem rf_1 {fs : List Fn} {oa hy : Int} {tp : List Int} {k : Nat} {p : Int} {acc : List (List Int)} (h : k ≠ 0) : rf fs oa hy tp k p acc = if (rb fs oa hy 0 tp p).1 = 0 then (0, (rb fs oa hy 0 tp p).2.1, []) else if sep tp (rb fs oa hy 0 tp p).2.1 then rf fs oa hy tp (k - 1) ((rb fs oa hy 0 tp p).2.1 + 1) (acc ++ [(rb fs oa hy 0 tp p).2.2]) else (0, (rb fs oa hy 0 tp p).2.1, []) := by
  cases k with
  | zero => exact absurd rfl h
  | succ k => rfl
theorem s_readFunction {fs : List Fn} {tp : List Int} {x1 x2 : Int} {μ : ZM} {K : Int → ZM → Prop} (ho : okF fs) (hT : CT μ tp) (hF : CF μ fs) (hx1 : x1 = 1 ∨ x1 = 2) (hx2 : x2 = 1 ∨ x2 = 2) (h : ∀ μ', (∀ a k, ¬ frk a k → μ' a k = μ a k) → μ' 212 4 = (rf fs x1 (if x1 = 2 then 1 else 0) tp x2.toNat 0 []).2.1 → 0 ≤ μ' 212 4 → μ' 212 4 ≤ (tp.length : Int) → ((rf fs x1 (if x1 = 2 then 1 else 0) tp x2.toNat 0 []).1 ≠ 0 → ∀ j : Int, 0 ≤ j → j ≤ x2 → μ' (169 + 3 * j) 2 = ((gb (rf fs x1 (if x1 = 2 then 1 else 0) tp x2.toNat 0 []).2.2 j).length : Int) ∧ rp (μ' (169 + 3 * j + 1)) (gb (rf fs x1 (if x1 = 2 then 1 else 0) tp x2.toNat 0 []).2.2 j)) → K (rf fs x1 (if x1 = 2 then 1 else 0) tp x2.toNat 0 []).1 μ') : P_X9_readFunction x1 x2 μ K := by
  generalize hy0 : (if x1 = 2 then (1 : Int) else 0) = hy at h
  generalize hR : rf fs x1 hy tp x2.toNat 0 [] = R at h
  have tl := hT.2.1.1
  have main : ∀ μ1 : ZM, (∀ a k, ¬ frk a k → μ1 a k = μ a k) → μ1 212 4 = 0 → μ1 212 5 = x1 → μ1 212 8 = hy → μ1 212 9 = 0 → P_X9_readFunction_31 x2 0 μ1 K := by
    intro μ1 b1 b2 b3 b4 b5
    refine z_lf1_ind (fun x3 μ' => ∃ acc : List (List Int), x3 = (acc.length : Int) ∧ x3 ≤ x2 + 1 ∧ (∀ a k, ¬ frk a k → μ' a k = μ a k) ∧ μ' 212 5 = x1 ∧ μ' 212 8 = hy ∧ μ' 212 9 = 0 ∧ 0 ≤ μ' 212 4 ∧ μ' 212 4 ≤ (tp.length : Int) ∧ (∀ j : Int, 0 ≤ j → j < x3 → μ' (169 + 3 * j) 2 = ((gb acc j).length : Int) ∧ rp (μ' (169 + 3 * j + 1)) (gb acc j)) ∧ (x3 = 0 → rf fs x1 hy tp x2.toNat (μ' 212 4) [] = R) ∧ (1 ≤ x3 → x3 ≤ x2 → (sep tp (μ' 212 4) → rf fs x1 hy tp (x2 - x3).toNat (μ' 212 4 + 1) acc = R) ∧ (¬ sep tp (μ' 212 4) → R = (0, μ' 212 4, []))) ∧ (x3 = x2 + 1 → (μ' 212 4 = (tp.length : Int) → R = (1, μ' 212 4, acc)) ∧ (μ' 212 4 ≠ (tp.length : Int) → R = (0, μ' 212 4, [])))) (fun x3 _ => (x2 + 1 - x3).toNat) ?_ 0 μ1 ⟨[], rfl, by omega, b1, b3, b4, b5, by omega, by omega, fun j h1 h2 => absurd h2 (by omega), fun _ => by rw [b2]; exact hR, fun h1 => absurd h1 (by decide), fun h1 => absurd h1 (by omega)⟩
    intro x3 μ' G ⟨acc, e1, e2, e3, e4, e5, e6, e7, e8, e9, e10, e11, e12⟩ hG
    have hlen : μ' 212 3 = (tp.length : Int) := (e3 212 3 (by unfold frk; omega)).trans hT.1
    refine ifb (fun g => ?_) (fun g => ifb (fun g1 => absurd g1 (by omega)) (fun _ => ?_))
    · obtain ⟨q1, q2⟩ := e12 (by omega)
      refine ifb (fun g1 => ⟨Or.inr rfl, ?_⟩) (fun g1 => ⟨Or.inl rfl, ?_⟩)
      · have hR' := q1 (by omega)
        subst hR'
        exact h μ' e3 rfl e7 e8 (fun _ j h1 h2 => e9 j h1 (by omega))
      · have hR' := q2 (by omega)
        subst hR'
        exact h μ' e3 rfl e7 e8 (fun g => absurd rfl g)
    · have body : ∀ own : Int, own = (if x3 = x2 then 1 else 0) → P_X9_readFunction_66 G x2 x3 own (z_upd μ' 212 6 own) K := by
        intro own hown
        have hw : own = 0 ∨ own = 1 := by
          rw [hown]; split <;> omega
        have read : ∀ μ2 : ZM, (∀ a k, ¬ (a = 212 ∧ (k = 4 ∨ k = 6 ∨ k = 7)) → μ2 a k = μ' a k) → 0 ≤ μ2 212 4 → μ2 212 4 ≤ (tp.length : Int) → μ2 212 6 = own → μ2 212 7 = own → rf fs x1 hy tp (x2 - x3).toNat (μ2 212 4) acc = R → P_X9_readFunction_84 G x2 x3 μ2 K := by
          intro μ2 d1 d2 d3 d4 d5 d6
          have hx2' : ∀ a k, ¬ frk a k → μ2 a k = μ a k := fun a k q => (d1 a k (by unfold frk at q; omega)).trans (e3 a k q)
          refine ⟨by omega, s_readTerm (fs := fs) (tp := tp) (hx := own) (hy := hy) (hz := 0) (own := own) (oa := x1) (p := μ2 212 4) ho (hT.rd hx2') (hF.rd hx2') (by unfold z_tm; omega) (by omega) ⟨rfl, d2, d3⟩ ⟨fun _ => (d1 _ _ (by omega)).trans e4, hx1⟩ d4 d5 ((d1 _ _ (by omega)).trans e5) ((d1 _ _ (by omega)).trans e6) ?_⟩
          show ∀ μ' : ZM, _ → μ' 212 4 = (rb fs x1 hy own tp (μ2 212 4)).2.1 → _ → _ → _ = ((rb fs x1 hy own tp (μ2 212 4)).2.2.length : Int) → rp _ (rb fs x1 hy own tp (μ2 212 4)).2.2 → if (rb fs x1 hy own tp (μ2 212 4)).1 = 0 then _ else _
          intro μ3 f1 f2 f3 f4 f5 f6
          have hx3' : ∀ a k, ¬ frk a k → μ3 a k = μ a k := fun a k q => (f1 a k (by unfold frk at q; omega) (by unfold frk at q; omega) (by unfold frk at q; omega)).trans (hx2' a k q)
          refine ifb (fun g2 => ⟨Or.inl rfl, ?_⟩) (fun g2 => ⟨⟨by omega, by omega⟩, hG _ _ ⟨acc ++ [(rb fs x1 hy own tp (μ2 212 4)).2.2], by simp; omega, by omega, hx3', ?_, ?_, ?_, f3, f4, ?_, fun q => absurd q (by omega), ?_, ?_⟩ (by omega)⟩)
          · have hR' : R = (0, (rb fs x1 hy own tp (μ2 212 4)).2.1, []) := by
              rw [← d6]
              by_cases q : x3 = x2
              · rw [if_pos q] at hown
                subst hown
                rw [show (x2 - x3).toNat = 0 by omega, rf_0, if_pos g2]
              · rw [if_neg q] at hown
                subst hown
                rw [rf_1 (by omega), if_pos g2]
            rw [hR'] at h
            exact h μ3 hx3' f2 f3 f4 (fun g => absurd rfl g)
          · rw [f1 _ _ (by omega) (by omega) (by omega), d1 _ _ (by omega)]; exact e4
          · rw [f1 _ _ (by omega) (by omega) (by omega), d1 _ _ (by omega)]; exact e5
          · rw [f1 _ _ (by omega) (by omega) (by omega), d1 _ _ (by omega)]; exact e6
          · intro j h1 h2
            rw [gb_push h1]
            by_cases ej : j = (acc.length : Int)
            · rw [if_pos ej, ej, ← e1]
              exact ⟨f5, f6⟩
            · rw [if_neg ej]
              obtain ⟨t1, t2⟩ := e9 j h1 (by omega)
              refine ⟨?_, t2.ex (fun i _ _ => ?_)⟩
              · rw [f1 _ _ (by omega) (by omega) (by omega), d1 _ _ (by omega)]; exact t1
              · rw [f1 _ _ (by omega) (by omega) (by omega), d1 _ _ (by omega)]
          · intro h1 h2
            have hown' : own = 0 := by rw [hown, if_neg (by omega)]
            subst hown'
            rw [rf_1 (by omega), if_neg g2] at d6
            rw [f2]
            refine ⟨fun s1 => ?_, fun s1 => ?_⟩
            · rw [if_pos s1] at d6
              rw [show (x2 - (x3 + 1)).toNat = (x2 - x3).toNat - 1 by omega]; exact d6
            · rw [if_neg s1] at d6; exact d6.symm
          · intro h1
            have hown' : own = 1 := by rw [hown, if_pos (by omega)]
            subst hown'
            rw [show (x2 - x3).toNat = 0 by omega, rf_0, if_neg g2] at d6
            rw [f2]
            refine ⟨fun s1 => ?_, fun s1 => ?_⟩
            · rw [if_pos s1] at d6; exact d6.symm
            · rw [if_neg s1] at d6; exact d6.symm
        have hk : ∀ a k, ¬ (a = 212 ∧ (k = 4 ∨ k = 6 ∨ k = 7)) → z_upd (z_upd μ' 212 6 own) 212 7 own a k = μ' a k := fun a k q => by rw [zu_f (by omega), zu_f (by omega)]
        have p4 : z_upd (z_upd μ' 212 6 own) 212 7 own 212 4 = μ' 212 4 := by rw [zu_k (by decide), zu_k (by decide)]
        have p6 : z_upd (z_upd μ' 212 6 own) 212 7 own 212 6 = own := by rw [zu_k (by decide), zu_s]
        have p7 : z_upd (z_upd μ' 212 6 own) 212 7 own 212 7 = own := zu_s
        refine ⟨hw, ?_⟩
        show if x3 ≤ 0 then P_X9_readFunction_84 G x2 x3 (z_upd (z_upd μ' 212 6 own) 212 7 own) K else P_X9_pass 59 (z_upd (z_upd μ' 212 6 own) 212 7 own) _
        generalize z_upd (z_upd μ' 212 6 own) 212 7 own = μ2 at hk p4 p6 p7 ⊢
        refine ifb (fun q => read μ2 hk (by omega) (by omega) p6 p7 ?_) (fun q => ?_)
        · have hac : acc = [] := List.length_eq_zero_iff.mp (by omega)
          rw [p4, hac, show x2 - x3 = x2 by omega]
          exact e10 (by omega)
        · have hx2' : ∀ a k, ¬ frk a k → μ2 a k = μ a k := fun a k q => (hk a k (by unfold frk at q; omega)).trans (e3 a k q)
          obtain ⟨q1, q2⟩ := e11 (by omega) (by omega)
          refine s_pass (hT.rd hx2') ⟨p4, e7, e8⟩ (fun s1 => if1 (read _ (fun a k q => ?_) ?_ ?_ ?_ ?_ ?_)) (fun s1 => if0 ⟨Or.inl rfl, ?_⟩)
          · rw [zu_f (by omega)]; exact hk a k q
          · rw [zu_s]; omega
          · rw [zu_s]; omega
          · rw [zu_k (by decide)]; exact p6
          · rw [zu_k (by decide)]; exact p7
          · rw [zu_s]; exact q1 s1
          · have hR' := q2 s1
            subst hR'
            exact h μ2 hx2' p4 (by omega) (by omega) (fun g => absurd rfl g)
      refine ifb (fun g1 => ⟨Or.inr rfl, ?_⟩) (fun g1 => ⟨Or.inl rfl, ?_⟩)
      · show if x3 = x2 then P_X9_readFunction_66 G x2 x3 1 (z_upd μ' 212 6 1) K else _
        rw [if_pos g1]
        exact body 1 (by rw [if_pos g1])
      · show if x3 = x2 then _ else P_X9_readFunction_66 G x2 x3 0 (z_upd μ' 212 6 0) K
        rw [if_neg g1]
        exact body 0 (by rw [if_neg g1])
  have hk : ∀ v : Int, ∀ a k, ¬ frk a k → z_upd (z_upd (z_upd (z_upd μ 212 4 0) 212 5 x1) 212 8 v) 212 9 0 a k = μ a k := fun v a k q => by
    unfold frk at q
    rw [zu_f (by omega), zu_f (by omega), zu_f (by omega), zu_f (by omega)]
  unfold P_X9_readFunction P_X9_readFunction_21
  simp only [z_wr]
  refine ifb (fun g => ⟨Or.inr rfl, Or.inl rfl, main _ (hk _) ?_ ?_ ?_ ?_⟩) (fun g => ⟨Or.inl rfl, Or.inl rfl, main _ (hk _) ?_ ?_ ?_ ?_⟩)
  · simp [z_upd]
  · simp [z_upd]
  · rw [if_pos g] at hy0; simp [z_upd, hy0]
  · simp [z_upd]
  · simp [z_upd]
  · simp [z_upd]
  · rw [if_neg g] at hy0; simp [z_upd, hy0]
  · simp [z_upd]
