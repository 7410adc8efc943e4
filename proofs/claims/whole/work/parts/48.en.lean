theorem cmp_3 {fs : List Fn} {A B : List Int} {x y z : Int} : cmp fs A B x y z = -9 ∨ cmp fs A B x y z = 0 ∨ cmp fs A B x y z = 1 := by
  unfold cmp
  repeat' split
  all_goals omega
theorem gl_mem {ls : List (List Int × List Int)} {k : Int} (h1 : 0 ≤ k) (h2 : k < (ls.length : Int)) : gl ls k ∈ ls := by
  unfold gl
  rw [List.getD_eq_getElem?_getD, List.getElem?_eq_getElem (by omega)]
  exact List.getElem_mem _
theorem op_tested {x1 x2 : Int} {μ : ZM} (hI : Inv μ) {K : Int → ZM → Prop} (hK : ∀ r μ1, Ans (P_X12_tested x1 x2 μ1) r → K r μ1) : P_X11_tested x1 x2 μ K := by
  have hI0 := hI
  obtain ⟨tp, fs, cl, ls, nt, cs, hc, hm, ho⟩ := hI
  obtain ⟨c1, c2, c3, c4, c5, c6, c7⟩ := id hc
  obtain ⟨m1, m2, m3, m4, m5, m6⟩ := id hm
  have key : ∀ r : Int, (∀ K' : Int → ZM → Prop, K' r μ → P_X12_tested x1 x2 μ K') → K r μ := fun r h => hK _ _ (Ans.same hI0 h)
  have a1 := c4.1
  have a2 := c4.2.1
  have b1 := m4.1
  have zz : zin (μ 248 35 - 1) := ⟨by omega, by omega⟩
  refine ⟨⟨by omega, by omega⟩, s_out (fun h => if1 (key _ (fun K' h' => ⟨zz, s_wi (fun g => absurd g (by omega)) (fun _ => ⟨Or.inl rfl, if0 h'⟩)⟩))) (fun h => if0 (s_out (fun h1 => if1 (key _ (fun K' h' => ⟨zz, s_wi (fun _ => ⟨Or.inr rfl, if1 (s_wi (fun g => absurd g (by omega)) (fun _ => if0 h'))⟩) (fun g => absurd g (by omega))⟩))) (fun h1 => if0 ?_)))⟩
  have hmem := gl_mem (ls := ls) (k := x1) (by omega) (by omega)
  obtain ⟨o1, o2, o3, o4⟩ := ho.2.2 _ hmem
  obtain ⟨t1, t2⟩ := c4.2.2 x1 (by omega) (by omega)
  have run : ∀ v : Int, v = (if x2 = 0 then 1 else if x2 = 1 then 0 else -9) → P_X11_tested_48 x1 v μ K := by
    intro v hv
    refine ⟨by omega, s_countTriples (A := (gl ls x1).1) (B := (gl ls x1).2) ho.1 c2 (by unfold z_cm; omega) ?_ ?_ o1 o2 o3 o4 (fun μ1 e1 => hK _ _ (fun K' hK' => ?_))⟩
    · rw [show 6 * (187 + 1 * x1 - 187) + 1 = 6 * x1 + 1 by omega]; exact ⟨t1.1, t1.2.1⟩
    · rw [show 6 * (187 + 1 * x1 - 187) + 4 = 6 * x1 + 4 by omega]; exact ⟨t2.1, t2.2.1⟩
    · have hm1 : RM μ1 tp fs cl ls nt cs := hm.fr (fun a k h => e1 a k (by unfold evc; omega))
      have hc1 : RC μ1 tp fs cl ls nt cs := hc.ev (fun a k h _ _ => e1 a k h)
      have b2 := hm1.2.2.2.1.1
      obtain ⟨q1, q2⟩ := hm1.2.2.2.1.2.2 x1 (by omega) (by omega)
      refine ⟨⟨by omega, by omega⟩, s_wi (fun _ => ⟨Or.inr rfl, if1 (s_wi (fun _ => if1 ?_) (fun g => absurd h1 g))⟩) (fun g => absurd g (by omega))⟩
      rw [← sg_64] at hK'
      refine z_lf2_ind (fun s m μ' => 0 ≤ m ∧ m ≤ 64 ∧ (∀ a k, ¬ evm a k → μ' a k = μ1 a k) ∧ s = sg (fun m => ic fs (gl ls x1).1 (gl ls x1).2 v (m / 16) (m / 4 % 4) (m % 4)) m.toNat) (fun s m _ => (64 - m).toNat) ?_ 0 0 μ1 ⟨by omega, by omega, fun _ _ _ => rfl, rfl⟩
      intro s m μ2 G ⟨e2, e3, e4, e5⟩ hG
      have hbd := sg_bd (b := 1) (by omega) (n := m.toNat) (g := fun m => ic fs (gl ls x1).1 (gl ls x1).2 v (m / 16) (m / 4 % 4) (m % 4)) (fun k => ic_bd)
      rw [← e5] at hbd
      refine ifb (fun g => ?_) (fun g => ?_)
      · rw [show m = 64 by omega] at e5
        rw [e5]
        exact hK' _ ⟨tp, fs, cl, ls, nt, cs, hc1.frM (fun a k h => e4 a k (by unfold evm; omega)), hm1.ev ho e4, ho⟩
      · refine ⟨⟨by omega, by omega⟩, ⟨by omega, by omega⟩, ⟨by omega, by omega⟩, ⟨by omega, by omega⟩, ⟨by omega, by omega⟩, by omega, by omega, by omega, by omega, s_holdsBy (A := (gl ls x1).1) (B := (gl ls x1).2) ho.1 (hm1.2.1.ev1 e4) (by omega) (by omega) (q1.ev1 e4) (q2.ev1 e4) o1 o2 o3 o4 (by omega) (by omega) (by omega) (fun μ3 e6 => ?_)⟩
        have fr : ∀ a k, ¬ evm a k → μ3 a k = μ1 a k := fun a k q => (e6 a k q).trans (e4 a k q)
        have fin : ∀ r : Int, r = ic fs (gl ls x1).1 (gl ls x1).2 v (m / 16) (m / 4 % 4) (m % 4) → P_X12_tested_94 G x1 x2 m s r μ3 K' := by
          intro r hr
          have hb : 0 ≤ r ∧ r ≤ 1 := by rw [hr]; exact ic_bd
          refine ⟨⟨by omega, by omega⟩, ⟨by omega, by omega⟩, hG _ _ _ ⟨by omega, by omega, fr, ?_⟩ (by omega)⟩
          rw [sg_s e2, ← e5, hr]
        have h3 := cmp_3 (fs := fs) (A := (gl ls x1).1) (B := (gl ls x1).2) (x := m / 16) (y := m / 4 % 4) (z := m % 4)
        have fin2 : ∀ u : Int, (u = x2 ↔ cmp fs (gl ls x1).1 (gl ls x1).2 (m / 16) (m / 4 % 4) (m % 4) = v) → P_X12_tested_85 G x1 x2 m s u μ3 K' := by
          intro u hu
          refine ifb (fun q => fin 1 ?_) (fun q => fin 0 ?_)
          · unfold ic; rw [if_pos (hu.mp q)]
          · unfold ic; rw [if_neg (fun p => q (hu.mpr p))]
        have hv3 : (x2 = 0 ∧ v = 1) ∨ (x2 = 1 ∧ v = 0) ∨ (x2 = 2 ∧ v = -9) := by
          by_cases p : x2 = 0
          · rw [if_pos p] at hv; omega
          · rw [if_neg p] at hv
            by_cases p1 : x2 = 1
            · rw [if_pos p1] at hv; omega
            · rw [if_neg p1] at hv; omega
        refine ifb (fun q => fin2 2 (by omega)) (fun q => ⟨⟨by omega, by omega⟩, fin2 _ (by omega)⟩)
  refine ifb (fun q => run 1 (by rw [if_pos q])) (fun q => ifb (fun q1 => run 0 (by rw [if_neg q, if_pos q1])) (fun q1 => run (-9) (by rw [if_neg q, if_neg q1])))
