theorem sg_s {g : Int → Int} {k : Int} (h : 0 ≤ k) : sg g (k + 1).toNat = sg g k.toNat + g k := by
  rw [show (k + 1).toNat = k.toNat + 1 by omega]
  show sg g k.toNat + g (k.toNat : Int) = _
  rw [show (k.toNat : Int) = k by omega]
theorem s_countTriples {fs : List Fn} {A B : List Int} {c v : Int} {μ : ZM} {K : Int → ZM → Prop} (ho : okF fs) (hF : CF μ fs) (hc : z_cm c) (hA : tx μ (6 * (c - 187) + 1) A) (hB : tx μ (6 * (c - 187) + 4) B) (oA : okT fs A) (oB : okT fs B) (lA : A.length ≤ 40) (lB : B.length ≤ 40) (h : ∀ μ', (∀ a k, ¬ evc a → μ' a k = μ a k) → K (sg (fun x => sg (fun y => sg (fun z => ic fs A B v x y z) 4) 4) 4) μ') : P_X2_countTriples c v μ K := by
  have b := hc
  unfold z_cm at b
  have bz : ∀ x y (n : Nat), 0 ≤ sg (fun z => ic fs A B v x y z) n ∧ sg (fun z => ic fs A B v x y z) n ≤ 1 * (n : Int) := fun x y n => sg_bd (by omega) (fun k => ic_bd)
  have by4 : ∀ x (n m : Nat), m ≤ 4 → 0 ≤ sg (fun y => sg (fun z => ic fs A B v x y z) m) n ∧ sg (fun y => sg (fun z => ic fs A B v x y z) m) n ≤ 4 * (n : Int) := fun x n m hm => sg_bd (by omega) (fun k => by have := bz x k m; omega)
  have bx4 : ∀ (l n m : Nat), m ≤ 4 → n ≤ 4 → 0 ≤ sg (fun x => sg (fun y => sg (fun z => ic fs A B v x y z) m) n) l ∧ sg (fun x => sg (fun y => sg (fun z => ic fs A B v x y z) m) n) l ≤ 16 * (l : Int) := fun l n m hm hn => sg_bd (by omega) (fun k => by have := by4 k n m hm; omega)
  have main : ∀ ux uy uz, ub A B 3 0 ux → ub A B 3 1 uy → ub A B 3 2 uz → P_X2_countTriples_42 c v ux uy uz μ K := by
    intro ux uy uz u0 u1 u2
    have b0 := ub_0 (by omega) u0
    have b1 := ub_0 (by omega) u1
    have b2 := ub_0 (by omega) u2
    have all := ic_all (fs := fs) (v := v) u0 u1 u2
    generalize hT : sg (fun x => sg (fun y => sg (fun z => ic fs A B v x y z) 4) 4) 4 = tot at all h
    unfold P_X2_countTriples_42
    refine z_lf2_ind (fun s x μ' => 0 ≤ x ∧ x ≤ ux + 1 ∧ (∀ a k, ¬ evc a → μ' a k = μ a k) ∧ s = sg (fun x => sg (fun y => sg (fun z => ic fs A B v x y z) (uz + 1).toNat) (uy + 1).toNat) x.toNat) (fun s x _ => (ux + 1 - x).toNat) ?_ 0 0 μ ⟨by omega, by omega, fun _ _ _ => rfl, rfl⟩
    intro s x μ1 G1 ⟨e1, e2, e3, e4⟩ hG1
    have d1 := bx4 x.toNat (uy + 1).toNat (uz + 1).toNat (by omega) (by omega)
    rw [← e4] at d1
    refine ifb (fun g => ?_) (fun g => ?_)
    · rw [show x = ux + 1 by omega] at e4
      rw [← e4] at all
      have fin : P_X2_countTriples_134 uy uz 4 s (mul4 ux) μ1 K := by
        have m0 : mul4 ux = 4 ∨ mul4 ux = 1 := by unfold mul4; split <;> simp
        have f2 : P_X2_countTriples_146 uz 4 (s * mul4 ux) (mul4 uy) μ1 K := by
          have m1 : mul4 uy = 4 ∨ mul4 uy = 1 := by unfold mul4; split <;> simp
          have m2 : mul4 uz = 4 ∨ mul4 uz = 1 := by unfold mul4; split <;> simp
          have z1 : 0 ≤ s * mul4 ux ∧ s * mul4 ux ≤ 256 := by rcases m0 with q | q <;> rw [q] <;> omega
          have z2 : 0 ≤ s * mul4 ux * mul4 uy ∧ s * mul4 ux * mul4 uy ≤ 1024 := by
            generalize s * mul4 ux = t at *
            rcases m1 with q | q <;> rw [q] <;> omega
          have z3 : 0 ≤ s * mul4 ux * mul4 uy * mul4 uz ∧ s * mul4 ux * mul4 uy * mul4 uz ≤ 4096 := by
            generalize s * mul4 ux * mul4 uy = t at *
            rcases m2 with q | q <;> rw [q] <;> omega
          refine ⟨⟨by omega, by omega⟩, ifb (fun q => ?_) (fun q => ?_)⟩
          · have : mul4 uz = 4 := by unfold mul4; rw [if_pos q]
            rw [this] at all z3
            rw [all] at z3 ⊢
            exact ⟨⟨by omega, by omega⟩, h μ1 e3⟩
          · have : mul4 uz = 1 := by unfold mul4; rw [if_neg q]
            rw [this] at all z3
            rw [all] at z3 ⊢
            exact ⟨⟨by omega, by omega⟩, h μ1 e3⟩
        have z1 : 0 ≤ s * mul4 ux ∧ s * mul4 ux ≤ 256 := by rcases m0 with q | q <;> rw [q] <;> omega
        refine ⟨⟨by omega, by omega⟩, ifb (fun q => ?_) (fun q => ?_)⟩
        · have : mul4 uy = 4 := by unfold mul4; rw [if_pos q]
          rw [this] at f2; exact f2
        · have : mul4 uy = 1 := by unfold mul4; rw [if_neg q]
          rw [this] at f2; exact f2
      refine ifb (fun q => ?_) (fun q => ?_)
      · have : mul4 ux = 4 := by unfold mul4; rw [if_pos q]
        rw [this] at fin; exact fin
      · have : mul4 ux = 1 := by unfold mul4; rw [if_neg q]
        rw [this] at fin; exact fin
    · refine z_lf2_ind (fun s y μ' => 0 ≤ y ∧ y ≤ uy + 1 ∧ (∀ a k, ¬ evc a → μ' a k = μ a k) ∧ s = sg (fun x => sg (fun y => sg (fun z => ic fs A B v x y z) (uz + 1).toNat) (uy + 1).toNat) x.toNat + sg (fun y => sg (fun z => ic fs A B v x y z) (uz + 1).toNat) y.toNat) (fun s y _ => (uy + 1 - y).toNat) ?_ s 0 μ1 ⟨by omega, by omega, e3, by rw [e4]; show _ = _ + (0 : Int); omega⟩
      intro s2 y μ2 G2 ⟨f1, f2, f3, f4⟩ hG2
      refine ifb (fun g' => ⟨⟨by omega, by omega⟩, hG1 _ _ _ ⟨by omega, by omega, f3, ?_⟩ (by omega)⟩) (fun g' => ?_)
      · rw [sg_s e1, f4, show y = uy + 1 by omega]
      · refine z_lf2_ind (fun s z μ' => 0 ≤ z ∧ z ≤ uz + 1 ∧ (∀ a k, ¬ evc a → μ' a k = μ a k) ∧ s = sg (fun x => sg (fun y => sg (fun z => ic fs A B v x y z) (uz + 1).toNat) (uy + 1).toNat) x.toNat + sg (fun y => sg (fun z => ic fs A B v x y z) (uz + 1).toNat) y.toNat + sg (fun z => ic fs A B v x y z) z.toNat) (fun s z _ => (uz + 1 - z).toNat) ?_ s2 0 μ2 ⟨by omega, by omega, f3, by rw [f4]; show _ = _ + (0 : Int); omega⟩
        intro s3 z μ3 G3 ⟨k1, k2, k3, k4⟩ hG3
        refine ifb (fun g'' => ⟨⟨by omega, by omega⟩, hG2 _ _ _ ⟨by omega, by omega, k3, ?_⟩ (by omega)⟩) (fun g'' => ?_)
        · rw [sg_s (k := y) f1, k4, show z = uz + 1 by omega]
          omega
        · have F3 : CF μ3 fs := hF.fr (fun a ha k => k3 _ _ (by unfold evc; omega)) (k3 _ _ (by unfold evc; omega))
          refine s_compare (A := A) (B := B) ho F3 hc ⟨(k3 _ _ (by unfold evc; omega)).trans hA.1, hA.2.ex (fun i _ _ => k3 _ _ (by unfold evc; omega))⟩ ⟨(k3 _ _ (by unfold evc; omega)).trans hB.1, hB.2.ex (fun i _ _ => k3 _ _ (by unfold evc; omega))⟩ oA oB lA lB (by omega) (by omega) (by omega) (fun μ4 q => ?_)
          have fr4 : ∀ a k, ¬ evc a → μ4 a k = μ a k := fun a k p1 => (q a k p1).trans (k3 a k p1)
          have d2 := by4 x y.toNat (uz + 1).toNat (by omega)
          have d3 := bz x y z.toNat
          have fin : ∀ r : Int, r = ic fs A B v x y z → P_X2_countTriples_98 G1 G2 G3 c v ux uy uz x y z s3 r μ4 K := by
            intro r hr
            have hb : 0 ≤ r ∧ r ≤ 1 := by rw [hr]; exact ic_bd
            refine ⟨⟨by omega, by omega⟩, ⟨by omega, by omega⟩, hG3 _ _ _ ⟨by omega, by omega, fr4, ?_⟩ (by omega)⟩
            rw [sg_s k1, k4, hr]
            omega
          exact ifb (fun q => fin 1 (by unfold ic; rw [if_pos q])) (fun q => fin 0 (by unfold ic; rw [if_neg q]))
  refine ⟨hc, s_has0 hc (by omega) hA hB lA lB (fun q0 => if1 ?_) (fun q0 => if0 ?_)⟩
  · refine s_has0 hc (by omega) hA hB lA lB (fun q1 => if1 ?_) (fun q1 => if0 ?_)
    · refine s_has0 hc (by omega) hA hB lA lB (fun q2 => if1 ?_) (fun q2 => if0 ?_)
      · exact main 3 3 3 ⟨fun _ => rfl, fun p => absurd q0 p⟩ ⟨fun _ => rfl, fun p => absurd q1 p⟩ ⟨fun _ => rfl, fun p => absurd q2 p⟩
      · exact main 3 3 0 ⟨fun _ => rfl, fun p => absurd q0 p⟩ ⟨fun _ => rfl, fun p => absurd q1 p⟩ ⟨fun p => absurd p q2, fun _ => rfl⟩
    · refine s_has0 hc (by omega) hA hB lA lB (fun q2 => if1 ?_) (fun q2 => if0 ?_)
      · exact main 3 0 3 ⟨fun _ => rfl, fun p => absurd q0 p⟩ ⟨fun p => absurd p q1, fun _ => rfl⟩ ⟨fun _ => rfl, fun p => absurd q2 p⟩
      · exact main 3 0 0 ⟨fun _ => rfl, fun p => absurd q0 p⟩ ⟨fun p => absurd p q1, fun _ => rfl⟩ ⟨fun p => absurd p q2, fun _ => rfl⟩
  · refine s_has0 hc (by omega) hA hB lA lB (fun q1 => if1 ?_) (fun q1 => if0 ?_)
    · refine s_has0 hc (by omega) hA hB lA lB (fun q2 => if1 ?_) (fun q2 => if0 ?_)
      · exact main 0 3 3 ⟨fun p => absurd p q0, fun _ => rfl⟩ ⟨fun _ => rfl, fun p => absurd q1 p⟩ ⟨fun _ => rfl, fun p => absurd q2 p⟩
      · exact main 0 3 0 ⟨fun p => absurd p q0, fun _ => rfl⟩ ⟨fun _ => rfl, fun p => absurd q1 p⟩ ⟨fun p => absurd p q2, fun _ => rfl⟩
    · refine s_has0 hc (by omega) hA hB lA lB (fun q2 => if1 ?_) (fun q2 => if0 ?_)
      · exact main 0 0 3 ⟨fun p => absurd p q0, fun _ => rfl⟩ ⟨fun p => absurd p q1, fun _ => rfl⟩ ⟨fun _ => rfl, fun p => absurd q2 p⟩
      · exact main 0 0 0 ⟨fun p => absurd p q0, fun _ => rfl⟩ ⟨fun p => absurd p q1, fun _ => rfl⟩ ⟨fun p => absurd p q2, fun _ => rfl⟩
