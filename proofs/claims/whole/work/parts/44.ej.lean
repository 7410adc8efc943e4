/-! ===== counter ===== -/
theorem mem_gt {T : List Int} {v : Int} : v ∈ T ↔ ∃ i : Int, 0 ≤ i ∧ i < (T.length : Int) ∧ gt T i = v := by
  constructor
  · intro h
    obtain ⟨i, h1, h2⟩ := List.getElem_of_mem h
    refine ⟨(i : Int), by omega, by omega, ?_⟩
    unfold gt
    rw [show (i : Int).toNat = i by omega, List.getD_eq_getElem?_getD, List.getElem?_eq_getElem h1]
    exact h2
  · rintro ⟨i, h1, h2, h3⟩
    rw [← h3]
    unfold gt
    rw [List.getD_eq_getElem?_getD, List.getElem?_eq_getElem (by omega)]
    exact List.getElem_mem _
theorem s_has {t v : Int} {T : List Int} {μ : ZM} {K : Int → ZM → Prop} (ht : z_tm t) (hT : tx μ t T) (hl : T.length ≤ 40) (h1 : v ∈ T → K 1 μ) (h0 : ¬ v ∈ T → K 0 μ) : P_X10_has t v μ K := by
  refine ⟨ht, ?_⟩
  refine z_lf1_ind (fun i μ' => μ' = μ ∧ 0 ≤ i ∧ i ≤ (T.length : Int) ∧ ∀ j : Int, 0 ≤ j → j < i → gt T j ≠ v) (fun i _ => ((T.length : Int) - i).toNat) ?_ 0 μ ⟨rfl, by omega, by omega, fun j q1 q2 => absurd q2 (by omega)⟩
  intro i μ' G ⟨e1, e2, e3, e4⟩ hG
  subst e1
  have hs := hT.1
  refine ifb (fun g => ⟨Or.inl rfl, h0 (fun q => ?_)⟩) (fun g => ⟨by omega, ?_⟩)
  · obtain ⟨j, j1, j2, j3⟩ := mem_gt.mp q
    exact e4 j j1 (by omega) j3
  · rw [hT.2 i e2 (by omega)]
    refine ifb (fun g1 => ⟨Or.inr rfl, h1 (mem_gt.mpr ⟨i, e2, by omega, g1⟩)⟩) (fun g1 => ⟨⟨by omega, by omega⟩, hG _ _ ⟨rfl, by omega, by omega, fun j q1 q2 => ?_⟩ (by omega)⟩)
    by_cases ej : j = i
    · rw [ej]; exact g1
    · exact e4 j q1 (by omega)
theorem s_hasSign {s v : Int} {T : List Int} {μ : ZM} {K : Int → ZM → Prop} (hs : 0 ≤ s ∧ s < 44) (hT : Sl μ s T) (hl : T.length ≤ 40) (h1 : v ∈ T → K 1 μ) (h0 : ¬ v ∈ T → K 0 μ) : P_X12_hasSign s v μ K := by
  refine z_lf1_ind (fun i μ' => μ' = μ ∧ 0 ≤ i ∧ i ≤ (T.length : Int) ∧ ∀ j : Int, 0 ≤ j → j < i → gt T j ≠ v) (fun i _ => ((T.length : Int) - i).toNat) ?_ 0 μ ⟨rfl, by omega, by omega, fun j q1 q2 => absurd q2 (by omega)⟩
  intro i μ' G ⟨e1, e2, e3, e4⟩ hG
  subst e1
  have hz := hT.1
  refine ⟨hs, ifb (fun g => ⟨Or.inl rfl, h0 (fun q => ?_)⟩) (fun g => s_at hs (by omega) ?_)⟩
  · obtain ⟨j, j1, j2, j3⟩ := mem_gt.mp q
    exact e4 j j1 (by omega) j3
  · have := hT.2 i e2 (by omega)
    dsimp only at this
    rw [this]
    refine ifb (fun g1 => ⟨Or.inr rfl, h1 (mem_gt.mpr ⟨i, e2, by omega, g1⟩)⟩) (fun g1 => ⟨⟨by omega, by omega⟩, hG _ _ ⟨rfl, by omega, by omega, fun j q1 q2 => ?_⟩ (by omega)⟩)
    by_cases ej : j = i
    · rw [ej]; exact g1
    · exact e4 j q1 (by omega)
/-- the claim speaks of variable v -/
def hv (A B : List Int) (v : Int) : Prop := 120 + v ∈ A ∨ 120 + v ∈ B
theorem s_has0 {c v : Int} {A B : List Int} {μ : ZM} {K : Int → ZM → Prop} (hc : z_cm c) (hv0 : 0 ≤ v ∧ v ≤ 2) (hA : tx μ (6 * (c - 187) + 1) A) (hB : tx μ (6 * (c - 187) + 4) B) (lA : A.length ≤ 40) (lB : B.length ≤ 40) (h1 : hv A B v → K 1 μ) (h0 : ¬ hv A B v → K 0 μ) : P_X0_has c v μ K := by
  have b := hc
  unfold z_cm at b
  have zz : zin (120 + v) := ⟨by omega, by omega⟩
  refine ⟨hc, zz, s_has (by unfold z_tm; omega) hA lA (fun q => if1 ⟨Or.inr rfl, h1 (Or.inl q)⟩) (fun q => if0 ⟨zz, s_has (by unfold z_tm; omega) hB lB (fun q1 => if1 ⟨Or.inr rfl, h1 (Or.inr q1)⟩) (fun q1 => if0 ⟨Or.inl rfl, h0 (fun p => p.elim q q1)⟩)⟩)⟩
theorem s_upTo {s s' v : Int} {A B : List Int} {μ : ZM} {K : Int → ZM → Prop} (hs : 0 ≤ s ∧ s < 44) (hs' : 0 ≤ s' ∧ s' < 44) (hv0 : 0 ≤ v ∧ v ≤ 2) (hA : Sl μ s A) (hB : Sl μ s' B) (lA : A.length ≤ 40) (lB : B.length ≤ 40) (h1 : hv A B v → K 2 μ) (h0 : ¬ hv A B v → K 0 μ) : P_X12_upTo s s' v μ K := by
  have zz : zin (120 + v) := ⟨by omega, by omega⟩
  refine ⟨zz, s_hasSign hs hA lA (fun q => if1 (h1 (Or.inl q))) (fun q => if0 ⟨zz, s_hasSign hs' hB lB (fun q1 => if1 (h1 (Or.inr q1))) (fun q1 => if0 (h0 (fun p => p.elim q q1)))⟩)⟩
/-- u is the bound of variable v -/
def ub (A B : List Int) (m v u : Int) : Prop := (hv A B v → u = m) ∧ (¬ hv A B v → u = 0)
theorem ub_0 {A B : List Int} {m v u : Int} (hm : 0 ≤ m) (h : ub A B m v u) : 0 ≤ u ∧ u ≤ m := by
  by_cases q : hv A B v
  · rw [h.1 q]; omega
  · rw [h.2 q]; omega
theorem ub_u {A B : List Int} {m v u u' : Int} (h : ub A B m v u) (h' : ub A B m v u') : u = u' := by
  by_cases q : hv A B v
  · rw [h.1 q, h'.1 q]
  · rw [h.2 q, h'.2 q]
def bad (fs : List Fn) (A B : List Int) (x y z : Int) : Prop := cmp fs A B x y z = 0
def rg (ux uy uz x y z : Int) : Prop := (0 ≤ x ∧ x ≤ ux) ∧ (0 ≤ y ∧ y ≤ uy) ∧ (0 ≤ z ∧ z ≤ uz)
def fst3 (fs : List Fn) (A B : List Int) (ux uy uz x y z : Int) : Prop := rg ux uy uz x y z ∧ bad fs A B x y z ∧ ∀ x' y' z', rg ux uy uz x' y' z' → 9 * x' + 3 * y' + z' < 9 * x + 3 * y + z → ¬ bad fs A B x' y' z'
theorem s_refutes {fs : List Fn} {A B : List Int} {c : Int} {μ : ZM} {K : Int → ZM → Prop} (ho : okF fs) (hF : CF μ fs) (hc : z_cm c) (hA : tx μ (6 * (c - 187) + 1) A) (hB : tx μ (6 * (c - 187) + 4) B) (oA : okT fs A) (oB : okT fs B) (lA : A.length ≤ 40) (lB : B.length ≤ 40) (h1 : ∀ μ' ux uy uz x y z, (∀ a k, ¬ evc a → a ≠ 216 → μ' a k = μ a k) → ub A B 2 0 ux → ub A B 2 1 uy → ub A B 2 2 uz → fst3 fs A B ux uy uz x y z → μ' 216 0 = x → μ' 216 1 = y → μ' 216 2 = z → K 1 μ') (h0 : ∀ μ' ux uy uz, (∀ a k, ¬ evc a → a ≠ 216 → μ' a k = μ a k) → ub A B 2 0 ux → ub A B 2 1 uy → ub A B 2 2 uz → (∀ x y z, rg ux uy uz x y z → ¬ bad fs A B x y z) → K 0 μ') : P_X2_refutes c μ K := by
  have b := hc
  unfold z_cm at b
  have main : ∀ ux uy uz, ub A B 2 0 ux → ub A B 2 1 uy → ub A B 2 2 uz → P_X2_refutes_41 c ux uy uz μ K := by
    intro ux uy uz u0 u1 u2
    have b0 := ub_0 (by omega) u0
    have b1 := ub_0 (by omega) u1
    have b2 := ub_0 (by omega) u2
    unfold P_X2_refutes_41
    refine z_lf1_ind (fun x μ' => 0 ≤ x ∧ x ≤ ux + 1 ∧ (∀ a k, ¬ evc a → a ≠ 216 → μ' a k = μ a k) ∧ ∀ x' y' z', rg ux uy uz x' y' z' → x' < x → ¬ bad fs A B x' y' z') (fun x _ => (ux + 1 - x).toNat) ?_ 0 μ ⟨by omega, by omega, fun _ _ _ _ => rfl, fun x' y' z' q q1 => absurd q1 (by unfold rg at q; omega)⟩
    intro x μ1 G1 ⟨e1, e2, e3, e4⟩ hG1
    refine ifb (fun g => ⟨Or.inl rfl, h0 μ1 ux uy uz e3 u0 u1 u2 (fun x' y' z' q => e4 x' y' z' q (by unfold rg at q; omega))⟩) (fun g => ?_)
    refine z_lf1_ind (fun y μ' => 0 ≤ y ∧ y ≤ uy + 1 ∧ (∀ a k, ¬ evc a → a ≠ 216 → μ' a k = μ a k) ∧ ∀ x' y' z', rg ux uy uz x' y' z' → x' < x ∨ (x' = x ∧ y' < y) → ¬ bad fs A B x' y' z') (fun y _ => (uy + 1 - y).toNat) ?_ 0 μ1 ⟨by omega, by omega, e3, fun x' y' z' q q1 => e4 x' y' z' q (by unfold rg at q; omega)⟩
    intro y μ2 G2 ⟨f1, f2, f3, f4⟩ hG2
    refine ifb (fun g' => ⟨⟨by omega, by omega⟩, hG1 _ _ ⟨by omega, by omega, f3, fun x' y' z' q q1 => f4 x' y' z' q (by unfold rg at q; omega)⟩ (by omega)⟩) (fun g' => ?_)
    refine z_lf1_ind (fun z μ' => 0 ≤ z ∧ z ≤ uz + 1 ∧ (∀ a k, ¬ evc a → a ≠ 216 → μ' a k = μ a k) ∧ ∀ x' y' z', rg ux uy uz x' y' z' → x' < x ∨ (x' = x ∧ (y' < y ∨ (y' = y ∧ z' < z))) → ¬ bad fs A B x' y' z') (fun z _ => (uz + 1 - z).toNat) ?_ 0 μ2 ⟨by omega, by omega, f3, fun x' y' z' q q1 => f4 x' y' z' q (by unfold rg at q; omega)⟩
    intro z μ3 G3 ⟨k1, k2, k3, k4⟩ hG3
    refine ifb (fun g'' => ⟨⟨by omega, by omega⟩, hG2 _ _ ⟨by omega, by omega, k3, fun x' y' z' q q1 => k4 x' y' z' q (by unfold rg at q; omega)⟩ (by omega)⟩) (fun g'' => ?_)
    have F3 : CF μ3 fs := hF.fr (fun a ha k => k3 _ _ (by unfold evc; omega) (by omega)) (k3 _ _ (by unfold evc; omega) (by omega))
    refine s_compare (A := A) (B := B) ho F3 hc ⟨(k3 _ _ (by unfold evc; omega) (by omega)).trans hA.1, hA.2.ex (fun i _ _ => k3 _ _ (by unfold evc; omega) (by omega))⟩ ⟨(k3 _ _ (by unfold evc; omega) (by omega)).trans hB.1, hB.2.ex (fun i _ _ => k3 _ _ (by unfold evc; omega) (by omega))⟩ oA oB lA lB (by omega) (by omega) (by omega) (fun μ4 q => ?_)
    have fr4 : ∀ a k, ¬ evc a → a ≠ 216 → μ4 a k = μ a k := fun a k p1 p2 => (q a k p1).trans (k3 a k p1 p2)
    refine ifb (fun g3 => ⟨by omega, by omega, by omega, Or.inr rfl, h1 _ ux uy uz x y z (fun a k p1 p2 => ?_) u0 u1 u2 ⟨by unfold rg; omega, g3, fun x' y' z' p p1 => k4 x' y' z' p (by unfold rg at p; omega)⟩ ?_ ?_ ?_⟩) (fun g3 => ⟨⟨by omega, by omega⟩, hG3 _ _ ⟨by omega, by omega, fr4, fun x' y' z' p p1 => ?_⟩ (by omega)⟩)
    · rw [zu_n p2, zu_n p2, zu_n p2]; exact fr4 a k p1 p2
    · simp [z_upd]
    · simp [z_upd]
    · simp [z_upd]
    · by_cases pe : x' = x ∧ y' = y ∧ z' = z
      · obtain ⟨p3, p4, p5⟩ := pe
        subst p3 p4 p5
        exact g3
      · exact k4 x' y' z' p (by omega)
  refine ⟨hc, s_has0 hc (by omega) hA hB lA lB (fun q0 => if1 ?_) (fun q0 => if0 ?_)⟩
  · refine s_has0 hc (by omega) hA hB lA lB (fun q1 => if1 ?_) (fun q1 => if0 ?_)
    · refine s_has0 hc (by omega) hA hB lA lB (fun q2 => if1 ?_) (fun q2 => if0 ?_)
      · exact main 2 2 2 ⟨fun _ => rfl, fun p => absurd q0 p⟩ ⟨fun _ => rfl, fun p => absurd q1 p⟩ ⟨fun _ => rfl, fun p => absurd q2 p⟩
      · exact main 2 2 0 ⟨fun _ => rfl, fun p => absurd q0 p⟩ ⟨fun _ => rfl, fun p => absurd q1 p⟩ ⟨fun p => absurd p q2, fun _ => rfl⟩
    · refine s_has0 hc (by omega) hA hB lA lB (fun q2 => if1 ?_) (fun q2 => if0 ?_)
      · exact main 2 0 2 ⟨fun _ => rfl, fun p => absurd q0 p⟩ ⟨fun p => absurd p q1, fun _ => rfl⟩ ⟨fun _ => rfl, fun p => absurd q2 p⟩
      · exact main 2 0 0 ⟨fun _ => rfl, fun p => absurd q0 p⟩ ⟨fun p => absurd p q1, fun _ => rfl⟩ ⟨fun p => absurd p q2, fun _ => rfl⟩
  · refine s_has0 hc (by omega) hA hB lA lB (fun q1 => if1 ?_) (fun q1 => if0 ?_)
    · refine s_has0 hc (by omega) hA hB lA lB (fun q2 => if1 ?_) (fun q2 => if0 ?_)
      · exact main 0 2 2 ⟨fun p => absurd p q0, fun _ => rfl⟩ ⟨fun _ => rfl, fun p => absurd q1 p⟩ ⟨fun _ => rfl, fun p => absurd q2 p⟩
      · exact main 0 2 0 ⟨fun p => absurd p q0, fun _ => rfl⟩ ⟨fun _ => rfl, fun p => absurd q1 p⟩ ⟨fun p => absurd p q2, fun _ => rfl⟩
    · refine s_has0 hc (by omega) hA hB lA lB (fun q2 => if1 ?_) (fun q2 => if0 ?_)
      · exact main 0 0 2 ⟨fun p => absurd p q0, fun _ => rfl⟩ ⟨fun p => absurd p q1, fun _ => rfl⟩ ⟨fun _ => rfl, fun p => absurd q2 p⟩
      · exact main 0 0 0 ⟨fun p => absurd p q0, fun _ => rfl⟩ ⟨fun p => absurd p q1, fun _ => rfl⟩ ⟨fun p => absurd p q2, fun _ => rfl⟩
