theorem Sl.ev1 {μ μ' : ZM} {s : Int} {T : List Int} (h : Sl μ s T) (e : ∀ a k, ¬ evm a k → μ' a k = μ a k) : Sl μ' s T := h.ex (e _ _ (by unfold evm; omega)) (fun i _ _ => e _ _ (by unfold evm; omega))
theorem s_counterexample {fs : List Fn} {A B : List Int} {s s' : Int} {μ : ZM} {K : Int → ZM → Prop} (ho : okF fs) (hF : MF μ fs) (hs : 0 ≤ s ∧ s < 44) (hs' : 0 ≤ s' ∧ s' < 44) (hA : Sl μ s A) (hB : Sl μ s' B) (oA : okT fs A) (oB : okT fs B) (lA : A.length ≤ 40) (lB : B.length ≤ 40) (h1 : ∀ μ' ux uy uz x y z, (∀ a k, ¬ evm a k → μ' a k = μ a k) → ub A B 2 0 ux → ub A B 2 1 uy → ub A B 2 2 uz → fst3 fs A B ux uy uz x y z → K (9 * x + 3 * y + z) μ') (h0 : ∀ μ' ux uy uz, (∀ a k, ¬ evm a k → μ' a k = μ a k) → ub A B 2 0 ux → ub A B 2 1 uy → ub A B 2 2 uz → (∀ x y z, rg ux uy uz x y z → ¬ bad fs A B x y z) → K (-9) μ') : P_X12_counterexample s s' μ K := by
  have ex : ∀ v : Int, ∃ u, ub A B 2 v u := by
    intro v
    by_cases q : hv A B v
    · exact ⟨2, fun _ => rfl, fun p => absurd q p⟩
    · exact ⟨0, fun p => absurd p q, fun _ => rfl⟩
  obtain ⟨ux, u0⟩ := ex 0
  obtain ⟨uy, u1⟩ := ex 1
  obtain ⟨uz, u2⟩ := ex 2
  have b0 := ub_0 (by omega) u0
  have b1 := ub_0 (by omega) u1
  have b2 := ub_0 (by omega) u2
  have up : ∀ (v u : Int) (μ' : ZM) (K' : Int → ZM → Prop), 0 ≤ v ∧ v ≤ 2 → ub A B 2 v u → (∀ a k, ¬ evm a k → μ' a k = μ a k) → K' u μ' → P_X12_upTo s s' v μ' K' := by
    intro v u μ' K' hv0 hu e hk
    refine s_upTo hs hs' hv0 (hA.ev1 e) (hB.ev1 e) lA lB (fun q => ?_) (fun q => ?_)
    · rw [← hu.1 q]; exact hk
    · rw [← hu.2 q]; exact hk
  unfold P_X12_counterexample
  refine z_lf1_ind (fun x μ' => 0 ≤ x ∧ x ≤ ux + 1 ∧ (∀ a k, ¬ evm a k → μ' a k = μ a k) ∧ ∀ x' y' z', rg ux uy uz x' y' z' → x' < x → ¬ bad fs A B x' y' z') (fun x _ => (ux + 1 - x).toNat) ?_ 0 μ ⟨by omega, by omega, fun _ _ _ => rfl, fun x' y' z' q q1 => absurd q1 (by unfold rg at q; omega)⟩
  intro x μ1 G1 ⟨e1, e2, e3, e4⟩ hG1
  refine up 0 ux μ1 _ (by omega) u0 e3 (ifb (fun g => h0 μ1 ux uy uz e3 u0 u1 u2 (fun x' y' z' q => e4 x' y' z' q (by unfold rg at q; omega))) (fun g => ?_))
  refine z_lf1_ind (fun y μ' => 0 ≤ y ∧ y ≤ uy + 1 ∧ (∀ a k, ¬ evm a k → μ' a k = μ a k) ∧ ∀ x' y' z', rg ux uy uz x' y' z' → x' < x ∨ (x' = x ∧ y' < y) → ¬ bad fs A B x' y' z') (fun y _ => (uy + 1 - y).toNat) ?_ 0 μ1 ⟨by omega, by omega, e3, fun x' y' z' q q1 => e4 x' y' z' q (by unfold rg at q; omega)⟩
  intro y μ2 G2 ⟨f1, f2, f3, f4⟩ hG2
  refine up 1 uy μ2 _ (by omega) u1 f3 (ifb (fun g' => ⟨⟨by omega, by omega⟩, hG1 _ _ ⟨by omega, by omega, f3, fun x' y' z' q q1 => f4 x' y' z' q (by unfold rg at q; omega)⟩ (by omega)⟩) (fun g' => ?_))
  refine z_lf1_ind (fun z μ' => 0 ≤ z ∧ z ≤ uz + 1 ∧ (∀ a k, ¬ evm a k → μ' a k = μ a k) ∧ ∀ x' y' z', rg ux uy uz x' y' z' → x' < x ∨ (x' = x ∧ (y' < y ∨ (y' = y ∧ z' < z))) → ¬ bad fs A B x' y' z') (fun z _ => (uz + 1 - z).toNat) ?_ 0 μ2 ⟨by omega, by omega, f3, fun x' y' z' q q1 => f4 x' y' z' q (by unfold rg at q; omega)⟩
  intro z μ3 G3 ⟨k1, k2, k3, k4⟩ hG3
  refine up 2 uz μ3 _ (by omega) u2 k3 (ifb (fun g'' => ⟨⟨by omega, by omega⟩, hG2 _ _ ⟨by omega, by omega, k3, fun x' y' z' q q1 => k4 x' y' z' q (by unfold rg at q; omega)⟩ (by omega)⟩) (fun g'' => ?_))
  refine s_holdsBy (A := A) (B := B) ho (hF.ev1 k3) hs hs' (hA.ev1 k3) (hB.ev1 k3) oA oB lA lB (by omega) (by omega) (by omega) (fun μ4 q => ?_)
  have fr4 : ∀ a k, ¬ evm a k → μ4 a k = μ a k := fun a k p1 => (q a k p1).trans (k3 a k p1)
  refine ifb (fun g3 => ⟨⟨by omega, by omega⟩, ⟨by omega, by omega⟩, ⟨by omega, by omega⟩, ⟨by omega, by omega⟩, h1 _ ux uy uz x y z fr4 u0 u1 u2 ⟨by unfold rg; omega, g3, fun x' y' z' p p1 => k4 x' y' z' p (by unfold rg at p; omega)⟩⟩) (fun g3 => ⟨⟨by omega, by omega⟩, hG3 _ _ ⟨by omega, by omega, fr4, fun x' y' z' p p1 => ?_⟩ (by omega)⟩)
  by_cases pe : x' = x ∧ y' = y ∧ z' = z
  · obtain ⟨p3, p4, p5⟩ := pe
    subst p3 p4 p5
    exact g3
  · exact k4 x' y' z' p (by omega)
theorem fst3_u {fs : List Fn} {A B : List Int} {ux uy uz x y z x' y' z' : Int} (hu : ux ≤ 2 ∧ uy ≤ 2 ∧ uz ≤ 2) (h : fst3 fs A B ux uy uz x y z) (h' : fst3 fs A B ux uy uz x' y' z') : x = x' ∧ y = y' ∧ z = z' := by
  obtain ⟨a1, a2, a3⟩ := h
  obtain ⟨b1, b2, b3⟩ := h'
  have c1 : ¬ 9 * x' + 3 * y' + z' < 9 * x + 3 * y + z := fun q => a3 _ _ _ b1 q b2
  have c2 : ¬ 9 * x + 3 * y + z < 9 * x' + 3 * y' + z' := fun q => b3 _ _ _ a1 q a2
  unfold rg at a1 b1
  omega
theorem op_counter {x1 : Int} {μ : ZM} (hI : Inv μ) {K : Int → ZM → Prop} (hK : ∀ r μ1, Ans (P_X12_counter x1 μ1) r → K r μ1) : P_X11_counter x1 μ K := by
  have hI0 := hI
  obtain ⟨tp, fs, cl, ls, nt, cs, hc, hm, ho⟩ := hI
  obtain ⟨c1, c2, c3, c4, c5, c6, c7⟩ := id hc
  obtain ⟨m1, m2, m3, m4, m5, m6⟩ := id hm
  have key : ∀ r : Int, (∀ K' : Int → ZM → Prop, K' r μ → P_X12_counter x1 μ K') → K r μ := fun r h => hK _ _ (Ans.same hI0 h)
  refine s_out (fun h => if1 (key _ (fun K' h' => s_wi (fun g => absurd g (by omega)) (fun _ => if0 h')))) (fun h => if0 ?_)
  cases cl with
  | none =>
    have a0 : μ 206 11 = 0 := c3
    have b0 : μ 248 9 = 0 := m3
    rw [if_pos a0]
    exact key _ (fun K' h' => s_wi (fun _ => if1 (by rw [if_pos b0]; exact h')) (fun g => absurd h g))
  | some q =>
    obtain ⟨a0, a1, a2⟩ : μ 206 11 = 1 ∧ Tm μ fs 103 q.1 ∧ Tm μ fs 106 q.2 := c3
    obtain ⟨o1, o2, o3, o4⟩ := ho.2.1 q rfl
    rw [if_neg (by omega)]
    have after : ∀ μ1 : ZM, (∀ a k, ¬ evc a → a ≠ 216 → μ1 a k = μ a k) → ∀ (r : Int) (K' : Int → ZM → Prop), (∀ μ', Inv μ' → K' r μ') → (∀ μ2 ux uy uz x y z, ub q.1 q.2 2 0 ux → ub q.1 q.2 2 1 uy → ub q.1 q.2 2 2 uz → fst3 fs q.1 q.2 ux uy uz x y z → Inv μ2 → (0 ≤ x ∧ x ≤ 2) ∧ (0 ≤ y ∧ y ≤ 2) ∧ (0 ≤ z ∧ z ≤ 2) ∧ K' (if x1 = 0 then x else if x1 = 1 then y else z) μ2) → (∀ μ2 ux uy uz, ub q.1 q.2 2 0 ux → ub q.1 q.2 2 1 uy → ub q.1 q.2 2 2 uz → (∀ x y z, rg ux uy uz x y z → ¬ bad fs q.1 q.2 x y z) → Inv μ2 → K' (-9) μ2) → P_X12_counter x1 μ1 K' := by
      intro μ1 e1 r K' hK' hyes hno
      have hm1 : RM μ1 tp fs (some q) ls nt cs := hm.fr (fun a k h => e1 a k (by unfold evc; omega) (by omega))
      have hc1 : RC μ1 tp fs (some q) ls nt cs := hc.ev (fun a k h h' _ => e1 a k h h')
      obtain ⟨p0, p1, p2⟩ : μ1 248 9 = 1 ∧ Sl μ1 0 q.1 ∧ Sl μ1 1 q.2 := hm1.2.2.1
      refine s_wi (fun _ => if1 ?_) (fun g => absurd h g)
      rw [if_neg (by omega)]
      have inv : ∀ μ2, (∀ a k, ¬ evm a k → μ2 a k = μ1 a k) → Inv μ2 := fun μ2 e2 => ⟨tp, fs, some q, ls, nt, cs, hc1.frM (fun a k h => e2 a k (by unfold evm; omega)), hm1.ev ho e2, ho⟩
      refine s_counterexample (A := q.1) (B := q.2) ho.1 hm1.2.1 (by omega) (by omega) p1 p2 o1 o2 (by omega) (by omega) (fun μ2 ux uy uz x y z e2 u0 u1 u2 f => ?_) (fun μ2 ux uy uz e2 u0 u1 u2 f => ?_)
      · obtain ⟨r0, r1, r2, r3⟩ := hyes μ2 ux uy uz x y z u0 u1 u2 f (inv μ2 e2)
        rw [if_neg (by omega)]
        refine ifb (fun g => ?_) (fun g => ifb (fun g1 => ?_) (fun g1 => ?_))
        · rw [if_pos g] at r3
          rw [show (9 * x + 3 * y + z) / 9 = x by omega]
          exact ⟨by omega, r3⟩
        · rw [if_neg g, if_pos g1] at r3
          rw [show (9 * x + 3 * y + z) / 3 % 3 = y by omega]
          exact ⟨by omega, by omega, r3⟩
        · rw [if_neg g, if_neg g1] at r3
          rw [show (9 * x + 3 * y + z) % 3 = z by omega]
          exact ⟨by omega, r3⟩
      · rw [if_pos rfl]
        exact hno μ2 ux uy uz u0 u1 u2 f (inv μ2 e2)
    refine s_refutes (A := q.1) (B := q.2) ho.1 c2 (by unfold z_cm; omega) ⟨a1.1, a1.2.1⟩ ⟨a2.1, a2.2.1⟩ o1 o2 (by omega) (by omega) (fun μ1 ux uy uz x y z e1 u0 u1 u2 f x0 y0 z0 => if1 ⟨by omega, hK _ _ (fun K' hK' => after μ1 e1 _ K' hK' (fun μ2 ux' uy' uz' x' y' z' v0 v1 v2 f' hi => ?_) (fun μ2 ux' uy' uz' v0 v1 v2 f' hi => ?_))⟩) (fun μ1 ux uy uz e1 u0 u1 u2 f => if0 (hK _ _ (fun K' hK' => after μ1 e1 _ K' hK' (fun μ2 ux' uy' uz' x' y' z' v0 v1 v2 f' hi => ?_) (fun μ2 ux' uy' uz' v0 v1 v2 f' hi => hK' _ hi))))
    · rw [← ub_u u0 v0, ← ub_u u1 v1, ← ub_u u2 v2] at f'
      have b0 := ub_0 (by omega) u0
      have b1 := ub_0 (by omega) u1
      have b2 := ub_0 (by omega) u2
      obtain ⟨s1, s2, s3⟩ := fst3_u (by omega) f f'
      have hr := f'.1
      unfold rg at hr
      refine ⟨by omega, by omega, by omega, ?_⟩
      have hxx : μ1 216 x1 = if x1 = 0 then x' else if x1 = 1 then y' else z' := by
        by_cases g : x1 = 0
        · rw [if_pos g, g, x0, s1]
        · rw [if_neg g]
          by_cases g1 : x1 = 1
          · rw [if_pos g1, g1, y0, s2]
          · rw [if_neg g1, show x1 = 2 by omega, z0, s3]
      rw [← hxx]
      exact hK' _ hi
    · rw [← ub_u u0 v0, ← ub_u u1 v1, ← ub_u u2 v2] at f'
      exact absurd f.2.1 (f' x y z f.1)
    · rw [← ub_u u0 v0, ← ub_u u1 v1, ← ub_u u2 v2] at f'
      exact absurd f'.2.1 (f x' y' z' f'.1)
