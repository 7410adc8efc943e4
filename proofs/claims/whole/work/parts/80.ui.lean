theorem op_steered {x1 : Int} {μ : ZM} (hI : Inv μ) {K : Int → ZM → Prop} (hK : ∀ r μ1, Ans (P_X12_steered x1 μ1) r → K r μ1) : P_X11_steered x1 μ K := by
  have hI0 := hI
  obtain ⟨tp, fs, cl, ls, nt, cs, hc, hm, ho⟩ := hI
  obtain ⟨c1, c2, c3, c4, c5, c6, c7⟩ := id hc
  have hl := c2.2.1
  have key : ∀ r : Int, (∀ K' : Int → ZM → Prop, K' r μ → P_X12_steered x1 μ K') → K r μ := fun r h => hK _ _ (Ans.same hI0 h)
  have mid : ∀ (μ1 : ZM) (K' : Int → ZM → Prop), (x1 = -9 ∨ (0 ≤ x1 ∧ x1 < 40)) → P_X12_steered_19 x1 μ1 K' → P_X12_steered x1 μ1 K' := fun μ1 K' g2 h => ifb (fun _ => h) (fun g => s_wi (fun _ => if1 h) (fun y => absurd (by omega) y))
  refine s_nop (by omega) (fun h1 => if1 (key _ (fun K' h' => ifb (fun g => absurd g (by omega)) (fun _ => s_wi (fun y => absurd y (by omega)) (fun _ => if0 h'))))) (fun h1 => if0 ?_)
  cases cl with
  | none =>
    have e1 : μ 206 11 = 0 := c3
    have e2 : μ 248 9 = 0 := hm.2.2.1
    rw [if_pos e1]
    refine key _ (fun K' h' => mid _ _ h1 ?_)
    unfold P_X12_steered_19
    rw [if_pos e2]; exact h'
  | some q =>
    obtain ⟨e1, t1, t2⟩ := id c3
    obtain ⟨o1, o2, l1, l2⟩ := ho.2.1 q rfl
    have hL : okL fs ls := ⟨c4.2.1, ho.2.2⟩
    rw [if_neg (by omega)]
    have back : ∀ μ1 : ZM, (∀ a k, oC a k ∨ 248 ≤ a → μ1 a k = μ a k) → ∀ r : Int, (¬ dD fs q.1 q.2 0 0 < 100000 → r = -3) → (dD fs q.1 q.2 0 0 < 100000 → r = so (rpl fs ls q.2 1600 q.1).1 x1) → K r μ1 := by
      intro μ1 f1 r hr0 hr1
      obtain ⟨hc1, hm1⟩ := hc.sc hm f1
      refine hK _ _ (fun K' hK' => mid _ _ h1 ?_)
      obtain ⟨y1, y2, y3⟩ := hm1.2.2.1
      unfold P_X12_steered_19
      rw [if_neg (by omega)]
      refine s_differenceOf ho.1 hm1.2.1 (by omega) (by omega) y2 y3 o1 o2 (by omega) (by omega) (fun μ2 f2 => ?_)
      have hm2 : RM μ2 tp fs (some q) ls nt cs := hm1.sc ho (fun a k y => f2 a k (by unfold oM at y; omega) (by unfold oM at y; omega))
      have hc2 : RC μ2 tp fs (some q) ls nt cs := hc1.frM (fun a k y => f2 a k (by omega) (by omega))
      refine ifb (fun g => ?_) (fun g => ?_)
      · obtain ⟨z1, z2, z3⟩ := hm2.2.2.1
        refine s_copies (s := 0) (d := 24) (by omega) (by omega) (by omega) z2 (by omega) (fun μ3 f3 t3 => ?_)
        have hm3 : RM μ3 tp fs (some q) ls nt cs := hm2.sc ho (fun a k y => f3 a k (by unfold oM at y; omega) (by unfold oM at y; omega))
        have hc3 : RC μ3 tp fs (some q) ls nt cs := hc2.frM (fun a k y => f3 a k (by omega) (by omega))
        have ok := rpl_ok (S := q.2) ho.1 hl hL 1600 q.1 o1 (by omega)
        refine s_steers (w := -9) ho.1 hm3.2.1 hm3.2.2.2.1 hL hm3.2.2.2.2.1 (Or.inl rfl) (by omega) (by omega) (by omega) (by omega) (by omega) t3 hm3.2.2.1.2.2 o1 o2 (by omega) (by omega) (fun μ4 f4 t4 n4 => s_told (by omega) t4 (by have := ok.2; omega) (by omega) ?_)
        rw [← hr1 g]
        rw [ads_9] at n4
        refine hK' μ4 ⟨tp, fs, some q, ls, nt, cs, hc3.frM (fun a k y => f4 a k (by unfold rpm fr20; omega) (by omega) (by omega) (by omega) (by omega) (by omega)), ?_, ho⟩
        obtain ⟨m1, m2, m3, m4, m5, m6⟩ := hm3
        exact ⟨m1.fr (f4 _ _ (by unfold rpm fr20; omega) (by omega) (by omega) (by omega) (by omega) (by omega)) (fun k => f4 _ _ (by unfold rpm fr20; omega) (by omega) (by omega) (by omega) (by omega) (by omega)), m2.fr (fun a ha k => f4 _ _ (by unfold rpm fr20; omega) (by omega) (by omega) (by omega) (by omega) (by omega)) (f4 _ _ (by unfold rpm fr20; omega) (by omega) (by omega) (by omega) (by omega) (by omega)), m3.fr (fun q hq => by have := ho.2.1 q hq; omega) (f4 _ _ (by unfold rpm fr20; omega) (by omega) (by omega) (by omega) (by omega) (by omega)) (fun k h => f4 _ _ (by unfold rpm fr20; omega) (by omega) (by omega) (by omega) (by omega) (by omega)) (fun k h => f4 _ _ (by unfold rpm fr20; omega) (by omega) (by omega) (by omega) (by omega) (by omega)), m4.fr (f4 _ _ (by unfold rpm fr20; omega) (by omega) (by omega) (by omega) (by omega) (by omega)) (fun k h => f4 _ _ (by unfold rpm fr20; omega) (by omega) (by omega) (by omega) (by omega) (by omega)) (fun k h => f4 _ _ (by unfold rpm fr20; omega) (by omega) (by omega) (by omega) (by omega) (by omega)), n4, m6.fr (f4 _ _ (by unfold rpm fr20; omega) (by omega) (by omega) (by omega) (by omega) (by omega)) (f4 _ _ (by unfold rpm fr20; omega) (by omega) (by omega) (by omega) (by omega) (by omega)) (f4 _ _ (by unfold rpm fr20; omega) (by omega) (by omega) (by omega) (by omega) (by omega)) (f4 _ _ (by unfold rpm fr20; omega) (by omega) (by omega) (by omega) (by omega) (by omega))⟩
      · rw [← hr0 g]
        exact hK' μ2 ⟨tp, fs, some q, ls, nt, cs, hc2, hm2, ho⟩
    refine s_smallest ho.1 (by decide) (by decide) t1 t2 o1 o2 (by omega) (by omega) (fun μ1 f1 => ?_)
    have f1' : ∀ a k, oC a k ∨ 248 ≤ a → μ1 a k = μ a k := fun a k y => f1 a k (by unfold oC at y; omega) (by unfold oC at y; omega)
    have lA1 := okT_1 o1
    have lS1 := okT_1 o2
    have hD := dD_b (i := 0) (j := 0) ho.1 o1 o2 (by omega) ⟨by omega, by omega⟩ ⟨by omega, by omega⟩
    unfold df
    by_cases gd : dD fs q.1 q.2 0 0 < 100000
    · rw [if_pos gd, if_neg (by omega)]
      refine s_copy (by decide) (by decide) (by decide) (t1.ex (fun k => f1 _ _ (by omega) (by omega)) (fun k => f1 _ _ (by omega) (by omega)) (fun k => f1 _ _ (by omega) (by omega))) (by omega) (fun μ2 f2 t2' => ?_)
      have ok := rpl_ok (S := q.2) ho.1 hl hL 1600 q.1 o1 (by omega)
      have fin : ∀ μ3 : ZM, (∀ a k, ¬ rpc a → ¬ (178 ≤ a ∧ a ≤ 180) → μ3 a k = μ a k) → Tm μ3 fs 178 (rpl fs ls q.2 1600 q.1).1 → P_X11_steered_103 x1 μ3 K := by
        intro μ3 f3 t3
        refine s_sym (by decide) t3.1 t3.2.1 ok.2 ?_
        exact back μ3 (fun a k y => f3 a k (by unfold rpc; unfold oC at y; omega) (by unfold oC at y; omega)) _ (fun g => absurd gd g) (fun _ => rfl)
      refine z_lf1_ind (fun x μ' => ∃ A', 0 ≤ x ∧ x ≤ 1600 ∧ okT fs A' ∧ A'.length ≤ 40 ∧ Tm μ' fs 178 A' ∧ (rpl fs ls q.2 (1600 - x).toNat A').1 = (rpl fs ls q.2 1600 q.1).1 ∧ ∀ a k, ¬ rpc a → ¬ (178 ≤ a ∧ a ≤ 180) → μ' a k = μ a k) (fun x _ => (1600 - x).toNat) ?_ 0 μ2 ⟨q.1, by omega, by omega, o1, by omega, t2', rfl, fun a k y1 y2 => (f2 a k (by omega) (by omega) (by omega)).trans (f1 a k (by unfold rpc at y1; omega) (by unfold rpc at y1; omega))⟩
      intro x μ' G ⟨A', a1, a2, a3, a4, a5, a7, a9⟩ hG
      refine ifb (fun g => ?_) (fun g => ?_)
      · rw [show (1600 - x).toNat = 0 by omega] at a7
        refine fin μ' a9 ?_
        rw [← a7]; exact a5
      · refine s_rippleC ho.1 (c2.fr (fun a ha k => a9 _ _ (by unfold rpc; omega) (by omega)) (a9 _ _ (by unfold rpc; omega) (by omega))) (c4.fr (fun a ha k => a9 _ _ (by unfold rpc; omega) (by omega)) (a9 _ _ (by unfold rpc; omega) (by omega))) hL (by decide) (by omega) (by decide) (by decide) a5 (t2.ex (fun k => a9 _ _ (by unfold rpc; omega) (by omega)) (fun k => a9 _ _ (by unfold rpc; omega) (by omega)) (fun k => a9 _ _ (by unfold rpc; omega) (by omega))) a3 o2 a4 (by omega) (fun hr μ3 f3 => ?_) (fun m T hr μ3 f3 t3 => ?_)
        · rw [if_pos rfl]
          rw [rpl_no hr] at a7
          refine fin μ3 (fun a k y1 y2 => (f3 a k y1).trans (a9 a k y1 y2)) ?_
          rw [← a7]; exact a5.ex (fun k => f3 _ _ (by unfold rpc; omega)) (fun k => f3 _ _ (by unfold rpc; omega)) (fun k => f3 _ _ (by unfold rpc; omega))
        · have okr := rip_ok ho.1 hl hL a3 hr
          rw [rpl_s (by omega) hr, show (1600 - x).toNat - 1 = (1600 - (x + 1)).toNat by omega] at a7
          dsimp only at a7
          rw [if_neg (by omega)]
          exact ⟨⟨by omega, by omega⟩, hG _ _ ⟨T, by omega, by omega, okr.1, okr.2.1, t3, a7, fun a k y1 y2 => (f3 a k y1 (by omega) (by omega) (by omega)).trans (a9 a k y1 y2)⟩ (by omega)⟩
    · rw [if_neg gd, if_pos rfl]
      exact back μ1 f1' _ (fun _ => rfl) (fun g => absurd g gd)
