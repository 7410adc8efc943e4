theorem nd_S {μ : ZM} {fs : List Fn} {N : List (List Int)} {i : Int} {W : List Int} (hT : NT μ fs N) (hi : rN N i (83 :: W)) : rN N (μ 224 i) W := by
  obtain ⟨i1, i2, i3⟩ := hi
  obtain ⟨n1, n2, n3, n4, n5, n6⟩ := hT.2.2 i i1 i2
  have e : μ 223 i = 83 := by rw [n2, i3]; rfl
  have a : arf fs (μ 223 i) = 1 := by rw [e]; unfold arf; rw [if_pos rfl]
  obtain ⟨b1, b2, -⟩ := n6 (by omega)
  have := b2 a
  rw [i3, e] at this
  exact ⟨n4, by omega, (List.cons.inj this).2.symm⟩
theorem s_bodyForC {fs : List Fn} {N : List (List Int)} {f i : Int} {A : List Int} {μ : ZM} {K : Int → ZM → Prop} (hF : CF μ fs) (hT : NT μ fs N) (hN : (N.length : Int) ≤ 546) (hf : 0 ≤ f ∧ f < (fs.length : Int)) (hi : rN N i A) (h : K (bfor fs f A) μ) : P_X6_bodyFor f i μ K := by
  have hl := hF.2.1
  obtain ⟨i1, i2, i3⟩ := id hi
  obtain ⟨n1, n2, n3, n4, n5, n6⟩ := hT.2.2 i i1 i2
  have hd := (hF.2.2.1 f hf.1 hf.2).2.1
  unfold P_X6_bodyFor
  rw [n2, i3, hd]
  unfold bfor at h
  refine ⟨by omega, ifb (fun g => ?_) (fun g => ⟨by omega, ifb (fun g1 => ⟨by omega, ifb (fun g2 => ?_) (fun g2 => ⟨by omega, by omega, ?_⟩)⟩) (fun g1 => ?_)⟩)⟩
  · rw [if_pos g] at h; exact h
  · rw [if_neg g, if_pos g1, if_pos g2] at h; exact h
  · rw [if_neg g, if_pos g1, if_neg g2] at h
    obtain ⟨W, hW⟩ := hd_S g1
    subst hW
    have hj := nd_S hT hi
    have e := (hT.2.2 _ hj.1 hj.2.1).2.1
    rw [hj.2.2] at e
    rw [e]
    rw [gt_c1] at h
    refine ifb (fun g3 => ?_) (fun g3 => ifb (fun g4 => ?_) (fun g4 => ?_))
    · rw [if_pos g3] at h; exact h
    · rw [if_neg g3, if_pos g4] at h; exact h
    · rw [if_neg g3, if_neg g4] at h; exact h
  · rw [if_neg g, if_neg g1] at h; exact h
theorem s_napply {fs : List Fn} {N : List (List Int)} {mn : Int → List Int} {n : Nat} {u c d : Int} {r : List Int} {as st : List (List Int)} {fr : List Nf} {μ : ZM} {R : Option (List Int)} {K : Int → ZM → Prop} (ho : okF fs) (hF : CF μ fs) (hok : okN fs 40 (n + 1) u ((c :: r, d, as, st) :: fr)) (hC : NC μ fs N mn u ((r, d, as, st) :: fr)) (hN : (N.length : Int) + rl ((r, d, as, st) :: fr) + 1 ≤ 46 + 10 * u) (hc : 97 ≤ c ∧ c < 103) (hR : nv fs mn (n + 1) u ((c :: r, d, as, st) :: fr) = some R) (hfail : R = none → ∀ μ', (∀ a k, ¬ nvc a k → μ' a k = μ a k) → K 0 μ') (hnext : ∀ μ' N' u' fr', (∀ a k, ¬ nvc a k → μ' a k = μ a k) → NC μ' fs N' mn u' fr' → (N'.length : Int) + rl fr' ≤ 46 + 10 * u' → okN fs 40 n u' fr' → nv fs mn n u' fr' = some R → K 1 μ') : P_X6_apply (c - 97) μ K := by
  obtain ⟨s1, s2, s3⟩ := okN_st hok
  have hl := hF.2.1
  have hu := hok.2.1
  have hu0 := hok.1
  have hfl : (fr.length : Int) ≤ u := by have := hok.2.2.1; simp at this; omega
  have hst := ss_top (by omega) hok
  have hss : ((ss ((c :: r, d, as, st) :: fr)).length : Int) = ((ss ((r, d, as, st) :: fr)).length : Int) := rfl
  have hs1 : ((ss ((r, d, as, st) :: fr)).length : Int) = (st.length : Int) + ((ss fr).length : Int) := by
    show ((st ++ ss fr).length : Int) = _
    simp
  have hrl := rl_pos fr
  have er : rl ((r, d, as, st) :: fr) = (r.length : Int) + rl fr := rfl
  have er2 : rl ((c :: r, d, as, st) :: fr) = ((r.length + 1 : Nat) : Int) + rl fr := rfl
  have hfn : 0 ≤ c - 97 ∧ c - 97 < (fs.length : Int) := by unfold cv at s2; omega
  obtain ⟨f1, f2, f3⟩ := ho _ hfn.1 hfn.2
  obtain ⟨g1, g2, g3⟩ := hF.2.2.1 _ hfn.1 hfn.2
  have har := arf_fn hfn
  have hna : (na fs c : Int) = (gf fs (c - 97)).1 := by unfold na; omega
  have hcount := hF.1
  obtain ⟨h1, h2, h3, h4, h5, h6, h7⟩ := id hC
  have hlow := hC.low (k := na fs c) (t := ((ss ((r, d, as, st) :: fr)).length : Int) - (gf fs (c - 97)).1) (by omega) (by omega)
  generalize hT : ((ss ((r, d, as, st) :: fr)).length : Int) = T at *
  unfold P_X6_apply
  simp only [z_wr]
  rw [hcount, g1, h4]
  have z13 : z_upd μ 222 13 (T - (gf fs (c - 97)).1) 222 13 = T - (gf fs (c - 97)).1 := zu_s
  have zf : ∀ a k, ¬ (a = 222 ∧ k = 13) → z_upd μ 222 13 (T - (gf fs (c - 97)).1) a k = μ a k := fun a k q => zu_f q
  have hF1 : CF (z_upd μ 222 13 (T - (gf fs (c - 97)).1)) fs := hF.fr (fun a ha k => zu_n (by omega)) (zu_n (by decide))
  generalize z_upd μ 222 13 (T - (gf fs (c - 97)).1) = μ1 at z13 zf hF1 hlow ⊢
  rw [z13, show T - (gf fs (c - 97)).1 + (gf fs (c - 97)).1 - 1 = T - 1 by omega, zf 231 _ (by omega), zf 231 _ (by omega)]
  have hhd := gk_hd h6 (by omega)
  rw [ss_hd (by omega), hT] at hhd
  have hoth : ∃ W, rN N (μ 231 (T - (gf fs (c - 97)).1)) W ∧ ((gf fs (c - 97)).1 = 2 → W = st.tail.headD []) := by
    rcases f1 with q | q
    · rw [q]; exact ⟨_, hhd, fun p => absurd p (by decide)⟩
    · have := gk_2 h6 (by omega)
      rw [ss_hd2 (by omega), hT] at this
      rw [q]; exact ⟨_, this, fun _ => rfl⟩
  obtain ⟨W, hW1, hW2⟩ := hoth
  generalize hone : μ 231 (T - 1) = one at *
  generalize hother : μ 231 (T - (gf fs (c - 97)).1) = other at *
  refine ifb (fun g => absurd g (by omega)) (fun _ => ifb (fun g => absurd g (by omega)) (fun _ => ⟨by omega, ifb (fun _ => ⟨by omega, ⟨by omega, by omega⟩, ⟨by omega, by omega⟩, ⟨by omega, by omega⟩, by omega, by omega, ?_⟩) (fun g => absurd g (by omega))⟩))
  have hw : wh fs c st = bfor fs (c - 97) (st.headD []) := by unfold wh; rw [if_neg (by omega)]
  refine s_bodyForC (A := st.headD []) hF1 hlow.1 (by omega) hfn hhd ?_
  rw [← hw]
  refine ifb (fun g => ⟨⟨by omega, by omega⟩, ?_⟩) (fun g => ?_)
  · rw [show 97 + (c - 97) = c by omega]
    exact s_joinC (n := n) ho hF1 hok (by omega) (by omega) g (by omega) hlow hN hhd hW1 (fun q => hW2 (by omega)) hR (fun q μ' e => hfail q μ' (fun a k hk => (e a k hk).trans (zf _ _ (by unfold nvc at hk; omega)))) (fun μ' N' fr' e => hnext μ' N' u fr' (fun a k hk => (e a k hk).trans (zf _ _ (by unfold nvc at hk; omega))))
  · rw [nv_c, if_neg (by omega), if_neg (by omega), if_neg g] at hR
    have hB : hasB (gf fs (c - 97)) (wh fs c st) := by rw [hw] at g ⊢; exact bfor_B ho hfn g
    have hB' := hB
    unfold hasB at hB'
    obtain ⟨l1, l2, l3, l4, l5, l6, l7⟩ := id hlow
    have l3' : μ1 222 12 = (fr.length : Int) := by rw [l3]; simp
    obtain ⟨t1, t2⟩ := (hF1.2.2.1 _ hfn.1 hfn.2).2.2 _ hB
    have hd1 := (hF1.2.2.1 _ hfn.1 hfn.2).2.1
    refine s_bodyOf hF1 ho hfn (by omega) (fun q => absurd hB q) (fun _ => ?_)
    rw [l2]
    refine ⟨⟨by omega, by omega⟩, ifb (fun q => absurd q (by omega)) (fun _ => ?_)⟩
    rw [show z_upd μ1 222 14 (u + 1) 222 14 = u + 1 from zu_s, show z_upd μ1 222 14 (u + 1) 222 12 = (fr.length : Int) from (zu_k (by decide)).trans l3']
    have zf0 : ∀ a k, ¬ nvc a k → μ1 a k = μ a k := fun a k hk => zf _ _ (by unfold nvc at hk; omega)
    refine ifb (fun q => ⟨Or.inl rfl, hfail ?_ _ (fun a k hk => (zu_n (by unfold nvc at hk; omega)).trans (zf0 a k hk))⟩) (fun q => ⟨⟨by omega, by omega⟩, ifb (fun _ => ⟨⟨by omega, by omega⟩, ?_⟩) (fun q' => absurd q' (by omega))⟩)
    · rw [if_pos (by omega)] at hR; exact (Option.some.inj hR).symm
    · rw [if_neg (by omega)] at hR
      have hcall := (okN_call ho hl hok (by omega) (by omega) g (by omega)).2.2.2
      simp only [zu_s, zu_n (show (222 : Int) ≠ 227 by decide), zu_n (show (222 : Int) ≠ 228 by decide)]
      generalize hid : 115 + 3 * (3 * (c - 97) + wh fs c st) = id at *
      have r1 : z_upd (z_upd (z_upd μ1 222 14 (u + 1)) 222 12 ((fr.length : Int) + 1)) 227 ((fr.length : Int) + 1) id id 2 = ((fB (gf fs (c - 97)) (wh fs c st)).length : Int) := by
        rw [zu_n (by omega), zu_n (by omega), zu_n (by omega)]; exact t1
      rw [r1]
      simp only [zu_n (show (209 : Int) ≠ 228 by decide), zu_n (show (209 : Int) ≠ 227 by decide), zu_n (show (209 : Int) ≠ 222 by decide), zu_n (show (224 : Int) ≠ 228 by decide), zu_n (show (224 : Int) ≠ 227 by decide), zu_n (show (224 : Int) ≠ 222 by decide)]
      rw [hd1]
      have n1 := l1.2.2 one hhd.1 hhd.2.1
      have hob := hhd.1
      have hob2 := hhd.2.1
      have fin : ∀ x : Int, (wh fs c st = 2 → rN N x ((st.headD []).drop (gf fs (c - 97)).2.1.toNat)) → P_X6_apply_234 other ((fr.length : Int) + 1) x (z_upd (z_upd (z_upd (z_upd μ1 222 14 (u + 1)) 222 12 ((fr.length : Int) + 1)) 227 ((fr.length : Int) + 1) id) 228 ((fr.length : Int) + 1) ((fB (gf fs (c - 97)) (wh fs c st)).length : Int)) K := by
        intro x hx
        unfold P_X6_apply_234
        simp only [z_wr]
        rw [show z_upd (z_upd (z_upd (z_upd (z_upd μ1 222 14 (u + 1)) 222 12 ((fr.length : Int) + 1)) 227 ((fr.length : Int) + 1) id) 228 ((fr.length : Int) + 1) ((fB (gf fs (c - 97)) (wh fs c st)).length : Int)) 229 ((fr.length : Int) + 1) x 222 12 = (fr.length : Int) + 1 by rw [zu_n (by decide), zu_n (by decide), zu_n (by decide), zu_s]]
        refine ⟨by omega, by omega, Or.inr rfl, ?_⟩
        generalize hM : z_upd (z_upd (z_upd (z_upd (z_upd (z_upd μ1 222 14 (u + 1)) 222 12 ((fr.length : Int) + 1)) 227 ((fr.length : Int) + 1) id) 228 ((fr.length : Int) + 1) ((fB (gf fs (c - 97)) (wh fs c st)).length : Int)) 229 ((fr.length : Int) + 1) x) 230 ((fr.length : Int) + 1) other = μ3
        have m0 : ∀ a k, ¬ (a = 222 ∧ (k = 12 ∨ k = 14)) → ¬ (227 ≤ a ∧ a ≤ 230 ∧ k = (fr.length : Int) + 1) → μ3 a k = μ1 a k := fun a k p1 p2 => by
          rw [← hM, zu_f (by omega), zu_f (by omega), zu_f (by omega), zu_f (by omega), zu_f (by omega), zu_f (by omega)]
        have m1 : μ3 222 12 = (fr.length : Int) + 1 := by rw [← hM]; simp [z_upd]
        have m2 : μ3 222 14 = u + 1 := by rw [← hM]; simp [z_upd]
        have m3 : μ3 227 ((fr.length : Int) + 1) = id := by rw [← hM]; simp [z_upd]
        have m4 : μ3 228 ((fr.length : Int) + 1) = ((fB (gf fs (c - 97)) (wh fs c st)).length : Int) := by rw [← hM]; simp [z_upd]
        have m5 : μ3 229 ((fr.length : Int) + 1) = x := by rw [← hM]; simp [z_upd]
        have m6 : μ3 230 ((fr.length : Int) + 1) = other := by rw [← hM]; simp [z_upd]
        refine hnext μ3 N (u + 1) (((fB (gf fs (c - 97)) (wh fs c st)).reverse, (gf fs (c - 97)).2.1, st.take (na fs c), []) :: (r, d, as, st.drop (na fs c)) :: fr) (fun a k hk => (m0 a k (by unfold nvc at hk; omega) (by unfold nvc at hk; omega)).trans (zf0 a k hk)) ⟨l1.ex (fun a k _ _ => m0 _ _ (by omega) (by omega)) (m0 _ _ (by omega) (by omega)), m2, ?_, ?_, ⟨?_, ?_⟩, ?_, ?_⟩ ?_ hcall hR
        · rw [m1]; simp
        · rw [m0 _ _ (by omega) (by omega), l4]; rfl
        · have ei : ((((r, d, as, st.drop (na fs c)) :: fr : List Nf).length : Nat) : Int) = (fr.length : Int) + 1 := by simp
          rw [ei]
          unfold fcl
          rw [m3, m4, m5, m6]
          refine ⟨by unfold z_tm; omega, ?_, by simp, fun q => ?_, fun q => ?_⟩
          · dsimp only
            rw [List.reverse_reverse]
            exact t2.ex (fun i _ _ => m0 _ _ (by omega) (by omega))
          · have hw2 := ((f3 _ hB).2.2 120 (by simpa using q)).2.2 rfl
            rw [if_neg (by omega)]
            have := hx hw2
            unfold xof
            have hne : (st.take (na fs c)).headD [] = st.headD [] := by
              cases st with
              | nil => simp at s1; omega
              | cons V s =>
                have : na fs c ≠ 0 := by omega
                obtain ⟨k, hk⟩ := Nat.exists_eq_succ_of_ne_zero this
                rw [hk]; rfl
            dsimp only
            rw [hne]; exact this
          · have ha2 := ((f3 _ hB).2.2 121 (by simpa using q)).2.1 rfl
            rw [if_neg (by omega)]
            have e2 : na fs c = 2 := by omega
            have : yof (st.take (na fs c)) = st.tail.headD [] := by
              unfold yof
              rw [e2]
              cases st with
              | nil => simp at s1; omega
              | cons V s =>
                cases s with
                | nil => simp at s1; omega
                | cons Y s => rfl
            dsimp only
            rw [this, ← hW2 ha2]
            exact hW1
        · refine gk_ex (A' := fcl μ3 N mn) l5 (fun i f p1 p2 q => q.ex (fun a k ha => m0 _ _ (by omega) (by omega)) (fun a p3 p4 => m0 _ _ (by omega) (by simp at p2; omega)) (fun _ _ p => p))
        · exact gk_ex (A' := fun i V => rN N (μ3 231 i) V) l6 (fun i V _ _ q => by rw [m0 _ _ (by omega) (by omega)]; exact q)
        · rw [m0 _ _ (by omega) (by omega)]; exact l7
        · show (N.length : Int) + (((fB (gf fs (c - 97)) (wh fs c st)).reverse.length : Int) + ((r.length : Int) + rl fr)) ≤ _
          rw [List.length_reverse]
          have := (f3 _ hB).2.1
          omega
      have hA : gV fs (st.headD []) := by
        cases st with
        | nil => simp at s1; omega
        | cons V s => exact s3 V (by simp)
      have w2 : wh fs c st = 2 → _ := fun q => (bfor_x ho hfn (hw.symm.trans q) hA).2
      refine ⟨by unfold z_tm; omega, by omega, by omega, by omega, ifb (fun q => ⟨by omega, fin _ (fun p => ?_)⟩) (fun q => ⟨by omega, by have := n1.2.2.2; omega, fin _ (fun p => ?_)⟩)⟩
      · rcases w2 p with ⟨y1, V, y2⟩ | ⟨y1, V, y2⟩
        · rw [y2] at hhd ⊢
          rw [q]
          exact nd_S l1 hhd
        · omega
      · rcases w2 p with ⟨y1, V, y2⟩ | ⟨y1, V, y2⟩
        · omega
        · rw [y2] at hhd ⊢
          rw [y1]
          exact nd_S l1 (nd_S l1 hhd)
