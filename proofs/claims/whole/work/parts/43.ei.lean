theorem ev_c2 {fs : List Fn} {f x y : Int} (hf : 0 ≤ f ∧ f < 6) (ha : (gf fs f).1 = 2) : ev fs 701 0 [([97 + f, 120, 121], 3, x, y, 0)] [] = ev fs 697 1 [cal fs f [x, y]] [] := by
  rw [ev_cons (by decide), if_neg (show ¬ (3 : Int) ≤ 0 by decide)]
  have c1 : cd (([97 + f, 120, 121], 3, x, y, 0) : Fr) = 121 := rfl
  rw [c1, if_neg (by decide), if_neg (by decide), if_pos rfl]
  show ev fs 700 0 [(([97 + f, 120, 121], 2, x, y, 0) : Fr)] [y] = _
  rw [ev_cons (by decide), if_neg (show ¬ (2 : Int) ≤ 0 by decide)]
  have c2 : cd (([97 + f, 120, 121], 2, x, y, 0) : Fr) = 120 := rfl
  rw [c2, if_neg (by decide), if_pos rfl]
  show ev fs 699 0 [(([97 + f, 120, 121], 1, x, y, 0) : Fr)] [x, y] = _
  rw [ev_cons (by decide), if_neg (show ¬ (1 : Int) ≤ 0 by decide)]
  have c3 : cd (([97 + f, 120, 121], 1, x, y, 0) : Fr) = 97 + f := rfl
  rw [c3, if_neg (by omega), if_neg (by omega), if_neg (by omega), if_neg (by omega), if_neg (by omega), if_neg (by decide), show 97 + f - 97 = f by omega, ha]
  show ev fs (697 + 1) 1 ([cal fs f [x, y]] ++ [(([97 + f, 120, 121], 0, x, y, 0) : Fr)]) [] = _
  rw [ev_ex (show (0 : Int) ≤ 0 by decide)]
theorem ev_c1 {fs : List Fn} {f x y : Int} (hf : 0 ≤ f ∧ f < 6) (ha : (gf fs f).1 = 1) : ev fs 701 0 [([97 + f, 120], 2, x, y, 0)] [] = ev fs 698 1 [cal fs f [x]] [] := by
  rw [ev_cons (by decide), if_neg (show ¬ (2 : Int) ≤ 0 by decide)]
  have c2 : cd (([97 + f, 120], 2, x, y, 0) : Fr) = 120 := rfl
  rw [c2, if_neg (by decide), if_pos rfl]
  show ev fs 700 0 [(([97 + f, 120], 1, x, y, 0) : Fr)] [x] = _
  rw [ev_cons (by decide), if_neg (show ¬ (1 : Int) ≤ 0 by decide)]
  have c3 : cd (([97 + f, 120], 1, x, y, 0) : Fr) = 97 + f := rfl
  rw [c3, if_neg (by omega), if_neg (by omega), if_neg (by omega), if_neg (by omega), if_neg (by omega), if_neg (by decide), show 97 + f - 97 = f by omega, ha]
  show ev fs (698 + 1) 1 ([cal fs f [x]] ++ [(([97 + f, 120], 0, x, y, 0) : Fr)]) [] = _
  rw [ev_ex (show (0 : Int) ≤ 0 by decide)]
/-- the reference's start of value -/
theorem okE_cal {fs : List Fn} {f x y : Int} (ho : okF fs) (hf : 0 ≤ f ∧ f < (fs.length : Int)) (hx : 0 ≤ x ∧ x ≤ 99) (hy : (gf fs f).1 = 2 → 0 ≤ y ∧ y ≤ 99) (n : Nat) (hn : 690 ≤ n) : okE fs n 1 [(fB (gf fs f) (if x < (gf fs f).2.1 then x else 2), ((fB (gf fs f) (if x < (gf fs f).2.1 then x else 2)).length : Int), x - (gf fs f).2.1, y, 0)] [] := by
  have hB := hasB_of (fs := fs) (v := x) ho hf hx.1
  obtain ⟨f1, f2, f3⟩ := ho f hf.1 hf.2
  obtain ⟨b1, b2, b3⟩ := f3 _ hB
  generalize hbw : (if x < (gf fs f).2.1 then x else 2) = bw at *
  have pz : pnf fs (fB (gf fs f) bw, ((fB (gf fs f) bw).length : Int), x - (gf fs f).2.1, y, 0) = 0 := by
    show pn fs 1 ((fB (gf fs f) bw).take ((fB (gf fs f) bw).length : Int).toNat) = 0
    rw [List.take_of_length_le (by omega)]
    exact (pw_iff.mp b1.1).2
  refine ⟨by omega, by omega, by simp, fun v hv => absurd hv (by simp), ?_, ⟨⟨b1, ?_, Int.le_refl _, fun q => ?_, fun q => ?_, fun q => ?_, ?_⟩, Or.inr rfl, fun g hg => absurd hg (by simp)⟩, ?_, ?_⟩
  · show (0 : Int) = 1 + ((pnf fs (fB (gf fs f) bw, ((fB (gf fs f) bw).length : Int), x - (gf fs f).2.1, y, 0) - 1) + 0)
    rw [pz]; rfl
  · show (0 : Int) ≤ ((fB (gf fs f) bw).length : Int)
    omega
  · have := (b3 120 q).2.2 rfl
    show 0 ≤ x - (gf fs f).2.1 ∧ x - (gf fs f).2.1 ≤ 99
    by_cases e : x < (gf fs f).2.1
    · rw [if_pos e] at hbw; omega
    · omega
  · exact hy ((b3 121 q).2.1 rfl)
  · exact absurd rfl (b3 122 q).1
  · show (fB (gf fs f) bw).length ≤ 40
    omega
  · show (((fB (gf fs f) bw).length : Int) + 1) / 2 + 0 ≤ 20 + 5 * 1
    omega
  · show (((fB (gf fs f) bw).length : Int) + 1) + 0 + 11 * (60 - 1) ≤ (n : Int)
    omega
theorem s_modelValue {fs : List Fn} {f x y yp n4 : Int} {n : Nat} {μ : ZM} {K : Int → ZM → Prop} (ho : okF fs) (hF : MF μ fs) (hf : 0 ≤ f ∧ f < (fs.length : Int)) (hx : 0 ≤ x ∧ x ≤ 99) (hy : (gf fs f).1 = 2 → y = yp ∧ 0 ≤ yp ∧ yp ≤ 99) (h4 : 0 ≤ n4 ∧ n4 ≤ 1) (hn : 690 ≤ n) {R : Int × Int} (hR : ev fs n 1 [(fB (gf fs f) (if x < (gf fs f).2.1 then x else 2), ((fB (gf fs f) (if x < (gf fs f).2.1 then x else 2)).length : Int), x - (gf fs f).2.1, yp, 0)] [] = R) (h : ∀ μ', (∀ a k, ¬ evm a k → μ' a k = μ a k) → K (if R.1 = -9 then -9 else if n4 = 0 then R.1 else R.2) μ') : P_X12_value_40 f x y n4 μ K := by
  refine s_wi (fun _ => if1 ?_) (fun g => absurd g (by omega))
  simp only [z_wr]
  have m0 : ∀ a k, ¬ evm a k → z_upd (z_upd (z_upd μ 248 15 0) 248 16 0) 248 22 0 a k = μ a k := fun a k q => by
    unfold evm at q
    rw [zu_f (by omega), zu_f (by omega), zu_f (by omega)]
  have hE : EM (z_upd (z_upd (z_upd μ 248 15 0) 248 16 0) 248 22 0) 0 [] [] := ⟨by simp [z_upd], by simp [z_upd], by simp [z_upd], trivial, trivial⟩
  generalize z_upd (z_upd (z_upd μ 248 15 0) 248 16 0) 248 22 0 = μ1 at m0 hE ⊢
  refine s_calls (v2p := yp) ho (hF.ev1 m0) hf hx (fun q => (hy q).1) hE (by simp) (by omega) (fun q => absurd q (by decide)) (fun _ μ2 k1 k2 => ?_)
  refine s_works (R := R) (μ0 := μ) ho hF (fun μ' q qw => ?_) n μ2 ⟨1, _, [], k2, okE_cal ho hf hx (fun q => (hy q).2) n hn, hR, fun a k q => (k1 a k q).trans (m0 a k q)⟩
  have := h μ' q
  refine ifb (fun g => ?_) (fun g => ifb (fun g1 => ?_) (fun g1 => ?_))
  · rw [if_pos g] at this; exact this
  · rw [if_neg g, if_pos g1] at this; exact this
  · rw [if_neg g, if_neg g1] at this
    rw [qw g]; exact this
theorem arf_v {fs : List Fn} {c : Int} (hl : fs.length ≤ 6) (h : c = 120 ∨ c = 121) : arf fs c = 0 := by
  unfold arf
  rw [if_neg (by omega), if_neg (by omega)]
theorem op_value {x1 x2 x3 x4 : Int} {μ : ZM} (hI : Inv μ) {K : Int → ZM → Prop} (hK : ∀ r μ1, Ans (P_X12_value x1 x2 x3 x4 μ1) r → K r μ1) : P_X11_value x1 x2 x3 x4 μ K := by
  have hI0 := hI
  obtain ⟨tp, fs, cl, ls, nt, cs, hc, hm, ho⟩ := hI
  obtain ⟨c1, c2, c3, c4, c5, c6, c7⟩ := id hc
  obtain ⟨m1, m2, m3, m4, m5, m6⟩ := id hm
  have key : ∀ r : Int, (∀ K' : Int → ZM → Prop, K' r μ → P_X12_value x1 x2 x3 x4 μ K') → K r μ := fun r h => hK _ _ (Ans.same hI0 h)
  have a1 := c2.1
  have fl := c2.2.1
  have b1 := m2.1
  have zz : zin (μ 248 4 - 1) := ⟨by omega, by omega⟩
  refine ⟨⟨by omega, by omega⟩, s_out (fun h => if1 (key _ (fun K' h' => ⟨zz, s_wi (fun g => absurd g (by omega)) (fun _ => ⟨Or.inl rfl, if0 h'⟩)⟩))) (fun h => if0 ⟨by omega, ?_⟩)⟩
  have hfn : 0 ≤ x1 ∧ x1 < (fs.length : Int) := by omega
  obtain ⟨o1, o2, o3⟩ := ho.1 x1 hfn.1 hfn.2
  have g1 := (c2.2.2.1 x1 hfn.1 hfn.2).1
  have mst : ∀ (μ1 : ZM) (K' : Int → ZM → Prop), MF μ1 fs → 0 ≤ x2 ∧ x2 ≤ 9 → ((gf fs x1).1 = 2 → ¬ (0 ≤ x3 ∧ x3 ≤ 9) → K' (-2) μ1) → (((gf fs x1).1 = 2 → 0 ≤ x3 ∧ x3 ≤ 9) → P_X12_value_40 x1 x2 x3 x4 μ1 K') → P_X12_value x1 x2 x3 x4 μ1 K' := by
    intro μ1 K' hF1 hx2 h1 h2
    have hb1 := hF1.1
    refine ⟨⟨by omega, by omega⟩, s_wi (fun _ => ⟨Or.inr rfl, if1 (s_wi (fun _ => if1 ⟨by omega, ?_⟩) (fun q => absurd hx2 q))⟩) (fun q => absurd q (by omega))⟩
    rw [(hF1.2.2 x1 hfn.1 hfn.2).1]
    refine ifb (fun q => s_wi (fun q1 => if1 (h2 (fun _ => q1))) (fun q1 => if0 (h1 q q1))) (fun q => h2 (fun q1 => absurd q1 q))
  have m40 : ∀ (K' : Int → ZM → Prop), ¬ (0 ≤ x4 ∧ x4 ≤ 1) → K' (-2) μ → P_X12_value_40 x1 x2 x3 x4 μ K' := fun K' q h' => s_wi (fun q1 => absurd q1 q) (fun _ => if0 h')
  have bad0 : ¬ (0 ≤ x2 ∧ x2 ≤ 9) → K (-2) μ := fun q => key _ (fun K' h' => ⟨zz, s_wi (fun _ => ⟨Or.inr rfl, if1 (s_wi (fun q1 => absurd q1 q) (fun _ => if0 h'))⟩) (fun q => absurd q (by omega))⟩)
  have bad4 : (0 ≤ x2 ∧ x2 ≤ 9) → ¬ (0 ≤ x4 ∧ x4 ≤ 1) → K (-2) μ := fun q q1 => key _ (fun K' h' => mst μ K' m2 q (fun _ _ => h') (fun _ => m40 K' q1 h'))
  have bad3 : (0 ≤ x2 ∧ x2 ≤ 9) → (gf fs x1).1 = 2 → ¬ (0 ≤ x3 ∧ x3 ≤ 9) → K (-2) μ := fun q q1 q2 => key _ (fun K' h' => mst μ K' m2 q (fun _ _ => h') (fun q3 => absurd (q3 q1) q2))
  have good : ∀ (μ1 : ZM) (T : List Int) (n : Nat) (y : Int), (∀ a k, ¬ (178 ≤ a ∧ a ≤ 180) → μ1 a k = μ a k) → tx μ1 178 T → okT fs T → T.length ≤ 40 → 0 ≤ x2 ∧ x2 ≤ 9 → 0 ≤ x4 ∧ x4 ≤ 1 → ((gf fs x1).1 = 2 → 0 ≤ x3 ∧ x3 ≤ 9) → (121 ∈ T → 0 ≤ x3 ∧ x3 ≤ 99) → ((gf fs x1).1 = 2 → y = x3) → 690 ≤ n → ev fs 701 0 [(T, (T.length : Int), x2, x3, 0)] [] = ev fs n 1 [(fB (gf fs x1) (if x2 < (gf fs x1).2.1 then x2 else 2), ((fB (gf fs x1) (if x2 < (gf fs x1).2.1 then x2 else 2)).length : Int), x2 - (gf fs x1).2.1, y, 0)] [] → P_X11_value_117 x2 x3 x4 μ1 K := by
    intro μ1 T n y e1 hT1 hT2 hT3 hx2 hx4 hx3 hy hyy hn hev
    have hF1 : CF μ1 fs := c2.fr (fun a ha k => e1 _ _ (by omega)) (e1 _ _ (by omega))
    refine s_valueOf (T := T) ho.1 hF1 (by unfold z_tm; omega) hT1 hT2 hT3 (by omega) hy (by omega) (fun μ2 e2 w2 => ?_)
    rw [hev] at w2 ⊢
    generalize hR : ev fs n 1 [(fB (gf fs x1) (if x2 < (gf fs x1).2.1 then x2 else 2), ((fB (gf fs x1) (if x2 < (gf fs x1).2.1 then x2 else 2)).length : Int), x2 - (gf fs x1).2.1, y, 0)] [] = R at *
    have e : ∀ a k, ¬ evc a → ¬ (178 ≤ a ∧ a ≤ 180) → μ2 a k = μ a k := fun a k q1 q2 => (e2 a k q1).trans (e1 a k q2)
    have hm2 : RM μ2 tp fs cl ls nt cs := hm.fr (fun a k h => e a k (by unfold evc; omega) (by omega))
    have hc2 : RC μ2 tp fs cl ls nt cs := hc.ev (fun a k h _ h' => e a k h h')
    have fin : ∀ r : Int, r = (if R.1 = -9 then -9 else if x4 = 0 then R.1 else R.2) → K r μ2 := by
      intro r hr
      refine hK _ _ (fun K' hK' => mst μ2 K' hm2.2.1 hx2 (fun q q1 => absurd (hx3 q) q1) (fun _ => ?_))
      refine s_modelValue (yp := y) (n := n) ho.1 hm2.2.1 hfn (by omega) (fun q => ⟨(hyy q).symm, by rw [hyy q]; have := hx3 q; omega, by rw [hyy q]; have := hx3 q; omega⟩) hx4 hn hR (fun μ3 e3 => ?_)
      rw [← hr]
      exact hK' _ ⟨tp, fs, cl, ls, nt, cs, hc2.frM (fun a k h => e3 a k (by unfold evm; omega)), hm2.ev ho e3, ho⟩
    refine ifb (fun g => ?_) (fun g => ifb (fun g2 => ?_) (fun g2 => ?_))
    · exact fin _ (by rw [if_pos g]; exact g)
    · exact fin _ (by rw [if_neg g, if_pos g2])
    · exact fin _ (by rw [if_neg g, if_neg g2]; exact w2 g)
  have run : ∀ s0 : Int, ((gf fs x1).1 = 2 ↔ s0 = 1) → (s0 = 0 ∨ s0 = 1) → (0 ≤ x2 ∧ x2 ≤ 9) → (0 ≤ x4 ∧ x4 ≤ 1) → (s0 = 1 → 0 ≤ x3 ∧ x3 ≤ 9) → P_X11_value_73 x1 x2 x3 x4 s0 μ K := by
    intro s0 hs hs01 hx2 hx4 hx3
    have z178 : z_tm 178 := by decide
    refine ⟨z178, ⟨by omega, by omega⟩, s_add z178 (by rw [zu_s]; omega) (s_add z178 ?_ ?_)⟩
    · simp only [zu_s]; omega
    · simp only [zu_s, zu_k (show (2 : Int) ≠ 0 by decide), zu_n (show (178 : Int) ≠ 178 + 1 by decide)]
      generalize hM : z_upd (z_upd (z_upd (z_upd (z_upd μ 178 2 0) (178 + 1) 0 (97 + x1)) 178 2 (0 + 1)) (178 + 1) (0 + 1) 120) 178 2 (0 + 1 + 1) = μ1
      have q0 : ∀ a k, ¬ (178 ≤ a ∧ a ≤ 180) → μ1 a k = μ a k := fun a k q => by
        rw [← hM, zu_n (by omega), zu_n (by omega), zu_n (by omega), zu_n (by omega), zu_n (by omega)]
      have q1 : μ1 178 2 = 2 := by rw [← hM, zu_s]; rfl
      have q2 : μ1 179 0 = 97 + x1 := by rw [← hM]; simp [z_upd]
      have q3 : μ1 179 1 = 120 := by rw [← hM]; simp [z_upd]
      have v0 : cv fs (97 + x1) := by unfold cv; omega
      have v1 : cv fs 120 := by unfold cv; omega
      have v2 : cv fs 121 := by unfold cv; omega
      have ar : arf fs (97 + x1) = (gf fs x1).1 := by
        have := arf_fn (fs := fs) (c := 97 + x1) (by omega)
        rw [show 97 + x1 - 97 = x1 by omega] at this
        exact this
      refine ifb (fun g => ?_) (fun g => ?_)
      · have ha : (gf fs x1).1 = 1 := by
          rcases o1 with q | q
          · exact q
          · have := hs.mp q; omega
        refine good μ1 [97 + x1, 120] 698 0 q0 ⟨q1, fun i i1 i2 => ?_⟩ ⟨?_, fun c hcm => ?_⟩ (by simp) hx2 hx4 (fun q => by omega) (fun q => ?_) (fun q => by omega) (by omega) (by rw [show (([97 + x1, 120] : List Int).length : Int) = 2 by rfl, ev_c1 (by omega) ha]; unfold cal; rw [ha]; rfl)
        · simp at i2
          by_cases ei : i = 0
          · subst ei; exact q2
          · rw [show i = 1 by omega]; exact q3
        · refine ⟨by omega, ?_⟩
          rw [ar, ha]
          refine ⟨by omega, ?_⟩
          rw [arf_v fl (Or.inl rfl)]
          rfl
        · simp at hcm
          rcases hcm with q | q
          · rw [q]; exact v0
          · rw [q]; exact v1
        · simp at q; omega
      · have ha : (gf fs x1).1 = 2 := hs.mpr (by omega)
        refine s_add z178 (by omega) ?_
        rw [q1]
        generalize hM2 : z_upd (z_upd μ1 (178 + 1) 2 121) 178 2 (2 + 1) = μ2
        have p0 : ∀ a k, ¬ (178 ≤ a ∧ a ≤ 180) → μ2 a k = μ a k := fun a k q => by
          rw [← hM2, zu_n (by omega), zu_n (by omega)]; exact q0 a k q
        have p1 : μ2 178 2 = 3 := by rw [← hM2, zu_s]; rfl
        have p2 : μ2 179 0 = 97 + x1 := by rw [← hM2, zu_n (by decide), zu_k (by decide)]; exact q2
        have p3 : μ2 179 1 = 120 := by rw [← hM2, zu_n (by decide), zu_k (by decide)]; exact q3
        have p4 : μ2 179 2 = 121 := by rw [← hM2, zu_n (by decide)]; exact zu_s
        refine good μ2 [97 + x1, 120, 121] 697 x3 p0 ⟨p1, fun i i1 i2 => ?_⟩ ⟨?_, fun c hcm => ?_⟩ (by simp) hx2 hx4 (fun q => hx3 (hs.mp q)) (fun q => by have := hx3 (hs.mp ha); omega) (fun q => rfl) (by omega) (by rw [show (([97 + x1, 120, 121] : List Int).length : Int) = 3 by rfl, ev_c2 (by omega) ha]; unfold cal; rw [if_pos ha]; rfl)
        · simp at i2
          by_cases ei : i = 0
          · subst ei; exact p2
          · by_cases ei1 : i = 1
            · subst ei1; exact p3
            · rw [show i = 2 by omega]; exact p4
        · refine ⟨by omega, ?_⟩
          rw [ar, ha]
          refine ⟨by omega, ?_⟩
          rw [arf_v fl (Or.inl rfl)]
          refine ⟨by omega, ?_⟩
          rw [arf_v fl (Or.inr rfl)]
          rfl
        · simp at hcm
          rcases hcm with q | q | q
          · rw [q]; exact v0
          · rw [q]; exact v1
          · rw [q]; exact v2
  have chk : ∀ s0 : Int, ((gf fs x1).1 = 2 ↔ s0 = 1) → (s0 = 0 ∨ s0 = 1) → P_X11_value_36 x1 x2 x3 x4 s0 μ K := by
    intro s0 hs hs01
    refine s_out (fun q => if1 (bad0 q)) (fun q => if0 (s_out (fun q1 => if1 (bad4 q q1)) (fun q1 => if0 (ifb (fun q2 => run s0 hs hs01 q q1 (fun q3 => by omega)) (fun q2 => s_out (fun q3 => if1 (bad3 q (hs.mpr (by omega)) q3)) (fun q3 => if0 (run s0 hs hs01 q q1 (fun _ => q3))))))))
  rw [g1]
  exact ifb (fun q => chk 1 ⟨fun _ => rfl, fun _ => q⟩ (Or.inr rfl)) (fun q => chk 0 ⟨fun q1 => absurd q1 q, fun q1 => absurd q1 (by decide)⟩ (Or.inl rfl))
