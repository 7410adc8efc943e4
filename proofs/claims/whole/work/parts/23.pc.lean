def so (T : List Int) (i : Int) : Int := if i = -9 then (T.length : Int) else if 0 ≤ i ∧ i < (T.length : Int) then gt T i else -9
theorem s_sym {t i : Int} {T : List Int} {μ : ZM} {K : Int → ZM → Prop} (ht : z_tm t) (h1 : μ t 2 = (T.length : Int)) (h2 : rp (μ (t + 1)) T) (hl : T.length ≤ 40) (h : K (so T i) μ) : P_X10_symbolOrSize t i μ K := by
  refine ⟨ht, ifb (fun g => ?_) (fun g => ifb (fun g1 => ?_) (fun g1 => ifb (fun g2 => ?_) (fun g2 => ⟨by omega, ?_⟩)))⟩
  · unfold so at h; rw [if_pos g] at h; rw [h1]; exact h
  · unfold so at h; rw [if_neg g, if_neg (by omega)] at h; exact h
  · unfold so at h; rw [if_neg g, if_neg (by omega)] at h; exact h
  · unfold so at h; rw [if_neg g, if_pos (by omega)] at h; rw [h2 i (by omega) (by omega)]; exact h
theorem s_told {s i : Int} {T : List Int} {μ : ZM} {K : Int → ZM → Prop} (hs : 0 ≤ s ∧ s < 44) (hS : Sl μ s T) (hl : T.length ≤ 128) (hi : i = -9 ∨ 0 ≤ i) (h : K (so T i) μ) : P_X12_told s i μ K := by
  obtain ⟨h1, h2⟩ := hS
  refine ifb (fun g => ⟨hs, ?_⟩) (fun g => ⟨hs, ifb (fun g1 => ?_) (fun g1 => s_at hs (by omega) ?_)⟩)
  · unfold so at h; rw [if_pos g] at h; rw [h1]; exact h
  · unfold so at h; rw [if_neg g, if_neg (by omega)] at h; exact h
  · unfold so at h; rw [if_neg g, if_pos (by omega)] at h; have := h2 i (by omega) (by omega); dsimp only at this; rw [this]; exact h
theorem op_side {x y : Int} {μ : ZM} (hI : Inv μ) {K : Int → ZM → Prop} (hK : ∀ r μ1, Ans (P_X12_side x y μ1) r → K r μ1) : P_X11_side x y μ K := by
  have hI0 := hI
  obtain ⟨tp, fs, cl, ls, nt, cs, ⟨c1, c2, c3, c4, c5, c6, c7⟩, ⟨m1, m2, m3, m4, m5, m6⟩, ho⟩ := hI
  have key : ∀ r : Int, (∀ K' : Int → ZM → Prop, K' r μ → P_X12_side x y μ K') → K r μ := fun r h => hK _ _ (Ans.same hI0 h)
  refine s_out (fun h => if1 (key _ (fun K' h' => s_wi (fun g => absurd g (by omega)) (fun _ => if0 h')))) (fun h => if0 (s_out (fun h1 => if1 (key _ (fun K' h' => s_wi (fun _ => if1 (s_wi (fun g => absurd g (by omega)) (fun _ => if0 h'))) (fun g => absurd g (by omega))))) (fun h1 => if0 ?_)))
  cases cl with
  | none =>
    have e1 : μ 206 11 = 0 := c3
    have e2 : μ 248 9 = 0 := m3
    rw [if_pos e1]
    refine key _ (fun K' h' => s_wi (fun _ => if1 (s_wi (fun _ => if1 ?_) (fun g => absurd g (by omega)))) (fun g => absurd g (by omega)))
    rw [if_pos e2]; exact h'
  | some q =>
    obtain ⟨e1, t1, t2⟩ := c3
    obtain ⟨e2, s1, s2⟩ := m3
    obtain ⟨-, -, l1, l2⟩ := ho.2.1 q rfl
    rw [if_neg (by omega)]
    refine ⟨by decide, ifb (fun g => ?_) (fun g => ?_)⟩
    · refine ⟨by decide, s_sym (T := q.1) (by decide) t1.1 t1.2.1 (by omega) (key _ (fun K' h' => s_wi (fun _ => if1 (s_wi (fun _ => if1 ?_) (fun g => absurd g (by omega)))) (fun g => absurd g (by omega))))⟩
      rw [if_neg (by omega)]
      exact ⟨⟨by omega, by omega⟩, s_told (T := q.1) (by omega) (by rw [g]; exact s1) (by omega) (by omega) h'⟩
    · refine ⟨by decide, s_sym (T := q.2) (by decide) t2.1 t2.2.1 (by omega) (key _ (fun K' h' => s_wi (fun _ => if1 (s_wi (fun _ => if1 ?_) (fun g => absurd g (by omega)))) (fun g => absurd g (by omega))))⟩
      rw [if_neg (by omega)]
      exact ⟨⟨by omega, by omega⟩, s_told (T := q.2) (by omega) (by rw [show 0 + x = 1 by omega]; exact s2) (by omega) (by omega) h'⟩
theorem op_lemma {x y z : Int} {μ : ZM} (hI : Inv μ) {K : Int → ZM → Prop} (hK : ∀ r μ1, Ans (P_X12_lemma x y z μ1) r → K r μ1) : P_X11_lemma x y z μ K := by
  have hI0 := hI
  obtain ⟨tp, fs, cl, ls, nt, cs, ⟨c1, c2, c3, c4, c5, c6, c7⟩, ⟨m1, m2, m3, m4, m5, m6⟩, ho⟩ := hI
  have key : ∀ r : Int, (∀ K' : Int → ZM → Prop, K' r μ → P_X12_lemma x y z μ K') → K r μ := fun r h => hK _ _ (Ans.same hI0 h)
  obtain ⟨a1, a2, a3⟩ := c4
  obtain ⟨b1, b2, b3⟩ := m4
  have zz : zin (μ 248 35 - 1) := ⟨by omega, by omega⟩
  refine ⟨⟨by omega, by omega⟩, s_out (fun h => if1 (key _ (fun K' h' => ⟨zz, s_wi (fun g => absurd g (by omega)) (fun _ => ⟨Or.inl rfl, if0 h'⟩)⟩))) (fun h => if0 (s_out (fun h1 => if1 (key _ (fun K' h' => ⟨zz, s_wi (fun _ => ⟨Or.inr rfl, if1 (s_wi (fun g => absurd g (by omega)) (fun _ => if0 h'))⟩) (fun g => absurd g (by omega))⟩))) (fun h1 => if0 (s_nop (by decide) (fun h2 => if1 (key _ (fun K' h' => ⟨zz, s_wi (fun _ => ⟨Or.inr rfl, if1 (s_wi (fun _ => if1 ?_) (fun g => absurd g (by omega)))⟩) (fun g => absurd g (by omega))⟩))) (fun h2 => if0 ⟨by omega, ?_⟩)))))⟩
  · rw [if_neg (by omega)]
    exact s_wi (fun g => absurd g (by omega)) (fun _ => if0 h')
  · obtain ⟨t1, t2⟩ := a3 x (by omega) (by omega)
    obtain ⟨s1, s2⟩ := b3 x (by omega) (by omega)
    have hmem : gl ls x ∈ ls := by
      unfold gl
      rw [List.getD_eq_getElem?_getD, List.getElem?_eq_getElem (by omega)]
      exact List.getElem_mem _
    obtain ⟨-, -, l1, l2⟩ := ho.2.2 _ hmem
    refine ⟨by omega, ifb (fun g => ?_) (fun g => ?_)⟩
    · rw [show 6 * (187 + 1 * x - 187) + 1 = 6 * x + 1 by omega]
      refine ⟨by omega, s_sym (T := (gl ls x).1) (by omega) t1.1 t1.2.1 (by omega) (key _ (fun K' h' => ⟨zz, s_wi (fun _ => ⟨Or.inr rfl, if1 (s_wi (fun _ => if1 ?_) (fun g => absurd g (by omega)))⟩) (fun g => absurd g (by omega))⟩))⟩
      have fin : P_X12_lemma_38 x y z μ K' := ⟨⟨by omega, by omega⟩, ⟨by omega, by omega⟩, ⟨by omega, by omega⟩, s_told (T := (gl ls x).1) (by omega) (by rw [show 28 + 2 * x + y = 28 + 2 * x by omega]; exact s1) (by omega) (by omega) h'⟩
      exact ifb (fun _ => fin) (fun _ => s_wi (fun _ => if1 fin) (fun g => absurd g (by omega)))
    · rw [show 6 * (187 + 1 * x - 187) + 4 = 6 * x + 4 by omega]
      refine ⟨by omega, s_sym (T := (gl ls x).2) (by omega) t2.1 t2.2.1 (by omega) (key _ (fun K' h' => ⟨zz, s_wi (fun _ => ⟨Or.inr rfl, if1 (s_wi (fun _ => if1 ?_) (fun g => absurd g (by omega)))⟩) (fun g => absurd g (by omega))⟩))⟩
      have fin : P_X12_lemma_38 x y z μ K' := ⟨⟨by omega, by omega⟩, ⟨by omega, by omega⟩, ⟨by omega, by omega⟩, s_told (T := (gl ls x).2) (by omega) (by rw [show 28 + 2 * x + y = 28 + 2 * x + 1 by omega]; exact s2) (by omega) (by omega) h'⟩
      exact ifb (fun _ => fin) (fun _ => s_wi (fun _ => if1 fin) (fun g => absurd g (by omega)))
/-! functions: bodies -/
theorem s_bodyOf {f w : Int} {fs : List Fn} {μ : ZM} {K : Int → ZM → Prop} (hF : CF μ fs) (ho : okF fs) (hf : 0 ≤ f ∧ f < (fs.length : Int)) (hw : 0 ≤ w ∧ w ≤ 2) (h0 : ¬ hasB (gf fs f) w → K 0 μ) (h1 : hasB (gf fs f) w → K (115 + 3 * (3 * f + w)) μ) : P_X3_bodyOf f w μ K := by
  obtain ⟨b1, b2, b3, b4⟩ := hF
  obtain ⟨q1, q2, q3⟩ := b3 f hf.1 hf.2
  obtain ⟨o1, o2, -⟩ := ho f hf.1 hf.2
  have fin : hasB (gf fs f) w → P_X3_bodyOf_42 f w μ K := fun hb => ⟨⟨by omega, by omega⟩, ⟨by omega, by omega⟩, ⟨by omega, by omega⟩, by rw [show f * 3 + w = 3 * f + w by omega]; exact h1 hb⟩
  refine ifb (fun g => absurd g (by omega)) (fun _ => ifb (fun g => absurd g (by omega)) (fun _ => ifb (fun g => absurd g (by omega)) (fun _ => ifb (fun _ => ifb (fun g => ⟨by omega, ifb (fun g1 => h0 (fun hb => ?_)) (fun g1 => fin ⟨hw.1, hw.2, fun _ => ?_⟩)⟩) (fun g => fin ⟨hw.1, hw.2, fun g2 => absurd g2 g⟩)) (fun g => absurd g (by omega)))))
  · have := hb.2.2 g
    omega
  · omega
theorem s_bodyLong {f w : Int} {fs : List Fn} {μ : ZM} {K : Int → ZM → Prop} (hF : MF μ fs) (ho : okF fs) (hf : 0 ≤ f ∧ f < (fs.length : Int)) (hw : 0 ≤ w ∧ w ≤ 2) (h0 : ¬ hasB (gf fs f) w → K (-9) μ) (h1 : hasB (gf fs f) w → K ((fB (gf fs f) w).length : Int) μ) : P_X12_bodyLong f w μ K := by
  obtain ⟨b1, b2, b3⟩ := hF
  obtain ⟨q1, q2, q3⟩ := b3 f hf.1 hf.2
  obtain ⟨o1, o2, -⟩ := ho f hf.1 hf.2
  have fin : hasB (gf fs f) w → P_X12_bodyLong_20 f w μ K := fun hb => ⟨⟨by omega, by omega⟩, ⟨by omega, by omega⟩, ⟨by omega, by omega⟩, by rw [(q3 w hb).1]; exact h1 hb⟩
  refine ifb (fun g => ⟨by omega, ifb (fun g1 => h0 (fun hb => ?_)) (fun g1 => fin ⟨hw.1, hw.2, fun _ => ?_⟩)⟩) (fun g => fin ⟨hw.1, hw.2, fun g2 => absurd g2 g⟩)
  · have := hb.2.2 g
    omega
  · omega
theorem op_body {x y z : Int} {μ : ZM} (hI : Inv μ) {K : Int → ZM → Prop} (hK : ∀ r μ1, Ans (P_X12_body x y z μ1) r → K r μ1) : P_X11_body x y z μ K := by
  have hI0 := hI
  obtain ⟨tp, fs, cl, ls, nt, cs, ⟨c1, c2, c3, c4, c5, c6, c7⟩, ⟨m1, m2, m3, m4, m5, m6⟩, ho⟩ := hI
  have key : ∀ r : Int, (∀ K' : Int → ZM → Prop, K' r μ → P_X12_body x y z μ K') → K r μ := fun r h => hK _ _ (Ans.same hI0 h)
  have a1 := c2.1
  have a2 := c2.2.1
  have b1 := m2.1
  have zz : zin (μ 248 4 - 1) := ⟨by omega, by omega⟩
  refine ⟨⟨by omega, by omega⟩, s_out (fun h => if1 (key _ (fun K' h' => ⟨zz, s_wi (fun g => absurd g (by omega)) (fun _ => ⟨Or.inl rfl, if0 h'⟩)⟩))) (fun h => if0 (s_out (fun h1 => if1 (key _ (fun K' h' => ⟨zz, s_wi (fun _ => ⟨Or.inr rfl, if1 (s_wi (fun g => absurd g (by omega)) (fun _ => if0 h'))⟩) (fun g => absurd g (by omega))⟩))) (fun h1 => if0 (s_out (fun h2 => if1 (key _ (fun K' h' => ⟨zz, s_wi (fun _ => ⟨Or.inr rfl, if1 (s_wi (fun _ => if1 (s_wi (fun g => absurd g (by omega)) (fun _ => if0 h'))) (fun g => absurd g (by omega)))⟩) (fun g => absurd g (by omega))⟩))) (fun h2 => if0 (s_bodyOf c2 ho.1 (by omega) (by omega) (fun hb => if0 (key _ (fun K' h' => ⟨zz, s_wi (fun _ => ⟨Or.inr rfl, if1 (s_wi (fun _ => if1 (s_wi (fun _ => if1 (s_bodyLong m2 ho.1 (by omega) (by omega) (fun _ => ?_) (fun g => absurd g hb))) (fun g => absurd g (by omega)))) (fun g => absurd g (by omega)))⟩) (fun g => absurd g (by omega))⟩))) (fun hb => ?_)))))))⟩
  · rw [if_pos (by omega)]; exact h'
  · obtain ⟨q1, q2, q3⟩ := c2.2.2.1 x (by omega) (by omega)
    obtain ⟨p1, p2, p3⟩ := m2.2.2 x (by omega) (by omega)
    obtain ⟨-, -, o3⟩ := ho.1 x (by omega) (by omega)
    have ol := (o3 y hb).2.1
    rw [if_neg (by omega)]
    refine ⟨by omega, s_sym (T := fB (gf fs x) y) (by omega) (q3 y hb).1 (q3 y hb).2 (by omega) (key _ (fun K' h' => ⟨zz, s_wi (fun _ => ⟨Or.inr rfl, if1 (s_wi (fun _ => if1 (s_wi (fun _ => if1 (s_bodyLong m2 ho.1 (by omega) (by omega) (fun g => absurd hb g) (fun _ => ?_))) (fun g => absurd g (by omega)))) (fun g => absurd g (by omega)))⟩) (fun g => absurd g (by omega))⟩))⟩
    unfold so at h'
    rw [if_neg (by omega)] at h'
    refine ifb (fun g => ?_) (fun g => ?_)
    · rw [if_neg (by omega)] at h'; exact h'
    · rw [if_pos (by omega)] at h'
      have := (p3 y hb).2 z (by omega) (by omega)
      dsimp only at this
      rw [← this] at h'
      exact ⟨⟨by omega, by omega⟩, ⟨by omega, by omega⟩, ⟨by omega, by omega⟩, ⟨by omega, by omega⟩, ⟨by omega, by omega⟩, h'⟩
theorem op_ofFunction {x y : Int} {μ : ZM} (hI : Inv μ) {K : Int → ZM → Prop} (hK : ∀ r μ1, Ans (P_X12_ofFunction x y μ1) r → K r μ1) : P_X11_ofFunction x y μ K := by
  have hI0 := hI
  obtain ⟨tp, fs, cl, ls, nt, cs, ⟨c1, c2, c3, c4, c5, c6, c7⟩, ⟨m1, m2, m3, m4, m5, m6⟩, ho⟩ := hI
  have key : ∀ r : Int, (∀ K' : Int → ZM → Prop, K' r μ → P_X12_ofFunction x y μ K') → K r μ := fun r h => hK _ _ (Ans.same hI0 h)
  have a1 := c2.1
  have a2 := c2.2.1
  have b1 := m2.1
  have zz : zin (μ 248 4 - 1) := ⟨by omega, by omega⟩
  refine ⟨⟨by omega, by omega⟩, s_out (fun h => if1 (key _ (fun K' h' => ⟨zz, s_wi (fun g => absurd g (by omega)) (fun _ => ⟨Or.inl rfl, if0 h'⟩)⟩))) (fun h => if0 (s_out (fun h1 => if1 (key _ (fun K' h' => ⟨zz, s_wi (fun _ => ⟨Or.inr rfl, if1 ?_⟩) (fun g => absurd g (by omega))⟩))) (fun h1 => if0 ?_)))⟩
  · rw [if_neg (by omega), if_neg (by omega), if_neg (by omega), if_neg (by omega), if_neg (by omega)]; exact h'
  · obtain ⟨q1, q2, q3⟩ := c2.2.2.1 x (by omega) (by omega)
    obtain ⟨p1, p2, p3⟩ := m2.2.2 x (by omega) (by omega)
    refine ifb (fun g0 => ⟨by omega, key _ (fun K' h' => ⟨zz, s_wi (fun _ => ⟨Or.inr rfl, if1 ?_⟩) (fun g => absurd g (by omega))⟩)⟩) (fun g0 => ifb (fun g1 => ⟨by omega, key _ (fun K' h' => ⟨zz, s_wi (fun _ => ⟨Or.inr rfl, if1 ?_⟩) (fun g => absurd g (by omega))⟩)⟩) (fun g1 => ⟨⟨by omega, by omega⟩, s_bodyOf c2 ho.1 (by omega) (by omega) (fun hb => if0 (key _ (fun K' h' => ⟨zz, s_wi (fun _ => ⟨Or.inr rfl, if1 ?_⟩) (fun g => absurd g (by omega))⟩))) (fun hb => ?_)⟩))
    · rw [if_pos g0, p1, ← q1]; exact ⟨by omega, h'⟩
    · rw [if_neg g0, if_pos g1, p2, ← q2]; exact ⟨by omega, h'⟩
    · have fin : P_X12_bodyLong x (y - 2) μ (fun r μ => K' r μ) := s_bodyLong m2 ho.1 (by omega) (by omega) (fun _ => h') (fun g => absurd g hb)
      have zy : zin (y - 2) := ⟨by omega, by omega⟩
      rw [if_neg g0, if_neg g1]
      exact ifb (fun _ => ⟨zy, fin⟩) (fun _ => ifb (fun _ => ⟨zy, fin⟩) (fun _ => ifb (fun _ => ⟨zy, fin⟩) (fun _ => absurd h1 (by omega))))
    · rw [if_neg (by omega)]
      refine ⟨by omega, key _ (fun K' h' => ⟨zz, s_wi (fun _ => ⟨Or.inr rfl, if1 ?_⟩) (fun g => absurd g (by omega))⟩)⟩
      have fin : P_X12_bodyLong x (y - 2) μ (fun r μ => K' r μ) := s_bodyLong m2 ho.1 (by omega) (by omega) (fun g => absurd hb g) (fun _ => by rw [← (q3 _ hb).1]; exact h')
      have zy : zin (y - 2) := ⟨by omega, by omega⟩
      rw [if_neg g0, if_neg g1]
      exact ifb (fun _ => ⟨zy, fin⟩) (fun _ => ifb (fun _ => ⟨zy, fin⟩) (fun _ => ifb (fun _ => ⟨zy, fin⟩) (fun _ => absurd h1 (by omega))))
