theorem sk_hd {g : Int → Int} {st : List Int} (h : sk g st) (hl : 1 ≤ (st.length : Int)) : g ((st.length : Int) - 1) = st.headD 0 := by
  cases st with
  | nil => simp at hl
  | cons v s =>
    rw [show (((v :: s).length : Nat) : Int) - 1 = (s.length : Int) by simp]
    exact h.1
theorem sk_2 {g : Int → Int} {st : List Int} (h : sk g st) (hl : 2 ≤ (st.length : Int)) : g ((st.length : Int) - 2) = st.tail.headD 0 := by
  cases st with
  | nil => simp at hl
  | cons v s =>
    have := sk_hd h.2 (by simp at hl; omega)
    rw [show (((v :: s).length : Nat) : Int) - 2 = (s.length : Int) - 1 by simp; omega]
    exact this
theorem s_call {fs : List Fn} {n : Nat} {z4 w : Int} {f : Fr} {fr : List Fr} {st : List Int} {μ : ZM} {R : Int × Int} {K : Int → ZM → Prop} (ho : okF fs) (hF : CF μ fs) (hok : okE fs n w (f :: fr) st) (h0 : 0 < f.2.1) (hC : EC μ z4 w (dn f :: fr) st) (hc : 97 ≤ cd f ∧ cd f < 103) (hR : ev fs n w (f :: fr) st = R) (hfail : R = (-9, 0) → K 0 μ) (hnext : ∀ μ' st', (∀ a k, ¬ evc a → μ' a k = μ a k) → EC μ' z4 (w + 1) (cal fs (cd f - 97) st :: dn f :: fr) st' → n ≠ 0 → okE fs (n - 1) (w + 1) (cal fs (cd f - 97) st :: dn f :: fr) st' → ev fs (n - 1) (w + 1) (cal fs (cd f - 97) st :: dn f :: fr) st' = R → K 1 μ') : P_X2_call (cd f - 97) μ K := by
  have hb := okE_bd ho hok
  obtain ⟨e1, e2, e3, e4, e5⟩ := hC
  have hl := hF.2.1
  have hmem : cd f ∈ f.1 := cd_mem ⟨h0, hok.2.2.2.2.2.1.1.2.2.1⟩
  have hcv : cv fs (cd f) := hok.2.2.2.2.2.1.1.1.2 _ hmem
  have hfn : 0 ≤ cd f - 97 ∧ cd f - 97 < (fs.length : Int) := by unfold cv at hcv; omega
  obtain ⟨hn, b1, b2, b3, b4⟩ := okE_call ho hok h0 hfn
  rw [ev_cons hn, if_neg (by omega), if_neg (by omega), if_neg (by omega), if_neg (by omega), if_neg (by omega), if_neg (by omega)] at hR
  have hfl : (fr.length : Int) ≤ w := by
    have := hok.2.2.1
    simp at this
    omega
  have hw60 := hok.2.1
  have hw0 := hok.1
  have c1 := hF.1
  obtain ⟨f1, f2, f3⟩ := ho _ hfn.1 hfn.2
  obtain ⟨g1, g2, g3⟩ := hF.2.2.1 _ hfn.1 hfn.2
  have hi : μ 215 8 = (fr.length : Int) := by rw [e2]; simp
  have hB := hasB_of (fs := fs) (v := st.headD 0) ho hfn b2
  obtain ⟨t1, t2⟩ := g3 _ hB
  have hhd := sk_hd e5 (by omega)
  have hB' := hB
  unfold hasB at hB'
  generalize hx : cd f - 97 = x at *
  generalize hbw : (if st.headD 0 < (gf fs x).2.1 then st.headD 0 else 2) = bw at *
  have fin : ∀ μ2 : ZM, (∀ a k, ¬ (a = 215 ∧ (k = 2 ∨ k = 9)) → μ2 a k = μ a k) → μ2 215 2 = w + 1 → μ2 215 9 = (st.length : Int) - (gf fs x).1 → w < 60 → P_X2_call_128 (gf fs x).2.1 (st.headD 0) (x * 3) bw μ2 K := by
    intro μ2 q1 q2 q3 q4
    unfold P_X2_call_128
    simp only [z_wr]
    have q8 : μ2 215 8 = (fr.length : Int) := (q1 _ _ (by omega)).trans hi
    rw [q8]
    simp only [zu_s, zu_n (show (215 : Int) ≠ 217 by decide), zu_n (show (215 : Int) ≠ 218 by decide), zu_n (show (215 : Int) ≠ 219 by decide), zu_k (show (9 : Int) ≠ 8 by decide), zu_n (show (221 : Int) ≠ 219 by decide), zu_n (show (221 : Int) ≠ 218 by decide), zu_n (show (221 : Int) ≠ 217 by decide), zu_n (show (221 : Int) ≠ 215 by decide)]
    have r1 : ∀ v : Int, z_upd (z_upd μ2 215 8 ((fr.length : Int) + 1)) 217 ((fr.length : Int) + 1) v (115 + 3 * (x * 3 + bw)) 2 = ((fB (gf fs x) bw).length : Int) := fun v => by
      rw [zu_n (by omega), zu_n (by omega), q1 _ _ (by omega), show 115 + 3 * (x * 3 + bw) = 115 + 3 * (3 * x + bw) by omega]
      exact t1
    rw [r1, q3]
    have hEv : ev fs (n - 1) (w + 1) (cal fs x st :: dn f :: fr) (st.drop (gf fs x).1.toNat) = R := by
      rw [if_neg (by omega)] at hR; exact hR
    refine ⟨⟨by omega, by omega⟩, by omega, ⟨by omega, by omega⟩, by omega, by omega, ⟨by omega, by omega⟩, by omega, by omega, by omega, Or.inr rfl, ?_⟩
    generalize hM : z_upd (z_upd (z_upd (z_upd (z_upd μ2 215 8 ((fr.length : Int) + 1)) 217 ((fr.length : Int) + 1) (115 + 3 * (x * 3 + bw))) 218 ((fr.length : Int) + 1) ((fB (gf fs x) bw).length : Int)) 219 ((fr.length : Int) + 1) (st.headD 0 - (gf fs x).2.1)) 220 ((fr.length : Int) + 1) (μ2 221 ((st.length : Int) - (gf fs x).1)) = μ3
    have m0 : ∀ a k, ¬ (a = 215 ∧ k = 8) → ¬ (217 ≤ a ∧ a ≤ 220 ∧ k = (fr.length : Int) + 1) → μ3 a k = μ2 a k := fun a k h1 h2 => by
      rw [← hM, zu_f (by omega), zu_f (by omega), zu_f (by omega), zu_f (by omega), zu_f (by omega)]
    have m1 : μ3 215 8 = (fr.length : Int) + 1 := by rw [← hM, zu_n (by decide), zu_n (by decide), zu_n (by decide), zu_n (by decide), zu_s]
    have m2 : μ3 217 ((fr.length : Int) + 1) = 115 + 3 * (x * 3 + bw) := by rw [← hM, zu_n (by decide), zu_n (by decide), zu_n (by decide), zu_s]
    have m3 : μ3 218 ((fr.length : Int) + 1) = ((fB (gf fs x) bw).length : Int) := by rw [← hM, zu_n (by decide), zu_n (by decide), zu_s]
    have m4 : μ3 219 ((fr.length : Int) + 1) = st.headD 0 - (gf fs x).2.1 := by rw [← hM, zu_n (by decide), zu_s]
    have m5 : μ3 220 ((fr.length : Int) + 1) = μ2 221 ((st.length : Int) - (gf fs x).1) := by rw [← hM, zu_s]
    have low0 : ∀ a k, ¬ evc a → μ3 a k = μ a k := fun a k h => by
      unfold evc at h
      rw [m0 _ _ (by omega) (by omega), q1 _ _ (by omega)]
    refine hnext μ3 _ low0 ⟨?_, ?_, ?_, ⟨?_, ?_⟩, ?_⟩ hn (b4 q4) hEv
    · rw [m0 _ _ (by omega) (by omega)]; exact q2
    · rw [m1]; simp
    · rw [m0 _ _ (by omega) (by omega), q3, List.length_drop]; omega
    · rw [show (((dn f :: fr).length : Nat) : Int) = (fr.length : Int) + 1 by simp]
      unfold clF
      rw [m2, m3, m4, m5]
      have hcal : (cal fs x st).1 = fB (gf fs x) bw := by rw [← hbw]; rfl
      refine ⟨by unfold z_tm; omega, ⟨?_, ?_⟩, ?_, rfl, fun q => ?_, fun q => ?_⟩
      · rw [hcal, low0 _ _ (by unfold evc; omega), show 115 + 3 * (x * 3 + bw) = 115 + 3 * (3 * x + bw) by omega]; exact t1
      · rw [hcal]
        exact t2.ex (fun i _ _ => by rw [low0 _ _ (by unfold evc; omega), show 115 + 3 * (x * 3 + bw) = 115 + 3 * (3 * x + bw) by omega])
      · rw [← hcal]; rfl
      · rw [hcal] at q
        have := ((f3 _ hB).2.2 121 q).2.1 rfl
        show _ = if (gf fs x).1 = 2 then st.tail.headD 0 else 0
        rw [if_pos this, this, q1 _ _ (by omega)]
        exact sk_2 e5 (by omega)
      · rw [hcal] at q
        exact absurd rfl ((f3 _ hB).2.2 122 q).1
    · refine fk_ex e4 (fun i g h1 h2 q => q.ex (fun a k ha => low0 _ _ (by unfold evc; omega)) (fun a h3 h4 => ?_))
      simp at h2
      rw [m0 _ _ (by omega) (by omega), q1 _ _ (by omega)]
    · exact sk_ex (sk_drop _ e5) (fun i h1 h2 => by rw [m0 _ _ (by omega) (by omega), q1 _ _ (by omega)])
  refine ifb (fun g => absurd g (by omega)) (fun _ => ifb (fun g => absurd g (by omega)) (fun _ => ifb (fun g => ⟨Or.inl rfl, hfail ?_⟩) (fun g => ⟨⟨by omega, by omega⟩, ifb (fun _ => ⟨by omega, by omega, ifb (fun _ => ⟨⟨by omega, by omega⟩, ?_⟩) (fun g' => absurd g' (by omega))⟩) (fun g' => absurd g' (by omega))⟩)))
  · rw [if_pos (by omega)] at hR; exact hR.symm
  · simp only [z_wr]
    rw [g1, g2]
    have s9 : z_upd μ 215 2 (μ 215 2 + 1) 215 9 = (st.length : Int) := (zu_k (by decide)).trans e3
    rw [s9]
    have u9 : z_upd (z_upd μ 215 2 (μ 215 2 + 1)) 215 9 ((st.length : Int) - (gf fs x).1) 215 9 = (st.length : Int) - (gf fs x).1 := zu_s
    rw [u9, show (st.length : Int) - (gf fs x).1 + (gf fs x).1 - 1 = (st.length : Int) - 1 by omega]
    have v1 : z_upd (z_upd μ 215 2 (μ 215 2 + 1)) 215 9 ((st.length : Int) - (gf fs x).1) 221 ((st.length : Int) - 1) = st.headD 0 := by
      rw [zu_n (by decide), zu_n (by decide)]; exact hhd
    rw [v1]
    have z2 : z_upd (z_upd μ 215 2 (μ 215 2 + 1)) 215 9 ((st.length : Int) - (gf fs x).1) 215 2 = w + 1 := by rw [zu_k (by decide), zu_s, e1]
    have zf : ∀ a k, ¬ (a = 215 ∧ (k = 2 ∨ k = 9)) → z_upd (z_upd μ 215 2 (μ 215 2 + 1)) 215 9 ((st.length : Int) - (gf fs x).1) a k = μ a k := fun a k h => by rw [zu_f (by omega), zu_f (by omega)]
    have F := fin _ zf z2 u9 (by omega)
    refine ⟨⟨by omega, by omega⟩, ⟨by omega, by omega⟩, ⟨by omega, by omega⟩, by omega, ⟨by omega, by omega⟩, ifb (fun q => ?_) (fun q => ?_)⟩
    · rw [if_pos q] at hbw
      rw [show max (st.headD 0) 0 = st.headD 0 by omega, hbw]
      rw [hbw] at F
      exact F
    · rw [if_neg q] at hbw
      subst hbw
      exact F
