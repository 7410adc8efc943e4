/-! the class's machine -/
theorem sk_push {μ : ZM} {st : List Int} {v : Int} (h : sk (μ 221) st) : sk (z_upd μ 221 (st.length : Int) v 221) (v :: st) := ⟨zu_s, sk_ex h (fun i h1 h2 => zu_k (by omega))⟩
theorem s_isLetter {c : Int} {μ : ZM} {K : Int → ZM → Prop} (h1 : 97 ≤ c ∧ c < 103 → K 1 μ) (h0 : ¬ (97 ≤ c ∧ c < 103) → K 0 μ) : P_X10_isLetter c μ K := by
  refine ifb (fun g => ⟨Or.inl rfl, h0 (by omega)⟩) (fun g => ifb (fun g1 => ⟨Or.inl rfl, h0 (by omega)⟩) (fun g1 => ⟨Or.inr rfl, h1 (by omega)⟩))
/-- after the place of the open frame has been moved: one code is taken -/
theorem s_take {fs : List Fn} {n : Nat} {z4 w : Int} {f : Fr} {fr : List Fr} {st : List Int} {μ : ZM} {R : Int × Int} {K : Int → ZM → Prop} (ho : okF fs) (hl : fs.length ≤ 6) (hok : okE fs n w (f :: fr) st) (h0 : 0 < f.2.1) (hC : EC μ z4 w (dn f :: fr) st) (hc : ¬ (97 ≤ cd f ∧ cd f < 103)) (hR : ev fs n w (f :: fr) st = R) (hfail : R = (-9, 0) → K 0 μ ) (hnext : ∀ μ' st', (∀ a k, a ≠ 221 → ¬ (a = 215 ∧ k = 9) → μ' a k = μ a k) → EC μ' z4 w (dn f :: fr) st' → n ≠ 0 → okE fs (n - 1) w (dn f :: fr) st' → ev fs (n - 1) w (dn f :: fr) st' = R → K 1 μ') : P_X2_take (cd f) z4 μ K := by
  have hb := okE_bd ho hok
  obtain ⟨e1, e2, e3, e4, e5⟩ := hC
  have hmem : cd f ∈ f.1 := cd_mem ⟨h0, hok.2.2.2.2.2.1.1.2.2.1⟩
  have hcv : cv fs (cd f) := hok.2.2.2.2.2.1.1.1.2 _ hmem
  have hn : n ≠ 0 := by
    have h1 := ph_pos hok.2.2.2.2.2.1.2.2
    have h2 : ph (f :: fr) = (f.2.1 + 1) + ph fr := rfl
    have := hok.2.2.2.2.2.2.2
    have := hok.2.1
    omega
  rw [ev_cons hn, if_neg (by omega)] at hR
  have push : ∀ v : Int, arf fs (cd f) = 0 → 0 ≤ v ∧ v ≤ 99 → ev fs (n - 1) w (dn f :: fr) (v :: st) = R → ((0 : Int) ≤ μ 215 9 ∧ μ 215 9 < 640) ∧ P_X2_take_161 (z_upd μ 221 (μ 215 9) v) K := by
    intro v ha hv hRv
    refine ⟨by omega, ?_⟩
    unfold P_X2_take_161
    simp only [z_wr]
    rw [zu_n (by decide), e3]
    refine ⟨⟨by omega, by omega⟩, Or.inr rfl, hnext _ (v :: st) (fun a k g1 g2 => ?_) ?_ hn (okE_push hok h0 ha hv).2 hRv⟩
    · rw [zu_f g2, zu_n g1]
    · refine ⟨?_, ?_, ?_, ?_, ?_⟩
      · rw [zu_k (by decide), zu_n (by decide)]; exact e1
      · rw [zu_k (by decide), zu_n (by decide)]; exact e2
      · rw [zu_s]; simp
      · exact fk_ex e4 (fun i g _ _ q => q.ex (fun a k ha => by rw [zu_n (by omega), zu_n (by omega)]) (fun a h1 h2 => by rw [zu_n (by omega), zu_n (by omega)]))
      · have := sk_push (μ := μ) (v := v) e5
        exact sk_ex this (fun i _ _ => zu_n (by decide))
  have ha0 : cd f ≠ 83 → arf fs (cd f) = 0 := by
    intro q
    unfold arf
    rw [if_neg q, if_neg (by omega)]
  obtain ⟨k1, k2, k3, k4, k5, k6, -⟩ := hok.2.2.2.2.2.1.1
  obtain ⟨t1, t2, t3, t4, t5, t6⟩ := e4.1
  refine ifb (fun g => ?_) (fun g => ifb (fun g' => absurd g' (by omega)) (fun _ => ifb (fun _ => ?_) (fun g' => absurd g' (by omega))))
  · obtain ⟨-, v, s, q1, q2, q3, q4⟩ := okE_succ hok h0 g
    subst q1
    rw [if_pos g] at hR
    have hv : μ 221 (μ 215 9 - 1) = v := by
      rw [e3, show (((v :: s).length : Nat) : Int) - 1 = (s.length : Int) by simp]
      exact e5.1
    have hl9 : μ 215 9 - 1 = (s.length : Int) := by rw [e3]; simp
    rw [hv]
    refine ifb (fun g' => absurd g' (by omega)) (fun _ => ⟨⟨by omega, by omega⟩, by simp at hb; omega, ifb (fun g1 => ⟨⟨by omega, by omega⟩, by simp at hb; omega, ⟨by omega, by omega⟩, by simp at hb; omega, ?_⟩) (fun g1 => ⟨Or.inl rfl, hfail ?_⟩)⟩)
    · refine ⟨Or.inr rfl, hnext _ ((v + 1) :: s) (fun a k h1 h2 => zu_n h1) ?_ hn (q4 g1) ?_⟩
      · refine ⟨?_, ?_, ?_, ?_, ?_⟩
        · rw [zu_n (by decide)]; exact e1
        · rw [zu_n (by decide)]; exact e2
        · rw [zu_n (by decide)]; exact e3
        · exact fk_ex e4 (fun i g _ _ q => q.ex (fun a k ha => by rw [zu_n (by omega)]) (fun a h1 h2 => by rw [zu_n (by omega)]))
        · rw [hl9]
          exact sk_push e5.2
      · rw [if_pos (show (v :: s).headD 0 < 99 from g1)] at hR
        exact hR
    · rw [if_neg (show ¬ (v :: s).headD 0 < 99 from g1)] at hR
      exact hR.symm
  · rw [if_neg g] at hR
    have hi : μ 215 8 = (fr.length : Int) := by rw [e2]; simp
    have hfl : (fr.length : Int) ≤ 60 := by
      have := hok.2.2.1
      have := hok.2.1
      simp at *
      omega
    refine ifb (fun g1 => ?_) (fun g1 => ifb (fun g2 => ?_) (fun g2 => ifb (fun g3 => ?_) (fun g3 => ?_)))
    · rw [if_pos g1] at hR
      rw [hi, t4]
      exact ⟨by omega, push _ (ha0 g) (k4 (by rw [← g1]; exact hmem)) hR⟩
    · rw [if_neg g1, if_pos g2] at hR
      have hm : 121 ∈ f.1 := by rw [← g2]; exact hmem
      rw [hi, t5 hm]
      exact ⟨by omega, push _ (ha0 g) (k5 hm) hR⟩
    · rw [if_neg g1, if_neg g2, if_pos g3] at hR
      have hm : 122 ∈ f.1 := by rw [← g3]; exact hmem
      rw [t6 hm]
      exact push _ (ha0 g) (k6 hm) hR
    · have h90 : cd f = 90 := by unfold cv at hcv; omega
      rw [if_neg g1, if_neg g2, if_neg g3, if_pos h90] at hR
      exact push 0 (ha0 g) (by omega) hR
