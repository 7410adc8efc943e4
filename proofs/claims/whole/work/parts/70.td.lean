def df (fs : List Fn) (A B : List Int) : Int := if dD fs A B 0 0 < 100000 then dD fs A B 0 0 else -9
theorem okT_1 {fs : List Fn} {A : List Int} (h : okT fs A) : 1 ≤ A.length := by
  cases A with
  | nil => exact absurd (show (1 : Int) = 0 from h.1) (by decide)
  | cons c A => simp
theorem s_smallest {fs : List Fn} {t t' : Int} {A B : List Int} {μ : ZM} {K : Int → ZM → Prop} (ho : okF fs) (ht : z_tm t) (ht' : z_tm t') (hT : Tm μ fs t A) (hT' : Tm μ fs t' B) (hA : okT fs A) (hB : okT fs B) (lA : A.length ≤ 40) (lB : B.length ≤ 40) (h : ∀ μ', (∀ a k, a ≠ 234 → a ≠ 235 → μ' a k = μ a k) → K (df fs A B) μ') : P_X1_smallest t t' μ K := by
  have b := ht
  have b' := ht'
  unfold z_tm at b b'
  have lA1 := okT_1 hA
  have lB1 := okT_1 hB
  unfold P_X1_smallest
  rw [hT.1, hT'.1]
  refine ⟨ht, ht', ifb (fun g => absurd g (by omega)) (fun _ => ifb (fun g => ?_) (fun g => ?_))⟩
  · refine s_findDepths ho ht hT hA lA (fun μ1 e1 d1 => ?_)
    rw [show μ1 t 2 = (A.length : Int) from (e1 _ _ (by omega)).trans hT.1]
    refine ⟨⟨by omega, by omega⟩, ?_⟩
    refine z_lf1_ind (fun i μ' => -1 ≤ i ∧ i < (A.length : Int) ∧ (∀ a k, a ≠ 234 → μ' a k = μ1 a k) ∧ ∀ i' j' : Int, i < i' → i' < (A.length : Int) → 0 ≤ j' → j' < (B.length : Int) → μ' 234 (i' * 40 + j') = cl6 (dD fs A B i' j')) (fun i _ => (i + 1).toNat) ?_ _ μ1 ⟨by omega, by omega, fun _ _ _ => rfl, fun i' j' h1 h2 => absurd h1 (by omega)⟩
    intro i μ' G ⟨e2, e3, e4, e5⟩ hG
    refine ifb (fun g1 => ?_) (fun g1 => ?_)
    · have hv := e5 0 0 (by omega) (by omega) (by omega) (by omega)
      rw [show (0 : Int) * 40 + 0 = 0 by omega] at hv
      rw [hv]
      have hh := h μ' (fun a k q1 q2 => (e4 a k q1).trans (e1 a k q2))
      have hb := dD_b (i := 0) (j := 0) ho hA hB lA ⟨by omega, by omega⟩ ⟨by omega, by omega⟩
      unfold df at hh
      unfold cl6
      by_cases q : dD fs A B 0 0 < 100000
      · rw [if_pos q] at hh ⊢
        rw [if_pos (by omega)]
        exact ⟨by omega, by omega, hh⟩
      · rw [if_neg q] at hh ⊢
        rw [if_neg (by omega)]
        exact ⟨by omega, hh⟩
    · have es : μ' t' 2 = (B.length : Int) := (e4 _ _ (by omega)).trans ((e1 _ _ (by omega)).trans hT'.1)
      rw [es]
      refine ⟨⟨by omega, by omega⟩, ?_⟩
      refine z_lf1_ind (fun j μ2 => -1 ≤ j ∧ j < (B.length : Int) ∧ (∀ a k, a ≠ 234 → μ2 a k = μ1 a k) ∧ ∀ i' j' : Int, (i < i' ∨ (i' = i ∧ j < j')) → i' < (A.length : Int) → 0 ≤ j' → j' < (B.length : Int) → μ2 234 (i' * 40 + j') = cl6 (dD fs A B i' j')) (fun j _ => (j + 1).toNat) ?_ _ μ' ⟨by omega, by omega, e4, fun i' j' h1 h2 h3 h4 => e5 i' j' (by omega) h2 h3 h4⟩
      intro j μ2 G2 ⟨f2, f3, f4, f5⟩ hG2
      refine ifb (fun g2 => ⟨⟨by omega, by omega⟩, hG _ _ ⟨by omega, by omega, f4, fun i' j' h1 h2 h3 h4 => f5 i' j' (by omega) h2 h3 h4⟩ (by omega)⟩) (fun g2 => ⟨⟨by omega, by omega⟩, ⟨by omega, by omega⟩, ?_⟩)
      have fr : ∀ a k, a ≠ 234 → a ≠ 235 → μ2 a k = μ a k := fun a k q1 q2 => (f4 a k q1).trans (e1 a k q2)
      refine s_smallestAt (fs := fs) (A := A) (B := B) ho ht ht' (hT.ex (fun k => fr _ _ (by omega) (by omega)) (fun k => fr _ _ (by omega) (by omega)) (fun k => fr _ _ (by omega) (by omega))) (hT'.ex (fun k => fr _ _ (by omega) (by omega)) (fun k => fr _ _ (by omega) (by omega)) (fun k => fr _ _ (by omega) (by omega))) hA hB lA lB ⟨by omega, by omega⟩ ⟨by omega, by omega⟩ (fun p h1 h2 => (f4 _ _ (by omega)).trans (d1 p h1 h2)) (fun i' j' h1 h2 h3 h4 => f5 i' j' (Or.inl h1) h2 h3 h4) ?_
      refine ⟨by omega, ⟨by omega, by omega⟩, hG2 _ _ ⟨by omega, by omega, fun a k q => (zu_n q).trans (f4 a k q), fun i' j' h1 h2 h3 h4 => ?_⟩ (by omega)⟩
      by_cases ee : i' = i ∧ j' = j
      · rw [ee.1, ee.2, zu_s]
      · rw [zu_k (by omega)]
        exact f5 i' j' (by omega) h2 h3 h4
  · have hb := dD_b (i := 0) (j := 0) ho hA hB lA ⟨by omega, by omega⟩ ⟨by omega, by omega⟩
    have ea := en_0 hA
    have eb := en_0 hB
    have hh := h μ (fun _ _ _ _ => rfl)
    unfold df at hh
    rw [if_neg (fun q => by have := (hb.2.2 q).2; omega)] at hh
    exact hh
/-! the reference -/
theorem s_arity {fs : List Fn} {c : Int} {μ : ZM} {K : Int → ZM → Prop} (hF : MF μ fs) (hc : cv fs c) (h : K (arf fs c) μ) : P_X12_arity c μ K := by
  have hl := hF.2.1
  unfold arf at h
  refine ifb (fun g => ?_) (fun g => ?_)
  · rw [if_pos g] at h; exact h
  · rw [if_neg g] at h
    refine s_wi (fun q => ⟨Or.inr rfl, if1 ?_⟩) (fun q => ⟨Or.inl rfl, if0 ?_⟩)
    · have hq : 97 ≤ c ∧ c < 97 + (fs.length : Int) := by unfold cv at hc; omega
      rw [if_pos hq] at h
      refine ⟨⟨by omega, by omega⟩, by omega, ?_⟩
      rw [(hF.2.2 (c - 97) (by omega) (by omega)).1]; exact h
    · rw [if_neg (by omega)] at h; exact h
theorem cv_gt {fs : List Fn} {T : List Int} {i : Int} (hT : okT fs T) (h : 0 ≤ i ∧ i < (T.length : Int)) : cv fs (gt T i) := hT.2 _ (mem_gt.mpr ⟨i, h.1, h.2, rfl⟩)
theorem s_atT {s i : Int} {T : List Int} {μ : ZM} {K : Int → ZM → Prop} (hs : 0 ≤ s ∧ s < 44) (hS : Sl μ s T) (hl : T.length ≤ 128) (hi : 0 ≤ i ∧ i < (T.length : Int)) (h : K (gt T i) μ) : P_X12_at s i μ K := by
  refine s_at hs (by omega) ?_
  have := hS.2 i hi.1 hi.2
  dsimp only at this
  rw [this]; exact h
theorem s_end {fs : List Fn} {s i : Int} {T : List Int} {μ : ZM} {K : Int → ZM → Prop} (ho : okF fs) (hF : MF μ fs) (hs : 0 ≤ s ∧ s < 44) (hS : Sl μ s T) (hT : okT fs T) (hl : T.length ≤ 128) (hi : 0 ≤ i ∧ i < (T.length : Int)) (h : K (en fs T i) μ) : P_X12_end s i μ K := by
  obtain ⟨k0, hk0, hp0⟩ := pw_sfx hT hi
  refine z_lf2_ind (fun nd j μ' => μ' = μ ∧ i ≤ j ∧ j ≤ (T.length : Int) ∧ 0 ≤ nd ∧ nd ≤ 1 + (j - i) ∧ j + fe fs nd (T.drop j.toNat) = en fs T i ∧ pw fs (nd + (k0 - 1)) (T.drop j.toNat)) (fun nd j _ => ((T.length : Int) - j).toNat) ?_ 1 i μ ⟨rfl, by omega, by omega, by omega, by omega, rfl, by rw [show 1 + (k0 - 1) = k0 by omega]; exact hp0⟩
  intro nd j μ' G ⟨e1, e2, e3, e4, e4', e5, e6⟩ hG
  subst e1
  refine ifb (fun g => ?_) (fun g => ?_)
  · rw [fe_0 g] at e5
    rw [show j = en fs T i by omega]; exact h
  · have hj : j < (T.length : Int) := by
      rcases Int.lt_or_le j (T.length : Int) with q | q
      · exact q
      · rw [List.drop_eq_nil_of_le (by omega)] at e6
        have : nd + (k0 - 1) = 0 := e6
        omega
    have hjj : 0 ≤ j ∧ j < (T.length : Int) := by omega
    have hcv := cv_gt hT hjj
    have hap := arf_pos ho (gt T j)
    have hal := arf_le ho (gt T j)
    refine s_atT hs hS hl hjj (s_arity hF hcv ⟨⟨by omega, by omega⟩, ⟨by omega, by omega⟩, ⟨by omega, by omega⟩, hG _ _ _ ⟨rfl, by omega, by omega, by omega, by omega, ?_, ?_⟩ (by omega)⟩)
    · rw [drop_gt hjj] at e5
      have e7 : fe fs nd (gt T j :: T.drop (j + 1).toNat) = 1 + fe fs (nd - 1 + arf fs (gt T j)) (T.drop (j + 1).toNat) := by conv => lhs; unfold fe; rw [if_neg g]
      rw [e7] at e5
      rw [show nd + (arf fs (gt T j) - 1) = nd - 1 + arf fs (gt T j) by omega]
      omega
    · rw [drop_gt hjj] at e6
      have := e6.2
      rw [show nd + (arf fs (gt T j) - 1) + (k0 - 1) = nd + (k0 - 1) - 1 + arf fs (gt T j) by omega]
      exact this
