/-! copies -/
theorem s_copy {fs : List Fn} {t0 t1 : Int} {T : List Int} {μ : ZM} {K : ZM → Prop} (h0 : z_tm t0) (h1 : z_tm t1) (hne : t0 ≠ t1) (hT : Tm μ fs t1 T) (hl : T.length ≤ 40) (h : ∀ μ', (∀ a k, a ≠ t0 → a ≠ t0 + 1 → a ≠ t0 + 2 → μ' a k = μ a k) → Tm μ' fs t0 T → K μ') : P_X10_copy t0 t1 μ K := by
  obtain ⟨e1, e2, e3⟩ := hT
  unfold P_X10_copy
  simp only [z_wr]
  have n1 : z_upd μ t0 2 (μ t1 2) t1 2 = μ t1 2 := zu_n (by omega)
  rw [n1]
  have n2 : z_cpy (z_upd μ t0 2 (μ t1 2)) (t1 + 1) 0 (t0 + 1) 0 (μ t1 2) t1 2 = μ t1 2 := by
    unfold z_cpy
    rw [if_neg (by omega)]
    exact n1
  rw [n2]
  refine ⟨h0, h1, ⟨by omega, by omega, by omega, by omega, by omega⟩, ⟨by omega, by omega, by omega, by omega, by omega⟩, h _ ?_ ⟨?_, ?_, ?_⟩⟩
  · intro a k g1 g2 g3
    unfold z_cpy
    rw [if_neg (by omega), if_neg (by omega), zu_n g1]
  · unfold z_cpy
    rw [if_neg (by omega), if_neg (by omega), zu_s]
    exact e1
  · intro i g1 g2
    unfold z_cpy
    rw [if_neg (by omega), if_pos (by omega), zu_n (by omega), show 0 + (i - 0) = i by omega]
    exact e2 i g1 g2
  · intro i g1 g2
    unfold z_cpy
    rw [if_pos (by omega), if_neg (by omega), zu_n (by omega), show 0 + (i - 0) = i by omega]
    exact e3 i g1 g2
/-- the same for a body: its ends are of no use -/
theorem s_copyB {t0 t1 : Int} {T : List Int} {μ : ZM} {K : ZM → Prop} (h0 : z_tm t0) (h1 : z_tm t1) (hne : t0 ≠ t1) (e1 : μ t1 2 = (T.length : Int)) (e2 : rp (μ (t1 + 1)) T) (hl : T.length ≤ 40) (h : ∀ μ', (∀ a k, a ≠ t0 → a ≠ t0 + 1 → a ≠ t0 + 2 → μ' a k = μ a k) → μ' t0 2 = (T.length : Int) → rp (μ' (t0 + 1)) T → K μ') : P_X10_copy t0 t1 μ K := by
  unfold P_X10_copy
  simp only [z_wr]
  have n1 : z_upd μ t0 2 (μ t1 2) t1 2 = μ t1 2 := zu_n (by omega)
  rw [n1]
  have n2 : z_cpy (z_upd μ t0 2 (μ t1 2)) (t1 + 1) 0 (t0 + 1) 0 (μ t1 2) t1 2 = μ t1 2 := by
    unfold z_cpy
    rw [if_neg (by omega)]
    exact n1
  rw [n2]
  refine ⟨h0, h1, ⟨by omega, by omega, by omega, by omega, by omega⟩, ⟨by omega, by omega, by omega, by omega, by omega⟩, h _ ?_ ?_ ?_⟩
  · intro a k g1 g2 g3
    unfold z_cpy
    rw [if_neg (by omega), if_neg (by omega), zu_n g1]
  · unfold z_cpy
    rw [if_neg (by omega), if_neg (by omega), zu_s]
    exact e1
  · intro i g1 g2
    unfold z_cpy
    rw [if_neg (by omega), if_pos (by omega), zu_n (by omega), show 0 + (i - 0) = i by omega]
    exact e2 i g1 g2
/-! the reference's slots -/
theorem s_puts {s c : Int} {T : List Int} {μ : ZM} {K : ZM → Prop} (hs : 0 ≤ s ∧ s < 44) (hS : Sl μ s T) (hl : T.length < 128) (h : ∀ μ', (∀ a k, ¬ (a = 249 ∧ k = 128 * s + (T.length : Int)) → ¬ (a = 250 ∧ k = s) → μ' a k = μ a k) → Sl μ' s (T ++ [c]) → K μ') : P_X12_puts s c μ K := by
  obtain ⟨e1, e2⟩ := hS
  unfold P_X12_puts
  simp only [z_wr]
  rw [zu_n (show (250 : Int) ≠ 249 by decide)]
  refine ⟨⟨by omega, by omega⟩, hs, ⟨by omega, by omega⟩, ⟨by omega, by omega⟩, hs, ⟨by omega, by omega⟩, hs, h _ ?_ ⟨?_, ?_⟩⟩
  · intro a k g1 g2
    rw [zu_f g2, zu_f (by rw [e1]; exact g1)]
  · rw [zu_s, e1]; simp
  · refine rp_push e2 ?_ (fun i g1 g2 => ?_)
    · rw [zu_n (by decide), e1, zu_s]
    · rw [zu_n (by decide), zu_k (by omega)]
theorem s_keepsSide {s : Int} {T : List Int} {μ : ZM} {K : ZM → Prop} (hs : 0 ≤ s ∧ s < 44) (h1 : μ 248 12 = (T.length : Int)) (hl : T.length ≤ 20) (h2 : rp (μ 256) T) (h : ∀ μ', (∀ a k, ¬ (a = 249 ∧ 128 * s ≤ k ∧ k < 128 * s + 128) → ¬ (a = 250 ∧ k = s) → μ' a k = μ a k) → Sl μ' s T → K μ') : P_X12_keepsSide s μ K := by
  refine ⟨hs, ?_⟩
  show P_X12_keepsSide_9 s 0 (z_upd μ 250 s 0) K
  refine z_lf1_ind (fun i μ' => 0 ≤ i ∧ i ≤ (T.length : Int) ∧ Sl μ' s (T.take i.toNat) ∧ ∀ a k, ¬ (a = 249 ∧ 128 * s ≤ k ∧ k < 128 * s + 128) → ¬ (a = 250 ∧ k = s) → μ' a k = μ a k) (fun i μ' => ((T.length : Int) - i).toNat) ?_ 0 _ ⟨by omega, by omega, ⟨by rw [zu_s]; rfl, fun i g1 g2 => absurd g2 (by simp; omega)⟩, fun a k g1 g2 => zu_f g2⟩
  intro i μ' G ⟨e1, e2, e3, e4⟩ hG
  have e5 : μ' 248 12 = (T.length : Int) := (e4 248 12 (by omega) (by omega)).trans h1
  refine ifb (fun g => h μ' e4 ?_) (fun g => ⟨by omega, ?_⟩)
  · rw [List.take_of_length_le (by omega)] at e3; exact e3
  · have hlt : ((T.take i.toNat).length : Int) = i := by rw [List.length_take]; omega
    have hv : μ' 256 i = gt T i := by rw [e4 256 i (by omega) (by omega)]; exact h2 i e1 (by omega)
    rw [hv]
    refine s_puts hs e3 (by omega) (fun μ2 f1 f2 => ⟨⟨by omega, by omega⟩, hG _ _ ⟨by omega, by omega, ?_, fun a k g1 g2 => ?_⟩ (by omega)⟩)
    · have : T.take (i + 1).toNat = T.take i.toNat ++ [gt T i] := by
        rw [show (i + 1).toNat = i.toNat + 1 by omega, List.take_add_one]
        unfold gt
        rw [List.getD_eq_getElem?_getD, List.getElem?_eq_getElem (by omega)]
        rfl
      rw [this]; exact f2
    · rw [f1 a k (by omega) g2]
      exact e4 a k g1 g2
theorem s_copies {s d : Int} {T : List Int} {μ : ZM} {K : ZM → Prop} (hs : 0 ≤ s ∧ s < 44) (hd : 0 ≤ d ∧ d < 44) (hne : s ≠ d) (hS : Sl μ s T) (hl : T.length ≤ 128) (h : ∀ μ', (∀ a k, ¬ (a = 249 ∧ 128 * d ≤ k ∧ k < 128 * d + 128) → ¬ (a = 250 ∧ k = d) → μ' a k = μ a k) → Sl μ' d T → K μ') : P_X12_copies s d μ K := by
  obtain ⟨t1, t2⟩ := hS
  refine ⟨hs, hd, ?_⟩
  show P_X12_copies_14 s d 0 (z_upd μ 250 d (μ 250 s)) K
  refine z_lf1_ind (fun i μ' => 0 ≤ i ∧ i ≤ (T.length : Int) ∧ μ' 250 d = (T.length : Int) ∧ (∀ j : Int, 0 ≤ j → j < i → μ' 249 (128 * d + j) = gt T j) ∧ ∀ a k, ¬ (a = 249 ∧ 128 * d ≤ k ∧ k < 128 * d + 128) → ¬ (a = 250 ∧ k = d) → μ' a k = μ a k) (fun i μ' => ((T.length : Int) - i).toNat) ?_ 0 _ ⟨by omega, by omega, by rw [zu_s]; exact t1, fun j g1 g2 => absurd g2 (by omega), fun a k g1 g2 => zu_f g2⟩
  intro i μ' G ⟨e1, e2, e3, e4, e5⟩ hG
  have hsz : μ' 250 s = (T.length : Int) := (e5 250 s (by omega) (by omega)).trans t1
  refine ⟨hs, ifb (fun g => h μ' e5 ⟨e3, fun j g1 g2 => e4 j g1 (by omega)⟩) (fun g => ⟨⟨by omega, by omega⟩, ⟨by omega, by omega⟩, s_at hs (by omega) ⟨by omega, ⟨by omega, by omega⟩, hG _ _ ⟨by omega, by omega, ?_, ?_, ?_⟩ (by omega)⟩⟩)⟩
  · rw [zu_n (by decide)]; exact e3
  · intro j g1 g2
    by_cases ej : j = i
    · subst ej
      rw [zu_s, e5 249 _ (by omega) (by omega)]
      exact t2 j g1 (by omega)
    · rw [zu_k (by omega)]
      exact e4 j g1 (by omega)
  · intro a k g1 g2
    rw [zu_f (by omega)]
    exact e5 a k g1 g2
