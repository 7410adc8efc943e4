def pl : List Nf → List (List Int)
  | [] => []
  | f :: fr => f.2.2.2 ++ (f.2.2.1 ++ pl fr)
def mdR (μ : ZM) (c : Int) (T : List Int) : Prop := (0 ≤ c ∧ c < 44 ∧ T.length ≤ 120 ∧ rp (fun j => μ 249 (128 * c + j)) T) ∨ (100 ≤ c ∧ c < 118 ∧ T.length ≤ 10 ∧ rp (fun j => μ 254 (10 * (c - 100) + j)) T)
def fmd (μ : ZM) (fr : List Nf) (f : Nf) : Prop := mdR μ (μ 258 (fr.length : Int)) f.1.reverse ∧ μ 259 (fr.length : Int) = (f.1.length : Int) - 1 ∧ (fr.length ≠ 0 → μ 260 (fr.length : Int) = ((f.2.2.1 ++ pl fr).length : Int) - 1 ∧ μ 261 (fr.length : Int) = ((f.2.2.1 ++ pl fr).length : Int) - 2 ∧ μ 262 (fr.length : Int) = f.2.1 ∧ μ 265 (fr.length : Int) = ((pl fr).length : Int))
def fkm (μ : ZM) : List Nf → Prop
  | [] => True
  | f :: fr => fmd μ fr f ∧ fkm μ fr
def NM (μ : ZM) (u : Int) (fr : List Nf) : Prop := μ 248 26 = u ∧ μ 248 22 = (fr.length : Int) ∧ μ 248 25 = ((pl fr).length : Int) ∧ hp μ (pl fr) ∧ fkm μ fr
theorem mdR.ex {μ μ' : ZM} {c : Int} {T : List Int} (h : mdR μ c T) (e1 : ∀ k, μ' 249 k = μ 249 k) (e2 : ∀ k, μ' 254 k = μ 254 k) : mdR μ' c T := by
  rcases h with ⟨a1, a2, a3, a4⟩ | ⟨a1, a2, a3, a4⟩
  · exact Or.inl ⟨a1, a2, a3, a4.ex (fun i _ _ => e1 _)⟩
  · exact Or.inr ⟨a1, a2, a3, a4.ex (fun i _ _ => e2 _)⟩
theorem fmd.ex {μ μ' : ZM} {fr : List Nf} {f : Nf} (h : fmd μ fr f) (e1 : ∀ k, μ' 249 k = μ 249 k) (e2 : ∀ k, μ' 254 k = μ 254 k) (e : ∀ a, 258 ≤ a → a ≤ 265 → a ≠ 263 → a ≠ 264 → μ' a (fr.length : Int) = μ a (fr.length : Int)) : fmd μ' fr f := by
  obtain ⟨a1, a2, a3⟩ := h
  unfold fmd
  rw [e 258 (by omega) (by omega) (by omega) (by omega), e 259 (by omega) (by omega) (by omega) (by omega), e 260 (by omega) (by omega) (by omega) (by omega), e 261 (by omega) (by omega) (by omega) (by omega), e 262 (by omega) (by omega) (by omega) (by omega), e 265 (by omega) (by omega) (by omega) (by omega)]
  exact ⟨a1.ex e1 e2, a2, a3⟩
theorem fkm_ex {μ μ' : ZM} (e1 : ∀ k, μ' 249 k = μ 249 k) (e2 : ∀ k, μ' 254 k = μ 254 k) : ∀ {fr : List Nf}, fkm μ fr → (∀ a k, 258 ≤ a → a ≤ 265 → a ≠ 263 → a ≠ 264 → k < (fr.length : Int) → μ' a k = μ a k) → fkm μ' fr
  | [], _, _ => trivial
  | f :: fr, h, e => ⟨h.1.ex e1 e2 (fun a p1 p2 p3 p4 => e a _ p1 p2 p3 p4 (by simp; omega)), fkm_ex e1 e2 h.2 (fun a k p1 p2 p3 p4 p5 => e a k p1 p2 p3 p4 (by simp; omega))⟩
theorem pl_low {fs : List Fn} (ho : okF fs) : ∀ (fr : List Nf), lw fs 120 fr → ((pl fr).length : Int) ≤ (if fr.length = 0 then 0 else 6 * (fr.length : Int) + 53) ∧ ∀ V ∈ pl fr, gV fs V
  | [], _ => ⟨by simp [pl], fun V hV => absurd hV (by simp [pl])⟩
  | f :: fr, h => by
    obtain ⟨⟨b1, b2, b3, b4, b5, b6⟩, h2, h3, h4⟩ := h
    obtain ⟨i1, i2⟩ := pl_low ho fr h4
    have e1 : ((pl (f :: fr)).length : Int) = (f.2.2.2.length : Int) + (f.2.2.1.length : Int) + ((pl fr).length : Int) := by
      show ((f.2.2.2 ++ (f.2.2.1 ++ pl fr)).length : Int) = _
      simp; omega
    have hq := qn_le ho f.1
    have hc : (((f :: fr).length : Nat) : Int) = (fr.length : Int) + 1 := by simp
    refine ⟨?_, fun V hV => ?_⟩
    · rw [if_neg (by simp)]
      unfold Lb at h3
      by_cases g : fr.length = 0
      · rw [if_pos g] at h3 i1
        have : f.2.2.1.length = 0 := by rw [b5 g]; rfl
        omega
      · rw [if_neg g] at h3 i1
        have := (b6 g).1
        omega
    · rcases List.mem_append.mp hV with q | q
      · exact b3 V q
      · rcases List.mem_append.mp q with q | q
        · exact b4 V q
        · exact i2 V q
theorem pl_top {fs : List Fn} {n : Nat} {u : Int} {f : Nf} {fr : List Nf} (ho : okF fs) (h : okN fs 120 n u (f :: fr)) : ((pl (f :: fr)).length : Int) ≤ 361 ∧ (∀ V ∈ pl (f :: fr), gV fs V) ∧ off (pl (f :: fr)) ≤ 14440 := by
  obtain ⟨a1, a2, a3, a4, ⟨b1, b2, b3, b4, b5, b6⟩, h2, h3, h4⟩ := h
  obtain ⟨i1, i2⟩ := pl_low ho fr h4
  have e1 : ((pl (f :: fr)).length : Int) = (f.2.2.2.length : Int) + (f.2.2.1.length : Int) + ((pl fr).length : Int) := by
    show ((f.2.2.2 ++ (f.2.2.1 ++ pl fr)).length : Int) = _
    simp; omega
  have hq := qn_le ho f.1
  have hlen : ((pl (f :: fr)).length : Int) ≤ 361 := by
    unfold Lb at h3
    by_cases g : fr.length = 0
    · rw [if_pos g] at h3 i1
      have : f.2.2.1.length = 0 := by rw [b5 g]; rfl
      omega
    · rw [if_neg g] at h3 i1
      have := (b6 g).1
      simp at a3
      omega
  have hg : ∀ V ∈ pl (f :: fr), gV fs V := by
    intro V hV
    rcases List.mem_append.mp hV with q | q
    · exact b3 V q
    · rcases List.mem_append.mp q with q | q
      · exact b4 V q
      · exact i2 V q
  have := off_le _ hg
  exact ⟨hlen, hg, by omega⟩
theorem s_signOf2 {i j : Int} {T : List Int} {μ : ZM} {K : Int → ZM → Prop} (hi : 0 ≤ i ∧ i < 64) (h : mdR μ (μ 258 i) T) (hj : 0 ≤ j ∧ j < (T.length : Int)) (hK : K (gt T j) μ) : P_X12_signOf i j μ K := by
  refine ⟨hi, ?_⟩
  rcases h with ⟨a1, a2, a3, a4⟩ | ⟨a1, a2, a3, a4⟩
  · rw [if_neg (by omega)]
    refine s_at ⟨a1, a2⟩ (by omega) ?_
    have := a4 j hj.1 hj.2
    dsimp only at this
    rw [this]; exact hK
  · rw [if_pos (by omega)]
    have := a4 j hj.1 hj.2
    dsimp only at this
    rw [this]
    exact ⟨⟨by omega, by omega⟩, ⟨by omega, by omega⟩, ⟨by omega, by omega⟩, by omega, hK⟩
/-- a state after work on the pile alone -/
theorem NM.hp1 {μ μ' : ZM} {u : Int} {f f' : Nf} {fr : List Nf} (h : NM μ u (f :: fr)) (e : ∀ a k, ¬ nvh a k → μ' a k = μ a k) (h1 : f'.1 = f.1) (h2 : f'.2.1 = f.2.1) (h3 : f'.2.2.1 = f.2.2.1) (hE : hp μ' (pl (f' :: fr))) (h25 : μ' 248 25 = ((pl (f' :: fr)).length : Int)) : NM μ' u (f' :: fr) := by
  obtain ⟨a1, a2, a3, a4, a5, a6⟩ := h
  refine ⟨(e _ _ (by unfold nvh; omega)).trans a1, (e _ _ (by unfold nvh; omega)).trans a2, h25, hE, ?_, fkm_ex (fun k => e _ _ (by unfold nvh; omega)) (fun k => e _ _ (by unfold nvh; omega)) a6 (fun a k p1 p2 p3 p4 p5 => e _ _ (by unfold nvh; omega))⟩
  have := a5.ex (fun k => e _ _ (by unfold nvh; omega)) (fun k => e _ _ (by unfold nvh; omega)) (fun a p1 p2 p3 p4 => e a _ (by unfold nvh; omega))
  unfold fmd at this ⊢
  rw [h1, h2, h3]
  exact this
