/-! ===== normal forms: the reference's machine ===== -/
def off : List (List Int) → Int
  | [] => 0
  | V :: E => (V.length : Int) + off E
/-- the pile in memory, the last entry first -/
def hp (μ : ZM) : List (List Int) → Prop
  | [] => μ 264 0 = 0
  | V :: E => μ 264 ((E.length : Int) + 1) = (V.length : Int) + off E ∧ rp (fun i => μ 263 (off E + i)) V ∧ hp μ E
theorem off_pos : ∀ E : List (List Int), 0 ≤ off E
  | [] => Int.le_refl 0
  | V :: E => by
    have := off_pos E
    show 0 ≤ (V.length : Int) + off E
    omega
theorem off_app : ∀ A B : List (List Int), off (A ++ B) = off A + off B
  | [], B => by show off B = 0 + off B; omega
  | V :: A, B => by
    show (V.length : Int) + off (A ++ B) = ((V.length : Int) + off A) + off B
    rw [off_app A B]; omega
theorem off_le {fs : List Fn} : ∀ E : List (List Int), (∀ V ∈ E, gV fs V) → off E ≤ 40 * (E.length : Int)
  | [], _ => by show (0 : Int) ≤ 40 * 0; omega
  | V :: E, h => by
    have := off_le E (fun W hW => h W (by simp [hW]))
    have := (h V (by simp)).2
    show (V.length : Int) + off E ≤ _
    simp
    omega
theorem off_flat : ∀ E : List (List Int), off E = (E.flatten.length : Int)
  | [] => rfl
  | V :: E => by
    rw [List.flatten_cons, List.length_append]
    show (V.length : Int) + off E = _
    rw [off_flat E]; omega
theorem hp_fr {μ : ZM} : ∀ {E : List (List Int)}, hp μ E → μ 264 (E.length : Int) = off E
  | [], h => h
  | V :: E, h => by
    rw [show (((V :: E).length : Nat) : Int) = (E.length : Int) + 1 by simp]
    exact h.1
theorem hp_ex {μ μ' : ZM} : ∀ {E : List (List Int)}, hp μ E → (∀ k : Int, 0 ≤ k → k ≤ (E.length : Int) → μ' 264 k = μ 264 k) → (∀ k : Int, 0 ≤ k → k < off E → μ' 263 k = μ 263 k) → hp μ' E
  | [], h, e1, _ => (e1 0 (by omega) (by simp)).trans h
  | V :: E, h, e1, e2 => by
    obtain ⟨h1, h2, h3⟩ := h
    have ho := off_pos E
    have hoff : off (V :: E) = (V.length : Int) + off E := rfl
    refine ⟨(e1 _ (by omega) (by simp)).trans h1, h2.ex (fun i p1 p2 => e2 _ (by omega) (by omega)), hp_ex h3 (fun k p1 p2 => e1 k p1 (by simp; omega)) (fun k p1 p2 => e2 k p1 (by omega))⟩
theorem hp_sfx {μ : ZM} : ∀ {A B : List (List Int)}, hp μ (A ++ B) → hp μ B
  | [], _, h => h
  | _ :: A, _, h => hp_sfx (A := A) h.2.2
def nvm (a k : Int) : Prop := (a = 248 ∧ (k = 22 ∨ k = 25 ∨ k = 26)) ∨ (258 ≤ a ∧ a ≤ 265)
def nvh (a k : Int) : Prop := (a = 248 ∧ k = 25) ∨ (263 ≤ a ∧ a ≤ 264)
theorem s_pushesSign {c : Int} {E : List (List Int)} {μ : ZM} {K : ZM → Prop} (hE : hp μ E) (h25 : μ 248 25 = (E.length : Int)) (hl : (E.length : Int) ≤ 430) (ho : off E ≤ 16000) (h : ∀ μ', (∀ a k, ¬ nvh a k → μ' a k = μ a k) → hp μ' ([c] :: E) → μ' 248 25 = (E.length : Int) + 1 → K μ') : P_X12_pushesSign c μ K := by
  have op := off_pos E
  have hf := hp_fr hE
  unfold P_X12_pushesSign
  simp only [z_wr]
  rw [zu_n (show (248 : Int) ≠ 263 by decide), h25, hf]
  rw [show z_upd μ 263 (off E) c 264 (E.length : Int) = off E from (zu_n (by decide)).trans hf]
  rw [show z_upd (z_upd μ 263 (off E) c) 264 ((E.length : Int) + 1) (off E + 1) 248 25 = (E.length : Int) from (zu_n (by decide)).trans ((zu_n (by decide)).trans h25)]
  refine ⟨by omega, by omega, ⟨by omega, by omega⟩, by omega, ⟨by omega, by omega⟩, by omega, ⟨by omega, by omega⟩, h _ (fun a k q => ?_) ⟨?_, ?_, ?_⟩ zu_s⟩
  · unfold nvh at q
    rw [zu_f (by omega), zu_n (by omega), zu_n (by omega)]
  · rw [zu_n (by decide), zu_s]; simp; omega
  · intro i p1 p2
    simp at p2
    have : i = 0 := by omega
    subst this
    show z_upd (z_upd (z_upd μ 263 (off E) c) 264 _ _) 248 25 _ 263 (off E + 0) = c
    rw [zu_n (by decide), zu_n (by decide), Int.add_zero, zu_s]
  · exact hp_ex hE (fun k p1 p2 => by rw [zu_n (by decide), zu_k (by omega), zu_n (by decide)]) (fun k p1 p2 => by rw [zu_n (by decide), zu_n (by decide), zu_k (by omega)])
theorem s_longOf {V : List Int} {E : List (List Int)} {j : Int} {μ : ZM} {K : Int → ZM → Prop} (hE : hp μ (V :: E)) (hj : j = (E.length : Int)) (hl : (E.length : Int) ≤ 435) (ho : off E ≤ 16400) (hV : (V.length : Int) ≤ 200) (h : K (V.length : Int) μ) : P_X12_longOf j μ K := by
  subst hj
  have h1 := hE.1
  have h2 := hp_fr hE.2.2
  have op := off_pos E
  refine ⟨⟨by omega, by omega⟩, by omega, by omega, ?_⟩
  rw [h1, h2, show (V.length : Int) + off E - off E = (V.length : Int) by omega]
  exact ⟨⟨by omega, by omega⟩, h⟩
theorem gt_drop {V : List Int} {s : Nat} {i : Int} (h : 0 ≤ i) : gt (V.drop s) i = gt V ((s : Int) + i) := by
  unfold gt
  rw [List.getD_eq_getElem?_getD, List.getD_eq_getElem?_getD, List.getElem?_drop, show ((s : Int) + i).toNat = s + i.toNat by omega]
theorem s_pushes {V : List Int} {A B : List (List Int)} {j s : Int} {μ : ZM} {K : ZM → Prop} (hE : hp μ (A ++ V :: B)) (h25 : μ 248 25 = ((A ++ V :: B).length : Int)) (hj : j = (B.length : Int)) (hl : ((A ++ V :: B).length : Int) ≤ 430) (ho : off (A ++ V :: B) ≤ 16000) (hV : (V.length : Int) ≤ 40) (hs : 0 ≤ s ∧ s ≤ (V.length : Int)) (h : ∀ μ', (∀ a k, ¬ nvh a k → μ' a k = μ a k) → hp μ' (V.drop s.toNat :: (A ++ V :: B)) → μ' 248 25 = ((A ++ V :: B).length : Int) + 1 → K μ') : P_X12_pushes j s μ K := by
  have op := off_pos (A ++ V :: B)
  have opB := off_pos B
  have opA := off_pos A
  have hs2 := hp_sfx hE
  have hfE := hp_fr hE
  have hfB := hp_fr hs2.2.2
  have eo : off (A ++ V :: B) = off A + ((V.length : Int) + off B) := off_app A (V :: B)
  have el : ((A ++ V :: B).length : Int) = (A.length : Int) + ((B.length : Int) + 1) := by simp
  refine s_longOf hs2 hj (by omega) (by omega) (by omega) ⟨⟨by omega, by omega⟩, ?_⟩
  subst hj
  generalize hEE : A ++ V :: B = E at *
  have hdl : ((V.drop s.toNat).length : Int) = (V.length : Int) - s := by rw [List.length_drop]; omega
  refine z_lf1_ind (fun i μ' => 0 ≤ i ∧ i ≤ (V.length : Int) - s ∧ (∀ a k, ¬ (a = 263 ∧ off E ≤ k) → μ' a k = μ a k) ∧ ∀ q : Int, 0 ≤ q → q < i → μ' 263 (off E + q) = gt (V.drop s.toNat) q) (fun i _ => ((V.length : Int) - s - i).toNat) ?_ 0 μ ⟨by omega, by omega, fun _ _ _ => rfl, fun q p1 p2 => absurd p2 (by omega)⟩
  intro i μ' G ⟨e1, e2, e3, e4⟩ hG
  have g25 : μ' 248 25 = (E.length : Int) := (e3 _ _ (by omega)).trans h25
  have gE : μ' 264 (E.length : Int) = off E := (e3 _ _ (by omega)).trans hfE
  have gB : μ' 264 (B.length : Int) = off B := (e3 _ _ (by omega)).trans hfB
  rw [g25, gE, gB]
  refine ifb (fun g => ?_) (fun g => ?_)
  · simp only [z_wr]
    rw [show z_upd μ' 264 ((E.length : Int) + 1) (off E + ((V.length : Int) - s)) 248 25 = (E.length : Int) from (zu_n (by decide)).trans g25]
    refine ⟨⟨by omega, by omega⟩, by omega, ⟨by omega, by omega⟩, by omega, ⟨by omega, by omega⟩, h _ (fun a k q => ?_) ⟨?_, ?_, ?_⟩ zu_s⟩
    · unfold nvh at q
      rw [zu_f (by omega), zu_n (by omega)]; exact e3 a k (by omega)
    · rw [zu_n (by decide), zu_s, hdl]; omega
    · intro q p1 p2
      show z_upd (z_upd μ' 264 _ _) 248 25 _ 263 (off E + q) = _
      rw [zu_n (by decide), zu_n (by decide)]
      exact e4 q p1 (by omega)
    · exact hp_ex hE (fun k p1 p2 => by rw [zu_n (by decide), zu_k (by omega)]; exact e3 _ _ (by omega)) (fun k p1 p2 => by rw [zu_n (by decide), zu_n (by decide)]; exact e3 _ _ (by omega))
  · have hsrc : μ' 263 (off B + s + i) = gt (V.drop s.toNat) i := by
      rw [e3 _ _ (by omega)]
      have := hs2.2.1 (s + i) (by omega) (by omega)
      dsimp only at this
      rw [show off B + s + i = off B + (s + i) by omega, this, gt_drop e1, show ((s.toNat : Nat) : Int) = s by omega]
    rw [hsrc]
    refine ⟨by omega, ⟨by omega, by omega⟩, by omega, ⟨by omega, by omega⟩, ⟨by omega, by omega⟩, by omega, by omega, ⟨by omega, by omega⟩, hG _ _ ⟨by omega, by omega, fun a k q => ?_, fun q p1 p2 => ?_⟩ (by omega)⟩
    · rw [zu_f (by omega)]; exact e3 a k q
    · by_cases eq : q = i
      · subst eq; exact zu_s
      · rw [zu_k (by omega)]; exact e4 q p1 (by omega)
/-- the last entry falls to a lower place -/
theorem s_falls {V : List Int} {A B : List (List Int)} {j : Int} {μ : ZM} {K : ZM → Prop} (hE : hp μ (V :: (A ++ B))) (h25 : μ 248 25 = ((A ++ B).length : Int) + 1) (hj : j = (B.length : Int)) (hl : ((A ++ B).length : Int) ≤ 432) (ho : off (A ++ B) ≤ 16000) (hV : (V.length : Int) ≤ 200) (h : ∀ μ', (∀ a k, ¬ nvh a k → μ' a k = μ a k) → hp μ' (V :: B) → μ' 248 25 = (B.length : Int) + 1 → K μ') : P_X12_falls j μ K := by
  have opB := off_pos B
  have opA := off_pos A
  have eo := off_app A B
  have el : ((A ++ B).length : Int) = (A.length : Int) + (B.length : Int) := by simp
  have hB := hp_sfx hE.2.2
  have hfE := hp_fr hE.2.2
  have hfB := hp_fr hB
  subst hj
  refine ⟨⟨by omega, by omega⟩, s_longOf hE (by omega) (by omega) (by omega) hV ?_⟩
  refine z_lf1_ind (fun i μ' => 0 ≤ i ∧ i ≤ (V.length : Int) ∧ (∀ a k, ¬ (a = 263 ∧ off B ≤ k ∧ k < off B + i) → μ' a k = μ a k) ∧ ∀ q : Int, 0 ≤ q → q < i → μ' 263 (off B + q) = gt V q) (fun i _ => ((V.length : Int) - i).toNat) ?_ 0 μ ⟨by omega, by omega, fun _ _ _ => rfl, fun q p1 p2 => absurd p2 (by omega)⟩
  intro i μ' G ⟨e1, e2, e3, e4⟩ hG
  have g25 : μ' 248 25 - 1 = ((A ++ B).length : Int) := by rw [e3 _ _ (by omega), h25]; omega
  have gE : μ' 264 ((A ++ B).length : Int) = off (A ++ B) := (e3 _ _ (by omega)).trans hfE
  have gB : μ' 264 (B.length : Int) = off B := (e3 _ _ (by omega)).trans hfB
  rw [g25, gE, gB]
  refine ifb (fun g => ?_) (fun g => ?_)
  · simp only [z_wr]
    refine ⟨⟨by omega, by omega⟩, by omega, ⟨by omega, by omega⟩, by omega, ⟨by omega, by omega⟩, h _ (fun a k q => ?_) ⟨?_, ?_, ?_⟩ zu_s⟩
    · unfold nvh at q
      rw [zu_f (by omega), zu_n (by omega)]; exact e3 a k (by omega)
    · rw [zu_n (by decide), zu_s]; omega
    · intro q p1 p2
      show z_upd (z_upd μ' 264 _ _) 248 25 _ 263 (off B + q) = _
      rw [zu_n (by decide), zu_n (by decide)]
      exact e4 q p1 (by omega)
    · exact hp_ex hB (fun k p1 p2 => by rw [zu_n (by decide), zu_k (by omega)]; exact e3 _ _ (by omega)) (fun k p1 p2 => by rw [zu_n (by decide), zu_n (by decide)]; exact e3 _ _ (by omega))
  · have hsrc : μ' 263 (off (A ++ B) + i) = gt V i := by
      rw [e3 _ _ (by omega)]
      exact hE.2.1 i e1 (by omega)
    rw [hsrc]
    refine ⟨by omega, ⟨by omega, by omega⟩, ⟨by omega, by omega⟩, by omega, ⟨by omega, by omega⟩, by omega, by omega, ⟨by omega, by omega⟩, hG _ _ ⟨by omega, by omega, fun a k q => ?_, fun q p1 p2 => ?_⟩ (by omega)⟩
    · rw [zu_f (by omega)]; exact e3 a k (by omega)
    · by_cases eq : q = i
      · subst eq; exact zu_s
      · rw [zu_k (by omega)]; exact e4 q p1 (by omega)
