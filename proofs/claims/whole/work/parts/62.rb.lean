/-- the inner loop: an entry comes behind what is joined so far -/
theorem s_joinPart {X J : List Int} {E A B : List (List Int)} {x3 x4 x5 : Int} {G : Int → ZM → Prop} {μ : ZM} {K : Int → ZM → Prop} (hAB : E = A ++ X :: B) (hE : hp μ E) (hJ : rp (fun i => μ 263 (off E + i)) J) (hJl : μ 264 ((E.length : Int) + 1) = (J.length : Int) + off E) (h25 : μ 248 25 = (E.length : Int) + 1) (hl : (E.length : Int) ≤ 430) (ho : off E ≤ 16000) (hJ2 : (J.length : Int) ≤ 80) (hX : (X.length : Int) ≤ 40) (h5 : 1 ≤ x5 ∧ x5 ≤ 2) (h : ∀ μ', (∀ a k, ¬ (a = 263 ∧ off E ≤ k) → ¬ (a = 264 ∧ k = (E.length : Int) + 1) → μ' a k = μ a k) → rp (fun i => μ' 263 (off E + i)) (J ++ X) → μ' 264 ((E.length : Int) + 1) = ((J ++ X).length : Int) + off E → G (x5 + (-1)) μ') : P_X12_joins_47 G x3 x4 x5 (B.length : Int) (X.length : Int) 0 μ K := by
  have op := off_pos E
  have opB := off_pos B
  have opA := off_pos A
  have eo : off E = off A + ((X.length : Int) + off B) := by rw [hAB]; exact off_app A (X :: B)
  have el : (E.length : Int) = (A.length : Int) + ((B.length : Int) + 1) := by rw [hAB]; simp
  have hs2 : hp μ (X :: B) := by rw [hAB] at hE; exact hp_sfx hE
  have hfB := hp_fr hs2.2.2
  refine z_lf1_ind (fun i μ' => 0 ≤ i ∧ i ≤ (X.length : Int) ∧ (∀ a k, ¬ (a = 263 ∧ off E + (J.length : Int) ≤ k) → μ' a k = μ a k) ∧ ∀ q : Int, 0 ≤ q → q < i → μ' 263 (off E + (J.length : Int) + q) = gt X q) (fun i _ => ((X.length : Int) - i).toNat) ?_ 0 μ ⟨by omega, by omega, fun _ _ _ => rfl, fun q p1 p2 => absurd p2 (by omega)⟩
  intro i μ' G' ⟨e1, e2, e3, e4⟩ hG
  have g25 : μ' 248 25 = (E.length : Int) + 1 := (e3 _ _ (by omega)).trans h25
  have gE : μ' 264 ((E.length : Int) + 1) = (J.length : Int) + off E := (e3 _ _ (by omega)).trans hJl
  have gB : μ' 264 (B.length : Int) = off B := (e3 _ _ (by omega)).trans hfB
  rw [g25, gE, gB]
  refine ifb (fun g => ?_) (fun g => ?_)
  · refine ⟨by omega, ⟨by omega, by omega⟩, by omega, ⟨by omega, by omega⟩, h _ (fun a k p1 p2 => ?_) ?_ ?_⟩
    · rw [zu_f p2]; exact e3 a k (by omega)
    · intro q p1 p2
      show z_upd μ' 264 _ _ 263 (off E + q) = _
      rw [zu_n (by decide), gt_app p1]
      by_cases g1 : q < (J.length : Int)
      · rw [if_pos g1, e3 _ _ (by omega)]; exact hJ q p1 g1
      · rw [if_neg g1]
        have := e4 (q - (J.length : Int)) (by omega) (by simp at p2; omega)
        rw [show off E + (J.length : Int) + (q - (J.length : Int)) = off E + q by omega] at this
        exact this
    · rw [zu_s]; simp; omega
  · have hsrc : μ' 263 (off B + i) = gt X i := by
      rw [e3 _ _ (by omega)]
      exact hs2.2.1 i e1 (by omega)
    rw [hsrc]
    refine ⟨by omega, ⟨by omega, by omega⟩, by omega, ⟨by omega, by omega⟩, by omega, by omega, ⟨by omega, by omega⟩, hG _ _ ⟨by omega, by omega, fun a k q => ?_, fun q p1 p2 => ?_⟩ (by omega)⟩
    · rw [zu_f (by omega)]; exact e3 a k q
    · by_cases eq : q = i
      · subst eq
        rw [show off E + (J.length : Int) + q = (J.length : Int) + off E + q by omega]; exact zu_s
      · rw [zu_k (by omega)]; exact e4 q p1 (by omega)
theorem take_s {α : Type} {st : List α} {k : Nat} {X : α} {R : List α} (h : st.drop k = X :: R) : st.take (k + 1) = st.take k ++ [X] ∧ st = st.take k ++ X :: R := by
  have e := List.take_append_drop k st
  rw [h] at e
  refine ⟨?_, e.symm⟩
  have hl : (st.take k).length = k ∨ st.length ≤ k := by rw [List.length_take]; omega
  rcases hl with q | q
  · conv => lhs; rw [← e]
    rw [List.take_append, q, List.take_of_length_le (by omega)]
    simp
  · rw [List.drop_eq_nil_of_le q] at h; exact absurd h (by simp)
theorem s_joins {fs : List Fn} {c : Int} {m : Nat} {st rest : List (List Int)} {μ : ZM} {K : Int → ZM → Prop} (hm : m = 1 ∨ m = 2) (hms : m ≤ st.length) (hV : ∀ V ∈ st, gV fs V) (hE : hp μ (st ++ rest)) (h25 : μ 248 25 = ((st ++ rest).length : Int)) (hl : ((st ++ rest).length : Int) ≤ 430) (ho : off (st ++ rest) ≤ 15800) (h0 : ¬ (c :: (st.take m).flatten).length ≤ 40 → ∀ μ', (∀ a k, ¬ nvh a k → μ' a k = μ a k) → K 0 μ') (h1 : (c :: (st.take m).flatten).length ≤ 40 → ∀ μ', (∀ a k, ¬ nvh a k → μ' a k = μ a k) → hp μ' ((c :: (st.take m).flatten) :: (st.drop m ++ rest)) → μ' 248 25 = ((st.drop m ++ rest).length : Int) + 1 → K 1 μ') : P_X12_joins c (m : Int) μ K := by
  have el : ((st ++ rest).length : Int) = (st.length : Int) + (rest.length : Int) := by simp
  have op := off_pos (st ++ rest)
  unfold P_X12_joins
  rw [h25]
  refine ⟨⟨by omega, by omega⟩, s_pushesSign hE h25 hl (by omega) (fun μ1 e1 p1 t1 => ?_)⟩
  rw [t1, show ((st ++ rest).length : Int) + 1 - 1 = ((st ++ rest).length : Int) by omega]
  refine ⟨⟨by omega, by omega⟩, ?_⟩
  generalize hEE : st ++ rest = E at *
  have flen : ∀ k : Nat, k ≤ 2 → ((st.take k).flatten.length : Int) ≤ 40 * (k : Int) := by
    intro k hk
    rw [← off_flat]
    have := off_le (fs := fs) (st.take k) (fun V hV' => hV V (List.mem_of_mem_take hV'))
    rw [List.length_take] at this
    omega
  refine z_lf1_ind (fun k μ' => 0 ≤ k ∧ k ≤ (m : Int) ∧ (∀ a i, ¬ (a = 263 ∧ off E ≤ i) → ¬ (a = 264 ∧ i = (E.length : Int) + 1) → μ' a i = μ1 a i) ∧ rp (fun i => μ' 263 (off E + i)) (c :: (st.take (m - k.toNat)).flatten) ∧ μ' 264 ((E.length : Int) + 1) = ((c :: (st.take (m - k.toNat)).flatten).length : Int) + off E) (fun k _ => k.toNat) ?_ (m : Int) μ1 ⟨by omega, by omega, fun _ _ _ _ => rfl, ?_, ?_⟩
  · intro k μ' G ⟨e2, e3, e4, e5, e6⟩ hG
    have hE' : hp μ' E := hp_ex p1.2.2 (fun i q1 q2 => e4 _ _ (by omega) (by omega)) (fun i q1 q2 => e4 _ _ (by omega) (by omega))
    have g25 : μ' 248 25 = (E.length : Int) + 1 := (e4 _ _ (by omega) (by omega)).trans t1
    refine ifb (fun g => ?_) (fun g => ?_)
    · have ek : k = 0 := by omega
      subst ek
      rw [show m - (0 : Int).toNat = m by simp] at e5 e6
      refine ⟨⟨by omega, by omega⟩, ?_⟩
      simp only [z_wr]
      have hpj : hp (z_upd μ' 248 25 ((E.length : Int) + 1)) ((c :: (st.take m).flatten) :: E) := ⟨by rw [zu_n (by decide)]; exact e6, e5.ex (fun i _ _ => zu_n (by decide)), hp_ex hE' (fun i _ _ => zu_n (by decide)) (fun i _ _ => zu_n (by decide))⟩
      have fl := flen m (by omega)
      have fr0 : ∀ a i, ¬ nvh a i → z_upd μ' 248 25 ((E.length : Int) + 1) a i = μ a i := fun a i q => by
        have q' := q
        unfold nvh at q'
        rw [zu_f (by omega), e4 a i (by omega) (by omega)]; exact e1 a i q
      refine s_longOf hpj rfl (by omega) (by omega) (by rw [List.length_cons]; omega) (ifb (fun g1 => ?_) (fun g1 => ⟨Or.inl rfl, h0 (by omega) _ fr0⟩))
      have hsplit : E = st.take m ++ (st.drop m ++ rest) := by rw [← List.append_assoc, List.take_append_drop, hEE]
      have hpj2 : hp (z_upd μ' 248 25 ((E.length : Int) + 1)) ((c :: (st.take m).flatten) :: (st.take m ++ (st.drop m ++ rest))) := by rw [← hsplit]; exact hpj
      refine s_falls (A := st.take m) (B := st.drop m ++ rest) hpj2 (by rw [zu_s, ← hsplit]) ?_ (by rw [← hsplit]; omega) (by rw [← hsplit]; omega) (by omega) (fun μ2 e7 p7 t7 => ⟨Or.inr rfl, h1 (by omega) μ2 (fun a i q => (e7 a i q).trans (fr0 a i q)) p7 t7⟩)
      rw [List.length_append, List.length_drop]; omega
    · refine ⟨⟨by omega, by omega⟩, ⟨by omega, by omega⟩, ?_⟩
      have hne : st.drop (m - k.toNat) ≠ [] := by
        intro q
        have := congrArg List.length q
        rw [List.length_drop] at this
        simp at this
        omega
      obtain ⟨X, R, hXR⟩ := List.exists_cons_of_ne_nil hne
      obtain ⟨w1, w2⟩ := take_s hXR
      have hXm : X ∈ st := by rw [w2]; simp
      have hAB : E = st.take (m - k.toNat) ++ X :: (R ++ rest) := by
        rw [← hEE]
        conv => lhs; rw [w2]
        simp
      have hRl : ((R ++ rest).length : Int) = (E.length : Int) - (m : Int) + k - 1 := by
        have := congrArg List.length hXR
        rw [List.length_drop] at this
        simp at this
        rw [List.length_append]
        omega
      have opR := off_pos (R ++ rest)
      have opT := off_pos (st.take (m - k.toNat))
      have hoR : off E = off (st.take (m - k.toNat)) + ((X.length : Int) + off (R ++ rest)) := by rw [hAB]; exact off_app _ _
      rw [show (E.length : Int) - (m : Int) + k - 1 = ((R ++ rest).length : Int) by omega]
      have hX40 := (hV X hXm).2
      have hsx : hp μ' (X :: (R ++ rest)) := by rw [hAB] at hE'; exact hp_sfx hE'
      have fl := flen (m - k.toNat) (by omega)
      refine s_longOf hsx rfl (by omega) (by omega) (by omega) ?_
      refine s_joinPart hAB hE' e5 e6 g25 hl (by omega) (by rw [List.length_cons]; omega) (by omega) (by omega) (fun μ2 e7 p7 t7 => hG _ _ ⟨by omega, by omega, fun a i q1 q2 => (e7 a i q1 q2).trans (e4 a i q1 q2), ?_, ?_⟩ (by omega))
      · rw [show m - (k + -1).toNat = (m - k.toNat) + 1 by omega, w1, List.flatten_append]
        simpa using p7
      · rw [show m - (k + -1).toNat = (m - k.toNat) + 1 by omega, w1, List.flatten_append, t7]
        simp
  · rw [show m - ((m : Int)).toNat = 0 by omega]
    exact p1.2.1
  · rw [show m - ((m : Int)).toNat = 0 by omega]
    exact p1.1
theorem s_bodyForM {fs : List Fn} {f : Int} {V : List Int} {E : List (List Int)} {μ : ZM} {K : Int → ZM → Prop} (hF : MF μ fs) (hE : hp μ (V :: E)) (h25 : μ 248 25 = (E.length : Int) + 1) (hV : gV fs V) (hl : (E.length : Int) ≤ 430) (ho : off E ≤ 16000) (hf : 0 ≤ f ∧ f < (fs.length : Int)) (h : K (bfor fs f V) μ) : P_X12_bodyFor f μ K := by
  have fl := hF.2.1
  have op := off_pos E
  have hd := (hF.2.2 f hf.1 hf.2).2.1
  have hfr := hp_fr hE.2.2
  obtain ⟨c, W, eV⟩ := gV_ne hV
  have hV1 : (1 : Int) ≤ (V.length : Int) := by rw [eV]; simp; omega
  have a0 : μ 263 (off E) = gt V 0 := by
    have := hE.2.1 0 (by omega) (by omega)
    dsimp only at this
    rw [Int.add_zero] at this
    exact this
  unfold P_X12_bodyFor
  rw [show μ 248 25 - 1 = (E.length : Int) by omega, hfr, a0, hd]
  unfold bfor at h
  refine ⟨⟨by omega, by omega⟩, by omega, by omega, ifb (fun g => ?_) (fun g => ifb (fun g1 => ?_) (fun g1 => ?_))⟩
  · rw [if_pos g] at h; exact h
  · rw [if_neg g, if_pos g1] at h
    obtain ⟨X, eX⟩ := hd_S g1
    have hX : gV fs X := by rw [eX] at hV; exact gV_S hV
    obtain ⟨c', W', eX'⟩ := gV_ne hX
    have hV2 : (2 : Int) ≤ (V.length : Int) := by rw [eX, eX']; simp; omega
    have a1 : μ 263 (off E + 1) = gt V 1 := hE.2.1 1 (by omega) (by omega)
    rw [a1]
    refine ⟨⟨by omega, by omega⟩, by omega, ⟨by omega, by omega⟩, by omega, by omega, ifb (fun g2 => ?_) (fun g2 => ifb (fun g3 => ?_) (fun g3 => ifb (fun g4 => ?_) (fun g4 => ?_)))⟩
    · rw [if_pos g2] at h; exact h
    · rw [if_neg g2, if_pos g3] at h; exact h
    · rw [if_neg g2, if_neg g3, if_pos g4] at h; exact h
    · rw [if_neg g2, if_neg g3, if_neg g4] at h; exact h
  · rw [if_neg g, if_neg g1] at h; exact h
