/-! ===== parts of terms ===== -/
def tl (fs : List Fn) (T : List Int) (i : Int) : List Int := (T.drop i.toNat).take (fe fs 1 (T.drop i.toNat)).toNat
theorem list_gt {A B : List Int} (hl : A.length = B.length) (h : ∀ k : Int, 0 ≤ k → k < (A.length : Int) → gt A k = gt B k) : A = B := by
  refine List.ext_getElem hl (fun n h1 h2 => ?_)
  have := h (n : Int) (by omega) (by omega)
  unfold gt at this
  rw [List.getD_eq_getElem?_getD, List.getD_eq_getElem?_getD, Int.toNat_natCast, List.getElem?_eq_getElem h1, List.getElem?_eq_getElem h2] at this
  exact this
theorem tl_len {fs : List Fn} {T : List Int} {i : Int} (h : 0 ≤ i) : ((tl fs T i).length : Int) = en fs T i - i := by
  unfold tl en
  have := fe_bd (fs := fs) (T.drop i.toNat) 1
  rw [List.length_take]
  omega
theorem gt_take {T : List Int} {n : Nat} {k : Int} (h : 0 ≤ k ∧ k < (n : Int)) : gt (T.take n) k = gt T k := by
  unfold gt
  rw [List.getD_eq_getElem?_getD, List.getD_eq_getElem?_getD, List.getElem?_take_of_lt (by omega)]
theorem tl_gt {fs : List Fn} {T : List Int} {i k : Int} (h : 0 ≤ i) (hk : 0 ≤ k ∧ k < en fs T i - i) : gt (tl fs T i) k = gt T (i + k) := by
  unfold tl
  unfold en at hk
  rw [gt_take (by omega), gt_drop hk.1, show ((i.toNat : Nat) : Int) = i by omega]
theorem tl_eq {fs : List Fn} {A B : List Int} {i j : Int} (hi : 0 ≤ i) (hj : 0 ≤ j) : tl fs A i = tl fs B j ↔ en fs B j - j = en fs A i - i ∧ ∀ k : Int, 0 ≤ k → k < en fs A i - i → gt A (i + k) = gt B (j + k) := by
  have la := tl_len (fs := fs) (T := A) hi
  have lb := tl_len (fs := fs) (T := B) hj
  constructor
  · intro e
    have e1 : en fs B j - j = en fs A i - i := by rw [← la, ← lb, e]
    refine ⟨e1, fun k h1 h2 => ?_⟩
    rw [← tl_gt hi ⟨h1, h2⟩, ← tl_gt (fs := fs) (T := B) hj ⟨h1, by omega⟩, e]
  · intro ⟨e1, e2⟩
    refine list_gt (by omega) (fun k h1 h2 => ?_)
    rw [tl_gt hi ⟨h1, by omega⟩, tl_gt hj ⟨h1, by omega⟩]
    exact e2 k h1 (by omega)
theorem s_isSameAt {fs : List Fn} {t t' i j : Int} {A B : List Int} {μ : ZM} {K : Int → ZM → Prop} (ht : z_tm t) (ht' : z_tm t') (hT : Tm μ fs t A) (hT' : Tm μ fs t' B) (lA : A.length ≤ 40) (lB : B.length ≤ 40) (hi : 0 ≤ i ∧ i < (A.length : Int)) (hj : 0 ≤ j ∧ j < (B.length : Int)) (h1 : tl fs A i = tl fs B j → K 1 μ) (h0 : tl fs A i ≠ tl fs B j → K 0 μ) : P_X10_isSameAt t i t' j μ K := by
  have ba := en_bd (fs := fs) hi
  have bb := en_bd (fs := fs) hj
  have ea : μ (t + 2) i = en fs A i := hT.2.2 i hi.1 hi.2
  have eb : μ (t' + 2) j = en fs B j := hT'.2.2 j hj.1 hj.2
  have key := tl_eq (fs := fs) (A := A) (B := B) hi.1 hj.1
  unfold P_X10_isSameAt
  rw [ea, eb, hT.1, hT'.1]
  refine ⟨ht, ht', ifb (fun g => absurd g (by omega)) (fun _ => ifb (fun g => absurd g (by omega)) (fun _ => ifb (fun g => absurd g (by omega)) (fun _ => ifb (fun _ => ⟨by omega, ⟨by omega, by omega⟩, by omega, ⟨by omega, by omega⟩, ifb (fun g => ?_) (fun g => ⟨Or.inl rfl, h0 (fun q => g (key.mp q).1)⟩)⟩) (fun g => absurd hj.2 g))))⟩
  refine z_lf1_ind (fun k μ' => μ' = μ ∧ 0 ≤ k ∧ k ≤ en fs A i - i ∧ ∀ q : Int, 0 ≤ q → q < k → gt A (i + q) = gt B (j + q)) (fun k _ => (en fs A i - i - k).toNat) ?_ 0 μ ⟨rfl, by omega, by omega, fun q p1 p2 => absurd p2 (by omega)⟩
  intro k μ' G ⟨e1, e2, e3, e4⟩ hG
  subst e1
  refine ifb (fun g1 => ⟨Or.inr rfl, h1 (key.mpr ⟨g, fun q p1 p2 => e4 q p1 (by omega)⟩)⟩) (fun g1 => ⟨⟨by omega, by omega⟩, by omega, ⟨by omega, by omega⟩, by omega, ?_⟩)
  rw [hT.2.1 (i + k) (by omega) (by omega), hT'.2.1 (j + k) (by omega) (by omega)]
  refine ifb (fun g2 => ⟨⟨by omega, by omega⟩, hG _ _ ⟨rfl, by omega, by omega, fun q p1 p2 => ?_⟩ (by omega)⟩) (fun g2 => ⟨Or.inl rfl, h0 (fun q => g2 ((key.mp q).2 k e2 (by omega)))⟩)
  by_cases eq : q = k
  · rw [eq]; exact g2
  · exact e4 q p1 (by omega)
theorem s_isSamePart {s s' i j n : Int} {A B : List Int} {μ : ZM} {K : Int → ZM → Prop} (hs : 0 ≤ s ∧ s < 44) (hs' : 0 ≤ s' ∧ s' < 44) (hS : Sl μ s A) (hS' : Sl μ s' B) (lA : A.length ≤ 128) (lB : B.length ≤ 128) (hi : 0 ≤ i ∧ i + n ≤ (A.length : Int)) (hj : 0 ≤ j ∧ j + n ≤ (B.length : Int)) (h1 : (∀ k : Int, 0 ≤ k → k < n → gt A (i + k) = gt B (j + k)) → K 1 μ) (h0 : ¬ (∀ k : Int, 0 ≤ k → k < n → gt A (i + k) = gt B (j + k)) → K 0 μ) : P_X12_isSamePart s i s' j n μ K := by
  refine z_lf1_ind (fun k μ' => μ' = μ ∧ 0 ≤ k ∧ ∀ q : Int, 0 ≤ q → q < k → gt A (i + q) = gt B (j + q)) (fun k _ => (n - k).toNat) ?_ 0 μ ⟨rfl, by omega, fun q p1 p2 => absurd p2 (by omega)⟩
  intro k μ' G ⟨e1, e2, e4⟩ hG
  subst e1
  refine ifb (fun g1 => ⟨Or.inr rfl, h1 (fun q p1 p2 => e4 q p1 (by omega))⟩) (fun g1 => ⟨⟨by omega, by omega⟩, s_atT hs hS lA (by omega) ⟨⟨by omega, by omega⟩, s_atT hs' hS' lB (by omega) ?_⟩⟩)
  refine ifb (fun g2 => ⟨⟨by omega, by omega⟩, hG _ _ ⟨rfl, by omega, fun q p1 p2 => ?_⟩ (by omega)⟩) (fun g2 => ⟨Or.inl rfl, h0 (fun q => g2 (q k e2 (by omega)))⟩)
  by_cases eq : q = k
  · rw [eq]; exact g2
  · exact e4 q p1 (by omega)
/-! ===== matching ===== -/
def ubd (b : Int → Int) (v j : Int) : Int → Int := fun x => if x = v then j else b x
def b9 : Int → Int := fun _ => -9
abbrev isv (c fx : Int) : Prop := 120 ≤ c ∧ c ≤ 122 ∧ c - 120 ≠ fx
def mt (fs : List Fn) (A : List Int) (fx : Int) : List Int → Int → (Int → Int) → Option (Int → Int)
  | [], _, b => some b
  | c :: P, j, b => if (A.length : Int) ≤ j then none
    else if isv c fx then (if b (c - 120) = -9 then mt fs A fx P (en fs A j) (ubd b (c - 120) j) else if tl fs A (b (c - 120)) = tl fs A j then mt fs A fx P (en fs A j) b else none)
    else if gt A j = c then mt fs A fx P (j + 1) b else none
def okB (A : List Int) (b : Int → Int) : Prop := ∀ v, b v = -9 ∨ (0 ≤ b v ∧ b v < (A.length : Int))
theorem okB_ubd {A : List Int} {b : Int → Int} {v j : Int} (h : okB A b) (hj : 0 ≤ j ∧ j < (A.length : Int)) : okB A (ubd b v j) := by
  intro x
  unfold ubd
  by_cases g : x = v
  · rw [if_pos g]; exact Or.inr hj
  · rw [if_neg g]; exact h x
theorem mt_ok {fs : List Fn} {A : List Int} {fx : Int} : ∀ (P : List Int) (j : Int) (b b' : Int → Int), 0 ≤ j → okB A b → mt fs A fx P j b = some b' → okB A b'
  | [], j, b, b', _, hb, h => by rw [← Option.some.inj h]; exact hb
  | c :: P, j, b, b', hj, hb, h => by
    unfold mt at h
    by_cases g : (A.length : Int) ≤ j
    · rw [if_pos g] at h; exact absurd h (by simp)
    rw [if_neg g] at h
    have bd := en_bd (fs := fs) (T := A) (i := j) ⟨hj, by omega⟩
    by_cases g1 : isv c fx
    · rw [if_pos g1] at h
      by_cases g2 : b (c - 120) = -9
      · rw [if_pos g2] at h
        exact mt_ok P _ _ b' (by omega) (okB_ubd hb ⟨hj, by omega⟩) h
      · rw [if_neg g2] at h
        by_cases g3 : tl fs A (b (c - 120)) = tl fs A j
        · rw [if_pos g3] at h
          exact mt_ok P _ _ b' (by omega) hb h
        · rw [if_neg g3] at h; exact absurd h (by simp)
    · rw [if_neg g1] at h
      by_cases g2 : gt A j = c
      · rw [if_pos g2] at h
        exact mt_ok P _ _ b' (by omega) hb h
      · rw [if_neg g2] at h; exact absurd h (by simp)
theorem mt_nil {fs : List Fn} {A P : List Int} {fx k j : Int} {b : Int → Int} (h : (P.length : Int) ≤ k) : mt fs A fx (P.drop k.toNat) j b = some b := by
  rw [List.drop_eq_nil_of_le (by omega)]; rfl
theorem mt_s {fs : List Fn} {A P : List Int} {fx k j : Int} {b : Int → Int} (h : 0 ≤ k ∧ k < (P.length : Int)) : mt fs A fx (P.drop k.toNat) j b = if (A.length : Int) ≤ j then none
    else if isv (gt P k) fx then (if b (gt P k - 120) = -9 then mt fs A fx (P.drop (k + 1).toNat) (en fs A j) (ubd b (gt P k - 120) j) else if tl fs A (b (gt P k - 120)) = tl fs A j then mt fs A fx (P.drop (k + 1).toNat) (en fs A j) b else none)
    else if gt A j = gt P k then mt fs A fx (P.drop (k + 1).toNat) (j + 1) b else none := by
  rw [drop_gt h]; rfl
theorem s_matchesC {fs : List Fn} {t t' i fx : Int} {P A : List Int} {μ : ZM} {K : Int → ZM → Prop} (ht : z_tm t) (ht' : z_tm t') (hT : Tm μ fs t P) (hT' : Tm μ fs t' A) (lP : P.length ≤ 40) (lA : A.length ≤ 40) (hcP : ∀ c ∈ P, 0 ≤ c ∧ c ≤ 122) (hi : 0 ≤ i ∧ i < (A.length : Int)) (h0 : mt fs A fx P i b9 = none → ∀ μ', (∀ a k, a ≠ 237 → μ' a k = μ a k) → K 0 μ') (h1 : ∀ b, mt fs A fx P i b9 = some b → ∀ μ', (∀ a k, a ≠ 237 → μ' a k = μ a k) → (∀ v : Int, 0 ≤ v → v ≤ 2 → μ' 237 v = b v) → K 1 μ') : P_X5_matches t t' i fx μ K := by
  have b1 := ht
  have b2 := ht'
  unfold z_tm at b1 b2
  refine ⟨ht, ht', by omega, by omega, by omega, ?_⟩
  show P_X5_matches_30 t t' fx i 0 (z_upd (z_upd (z_upd μ 237 0 (-9)) 237 1 (-9)) 237 2 (-9)) K
  generalize hR : mt fs A fx P i b9 = R at *
  refine z_lf2_ind (fun j k μ' => ∃ b, 0 ≤ j ∧ 0 ≤ k ∧ k ≤ (P.length : Int) ∧ (∀ a q, a ≠ 237 → μ' a q = μ a q) ∧ (∀ v : Int, 0 ≤ v → v ≤ 2 → μ' 237 v = b v) ∧ okB A b ∧ mt fs A fx (P.drop k.toNat) j b = R) (fun j k _ => ((P.length : Int) - k).toNat) ?_ i 0 _ ⟨b9, by omega, by omega, by omega, fun a q p => by rw [zu_n p, zu_n p, zu_n p], fun v p1 p2 => ?_, fun v => Or.inl rfl, hR⟩
  · intro j k μ' G ⟨b, e1, e2, e3, e4, e5, e6, e7⟩ hG
    have s1 : μ' t 2 = (P.length : Int) := (e4 _ _ (by omega)).trans hT.1
    have s2 : μ' t' 2 = (A.length : Int) := (e4 _ _ (by omega)).trans hT'.1
    rw [s1, s2]
    refine ifb (fun g => ?_) (fun g => ifb (fun g1 => absurd g1 (by omega)) (fun _ => ?_))
    · rw [mt_nil g] at e7
      exact ⟨Or.inr rfl, h1 b e7.symm μ' e4 e5⟩
    rw [mt_s ⟨e2, by omega⟩] at e7
    refine ifb (fun g1 => ⟨by omega, ?_⟩) (fun g1 => ?_)
    · rw [if_neg (by omega)] at e7
      have hjj : 0 ≤ j ∧ j < (A.length : Int) := ⟨e1, g1⟩
      have bd := en_bd (fs := fs) hjj
      have hP : μ' (t + 1) k = gt P k := (e4 _ _ (by omega)).trans (hT.2.1 k e2 (by omega))
      rw [hP]
      have hcb := hcP (gt P k) (mem_gt.mpr ⟨k, e2, by omega, rfl⟩)
      generalize gt P k = c at *
      have plain : ¬ isv c fx → P_X5_matches_89 G t t' fx j k c μ' K := by
        intro q
        rw [if_neg q] at e7
        unfold P_X5_matches_89
        rw [show μ' (t' + 1) j = gt A j from (e4 _ _ (by omega)).trans (hT'.2.1 j e1 g1)]
        refine ⟨by omega, ifb (fun g2 => ?_) (fun g2 => ?_)⟩
        · rw [if_pos g2.symm] at e7
          exact ⟨⟨by omega, by omega⟩, ⟨by omega, by omega⟩, hG _ _ _ ⟨b, by omega, by omega, by omega, e4, e5, e6, e7⟩ (by omega)⟩
        · rw [if_neg (fun q => g2 q.symm)] at e7
          exact ⟨Or.inl rfl, h0 e7.symm μ' e4⟩
      refine ⟨⟨by omega, by omega⟩, ifb (fun g2 => plain (fun q => by have := q.1; omega)) (fun g2 => ifb (fun g3 => plain (fun q => by have := q.2.1; omega)) (fun g3 => ifb (fun g4 => plain (fun q => q.2.2 g4)) (fun g4 => ?_)))⟩
      rw [if_pos ⟨by omega, by omega, g4⟩] at e7
      have ev := e5 (c - 120) (by omega) (by omega)
      rw [ev]
      have go : ∀ (μ2 : ZM) (b' : Int → Int), (∀ a q, a ≠ 237 → μ2 a q = μ a q) → (∀ v : Int, 0 ≤ v → v ≤ 2 → μ2 237 v = b' v) → okB A b' → mt fs A fx (P.drop (k + 1).toNat) (en fs A j) b' = R → P_X5_matches_152 G t t' fx j k μ2 K := by
        intro μ2 b' q1 q2 q3 q4
        unfold P_X5_matches_152
        rw [show μ2 (t' + 2) j = en fs A j from (q1 _ _ (by omega)).trans (hT'.2.2 j e1 g1)]
        exact ⟨by omega, ⟨by omega, by omega⟩, hG _ _ _ ⟨b', by omega, by omega, by omega, q1, q2, q3, q4⟩ (by omega)⟩
      refine ⟨by omega, ifb (fun g5 => ⟨by omega, ?_⟩) (fun g5 => ⟨by omega, ?_⟩)⟩
      · rw [if_pos g5] at e7
        refine go _ (ubd b (c - 120) j) (fun a q p => (zu_n p).trans (e4 a q p)) (fun v p1 p2 => ?_) (okB_ubd e6 hjj) e7
        unfold ubd
        by_cases g6 : v = c - 120
        · rw [if_pos g6, g6, zu_s]
        · rw [if_neg g6, zu_k g6]; exact e5 v p1 p2
      · rw [if_neg g5] at e7
        have hbv : 0 ≤ b (c - 120) ∧ b (c - 120) < (A.length : Int) := (e6 (c - 120)).resolve_left g5
        have hA' : Tm μ' fs t' A := hT'.ex (fun k => e4 _ _ (by omega)) (fun k => e4 _ _ (by omega)) (fun k => e4 _ _ (by omega))
        refine s_isSameAt ht' ht' hA' hA' lA lA hbv hjj (fun q => if1 ?_) (fun q => if0 ?_)
        · rw [if_pos q] at e7
          exact go μ' b e4 e5 e6 e7
        · rw [if_neg q] at e7
          exact ⟨Or.inl rfl, h0 e7.symm μ' e4⟩
    · rw [if_pos (by omega)] at e7
      exact ⟨Or.inl rfl, h0 e7.symm μ' e4⟩
  · have : v = 0 ∨ v = 1 ∨ v = 2 := by omega
    rcases this with q | q | q <;> subst q <;> simp [z_upd, b9]
