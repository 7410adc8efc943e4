/-! ===== positions of a term ===== -/
def en (fs : List Fn) (T : List Int) (i : Int) : Int := i + fe fs 1 (T.drop i.toNat)
theorem pw_fe {fs : List Fn} (ho : okF fs) : ∀ (R : List Int) (k j : Int), 0 ≤ k → 0 ≤ j → pw fs (k + j) R → pw fs j (R.drop (fe fs k R).toNat) ∧ pw fs k (R.take (fe fs k R).toNat)
  | [], k, j, hk, hj, h => by
    have h' : k + j = 0 := h
    refine ⟨?_, ?_⟩
    · rw [List.drop_nil]; show j = 0; omega
    · rw [List.take_nil]; show k = 0; omega
  | c :: R, k, j, hk, hj, h => by
    by_cases g : k ≤ 0
    · have : k = 0 := by omega
      subst this
      rw [fe_0 (Int.le_refl 0)]
      rw [Int.zero_add] at h
      exact ⟨h, rfl⟩
    · have e : fe fs k (c :: R) = 1 + fe fs (k - 1 + arf fs c) R := by conv => lhs; unfold fe; rw [if_neg g]
      have ha := arf_pos ho c
      have hb := fe_bd (fs := fs) R (k - 1 + arf fs c)
      have h2 := h.2
      rw [show k + j - 1 + arf fs c = (k - 1 + arf fs c) + j by omega] at h2
      have ih := pw_fe ho R (k - 1 + arf fs c) j (by omega) hj h2
      rw [e, show (1 + fe fs (k - 1 + arf fs c) R).toNat = (fe fs (k - 1 + arf fs c) R).toNat + 1 by omega, List.drop_succ_cons, List.take_succ_cons]
      exact ⟨ih.1, by omega, ih.2⟩
theorem fe_all {fs : List Fn} : ∀ (R : List Int) (k : Int), pw fs k R → fe fs k R = (R.length : Int)
  | [], k, _ => rfl
  | c :: R, k, h => by
    have := fe_all R _ h.2
    unfold fe
    rw [if_neg (by have := h.1; omega), this]
    simp; omega
theorem fe_nest {fs : List Fn} (ho : okF fs) : ∀ (R : List Int) (k m : Int), 0 ≤ k → 0 ≤ m → m < fe fs k R → m + fe fs 1 (R.drop m.toNat) ≤ fe fs k R
  | [], k, m, _, hm, h => absurd h (by show ¬ m < 0; omega)
  | c :: R, k, m, hk, hm, h => by
    by_cases g : k ≤ 0
    · rw [fe_0 g] at h; omega
    · have e : fe fs k (c :: R) = 1 + fe fs (k - 1 + arf fs c) R := by conv => lhs; unfold fe; rw [if_neg g]
      have ha := arf_pos ho c
      by_cases g1 : m = 0
      · subst g1
        have := fe_add ho (c :: R) 1 (k - 1) (by omega) (by omega)
        rw [show 1 + (k - 1) = k by omega] at this
        have hb := fe_bd (fs := fs) ((c :: R).drop (fe fs 1 (c :: R)).toNat) (k - 1)
        rw [this]
        show 0 + fe fs 1 (c :: R) ≤ _
        omega
      · have ih := fe_nest ho R (k - 1 + arf fs c) (m - 1) (by omega) (by omega) (by omega)
        rw [show m.toNat = (m - 1).toNat + 1 by omega, List.drop_succ_cons, e]
        omega
theorem en_0 {fs : List Fn} {T : List Int} (h : okT fs T) : en fs T 0 = (T.length : Int) := by
  unfold en
  rw [Int.zero_add]
  exact fe_all T 1 h.1
theorem en_bd {fs : List Fn} {T : List Int} {i : Int} (h : 0 ≤ i ∧ i < (T.length : Int)) : i < en fs T i ∧ en fs T i ≤ (T.length : Int) := by
  unfold en
  rw [drop_gt h]
  have hb := fe_bd (fs := fs) (T.drop (i + 1).toNat) (1 - 1 + arf fs (gt T i))
  rw [List.length_drop] at hb
  unfold fe
  rw [if_neg (by decide)]
  omega
theorem en_s {fs : List Fn} {T : List Int} {i : Int} (h : 0 ≤ i ∧ i < (T.length : Int)) : en fs T i = i + 1 + fe fs (arf fs (gt T i)) (T.drop (i + 1).toNat) := by
  unfold en
  rw [drop_gt h]
  conv => lhs; unfold fe
  rw [if_neg (by decide), show (1 : Int) - 1 + arf fs (gt T i) = arf fs (gt T i) by omega]
  omega
theorem en_a0 {fs : List Fn} {T : List Int} {i : Int} (h : 0 ≤ i ∧ i < (T.length : Int)) (ha : arf fs (gt T i) = 0) : en fs T i = i + 1 := by
  rw [en_s h, ha, fe_0 (Int.le_refl 0)]; omega
theorem en_a1 {fs : List Fn} {T : List Int} {i : Int} (h : 0 ≤ i ∧ i < (T.length : Int)) (ha : arf fs (gt T i) = 1) : en fs T i = en fs T (i + 1) := by
  rw [en_s h, ha]; rfl
theorem en_a2 {fs : List Fn} {T : List Int} {i : Int} (ho : okF fs) (h : 0 ≤ i ∧ i < (T.length : Int)) (ha : arf fs (gt T i) = 2) : en fs T i = en fs T (en fs T (i + 1)) := by
  rw [en_s h, ha, show (2 : Int) = 1 + 1 by rfl, fe_add ho _ 1 1 (by omega) (by omega)]
  have hb := fe_bd (fs := fs) (T.drop (i + 1).toNat) 1
  unfold en
  rw [List.drop_drop, show (i + 1 + fe fs 1 (T.drop (i + 1).toNat)).toNat = (i + 1).toNat + (fe fs 1 (T.drop (i + 1).toNat)).toNat by omega]
  omega
/-- the rest of a text is so many terms -/
theorem pw_sfx {fs : List Fn} {T : List Int} {i : Int} (hT : okT fs T) (h : 0 ≤ i ∧ i < (T.length : Int)) : ∃ k, 1 ≤ k ∧ pw fs k (T.drop i.toNat) := by
  have h1 := hT.1
  rw [← List.take_append_drop i.toNat T] at h1
  obtain ⟨-, q2⟩ := pw_app2 h1
  refine ⟨_, ?_, q2⟩
  rw [drop_gt h] at q2
  exact q2.1
theorem en_k1 {fs : List Fn} {T : List Int} {i : Int} (hT : okT fs T) (h : 0 ≤ i ∧ i < (T.length : Int)) (ha : 1 ≤ arf fs (gt T i)) : i + 1 < (T.length : Int) := by
  obtain ⟨k, hk, hp⟩ := pw_sfx hT h
  rw [drop_gt h] at hp
  have h2 := hp.2
  rcases Int.lt_or_le (i + 1) (T.length : Int) with g | g
  · exact g
  · rw [List.drop_eq_nil_of_le (by omega)] at h2
    have h3 : k - 1 + arf fs (gt T i) = 0 := h2
    omega
theorem en_k2 {fs : List Fn} {T : List Int} {i : Int} (ho : okF fs) (hT : okT fs T) (h : 0 ≤ i ∧ i < (T.length : Int)) (ha : arf fs (gt T i) = 2) : en fs T (i + 1) < (T.length : Int) := by
  have g1 := en_k1 hT h (by omega)
  obtain ⟨k, hk, hp⟩ := pw_sfx hT h
  rw [drop_gt h] at hp
  have h2 := hp.2
  rw [ha, show k - 1 + 2 = 1 + k by omega] at h2
  have := (pw_fe ho _ 1 k (by omega) (by omega) h2).1
  unfold en
  have hb := fe_bd (fs := fs) (T.drop (i + 1).toNat) 1
  rw [List.length_drop] at hb
  rcases Int.lt_or_le (i + 1 + fe fs 1 (T.drop (i + 1).toNat)) (T.length : Int) with g | g
  · exact g
  · rw [List.drop_drop, List.drop_eq_nil_of_le (by omega)] at this
    have h3 : k = 0 := this
    omega
theorem en_nest {fs : List Fn} {T : List Int} {i j : Int} (ho : okF fs) (h0 : 0 ≤ i) (h1 : i ≤ j) (h2 : j < en fs T i) : en fs T j ≤ en fs T i := by
  unfold en at *
  have := fe_nest ho (T.drop i.toNat) 1 (j - i) (by omega) (by omega) (by omega)
  rw [List.drop_drop, show i.toNat + (j - i).toNat = j.toNat by omega] at this
  omega
theorem en_in {fs : List Fn} {T : List Int} {i : Int} (ho : okF fs) (hT : okT fs T) (h : 0 ≤ i ∧ i < (T.length : Int)) (ha : 1 ≤ arf fs (gt T i)) : i + 1 < en fs T i := by
  have g1 := en_k1 hT h ha
  have b1 := en_bd (fs := fs) (T := T) (i := i + 1) ⟨by omega, g1⟩
  have hle := arf_le ho (gt T i)
  have : arf fs (gt T i) = 1 ∨ arf fs (gt T i) = 2 := by omega
  rcases this with q | q
  · rw [en_a1 h q]; exact b1.1
  · have g2 := en_k2 ho hT h q
    have b2 := en_bd (fs := fs) (T := T) (i := en fs T (i + 1)) ⟨by omega, g2⟩
    rw [en_a2 ho h q]
    omega
theorem en_lt2 {fs : List Fn} {T : List Int} {i : Int} (ho : okF fs) (hT : okT fs T) (h : 0 ≤ i ∧ i < (T.length : Int)) (ha : arf fs (gt T i) = 2) : en fs T (i + 1) < en fs T i := by
  have g1 := en_k1 hT h (by omega)
  have b1 := en_bd (fs := fs) (T := T) (i := i + 1) ⟨by omega, g1⟩
  have g2 := en_k2 ho hT h ha
  have b2 := en_bd (fs := fs) (T := T) (i := en fs T (i + 1)) ⟨by omega, g2⟩
  rw [en_a2 ho h ha]
  exact b2.1
/-- every position but the first is an argument of one before it -/
theorem en_par {fs : List Fn} {T : List Int} {p : Int} (ho : okF fs) (hT : okT fs T) (hp : 0 < p ∧ p < (T.length : Int)) : ∀ (n : Nat) (k : Int), 0 ≤ k → k < p → (p - k).toNat ≤ n → p < en fs T k → 1 ≤ arf fs (gt T (p - 1)) ∨ ∃ q, 0 ≤ q ∧ q < p - 1 ∧ arf fs (gt T q) = 2 ∧ en fs T (q + 1) = p := by
  intro n
  induction n with
  | zero => intro k h1 h2 h3; omega
  | succ n ih =>
    intro k h1 h2 h3 h4
    have hk : 0 ≤ k ∧ k < (T.length : Int) := by omega
    have ha := arf_pos ho (gt T k)
    have hle := arf_le ho (gt T k)
    have a1 : 1 ≤ arf fs (gt T k) := by
      rcases Int.lt_or_le (arf fs (gt T k)) 1 with g | g
      · rw [en_a0 hk (by omega)] at h4; omega
      · exact g
    by_cases g : k + 1 = p
    · left
      rw [show p - 1 = k by omega]; exact a1
    · rcases Int.lt_or_le p (en fs T (k + 1)) with g1 | g1
      · exact ih (k + 1) (by omega) (by omega) (by omega) g1
      · by_cases g2 : arf fs (gt T k) = 1
        · rw [en_a1 hk g2] at h4; omega
        · have e2 : arf fs (gt T k) = 2 := by omega
          have b1 := en_bd (fs := fs) (T := T) (i := k + 1) ⟨by omega, by omega⟩
          by_cases g3 : en fs T (k + 1) = p
          · exact Or.inr ⟨k, h1, by omega, e2, g3⟩
          · rw [en_a2 ho hk e2] at h4
            exact ih (en fs T (k + 1)) (by omega) (by omega) (by omega) h4
/-! depths -/
def dq (fs : List Fn) (T : List Int) (j k : Int) : Int := if k < j ∧ j < en fs T k then 1 else 0
def dpt (fs : List Fn) (T : List Int) (j : Int) : Int := sg (dq fs T j) T.length
theorem sg_one {f g : Int → Int} {i : Int} : ∀ n : Nat, (∀ k : Int, 0 ≤ k → k < (n : Int) → f k = g k + if k = i then 1 else 0) → sg f n = sg g n + if 0 ≤ i ∧ i < (n : Int) then 1 else 0
  | 0, _ => by
    show (0 : Int) = 0 + _
    rw [if_neg (by simp)]; rfl
  | n + 1, h => by
    have ih := sg_one n (fun k h1 h2 => h k h1 (by omega))
    have hn := h (n : Int) (by omega) (by omega)
    show sg f n + f (n : Int) = sg g n + g (n : Int) + _
    rw [ih, hn]
    by_cases e : (n : Int) = i
    · rw [if_pos e, if_neg (by omega), if_pos (by omega)]; omega
    · rw [if_neg e]
      by_cases e1 : 0 ≤ i ∧ i < (n : Int)
      · rw [if_pos e1, if_pos (by omega)]; omega
      · rw [if_neg e1, if_neg (by omega)]; omega
theorem dpt_0 {fs : List Fn} {T : List Int} : dpt fs T 0 = 0 := by
  have : ∀ n : Nat, sg (dq fs T 0) n = 0 := by
    intro n
    induction n with
    | zero => rfl
    | succ n ih =>
      show sg (dq fs T 0) n + dq fs T 0 (n : Int) = 0
      rw [ih]
      unfold dq
      rw [if_neg (by omega)]; rfl
  exact this _
theorem dpt_1 {fs : List Fn} {T : List Int} {i : Int} (ho : okF fs) (hT : okT fs T) (h : 0 ≤ i ∧ i < (T.length : Int)) (ha : 1 ≤ arf fs (gt T i)) : dpt fs T (i + 1) = dpt fs T i + 1 := by
  have hin := en_in ho hT h ha
  have := sg_one (f := dq fs T (i + 1)) (g := dq fs T i) (i := i) T.length (fun k h1 h2 => ?_)
  · unfold dpt
    rw [this, if_pos h]
  · unfold dq
    by_cases e : k = i
    · subst e
      rw [if_pos (by omega), if_neg (by omega), if_pos rfl]; rfl
    · rw [if_neg e, Int.add_zero]
      by_cases g : k < i ∧ i < en fs T k
      · have := en_nest (T := T) ho h1 (by omega) g.2
        rw [if_pos g, if_pos (by omega)]
      · rw [if_neg g, if_neg (by omega)]
theorem dpt_2 {fs : List Fn} {T : List Int} {i : Int} (ho : okF fs) (hT : okT fs T) (h : 0 ≤ i ∧ i < (T.length : Int)) (ha : arf fs (gt T i) = 2) : dpt fs T (en fs T (i + 1)) = dpt fs T i + 1 := by
  have g1 := en_k1 hT h (by omega)
  have b1 := en_bd (fs := fs) (T := T) (i := i + 1) ⟨by omega, g1⟩
  have hl := en_lt2 ho hT h ha
  have := sg_one (f := dq fs T (en fs T (i + 1))) (g := dq fs T i) (i := i) T.length (fun k h1 h2 => ?_)
  · unfold dpt
    rw [this, if_pos h]
  · unfold dq
    by_cases e : k = i
    · subst e
      rw [if_pos (by omega), if_neg (by omega), if_pos rfl]; rfl
    · rw [if_neg e, Int.add_zero]
      by_cases g : k < i
      · by_cases g2 : i < en fs T k
        · have := en_nest (T := T) ho h1 (by omega) g2
          rw [if_pos (show k < en fs T (i + 1) ∧ en fs T (i + 1) < en fs T k by omega), if_pos ⟨g, g2⟩]
        · rw [if_neg (show ¬ (k < en fs T (i + 1) ∧ en fs T (i + 1) < en fs T k) by omega), if_neg (show ¬ (k < i ∧ i < en fs T k) by omega)]
      · rw [if_neg (show ¬ (k < i ∧ i < en fs T k) by omega)]
        by_cases g3 : k < en fs T (i + 1)
        · have := en_nest (T := T) (i := i + 1) (j := k) ho (by omega) (by omega) g3
          rw [if_neg (by omega)]
        · rw [if_neg (by omega)]
theorem dpt_bd {fs : List Fn} {T : List Int} {j : Int} (hl : T.length ≤ 40) (hj : j < (T.length : Int)) : 0 ≤ dpt fs T j ∧ dpt fs T j ≤ 39 := by
  unfold dpt
  have bd : ∀ k, 0 ≤ dq fs T j k ∧ dq fs T j k ≤ 1 := by
    intro k
    unfold dq
    split <;> omega
  rcases Nat.eq_zero_or_pos T.length with e | e
  · rw [e]; exact ⟨Int.le_refl 0, by show (0 : Int) ≤ 39; omega⟩
  · obtain ⟨m, hm⟩ := Nat.exists_eq_succ_of_ne_zero (Nat.pos_iff_ne_zero.mp e)
    have b := sg_bd (b := 1) (by omega) (n := m) (g := dq fs T j) bd
    rw [hm]
    show 0 ≤ sg (dq fs T j) m + dq fs T j (m : Int) ∧ sg (dq fs T j) m + dq fs T j (m : Int) ≤ 39
    have z : dq fs T j (m : Int) = 0 := by unfold dq; rw [if_neg (by omega)]
    rw [z]
    omega
