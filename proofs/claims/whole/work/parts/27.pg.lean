/-! well-formed texts -/
def pn (fs : List Fn) : Int → List Int → Int
  | k, [] => k
  | k, c :: T => pn fs (k - 1 + arf fs c) T
def pk (fs : List Fn) : Int → List Int → Prop
  | _, [] => True
  | k, c :: T => 1 ≤ k ∧ pk fs (k - 1 + arf fs c) T
theorem pw_iff {fs : List Fn} : ∀ {T : List Int} {k : Int}, pw fs k T ↔ pk fs k T ∧ pn fs k T = 0
  | [], k => by simp [pw, pk, pn]
  | c :: T, k => by
    simp only [pw, pk, pn]
    rw [pw_iff (T := T)]
    constructor
    · intro h; exact ⟨⟨h.1, h.2.1⟩, h.2.2⟩
    · intro h; exact ⟨h.1.1, h.1.2, h.2⟩
theorem pn_app {fs : List Fn} : ∀ {A B : List Int} {k : Int}, pn fs k (A ++ B) = pn fs (pn fs k A) B
  | [], _, _ => rfl
  | c :: A, B, k => by show pn fs (k - 1 + arf fs c) (A ++ B) = pn fs (pn fs (k - 1 + arf fs c) A) B; exact pn_app
theorem pk_app {fs : List Fn} : ∀ {A B : List Int} {k : Int}, pk fs k (A ++ B) ↔ pk fs k A ∧ pk fs (pn fs k A) B
  | [], B, k => by simp [pk, pn]
  | c :: A, B, k => by
    show 1 ≤ k ∧ pk fs (k - 1 + arf fs c) (A ++ B) ↔ (1 ≤ k ∧ pk fs (k - 1 + arf fs c) A) ∧ pk fs (pn fs (k - 1 + arf fs c) A) B
    rw [pk_app (A := A)]
    constructor
    · intro h; exact ⟨⟨h.1, h.2.1⟩, h.2.2⟩
    · intro h; exact ⟨h.1.1, h.1.2, h.2⟩
theorem rt_ok {fs fs' : List Fn} {hx hy hz own oa : Int} {tp : List Int} {room : Int} {Q : Int → Prop} (hpa : ∀ c, 0 ≤ pa fs hx hy hz own oa c → arf fs' c = pa fs hx hy hz own oa c ∧ Q c) : ∀ (n : Nat) (p nd mx : Int) (acc : List Int), 0 ≤ nd → (acc.length : Int) + nd ≤ room → n = (room - (acc.length : Int)).toNat → pk fs' 1 acc → pn fs' 1 acc = nd → (∀ c ∈ acc, Q c) → (rt fs hx hy hz own oa tp room n p nd mx acc).1 = 1 → pw fs' 1 (rt fs hx hy hz own oa tp room n p nd mx acc).2.2 ∧ (∀ c ∈ (rt fs hx hy hz own oa tp room n p nd mx acc).2.2, Q c) ∧ ((rt fs hx hy hz own oa tp room n p nd mx acc).2.2.length : Int) ≤ room := by
  intro n
  induction n with
  | zero =>
    intro p nd mx acc h1 h2 h3 h4 h5 h6 _
    exact ⟨pw_iff.mpr ⟨h4, by show pn fs' 1 acc = 0; omega⟩, h6, by show (acc.length : Int) ≤ room; omega⟩
  | succ n ih =>
    intro p nd mx acc h1 h2 h3 h4 h5 h6 h7
    by_cases g : nd ≤ 0
    · rw [rt_done g]
      exact ⟨pw_iff.mpr ⟨h4, by show pn fs' 1 acc = 0; omega⟩, h6, by show (acc.length : Int) ≤ room; omega⟩
    · rw [rt_step (by omega) g] at h7 ⊢
      by_cases g1 : p = (tp.length : Int)
      · rw [if_pos g1] at h7; exact absurd h7 (show ¬ (0 : Int) = 1 by decide)
      · rw [if_neg g1] at h7 ⊢
        by_cases g2 : (mx ≠ 0 ∧ gt tp p ≠ 120) ∨ pa fs hx hy hz own oa (gt tp p) < 0 ∨ room < (acc.length : Int) + nd + pa fs hx hy hz own oa (gt tp p)
        · rw [if_pos g2] at h7; exact absurd h7 (show ¬ (0 : Int) = 1 by decide)
        · rw [if_neg g2] at h7 ⊢
          obtain ⟨q1, q2⟩ := hpa (gt tp p) (by omega)
          refine ih (p + 1) _ _ _ (by omega) (by simp; omega) (by simp; omega) ?_ ?_ ?_ h7
          · rw [pk_app]
            exact ⟨h4, by rw [h5]; omega, trivial⟩
          · rw [pn_app, h5]
            show nd - 1 + arf fs' (gt tp p) = _
            omega
          · intro c hc
            rcases List.mem_append.mp hc with h | h
            · exact h6 c h
            · rw [List.mem_singleton.mp h]; exact q2
/-! ends -/
theorem arf_pos {fs : List Fn} (ho : okF fs) (c : Int) : 0 ≤ arf fs c := by
  unfold arf
  by_cases h : c = 83
  · rw [if_pos h]; decide
  · rw [if_neg h]
    by_cases h2 : 97 ≤ c ∧ c < 97 + (fs.length : Int)
    · rw [if_pos h2]
      have := (ho (c - 97) (by omega) (by omega)).1
      omega
    · rw [if_neg h2]; exact Int.le_refl 0
theorem fe_bd {fs : List Fn} : ∀ (R : List Int) (k : Int), 0 ≤ fe fs k R ∧ fe fs k R ≤ (R.length : Int)
  | [], k => by simp [fe]
  | c :: R, k => by
    unfold fe
    by_cases h : k ≤ 0
    · rw [if_pos h]; simp; omega
    · rw [if_neg h]
      have := fe_bd (fs := fs) R (k - 1 + arf fs c)
      simp; omega
theorem fe_0 {fs : List Fn} {R : List Int} {k : Int} (h : k ≤ 0) : fe fs k R = 0 := by
  cases R with
  | nil => rfl
  | cons c R => unfold fe; rw [if_pos h]
theorem fe_add {fs : List Fn} (ho : okF fs) : ∀ (R : List Int) (k m : Int), 0 ≤ k → 0 ≤ m → fe fs (k + m) R = fe fs k R + fe fs m (R.drop (fe fs k R).toNat)
  | [], k, m, _, _ => by simp [fe]
  | c :: R, k, m, hk, hm => by
    by_cases h : k ≤ 0
    · rw [show k = 0 by omega, fe_0 (k := 0) (Int.le_refl 0)]; simp
    · have ha := arf_pos ho c
      have e1 : fe fs k (c :: R) = 1 + fe fs (k - 1 + arf fs c) R := by conv => lhs; unfold fe; rw [if_neg h]
      have e2 : fe fs (k + m) (c :: R) = 1 + fe fs (k + m - 1 + arf fs c) R := by conv => lhs; unfold fe; rw [if_neg (show ¬ k + m ≤ 0 by omega)]
      have hb := fe_bd (fs := fs) R (k - 1 + arf fs c)
      rw [e1, e2, show k + m - 1 + arf fs c = (k - 1 + arf fs c) + m by omega, fe_add ho R (k - 1 + arf fs c) m (by omega) hm, show (1 + fe fs (k - 1 + arf fs c) R).toNat = (fe fs (k - 1 + arf fs c) R).toNat + 1 by omega, List.drop_succ_cons]
      omega
theorem drop_gt {T : List Int} {i : Int} (h : 0 ≤ i ∧ i < (T.length : Int)) : T.drop i.toNat = gt T i :: T.drop (i + 1).toNat := by
  rw [List.drop_eq_getElem_cons (show i.toNat < T.length by omega), show (i + 1).toNat = i.toNat + 1 by omega]
  unfold gt
  rw [List.getD_eq_getElem?_getD, List.getElem?_eq_getElem (by omega)]
  rfl
theorem s_close {fs : List Fn} {t : Int} {T : List Int} {μ : ZM} {K : ZM → Prop} (ho : okF fs) (hF : CF μ fs) (ht : z_tm t) (h1 : μ t 2 = (T.length : Int)) (h2 : rp (μ (t + 1)) T) (hl : T.length ≤ 40) (hc : ∀ i : Int, 0 ≤ i → i < (T.length : Int) → 0 ≤ gt T i ∧ gt T i ≤ 127) (h : ∀ μ', (∀ a k, a ≠ t + 2 → μ' a k = μ a k) → Tm μ' fs t T → K μ') : P_X10_close t μ K := by
  refine ⟨ht, ⟨by omega, by omega⟩, ?_⟩
  refine z_lf1_ind (fun i μ' => -1 ≤ i ∧ i < (T.length : Int) ∧ (∀ a k, a ≠ t + 2 → μ' a k = μ a k) ∧ ∀ j : Int, i < j → j < (T.length : Int) → μ' (t + 2) j = j + fe fs 1 (T.drop j.toNat)) (fun i μ' => (i + 1).toNat) ?_ _ _ ⟨by omega, by omega, fun _ _ _ => rfl, fun j h3 h4 => absurd h3 (by omega)⟩
  intro i μ' G ⟨e1, e2, e3, e4⟩ hG
  refine ifb (fun g => h μ' e3 ⟨(e3 t 2 (by omega)).trans h1, h2.ex (fun j _ _ => e3 _ _ (by omega)), fun j h3 h4 => e4 j (by omega) h4⟩) (fun g => ⟨⟨by omega, by omega⟩, by omega, ?_⟩)
  have hcod : μ' (t + 1) i = gt T i := by rw [e3 _ _ (by omega)]; exact h2 i (by omega) (by omega)
  rw [hcod]
  have hcr := hc i (by omega) (by omega)
  refine ifb (fun g1 => absurd g1 (by omega)) (fun _ => ifb (fun g1 => absurd g1 (by omega)) (fun _ => ⟨⟨by omega, by omega⟩, ?_⟩))
  have har : μ' 211 (gt T i) = arf fs (gt T i) := by rw [e3 211 _ (by omega)]; exact hF.2.2.2 _ (by omega) (by omega)
  rw [har]
  have ha := arf_pos ho (gt T i)
  have ha2 : arf fs (gt T i) ≤ 2 := by
    unfold arf
    by_cases q : gt T i = 83
    · rw [if_pos q]; decide
    · rw [if_neg q]
      by_cases q2 : 97 ≤ gt T i ∧ gt T i < 97 + (fs.length : Int)
      · rw [if_pos q2]
        have := (ho (gt T i - 97) (by omega) (by omega)).1
        omega
      · rw [if_neg q2]; decide
  have hsize : μ' t 2 = (T.length : Int) := (e3 t 2 (by omega)).trans h1
  generalize hav : arf fs (gt T i) = av at ha ha2 ⊢
  show P_X10_close_48 G t i av (i + 1) 0 μ' K
  have fin : ∀ st : Int, st = i + 1 + fe fs av (T.drop (i + 1).toNat) → P_X10_close_76 G t i st μ' K := by
    intro st hst
    refine ⟨by omega, ⟨by omega, by omega⟩, hG _ _ ⟨by omega, by omega, fun a k hak => by rw [zu_n hak]; exact e3 a k hak, fun j h3 h4 => ?_⟩ (by omega)⟩
    by_cases ej : j = i
    · subst ej
      rw [zu_s, drop_gt (by omega), hst]
      show _ = j + (if (1 : Int) ≤ 0 then 0 else 1 + fe fs (1 - 1 + arf fs (gt T j)) (T.drop (j + 1).toNat))
      rw [if_neg (by decide), hav, show 1 - 1 + av = av by omega]
      omega
    · rw [zu_k ej]
      exact e4 j (by omega) h4
  refine z_lf2_ind (fun st k μ2 => μ2 = μ' ∧ 0 ≤ k ∧ k ≤ av ∧ st = i + 1 + fe fs k (T.drop (i + 1).toNat)) (fun st k _ => (av - k).toNat) ?_ (i + 1) 0 μ' ⟨rfl, by omega, by omega, by rw [fe_0 (Int.le_refl 0)]; omega⟩
  intro st k μ2 G2 ⟨q1, q2, q3, q4⟩ hG2
  subst q1
  have hbd := fe_bd (fs := fs) (T.drop (i + 1).toNat) k
  have hdl : ((T.drop (i + 1).toNat).length : Int) = (T.length : Int) - (i + 1) := by rw [List.length_drop]; omega
  refine ifb (fun g1 => fin st (by rw [q4, show k = av by omega])) (fun g1 => ifb (fun g2 => fin st ?_) (fun g2 => ⟨by omega, ⟨by omega, by omega⟩, hG2 _ _ _ ⟨rfl, by omega, by omega, ?_⟩ (by omega)⟩))
  · have e6 := fe_add ho (T.drop (i + 1).toNat) k (av - k) q2 (by omega)
    have e7 : (T.drop (i + 1).toNat).drop (fe fs k (T.drop (i + 1).toNat)).toNat = [] := List.drop_eq_nil_of_le (by omega)
    rw [show k + (av - k) = av by omega, e7] at e6
    rw [q4, e6]
    simp [fe]
  · rw [e4 st (by omega) (by omega), fe_add ho _ k 1 q2 (by omega), List.drop_drop, show (i + 1).toNat + (fe fs k (T.drop (i + 1).toNat)).toNat = st.toNat by omega]
    omega
