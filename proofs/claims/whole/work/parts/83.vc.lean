theorem Tm_of {μ μ' : ZM} {fs : List Fn} {t : Int} {T : List Int} (h : Tm μ fs t T) (e : ∀ a k, t ≤ a → a ≤ t + 2 → μ' a k = μ a k) : Tm μ' fs t T := h.ex (fun k => e _ _ (by omega) (by omega)) (fun k => e _ _ (by omega) (by omega)) (fun k => e _ _ (by omega) (by omega))
/-- two sides of a claim are copied -/
theorem s_copy0 {fs : List Fn} {c c' : Int} {A B : List Int} {μ : ZM} {K : ZM → Prop} (hc : z_cm c) (hc' : z_cm c') (hne : c ≠ c') (hA : Tm μ fs (6 * (c' - 187) + 1) A) (hB : Tm μ fs (6 * (c' - 187) + 4) B) (lA : A.length ≤ 40) (lB : B.length ≤ 40) (h : ∀ μ', (∀ a k, ¬ (6 * (c - 187) + 1 ≤ a ∧ a ≤ 6 * (c - 187) + 6) → μ' a k = μ a k) → Tm μ' fs (6 * (c - 187) + 1) A → Tm μ' fs (6 * (c - 187) + 4) B → K μ') : P_X0_copy c c' μ K := by
  have b := hc
  have b' := hc'
  unfold z_cm at b b'
  refine ⟨hc, hc', s_copy (by unfold z_tm; omega) (by unfold z_tm; omega) (by omega) hA lA (fun μ1 f1 t1 => s_copy (by unfold z_tm; omega) (by unfold z_tm; omega) (by omega) (Tm_of hB (fun a k p1 p2 => f1 a k (by omega) (by omega) (by omega))) lB (fun μ2 f2 t2 => h μ2 (fun a k q => (f2 a k (by omega) (by omega) (by omega)).trans (f1 a k (by omega) (by omega) (by omega))) (Tm_of t1 (fun a k p1 p2 => f2 a k (by omega) (by omega) (by omega))) t2))⟩
theorem s_generalize {fs : List Fn} {c c' : Int} {A B : List Int} {μ : ZM} {K : Int → ZM → Prop} (ho : okF fs) (hF : CF μ fs) (hc : z_cm c) (hc' : z_cm c') (hne : c ≠ c') (hA : Tm μ fs (6 * (c - 187) + 1) A) (hB : Tm μ fs (6 * (c - 187) + 4) B) (oA : okT fs A) (oB : okT fs B) (lA : A.length ≤ 40) (lB : B.length ≤ 40) (h : ∀ μ', (∀ a k, ¬ (6 * (c' - 187) + 1 ≤ a ∧ a ≤ 6 * (c' - 187) + 6) → μ' a k = μ a k) → Tm μ' fs (6 * (c' - 187) + 1) (gz fs A B).2.1 → Tm μ' fs (6 * (c' - 187) + 4) (gz fs A B).2.2 → K (gz fs A B).1 μ') : P_X0_generalize c c' μ K := by
  have hl := hF.2.1
  have b := hc
  have b' := hc'
  unfold z_cm at b b'
  refine ⟨hc, hc', s_commonStart hc hA hB lA lB ?_⟩
  have same : (cm fs A B = -9 ∨ fvr A B = -9) → ∀ x3, P_X0_generalize_20 c c' x3 (-9) μ K := by
    intro q x3
    unfold gz at h
    rw [if_pos q] at h
    unfold P_X0_generalize_20
    rw [if_pos rfl]
    exact s_copy0 hc' hc (fun y => hne y.symm) hA hB lA lB (fun μ1 f1 t1 t2 => h μ1 f1 t1 t2)
  refine ifb (fun g => same (Or.inl g) _) (fun g => s_freeVariable hc ⟨hA.1, hA.2.1⟩ ⟨hB.1, hB.2.1⟩ lA lB ?_)
  by_cases g1 : fvr A B = -9
  · rw [g1]; exact same (Or.inr g1) _
  · unfold gz at h
    rw [if_neg (fun q => q.elim g g1)] at h
    unfold P_X0_generalize_20
    rw [if_neg g1]
    dsimp only at h
    have fb := fvr_bd g1
    have cb := cm_ok g
    have p1 := pv_0 (X := tl fs A (cm fs A B)) (c := 120 + fvr A B) ho hl oA (by omega) lA
    have p2 := pv_0 (X := tl fs A (cm fs A B)) (c := 120 + fvr A B) ho hl oB (by omega) lB
    refine s_putVariable (A := A) (T := A) hc (by unfold z_tm; omega) (by unfold z_tm; omega) (by omega) (by omega) hA hA lA lA cb fb (fun μ1 f1 s1 r1 => ?_)
    have f1' : ∀ a k, ¬ (6 * (c' - 187) + 1 ≤ a ∧ a ≤ 6 * (c' - 187) + 6) → μ1 a k = μ a k := fun a k q => f1 a k (by omega) (by omega)
    refine s_putVariable (A := A) (T := B) hc (by unfold z_tm; omega) (by unfold z_tm; omega) (by omega) (by omega) (Tm_of hA (fun a k p1 p2 => f1' a k (by omega))) (Tm_of hB (fun a k p1 p2 => f1' a k (by omega))) lA lB cb fb (fun μ2 f2 s2 r2 => ?_)
    generalize pv fs (tl fs A (cm fs A B)) A (120 + fvr A B) 40 0 = PA at *
    generalize pv fs (tl fs A (cm fs A B)) B (120 + fvr A B) 40 0 = PB at *
    have f2' : ∀ a k, ¬ (6 * (c' - 187) + 1 ≤ a ∧ a ≤ 6 * (c' - 187) + 6) → μ2 a k = μ a k := fun a k q => (f2 a k (by omega) (by omega)).trans (f1' a k q)
    have hF2 : CF μ2 fs := hF.fr (fun a ha k => f2' _ _ (by omega)) (f2' _ _ (by omega))
    refine s_close (T := PA) ho hF2 (by unfold z_tm; omega) ((f2 _ _ (by omega) (by omega)).trans s1) (r1.ex (fun k _ _ => f2 _ _ (by omega) (by omega))) (by omega) (fun k q1 q2 => cv_bd hl p1.1.2 q1 q2) (fun μ3 f3 t3 => ?_)
    have f3' : ∀ a k, ¬ (6 * (c' - 187) + 1 ≤ a ∧ a ≤ 6 * (c' - 187) + 6) → μ3 a k = μ a k := fun a k q => (f3 a k (by omega)).trans (f2' a k q)
    refine s_close (T := PB) ho (hF.fr (fun a ha k => f3' _ _ (by omega)) (f3' _ _ (by omega))) (by unfold z_tm; omega) ((f3 _ _ (by omega)).trans s2) (r2.ex (fun k _ _ => f3 _ _ (by omega))) (by omega) (fun k q1 q2 => cv_bd hl p2.1.2 q1 q2) (fun μ4 f4 t4 => ?_)
    exact h μ4 (fun a k q => (f4 a k (by omega)).trans (f3' a k q)) (Tm_of t3 (fun a k q1 q2 => f4 a k (by omega))) t4
/-! the reference -/
def frg (a k : Int) : Prop := (a = 248 ∧ (k = 37 ∨ k = 38)) ∨ (a = 249 ∧ 2816 ≤ k ∧ k < 3072) ∨ (a = 250 ∧ 22 ≤ k ∧ k ≤ 23)
theorem s_generalizes {fs : List Fn} {s s' d j c : Int} {A T : List Int} {μ : ZM} {K : ZM → Prop} (ho : okF fs) (hs : 0 ≤ s ∧ s < 44) (hs' : 0 ≤ s' ∧ s' < 44) (hd : 0 ≤ d ∧ d < 44) (hne : s ≠ d) (hne' : s' ≠ d) (hS : Sl μ s T) (hS' : Sl μ s' A) (hA : okT fs A) (lA : A.length ≤ 40) (lT : T.length ≤ 40) (hj : 0 ≤ j ∧ j < (A.length : Int)) (h37 : μ 248 37 = j) (h38 : μ 248 38 = en fs A j - j) (h : ∀ μ', (∀ a k, ¬ (a = 249 ∧ 128 * d ≤ k ∧ k < 128 * d + 128) → ¬ (a = 250 ∧ k = d) → μ' a k = μ a k) → Sl μ' d (pv fs (tl fs A j) T c 40 0) → K μ') : P_X12_generalizes s s' c d μ K := by
  have bj := en_bd (fs := fs) hj
  refine ⟨hd, ?_⟩
  show P_X12_generalizes_11 s s' c d 0 (z_upd μ 250 d 0) K
  refine z_lf1_ind (fun i μ' => ∃ (acc : List Int) (n : Nat), 0 ≤ i ∧ i ≤ (T.length : Int) ∧ (T.length : Int) - i ≤ (n : Int) ∧ acc ++ pv fs (tl fs A j) T c n i = pv fs (tl fs A j) T c 40 0 ∧ (acc.length : Int) ≤ i ∧ Sl μ' d acc ∧ ∀ a k, ¬ (a = 249 ∧ 128 * d ≤ k ∧ k < 128 * d + 128) → ¬ (a = 250 ∧ k = d) → μ' a k = μ a k) (fun i _ => ((T.length : Int) - i).toNat) ?_ 0 _ ⟨[], 40, by omega, by omega, by omega, by rw [List.nil_append], by simp, ⟨zu_s, fun k p1 p2 => absurd p2 (by simp; omega)⟩, fun a k _ q => zu_f q⟩
  intro i μ' G ⟨acc, n, a1, a2, a5, a6, a7, a8, a10⟩ hG
  have hT1 : Sl μ' s T := hS.ex (a10 _ _ (by omega) (by omega)) (fun _ _ _ => a10 _ _ (by omega) (by omega))
  have hA1 : Sl μ' s' A := hS'.ex (a10 _ _ (by omega) (by omega)) (fun _ _ _ => a10 _ _ (by omega) (by omega))
  rw [hT1.1, show μ' 248 38 = en fs A j - j from (a10 _ _ (by omega) (by omega)).trans h38, show μ' 248 37 = j from (a10 _ _ (by omega) (by omega)).trans h37]
  refine ⟨hs, ifb (fun g => ?_) (fun g => ?_)⟩
  · rw [pv_end (by omega), List.append_nil] at a6
    refine h μ' a10 ?_
    rw [← a6]; exact a8
  · have hi : 0 ≤ i ∧ i < (T.length : Int) := ⟨a1, by omega⟩
    have bd := en_bd (fs := fs) hi
    rw [pv_s (by omega) (by omega)] at a6
    have key := tl_eq (fs := fs) (A := T) (B := A) a1 hj.1
    have go : ∀ (x ni : Int) (μ2 : ZM), (∀ a k, ¬ (a = 249 ∧ 128 * d ≤ k ∧ k < 128 * d + 128) → ¬ (a = 250 ∧ k = d) → μ2 a k = μ' a k) → Sl μ2 d (acc ++ [x]) → i < ni → ni ≤ (T.length : Int) → acc ++ (x :: pv fs (tl fs A j) T c (n - 1) ni) = pv fs (tl fs A j) T c 40 0 → zin ni ∧ G ni μ2 := by
      intro x ni μ2 q1 q2 q4 q5 q6
      refine ⟨⟨by omega, by omega⟩, hG _ _ ⟨acc ++ [x], n - 1, by omega, by omega, by omega, ?_, by simp; omega, q2, fun a k p1 p2 => (q1 a k p1 p2).trans (a10 a k p1 p2)⟩ (by omega)⟩
      rw [List.append_assoc]
      exact q6
    have no : tl fs T i ≠ tl fs A j → P_X12_generalizes_61 G s s' c d i μ' K := by
      intro q
      rw [if_neg q] at a6
      unfold P_X12_generalizes_61 P_X12_generalizes_62
      rw [if_pos rfl]
      refine s_atT hs hT1 (by omega) hi (s_puts hd a8 (by omega) (fun μ2 f1 f2 => ?_))
      rw [if_pos rfl]
      exact go (gt T i) (i + 1) μ2 (fun a k p1 p2 => f1 a k (by omega) p2) f2 (by omega) (by omega) a6
    refine ⟨⟨by omega, by omega⟩, hs, ifb (fun g1 => no (fun q => by have := (key.mp q).1; omega)) (fun g1 => ?_)⟩
    have k2 := tl_of (B := T) (j := i) ho hA hj a1 (by omega)
    refine s_isSamePart hs hs' hT1 hA1 (by omega) (by omega) ⟨a1, by omega⟩ ⟨hj.1, by omega⟩ (fun q => if1 ?_) (fun q => if0 (no (fun y => q (k2.mpr y))))
    have et := k2.mp q
    rw [if_pos et] at a6
    have e2 := (key.mp et).1
    unfold P_X12_generalizes_62
    rw [if_neg (by decide)]
    refine s_puts hd a8 (by omega) (fun μ2 f1 f2 => ?_)
    rw [if_neg (by decide), show μ2 248 38 = en fs A j - j from (f1 _ _ (by omega) (by omega)).trans ((a10 _ _ (by omega) (by omega)).trans h38)]
    have := go c (i + (en fs A j - j)) μ2 (fun a k p1 p2 => f1 a k (by omega) p2) f2 (by omega) (by omega) (by rw [show i + (en fs A j - j) = en fs T i by omega]; exact a6)
    exact this
theorem s_makesGeneral {fs : List Fn} {s s' : Int} {A B : List Int} {μ : ZM} {K : Int → ZM → Prop} (ho : okF fs) (hF : MF μ fs) (hs : 0 ≤ s ∧ s < 22) (hs' : 0 ≤ s' ∧ s' < 22) (hS : Sl μ s A) (hS' : Sl μ s' B) (hA : okT fs A) (lA : A.length ≤ 40) (lB : B.length ≤ 40) (h : ∀ μ', (∀ a k, ¬ frg a k → μ' a k = μ a k) → Sl μ' 22 (gz fs A B).2.1 → Sl μ' 23 (gz fs A B).2.2 → K (gz fs A B).1 μ') : P_X12_makesGeneral s s' μ K := by
  have same : (cm fs A B = -9 ∨ fvr A B = -9) → ∀ μ1 : ZM, (∀ a k, ¬ (a = 248 ∧ (k = 37 ∨ k = 38)) → μ1 a k = μ a k) → P_X12_makesGeneral_51 s s' μ1 K := by
    intro q μ1 f1
    unfold gz at h
    rw [if_pos q] at h
    refine s_copies (s := s) (d := 22) (by omega) (by omega) (by omega) (hS.ex (f1 _ _ (by omega)) (fun _ _ _ => f1 _ _ (by omega))) (by omega) (fun μ2 f2 t2 => s_copies (s := s') (d := 23) (by omega) (by omega) (by omega) (hS'.ex ((f2 _ _ (by omega) (by omega)).trans (f1 _ _ (by omega))) (fun _ _ _ => (f2 _ _ (by omega) (by omega)).trans (f1 _ _ (by omega)))) (by omega) (fun μ3 f3 t3 => h μ3 (fun a k y => ?_) (t2.ex (f3 _ _ (by omega) (by omega)) (fun _ _ _ => f3 _ _ (by omega) (by omega))) t3))
    unfold frg at y
    rw [f3 a k (by omega) (by omega), f2 a k (by omega) (by omega)]; exact f1 a k (by omega)
  refine z_lf1_ind (fun v μ' => μ' = μ ∧ 0 ≤ v ∧ v ≤ 3 ∧ ∀ w, 0 ≤ w → w < v → iv A B w) (fun v _ => (3 - v).toNat) ?_ 0 μ ⟨rfl, by omega, by omega, fun w p1 p2 => absurd p2 (by omega)⟩
  intro v μ' G ⟨e1, e2, e3, e4⟩ hG
  subst e1
  have next : iv A B v → v < 3 → P_X12_makesGeneral_31 G s s' v μ' K := by
    intro q q3
    refine ⟨⟨by omega, by omega⟩, hG _ _ ⟨rfl, by omega, by omega, fun w p1 p2 => ?_⟩ (by omega)⟩
    by_cases ew : w = v
    · rw [ew]; exact q
    · exact e4 w p1 (by omega)
  have main : (v = 3 ∨ ¬ iv A B v) → P_X12_makesGeneral_37 s s' v μ' K := by
    intro q
    refine ifb (fun g => same (Or.inr (fvr_none (fun w p1 p2 => e4 w p1 (by omega)))) μ' (fun _ _ _ => rfl)) (fun g => ?_)
    have ef : fvr A B = v := fvr_first ⟨e2, by omega⟩ e4 (q.resolve_left g)
    refine s_findCommon ho hF (by omega) (by omega) hS hS' hA lA lB (fun y μ1 f1 => if0 (same (Or.inl y) μ1 f1)) (fun y μ1 f1 v1 v2 v3 v4 => if1 ⟨⟨by omega, by omega⟩, ?_⟩)
    unfold gz at h
    rw [if_neg (fun z => z.elim y (fun z => by omega)), ef] at h
    dsimp only at h
    refine s_generalizes (A := A) (T := A) ho (by omega) (by omega) (by omega) (by omega) (by omega) (hS.ex (f1 _ _ (by omega)) (fun _ _ _ => f1 _ _ (by omega))) (hS.ex (f1 _ _ (by omega)) (fun _ _ _ => f1 _ _ (by omega))) hA lA lA ⟨v3, v4⟩ v1 v2 (fun μ2 f2 t2 => ⟨⟨by omega, by omega⟩, ?_⟩)
    have f2' : ∀ a k, ¬ frg a k → μ2 a k = μ' a k := fun a k z => by
      unfold frg at z
      rw [f2 a k (by omega) (by omega)]; exact f1 a k (by omega)
    refine s_generalizes (A := A) (T := B) ho (by omega) (by omega) (by omega) (by omega) (by omega) (hS'.ex (f2' _ _ (by unfold frg; omega)) (fun _ _ _ => f2' _ _ (by unfold frg; omega))) (hS.ex (f2' _ _ (by unfold frg; omega)) (fun _ _ _ => f2' _ _ (by unfold frg; omega))) hA lA lB ⟨v3, v4⟩ ((f2 _ _ (by omega) (by omega)).trans v1) ((f2 _ _ (by omega) (by omega)).trans v2) (fun μ3 f3 t3 => ?_)
    have lp := pv_len (fs := fs) (X := tl fs A (cm fs A B)) (T := A) (c := 120 + v) 40 0 (by omega) (by omega)
    refine h μ3 (fun a k z => (f3 a k (by unfold frg at z; omega) (by unfold frg at z; omega)).trans (f2' a k z)) (t2.ex (f3 _ _ (by omega) (by omega)) (fun k p1 p2 => f3 _ _ (by omega) (by omega))) t3
  refine ifb (fun g => main (Or.inl (by omega))) (fun g => ⟨⟨by omega, by omega⟩, s_hasSign (by omega) hS lA (fun q => if1 (next (Or.inl q) (by omega))) (fun q => if0 ⟨⟨by omega, by omega⟩, s_hasSign (by omega) hS' lB (fun p => if1 (next (Or.inr p) (by omega))) (fun p => if0 (main (Or.inr (fun y => y.elim q p))))⟩)⟩)
theorem op_general {x1 x2 : Int} {μ : ZM} (hI : Inv μ) {K : Int → ZM → Prop} (hK : ∀ r μ1, Ans (P_X12_general x1 x2 μ1) r → K r μ1) : P_X11_general x1 x2 μ K := by
  have hI0 := hI
  obtain ⟨tp, fs, cl, ls, nt, cs, hc, hm, ho⟩ := hI
  obtain ⟨c1, c2, c3, c4, c5, c6, c7⟩ := id hc
  have key : ∀ r : Int, (∀ K' : Int → ZM → Prop, K' r μ → P_X12_general x1 x2 μ K') → K r μ := fun r h => hK _ _ (Ans.same hI0 h)
  have mid : ∀ (μ1 : ZM) (K' : Int → ZM → Prop), 0 ≤ x1 ∧ x1 ≤ 1 → (x2 = -9 ∨ (0 ≤ x2 ∧ x2 < 20)) → P_X12_general_28 x1 x2 μ1 K' → P_X12_general x1 x2 μ1 K' := fun μ1 K' g1 g2 h => s_wi (fun _ => if1 (ifb (fun _ => h) (fun g => s_wi (fun _ => if1 h) (fun y => absurd (by omega) y)))) (fun y => absurd g1 y)
  refine s_out (fun h => if1 (key _ (fun K' h' => s_wi (fun g => absurd g (by omega)) (fun _ => if0 h')))) (fun h => if0 (s_nop (by omega) (fun h1 => if1 (key _ (fun K' h' => s_wi (fun _ => if1 (ifb (fun g => absurd g (by omega)) (fun _ => s_wi (fun y => absurd y (by omega)) (fun _ => if0 h')))) (fun g => absurd h g)))) (fun h1 => if0 ?_)))
  cases cl with
  | none =>
    have e1 : μ 206 11 = 0 := c3
    have e2 : μ 248 9 = 0 := hm.2.2.1
    rw [if_pos e1]
    refine key _ (fun K' h' => mid _ _ h h1 ?_)
    unfold P_X12_general_28
    rw [if_pos e2]; exact h'
  | some q =>
    obtain ⟨e1, t1, t2⟩ := id c3
    obtain ⟨o1, o2, l1, l2⟩ := ho.2.1 q rfl
    have og := gz_ok (m := 20) ho.1 c2.2.1 o1 o2 l1 l2 (by omega)
    rw [if_neg (by omega)]
    refine s_generalize ho.1 c2 (by decide) (by decide) (by decide) t1 t2 o1 o2 (by omega) (by omega) (fun μ1 f1 s1 s2 => ?_)
    have og1 := gs_ok (w := x1) (q := (gz fs q.1 q.2).2) og
    have tm := gs_C (q := (gz fs q.1 q.2).2) (c := 205) h s1 s2
    refine s_part (by decide) h ⟨by unfold z_tm; omega, s_sym (T := gs (gz fs q.1 q.2).2 x1) (by unfold z_tm; omega) tm.1 tm.2.1 (by omega) ?_⟩
    obtain ⟨hc1, hm1⟩ := hc.sc hm (fun a k y => f1 a k (by unfold oC at y; omega))
    refine hK _ _ (fun K' hK' => mid _ _ h h1 ?_)
    obtain ⟨y1, y2, y3⟩ := hm1.2.2.1
    unfold P_X12_general_28
    rw [if_neg (by omega)]
    refine s_makesGeneral ho.1 hm1.2.1 (by omega) (by omega) y2 y3 o1 (by omega) (by omega) (fun μ2 f2 w1 w2 => ⟨⟨by omega, by omega⟩, s_told (T := gs (gz fs q.1 q.2).2 x1) (by omega) (gs_M h w1 w2) (by omega) (by omega) ?_⟩)
    exact hK' μ2 (Inv.sc hc1 hm1 ho (fun a k y => f2 a k (by unfold oM at y; unfold frg; omega)))
