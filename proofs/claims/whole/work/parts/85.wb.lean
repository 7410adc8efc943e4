/-! ===== attempts: the class's pieces ===== -/
def scC (a k : Int) : Prop := (181 ≤ a ∧ a ≤ 186) ∨ (215 ≤ a ∧ a ≤ 222) ∨ (223 ≤ a ∧ a ≤ 226 ∧ 4 ≤ k) ∨ (227 ≤ a ∧ a ≤ 237)
def EnC (μ : ZM) (fs : List Fn) (ls : Ls) (nt : Nt) : Prop := CF μ fs ∧ CZ μ ∧ CL μ fs ls ∧ CN μ nt
theorem EnC.sc {μ μ' : ZM} {fs : List Fn} {ls : Ls} {nt : Nt} (h : EnC μ fs ls nt) (e : ∀ a k, ¬ scC a k → ¬ (49 ≤ a ∧ a ≤ 102) → μ' a k = μ a k) : EnC μ' fs ls nt := by
  obtain ⟨h1, h2, h3, h4⟩ := h
  exact ⟨h1.fr (fun a ha k => e _ _ (by unfold scC; omega) (by omega)) (e _ _ (by unfold scC; omega) (by omega)), h2.fr (fun a k p1 p2 => e _ _ (by unfold scC; omega) (by omega)), h3.fr (fun a ha k => e _ _ (by unfold scC; omega) (by omega)) (e _ _ (by unfold scC; omega) (by omega)), h4.fr (e _ _ (by unfold scC; omega) (by omega)) (fun k => e _ _ (by unfold scC; omega) (by omega)) (fun k => e _ _ (by unfold scC; omega) (by omega))⟩
def Q2 (μ : ZM) (fs : List Fn) (c : Int) (q : Cm) : Prop := Tm μ fs (6 * (c - 187) + 1) q.1 ∧ Tm μ fs (6 * (c - 187) + 4) q.2
theorem Q2.ex {μ μ' : ZM} {fs : List Fn} {c : Int} {q : Cm} (h : Q2 μ fs c q) (e : ∀ a k, 6 * (c - 187) + 1 ≤ a → a ≤ 6 * (c - 187) + 6 → μ' a k = μ a k) : Q2 μ' fs c q := ⟨Tm_of h.1 (fun a k p1 p2 => e a k (by omega) (by omega)), Tm_of h.2 (fun a k p1 p2 => e a k (by omega) (by omega))⟩
theorem s_norm8 {fs : List Fn} {c c' v k o : Int} {q : Cm} {μ : ZM} {K : Int → ZM → Prop} (ho : okF fs) (hF : CF μ fs) (hZ : CZ μ) (hc : z_cm c) (hc' : z_cm c') (hc2 : 195 ≤ c' ∧ c' ≤ 203) (hcc : c = c' ∨ ¬ c = c') (hQ : Q2 μ fs c q) (hq : okQ fs q) (hp : okP v k) (h0 : nm2 fs (sb2 v k o q) = none → ∀ μ', (∀ a x, ¬ scC a x → ¬ (6 * (c' - 187) + 1 ≤ a ∧ a ≤ 6 * (c' - 187) + 6) → μ' a x = μ a x) → K 0 μ') (h1 : ∀ G, nm2 fs (sb2 v k o q) = some G → ∀ μ', (∀ a x, ¬ scC a x → ¬ (6 * (c' - 187) + 1 ≤ a ∧ a ≤ 6 * (c' - 187) + 6) → μ' a x = μ a x) → Q2 μ' fs c' G → K 1 μ') : P_X8_normalize c c' v k o μ K := by
  have b := hc
  have b' := hc'
  unfold z_cm at b b'
  have toS : ∀ a x, ¬ scC a x → ¬ nvc a x := fun a x y => by unfold scC at y; unfold nvc; omega
  unfold nm2 sb2 at h0 h1
  dsimp only at h0 h1
  refine ⟨hc, hc', s_rewrite (T := q.1) ho hF hZ (by unfold z_tm; omega) (by unfold z_tm; omega) (by omega) ⟨hQ.1.1, hQ.1.2.1⟩ hq.1 hq.2.2.1 hp (fun hn μ1 f1 => if0 ⟨Or.inl rfl, h0 (by rw [hn]) μ1 (fun a x y1 y2 => f1 a x (toS a x y1) (by omega) (by omega) (by omega))⟩) (fun V hn μ1 f1 t1 => if1 ?_)⟩
  rw [hn] at h0 h1
  dsimp only at h0 h1
  have f1' : ∀ a x, ¬ scC a x → ¬ (6 * (c' - 187) + 1 ≤ a ∧ a ≤ 6 * (c' - 187) + 6) → μ1 a x = μ a x := fun a x y1 y2 => f1 a x (toS a x y1) (by omega) (by omega) (by omega)
  have hB1 : Tm μ1 fs (6 * (c - 187) + 4) q.2 := Tm_of hQ.2 (fun a x p1 p2 => f1 a x (by unfold nvc; omega) (by omega) (by omega) (by omega))
  refine s_rewrite (T := q.2) ho (hF.fr (fun a ha k => f1' _ _ (by unfold scC; omega) (by omega)) (f1' _ _ (by unfold scC; omega) (by omega))) (hZ.fr (fun a k p1 p2 => f1' _ _ (by unfold scC; omega) (by omega))) (by unfold z_tm; omega) (by unfold z_tm; omega) (by omega) ⟨hB1.1, hB1.2.1⟩ hq.2.1 hq.2.2.2 hp (fun hn2 μ2 f2 => if0 ⟨Or.inl rfl, h0 (by rw [hn2]) μ2 (fun a x y1 y2 => (f2 a x (toS a x y1) (by omega) (by omega) (by omega)).trans (f1' a x y1 y2))⟩) (fun W hn2 μ2 f2 t2 => if1 ⟨Or.inr rfl, h1 (V, W) (by rw [hn2]) μ2 (fun a x y1 y2 => (f2 a x (toS a x y1) (by omega) (by omega) (by omega)).trans (f1' a x y1 y2)) ⟨Tm_of t1 (fun a x p1 p2 => f2 a x (by unfold nvc; omega) (by omega) (by omega) (by omega)), t2⟩⟩)
theorem tl_0 {fs : List Fn} {A : List Int} (h : okT fs A) : tl fs A 0 = A := by
  unfold tl
  show A.take (fe fs 1 A).toNat = A
  rw [fe_all A 1 h.1]
  exact List.take_of_length_le (by omega)
theorem s_isSame10 {fs : List Fn} {t t' : Int} {A B : List Int} {μ : ZM} {K : Int → ZM → Prop} (ht : z_tm t) (ht' : z_tm t') (hT : Tm μ fs t A) (hT' : Tm μ fs t' B) (hA : okT fs A) (hB : okT fs B) (lA : A.length ≤ 40) (lB : B.length ≤ 40) (h1 : A = B → K 1 μ) (h0 : A ≠ B → K 0 μ) : P_X10_isSame t t' μ K := by
  have a1 := okT_1 hA
  have b1 := okT_1 hB
  unfold P_X10_isSame
  rw [hT.1, hT'.1]
  refine ⟨ht, ht', ifb (fun g => s_isSameAt ht ht' hT hT' lA lB ⟨by omega, by omega⟩ ⟨by omega, by omega⟩ (fun q => if1 ⟨Or.inr rfl, h1 ?_⟩) (fun q => if0 ⟨Or.inl rfl, h0 (fun y => q ?_)⟩)) (fun g => ⟨Or.inl rfl, h0 (fun y => g (by rw [y]))⟩)⟩
  · rw [tl_0 hA, tl_0 hB] at q; exact q
  · rw [y]
theorem s_trivial {fs : List Fn} {c : Int} {q : Cm} {μ : ZM} {K : Int → ZM → Prop} (hc : z_cm c) (hQ : Q2 μ fs c q) (hq : okQ fs q) (h1 : q.1 = q.2 → K 1 μ) (h0 : q.1 ≠ q.2 → K 0 μ) : P_X0_isTrivial c μ K := by
  have b := hc
  unfold z_cm at b
  exact ⟨hc, s_isSame10 (by unfold z_tm; omega) (by unfold z_tm; omega) hQ.1 hQ.2 hq.1 hq.2.1 hq.2.2.1 hq.2.2.2 (fun y => ⟨Or.inr rfl, h1 y⟩) (fun y => ⟨Or.inl rfl, h0 y⟩)⟩
theorem gl_app {ls : Ls} {q : Cm} {k : Int} (h : 0 ≤ k) : gl (ls ++ [q]) k = if k = (ls.length : Int) then q else gl ls k := by
  unfold gl
  rw [List.getD_eq_getElem?_getD, List.getD_eq_getElem?_getD]
  by_cases g : k = (ls.length : Int)
  · rw [if_pos g, List.getElem?_append_right (by omega), show k.toNat - ls.length = 0 by omega]; rfl
  · rw [if_neg g]
    by_cases g1 : k < (ls.length : Int)
    · rw [List.getElem?_append_left (by omega)]
    · rw [List.getElem?_eq_none (by simp; omega), List.getElem?_eq_none (by omega)]
theorem mem_gl {ls : Ls} {q : Cm} : q ∈ ls ↔ ∃ k : Int, 0 ≤ k ∧ k < (ls.length : Int) ∧ gl ls k = q := by
  constructor
  · intro h
    obtain ⟨n, hn, e⟩ := List.getElem_of_mem h
    refine ⟨(n : Int), by omega, by omega, ?_⟩
    unfold gl
    rw [List.getD_eq_getElem?_getD, Int.toNat_natCast, List.getElem?_eq_getElem hn]
    exact e
  · intro ⟨k, h1, h2, h3⟩
    rw [← h3]; exact gl_mem h1 h2
theorem s_keep {fs : List Fn} {ls : Ls} {c : Int} {q : Cm} {μ : ZM} {K : ZM → Prop} (hc : z_cm c) (hc2 : 195 ≤ c ∧ c ≤ 203) (hCL : CL μ fs ls) (hL : okL fs ls) (hQ : Q2 μ fs c q) (hq : okQ fs q) (h : ∀ μ', (∀ a k, ¬ (1 ≤ a ∧ a ≤ 48) → a ≠ 238 → μ' a k = μ a k) → CL μ' fs (kp ls q) → K μ') : P_X4_keep c μ K := by
  have b := hc
  unfold z_cm at b
  have same : (q.1 = q.2 ∨ 8 ≤ ls.length ∨ q ∈ ls) → K μ := by
    intro y
    refine h μ (fun _ _ _ _ => rfl) ?_
    unfold kp; rw [if_pos y]; exact hCL
  have l8 := hL.1
  refine ⟨hc, s_trivial hc hQ hq (fun y => if1 (same (Or.inl y))) (fun y => if0 ?_)⟩
  rw [hCL.1]
  refine ifb (fun g => absurd g (by omega)) (fun _ => ifb (fun g => ?_) (fun g => same (Or.inr (Or.inl (by omega)))))
  refine z_lf1_ind (fun k μ' => μ' = μ ∧ 0 ≤ k ∧ k ≤ (ls.length : Int) ∧ ∀ j : Int, 0 ≤ j → j < k → gl ls j ≠ q) (fun k _ => ((ls.length : Int) - k).toNat) ?_ 0 μ ⟨rfl, by omega, by omega, fun j p1 p2 => absurd p2 (by omega)⟩
  intro k μ' G ⟨e1, e2, e3, e4⟩ hG
  subst e1
  rw [hCL.1]
  refine ifb (fun g1 => ⟨by omega, ?_⟩) (fun g1 => ⟨by omega, ?_⟩)
  · have nin : ¬ (q.1 = q.2 ∨ 8 ≤ ls.length ∨ q ∈ ls) := by
      intro w
      rcases w with w | w | w
      · exact y w
      · omega
      · obtain ⟨j, j1, j2, j3⟩ := mem_gl.mp w
        exact e4 j j1 (by omega) j3
    refine s_copy0 (by unfold z_cm; omega) hc (by omega) hQ.1 hQ.2 hq.2.2.1 hq.2.2.2 (fun μ1 f1 t1 t2 => ?_)
    rw [show 187 + 1 * (ls.length : Int) - 187 = (ls.length : Int) by omega] at f1 t1 t2
    rw [show μ1 238 1 = (ls.length : Int) from (f1 _ _ (by omega)).trans hCL.1]
    refine ⟨⟨by omega, by omega⟩, h _ (fun a x p1 p2 => ?_) ?_⟩
    · rw [zu_n p2]; exact f1 a x (by omega)
    · unfold kp
      rw [if_neg nin]
      refine ⟨by rw [zu_s]; simp, by simp; omega, fun j p1 p2 => ?_⟩
      rw [gl_app p1]
      by_cases ej : j = (ls.length : Int)
      · rw [if_pos ej, ej]
        exact ⟨Tm_of t1 (fun a x w1 w2 => zu_n (by omega)), Tm_of t2 (fun a x w1 w2 => zu_n (by omega))⟩
      · rw [if_neg ej]
        have hj2 : j < (ls.length : Int) := by simp at p2; omega
        obtain ⟨w1, w2⟩ := hCL.2.2 j p1 hj2
        exact ⟨Tm_of w1 (fun a x z1 z2 => (zu_n (by omega)).trans (f1 _ _ (by omega))), Tm_of w2 (fun a x z1 z2 => (zu_n (by omega)).trans (f1 _ _ (by omega)))⟩
  · obtain ⟨w1, w2⟩ := hCL.2.2 k e2 (by omega)
    have oq := hL.2 _ (gl_mem e2 (show k < (ls.length : Int) by omega))
    have next : gl ls k ≠ q → zin (k + 1) ∧ G (k + 1) μ' := by
      intro z
      refine ⟨⟨by omega, by omega⟩, hG _ _ ⟨rfl, by omega, by omega, fun j p1 p2 => ?_⟩ (by omega)⟩
      by_cases ej : j = k
      · rw [ej]; exact z
      · exact e4 j p1 (by omega)
    refine ⟨by unfold z_cm; omega, hc, ?_⟩
    rw [show 187 + 1 * k - 187 = k by omega]
    refine s_isSame10 (by unfold z_tm; omega) (by unfold z_tm; omega) w1 hQ.1 oq.1 hq.1 oq.2.2.1 hq.2.2.1 (fun z => if1 (s_isSame10 (by unfold z_tm; omega) (by unfold z_tm; omega) w2 hQ.2 oq.2.1 hq.2.1 oq.2.2.2 hq.2.2.2 (fun z2 => if1 ⟨Or.inr rfl, if1 (same (Or.inr (Or.inr ?_)))⟩) (fun z2 => if0 ⟨Or.inl rfl, if0 (next (fun w => z2 (by rw [w])))⟩))) (fun z => if0 ⟨Or.inl rfl, if0 (next (fun w => z (by rw [w])))⟩)
    have : gl ls k = q := Prod.ext z z2
    rw [← this]; exact gl_mem e2 (by omega)
/-- first match -/
theorem s_firstMatch {fs : List Fn} {t t' fx : Int} {P A : List Int} {μ : ZM} {K : Int → ZM → Prop} (ht : z_tm t) (ht' : z_tm t') (hT : Tm μ fs t P) (hT' : Tm μ fs t' A) (lP : P.length ≤ 40) (lA : A.length ≤ 40) (hcP : ∀ c ∈ P, 0 ≤ c ∧ c ≤ 122) (h0 : fm fs P A fx A.length 0 = none → ∀ μ', (∀ a k, a ≠ 237 → μ' a k = μ a k) → K (-9) μ') (h1 : ∀ i b, fm fs P A fx A.length 0 = some (i, b) → ∀ μ', (∀ a k, a ≠ 237 → μ' a k = μ a k) → (∀ v : Int, 0 ≤ v → v ≤ 2 → μ' 237 v = b v) → K i μ') : P_X5_firstMatch t t' fx μ K := by
  have b1 := ht
  have b2 := ht'
  unfold z_tm at b1 b2
  generalize hR : fm fs P A fx A.length 0 = R at *
  refine ⟨ht, ht', ?_⟩
  refine z_lf1_ind (fun i μ' => 0 ≤ i ∧ i ≤ (A.length : Int) ∧ (∀ a k, a ≠ 237 → μ' a k = μ a k) ∧ fm fs P A fx ((A.length : Int) - i).toNat i = R) (fun i _ => ((A.length : Int) - i).toNat) ?_ 0 μ ⟨by omega, by omega, fun _ _ _ => rfl, by rw [← hR]; congr 1⟩
  intro i μ' G ⟨e1, e2, e3, e4⟩ hG
  rw [show μ' t' 2 = (A.length : Int) from (e3 _ _ (by omega)).trans hT'.1]
  refine ifb (fun g => h0 ?_ μ' e3) (fun g => ?_)
  · rw [← e4, show ((A.length : Int) - i).toNat = 0 by omega]; rfl
  · rw [show ((A.length : Int) - i).toNat = ((A.length : Int) - (i + 1)).toNat + 1 by omega] at e4
    unfold fm at e4
    refine s_matchesC ht ht' (Tm_of hT (fun a k p1 p2 => e3 _ _ (by omega))) (Tm_of hT' (fun a k p1 p2 => e3 _ _ (by omega))) lP lA hcP ⟨e1, by omega⟩ (fun hm μ2 f2 => if0 ⟨⟨by omega, by omega⟩, hG _ _ ⟨by omega, by omega, fun a k y => (f2 a k y).trans (e3 a k y), ?_⟩ (by omega)⟩) (fun b hm μ2 f2 hb => if1 (h1 i b ?_ μ2 (fun a k y => (f2 a k y).trans (e3 a k y)) hb))
    · rw [hm] at e4; exact e4
    · rw [hm] at e4; exact e4.symm
