/-! ===== attempts: the reference's pieces ===== -/
def scM (a k : Int) : Prop := (a = 248 ∧ (k = 15 ∨ k = 16 ∨ k = 22 ∨ k = 25 ∨ k = 26 ∨ (28 ≤ k ∧ k ≤ 30) ∨ (36 ≤ k ∧ k ≤ 38))) ∨ (257 ≤ a ∧ a ≤ 269) ∨ (a = 249 ∧ 2560 ≤ k ∧ k < 3584) ∨ (a = 250 ∧ 20 ≤ k ∧ k < 28)
def EnM (μ : ZM) (fs : List Fn) (ls : Ls) (nt : Nt) : Prop := MF μ fs ∧ ML μ ls ∧ MN μ nt
/-- what may change without touching functions, lemmas, notes -/
def loM (a k : Int) : Prop := scM a k ∨ (a = 249 ∧ 256 ≤ k ∧ k < 2560) ∨ (a = 250 ∧ 2 ≤ k ∧ k < 20) ∨ (a = 248 ∧ 43 ≤ k ∧ k ≤ 46) ∨ (272 ≤ a ∧ a ≤ 274)
theorem EnM.lo {μ μ' : ZM} {fs : List Fn} {ls : Ls} {nt : Nt} (h : EnM μ fs ls nt) (e : ∀ a k, ¬ loM a k → μ' a k = μ a k) : EnM μ' fs ls nt := by
  obtain ⟨h1, h2, h3⟩ := h
  exact ⟨h1.fr (fun a ha k => e _ _ (by unfold loM scM; omega)) (e _ _ (by unfold loM scM; omega)), h2.fr (e _ _ (by unfold loM scM; omega)) (fun k hk => e _ _ (by unfold loM scM; omega)) (fun k hk => e _ _ (by unfold loM scM; omega)), h3.fr (e _ _ (by unfold loM scM; omega)) (fun k => e _ _ (by unfold loM scM; omega)) (fun k => e _ _ (by unfold loM scM; omega))⟩
def S2 (μ : ZM) (s : Int) (q : Cm) : Prop := Sl μ s q.1 ∧ Sl μ (s + 1) q.2
/-- cells of two slots -/
def s2c (s a k : Int) : Prop := (a = 249 ∧ 128 * s ≤ k ∧ k < 128 * s + 256) ∨ (a = 250 ∧ s ≤ k ∧ k ≤ s + 1)
theorem S2.ex {μ μ' : ZM} {s : Int} {q : Cm} (h : S2 μ s q) (hl : q.1.length ≤ 128 ∧ q.2.length ≤ 128) (e : ∀ a k, s2c s a k → μ' a k = μ a k) : S2 μ' s q := ⟨h.1.ex (e _ _ (by unfold s2c; omega)) (fun i p1 p2 => e _ _ (by unfold s2c; omega)), h.2.ex (e _ _ (by unfold s2c; omega)) (fun i p1 p2 => e _ _ (by unfold s2c; omega))⟩
theorem okQ_128 {fs : List Fn} {q : Cm} (h : okQ fs q) : q.1.length ≤ 128 ∧ q.2.length ≤ 128 := ⟨by have := h.2.2.1; omega, by have := h.2.2.2; omega⟩
theorem s_slot {w x L : Int} {μ : ZM} {K : Int → ZM → Prop} (h46 : μ 248 46 = L) (hL : 0 ≤ L ∧ L ≤ 3) (hw : 0 ≤ w ∧ w ≤ 10) (hx : 0 ≤ x ∧ x ≤ 1) (h : K (6 * L + w + x) μ) : P_X12_slotOf w x μ K := by
  unfold P_X12_slotOf
  rw [h46]
  exact ⟨⟨by omega, by omega⟩, ⟨by omega, by omega⟩, ⟨by omega, by omega⟩, h⟩
theorem s_areSame {s s' : Int} {A B : List Int} {μ : ZM} {K : Int → ZM → Prop} (hs : 0 ≤ s ∧ s < 44) (hs' : 0 ≤ s' ∧ s' < 44) (hS : Sl μ s A) (hS' : Sl μ s' B) (lA : A.length ≤ 128) (lB : B.length ≤ 128) (h1 : A = B → K 1 μ) (h0 : A ≠ B → K 0 μ) : P_X12_areSame s s' μ K := by
  unfold P_X12_areSame
  rw [hS.1, hS'.1]
  have main : ∀ x : Int, (x = 1 ∧ A.length = B.length) ∨ (x = 0 ∧ A ≠ B) → P_X12_areSame_20 s s' x μ K := by
    intro x hx
    refine z_lf2_ind (fun f i μ' => μ' = μ ∧ 0 ≤ i ∧ ((f = 1 ∧ A.length = B.length ∧ ∀ j : Int, 0 ≤ j → j < i → gt A j = gt B j) ∨ (f = 0 ∧ A ≠ B))) (fun f i _ => ((A.length : Int) - i).toNat) ?_ x 0 μ ⟨rfl, by omega, hx.elim (fun q => Or.inl ⟨q.1, q.2, fun j p1 p2 => absurd p2 (by omega)⟩) (fun q => Or.inr q)⟩
    intro f i μ' G ⟨e1, e2, e3⟩ hG
    subst e1
    rw [hS.1]
    have fin0 : f = 0 → A ≠ B → zb f ∧ K f μ' := fun q1 q2 => by rw [q1]; exact ⟨Or.inl rfl, h0 q2⟩
    refine ⟨hs, ifb (fun g => ?_) (fun g => ifb (fun g1 => ?_) (fun g1 => ?_))⟩
    · rcases e3 with ⟨q1, q2, q3⟩ | ⟨q1, q2⟩
      · rw [q1]
        exact ⟨Or.inr rfl, h1 (list_gt q2 (fun k p1 p2 => q3 k p1 (by omega)))⟩
      · exact fin0 q1 q2
    · rcases e3 with ⟨q1, q2, q3⟩ | ⟨q1, q2⟩
      · omega
      · exact fin0 q1 q2
    · obtain ⟨q1, q2, q3⟩ := e3.resolve_right (fun y => g1 y.1)
      refine s_atT hs hS lA ⟨e2, by omega⟩ (s_atT hs' hS' lB ⟨e2, by omega⟩ (ifb (fun g2 => ⟨⟨by omega, by omega⟩, hG _ _ _ ⟨rfl, by omega, Or.inl ⟨rfl, q2, fun j p1 p2 => ?_⟩⟩ (by omega)⟩) (fun g2 => ⟨⟨by omega, by omega⟩, hG _ _ _ ⟨rfl, by omega, Or.inr ⟨rfl, fun y => g2 (by rw [y])⟩⟩ (by omega)⟩)))
      by_cases ej : j = i
      · rw [ej]; exact g2
      · exact q3 j p1 (by omega)
  exact ⟨hs, hs', ifb (fun g => main 1 (Or.inl ⟨rfl, by omega⟩)) (fun g => main 0 (Or.inr ⟨rfl, fun y => g (by rw [y])⟩))⟩
theorem s_cexX {fs : List Fn} {s : Int} {q : Cm} {μ : ZM} {K : Int → ZM → Prop} (ho : okF fs) (hF : MF μ fs) (hs : 0 ≤ s ∧ s < 43) (hQ : S2 μ s q) (hq : okQ fs q) (h1 : cxi fs q = 1 → ∀ r μ', r ≠ -9 → (∀ a k, ¬ evm a k → μ' a k = μ a k) → K r μ') (h0 : cxi fs q ≠ 1 → ∀ μ', (∀ a k, ¬ evm a k → μ' a k = μ a k) → K (-9) μ') : P_X12_counterexample s (s + 1) μ K :=
  s_counterexample ho hF (by omega) (by omega) hQ.1 hQ.2 hq.1 hq.2.1 hq.2.2.1 hq.2.2.2 (fun μ' ux uy uz x y z f b1 b2 b3 hf => h1 (cxi_1 ⟨ux, uy, uz, x, y, z, b1, b2, b3, hf.1, hf.2.1⟩) _ μ' (by have := hf.1; unfold rg at this; omega) f) (fun μ' ux uy uz f b1 b2 b3 hn => h0 (cxi_0 (cx_no b1 b2 b3 hn)) μ' f)
def ntm (a k : Int) : Prop := (a = 248 ∧ k = 39) ∨ a = 270 ∨ a = 271
theorem s_nI {fs : List Fn} {ls : Ls} {nt : Nt} {k v : Int} {μ : ZM} {K : ZM → Prop} (hE : EnM μ fs ls nt) (h : ∀ μ', (∀ a x, ¬ ntm a x → μ' a x = μ a x) → EnM μ' fs ls (an nt k v) → K μ') : P_X12_notesIt k v μ K := by
  obtain ⟨h1, h2, h3⟩ := hE
  refine s_notesIt h3 (fun μ' f n => h μ' (fun a x y => f a x (by unfold ntm at y; omega) (by unfold ntm at y; omega) (by unfold ntm at y; omega)) ⟨h1.fr (fun a ha x => f _ _ (by omega) (by omega) (by omega)) (f _ _ (by omega) (by omega) (by omega)), h2.fr (f _ _ (by omega) (by omega) (by omega)) (fun x hx => f _ _ (by omega) (by omega) (by omega)) (fun x hx => f _ _ (by omega) (by omega) (by omega)), n⟩)
theorem s_isLemma {fs : List Fn} {ls : Ls} {s : Int} {q : Cm} {μ : ZM} {K : Int → ZM → Prop} (hs : 0 ≤ s ∧ s < 20) (hM : ML μ ls) (hL : okL fs ls) (hQ : S2 μ s q) (hq : okQ fs q) (h1 : q ∈ ls → K 1 μ) (h0 : ¬ q ∈ ls → K 0 μ) : P_X12_isLemma s (s + 1) μ K := by
  have l8 := hL.1
  have lq := okQ_128 hq
  refine z_lf1_ind (fun k μ' => μ' = μ ∧ 0 ≤ k ∧ k ≤ (ls.length : Int) ∧ ∀ j : Int, 0 ≤ j → j < k → gl ls j ≠ q) (fun k _ => ((ls.length : Int) - k).toNat) ?_ 0 μ ⟨rfl, by omega, by omega, fun j p1 p2 => absurd p2 (by omega)⟩
  intro k μ' G ⟨e1, e2, e3, e4⟩ hG
  subst e1
  rw [hM.1]
  refine ifb (fun g1 => ⟨Or.inl rfl, h0 (fun w => ?_)⟩) (fun g1 => ⟨⟨by omega, by omega⟩, ⟨by omega, by omega⟩, ?_⟩)
  · obtain ⟨j, j1, j2, j3⟩ := mem_gl.mp w
    exact e4 j j1 (by omega) j3
  · obtain ⟨w1, w2⟩ := hM.2.2 k e2 (by omega)
    have oq := hL.2 _ (gl_mem e2 (show k < (ls.length : Int) by omega))
    have next : gl ls k ≠ q → P_X12_isLemma_42 G s (s + 1) k μ' K := by
      intro z
      refine ⟨⟨by omega, by omega⟩, hG _ _ ⟨rfl, by omega, by omega, fun j p1 p2 => ?_⟩ (by omega)⟩
      by_cases ej : j = k
      · rw [ej]; exact z
      · exact e4 j p1 (by omega)
    refine s_areSame (by omega) (by omega) w1 hQ.1 (by omega) lq.1 (fun z => if1 ⟨⟨by omega, by omega⟩, ⟨by omega, by omega⟩, ⟨by omega, by omega⟩, s_areSame (by omega) (by omega) w2 hQ.2 (by omega) lq.2 (fun z2 => if1 ⟨Or.inr rfl, h1 ?_⟩) (fun z2 => if0 (next (fun w => z2 (by rw [w]))))⟩) (fun z => if0 (next (fun w => z (by rw [w]))))
    have : gl ls k = q := Prod.ext z z2
    rw [← this]; exact gl_mem e2 (by omega)
/-- cells of the lemmas -/
def lmc (a k : Int) : Prop := (a = 249 ∧ 3584 ≤ k ∧ k < 5632) ∨ (a = 250 ∧ 28 ≤ k ∧ k < 44) ∨ (a = 248 ∧ k = 35)
theorem s_proves {fs : List Fn} {ls : Ls} {nt : Nt} {L : Int} {q : Cm} {μ : ZM} {K : Int → ZM → Prop} (hE : EnM μ fs ls nt) (hLs : okL fs ls) (hL : 0 ≤ L ∧ L ≤ 2) (h46 : μ 248 46 = L) (hQ : S2 μ (6 * L + 2) q) (hq : okQ fs q) (h : ∀ μ', (∀ a k, ¬ ntm a k → ¬ lmc a k → μ' a k = μ a k) → EnM μ' fs (kp ls q) (an nt 7 L) → K 0 μ') : P_X12_proves μ K := by
  have lq := okQ_128 hq
  have l8 := hLs.1
  refine s_slot h46 (by omega) (by omega) (by omega) (s_slot h46 (by omega) (by omega) (by omega) ?_)
  rw [h46]
  refine s_nI hE (fun μ1 f1 e1 => ?_)
  have hQ1 : S2 μ1 (6 * L + 2) q := hQ.ex lq (fun a k y => f1 a k (by unfold s2c at y; unfold ntm; omega))
  rw [show 6 * L + 2 + 0 = 6 * L + 2 by omega]
  have same : (q.1 = q.2 ∨ 8 ≤ ls.length ∨ q ∈ ls) → K 0 μ1 := by
    intro y
    refine h μ1 (fun a k y1 _ => f1 a k y1) ?_
    unfold kp; rw [if_pos y]; exact e1
  refine s_areSame (by omega) (by omega) hQ1.1 hQ1.2 lq.1 lq.2 (fun y => if1 (same (Or.inl y))) (fun y => if0 ?_)
  have e35 := e1.2.1.1
  rw [e1.2.1.1]
  refine ifb (fun g => same (Or.inr (Or.inl (by omega)))) (fun g => s_isLemma (by omega) e1.2.1 hLs hQ1 hq (fun y2 => if1 (same (Or.inr (Or.inr y2)))) (fun y2 => if0 ⟨⟨by omega, by omega⟩, ⟨by omega, by omega⟩, ?_⟩))
  have nin : ¬ (q.1 = q.2 ∨ 8 ≤ ls.length ∨ q ∈ ls) := fun w => w.elim y (fun w => w.elim (by omega) y2)
  rw [e1.2.1.1]
  refine s_copies (T := q.1) (by omega) (by omega) (by omega) hQ1.1 lq.1 (fun μ2 f2 t2 => ?_)
  rw [show μ2 248 35 = (ls.length : Int) from (f2 _ _ (by omega) (by omega)).trans e1.2.1.1]
  refine ⟨⟨by omega, by omega⟩, ⟨by omega, by omega⟩, ⟨by omega, by omega⟩, s_copies (T := q.2) (by omega) (by omega) (by omega) (hQ1.2.ex (f2 _ _ (by omega) (by omega)) (fun i p1 p2 => f2 _ _ (by omega) (by omega))) lq.2 (fun μ3 f3 t3 => ?_)⟩
  rw [show μ3 248 35 = (ls.length : Int) from (f3 _ _ (by omega) (by omega)).trans ((f2 _ _ (by omega) (by omega)).trans e1.2.1.1)]
  have f3' : ∀ a k, ¬ lmc a k → μ3 a k = μ1 a k := fun a k y => (f3 a k (by unfold lmc at y; omega) (by unfold lmc at y; omega)).trans (f2 a k (by unfold lmc at y; omega) (by unfold lmc at y; omega))
  refine ⟨⟨by omega, by omega⟩, h _ (fun a k y1 y2 => ?_) ?_⟩
  · rw [zu_f (by unfold lmc at y2; omega), f3' a k y2]; exact f1 a k y1
  · unfold kp
    rw [if_neg nin]
    obtain ⟨h1, h2, h3⟩ := e1
    have f4 : ∀ a k, ¬ lmc a k → z_upd μ3 248 35 ((ls.length : Int) + 1) a k = μ1 a k := fun a k y => (zu_f (by unfold lmc at y; omega)).trans (f3' a k y)
    refine ⟨h1.fr (fun a ha k => f4 _ _ (by unfold lmc; omega)) (f4 _ _ (by unfold lmc; omega)), ⟨by rw [zu_s]; simp, by simp; omega, fun j p1 p2 => ?_⟩, h3.fr (f4 _ _ (by unfold lmc; omega)) (fun k => f4 _ _ (by unfold lmc; omega)) (fun k => f4 _ _ (by unfold lmc; omega))⟩
    rw [gl_app p1]
    by_cases ej : j = (ls.length : Int)
    · rw [if_pos ej, ej]
      exact ⟨t2.ex ((zu_n (by decide)).trans (f3 _ _ (by omega) (by omega))) (fun i _ _ => (zu_n (by decide)).trans (f3 _ _ (by omega) (by omega))), t3.ex (zu_n (by decide)) (fun i _ _ => zu_n (by decide))⟩
    · rw [if_neg ej]
      have hj2 : j < (ls.length : Int) := by simp at p2; omega
      obtain ⟨w1, w2⟩ := h2.2.2 j p1 hj2
      have oj := hLs.2 _ (gl_mem p1 hj2)
      exact ⟨w1.ex ((zu_n (by decide)).trans ((f3 _ _ (by omega) (by omega)).trans (f2 _ _ (by omega) (by omega)))) (fun i _ _ => (zu_n (by decide)).trans ((f3 _ _ (by omega) (by omega)).trans (f2 _ _ (by omega) (by omega)))), w2.ex ((zu_n (by decide)).trans ((f3 _ _ (by omega) (by omega)).trans (f2 _ _ (by omega) (by omega)))) (fun i _ _ => (zu_n (by decide)).trans ((f3 _ _ (by omega) (by omega)).trans (f2 _ _ (by omega) (by omega))))⟩
theorem s_fails {fs : List Fn} {ls : Ls} {nt : Nt} {kd b : Int} {μ : ZM} {K : Int → ZM → Prop} (hE : EnM μ fs ls nt) (h : ∀ μ', (∀ a k, ¬ ntm a k → ¬ (a = 248 ∧ (k = 43 ∨ k = 44)) → μ' a k = μ a k) → EnM μ' fs ls (an nt 8 kd) → (b = 0 → μ' 248 43 = μ 248 43 ∧ μ' 248 44 = μ 248 44) → (b ≠ 0 → μ' 248 43 = μ 248 46 ∧ μ' 248 44 = kd) → K kd μ') : P_X12_fails kd b μ K := by
  refine ifb (fun g => ?_) (fun g => ?_)
  · exact s_nI hE (fun μ1 f1 e1 => h μ1 (fun a k y1 _ => f1 a k y1) e1 (fun _ => ⟨f1 _ _ (by unfold ntm; omega), f1 _ _ (by unfold ntm; omega)⟩) (fun y => absurd g y))
  · show P_X12_fails_17 kd (z_upd (z_upd μ 248 43 (μ 248 46)) 248 44 kd) K
    have hE1 : EnM (z_upd (z_upd μ 248 43 (μ 248 46)) 248 44 kd) fs ls nt := hE.lo (fun a k y => by unfold loM at y; rw [zu_f (by omega), zu_f (by omega)])
    refine s_nI hE1 (fun μ1 f1 e1 => h μ1 (fun a k y1 y2 => ?_) e1 (fun y => absurd y g) (fun _ => ⟨?_, ?_⟩))
    · rw [f1 a k y1, zu_f (by omega), zu_f (by omega)]
    · rw [f1 _ _ (by unfold ntm; omega), zu_k (by decide), zu_s]
    · rw [f1 _ _ (by unfold ntm; omega), zu_s]
