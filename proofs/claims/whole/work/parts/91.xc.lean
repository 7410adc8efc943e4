theorem s_carries {fs : List Fn} {ls : Ls} {nt : Nt} {L v : Int} {N G : Cm} {μ : ZM} {K : Int → ZM → Prop} (ho : okF fs) (hE : EnM μ fs ls nt) (hLs : okL fs ls) (hL : 0 ≤ L ∧ L ≤ 2) (hv : 0 ≤ v ∧ v ≤ 2) (h46 : μ 248 46 = L) (h273 : μ 273 L = v) (hN : S2 μ (6 * L + 4) N) (hG : S2 μ (6 * L + 6) G) (oN : okQ fs N) (oG : okQ fs G) (h0 : (car fs v N G ls nt).1 = none → ∀ μ', (∀ a k, ¬ scM a k → ¬ ntm a k → ¬ s2c (6 * L + 6) a k → μ' a k = μ a k) → EnM μ' fs ls (car fs v N G ls nt).2 → K 0 μ') (h1 : ∀ g, (car fs v N G ls nt).1 = some g → ∀ μ', (∀ a k, ¬ scM a k → ¬ ntm a k → ¬ s2c (6 * L + 6) a k → μ' a k = μ a k) → EnM μ' fs ls (car fs v N G ls nt).2 → S2 μ' (6 * L + 6) g → K 1 μ') : P_X12_carries μ K := by
  have hl := hE.1.2.1
  have lG := okQ_128 oG
  have lN := okQ_128 oN
  have okrp := rpq_ok (N := N) ho hl hLs oG
  have lrp := okQ_128 okrp
  -- after both sides are steered
  have after : ∀ μ1, (∀ a k, ¬ scM a k → ¬ ntm a k → ¬ s2c (6 * L + 6) a k → μ1 a k = μ a k) → EnM μ1 fs ls (ntq fs N G ls nt) → S2 μ1 (6 * L + 6) (rpq fs N G ls) → P_X12_usesClaim 0 μ1 (fun r2 μ1 => if r2 = 0 then (P_X12_usesClaim 1 μ1 (fun r4 μ3 => P_X12_carries_50 r4 μ3 K)) else (P_X12_carries_50 r2 μ1 K)) := by
    intro μ1 f1 e1 g1
    have c1 : μ1 248 46 = L := (f1 _ _ (by unfold scM; omega) (by unfold ntm; omega) (by unfold s2c; omega)).trans h46
    have d1 : μ1 273 L = v := (f1 _ _ (by unfold scM; omega) (by unfold ntm; omega) (by unfold s2c; omega)).trans h273
    have N1 : S2 μ1 (6 * L + 4) N := hN.ex lN (fun a k y => f1 a k (by unfold s2c at y; unfold scM; omega) (by unfold s2c at y; unfold ntm; omega) (by unfold s2c at y ⊢; omega))
    unfold car at h0 h1
    generalize hU : use fs v N (rpq fs N G ls) (ntq fs N G ls nt) = U at *
    -- too long
    have over : ∀ μ2, (∀ a k, ¬ scM a k → μ2 a k = μ1 a k) → U = (none, ntq fs N G ls nt) → P_X12_carries_50 3 μ2 K := by
      intro μ2 f2 hu
      rw [hu] at h0
      unfold P_X12_carries_50
      rw [if_pos rfl]
      exact ⟨Or.inl rfl, h0 rfl μ2 (fun a k y1 y2 y3 => (f2 a k y1).trans (f1 a k y1 y2 y3)) (e1.lo (fun a k y => f2 a k (fun z => y (Or.inl z))))⟩
    -- then made normal
    have fine : ∀ μ2 (r : Int) (g : Cm) (m : Nt), r ≠ 3 → (∀ a k, ¬ scM a k → ¬ ntm a k → ¬ s2c (6 * L + 6) a k → μ2 a k = μ a k) → EnM μ2 fs ls m → S2 μ2 (6 * L + 6) g → okQ fs g → U = (some g, m) → P_X12_carries_50 r μ2 K := by
      intro μ2 r g m hr f2 e2 g2 og hu
      rw [hu] at h0 h1
      dsimp only at h0 h1
      unfold P_X12_carries_50
      rw [if_neg hr]
      have c2 : μ2 248 46 = L := (f2 _ _ (by unfold scM; omega) (by unfold ntm; omega) (by unfold s2c; omega)).trans h46
      refine s_normalGoal ho e2.1 hL c2 g2 og.1 og.2.1 (by have := og.2.2.1; omega) (by have := og.2.2.2; omega) (fun hn μ3 f3 => if0 ⟨Or.inl rfl, h0 hn μ3 (fun a k y1 y2 y3 => (f3 a k y1 y3).trans (f2 a k y1 y2 y3)) (e2.lo (fun a k y => f3 a k (fun z => y (Or.inl z)) (by unfold loM at y; unfold s2c; omega)))⟩) (fun G' hn μ3 f3 g3 => if1 ⟨Or.inr rfl, h1 G' hn μ3 (fun a k y1 y2 y3 => (f3 a k y1 y3).trans (f2 a k y1 y2 y3)) (e2.lo (fun a k y => f3 a k (fun z => y (Or.inl z)) (by unfold loM at y; unfold s2c; omega))) g3⟩)
    refine s_usesClaim (w := 0) ho e1 hL (by omega) hv c1 d1 N1 g1 oN okrp (fun hu μ2 f2 => if0 ?_) (fun hu μ2 f2 => ?_) (fun T hu μ2 f2 t2 e2 => ?_)
    · have hu' : us1 fs v N.1 N.2 (rpq fs N G ls).1 = none := hu
      have f2' : ∀ a k, ¬ scM a k → ¬ ntm a k → ¬ s2c (6 * L + 6) a k → μ2 a k = μ a k := fun a k y1 y2 y3 => (f2 a k y1).trans (f1 a k y1 y2 y3)
      have e2 : EnM μ2 fs ls (ntq fs N G ls nt) := e1.lo (fun a k y => f2 a k (fun z => y (Or.inl z)))
      have g2 : S2 μ2 (6 * L + 6) (rpq fs N G ls) := g1.ex lrp (fun a k y => f2 a k (by unfold s2c at y; unfold scM; omega))
      refine s_usesClaim (w := 1) ho e2 hL (by omega) hv ((f2 _ _ (by unfold scM; omega)).trans c1) ((f2 _ _ (by unfold scM; omega)).trans d1) (N1.ex lN (fun a k y => f2 a k (by unfold s2c at y; unfold scM; omega))) g2 oN okrp (fun hu2 μ3 f3 => ?_) (fun hu2 μ3 f3 => ?_) (fun T hu2 μ3 f3 t3 e3 => ?_)
      · have hu2' : us1 fs v N.2 N.1 (rpq fs N G ls).2 = none := hu2
        refine fine μ3 0 (rpq fs N G ls) _ (by decide) (fun a k y1 y2 y3 => (f3 a k y1).trans (f2' a k y1 y2 y3)) (e2.lo (fun a k y => f3 a k (fun z => y (Or.inl z)))) (g2.ex lrp (fun a k y => f3 a k (by unfold s2c at y; unfold scM; omega))) okrp ?_
        rw [← hU]; unfold use; rw [hu']; dsimp only; rw [hu2']
      · have hu2' : us1 fs v N.2 N.1 (rpq fs N G ls).2 = some none := hu2
        refine over μ3 (fun a k y => (f3 a k y).trans (f2 a k y)) ?_
        rw [← hU]; unfold use; rw [hu']; dsimp only; rw [hu2']
      · have hu2' : us1 fs v N.2 N.1 (rpq fs N G ls).2 = some (some T) := hu2
        have oT := us1_ok ho hl oN.1 okrp.2.1 hu2'
        refine fine μ3 1 ((rpq fs N G ls).1, T) (an (ntq fs N G ls nt) 5 1) (by decide) (fun a k y1 y2 y3 => (f3 a k y1 y2 (by unfold s2c at y3; omega) (by unfold s2c at y3; omega)).trans (f2' a k y1 y2 y3)) e3 ⟨g2.1.ex (f3 _ _ (by unfold scM; omega) (by unfold ntm; omega) (by omega) (by omega)) (fun k p1 p2 => f3 _ _ (by unfold scM; omega) (by unfold ntm; omega) (by omega) (by omega)), t3⟩ ⟨okrp.1, oT.1, okrp.2.2.1, oT.2⟩ ?_
        rw [← hU]; unfold use; rw [hu']; dsimp only; rw [hu2']
    · have hu' : us1 fs v N.1 N.2 (rpq fs N G ls).1 = some none := hu
      rw [if_neg (by decide)]
      refine over μ2 f2 ?_
      rw [← hU]; unfold use; rw [hu']
    · have hu' : us1 fs v N.1 N.2 (rpq fs N G ls).1 = some (some T) := hu
      have oT := us1_ok ho hl oN.2.1 okrp.1 hu'
      rw [if_neg (by decide)]
      rw [show 6 * L + 6 + 0 = 6 * L + 6 by omega] at f2 t2
      refine fine μ2 1 (T, (rpq fs N G ls).2) (an (ntq fs N G ls nt) 5 0) (by decide) (fun a k y1 y2 y3 => (f2 a k y1 y2 (by unfold s2c at y3; omega) (by unfold s2c at y3; omega)).trans (f1 a k y1 y2 y3)) e2 ⟨t2, g1.2.ex (f2 _ _ (by unfold scM; omega) (by unfold ntm; omega) (by omega) (by omega)) (fun k p1 p2 => f2 _ _ (by unfold scM; omega) (by unfold ntm; omega) (by omega) (by omega))⟩ ⟨oT.1, okrp.2.1, oT.2, okrp.2.2.2⟩ ?_
      rw [← hU]; unfold use; rw [hu']
  have toS : ∀ (s a q : Int), 6 * L + 6 ≤ s → s ≤ 6 * L + 7 → ¬ scM a q → ¬ ntm a q → ¬ s2c (6 * L + 6) a q → ¬ rpm a q ∧ ¬ (a = 248 ∧ (q = 36 ∨ q = 39)) ∧ a ≠ 270 ∧ a ≠ 271 ∧ ¬ (a = 249 ∧ 128 * s ≤ q ∧ q < 128 * s + 128) ∧ ¬ (a = 250 ∧ q = s) := by
    intro s a q p1 p2 y1 y2 y3
    unfold scM at y1
    unfold ntm at y2
    unfold s2c at y3
    unfold rpm fr20
    omega
  refine z_lf1_ind (fun x μ1 => (∀ a k, ¬ scM a k → ¬ ntm a k → ¬ s2c (6 * L + 6) a k → μ1 a k = μ a k) ∧ ((x = 0 ∧ EnM μ1 fs ls nt ∧ S2 μ1 (6 * L + 6) G) ∨ (x = 1 ∧ EnM μ1 fs ls (ads 0 nt (rpl fs ls N.1 1600 G.1).2) ∧ S2 μ1 (6 * L + 6) ((rpl fs ls N.1 1600 G.1).1, G.2)) ∨ (x = 2 ∧ EnM μ1 fs ls (ntq fs N G ls nt) ∧ S2 μ1 (6 * L + 6) (rpq fs N G ls)))) (fun x _ => (2 - x).toNat) ?_ 0 μ ⟨fun _ _ _ _ _ => rfl, Or.inl ⟨rfl, hE, hG⟩⟩
  intro x μ1 Gx ⟨f1, hx⟩ hGx
  have c1 : μ1 248 46 = L := (f1 _ _ (by unfold scM; omega) (by unfold ntm; omega) (by unfold s2c; omega)).trans h46
  have N1 : S2 μ1 (6 * L + 4) N := hN.ex lN (fun a k y => f1 a k (by unfold s2c at y; unfold scM; omega) (by unfold s2c at y; unfold ntm; omega) (by unfold s2c at y ⊢; omega))
  rcases hx with ⟨hx, e1, g1⟩ | ⟨hx, e1, g1⟩ | ⟨hx, e1, g1⟩
  · subst hx
    refine ifb (fun g => absurd g (by decide)) (fun _ => s_slot c1 (by omega) (by omega) (by omega) (s_slot c1 (by omega) (by omega) (by omega) ?_))
    rw [show 6 * L + 6 + 0 = 6 * L + 6 by omega, show 6 * L + 4 + 0 = 6 * L + 4 by omega]
    refine s_steers (w := 0) ho e1.1 e1.2.1 hLs e1.2.2 (Or.inr (Or.inl rfl)) (by omega) (by omega) (by omega) (by omega) (by omega) g1.1 N1.1 oG.1 oN.1 oG.2.2.1 oN.2.2.1 (fun μ2 f2 t2 n2 => ⟨⟨by omega, by omega⟩, hGx _ _ ⟨fun a k y1 y2 y3 => ?_, Or.inr (Or.inl ⟨by omega, ?_, ⟨t2, ?_⟩⟩)⟩ (by omega)⟩)
    · obtain ⟨z1, z2, z3, z4, z5, z6⟩ := toS (6 * L + 6) a k (by omega) (by omega) y1 y2 y3
      exact (f2 a k z1 z2 z3 z4 z5 z6).trans (f1 a k y1 y2 y3)
    · exact ⟨e1.1.fr (fun a ha k => f2 _ _ (by unfold rpm fr20; omega) (by omega) (by omega) (by omega) (by omega) (by omega)) (f2 _ _ (by unfold rpm fr20; omega) (by omega) (by omega) (by omega) (by omega) (by omega)), e1.2.1.fr (f2 _ _ (by unfold rpm fr20; omega) (by omega) (by omega) (by omega) (by omega) (by omega)) (fun k hk => f2 _ _ (by unfold rpm fr20; omega) (by omega) (by omega) (by omega) (by omega) (by omega)) (fun k hk => f2 _ _ (by unfold rpm fr20; omega) (by omega) (by omega) (by omega) (by omega) (by omega)), n2⟩
    · exact g1.2.ex (f2 _ _ (by unfold rpm fr20; omega) (by omega) (by omega) (by omega) (by omega) (by omega)) (fun k p1 p2 => f2 _ _ (by unfold rpm fr20; omega) (by omega) (by omega) (by omega) (by omega) (by omega))
  · subst hx
    refine ifb (fun g => absurd g (by decide)) (fun _ => s_slot c1 (by omega) (by omega) (by omega) (s_slot c1 (by omega) (by omega) (by omega) ?_))
    have g11 : Sl μ1 (6 * L + 6 + 1) G.2 := g1.2
    refine s_steers (w := 1) ho e1.1 e1.2.1 hLs e1.2.2 (Or.inr (Or.inr rfl)) (by omega) (by omega) (by omega) (by omega) (by omega) g11 N1.2 oG.2.1 oN.2.1 oG.2.2.2 oN.2.2.2 (fun μ2 f2 t2 n2 => ⟨⟨by omega, by omega⟩, hGx _ _ ⟨fun a k y1 y2 y3 => ?_, Or.inr (Or.inr ⟨by omega, ?_, ⟨?_, t2⟩⟩)⟩ (by omega)⟩)
    · obtain ⟨z1, z2, z3, z4, z5, z6⟩ := toS (6 * L + 6 + 1) a k (by omega) (by omega) y1 y2 y3
      exact (f2 a k z1 z2 z3 z4 z5 z6).trans (f1 a k y1 y2 y3)
    · exact ⟨e1.1.fr (fun a ha k => f2 _ _ (by unfold rpm fr20; omega) (by omega) (by omega) (by omega) (by omega) (by omega)) (f2 _ _ (by unfold rpm fr20; omega) (by omega) (by omega) (by omega) (by omega) (by omega)), e1.2.1.fr (f2 _ _ (by unfold rpm fr20; omega) (by omega) (by omega) (by omega) (by omega) (by omega)) (fun k hk => f2 _ _ (by unfold rpm fr20; omega) (by omega) (by omega) (by omega) (by omega) (by omega)) (fun k hk => f2 _ _ (by unfold rpm fr20; omega) (by omega) (by omega) (by omega) (by omega) (by omega)), n2⟩
    · have := okrp.2.2.1
      have g10 : Sl μ1 (6 * L + 6) (rpq fs N G ls).1 := g1.1
      exact g10.ex (f2 _ _ (by unfold rpm fr20; omega) (by omega) (by omega) (by omega) (by omega) (by omega)) (fun k p1 p2 => f2 _ _ (by unfold rpm fr20; omega) (by omega) (by omega) (by omega) (by omega) (by omega))
  · subst hx
    exact ifb (fun _ => after μ1 f1 e1 g1) (fun g => absurd (by decide) g)
theorem s_guesses {fs : List Fn} {ls : Ls} {nt : Nt} {L : Int} {G : Cm} {μ : ZM} {K : Int → ZM → Prop} (ho : okF fs) (hE : EnM μ fs ls nt) (hL : 0 ≤ L ∧ L ≤ 1) (h46 : μ 248 46 = L) (hG : S2 μ (6 * L + 6) G) (oG : okQ fs G) (h : ∀ μ', (∀ a k, ¬ scM a k → ¬ ntm a k → ¬ s2c (6 * L + 8) a k → ¬ (a = 248 ∧ k = 46) → μ' a k = μ a k) → EnM μ' fs ls (an nt 6 (gue fs G).1) → S2 μ' (6 * L + 8) (gue fs G).2 → μ' 248 46 = L + 1 → K 6 μ') : P_X12_guesses μ K := by
  have hl := hE.1.2.1
  have og := gz_ok (m := 40) ho hl oG.1 oG.2.1 oG.2.2.1 oG.2.2.2 (by omega)
  have lG := okQ_128 oG
  have lg : (gz fs G.1 G.2).2.1.length ≤ 128 ∧ (gz fs G.1 G.2).2.2.length ≤ 128 := ⟨by have := og.2.2.1; omega, by have := og.2.2.2; omega⟩
  refine s_slot h46 (by omega) (by omega) (by omega) (s_slot h46 (by omega) (by omega) (by omega) ?_)
  rw [show 6 * L + 6 + 0 = 6 * L + 6 by omega]
  unfold gue at h
  -- the end: copies from two slots
  have fin : ∀ (s : Int) (v : Int) (q : Cm) (μ1 : ZM), (∀ a k, ¬ scM a k → μ1 a k = μ a k) → (v = -9 ∧ s = 6 * L + 6 ∨ v ≠ -9 ∧ s = 22) → S2 μ1 s q → q.1.length ≤ 128 → q.2.length ≤ 128 → (∀ μ', (∀ a k, ¬ scM a k → ¬ ntm a k → ¬ s2c (6 * L + 8) a k → ¬ (a = 248 ∧ k = 46) → μ' a k = μ a k) → EnM μ' fs ls (an nt 6 v) → S2 μ' (6 * L + 8) q → μ' 248 46 = L + 1 → K 6 μ') → P_X12_guesses_48 (6 * L + 6) (6 * L + 6 + 1) v μ1 K := by
    intro s v q μ1 f1 hs hq l1 l2 hh
    have e1 : EnM μ1 fs ls nt := hE.lo (fun a k y => f1 a k (fun z => y (Or.inl z)))
    refine s_nI e1 (fun μ2 f2 e2 => ?_)
    rw [show μ2 248 46 = L from (f2 _ _ (by unfold ntm; omega)).trans ((f1 _ _ (by unfold scM; omega)).trans h46)]
    refine ⟨⟨by omega, by omega⟩, ?_⟩
    show if v = -9 then P_X12_guesses_79 (6 * L + 6 + 1) v (6 * L + 6) (z_upd μ2 248 46 (L + 1)) K else P_X12_guesses_79 (6 * L + 6 + 1) v 22 (z_upd μ2 248 46 (L + 1)) K
    have e3 : EnM (z_upd μ2 248 46 (L + 1)) fs ls (an nt 6 v) := e2.lo (fun a k y => zu_f (by unfold loM at y; omega))
    have q3 : S2 (z_upd μ2 248 46 (L + 1)) s q := hq.ex ⟨l1, l2⟩ (fun a k y => (zu_n (by unfold s2c at y; omega)).trans (f2 a k (by unfold s2c at y; unfold ntm; omega)))
    have c3 : z_upd μ2 248 46 (L + 1) 248 46 = L + 1 := zu_s
    have f3 : ∀ a k, ¬ scM a k → ¬ ntm a k → ¬ (a = 248 ∧ k = 46) → z_upd μ2 248 46 (L + 1) a k = μ a k := fun a k y1 y2 y3 => (zu_f y3).trans ((f2 a k y2).trans (f1 a k y1))
    generalize z_upd μ2 248 46 (L + 1) = μ3 at *
    have go : ∀ s2 : Int, s2 = s + 1 → P_X12_slotOf 2 0 μ3 (fun r10 μ9 => P_X12_copies s r10 μ9 (fun μ11 => P_X12_guesses_101 s2 μ11 K)) := by
      intro s2 hs2
      refine s_slot c3 (by omega) (by omega) (by omega) (s_copies (T := q.1) (by omega) (by omega) (by omega) q3.1 l1 (fun μ4 f4 t4 => ?_))
      refine s_slot ((f4 _ _ (by omega) (by omega)).trans c3) (by omega) (by omega) (by omega) (s_copies (T := q.2) (by omega) (by omega) (by omega) (by rw [hs2]; exact q3.2.ex (f4 _ _ (by omega) (by omega)) (fun k p1 p2 => f4 _ _ (by omega) (by omega))) l2 (fun μ5 f5 t5 => ?_))
      refine hh μ5 (fun a k y1 y2 y3 y4 => ?_) (e3.lo (fun a k y => ?_)) ⟨?_, ?_⟩ ?_
      · rw [f5 a k (by unfold s2c at y3; omega) (by unfold s2c at y3; omega), f4 a k (by unfold s2c at y3; omega) (by unfold s2c at y3; omega)]
        exact f3 a k y1 y2 y4
      · rw [f5 a k (by unfold loM at y; omega) (by unfold loM at y; omega), f4 a k (by unfold loM at y; omega) (by unfold loM at y; omega)]
      · rw [show 6 * (L + 1) + 2 + 0 = 6 * L + 8 by omega] at t4
        exact t4.ex (f5 _ _ (by omega) (by omega)) (fun k p1 p2 => f5 _ _ (by omega) (by omega))
      · rw [show 6 * (L + 1) + 2 + 1 = 6 * L + 8 + 1 by omega] at t5
        exact t5
      · exact (f5 _ _ (by omega) (by omega)).trans ((f4 _ _ (by omega) (by omega)).trans c3)
    refine ifb (fun g => ?_) (fun g => ?_)
    · have es : s = 6 * L + 6 := by omega
      unfold P_X12_guesses_79
      simp only [if_pos g]
      have := go (6 * L + 6 + 1) (by omega)
      rw [es] at this
      exact this
    · have es : s = 22 := by omega
      unfold P_X12_guesses_79
      simp only [if_neg g]
      have := go 23 (by omega)
      rw [es] at this
      exact this
  refine s_makesGeneral ho hE.1 (by omega) (by omega) hG.1 hG.2 oG.1 oG.2.2.1 oG.2.2.2 (fun μ1 f1 t1 t2 => ?_)
  have f1' : ∀ a k, ¬ scM a k → μ1 a k = μ a k := fun a k y => f1 a k (by unfold scM at y; unfold frg; omega)
  have hG1 : S2 μ1 (6 * L + 6) G := hG.ex lG (fun a k y => f1' a k (by unfold s2c at y; unfold scM; omega))
  refine ifb (fun g => ?_) (fun g => ?_)
  · rw [if_pos (Or.inl g)] at h
    exact fin (6 * L + 6) (-9) G μ1 f1' (Or.inl ⟨rfl, rfl⟩) hG1 lG.1 lG.2 h
  · have e1 : EnM μ1 fs ls nt := hE.lo (fun a k y => f1' a k (fun z => y (Or.inl z)))
    have g22 : S2 μ1 22 (gz fs G.1 G.2).2 := ⟨t1, t2⟩
    refine s_cexX ho e1.1 (by omega) g22 og (fun hx r μ2 hr f2 => ?_) (fun hx μ2 f2 => ?_)
    · rw [if_neg hr]
      rw [if_pos (Or.inr hx)] at h
      exact fin (6 * L + 6) (-9) G μ2 (fun a k y => (f2 a k (by unfold scM at y; unfold evm; omega)).trans (f1' a k y)) (Or.inl ⟨rfl, rfl⟩) (hG1.ex lG (fun a k y => f2 a k (by unfold s2c at y; unfold evm; omega))) lG.1 lG.2 h
    · rw [if_pos rfl]
      rw [if_neg (fun y => y.elim g hx)] at h
      exact fin 22 (gz fs G.1 G.2).1 (gz fs G.1 G.2).2 μ2 (fun a k y => (f2 a k (by unfold scM at y; unfold evm; omega)).trans (f1' a k y)) (Or.inr ⟨g, rfl⟩) (g22.ex lg (fun a k y => f2 a k (by unfold s2c at y; unfold evm; omega))) lg.1 lg.2 h
