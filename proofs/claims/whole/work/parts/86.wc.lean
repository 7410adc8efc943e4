theorem s_refX {fs : List Fn} {c : Int} {q : Cm} {μ : ZM} {K : Int → ZM → Prop} (ho : okF fs) (hF : CF μ fs) (hc : z_cm c) (hQ : Q2 μ fs c q) (hq : okQ fs q) (h1 : cxi fs q = 1 → ∀ μ', (∀ a k, ¬ scC a k → μ' a k = μ a k) → K 1 μ') (h0 : cxi fs q ≠ 1 → ∀ μ', (∀ a k, ¬ scC a k → μ' a k = μ a k) → K 0 μ') : P_X2_refutes c μ K :=
  s_refutes ho hF hc ⟨hQ.1.1, hQ.1.2.1⟩ ⟨hQ.2.1, hQ.2.2.1⟩ hq.1 hq.2.1 hq.2.2.1 hq.2.2.2 (fun μ' ux uy uz x y z f b1 b2 b3 hf _ _ _ => h1 (cxi_1 ⟨ux, uy, uz, x, y, z, b1, b2, b3, hf.1, hf.2.1⟩) μ' (fun a k w => f a k (by unfold scC at w; unfold evc; omega) (by unfold scC at w; omega))) (fun μ' ux uy uz f b1 b2 b3 hn => h0 (cxi_0 (cx_no b1 b2 b3 hn)) μ' (fun a k w => f a k (by unfold scC at w; unfold evc; omega) (by unfold scC at w; omega)))
/-- cells of the notes -/
def ntc (a k : Int) : Prop := (a = 240 ∧ k = 3) ∨ a = 241 ∨ a = 242
theorem s_wr7 {fs : List Fn} {ls : Ls} {nt : Nt} {k v : Int} {μ : ZM} {K : ZM → Prop} (hE : EnC μ fs ls nt) (h : ∀ μ', (∀ a x, ¬ ntc a x → μ' a x = μ a x) → EnC μ' fs ls (an nt k v) → K μ') : P_X7_write k v μ K := by
  obtain ⟨h1, h2, h3, h4⟩ := hE
  refine s_write7 h4 (fun μ' f n => h μ' (fun a x y => f a x (by unfold ntc at y; omega) (by unfold ntc at y; omega) (by unfold ntc at y; omega)) ⟨h1.fr (fun a ha x => f _ _ (by omega) (by omega) (by omega)) (f _ _ (by omega) (by omega) (by omega)), h2.fr (fun a x p1 p2 => f _ _ (by omega) (by omega) (by omega)), h3.fr (fun a ha x => f _ _ (by omega) (by omega) (by omega)) (f _ _ (by omega) (by omega) (by omega)), n⟩)
theorem s_useSide {fs : List Fn} {ls : Ls} {nt : Nt} {c c' v w : Int} {N G : Cm} {μ : ZM} {G3 : Int → ZM → Prop} {K : Int → ZM → Prop} (ho : okF fs) (hE : EnC μ fs ls nt) (hc : z_cm c) (hc' : z_cm c') (hc2 : 198 ≤ c ∧ c ≤ 200) (hc2' : 201 ≤ c' ∧ c' ≤ 203) (hw : 0 ≤ w ∧ w ≤ 1) (hv : 0 ≤ v ∧ v ≤ 2) (hN : Q2 μ fs c N) (hG : Q2 μ fs c' G) (oN : okQ fs N) (oG : okQ fs G) (h0 : us1 fs v (gs N w) (gs N (1 - w)) (gs G w) = none → ∀ μ', (∀ a k, ¬ scC a k → μ' a k = μ a k) → zin (w + 1) ∧ G3 (w + 1) μ') (h1 : us1 fs v (gs N w) (gs N (1 - w)) (gs G w) = some none → ∀ μ', (∀ a k, ¬ scC a k → μ' a k = μ a k) → K 0 μ') (h2 : ∀ T, us1 fs v (gs N w) (gs N (1 - w)) (gs G w) = some (some T) → ∀ μ', (∀ a k, ¬ scC a k → ¬ ntc a k → ¬ (6 * (c' - 187) + 1 + 3 * w ≤ a ∧ a ≤ 6 * (c' - 187) + 3 + 3 * w) → μ' a k = μ a k) → Tm μ' fs (6 * (c' - 187) + 1 + 3 * w) T → EnC μ' fs ls (an nt 5 w) → K 1 μ') : P_X0_part c' w μ (fun r2 μ1 => (z_tm r2 ∧ P_X0_part c w μ1 (fun r5 μ4 => (z_tm r5 ∧ P_X5_firstMatch r5 r2 v μ4 (fun r8 μ7 => if r8 = (-9) then ((zin (w + 1) ∧ G3 (w + 1) μ7)) else ((zin (1 - w) ∧ P_X0_part c (1 - w) μ7 (fun r10 μ9 => (z_tm r10 ∧ P_X5_replace r10 r2 r8 184 μ9 (fun r13 μ12 => if r13 = 0 then (zb 0 ∧ K 0 μ12) else (P_X10_copy r2 184 μ12 (fun μ14 => P_X7_write 5 w μ14 (fun μ15 => zb 1 ∧ K 1 μ15))))))))))))) := by
  have hl := hE.1.2.1
  have tP := gs_C hw hN.1 hN.2
  have tQ := gs_C (w := 1 - w) (by omega) hN.1 hN.2
  have tG := gs_C hw hG.1 hG.2
  obtain ⟨oP, lP⟩ := gs_ok (w := w) oN
  obtain ⟨oQ, lQ⟩ := gs_ok (w := 1 - w) oN
  obtain ⟨oT, lT⟩ := gs_ok (w := w) oG
  have b := hc
  have b' := hc'
  unfold z_cm at b b'
  unfold us1 at h0 h1 h2
  generalize gs N w = P at *
  generalize gs N (1 - w) = Q at *
  generalize gs G w = T at *
  have z1 : z_tm (6 * (c' - 187) + 1 + 3 * w) := by unfold z_tm; omega
  have z2 : z_tm (6 * (c - 187) + 1 + 3 * w) := by unfold z_tm; omega
  have z3 : z_tm (6 * (c - 187) + 1 + 3 * (1 - w)) := by unfold z_tm; omega
  refine s_part hc' hw ⟨z1, s_part hc hw ⟨z2, s_firstMatch z2 z1 tP tG lP lT (cv_122 hl oP) (fun hm μ1 f1 => ?_) (fun i bb hm μ1 f1 hb => ?_)⟩⟩
  · rw [if_pos rfl]
    exact h0 (by rw [hm]) μ1 (fun a k y => f1 a k (by unfold scC at y; omega))
  · obtain ⟨q1, q2, q3, q4⟩ := fm_ok _ _ _ _ (by omega) hm
    rw [hm] at h0 h1 h2
    dsimp only at h0 h1 h2
    rw [if_neg (by omega)]
    have fr1 : ∀ a k, ¬ scC a k → μ1 a k = μ a k := fun a k y => f1 a k (by unfold scC at y; omega)
    have hE1 : EnC μ1 fs ls nt := hE.sc (fun a k y _ => fr1 a k y)
    refine ⟨⟨by omega, by omega⟩, s_part hc (by omega) ⟨z3, s_replaceC (b := bb) ho hE1.1 z3 z1 (by decide) (by omega) (by omega) (by omega) (Tm_of tQ (fun a k p1 p2 => f1 a k (by omega))) (Tm_of tG (fun a k p1 p2 => f1 a k (by omega))) oQ oT lQ lT q4 hb ⟨q2, by omega⟩ (fun g μ2 f2 => if0 ⟨Or.inl rfl, h1 (by rw [if_neg g]) μ2 (fun a k y => (f2 a k (by unfold scC at y; omega) (by unfold scC at y; omega) (by unfold scC at y; omega)).trans (fr1 a k y))⟩) (fun g μ2 f2 t2 => if1 ?_)⟩⟩
    have fr2 : ∀ a k, ¬ scC a k → μ2 a k = μ a k := fun a k y => (f2 a k (by unfold scC at y; omega) (by unfold scC at y; omega) (by unfold scC at y; omega)).trans (fr1 a k y)
    rw [if_pos g] at h2
    refine s_copy z1 (by decide) (by omega) t2 g (fun μ3 f3 t3 => ?_)
    have hE3 : EnC μ3 fs ls nt := hE.sc (fun a k y1 y2 => (f3 a k (by omega) (by omega) (by omega)).trans (fr2 a k y1))
    refine s_wr7 hE3 (fun μ4 f4 e4 => ⟨Or.inr rfl, h2 _ rfl μ4 (fun a k y1 y2 y3 => (f4 a k y2).trans ((f3 a k (by omega) (by omega) (by omega)).trans (fr2 a k y1))) (Tm_of t3 (fun a k p1 p2 => f4 a k (by unfold ntc; omega))) e4⟩)
theorem s_useClaim {fs : List Fn} {ls : Ls} {nt : Nt} {c c' v : Int} {N G : Cm} {μ : ZM} {K : Int → ZM → Prop} (ho : okF fs) (hE : EnC μ fs ls nt) (hc : z_cm c) (hc' : z_cm c') (hc2 : 198 ≤ c ∧ c ≤ 200) (hc2' : 201 ≤ c' ∧ c' ≤ 203) (hv : 0 ≤ v ∧ v ≤ 2) (hN : Q2 μ fs c N) (hG : Q2 μ fs c' G) (oN : okQ fs N) (oG : okQ fs G) (h0 : (use fs v N G nt).1 = none → ∀ μ', (∀ a k, ¬ scC a k → ¬ ntc a k → ¬ (6 * (c' - 187) + 1 ≤ a ∧ a ≤ 6 * (c' - 187) + 6) → μ' a k = μ a k) → EnC μ' fs ls (use fs v N G nt).2 → K 0 μ') (h1 : ∀ g, (use fs v N G nt).1 = some g → ∀ μ', (∀ a k, ¬ scC a k → ¬ ntc a k → ¬ (6 * (c' - 187) + 1 ≤ a ∧ a ≤ 6 * (c' - 187) + 6) → μ' a k = μ a k) → EnC μ' fs ls (use fs v N G nt).2 → Q2 μ' fs c' g → K 1 μ') : P_X8_useClaim c c' v μ K := by
  have b := hc
  have b' := hc'
  unfold z_cm at b b'
  have g00 : ∀ q : Cm, gs q 0 = q.1 := fun q => rfl
  have g11 : ∀ q : Cm, gs q 1 = q.2 := fun q => rfl
  refine ⟨hc, hc', ?_⟩
  refine z_lf1_ind (fun x μ' => (∀ a k, ¬ scC a k → μ' a k = μ a k) ∧ (x = 0 ∨ (x = 1 ∧ us1 fs v N.1 N.2 G.1 = none) ∨ (x = 2 ∧ us1 fs v N.1 N.2 G.1 = none ∧ us1 fs v N.2 N.1 G.2 = none))) (fun x _ => (2 - x).toNat) ?_ 0 μ ⟨fun _ _ _ => rfl, Or.inl rfl⟩
  intro x μ1 G3 ⟨f1, hx⟩ hH
  have hE1 : EnC μ1 fs ls nt := hE.sc (fun a k y _ => f1 a k y)
  have hN1 : Q2 μ1 fs c N := hN.ex (fun a k p1 p2 => f1 a k (by unfold scC; omega))
  have hG1 : Q2 μ1 fs c' G := hG.ex (fun a k p1 p2 => f1 a k (by unfold scC; omega))
  rcases hx with hx | ⟨hx, u0⟩ | ⟨hx, u0, u1⟩
  · subst hx
    refine ifb (fun g => absurd g (by decide)) (fun _ => s_useSide (w := 0) ho hE1 hc hc' hc2 hc2' (by omega) hv hN1 hG1 oN oG (fun hu μ2 f2 => ⟨⟨by omega, by omega⟩, hH _ _ ⟨fun a k y => (f2 a k y).trans (f1 a k y), Or.inr (Or.inl ⟨by omega, hu⟩)⟩ (by omega)⟩) (fun hu μ2 f2 => ?_) (fun T hu μ2 f2 t2 e2 => ?_))
    · have hu' : us1 fs v N.1 N.2 G.1 = some none := hu
      have eu : use fs v N G nt = (none, nt) := by unfold use; rw [hu']
      rw [eu] at h0
      exact h0 rfl μ2 (fun a k y1 _ _ => (f2 a k y1).trans (f1 a k y1)) (hE.sc (fun a k y _ => (f2 a k y).trans (f1 a k y)))
    · have hu' : us1 fs v N.1 N.2 G.1 = some (some T) := hu
      have eu : use fs v N G nt = (some (T, G.2), an nt 5 0) := by unfold use; rw [hu']
      rw [eu] at h1
      rw [show 6 * (c' - 187) + 1 + 3 * 0 = 6 * (c' - 187) + 1 by omega] at t2 f2
      exact h1 _ rfl μ2 (fun a k y1 y2 y3 => (f2 a k y1 y2 (by omega)).trans (f1 a k y1)) e2 ⟨t2, Tm_of hG1.2 (fun a k p1 p2 => f2 a k (by unfold scC; omega) (by unfold ntc; omega) (by omega))⟩
  · subst hx
    refine ifb (fun g => absurd g (by decide)) (fun _ => s_useSide (w := 1) ho hE1 hc hc' hc2 hc2' (by omega) hv hN1 hG1 oN oG (fun hu μ2 f2 => ⟨⟨by omega, by omega⟩, hH _ _ ⟨fun a k y => (f2 a k y).trans (f1 a k y), Or.inr (Or.inr ⟨by omega, u0, hu⟩)⟩ (by omega)⟩) (fun hu μ2 f2 => ?_) (fun T hu μ2 f2 t2 e2 => ?_))
    · have hu' : us1 fs v N.2 N.1 G.2 = some none := hu
      have eu : use fs v N G nt = (none, nt) := by unfold use; rw [u0]; dsimp only; rw [hu']
      rw [eu] at h0
      exact h0 rfl μ2 (fun a k y1 _ _ => (f2 a k y1).trans (f1 a k y1)) (hE.sc (fun a k y _ => (f2 a k y).trans (f1 a k y)))
    · have hu' : us1 fs v N.2 N.1 G.2 = some (some T) := hu
      have eu : use fs v N G nt = (some (G.1, T), an nt 5 1) := by unfold use; rw [u0]; dsimp only; rw [hu']
      rw [eu] at h1
      rw [show 6 * (c' - 187) + 1 + 3 * 1 = 6 * (c' - 187) + 4 by omega] at t2
      exact h1 _ rfl μ2 (fun a k y1 y2 y3 => (f2 a k y1 y2 (by omega)).trans (f1 a k y1)) e2 ⟨Tm_of hG1.1 (fun a k p1 p2 => f2 a k (by unfold scC; omega) (by unfold ntc; omega) (by omega)), t2⟩
  · subst hx
    have eu : use fs v N G nt = (some G, nt) := by unfold use; rw [u0]; dsimp only; rw [u1]
    rw [eu] at h1
    exact ifb (fun _ => ⟨Or.inr rfl, h1 G rfl μ1 (fun a k y _ _ => f1 a k y) hE1 hG1⟩) (fun g => absurd (by decide) g)
theorem s_guess {fs : List Fn} {ls : Ls} {nt : Nt} {c c' : Int} {G : Cm} {μ : ZM} {K : Int → ZM → Prop} (ho : okF fs) (hE : EnC μ fs ls nt) (hc : z_cm c) (hc' : z_cm c') (hc2 : 201 ≤ c ∧ c ≤ 203) (hc2' : 195 ≤ c' ∧ c' ≤ 197) (hG : Q2 μ fs c G) (oG : okQ fs G) (h : ∀ μ', (∀ a k, ¬ scC a k → ¬ (6 * (c' - 187) + 1 ≤ a ∧ a ≤ 6 * (c' - 187) + 6) → μ' a k = μ a k) → Q2 μ' fs c' (gue fs G).2 → K (gue fs G).1 μ') : P_X8_guess c c' μ K := by
  have hl := hE.1.2.1
  have b := hc
  have b' := hc'
  unfold z_cm at b b'
  have og := gz_ok (m := 40) ho hl oG.1 oG.2.1 oG.2.2.1 oG.2.2.2 (by omega)
  unfold gue at h
  refine ⟨hc, hc', s_generalize ho hE.1 hc hc' (by omega) hG.1 hG.2 oG.1 oG.2.1 oG.2.2.1 oG.2.2.2 (fun μ1 f1 t1 t2 => ?_)⟩
  refine ifb (fun g => ?_) (fun g => ?_)
  · rw [if_pos (Or.inl g)] at h
    have eg : gz fs G.1 G.2 = (-9, G.1, G.2) := by
      unfold gz at g ⊢
      by_cases y : cm fs G.1 G.2 = -9 ∨ fvr G.1 G.2 = -9
      · rw [if_pos y]
      · rw [if_neg y] at g
        exact absurd g (fun z => y (Or.inr z))
    rw [eg] at t1 t2 ⊢
    exact h μ1 (fun a k _ y => f1 a k y) ⟨t1, t2⟩
  · have hE1 : EnC μ1 fs ls nt := hE.sc (fun a k y1 y2 => f1 a k (by omega))
    refine s_refX (q := (gz fs G.1 G.2).2) ho hE1.1 hc' ⟨t1, t2⟩ og (fun hx μ2 f2 => if1 ?_) (fun hx μ2 f2 => if0 ?_)
    · rw [if_pos (Or.inr hx)] at h
      have hG2 : Q2 μ2 fs c G := hG.ex (fun a k p1 p2 => (f2 a k (by unfold scC; omega)).trans (f1 a k (by omega)))
      exact s_copy0 hc' hc (by omega) hG2.1 hG2.2 oG.2.2.1 oG.2.2.2 (fun μ3 f3 u1 u2 => h μ3 (fun a k y1 y2 => (f3 a k y2).trans ((f2 a k y1).trans (f1 a k y2))) ⟨u1, u2⟩)
    · rw [if_neg (fun y => y.elim g hx)] at h
      exact h μ2 (fun a k y1 y2 => (f2 a k y1).trans (f1 a k y2)) ⟨Tm_of t1 (fun a k p1 p2 => f2 a k (by unfold scC; omega)), Tm_of t2 (fun a k p1 p2 => f2 a k (by unfold scC; omega))⟩
