theorem atK_C {L a k : Int} (h : atK L a k) : atC L a k := by
  unfold atK at h
  unfold atC
  rcases h with h | h
  · exact Or.inl h
  · exact Or.inr (by omega)
theorem c_cases {fs : List Fn} {pa : Int → ZM → (Int → ZM → Prop) → Prop} {rc : Cm → Ls → Nt → Rs} {L v d : Int} {q N : Cm} {ls0 : Ls} {nt0 : Nt} {μ0 : ZM} {K : Int → ZM → Prop} (ho : okF fs) (hl : fs.length ≤ 6) (hL : 0 ≤ L ∧ L ≤ 2) (hok : okR fs rc) (hr : L < 2 → SpC fs (pa (L + 1)) rc (L + 1)) (hE : EnC μ0 fs ls0 nt0) (hLs : okL fs ls0) (h4 : μ0 240 4 = 0) (hv : 0 ≤ v ∧ v ≤ 2) (hd : d = 1 ∨ d = 2) (hQ : Q2 μ0 fs (195 + 1 * L) q) (oq : okQ fs q) (hN : Q2 μ0 fs (198 + 1 * L) N) (oN : okQ fs N) (h : ∀ μ', (∀ a k, ¬ atC L a k → μ' a k = μ0 a k) → EnC μ' fs (cas rc fs L q N v d (d + 1).toNat 0 ls0 nt0).2.1 (cas rc fs L q N v d (d + 1).toNat 0 ls0 nt0).2.2.1 → cwC μ' L (cas rc fs L q N v d (d + 1).toNat 0 ls0 nt0) → K (cas rc fs L q N v d (d + 1).toNat 0 ls0 nt0).1 μ') : P_X8_attempt_143 pa L v d 0 μ0 K := by
  generalize hR : cas rc fs L q N v d (d + 1).toNat 0 ls0 nt0 = R at *
  refine z_lf1_ind (fun c μ' => ∃ ls nt, EnC μ' fs ls nt ∧ okL fs ls ∧ μ' 240 4 = 0 ∧ 0 ≤ c ∧ c ≤ d + 1 ∧ cas rc fs L q N v d (d + 1 - c).toNat c ls nt = R ∧ (∀ a k, ¬ atC L a k → μ' a k = μ0 a k) ∧ Q2 μ' fs (195 + 1 * L) q ∧ Q2 μ' fs (198 + 1 * L) N) (fun c _ => (d + 1 - c).toNat) ?_ 0 μ0 ⟨ls0, nt0, hE, hLs, h4, by omega, by omega, by rw [show d + 1 - 0 = d + 1 by omega]; exact hR, fun _ _ _ => rfl, hQ, hN⟩
  intro c μ G ⟨ls, nt, e1, e2, e3, e4, e5, e6, e7, e8, e9⟩ hG
  refine ifb (fun g => ?_) (fun g => ?_)
  · rw [show (d + 1 - c).toNat = 0 by omega] at e6
    have e6' : R = (0, kp ls q, an nt 7 L, []) := e6.symm
    rw [e6'] at h
    refine s_succeed e1 e2 hL e8 oq (fun μ1 f1 w1 => h μ1 (fun a k y => (f1 a k (by unfold atC at y; unfold ntc; omega) (by unfold atC at y; omega) (by unfold atC at y; omega)).trans (e7 a k y)) w1 ⟨fun y => ?_, fun _ => (f1 _ _ (by unfold ntc; omega) (by omega) (by omega)).trans e3⟩)
    rcases y with y | y
    · exact absurd (show (0 : Int) = 1 from y) (by decide)
    · exact absurd (show (0 : Int) = 2 from y) (by decide)
  · have okc := cse_ok (L := L) (d := d) (c := c) (nt := nt) ho hl hok e2 oN (Or.inr ⟨hv.1, hv.2, e4, by omega⟩)
    rw [show (d + 1 - c).toNat = (d + 1 - (c + 1)).toNat + 1 by omega] at e6
    unfold cas at e6
    refine c_case (d := d) ho hL hr e1 e2 e3 hv ⟨e4, by omega⟩ e9 oN (fun μ1 f1 w1 c1 => ?_)
    have f1' : ∀ a k, ¬ atC L a k → μ1 a k = μ0 a k := fun a k y => (f1 a k (fun z => y (atK_C z))).trans (e7 a k y)
    generalize hr2 : cse rc fs L N v d c ls nt = r2 at *
    refine ifb (fun g1 => ?_) (fun g1 => ifb (fun g2 => ?_) (fun g2 => ?_))
    · rw [if_pos g1] at e6
      subst e6
      have := h μ1 f1' w1 ⟨fun y => by omega, c1.2⟩
      rw [g1] at this
      exact this
    · rw [if_neg g1, if_pos g2] at e6
      refine ⟨⟨by omega, by omega⟩, hG _ _ ⟨r2.2.1, r2.2.2.1, w1, okc.1, c1.2 (Or.inl g2), by omega, by omega, e6, f1', e8.ex (fun a k p1 p2 => f1 a k (by unfold atK scC; omega)), e9.ex (fun a k p1 p2 => f1 a k (by unfold atK scC; omega))⟩ (by omega)⟩
    · rw [if_neg g1, if_neg g2] at e6
      subst e6
      have hc := c1.1 (by omega)
      refine s_fail (cs := r2.2.2.2) w1 hL (Or.inr hc) (fun μ2 f2 w2 m1 m2 => h μ2 (fun a k y => (f2 a k (by unfold atC at y; unfold ntc; omega) (by unfold atC at y; omega) (by unfold atC at y; omega)).trans (f1' a k y)) w2 ⟨fun _ => ⟨m1, m2⟩, fun y => ?_⟩)
      rcases y with y | y
      · exact absurd (show (2 : Int) = 0 from y) (by decide)
      · exact absurd (show (2 : Int) = 3 from y) (by decide)
theorem k_att {fs : List Fn} (ho : okF fs) (hl : fs.length ≤ 6) : ∀ (n : Nat) (L : Int), 0 ≤ L → L + (n : Int) = 3 → n ≠ 0 → SpC fs (P_att n L) (att fs n L) L
  | 0, _, _, _, h => absurd rfl h
  | n + 1, L, h0, h3, _ => by
    intro μ q ls nt K hE hLs h4 hQ oq h
    have hL : 0 ≤ L ∧ L ≤ 2 := ⟨h0, by omega⟩
    have zs : z_cm (195 + 1 * L) := by unfold z_cm; omega
    have zc : z_cm (198 + 1 * L) := by unfold z_cm; omega
    have hrec : L < 2 → SpC fs (P_att n (L + 1)) (att fs n (L + 1)) (L + 1) := fun y => k_att ho hl n (L + 1) (by omega) (by omega) (by omega)
    show P_X8_attempt (P_att n) L μ K
    unfold att at h
    refine ifb (fun g => absurd g (by omega)) (fun _ => ifb (fun _ => ?_) (fun g => absurd (by omega) g))
    refine s_wr7 hE (fun μ1 f1 e1 => ⟨by omega, s_refX ho e1.1 zs (hQ.ex (fun a k p1 p2 => f1 a k (by unfold ntc; omega))) oq (fun hx μ2 f2 => if1 ?_) (fun hx μ2 f2 => if0 ⟨by omega, by omega, ?_⟩)⟩)
    · rw [if_pos hx] at h
      refine s_fail (cs := []) (e1.sc (fun a k y _ => f2 a k y)) hL (Or.inl ⟨rfl, (f2 _ _ (by unfold scC; omega)).trans ((f1 _ _ (by unfold ntc; omega)).trans h4)⟩) (fun μ3 f3 w3 m1 m2 => h μ3 (fun a k y => ?_) w3 ⟨fun _ => ⟨m1, m2⟩, fun y => ?_⟩)
      · rw [f3 a k (by unfold atC at y; unfold ntc; omega) (by unfold atC at y; omega) (by unfold atC at y; omega), f2 a k (fun z => y (Or.inl z))]
        exact f1 a k (by unfold atC at y; unfold ntc; omega)
      · rcases y with y | y
        · exact absurd (show (1 : Int) = 0 from y) (by decide)
        · exact absurd (show (1 : Int) = 3 from y) (by decide)
    · rw [if_neg hx] at h
      have e2 : EnC μ2 fs ls (an nt 0 L) := e1.sc (fun a k y _ => f2 a k y)
      have f2' : ∀ a k, ¬ atC L a k → μ2 a k = μ a k := fun a k y => (f2 a k (fun z => y (Or.inl z))).trans (f1 a k (by unfold atC at y; unfold ntc; omega))
      have h42 : μ2 240 4 = 0 := (f2 _ _ (by unfold scC; omega)).trans ((f1 _ _ (by unfold ntc; omega)).trans h4)
      have hQ2 : Q2 μ2 fs (195 + 1 * L) q := hQ.ex (fun a k p1 p2 => (f2 a k (by unfold scC; omega)).trans (f1 a k (by unfold ntc; omega)))
      refine s_norm8 (v := -9) (k := 0) (o := 0) ho e2.1 e2.2.1 zs zc (by omega) (Or.inr (by omega)) hQ2 oq (Or.inl rfl) (fun hn μ3 f3 => if0 ?_) (fun N hn μ3 f3 q3 => if1 ?_)
      · rw [sb2_9] at hn
        rw [hn] at h
        refine h μ3 (fun a k y => (f3 a k (fun z => y (Or.inl z)) (by unfold atC at y; omega)).trans (f2' a k y)) (e2.sc (fun a k y1 y2 => f3 a k y1 (by omega))) ⟨fun y => ?_, fun _ => (f3 _ _ (by unfold scC; omega) (by omega)).trans h42⟩
        rcases y with y | y
        · exact absurd (show (3 : Int) = 1 from y) (by decide)
        · exact absurd (show (3 : Int) = 2 from y) (by decide)
      · have oN := (nm2_ok ho hl (Or.inl rfl) oq hn).1
        rw [sb2_9] at hn
        rw [hn] at h
        dsimp only at h
        have e3 : EnC μ3 fs ls (an nt 0 L) := e2.sc (fun a k y1 y2 => f3 a k y1 (by omega))
        have f3' : ∀ a k, ¬ atC L a k → μ3 a k = μ a k := fun a k y => (f3 a k (fun z => y (Or.inl z)) (by unfold atC at y; omega)).trans (f2' a k y)
        have h43 : μ3 240 4 = 0 := (f3 _ _ (by unfold scC; omega) (by omega)).trans h42
        have hQ3 : Q2 μ3 fs (195 + 1 * L) q := hQ2.ex (fun a k p1 p2 => f3 a k (by unfold scC; omega) (by omega))
        refine s_trivial zc q3 oN (fun g => if1 ?_) (fun g => if0 ?_)
        · rw [if_pos g] at h
          refine s_wr7 e3 (fun μ4 f4 w4 => s_succeed w4 hLs hL (hQ3.ex (fun a k p1 p2 => f4 a k (by unfold ntc; omega))) oq (fun μ5 f5 w5 => h μ5 (fun a k y => ?_) w5 ⟨fun y => ?_, fun _ => ?_⟩))
          · rw [f5 a k (by unfold atC at y; unfold ntc; omega) (by unfold atC at y; omega) (by unfold atC at y; omega), f4 a k (by unfold atC at y; unfold ntc; omega)]
            exact f3' a k y
          · rcases y with y | y
            · exact absurd (show (0 : Int) = 1 from y) (by decide)
            · exact absurd (show (0 : Int) = 2 from y) (by decide)
          · rw [f5 _ _ (by unfold ntc; omega) (by omega) (by omega), f4 _ _ (by unfold ntc; omega)]; exact h43
        · rw [if_neg g] at h
          refine s_indVar (A := N.1) (B := N.2) ho e3.1 zc ⟨q3.1.1, q3.1.2.1⟩ ⟨q3.2.1, q3.2.2.1⟩ oN.1 oN.2.1 oN.2.2.1 oN.2.2.2 (ifb (fun g1 => ?_) (fun g1 => ?_))
          · rw [if_pos g1] at h
            refine s_fail (cs := []) e3 hL (Or.inl ⟨rfl, h43⟩) (fun μ4 f4 w4 m1 m2 => h μ4 (fun a k y => ?_) w4 ⟨fun _ => ⟨m1, m2⟩, fun y => ?_⟩)
            · rw [f4 a k (by unfold atC at y; unfold ntc; omega) (by unfold atC at y; omega) (by unfold atC at y; omega)]
              exact f3' a k y
            · rcases y with y | y
              · exact absurd (show (2 : Int) = 0 from y) (by decide)
              · exact absurd (show (2 : Int) = 3 from y) (by decide)
          · rw [if_neg g1] at h
            obtain ⟨d1, d2, d3, -⟩ := sc_d g1
            refine s_deepestCall (A := N.1) (B := N.2) ho e3.1 zc d1 ⟨q3.1.1, q3.1.2.1⟩ ⟨q3.2.1, q3.2.2.1⟩ oN.1 oN.2.1 oN.2.2.1 oN.2.2.2 ?_
            have ed : dd (sg (fun i => cp fs N.1 (sc fs N.1 N.2 3).1 0 i + cp fs N.2 (sc fs N.1 N.2 3).1 0 i) 40) (sg (fun i => cp fs N.1 (sc fs N.1 N.2 3).1 2 i + cp fs N.2 (sc fs N.1 N.2 3).1 2 i) 40) = (sc fs N.1 N.2 3).2.2 := d3.symm
            rw [ed]
            generalize (sc fs N.1 N.2 3).2.2 = d at *
            generalize (sc fs N.1 N.2 3).1 = v at *
            refine ⟨⟨by omega, by omega⟩, ⟨by omega, by omega⟩, s_wr7 e3 (fun μ4 f4 w4 => ?_)⟩
            exact c_cases ho hl hL (att_ok ho hl n (L + 1)) hrec w4 hLs ((f4 _ _ (by unfold ntc; omega)).trans h43) d1 d2 (hQ3.ex (fun a k p1 p2 => f4 a k (by unfold ntc; omega))) oq (q3.ex (fun a k p1 p2 => f4 a k (by unfold ntc; omega))) oN (fun μ5 f5 w5 c5 => h μ5 (fun a k y => (f5 a k y).trans ((f4 a k (by unfold atC at y; unfold ntc; omega)).trans (f3' a k y))) w5 c5)
