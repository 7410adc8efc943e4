/-! ===== attempts: the class ===== -/
def atC (L a k : Int) : Prop := scC a k ∨ (55 + 6 * L ≤ a ∧ a ≤ 66) ∨ (67 + 6 * L ≤ a ∧ a ≤ 102 ∧ (a ≤ 84 ∨ 85 + 6 * L ≤ a)) ∨ (1 ≤ a ∧ a ≤ 48) ∨ a = 238 ∨ (240 ≤ a ∧ a ≤ 243)
def atK (L a k : Int) : Prop := scC a k ∨ (55 + 6 * L ≤ a ∧ a ≤ 66) ∨ (73 + 6 * L ≤ a ∧ a ≤ 102 ∧ (a ≤ 84 ∨ 85 + 6 * L ≤ a)) ∨ (1 ≤ a ∧ a ≤ 48) ∨ a = 238 ∨ (240 ≤ a ∧ a ≤ 243)
def cwC (μ : ZM) (L : Int) (r : Rs) : Prop := (r.1 = 1 ∨ r.1 = 2 → μ 240 4 = L + (r.2.2.2.length : Int) ∧ ∀ i : Int, 0 ≤ i → i < (r.2.2.2.length : Int) → μ 243 (L + i) = gt r.2.2.2 i) ∧ (r.1 = 0 ∨ r.1 = 3 → μ 240 4 = 0)
def SpC (fs : List Fn) (P : ZM → (Int → ZM → Prop) → Prop) (rc : Cm → Ls → Nt → Rs) (L : Int) : Prop := ∀ (μ : ZM) (q : Cm) (ls : Ls) (nt : Nt) (K : Int → ZM → Prop), EnC μ fs ls nt → okL fs ls → μ 240 4 = 0 → Q2 μ fs (195 + 1 * L) q → okQ fs q → (∀ μ', (∀ a k, ¬ atC L a k → μ' a k = μ a k) → EnC μ' fs (rc q ls nt).2.1 (rc q ls nt).2.2.1 → cwC μ' L (rc q ls nt) → K (rc q ls nt).1 μ') → P μ K
theorem EnC.bl {μ μ' : ZM} {fs : List Fn} {ls : Ls} {nt : Nt} (h : EnC μ fs ls nt) (e : ∀ a k, ¬ (a = 240 ∧ k = 4) → a ≠ 243 → μ' a k = μ a k) : EnC μ' fs ls nt := by
  obtain ⟨h1, h2, h3, h4⟩ := h
  exact ⟨h1.fr (fun a ha k => e _ _ (by omega) (by omega)) (e _ _ (by omega) (by omega)), h2.fr (fun a k p1 p2 => e _ _ (by omega) (by omega)), h3.fr (fun a ha k => e _ _ (by omega) (by omega)) (e _ _ (by omega) (by omega)), h4.fr (e _ _ (by omega) (by omega)) (fun k => e _ _ (by omega) (by omega)) (fun k => e _ _ (by omega) (by omega))⟩
theorem s_blame {x f : Int} {μ : ZM} {K : ZM → Prop} (hx : 0 ≤ x ∧ x ≤ 3) (h : ∀ μ', (∀ a k, ¬ (a = 240 ∧ k = 4) → ¬ (a = 243 ∧ k = x) → μ' a k = μ a k) → μ' 243 x = f → μ' 240 4 = max (μ 240 4) (x + 1) → K μ') : P_X7_blame x f μ K := by
  unfold P_X7_blame
  rw [if_neg (by omega), if_neg (by omega)]
  simp only [z_wr]
  rw [zu_n (show (240 : Int) ≠ 243 by decide)]
  exact ⟨by omega, ⟨by omega, by omega⟩, h _ (fun a k y1 y2 => by rw [zu_f y1, zu_f y2]) (by rw [zu_n (by decide), zu_s]) zu_s⟩
theorem s_fail {fs : List Fn} {ls : Ls} {nt : Nt} {L kd : Int} {cs : List Int} {μ : ZM} {K : Int → ZM → Prop} (hE : EnC μ fs ls nt) (hL : 0 ≤ L ∧ L ≤ 2) (hc : (cs = [] ∧ μ 240 4 = 0) ∨ (μ 240 4 = L + 1 + (cs.length : Int) ∧ ∀ i : Int, 0 ≤ i → i < (cs.length : Int) → μ 243 (L + 1 + i) = gt cs i)) (h : ∀ μ', (∀ a k, ¬ ntc a k → ¬ (a = 240 ∧ k = 4) → a ≠ 243 → μ' a k = μ a k) → EnC μ' fs ls (an nt 8 kd) → μ' 240 4 = L + ((kd :: cs).length : Int) → (∀ i : Int, 0 ≤ i → i < ((kd :: cs).length : Int) → μ' 243 (L + i) = gt (kd :: cs) i) → K kd μ') : P_X8_fail L kd μ K := by
  refine s_wr7 hE (fun μ1 f1 e1 => s_blame (by omega) (fun μ2 f2 b1 b2 => ?_))
  have m4 : μ1 240 4 = μ 240 4 := f1 _ _ (by unfold ntc; omega)
  refine h μ2 (fun a k y1 y2 y3 => (f2 a k y2 (by omega)).trans (f1 a k y1)) (e1.bl (fun a k y1 y2 => f2 a k y1 (by omega))) ?_ (fun i p1 p2 => ?_)
  · rw [b2, m4, List.length_cons]
    rcases hc with ⟨q1, q2⟩ | ⟨q1, q2⟩
    · rw [q1, q2]; simp; omega
    · omega
  · by_cases g : i = 0
    · rw [g, Int.add_zero, b1]; rfl
    · rw [List.length_cons] at p2
      rcases hc with ⟨q1, q2⟩ | ⟨q1, q2⟩
      · rw [q1] at p2; simp at p2; omega
      · rw [f2 _ _ (by omega) (by omega), f1 _ _ (by unfold ntc; omega)]
        have := q2 (i - 1) (by omega) (by omega)
        rw [show L + 1 + (i - 1) = L + i by omega] at this
        rw [this]
        unfold gt
        rw [show i.toNat = (i - 1).toNat + 1 by omega]
        rfl
theorem s_succeed {fs : List Fn} {ls : Ls} {nt : Nt} {L : Int} {q : Cm} {μ : ZM} {K : Int → ZM → Prop} (hE : EnC μ fs ls nt) (hLs : okL fs ls) (hL : 0 ≤ L ∧ L ≤ 2) (hQ : Q2 μ fs (195 + 1 * L) q) (hq : okQ fs q) (h : ∀ μ', (∀ a k, ¬ ntc a k → ¬ (1 ≤ a ∧ a ≤ 48) → a ≠ 238 → μ' a k = μ a k) → EnC μ' fs (kp ls q) (an nt 7 L) → K 0 μ') : P_X8_succeed L μ K := by
  refine s_wr7 hE (fun μ1 f1 e1 => ⟨by omega, s_keep (by unfold z_cm; omega) (by omega) e1.2.2.1 hLs (hQ.ex (fun a k p1 p2 => f1 a k (by unfold ntc; omega))) hq (fun μ2 f2 c2 => ?_)⟩)
  obtain ⟨h1, h2, h3, h4⟩ := e1
  exact h μ2 (fun a k y1 y2 y3 => (f2 a k y2 y3).trans (f1 a k y1)) ⟨h1.fr (fun a ha k => f2 _ _ (by omega) (by omega)) (f2 _ _ (by omega) (by omega)), h2.fr (fun a k p1 p2 => f2 _ _ (by omega) (by omega)), c2, h4.fr (f2 _ _ (by omega) (by omega)) (fun k => f2 _ _ (by omega) (by omega)) (fun k => f2 _ _ (by omega) (by omega))⟩
theorem atC_K {L a k : Int} (h : atC (L + 1) a k) : atK L a k := by
  unfold atC at h
  unfold atK
  rcases h with h | h
  · exact Or.inl h
  · exact Or.inr (by omega)
theorem c_nxt {fs : List Fn} {pa : Int → ZM → (Int → ZM → Prop) → Prop} {rc : Cm → Ls → Nt → Rs} {L : Int} {G : Cm} {ls : Ls} {nt : Nt} {μ : ZM} {K : Int → ZM → Prop} (ho : okF fs) (hL : 0 ≤ L ∧ L ≤ 2) (hr : L < 2 → SpC fs (pa (L + 1)) rc (L + 1)) (hE : EnC μ fs ls nt) (hLs : okL fs ls) (h4 : μ 240 4 = 0) (hG : Q2 μ fs (201 + 1 * L) G) (oG : okQ fs G) (h : ∀ μ', (∀ a k, ¬ atK L a k → μ' a k = μ a k) → EnC μ' fs (nxt rc fs L G ls nt).2.1 (nxt rc fs L G ls nt).2.2.1 → cwC μ' (L + 1) (nxt rc fs L G ls nt) → K (nxt rc fs L G ls nt).1 μ') : P_X8_proveCase_139 pa L (201 + 1 * L) μ K := by
  have hl := hE.1.2.1
  unfold nxt at h
  refine ⟨⟨by omega, by omega⟩, ifb (fun g => ?_) (fun g => ?_)⟩
  · rw [if_neg (by omega)] at h
    refine ⟨⟨by omega, by omega⟩, by omega, s_guess ho hE (by unfold z_cm; omega) (by unfold z_cm; omega) (by omega) (by omega) hG oG (fun μ1 f1 q1 => ?_)⟩
    have hE1 : EnC μ1 fs ls nt := hE.sc (fun a k y1 y2 => f1 a k y1 (by omega))
    refine s_wr7 hE1 (fun μ2 f2 e2 => ⟨⟨by omega, by omega⟩, hr (by omega) μ2 (gue fs G).2 ls _ _ e2 hLs ?_ (q1.ex (fun a k p1 p2 => f2 a k (by unfold ntc; omega))) (gue_ok ho hl oG) (fun μ3 f3 e3 c3 => h μ3 (fun a k y => ?_) e3 c3)⟩)
    · rw [f2 _ _ (by unfold ntc; omega), f1 _ _ (by unfold scC; omega) (by omega)]; exact h4
    · rw [f3 a k (fun z => y (atC_K z)), f2 a k (by unfold atK at y; unfold ntc; omega)]
      exact f1 a k (fun z => y (Or.inl z)) (by unfold atK at y; omega)
  · have e2 : L = 2 := by omega
    rw [if_pos e2] at h
    refine ⟨⟨by omega, by omega⟩, s_blame (by omega) (fun μ1 f1 b1 b2 => h μ1 (fun a k y => f1 a k (by unfold atK at y; omega) (by unfold atK at y; omega)) (hE.bl (fun a k y1 y2 => f1 a k y1 (by omega))) ⟨fun _ => ⟨?_, fun i p1 p2 => ?_⟩, fun y => ?_⟩)⟩
    · rw [b2, h4]; show max 0 (L + 1 + 1) = L + 1 + 1; omega
    · have hi : i = 0 := by simp at p2; omega
      rw [hi, Int.add_zero, b1]; rfl
    · rcases y with y | y
      · exact absurd (show (2 : Int) = 0 from y) (by decide)
      · exact absurd (show (2 : Int) = 3 from y) (by decide)
theorem c_case {fs : List Fn} {pa : Int → ZM → (Int → ZM → Prop) → Prop} {rc : Cm → Ls → Nt → Rs} {L c v d : Int} {N : Cm} {ls : Ls} {nt : Nt} {μ : ZM} {K : Int → ZM → Prop} (ho : okF fs) (hL : 0 ≤ L ∧ L ≤ 2) (hr : L < 2 → SpC fs (pa (L + 1)) rc (L + 1)) (hE : EnC μ fs ls nt) (hLs : okL fs ls) (h4 : μ 240 4 = 0) (hv : 0 ≤ v ∧ v ≤ 2) (hc : 0 ≤ c ∧ c ≤ 2) (hN : Q2 μ fs (198 + 1 * L) N) (oN : okQ fs N) (h : ∀ μ', (∀ a k, ¬ atK L a k → μ' a k = μ a k) → EnC μ' fs (cse rc fs L N v d c ls nt).2.1 (cse rc fs L N v d c ls nt).2.2.1 → cwC μ' (L + 1) (cse rc fs L N v d c ls nt) → K (cse rc fs L N v d c ls nt).1 μ') : P_X8_proveCase pa L c v d μ K := by
  have hl := hE.1.2.1
  have zc : z_cm (198 + 1 * L) := by unfold z_cm; omega
  have zg : z_cm (201 + 1 * L) := by unfold z_cm; omega
  have hp : okP v c := Or.inr ⟨hv.1, hv.2, hc.1, hc.2⟩
  refine s_wr7 hE (fun μ1 f1 e1 => ?_)
  have h41 : μ1 240 4 = 0 := (f1 _ _ (by unfold ntc; omega)).trans h4
  have main : ∀ o : Int, o = (if c = d then 1 else 0) → P_X8_proveCase_20 pa L c v o μ1 K := by
    intro o hoo
    unfold cse at h
    rw [← hoo] at h
    refine ⟨by omega, by omega, s_norm8 ho e1.1 e1.2.1 zc zg (by omega) (Or.inr (by omega)) (hN.ex (fun a k p1 p2 => f1 a k (by unfold ntc; omega))) oN hp (fun hn μ2 f2 => if0 ?_) (fun G hn μ2 f2 q2 => if1 ?_)⟩
    · rw [hn] at h
      refine h μ2 (fun a k y => ?_) (e1.sc (fun a k y1 y2 => f2 a k y1 (by omega))) ⟨fun y => ?_, fun _ => ?_⟩
      · rw [f2 a k (fun z => y (Or.inl z)) (by unfold atK at y; omega), f1 a k (by unfold atK at y; unfold ntc; omega)]
      · rcases y with y | y
        · exact absurd (show (3 : Int) = 1 from y) (by decide)
        · exact absurd (show (3 : Int) = 2 from y) (by decide)
      · exact (f2 _ _ (by unfold scC; omega) (by omega)).trans h41
    · rw [hn] at h
      dsimp only at h
      have oG := (nm2_ok ho hl hp oN hn).1
      have e2 : EnC μ2 fs ls (an nt 3 c) := e1.sc (fun a k y1 y2 => f2 a k y1 (by omega))
      have h42 : μ2 240 4 = 0 := (f2 _ _ (by unfold scC; omega) (by omega)).trans h41
      have fr2 : ∀ a k, ¬ atK L a k → μ2 a k = μ a k := fun a k y => by
        rw [f2 a k (fun z => y (Or.inl z)) (by unfold atK at y; omega), f1 a k (by unfold atK at y; unfold ntc; omega)]
      refine s_trivial zg q2 oG (fun g => if1 ?_) (fun g => if0 ?_)
      · rw [if_pos g] at h
        refine h μ2 fr2 e2 ⟨fun y => ?_, fun _ => h42⟩
        rcases y with y | y
        · exact absurd (show (0 : Int) = 1 from y) (by decide)
        · exact absurd (show (0 : Int) = 2 from y) (by decide)
      · rw [if_neg g] at h
        by_cases gd : c = d
        · rw [if_pos gd] at hoo h
          subst hoo
          rw [if_neg (by decide)]
          have N2 : Q2 μ2 fs (198 + 1 * L) N := hN.ex (fun a k p1 p2 => fr2 a k (by unfold atK scC; omega))
          have okrp := rpq_ok (N := N) ho hl hLs oG
          refine s_ripple8 (w := 0) ho e2.1 e2.2.2.1 hLs e2.2.2.2 (Or.inl rfl) (by unfold z_tm; omega) (by omega) (by unfold z_tm; omega) (by omega) (by omega) q2.1 N2.1 oG.1 oN.1 oG.2.2.1 oN.2.2.1 (fun μ3 f3 t3 n3 => ?_)
          have f3' : ∀ a k, ¬ scC a k → ¬ ntc a k → ¬ (6 * (201 + 1 * L - 187) + 1 ≤ a ∧ a ≤ 6 * (201 + 1 * L - 187) + 6) → μ3 a k = μ2 a k := fun a k y1 y2 y3 => f3 a k (by unfold scC at y1; unfold rpc; omega) (by omega) (by omega) (by omega) (by unfold ntc at y2; omega) (by unfold ntc at y2; omega) (by unfold ntc at y2; omega)
          have e3 : EnC μ3 fs ls (ads 0 (an nt 3 c) (rpl fs ls N.1 1600 G.1).2) := ⟨e2.1.fr (fun a ha k => f3' _ _ (by unfold scC; omega) (by unfold ntc; omega) (by omega)) (f3' _ _ (by unfold scC; omega) (by unfold ntc; omega) (by omega)), e2.2.1.fr (fun a k p1 p2 => f3' _ _ (by unfold scC; omega) (by unfold ntc; omega) (by omega)), e2.2.2.1.fr (fun a ha k => f3' _ _ (by unfold scC; omega) (by unfold ntc; omega) (by omega)) (f3' _ _ (by unfold scC; omega) (by unfold ntc; omega) (by omega)), n3⟩
          have g23 : Tm μ3 fs (6 * (201 + 1 * L - 187) + 4) G.2 := Tm_of q2.2 (fun a k p1 p2 => f3 a k (by unfold rpc; omega) (by omega) (by omega) (by omega) (by omega) (by omega) (by omega))
          have N3 : Q2 μ3 fs (198 + 1 * L) N := N2.ex (fun a k p1 p2 => f3' a k (by unfold scC; omega) (by unfold ntc; omega) (by omega))
          refine s_ripple8 (w := 1) ho e3.1 e3.2.2.1 hLs e3.2.2.2 (Or.inr rfl) (by unfold z_tm; omega) (by omega) (by unfold z_tm; omega) (by omega) (by omega) g23 N3.2 oG.2.1 oN.2.1 oG.2.2.2 oN.2.2.2 (fun μ4 f4 t4 n4 => ?_)
          have f4' : ∀ a k, ¬ scC a k → ¬ ntc a k → ¬ (6 * (201 + 1 * L - 187) + 1 ≤ a ∧ a ≤ 6 * (201 + 1 * L - 187) + 6) → μ4 a k = μ3 a k := fun a k y1 y2 y3 => f4 a k (by unfold scC at y1; unfold rpc; omega) (by omega) (by omega) (by omega) (by unfold ntc at y2; omega) (by unfold ntc at y2; omega) (by unfold ntc at y2; omega)
          have e4 : EnC μ4 fs ls (ntq fs N G ls (an nt 3 c)) := ⟨e3.1.fr (fun a ha k => f4' _ _ (by unfold scC; omega) (by unfold ntc; omega) (by omega)) (f4' _ _ (by unfold scC; omega) (by unfold ntc; omega) (by omega)), e3.2.1.fr (fun a k p1 p2 => f4' _ _ (by unfold scC; omega) (by unfold ntc; omega) (by omega)), e3.2.2.1.fr (fun a ha k => f4' _ _ (by unfold scC; omega) (by unfold ntc; omega) (by omega)) (f4' _ _ (by unfold scC; omega) (by unfold ntc; omega) (by omega)), n4⟩
          have G4 : Q2 μ4 fs (201 + 1 * L) (rpq fs N G ls) := ⟨Tm_of t3 (fun a k p1 p2 => f4 a k (by unfold rpc; omega) (by omega) (by omega) (by omega) (by omega) (by omega) (by omega)), t4⟩
          have N4 : Q2 μ4 fs (198 + 1 * L) N := N3.ex (fun a k p1 p2 => f4' a k (by unfold scC; omega) (by unfold ntc; omega) (by omega))
          unfold car at h
          have h44 : μ4 240 4 = 0 := (f4' _ _ (by unfold scC; omega) (by unfold ntc; omega) (by omega)).trans ((f3' _ _ (by unfold scC; omega) (by unfold ntc; omega) (by omega)).trans h42)
          have fr4 : ∀ a k, ¬ atK L a k → μ4 a k = μ a k := fun a k y => by
            rw [f4' a k (fun z => y (Or.inl z)) (by unfold atK at y; unfold ntc; omega) (by unfold atK at y; omega), f3' a k (fun z => y (Or.inl z)) (by unfold atK at y; unfold ntc; omega) (by unfold atK at y; omega)]
            exact fr2 a k y
          refine s_useClaim ho e4 zc zg (by omega) (by omega) hv N4 G4 oN okrp (fun hu μ5 f5 e5 => if0 ?_) (fun g' hu μ5 f5 e5 q5 => if1 ?_)
          · rw [hu] at h
            dsimp only at h
            refine h μ5 (fun a k y => (f5 a k (fun z => y (Or.inl z)) (by unfold atK at y; unfold ntc; omega) (by unfold atK at y; omega)).trans (fr4 a k y)) e5 ⟨fun y => ?_, fun _ => (f5 _ _ (by unfold scC; omega) (by unfold ntc; omega) (by omega)).trans h44⟩
            rcases y with y | y
            · exact absurd (show (3 : Int) = 1 from y) (by decide)
            · exact absurd (show (3 : Int) = 2 from y) (by decide)
          · rw [hu] at h
            dsimp only at h
            have og' := use_ok ho hl oN okrp hu
            have h45 : μ5 240 4 = 0 := (f5 _ _ (by unfold scC; omega) (by unfold ntc; omega) (by omega)).trans h44
            have fr5 : ∀ a k, ¬ atK L a k → μ5 a k = μ a k := fun a k y => (f5 a k (fun z => y (Or.inl z)) (by unfold atK at y; unfold ntc; omega) (by unfold atK at y; omega)).trans (fr4 a k y)
            refine s_norm8 (v := -9) (k := 0) (o := 0) ho e5.1 e5.2.1 zg zg (by omega) (Or.inl rfl) q5 og' (Or.inl rfl) (fun hn2 μ6 f6 => if0 ?_) (fun G2 hn2 μ6 f6 q6 => if1 ?_)
            · rw [sb2_9] at hn2
              rw [hn2] at h
              dsimp only at h
              refine h μ6 (fun a k y => (f6 a k (fun z => y (Or.inl z)) (by unfold atK at y; omega)).trans (fr5 a k y)) (e5.sc (fun a k y1 y2 => f6 a k y1 (by omega))) ⟨fun y => ?_, fun _ => (f6 _ _ (by unfold scC; omega) (by omega)).trans h45⟩
              rcases y with y | y
              · exact absurd (show (3 : Int) = 1 from y) (by decide)
              · exact absurd (show (3 : Int) = 2 from y) (by decide)
            · have oG2 := (nm2_ok ho hl (Or.inl rfl) og' hn2).1
              rw [sb2_9] at hn2
              rw [hn2] at h
              dsimp only at h
              have e6 : EnC μ6 fs ls _ := e5.sc (fun a k y1 y2 => f6 a k y1 (by omega))
              have fr6 : ∀ a k, ¬ atK L a k → μ6 a k = μ a k := fun a k y => (f6 a k (fun z => y (Or.inl z)) (by unfold atK at y; omega)).trans (fr5 a k y)
              have h46 : μ6 240 4 = 0 := (f6 _ _ (by unfold scC; omega) (by omega)).trans h45
              refine s_trivial zg q6 oG2 (fun gg => if1 ?_) (fun gg => if0 ?_)
              · rw [if_pos gg] at h
                refine h μ6 fr6 e6 ⟨fun y => ?_, fun _ => h46⟩
                rcases y with y | y
                · exact absurd (show (0 : Int) = 1 from y) (by decide)
                · exact absurd (show (0 : Int) = 2 from y) (by decide)
              · rw [if_neg gg] at h
                exact c_nxt ho hL hr e6 hLs h46 q6 oG2 (fun μ7 f7 e7 c7 => h μ7 (fun a k y => (f7 a k y).trans (fr6 a k y)) e7 c7)
        · rw [if_neg gd] at hoo h
          subst hoo
          rw [if_pos rfl]
          exact c_nxt ho hL hr e2 hLs h42 q2 oG (fun μ7 f7 e7 c7 => h μ7 (fun a k y => (f7 a k y).trans (fr2 a k y)) e7 c7)
  refine ifb (fun g => main 1 (by rw [if_pos g])) (fun g => main 0 (by rw [if_neg g]))
