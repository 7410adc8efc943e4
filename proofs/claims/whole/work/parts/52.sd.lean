theorem sc_ok {fs : List Fn} {A B : List Int} : ∀ k : Nat, sc fs A B k = (-9, 0, 0) ∨ (0 ≤ (sc fs A B k).1 ∧ (sc fs A B k).1 < (k : Int) ∧ 0 < (sc fs A B k).2.1 ∧ (sc fs A B k).2.1 = cN fs A B 0 (sc fs A B k).1 ∧ (sc fs A B k).2.2 = cD fs A B (sc fs A B k).1)
  | 0 => Or.inl rfl
  | k + 1 => by
    have ih := sc_ok (fs := fs) (A := A) (B := B) k
    have hb := cN_bd (fs := fs) (A := A) (B := B) (d := 0) (v := (k : Int))
    unfold sc
    by_cases g : (sc fs A B k).2.1 < cN fs A B 0 (k : Int) ∨ (0 < cN fs A B 0 (k : Int) ∧ cN fs A B 0 (k : Int) = (sc fs A B k).2.1 ∧ cD fs A B (k : Int) < (sc fs A B k).2.2)
    · rw [if_pos g]
      have h0 : 0 ≤ (sc fs A B k).2.1 := by
        rcases ih with q | q
        · rw [q]; exact Int.le_refl 0
        · omega
      refine Or.inr ⟨by dsimp only; omega, by dsimp only; omega, by dsimp only; omega, rfl, rfl⟩
    · rw [if_neg g]
      rcases ih with q | q
      · exact Or.inl q
      · exact Or.inr ⟨q.1, by omega, q.2.2⟩
def frs (a k : Int) : Prop := a = 248 ∧ 28 ≤ k ∧ k ≤ 30
theorem s_findScheme {fs : List Fn} {A B : List Int} {s s' : Int} {μ : ZM} {K : Int → ZM → Prop} (ho : okF fs) (hF : MF μ fs) (hs : 0 ≤ s ∧ s < 44) (hs' : 0 ≤ s' ∧ s' < 44) (hA : Sl μ s A) (hB : Sl μ s' B) (oA : okT fs A) (oB : okT fs B) (lA : A.length ≤ 40) (lB : B.length ≤ 40) (h : ∀ μ', (∀ a k, ¬ frs a k → μ' a k = μ a k) → ((sc fs A B 3).1 = -9 → K 0 μ') ∧ ((sc fs A B 3).1 ≠ -9 → μ' 248 28 = (sc fs A B 3).1 → μ' 248 29 = (sc fs A B 3).2.2 → μ' 248 30 = (sc fs A B 3).2.1 → K 1 μ')) : P_X12_findScheme s s' μ K := by
  show P_X12_findScheme_7 s s' 0 (z_upd μ 248 30 0) K
  refine z_lf1_ind (fun v μ' => 0 ≤ v ∧ v ≤ 3 ∧ (∀ a k, ¬ frs a k → μ' a k = μ a k) ∧ μ' 248 30 = (sc fs A B v.toNat).2.1 ∧ (0 < (sc fs A B v.toNat).2.1 → μ' 248 28 = (sc fs A B v.toNat).1 ∧ μ' 248 29 = (sc fs A B v.toNat).2.2)) (fun v _ => (3 - v).toNat) ?_ 0 _ ⟨by omega, by omega, fun a k q => zu_f (by unfold frs at q; omega), zu_s, fun q => absurd q (show ¬ (0 : Int) < 0 by decide)⟩
  intro v μ' G ⟨e1, e2, e3, e4, e5⟩ hG
  refine ifb (fun g => ?_) (fun g => ?_)
  · have e : v = 3 := by omega
    subst e
    have ok := sc_ok (fs := fs) (A := A) (B := B) 3
    have hh := h μ' e3
    have e4' : μ' 248 30 = (sc fs A B 3).2.1 := e4
    have e5' : 0 < (sc fs A B 3).2.1 → μ' 248 28 = (sc fs A B 3).1 ∧ μ' 248 29 = (sc fs A B 3).2.2 := e5
    rcases ok with q | q
    · rw [q] at e4' hh
      have e40 : μ' 248 30 = 0 := e4'
      rw [if_pos (by omega)]
      exact ⟨Or.inl rfl, hh.1 rfl⟩
    · rw [if_neg (by omega)]
      exact ⟨Or.inr rfl, hh.2 (by omega) (e5' q.2.2.1).1 (e5' q.2.2.1).2 e4'⟩
  · have F1 : MF μ' fs := hF.fr (fun a ha k => e3 _ _ (by unfold frs; omega)) (e3 _ _ (by unfold frs; omega))
    have A1 : Sl μ' s A := hA.ex (e3 _ _ (by unfold frs; omega)) (fun i _ _ => e3 _ _ (by unfold frs; omega))
    have B1 : Sl μ' s' B := hB.ex (e3 _ _ (by unfold frs; omega)) (fun i _ _ => e3 _ _ (by unfold frs; omega))
    have n0 : sg (fun i => cp fs A v 0 i) 40 + sg (fun i => cp fs B v 0 i) 40 = cN fs A B 0 v := (sg_add 40).symm
    have n2 : sg (fun i => cp fs A v 2 i) 40 + sg (fun i => cp fs B v 2 i) 40 = cN fs A B 2 v := (sg_add 40).symm
    have b0 := cN_bd (fs := fs) (A := A) (B := B) (d := 0) (v := v)
    have b2 := cN_bd (fs := fs) (A := A) (B := B) (d := 2) (v := v)
    have nx := sc_s (fs := fs) (A := A) (B := B) (v := v) e1
    have ok := sc_ok (fs := fs) (A := A) (B := B) v.toNat
    refine s_callsIn F1 hs (by omega) A1 oA lA (s_callsIn F1 hs' (by omega) B1 oB lB ?_)
    rw [n0]
    refine ⟨⟨by omega, by omega⟩, s_callsIn F1 hs (by omega) A1 oA lA (s_callsIn F1 hs' (by omega) B1 oB lB ?_)⟩
    rw [n2]
    refine ⟨⟨by omega, by omega⟩, ?_⟩
    generalize hS : sc fs A B v.toNat = S at *
    have no : ¬ (S.2.1 < cN fs A B 0 v ∨ (0 < cN fs A B 0 v ∧ cN fs A B 0 v = S.2.1 ∧ cD fs A B v < S.2.2)) → P_X12_findScheme_103 G s s' v μ' K := by
      intro q
      rw [if_neg q] at nx
      refine ⟨⟨by omega, by omega⟩, hG _ _ ⟨by omega, by omega, e3, ?_, ?_⟩ (by omega)⟩
      · rw [nx]; exact e4
      · rw [nx]; exact e5
    have yes : ∀ d : Int, d = cD fs A B v → (S.2.1 < cN fs A B 0 v ∨ (0 < cN fs A B 0 v ∧ cN fs A B 0 v = S.2.1 ∧ cD fs A B v < S.2.2)) → P_X12_findScheme_86 G s s' v (cN fs A B 0 v) d μ' K := by
      intro d hd q
      rw [if_pos q] at nx
      refine ⟨⟨by omega, by omega⟩, hG _ _ ⟨by omega, by omega, fun a k p => ?_, ?_, fun _ => ⟨?_, ?_⟩⟩ (by omega)⟩
      · unfold frs at p
        rw [zu_f (by omega), zu_f (by omega), zu_f (by omega)]
        exact e3 a k (by unfold frs; omega)
      · rw [nx, zu_k (by decide), zu_k (by decide), zu_s]
      · rw [nx, zu_s]
      · rw [nx, zu_k (by decide), zu_s]; exact hd
    have s0 : 0 ≤ S.2.1 := by
      rcases ok with q | q
      · rw [q]; exact Int.le_refl 0
      · omega
    have step : ∀ d : Int, (0 < cN fs A B 0 v → d = cD fs A B v) → P_X12_findScheme_52 G s s' v (cN fs A B 0 v) d μ' K := by
      intro d hd
      unfold P_X12_findScheme_52
      rw [e4]
      refine ifb (fun q => yes d (hd (by omega)) (Or.inl q)) (fun q => ifb (fun q1 => no (by omega)) (fun q1 => ifb (fun q2 => ?_) (fun q2 => no (by omega))))
      have := hd (by omega)
      rw [(e5 (by omega)).2]
      exact ifb (fun q3 => no (by omega)) (fun q3 => yes d this (by omega))
    refine ifb (fun q => step 1 (fun p => ?_)) (fun q => step 2 (fun p => ?_))
    · unfold cD dd; rw [if_neg (by omega), if_pos p]
    · unfold cD dd; rw [if_pos (by omega)]
theorem op_scheme {x1 : Int} {μ : ZM} (hI : Inv μ) {K : Int → ZM → Prop} (hK : ∀ r μ1, Ans (P_X12_scheme x1 μ1) r → K r μ1) : P_X11_scheme x1 μ K := by
  have hI0 := hI
  obtain ⟨tp, fs, cl, ls, nt, cs, hc, hm, ho⟩ := hI
  obtain ⟨c1, c2, c3, c4, c5, c6, c7⟩ := id hc
  obtain ⟨m1, m2, m3, m4, m5, m6⟩ := id hm
  have key : ∀ r : Int, (∀ K' : Int → ZM → Prop, K' r μ → P_X12_scheme x1 μ K') → K r μ := fun r h => hK _ _ (Ans.same hI0 h)
  refine s_out (fun h => if1 (key _ (fun K' h' => s_wi (fun g => absurd g (by omega)) (fun _ => if0 h')))) (fun h => if0 ?_)
  cases cl with
  | none =>
    have a0 : μ 206 11 = 0 := c3
    have b0 : μ 248 9 = 0 := m3
    rw [if_pos a0]
    exact key _ (fun K' h' => s_wi (fun _ => if1 (by rw [if_pos b0]; exact h')) (fun g => absurd h g))
  | some q =>
    obtain ⟨a0, a1, a2⟩ : μ 206 11 = 1 ∧ Tm μ fs 103 q.1 ∧ Tm μ fs 106 q.2 := id c3
    obtain ⟨p0, p1, p2⟩ : μ 248 9 = 1 ∧ Sl μ 0 q.1 ∧ Sl μ 1 q.2 := id m3
    obtain ⟨o1, o2, o3, o4⟩ := ho.2.1 q rfl
    rw [if_neg (by omega)]
    have ok := sc_ok (fs := fs) (A := q.1) (B := q.2) 3
    have after : ∀ r : Int, r = (if (sc fs q.1 q.2 3).1 = -9 then -9 else if x1 = 0 then (sc fs q.1 q.2 3).1 else if x1 = 1 then (sc fs q.1 q.2 3).2.2 else (sc fs q.1 q.2 3).2.1) → K r μ := by
      intro r hr
      refine hK _ _ (fun K' hK' => s_wi (fun _ => if1 ?_) (fun g => absurd h g))
      rw [if_neg (by omega)]
      refine s_findScheme (A := q.1) (B := q.2) ho.1 m2 (by omega) (by omega) p1 p2 o1 o2 (by omega) (by omega) (fun μ1 e1 => ?_)
      have hi : Inv μ1 := ⟨tp, fs, some q, ls, nt, cs, hc.frM (fun a k h => e1 a k (by unfold frs; omega)), ⟨m1.fr (e1 _ _ (by unfold frs; omega)) (fun k => e1 _ _ (by unfold frs; omega)), m2.fr (fun a ha k => e1 _ _ (by unfold frs; omega)) (e1 _ _ (by unfold frs; omega)), m3.fr (fun q hq => by have := ho.2.1 q hq; omega) (e1 _ _ (by unfold frs; omega)) (fun k h => e1 _ _ (by unfold frs; omega)) (fun k h => e1 _ _ (by unfold frs; omega)), m4.fr (e1 _ _ (by unfold frs; omega)) (fun k h => e1 _ _ (by unfold frs; omega)) (fun k h => e1 _ _ (by unfold frs; omega)), m5.fr (e1 _ _ (by unfold frs; omega)) (fun k => e1 _ _ (by unfold frs; omega)) (fun k => e1 _ _ (by unfold frs; omega)), m6.fr (e1 _ _ (by unfold frs; omega)) (e1 _ _ (by unfold frs; omega)) (e1 _ _ (by unfold frs; omega)) (e1 _ _ (by unfold frs; omega))⟩, ho⟩
      have hk := hK' μ1 hi
      refine ⟨fun g => ?_, fun g g28 g29 g30 => ?_⟩
      · rw [if_pos g] at hr
        rw [if_pos rfl, ← hr]; exact hk
      · rw [if_neg g] at hr
        rw [if_neg (by decide), g28, g29, g30]
        refine ifb (fun y => ?_) (fun y => ifb (fun y1 => ?_) (fun y1 => ?_))
        · rw [if_pos y] at hr; rw [← hr]; exact hk
        · rw [if_neg y, if_pos y1] at hr; rw [← hr]; exact hk
        · rw [if_neg y, if_neg y1] at hr; rw [← hr]; exact hk
    refine s_indVar (A := q.1) (B := q.2) ho.1 c2 (by unfold z_cm; omega) ⟨a1.1, a1.2.1⟩ ⟨a2.1, a2.2.1⟩ o1 o2 (by omega) (by omega) ?_
    refine ifb (fun g => after _ (by rw [if_pos g]; exact g)) (fun g => ?_)
    have ok2 : 0 ≤ (sc fs q.1 q.2 3).1 ∧ (sc fs q.1 q.2 3).1 < ((3 : Nat) : Int) ∧ 0 < (sc fs q.1 q.2 3).2.1 ∧ (sc fs q.1 q.2 3).2.1 = cN fs q.1 q.2 0 (sc fs q.1 q.2 3).1 ∧ (sc fs q.1 q.2 3).2.2 = cD fs q.1 q.2 (sc fs q.1 q.2 3).1 := by
      rcases ok with y | y
      · rw [y] at g; exact absurd rfl g
      · exact y
    refine ifb (fun g1 => after _ (by rw [if_neg g, if_pos g1])) (fun g1 => ifb (fun g2 => ?_) (fun g2 => ?_))
    · refine s_deepestCall (A := q.1) (B := q.2) ho.1 c2 (by unfold z_cm; omega) (by omega) ⟨a1.1, a1.2.1⟩ ⟨a2.1, a2.2.1⟩ o1 o2 (by omega) (by omega) (after _ ?_)
      rw [if_neg g, if_neg g1, if_pos g2, ok2.2.2.2.2]
      rfl
    · refine s_callsOf (fs := fs) (A := q.1) (B := q.2) (by unfold z_cm; omega) (by omega) ⟨a1.1, a1.2.1⟩ ⟨a2.1, a2.2.1⟩ (by omega) (by omega) (after _ ?_)
      rw [if_neg g, if_neg g1, if_neg g2, ok2.2.2.2.1]
      rfl
