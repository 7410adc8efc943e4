def cN (fs : List Fn) (A B : List Int) (d v : Int) : Int := sg (fun i => cp fs A v d i + cp fs B v d i) 40
def cD (fs : List Fn) (A B : List Int) (v : Int) : Int := dd (cN fs A B 0 v) (cN fs A B 2 v)
/-- the variable chosen among the first k: number, calls, depth -/
def sc (fs : List Fn) (A B : List Int) : Nat → Int × Int × Int
  | 0 => (-9, 0, 0)
  | k + 1 => if (sc fs A B k).2.1 < cN fs A B 0 (k : Int) ∨ (0 < cN fs A B 0 (k : Int) ∧ cN fs A B 0 (k : Int) = (sc fs A B k).2.1 ∧ cD fs A B (k : Int) < (sc fs A B k).2.2) then ((k : Int), cN fs A B 0 (k : Int), cD fs A B (k : Int)) else sc fs A B k
theorem sc_s {fs : List Fn} {A B : List Int} {v : Int} (h : 0 ≤ v) : sc fs A B (v + 1).toNat = if (sc fs A B v.toNat).2.1 < cN fs A B 0 v ∨ (0 < cN fs A B 0 v ∧ cN fs A B 0 v = (sc fs A B v.toNat).2.1 ∧ cD fs A B v < (sc fs A B v.toNat).2.2) then (v, cN fs A B 0 v, cD fs A B v) else sc fs A B v.toNat := by
  rw [show (v + 1).toNat = v.toNat + 1 by omega]
  show (if _ then _ else _) = _
  rw [show (v.toNat : Int) = v by omega]
theorem cN_bd {fs : List Fn} {A B : List Int} {d v : Int} : 0 ≤ cN fs A B d v ∧ cN fs A B d v ≤ 80 := by
  have := sg_bd (b := 2) (by omega) (n := 40) (g := fun i => cp fs A v d i + cp fs B v d i) (fun k => by have := cp_bd (fs := fs) (T := A) (v := v) (d := d) (i := k); have := cp_bd (fs := fs) (T := B) (v := v) (d := d) (i := k); omega)
  unfold cN
  omega
theorem s_indVar {fs : List Fn} {A B : List Int} {c : Int} {μ : ZM} {K : Int → ZM → Prop} (ho : okF fs) (hF : CF μ fs) (hc : z_cm c) (hA : tx μ (6 * (c - 187) + 1) A) (hB : tx μ (6 * (c - 187) + 4) B) (oA : okT fs A) (oB : okT fs B) (lA : A.length ≤ 40) (lB : B.length ≤ 40) (h : K (sc fs A B 3).1 μ) : P_X0_inductionVariable c μ K := by
  refine ⟨hc, ?_⟩
  refine z_lf4_ind (fun a b e v μ' => μ' = μ ∧ 0 ≤ v ∧ v ≤ 3 ∧ (a, b, e) = sc fs A B v.toNat) (fun a b e v _ => (3 - v).toNat) ?_ (-9) 0 0 0 μ ⟨rfl, by omega, by omega, rfl⟩
  intro a b e v μ' G ⟨e1, e2, e3, e4⟩ hG
  subst e1
  refine ifb (fun g => ?_) (fun g => ?_)
  · rw [show v = 3 by omega] at e4
    have : a = (sc fs A B 3).1 := by
      have := congrArg Prod.fst e4
      exact this
    rw [this]; exact h
  · have nx := sc_s (fs := fs) (A := A) (B := B) (v := v) e2
    rw [← e4] at nx
    dsimp only at nx
    refine s_callsOf (fs := fs) hc (by omega) hA hB lA lB (s_deepestCall (fs := fs) ho hF hc (by omega) hA hB oA oB lA lB ?_)
    have hb := cN_bd (fs := fs) (A := A) (B := B) (d := 0) (v := v)
    show if b < cN fs A B 0 v then P_X0_inductionVariable_58 G c v (cN fs A B 0 v) (cD fs A B v) μ' K else if cN fs A B 0 v ≤ 0 then P_X0_inductionVariable_68 G c a b e v μ' K else if cN fs A B 0 v = b then (if e ≤ cD fs A B v then P_X0_inductionVariable_68 G c a b e v μ' K else P_X0_inductionVariable_58 G c v (cN fs A B 0 v) (cD fs A B v) μ' K) else P_X0_inductionVariable_68 G c a b e v μ' K
    have yes : (b < cN fs A B 0 v ∨ (0 < cN fs A B 0 v ∧ cN fs A B 0 v = b ∧ cD fs A B v < e)) → P_X0_inductionVariable_58 G c v (cN fs A B 0 v) (cD fs A B v) μ' K := by
      intro q
      rw [if_pos q] at nx
      exact ⟨⟨by omega, by omega⟩, hG _ _ _ _ _ ⟨rfl, by omega, by omega, nx.symm⟩ (by omega)⟩
    have no : ¬ (b < cN fs A B 0 v ∨ (0 < cN fs A B 0 v ∧ cN fs A B 0 v = b ∧ cD fs A B v < e)) → P_X0_inductionVariable_68 G c a b e v μ' K := by
      intro q
      rw [if_neg q] at nx
      exact ⟨⟨by omega, by omega⟩, hG _ _ _ _ _ ⟨rfl, by omega, by omega, nx.symm⟩ (by omega)⟩
    exact ifb (fun q => yes (by omega)) (fun q => ifb (fun q1 => no (by omega)) (fun q1 => ifb (fun q2 => ifb (fun q3 => no (by omega)) (fun q3 => yes (by omega))) (fun q2 => no (by omega))))
