theorem ss_len {fs : List Fn} {L0 : Int} (h0 : 10 ≤ L0) : ∀ (fr : List Nf), lw fs L0 fr → ((ss fr).length : Int) + rl fr ≤ (if fr.length = 0 then 0 else L0 + 10 * ((fr.length : Int) - 1)) - (fr.length : Int)
  | [], _ => by show ((0 : Nat) : Int) + 0 ≤ _; simp
  | f :: fr, h => by
    obtain ⟨-, -, h3, h4⟩ := h
    have ih := ss_len h0 fr h4
    have e1 : ((ss (f :: fr)).length : Int) = (f.2.2.2.length : Int) + ((ss fr).length : Int) := by
      show ((f.2.2.2 ++ ss fr).length : Int) = _
      simp
    have e2 : rl (f :: fr) = (f.1.length : Int) + rl fr := rfl
    rw [if_neg (by simp)]
    unfold Lb at h3
    by_cases g : fr.length = 0
    · rw [if_pos g] at h3 ih
      simp at *
      omega
    · rw [if_neg g] at h3 ih
      simp at *
      omega
theorem ss_top {fs : List Fn} {L0 : Int} {n : Nat} {u : Int} {f : Nf} {fr : List Nf} (h0 : 10 ≤ L0) (h : okN fs L0 n u (f :: fr)) : ((ss (f :: fr)).length : Int) + rl (f :: fr) ≤ L0 + 10 * u := by
  obtain ⟨a1, a2, a3, a4, a5, a6, a7, a8⟩ := h
  have ih := ss_len h0 fr a8
  have e1 : ((ss (f :: fr)).length : Int) = (f.2.2.2.length : Int) + ((ss fr).length : Int) := by
    show ((f.2.2.2 ++ ss fr).length : Int) = _
    simp
  have e2 : rl (f :: fr) = (f.1.length : Int) + rl fr := rfl
  unfold Lb at a7
  by_cases g : fr.length = 0
  · rw [if_pos g] at a7 ih
    simp at a3
    omega
  · rw [if_neg g] at a7 ih
    simp at a3
    omega
theorem rl_pos : ∀ fr : List Nf, 0 ≤ rl fr
  | [] => Int.le_refl 0
  | f :: fr => by
    have := rl_pos fr
    show 0 ≤ (f.1.length : Int) + rl fr
    omega
theorem jl_1 {fs : List Fn} {c : Int} {st : List (List Int)} (h : arf fs c = 1) (hl : 1 ≤ st.length) : jl fs c st = c :: st.headD [] := by
  unfold jl na
  rw [h]
  cases st with
  | nil => simp at hl
  | cons V s => simp
theorem jl_2 {fs : List Fn} {c : Int} {st : List (List Int)} (h : arf fs c = 2) (hl : 2 ≤ st.length) : jl fs c st = c :: (st.headD [] ++ st.tail.headD []) := by
  unfold jl na
  rw [h]
  cases st with
  | nil => simp at hl
  | cons V s =>
    cases s with
    | nil => simp at hl
    | cons W s => simp
theorem jl_eq {fs : List Fn} {c : Int} {st : List (List Int)} {W : List Int} (ha : arf fs c = 1 ∨ arf fs c = 2) (hl : arf fs c ≤ (st.length : Int)) (hW : arf fs c = 2 → W = st.tail.headD []) : jl fs c st = c :: (st.headD [] ++ if arf fs c = 2 then W else []) := by
  rcases ha with q | q
  · rw [jl_1 q (by omega), if_neg (by omega), List.append_nil]
  · rw [jl_2 q (by omega), if_pos q, hW q]
/-- the stack has been lowered: a node is made of what was there, and pushed -/
theorem s_joinC {fs : List Fn} {N : List (List Int)} {mn : Int → List Int} {n : Nat} {u c i j d : Int} {r W : List Int} {as st : List (List Int)} {fr : List Nf} {μ : ZM} {R : Option (List Int)} {K : Int → ZM → Prop} (ho : okF fs) (hF : CF μ fs) (hok : okN fs 40 (n + 1) u ((c :: r, d, as, st) :: fr)) (h1 : ¬ 120 ≤ c) (h2 : c ≠ 90) (hw : wh fs c st = -9) (ha : arf fs c = 1 ∨ arf fs c = 2) (hC : NC μ fs N mn u ((r, d, as, st.drop (na fs c)) :: fr)) (hN : (N.length : Int) + rl ((r, d, as, st) :: fr) + 1 ≤ 46 + 10 * u) (hi : rN N i (st.headD [])) (hj : rN N j W) (hW : arf fs c = 2 → W = st.tail.headD []) (hR : nv fs mn (n + 1) u ((c :: r, d, as, st) :: fr) = some R) (hfail : R = none → ∀ μ', (∀ a k, ¬ nvc a k → μ' a k = μ a k) → K 0 μ') (hnext : ∀ μ' N' fr', (∀ a k, ¬ nvc a k → μ' a k = μ a k) → NC μ' fs N' mn u fr' → (N'.length : Int) + rl fr' ≤ 46 + 10 * u → okN fs 40 n u fr' → nv fs mn n u fr' = some R → K 1 μ') : P_X6_make c i j μ (fun r5 μ4 => P_X6_push r5 μ4 (fun r7 μ6 => zb r7 ∧ K r7 μ6)) := by
  obtain ⟨s1, s2, s3⟩ := okN_st hok
  have hl := hF.2.1
  have hu := hok.2.1
  have ej := jl_eq (fs := fs) (c := c) (st := st) ha s1 hW
  have hrl := rl_pos fr
  have er : rl ((r, d, as, st) :: fr) = (r.length : Int) + rl fr := rfl
  rw [nv_c, if_neg h1, if_neg h2, if_pos hw] at hR
  have elen : ((jl fs c st).length : Int) = 1 + ((st.headD []).length : Int) + (if arf fs c = 2 then (W.length : Int) else 0) := by
    rw [ej]
    by_cases q : arf fs c = 2
    · rw [if_pos q, if_pos q]; simp; omega
    · rw [if_neg q, if_neg q]; simp; omega
  have hT4 := hC.1.2.1
  refine s_make (V := st.headD []) (W := W) hF hC.1 (by omega) s2 ha hl hi hj (fun g => ?_) (fun g => ?_) (fun g μ1 e1 t1 => ?_)
  · rw [← ej]
    exact jl_ok ho s2 s1 s3 (by omega)
  · rw [if_neg (by omega)] at hR
    exact s_pushBad ⟨Or.inl rfl, hfail (Option.some.inj hR).symm μ (fun _ _ _ => rfl)⟩
  · rw [if_pos (by omega)] at hR
    rw [← ej] at t1
    have hC1 := hC.mk e1 t1
    have e1' : ∀ a k, ¬ nvc a k → μ1 a k = μ a k := fun a k q => e1 a k (by unfold nvc at q; omega) (by unfold nvc at q; omega)
    have hok' := okN_join ho hok (by omega)
    have hst := ss_top (by omega) hok'
    have hrl' := rl_pos ((r, d, as, jl fs c st :: st.drop (na fs c)) :: fr)
    refine s_push (V := jl fs c st) hC1 ⟨by omega, by simp; omega, gN_push2⟩ ?_ (fun μ2 e2 t2 => ⟨Or.inr rfl, hnext μ2 _ _ (fun a k q => (e2 a k (by unfold nvc at q; omega) (by unfold nvc at q; omega)).trans (e1' a k q)) t2 ?_ hok' hR⟩)
    · have : ((ss ((r, d, as, jl fs c st :: st.drop (na fs c)) :: fr)).length : Int) = ((ss ((r, d, as, st.drop (na fs c)) :: fr)).length : Int) + 1 := by
        show (((jl fs c st :: st.drop (na fs c)) ++ ss fr).length : Int) = ((st.drop (na fs c) ++ ss fr).length : Int) + 1
        simp
      omega
    · show ((N ++ [jl fs c st]).length : Int) + ((r.length : Int) + rl fr) ≤ _
      simp
      omega
/-- the stack is lowered -/
theorem NC.low {μ : ZM} {fs : List Fn} {N : List (List Int)} {mn : Int → List Int} {u d t : Int} {r : List Int} {as st : List (List Int)} {fr : List Nf} {k : Nat} (h : NC μ fs N mn u ((r, d, as, st) :: fr)) (hk : k ≤ st.length) (ht : t = ((ss ((r, d, as, st) :: fr)).length : Int) - (k : Int)) : NC (z_upd μ 222 13 t) fs N mn u ((r, d, as, st.drop k) :: fr) := by
  obtain ⟨h1, h2, h3, h4, h5, h6, h7⟩ := h
  refine ⟨h1.ex (fun a k _ _ => zu_n (by omega)) (zu_k (by decide)), (zu_k (by decide)).trans h2, (zu_k (by decide)).trans h3, ?_, ⟨h5.1.ex (fun a k ha => zu_n (by omega)) (fun a p1 p2 => zu_n (by omega)) (fun _ _ p => p), gk_ex h5.2 (fun j f _ _ q => q.ex (fun a k ha => zu_n (by omega)) (fun a p1 p2 => zu_n (by omega)) (fun _ _ p => p))⟩, ?_, ?_⟩
  · rw [zu_s, ht]
    show ((st ++ ss fr).length : Int) - (k : Int) = ((st.drop k ++ ss fr).length : Int)
    simp
    omega
  · have := gk_drop k h6
    have e : (ss ((r, d, as, st) :: fr)).drop k = ss ((r, d, as, st.drop k) :: fr) := by
      show (st ++ ss fr).drop k = st.drop k ++ ss fr
      rw [List.drop_append_of_le_length hk]
    rw [e] at this
    exact gk_ex this (fun i V _ _ q => by rw [zu_n (by decide)]; exact q)
  · rw [zu_n (by decide)]; exact h7
theorem ss_hd {r : List Int} {d : Int} {as st : List (List Int)} {fr : List Nf} (h : 1 ≤ st.length) : (ss ((r, d, as, st) :: fr)).headD [] = st.headD [] := by
  cases st with
  | nil => simp at h
  | cons V s => rfl
theorem ss_hd2 {r : List Int} {d : Int} {as st : List (List Int)} {fr : List Nf} (h : 2 ≤ st.length) : (ss ((r, d, as, st) :: fr)).tail.headD [] = st.tail.headD [] := by
  cases st with
  | nil => simp at h
  | cons V s =>
    cases s with
    | nil => simp at h
    | cons W s => rfl
theorem s_ntake {fs : List Fn} {N : List (List Int)} {mn : Int → List Int} {n : Nat} {u c d : Int} {r : List Int} {as st : List (List Int)} {fr : List Nf} {μ : ZM} {R : Option (List Int)} {K : Int → ZM → Prop} (ho : okF fs) (hF : CF μ fs) (hm : okM fs mn) (hok : okN fs 40 (n + 1) u ((c :: r, d, as, st) :: fr)) (hC : NC μ fs N mn u ((r, d, as, st) :: fr)) (hx : c = 120 → rN N (μ 229 (fr.length : Int)) (vof mn fr d as 120)) (hy : c = 121 → rN N (μ 230 (fr.length : Int)) (vof mn fr d as 121)) (hN : (N.length : Int) + rl ((r, d, as, st) :: fr) + 1 ≤ 46 + 10 * u) (hc : ¬ (97 ≤ c ∧ c < 103)) (hz : μ 223 0 = 90) (hR : nv fs mn (n + 1) u ((c :: r, d, as, st) :: fr) = some R) (hfail : R = none → ∀ μ', (∀ a k, ¬ nvc a k → μ' a k = μ a k) → K 0 μ') (hnext : ∀ μ' N' fr', (∀ a k, ¬ nvc a k → μ' a k = μ a k) → NC μ' fs N' mn u fr' → (N'.length : Int) + rl fr' ≤ 46 + 10 * u → okN fs 40 n u fr' → nv fs mn n u fr' = some R → K 1 μ') : P_X6_take c μ K := by
  obtain ⟨s1, s2, s3⟩ := okN_st hok
  have hl := hF.2.1
  have hu := hok.2.1
  have hfl : (fr.length : Int) ≤ 50 := by have := hok.2.2.1; simp at this; omega
  have hst := ss_top (by omega) hok
  obtain ⟨h1, h2, h3, h4, h5, h6, h7⟩ := id hC
  have h3' : μ 222 12 = (fr.length : Int) := by rw [h3]; simp
  have hss : ((ss ((c :: r, d, as, st) :: fr)).length : Int) = ((ss ((r, d, as, st) :: fr)).length : Int) := rfl
  have hrl := rl_pos fr
  have er : rl ((r, d, as, st) :: fr) = (r.length : Int) + rl fr := rfl
  have er2 : rl ((c :: r, d, as, st) :: fr) = ((r.length + 1 : Nat) : Int) + rl fr := rfl
  have hst' : ((ss ((r, d, as, st) :: fr)).length : Int) < 540 := by omega
  have push : ∀ (i : Int) (V : List Int), rN N i V → okN fs 40 n u ((r, d, as, V :: st) :: fr) → nv fs mn n u ((r, d, as, V :: st) :: fr) = some R → P_X6_push i μ (fun r8 μ7 => zb r8 ∧ K r8 μ7) := by
    intro i V q1 q2 q3
    refine s_push (V := V) hC q1 hst' (fun μ2 e2 t2 => ⟨Or.inr rfl, hnext μ2 _ _ (fun a k q => e2 a k (by unfold nvc at q; omega) (by unfold nvc at q; omega)) t2 ?_ q2 q3⟩)
    show (N.length : Int) + ((r.length : Int) + rl fr) ≤ _
    omega
  unfold P_X6_take
  rw [h3']
  refine ifb (fun g => ?_) (fun g => ?_)
  · subst g
    have a83 : arf fs 83 = 1 := by unfold arf; rw [if_pos rfl]
    have n83 : na fs 83 = 1 := by unfold na; rw [a83]; rfl
    rw [a83] at s1
    have hs1 : ((ss ((r, d, as, st) :: fr)).length : Int) = (st.length : Int) + ((ss fr).length : Int) := by
      show ((st ++ ss fr).length : Int) = _
      simp
    rw [h4]
    refine ifb (fun _ => ⟨⟨by omega, by omega⟩, ?_⟩) (fun g => absurd g (by omega))
    simp only [z_wr]
    rw [zu_s, zu_n (show (231 : Int) ≠ 222 by decide)]
    have hhd := gk_hd h6 (by omega)
    rw [ss_hd (by omega)] at hhd
    have hlow := hC.low (k := 1) (t := ((ss ((r, d, as, st) :: fr)).length : Int) - 1) (by omega) rfl
    rw [← n83] at hlow
    refine ⟨by omega, by omega, s_joinC (n := n) ho (hF.fr (fun a ha k => zu_n (by omega)) (zu_n (by decide))) hok (by decide) (by decide) (by unfold wh; rw [if_pos rfl]) (Or.inl a83) hlow hN hhd hhd (fun q => absurd q (by omega)) hR (fun q μ' e => hfail q μ' (fun a k hk => (e a k hk).trans (zu_n (by unfold nvc at hk; omega)))) (fun μ' N' fr' e => hnext μ' N' fr' (fun a k hk => (e a k hk).trans (zu_n (by unfold nvc at hk; omega))))⟩
  · rw [nv_c] at hR
    refine ifb (fun g1 => ⟨by omega, ?_⟩) (fun g1 => ifb (fun g2 => ⟨by omega, ?_⟩) (fun g2 => ifb (fun g3 => ⟨by omega, ?_⟩) (fun g3 => ?_)))
    · rw [if_pos (by omega)] at hR
      subst g1
      exact push _ _ (hx rfl) (okN_var hl hm hok (by omega)) hR
    · rw [if_pos (by omega)] at hR
      subst g2
      exact push _ _ (hy rfl) (okN_var hl hm hok (by omega)) hR
    · rw [if_pos (by omega)] at hR
      subst g3
      refine push _ _ ?_ (okN_var hl hm hok (by omega)) hR
      have : vof mn fr d as 122 = mn 122 := by
        unfold vof
        by_cases q : fr.length = 0
        · rw [if_pos q]
        · have := (hok.2.2.2.2.1.2.2.2.2.2 q).2.1
          exact absurd (by simp) this
      rw [this]; exact h7
    · have e90 : c = 90 := by unfold cv at s2; omega
      subst e90
      rw [if_neg (by omega), if_pos rfl] at hR
      refine push 0 [90] ⟨by omega, by have := h1.2.1; omega, ?_⟩ (okN_Z hok) hR
      obtain ⟨n1, n2, -⟩ := h1.2.2 0 (by omega) (by have := h1.2.1; omega)
      rw [hz] at n2
      generalize gN N 0 = V at n1 n2
      cases V with
      | nil => exact absurd n2 (by decide)
      | cons a V =>
        have ea : a = 90 := n2.symm
        subst ea
        have := n1.1.1.2
        rw [arf_90] at this
        cases V with
        | nil => rfl
        | cons b V => exact absurd this.1 (by decide)
