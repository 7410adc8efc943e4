theorem app_hd {st X : List (List Int)} (h : 1 ≤ st.length) : ∃ s, st ++ X = st.headD [] :: s ∧ s = st.tail ++ X := by
  cases st with
  | nil => simp at h
  | cons V s => exact ⟨s ++ X, rfl, rfl⟩
theorem as_2 {as : List (List Int)} (h : yof as ≠ []) : ∃ A B s, as = A :: B :: s ∧ yof as = B := by
  cases as with
  | nil => exact absurd rfl h
  | cons A as =>
    cases as with
    | nil => exact absurd rfl h
    | cons B s => exact ⟨A, B, s, rfl, rfl⟩
theorem gV_nn {fs : List Fn} {V : List Int} (h : gV fs V) : V ≠ [] := by
  obtain ⟨c, W, e⟩ := gV_ne h
  rw [e]; simp
theorem s_normalizes {fs : List Fn} {n : Nat} {u c d : Int} {r : List Int} {as st : List (List Int)} {fr : List Nf} {μ : ZM} {R : Option (List Int)} {K : Int → ZM → Prop} (ho : okF fs) (hF : MF μ fs) (hok : okN fs 120 (n + 1) u ((c :: r, d, as, st) :: fr)) (hC : NM μ u ((r, d, as, st) :: fr)) (hR : nv fs mi (n + 1) u ((c :: r, d, as, st) :: fr) = some R) (hfail : R = none → ∀ μ', (∀ a k, ¬ nvm a k → μ' a k = μ a k) → K 0 μ') (hnext : ∀ μ' u' fr', (∀ a k, ¬ nvm a k → μ' a k = μ a k) → NM μ' u' fr' → okN fs 120 n u' fr' → nv fs mi n u' fr' = some R → K 1 μ') : P_X12_normalizes (fr.length : Int) c μ K := by
  have hl := hF.2.1
  obtain ⟨s1, s2, s3⟩ := okN_st hok
  obtain ⟨p1, p2, p3⟩ := pl_top ho hok
  have hu := hok.2.1
  have hu0 := hok.1
  have hfl : (fr.length : Int) ≤ u := by have := hok.2.2.1; simp at this; omega
  obtain ⟨n1, n2, n3, n4, n5, n6⟩ := id hC
  have epl : pl ((c :: r, d, as, st) :: fr) = pl ((r, d, as, st) :: fr) := rfl
  rw [epl] at p1 p2 p3
  have eP : pl ((r, d, as, st) :: fr) = st ++ (as ++ pl fr) := rfl
  have hn := nvh
  have nvhm : ∀ a k, ¬ nvm a k → ¬ nvh a k := fun a k q => by unfold nvm at q; unfold nvh; omega
  rw [nv_c] at hR
  have pushed : ∀ (μ1 : ZM) (V : List Int), (∀ a k, ¬ nvh a k → μ1 a k = μ a k) → hp μ1 (V :: pl ((r, d, as, st) :: fr)) → μ1 248 25 = ((pl ((r, d, as, st) :: fr)).length : Int) + 1 → NM μ1 u ((r, d, as, V :: st) :: fr) := by
    intro μ1 V q1 q2 q3
    refine hC.hp1 (f' := (r, d, as, V :: st)) q1 rfl rfl rfl q2 ?_
    rw [q3]
    show _ = (((V :: st) ++ (as ++ pl fr)).length : Int)
    rw [List.cons_append, List.length_cons, ← eP]
    omega
  have sign : ∀ V : List Int, V = [c] → okN fs 120 n u ((r, d, as, V :: st) :: fr) → nv fs mi n u ((r, d, as, V :: st) :: fr) = some R → P_X12_normalizes_67 c μ K := by
    intro V hV q1 q2
    subst hV
    exact s_pushesSign n4 n3 (by omega) (by omega) (fun μ1 e1 t1 t2 => ⟨Or.inr rfl, hnext μ1 u _ (fun a k q => e1 a k (nvhm a k q)) (pushed μ1 _ e1 t1 t2) q1 q2⟩)
  have join : ¬ 120 ≤ c → c ≠ 90 → wh fs c st = -9 → (arf fs c = 1 ∨ arf fs c = 2) → P_X12_joins c (arf fs c) μ (fun r7 μ6 => zb r7 ∧ K r7 μ6) := by
    intro g1 g2 g3 g4
    rw [if_neg g1, if_neg g2, if_pos g3] at hR
    have hna : (na fs c : Int) = arf fs c := by unfold na; omega
    rw [← hna]
    rw [eP] at n4 n3 p1 p3
    refine s_joins (fs := fs) (by omega) (by omega) s3 n4 n3 (by omega) (by omega) (fun q μ1 e1 => ⟨Or.inl rfl, hfail ?_ μ1 (fun a k p => e1 a k (nvhm a k p))⟩) (fun q μ1 e1 t1 t2 => ⟨Or.inr rfl, hnext μ1 u ((r, d, as, jl fs c st :: st.drop (na fs c)) :: fr) (fun a k p => e1 a k (nvhm a k p)) ?_ (okN_join ho hok q) ?_⟩)
    · rw [if_neg (show ¬ (jl fs c st).length ≤ 40 from q)] at hR; exact (Option.some.inj hR).symm
    · refine hC.hp1 (f' := (r, d, as, jl fs c st :: st.drop (na fs c))) e1 rfl rfl rfl t1 ?_
      rw [t2]
      show _ = (((jl fs c st :: st.drop (na fs c)) ++ (as ++ pl fr)).length : Int)
      rw [List.cons_append, List.length_cons]
      omega
    · rw [if_pos (show (jl fs c st).length ≤ 40 from q)] at hR; exact hR
  have rest : (120 ≤ c → fr.length = 0) → P_X12_normalizes_54 c μ K := by
    intro hb
    refine ifb (fun g => ?_) (fun g => ?_)
    · subst g
      rw [if_neg (by decide), if_pos rfl] at hR
      exact sign [90] rfl (okN_Z hok) hR
    · refine s_isVar (fun q => if1 ?_) (fun q => if0 ?_)
      · rw [if_pos q.1] at hR
        have ev : vof mi fr d as c = [c] := by unfold vof; rw [if_pos (hb q.1)]; rfl
        exact sign _ ev (okN_var hl (okM_mi hl) hok q.1) hR
      · have hc120 : ¬ 120 ≤ c := by unfold cv at s2; omega
        refine ifb (fun g1 => ?_) (fun g1 => ⟨⟨by unfold cv at s2; omega, by unfold cv at s2; omega⟩, ?_⟩)
        · subst g1
          have a83 : arf fs 83 = 1 := by unfold arf; rw [if_pos rfl]
          have := join (by decide) (by decide) (by unfold wh; rw [if_pos rfl]) (Or.inl a83)
          rw [a83] at this
          exact this
        · have hfn : 0 ≤ c - 97 ∧ c - 97 < (fs.length : Int) := by unfold cv at s2; omega
          obtain ⟨f1, f2, f3⟩ := ho _ hfn.1 hfn.2
          obtain ⟨m1, m2, m3⟩ := hF.2.2 _ hfn.1 hfn.2
          have har := arf_fn hfn
          have hna : (na fs c : Int) = (gf fs (c - 97)).1 := by unfold na; omega
          have hs1 : 1 ≤ st.length := by omega
          obtain ⟨s, es, -⟩ := app_hd (X := as ++ pl fr) hs1
          have hA : gV fs (st.headD []) := by
            cases st with
            | nil => simp at hs1
            | cons V s => exact s3 V (by simp)
          have n4' := n4
          rw [eP, es] at n4'
          have hsl : ((pl ((r, d, as, st) :: fr)).length : Int) = (s.length : Int) + 1 := by rw [eP, es]; simp
          have hso : off (pl ((r, d, as, st) :: fr)) = ((st.headD []).length : Int) + off s := by rw [eP, es]; rfl
          have hw : wh fs c st = bfor fs (c - 97) (st.headD []) := by unfold wh; rw [if_neg g1]
          refine s_bodyForM (V := st.headD []) (E := s) hF n4' (by omega) hA (by omega) (by omega) hfn ?_
          rw [← hw]
          refine ifb (fun g2 => ⟨by omega, ?_⟩) (fun g2 => ?_)
          · rw [m1, ← har]
            exact join hc120 g g2 (by omega)
          · have hB : hasB (gf fs (c - 97)) (wh fs c st) := by rw [hw] at g2 ⊢; exact bfor_B ho hfn g2
            have hB' := hB
            unfold hasB at hB'
            obtain ⟨t1, t2⟩ := m3 _ hB
            rw [if_neg hc120, if_neg g, if_neg g2] at hR
            rw [n1]
            refine ⟨⟨by omega, by omega⟩, ?_⟩
            simp only [z_wr]
            rw [show z_upd μ 248 26 (u + 1) 248 26 = u + 1 from zu_s]
            have fr0 : ∀ a k, ¬ nvm a k → z_upd μ 248 26 (u + 1) a k = μ a k := fun a k q => zu_f (by unfold nvm at q; omega)
            refine ifb (fun g3 => ?_) (fun g3 => ⟨Or.inl rfl, hfail ?_ _ fr0⟩)
            · rw [if_neg (by omega)] at hR
              have hcall := (okN_call ho hl hok hc120 g g2 (by omega)).2.2.2
              have q25 : z_upd μ 248 26 (u + 1) 248 25 = ((pl ((r, d, as, st) :: fr)).length : Int) := (zu_k (by decide)).trans n3
              have q22 : z_upd μ 248 26 (u + 1) 248 22 = (fr.length : Int) + 1 := (zu_k (by decide)).trans (n2.trans (by simp))
              have q255 : z_upd μ 248 26 (u + 1) 255 (3 * (c - 97) + wh fs c st) = ((fB (gf fs (c - 97)) (wh fs c st)).length : Int) := (zu_n (by decide)).trans t1
              have q253 : z_upd μ 248 26 (u + 1) 253 (c - 97) = (gf fs (c - 97)).2.1 := (zu_n (by decide)).trans m2
              have q252 : z_upd μ 248 26 (u + 1) 252 (c - 97) = (gf fs (c - 97)).1 := (zu_n (by decide)).trans m1
              have q26 : z_upd μ 248 26 (u + 1) 248 26 = u + 1 := zu_s
              have frq : ∀ a k, ¬ (a = 248 ∧ k = 26) → z_upd μ 248 26 (u + 1) a k = μ a k := fun a k q => zu_f q
              rw [q25, q255, q253]
              generalize z_upd μ 248 26 (u + 1) = μ1 at *
              have hz3 : zin (3 * (c - 97)) := ⟨by omega, by omega⟩
              have hlb := (f3 _ hB).2.1
              refine ⟨hz3, ⟨by omega, by omega⟩, ⟨by omega, by omega⟩, hz3, ⟨by omega, by omega⟩, by omega, ⟨by omega, by omega⟩, ⟨by omega, by omega⟩, by omega, ?_⟩
              unfold P_X12_enters
              simp only [z_wr, zu_n (show (248 : Int) ≠ 258 by decide), zu_n (show (248 : Int) ≠ 259 by decide), zu_n (show (248 : Int) ≠ 260 by decide), zu_n (show (248 : Int) ≠ 261 by decide), zu_n (show (248 : Int) ≠ 262 by decide), zu_s]
              rw [q22]
              refine ⟨by omega, ⟨by omega, by omega⟩, by omega, by omega, by omega, by omega, ⟨by omega, by omega⟩, ?_⟩
              generalize hM : z_upd (z_upd (z_upd (z_upd (z_upd (z_upd μ1 258 ((fr.length : Int) + 1) (100 + 3 * (c - 97) + wh fs c st)) 259 ((fr.length : Int) + 1) (((fB (gf fs (c - 97)) (wh fs c st)).length : Int) - 1)) 260 ((fr.length : Int) + 1) (((pl ((r, d, as, st) :: fr)).length : Int) - 1)) 261 ((fr.length : Int) + 1) (((pl ((r, d, as, st) :: fr)).length : Int) - 2)) 262 ((fr.length : Int) + 1) (gf fs (c - 97)).2.1) 248 22 ((fr.length : Int) + 1 + 1) = μ2
              have w0 : ∀ a k, ¬ (a = 248 ∧ k = 22) → ¬ (258 ≤ a ∧ a ≤ 262 ∧ k = (fr.length : Int) + 1) → μ2 a k = μ1 a k := fun a k y1 y2 => by
                rw [← hM, zu_f (by omega), zu_f (by omega), zu_f (by omega), zu_f (by omega), zu_f (by omega), zu_f (by omega)]
              have w22 : μ2 248 22 = (fr.length : Int) + 1 + 1 := by rw [← hM, zu_s]
              have w25 : μ2 248 25 = ((pl ((r, d, as, st) :: fr)).length : Int) := (w0 _ _ (by omega) (by omega)).trans q25
              have w252 : μ2 252 (c - 97) = (gf fs (c - 97)).1 := (w0 _ _ (by omega) (by omega)).trans q252
              have w258 : μ2 258 ((fr.length : Int) + 1) = 100 + 3 * (c - 97) + wh fs c st := by rw [← hM]; simp [z_upd]
              have w259 : μ2 259 ((fr.length : Int) + 1) = ((fB (gf fs (c - 97)) (wh fs c st)).length : Int) - 1 := by rw [← hM]; simp [z_upd]
              have w260 : μ2 260 ((fr.length : Int) + 1) = ((pl ((r, d, as, st) :: fr)).length : Int) - 1 := by rw [← hM]; simp [z_upd]
              have w261 : μ2 261 ((fr.length : Int) + 1) = ((pl ((r, d, as, st) :: fr)).length : Int) - 2 := by rw [← hM]; simp [z_upd]
              have w262 : μ2 262 ((fr.length : Int) + 1) = (gf fs (c - 97)).2.1 := by rw [← hM]; simp [z_upd]
              rw [w25, w252, show (fr.length : Int) + 1 + 1 - 1 = (fr.length : Int) + 1 by omega]
              refine ⟨⟨by omega, by omega⟩, by omega, ⟨by omega, by omega⟩, by omega, Or.inr rfl, ?_⟩
              have cell : ∀ a k, ¬ (a = 248 ∧ (k = 22 ∨ k = 26)) → ¬ (258 ≤ a ∧ a ≤ 265 ∧ a ≠ 263 ∧ a ≠ 264 ∧ k = (fr.length : Int) + 1) → z_upd μ2 265 ((fr.length : Int) + 1) (((pl ((r, d, as, st) :: fr)).length : Int) - (gf fs (c - 97)).1) a k = μ a k := fun a k y1 y2 => by
                rw [zu_f (by omega), w0 a k (by omega) (by omega)]; exact frq a k (by omega)
              have eE : pl (((fB (gf fs (c - 97)) (wh fs c st)).reverse, (gf fs (c - 97)).2.1, st.take (na fs c), []) :: (r, d, as, st.drop (na fs c)) :: fr) = pl ((r, d, as, st) :: fr) := by
                show [] ++ (st.take (na fs c) ++ (st.drop (na fs c) ++ (as ++ pl fr))) = st ++ (as ++ pl fr)
                rw [List.nil_append, ← List.append_assoc, List.take_append_drop]
              refine hnext _ (u + 1) (((fB (gf fs (c - 97)) (wh fs c st)).reverse, (gf fs (c - 97)).2.1, st.take (na fs c), []) :: (r, d, as, st.drop (na fs c)) :: fr) (fun a k y => cell a k (by unfold nvm at y; omega) (by unfold nvm at y; omega)) ⟨?_, ?_, ?_, ?_, ?_, ?_, ?_⟩ hcall hR
              · rw [zu_n (by decide), w0 _ _ (by omega) (by omega)]; exact q26
              · rw [zu_n (by decide), w22]; simp
              · rw [zu_n (by decide), w25, eE]
              · rw [eE]
                exact hp_ex n4 (fun k _ _ => cell _ _ (by omega) (by omega)) (fun k _ _ => cell _ _ (by omega) (by omega))
              · have ei : ((((r, d, as, st.drop (na fs c)) :: fr : List Nf).length : Nat) : Int) = (fr.length : Int) + 1 := by simp
                have e2 : (((st.take (na fs c) ++ pl ((r, d, as, st.drop (na fs c)) :: fr)).length : Nat) : Int) = ((pl ((r, d, as, st) :: fr)).length : Int) := by
                  rw [← eE]; rfl
                unfold fmd
                rw [ei]
                dsimp only
                rw [e2, zu_n (by decide), zu_n (by decide), zu_n (by decide), zu_n (by decide), zu_n (by decide), zu_s, w258, w259, w260, w261, w262, List.reverse_reverse]
                refine ⟨Or.inr ⟨by omega, by omega, hlb, t2.ex (fun i _ _ => ?_)⟩, by simp, fun _ => ⟨rfl, rfl, rfl, ?_⟩⟩
                · rw [cell _ _ (by omega) (by omega), show 100 + 3 * (c - 97) + wh fs c st - 100 = 3 * (c - 97) + wh fs c st by omega]
                · have : ((pl ((r, d, as, st.drop (na fs c)) :: fr)).length : Int) = ((st.drop (na fs c)).length : Int) + ((as ++ pl fr).length : Int) := by
                    show ((st.drop (na fs c) ++ (as ++ pl fr)).length : Int) = _
                    rw [List.length_append]; omega
                  rw [this, eP, List.length_append, List.length_drop]
                  omega
              · have := n5.ex (μ' := z_upd μ2 265 ((fr.length : Int) + 1) (((pl ((r, d, as, st) :: fr)).length : Int) - (gf fs (c - 97)).1)) (fun k => cell _ _ (by omega) (by omega)) (fun k => cell _ _ (by omega) (by omega)) (fun a _ _ _ _ => cell _ _ (by omega) (by omega))
                exact this
              · exact fkm_ex (fun k => cell _ _ (by omega) (by omega)) (fun k => cell _ _ (by omega) (by omega)) n6 (fun a k _ _ _ _ _ => cell _ _ (by omega) (by omega))
            · rw [if_pos (by omega)] at hR; exact (Option.some.inj hR).symm
  refine s_isVar (fun q => if1 (ifb (fun g => rest (fun _ => by omega)) (fun g => ?_))) (fun q => if0 (rest (fun y => absurd y (by unfold cv at s2; omega))))
  rw [if_pos q.1] at hR
  have hne : fr.length ≠ 0 := by omega
  obtain ⟨vg, va0, vc⟩ := vof_ok hl (okM_mi hl) hok q.1
  have hokv := okN_var hl (okM_mi hl) hok q.1
  obtain ⟨b1, b2, b3, b4, b5, b6⟩ := hok.2.2.2.2.1
  obtain ⟨x1, x2, x3, x4, x5⟩ := b6 hne
  obtain ⟨y1, y2, y3⟩ := n5
  obtain ⟨z1, z2, z3, z4⟩ := y3 hne
  dsimp only at z1 z2 z3 z4 x1 x3 x4 x5
  refine ifb (fun g1 => ⟨by omega, ?_⟩) (fun g1 => ⟨by omega, ?_⟩)
  · unfold P_X12_normalizes_33
    rw [if_pos g1, z1, z3]
    have ev : vof mi fr d as c = xof d as := by unfold vof; rw [if_neg hne, if_pos g1]
    rw [ev] at hR hokv vg
    have hne2 := gV_nn vg
    cases as with
    | nil => exact absurd (by show ([] : List Int).drop d.toNat = []; simp) hne2
    | cons A as =>
      have hxe : xof d (A :: as) = A.drop d.toNat := rfl
      have hA40 := (b4 A (by simp)).2
      have hAl : d ≤ (A.length : Int) := by
        rcases Int.lt_or_le (A.length : Int) d with y | y
        · rw [hxe, List.drop_eq_nil_of_le (by omega)] at hne2
          exact absurd rfl hne2
        · exact y
      have eP2 : pl ((r, d, A :: as, st) :: fr) = st ++ A :: (as ++ pl fr) := rfl
      rw [eP2] at n4 n3 p1 p3
      refine ⟨by omega, s_pushes n4 n3 (by rw [List.cons_append, List.length_cons]; omega) (by omega) (by omega) (by omega) ⟨x5.1, hAl⟩ (fun μ1 e1 t1 t2 => ⟨Or.inr rfl, hnext μ1 u _ (fun a k q => e1 a k (nvhm a k q)) (pushed μ1 (xof d (A :: as)) e1 ?_ ?_) hokv hR⟩)⟩
      · rw [eP2]; exact t1
      · rw [eP2]; exact t2
  · unfold P_X12_normalizes_33
    rw [if_neg g1, z2]
    have ev : vof mi fr d as c = yof as := by unfold vof; rw [if_neg hne, if_neg g1]
    rw [ev] at hR hokv vg
    obtain ⟨A, B, s, eas, ey⟩ := as_2 (gV_nn vg)
    have hB40 := (b4 B (by show B ∈ as; rw [eas]; simp)).2
    have hs0 : s = [] := by
      have := x1
      rw [eas, List.length_cons, List.length_cons] at this
      exact List.length_eq_zero_iff.mp (by omega)
    subst hs0
    have eP2 : pl ((r, d, as, st) :: fr) = (st ++ [A]) ++ B :: pl fr := by
      show st ++ (as ++ pl fr) = _
      rw [eas]; simp
    have pushed' := pushed
    rw [eP2] at n4 n3 p1 p3 pushed'
    refine s_pushes n4 n3 (by rw [eas]; simp; omega) (by omega) (by omega) (by omega) ⟨by omega, by omega⟩ (fun μ1 e1 t1 t2 => ⟨Or.inr rfl, hnext μ1 u _ (fun a k q => e1 a k (nvhm a k q)) (pushed' μ1 (yof as) e1 ?_ t2) hokv hR⟩)
    rw [ey]
    exact t1
