theorem take_s1 {T : List Int} {i : Int} (h : 0 ≤ i ∧ i < (T.length : Int)) : T.take (i + 1).toNat = T.take i.toNat ++ [gt T i] := by
  have := take_gt (T := T) (i := i + 1) (by omega)
  rw [show i + 1 - 1 = i by omega] at this
  exact this
/-- the pile's only entry comes to a slot -/
theorem s_norm136 {fs : List Fn} {s : Int} {V : List Int} {μ : ZM} {K : Int → ZM → Prop} (hs : 0 ≤ s ∧ s < 44) (hp1 : hp μ [V]) (hV : V.length ≤ 40) (h : ∀ μ', (∀ a k, ¬ (a = 249 ∧ 128 * s ≤ k ∧ k < 128 * s + 128) → ¬ (a = 250 ∧ k = s) → μ' a k = μ a k) → Sl μ' s V → K 1 μ') : P_X12_makesNormal_136 s 0 (z_upd μ 250 s 0) K := by
  have h1 : μ 264 1 = (V.length : Int) := by have := hp1.1; simp [off] at this; exact this
  have h2 : ∀ i : Int, 0 ≤ i → i < (V.length : Int) → μ 263 i = gt V i := by
    intro i p1 p2
    have := hp1.2.1 i p1 p2
    simp [off] at this
    exact this
  refine z_lf1_ind (fun i μ' => 0 ≤ i ∧ i ≤ (V.length : Int) ∧ Sl μ' s (V.take i.toNat) ∧ ∀ a k, ¬ (a = 249 ∧ 128 * s ≤ k ∧ k < 128 * s + 128) → ¬ (a = 250 ∧ k = s) → μ' a k = μ a k) (fun i μ' => ((V.length : Int) - i).toNat) ?_ 0 _ ⟨by omega, by omega, ⟨by rw [zu_s]; rfl, fun i g1 g2 => absurd g2 (by simp; omega)⟩, fun a k g1 g2 => zu_f g2⟩
  intro i μ' G ⟨e1, e2, e3, e4⟩ hG
  rw [show μ' 264 1 = (V.length : Int) from (e4 264 1 (by omega) (by omega)).trans h1]
  refine ⟨by omega, ifb (fun g => ⟨Or.inr rfl, h μ' e4 ?_⟩) (fun g => ⟨by omega, ?_⟩)⟩
  · rw [List.take_of_length_le (by omega)] at e3; exact e3
  · rw [show μ' 263 i = gt V i from (e4 263 i (by omega) (by omega)).trans (h2 i e1 (by omega))]
    have hlt : ((V.take i.toNat).length : Int) = i := by rw [List.length_take]; omega
    refine s_puts hs e3 (by omega) (fun μ2 f1 f2 => ⟨⟨by omega, by omega⟩, hG _ _ ⟨by omega, by omega, ?_, fun a k g1 g2 => ?_⟩ (by omega)⟩)
    · rw [take_s1 ⟨e1, by omega⟩]; exact f2
    · rw [f1 a k (by omega) g2]
      exact e4 a k g1 g2
theorem s_normLoop {fs : List Fn} {R : Option (List Int)} {s : Int} {μ0 : ZM} {K : Int → ZM → Prop} (ho : okF fs) (hF : MF μ0 fs) (hs : 0 ≤ s ∧ s < 44) (h1 : ∀ V, R = some V → ∀ μ', (∀ a k, ¬ nvm a k → ¬ (a = 249 ∧ 128 * s ≤ k ∧ k < 128 * s + 128) → ¬ (a = 250 ∧ k = s) → μ' a k = μ0 a k) → Sl μ' s V → K 1 μ') (h0 : R = none → ∀ μ', (∀ a k, ¬ nvm a k → μ' a k = μ0 a k) → K 0 μ') (n : Nat) (μ : ZM) (hI : ∃ u fr, NM μ u fr ∧ okN fs 120 n u fr ∧ nv fs mi n u fr = some R ∧ ∀ a k, ¬ nvm a k → μ a k = μ0 a k) : P_X12_makesNormal_36 s μ K := by
  have hl := hF.2.1
  refine z_lf0_ix (fun n μ => (∃ u fr, NM μ u fr ∧ okN fs 120 n u fr ∧ nv fs mi n u fr = some R ∧ ∀ a k, ¬ nvm a k → μ a k = μ0 a k) ∨ (∃ V, R = some V ∧ gV fs V ∧ μ 248 22 = 0 ∧ hp μ [V] ∧ ∀ a k, ¬ nvm a k → μ a k = μ0 a k)) ?_ n μ (Or.inl hI)
  intro n μ G hJ hG
  rcases hJ with ⟨u, fr, hC, hok, hR, hfr⟩ | ⟨V, q1, q2, q3, q4, q5⟩
  · have hn := okN_n hok
    obtain ⟨n, rfl⟩ := Nat.exists_eq_succ_of_ne_zero hn
    have hu := hok.2.1
    have hu0 := hok.1
    cases fr with
    | nil => exact absurd hok.2.2.2.2 id
    | cons f fr =>
      have hfl : (fr.length : Int) ≤ u := by have := hok.2.2.1; simp at this; omega
      obtain ⟨r, d, as, st⟩ := f
      obtain ⟨c1, c2, c3, c4, c5, c6⟩ := id hC
      obtain ⟨t1, t2, t3⟩ := c5
      dsimp only at t1 t2 t3
      obtain ⟨p1, p2, p3⟩ := pl_top ho hok
      have hi : μ 248 22 - 1 = (fr.length : Int) := by rw [c2]; simp
      have hlen : (r.length : Int) + (st.length : Int) ≤ 120 := by
        have := hok.2.2.2.2.2.2.1
        unfold Lb at this
        dsimp only at this
        split at this <;> omega
      refine ifb (fun g => absurd g (by rw [c2]; simp)) (fun _ => ?_)
      rw [hi, t2]
      cases r with
      | nil =>
        have e1 : st = [st.headD []] := one_of hok.2.2.2.2.2.1
        have hg : gV fs (st.headD []) := hok.2.2.2.2.1.2.2.1 _ (by show st.headD [] ∈ st; rw [e1]; simp)
        refine ⟨⟨by omega, by omega⟩, by omega, ifb (fun g => absurd g (by simp)) (fun _ => ⟨⟨by omega, by omega⟩, ?_⟩)⟩
        simp only [z_wr]
        rw [show z_upd μ 248 22 (fr.length : Int) 248 22 = (fr.length : Int) from zu_s]
        have fr1 : ∀ a k, ¬ nvm a k → z_upd μ 248 22 (fr.length : Int) a k = μ0 a k := fun a k q => by
          rw [zu_f (by unfold nvm at q; omega)]; exact hfr a k q
        cases fr with
        | nil =>
          rw [nv_end] at hR
          refine ifb (fun _ => ?_) (fun g => absurd (by simp) g)
          have eP : pl [(([], d, as, st) : Nf)] = [st.headD []] := by
            show st ++ (as ++ []) = _
            rw [show as = [] from hok.2.2.2.2.1.2.2.2.2.1 rfl, List.append_nil, List.append_nil]; exact e1
          rw [eP] at c4
          exact hG 0 _ (by omega) (Or.inr ⟨_, (Option.some.inj hR).symm, hg, zu_s, hp_ex c4 (fun k _ _ => zu_n (by decide)) (fun k _ _ => zu_n (by decide)), fr1⟩)
        | cons g fr =>
          obtain ⟨r2, d2, as2, st2⟩ := g
          obtain ⟨w1, w2, w3⟩ := okN_pop hok
          rw [nv_pop] at hR
          obtain ⟨z1, z2, z3, z4⟩ := t3 (by simp)
          refine ifb (fun g => absurd g (by simp)) (fun _ => ⟨by omega, ?_⟩)
          have eP : pl (([], d, as, st) :: (r2, d2, as2, st2) :: fr) = st.headD [] :: (as ++ pl ((r2, d2, as2, st2) :: fr)) := by
            show st ++ (as ++ _) = _
            rw [w1]; rfl
          rw [eP] at c3 c4 p1 p3
          have oe : off (st.headD [] :: (as ++ pl ((r2, d2, as2, st2) :: fr))) = ((st.headD []).length : Int) + off (as ++ pl ((r2, d2, as2, st2) :: fr)) := rfl
          have l40 := w2.2
          rw [List.length_cons] at p1 c3
          refine s_falls (A := as) (B := pl ((r2, d2, as2, st2) :: fr)) (V := st.headD []) (hp_ex c4 (fun k _ _ => zu_n (by decide)) (fun k _ _ => zu_n (by decide))) ?_ ?_ (by omega) (by omega) (by omega) (fun μ2 e2 t4 t5 => ?_)
          · rw [zu_k (by decide), c3]; omega
          · rw [zu_n (by decide)]; exact z4
          · have fr2 : ∀ a k, ¬ nvm a k → μ2 a k = μ0 a k := fun a k q => (e2 a k (by unfold nvm at q; unfold nvh; omega)).trans (fr1 a k q)
            have cell : ∀ a k, ¬ (a = 248 ∧ k = 22) → ¬ nvh a k → μ2 a k = μ a k := fun a k y1 y2 => (e2 a k y2).trans (zu_f y1)
            refine hG n _ (Nat.lt_succ_self n) (Or.inl ⟨u, (r2, d2, as2, st.headD [] :: st2) :: fr, ⟨(cell _ _ (by omega) (by unfold nvh; omega)).trans c1, ?_, ?_, t4, ?_, ?_⟩, w3, hR, fr2⟩)
            · rw [e2 _ _ (by unfold nvh; omega), zu_s]; simp
            · rw [t5]
              show ((st2 ++ (as2 ++ pl fr)).length : Int) + 1 = (((st.headD [] :: st2) ++ (as2 ++ pl fr)).length : Int)
              rw [List.cons_append, List.length_cons]; omega
            · have := c6.1.ex (μ' := μ2) (fun k => cell _ _ (by omega) (by unfold nvh; omega)) (fun k => cell _ _ (by omega) (by unfold nvh; omega)) (fun a y1 y2 y3 y4 => cell _ _ (by omega) (by unfold nvh; omega))
              exact this
            · exact fkm_ex (fun k => cell _ _ (by omega) (by unfold nvh; omega)) (fun k => cell _ _ (by omega) (by unfold nvh; omega)) c6.2 (fun a k y1 y2 y3 y4 _ => cell _ _ (by omega) (by unfold nvh; omega))
      | cons c r =>
        have hpos : (0 : Int) ≤ (((c :: r).length : Nat) : Int) - 1 := by rw [List.length_cons]; omega
        have hl1 : (((c :: r).length : Nat) : Int) - 1 = (r.length : Int) := by rw [List.length_cons]; omega
        refine ⟨⟨by omega, by omega⟩, by omega, ifb (fun _ => ⟨by omega, ?_⟩) (fun g => absurd hpos g)⟩
        rw [hl1]
        refine s_signOf2 (T := (c :: r).reverse) (by omega) t1 ⟨by omega, by simp; omega⟩ ?_
        rw [gt_last, t2, hl1]
        simp only [z_wr]
        rw [List.length_cons] at hlen
        refine ⟨by omega, ⟨by omega, by omega⟩, by omega, ?_⟩
        have fr1 : ∀ a k, ¬ nvm a k → z_upd μ 259 (fr.length : Int) ((r.length : Int) - 1) a k = μ0 a k := fun a k q => by
          rw [zu_n (by unfold nvm at q; omega)]; exact hfr a k q
        have hC' : NM (z_upd μ 259 (fr.length : Int) ((r.length : Int) - 1)) u ((r, d, as, st) :: fr) := by
          refine ⟨(zu_n (by decide)).trans c1, (zu_n (by decide)).trans c2, (zu_n (by decide)).trans c3, hp_ex c4 (fun k _ _ => zu_n (by decide)) (fun k _ _ => zu_n (by decide)), ⟨?_, zu_s, ?_⟩, fkm_ex (fun k => zu_n (by decide)) (fun k => zu_n (by decide)) c6 (fun a k _ _ _ _ y => zu_k (by omega))⟩
          · rw [zu_n (by decide)]
            have t1' := t1.ex (μ' := z_upd μ 259 (fr.length : Int) ((r.length : Int) - 1)) (fun k => zu_n (by decide)) (fun k => zu_n (by decide))
            rw [List.reverse_cons] at t1'
            dsimp only
            rcases t1' with ⟨x1, x2, x3, x4⟩ | ⟨x1, x2, x3, x4⟩
            · exact Or.inl ⟨x1, x2, by simp at x3 ⊢; omega, rp_init x4⟩
            · exact Or.inr ⟨x1, x2, by simp at x3 ⊢; omega, rp_init x4⟩
          · intro y
            rw [zu_n (by decide), zu_n (by decide), zu_n (by decide), zu_n (by decide)]
            exact t3 y
        refine s_normalizes (n := n) ho (hF.fr (fun a ha k => fr1 _ _ (by unfold nvm; omega)) (fr1 _ _ (by unfold nvm; omega))) hok hC' hR (fun q μ2 e2 => if0 ⟨Or.inl rfl, h0 q μ2 (fun a k y => (e2 a k y).trans (fr1 a k y))⟩) (fun μ2 u2 fr2 e2 t4 t5 t6 => if1 ?_)
        exact hG n _ (Nat.lt_succ_self n) (Or.inl ⟨u2, fr2, t4, t5, t6, fun a k y => (e2 a k y).trans (fr1 a k y)⟩)
  · refine ifb (fun _ => ⟨hs, ?_⟩) (fun g => absurd (by omega) g)
    exact s_norm136 (fs := fs) hs q4 q2.2 (fun μ2 e2 t2 => h1 V q1 μ2 (fun a k y1 y2 y3 => (e2 a k y2 y3).trans (q5 a k y1)) t2)
theorem s_makesNormal {fs : List Fn} {s s' : Int} {T : List Int} {μ : ZM} {K : Int → ZM → Prop} (ho : okF fs) (hF : MF μ fs) (hs : 0 ≤ s ∧ s < 44) (hs' : 0 ≤ s' ∧ s' < 44) (hS : Sl μ s T) (hT : okT fs T) (hlT : T.length ≤ 120) (h0 : nm fs T = none → ∀ μ', (∀ a k, ¬ nvm a k → μ' a k = μ a k) → K 0 μ') (h1 : ∀ V, nm fs T = some V → ∀ μ', (∀ a k, ¬ nvm a k → ¬ (a = 249 ∧ 128 * s' ≤ k ∧ k < 128 * s' + 128) → ¬ (a = 250 ∧ k = s') → μ' a k = μ a k) → Sl μ' s' V → K 1 μ') : P_X12_makesNormal s s' μ K := by
  have hl := hF.2.1
  unfold P_X12_makesNormal P_X12_enters
  simp only [z_wr, zu_n (show (250 : Int) ≠ 248 by decide), zu_n (show (250 : Int) ≠ 264 by decide), zu_n (show (248 : Int) ≠ 258 by decide), zu_n (show (248 : Int) ≠ 259 by decide), zu_n (show (248 : Int) ≠ 260 by decide), zu_n (show (248 : Int) ≠ 261 by decide), zu_n (show (248 : Int) ≠ 262 by decide), zu_s]
  rw [hS.1]
  generalize hM : z_upd (z_upd (z_upd (z_upd (z_upd (z_upd (z_upd (z_upd (z_upd (z_upd μ 248 25 0) 264 0 0) 248 26 0) 248 22 0) 258 0 s) 259 0 ((T.length : Int) - 1)) 260 0 0) 261 0 0) 262 0 0) 248 22 (0 + 1) = μ1
  have m0 : ∀ a k, ¬ nvm a k → μ1 a k = μ a k := fun a k q => by
    unfold nvm at q
    rw [← hM, zu_f (by omega), zu_f (by omega), zu_f (by omega), zu_f (by omega), zu_f (by omega), zu_f (by omega), zu_f (by omega), zu_f (by omega), zu_f (by omega), zu_f (by omega)]
  refine ⟨by omega, hs, by omega, ⟨by omega, by omega⟩, by omega, by omega, by omega, by omega, ⟨by omega, by omega⟩, ?_⟩
  refine s_normLoop (R := nm fs T) ho hF hs' h1 h0 671 μ1 ⟨0, [(T.reverse, 0, [], [])], ⟨?_, ?_, ?_, ?_, ⟨?_, ?_, fun y => absurd rfl y⟩, trivial⟩, okN_0 hT (by omega) (by omega), nm_eq ho hl hT hlT, m0⟩
  · rw [← hM]; simp [z_upd]
  · rw [← hM]; simp [z_upd]
  · rw [← hM]; simp [z_upd, pl]
  · show μ1 264 0 = 0
    rw [← hM]; simp [z_upd]
  · have : μ1 258 0 = s := by rw [← hM]; simp [z_upd]
    show mdR μ1 (μ1 258 0) T.reverse.reverse
    rw [this, List.reverse_reverse]
    exact Or.inl ⟨hs.1, hs.2, hlT, hS.2.ex (fun i _ _ => m0 _ _ (by unfold nvm; omega))⟩
  · show μ1 259 0 = (T.reverse.length : Int) - 1
    rw [← hM]; simp [z_upd]
