theorem gt_last {c : Int} {r : List Int} : gt (c :: r).reverse (r.length : Int) = c := by
  rw [List.reverse_cons, gt_push (by omega), if_pos (by simp)]
theorem rp_init {g : Int → Int} {T : List Int} {x : Int} (h : rp g (T ++ [x])) : rp g T := by
  intro i h1 h2
  rw [h i h1 (by simp; omega), gt_push h1, if_neg (by omega)]
theorem s_runLoop {fs : List Fn} {mn : Int → List Int} {R : Option (List Int)} {μ0 : ZM} {K : Int → ZM → Prop} (ho : okF fs) (hF : CF μ0 fs) (hm : okM fs mn) (hz : μ0 223 0 = 90) (h1 : ∀ μ' N V, (∀ a k, ¬ nvc a k → μ' a k = μ0 a k) → R = some V → NT μ' fs N → (N.length : Int) ≤ 546 → μ' 222 13 = 1 → rN N (μ' 231 0) V → K 1 μ') (h0 : R = none → ∀ μ', (∀ a k, ¬ nvc a k → μ' a k = μ0 a k) → K 0 μ') (n : Nat) (x2 : Int) (μ : ZM) (hI : ∃ N u f fr, NC μ fs N mn u (f :: fr) ∧ (N.length : Int) + rl (f :: fr) ≤ 46 + 10 * u ∧ okN fs 40 n u (f :: fr) ∧ 0 ≤ x2 ∧ x2 + (n : Int) ≤ 591 ∧ nv fs mn n u (f :: fr) = some R ∧ ∀ a k, ¬ nvc a k → μ a k = μ0 a k) : P_X6_run_58 x2 μ K := by
  have hl := hF.2.1
  refine z_lf1_ix (fun n x2 μ => ∃ N u f fr, NC μ fs N mn u (f :: fr) ∧ (N.length : Int) + rl (f :: fr) ≤ 46 + 10 * u ∧ okN fs 40 n u (f :: fr) ∧ 0 ≤ x2 ∧ x2 + (n : Int) ≤ 591 ∧ nv fs mn n u (f :: fr) = some R ∧ ∀ a k, ¬ nvc a k → μ a k = μ0 a k) ?_ n x2 μ hI
  intro n x2 μ G ⟨N, u, f, fr, hC, hN, hok, hx0, hx, hR, hfr⟩ hG
  obtain ⟨c1, c2, c3, c4, c5, c6, c7⟩ := id hC
  have hn := okN_n hok
  obtain ⟨n, rfl⟩ := Nat.exists_eq_succ_of_ne_zero hn
  have hu := hok.2.1
  have hu0 := hok.1
  have hfl : (fr.length : Int) ≤ u := by have := hok.2.2.1; simp at this; omega
  have ho3 : μ 222 12 = (fr.length : Int) := by rw [c3]; simp
  have hrl := rl_pos fr
  have hrl0 := rl_pos (f :: fr)
  obtain ⟨r, d, as, st⟩ := f
  obtain ⟨t1, t2, t3, t4, t5⟩ := c5.1
  dsimp only at t2 t3 t4 t5
  have htm := t1
  unfold z_tm at htm
  have hlen : (r.length : Int) + (st.length : Int) ≤ 40 := by
    have := hok.2.2.2.2.2.2.1
    unfold Lb at this
    dsimp only at this
    split at this <;> omega
  refine ifb (fun g => absurd g (by omega)) (fun _ => ?_)
  rw [ho3, t3]
  cases r with
  | nil =>
    refine ⟨by omega, ifb (fun g => absurd g (by simp)) (fun _ => ?_)⟩
    cases fr with
    | nil =>
      rw [nv_end] at hR
      have e1 : st = [st.headD []] := one_of hok.2.2.2.2.2.1
      have hss : (ss [(([], d, as, st) : Nf)]) = [st.headD []] := by
        show st ++ [] = _
        rw [List.append_nil]; exact e1
      rw [hss] at c4 c6
      refine ifb (fun _ => ifb (fun _ => ⟨Or.inr rfl, h1 μ N _ hfr (Option.some.inj hR).symm c1 (by omega) c4 c6.1⟩) (fun g => absurd c4 g)) (fun g => absurd rfl g)
    | cons g fr =>
      obtain ⟨r2, d2, as2, st2⟩ := g
      obtain ⟨p1, p2, p3⟩ := okN_pop hok
      rw [nv_pop] at hR
      refine ifb (fun q => absurd q (by simp; omega)) (fun _ => ?_)
      unfold P_X6_run_98
      rw [ho3, t3]
      refine ⟨by omega, ifb (fun g => absurd g (by simp)) (fun _ => ⟨⟨by omega, by omega⟩, ⟨by omega, by omega⟩, ?_⟩)⟩
      refine hG n _ _ (Nat.lt_succ_self n) ⟨N, u, _, _, ⟨c1.ex (fun a k _ _ => zu_n (by omega)) (zu_k (by decide)), (zu_k (by decide)).trans c2, ?_, ?_, ?_, ?_, ?_⟩, ?_, p3, by omega, by omega, hR, fun a k q => ?_⟩
      · show z_upd μ 222 12 _ 222 12 = _
        rw [zu_s]; simp
      · show z_upd μ 222 12 _ 222 13 = _
        rw [zu_k (by decide), c4]
        show ((st ++ (st2 ++ ss fr)).length : Int) = (((st.headD [] :: st2) ++ ss fr).length : Int)
        rw [p1]; simp
      · refine ⟨?_, gk_ex c5.2.2 (fun i f _ _ q => q.ex (fun a k ha => zu_n (by omega)) (fun a p1 p2 => zu_n (by omega)) (fun _ _ p => p))⟩
        exact (fcl.ex c5.2.1 (fun a k ha => zu_n (by omega)) (fun a p1 p2 => zu_n (by omega)) (fun _ _ p => p) : fcl (z_upd μ 222 12 _) N mn (fr.length : Int) (r2, d2, as2, st2))
      · have : ss ((r2, d2, as2, st.headD [] :: st2) :: fr) = ss (([], d, as, st) :: (r2, d2, as2, st2) :: fr) := by
          show (st.headD [] :: st2) ++ ss fr = st ++ (st2 ++ ss fr)
          rw [p1]; simp
        rw [this]
        exact gk_ex c6 (fun i V _ _ q => by rw [zu_n (by decide)]; exact q)
      · rw [zu_n (by decide)]; exact c7
      · have e1 : rl (([], d, as, st) :: (r2, d2, as2, st2) :: fr) = (0 : Int) + ((r2.length : Int) + rl fr) := rfl
        have e2 : rl ((r2, d2, as2, st.headD [] :: st2) :: fr) = (r2.length : Int) + rl fr := rfl
        omega
      · rw [zu_n (by unfold nvc at q; omega)]; exact hfr a k q
  | cons c r =>
    have hpos : (0 : Int) < ((c :: r).length : Int) := by simp
    have main : P_X6_run_98 G x2 μ K := by
      unfold P_X6_run_98
      rw [ho3, t3]
      have hlen' : (r.length : Int) + 1 ≤ 40 := by simp at hlen; omega
      refine ⟨by omega, ifb (fun _ => ?_) (fun g => absurd hpos g)⟩
      simp only [z_wr]
      rw [show (((c :: r).length : Nat) : Int) - 1 = (r.length : Int) by simp]
      rw [show z_upd μ 228 (fr.length : Int) (r.length : Int) 222 12 = (fr.length : Int) from (zu_n (by decide)).trans ho3]
      rw [show z_upd μ 228 (fr.length : Int) (r.length : Int) 228 (fr.length : Int) = (r.length : Int) from zu_s]
      rw [show z_upd μ 228 (fr.length : Int) (r.length : Int) 227 (fr.length : Int) = μ 227 (fr.length : Int) from zu_n (by decide)]
      have hcode : z_upd μ 228 (fr.length : Int) (r.length : Int) (μ 227 (fr.length : Int) + 1) (r.length : Int) = c := by
        rw [zu_n (by omega), t2 _ (by omega) (by simp; omega)]
        exact gt_last
      rw [hcode]
      have hfr' : ∀ a k, ¬ nvc a k → z_upd μ 228 (fr.length : Int) (r.length : Int) a k = μ0 a k := fun a k q => by
        rw [zu_n (by unfold nvc at q; omega)]; exact hfr a k q
      have hC' : NC (z_upd μ 228 (fr.length : Int) (r.length : Int)) fs N mn u ((r, d, as, st) :: fr) := by
        refine ⟨c1.ex (fun a k _ _ => zu_n (by omega)) (zu_n (by decide)), (zu_n (by decide)).trans c2, (zu_n (by decide)).trans c3, (zu_n (by decide)).trans c4, ⟨?_, ?_⟩, ?_, ?_⟩
        · unfold fcl
          rw [show z_upd μ 228 (fr.length : Int) (r.length : Int) 227 (fr.length : Int) = μ 227 (fr.length : Int) from zu_n (by decide)]
          rw [List.reverse_cons] at t2
          refine ⟨t1, (rp_init t2).ex (fun j _ _ => zu_n (by omega)), zu_s, fun q => ?_, fun q => ?_⟩
          · rw [zu_n (by decide)]; exact t4 (by simp [show (120 : Int) ∈ r from q])
          · rw [zu_n (by decide)]; exact t5 (by simp [show (121 : Int) ∈ r from q])
        · exact gk_ex c5.2 (fun i f p1 p2 q => q.ex (fun a k ha => zu_n (by omega)) (fun a p3 p4 => zu_k (by omega)) (fun _ _ p => p))
        · exact gk_ex c6 (fun i V _ _ q => by rw [zu_n (by decide)]; exact q)
        · rw [zu_n (by decide)]; exact c7
      have hF' : CF (z_upd μ 228 (fr.length : Int) (r.length : Int)) fs := hF.fr (fun a ha k => hfr' a k (by unfold nvc; omega)) (hfr' _ _ (by unfold nvc; omega))
      have hN' : (N.length : Int) + rl ((r, d, as, st) :: fr) + 1 ≤ 46 + 10 * u := by
        have e1 : rl ((c :: r, d, as, st) :: fr) = ((r.length + 1 : Nat) : Int) + rl fr := rfl
        have e2 : rl ((r, d, as, st) :: fr) = (r.length : Int) + rl fr := rfl
        omega
      have go : ∀ μ' N' u' fr', (∀ a k, ¬ nvc a k → μ' a k = z_upd μ 228 (fr.length : Int) (r.length : Int) a k) → NC μ' fs N' mn u' fr' → (N'.length : Int) + rl fr' ≤ 46 + 10 * u' → okN fs 40 n u' fr' → nv fs mn n u' fr' = some R → P_X6_run_182 G x2 1 μ' K := by
        intro μ' N' u' fr' q1 q2 q3 q4 q5
        unfold P_X6_run_182
        rw [if_neg (by decide)]
        cases fr' with
        | nil => exact absurd q4.2.2.2.2 id
        | cons f' fr' => exact ⟨⟨by omega, by omega⟩, hG n _ _ (Nat.lt_succ_self n) ⟨N', u', f', fr', q2, q3, q4, by omega, by omega, q5, fun a k q => (q1 a k q).trans (hfr' a k q)⟩⟩
      have bad : R = none → ∀ μ', (∀ a k, ¬ nvc a k → μ' a k = z_upd μ 228 (fr.length : Int) (r.length : Int) a k) → P_X6_run_182 G x2 0 μ' K := by
        intro q μ' q1
        unfold P_X6_run_182
        rw [if_pos rfl]
        exact ⟨Or.inl rfl, h0 q μ' (fun a k p => (q1 a k p).trans (hfr' a k p))⟩
      refine ⟨by omega, ⟨by omega, by omega⟩, by omega, by omega, t1, by omega, by omega, s_isLetter (fun q => if1 ⟨⟨by omega, by omega⟩, ?_⟩) (fun q => if0 ?_)⟩
      · exact s_napply (n := n) ho hF' hok hC' hN' q hR bad go
      · refine s_ntake (n := n) ho hF' hm hok hC' (fun e => ?_) (fun e => ?_) hN' q ((hfr' _ _ (by unfold nvc; omega)).trans hz) hR bad (fun μ' N' fr' => go μ' N' u fr')
        · rw [zu_n (by decide)]
          have := t4 (by simp [e])
          unfold vof
          by_cases g : fr.length = 0
          · rw [if_pos (by omega)] at this; rw [if_pos g]; exact this
          · rw [if_neg (by omega)] at this; rw [if_neg g, if_pos rfl]; exact this
        · rw [zu_n (by decide)]
          have := t5 (by simp [e])
          unfold vof
          by_cases g : fr.length = 0
          · rw [if_pos (by omega)] at this; rw [if_pos g]; exact this
          · rw [if_neg (by omega)] at this; rw [if_neg g, if_neg (by decide)]; exact this
    exact ⟨by omega, ifb (fun _ => main) (fun g => absurd hpos g)⟩
