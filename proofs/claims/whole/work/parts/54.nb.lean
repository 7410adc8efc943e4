def okM (fs : List Fn) (mn : Int → List Int) : Prop := ∀ c, 120 ≤ c → c ≤ 122 → gV fs (mn c)
theorem vof_ok {fs : List Fn} {mn : Int → List Int} {L0 : Int} {n : Nat} {u c d : Int} {r : List Int} {as st : List (List Int)} {fr : List Nf} (hl : fs.length ≤ 6) (hm : okM fs mn) (h : okN fs L0 n u ((c :: r, d, as, st) :: fr)) (hc : 120 ≤ c) : gV fs (vof mn fr d as c) ∧ arf fs c = 0 ∧ c ≤ 122 := by
  obtain ⟨s1, s2, s3⟩ := okN_st h
  obtain ⟨a1, a2, a3, a4, ⟨b1, b2, b3, b4, b5, b6⟩, a6, a7, a8⟩ := h
  have hc2 : c ≤ 122 := by unfold cv at s2; omega
  refine ⟨?_, ?_, hc2⟩
  · unfold vof
    by_cases g : fr.length = 0
    · rw [if_pos g]; exact hm c hc hc2
    · rw [if_neg g]
      obtain ⟨x1, x2, x3, x4, x5⟩ := b6 g
      by_cases g1 : c = 120
      · rw [if_pos g1]; exact x3 (by simp [g1])
      · rw [if_neg g1]
        by_cases g2 : c = 122
        · exact absurd (by simp [g2]) x2
        · exact x4 (by simp; omega)
  · unfold arf
    rw [if_neg (by omega), if_neg (by omega)]
theorem drop_0 {fs : List Fn} {c : Int} {st : List (List Int)} (h : arf fs c = 0) : st.drop (na fs c) = st := by
  unfold na; rw [h]; rfl
theorem gV_Z {fs : List Fn} : gV fs [90] := by
  refine ⟨⟨⟨by omega, ?_⟩, fun c hc => ?_⟩, by simp⟩
  · show (1 : Int) - 1 + arf fs 90 = 0
    unfold arf
    rw [if_neg (by omega), if_neg (by omega)]; rfl
  · rw [List.mem_singleton.mp hc]; exact Or.inl rfl
theorem arf_90 {fs : List Fn} : arf fs 90 = 0 := by
  unfold arf; rw [if_neg (by omega), if_neg (by omega)]
theorem okN_var {fs : List Fn} {mn : Int → List Int} {L0 : Int} {n : Nat} {u c d : Int} {r : List Int} {as st : List (List Int)} {fr : List Nf} (hl : fs.length ≤ 6) (hm : okM fs mn) (h : okN fs L0 (n + 1) u ((c :: r, d, as, st) :: fr)) (hc : 120 ≤ c) : okN fs L0 n u ((r, d, as, vof mn fr d as c :: st) :: fr) := by
  obtain ⟨q1, q2, -⟩ := vof_ok hl hm h hc
  have := okN_val h (by omega) q1
  rw [drop_0 q2] at this
  exact this
theorem okN_Z {fs : List Fn} {L0 : Int} {n : Nat} {u d : Int} {r : List Int} {as st : List (List Int)} {fr : List Nf} (h : okN fs L0 (n + 1) u ((90 :: r, d, as, st) :: fr)) : okN fs L0 n u ((r, d, as, [90] :: st) :: fr) := by
  have := okN_val h (by rw [arf_90]; omega) gV_Z
  rw [drop_0 arf_90] at this
  exact this
theorem okN_join {fs : List Fn} {L0 : Int} {n : Nat} {u c d : Int} {r : List Int} {as st : List (List Int)} {fr : List Nf} (ho : okF fs) (h : okN fs L0 (n + 1) u ((c :: r, d, as, st) :: fr)) (hl : (jl fs c st).length ≤ 40) : okN fs L0 n u ((r, d, as, jl fs c st :: st.drop (na fs c)) :: fr) := by
  obtain ⟨s1, s2, s3⟩ := okN_st h
  exact okN_val h (arf_pos ho c) (jl_ok ho s2 s1 s3 hl)
theorem nv_ok {fs : List Fn} {mn : Int → List Int} {L0 : Int} (ho : okF fs) (hl : fs.length ≤ 6) (hm : okM fs mn) : ∀ (n : Nat) (u : Int) (fr : List Nf), okN fs L0 n u fr → ∃ R, nv fs mn n u fr = some R ∧ ∀ V, R = some V → gV fs V := by
  intro n
  induction n with
  | zero => intro u fr h; exact absurd rfl (okN_n h)
  | succ n ih =>
    intro u fr h
    cases fr with
    | nil => exact absurd h.2.2.2.2 id
    | cons f fr =>
      obtain ⟨r, d, as, st⟩ := f
      cases r with
      | nil =>
        cases fr with
        | nil =>
          rw [nv_end]
          refine ⟨_, rfl, fun V hV => ?_⟩
          obtain ⟨a1, a2, a3, a4, a5, a6, a7⟩ := h
          have e := one_of (st := st) a6
          have := Option.some.inj hV
          rw [← this]
          exact a5.2.2.1 _ (by show st.headD [] ∈ st; rw [e]; simp)
        | cons g fr =>
          obtain ⟨r2, d2, as2, st2⟩ := g
          rw [nv_pop]
          exact ih _ _ (okN_pop h).2.2
      | cons c r =>
        rw [nv_c]
        by_cases g1 : 120 ≤ c
        · rw [if_pos g1]; exact ih _ _ (okN_var hl hm h g1)
        rw [if_neg g1]
        by_cases g2 : c = 90
        · rw [if_pos g2]; subst g2; exact ih _ _ (okN_Z h)
        rw [if_neg g2]
        by_cases g3 : wh fs c st = -9
        · rw [if_pos g3]
          by_cases g4 : (jl fs c st).length ≤ 40
          · rw [if_pos g4]; exact ih _ _ (okN_join ho h g4)
          · rw [if_neg g4]; exact ⟨none, rfl, fun V hV => absurd hV (by simp)⟩
        rw [if_neg g3]
        by_cases g4 : 50 ≤ u
        · rw [if_pos g4]; exact ⟨none, rfl, fun V hV => absurd hV (by simp)⟩
        · rw [if_neg g4]; exact ih _ _ (okN_call ho hl h g1 g2 g3 (by omega)).2.2.2
theorem okN_0 {fs : List Fn} {T : List Int} {L0 : Int} {n : Nat} (hT : okT fs T) (hl : (T.length : Int) ≤ L0) (hn : L0 + 551 ≤ (n : Int)) : okN fs L0 n 0 [(T.reverse, 0, [], [])] := by
  obtain ⟨p1, p2⟩ := pw_iff.mp hT.1
  refine ⟨by omega, by omega, by simp, ?_, ⟨?_, fun c hc => hT.2 c (by simpa using hc), fun V hV => absurd hV (by simp), fun V hV => absurd hV (by simp), fun _ => rfl, fun q => absurd rfl q⟩, ?_, ?_, trivial⟩
  · show ((T.reverse.length : Int) + 1) + 0 + 11 * (50 - 0) ≤ _
    rw [List.length_reverse]; omega
  · rw [← List.reverse_reverse T, qk_rev] at p1; exact p1
  · rw [← List.reverse_reverse T, qn_rev] at p2; exact p2.symm
  · show (T.reverse.length : Int) + 0 ≤ Lb L0 0
    rw [List.length_reverse]
    unfold Lb; rw [if_pos rfl]; omega
def mi (c : Int) : List Int := [c]
theorem okM_mi {fs : List Fn} (hl : fs.length ≤ 6) : okM fs mi := by
  intro c h1 h2
  refine ⟨⟨⟨by omega, ?_⟩, fun x hx => ?_⟩, by simp [mi]⟩
  · show (1 : Int) - 1 + arf fs c = 0
    unfold arf
    rw [if_neg (by omega), if_neg (by omega)]; rfl
  · rw [List.mem_singleton.mp hx]; unfold cv; omega
/-- the normal form, or none -/
def nm (fs : List Fn) (T : List Int) : Option (List Int) := (nv fs mi 671 0 [(T.reverse, 0, [], [])]).getD none
theorem nm_eq {fs : List Fn} {T : List Int} (ho : okF fs) (hl : fs.length ≤ 6) (hT : okT fs T) (hb : T.length ≤ 120) : nv fs mi 671 0 [(T.reverse, 0, [], [])] = some (nm fs T) := by
  obtain ⟨R, h1, -⟩ := nv_ok (L0 := 120) ho hl (okM_mi hl) 671 0 _ (okN_0 (T := T) hT (by omega) (by omega))
  unfold nm
  rw [h1]; rfl
theorem nm_ok {fs : List Fn} {T V : List Int} (ho : okF fs) (hl : fs.length ≤ 6) (hT : okT fs T) (hb : T.length ≤ 120) (h : nm fs T = some V) : gV fs V := by
  obtain ⟨R, h1, h2⟩ := nv_ok (L0 := 120) ho hl (okM_mi hl) 671 0 _ (okN_0 (T := T) hT (by omega) (by omega))
  have := nm_eq ho hl hT hb
  rw [h1] at this
  exact h2 V (by rw [Option.some.inj this]; exact h)
/-! a variable that stands for S .. S of something -/
def sv (v b : Int) (k : Nat) (c : Int) : List Int := if c = v then List.replicate k 83 ++ [b] else [c]
def sT (v b : Int) (k : Nat) (T : List Int) : List Int := T.flatMap (sv v b k)
def sr (v b : Int) (k : Nat) (r : List Int) : List Int := r.flatMap (fun c => (sv v b k c).reverse)
theorem sT_rev {v b : Int} {k : Nat} : ∀ T : List Int, (sT v b k T).reverse = sr v b k T.reverse
  | [] => rfl
  | c :: T => by
    show (sv v b k c ++ sT v b k T).reverse = _
    rw [List.reverse_append, sT_rev T]
    unfold sr
    rw [List.reverse_cons, List.flatMap_append]
    simp
theorem nv_S {fs : List Fn} {u d : Int} {r : List Int} {as st : List (List Int)} {fr : List Nf} {m : Nat} {mn : Int → List Int} : ∀ (k : Nat) (V : List Int), V.length + k ≤ 40 → nv fs mn (k + m) u ((List.replicate k 83 ++ r, d, as, V :: st) :: fr) = nv fs mn m u ((r, d, as, (List.replicate k 83 ++ V) :: st) :: fr)
  | 0, V, _ => by rw [Nat.zero_add]; rfl
  | k + 1, V, h => by
    rw [show k + 1 + m = (k + m) + 1 by omega, List.replicate_succ, List.cons_append, nv_c, if_neg (by omega), if_neg (by omega)]
    have e : na fs 83 = 1 := by unfold na arf; rw [if_pos rfl]; rfl
    have e2 : jl fs 83 (V :: st) = 83 :: V := by unfold jl; rw [e]; simp
    rw [if_pos (by unfold wh; rw [if_pos rfl]), e2, if_pos (by simp; omega), e]
    show nv fs mn (k + m) u ((List.replicate k 83 ++ r, d, as, (83 :: V) :: st) :: fr) = _
    rw [nv_S k (83 :: V) (by simp; omega), ← List.replicate_succ, List.replicate_succ']
    simp
theorem nv_sub {fs : List Fn} {v b : Int} {k : Nat} (hv : 120 ≤ v) (hb : b = 90 ∨ b = v) (hk : k ≤ 2) {d : Int} {as : List (List Int)} : ∀ (n : Nat) (u : Int) (fr : List Nf) (r : List Int) (st : List (List Int)) (R : Option (List Int)), nv fs (sv v b k) n u (fr ++ [(r, d, as, st)]) = some R → ∃ m, nv fs mi m u (fr ++ [(sr v b k r, d, as, st)]) = some R := by
  intro n
  induction n with
  | zero => intro u fr r st R h; rw [nv] at h; exact absurd h (by simp)
  | succ n ih =>
    intro u fr r st R h
    cases fr with
    | nil =>
      cases r with
      | nil =>
        rw [List.nil_append, nv_end] at h
        exact ⟨1, h⟩
      | cons c r =>
        rw [List.nil_append, nv_c] at h
        have es : sr v b k (c :: r) = (sv v b k c).reverse ++ sr v b k r := rfl
        by_cases g1 : 120 ≤ c
        · rw [if_pos g1] at h
          have ev : vof (sv v b k) [] d as c = sv v b k c := rfl
          rw [ev] at h
          obtain ⟨m, hm⟩ := ih u [] r (sv v b k c :: st) R h
          rw [List.nil_append] at hm
          by_cases g2 : c = v
          · have e1 : sv v b k c = List.replicate k 83 ++ [b] := by unfold sv; rw [if_pos g2]
            refine ⟨k + m + 1, ?_⟩
            rw [List.nil_append, es, e1, List.reverse_append, List.reverse_replicate, List.reverse_singleton, List.singleton_append, List.cons_append, nv_c]
            have fin : nv fs mi (k + m) u [(List.replicate k 83 ++ sr v b k r, d, as, [b] :: st)] = some R := by
              rw [nv_S k [b] (by simp; omega), ← e1]
              exact hm
            rcases hb with q | q
            · subst q
              rw [if_neg (by omega), if_pos rfl]
              exact fin
            · rw [if_pos (by omega)]
              exact fin
          · have e1 : sv v b k c = [c] := by unfold sv; rw [if_neg g2]
            refine ⟨m + 1, ?_⟩
            rw [List.nil_append, es, e1]
            show nv fs mi (m + 1) u [(c :: sr v b k r, d, as, st)] = some R
            rw [nv_c, if_pos g1]
            rw [e1] at hm
            exact hm
        · rw [if_neg g1] at h
          have e1 : sv v b k c = [c] := by unfold sv; rw [if_neg (by omega)]
          rw [e1] at es
          have es' : sr v b k (c :: r) = c :: sr v b k r := es
          by_cases g2 : c = 90
          · rw [if_pos g2] at h
            obtain ⟨m, hm⟩ := ih u [] r _ R h
            refine ⟨m + 1, ?_⟩
            rw [List.nil_append, es', nv_c, if_neg g1, if_pos g2]
            exact hm
          rw [if_neg g2] at h
          by_cases g3 : wh fs c st = -9
          · rw [if_pos g3] at h
            by_cases g4 : (jl fs c st).length ≤ 40
            · rw [if_pos g4] at h
              obtain ⟨m, hm⟩ := ih u [] r _ R h
              refine ⟨m + 1, ?_⟩
              rw [List.nil_append, es', nv_c, if_neg g1, if_neg g2, if_pos g3, if_pos g4]
              exact hm
            · rw [if_neg g4] at h
              refine ⟨1, ?_⟩
              rw [List.nil_append, es', nv_c, if_neg g1, if_neg g2, if_pos g3, if_neg g4]
              exact h
          rw [if_neg g3] at h
          by_cases g4 : 50 ≤ u
          · rw [if_pos g4] at h
            refine ⟨1, ?_⟩
            rw [List.nil_append, es', nv_c, if_neg g1, if_neg g2, if_neg g3, if_pos g4]
            exact h
          · rw [if_neg g4] at h
            obtain ⟨m, hm⟩ := ih (u + 1) [_] r _ R h
            refine ⟨m + 1, ?_⟩
            rw [List.nil_append, es', nv_c, if_neg g1, if_neg g2, if_neg g3, if_neg g4]
            exact hm
    | cons f fr =>
      obtain ⟨r1, d1, as1, st1⟩ := f
      cases r1 with
      | nil =>
        cases fr with
        | nil =>
          rw [List.cons_append, List.nil_append, nv_pop] at h
          obtain ⟨m, hm⟩ := ih u [] r _ R h
          refine ⟨m + 1, ?_⟩
          rw [List.cons_append, List.nil_append, nv_pop]
          exact hm
        | cons g fr =>
          obtain ⟨r2, d2, as2, st2⟩ := g
          rw [List.cons_append, List.cons_append, nv_pop] at h
          obtain ⟨m, hm⟩ := ih u (_ :: fr) r st R h
          refine ⟨m + 1, ?_⟩
          rw [List.cons_append, List.cons_append, nv_pop]
          exact hm
      | cons c r1 =>
        rw [List.cons_append, nv_c] at h
        by_cases g1 : 120 ≤ c
        · rw [if_pos g1] at h
          obtain ⟨m, hm⟩ := ih u (_ :: fr) r st R h
          refine ⟨m + 1, ?_⟩
          rw [List.cons_append, nv_c, if_pos g1]
          have : ∀ mn mn' : Int → List Int, ∀ x y : Nf, vof mn (fr ++ [x]) d1 as1 c = vof mn' (fr ++ [y]) d1 as1 c := by
            intro mn mn' x y
            unfold vof
            rw [if_neg (show ¬ (fr ++ [x]).length = 0 by simp), if_neg (show ¬ (fr ++ [y]).length = 0 by simp)]
          rw [this mi (sv v b k) _ (r, d, as, st)]
          exact hm
        rw [if_neg g1] at h
        by_cases g2 : c = 90
        · rw [if_pos g2] at h
          obtain ⟨m, hm⟩ := ih u (_ :: fr) r st R h
          refine ⟨m + 1, ?_⟩
          rw [List.cons_append, nv_c, if_neg g1, if_pos g2]
          exact hm
        rw [if_neg g2] at h
        by_cases g3 : wh fs c st1 = -9
        · rw [if_pos g3] at h
          by_cases g4 : (jl fs c st1).length ≤ 40
          · rw [if_pos g4] at h
            obtain ⟨m, hm⟩ := ih u (_ :: fr) r st R h
            refine ⟨m + 1, ?_⟩
            rw [List.cons_append, nv_c, if_neg g1, if_neg g2, if_pos g3, if_pos g4]
            exact hm
          · rw [if_neg g4] at h
            refine ⟨1, ?_⟩
            rw [List.cons_append, nv_c, if_neg g1, if_neg g2, if_pos g3, if_neg g4]
            exact h
        rw [if_neg g3] at h
        by_cases g4 : 50 ≤ u
        · rw [if_pos g4] at h
          refine ⟨1, ?_⟩
          rw [List.cons_append, nv_c, if_neg g1, if_neg g2, if_neg g3, if_pos g4]
          exact h
        · rw [if_neg g4] at h
          obtain ⟨m, hm⟩ := ih (u + 1) (_ :: _ :: fr) r st R h
          refine ⟨m + 1, ?_⟩
          rw [List.cons_append, nv_c, if_neg g1, if_neg g2, if_neg g3, if_neg g4]
          exact hm
