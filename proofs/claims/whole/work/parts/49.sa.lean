/-! ===== scheme ===== -/
abbrev clP (T : List Int) (v i : Int) : Prop := 1 ≤ i ∧ i < (T.length : Int) ∧ gt T i = 120 + v ∧ 97 ≤ gt T (i - 1) ∧ gt T (i - 1) < 103
def cp (fs : List Fn) (T : List Int) (v d i : Int) : Int := if clP T v i ∧ (d = 0 ∨ (gf fs (gt T (i - 1) - 97)).2.1 = d) then 1 else 0
theorem cp_bd {fs : List Fn} {T : List Int} {v d i : Int} : 0 ≤ cp fs T v d i ∧ cp fs T v d i ≤ 1 := by
  unfold cp
  split <;> omega
theorem s_isCall {t v i : Int} {T : List Int} {μ : ZM} {K : Int → ZM → Prop} (ht : z_tm t) (hT : tx μ t T) (hl : T.length ≤ 40) (hv0 : 0 ≤ v ∧ v ≤ 2) (hi : 0 ≤ i ∧ i < 40) (h1 : clP T v i → K 1 μ) (h0 : ¬ clP T v i → K 0 μ) : P_X10_isCall t v i μ K := by
  have hs := hT.1
  refine ⟨ht, ifb (fun g => ⟨Or.inl rfl, h0 (by omega)⟩) (fun g => ifb (fun g1 => ⟨Or.inl rfl, h0 (by omega)⟩) (fun g1 => ⟨by omega, ⟨by omega, by omega⟩, ?_⟩))⟩
  rw [hT.2 i (by omega) (by omega)]
  refine ifb (fun g2 => ⟨⟨by omega, by omega⟩, by omega, ?_⟩) (fun g2 => ⟨Or.inl rfl, h0 (fun q => g2 q.2.2.1)⟩)
  rw [hT.2 (i - 1) (by omega) (by omega)]
  exact s_isLetter (fun q => if1 ⟨Or.inr rfl, h1 ⟨by omega, by omega, g2, q⟩⟩) (fun q => if0 ⟨Or.inl rfl, h0 (fun p => q p.2.2.2)⟩)
theorem cp_0 {fs : List Fn} {T : List Int} {v i : Int} : cp fs T v 0 i = if clP T v i then 1 else 0 := by
  unfold cp
  by_cases h : clP T v i
  · rw [if_pos ⟨h, Or.inl rfl⟩, if_pos h]
  · rw [if_neg (fun q => h q.1), if_neg h]
theorem s_callsOf {fs : List Fn} {A B : List Int} {c v : Int} {μ : ZM} {K : Int → ZM → Prop} (hc : z_cm c) (hv0 : 0 ≤ v ∧ v ≤ 2) (hA : tx μ (6 * (c - 187) + 1) A) (hB : tx μ (6 * (c - 187) + 4) B) (lA : A.length ≤ 40) (lB : B.length ≤ 40) (h : K (sg (fun i => cp fs A v 0 i + cp fs B v 0 i) 40) μ) : P_X0_callsOf c v μ K := by
  have b := hc
  unfold z_cm at b
  refine ⟨hc, ?_⟩
  refine z_lf2_ind (fun s i μ' => μ' = μ ∧ 0 ≤ i ∧ i ≤ 40 ∧ s = sg (fun i => cp fs A v 0 i + cp fs B v 0 i) i.toNat) (fun s i _ => (40 - i).toNat) ?_ 0 0 μ ⟨rfl, by omega, by omega, rfl⟩
  intro s i μ' G ⟨e1, e2, e3, e4⟩ hG
  subst e1
  have hb := sg_bd (b := 2) (by omega) (n := i.toNat) (g := fun i => cp fs A v 0 i + cp fs B v 0 i) (fun k => by have := cp_bd (fs := fs) (T := A) (v := v) (d := 0) (i := k); have := cp_bd (fs := fs) (T := B) (v := v) (d := 0) (i := k); omega)
  rw [← e4] at hb
  have step : ∀ r1 r2 : Int, r1 = cp fs A v 0 i → r2 = cp fs B v 0 i → 0 ≤ r1 + r2 ∧ r1 + r2 ≤ 2 → i < 40 → P_X0_callsOf_48 G c v i (s + r1) r2 μ' K := by
    intro r1 r2 q1 q2 q3 q4
    refine ⟨⟨by omega, by omega⟩, ⟨by omega, by omega⟩, hG _ _ _ ⟨rfl, by omega, by omega, ?_⟩ (by omega)⟩
    rw [sg_s e2, ← e4, ← q1, ← q2]
    omega
  refine ifb (fun g => ?_) (fun g => ?_)
  · rw [e4, show i = 40 by omega]; exact h
  · refine s_isCall (T := A) (by unfold z_tm; omega) hA lA hv0 (by omega) (fun q => if1 ⟨⟨by omega, by omega⟩, ?_⟩) (fun q => if0 ⟨⟨by omega, by omega⟩, ?_⟩)
    · exact s_isCall (T := B) (by unfold z_tm; omega) hB lB hv0 (by omega) (fun p => if1 (step 1 1 (by rw [cp_0, if_pos q]) (by rw [cp_0, if_pos p]) (by omega) (by omega))) (fun p => if0 (step 1 0 (by rw [cp_0, if_pos q]) (by rw [cp_0, if_neg p]) (by omega) (by omega)))
    · exact s_isCall (T := B) (by unfold z_tm; omega) hB lB hv0 (by omega) (fun p => if1 (step 0 1 (by rw [cp_0, if_neg q]) (by rw [cp_0, if_pos p]) (by omega) (by omega))) (fun p => if0 (step 0 0 (by rw [cp_0, if_neg q]) (by rw [cp_0, if_neg p]) (by omega) (by omega)))
def dd (n n2 : Int) : Int := if 0 < n2 then 2 else if 0 < n then 1 else 0
theorem cp_2 {fs : List Fn} {T : List Int} {v i : Int} (h : clP T v i) : cp fs T v 2 i = if (gf fs (gt T (i - 1) - 97)).2.1 = 2 then 1 else 0 := by
  unfold cp
  by_cases q : (gf fs (gt T (i - 1) - 97)).2.1 = 2
  · rw [if_pos ⟨h, Or.inr q⟩, if_pos q]
  · rw [if_neg (fun p => q (p.2.resolve_left (by decide))), if_neg q]
theorem cp_n {fs : List Fn} {T : List Int} {v d i : Int} (h : ¬ clP T v i) : cp fs T v d i = 0 := by
  unfold cp
  rw [if_neg (fun q => h q.1)]
theorem clP_fn {fs : List Fn} {T : List Int} {v i : Int} (hl : fs.length ≤ 6) (hT : okT fs T) (h : clP T v i) : 0 ≤ gt T (i - 1) - 97 ∧ gt T (i - 1) - 97 < (fs.length : Int) := by
  have := hT.2 _ (mem_gt.mpr ⟨i - 1, by omega, by omega, rfl⟩)
  unfold cv at this
  omega
theorem s_depthOf {fs : List Fn} {c : Int} {μ : ZM} {K : Int → ZM → Prop} (hF : CF μ fs) (hc : 0 ≤ c - 97 ∧ c - 97 < (fs.length : Int)) (h : K (gf fs (c - 97)).2.1 μ) : P_X3_depthOf c μ K := by
  have a1 := hF.1
  have a2 := hF.2.1
  refine ⟨⟨by omega, by omega⟩, ifb (fun g => absurd g (by omega)) (fun _ => ifb (fun g => absurd g (by omega)) (fun _ => ⟨by omega, ?_⟩))⟩
  rw [(hF.2.2.1 _ hc.1 hc.2).2.1]; exact h
theorem s_deepestCall {fs : List Fn} {A B : List Int} {c v : Int} {μ : ZM} {K : Int → ZM → Prop} (ho : okF fs) (hF : CF μ fs) (hc : z_cm c) (hv0 : 0 ≤ v ∧ v ≤ 2) (hA : tx μ (6 * (c - 187) + 1) A) (hB : tx μ (6 * (c - 187) + 4) B) (oA : okT fs A) (oB : okT fs B) (lA : A.length ≤ 40) (lB : B.length ≤ 40) (h : K (dd (sg (fun i => cp fs A v 0 i + cp fs B v 0 i) 40) (sg (fun i => cp fs A v 2 i + cp fs B v 2 i) 40)) μ) : P_X0_deepestCall c v μ K := by
  have b := hc
  unfold z_cm at b
  have fl := hF.2.1
  refine ⟨hc, ?_⟩
  refine z_lf2_ind (fun s i μ' => μ' = μ ∧ 1 ≤ i ∧ i ≤ 40 ∧ s = dd (sg (fun i => cp fs A v 0 i + cp fs B v 0 i) i.toNat) (sg (fun i => cp fs A v 2 i + cp fs B v 2 i) i.toNat)) (fun s i _ => (40 - i).toNat) ?_ 0 1 μ ⟨rfl, by omega, by omega, ?_⟩
  · intro s i μ' G ⟨e1, e2, e3, e4⟩ hG
    subst e1
    have bd : ∀ (d : Int) (n : Nat), 0 ≤ sg (fun i => cp fs A v d i + cp fs B v d i) n := fun d n => (sg_bd (b := 2) (by omega) (fun k => by have := cp_bd (fs := fs) (T := A) (v := v) (d := d) (i := k); have := cp_bd (fs := fs) (T := B) (v := v) (d := d) (i := k); omega)).1
    have b0 := bd 0 i.toNat
    have b2 := bd 2 i.toNat
    have s0 := sg_s (g := fun i => cp fs A v 0 i + cp fs B v 0 i) (k := i) (by omega)
    have s2 := sg_s (g := fun i => cp fs A v 2 i + cp fs B v 2 i) (k := i) (by omega)
    have hs3 : 0 ≤ s ∧ s ≤ 2 := by rw [e4]; unfold dd; repeat' split; all_goals omega
    have fin : ∀ s' : Int, i < 40 → s' = dd (sg (fun i => cp fs A v 0 i + cp fs B v 0 i) (i + 1).toNat) (sg (fun i => cp fs A v 2 i + cp fs B v 2 i) (i + 1).toNat) → P_X0_deepestCall_80 G c v s' i μ' K := fun s' q1 q => ⟨⟨by omega, by omega⟩, hG _ _ _ ⟨rfl, by omega, by omega, q⟩ (by omega)⟩
    rw [s0, s2] at fin
    refine ifb (fun g => ?_) (fun g => ?_)
    · rw [e4, show i = 40 by omega]; exact h
    · generalize sg (fun i => cp fs A v 0 i + cp fs B v 0 i) i.toNat = n at *
      generalize sg (fun i => cp fs A v 2 i + cp fs B v 2 i) i.toNat = n2 at *
      have dmax : ∀ m m2 d : Int, 0 ≤ m → 0 ≤ m2 → (d = 1 ∨ d = 2) → max (dd m m2) d = dd (m + 1) (m2 + if d = 2 then 1 else 0) := by
        intro m m2 d h1 h2 h3
        unfold dd
        repeat' split
        all_goals omega
      have second : ∀ s1 : Int, s1 = dd (n + cp fs A v 0 i) (n2 + cp fs A v 2 i) → P_X0_deepestCall_46 G c v s1 i μ' K := by
        intro s1 hs1
        have a0 := cp_bd (fs := fs) (T := A) (v := v) (d := 0) (i := i)
        have a2 := cp_bd (fs := fs) (T := A) (v := v) (d := 2) (i := i)
        refine s_isCall (T := B) (by unfold z_tm; omega) hB lB hv0 (by omega) (fun q => if1 ⟨⟨by omega, by omega⟩, by omega, ?_⟩) (fun q => if0 (fin s1 (by omega) ?_))
        · rw [hB.2 (i - 1) (by omega) (by omega)]
          have hf := clP_fn fl oB q
          obtain ⟨-, o2, -⟩ := ho _ hf.1 hf.2
          refine s_depthOf hF hf (fin _ (by omega) ?_)
          rw [hs1, dmax _ _ _ (by omega) (by omega) o2, cp_0 (T := B), if_pos q, cp_2 (T := B) q, Int.add_assoc, Int.add_assoc]
        · rw [hs1, cp_n (T := B) q, cp_n (T := B) q, Int.add_zero, Int.add_zero]
      refine s_isCall (T := A) (by unfold z_tm; omega) hA lA hv0 (by omega) (fun q => if1 ⟨⟨by omega, by omega⟩, by omega, ?_⟩) (fun q => if0 (second s ?_))
      · rw [hA.2 (i - 1) (by omega) (by omega)]
        have hf := clP_fn fl oA q
        obtain ⟨-, o2, -⟩ := ho _ hf.1 hf.2
        refine s_depthOf hF hf (second _ ?_)
        rw [e4, dmax _ _ _ (by omega) (by omega) o2, cp_0, if_pos q, cp_2 q]
      · rw [e4, cp_n (T := A) q, cp_n (T := A) q, Int.add_zero, Int.add_zero]
  · have z : ∀ d : Int, sg (fun i => cp fs A v d i + cp fs B v d i) (1 : Int).toNat = 0 := fun d => by
      show 0 + (cp fs A v d 0 + cp fs B v d 0) = 0
      rw [cp_n (fun q => by omega), cp_n (fun q => by omega)]
      rfl
    rw [z, z]
    rfl
