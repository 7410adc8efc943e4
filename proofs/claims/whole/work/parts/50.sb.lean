theorem sg_tail {g : Int → Int} {n : Nat} (h : ∀ k : Int, (n : Int) ≤ k → g k = 0) : ∀ m : Nat, sg g (n + m) = sg g n
  | 0 => rfl
  | m + 1 => by
    show sg g (n + m) + g ((n + m : Nat) : Int) = sg g n
    rw [sg_tail h m, h _ (by omega)]
    omega
theorem sg_add {g g' : Int → Int} : ∀ n : Nat, sg (fun k => g k + g' k) n = sg g n + sg g' n
  | 0 => rfl
  | n + 1 => by
    show sg (fun k => g k + g' k) n + (g (n : Int) + g' (n : Int)) = (sg g n + g (n : Int)) + (sg g' n + g' (n : Int))
    rw [sg_add n]
    omega
theorem s_callsIn {fs : List Fn} {T : List Int} {s v d : Int} {μ : ZM} {K : Int → ZM → Prop} (hF : MF μ fs) (hs : 0 ≤ s ∧ s < 44) (hv0 : 0 ≤ v ∧ v ≤ 2) (hS : Sl μ s T) (oT : okT fs T) (lT : T.length ≤ 40) (h : K (sg (fun i => cp fs T v d i) 40) μ) : P_X12_callsIn s v d μ K := by
  have fl := hF.2.1
  have hz := hS.1
  unfold P_X12_callsIn
  have hg : ∀ i : Int, 0 ≤ i → i < (T.length : Int) → μ 249 (128 * s + i) = gt T i := hS.2
  refine z_lf2_ind (fun a i μ' => μ' = μ ∧ 0 ≤ i ∧ i ≤ 40 ∧ a = sg (fun i => cp fs T v d i) (i + 1).toNat) (fun a i _ => (41 - i).toNat) ?_ 0 0 μ ⟨rfl, by omega, by omega, ?_⟩
  · intro a i μ' G ⟨e1, e2, e3, e4⟩ hG
    subst e1
    have hb := sg_bd (b := 1) (by omega) (n := (i + 1).toNat) (g := fun i => cp fs T v d i) (fun k => cp_bd)
    rw [← e4] at hb
    refine ⟨⟨by omega, by omega⟩, hs, ifb (fun g => ?_) (fun g => ?_)⟩
    · have : sg (fun i => cp fs T v d i) 40 = a ∨ i = 40 := by
        by_cases q : i = 40
        · exact Or.inr q
        · refine Or.inl ?_
          have := sg_tail (g := fun i => cp fs T v d i) (n := (i + 1).toNat) (fun k hk => cp_n (fun q => by omega)) (40 - (i + 1).toNat)
          rw [show (i + 1).toNat + (40 - (i + 1).toNat) = 40 by omega] at this
          rw [this, e4]
      rcases this with q | q
      · rw [q] at h; exact h
      · have e5 : a = sg (fun i => cp fs T v d i) 40 := by
          rw [e4, q]
          exact sg_tail (g := fun i => cp fs T v d i) (n := 40) (fun k hk => cp_n (fun q => by omega)) 1
        rw [e5]; exact h
    · have fin : ∀ r : Int, r = cp fs T v d (i + 1) → P_X12_callsIn_90 G s v d i a r μ' K := by
        intro r hr
        have := cp_bd (fs := fs) (T := T) (v := v) (d := d) (i := i + 1)
        refine ⟨⟨by omega, by omega⟩, ⟨by omega, by omega⟩, hG _ _ _ ⟨rfl, by omega, by omega, ?_⟩ (by omega)⟩
        rw [sg_s (k := i + 1) (by omega), ← e4, hr]
      have no : ¬ clP T v (i + 1) → P_X12_callsIn_52 G s v d a i μ' K := by
        intro q
        unfold P_X12_callsIn_52 P_X12_callsIn_53
        rw [if_pos rfl]
        exact fin 0 (by rw [cp_n q])
      refine s_at hs (by omega) ?_
      rw [hg i e2 (by omega)]
      refine s_wi (fun q => ⟨Or.inr rfl, if1 ⟨⟨by omega, by omega⟩, s_at hs (by omega) ⟨⟨by omega, by omega⟩, ?_⟩⟩⟩) (fun q => ⟨Or.inl rfl, if0 (no (fun p => by have p4 := p.2.2.2; rw [show i + 1 - 1 = i by omega] at p4; omega))⟩)
      rw [hg (i + 1) (by omega) (by omega)]
      refine ifb (fun q1 => ?_) (fun q1 => no (fun p => q1 p.2.2.1))
      have yes : clP T v (i + 1) := ⟨by omega, by omega, q1, by rw [show i + 1 - 1 = i by omega]; omega⟩
      unfold P_X12_callsIn_53
      rw [if_neg (by decide)]
      refine ifb (fun q2 => fin 1 (by unfold cp; rw [if_pos ⟨yes, Or.inl q2⟩])) (fun q2 => s_at hs (by omega) ?_)
      have hf := clP_fn fl oT yes
      rw [show i + 1 - 1 = i by omega] at hf
      rw [hg i e2 (by omega)]
      refine ⟨⟨by omega, by omega⟩, by omega, ?_⟩
      rw [(hF.2.2 _ hf.1 hf.2).2.1]
      refine ifb (fun q3 => fin 1 ?_) (fun q3 => fin 0 ?_)
      · unfold cp
        rw [if_pos ⟨yes, Or.inr (by rw [show i + 1 - 1 = i by omega]; exact q3)⟩]
      · unfold cp
        rw [if_neg (fun p => by rw [show i + 1 - 1 = i by omega] at p; exact p.2.elim q2 q3)]
  · show (0 : Int) = 0 + cp fs T v d 0
    rw [cp_n (fun q => by omega)]
    rfl
