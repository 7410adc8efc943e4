/-! ===== the start, and the law's loop ===== -/
def lk : List (Int × Int × Int) → Int → Int → Int
  | [], _, _ => 0
  | e :: l, a, k => if a = e.1 ∧ k = e.2.1 then e.2.2 else lk l a k
theorem lk_eq : ∀ (l : List (Int × Int × Int)) (a k : Int), z_me z_0 l a k = lk l a k
  | [], _, _ => rfl
  | e :: l, a, k => by
    show z_upd (z_me z_0 l) e.1 e.2.1 e.2.2 a k = if a = e.1 ∧ k = e.2.1 then e.2.2 else lk l a k
    unfold z_upd
    rw [lk_eq l a k]
def lkb (a x : Int) : List (Int × Int × Int) → Bool
  | [] => true
  | e :: l => (!(decide (e.1 = a)) || decide (e.2.1 = x)) && lkb a x l
theorem lk_no {a x k : Int} (hk : k ≠ x) : ∀ (l : List (Int × Int × Int)), lkb a x l = true → lk l a k = 0
  | [], _ => rfl
  | e :: l, h => by
    unfold lkb at h
    rw [Bool.and_eq_true, Bool.or_eq_true] at h
    have hne : ¬ (a = e.1 ∧ k = e.2.1) := by
      intro q
      rcases h.1 with y | y
      · simp at y; exact y q.1.symm
      · exact hk (q.2.trans (of_decide_eq_true y))
    unfold lk
    rw [if_neg hne]
    exact lk_no hk l h.2
theorem lk_c : lk ML73 212 3 = 0 ∧ lk ML73 207 4 = 0 ∧ lk ML73 211 83 = 1 ∧ lk ML73 206 11 = 0 ∧ lk ML73 238 1 = 0 ∧ lk ML73 240 3 = 0 ∧ lk ML73 240 4 = 0 ∧ lkb 211 83 ML73 = true := by decide +kernel
theorem lk_z : (lk ML73 223 0 = 90 ∧ lk ML73 223 1 = 120 ∧ lk ML73 223 2 = 121 ∧ lk ML73 223 3 = 122) ∧ (lk ML73 224 0 = 0 ∧ lk ML73 224 1 = 0 ∧ lk ML73 224 2 = 0 ∧ lk ML73 224 3 = 0) ∧ (lk ML73 226 0 = 1 ∧ lk ML73 226 1 = 1 ∧ lk ML73 226 2 = 1 ∧ lk ML73 226 3 = 1) := by decide +kernel
theorem lk_m : lk ML73 248 3 = 0 ∧ lk ML73 248 4 = 0 ∧ lk ML73 248 9 = 0 ∧ lk ML73 248 35 = 0 ∧ lk ML73 248 39 = 0 ∧ lk ML73 248 42 = -9 := by decide +kernel
theorem rp_4 {g : Int → Int} {a b c d : Int} (h0 : g 0 = a) (h1 : g 1 = b) (h2 : g 2 = c) (h3 : g 3 = d) : rp g [a, b, c, d] := by
  intro i p1 p2
  have : i = 0 ∨ i = 1 ∨ i = 2 ∨ i = 3 := by simp at p2; omega
  rcases this with q | q | q | q <;> subst q
  · exact h0
  · exact h1
  · exact h2
  · exact h3
theorem Inv_0 : Inv (z_me z_0 ML73) := by
  obtain ⟨a1, a2, a3, a4, a5, a6, a7, a8⟩ := lk_c
  obtain ⟨⟨b1, b2, b3, b4⟩, ⟨b5, b6, b7, b8⟩, b9', b10, b11, b12⟩ := lk_z
  obtain ⟨m1, m2, m3, m4, m5, m6⟩ := lk_m
  have no : ∀ {f : Int → Int}, rp f [] := fun i p1 p2 => absurd p2 (by simp; omega)
  refine ⟨[], [], none, [], [], [], ⟨⟨(lk_eq _ _ _).trans a1, ⟨by simp, fun i p1 p2 => absurd p2 (by simp; omega)⟩, no⟩, ⟨(lk_eq _ _ _).trans a2, by simp, fun f p1 p2 => absurd p2 (by simp; omega), fun c p1 p2 => ?_⟩, (lk_eq _ _ _).trans a4, ⟨(lk_eq _ _ _).trans a5, by simp, fun k p1 p2 => absurd p2 (by simp; omega)⟩, ⟨(lk_eq _ _ _).trans a6, by simp, no, no⟩, ⟨(lk_eq _ _ _).trans a7, by simp, no⟩, ⟨rp_4 ((lk_eq _ _ _).trans b1) ((lk_eq _ _ _).trans b2) ((lk_eq _ _ _).trans b3) ((lk_eq _ _ _).trans b4), rp_4 ((lk_eq _ _ _).trans b5) ((lk_eq _ _ _).trans b6) ((lk_eq _ _ _).trans b7) ((lk_eq _ _ _).trans b8), rp_4 ((lk_eq _ _ _).trans b9') ((lk_eq _ _ _).trans b10) ((lk_eq _ _ _).trans b11) ((lk_eq _ _ _).trans b12)⟩⟩, ⟨⟨(lk_eq _ _ _).trans m1, by simp, no⟩, ⟨(lk_eq _ _ _).trans m2, by simp, fun f p1 p2 => absurd p2 (by simp; omega)⟩, (lk_eq _ _ _).trans m3, ⟨(lk_eq _ _ _).trans m4, by simp, fun k p1 p2 => absurd p2 (by simp; omega)⟩, ⟨(lk_eq _ _ _).trans m5, by simp, no, no⟩, ⟨?_, fun y => ?_⟩⟩, ⟨fun f p1 p2 => absurd p2 (by simp; omega), fun q hq => absurd hq (by simp), fun q hq => absurd hq (by simp)⟩⟩
  · rw [lk_eq]
    unfold arf
    by_cases g : c = 83
    · rw [if_pos g, g]; exact a3
    · rw [if_neg g, if_neg (by simp)]; exact lk_no g ML73 a8
  · rw [lk_eq _ 248 42, m6]
    unfold wl
    rw [if_neg (by decide), if_neg (by decide)]
  · rw [lk_eq _ 248 42, m6] at y
    exact absurd y (by decide)
theorem pure_main {ln : Nat} {xv : Int → Int} (hln : ln ≤ 2560) (hxv : ∀ i, zin (xv i)) : P_L_law_18 ln xv 0 (z_me z_0 ML73) (fun r _ => r = 1) := by
  refine z_lf1_ind (fun i μ => Inv μ ∧ 0 ≤ i ∧ i ≤ 2565) (fun i _ => (2565 - i).toNat) ?_ 0 _ ⟨Inv_0, by omega, by omega⟩
  intro i μ G ⟨hI, h0, h1⟩ hG
  refine ⟨⟨by omega, by omega⟩, ifb (fun g => ⟨Or.inr rfl, rfl⟩) (fun g => ⟨by omega, ?_⟩)⟩
  have go : ∀ μ2, Inv μ2 → P_L_law_796 ln xv G i μ2 (fun r _ => r = 1) := fun μ2 hi => ⟨⟨by omega, by omega⟩, hG _ _ ⟨hi, by omega, by omega⟩ (by omega)⟩
  have ok : ∀ (r : Int) (μ2 : ZM), Inv μ2 → if r = r then P_L_law_796 ln xv G i μ2 (fun r _ => r = 1) else (zb 0 ∧ (0 : Int) = 1) := fun r μ2 hi => by rw [if_pos rfl]; exact go μ2 hi
  have z1 : zin (i + 1) := ⟨by omega, by omega⟩
  have y1 : (0 : Int) ≤ i + 1 ∧ i + 1 < (ln : Int) := by omega
  have z2 : zin (i + 2) := ⟨by omega, by omega⟩
  have y2 : (0 : Int) ≤ i + 2 ∧ i + 2 < (ln : Int) := by omega
  have z3 : zin (i + 3) := ⟨by omega, by omega⟩
  have y3 : (0 : Int) ≤ i + 3 ∧ i + 3 < (ln : Int) := by omega
  have z4 : zin (i + 4) := ⟨by omega, by omega⟩
  have y4 : (0 : Int) ≤ i + 4 ∧ i + 4 < (ln : Int) := by omega
  refine ifb (fun _ => ⟨z1, y1, op_type hI (fun r μ1 hA => ⟨z1, y1, hA _ (fun μ2 hi => ok r μ2 hi)⟩)⟩) (fun _ => ?_)
  refine ifb (fun _ => op_wipe hI (fun r μ1 hA => hA _ (fun μ2 hi => ok r μ2 hi))) (fun _ => ?_)
  refine ifb (fun _ => ⟨z1, y1, z2, y2, op_function hI (fun r μ1 hA => ⟨z1, y1, z2, y2, hA _ (fun μ2 hi => ok r μ2 hi)⟩)⟩) (fun _ => ?_)
  refine ifb (fun _ => ⟨z1, y1, z2, y2, op_ofFunction hI (fun r μ1 hA => ⟨z1, y1, z2, y2, hA _ (fun μ2 hi => ok r μ2 hi)⟩)⟩) (fun _ => ?_)
  refine ifb (fun _ => ⟨z1, y1, z2, y2, z3, y3, op_body hI (fun r μ1 hA => ⟨z1, y1, z2, y2, z3, y3, hA _ (fun μ2 hi => ok r μ2 hi)⟩)⟩) (fun _ => ?_)
  refine ifb (fun _ => op_claim hI (fun r μ1 hA => hA _ (fun μ2 hi => ok r μ2 hi))) (fun _ => ?_)
  refine ifb (fun _ => ⟨z1, y1, z2, y2, op_side hI (fun r μ1 hA => ⟨z1, y1, z2, y2, hA _ (fun μ2 hi => ok r μ2 hi)⟩)⟩) (fun _ => ?_)
  refine ifb (fun _ => op_anew hI (fun r μ1 hA => hA _ (fun μ2 hi => ok r μ2 hi))) (fun _ => ?_)
  refine ifb (fun _ => ⟨z1, y1, z2, y2, z3, y3, z4, y4, op_value hI (fun r μ1 hA => ⟨z1, y1, z2, y2, z3, y3, z4, y4, hA _ (fun μ2 hi => ok r μ2 hi)⟩)⟩) (fun _ => ?_)
  refine ifb (fun _ => ⟨z1, y1, z2, y2, z3, y3, op_holds hI (fun r μ1 hA => ⟨z1, y1, z2, y2, z3, y3, hA _ (fun μ2 hi => ok r μ2 hi)⟩)⟩) (fun _ => ?_)
  refine ifb (fun _ => ⟨z1, y1, op_counter hI (fun r μ1 hA => ⟨z1, y1, hA _ (fun μ2 hi => ok r μ2 hi)⟩)⟩) (fun _ => ?_)
  refine ifb (fun _ => ⟨z1, y1, z2, y2, op_normal hI (fun r μ1 hA => ⟨z1, y1, z2, y2, hA _ (fun μ2 hi => ok r μ2 hi)⟩)⟩) (fun _ => ?_)
  refine ifb (fun _ => ⟨z1, y1, op_scheme hI (fun r μ1 hA => ⟨z1, y1, hA _ (fun μ2 hi => ok r μ2 hi)⟩)⟩) (fun _ => ?_)
  refine ifb (fun _ => op_difference hI (fun r μ1 hA => hA _ (fun μ2 hi => ok r μ2 hi))) (fun _ => ?_)
  refine ifb (fun _ => ⟨z1, y1, op_steered hI (fun r μ1 hA => ⟨z1, y1, hA _ (fun μ2 hi => ok r μ2 hi)⟩)⟩) (fun _ => ?_)
  refine ifb (fun _ => ⟨z1, y1, op_common hI (fun r μ1 hA => ⟨z1, y1, hA _ (fun μ2 hi => ok r μ2 hi)⟩)⟩) (fun _ => ?_)
  refine ifb (fun _ => ⟨z1, y1, z2, y2, op_general hI (fun r μ1 hA => ⟨z1, y1, z2, y2, hA _ (fun μ2 hi => ok r μ2 hi)⟩)⟩) (fun _ => ?_)
  refine ifb (fun _ => op_prove hI (fun r μ1 hA => hA _ (fun μ2 hi => ok r μ2 hi))) (fun _ => ?_)
  refine ifb (fun _ => ⟨z1, y1, op_why hI (fun r μ1 hA => ⟨z1, y1, hA _ (fun μ2 hi => ok r μ2 hi)⟩)⟩) (fun _ => ?_)
  refine ifb (fun _ => ⟨z1, y1, z2, y2, op_script hI (fun r μ1 hA => ⟨z1, y1, z2, y2, hA _ (fun μ2 hi => ok r μ2 hi)⟩)⟩) (fun _ => ?_)
  refine ifb (fun _ => ⟨z1, y1, z2, y2, z3, y3, op_lemma hI (fun r μ1 hA => ⟨z1, y1, z2, y2, z3, y3, hA _ (fun μ2 hi => ok r μ2 hi)⟩)⟩) (fun _ => ?_)
  refine ifb (fun _ => ⟨z1, y1, z2, y2, op_tested hI (fun r μ1 hA => ⟨z1, y1, z2, y2, hA _ (fun μ2 hi => ok r μ2 hi)⟩)⟩) (fun _ => ?_)
  refine ifb (fun _ => op_back hI (fun r μ1 hA => hA _ (fun μ2 hi => ok r μ2 hi))) (fun _ => ?_)
  refine ifb (fun _ => ⟨z1, y1, op_many hI (fun r μ1 hA => ⟨z1, y1, hA _ (fun μ2 hi => ok r μ2 hi)⟩)⟩) (fun _ => ?_)
  exact go μ hI
