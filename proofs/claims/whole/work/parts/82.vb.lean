/-! ===== the generalization ===== -/
abbrev iv (A B : List Int) (v : Int) : Prop := 120 + v ∈ A ∨ 120 + v ∈ B
def fvr (A B : List Int) : Int := if ¬ iv A B 0 then 0 else if ¬ iv A B 1 then 1 else if ¬ iv A B 2 then 2 else -9
def pv (fs : List Fn) (X T : List Int) (c : Int) : Nat → Int → List Int
  | 0, _ => []
  | n + 1, i => if (T.length : Int) ≤ i then [] else if tl fs T i = X then c :: pv fs X T c n (en fs T i) else gt T i :: pv fs X T c n (i + 1)
def gz (fs : List Fn) (A B : List Int) : Int × List Int × List Int := if cm fs A B = -9 ∨ fvr A B = -9 then (-9, A, B) else (fvr A B, pv fs (tl fs A (cm fs A B)) A (120 + fvr A B) 40 0, pv fs (tl fs A (cm fs A B)) B (120 + fvr A B) 40 0)
theorem pv_end {fs : List Fn} {X T : List Int} {c i : Int} {n : Nat} (h : (T.length : Int) ≤ i) : pv fs X T c n i = [] := by
  cases n with
  | zero => rfl
  | succ n => unfold pv; rw [if_pos h]
theorem pv_s {fs : List Fn} {X T : List Int} {c i : Int} {n : Nat} (hn : n ≠ 0) (h : i < (T.length : Int)) : pv fs X T c n i = if tl fs T i = X then c :: pv fs X T c (n - 1) (en fs T i) else gt T i :: pv fs X T c (n - 1) (i + 1) := by
  cases n with
  | zero => exact absurd rfl hn
  | succ n =>
    conv => lhs; unfold pv
    rw [if_neg (by omega)]; rfl
theorem pv_len {fs : List Fn} {X T : List Int} {c : Int} : ∀ (n : Nat) (i : Int), 0 ≤ i → i ≤ (T.length : Int) → ((pv fs X T c n i).length : Int) ≤ (T.length : Int) - i
  | 0, i, _, h => by show ((0 : Nat) : Int) ≤ _; omega
  | n + 1, i, h0, h => by
    by_cases g : (T.length : Int) ≤ i
    · rw [pv_end g]; show ((0 : Nat) : Int) ≤ _; omega
    · have bd := en_bd (fs := fs) (T := T) (i := i) ⟨h0, by omega⟩
      rw [pv_s (by omega) (by omega)]
      by_cases g1 : tl fs T i = X
      · rw [if_pos g1, List.length_cons]
        have := pv_len (fs := fs) (X := X) (T := T) (c := c) n (en fs T i) (by omega) (by omega)
        simp only [Nat.add_sub_cancel]
        omega
      · rw [if_neg g1, List.length_cons]
        have := pv_len (fs := fs) (X := X) (T := T) (c := c) n (i + 1) (by omega) (by omega)
        simp only [Nat.add_sub_cancel]
        omega
theorem pv_ok {fs : List Fn} {X T : List Int} {c : Int} (ho : okF fs) (hl : fs.length ≤ 6) (hT : okT fs T) (hc : 120 ≤ c ∧ c ≤ 122) : ∀ (n : Nat) (i k : Int), 0 ≤ i → (T.length : Int) - i ≤ (n : Int) → pw fs k (T.drop i.toNat) → pw fs k (pv fs X T c n i) ∧ ∀ x ∈ pv fs X T c n i, cv fs x
  | n, i, k, h0, hn, h => by
    by_cases g : (T.length : Int) ≤ i
    · rw [pv_end g]
      rw [List.drop_eq_nil_of_le (by omega)] at h
      exact ⟨h, fun x hx => absurd hx (by simp)⟩
    · have hi : 0 ≤ i ∧ i < (T.length : Int) := ⟨h0, by omega⟩
      have bd := en_bd (fs := fs) hi
      cases n with
      | zero => omega
      | succ n =>
        rw [pv_s (by omega) (by omega)]
        simp only [Nat.add_sub_cancel]
        have hk : 1 ≤ k := by rw [drop_gt hi] at h; exact h.1
        by_cases g1 : tl fs T i = X
        · rw [if_pos g1]
          rw [show k = 1 + (k - 1) by omega] at h
          have h2 := (pw_fe ho _ 1 (k - 1) (by omega) (by omega) h).1
          rw [List.drop_drop] at h2
          have e : i.toNat + (fe fs 1 (T.drop i.toNat)).toNat = (en fs T i).toNat := by
            unfold en
            have := fe_bd (fs := fs) (T.drop i.toNat) 1
            omega
          rw [e] at h2
          obtain ⟨q1, q2⟩ := pv_ok ho hl hT hc n (en fs T i) (k - 1) (by omega) (by omega) h2
          refine ⟨⟨hk, ?_⟩, fun x hx => ?_⟩
          · rw [arf_w hl hc.1, Int.add_zero]; exact q1
          · rcases List.mem_cons.mp hx with q | q
            · rw [q]; unfold cv; omega
            · exact q2 x q
        · rw [if_neg g1]
          rw [drop_gt hi] at h
          obtain ⟨q1, q2⟩ := pv_ok ho hl hT hc n (i + 1) _ (by omega) (by omega) h.2
          refine ⟨⟨hk, q1⟩, fun x hx => ?_⟩
          rcases List.mem_cons.mp hx with q | q
          · rw [q]; exact cv_gt hT hi
          · exact q2 x q
theorem pv_0 {fs : List Fn} {X T : List Int} {c : Int} (ho : okF fs) (hl : fs.length ≤ 6) (hT : okT fs T) (hc : 120 ≤ c ∧ c ≤ 122) (lT : T.length ≤ 40) : okT fs (pv fs X T c 40 0) ∧ (pv fs X T c 40 0).length ≤ T.length := by
  have h1 := pv_ok (X := X) (c := c) ho hl hT hc 40 0 1 (by omega) (by omega) hT.1
  have h2 := pv_len (fs := fs) (X := X) (T := T) (c := c) 40 0 (by omega) (by omega)
  exact ⟨h1, by omega⟩
theorem fvr_bd {A B : List Int} (h : fvr A B ≠ -9) : 0 ≤ fvr A B ∧ fvr A B ≤ 2 := by
  unfold fvr at h ⊢
  repeat' split
  all_goals first | omega | simp_all
theorem gz_ok {fs : List Fn} {A B : List Int} {m : Nat} (ho : okF fs) (hl : fs.length ≤ 6) (hA : okT fs A) (hB : okT fs B) (lA : A.length ≤ m) (lB : B.length ≤ m) (hm : m ≤ 40) : okT fs (gz fs A B).2.1 ∧ okT fs (gz fs A B).2.2 ∧ (gz fs A B).2.1.length ≤ m ∧ (gz fs A B).2.2.length ≤ m := by
  unfold gz
  by_cases g : cm fs A B = -9 ∨ fvr A B = -9
  · rw [if_pos g]; exact ⟨hA, hB, lA, lB⟩
  · rw [if_neg g]
    have fb := fvr_bd (fun q => g (Or.inr q))
    have p1 := pv_0 (X := tl fs A (cm fs A B)) (c := 120 + fvr A B) ho hl hA (by omega) (by omega)
    have p2 := pv_0 (X := tl fs A (cm fs A B)) (c := 120 + fvr A B) ho hl hB (by omega) (by omega)
    exact ⟨p1.1, p2.1, Nat.le_trans p1.2 lA, Nat.le_trans p2.2 lB⟩
theorem fvr_first {A B : List Int} {v : Int} (hv : 0 ≤ v ∧ v ≤ 2) (h : ∀ w, 0 ≤ w → w < v → iv A B w) (h2 : ¬ iv A B v) : fvr A B = v := by
  have : v = 0 ∨ v = 1 ∨ v = 2 := by omega
  unfold fvr
  rcases this with q | q | q <;> subst q
  · rw [if_pos h2]
  · rw [if_neg (fun y => y (h 0 (by omega) (by omega))), if_pos h2]
  · rw [if_neg (fun y => y (h 0 (by omega) (by omega))), if_neg (fun y => y (h 1 (by omega) (by omega))), if_pos h2]
theorem fvr_none {A B : List Int} (h : ∀ w, 0 ≤ w → w < 3 → iv A B w) : fvr A B = -9 := by
  unfold fvr
  rw [if_neg (fun y => y (h 0 (by omega) (by omega))), if_neg (fun y => y (h 1 (by omega) (by omega))), if_neg (fun y => y (h 2 (by omega) (by omega)))]
theorem s_freeVariable {c : Int} {A B : List Int} {μ : ZM} {K : Int → ZM → Prop} (hc : z_cm c) (hA : tx μ (6 * (c - 187) + 1) A) (hB : tx μ (6 * (c - 187) + 4) B) (lA : A.length ≤ 40) (lB : B.length ≤ 40) (h : K (fvr A B) μ) : P_X0_freeVariable c μ K := by
  refine ⟨hc, ?_⟩
  refine z_lf1_ind (fun v μ' => μ' = μ ∧ 0 ≤ v ∧ v ≤ 3 ∧ ∀ w, 0 ≤ w → w < v → iv A B w) (fun v _ => (3 - v).toNat) ?_ 0 μ ⟨rfl, by omega, by omega, fun w p1 p2 => absurd p2 (by omega)⟩
  intro v μ' G ⟨e1, e2, e3, e4⟩ hG
  subst e1
  refine ifb (fun g => ?_) (fun g => s_has0 hc (by omega) hA hB lA lB (fun q => if1 ⟨⟨by omega, by omega⟩, hG _ _ ⟨rfl, by omega, by omega, fun w p1 p2 => ?_⟩ (by omega)⟩) (fun q => if0 ?_))
  · rw [fvr_none (fun w p1 p2 => e4 w p1 (by omega))] at h; exact h
  · by_cases ew : w = v
    · rw [ew]; exact q
    · exact e4 w p1 (by omega)
  · rw [fvr_first ⟨e2, by omega⟩ e4 q] at h; exact h
/-- the class puts a variable -/
theorem s_putVariable {fs : List Fn} {c t t' j v : Int} {A T : List Int} {μ : ZM} {K : ZM → Prop} (hc : z_cm c) (ht : z_tm t) (ht' : z_tm t') (hne : t' ≠ t) (hne' : t' ≠ 6 * (c - 187) + 1) (hA : Tm μ fs (6 * (c - 187) + 1) A) (hT : Tm μ fs t T) (lA : A.length ≤ 40) (lT : T.length ≤ 40) (hj : 0 ≤ j ∧ j < (A.length : Int)) (hv : 0 ≤ v ∧ v ≤ 2) (h : ∀ μ', (∀ a k, a ≠ t' + 1 → ¬ (a = t' ∧ k = 2) → μ' a k = μ a k) → μ' t' 2 = ((pv fs (tl fs A j) T (120 + v) 40 0).length : Int) → rp (μ' (t' + 1)) (pv fs (tl fs A j) T (120 + v) 40 0) → K μ') : P_X0_putVariable c t j v t' μ K := by
  have b := hc
  have b1 := ht
  have b2 := ht'
  unfold z_cm at b
  unfold z_tm at b1 b2
  refine ⟨hc, ht, ht', ht', ?_⟩
  show P_X0_putVariable_11 c t j v t' 0 0 (z_upd μ t' 2 0) K
  refine z_lf2_ind (fun next i μ' => ∃ (acc : List Int) (n : Nat), 0 ≤ i ∧ i ≤ (T.length : Int) ∧ i ≤ max next i ∧ max next i ≤ (T.length : Int) ∧ (T.length : Int) - max next i ≤ (n : Int) ∧ acc ++ pv fs (tl fs A j) T (120 + v) n (max next i) = pv fs (tl fs A j) T (120 + v) 40 0 ∧ (acc.length : Int) ≤ max next i ∧ μ' t' 2 = (acc.length : Int) ∧ rp (μ' (t' + 1)) acc ∧ ∀ a k, a ≠ t' + 1 → ¬ (a = t' ∧ k = 2) → μ' a k = μ a k) (fun next i _ => ((T.length : Int) - i).toNat) ?_ 0 0 _ ⟨[], 40, by omega, by omega, by omega, by omega, by omega, by rw [show max (0 : Int) 0 = 0 by decide, List.nil_append], by simp, zu_s, fun k p1 p2 => absurd p2 (by simp; omega), fun a k _ q => zu_f q⟩
  intro next i μ' G ⟨acc, n, a1, a2, a3, a4, a5, a6, a7, a8, a9, a10⟩ hG
  rw [show μ' t 2 = (T.length : Int) from (a10 _ _ (by omega) (by omega)).trans hT.1]
  refine ifb (fun g => ?_) (fun g => ifb (fun g1 => ?_) (fun g1 => ⟨⟨by omega, by omega⟩, hG _ _ _ ⟨acc, n, by omega, by omega, by omega, by omega, by omega, ?_, by omega, a8, a9, a10⟩ (by omega)⟩))
  · rw [pv_end (by omega), List.append_nil] at a6
    refine h μ' a10 ?_ ?_
    · rw [← a6]; exact a8
    · rw [← a6]; exact a9
  · have em : max next i = i := by omega
    rw [em] at a5 a6 a7
    have hi : 0 ≤ i ∧ i < (T.length : Int) := ⟨a1, by omega⟩
    have bd := en_bd (fs := fs) hi
    rw [pv_s (by omega) (by omega)] at a6
    have hA' : Tm μ' fs (6 * (c - 187) + 1) A := hA.ex (fun k => a10 _ _ (by omega) (by omega)) (fun k => a10 _ _ (by omega) (by omega)) (fun k => a10 _ _ (by omega) (by omega))
    have hT' : Tm μ' fs t T := hT.ex (fun k => a10 _ _ (by omega) (by omega)) (fun k => a10 _ _ (by omega) (by omega)) (fun k => a10 _ _ (by omega) (by omega))
    have go : ∀ (x ni : Int) (μ2 : ZM), (∀ a k, a ≠ t' + 1 → ¬ (a = t' ∧ k = 2) → μ2 a k = μ' a k) → μ2 t' 2 = ((acc ++ [x]).length : Int) → rp (μ2 (t' + 1)) (acc ++ [x]) → i < ni → ni ≤ (T.length : Int) → acc ++ (x :: pv fs (tl fs A j) T (120 + v) (n - 1) ni) = pv fs (tl fs A j) T (120 + v) 40 0 → P_X0_putVariable_89 G c t j v t' ni i μ2 K := by
      intro x ni μ2 q1 q2 q3 q4 q5 q6
      refine ⟨⟨by omega, by omega⟩, hG _ _ _ ⟨acc ++ [x], n - 1, by omega, by omega, by omega, by omega, by omega, ?_, by simp; omega, q2, q3, fun a k p1 p2 => (q1 a k p1 p2).trans (a10 a k p1 p2)⟩ (by omega)⟩
      rw [show max ni (i + 1) = ni by omega, List.append_assoc]
      exact q6
    refine s_isSameAt (by unfold z_tm; omega) ht hA' hT' lA lT hj hi (fun q => if1 ⟨⟨by omega, by omega⟩, ?_⟩) (fun q => if0 ⟨by omega, ?_⟩)
    · rw [if_pos q.symm] at a6
      refine s_addL ht' a8 a9 (fun y => absurd (by omega) y) (fun _ μ2 w1 w2 w3 => ?_)
      rw [if_neg (by decide)]
      rw [show μ2 (t + 2) i = en fs T i from (w1 _ _ (by omega) (by omega)).trans (hT'.2.2 i hi.1 hi.2)]
      exact ⟨by omega, go _ _ μ2 w1 w2 w3 (by omega) (by omega) a6⟩
    · rw [if_neg (fun y => q y.symm)] at a6
      rw [show μ' (t + 1) i = gt T i from hT'.2.1 i hi.1 hi.2]
      refine s_addL ht' a8 a9 (fun y => absurd (by omega) y) (fun _ μ2 w1 w2 w3 => ?_)
      rw [if_pos rfl]
      exact ⟨⟨by omega, by omega⟩, go _ _ μ2 w1 w2 w3 (by omega) (by omega) a6⟩
  · rw [show max next (i + 1) = max next i by omega]; exact a6
