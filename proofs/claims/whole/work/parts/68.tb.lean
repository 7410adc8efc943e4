/-! ===== the difference of a term from a skeleton ===== -/
def dstep (a same dep d1 d2 d3 d4 : Int) : Int := min 100000 (min (if same = 1 then (if 1 ≤ a then d3 else 0) + (if a = 2 then d4 else 0) else 100000) (min (if 1 ≤ a then d1 + dep else 100000) (if a = 2 then d2 + dep else 100000)))
def eqi (a b : Int) : Int := if a = b then 1 else 0
def dm (fs : List Fn) (A B : List Int) : Nat → Int → Int → Int
  | 0, _, _ => 100000
  | n + 1, i, j => dstep (arf fs (gt A i)) (eqi (gt A i) (gt B j)) (dpt fs A i) (dm fs A B n (i + 1) j) (dm fs A B n (en fs A (i + 1)) j) (dm fs A B n (i + 1) (j + 1)) (dm fs A B n (en fs A (i + 1)) (en fs B (j + 1)))
def dD (fs : List Fn) (A B : List Int) (i j : Int) : Int := dm fs A B ((A.length : Int) - i).toNat i j
theorem ds_ex {a same dep d1 d2 d3 d4 e1 e2 e3 e4 : Int} (h1 : 1 ≤ a → d1 = e1 ∧ d3 = e3) (h2 : a = 2 → d2 = e2 ∧ d4 = e4) : dstep a same dep d1 d2 d3 d4 = dstep a same dep e1 e2 e3 e4 := by
  unfold dstep
  by_cases g : 1 ≤ a
  · obtain ⟨q1, q3⟩ := h1 g
    rw [q1, q3]
    by_cases g2 : a = 2
    · obtain ⟨q2, q4⟩ := h2 g2
      rw [q2, q4]
    · simp only [if_neg g2]
  · simp only [if_neg g, if_neg (show ¬ a = 2 by omega)]
theorem dm_up {fs : List Fn} {A B : List Int} (ho : okF fs) (hA : okT fs A) : ∀ (n : Nat) (i j : Int), 0 ≤ i → i < (A.length : Int) → (A.length : Int) - i ≤ (n : Int) → dm fs A B (n + 1) i j = dm fs A B n i j := by
  intro n
  induction n with
  | zero => intro i j h1 h2 h3; omega
  | succ n ih =>
    intro i j h1 h2 h3
    show dstep _ _ _ (dm fs A B (n + 1) (i + 1) j) (dm fs A B (n + 1) (en fs A (i + 1)) j) (dm fs A B (n + 1) (i + 1) (j + 1)) (dm fs A B (n + 1) (en fs A (i + 1)) (en fs B (j + 1))) = dstep _ _ _ (dm fs A B n (i + 1) j) (dm fs A B n (en fs A (i + 1)) j) (dm fs A B n (i + 1) (j + 1)) (dm fs A B n (en fs A (i + 1)) (en fs B (j + 1)))
    refine ds_ex (fun g => ?_) (fun g => ?_)
    · have g1 := en_k1 hA ⟨h1, h2⟩ g
      exact ⟨ih _ _ (by omega) g1 (by omega), ih _ _ (by omega) g1 (by omega)⟩
    · have g1 := en_k1 hA ⟨h1, h2⟩ (by omega)
      have b1 := en_bd (fs := fs) (T := A) (i := i + 1) ⟨by omega, g1⟩
      have g2 := en_k2 ho hA ⟨h1, h2⟩ g
      exact ⟨ih _ _ (by omega) g2 (by omega), ih _ _ (by omega) g2 (by omega)⟩
theorem dm_D {fs : List Fn} {A B : List Int} (ho : okF fs) (hA : okT fs A) {n : Nat} {i j : Int} (h1 : 0 ≤ i) (h2 : i < (A.length : Int)) (h3 : (A.length : Int) - i ≤ (n : Int)) : dm fs A B n i j = dD fs A B i j := by
  unfold dD
  obtain ⟨k, hk⟩ := Nat.le.dest (show ((A.length : Int) - i).toNat ≤ n by omega)
  rw [← hk]
  clear hk h3
  induction k with
  | zero => rfl
  | succ k ih => rw [← Nat.add_assoc, dm_up ho hA _ i j h1 h2 (by omega)]; exact ih
/-- the rule of the tables -/
theorem dD_s {fs : List Fn} {A B : List Int} (ho : okF fs) (hA : okT fs A) {i j : Int} (h : 0 ≤ i ∧ i < (A.length : Int)) : dD fs A B i j = dstep (arf fs (gt A i)) (eqi (gt A i) (gt B j)) (dpt fs A i) (dD fs A B (i + 1) j) (dD fs A B (en fs A (i + 1)) j) (dD fs A B (i + 1) (j + 1)) (dD fs A B (en fs A (i + 1)) (en fs B (j + 1))) := by
  have e : dD fs A B i j = dm fs A B (((A.length : Int) - i).toNat - 1 + 1) i j := by
    unfold dD
    rw [show ((A.length : Int) - i).toNat - 1 + 1 = ((A.length : Int) - i).toNat by omega]
  rw [e]
  show dstep _ _ _ (dm fs A B _ (i + 1) j) (dm fs A B _ (en fs A (i + 1)) j) (dm fs A B _ (i + 1) (j + 1)) (dm fs A B _ (en fs A (i + 1)) (en fs B (j + 1))) = _
  refine ds_ex (fun g => ?_) (fun g => ?_)
  · have g1 := en_k1 hA h g
    exact ⟨dm_D ho hA (by omega) g1 (by omega), dm_D ho hA (by omega) g1 (by omega)⟩
  · have g1 := en_k1 hA h (by omega)
    have b1 := en_bd (fs := fs) (T := A) (i := i + 1) ⟨by omega, g1⟩
    have g2 := en_k2 ho hA h g
    exact ⟨dm_D ho hA (by omega) g2 (by omega), dm_D ho hA (by omega) g2 (by omega)⟩
theorem eqi_1 {a b : Int} : eqi a b = 1 ↔ a = b := by
  unfold eqi
  by_cases g : a = b
  · rw [if_pos g]; simp [g]
  · rw [if_neg g]; simp [g]
/-- how large it can be; a term is no smaller than what it holds -/
theorem dD_bd {fs : List Fn} {A B : List Int} (ho : okF fs) (hA : okT fs A) (hB : okT fs B) (lA : A.length ≤ 40) : ∀ (n : Nat) (i j : Int), 0 ≤ i → i < (A.length : Int) → 0 ≤ j → j < (B.length : Int) → ((A.length : Int) - i).toNat ≤ n → 0 ≤ dD fs A B i j ∧ dD fs A B i j ≤ 100000 ∧ (dD fs A B i j < 100000 → dD fs A B i j ≤ 39 * (en fs A i - i) ∧ en fs B j - j ≤ en fs A i - i) := by
  intro n
  induction n with
  | zero => intro i j h1 h2 h3 h4 h5; omega
  | succ n ih =>
    intro i j h1 h2 h3 h4 h5
    have hi : 0 ≤ i ∧ i < (A.length : Int) := ⟨h1, h2⟩
    have hj : 0 ≤ j ∧ j < (B.length : Int) := ⟨h3, h4⟩
    have hd := dpt_bd (fs := fs) (j := i) lA h2
    have ba := en_bd (fs := fs) hi
    have bb := en_bd (fs := fs) hj
    rw [dD_s ho hA hi]
    have hap := arf_pos ho (gt A i)
    have hal := arf_le ho (gt A i)
    have hc : arf fs (gt A i) = 0 ∨ arf fs (gt A i) = 1 ∨ arf fs (gt A i) = 2 := by omega
    generalize hdep : dpt fs A i = dep at *
    rcases hc with a0 | a1 | a2
    · rw [a0]
      unfold dstep
      simp only [if_neg (show ¬ (1 : Int) ≤ 0 by decide), if_neg (show ¬ (0 : Int) = 2 by decide)]
      by_cases g : eqi (gt A i) (gt B j) = 1
      · rw [if_pos g]
        have ge := eqi_1.mp g
        have eb := en_a0 (fs := fs) hj (by rw [← ge]; exact a0)
        have ea := en_a0 hi a0
        omega
      · rw [if_neg g]; omega
    · have g1 := en_k1 hA hi (by omega)
      have i1 := ih (i + 1) j (by omega) g1 h3 h4 (by omega)
      have ea := en_a1 hi a1
      have b1 := en_bd (fs := fs) (T := A) (i := i + 1) ⟨by omega, g1⟩
      rw [a1]
      unfold dstep
      simp only [if_pos (show (1 : Int) ≤ 1 by decide), if_neg (show ¬ (1 : Int) = 2 by decide)]
      by_cases g : eqi (gt A i) (gt B j) = 1
      · rw [if_pos g]
        have ge := eqi_1.mp g
        have gb1 := en_k1 hB hj (by rw [← ge]; omega)
        have eb := en_a1 (fs := fs) hj (by rw [← ge]; exact a1)
        have i3 := ih (i + 1) (j + 1) (by omega) g1 (by omega) gb1 (by omega)
        omega
      · rw [if_neg g]; omega
    · have g1 := en_k1 hA hi (by omega)
      have g2 := en_k2 ho hA hi a2
      have b1 := en_bd (fs := fs) (T := A) (i := i + 1) ⟨by omega, g1⟩
      have b2 := en_bd (fs := fs) (T := A) (i := en fs A (i + 1)) ⟨by omega, g2⟩
      have i1 := ih (i + 1) j (by omega) g1 h3 h4 (by omega)
      have i2 := ih (en fs A (i + 1)) j (by omega) g2 h3 h4 (by omega)
      have ea := en_a2 ho hi a2
      rw [a2]
      unfold dstep
      simp only [if_pos (show (1 : Int) ≤ 2 by decide), if_true]
      by_cases g : eqi (gt A i) (gt B j) = 1
      · rw [if_pos g]
        have ge := eqi_1.mp g
        have gb1 := en_k1 hB hj (by rw [← ge]; omega)
        have gb2 := en_k2 ho hB hj (by rw [← ge]; exact a2)
        have c1 := en_bd (fs := fs) (T := B) (i := j + 1) ⟨by omega, gb1⟩
        have eb := en_a2 ho hj (by rw [← ge]; exact a2)
        have i3 := ih (i + 1) (j + 1) (by omega) g1 (by omega) gb1 (by omega)
        have i4 := ih (en fs A (i + 1)) (en fs B (j + 1)) (by omega) g2 (by omega) gb2 (by omega)
        omega
      · rw [if_neg g]; omega
theorem dD_b {fs : List Fn} {A B : List Int} {i j : Int} (ho : okF fs) (hA : okT fs A) (hB : okT fs B) (lA : A.length ≤ 40) (hi : 0 ≤ i ∧ i < (A.length : Int)) (hj : 0 ≤ j ∧ j < (B.length : Int)) : 0 ≤ dD fs A B i j ∧ dD fs A B i j ≤ 100000 ∧ (dD fs A B i j < 100000 → dD fs A B i j ≤ 1560 ∧ en fs B j - j ≤ en fs A i - i) := by
  have h := dD_bd ho hA hB lA _ i j hi.1 hi.2 hj.1 hj.2 (Nat.le_refl _)
  have b := en_bd (fs := fs) hi
  exact ⟨h.1, h.2.1, fun q => ⟨by have := (h.2.2 q).1; omega, (h.2.2 q).2⟩⟩
/-- the class's numbers -/
def cl6 (d : Int) : Int := if d < 100000 then d else 1000000
