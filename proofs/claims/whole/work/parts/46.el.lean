/-! ===== tested: sums ===== -/
def sg (g : Int → Int) : Nat → Int
  | 0 => 0
  | k + 1 => sg g k + g (k : Int)
theorem sg_cg {g g' : Int → Int} : ∀ {n : Nat}, (∀ k : Int, 0 ≤ k → k < (n : Int) → g k = g' k) → sg g n = sg g' n
  | 0, _ => rfl
  | n + 1, h => by
    show sg g n + g (n : Int) = sg g' n + g' (n : Int)
    rw [sg_cg (fun k h1 h2 => h k h1 (by omega)), h (n : Int) (by omega) (by omega)]
theorem sg_bd {g : Int → Int} {b : Int} (hb : 0 ≤ b) : ∀ {n : Nat}, (∀ k : Int, 0 ≤ g k ∧ g k ≤ b) → 0 ≤ sg g n ∧ sg g n ≤ b * (n : Int)
  | 0, _ => by
    show (0 : Int) ≤ 0 ∧ (0 : Int) ≤ b * ((0 : Nat) : Int)
    simp
  | n + 1, h => by
    obtain ⟨h1, h2⟩ := sg_bd hb (n := n) h
    have h3 := h (n : Int)
    show 0 ≤ sg g n + g (n : Int) ∧ sg g n + g (n : Int) ≤ b * ((n + 1 : Nat) : Int)
    have : b * ((n + 1 : Nat) : Int) = b * (n : Int) + b := by
      rw [show ((n + 1 : Nat) : Int) = (n : Int) + 1 by omega, Int.mul_add, Int.mul_one]
    omega
theorem sg_4 {g : Int → Int} : ∀ {n : Nat}, sg (fun k => 4 * g k) n = 4 * sg g n
  | 0 => rfl
  | n + 1 => by
    show sg (fun k => 4 * g k) n + 4 * g (n : Int) = 4 * (sg g n + g (n : Int))
    rw [sg_4]
    omega
theorem sg_c {g : Int → Int} (h : ∀ k : Int, g k = g 0) : sg g 4 = 4 * sg g 1 := by
  show 0 + g 0 + g 1 + g 2 + g 3 = 4 * (0 + g 0)
  rw [h 1, h 2, h 3]
  omega
theorem sg_split {h : Int → Int → Int} : ∀ {k : Nat}, sg (fun m => h (m / 4) (m % 4)) (4 * k) = sg (fun a => sg (fun b => h a b) 4) k
  | 0 => rfl
  | k + 1 => by
    rw [show 4 * (k + 1) = 4 * k + 1 + 1 + 1 + 1 by omega]
    show sg (fun m => h (m / 4) (m % 4)) (4 * k) + h (((4 * k : Nat) : Int) / 4) (((4 * k : Nat) : Int) % 4) + h (((4 * k + 1 : Nat) : Int) / 4) (((4 * k + 1 : Nat) : Int) % 4) + h (((4 * k + 1 + 1 : Nat) : Int) / 4) (((4 * k + 1 + 1 : Nat) : Int) % 4) + h (((4 * k + 1 + 1 + 1 : Nat) : Int) / 4) (((4 * k + 1 + 1 + 1 : Nat) : Int) % 4) = sg (fun a => sg (fun b => h a b) 4) k + (0 + h (k : Int) 0 + h (k : Int) 1 + h (k : Int) 2 + h (k : Int) 3)
    rw [sg_split, show ((4 * k : Nat) : Int) / 4 = (k : Int) by omega, show ((4 * k : Nat) : Int) % 4 = 0 by omega, show ((4 * k + 1 : Nat) : Int) / 4 = (k : Int) by omega, show ((4 * k + 1 : Nat) : Int) % 4 = 1 by omega, show ((4 * k + 1 + 1 : Nat) : Int) / 4 = (k : Int) by omega, show ((4 * k + 1 + 1 : Nat) : Int) % 4 = 2 by omega, show ((4 * k + 1 + 1 + 1 : Nat) : Int) / 4 = (k : Int) by omega, show ((4 * k + 1 + 1 + 1 : Nat) : Int) % 4 = 3 by omega]
    omega
def ic (fs : List Fn) (A B : List Int) (v x y z : Int) : Int := if cmp fs A B x y z = v then 1 else 0
theorem ic_bd {fs : List Fn} {A B : List Int} {v x y z : Int} : 0 ≤ ic fs A B v x y z ∧ ic fs A B v x y z ≤ 1 := by
  unfold ic
  by_cases h : cmp fs A B x y z = v
  · rw [if_pos h]; omega
  · rw [if_neg h]; omega
theorem sg_64 {i : Int → Int → Int → Int} : sg (fun m => i (m / 16) (m / 4 % 4) (m % 4)) 64 = sg (fun x => sg (fun y => sg (fun z => i x y z) 4) 4) 4 := by
  have e : ∀ m : Int, 0 ≤ m → m < ((64 : Nat) : Int) → i (m / 16) (m / 4 % 4) (m % 4) = i (m / 4 / 4) (m / 4 % 4) (m % 4) := fun m _ _ => by rw [show m / 16 = m / 4 / 4 by omega]
  rw [sg_cg (g' := fun m => i (m / 4 / 4) (m / 4 % 4) (m % 4)) e]
  have s1 := sg_split (h := fun a b => i (a / 4) (a % 4) b) (k := 16)
  have s2 := sg_split (h := fun x y => sg (fun z => i x y z) 4) (k := 4)
  exact s1.trans s2
/-! values don't depend on absent variables -/
theorem ev_bot {fs : List Fn} {T : List Int} {x y z x' y' z' : Int} (hx : 120 ∈ T → x = x') (hy : 121 ∈ T → y = y') (hz : 122 ∈ T → z = z') : ∀ (n : Nat) (w : Int) (A : List Fr) (st : List Int) (p : Int), p ≤ (T.length : Int) → ev fs n w (A ++ [(T, p, x, y, z)]) st = ev fs n w (A ++ [(T, p, x', y', z')]) st := by
  intro n
  induction n with
  | zero =>
    intro w A st p hp
    unfold ev
    rw [if_neg (by simp), if_neg (by simp)]
  | succ n ih =>
    intro w A st p hp
    cases A with
    | nil =>
      have i1 : ∀ (w : Int) (a : Fr) (st : List Int), p - 1 ≤ (T.length : Int) → ev fs n w [a, (T, p - 1, x, y, z)] st = ev fs n w [a, (T, p - 1, x', y', z')] st := fun w a st h => ih w [a] st (p - 1) h
      have i0 : ∀ (w : Int) (st : List Int), p - 1 ≤ (T.length : Int) → ev fs n w [(T, p - 1, x, y, z)] st = ev fs n w [(T, p - 1, x', y', z')] st := fun w st h => ih w [] st (p - 1) h
      rw [List.nil_append, List.nil_append, ev_cons (n := n + 1) (f := (T, p, x, y, z)) (by omega), ev_cons (n := n + 1) (f := (T, p, x', y', z')) (by omega)]
      show (if p ≤ 0 then ev fs n w [] st else if gt T (p - 1) = 83 then (if st.headD 0 < 99 then ev fs n w [(T, p - 1, x, y, z)] ((st.headD 0 + 1) :: st.tail) else (-9, 0)) else if gt T (p - 1) = 120 then ev fs n w [(T, p - 1, x, y, z)] (x :: st) else if gt T (p - 1) = 121 then ev fs n w [(T, p - 1, x, y, z)] (y :: st) else if gt T (p - 1) = 122 then ev fs n w [(T, p - 1, x, y, z)] (z :: st) else if gt T (p - 1) = 90 then ev fs n w [(T, p - 1, x, y, z)] (0 :: st) else if 60 ≤ w then (-9, 0) else ev fs n (w + 1) [cal fs (gt T (p - 1) - 97) st, (T, p - 1, x, y, z)] (st.drop (gf fs (gt T (p - 1) - 97)).1.toNat)) = (if p ≤ 0 then ev fs n w [] st else if gt T (p - 1) = 83 then (if st.headD 0 < 99 then ev fs n w [(T, p - 1, x', y', z')] ((st.headD 0 + 1) :: st.tail) else (-9, 0)) else if gt T (p - 1) = 120 then ev fs n w [(T, p - 1, x', y', z')] (x' :: st) else if gt T (p - 1) = 121 then ev fs n w [(T, p - 1, x', y', z')] (y' :: st) else if gt T (p - 1) = 122 then ev fs n w [(T, p - 1, x', y', z')] (z' :: st) else if gt T (p - 1) = 90 then ev fs n w [(T, p - 1, x', y', z')] (0 :: st) else if 60 ≤ w then (-9, 0) else ev fs n (w + 1) [cal fs (gt T (p - 1) - 97) st, (T, p - 1, x', y', z')] (st.drop (gf fs (gt T (p - 1) - 97)).1.toNat))
      by_cases g : p ≤ 0
      · rw [if_pos g, if_pos g]
      · rw [if_neg g, if_neg g]
        have hm : gt T (p - 1) ∈ T := mem_gt.mpr ⟨p - 1, by omega, by omega, rfl⟩
        simp only [i0 _ _ (show p - 1 ≤ (T.length : Int) by omega), i1 _ _ _ (show p - 1 ≤ (T.length : Int) by omega)]
        by_cases g1 : gt T (p - 1) = 83
        · rw [if_pos g1, if_pos g1]
        · rw [if_neg g1, if_neg g1]
          by_cases g2 : gt T (p - 1) = 120
          · rw [if_pos g2, if_pos g2, hx (by rw [← g2]; exact hm)]
          · rw [if_neg g2, if_neg g2]
            by_cases g3 : gt T (p - 1) = 121
            · rw [if_pos g3, if_pos g3, hy (by rw [← g3]; exact hm)]
            · rw [if_neg g3, if_neg g3]
              by_cases g4 : gt T (p - 1) = 122
              · rw [if_pos g4, if_pos g4, hz (by rw [← g4]; exact hm)]
              · rw [if_neg g4, if_neg g4]
    | cons f A =>
      have i1 : ∀ (w : Int) (a : Fr) (A : List Fr) (st : List Int), ev fs n w (a :: (A ++ [(T, p, x, y, z)])) st = ev fs n w (a :: (A ++ [(T, p, x', y', z')])) st := fun w a A st => ih w (a :: A) st p hp
      have i2 : ∀ (w : Int) (a b : Fr) (A : List Fr) (st : List Int), ev fs n w (a :: b :: (A ++ [(T, p, x, y, z)])) st = ev fs n w (a :: b :: (A ++ [(T, p, x', y', z')])) st := fun w a b A st => ih w (a :: b :: A) st p hp
      have i0 : ∀ (w : Int) (A : List Fr) (st : List Int), ev fs n w (A ++ [(T, p, x, y, z)]) st = ev fs n w (A ++ [(T, p, x', y', z')]) st := fun w A st => ih w A st p hp
      rw [List.cons_append, List.cons_append, ev_cons (n := n + 1) (fr := A ++ [(T, p, x, y, z)]) (by omega), ev_cons (n := n + 1) (fr := A ++ [(T, p, x', y', z')]) (by omega)]
      simp only [Nat.add_sub_cancel, i0, i1, i2]
theorem cmp_bot {fs : List Fn} {A B : List Int} {x y z x' y' z' : Int} (hx : hv A B 0 → x = x') (hy : hv A B 1 → y = y') (hz : hv A B 2 → z = z') : cmp fs A B x y z = cmp fs A B x' y' z' := by
  have e1 : va fs A x y z = va fs A x' y' z' := by
    unfold va
    have := ev_bot (fs := fs) (T := A) (x := x) (y := y) (z := z) (x' := x') (y' := y') (z' := z') (fun q => hx (Or.inl q)) (fun q => hy (Or.inl q)) (fun q => hz (Or.inl q)) 701 0 [] [] (A.length : Int) (Int.le_refl _)
    rw [List.nil_append, List.nil_append] at this
    rw [this]
  have e2 : va fs B x y z = va fs B x' y' z' := by
    unfold va
    have := ev_bot (fs := fs) (T := B) (x := x) (y := y) (z := z) (x' := x') (y' := y') (z' := z') (fun q => hx (Or.inr q)) (fun q => hy (Or.inr q)) (fun q => hz (Or.inr q)) 701 0 [] [] (B.length : Int) (Int.le_refl _)
    rw [List.nil_append, List.nil_append] at this
    rw [this]
  unfold cmp
  rw [e1, e2]
def mul4 (u : Int) : Int := if u = 0 then 4 else 1
theorem ic_all {fs : List Fn} {A B : List Int} {v ux uy uz : Int} (u0 : ub A B 3 0 ux) (u1 : ub A B 3 1 uy) (u2 : ub A B 3 2 uz) : sg (fun x => sg (fun y => sg (fun z => ic fs A B v x y z) (uz + 1).toNat) (uy + 1).toNat) (ux + 1).toNat * mul4 ux * mul4 uy * mul4 uz = sg (fun x => sg (fun y => sg (fun z => ic fs A B v x y z) 4) 4) 4 := by
  have cx : ¬ hv A B 0 → ∀ x y z, ic fs A B v x y z = ic fs A B v 0 y z := fun q x y z => by unfold ic; rw [cmp_bot (fun p => absurd p q) (fun _ => rfl) (fun _ => rfl)]
  have cy : ¬ hv A B 1 → ∀ x y z, ic fs A B v x y z = ic fs A B v x 0 z := fun q x y z => by unfold ic; rw [cmp_bot (fun _ => rfl) (fun p => absurd p q) (fun _ => rfl)]
  have cz' : ¬ hv A B 2 → ∀ x y z, ic fs A B v x y z = ic fs A B v x y 0 := fun q x y z => by unfold ic; rw [cmp_bot (fun _ => rfl) (fun _ => rfl) (fun p => absurd p q)]
  have sz : ∀ x y, sg (fun z => ic fs A B v x y z) (uz + 1).toNat * mul4 uz = sg (fun z => ic fs A B v x y z) 4 := by
    intro x y
    by_cases q : hv A B 2
    · rw [u2.1 q]; show _ * 1 = _; rw [Int.mul_one]; rfl
    · rw [u2.2 q, sg_c (g := fun z => ic fs A B v x y z) (cz' q x y)]; exact Int.mul_comm _ _
  have sy : ∀ x, sg (fun y => sg (fun z => ic fs A B v x y z) 4) (uy + 1).toNat * mul4 uy = sg (fun y => sg (fun z => ic fs A B v x y z) 4) 4 := by
    intro x
    by_cases q : hv A B 1
    · rw [u1.1 q]; show _ * 1 = _; rw [Int.mul_one]; rfl
    · rw [u1.2 q, sg_c (g := fun y => sg (fun z => ic fs A B v x y z) 4) (fun k => sg_cg (fun j _ _ => cy q x k j))]; show sg _ 1 * 4 = _; omega
  have sx : sg (fun x => sg (fun y => sg (fun z => ic fs A B v x y z) 4) 4) (ux + 1).toNat * mul4 ux = sg (fun x => sg (fun y => sg (fun z => ic fs A B v x y z) 4) 4) 4 := by
    by_cases q : hv A B 0
    · rw [u0.1 q]; show _ * 1 = _; rw [Int.mul_one]; rfl
    · rw [u0.2 q, sg_c (g := fun x => sg (fun y => sg (fun z => ic fs A B v x y z) 4) 4) (fun k => sg_cg (fun j _ _ => sg_cg (fun l _ _ => cx q k j l)))]; show sg _ 1 * 4 = _; omega
  have sm' : ∀ (g : Int → Int) (u : Int) (n : Nat), sg (fun k => g k * mul4 u) n = sg g n * mul4 u := by
    intro g u n
    induction n with
    | zero => show (0 : Int) = 0 * mul4 u; rw [Int.zero_mul]
    | succ n ih => show sg (fun k => g k * mul4 u) n + g (n : Int) * mul4 u = (sg g n + g (n : Int)) * mul4 u; rw [ih, Int.add_mul]
  rw [← sx, ← sg_cg (fun k _ _ => sy k), sm', ← sg_cg (fun k _ _ => congrArg (fun t => t) (sg_cg (fun j _ _ => sz k j)))]
  rw [sg_cg (g := fun x => sg (fun y => sg (fun z => ic fs A B v x y z) (uz + 1).toNat * mul4 uz) (uy + 1).toNat) (g' := fun x => sg (fun y => sg (fun z => ic fs A B v x y z) (uz + 1).toNat) (uy + 1).toNat * mul4 uz) (fun k _ _ => sm' _ _ _), sm']
  rw [Int.mul_assoc, Int.mul_assoc, Int.mul_assoc, Int.mul_assoc, Int.mul_comm (mul4 ux), Int.mul_comm (mul4 uz), Int.mul_assoc, Int.mul_comm (mul4 uz) (mul4 ux), Int.mul_assoc (mul4 uy)]
