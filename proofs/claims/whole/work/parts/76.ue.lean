/-! ===== rippling ===== -/
def fi (g : Int → Option (List Int)) : Nat → Int → Option (Int × List Int)
  | 0, _ => none
  | n + 1, m => match g m with
    | some T => some (m, T)
    | none => fi g n (m + 1)
theorem fi_n {g : Int → Option (List Int)} {m : Int} (hm : m < 640) (h : g m = none) : fi g (640 - m).toNat m = fi g (640 - (m + 1)).toNat (m + 1) := by
  rw [show (640 - m).toNat = (640 - (m + 1)).toNat + 1 by omega]
  show (match g m with | some T => some (m, T) | none => fi g _ (m + 1)) = _
  rw [h]
theorem fi_s {g : Int → Option (List Int)} {m : Int} {T : List Int} (hm : m < 640) (h : g m = some T) : fi g (640 - m).toNat m = some (m, T) := by
  rw [show (640 - m).toNat = (640 - (m + 1)).toNat + 1 by omega]
  show (match g m with | some T => some (m, T) | none => fi g _ (m + 1)) = _
  rw [h]
theorem fi_to {g : Int → Option (List Int)} : ∀ (k : Nat) (m : Int), m + (k : Int) ≤ 640 → (∀ x, m ≤ x → x < m + (k : Int) → g x = none) → fi g (640 - m).toNat m = fi g (640 - (m + (k : Int))).toNat (m + (k : Int))
  | 0, m, _, _ => by rw [show m + ((0 : Nat) : Int) = m by omega]
  | k + 1, m, h, hg => by
    rw [fi_n (by omega) (hg m (by omega) (by omega)), fi_to k (m + 1) (by omega) (fun x h1 h2 => hg x (by omega) (by omega)), show m + 1 + (k : Int) = m + ((k + 1 : Nat) : Int) by omega]
theorem fi_go {g : Int → Option (List Int)} {m m' : Int} (h1 : m ≤ m') (h2 : m' ≤ 640) (hg : ∀ x, m ≤ x → x < m' → g x = none) : fi g (640 - m).toNat m = fi g (640 - m').toNat m' := by
  have := fi_to (g := g) (m' - m).toNat m (by omega) (fun x p1 p2 => hg x p1 (by omega))
  rw [show m + (((m' - m).toNat : Nat) : Int) = m' by omega] at this
  exact this
theorem fi_no {g : Int → Option (List Int)} {m : Int} (h2 : m ≤ 640) (hg : ∀ x, m ≤ x → x < 640 → g x = none) : fi g (640 - m).toNat m = none := by
  rw [fi_go h2 (Int.le_refl 640) hg]; rfl
theorem fi_ok {g : Int → Option (List Int)} : ∀ (n : Nat) (m : Int) (m' : Int) (T : List Int), fi g n m = some (m', T) → g m' = some T ∧ m ≤ m' ∧ m' < m + (n : Int)
  | 0, m, m', T, h => absurd h (by simp [fi])
  | n + 1, m, m', T, h => by
    unfold fi at h
    cases hg : g m with
    | some T' =>
      rw [hg] at h
      have := Option.some.inj h
      have e1 := congrArg Prod.fst this
      have e2 := congrArg Prod.snd this
      dsimp only at e1 e2
      subst e1
      subst e2
      exact ⟨hg, by omega, by omega⟩
    | none =>
      rw [hg] at h
      obtain ⟨q1, q2, q3⟩ := fi_ok n (m + 1) m' T h
      exact ⟨q1, by omega, by omega⟩
def pt (ls : List (List Int × List Int)) (u : Int) : List Int := gs (gl ls (u / 2)) (u % 2)
def po (ls : List (List Int × List Int)) (u : Int) : List Int := gs (gl ls (u / 2)) (1 - u % 2)
def cw (fs : List Fn) (ls : List (List Int × List Int)) (A : List Int) (i u : Int) : Option (List Int) := if usb (pt ls u) (po ls u) then (match mt fs A (-9) (pt ls u) i b9 with
  | none => none
  | some b => if (RP fs A i b (po ls u)).length ≤ 40 then some (RP fs A i b (po ls u)) else none) else none
def cn (fs : List Fn) (ls : List (List Int × List Int)) (A S : List Int) (now m : Int) : Option (List Int) := if (A.length : Int) ≤ m / 16 ∨ 2 * (ls.length : Int) ≤ m % 16 then none else (match cw fs ls A (m / 16) (m % 16) with
  | none => none
  | some T => if dD fs T S 0 0 < now then some T else none)
def rip (fs : List Fn) (ls : List (List Int × List Int)) (A S : List Int) : Option (Int × List Int) := if dD fs A S 0 0 < 100000 then fi (cn fs ls A S (dD fs A S 0 0)) 640 0 else none
def okL (fs : List Fn) (ls : List (List Int × List Int)) : Prop := ls.length ≤ 8 ∧ ∀ q ∈ ls, okT fs q.1 ∧ okT fs q.2 ∧ q.1.length ≤ 40 ∧ q.2.length ≤ 40
theorem okL_p {fs : List Fn} {ls : List (List Int × List Int)} {u : Int} (h : okL fs ls) (hu : 0 ≤ u ∧ u < 2 * (ls.length : Int)) : (okT fs (pt ls u) ∧ (pt ls u).length ≤ 40) ∧ okT fs (po ls u) ∧ (po ls u).length ≤ 40 := by
  have := h.2 _ (gl_mem (ls := ls) (k := u / 2) (by omega) (by omega))
  exact ⟨gs_ok this, gs_ok this⟩
theorem b9_ok {A : List Int} : okB A b9 := fun _ => Or.inl rfl
theorem cw_ok {fs : List Fn} {ls : List (List Int × List Int)} {A T : List Int} {i u : Int} (ho : okF fs) (hl : fs.length ≤ 6) (hL : okL fs ls) (hA : okT fs A) (hi : 0 ≤ i ∧ i < (A.length : Int)) (hu : 0 ≤ u ∧ u < 2 * (ls.length : Int)) (h : cw fs ls A i u = some T) : okT fs T ∧ T.length ≤ 40 := by
  unfold cw at h
  by_cases g : usb (pt ls u) (po ls u)
  · rw [if_pos g] at h
    cases hm : mt fs A (-9) (pt ls u) i b9 with
    | none => rw [hm] at h; exact absurd h (by simp)
    | some b =>
      rw [hm] at h
      dsimp only at h
      by_cases g1 : (RP fs A i b (po ls u)).length ≤ 40
      · rw [if_pos g1] at h
        rw [← Option.some.inj h]
        exact ⟨okT_RP ho hl hA (okL_p hL hu).2.1 (mt_ok _ _ _ _ hi.1 b9_ok hm) hi, g1⟩
      · rw [if_neg g1] at h; exact absurd h (by simp)
  · rw [if_neg g] at h; exact absurd h (by simp)
theorem cn_ok {fs : List Fn} {ls : List (List Int × List Int)} {A S T : List Int} {now m : Int} (ho : okF fs) (hl : fs.length ≤ 6) (hL : okL fs ls) (hA : okT fs A) (hm : 0 ≤ m) (h : cn fs ls A S now m = some T) : okT fs T ∧ T.length ≤ 40 ∧ dD fs T S 0 0 < now ∧ m % 16 < 2 * (ls.length : Int) ∧ m / 16 < (A.length : Int) := by
  unfold cn at h
  by_cases g : (A.length : Int) ≤ m / 16 ∨ 2 * (ls.length : Int) ≤ m % 16
  · rw [if_pos g] at h; exact absurd h (by simp)
  · rw [if_neg g] at h
    cases hc : cw fs ls A (m / 16) (m % 16) with
    | none => rw [hc] at h; exact absurd h (by simp)
    | some T' =>
      rw [hc] at h
      dsimp only at h
      by_cases g1 : dD fs T' S 0 0 < now
      · rw [if_pos g1] at h
        have e := Option.some.inj h
        subst e
        have := cw_ok ho hl hL hA ⟨by omega, by omega⟩ ⟨by omega, by omega⟩ hc
        exact ⟨this.1, this.2, g1, by omega, by omega⟩
      · rw [if_neg g1] at h; exact absurd h (by simp)
theorem rip_ok {fs : List Fn} {ls : List (List Int × List Int)} {A S T : List Int} {m : Int} (ho : okF fs) (hl : fs.length ≤ 6) (hL : okL fs ls) (hA : okT fs A) (h : rip fs ls A S = some (m, T)) : okT fs T ∧ T.length ≤ 40 ∧ dD fs T S 0 0 < dD fs A S 0 0 ∧ dD fs A S 0 0 < 100000 ∧ m % 16 < 2 * (ls.length : Int) ∧ 0 ≤ m ∧ m < 640 := by
  unfold rip at h
  by_cases g : dD fs A S 0 0 < 100000
  · rw [if_pos g] at h
    obtain ⟨q1, q2, q3⟩ := fi_ok _ _ _ _ h
    have := cn_ok ho hl hL hA q2 q1
    exact ⟨this.1, this.2.1, this.2.2.1, g, this.2.2.2.1, q2, by omega⟩
  · rw [if_neg g] at h; exact absurd h (by simp)
theorem cv_122 {fs : List Fn} {P : List Int} (hl : fs.length ≤ 6) (h : okT fs P) : ∀ c ∈ P, 0 ≤ c ∧ c ≤ 122 := by
  intro c hc
  have := h.2 c hc
  unfold cv at this
  omega
theorem cn_in {fs : List Fn} {ls : List (List Int × List Int)} {A S : List Int} {now i u m : Int} (hm : m = 16 * i + u) (hi : i < (A.length : Int)) (hu : 0 ≤ u ∧ u < 16 ∧ u < 2 * (ls.length : Int)) : cn fs ls A S now m = match cw fs ls A i u with
    | none => none
    | some T => if dD fs T S 0 0 < now then some T else none := by
  unfold cn
  have e1 : m / 16 = i := by omega
  have e2 : m % 16 = u := by omega
  rw [e1, e2, if_neg (by omega)]
theorem cn_out {fs : List Fn} {ls : List (List Int × List Int)} {A S : List Int} {now i u m : Int} (hm : m = 16 * i + u) (hu : 0 ≤ u ∧ u < 16) (h : (A.length : Int) ≤ i ∨ 2 * (ls.length : Int) ≤ u) : cn fs ls A S now m = none := by
  unfold cn
  have e1 : m / 16 = i := by omega
  have e2 : m % 16 = u := by omega
  rw [e1, e2, if_pos h]
