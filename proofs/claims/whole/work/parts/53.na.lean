/-! ===== normal forms: the pure machine ===== -/
/-- codes left, the next one first: how many terms the codes ahead leave open -/
def qn (fs : List Fn) : List Int → Int
  | [] => 1
  | c :: r => qn fs r - 1 + arf fs c
def qk (fs : List Fn) : List Int → Prop
  | [] => True
  | c :: r => 1 ≤ qn fs r ∧ qk fs r
theorem qn_rev {fs : List Fn} : ∀ (r : List Int), pn fs 1 r.reverse = qn fs r
  | [] => rfl
  | c :: r => by rw [List.reverse_cons, pn_app, qn_rev r]; rfl
theorem qk_rev {fs : List Fn} : ∀ (r : List Int), pk fs 1 r.reverse ↔ qk fs r
  | [] => Iff.rfl
  | c :: r => by
    rw [List.reverse_cons, pk_app, qk_rev r, qn_rev r]
    show qk fs r ∧ (1 ≤ qn fs r ∧ True) ↔ 1 ≤ qn fs r ∧ qk fs r
    constructor
    · intro h; exact ⟨h.2.1, h.1⟩
    · intro h; exact ⟨h.2, h.1, trivial⟩
theorem qn_le {fs : List Fn} (ho : okF fs) : ∀ (r : List Int), qn fs r ≤ 1 + (r.length : Int)
  | [] => by show (1 : Int) ≤ 1 + 0; omega
  | c :: r => by
    have := qn_le ho r
    have := arf_le ho c
    show qn fs r - 1 + arf fs c ≤ _
    simp
    omega
/-- codes left (the next first), depth, the arguments, what is there so far (the last first) -/
abbrev Nf : Type := List Int × Int × List (List Int) × List (List Int)
def bfor (fs : List Fn) (f : Int) (A : List Int) : Int := if gt A 0 = 90 then 0 else if gt A 0 = 83 then (if (gf fs f).2.1 = 1 then 2 else if gt A 1 = 90 then 1 else if gt A 1 = 83 then 2 else -9) else -9
def xof (d : Int) (as : List (List Int)) : List Int := (as.headD []).drop d.toNat
def yof (as : List (List Int)) : List Int := as.tail.headD []
def vof (mn : Int → List Int) (fr : List Nf) (d : Int) (as : List (List Int)) (c : Int) : List Int := if fr.length = 0 then mn c else if c = 120 then xof d as else yof as
def wh (fs : List Fn) (c : Int) (st : List (List Int)) : Int := if c = 83 then -9 else bfor fs (c - 97) (st.headD [])
def na (fs : List Fn) (c : Int) : Nat := (arf fs c).toNat
def jl (fs : List Fn) (c : Int) (st : List (List Int)) : List Int := c :: (st.take (na fs c)).flatten
def nv (fs : List Fn) (mn : Int → List Int) : Nat → Int → List Nf → Option (Option (List Int))
  | 0, _, _ => none
  | _ + 1, _, [] => some none
  | _ + 1, _, ([], _, _, st) :: [] => some (some (st.headD []))
  | n + 1, u, ([], _, _, st) :: (r, d, as, st2) :: fr => nv fs mn n u ((r, d, as, st.headD [] :: st2) :: fr)
  | n + 1, u, (c :: r, d, as, st) :: fr =>
    if 120 ≤ c then nv fs mn n u ((r, d, as, vof mn fr d as c :: st) :: fr)
    else if c = 90 then nv fs mn n u ((r, d, as, [90] :: st) :: fr)
    else if wh fs c st = -9 then (if (jl fs c st).length ≤ 40 then nv fs mn n u ((r, d, as, jl fs c st :: st.drop (na fs c)) :: fr) else some none)
    else if 50 ≤ u then some none
    else nv fs mn n (u + 1) (((fB (gf fs (c - 97)) (wh fs c st)).reverse, (gf fs (c - 97)).2.1, st.take (na fs c), []) :: (r, d, as, st.drop (na fs c)) :: fr)
theorem nv_end {fs : List Fn} {mn : Int → List Int} {n : Nat} {u d : Int} {as st : List (List Int)} : nv fs mn (n + 1) u [([], d, as, st)] = some (some (st.headD [])) := by
  rw [nv]
theorem nv_pop {fs : List Fn} {mn : Int → List Int} {n : Nat} {u d d2 : Int} {r : List Int} {as st as2 st2 : List (List Int)} {fr : List Nf} : nv fs mn (n + 1) u (([], d, as, st) :: (r, d2, as2, st2) :: fr) = nv fs mn n u ((r, d2, as2, st.headD [] :: st2) :: fr) := by
  rw [nv]
theorem nv_c {fs : List Fn} {mn : Int → List Int} {n : Nat} {u c d : Int} {r : List Int} {as st : List (List Int)} {fr : List Nf} : nv fs mn (n + 1) u ((c :: r, d, as, st) :: fr) = if 120 ≤ c then nv fs mn n u ((r, d, as, vof mn fr d as c :: st) :: fr)
    else if c = 90 then nv fs mn n u ((r, d, as, [90] :: st) :: fr)
    else if wh fs c st = -9 then (if (jl fs c st).length ≤ 40 then nv fs mn n u ((r, d, as, jl fs c st :: st.drop (na fs c)) :: fr) else some none)
    else if 50 ≤ u then some none
    else nv fs mn n (u + 1) (((fB (gf fs (c - 97)) (wh fs c st)).reverse, (gf fs (c - 97)).2.1, st.take (na fs c), []) :: (r, d, as, st.drop (na fs c)) :: fr) := by
  rw [nv]
theorem nv_mono {fs : List Fn} {mn : Int → List Int} : ∀ (n : Nat) (u : Int) (fr : List Nf) (R : Option (List Int)), nv fs mn n u fr = some R → nv fs mn (n + 1) u fr = some R := by
  intro n
  induction n with
  | zero => intro u fr R h; rw [nv] at h; exact absurd h (by simp)
  | succ n ih =>
    intro u fr R h
    cases fr with
    | nil => rw [nv] at h ⊢; exact h
    | cons f fr =>
      obtain ⟨r, d, as, st⟩ := f
      cases r with
      | nil =>
        cases fr with
        | nil => rw [nv_end] at h ⊢; exact h
        | cons g fr =>
          obtain ⟨r2, d2, as2, st2⟩ := g
          rw [nv_pop] at h ⊢
          exact ih _ _ _ h
      | cons c r =>
        rw [nv_c] at h ⊢
        by_cases g1 : 120 ≤ c
        · rw [if_pos g1] at h ⊢; exact ih _ _ _ h
        rw [if_neg g1] at h ⊢
        by_cases g2 : c = 90
        · rw [if_pos g2] at h ⊢; exact ih _ _ _ h
        rw [if_neg g2] at h ⊢
        by_cases g3 : wh fs c st = -9
        · rw [if_pos g3] at h ⊢
          by_cases g4 : (jl fs c st).length ≤ 40
          · rw [if_pos g4] at h ⊢; exact ih _ _ _ h
          · rw [if_neg g4] at h ⊢; exact h
        rw [if_neg g3] at h ⊢
        by_cases g4 : 50 ≤ u
        · rw [if_pos g4] at h ⊢; exact h
        · rw [if_neg g4] at h ⊢; exact ih _ _ _ h
theorem nv_up {fs : List Fn} {mn : Int → List Int} {n m : Nat} {u : Int} {fr : List Nf} {R : Option (List Int)} (h : nv fs mn n u fr = some R) (hm : n ≤ m) : nv fs mn m u fr = some R := by
  obtain ⟨k, rfl⟩ := Nat.le.dest hm
  clear hm
  induction k with
  | zero => exact h
  | succ k ih => exact nv_mono _ _ _ _ ih
theorem nv_one {fs : List Fn} {mn : Int → List Int} {n m : Nat} {u : Int} {fr : List Nf} {R R' : Option (List Int)} (h : nv fs mn n u fr = some R) (h' : nv fs mn m u fr = some R') : R = R' := by
  have a := nv_up h (Nat.le_max_left n m)
  have b := nv_up h' (Nat.le_max_right n m)
  rw [a] at b
  exact Option.some.inj b
/-! what holds on the way -/
def gV (fs : List Fn) (V : List Int) : Prop := okT fs V ∧ V.length ≤ 40
def Lb (L0 : Int) (m : Nat) : Int := if m = 0 then L0 else 10
def fo (fs : List Fn) (m : Nat) (f : Nf) : Prop := qk fs f.1 ∧ (∀ c ∈ f.1, cv fs c) ∧ (∀ V ∈ f.2.2.2, gV fs V) ∧ (∀ V ∈ f.2.2.1, gV fs V) ∧ (m = 0 → f.2.2.1 = []) ∧ (m ≠ 0 → f.2.2.1.length ≤ 2 ∧ (122 ∉ f.1) ∧ (120 ∈ f.1 → gV fs (xof f.2.1 f.2.2.1)) ∧ (121 ∈ f.1 → gV fs (yof f.2.2.1)) ∧ 0 ≤ f.2.1 ∧ f.2.1 ≤ 2)
def lw (fs : List Fn) (L0 : Int) : List Nf → Prop
  | [] => True
  | f :: fr => fo fs fr.length f ∧ (f.2.2.2.length : Int) = qn fs f.1 - 1 ∧ (f.1.length : Int) + (f.2.2.2.length : Int) + 1 ≤ Lb L0 fr.length ∧ lw fs L0 fr
def ms : List Nf → Int
  | [] => 0
  | f :: fr => ((f.1.length : Int) + 1) + ms fr
def okN (fs : List Fn) (L0 : Int) (n : Nat) (u : Int) (fr : List Nf) : Prop := 0 ≤ u ∧ u ≤ 50 ∧ (fr.length : Int) ≤ u + 1 ∧ ms fr + 11 * (50 - u) ≤ (n : Int) ∧ match fr with
  | [] => False
  | f :: fr => fo fs fr.length f ∧ (f.2.2.2.length : Int) = qn fs f.1 ∧ (f.1.length : Int) + (f.2.2.2.length : Int) ≤ Lb L0 fr.length ∧ lw fs L0 fr
theorem ms_pos : ∀ fr : List Nf, 0 ≤ ms fr
  | [] => Int.le_refl 0
  | f :: fr => by
    have := ms_pos fr
    show 0 ≤ ((f.1.length : Int) + 1) + ms fr
    omega
theorem okN_n {fs : List Fn} {L0 : Int} {n : Nat} {u : Int} {fr : List Nf} (h : okN fs L0 n u fr) : n ≠ 0 := by
  obtain ⟨a1, a2, a3, a4, a5⟩ := h
  cases fr with
  | nil => exact absurd a5 id
  | cons f fr =>
    have := ms_pos fr
    have e : ms (f :: fr) = ((f.1.length : Int) + 1) + ms fr := rfl
    omega
theorem one_of {st : List (List Int)} (h : (st.length : Int) = 1) : st = [st.headD []] := by
  cases st with
  | nil => simp at h
  | cons V s =>
    cases s with
    | nil => rfl
    | cons W s => simp at h; omega
theorem okN_pop {fs : List Fn} {L0 : Int} {n : Nat} {u d d2 : Int} {r : List Int} {as st as2 st2 : List (List Int)} {fr : List Nf} (h : okN fs L0 (n + 1) u (([], d, as, st) :: (r, d2, as2, st2) :: fr)) : st = [st.headD []] ∧ gV fs (st.headD []) ∧ okN fs L0 n u ((r, d2, as2, st.headD [] :: st2) :: fr) := by
  obtain ⟨a1, a2, a3, a4, ⟨b1, b2, b3, b4, b5, b6⟩, a6, a7, ⟨c1, c2, c3, c4, c5, c6⟩, a9, a10, a11⟩ := h
  have e := one_of (st := st) a6
  have hg : gV fs (st.headD []) := b3 _ (by show st.headD [] ∈ st; rw [e]; simp)
  refine ⟨e, hg, a1, a2, by simp at a3 ⊢; omega, ?_, ⟨c1, c2, ?_, c4, c5, c6⟩, ?_, ?_, a11⟩
  · have e1 : ms (([], d, as, st) :: (r, d2, as2, st2) :: fr) = ((0 : Int) + 1) + (((r.length : Int) + 1) + ms fr) := rfl
    have e2 : ms ((r, d2, as2, st.headD [] :: st2) :: fr) = ((r.length : Int) + 1) + ms fr := rfl
    omega
  · intro V hV
    rcases List.mem_cons.mp hV with q | q
    · rw [q]; exact hg
    · exact c3 V q
  · dsimp only at a9 ⊢; simp; omega
  · dsimp only at a10 ⊢; simp; omega
theorem fo_tl {fs : List Fn} {m : Nat} {c d : Int} {r : List Int} {as st st' : List (List Int)} (h : fo fs m (c :: r, d, as, st)) (h' : ∀ V ∈ st', gV fs V) : fo fs m (r, d, as, st') := by
  obtain ⟨b1, b2, b3, b4, b5, b6⟩ := h
  refine ⟨b1.2, fun c' hc => b2 c' (by simp [hc]), h', b4, b5, fun q => ?_⟩
  obtain ⟨x1, x2, x3, x4, x5⟩ := b6 q
  exact ⟨x1, fun q => x2 (by simp [q]), fun q => x3 (by simp [q]), fun q => x4 (by simp [q]), x5⟩
/-- a code is read: so many values go, one comes -/
theorem okN_val {fs : List Fn} {L0 : Int} {n : Nat} {u c d : Int} {r : List Int} {as st : List (List Int)} {fr : List Nf} {V : List Int} (h : okN fs L0 (n + 1) u ((c :: r, d, as, st) :: fr)) (hc : 0 ≤ arf fs c) (hV : gV fs V) : okN fs L0 n u ((r, d, as, V :: st.drop (na fs c)) :: fr) := by
  obtain ⟨a1, a2, a3, a4, a5, a6, a7, a8⟩ := h
  have hq : qn fs (c :: r) = qn fs r - 1 + arf fs c := rfl
  have hk := a5.1.1
  have hna : (na fs c : Int) = arf fs c := by unfold na; omega
  dsimp only at a6 a7 hk
  refine ⟨a1, a2, by simpa using a3, ?_, fo_tl a5 ?_, ?_, ?_, a8⟩
  · have e1 : ms ((c :: r, d, as, st) :: fr) = (((r.length + 1 : Nat) : Int) + 1) + ms fr := rfl
    have e2 : ms ((r, d, as, V :: st.drop (na fs c)) :: fr) = ((r.length : Int) + 1) + ms fr := rfl
    omega
  · intro W hW
    rcases List.mem_cons.mp hW with q | q
    · rw [q]; exact hV
    · exact a5.2.2.1 W (List.mem_of_mem_drop q)
  · simp; omega
  · simp at a7 ⊢; omega
theorem pw_cat {fs : List Fn} : ∀ {A B : List Int} {k m : Int}, 0 ≤ m → pw fs k A → pw fs m B → pw fs (k + m) (A ++ B)
  | [], B, k, m, _, hA, hB => by
    have : k = 0 := hA
    rw [this, Int.zero_add]; exact hB
  | c :: A, B, k, m, hm, hA, hB => by
    refine ⟨by have := hA.1; omega, ?_⟩
    have := pw_cat hm hA.2 hB
    rw [show k + m - 1 + arf fs c = k - 1 + arf fs c + m by omega]
    exact this
theorem pw_flat {fs : List Fn} : ∀ (l : List (List Int)), (∀ V ∈ l, okT fs V) → pw fs (l.length : Int) l.flatten ∧ ∀ c ∈ l.flatten, cv fs c
  | [], _ => ⟨rfl, fun c hc => absurd hc (by simp)⟩
  | V :: l, h => by
    obtain ⟨q1, q2⟩ := pw_flat l (fun W hW => h W (by simp [hW]))
    have hv := h V (by simp)
    refine ⟨?_, fun c hc => ?_⟩
    · have := pw_cat (by omega) hv.1 q1
      rw [List.flatten_cons, show (((V :: l).length : Nat) : Int) = 1 + (l.length : Int) by simp; omega]
      exact this
    · rw [List.flatten_cons] at hc
      rcases List.mem_append.mp hc with q | q
      · exact hv.2 c q
      · exact q2 c q
theorem okN_st {fs : List Fn} {L0 : Int} {n : Nat} {u c d : Int} {r : List Int} {as st : List (List Int)} {fr : List Nf} (h : okN fs L0 n u ((c :: r, d, as, st) :: fr)) : arf fs c ≤ (st.length : Int) ∧ cv fs c ∧ ∀ V ∈ st, gV fs V := by
  obtain ⟨a1, a2, a3, a4, a5, a6, a7, a8⟩ := h
  have hq : qn fs (c :: r) = qn fs r - 1 + arf fs c := rfl
  have hk := a5.1.1
  dsimp only at a6
  exact ⟨by omega, a5.2.1 c (by simp), a5.2.2.1⟩
theorem jl_ok {fs : List Fn} {c : Int} {st : List (List Int)} (ho : okF fs) (hc : cv fs c) (h1 : arf fs c ≤ (st.length : Int)) (h2 : ∀ V ∈ st, gV fs V) (hl : (jl fs c st).length ≤ 40) : gV fs (jl fs c st) := by
  have ha := arf_pos ho c
  obtain ⟨q1, q2⟩ := pw_flat (fs := fs) (st.take (na fs c)) (fun V hV => (h2 V (List.mem_of_mem_take hV)).1)
  refine ⟨⟨⟨by omega, ?_⟩, fun x hx => ?_⟩, hl⟩
  · have : ((st.take (na fs c)).length : Int) = arf fs c := by rw [List.length_take]; unfold na; omega
    rw [this] at q1
    rw [show 1 - 1 + arf fs c = arf fs c by omega]
    exact q1
  · rcases List.mem_cons.mp hx with q | q
    · rw [q]; exact hc
    · exact q2 x q
theorem bfor_B {fs : List Fn} {f : Int} {A : List Int} (ho : okF fs) (hf : 0 ≤ f ∧ f < (fs.length : Int)) (h : bfor fs f A ≠ -9) : hasB (gf fs f) (bfor fs f A) := by
  obtain ⟨-, h2, -⟩ := ho f hf.1 hf.2
  unfold bfor at h ⊢
  unfold hasB
  repeat' split
  all_goals first | omega | simp_all
theorem gV_S {fs : List Fn} {V : List Int} (h : gV fs (83 :: V)) : gV fs V := by
  obtain ⟨⟨h1, h2⟩, h3⟩ := h
  have e : arf fs 83 = 1 := by unfold arf; rw [if_pos rfl]
  have := h1.2
  rw [e] at this
  exact ⟨⟨this, fun c hc => h2 c (by simp [hc])⟩, by simp at h3; omega⟩
theorem hd_S {V : List Int} (h : gt V 0 = 83) : ∃ W, V = 83 :: W := by
  cases V with
  | nil => exact absurd h (by decide)
  | cons a W => exact ⟨W, by rw [show a = 83 from h]⟩
theorem gt_c1 {a : Int} {W : List Int} : gt (a :: W) 1 = gt W 0 := rfl
/-- behind its S -/
theorem bfor_x {fs : List Fn} {f : Int} {A : List Int} (ho : okF fs) (hf : 0 ≤ f ∧ f < (fs.length : Int)) (h : bfor fs f A = 2) (hA : gV fs A) : gV fs (A.drop (gf fs f).2.1.toNat) ∧ (((gf fs f).2.1 = 1 ∧ ∃ W, A = 83 :: W) ∨ ((gf fs f).2.1 = 2 ∧ ∃ W, A = 83 :: 83 :: W)) := by
  obtain ⟨-, h2, -⟩ := ho f hf.1 hf.2
  unfold bfor at h
  by_cases g : gt A 0 = 90
  · rw [if_pos g] at h; exact absurd h (by decide)
  rw [if_neg g] at h
  by_cases g1 : gt A 0 = 83
  · rw [if_pos g1] at h
    obtain ⟨W, rfl⟩ := hd_S g1
    by_cases g2 : (gf fs f).2.1 = 1
    · rw [g2]
      exact ⟨gV_S hA, Or.inl ⟨rfl, W, rfl⟩⟩
    · rw [if_neg g2] at h
      by_cases g3 : gt (83 :: W) 1 = 90
      · rw [if_pos g3] at h; exact absurd h (by decide)
      · rw [if_neg g3] at h
        by_cases g4 : gt (83 :: W) 1 = 83
        · obtain ⟨X, rfl⟩ := hd_S (V := W) g4
          have e : (gf fs f).2.1 = 2 := by omega
          rw [e]
          exact ⟨gV_S (gV_S hA), Or.inr ⟨rfl, X, rfl⟩⟩
        · rw [if_neg g4] at h; exact absurd h (by decide)
  · rw [if_neg g1] at h; exact absurd h (by decide)
theorem cv_cs {fs : List Fn} {c : Int} (hl : fs.length ≤ 6) (h : cv fs c) (h1 : ¬ 120 ≤ c) (h2 : c ≠ 90) : c = 83 ∨ (c ≠ 83 ∧ 0 ≤ c - 97 ∧ c - 97 < (fs.length : Int)) := by
  unfold cv at h; omega
theorem okN_call {fs : List Fn} {L0 : Int} {n : Nat} {u c d : Int} {r : List Int} {as st : List (List Int)} {fr : List Nf} (ho : okF fs) (hl : fs.length ≤ 6) (h : okN fs L0 (n + 1) u ((c :: r, d, as, st) :: fr)) (h1 : ¬ 120 ≤ c) (h2 : c ≠ 90) (hw : wh fs c st ≠ -9) (hu : u < 50) : (0 ≤ c - 97 ∧ c - 97 < (fs.length : Int)) ∧ c ≠ 83 ∧ hasB (gf fs (c - 97)) (wh fs c st) ∧ okN fs L0 n (u + 1) (((fB (gf fs (c - 97)) (wh fs c st)).reverse, (gf fs (c - 97)).2.1, st.take (na fs c), []) :: (r, d, as, st.drop (na fs c)) :: fr) := by
  obtain ⟨s1, s2, s3⟩ := okN_st h
  have hc83 : c ≠ 83 := fun q => hw (by unfold wh; rw [if_pos q])
  have hf : 0 ≤ c - 97 ∧ c - 97 < (fs.length : Int) := by
    rcases cv_cs hl s2 h1 h2 with q | q
    · exact absurd q hc83
    · exact q.2
  have ew : wh fs c st = bfor fs (c - 97) (st.headD []) := by unfold wh; rw [if_neg hc83]
  have hB : hasB (gf fs (c - 97)) (wh fs c st) := by rw [ew] at hw ⊢; exact bfor_B ho hf hw
  obtain ⟨f1, f2, f3⟩ := ho _ hf.1 hf.2
  obtain ⟨b1, b2, b3⟩ := f3 _ hB
  have har := arf_fn hf
  have hna : (na fs c : Int) = arf fs c := by unfold na; omega
  obtain ⟨a1, a2, a3, a4, a5, a6, a7, a8⟩ := h
  have hq : qn fs (c :: r) = qn fs r - 1 + arf fs c := rfl
  have hk := a5.1.1
  dsimp only at a6 a7 hk
  have hne : (st.take (na fs c)).headD [] = st.headD [] := by
    cases st with
    | nil => simp at s1; omega
    | cons V s =>
      have : na fs c ≠ 0 := by omega
      obtain ⟨k, hk⟩ := Nat.exists_eq_succ_of_ne_zero this
      rw [hk]; rfl
  refine ⟨hf, hc83, hB, by omega, by omega, by simp at a3 ⊢; omega, ?_, ?_, ?_, ?_, fo_tl a5 (fun V hV => s3 V (List.mem_of_mem_drop hV)), ?_, ?_, a8⟩
  · have e1 : ms ((c :: r, d, as, st) :: fr) = (((r.length + 1 : Nat) : Int) + 1) + ms fr := rfl
    have e2 : ms (((fB (gf fs (c - 97)) (wh fs c st)).reverse, (gf fs (c - 97)).2.1, st.take (na fs c), []) :: (r, d, as, st.drop (na fs c)) :: fr) = (((fB (gf fs (c - 97)) (wh fs c st)).reverse.length : Int) + 1) + (((r.length : Int) + 1) + ms fr) := rfl
    rw [List.length_reverse] at e2
    omega
  · refine ⟨?_, fun x hx => b1.2 x (by simpa using hx), fun V hV => absurd hV (by simp), fun V hV => s3 V (List.mem_of_mem_take hV), fun q => absurd q (by simp), fun _ => ⟨?_, ?_, ?_, ?_, ?_, ?_⟩⟩
    · have := (pw_iff.mp b1.1).1
      rw [← List.reverse_reverse (fB (gf fs (c - 97)) (wh fs c st)), qk_rev] at this
      exact this
    · show (st.take (na fs c)).length ≤ 2
      rw [List.length_take]; omega
    · intro q
      exact (b3 122 (by simpa using q)).1 rfl
    · intro q
      have hw2 := (b3 120 (by simpa using q)).2.2 rfl
      show gV fs (xof _ _)
      unfold xof
      rw [hne]
      rw [ew] at hw2
      refine (bfor_x ho hf hw2 ?_).1
      cases st with
      | nil => simp at s1; omega
      | cons V s => exact s3 V (by simp)
    · intro q
      have h2 := (b3 121 (by simpa using q)).2.1 rfl
      show gV fs (yof _)
      unfold yof
      have e2 : na fs c = 2 := by omega
      rw [e2]
      cases st with
      | nil => simp at s1; omega
      | cons V s =>
        cases s with
        | nil => simp at s1; omega
        | cons W s => exact s3 W (by simp)
    · show 0 ≤ (gf fs (c - 97)).2.1; omega
    · show (gf fs (c - 97)).2.1 ≤ 2; omega
  · have := (pw_iff.mp b1.1).2
    rw [← List.reverse_reverse (fB (gf fs (c - 97)) (wh fs c st)), qn_rev] at this
    exact this.symm
  · show ((fB (gf fs (c - 97)) (wh fs c st)).reverse.length : Int) + ((([] : List (List Int)).length : Nat) : Int) ≤ Lb L0 (_ + 1)
    unfold Lb
    rw [if_neg (by omega), List.length_reverse]
    simp; omega
  · show ((st.drop (na fs c)).length : Int) = _
    rw [List.length_drop]
    dsimp only
    omega
  · show (r.length : Int) + ((st.drop (na fs c)).length : Int) + 1 ≤ _
    rw [List.length_drop]
    simp at a7
    omega
