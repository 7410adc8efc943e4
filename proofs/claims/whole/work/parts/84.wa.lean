/-! ===== attempts: pure ===== -/
abbrev Cm : Type := List Int × List Int
abbrev Ls : Type := List (List Int × List Int)
abbrev Nt : Type := List (Int × Int)
abbrev Rs : Type := Int × Ls × Nt × List Int
def okQ (fs : List Fn) (q : Cm) : Prop := okT fs q.1 ∧ okT fs q.2 ∧ q.1.length ≤ 40 ∧ q.2.length ≤ 40
def cx (fs : List Fn) (A B : List Int) : Prop := ∃ ux uy uz x y z, ub A B 2 0 ux ∧ ub A B 2 1 uy ∧ ub A B 2 2 uz ∧ rg ux uy uz x y z ∧ bad fs A B x y z
noncomputable def cxi (fs : List Fn) (q : Cm) : Int := @ite Int (cx fs q.1 q.2) (Classical.propDecidable _) 1 0
theorem cxi_1 {fs : List Fn} {q : Cm} (h : cx fs q.1 q.2) : cxi fs q = 1 := by
  unfold cxi; rw [if_pos h]
theorem cxi_0 {fs : List Fn} {q : Cm} (h : ¬ cx fs q.1 q.2) : cxi fs q ≠ 1 := by
  unfold cxi; rw [if_neg h]; decide
theorem ub_uq {A B : List Int} {m v u u' : Int} (h : ub A B m v u) (h' : ub A B m v u') : u = u' := by
  by_cases g : hv A B v
  · rw [h.1 g, h'.1 g]
  · rw [h.2 g, h'.2 g]
theorem cx_no {fs : List Fn} {A B : List Int} {ux uy uz : Int} (h1 : ub A B 2 0 ux) (h2 : ub A B 2 1 uy) (h3 : ub A B 2 2 uz) (h : ∀ x y z, rg ux uy uz x y z → ¬ bad fs A B x y z) : ¬ cx fs A B := by
  intro ⟨vx, vy, vz, x, y, z, g1, g2, g3, g4, g5⟩
  rw [ub_uq g1 h1, ub_uq g2 h2, ub_uq g3 h3] at g4
  exact h x y z g4 g5
def kp (ls : Ls) (q : Cm) : Ls := if q.1 = q.2 ∨ 8 ≤ ls.length ∨ q ∈ ls then ls else ls ++ [q]
def fm (fs : List Fn) (P A : List Int) (fx : Int) : Nat → Int → Option (Int × (Int → Int))
  | 0, _ => none
  | n + 1, i => match mt fs A fx P i b9 with
    | some b => some (i, b)
    | none => fm fs P A fx n (i + 1)
def us1 (fs : List Fn) (v : Int) (P Q T : List Int) : Option (Option (List Int)) := match fm fs P T v T.length 0 with
  | none => none
  | some (i, b) => if (RP fs T i b Q).length ≤ 40 then some (some (RP fs T i b Q)) else some none
def use (fs : List Fn) (v : Int) (N G : Cm) (nt : Nt) : Option Cm × Nt := match us1 fs v N.1 N.2 G.1 with
  | some (some T) => (some (T, G.2), an nt 5 0)
  | some none => (none, nt)
  | none => match us1 fs v N.2 N.1 G.2 with
    | some (some T) => (some (G.1, T), an nt 5 1)
    | some none => (none, nt)
    | none => (some G, nt)
def nm2 (fs : List Fn) (q : Cm) : Option Cm := match nm fs q.1 with
  | none => none
  | some a => match nm fs q.2 with
    | none => none
    | some b => some (a, b)
def sb2 (v c o : Int) (q : Cm) : Cm := (sbx v c o q.1, sbx v c o q.2)
def rpq (fs : List Fn) (N G : Cm) (ls : Ls) : Cm := ((rpl fs ls N.1 1600 G.1).1, (rpl fs ls N.2 1600 G.2).1)
def ntq (fs : List Fn) (N G : Cm) (ls : Ls) (nt : Nt) : Nt := ads 1 (ads 0 nt (rpl fs ls N.1 1600 G.1).2) (rpl fs ls N.2 1600 G.2).2
def car (fs : List Fn) (v : Int) (N G : Cm) (ls : Ls) (nt : Nt) : Option Cm × Nt := match (use fs v N (rpq fs N G ls) (ntq fs N G ls nt)).1 with
  | none => (none, (use fs v N (rpq fs N G ls) (ntq fs N G ls nt)).2)
  | some g => (nm2 fs g, (use fs v N (rpq fs N G ls) (ntq fs N G ls nt)).2)
noncomputable def gue (fs : List Fn) (G : Cm) : Int × Cm := if (gz fs G.1 G.2).1 = -9 ∨ cxi fs (gz fs G.1 G.2).2 = 1 then (-9, G) else gz fs G.1 G.2
noncomputable def nxt (rc : Cm → Ls → Nt → Rs) (fs : List Fn) (L : Int) (G : Cm) (ls : Ls) (nt : Nt) : Rs := if L = 2 then (2, ls, nt, [4]) else rc (gue fs G).2 ls (an nt 6 (gue fs G).1)
noncomputable def cse (rc : Cm → Ls → Nt → Rs) (fs : List Fn) (L : Int) (N : Cm) (v d c : Int) (ls : Ls) (nt : Nt) : Rs := match nm2 fs (sb2 v c (if c = d then 1 else 0) N) with
  | none => (3, ls, an nt 3 c, [])
  | some G => if G.1 = G.2 then (0, ls, an nt 3 c, [])
    else if c = d then (match (car fs v N G ls (an nt 3 c)).1 with
      | none => (3, ls, (car fs v N G ls (an nt 3 c)).2, [])
      | some G2 => if G2.1 = G2.2 then (0, ls, (car fs v N G ls (an nt 3 c)).2, []) else nxt rc fs L G2 ls (car fs v N G ls (an nt 3 c)).2)
    else nxt rc fs L G ls (an nt 3 c)
noncomputable def cas (rc : Cm → Ls → Nt → Rs) (fs : List Fn) (L : Int) (q N : Cm) (v d : Int) : Nat → Int → Ls → Nt → Rs
  | 0, _, ls, nt => (0, kp ls q, an nt 7 L, [])
  | k + 1, c, ls, nt => if (cse rc fs L N v d c ls nt).1 = 3 then cse rc fs L N v d c ls nt
    else if (cse rc fs L N v d c ls nt).1 = 0 then cas rc fs L q N v d k (c + 1) (cse rc fs L N v d c ls nt).2.1 (cse rc fs L N v d c ls nt).2.2.1
    else (2, (cse rc fs L N v d c ls nt).2.1, an (cse rc fs L N v d c ls nt).2.2.1 8 2, 2 :: (cse rc fs L N v d c ls nt).2.2.2)
noncomputable def att (fs : List Fn) : Nat → Int → Cm → Ls → Nt → Rs
  | 0, _, _, ls, nt => (2, ls, nt, [])
  | n + 1, L, q, ls, nt => if cxi fs q = 1 then (1, ls, an (an nt 0 L) 8 1, [1])
    else match nm2 fs q with
    | none => (3, ls, an nt 0 L, [])
    | some N => if N.1 = N.2 then (0, kp ls q, an (an (an nt 0 L) 1 0) 7 L, [])
      else if (sc fs N.1 N.2 3).1 = -9 then (2, ls, an (an nt 0 L) 8 2, [2])
      else cas (att fs n (L + 1)) fs L q N (sc fs N.1 N.2 3).1 (sc fs N.1 N.2 3).2.2 ((sc fs N.1 N.2 3).2.2 + 1).toNat 0 ls (an (an nt 0 L) 2 (10 * (sc fs N.1 N.2 3).2.2 + (sc fs N.1 N.2 3).1))
/-! what holds of it -/
theorem nm2_ok {fs : List Fn} {q G : Cm} {v c o : Int} (ho : okF fs) (hl : fs.length ≤ 6) (hp : okP v c) (hq : okQ fs q) (h : nm2 fs (sb2 v c o q) = some G) : okQ fs G ∧ nm fs (sbx v c o q.1) = some G.1 ∧ nm fs (sbx v c o q.2) = some G.2 := by
  unfold nm2 sb2 at h
  dsimp only at h
  cases h1 : nm fs (sbx v c o q.1) with
  | none => rw [h1] at h; exact absurd h (by simp)
  | some a =>
    rw [h1] at h
    dsimp only at h
    cases h2 : nm fs (sbx v c o q.2) with
    | none => rw [h2] at h; exact absurd h (by simp)
    | some b =>
      rw [h2] at h
      have e := Option.some.inj h
      subst e
      have k1 := okT_sbx (o := o) hl hp hq.1 hq.2.2.1
      have k2 := okT_sbx (o := o) hl hp hq.2.1 hq.2.2.2
      have g1 := nm_ok ho hl k1.1 k1.2 h1
      have g2 := nm_ok ho hl k2.1 k2.2 h2
      exact ⟨⟨g1.1, g2.1, g1.2, g2.2⟩, rfl, rfl⟩
theorem sb2_9 {q : Cm} {c o : Int} : sb2 (-9) c o q = q := by
  unfold sb2 sbx
  rw [if_pos (by decide), if_pos (by decide)]
theorem fm_ok {fs : List Fn} {P A : List Int} {fx : Int} : ∀ (n : Nat) (i j : Int) (b : Int → Int), 0 ≤ i → fm fs P A fx n i = some (j, b) → mt fs A fx P j b9 = some b ∧ i ≤ j ∧ j < i + (n : Int) ∧ okB A b
  | 0, i, j, b, _, h => absurd h (by simp [fm])
  | n + 1, i, j, b, hi, h => by
    unfold fm at h
    cases hm : mt fs A fx P i b9 with
    | some b' =>
      rw [hm] at h
      have e := Option.some.inj h
      have e1 := congrArg Prod.fst e
      have e2 := congrArg Prod.snd e
      dsimp only at e1 e2
      subst e1
      subst e2
      exact ⟨hm, by omega, by omega, mt_ok _ _ _ _ hi b9_ok hm⟩
    | none =>
      rw [hm] at h
      obtain ⟨q1, q2, q3, q4⟩ := fm_ok n (i + 1) j b (by omega) h
      exact ⟨q1, by omega, by omega, q4⟩
theorem us1_ok {fs : List Fn} {v : Int} {P Q T T' : List Int} (ho : okF fs) (hl : fs.length ≤ 6) (hQ : okT fs Q) (hT : okT fs T) (h : us1 fs v P Q T = some (some T')) : okT fs T' ∧ T'.length ≤ 40 := by
  unfold us1 at h
  cases hm : fm fs P T v T.length 0 with
  | none => rw [hm] at h; exact absurd h (by simp)
  | some q =>
    obtain ⟨i, b⟩ := q
    rw [hm] at h
    dsimp only at h
    obtain ⟨q1, q2, q3, q4⟩ := fm_ok _ _ _ _ (by omega) hm
    by_cases g : (RP fs T i b Q).length ≤ 40
    · rw [if_pos g] at h
      have e := Option.some.inj (Option.some.inj h)
      rw [← e]
      exact ⟨okT_RP ho hl hT hQ q4 ⟨q2, by omega⟩, g⟩
    · rw [if_neg g] at h; exact absurd (Option.some.inj h) (by simp)
theorem use_ok {fs : List Fn} {v : Int} {N G g : Cm} {nt : Nt} (ho : okF fs) (hl : fs.length ≤ 6) (hN : okQ fs N) (hG : okQ fs G) (h : (use fs v N G nt).1 = some g) : okQ fs g := by
  unfold use at h
  cases h1 : us1 fs v N.1 N.2 G.1 with
  | some r =>
    rw [h1] at h
    cases r with
    | some T =>
      have e := Option.some.inj h
      subst e
      have := us1_ok ho hl hN.2.1 hG.1 h1
      exact ⟨this.1, hG.2.1, this.2, hG.2.2.2⟩
    | none => exact absurd h (by simp)
  | none =>
    rw [h1] at h
    dsimp only at h
    cases h2 : us1 fs v N.2 N.1 G.2 with
    | some r =>
      rw [h2] at h
      cases r with
      | some T =>
        have e := Option.some.inj h
        subst e
        have := us1_ok ho hl hN.1 hG.2.1 h2
        exact ⟨hG.1, this.1, hG.2.2.1, this.2⟩
      | none => exact absurd h (by simp)
    | none =>
      rw [h2] at h
      have e := Option.some.inj h
      subst e
      exact hG
theorem rpq_ok {fs : List Fn} {N G : Cm} {ls : Ls} (ho : okF fs) (hl : fs.length ≤ 6) (hL : okL fs ls) (hG : okQ fs G) : okQ fs (rpq fs N G ls) := by
  have h1 := rpl_ok (S := N.1) ho hl hL 1600 G.1 hG.1 hG.2.2.1
  have h2 := rpl_ok (S := N.2) ho hl hL 1600 G.2 hG.2.1 hG.2.2.2
  exact ⟨h1.1, h2.1, h1.2, h2.2⟩
theorem car_ok {fs : List Fn} {v : Int} {N G g : Cm} {ls : Ls} {nt : Nt} (ho : okF fs) (hl : fs.length ≤ 6) (hL : okL fs ls) (hN : okQ fs N) (hG : okQ fs G) (h : (car fs v N G ls nt).1 = some g) : okQ fs g := by
  unfold car at h
  cases hu : (use fs v N (rpq fs N G ls) (ntq fs N G ls nt)).1 with
  | none => rw [hu] at h; exact absurd h (by simp)
  | some w =>
    rw [hu] at h
    dsimp only at h
    have hw := use_ok ho hl hN (rpq_ok ho hl hL hG) hu
    rw [← sb2_9 (q := w) (c := 0) (o := 0)] at h
    exact (nm2_ok ho hl (Or.inl rfl) hw h).1
theorem gue_ok {fs : List Fn} {G : Cm} (ho : okF fs) (hl : fs.length ≤ 6) (hG : okQ fs G) : okQ fs (gue fs G).2 := by
  unfold gue
  by_cases g : (gz fs G.1 G.2).1 = -9 ∨ cxi fs (gz fs G.1 G.2).2 = 1
  · rw [if_pos g]; exact hG
  · rw [if_neg g]
    exact gz_ok ho hl hG.1 hG.2.1 hG.2.2.1 hG.2.2.2 (by omega)
theorem kp_ok {fs : List Fn} {ls : Ls} {q : Cm} (hL : okL fs ls) (hq : okQ fs q) : okL fs (kp ls q) := by
  unfold kp
  by_cases g : q.1 = q.2 ∨ 8 ≤ ls.length ∨ q ∈ ls
  · rw [if_pos g]; exact hL
  · rw [if_neg g]
    refine ⟨by rw [List.length_append]; simp; omega, fun w hw => ?_⟩
    rcases List.mem_append.mp hw with y | y
    · exact hL.2 w y
    · rw [List.mem_singleton.mp y]; exact hq
def okR (fs : List Fn) (rc : Cm → Ls → Nt → Rs) : Prop := ∀ q ls nt, okQ fs q → okL fs ls → okL fs (rc q ls nt).2.1 ∧ ((rc q ls nt).1 = 0 ∨ (rc q ls nt).1 = 1 ∨ (rc q ls nt).1 = 2 ∨ (rc q ls nt).1 = 3)
theorem nxt_ok {fs : List Fn} {rc : Cm → Ls → Nt → Rs} {L : Int} {G : Cm} {ls : Ls} {nt : Nt} (ho : okF fs) (hl : fs.length ≤ 6) (hr : okR fs rc) (hL : okL fs ls) (hG : okQ fs G) : okL fs (nxt rc fs L G ls nt).2.1 ∧ ((nxt rc fs L G ls nt).1 = 0 ∨ (nxt rc fs L G ls nt).1 = 1 ∨ (nxt rc fs L G ls nt).1 = 2 ∨ (nxt rc fs L G ls nt).1 = 3) := by
  unfold nxt
  by_cases g : L = 2
  · rw [if_pos g]; exact ⟨hL, Or.inr (Or.inr (Or.inl rfl))⟩
  · rw [if_neg g]; exact hr _ _ _ (gue_ok ho hl hG) hL
theorem cse_ok {fs : List Fn} {rc : Cm → Ls → Nt → Rs} {L v d c : Int} {N : Cm} {ls : Ls} {nt : Nt} (ho : okF fs) (hl : fs.length ≤ 6) (hr : okR fs rc) (hL : okL fs ls) (hN : okQ fs N) (hp : okP v c) : okL fs (cse rc fs L N v d c ls nt).2.1 ∧ ((cse rc fs L N v d c ls nt).1 = 0 ∨ (cse rc fs L N v d c ls nt).1 = 1 ∨ (cse rc fs L N v d c ls nt).1 = 2 ∨ (cse rc fs L N v d c ls nt).1 = 3) := by
  unfold cse
  cases h1 : nm2 fs (sb2 v c (if c = d then 1 else 0) N) with
  | none => exact ⟨hL, Or.inr (Or.inr (Or.inr rfl))⟩
  | some G =>
    have hG := (nm2_ok ho hl hp hN h1).1
    dsimp only
    by_cases g : G.1 = G.2
    · rw [if_pos g]; exact ⟨hL, Or.inl rfl⟩
    · rw [if_neg g]
      by_cases g1 : c = d
      · rw [if_pos g1]
        cases h2 : (car fs v N G ls (an nt 3 c)).1 with
        | none => exact ⟨hL, Or.inr (Or.inr (Or.inr rfl))⟩
        | some G2 =>
          dsimp only
          by_cases g2 : G2.1 = G2.2
          · rw [if_pos g2]; exact ⟨hL, Or.inl rfl⟩
          · rw [if_neg g2]; exact nxt_ok ho hl hr hL (car_ok ho hl hL hN hG h2)
      · rw [if_neg g1]; exact nxt_ok ho hl hr hL hG
theorem cas_ok {fs : List Fn} {rc : Cm → Ls → Nt → Rs} {L v d : Int} {q N : Cm} (ho : okF fs) (hl : fs.length ≤ 6) (hr : okR fs rc) (hq : okQ fs q) (hN : okQ fs N) (hv : 0 ≤ v ∧ v ≤ 2) : ∀ (k : Nat) (c : Int) (ls : Ls) (nt : Nt), okL fs ls → 0 ≤ c → c + (k : Int) ≤ 3 → okL fs (cas rc fs L q N v d k c ls nt).2.1 ∧ ((cas rc fs L q N v d k c ls nt).1 = 0 ∨ (cas rc fs L q N v d k c ls nt).1 = 1 ∨ (cas rc fs L q N v d k c ls nt).1 = 2 ∨ (cas rc fs L q N v d k c ls nt).1 = 3)
  | 0, c, ls, nt, hL, _, _ => ⟨kp_ok hL hq, Or.inl rfl⟩
  | k + 1, c, ls, nt, hL, h0, hk => by
    have h := cse_ok (L := L) (d := d) (c := c) (nt := nt) ho hl hr hL hN (Or.inr ⟨hv.1, hv.2, h0, by omega⟩)
    unfold cas
    by_cases g : (cse rc fs L N v d c ls nt).1 = 3
    · rw [if_pos g]; exact h
    · rw [if_neg g]
      by_cases g1 : (cse rc fs L N v d c ls nt).1 = 0
      · rw [if_pos g1]; exact cas_ok ho hl hr hq hN hv k (c + 1) _ _ h.1 (by omega) (by omega)
      · rw [if_neg g1]; exact ⟨h.1, Or.inr (Or.inr (Or.inl rfl))⟩
theorem sc_d {fs : List Fn} {A B : List Int} (h : (sc fs A B 3).1 ≠ -9) : (0 ≤ (sc fs A B 3).1 ∧ (sc fs A B 3).1 ≤ 2) ∧ ((sc fs A B 3).2.2 = 1 ∨ (sc fs A B 3).2.2 = 2) ∧ (sc fs A B 3).2.2 = cD fs A B (sc fs A B 3).1 ∧ 0 < (sc fs A B 3).2.1 := by
  rcases sc_ok (fs := fs) (A := A) (B := B) 3 with q | q
  · rw [q] at h; exact absurd rfl h
  · refine ⟨⟨q.1, by have := q.2.1; omega⟩, ?_, q.2.2.2.2, q.2.2.1⟩
    rw [q.2.2.2.2]
    have := q.2.2.1
    rw [q.2.2.2.1] at this
    unfold cD dd
    by_cases g : 0 < cN fs A B 2 (sc fs A B 3).1
    · rw [if_pos g]; exact Or.inr rfl
    · rw [if_neg g, if_pos this]; exact Or.inl rfl
theorem att_ok {fs : List Fn} (ho : okF fs) (hl : fs.length ≤ 6) : ∀ (n : Nat) (L : Int), okR fs (att fs n L)
  | 0, L => fun q ls nt _ hL => ⟨hL, Or.inr (Or.inr (Or.inl rfl))⟩
  | n + 1, L => fun q ls nt hq hL => by
    unfold att
    by_cases g : cxi fs q = 1
    · rw [if_pos g]; exact ⟨hL, Or.inr (Or.inl rfl)⟩
    · rw [if_neg g]
      cases h1 : nm2 fs q with
      | none => exact ⟨hL, Or.inr (Or.inr (Or.inr rfl))⟩
      | some N =>
        have hN : okQ fs N := by
          rw [← sb2_9 (q := q) (c := 0) (o := 0)] at h1
          exact (nm2_ok ho hl (Or.inl rfl) hq h1).1
        dsimp only
        by_cases g1 : N.1 = N.2
        · rw [if_pos g1]; exact ⟨kp_ok hL hq, Or.inl rfl⟩
        · rw [if_neg g1]
          by_cases g2 : (sc fs N.1 N.2 3).1 = -9
          · rw [if_pos g2]; exact ⟨hL, Or.inr (Or.inr (Or.inl rfl))⟩
          · rw [if_neg g2]
            obtain ⟨d1, d2, -⟩ := sc_d g2
            exact cas_ok ho hl (att_ok ho hl n (L + 1)) hq hN d1 _ _ _ _ hL (by omega) (by omega)
