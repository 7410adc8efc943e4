theorem s_nextCase {fs : List Fn} {rc : Cm → Ls → Nt → Rs} {ls : Ls} {nt : Nt} {L v c d : Int} {N : Cm} {μ : ZM} {K : Int → ZM → Prop} (ho : okF fs) (hE : EnM μ fs ls nt) (hLs : okL fs ls) (hL : 0 ≤ L ∧ L ≤ 2) (hv : 0 ≤ v ∧ v ≤ 2) (hc : 0 ≤ c ∧ c ≤ d) (hd : d ≤ 2) (h46 : μ 248 46 = L) (h272 : μ 272 L = c) (h273 : μ 273 L = v) (h274 : μ 274 L = d) (hN : S2 μ (6 * L + 4) N) (oN : okQ fs N)
    (k3 : ∀ m, cse rc fs L N v d c ls nt = (3, ls, m, []) → ∀ μ', (∀ a k, ¬ akM L a k → μ' a k = μ a k) → EnM μ' fs ls m → K 3 μ')
    (k0 : ∀ m, cse rc fs L N v d c ls nt = (0, ls, m, []) → ∀ μ', (∀ a k, ¬ akM L a k → μ' a k = μ a k) → EnM μ' fs ls m → μ' 248 46 = L → μ' 272 L = c + 1 → K 5 μ')
    (k2 : ∀ m, L = 2 → cse rc fs L N v d c ls nt = (2, ls, m, [4]) → ∀ μ', (∀ a k, ¬ akM L a k → μ' a k = μ a k) → EnM μ' fs ls (an m 8 2) → μ' 248 46 = L → μ' 248 43 = L → μ' 248 44 = 2 → μ' 248 45 = 1 → K 2 μ')
    (k6 : ∀ q m, L < 2 → okQ fs q → cse rc fs L N v d c ls nt = rc q ls m → ∀ μ', (∀ a k, ¬ akM L a k → μ' a k = μ a k) → EnM μ' fs ls m → S2 μ' (6 * L + 8) q → μ' 248 46 = L + 1 → μ' 272 L = c → K 6 μ') : P_X12_nextCase μ K := by
  have hl := hE.1.2.1
  have lN := okQ_128 oN
  have hp : okP v c := Or.inr ⟨hv.1, hv.2, hc.1, by omega⟩
  unfold P_X12_nextCase
  rw [h46, h272, h274]
  refine ⟨by omega, by omega, ifb (fun _ => ⟨by omega, s_nI hE (fun μ1 f1 e1 => ?_)⟩) (fun g => absurd hc.2 g)⟩
  have n1 : S2 μ1 (6 * L + 4) N := hN.ex lN (fun a k y => f1 a k (by unfold s2c at y; unfold ntm; omega))
  have g46 : μ1 248 46 = L := (f1 _ _ (by unfold ntm; omega)).trans h46
  have g272 : μ1 272 L = c := (f1 _ _ (by unfold ntm; omega)).trans h272
  have g273 : μ1 273 L = v := (f1 _ _ (by unfold ntm; omega)).trans h273
  have g274 : μ1 274 L = d := (f1 _ _ (by unfold ntm; omega)).trans h274
  refine s_takesCase (w := 0) hL (by omega) g46 g273 g272 g274 hv (by omega) (by rw [show 6 * L + 4 + 0 = 6 * L + 4 by omega]; exact n1.1) oN.2.2.1 (fun μ2 f2 t2 => ?_)
  have j : ∀ a k, a ≠ 249 → a ≠ 250 → μ2 a k = μ1 a k := fun a k y1 y2 => f2 a k (by omega) (by omega)
  refine s_takesCase (w := 1) hL (by omega) ((j _ _ (by omega) (by omega)).trans g46) ((j _ _ (by omega) (by omega)).trans g273) ((j _ _ (by omega) (by omega)).trans g272) ((j _ _ (by omega) (by omega)).trans g274) hv (by omega) (n1.2.ex (f2 _ _ (by omega) (by omega)) (fun k p1 p2 => f2 _ _ (by omega) (by omega))) oN.2.2.2 (fun μ3 f3 t3 => ?_)
  generalize ho2 : (if c = d then (1 : Int) else 0) = o at *
  have k1 := okT_sbx (o := o) hl hp oN.1 oN.2.2.1
  have k2' := okT_sbx (o := o) hl hp oN.2.1 oN.2.2.2
  have c3 : μ3 248 46 = L := (f3 _ _ (by omega) (by omega)).trans ((j _ _ (by omega) (by omega)).trans g46)
  refine s_slot c3 (by omega) (by omega) (by omega) (s_copies (T := sbx v c o N.1) (by omega) (by omega) (by omega) (t2.ex (f3 _ _ (by omega) (by omega)) (fun k p1 p2 => f3 _ _ (by omega) (by omega))) (by omega) (fun μ4 f4 t4 => ?_))
  refine s_slot ((f4 _ _ (by omega) (by omega)).trans c3) (by omega) (by omega) (by omega) (s_copies (T := sbx v c o N.2) (by omega) (by omega) (by omega) (t3.ex (f4 _ _ (by omega) (by omega)) (fun k p1 p2 => f4 _ _ (by omega) (by omega))) (by omega) (fun μ5 f5 t5 => ?_))
  have fr5 : ∀ a k, ¬ scM a k → ¬ ntm a k → ¬ s2c (6 * L + 6) a k → μ5 a k = μ a k := fun a k y1 y2 y3 => by
    rw [f5 a k (by unfold s2c at y3; omega) (by unfold s2c at y3; omega), f4 a k (by unfold s2c at y3; omega) (by unfold s2c at y3; omega), f3 a k (by unfold scM at y1; omega) (by unfold scM at y1; omega), f2 a k (by unfold scM at y1; omega) (by unfold scM at y1; omega)]
    exact f1 a k y2
  have e5 : EnM μ5 fs ls (an nt 3 c) := e1.lo (fun a k y => by
    rw [f5 a k (by unfold loM at y; omega) (by unfold loM at y; omega), f4 a k (by unfold loM at y; omega) (by unfold loM at y; omega), f3 a k (by unfold loM scM at y; omega) (by unfold loM scM at y; omega), f2 a k (by unfold loM scM at y; omega) (by unfold loM scM at y; omega)])
  have gg5 : S2 μ5 (6 * L + 6) (sb2 v c o N) := by
    rw [show 6 * L + 6 + 0 = 6 * L + 6 by omega] at t4
    exact ⟨t4.ex (f5 _ _ (by omega) (by omega)) (fun k p1 p2 => f5 _ _ (by omega) (by omega)), t5⟩
  have c5 : μ5 248 46 = L := (fr5 _ _ (by unfold scM; omega) (by unfold ntm; omega) (by unfold s2c; omega)).trans h46
  have toK : ∀ a k, ¬ akM L a k → ¬ scM a k ∧ ¬ ntm a k ∧ ¬ s2c (6 * L + 6) a k := fun a k y => ⟨fun z => y (Or.inl z), fun z => y (Or.inr (Or.inl z)), by unfold akM at y; unfold s2c; omega⟩
  have ecse : cse rc fs L N v d c ls nt = match nm2 fs (sb2 v c o N) with
    | none => (3, ls, an nt 3 c, [])
    | some G => if G.1 = G.2 then (0, ls, an nt 3 c, [])
      else if c = d then (match (car fs v N G ls (an nt 3 c)).1 with
        | none => (3, ls, (car fs v N G ls (an nt 3 c)).2, [])
        | some G2 => if G2.1 = G2.2 then (0, ls, (car fs v N G ls (an nt 3 c)).2, []) else nxt rc fs L G2 ls (car fs v N G ls (an nt 3 c)).2)
      else nxt rc fs L G ls (an nt 3 c) := by rw [← ho2]; rfl
  -- the case is done
  have done : ∀ μ6 m, (∀ a k, ¬ scM a k → ¬ ntm a k → ¬ s2c (6 * L + 6) a k → μ6 a k = μ a k) → EnM μ6 fs ls m → cse rc fs L N v d c ls nt = (0, ls, m, []) → P_X12_nextCase_157 1 μ6 K := by
    intro μ6 m f6 e6 hh
    unfold P_X12_nextCase_157
    rw [if_neg (by decide)]
    have c6 : μ6 248 46 = L := (f6 _ _ (by unfold scM; omega) (by unfold ntm; omega) (by unfold s2c; omega)).trans h46
    have i6 : μ6 272 L = c := (f6 _ _ (by unfold scM; omega) (by unfold ntm; omega) (by unfold s2c; omega)).trans h272
    rw [c6, i6]
    refine ⟨by omega, ⟨by omega, by omega⟩, by omega, k0 m hh _ (fun a k y => ?_) (e6.lo (fun a k y => zu_f (by unfold loM at y; omega))) ((zu_n (by decide)).trans c6) zu_s⟩
    obtain ⟨y1, y2, y3⟩ := toK a k y
    rw [zu_f (by unfold akM at y; omega)]
    exact f6 a k y1 y2 y3
  -- stuck, or a guess
  have next : ∀ μ6 m G, (∀ a k, ¬ scM a k → ¬ ntm a k → ¬ s2c (6 * L + 6) a k → μ6 a k = μ a k) → EnM μ6 fs ls m → S2 μ6 (6 * L + 6) G → okQ fs G → cse rc fs L N v d c ls nt = nxt rc fs L G ls m → P_X12_nextCase_157 0 μ6 K := by
    intro μ6 m G f6 e6 g6 oG hh
    unfold nxt at hh
    unfold P_X12_nextCase_157
    rw [if_pos rfl]
    have c6 : μ6 248 46 = L := (f6 _ _ (by unfold scM; omega) (by unfold ntm; omega) (by unfold s2c; omega)).trans h46
    have i6 : μ6 272 L = c := (f6 _ _ (by unfold scM; omega) (by unfold ntm; omega) (by unfold s2c; omega)).trans h272
    rw [c6]
    refine ifb (fun g => ⟨Or.inr rfl, ?_⟩) (fun g => ?_)
    · rw [if_pos g] at hh
      show P_X12_fails 2 1 (z_upd μ6 248 45 1) _
      refine s_fails (ls := ls) (nt := m) (fs := fs) (e6.lo (fun a k y => zu_f (by unfold loM at y; omega))) (fun μ7 f7 e7 _ w7 => ?_)
      obtain ⟨w1, w2⟩ := w7 (by decide)
      refine k2 m g hh μ7 (fun a k y => ?_) e7 ?_ ?_ w2 ?_
      · obtain ⟨y1, y2, y3⟩ := toK a k y
        rw [f7 a k y2 (by unfold akM at y; omega), zu_f (by unfold akM at y; omega)]
        exact f6 a k y1 y2 y3
      · rw [f7 _ _ (by unfold ntm; omega) (by omega), zu_k (by decide)]; exact c6
      · rw [w1, zu_k (by decide)]; exact c6
      · rw [f7 _ _ (by unfold ntm; omega) (by omega), zu_s]
    · rw [if_neg g] at hh
      refine s_guesses ho e6 (by omega) c6 g6 oG (fun μ7 f7 e7 q7 c7 => k6 _ _ (by omega) (gue_ok ho hl oG) hh μ7 (fun a k y => ?_) e7 q7 c7 ?_)
      · obtain ⟨y1, y2, y3⟩ := toK a k y
        rw [f7 a k y1 y2 (by unfold akM at y; unfold s2c; omega) (by unfold akM at y; omega)]
        exact f6 a k y1 y2 y3
      · rw [f7 _ _ (by unfold scM; omega) (by unfold ntm; omega) (by unfold s2c; omega) (by omega)]; exact i6
  refine s_normalGoal ho e5.1 hL c5 gg5 k1.1 k2'.1 k1.2 k2'.2 (fun hn μ6 f6 => if0 ?_) (fun G hn μ6 f6 g6 => if1 ?_)
  · rw [hn] at ecse
    refine k3 _ ecse μ6 (fun a k y => ?_) (e5.lo (fun a k y => f6 a k (fun z => y (Or.inl z)) (by unfold loM at y; unfold s2c; omega)))
    obtain ⟨y1, y2, y3⟩ := toK a k y
    exact (f6 a k y1 y3).trans (fr5 a k y1 y2 y3)
  · rw [hn] at ecse
    dsimp only at ecse
    have oG := (nm2_ok ho hl hp oN hn).1
    have lG := okQ_128 oG
    have e6 : EnM μ6 fs ls (an nt 3 c) := e5.lo (fun a k y => f6 a k (fun z => y (Or.inl z)) (by unfold loM at y; unfold s2c; omega))
    have fr6 : ∀ a k, ¬ scM a k → ¬ ntm a k → ¬ s2c (6 * L + 6) a k → μ6 a k = μ a k := fun a k y1 y2 y3 => (f6 a k y1 y3).trans (fr5 a k y1 y2 y3)
    have c6 : μ6 248 46 = L := (fr6 _ _ (by unfold scM; omega) (by unfold ntm; omega) (by unfold s2c; omega)).trans h46
    have i6 : μ6 272 L = c := (fr6 _ _ (by unfold scM; omega) (by unfold ntm; omega) (by unfold s2c; omega)).trans h272
    have v6 : μ6 273 L = v := (fr6 _ _ (by unfold scM; omega) (by unfold ntm; omega) (by unfold s2c; omega)).trans h273
    have d6 : μ6 274 L = d := (fr6 _ _ (by unfold scM; omega) (by unfold ntm; omega) (by unfold s2c; omega)).trans h274
    have n6 : S2 μ6 (6 * L + 4) N := hN.ex lN (fun a k y => fr6 a k (by unfold s2c at y; unfold scM; omega) (by unfold s2c at y; unfold ntm; omega) (by unfold s2c at y ⊢; omega))
    refine s_slot c6 (by omega) (by omega) (by omega) (s_slot c6 (by omega) (by omega) (by omega) ?_)
    rw [show 6 * L + 6 + 0 = 6 * L + 6 by omega]
    refine s_areSame (by omega) (by omega) g6.1 g6.2 lG.1 lG.2 (fun g => if1 ?_) (fun g => if0 ?_)
    · rw [if_pos g] at ecse
      exact done μ6 _ fr6 e6 ecse
    · rw [if_neg g] at ecse
      rw [c6, i6, d6]
      refine ⟨by omega, by omega, ifb (fun gd => ?_) (fun gd => ?_)⟩
      · rw [if_pos gd] at ecse
        refine s_carries ho e6 hLs hL hv c6 v6 n6 g6 oN oG (fun hn2 μ7 f7 e7 => if0 ?_) (fun G2 hn2 μ7 f7 e7 g7 => if1 ?_)
        · rw [hn2] at ecse
          refine k3 _ ecse μ7 (fun a k y => ?_) e7
          obtain ⟨y1, y2, y3⟩ := toK a k y
          exact (f7 a k y1 y2 y3).trans (fr6 a k y1 y2 y3)
        · rw [hn2] at ecse
          dsimp only at ecse
          have oG2 := car_ok ho hl hLs oN oG hn2
          have lG2 := okQ_128 oG2
          have fr7 : ∀ a k, ¬ scM a k → ¬ ntm a k → ¬ s2c (6 * L + 6) a k → μ7 a k = μ a k := fun a k y1 y2 y3 => (f7 a k y1 y2 y3).trans (fr6 a k y1 y2 y3)
          have c7 : μ7 248 46 = L := (fr7 _ _ (by unfold scM; omega) (by unfold ntm; omega) (by unfold s2c; omega)).trans h46
          refine s_slot c7 (by omega) (by omega) (by omega) (s_slot c7 (by omega) (by omega) (by omega) ?_)
          rw [show 6 * L + 6 + 0 = 6 * L + 6 by omega]
          refine s_areSame (by omega) (by omega) g7.1 g7.2 lG2.1 lG2.2 (fun g2 => ?_) (fun g2 => ?_)
          · rw [if_pos g2] at ecse
            exact done μ7 _ fr7 e7 ecse
          · rw [if_neg g2] at ecse
            exact next μ7 _ G2 fr7 e7 g7 oG2 ecse
      · rw [if_neg gd] at ecse
        exact next μ6 _ G fr6 e6 g6 oG ecse
