def FP (K : Int → ZM → Prop) (G58 : Int → Int → ZM → Prop) (x1 x2 : Int) (μ : ZM) : Prop := if x2 = 0 then (z_wr (z_upd μ 248 42 x1) (fun μ11 => K x1 μ11)) else (if x1 = 5 then (P_X12_nextCase μ (fun r13 μ12 => P_X12_prove_147 G58 r13 x2 μ12 K)) else (if x1 = 6 then (P_X12_begins μ (fun r15 μ14 => P_X12_prove_147 G58 r15 x2 μ14 K)) else (if μ 248 46 ≤ 0 then (P_X12_prove_147 G58 x1 0 μ K) else ((zin ((μ 248 46) - 1) ∧ z_wr (z_upd μ 248 46 ((μ 248 46) - 1)) (fun μ16 => (((0 : Int) ≤ μ16 248 46 ∧ μ16 248 46 < 3) ∧ if x1 = 0 then (P_X12_prove_125 G58 x1 x2 (μ16 248 46) (μ16 272 (μ16 248 46)) 1 μ16 K) else (P_X12_prove_125 G58 x1 x2 (μ16 248 46) (μ16 272 (μ16 248 46)) 0 μ16 K))))))))
theorem FP_58 {x1 x2 : Int} {μ : ZM} {K : Int → ZM → Prop} (h : ∀ G, (∀ y1 y2 μ', FP K G y1 y2 μ' → G y1 y2 μ') → G x1 x2 μ) : P_X12_prove_58 x1 x2 μ K := h
theorem m_beg {fs : List Fn} {n : Nat} {ls : Ls} {nt : Nt} {L : Int} {q : Cm} {μ : ZM} {C : Int → ZM → Prop} (ho : okF fs) (hE : EnM μ fs ls nt) (hLs : okL fs ls) (hL : 0 ≤ L ∧ L ≤ 2) (h46 : μ 248 46 = L) (hQ : S2 μ (6 * L + 2) q) (oq : okQ fs q)
    (hf : ∀ μ', (∀ a k, ¬ atM L a k → μ' a k = μ a k) → EnM μ' fs (att fs (n + 1) L q ls nt).2.1 (att fs (n + 1) L q ls nt).2.2.1 → ((att fs (n + 1) L q ls nt).1 ≠ 3 → μ' 248 46 = L) → cwM μ' L (att fs (n + 1) L q ls nt) → C (att fs (n + 1) L q ls nt).1 μ')
    (h5 : ∀ N v d m μ', att fs (n + 1) L q ls nt = cas (att fs n (L + 1)) fs L q N v d (d + 1).toNat 0 ls m → okQ fs N → 0 ≤ v ∧ v ≤ 2 → d = 1 ∨ d = 2 → (∀ a k, ¬ atM L a k → μ' a k = μ a k) → EnM μ' fs ls m → μ' 248 46 = L → S2 μ' (6 * L + 4) N → μ' 273 L = v → μ' 274 L = d → μ' 272 L = 0 → C 5 μ') : P_X12_begins μ C := by
  have ea : att fs (n + 1) L q ls nt = if cxi fs q = 1 then (1, ls, an (an nt 0 L) 8 1, [1])
    else match nm2 fs q with
    | none => (3, ls, an nt 0 L, [])
    | some N => if N.1 = N.2 then (0, kp ls q, an (an (an nt 0 L) 1 0) 7 L, [])
      else if (sc fs N.1 N.2 3).1 = -9 then (2, ls, an (an nt 0 L) 8 2, [2])
      else cas (att fs n (L + 1)) fs L q N (sc fs N.1 N.2 3).1 (sc fs N.1 N.2 3).2.2 ((sc fs N.1 N.2 3).2.2 + 1).toNat 0 ls (an (an nt 0 L) 2 (10 * (sc fs N.1 N.2 3).2.2 + (sc fs N.1 N.2 3).1)) := rfl
  generalize att fs (n + 1) L q ls nt = R at *
  refine s_begins ho hE hLs hL h46 hQ oq (fun hx μ' f e c y1 y2 y3 => ?_) (fun hx hn μ' f e => ?_) (fun hx N hn g μ' f e c => ?_) (fun hx N hn g g1 μ' f e c y1 y2 y3 => ?_) (fun hx N hn g g1 oN μ' f e c sN y1 y2 y3 => ?_)
  · rw [if_pos hx] at ea
    subst ea
    refine hf μ' f e (fun _ => c) (fun _ => ⟨by omega, by omega, ?_⟩)
    rw [y1, y2, y3, show (L - L).toNat = 0 by omega]; rfl
  · rw [if_neg hx, hn] at ea
    subst ea
    refine hf μ' f e (fun y => absurd rfl y) (fun y => ?_)
    rcases y with y | y
    · exact absurd (show (3 : Int) = 1 from y) (by decide)
    · exact absurd (show (3 : Int) = 2 from y) (by decide)
  · rw [if_neg hx, hn] at ea
    dsimp only at ea
    rw [if_pos g] at ea
    subst ea
    refine hf μ' f e (fun _ => c) (fun y => ?_)
    rcases y with y | y
    · exact absurd (show (0 : Int) = 1 from y) (by decide)
    · exact absurd (show (0 : Int) = 2 from y) (by decide)
  · rw [if_neg hx, hn] at ea
    dsimp only at ea
    rw [if_neg g, if_pos g1] at ea
    subst ea
    refine hf μ' f e (fun _ => c) (fun _ => ⟨by omega, by omega, ?_⟩)
    rw [y1, y2, y3, show (L - L).toNat = 0 by omega]; rfl
  · rw [if_neg hx, hn] at ea
    dsimp only at ea
    rw [if_neg g, if_neg g1] at ea
    obtain ⟨d1, d2, -⟩ := sc_d g1
    exact h5 N _ _ _ μ' ea oN d1 d2 f e c sN y1 y2 y3
def SpM (fs : List Fn) (G : Int → Int → ZM → Prop) (rc : Cm → Ls → Nt → Rs) (L : Int) : Prop := ∀ (μ : ZM) (q : Cm) (ls : Ls) (nt : Nt), EnM μ fs ls nt → okL fs ls → μ 248 46 = L → S2 μ (6 * L + 2) q → okQ fs q → (∀ μ', (∀ a k, ¬ atM L a k → μ' a k = μ a k) → EnM μ' fs (rc q ls nt).2.1 (rc q ls nt).2.2.1 → ((rc q ls nt).1 ≠ 3 → μ' 248 46 = L) → cwM μ' L (rc q ls nt) → G (rc q ls nt).1 (if (rc q ls nt).1 = 3 then 0 else 1) μ') → G 6 1 μ
theorem p147 {G : Int → Int → ZM → Prop} {x : Int} {μ : ZM} {K : Int → ZM → Prop} (h : G x (if x = 3 then 0 else 1) μ) : P_X12_prove_147 G x 1 μ K := by
  refine ifb (fun g => absurd g (by decide)) (fun _ => ifb (fun g => ?_) (fun g => ?_))
  · rw [if_pos g] at h; exact h
  · rw [if_neg g] at h; exact h
theorem akM_t {L a k : Int} (h : akM L a k) : atM L a k := by
  unfold akM at h
  unfold atM
  rcases h with h | h | h | h
  · exact Or.inl h
  · exact Or.inr (Or.inl h)
  · exact Or.inr (Or.inr (Or.inl h))
  · exact Or.inr (Or.inr (Or.inr (by omega)))
theorem atM_s {L a k : Int} (h : atM (L + 1) a k) : akM L a k := by
  unfold atM at h
  unfold akM
  rcases h with h | h | h | h
  · exact Or.inl h
  · exact Or.inr (Or.inl h)
  · exact Or.inr (Or.inr (Or.inl h))
  · exact Or.inr (Or.inr (Or.inr (by omega)))
theorem rep_c {n : Nat} {X : List Int} : (2 : Int) :: (List.replicate n 2 ++ X) = List.replicate (n + 1) 2 ++ X := by
  rw [List.replicate_succ, List.cons_append]
theorem m_cases {fs : List Fn} {K : Int → ZM → Prop} {G : Int → Int → ZM → Prop} {rc : Cm → Ls → Nt → Rs} {L v d : Int} {q N : Cm} {μ0 : ZM} {R : Rs} (ho : okF fs) (hl : fs.length ≤ 6) (hcl : ∀ y1 y2 μ', FP K G y1 y2 μ' → G y1 y2 μ') (hok : okR fs rc) (hr : L < 2 → SpM fs G rc (L + 1)) (hL : 0 ≤ L ∧ L ≤ 2) (hv : 0 ≤ v ∧ v ≤ 2) (hd : d = 1 ∨ d = 2) (oq : okQ fs q) (oN : okQ fs N) (hf : ∀ μ', (∀ a k, ¬ atM L a k → μ' a k = μ0 a k) → EnM μ' fs R.2.1 R.2.2.1 → (R.1 ≠ 3 → μ' 248 46 = L) → cwM μ' L R → G R.1 (if R.1 = 3 then 0 else 1) μ') : ∀ (k : Nat) (c : Int) (ls : Ls) (nt : Nt) (μ : ZM), c + (k : Int) = d + 1 → 0 ≤ c → EnM μ fs ls nt → okL fs ls → μ 248 46 = L → μ 272 L = c → μ 273 L = v → μ 274 L = d → S2 μ (6 * L + 2) q → S2 μ (6 * L + 4) N → (∀ a k, ¬ atM L a k → μ a k = μ0 a k) → cas rc fs L q N v d k c ls nt = R → G 5 1 μ := by
  intro k
  have lq := okQ_128 oq
  have lN := okQ_128 oN
  induction k with
  | zero =>
    intro c ls nt μ hk h0 hE hLs h46 h272 h273 h274 hQ hN fr hR
    refine hcl _ _ _ ?_
    unfold FP
    rw [if_neg (by decide), if_pos rfl]
    unfold P_X12_nextCase
    rw [h46, h272, h274]
    refine ⟨by omega, by omega, ifb (fun g => absurd g (by omega)) (fun _ => s_proves hE hLs hL h46 hQ oq (fun μ1 f1 e1 => p147 ?_))⟩
    have hR' : R = (0, kp ls q, an nt 7 L, []) := hR.symm
    rw [hR'] at hf
    refine hf μ1 (fun a k y => (f1 a k (fun z => y (Or.inr (Or.inl z))) (fun z => y (Or.inr (Or.inr (Or.inl z))))).trans (fr a k y)) e1 (fun _ => (f1 _ _ (by unfold ntm; omega) (by unfold lmc; omega)).trans h46) (fun y => ?_)
    rcases y with y | y
    · exact absurd (show (0 : Int) = 1 from y) (by decide)
    · exact absurd (show (0 : Int) = 2 from y) (by decide)
  | succ k ih =>
    intro c ls nt μ hk h0 hE hLs h46 h272 h273 h274 hQ hN fr hR
    have okc := cse_ok (L := L) (d := d) (c := c) (nt := nt) ho hl hok hLs oN (Or.inr ⟨hv.1, hv.2, h0, by omega⟩)
    unfold cas at hR
    refine hcl _ _ _ ?_
    unfold FP
    rw [if_neg (by decide), if_pos rfl]
    have keep : ∀ μ1 : ZM, (∀ a k, ¬ akM L a k → μ1 a k = μ a k) → μ1 273 L = v ∧ μ1 274 L = d ∧ S2 μ1 (6 * L + 2) q ∧ S2 μ1 (6 * L + 4) N ∧ ∀ a k, ¬ atM L a k → μ1 a k = μ0 a k := by
      intro μ1 f1
      refine ⟨(f1 _ _ (by unfold akM scM ntm lmc; omega)).trans h273, (f1 _ _ (by unfold akM scM ntm lmc; omega)).trans h274, hQ.ex lq (fun a k y => f1 a k (by unfold s2c at y; unfold akM scM ntm lmc; omega)), hN.ex lN (fun a k y => f1 a k (by unfold s2c at y; unfold akM scM ntm lmc; omega)), fun a k y => (f1 a k (fun z => y (akM_t z))).trans (fr a k y)⟩
    refine s_nextCase (rc := rc) ho hE hLs hL hv ⟨h0, by omega⟩ (by omega) h46 h272 h273 h274 hN oN (fun m hc μ1 f1 e1 => p147 ?_) (fun m hc μ1 f1 e1 w1 w2 => p147 ?_) (fun m hL2 hc μ1 f1 e1 w1 w2 w3 w4 => p147 ?_) (fun q' m hL2 oq' hc μ1 f1 e1 s1 w1 w2 => p147 ?_)
    · rw [hc] at hR
      rw [if_pos rfl] at hR
      subst hR
      refine hf μ1 (keep μ1 f1).2.2.2.2 e1 (fun y => absurd rfl y) (fun y => ?_)
      rcases y with y | y
      · exact absurd (show (3 : Int) = 1 from y) (by decide)
      · exact absurd (show (3 : Int) = 2 from y) (by decide)
    · rw [hc] at hR
      rw [if_neg (show ¬ (0 : Int) = 3 by decide), if_pos (show (0 : Int) = 0 from rfl)] at hR
      obtain ⟨z1, z2, z3, z4, z5⟩ := keep μ1 f1
      exact ih (c + 1) ls m μ1 (by omega) (by omega) e1 hLs w1 w2 z1 z2 z3 z4 z5 hR
    · rw [hc] at hR
      rw [if_neg (show ¬ (2 : Int) = 3 by decide), if_neg (show ¬ (2 : Int) = 0 by decide)] at hR
      subst hR
      refine hf μ1 (keep μ1 f1).2.2.2.2 e1 (fun _ => w1) (fun _ => ⟨by omega, by omega, ?_⟩)
      rw [w2, w3, w4, show (L - L).toNat = 0 by omega]; rfl
    · rw [hc] at hR okc
      generalize hr2 : rc q' ls m = r2 at *
      have s1' : S2 μ1 (6 * (L + 1) + 2) q' := by rw [show 6 * (L + 1) + 2 = 6 * L + 8 by omega]; exact s1
      show G 6 1 μ1
      refine hr hL2 μ1 q' ls m e1 hLs w1 s1' oq' (fun μ2 f2 e2 c2 k2 => ?_)
      rw [hr2] at e2 c2 k2 ⊢
      have f2' : ∀ a k, ¬ akM L a k → μ2 a k = μ a k := fun a k y => (f2 a k (fun z => y (atM_s z))).trans (f1 a k y)
      by_cases g3 : r2.1 = 3
      · rw [if_pos g3] at hR
        subst hR
        exact hf μ2 (keep μ2 f2').2.2.2.2 e2 (fun y => absurd g3 y) (fun y => by omega)
      · rw [if_neg g3] at hR ⊢
        have c2' := c2 g3
        refine hcl _ _ _ ?_
        unfold FP
        rw [if_neg (by decide), if_neg (by omega), if_neg (by omega), c2', if_neg (by omega), show L + 1 - 1 = L by omega]
        refine ⟨⟨by omega, by omega⟩, ?_⟩
        simp only [z_wr]
        have y46 : z_upd μ2 248 46 L 248 46 = L := zu_s
        have y272 : z_upd μ2 248 46 L 272 L = c := (zu_n (by decide)).trans ((f2 _ _ (by unfold atM scM ntm lmc; omega)).trans w2)
        have e3 : EnM (z_upd μ2 248 46 L) fs r2.2.1 r2.2.2.1 := e2.lo (fun a k y => zu_f (by unfold loM at y; omega))
        have f3 : ∀ a k, ¬ akM L a k → z_upd μ2 248 46 L a k = μ a k := fun a k y => (zu_f (by unfold akM at y; omega)).trans (f2' a k y)
        have k3 : ∀ x, x = 43 ∨ x = 44 ∨ x = 45 → z_upd μ2 248 46 L 248 x = μ2 248 x := fun x hx => zu_k (by omega)
        generalize z_upd μ2 248 46 L = μ3 at *
        rw [y46, y272]
        refine ⟨by omega, ifb (fun g0 => ?_) (fun g0 => ?_)⟩
        · rw [if_pos g0] at hR
          refine ⟨⟨by omega, by omega⟩, by omega, ?_⟩
          simp only [z_wr]
          rw [if_pos g0]
          show P_X12_prove_147 G 5 1 _ K
          refine p147 ?_
          have f4 : ∀ a k, ¬ akM L a k → z_upd μ3 272 L (c + 1) a k = μ a k := fun a k y => (zu_f (by unfold akM at y; omega)).trans (f3 a k y)
          obtain ⟨z1, z2, z3, z4, z5⟩ := keep _ f4
          exact ih (c + 1) r2.2.1 r2.2.2.1 _ (by omega) (by omega) (e3.lo (fun a k y => zu_f (by unfold loM at y; omega))) okc.1 ((zu_n (by decide)).trans y46) zu_s z1 z2 z3 z4 z5 hR
        · rw [if_neg g0] at hR
          refine ⟨⟨by omega, by omega⟩, by omega, ?_⟩
          simp only [z_wr]
          rw [if_neg g0]
          have f4 : ∀ a k, ¬ akM L a k → z_upd μ3 272 L (c + 0) a k = μ a k := fun a k y => (zu_f (by unfold akM at y; omega)).trans (f3 a k y)
          refine s_fails (fs := fs) (ls := r2.2.1) (nt := r2.2.2.1) (e3.lo (fun a k y => zu_f (by unfold loM at y; omega))) (fun μ5 f5 e5 w5 _ => ?_)
          show P_X12_prove_147 G 2 1 μ5 K
          refine p147 ?_
          subst hR
          obtain ⟨v1, v2⟩ := w5 rfl
          have hk := k2 (by omega)
          have y43 : μ5 248 43 = μ2 248 43 := by rw [v1, zu_n (by decide)]; exact k3 43 (by omega)
          have y44 : μ5 248 44 = μ2 248 44 := by rw [v2, zu_n (by decide)]; exact k3 44 (by omega)
          have y45 : μ5 248 45 = μ2 248 45 := by rw [f5 _ _ (by unfold ntm; omega) (by omega), zu_n (by decide)]; exact k3 45 (by omega)
          have f5' : ∀ a k, ¬ akM L a k → μ5 a k = μ a k := fun a k y => (f5 a k (fun z => y (Or.inr (Or.inl z))) (by unfold akM at y; omega)).trans (f4 a k y)
          refine hf μ5 (keep μ5 f5').2.2.2.2 e5 (fun _ => ?_) (fun _ => ?_)
          · rw [f5 _ _ (by unfold ntm; omega) (by omega), zu_n (by decide)]; exact y46
          · rw [y43, y44, y45]
            refine ⟨by omega, hk.2.1, ?_⟩
            show 2 :: r2.2.2.2 = _
            rw [hk.2.2, List.append_assoc, rep_c, List.append_assoc, show (μ2 248 43 - (L + 1)).toNat + 1 = (μ2 248 43 - L).toNat by omega]
theorem m_att {fs : List Fn} {K : Int → ZM → Prop} {G : Int → Int → ZM → Prop} (ho : okF fs) (hl : fs.length ≤ 6) (hcl : ∀ y1 y2 μ', FP K G y1 y2 μ' → G y1 y2 μ') : ∀ (n : Nat) (L : Int), 0 ≤ L → L + (n : Int) = 3 → n ≠ 0 → SpM fs G (att fs n L) L
  | 0, _, _, _, h => absurd rfl h
  | n + 1, L, h0, h3, _ => by
    intro μ q ls nt hE hLs h46 hQ oq hf
    have hL : 0 ≤ L ∧ L ≤ 2 := ⟨h0, by omega⟩
    have hrec : L < 2 → SpM fs G (att fs n (L + 1)) (L + 1) := fun y => m_att ho hl hcl n (L + 1) (by omega) (by omega) (by omega)
    refine hcl _ _ _ ?_
    unfold FP
    rw [if_neg (by decide), if_neg (by decide), if_pos rfl]
    refine m_beg (n := n) ho hE hLs hL h46 hQ oq (fun μ' f e c w => p147 (hf μ' f e c w)) (fun N v d m μ' hR oN hv hd f e c sN y1 y2 y3 => p147 ?_)
    refine m_cases (K := K) (rc := att fs n (L + 1)) (μ0 := μ) (R := att fs (n + 1) L q ls nt) ho hl hcl (att_ok ho hl n (L + 1)) hrec hL hv hd oq oN hf (d + 1).toNat 0 ls m μ' (by omega) (by omega) e hLs c y3 y1 y2 (hQ.ex (okQ_128 oq) (fun a k y => f a k (by unfold s2c at y; unfold atM scM ntm lmc; omega))) sN f hR.symm
