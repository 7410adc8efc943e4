theorem cse_len {fs : List Fn} {rc : Cm → Ls → Nt → Rs} {L v d c : Int} {N : Cm} {ls : Ls} {nt : Nt} {b : Nat} (hr : ∀ q ls nt, (rc q ls nt).2.2.2.length ≤ b) (hb : 1 ≤ b) : (cse rc fs L N v d c ls nt).2.2.2.length ≤ b := by
  have nx : ∀ G m, (nxt rc fs L G ls m).2.2.2.length ≤ b := by
    intro G m
    unfold nxt
    by_cases g : L = 2
    · rw [if_pos g]; exact hb
    · rw [if_neg g]; exact hr _ _ _
  unfold cse
  cases nm2 fs (sb2 v c (if c = d then 1 else 0) N) with
  | none => exact Nat.zero_le _
  | some G =>
    dsimp only
    by_cases g : G.1 = G.2
    · rw [if_pos g]; exact Nat.zero_le _
    · rw [if_neg g]
      by_cases g1 : c = d
      · rw [if_pos g1]
        cases (car fs v N G ls (an nt 3 c)).1 with
        | none => exact Nat.zero_le _
        | some G2 =>
          dsimp only
          by_cases g2 : G2.1 = G2.2
          · rw [if_pos g2]; exact Nat.zero_le _
          · rw [if_neg g2]; exact nx _ _
      · rw [if_neg g1]; exact nx _ _
theorem cas_len {fs : List Fn} {rc : Cm → Ls → Nt → Rs} {L v d : Int} {q N : Cm} {b : Nat} (hr : ∀ q ls nt, (rc q ls nt).2.2.2.length ≤ b) (hb : 1 ≤ b) : ∀ (k : Nat) (c : Int) (ls : Ls) (nt : Nt), (cas rc fs L q N v d k c ls nt).2.2.2.length ≤ b + 1
  | 0, _, _, _ => Nat.zero_le _
  | k + 1, c, ls, nt => by
    have h := cse_len (fs := fs) (L := L) (v := v) (d := d) (c := c) (N := N) (ls := ls) (nt := nt) hr hb
    unfold cas
    by_cases g : (cse rc fs L N v d c ls nt).1 = 3
    · rw [if_pos g]; omega
    · rw [if_neg g]
      by_cases g1 : (cse rc fs L N v d c ls nt).1 = 0
      · rw [if_pos g1]; exact cas_len hr hb k _ _ _
      · rw [if_neg g1]
        show (2 :: (cse rc fs L N v d c ls nt).2.2.2).length ≤ b + 1
        rw [List.length_cons]; omega
theorem att_len {fs : List Fn} : ∀ (n : Nat) (L : Int) (q : Cm) (ls : Ls) (nt : Nt), (att fs n L q ls nt).2.2.2.length ≤ n + 1
  | 0, _, _, _, _ => Nat.zero_le _
  | n + 1, L, q, ls, nt => by
    unfold att
    by_cases g : cxi fs q = 1
    · rw [if_pos g]
      show 1 ≤ n + 1 + 1
      omega
    · rw [if_neg g]
      cases nm2 fs q with
      | none => exact Nat.zero_le _
      | some N =>
        dsimp only
        by_cases g1 : N.1 = N.2
        · rw [if_pos g1]; exact Nat.zero_le _
        · rw [if_neg g1]
          by_cases g2 : (sc fs N.1 N.2 3).1 = -9
          · rw [if_pos g2]
            show 1 ≤ n + 1 + 1
            omega
          · rw [if_neg g2]
            exact cas_len (fun q ls nt => att_len n (L + 1) q ls nt) (by omega) _ _ _ _
/-- the causes that are told -/
def csq (r : Rs) : List Int := if r.1 = 3 then [3] else if r.1 = 1 ∨ r.1 = 2 then r.2.2.2 else []
theorem op_prove {μ : ZM} (hI : Inv μ) {K : Int → ZM → Prop} (hK : ∀ r μ1, Ans (P_X12_prove μ1) r → K r μ1) : P_X11_prove μ K := by
  have hI0 := hI
  obtain ⟨tp, fs, cl, ls, nt, cs, hc, hm, ho⟩ := hI
  obtain ⟨c1, c2, c3, c4, c5, c6, c7⟩ := id hc
  have hl := c2.2.1
  cases cl with
  | none =>
    have e1 : μ 206 11 = 0 := c3
    have e2 : μ 248 9 = 0 := hm.2.2.1
    unfold P_X11_prove
    rw [if_pos e1]
    refine hK _ _ (Ans.same hI0 (fun K' h' => ?_))
    unfold P_X12_prove
    rw [if_pos e2]; exact h'
  | some q =>
    obtain ⟨e1, t1, t2⟩ := id c3
    obtain ⟨o1, o2, l1, l2⟩ := ho.2.1 q rfl
    have hLs : okL fs ls := ⟨c4.2.1, ho.2.2⟩
    have oq : okQ fs q := ⟨o1, o2, by omega, by omega⟩
    have hlen := att_len (fs := fs) 3 0 q ls []
    have hatt := att_ok (fs := fs) ho.1 hl 3 0 q ls [] oq hLs
    -- the reference, from where the class ended
    have back : ∀ μ1 : ZM, RC μ1 tp fs (some q) (att fs 3 0 q ls []).2.1 (att fs 3 0 q ls []).2.2.1 (csq (att fs 3 0 q ls [])) → RM μ1 tp fs (some q) ls nt cs → K (att fs 3 0 q ls []).1 μ1 := by
      intro μ1 hc1 hm1
      generalize hR : att fs 3 0 q ls [] = R at *
      refine hK _ _ (fun K' hK' => ?_)
      obtain ⟨m1, m2, m3, m4, m5, m6⟩ := hm1
      obtain ⟨y1, y2, y3⟩ := m3
      unfold P_X12_prove
      rw [if_neg (by omega)]
      simp only [z_wr]
      have fz : ∀ a k, ¬ (a = 248 ∧ (k = 39 ∨ k = 46)) → z_upd (z_upd μ1 248 39 0) 248 46 0 a k = μ1 a k := fun a k y => by rw [zu_f (by omega), zu_f (by omega)]
      have z46 : z_upd (z_upd μ1 248 39 0) 248 46 0 248 46 = 0 := zu_s
      have z39 : z_upd (z_upd μ1 248 39 0) 248 46 0 248 39 = 0 := by rw [zu_k (by decide), zu_s]
      generalize z_upd (z_upd μ1 248 39 0) 248 46 0 = μ2 at *
      refine s_slot z46 (by omega) (by omega) (by omega) (s_copies (T := q.1) (by omega) (by omega) (by omega) (y2.ex (fz _ _ (by omega)) (fun k _ _ => fz _ _ (by omega))) (by omega) (fun μ3 f3 t3 => ?_))
      have z46' : μ3 248 46 = 0 := (f3 _ _ (by omega) (by omega)).trans z46
      refine s_slot z46' (by omega) (by omega) (by omega) (s_copies (T := q.2) (by omega) (by omega) (by omega) (y3.ex ((f3 _ _ (by omega) (by omega)).trans (fz _ _ (by omega))) (fun k p1 p2 => (f3 _ _ (by omega) (by omega)).trans (fz _ _ (by omega)))) (by omega) (fun μ4 f4 t4 => ?_))
      have fr4 : ∀ a k, ¬ (a = 248 ∧ (k = 39 ∨ k = 46)) → ¬ s2c 2 a k → μ4 a k = μ1 a k := fun a k w1 w2 => by
        rw [f4 a k (by unfold s2c at w2; omega) (by unfold s2c at w2; omega), f3 a k (by unfold s2c at w2; omega) (by unfold s2c at w2; omega)]
        exact fz a k w1
      have z464 : μ4 248 46 = 0 := (f4 _ _ (by omega) (by omega)).trans z46'
      have z394 : μ4 248 39 = 0 := (f4 _ _ (by omega) (by omega)).trans ((f3 _ _ (by omega) (by omega)).trans z39)
      have q4 : S2 μ4 (6 * 0 + 2) q := ⟨t3.ex (f4 _ _ (by omega) (by omega)) (fun k p1 p2 => f4 _ _ (by omega) (by omega)), t4⟩
      have e4 : EnM μ4 fs ls [] := ⟨m2.fr (fun a ha k => fr4 _ _ (by omega) (by unfold s2c; omega)) (fr4 _ _ (by omega) (by unfold s2c; omega)), m4.fr (fr4 _ _ (by omega) (by unfold s2c; omega)) (fun k hk => fr4 _ _ (by omega) (by unfold s2c; omega)) (fun k hk => fr4 _ _ (by omega) (by unfold s2c; omega)), z394, by simp, fun k p1 p2 => absurd p2 (by simp; omega), fun k p1 p2 => absurd p2 (by simp; omega)⟩
      -- the end
      have fin : ∀ μ5, (∀ a k, ¬ atM 0 a k → μ5 a k = μ4 a k) → EnM μ5 fs R.2.1 R.2.2.1 → cwM μ5 0 R → K' R.1 (z_upd μ5 248 42 R.1) := by
        intro μ5 f5 e5 k5
        have f5' : ∀ a k, ¬ atM 0 a k → ¬ (a = 248 ∧ (k = 39 ∨ k = 46)) → ¬ s2c 2 a k → ¬ (a = 248 ∧ k = 42) → z_upd μ5 248 42 R.1 a k = μ1 a k := fun a k w1 w2 w3 w4 => (zu_f w4).trans ((f5 a k w1).trans (fr4 a k w2 w3))
        obtain ⟨h1, h2, h3⟩ := e5
        refine hK' _ ⟨tp, fs, some q, R.2.1, R.2.2.1, csq R, hc1.frM (fun a k y => f5' a k (by unfold atM scM ntm lmc; omega) (by omega) (by unfold s2c; omega) (by omega)), ⟨m1.fr (f5' _ _ (by unfold atM scM ntm lmc; omega) (by omega) (by unfold s2c; omega) (by omega)) (fun k => f5' _ _ (by unfold atM scM ntm lmc; omega) (by omega) (by unfold s2c; omega) (by omega)), h1.fr (fun a ha k => zu_n (by omega)) (zu_k (by decide)), ⟨(f5' _ _ (by unfold atM scM ntm lmc; omega) (by omega) (by unfold s2c; omega) (by omega)).trans y1, y2.ex (f5' _ _ (by unfold atM scM ntm lmc; omega) (by omega) (by unfold s2c; omega) (by omega)) (fun k p1 p2 => f5' _ _ (by unfold atM scM ntm lmc; omega) (by omega) (by unfold s2c; omega) (by omega)), y3.ex (f5' _ _ (by unfold atM scM ntm lmc; omega) (by omega) (by unfold s2c; omega) (by omega)) (fun k p1 p2 => f5' _ _ (by unfold atM scM ntm lmc; omega) (by omega) (by unfold s2c; omega) (by omega))⟩, h2.fr (zu_k (by decide)) (fun k hk => zu_n (by decide)) (fun k hk => zu_n (by decide)), h3.fr (zu_k (by decide)) (fun k => zu_n (by decide)) (fun k => zu_n (by decide)), ?_⟩, ho.1, ho.2.1, hatt.1.2⟩
        have x42 : z_upd μ5 248 42 R.1 248 42 = R.1 := zu_s
        have x43 : z_upd μ5 248 42 R.1 248 43 = μ5 248 43 := zu_k (by decide)
        have x44 : z_upd μ5 248 42 R.1 248 44 = μ5 248 44 := zu_k (by decide)
        have x45 : z_upd μ5 248 42 R.1 248 45 = μ5 248 45 := zu_k (by decide)
        unfold MW
        rw [x42, x43, x44, x45]
        refine ⟨?_, fun y => by have := k5 y; omega⟩
        unfold csq wl
        by_cases g3 : R.1 = 3
        · rw [if_pos g3, if_pos g3]
        · rw [if_neg g3, if_neg g3]
          by_cases g1 : R.1 = 1 ∨ R.1 = 2
          · rw [if_pos g1, if_pos g1, (k5 g1).2.2, show (μ5 248 43 - 0).toNat = (μ5 248 43).toNat by omega]
          · rw [if_neg g1, if_neg g1]
      have last : ∀ G, (∀ a b μ', FP K' G a b μ' → G a b μ') → ∀ μ5, (∀ a k, ¬ atM 0 a k → μ5 a k = μ4 a k) → EnM μ5 fs R.2.1 R.2.2.1 → (R.1 ≠ 3 → μ5 248 46 = 0) → cwM μ5 0 R → G R.1 (if R.1 = 3 then 0 else 1) μ5 := by
        intro G hG μ5 f5 e5 v5 k5
        have stop : G R.1 0 μ5 := by
          refine hG _ _ _ ?_
          unfold FP
          rw [if_pos rfl]
          exact fin μ5 f5 e5 k5
        by_cases g3 : R.1 = 3
        · rw [if_pos g3]; exact stop
        · rw [if_neg g3]
          refine hG _ _ _ ?_
          unfold FP
          have := hatt.2
          rw [if_neg (by decide), if_neg (by omega), if_neg (by omega), if_pos (by have := v5 g3; omega)]
          unfold P_X12_prove_147
          rw [if_pos rfl]
          exact stop
      have hR3 : att fs (2 + 1) 0 q ls [] = R := hR
      refine m_beg (n := 2) ho.1 e4 hLs (by omega) z464 q4 oq (fun μ5 f5 e5 v5 k5 => ?_) (fun N v d m μ5 hRc oN hv hd f5 e5 v5 sN w1 w2 w3 => ?_)
      · rw [hR3] at e5 v5 k5 ⊢
        refine ifb (fun g => FP_58 (fun G hG => ?_)) (fun g => FP_58 (fun G hG => ?_))
        · have := last G hG μ5 f5 e5 v5 k5
          rw [if_pos g] at this; exact this
        · have := last G hG μ5 f5 e5 v5 k5
          rw [if_neg g] at this; exact this
      · rw [if_neg (by decide)]
        refine FP_58 (fun G hG => ?_)
        rw [hR3] at hRc
        exact m_cases (K := K') (rc := att fs 2 (0 + 1)) (μ0 := μ4) (R := R) ho.1 hl hG (att_ok ho.1 hl 2 (0 + 1)) (fun _ => m_att ho.1 hl hG 2 (0 + 1) (by omega) (by omega) (by omega)) (by omega) hv hd oq oN (last G hG) (d + 1).toNat 0 ls m μ5 (by omega) (by omega) e5 hLs v5 w3 w1 w2 (q4.ex (okQ_128 oq) (fun a k y => f5 a k (by unfold s2c at y; unfold atM scM ntm lmc; omega))) sN f5 hRc.symm
    -- the class
    unfold P_X11_prove
    rw [if_neg (by omega)]
    unfold P_X7_empty
    simp only [z_wr]
    have fz : ∀ a k, ¬ (a = 240 ∧ (k = 3 ∨ k = 4)) → z_upd (z_upd μ 240 3 0) 240 4 0 a k = μ a k := fun a k y => by rw [zu_f (by omega), zu_f (by omega)]
    have z4 : z_upd (z_upd μ 240 3 0) 240 4 0 240 4 = 0 := zu_s
    have z3 : z_upd (z_upd μ 240 3 0) 240 4 0 240 3 = 0 := by rw [zu_k (by decide), zu_s]
    generalize z_upd (z_upd μ 240 3 0) 240 4 0 = μ1 at *
    refine ⟨by omega, s_copy0 (by decide) (by decide) (by decide) (Tm_of t1 (fun a k p1 p2 => fz a k (by omega))) (Tm_of t2 (fun a k p1 p2 => fz a k (by omega))) (by omega) (by omega) (fun μ2 f2 s1 s2 => ?_)⟩
    have fr2 : ∀ a k, ¬ (a = 240 ∧ (k = 3 ∨ k = 4)) → ¬ (49 ≤ a ∧ a ≤ 54) → μ2 a k = μ a k := fun a k w1 w2 => (f2 a k (by omega)).trans (fz a k w1)
    have e2 : EnC μ2 fs ls [] := ⟨c2.fr (fun a ha k => fr2 _ _ (by omega) (by omega)) (fr2 _ _ (by omega) (by omega)), c7.fr (fun a k p1 p2 => fr2 _ _ (by omega) (by omega)), c4.fr (fun a ha k => fr2 _ _ (by omega) (by omega)) (fr2 _ _ (by omega) (by omega)), (f2 _ _ (by omega)).trans z3, by simp, fun k p1 p2 => absurd p2 (by simp; omega), fun k p1 p2 => absurd p2 (by simp; omega)⟩
    refine k_att ho.1 hl 3 0 (by omega) (by omega) (by omega) μ2 q ls [] _ e2 hLs ((f2 _ _ (by omega)).trans z4) ⟨s1, s2⟩ oq (fun μ3 f3 e3 w3 => ?_)
    generalize hR : att fs 3 0 q ls [] = R at *
    have fr3 : ∀ a k, ¬ atC 0 a k → ¬ (49 ≤ a ∧ a ≤ 54) → μ3 a k = μ a k := fun a k y1 y2 => (f3 a k y1).trans (fr2 a k (by unfold atC at y1; omega) y2)
    obtain ⟨h1, h2, h3, h4⟩ := e3
    have rest : ∀ μ4, (∀ a k, ¬ (a = 240 ∧ k = 4) → a ≠ 243 → μ4 a k = μ3 a k) → CW μ4 (csq R) → RC μ4 tp fs (some q) R.2.1 R.2.2.1 (csq R) ∧ RM μ4 tp fs (some q) ls nt cs := by
      intro μ4 f4 hw
      have fr4 : ∀ a k, ¬ atC 0 a k → ¬ (49 ≤ a ∧ a ≤ 54) → μ4 a k = μ a k := fun a k y1 y2 => (f4 a k (by unfold atC at y1; omega) (by unfold atC at y1; omega)).trans (fr3 a k y1 y2)
      refine ⟨⟨c1.fr (fr4 _ _ (by unfold atC scC; omega) (by omega)) (fun k => fr4 _ _ (by unfold atC scC; omega) (by omega)), h1.fr (fun a ha k => f4 _ _ (by omega) (by omega)) (f4 _ _ (by omega) (by omega)), c3.fr (fun a ha k => fr4 _ _ (by unfold atC scC; omega) (by omega)) (fr4 _ _ (by unfold atC scC; omega) (by omega)), h3.fr (fun a ha k => f4 _ _ (by omega) (by omega)) (f4 _ _ (by omega) (by omega)), h4.fr (f4 _ _ (by omega) (by omega)) (fun k => f4 _ _ (by omega) (by omega)) (fun k => f4 _ _ (by omega) (by omega)), hw, h2.fr (fun a k p1 p2 => f4 _ _ (by omega) (by omega))⟩, hm.fr (fun a k y => fr4 a k (by unfold atC scC; omega) (by omega))⟩
    refine ifb (fun g => s_blame (by omega) (fun μ4 f4 b1 b2 => ?_)) (fun g => ?_)
    · have hw : CW μ4 (csq R) := by
        unfold csq
        rw [if_pos g]
        refine ⟨?_, by simp, fun k p1 p2 => ?_⟩
        · rw [b2, w3.2 (Or.inr g)]; rfl
        · have : k = 0 := by simp at p2; omega
          rw [this, b1]; rfl
      obtain ⟨x1, x2⟩ := rest μ4 (fun a k y1 y2 => f4 a k y1 (by omega)) hw
      exact back μ4 x1 x2
    · have hw : CW μ3 (csq R) := by
        unfold csq
        rw [if_neg g]
        by_cases g1 : R.1 = 1 ∨ R.1 = 2
        · rw [if_pos g1]
          obtain ⟨x1, x2⟩ := w3.1 g1
          refine ⟨by omega, by omega, fun k p1 p2 => ?_⟩
          have := x2 k p1 p2
          rw [Int.zero_add] at this
          exact this
        · rw [if_neg g1]
          exact ⟨(w3.2 (by omega)), by simp, fun k p1 p2 => absurd p2 (by simp; omega)⟩
      obtain ⟨x1, x2⟩ := rest μ3 (fun _ _ _ _ => rfl) hw
      exact back μ3 x1 x2
