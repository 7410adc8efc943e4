/-! ===== attempts: the reference ===== -/
def atM (L a k : Int) : Prop := scM a k ∨ ntm a k ∨ lmc a k ∨ (a = 249 ∧ 128 * (6 * L + 4) ≤ k ∧ k < 2560) ∨ (a = 250 ∧ 6 * L + 4 ≤ k ∧ k < 20) ∨ (a = 248 ∧ 43 ≤ k ∧ k ≤ 46) ∨ (272 ≤ a ∧ a ≤ 274 ∧ L ≤ k)
def akM (L a k : Int) : Prop := scM a k ∨ ntm a k ∨ lmc a k ∨ (a = 249 ∧ 128 * (6 * L + 6) ≤ k ∧ k < 2560) ∨ (a = 250 ∧ 6 * L + 6 ≤ k ∧ k < 20) ∨ (a = 248 ∧ 43 ≤ k ∧ k ≤ 46) ∨ (a = 272 ∧ L ≤ k) ∨ (273 ≤ a ∧ a ≤ 274 ∧ L + 1 ≤ k)
def cwM (μ : ZM) (L : Int) (r : Rs) : Prop := r.1 = 1 ∨ r.1 = 2 → L ≤ μ 248 43 ∧ μ 248 43 ≤ 2 ∧ r.2.2.2 = List.replicate (μ 248 43 - L).toNat 2 ++ [μ 248 44] ++ (if μ 248 45 = 0 then [] else [4])
theorem s_begins {fs : List Fn} {ls : Ls} {nt : Nt} {L : Int} {q : Cm} {μ : ZM} {K : Int → ZM → Prop} (ho : okF fs) (hE : EnM μ fs ls nt) (hLs : okL fs ls) (hL : 0 ≤ L ∧ L ≤ 2) (h46 : μ 248 46 = L) (hQ : S2 μ (6 * L + 2) q) (oq : okQ fs q)
    (h1 : cxi fs q = 1 → ∀ μ', (∀ a k, ¬ atM L a k → μ' a k = μ a k) → EnM μ' fs ls (an (an nt 0 L) 8 1) → μ' 248 46 = L → μ' 248 43 = L → μ' 248 44 = 1 → μ' 248 45 = 0 → K 1 μ')
    (h2 : cxi fs q ≠ 1 → nm2 fs q = none → ∀ μ', (∀ a k, ¬ atM L a k → μ' a k = μ a k) → EnM μ' fs ls (an nt 0 L) → K 3 μ')
    (h3 : cxi fs q ≠ 1 → ∀ N, nm2 fs q = some N → N.1 = N.2 → ∀ μ', (∀ a k, ¬ atM L a k → μ' a k = μ a k) → EnM μ' fs (kp ls q) (an (an (an nt 0 L) 1 0) 7 L) → μ' 248 46 = L → K 0 μ')
    (h4 : cxi fs q ≠ 1 → ∀ N, nm2 fs q = some N → N.1 ≠ N.2 → (sc fs N.1 N.2 3).1 = -9 → ∀ μ', (∀ a k, ¬ atM L a k → μ' a k = μ a k) → EnM μ' fs ls (an (an nt 0 L) 8 2) → μ' 248 46 = L → μ' 248 43 = L → μ' 248 44 = 2 → μ' 248 45 = 0 → K 2 μ')
    (h5 : cxi fs q ≠ 1 → ∀ N, nm2 fs q = some N → N.1 ≠ N.2 → (sc fs N.1 N.2 3).1 ≠ -9 → okQ fs N → ∀ μ', (∀ a k, ¬ atM L a k → μ' a k = μ a k) → EnM μ' fs ls (an (an nt 0 L) 2 (10 * (sc fs N.1 N.2 3).2.2 + (sc fs N.1 N.2 3).1)) → μ' 248 46 = L → S2 μ' (6 * L + 4) N → μ' 273 L = (sc fs N.1 N.2 3).1 → μ' 274 L = (sc fs N.1 N.2 3).2.2 → μ' 272 L = 0 → K 5 μ') : P_X12_begins μ K := by
  have hl := hE.1.2.1
  have lq := okQ_128 oq
  refine s_slot h46 (by omega) (by omega) (by omega) (s_slot h46 (by omega) (by omega) (by omega) ?_)
  rw [h46, show 6 * L + 2 + 0 = 6 * L + 2 by omega]
  refine s_nI hE (fun μ1 f1 e1 => ⟨Or.inl rfl, ?_⟩)
  show P_X12_counterexample (6 * L + 2) (6 * L + 2 + 1) (z_upd μ1 248 45 0) _
  have e2 : EnM (z_upd μ1 248 45 0) fs ls (an nt 0 L) := e1.lo (fun a k y => zu_f (by unfold loM at y; omega))
  have f2 : ∀ a k, ¬ ntm a k → ¬ (a = 248 ∧ k = 45) → z_upd μ1 248 45 0 a k = μ a k := fun a k y1 y2 => (zu_f y2).trans (f1 a k y1)
  have z2 : z_upd μ1 248 45 0 248 45 = 0 := zu_s
  generalize z_upd μ1 248 45 0 = μ2 at *
  have c2 : μ2 248 46 = L := (f2 _ _ (by unfold ntm; omega) (by omega)).trans h46
  have q2 : S2 μ2 (6 * L + 2) q := hQ.ex lq (fun a k y => f2 a k (by unfold s2c at y; unfold ntm; omega) (by unfold s2c at y; omega))
  have fr2 : ∀ a k, ¬ atM L a k → μ2 a k = μ a k := fun a k y => f2 a k (fun z => y (Or.inr (Or.inl z))) (by unfold atM at y; omega)
  refine s_cexX ho e2.1 (by omega) q2 oq (fun hx r μ3 hr f3 => ?_) (fun hx μ3 f3 => ?_)
  · rw [if_neg hr]
    have e3 : EnM μ3 fs ls (an nt 0 L) := e2.lo (fun a k y => f3 a k (by unfold loM scM at y; unfold evm; omega))
    refine s_fails e3 (fun μ4 f4 e4 _ w4 => ?_)
    obtain ⟨w1, w2⟩ := w4 (by decide)
    refine h1 hx μ4 (fun a k y => ?_) e4 ?_ ?_ w2 ?_
    · rw [f4 a k (fun z => y (Or.inr (Or.inl z))) (by unfold atM at y; omega), f3 a k (by unfold atM scM at y; unfold evm; omega)]
      exact fr2 a k y
    · rw [f4 _ _ (by unfold ntm; omega) (by omega), f3 _ _ (by unfold evm; omega)]; exact c2
    · rw [w1, f3 _ _ (by unfold evm; omega)]; exact c2
    · rw [f4 _ _ (by unfold ntm; omega) (by omega), f3 _ _ (by unfold evm; omega)]; exact z2
  · rw [if_pos rfl]
    have e3 : EnM μ3 fs ls (an nt 0 L) := e2.lo (fun a k y => f3 a k (by unfold loM scM at y; unfold evm; omega))
    have c3 : μ3 248 46 = L := (f3 _ _ (by unfold evm; omega)).trans c2
    have z3 : μ3 248 45 = 0 := (f3 _ _ (by unfold evm; omega)).trans z2
    have fr3 : ∀ a k, ¬ atM L a k → μ3 a k = μ a k := fun a k y => (f3 a k (by unfold atM scM at y; unfold evm; omega)).trans (fr2 a k y)
    have q3 : S2 μ3 (6 * L + 2) q := q2.ex lq (fun a k y => f3 a k (by unfold s2c at y; unfold evm; omega))
    have en : nm2 fs q = match nm fs q.1 with
      | none => none
      | some a => match nm fs q.2 with
        | none => none
        | some b => some (a, b) := rfl
    refine s_slot c3 (by omega) (by omega) (by omega) (s_makesNormal ho e3.1 (by omega) (by omega) q3.1 oq.1 (by have := oq.2.2.1; omega) (fun hn μ4 f4 => if0 (h2 hx (by rw [en, hn]) μ4 (fun a k y => (f4 a k (by unfold atM scM at y; unfold nvm; omega)).trans (fr3 a k y)) (e3.lo (fun a k y => f4 a k (by unfold loM scM at y; unfold nvm; omega))))) (fun V hn μ4 f4 t4 => if1 ?_))
    rw [hn] at en
    dsimp only at en
    have gV1 := nm_ok ho hl oq.1 (by have := oq.2.2.1; omega) hn
    have lV := gV1.2
    rw [show 6 * L + 4 + 0 = 6 * L + 4 by omega] at f4 t4
    have e4 : EnM μ4 fs ls (an nt 0 L) := e3.lo (fun a k y => f4 a k (by unfold loM scM at y; unfold nvm; omega) (by unfold loM at y; omega) (by unfold loM at y; omega))
    have c4 : μ4 248 46 = L := (f4 _ _ (by unfold nvm; omega) (by omega) (by omega)).trans c3
    have fr4 : ∀ a k, ¬ atM L a k → μ4 a k = μ a k := fun a k y => (f4 a k (by unfold atM scM at y; unfold nvm; omega) (by unfold atM at y; omega) (by unfold atM at y; omega)).trans (fr3 a k y)
    have q4 : S2 μ4 (6 * L + 2) q := q3.ex lq (fun a k y => f4 a k (by unfold s2c at y; unfold nvm; omega) (by unfold s2c at y; omega) (by unfold s2c at y; omega))
    have z4 : μ4 248 45 = 0 := (f4 _ _ (by unfold nvm; omega) (by omega) (by omega)).trans z3
    refine s_slot c4 (by omega) (by omega) (by omega) (s_makesNormal ho e4.1 (by omega) (by omega) q4.2 oq.2.1 (by have := oq.2.2.2; omega) (fun hn2 μ5 f5 => if0 (h2 hx (by rw [en, hn2]) μ5 (fun a k y => (f5 a k (by unfold atM scM at y; unfold nvm; omega)).trans (fr4 a k y)) (e4.lo (fun a k y => f5 a k (by unfold loM scM at y; unfold nvm; omega))))) (fun W hn2 μ5 f5 t5 => if1 ?_))
    rw [hn2] at en
    dsimp only at en
    have gV2 := nm_ok ho hl oq.2.1 (by have := oq.2.2.2; omega) hn2
    have lW := gV2.2
    have e5 : EnM μ5 fs ls (an nt 0 L) := e4.lo (fun a k y => f5 a k (by unfold loM scM at y; unfold nvm; omega) (by unfold loM at y; omega) (by unfold loM at y; omega))
    have c5 : μ5 248 46 = L := (f5 _ _ (by unfold nvm; omega) (by omega) (by omega)).trans c4
    have fr5 : ∀ a k, ¬ atM L a k → μ5 a k = μ a k := fun a k y => (f5 a k (by unfold atM scM at y; unfold nvm; omega) (by unfold atM at y; omega) (by unfold atM at y; omega)).trans (fr4 a k y)
    have q5 : S2 μ5 (6 * L + 2) q := q4.ex lq (fun a k y => f5 a k (by unfold s2c at y; unfold nvm; omega) (by unfold s2c at y; omega) (by unfold s2c at y; omega))
    have z5 : μ5 248 45 = 0 := (f5 _ _ (by unfold nvm; omega) (by omega) (by omega)).trans z4
    have n5 : S2 μ5 (6 * L + 4) (V, W) := ⟨t4.ex (f5 _ _ (by unfold nvm; omega) (by omega) (by omega)) (fun k p1 p2 => f5 _ _ (by unfold nvm; omega) (by omega) (by omega)), t5⟩
    have oN : okQ fs (V, W) := ⟨gV1.1, gV2.1, gV1.2, gV2.2⟩
    refine s_slot c5 (by omega) (by omega) (by omega) (s_slot c5 (by omega) (by omega) (by omega) ?_)
    rw [show 6 * L + 4 + 0 = 6 * L + 4 by omega]
    refine s_areSame (by omega) (by omega) n5.1 n5.2 (okQ_128 oN).1 (okQ_128 oN).2 (fun g => if1 ?_) (fun g => if0 ?_)
    · refine s_nI e5 (fun μ6 f6 e6 => s_proves e6 hLs hL ((f6 _ _ (by unfold ntm; omega)).trans c5) (q5.ex lq (fun a k y => f6 a k (by unfold s2c at y; unfold ntm; omega))) oq (fun μ7 f7 e7 => h3 hx _ en g μ7 (fun a k y => ?_) e7 ?_))
      · rw [f7 a k (fun z => y (Or.inr (Or.inl z))) (fun z => y (Or.inr (Or.inr (Or.inl z)))), f6 a k (fun z => y (Or.inr (Or.inl z)))]
        exact fr5 a k y
      · rw [f7 _ _ (by unfold ntm; omega) (by unfold lmc; omega), f6 _ _ (by unfold ntm; omega)]; exact c5
    · refine s_slot c5 (by omega) (by omega) (by omega) (s_slot c5 (by omega) (by omega) (by omega) ?_)
      rw [show 6 * L + 4 + 0 = 6 * L + 4 by omega]
      refine s_findScheme (A := V) (B := W) ho e5.1 (by omega) (by omega) n5.1 n5.2 oN.1 oN.2.1 oN.2.2.1 oN.2.2.2 (fun μ6 f6 => ⟨fun g1 => ?_, fun g1 v1 v2 _ => ?_⟩)
      · rw [if_pos rfl]
        have e6 : EnM μ6 fs ls (an nt 0 L) := e5.lo (fun a k y => f6 a k (by unfold loM scM at y; unfold frs; omega))
        refine s_fails e6 (fun μ7 f7 e7 _ w7 => ?_)
        obtain ⟨w1, w2⟩ := w7 (by decide)
        refine h4 hx _ en g g1 μ7 (fun a k y => ?_) e7 ?_ ?_ w2 ?_
        · rw [f7 a k (fun z => y (Or.inr (Or.inl z))) (by unfold atM at y; omega), f6 a k (by unfold atM scM at y; unfold frs; omega)]
          exact fr5 a k y
        · rw [f7 _ _ (by unfold ntm; omega) (by omega), f6 _ _ (by unfold frs; omega)]; exact c5
        · rw [w1, f6 _ _ (by unfold frs; omega)]; exact c5
        · rw [f7 _ _ (by unfold ntm; omega) (by omega), f6 _ _ (by unfold frs; omega)]; exact z5
      · rw [if_neg (by decide)]
        have e6 : EnM μ6 fs ls (an nt 0 L) := e5.lo (fun a k y => f6 a k (by unfold loM scM at y; unfold frs; omega))
        obtain ⟨d1, d2, -⟩ := sc_d g1
        have h5' := h5 hx _ en g g1 oN
        dsimp only at h5'
        rw [v1, v2]
        generalize (sc fs V W 3).2.2 = d at *
        generalize (sc fs V W 3).1 = v at *
        refine ⟨⟨by omega, by omega⟩, ⟨by omega, by omega⟩, s_nI e6 (fun μ7 f7 e7 => ?_)⟩
        have c7 : μ7 248 46 = L := (f7 _ _ (by unfold ntm; omega)).trans ((f6 _ _ (by unfold frs; omega)).trans c5)
        have y28 : μ7 248 28 = v := (f7 _ _ (by unfold ntm; omega)).trans v1
        have y29 : μ7 248 29 = d := (f7 _ _ (by unfold ntm; omega)).trans v2
        simp only [z_wr, zu_n (show (248 : Int) ≠ 273 by decide), zu_n (show (248 : Int) ≠ 274 by decide)]
        rw [c7, y28, y29]
        refine ⟨by omega, by omega, by omega, ?_⟩
        generalize hM : z_upd (z_upd (z_upd μ7 273 L v) 274 L d) 272 L 0 = μ8
        have m0 : ∀ a k, ¬ (272 ≤ a ∧ a ≤ 274 ∧ k = L) → μ8 a k = μ7 a k := fun a k y => by rw [← hM, zu_f (by omega), zu_f (by omega), zu_f (by omega)]
        refine h5' μ8 (fun a k y => ?_) (e7.lo (fun a k y => m0 a k (by unfold loM at y; omega))) ((m0 _ _ (by omega)).trans c7) (n5.ex (okQ_128 oN) (fun a k y => ?_)) ?_ ?_ ?_
        · rw [m0 a k (by unfold atM at y; omega), f7 a k (fun z => y (Or.inr (Or.inl z))), f6 a k (by unfold atM scM at y; unfold frs; omega)]
          exact fr5 a k y
        · rw [m0 a k (by unfold s2c at y; omega), f7 a k (by unfold s2c at y; unfold ntm; omega), f6 a k (by unfold s2c at y; unfold frs; omega)]
        · rw [← hM]; simp [z_upd]
        · rw [← hM]; simp [z_upd]
        · rw [← hM]; simp [z_upd]
