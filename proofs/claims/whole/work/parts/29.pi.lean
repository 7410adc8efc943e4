/-! ===== a claim ===== -/
def rq (fs : List Fn) (tp : List Int) (p : Int) : Int × Int × List Int := rt fs 1 1 1 0 1 tp 20 (20 : Int).toNat p 1 0 []
def rcl (fs : List Fn) (tp : List Int) : Int × Int × List Int × List Int :=
  if (rq fs tp 0).1 = 0 then (0, (rq fs tp 0).2.1, [], [])
  else if (rq fs tp 0).2.1 < (tp.length : Int) ∧ gt tp (rq fs tp 0).2.1 = 61 then
    (if (rq fs tp ((rq fs tp 0).2.1 + 1)).1 = 0 then (0, (rq fs tp ((rq fs tp 0).2.1 + 1)).2.1, [], [])
    else if (rq fs tp ((rq fs tp 0).2.1 + 1)).2.1 = (tp.length : Int) then (1, (rq fs tp ((rq fs tp 0).2.1 + 1)).2.1, (rq fs tp 0).2.2, (rq fs tp ((rq fs tp 0).2.1 + 1)).2.2)
    else (0, (rq fs tp ((rq fs tp 0).2.1 + 1)).2.1, [], []))
  else (0, (rq fs tp 0).2.1, [], [])
theorem rt_01 {fs : List Fn} {hx hy hz own oa : Int} {tp : List Int} {room : Int} : ∀ (n : Nat) (p nd mx : Int) (acc : List Int), (rt fs hx hy hz own oa tp room n p nd mx acc).1 = 0 ∨ (rt fs hx hy hz own oa tp room n p nd mx acc).1 = 1 := by
  intro n
  induction n with
  | zero => intro p nd mx acc; exact Or.inr rfl
  | succ n ih =>
    intro p nd mx acc
    unfold rt
    by_cases g : nd ≤ 0
    · rw [if_pos g]; exact Or.inr rfl
    · rw [if_neg g]
      by_cases g1 : p = (tp.length : Int)
      · rw [if_pos g1]; exact Or.inl rfl
      · rw [if_neg g1]
        by_cases g2 : (mx ≠ 0 ∧ gt tp p ≠ 120) ∨ pa fs hx hy hz own oa (gt tp p) < 0 ∨ room < (acc.length : Int) + nd + pa fs hx hy hz own oa (gt tp p)
        · rw [if_pos g2]; exact Or.inl rfl
        · rw [if_neg g2]; exact ih _ _ _ _
theorem pa_cl {fs : List Fn} {c : Int} (hl : fs.length ≤ 6) (h : 0 ≤ pa fs 1 1 1 0 1 c) : arf fs c = pa fs 1 1 1 0 1 c ∧ cv fs c := by
  revert h
  unfold pa arf cv
  by_cases e1 : c = 90
  · subst e1; intro _; simp
  · by_cases e2 : c = 83
    · subst e2; intro _; simp
    · by_cases e3 : c = 120
      · subst e3; intro _; simp; omega
      · by_cases e4 : c = 121
        · subst e4; intro _; simp; omega
        · by_cases e5 : c = 122
          · subst e5; intro _; simp; omega
          · rw [if_neg e1, if_neg e2, if_neg e3, if_neg e4, if_neg e5, if_neg e2]
            by_cases e6 : 97 ≤ c ∧ c < 97 + (fs.length : Int)
            · rw [if_pos e6, if_pos e6]; intro _; exact ⟨rfl, by omega⟩
            · rw [if_neg e6, if_neg (by simp)]; intro h; exact absurd h (by decide)
theorem rq_ok {fs : List Fn} {tp : List Int} {p : Int} (hl : fs.length ≤ 6) (h : (rq fs tp p).1 ≠ 0) : okT fs (rq fs tp p).2.2 ∧ (rq fs tp p).2.2.length ≤ 20 := by
  have h1 : (rq fs tp p).1 = 1 := by
    rcases rt_01 (fs := fs) (hx := 1) (hy := 1) (hz := 1) (own := 0) (oa := 1) (tp := tp) (room := 20) (20 : Int).toNat p 1 0 [] with e | e
    · exact absurd e h
    · exact e
  have := rt_ok (fs := fs) (fs' := fs) (hx := 1) (hy := 1) (hz := 1) (own := 0) (oa := 1) (tp := tp) (room := 20) (Q := cv fs) (fun c hc => pa_cl hl hc) (20 : Int).toNat p 1 0 [] (by omega) (by simp) (by simp) trivial rfl (fun c hc => absurd hc (by simp)) h1
  obtain ⟨a1, a2, a3⟩ := this
  refine ⟨⟨a1, a2⟩, ?_⟩
  unfold rq
  omega
theorem cv_bd {fs : List Fn} {T : List Int} (hl : fs.length ≤ 6) (h : ∀ c ∈ T, cv fs c) {i : Int} (h1 : 0 ≤ i) (h2 : i < (T.length : Int)) : 0 ≤ gt T i ∧ gt T i ≤ 127 := by
  have hm : gt T i ∈ T := by
    unfold gt
    rw [List.getD_eq_getElem?_getD, List.getElem?_eq_getElem (by omega)]
    exact List.getElem_mem _
  have := h _ hm
  unfold cv at this
  omega
theorem s_pass {c p : Int} {tp : List Int} {μ : ZM} {K : Int → ZM → Prop} (hT : CT μ tp) (h4 : μ 212 4 = p ∧ 0 ≤ p ∧ p ≤ (tp.length : Int)) (h1 : p < (tp.length : Int) ∧ gt tp p = c → K 1 (z_upd μ 212 4 (p + 1))) (h0 : ¬ (p < (tp.length : Int) ∧ gt tp p = c) → K 0 μ) : P_X9_pass c μ K := by
  have a1 := hT.1
  have a2 := hT.2.1.1
  refine ifb (fun g => absurd g (by omega)) (fun _ => ifb (fun g => ⟨Or.inl rfl, h0 (by omega)⟩) (fun g => ⟨by omega, ?_⟩))
  have e : μ 213 (μ 212 4) = gt tp p := by rw [h4.1]; exact hT.2.2 p h4.2.1 (by omega)
  rw [e]
  refine ifb (fun g1 => ⟨⟨by omega, by omega⟩, Or.inr rfl, ?_⟩) (fun g1 => ⟨Or.inl rfl, h0 (by omega)⟩)
  rw [h4.1]
  exact h1 ⟨by omega, g1⟩
theorem s_reads {c p : Int} {tp : List Int} {μ : ZM} {K : Int → ZM → Prop} (hT : MT μ tp) (h4 : μ 248 10 = p ∧ 0 ≤ p ∧ p ≤ (tp.length : Int)) (h1 : p < (tp.length : Int) ∧ gt tp p = c → K 1 (z_upd μ 248 10 (p + 1))) (h0 : ¬ (p < (tp.length : Int) ∧ gt tp p = c) → K 0 μ) : P_X12_reads c μ K := by
  have a1 := hT.1
  have a2 := hT.2.1
  refine ifb (fun g => ⟨Or.inl rfl, h0 (by omega)⟩) (fun g => ⟨by omega, ?_⟩)
  have e : μ 251 (μ 248 10) = gt tp p := by rw [h4.1]; exact hT.2.2 p h4.2.1 (by omega)
  rw [e]
  refine ifb (fun g1 => ⟨⟨by omega, by omega⟩, Or.inr rfl, ?_⟩) (fun g1 => ⟨Or.inl rfl, h0 (by omega)⟩)
  rw [h4.1]
  exact h1 ⟨by omega, g1⟩
def frk (a k : Int) : Prop := (169 ≤ a ∧ a ≤ 177) ∨ (a = 212 ∧ 4 ≤ k)
theorem CT.rd {μ μ' : ZM} {tp : List Int} (h : CT μ tp) (e : ∀ a k, ¬ frk a k → μ' a k = μ a k) : CT μ' tp := h.fr (e _ _ (by unfold frk; omega)) (fun k => e _ _ (by unfold frk; omega))
theorem CF.rd {μ μ' : ZM} {fs : List Fn} (h : CF μ fs) (e : ∀ a k, ¬ frk a k → μ' a k = μ a k) : CF μ' fs := h.fr (fun a ha k => e _ _ (by unfold frk; omega)) (e _ _ (by unfold frk; omega))
theorem s_readClaim {fs : List Fn} {tp : List Int} {μ : ZM} {K : Int → ZM → Prop} (ho : okF fs) (hT : CT μ tp) (hF : CF μ fs) (h : ∀ μ', (∀ a k, ¬ frk a k → μ' a k = μ a k) → μ' 212 4 = (rcl fs tp).2.1 → 0 ≤ μ' 212 4 → μ' 212 4 ≤ (tp.length : Int) → ((rcl fs tp).1 ≠ 0 → Tm μ' fs 169 (rcl fs tp).2.2.1 ∧ Tm μ' fs 172 (rcl fs tp).2.2.2) → K (rcl fs tp).1 μ') : P_X9_readClaim μ K := by
  generalize hR : rcl fs tp = R at h
  unfold rcl at hR
  have fl := hF.2.1
  unfold P_X9_readClaim
  simp only [z_wr]
  refine ⟨Or.inl rfl, Or.inr rfl, Or.inr rfl, Or.inr rfl, by omega, ?_⟩
  have hx : ∀ a k, ¬ frk a k → z_upd (z_upd (z_upd (z_upd (z_upd μ 212 4 0) 212 6 0) 212 7 1) 212 8 1) 212 9 1 a k = μ a k := fun a k g => by
    unfold frk at g
    rw [zu_f (by omega), zu_f (by omega), zu_f (by omega), zu_f (by omega), zu_f (by omega)]
  have x4 : z_upd (z_upd (z_upd (z_upd (z_upd μ 212 4 0) 212 6 0) 212 7 1) 212 8 1) 212 9 1 212 4 = 0 := by simp [z_upd]
  have x6 : z_upd (z_upd (z_upd (z_upd (z_upd μ 212 4 0) 212 6 0) 212 7 1) 212 8 1) 212 9 1 212 6 = 0 := by simp [z_upd]
  have x7 : z_upd (z_upd (z_upd (z_upd (z_upd μ 212 4 0) 212 6 0) 212 7 1) 212 8 1) 212 9 1 212 7 = 1 := by simp [z_upd]
  have x8 : z_upd (z_upd (z_upd (z_upd (z_upd μ 212 4 0) 212 6 0) 212 7 1) 212 8 1) 212 9 1 212 8 = 1 := by simp [z_upd]
  have x9 : z_upd (z_upd (z_upd (z_upd (z_upd μ 212 4 0) 212 6 0) 212 7 1) 212 8 1) 212 9 1 212 9 = 1 := by simp [z_upd]
  generalize z_upd (z_upd (z_upd (z_upd (z_upd μ 212 4 0) 212 6 0) 212 7 1) 212 8 1) 212 9 1 = μ1 at hx x4 x6 x7 x8 x9 ⊢
  refine s_readTerm (fs := fs) (tp := tp) (own := 0) (oa := 1) (p := 0) ho (hT.rd hx) (hF.rd hx) (by unfold z_tm; omega) (by omega) ⟨x4, by omega, by omega⟩ ⟨fun g => absurd rfl g, Or.inl rfl⟩ x6 x7 x8 x9 ?_
  show ∀ μ' : ZM, _ → μ' 212 4 = (rq fs tp 0).2.1 → _ → _ → _ = ((rq fs tp 0).2.2.length : Int) → rp _ (rq fs tp 0).2.2 → if (rq fs tp 0).1 = 0 then _ else _
  intro μ2 e1 e2 e3 e4 e5 e6
  have hx2 : ∀ a k, ¬ frk a k → μ2 a k = μ a k := fun a k g => by
    rw [e1 a k (by unfold frk at g; omega) (by unfold frk at g; omega) (by unfold frk at g; omega)]
    exact hx a k g
  refine ifb (fun g => ?_) (fun g => ?_)
  · rw [if_pos g] at hR
    subst hR
    unfold P_X9_readClaim_68 P_X9_readClaim_69
    refine if0 ?_
    exact ⟨Or.inl rfl, h μ2 hx2 e2 e3 e4 (fun g => absurd rfl g)⟩
  · rw [if_neg g] at hR
    obtain ⟨ok1, ok2⟩ := rq_ok (tp := tp) (p := 0) fl g
    refine s_pass (hT.rd hx2) ⟨rfl, e3, e4⟩ (fun g1 => if1 ⟨by omega, ?_⟩) (fun g1 => if0 ?_)
    · rw [e2] at g1
      rw [if_pos g1] at hR
      have hx3 : ∀ a k, ¬ frk a k → z_upd μ2 212 4 (μ2 212 4 + 1) a k = μ a k := fun a k g => by
        rw [zu_f (by unfold frk at g; omega)]; exact hx2 a k g
      refine s_readTerm (fs := fs) (tp := tp) (own := 0) (oa := 1) (hx := 1) (hy := 1) (hz := 1) (p := (rq fs tp 0).2.1 + 1) ho (hT.rd hx3) (hF.rd hx3) (by unfold z_tm; omega) (by omega) ⟨by rw [zu_s, e2], by omega, by omega⟩ ⟨fun g => absurd rfl g, Or.inl rfl⟩ ?_ ?_ ?_ ?_ ?_
      · rw [zu_k (by decide), e1 212 6 (by omega) (by omega) (by omega)]; exact x6
      · rw [zu_k (by decide), e1 212 7 (by omega) (by omega) (by omega)]; exact x7
      · rw [zu_k (by decide), e1 212 8 (by omega) (by omega) (by omega)]; exact x8
      · rw [zu_k (by decide), e1 212 9 (by omega) (by omega) (by omega)]; exact x9
      show ∀ μ' : ZM, _ → μ' 212 4 = (rq fs tp ((rq fs tp 0).2.1 + 1)).2.1 → _ → _ → _ = ((rq fs tp ((rq fs tp 0).2.1 + 1)).2.2.length : Int) → rp _ (rq fs tp ((rq fs tp 0).2.1 + 1)).2.2 → if (rq fs tp ((rq fs tp 0).2.1 + 1)).1 = 0 then _ else _
      intro μ3 f1 f2 f3 f4 f5 f6
      have hx4 : ∀ a k, ¬ frk a k → μ3 a k = μ a k := fun a k g => by
        rw [f1 a k (by unfold frk at g; omega) (by unfold frk at g; omega) (by unfold frk at g; omega)]
        exact hx3 a k g
      refine ifb (fun g2 => ?_) (fun g2 => ?_)
      · rw [if_pos g2] at hR
        subst hR
        unfold P_X9_readClaim_68 P_X9_readClaim_69
        refine if0 ?_
        exact ⟨Or.inl rfl, h μ3 hx4 f2 f3 f4 (fun g => absurd rfl g)⟩
      · rw [if_neg g2] at hR
        obtain ⟨ok3, ok4⟩ := rq_ok (tp := tp) (p := (rq fs tp 0).2.1 + 1) fl g2
        have hlen : μ3 212 3 = (tp.length : Int) := (hx4 212 3 (by unfold frk; omega)).trans hT.1
        refine if1 (ifb (fun g3 => ⟨by omega, ?_⟩) (fun g3 => ⟨Or.inl rfl, ?_⟩))
        · rw [if_pos (by omega)] at hR
          subst hR
          have t1 : μ3 169 2 = ((rq fs tp 0).2.2.length : Int) := by
            rw [f1 169 2 (by omega) (by omega) (by omega), zu_n (by decide)]; exact e5
          have t2 : rp (μ3 (169 + 1)) (rq fs tp 0).2.2 := e6.ex (fun i _ _ => by rw [f1 (169 + 1) i (by omega) (by omega) (by omega), zu_n (by decide)]; rfl)
          refine s_close (T := (rq fs tp 0).2.2) ho (hF.rd hx4) (by unfold z_tm; omega) t1 t2 (by omega) (fun i h1 h2 => cv_bd fl ok1.2 h1 h2) (fun μ4 q1 q2 => ⟨by omega, ?_⟩)
          have hx5 : ∀ a k, ¬ frk a k → μ4 a k = μ a k := fun a k g => by
            rw [q1 a k (by unfold frk at g; omega)]
            exact hx4 a k g
          refine s_close (T := (rq fs tp ((rq fs tp 0).2.1 + 1)).2.2) ho (hF.rd hx5) (by unfold z_tm; omega) ((q1 _ _ (by decide)).trans f5) (f6.ex (fun i _ _ => q1 _ _ (by decide))) (by omega) (fun i h1 h2 => cv_bd fl ok3.2 h1 h2) (fun μ5 w1 w2 => ⟨Or.inr rfl, h μ5 (fun a k g => ?_) ?_ ?_ ?_ (fun _ => ⟨q2.ex (fun k => w1 _ _ (by decide)) (fun k => w1 _ _ (by decide)) (fun k => w1 _ _ (by decide)), w2⟩)⟩)
          · rw [w1 a k (by unfold frk at g; omega)]
            exact hx5 a k g
          · rw [w1 _ _ (by decide), q1 _ _ (by decide)]; exact f2
          · rw [w1 _ _ (by decide), q1 _ _ (by decide)]; exact f3
          · rw [w1 _ _ (by decide), q1 _ _ (by decide)]; exact f4
        · rw [if_neg (by omega)] at hR
          subst hR
          exact h μ3 hx4 f2 f3 f4 (fun g => absurd rfl g)
    · rw [e2] at g1
      rw [if_neg g1] at hR
      subst hR
      unfold P_X9_readClaim_68 P_X9_readClaim_69
      refine if0 ?_
      exact ⟨Or.inl rfl, h μ2 hx2 e2 e3 e4 (fun g => absurd rfl g)⟩
/-! reference -/
def frm (a k : Int) : Prop := (a = 248 ∧ 10 ≤ k ∧ k ≤ 14) ∨ a = 256 ∨ (a = 249 ∧ 2560 ≤ k ∧ k < 2816) ∨ (a = 250 ∧ 20 ≤ k ∧ k < 22)
theorem MT.rd {μ μ' : ZM} {tp : List Int} (h : MT μ tp) (e : ∀ a k, ¬ frm a k → μ' a k = μ a k) : MT μ' tp := h.fr (e _ _ (by unfold frm; omega)) (fun k => e _ _ (by unfold frm; omega))
theorem MF.rd {μ μ' : ZM} {fs : List Fn} (h : MF μ fs) (e : ∀ a k, ¬ frm a k → μ' a k = μ a k) : MF μ' fs := h.fr (fun a ha k => e _ _ (by unfold frm; omega)) (e _ _ (by unfold frm; omega))
theorem s_readsClaim {fs : List Fn} {tp : List Int} {μ : ZM} {K : Int → ZM → Prop} (ho : okF fs) (hT : MT μ tp) (hF : MF μ fs) (h10 : μ 248 10 = 0) (h : ∀ μ', (∀ a k, ¬ frm a k → μ' a k = μ a k) → μ' 248 10 = (rcl fs tp).2.1 → 0 ≤ μ' 248 10 → μ' 248 10 ≤ (tp.length : Int) → ((rcl fs tp).1 ≠ 0 → Sl μ' 20 (rcl fs tp).2.2.1 ∧ Sl μ' 21 (rcl fs tp).2.2.2) → K (rcl fs tp).1 μ') : P_X12_readsClaim μ K := by
  generalize hR : rcl fs tp = R at h
  unfold rcl at hR
  have fl := hF.2.1
  unfold P_X12_readsClaim
  rw [hF.1]
  refine s_readsTerm (fs := fs) (tp := tp) (own := 0) (oa := 1) (p := 0) ho hT hF (by omega) ⟨h10, by omega, by omega⟩ (fun g => absurd rfl g) (Or.inl rfl) ?_
  show ∀ μ' : ZM, _ → μ' 248 10 = (rq fs tp 0).2.1 → _ → _ → _ = ((rq fs tp 0).2.2.length : Int) → ((rq fs tp 0).2.2.length : Int) ≤ 20 → rp _ (rq fs tp 0).2.2 → if (rq fs tp 0).1 = 0 then _ else _
  intro μ2 e1 e2 e3 e4 e5 e6 e7
  have hx2 : ∀ a k, ¬ frm a k → μ2 a k = μ a k := fun a k g => e1 a k (by unfold frm at g; omega) (by unfold frm at g; omega) (by unfold frm at g; omega)
  refine ifb (fun g => ?_) (fun g => ?_)
  · rw [if_pos g] at hR
    subst hR
    exact ⟨Or.inl rfl, h μ2 hx2 e2 e3 e4 (fun g => absurd rfl g)⟩
  · rw [if_neg g] at hR
    refine s_reads (hT.rd hx2) ⟨rfl, e3, e4⟩ (fun g1 => if1 ?_) (fun g1 => if0 ?_)
    · rw [e2] at g1
      rw [if_pos g1] at hR
      have hx3 : ∀ a k, ¬ frm a k → z_upd μ2 248 10 (μ2 248 10 + 1) a k = μ a k := fun a k g => by
        rw [zu_f (by unfold frm at g; omega)]; exact hx2 a k g
      refine s_keepsSide (T := (rq fs tp 0).2.2) (by omega) (by rw [zu_k (by decide)]; exact e5) (by omega) (e7.ex (fun i _ _ => by rw [zu_n (by decide)])) (fun μ3 q1 q2 => ?_)
      have hx4 : ∀ a k, ¬ frm a k → μ3 a k = μ a k := fun a k g => by
        rw [q1 a k (by unfold frm at g; omega) (by unfold frm at g; omega)]
        exact hx3 a k g
      have hc : μ3 248 4 = (fs.length : Int) := (hx4 248 4 (by unfold frm; omega)).trans hF.1
      rw [hc]
      refine s_readsTerm (fs := fs) (tp := tp) (own := 0) (oa := 1) (p := (rq fs tp 0).2.1 + 1) ho (hT.rd hx4) (hF.rd hx4) (by omega) ⟨by rw [q1 _ _ (by omega) (by omega), zu_s, e2], by omega, by omega⟩ (fun g => absurd rfl g) (Or.inl rfl) ?_
      show ∀ μ' : ZM, _ → μ' 248 10 = (rq fs tp ((rq fs tp 0).2.1 + 1)).2.1 → _ → _ → _ = ((rq fs tp ((rq fs tp 0).2.1 + 1)).2.2.length : Int) → ((rq fs tp ((rq fs tp 0).2.1 + 1)).2.2.length : Int) ≤ 20 → rp _ (rq fs tp ((rq fs tp 0).2.1 + 1)).2.2 → if (rq fs tp ((rq fs tp 0).2.1 + 1)).1 = 0 then _ else _
      intro μ5 f1 f2 f3 f4 f5 f6 f7
      have hx5 : ∀ a k, ¬ frm a k → μ5 a k = μ a k := fun a k g => by
        rw [f1 a k (by unfold frm at g; omega) (by unfold frm at g; omega) (by unfold frm at g; omega)]
        exact hx4 a k g
      refine ifb (fun g2 => ?_) (fun g2 => ?_)
      · rw [if_pos g2] at hR
        subst hR
        exact ⟨Or.inl rfl, h μ5 hx5 f2 f3 f4 (fun g => absurd rfl g)⟩
      · rw [if_neg g2] at hR
        refine s_keepsSide (T := (rq fs tp ((rq fs tp 0).2.1 + 1)).2.2) (by omega) f5 (by omega) f7 (fun μ6 w1 w2 => ?_)
        have hx6 : ∀ a k, ¬ frm a k → μ6 a k = μ a k := fun a k g => by
          rw [w1 a k (by unfold frm at g; omega) (by unfold frm at g; omega)]
          exact hx5 a k g
        have h3 : μ6 248 3 = (tp.length : Int) := (hx6 248 3 (by unfold frm; omega)).trans hT.1
        have h10' : μ6 248 10 = μ5 248 10 := w1 _ _ (by omega) (by omega)
        refine ifb (fun g3 => ⟨Or.inr rfl, ?_⟩) (fun g3 => ⟨Or.inl rfl, ?_⟩)
        · rw [if_pos (by omega)] at hR
          subst hR
          refine h μ6 hx6 (by rw [h10']; exact f2) (by omega) (by omega) (fun _ => ⟨q2.ex ?_ (fun i g5 g6 => ?_), w2⟩)
          · rw [w1 _ _ (by omega) (by omega), f1 _ _ (by omega) (by omega) (by omega)]
          · rw [w1 _ _ (by omega) (by omega), f1 _ _ (by omega) (by omega) (by omega)]
        · rw [if_neg (by omega)] at hR
          subst hR
          exact h μ6 hx6 (by rw [h10']; exact f2) (by omega) (by omega) (fun g => absurd rfl g)
    · rw [e2] at g1
      rw [if_neg g1] at hR
      subst hR
      exact ⟨Or.inl rfl, h μ2 hx2 e2 e3 e4 (fun g => absurd rfl g)⟩
theorem rcl_ok {fs : List Fn} {tp : List Int} (hl : fs.length ≤ 6) (h : (rcl fs tp).1 ≠ 0) : okT fs (rcl fs tp).2.2.1 ∧ okT fs (rcl fs tp).2.2.2 ∧ (rcl fs tp).2.2.1.length ≤ 20 ∧ (rcl fs tp).2.2.2.length ≤ 20 := by
  unfold rcl at h ⊢
  by_cases g : (rq fs tp 0).1 = 0
  · rw [if_pos g] at h; exact absurd rfl h
  · rw [if_neg g] at h ⊢
    by_cases g1 : (rq fs tp 0).2.1 < (tp.length : Int) ∧ gt tp (rq fs tp 0).2.1 = 61
    · rw [if_pos g1] at h ⊢
      by_cases g2 : (rq fs tp ((rq fs tp 0).2.1 + 1)).1 = 0
      · rw [if_pos g2] at h; exact absurd rfl h
      · rw [if_neg g2] at h ⊢
        by_cases g3 : (rq fs tp ((rq fs tp 0).2.1 + 1)).2.1 = (tp.length : Int)
        · rw [if_pos g3]
          have a := rq_ok hl g
          have b := rq_ok hl g2
          exact ⟨a.1, b.1, a.2, b.2⟩
        · rw [if_neg g3] at h; exact absurd rfl h
    · rw [if_neg g1] at h; exact absurd rfl h
theorem op_claim {μ : ZM} (hI : Inv μ) {K : Int → ZM → Prop} (hK : ∀ r μ1, Ans (P_X12_claim μ1) r → K r μ1) : P_X11_claim μ K := by
  obtain ⟨tp, fs, cl, ls, nt, cs, hc, hm, ho⟩ := hI
  obtain ⟨c1, c2, c3, c4, c5, c6, c7⟩ := id hc
  obtain ⟨m1, m2, m3, m4, m5, m6⟩ := id hm
  have fl := c2.2.1
  have tl := c1.2.1.1
  refine s_readClaim ho.1 c1 c2 (fun μ1 e1 e2 e3 e4 e5 => ?_)
  have rm1 : RM μ1 tp fs cl ls nt cs := hm.fr (fun a k h => e1 a k (by unfold frk; omega))
  have rc1 : RC μ1 tp fs cl ls nt cs := hc.fr (fun a k h => e1 a k (by unfold frk; unfold oC at h; omega))
  refine ifb (fun g => ⟨⟨by omega, by omega⟩, hK _ _ (fun K' hK' => ?_)⟩) (fun g => ?_)
  · have hx0 : ∀ a k, ¬ frm a k → z_upd μ1 248 10 0 a k = μ1 a k := fun a k g => zu_f (by unfold frm at g; omega)
    unfold P_X12_claim
    simp only [z_wr]
    refine s_readsClaim ho.1 (rm1.1.rd hx0) (rm1.2.1.rd hx0) zu_s (fun μ2 f1 f2 f3 f4 f5 => ?_)
    rw [if_pos g]
    refine ⟨⟨by omega, by omega⟩, ?_⟩
    rw [f2, ← e2]
    have hy : ∀ a k, ¬ frm a k → μ2 a k = μ1 a k := fun a k g => (f1 a k g).trans (hx0 a k g)
    refine hK' _ ⟨tp, fs, cl, ls, nt, cs, rc1.frM (fun a k h => hy a k (by unfold frm; omega)), ?_, ho⟩
    obtain ⟨n1, n2, n3, n4, n5, n6⟩ := rm1
    refine ⟨n1.rd hy, n2.rd hy, n3.fr (fun q hq => by have := ho.2.1 q hq; omega) (hy _ _ (by unfold frm; omega)) (fun k h => hy _ _ (by unfold frm; omega)) (fun k h => hy _ _ (by unfold frm; omega)), n4.fr (hy _ _ (by unfold frm; omega)) (fun k h => hy _ _ (by unfold frm; omega)) (fun k h => hy _ _ (by unfold frm; omega)), n5.fr (hy _ _ (by unfold frm; omega)) (fun k => hy _ _ (by unfold frm; omega)) (fun k => hy _ _ (by unfold frm; omega)), n6.fr (hy _ _ (by unfold frm; omega)) (hy _ _ (by unfold frm; omega)) (hy _ _ (by unfold frm; omega)) (hy _ _ (by unfold frm; omega))⟩
  · obtain ⟨t1, t2⟩ := e5 g
    obtain ⟨o1, o2, o3, o4⟩ := rcl_ok fl g
    generalize hA : (rcl fs tp).2.2.1 = A at *
    generalize hB : (rcl fs tp).2.2.2 = B at *
    refine ⟨by omega, s_copy (T := A) (by unfold z_tm; omega) (by unfold z_tm; omega) (by omega) t1 (by omega) (fun μ2 f1 f2 => ⟨by omega, s_copy (T := B) (by unfold z_tm; omega) (by unfold z_tm; omega) (by omega) (t2.ex (fun k => f1 _ _ (by omega) (by omega) (by omega)) (fun k => f1 _ _ (by omega) (by omega) (by omega)) (fun k => f1 _ _ (by omega) (by omega) (by omega))) (by omega) (fun μ3 g1 g2 => ⟨Or.inr rfl, ?_⟩)⟩)⟩
    have hx3 : ∀ a k, ¬ frk a k → ¬ (103 ≤ a ∧ a ≤ 108) → ¬ (a = 206 ∧ k = 11) → z_upd μ3 206 11 1 a k = μ a k := fun a k h1 h2 h3 => by
      rw [zu_f h3, g1 _ _ (by omega) (by omega) (by omega), f1 _ _ (by omega) (by omega) (by omega)]
      exact e1 a k h1
    have T1 : Tm (z_upd μ3 206 11 1) fs 103 A := f2.ex (fun k => by rw [zu_n (by decide), g1 _ _ (by decide) (by decide) (by decide)]) (fun k => by rw [zu_n (by decide), g1 _ _ (by decide) (by decide) (by decide)]) (fun k => by rw [zu_n (by decide), g1 _ _ (by decide) (by decide) (by decide)])
    have T2 : Tm (z_upd μ3 206 11 1) fs 106 B := g2.ex (fun k => by rw [zu_n (by decide)]) (fun k => by rw [zu_n (by decide)]) (fun k => by rw [zu_n (by decide)])
    have hx206 : z_upd μ3 206 11 1 206 11 = 1 := zu_s
    show zin _ ∧ _
    generalize z_upd μ3 206 11 1 = μ4 at hx3 T1 T2 hx206 ⊢
    rw [T1.1, T2.1]
    refine ⟨⟨by omega, by omega⟩, hK _ _ (fun K' hK' => ?_)⟩
    have rm4 : RM μ4 tp fs cl ls nt cs := hm.fr (fun a k h => hx3 a k (by unfold frk; omega) (by omega) (by omega))
    have hx0 : ∀ a k, ¬ frm a k → z_upd μ4 248 10 0 a k = μ4 a k := fun a k g => zu_f (by unfold frm at g; omega)
    unfold P_X12_claim
    simp only [z_wr]
    refine s_readsClaim ho.1 (rm4.1.rd hx0) (rm4.2.1.rd hx0) zu_s (fun μ5 k1 k2 k3 k4 k5 => ?_)
    have hy : ∀ a k, ¬ frm a k → μ5 a k = μ4 a k := fun a k g => (k1 a k g).trans (hx0 a k g)
    obtain ⟨s1, s2⟩ := k5 g
    rw [hA] at s1
    rw [hB] at s2
    rw [if_neg g]
    refine s_copies (T := A) (by omega) (by omega) (by omega) s1 (by omega) (fun μ6 q1 q2 => s_copies (T := B) (by omega) (by omega) (by omega) (s2.ex (q1 _ _ (by omega) (by omega)) (fun i h1 h2 => q1 _ _ (by omega) (by omega))) (by omega) (fun μ7 w1 w2 => ⟨Or.inr rfl, ?_⟩))
    have hz : ∀ a k, ¬ frm a k → ¬ (a = 249 ∧ 0 ≤ k ∧ k < 256) → ¬ (a = 250 ∧ 0 ≤ k ∧ k < 2) → ¬ (a = 248 ∧ k = 9) → z_upd μ7 248 9 1 a k = μ4 a k := fun a k h1 h2 h3 h4 => by
      rw [zu_f h4, w1 a k (by omega) (by omega), q1 a k (by omega) (by omega)]
      exact hy a k h1
    have S1 : Sl (z_upd μ7 248 9 1) 0 A := q2.ex (by rw [zu_n (by decide), w1 _ _ (by omega) (by omega)]) (fun i h1 h2 => by rw [zu_n (by decide), w1 _ _ (by omega) (by omega)])
    have S2 : Sl (z_upd μ7 248 9 1) 1 B := w2.ex (by rw [zu_n (by decide)]) (fun i h1 h2 => by rw [zu_n (by decide)])
    have h9 : z_upd μ7 248 9 1 248 9 = 1 := zu_s
    show _ ∧ _
    generalize z_upd μ7 248 9 1 = μ8 at hz S1 S2 h9 ⊢
    rw [S1.1, S2.1]
    refine ⟨by omega, by omega, ⟨by omega, by omega⟩, hK' _ ⟨tp, fs, some (A, B), ls, nt, cs, ?_, ?_, ho.1, fun q hq => ?_, ho.2.2⟩⟩
    · have E : ∀ a k, ¬ frk a k → ¬ (103 ≤ a ∧ a ≤ 108) → ¬ (a = 206 ∧ k = 11) → a < 248 → μ8 a k = μ a k := fun a k h1 h2 h3 h4 => (hz a k (by unfold frm; omega) (by omega) (by omega) (by omega)).trans (hx3 a k h1 h2 h3)
      have E4 : ∀ a, a < 248 → ∀ k, μ8 a k = μ4 a k := fun a h4 k => hz a k (by unfold frm; omega) (by omega) (by omega) (by omega)
      refine ⟨c1.fr (E _ _ (by unfold frk; omega) (by omega) (by omega) (by omega)) (fun k => E _ _ (by unfold frk; omega) (by omega) (by omega) (by omega)), c2.fr (fun a h k => E _ _ (by unfold frk; omega) (by omega) (by omega) (by omega)) (E _ _ (by unfold frk; omega) (by omega) (by omega) (by omega)), ⟨(E4 _ (by omega) _).trans hx206, T1.ex (E4 _ (by omega)) (E4 _ (by omega)) (E4 _ (by omega)), T2.ex (E4 _ (by omega)) (E4 _ (by omega)) (E4 _ (by omega))⟩, c4.fr (fun a h k => E _ _ (by unfold frk; omega) (by omega) (by omega) (by omega)) (E _ _ (by unfold frk; omega) (by omega) (by omega) (by omega)), c5.fr (E _ _ (by unfold frk; omega) (by omega) (by omega) (by omega)) (fun k => E _ _ (by unfold frk; omega) (by omega) (by omega) (by omega)) (fun k => E _ _ (by unfold frk; omega) (by omega) (by omega) (by omega)), c6.fr (E _ _ (by unfold frk; omega) (by omega) (by omega) (by omega)) (fun k => E _ _ (by unfold frk; omega) (by omega) (by omega) (by omega)), c7.fr (fun a k h h' => E _ _ (by unfold frk; omega) (by omega) (by omega) (by omega))⟩
    · obtain ⟨n1, n2, n3, n4, n5, n6⟩ := rm4
      exact ⟨n1.fr (hz _ _ (by unfold frm; omega) (by omega) (by omega) (by omega)) (fun k => hz _ _ (by unfold frm; omega) (by omega) (by omega) (by omega)), n2.fr (fun a h k => hz _ _ (by unfold frm; omega) (by omega) (by omega) (by omega)) (hz _ _ (by unfold frm; omega) (by omega) (by omega) (by omega)), ⟨h9, S1, S2⟩, n4.fr (hz _ _ (by unfold frm; omega) (by omega) (by omega) (by omega)) (fun k h => hz _ _ (by unfold frm; omega) (by omega) (by omega) (by omega)) (fun k h => hz _ _ (by unfold frm; omega) (by omega) (by omega) (by omega)), n5.fr (hz _ _ (by unfold frm; omega) (by omega) (by omega) (by omega)) (fun k => hz _ _ (by unfold frm; omega) (by omega) (by omega) (by omega)) (fun k => hz _ _ (by unfold frm; omega) (by omega) (by omega) (by omega)), n6.fr (hz _ _ (by unfold frm; omega) (by omega) (by omega) (by omega)) (hz _ _ (by unfold frm; omega) (by omega) (by omega) (by omega)) (hz _ _ (by unfold frm; omega) (by omega) (by omega) (by omega)) (hz _ _ (by unfold frm; omega) (by omega) (by omega) (by omega))⟩
    · injection hq with hq
      subst hq
      exact ⟨o1, o2, o3, o4⟩
