/-! ===== texts: reading a term ===== -/
theorem zu_f {μ : ZM} {a i v b k : Int} (h : ¬ (b = a ∧ k = i)) : z_upd μ a i v b k = μ b k := by unfold z_upd; rw [if_neg h]
/-- parts of a code; -9: it can't stand there -/
def pa (fs : List Fn) (hx hy hz own oa c : Int) : Int := if c = 90 then 0 else if c = 83 then 1 else if c = 120 then (if hx = 0 then -9 else 0) else if c = 121 then (if hy = 0 then -9 else 0) else if c = 122 then (if hz = 0 then -9 else 0) else if 97 ≤ c ∧ c < 97 + (fs.length : Int) then (gf fs (c - 97)).1 else if own ≠ 0 ∧ c = 97 + (fs.length : Int) then oa else -9
def mo (fs : List Fn) (own c : Int) : Int := if own ≠ 0 ∧ c = 97 + (fs.length : Int) then 1 else 0
def rt (fs : List Fn) (hx hy hz own oa : Int) (tp : List Int) (room : Int) : Nat → Int → Int → Int → List Int → Int × Int × List Int
  | 0, p, _, _, acc => (1, p, acc)
  | n + 1, p, nd, mx, acc =>
    if nd ≤ 0 then (1, p, acc)
    else if p = (tp.length : Int) then (0, p, acc)
    else if (mx ≠ 0 ∧ gt tp p ≠ 120) ∨ pa fs hx hy hz own oa (gt tp p) < 0 ∨ room < (acc.length : Int) + nd + pa fs hx hy hz own oa (gt tp p) then (0, p, acc)
    else rt fs hx hy hz own oa tp room n (p + 1) (nd + pa fs hx hy hz own oa (gt tp p) - 1) (mo fs own (gt tp p)) (acc ++ [gt tp p])
theorem rt_done {fs : List Fn} {hx hy hz own oa : Int} {tp : List Int} {room : Int} {n : Nat} {p nd mx : Int} {acc : List Int} (h : nd ≤ 0) : rt fs hx hy hz own oa tp room n p nd mx acc = (1, p, acc) := by
  cases n with
  | zero => rfl
  | succ n => unfold rt; rw [if_pos h]
theorem rt_step {fs : List Fn} {hx hy hz own oa : Int} {tp : List Int} {room : Int} {n : Nat} {p nd mx : Int} {acc : List Int} (hn : n ≠ 0) (h : ¬ nd ≤ 0) : rt fs hx hy hz own oa tp room n p nd mx acc = if p = (tp.length : Int) then (0, p, acc)
    else if (mx ≠ 0 ∧ gt tp p ≠ 120) ∨ pa fs hx hy hz own oa (gt tp p) < 0 ∨ room < (acc.length : Int) + nd + pa fs hx hy hz own oa (gt tp p) then (0, p, acc)
    else rt fs hx hy hz own oa tp room (n - 1) (p + 1) (nd + pa fs hx hy hz own oa (gt tp p) - 1) (mo fs own (gt tp p)) (acc ++ [gt tp p]) := by
  cases n with
  | zero => exact absurd rfl hn
  | succ n =>
    rw [show n + 1 - 1 = n from rfl]
    conv => lhs; unfold rt
    rw [if_neg h]
theorem pa_le {fs : List Fn} {hx hy hz own oa c : Int} (ho : okF fs) (hoa : oa = 1 ∨ oa = 2) : pa fs hx hy hz own oa c = -9 ∨ (0 ≤ pa fs hx hy hz own oa c ∧ pa fs hx hy hz own oa c ≤ 2) := by
  unfold pa
  repeat' split
  all_goals first | omega | skip
  rename_i h
  have := (ho (c - 97) (by omega) (by omega)).1
  omega
/-! class -/
theorem s_add {t c : Int} {μ : ZM} {K : Int → ZM → Prop} (ht : z_tm t) (hs : 0 ≤ μ t 2 ∧ μ t 2 < 40) (h : K 1 (z_upd (z_upd μ (t + 1) (μ t 2) c) t 2 (μ t 2 + 1))) : P_X10_add t c μ K := by
  refine ⟨ht, ifb (fun g => absurd g (by omega)) (fun _ => ifb (fun _ => ⟨hs, ?_⟩) (fun g => absurd g (by omega)))⟩
  show zin _ ∧ _
  rw [zu_n (show t ≠ t + 1 by omega)]
  exact ⟨⟨by omega, by omega⟩, Or.inr rfl, h⟩
theorem s_isOwn {fs : List Fn} {own c : Int} {μ : ZM} {K : Int → ZM → Prop} (hf : μ 207 4 = (fs.length : Int)) (hl : fs.length ≤ 6) (h6 : μ 212 6 = own) (h : K (mo fs own c) μ) : P_X9_isOwn c μ K := by
  unfold mo at h
  refine ifb (fun g => ⟨Or.inl rfl, ?_⟩) (fun g => ⟨⟨by omega, by omega⟩, ifb (fun g1 => ⟨Or.inr rfl, ?_⟩) (fun g1 => ⟨Or.inl rfl, ?_⟩)⟩)
  · rw [if_neg (by omega)] at h; exact h
  · rw [if_pos (by omega)] at h; exact h
  · rw [if_neg (by omega)] at h; exact h
theorem s_argumentsOf {fs : List Fn} {hx hy hz own oa c : Int} {μ : ZM} {K : Int → ZM → Prop} (hF : CF μ fs) (hc : 0 ≤ c ∧ c < 1000) (h5 : own ≠ 0 → μ 212 5 = oa) (h6 : μ 212 6 = own) (h7 : μ 212 7 = hx) (h8 : μ 212 8 = hy) (h9 : μ 212 9 = hz) (h : K (pa fs hx hy hz own oa c) μ) : P_X9_argumentsOf c μ K := by
  obtain ⟨f1, f2, f3, -⟩ := hF
  have fin : ¬ (97 ≤ c ∧ c < 97 + (fs.length : Int)) → P_X9_argumentsOf_36 c μ K := by
    intro hn
    refine s_isOwn f1 f2 h6 ?_
    unfold mo
    by_cases ho : own ≠ 0 ∧ c = 97 + (fs.length : Int)
    · rw [if_pos ho]
      refine if1 ?_
      unfold pa at h
      rw [if_neg (by omega), if_neg (by omega), if_neg (by omega), if_neg (by omega), if_neg (by omega), if_neg hn, if_pos ho] at h
      rw [h5 ho.1]; exact h
    · rw [if_neg ho]
      refine if0 ?_
      unfold pa at h
      rw [h7, h8, h9]
      by_cases e1 : c = 90
      · rw [if_pos e1] at h
        rw [if_neg (by omega), if_pos e1]; exact h
      · rw [if_neg e1] at h
        rw [if_neg hn, if_neg ho] at h
        by_cases e2 : c = 83
        · rw [if_pos e2] at h ⊢; exact h
        · rw [if_neg e2] at h ⊢
          rw [if_neg e1]
          by_cases e3 : c = 120
          · rw [if_pos e3] at h ⊢
            by_cases e : hx = 0
            · rw [if_pos e] at h ⊢; exact h
            · rw [if_neg e] at h ⊢; exact h
          · rw [if_neg e3] at h ⊢
            by_cases e4 : c = 121
            · rw [if_pos e4] at h ⊢
              by_cases e : hy = 0
              · rw [if_pos e] at h ⊢; exact h
              · rw [if_neg e] at h ⊢; exact h
            · rw [if_neg e4] at h ⊢
              by_cases e5 : c = 122
              · rw [if_pos e5] at h ⊢
                by_cases e : hz = 0
                · rw [if_pos e] at h ⊢; exact h
                · rw [if_neg e] at h ⊢; exact h
              · rw [if_neg e5] at h ⊢; exact h
  refine ⟨⟨by omega, by omega⟩, ifb (fun g => fin (by omega)) (fun g => ifb (fun g1 => fin (by omega)) (fun g1 => ifb (fun g2 => fin (by omega)) (fun g2 => ⟨by omega, ?_⟩)))⟩
  unfold pa at h
  rw [if_neg (by omega), if_neg (by omega), if_neg (by omega), if_neg (by omega), if_neg (by omega), if_pos (by omega)] at h
  rw [(f3 (c - 97) (by omega) (by omega)).1]
  exact h
theorem s_readTerm {fs : List Fn} {hx hy hz own oa : Int} {tp : List Int} {t room p : Int} {μ : ZM} {K : Int → ZM → Prop} (ho : okF fs) (hT : CT μ tp) (hF : CF μ fs) (ht : z_tm t ∧ 169 ≤ t ∧ t ≤ 175) (hr : 1 ≤ room ∧ room ≤ 20) (h4 : μ 212 4 = p ∧ 0 ≤ p ∧ p ≤ (tp.length : Int)) (h5 : (own ≠ 0 → μ 212 5 = oa) ∧ (oa = 1 ∨ oa = 2)) (h6 : μ 212 6 = own) (h7 : μ 212 7 = hx) (h8 : μ 212 8 = hy) (h9 : μ 212 9 = hz)
    (h : ∀ μ', (∀ a k, ¬ (a = t ∧ k = 2) → a ≠ t + 1 → ¬ (a = 212 ∧ k = 4) → μ' a k = μ a k) → μ' 212 4 = (rt fs hx hy hz own oa tp room room.toNat p 1 0 []).2.1 → 0 ≤ μ' 212 4 → μ' 212 4 ≤ (tp.length : Int) → μ' t 2 = ((rt fs hx hy hz own oa tp room room.toNat p 1 0 []).2.2.length : Int) → rp (μ' (t + 1)) (rt fs hx hy hz own oa tp room room.toNat p 1 0 []).2.2 → K (rt fs hx hy hz own oa tp room room.toNat p 1 0 []).1 μ') : P_X9_readTerm t room μ K := by
  generalize hR : rt fs hx hy hz own oa tp room room.toNat p 1 0 [] = R at h
  refine ⟨ht.1, ht.1, ?_⟩
  show P_X9_readTerm_12 t room 1 0 0 (z_upd μ t 2 0) K
  refine z_lf3_ind (fun nd mx i μ' => ∃ acc : List Int, i = (acc.length : Int) ∧ 0 ≤ nd ∧ i + nd ≤ room ∧ μ' t 2 = i ∧ rp (μ' (t + 1)) acc ∧ 0 ≤ μ' 212 4 ∧ μ' 212 4 ≤ (tp.length : Int) ∧ rt fs hx hy hz own oa tp room (room - i).toNat (μ' 212 4) nd mx acc = R ∧ ∀ a k, ¬ (a = t ∧ k = 2) → a ≠ t + 1 → ¬ (a = 212 ∧ k = 4) → μ' a k = μ a k) (fun nd mx i μ' => (room - i).toNat) ?_ 1 0 0 _ ⟨[], rfl, by omega, by omega, zu_s, fun i h1 h2 => absurd h2 (by simp; omega), by rw [zu_n (by omega)]; omega, by rw [zu_n (by omega)]; omega, by rw [zu_n (by omega), h4.1, Int.sub_zero]; exact hR, fun a k h1 h2 h3 => zu_f h1⟩
  intro nd mx i μ' G ⟨acc, e1, e2, e3, e4, e5, e6, e7, e8, e9⟩ hG
  have fin : nd = 0 → P_X9_readTerm_132 nd μ' K := by
    intro hz0
    rw [rt_done (by omega)] at e8
    subst e8
    refine ifb (fun _ => ⟨Or.inr rfl, h μ' e9 rfl e6 e7 (by rw [e4, e1]) e5⟩) (fun g => absurd hz0 g)
  refine ifb (fun g => fin (by omega)) (fun g => ifb (fun g1 => fin (by omega)) (fun g1 => ifb (fun g2 => absurd g2 (by omega)) (fun _ => ?_)))
  have q3 : μ' 212 3 = (tp.length : Int) := by rw [e9 212 3 (by omega) (by omega) (by omega)]; exact hT.1
  have tl := hT.2.1
  rw [rt_step (by omega) g1] at e8
  refine ifb (fun g3 => ⟨by omega, ?_⟩) (fun g3 => ?_)
  · have hcod : μ' 213 (μ' 212 4) = gt tp (μ' 212 4) := by rw [e9 213 _ (by omega) (by omega) (by omega)]; exact hT.2.2 _ e6 (by omega)
    rw [hcod]
    have hcr := hT.2.1.2 (μ' 212 4) e6 (by omega)
    rw [if_neg (by omega)] at e8
    have fr : ∀ a : Int, ((115 ≤ a ∧ a ≤ 168) ∨ (208 ≤ a ∧ a ≤ 209) ∨ a = 211) → ∀ k, μ' a k = μ a k := fun a ha k => e9 a k (by omega) (by omega) (by omega)
    have hF' : CF μ' fs := hF.fr fr (e9 207 4 (by omega) (by omega) (by omega))
    refine s_argumentsOf hF' (by omega) (fun hw => (e9 212 5 (by omega) (by omega) (by omega)).trans (h5.1 hw)) ((e9 212 6 (by omega) (by omega) (by omega)).trans h6) ((e9 212 7 (by omega) (by omega) (by omega)).trans h7) ((e9 212 8 (by omega) (by omega) (by omega)).trans h8) ((e9 212 9 (by omega) (by omega) (by omega)).trans h9) ?_
    have hpa := pa_le (hx := hx) (hy := hy) (hz := hz) (own := own) (c := gt tp (μ' 212 4)) ho h5.2
    generalize hpv : pa fs hx hy hz own oa (gt tp (μ' 212 4)) = pv at hpa e8 ⊢
    have bad : ((mx ≠ 0 ∧ gt tp (μ' 212 4) ≠ 120) ∨ pv < 0 ∨ room < (acc.length : Int) + nd + pv) → zb 0 ∧ K 0 μ' := by
      intro hb
      rw [if_pos hb] at e8
      subst e8
      exact ⟨Or.inl rfl, h μ' e9 rfl e6 e7 (by rw [e4, e1]) e5⟩
    have good : ¬ (mx ≠ 0 ∧ gt tp (μ' 212 4) ≠ 120) → 0 ≤ pv → P_X9_readTerm_82 G t room nd i (gt tp (μ' 212 4)) pv μ' K := by
      intro hmx hpv0
      refine ⟨⟨by omega, by omega⟩, ⟨by omega, by omega⟩, ⟨by omega, by omega⟩, ⟨by omega, by omega⟩, ifb (fun g5 => ?_) (fun g5 => bad (Or.inr (Or.inr (by omega))))⟩
      rw [if_neg (by omega)] at e8
      refine s_isOwn hF'.1 hF'.2.1 ((e9 212 6 (by omega) (by omega) (by omega)).trans h6) (s_add ht.1 (by omega) ?_)
      rw [zu_n (show (212 : Int) ≠ t by omega), zu_n (show (212 : Int) ≠ t + 1 by omega)]
      refine ⟨⟨by omega, by omega⟩, ⟨by omega, by omega⟩, hG _ _ _ _ ⟨acc ++ [gt tp (μ' 212 4)], by simp; omega, by omega, by omega, ?_, ?_, ?_, ?_, ?_, ?_⟩ (by omega)⟩
      · rw [zu_n (by omega), zu_s]; omega
      · refine rp_push e5 ?_ (fun j h1 h2 => ?_)
        · rw [zu_n (by omega), zu_n (by omega), e4, e1, zu_s]
        · rw [zu_n (by omega), zu_n (by omega), zu_k (by omega)]
      · rw [zu_s]; omega
      · rw [zu_s]; omega
      · rw [zu_s, ← e8, show (room - (i + 1)).toNat = (room - i).toNat - 1 by omega, show nd + pv - 1 = nd + (pv - 1) by omega]
      · intro a k h1 h2 h3
        rw [zu_f h3, zu_f h1, zu_n h2]
        exact e9 a k h1 h2 h3
    refine ifb (fun g4 => bad (Or.inr (Or.inl (by omega)))) (fun g4 => ifb (fun g5 => good (by omega) (by omega)) (fun g5 => ifb (fun g6 => good (by omega) (by omega)) (fun g6 => bad (Or.inl ⟨g5, g6⟩))))
  · rw [if_pos (by omega)] at e8
    subst e8
    exact ⟨Or.inl rfl, h μ' e9 rfl e6 e7 (by rw [e4, e1]) e5⟩
