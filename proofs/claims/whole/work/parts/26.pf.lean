/-! the reference reads a term -/
theorem s_isVar {c : Int} {μ : ZM} {K : Int → ZM → Prop} (h1 : 120 ≤ c ∧ c ≤ 122 → K 1 μ) (h0 : ¬ (120 ≤ c ∧ c ≤ 122) → K 0 μ) : P_X12_isVariable c μ K := s_wi (fun g => ⟨Or.inr rfl, h1 g⟩) (fun g => ⟨Or.inl rfl, h0 g⟩)
theorem s_partsOf {fs : List Fn} {hx hy hz own oa c : Int} {μ : ZM} {K : Int → ZM → Prop} (hF : MF μ fs) (h13 : own ≠ 0 → μ 248 13 = oa) (h : K (pa fs hx hy hz own oa c) μ) : P_X12_partsOf c hx hy hz (fs.length : Int) own μ K := by
  obtain ⟨f1, f2, f3⟩ := hF
  unfold pa at h
  refine ifb (fun e1 => ifb (fun e => by omega) (fun _ => ?_)) (fun e1 => ifb (fun e2 => ifb (fun _ => ?_) (fun e => absurd e2 e)) (fun e2 => ?_))
  · rw [if_pos e1] at h; exact h
  · rw [if_neg e1, if_pos e2] at h; exact h
  · rw [if_neg e1, if_neg e2] at h
    refine s_isVar (fun g => if1 ?_) (fun g => if0 ?_)
    · refine ifb (fun e3 => ?_) (fun e3 => ifb (fun e4 => ?_) (fun e4 => ?_))
      · rw [if_pos e3] at h
        refine ifb (fun e => ?_) (fun e => ?_)
        · rw [if_pos e] at h; exact h
        · rw [if_neg e] at h; exact h
      · rw [if_neg e3, if_pos e4] at h
        refine ifb (fun e => ?_) (fun e => ?_)
        · rw [if_pos e] at h; exact h
        · rw [if_neg e] at h; exact h
      · rw [if_neg e3, if_neg e4, if_pos (by omega)] at h
        refine ifb (fun e => ?_) (fun e => ?_)
        · rw [if_pos e] at h; exact h
        · rw [if_neg e] at h; exact h
    · rw [if_neg (by omega), if_neg (by omega), if_neg (by omega)] at h
      refine ⟨⟨by omega, by omega⟩, ⟨by omega, by omega⟩, s_wi (fun g1 => if1 ⟨⟨by omega, by omega⟩, by omega, ?_⟩) (fun g1 => if0 (ifb (fun g2 => ?_) (fun g2 => ⟨⟨by omega, by omega⟩, ifb (fun g3 => ?_) (fun g3 => ?_)⟩)))⟩
      · rw [if_pos (by omega)] at h
        rw [(f3 (c - 97) (by omega) (by omega)).1]; exact h
      · rw [if_neg (by omega), if_neg (by omega)] at h; exact h
      · rw [if_neg (by omega), if_pos ⟨g2, g3⟩] at h
        rw [h13 g2]; exact h
      · rw [if_neg (by omega), if_neg (by omega)] at h; exact h
theorem s_readsTerm {fs : List Fn} {hx hy hz own oa : Int} {tp : List Int} {room p : Int} {μ : ZM} {K : Int → ZM → Prop} (ho : okF fs) (hT : MT μ tp) (hF : MF μ fs) (hr : 1 ≤ room ∧ room ≤ 20) (h4 : μ 248 10 = p ∧ 0 ≤ p ∧ p ≤ (tp.length : Int)) (h13 : own ≠ 0 → μ 248 13 = oa) (hoa : oa = 1 ∨ oa = 2)
    (h : ∀ μ', (∀ a k, ¬ (a = 248 ∧ k = 10) → ¬ (a = 248 ∧ k = 12) → a ≠ 256 → μ' a k = μ a k) → μ' 248 10 = (rt fs hx hy hz own oa tp room room.toNat p 1 0 []).2.1 → 0 ≤ μ' 248 10 → μ' 248 10 ≤ (tp.length : Int) → μ' 248 12 = ((rt fs hx hy hz own oa tp room room.toNat p 1 0 []).2.2.length : Int) → ((rt fs hx hy hz own oa tp room room.toNat p 1 0 []).2.2.length : Int) ≤ room → rp (μ' 256) (rt fs hx hy hz own oa tp room room.toNat p 1 0 []).2.2 → K (rt fs hx hy hz own oa tp room room.toNat p 1 0 []).1 μ') : P_X12_readsTerm room hx hy hz (fs.length : Int) own μ K := by
  generalize hR : rt fs hx hy hz own oa tp room room.toNat p 1 0 [] = R at h
  show P_X12_readsTerm_11 room hx hy hz (fs.length : Int) own 1 0 (z_upd μ 248 12 0) K
  refine z_lf2_ind (fun nd mx μ' => ∃ acc : List Int, μ' 248 12 = (acc.length : Int) ∧ 0 ≤ nd ∧ (acc.length : Int) + nd ≤ room ∧ rp (μ' 256) acc ∧ 0 ≤ μ' 248 10 ∧ μ' 248 10 ≤ (tp.length : Int) ∧ rt fs hx hy hz own oa tp room (room - (acc.length : Int)).toNat (μ' 248 10) nd mx acc = R ∧ ∀ a k, ¬ (a = 248 ∧ k = 10) → ¬ (a = 248 ∧ k = 12) → a ≠ 256 → μ' a k = μ a k) (fun nd mx μ' => (room - μ' 248 12).toNat) ?_ 1 0 _ ⟨[], zu_s, by omega, by simp; omega, fun i h1 h2 => absurd h2 (by simp; omega), by rw [zu_k (by omega)]; omega, by rw [zu_k (by omega)]; omega, by rw [zu_k (by omega), h4.1, show (room - (([] : List Int).length : Int)) = room by simp]; exact hR, fun a k h1 h2 h3 => zu_f h2⟩
  intro nd mx μ' G ⟨acc, e1, e2, e3, e5, e6, e7, e8, e9⟩ hG
  refine ifb (fun g => ?_) (fun g1 => ?_)
  · rw [rt_done g] at e8
    subst e8
    exact ⟨Or.inr rfl, h μ' e9 rfl e6 e7 e1 (by show (acc.length : Int) ≤ room; omega) e5⟩
  rw [rt_step (by omega) g1] at e8
  have q3 : μ' 248 3 = (tp.length : Int) := by rw [e9 248 3 (by omega) (by omega) (by omega)]; exact hT.1
  have tl := hT.2.1
  have fl := hF.2.1
  refine ifb (fun g3 => ?_) (fun g3 => ⟨by omega, ?_⟩)
  · rw [if_pos (by omega)] at e8
    subst e8
    exact ⟨Or.inl rfl, h μ' e9 rfl e6 e7 e1 (by show (acc.length : Int) ≤ room; omega) e5⟩
  · have hcod : μ' 251 (μ' 248 10) = gt tp (μ' 248 10) := by rw [e9 251 _ (by omega) (by omega) (by omega)]; exact hT.2.2 _ e6 (by omega)
    rw [hcod]
    rw [if_neg (by omega)] at e8
    have hF' : MF μ' fs := hF.fr (fun a ha k => e9 a k (by omega) (by omega) (by omega)) (e9 248 4 (by omega) (by omega) (by omega))
    have hpa := pa_le (hx := hx) (hy := hy) (hz := hz) (own := own) (c := gt tp (μ' 248 10)) ho hoa
    have tail : ∀ pv : Int, (pv = -9 ∨ (0 ≤ pv ∧ pv ≤ 2)) → ((mx ≠ 0 ∧ gt tp (μ' 248 10) ≠ 120) → pv < 0) → (¬ (mx ≠ 0 ∧ gt tp (μ' 248 10) ≠ 120) → pa fs hx hy hz own oa (gt tp (μ' 248 10)) = pv) → P_X12_readsTerm_71 G room hx hy hz (fs.length : Int) own nd (gt tp (μ' 248 10)) pv μ' K := by
      intro pv hb hmx hpv
      have bad : (pv < 0 ∨ room < (acc.length : Int) + nd + pv) → zb 0 ∧ K 0 μ' := by
        intro hbd
        have : (mx ≠ 0 ∧ gt tp (μ' 248 10) ≠ 120) ∨ pa fs hx hy hz own oa (gt tp (μ' 248 10)) < 0 ∨ room < (acc.length : Int) + nd + pa fs hx hy hz own oa (gt tp (μ' 248 10)) := by
          by_cases hm : mx ≠ 0 ∧ gt tp (μ' 248 10) ≠ 120
          · exact Or.inl hm
          · rw [hpv hm]; exact Or.inr hbd
        rw [if_pos this] at e8
        subst e8
        exact ⟨Or.inl rfl, h μ' e9 rfl e6 e7 e1 (by show (acc.length : Int) ≤ room; omega) e5⟩
      refine ifb (fun g4 => bad (Or.inl g4)) (fun g4 => ⟨⟨by omega, by omega⟩, ⟨by omega, by omega⟩, ifb (fun g5 => ⟨by omega, ?_⟩) (fun g5 => bad (Or.inr (by omega)))⟩)
      have hm : ¬ (mx ≠ 0 ∧ gt tp (μ' 248 10) ≠ 120) := fun q => g4 (hmx q)
      rw [hpv hm, if_neg (by omega)] at e8
      show zin _ ∧ _
      rw [zu_n (by decide)]
      refine ⟨⟨by omega, by omega⟩, ⟨by omega, by omega⟩, ⟨by omega, by omega⟩, ?_⟩
      have last : ∀ mv : Int, mv = mo fs own (gt tp (μ' 248 10)) → P_X12_readsTerm_144 G room hx hy hz (fs.length : Int) own (nd + (pv - 1)) mv (z_upd (z_upd μ' 256 (μ' 248 12) (gt tp (μ' 248 10))) 248 12 (μ' 248 12 + 1)) K := by
        intro mv hmv
        show zin _ ∧ G _ _ _
        rw [zu_k (show (10 : Int) ≠ 12 by decide), zu_n (show (248 : Int) ≠ 256 by decide)]
        refine ⟨⟨by omega, by omega⟩, hG _ _ _ ⟨acc ++ [gt tp (μ' 248 10)], ?_, by omega, by simp; omega, ?_, ?_, ?_, ?_, ?_⟩ ?_⟩
        · rw [zu_k (by decide), zu_s, e1]; simp
        · refine rp_push e5 ?_ (fun j h1 h2 => ?_)
          · rw [zu_n (by decide), zu_n (by decide), e1, zu_s]
          · rw [zu_n (by decide), zu_n (by decide), zu_k (by omega)]
        · rw [zu_s]; omega
        · rw [zu_s]; omega
        · rw [zu_s, ← e8, hmv, show nd + pv - 1 = nd + (pv - 1) by omega, show (room - ((acc ++ [gt tp (μ' 248 10)]).length : Int)).toNat = (room - (acc.length : Int)).toNat - 1 by simp; omega]
        · intro a k h1 h2 h3
          rw [zu_f h1, zu_f h2, zu_n h3]
          exact e9 a k h1 h2 h3
        · rw [zu_k (by decide), zu_s]; omega
      unfold mo at last
      refine ifb (fun g6 => ?_) (fun g6 => ⟨⟨by omega, by omega⟩, ifb (fun g7 => ?_) (fun g7 => ?_)⟩)
      · exact last 0 (by rw [if_neg (by omega)])
      · exact last 1 (by rw [if_pos ⟨g6, g7⟩])
      · exact last 0 (by rw [if_neg (by omega)])
    have mid : ¬ (mx ≠ 0 ∧ gt tp (μ' 248 10) ≠ 120) → P_X12_readsTerm_57 G room hx hy hz (fs.length : Int) own nd (gt tp (μ' 248 10)) μ' K := fun hm => s_partsOf (oa := oa) hF' (fun hw => (e9 248 13 (by omega) (by omega) (by omega)).trans (h13 hw)) (tail _ hpa (fun q => absurd q hm) (fun _ => rfl))
    exact ifb (fun g4 => mid (by omega)) (fun g4 => ifb (fun g5 => mid (by omega)) (fun g5 => tail (-9) (Or.inl rfl) (fun _ => by omega) (fun q => absurd ⟨g4, g5⟩ q)))
