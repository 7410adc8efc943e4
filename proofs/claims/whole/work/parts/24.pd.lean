theorem gl_drop {ls : List (List Int × List Int)} {k : Int} (h : 0 ≤ k ∧ k < (ls.length : Int) - 1) : gl ls.dropLast k = gl ls k := by
  unfold gl
  rw [List.getD_eq_getElem?_getD, List.getD_eq_getElem?_getD, List.getElem?_dropLast, if_pos (by omega)]
theorem op_back {μ : ZM} (hI : Inv μ) {K : Int → ZM → Prop} (hK : ∀ r μ1, Ans (P_X12_back μ1) r → K r μ1) : P_X11_back μ K := by
  have hI0 := hI
  obtain ⟨tp, fs, cl, ls, nt, cs, ⟨c1, c2, c3, c4, c5, c6, c7⟩, ⟨m1, m2, m3, m4, m5, m6⟩, ho⟩ := hI
  obtain ⟨a1, a2, a3⟩ := c4
  obtain ⟨b1, b2, b3⟩ := m4
  refine ifb (fun h => ⟨⟨by omega, by omega⟩, hK _ _ (fun K' hK' => ?_)⟩) (fun h => hK _ _ (Ans.same hI0 (fun K' h' => ?_)))
  · unfold P_X12_back
    simp only [z_wr]
    rw [if_neg (by rw [zu_n (by decide)]; omega)]
    simp only [zu_s, zu_n (show (248 : Int) ≠ 238 by decide)] at hK' ⊢
    refine ⟨⟨by omega, by omega⟩, ?_⟩
    rw [show μ 238 1 - 1 = μ 248 35 - 1 by omega] at hK' ⊢
    have hlen : ((ls.dropLast.length : Nat) : Int) = (ls.length : Int) - 1 := by rw [List.length_dropLast]; omega
    refine hK' _ ⟨tp, fs, cl, ls.dropLast, nt, cs, ⟨?_, ?_, ?_, ⟨?_, by omega, fun k h1 h2 => ?_⟩, ?_, ?_, ?_⟩, ⟨?_, ?_, ?_, ⟨?_, by omega, fun k h1 h2 => ?_⟩, ?_, ?_⟩, ho.1, ho.2.1, fun q hq => ho.2.2 q (ls.dropLast_sublist.subset hq)⟩
    · exact c1.fr (by simp [z_upd]) (fun k => by simp [z_upd])
    · exact c2.fr (fun a h k => by rw [zu_n (by omega), zu_n (by omega)]) (by simp [z_upd])
    · exact c3.fr (fun a h k => by rw [zu_n (by omega), zu_n (by omega)]) (by simp [z_upd])
    · rw [zu_n (by decide), zu_s, hlen]; omega
    · rw [gl_drop (by omega)]
      obtain ⟨t1, t2⟩ := a3 k h1 (by omega)
      have E : ∀ a : Int, 1 ≤ a ∧ a ≤ 48 → ∀ j, z_upd (z_upd μ 238 1 (μ 248 35 - 1)) 248 35 (μ 248 35 - 1) a j = μ a j := fun a h j => by rw [zu_n (by omega), zu_n (by omega)]
      exact ⟨t1.ex (E _ (by omega)) (E _ (by omega)) (E _ (by omega)), t2.ex (E _ (by omega)) (E _ (by omega)) (E _ (by omega))⟩
    · exact c5.fr (by simp [z_upd]) (fun k => by simp [z_upd]) (fun k => by simp [z_upd])
    · exact c6.fr (by simp [z_upd]) (fun k => by simp [z_upd])
    · exact c7.fr (fun a k h h' => by rw [zu_n (by omega), zu_n (by omega)])
    · exact m1.fr (by simp [z_upd]) (fun k => by simp [z_upd])
    · exact m2.fr (fun a h k => by rw [zu_n (by omega), zu_n (by omega)]) (by simp [z_upd])
    · exact m3.fr (fun q hq => by have := ho.2.1 q hq; omega) (by simp [z_upd]) (fun k _ => by simp [z_upd]) (fun k _ => by simp [z_upd])
    · rw [zu_s, hlen]; omega
    · rw [gl_drop (by omega)]
      obtain ⟨t1, t2⟩ := b3 k h1 (by omega)
      exact ⟨t1.ex (by simp [z_upd]) (fun i _ _ => by simp [z_upd]), t2.ex (by simp [z_upd]) (fun i _ _ => by simp [z_upd])⟩
    · exact m5.fr (by simp [z_upd]) (fun k => by simp [z_upd]) (fun k => by simp [z_upd])
    · exact m6.fr (by simp [z_upd]) (by simp [z_upd]) (by simp [z_upd]) (by simp [z_upd])
  · unfold P_X12_back
    rw [if_pos (by omega)]
    exact h'
theorem gt_app {A B : List Int} {i : Int} (h : 0 ≤ i) : gt (A ++ B) i = if i < (A.length : Int) then gt A i else gt B (i - A.length) := by
  unfold gt
  by_cases e : i < (A.length : Int)
  · rw [if_pos e, List.getD_eq_getElem?_getD, List.getD_eq_getElem?_getD, List.getElem?_append_left (by omega)]
  · rw [if_neg e, List.getD_eq_getElem?_getD, List.getD_eq_getElem?_getD, List.getElem?_append_right (by omega), show i.toNat - A.length = (i - (A.length : Int)).toNat by omega]
theorem gt_rep {n : Nat} {v i : Int} (h : 0 ≤ i ∧ i < (n : Int)) : gt (List.replicate n v) i = v := by
  unfold gt
  rw [List.getD_eq_getElem?_getD, List.getElem?_replicate, if_pos (by omega)]
  rfl
theorem op_why {x : Int} {μ : ZM} (hI : Inv μ) {K : Int → ZM → Prop} (hK : ∀ r μ1, Ans (P_X12_why x μ1) r → K r μ1) : P_X11_why x μ K := by
  have hI0 := hI
  obtain ⟨tp, fs, cl, ls, nt, cs, ⟨c1, c2, c3, c4, c5, c6, c7⟩, ⟨m1, m2, m3, m4, m5, m6⟩, ho⟩ := hI
  have key : ∀ r : Int, (∀ K' : Int → ZM → Prop, K' r μ → P_X12_why x μ K') → K r μ := fun r h => hK _ _ (Ans.same hI0 h)
  obtain ⟨a1, a2, a3⟩ := c6
  obtain ⟨w1, w2⟩ := m6
  have sol : 0 ≤ x ∧ x ≤ 9 → ∀ K' : Int → ZM → Prop, K' (if (cs.length : Int) ≤ x then -9 else gt cs x) μ → P_X12_why x μ K' := by
    intro h K' h'
    refine s_wi (fun _ => if1 ?_) (fun g => absurd g (by omega))
    unfold wl at w1
    by_cases o3 : μ 248 42 = 3
    · rw [if_pos o3] at w1 ⊢
      subst w1
      refine ifb (fun g => ?_) (fun g => ?_)
      · subst g; exact h'
      · rw [if_pos (by simp; omega)] at h'; exact h'
    · rw [if_neg o3] at w1 ⊢
      by_cases o12 : μ 248 42 = 1 ∨ μ 248 42 = 2
      · rw [if_pos o12] at w1
        have fl := w2 o12
        have fin : P_X12_why_51 x μ K' := by
          have hlen : (cs.length : Int) = μ 248 43 + 1 + (if μ 248 45 = 0 then 0 else 1) := by
            rw [w1]
            by_cases hd : μ 248 45 = 0
            · rw [if_pos hd, if_pos hd]; simp; omega
            · rw [if_neg hd, if_neg hd]; simp; omega
          have hrl : ((List.replicate (μ 248 43).toNat (2 : Int)).length : Int) = μ 248 43 := by simp; omega
          refine ifb (fun g => ifb (fun g1 => ?_) (fun g1 => ⟨⟨by omega, by omega⟩, ifb (fun g2 => ifb (fun g3 => ?_) (fun g3 => ?_)) (fun g2 => ?_)⟩)) (fun g => ?_)
          · rw [if_neg (by split at hlen <;> omega), w1, gt_app (by omega), if_pos (by simp; omega), gt_app (by omega), if_neg (by omega), hrl, show x - μ 248 43 = 0 by omega] at h'
            exact h'
          · rw [if_pos (by rw [if_pos g3] at hlen; omega)] at h'; exact h'
          · rw [if_neg (by rw [if_neg g3] at hlen; omega), w1, gt_app (by omega), if_neg (by simp; omega), if_neg g3, show x - ((List.replicate (μ 248 43).toNat (2 : Int) ++ [μ 248 44]).length : Int) = 0 by simp; omega] at h'
            exact h'
          · rw [if_pos (by split at hlen <;> omega)] at h'; exact h'
          · rw [if_neg (by split at hlen <;> omega), w1, gt_app (by omega), if_pos (by simp; omega), gt_app (by omega), if_pos (by omega), gt_rep (by omega)] at h'
            exact h'
        exact ifb (fun _ => fin) (fun _ => ifb (fun _ => fin) (fun _ => by omega))
      · rw [if_neg o12] at w1
        subst w1
        rw [if_neg (by omega), if_neg (by omega)]
        rw [if_pos (by simp; omega)] at h'; exact h'
  refine s_out (fun h => if1 (key _ (fun K' h' => s_wi (fun g => absurd g (by omega)) (fun _ => if0 h')))) (fun h => if0 (ifb (fun h1 => key _ (fun K' h' => sol h K' ?_)) (fun h1 => ⟨by omega, key _ (fun K' h' => sol h K' ?_)⟩)))
  · rw [if_pos (by omega)]; exact h'
  · rw [if_neg (by omega), ← a3 x (by omega) (by omega)]; exact h'
theorem s_forgetAll {μ : ZM} {K : ZM → Prop} (h : ∀ μ', (∀ a k, μ' a k = if a = 207 ∧ k = 4 then 0 else if a = 211 ∧ 97 ≤ k ∧ k < 103 then 0 else μ a k) → K μ') : P_X3_forgetAll μ K := by
  refine z_lf1_ind (fun i μ' => 0 ≤ i ∧ i ≤ 6 ∧ ∀ a k, μ' a k = if a = 211 ∧ 97 ≤ k ∧ k < 97 + i then 0 else μ a k) (fun i _ => (6 - i).toNat) ?_ 0 μ ⟨by omega, by omega, fun a k => by rw [if_neg (by omega)]⟩
  intro i μ' G ⟨h1, h2, h3⟩ hG
  refine ifb (fun g => h _ (fun a k => ?_)) (fun g => ⟨⟨by omega, by omega⟩, ⟨by omega, by omega⟩, ⟨by omega, by omega⟩, hG _ _ ⟨by omega, by omega, fun a k => ?_⟩ (by omega)⟩)
  · unfold z_upd
    by_cases e : a = 207 ∧ k = 4
    · rw [if_pos e, if_pos e]
    · rw [if_neg e, if_neg e, h3, show i = 6 by omega]
      rfl
  · unfold z_upd
    by_cases e : a = 211 ∧ k = 97 + i
    · rw [if_pos e, if_pos (by omega)]
    · rw [if_neg e, h3]
      by_cases e2 : a = 211 ∧ 97 ≤ k ∧ k < 97 + i
      · rw [if_pos e2, if_pos (by omega)]
      · rw [if_neg e2, if_neg (by omega)]
theorem op_anew {μ : ZM} (hI : Inv μ) {K : Int → ZM → Prop} (hK : ∀ r μ1, Ans (P_X12_anew μ1) r → K r μ1) : P_X11_anew μ K := by
  obtain ⟨tp, fs, cl, ls, nt, cs, ⟨c1, c2, c3, c4, c5, c6, c7⟩, ⟨m1, m2, m3, m4, m5, m6⟩, ho⟩ := hI
  unfold P_X11_anew P_X7_empty
  simp only [z_wr]
  refine s_forgetAll (fun μ1 e1 => ⟨Or.inl rfl, hK _ _ (fun K' hK' => ?_)⟩)
  have hx : ∀ a k : Int, z_upd (z_upd (z_upd (z_upd μ1 238 1 0) 240 3 0) 240 4 0) 206 11 0 a k = if a = 206 ∧ k = 11 then 0 else if a = 240 ∧ k = 4 then 0 else if a = 240 ∧ k = 3 then 0 else if a = 238 ∧ k = 1 then 0 else if a = 207 ∧ k = 4 then 0 else if a = 211 ∧ 97 ≤ k ∧ k < 103 then 0 else μ a k := fun a k => by
    simp only [z_upd, e1]
  generalize z_upd (z_upd (z_upd (z_upd μ1 238 1 0) 240 3 0) 240 4 0) 206 11 0 = μ2 at hx ⊢
  unfold P_X12_anew
  simp only [z_wr]
  have r1 : μ2 248 4 = μ 207 4 := by rw [hx]; simp; rw [m2.1, c2.1]
  rw [r1]
  have hy : ∀ a k : Int, z_upd (z_upd (z_upd (z_upd (z_upd μ2 248 4 0) 248 35 0) 248 9 0) 248 39 0) 248 42 (-9) a k = if a = 248 ∧ k = 42 then -9 else if a = 248 ∧ k = 39 then 0 else if a = 248 ∧ k = 9 then 0 else if a = 248 ∧ k = 35 then 0 else if a = 248 ∧ k = 4 then 0 else μ2 a k := fun a k => by
    simp only [z_upd]
  refine ⟨Or.inl rfl, hK' _ ?_⟩
  generalize z_upd (z_upd (z_upd (z_upd (z_upd μ2 248 4 0) 248 35 0) 248 9 0) 248 39 0) 248 42 (-9) = μ3 at hy ⊢
  simp only [hx] at hy
  refine ⟨tp, [], none, [], [], [], ⟨c1.fr (by simp [hy]) (fun k => by simp [hy]), ⟨by simp [hy], by simp, fun f h1 h2 => absurd h2 (by simp; omega), fun c h1 h2 => ?_⟩, by show μ3 206 11 = 0; simp [hy], ⟨by simp [hy], by simp, fun f h1 h2 => absurd h2 (by simp; omega)⟩, ⟨by simp [hy], by simp, fun f h1 h2 => absurd h2 (by simp; omega), fun f h1 h2 => absurd h2 (by simp; omega)⟩, ⟨by simp [hy], by simp, fun f h1 h2 => absurd h2 (by simp; omega)⟩, c7.fr (fun a k h h' => ?_)⟩, ⟨m1.fr (by simp [hy]) (fun k => by simp [hy]), ⟨by simp [hy], by simp, fun f h1 h2 => absurd h2 (by simp; omega)⟩, by show μ3 248 9 = 0; simp [hy], ⟨by simp [hy], by simp, fun f h1 h2 => absurd h2 (by simp; omega)⟩, ⟨by simp [hy], by simp, fun f h1 h2 => absurd h2 (by simp; omega), fun f h1 h2 => absurd h2 (by simp; omega)⟩, ⟨by simp [hy, wl], fun h => by simp [hy] at h⟩⟩, fun f h1 h2 => absurd h2 (by simp; omega), fun q h => by simp at h, fun q h => by simp at h⟩
  · rw [hy]
    rw [if_neg (by omega), if_neg (by omega), if_neg (by omega), if_neg (by omega), if_neg (by omega), if_neg (by omega), if_neg (by omega), if_neg (by omega), if_neg (by omega), if_neg (by omega)]
    have := c2.2.2.2 c h1 h2
    unfold arf at this ⊢
    by_cases e : c = 83
    · rw [if_neg (by omega), this, if_pos e, if_pos e]
    · rw [if_neg e] at this ⊢
      rw [if_neg (show ¬ (97 ≤ c ∧ c < 97 + (([] : List Fn).length : Int)) by simp)]
      by_cases e2 : 97 ≤ c ∧ c < 103
      · rw [if_pos (by omega)]
      · have l6 := c2.2.1
        rw [if_neg (by omega), this, if_neg (by omega)]
  · rw [hy]
    rw [if_neg (by omega), if_neg (by omega), if_neg (by omega), if_neg (by omega), if_neg (by omega), if_neg (by omega), if_neg (by omega), if_neg (by omega), if_neg (by omega), if_neg (by omega), if_neg (by omega)]
