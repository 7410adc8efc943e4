/-! frames of the components -/
theorem zu_n {μ : ZM} {a i v b k : Int} (h : b ≠ a) : z_upd μ a i v b k = μ b k := by unfold z_upd; rw [if_neg (fun q => h q.1)]
theorem zu_k {μ : ZM} {a i v b k : Int} (h : k ≠ i) : z_upd μ a i v b k = μ b k := by unfold z_upd; rw [if_neg (fun q => h q.2)]
theorem zu_s {μ : ZM} {a i v : Int} : z_upd μ a i v a i = v := by unfold z_upd; rw [if_pos ⟨rfl, rfl⟩]
theorem CT.fr {μ μ' : ZM} {tp : List Int} (h : CT μ tp) (e1 : μ' 212 3 = μ 212 3) (e2 : ∀ k, μ' 213 k = μ 213 k) : CT μ' tp := ⟨e1.trans h.1, h.2.1, h.2.2.ex (fun i _ _ => e2 i)⟩
theorem CF.fr {μ μ' : ZM} {fs : List Fn} (h : CF μ fs) (E : ∀ a : Int, ((115 ≤ a ∧ a ≤ 168) ∨ (208 ≤ a ∧ a ≤ 209) ∨ a = 211) → ∀ k, μ' a k = μ a k) (e1 : μ' 207 4 = μ 207 4) : CF μ' fs := by
  obtain ⟨b1, b2, b3, b4⟩ := h
  refine ⟨e1.trans b1, b2, fun f h1 h2 => ?_, fun c h1 h2 => by rw [E 211 (by omega)]; exact b4 c h1 h2⟩
  obtain ⟨q1, q2, q3⟩ := b3 f h1 h2
  refine ⟨by rw [E 208 (by omega)]; exact q1, by rw [E 209 (by omega)]; exact q2, fun w hw => ?_⟩
  obtain ⟨g1, g2⟩ := q3 w hw
  obtain ⟨hw1, hw2, -⟩ := hw
  exact ⟨by rw [E _ (by omega)]; exact g1, g2.ex (fun i _ _ => E _ (by omega) i)⟩
theorem CC.fr {μ μ' : ZM} {fs : List Fn} {cl : Option (List Int × List Int)} (h : CC μ fs cl) (E : ∀ a : Int, 103 ≤ a ∧ a ≤ 108 → ∀ k, μ' a k = μ a k) (e1 : μ' 206 11 = μ 206 11) : CC μ' fs cl := by
  unfold CC at h ⊢
  cases cl with
  | none => exact e1.trans h
  | some q => exact ⟨e1.trans h.1, h.2.1.ex (E _ (by omega)) (E _ (by omega)) (E _ (by omega)), h.2.2.ex (E _ (by omega)) (E _ (by omega)) (E _ (by omega))⟩
theorem CL.fr {μ μ' : ZM} {fs : List Fn} {ls : List (List Int × List Int)} (h : CL μ fs ls) (E : ∀ a : Int, 1 ≤ a ∧ a ≤ 48 → ∀ k, μ' a k = μ a k) (e1 : μ' 238 1 = μ 238 1) : CL μ' fs ls := by
  obtain ⟨d1, d2, d3⟩ := h
  refine ⟨e1.trans d1, d2, fun k h1 h2 => ?_⟩
  obtain ⟨q1, q2⟩ := d3 k h1 h2
  exact ⟨q1.ex (E _ (by omega)) (E _ (by omega)) (E _ (by omega)), q2.ex (E _ (by omega)) (E _ (by omega)) (E _ (by omega))⟩
theorem CN.fr {μ μ' : ZM} {nt : List (Int × Int)} (h : CN μ nt) (e1 : μ' 240 3 = μ 240 3) (e2 : ∀ k, μ' 241 k = μ 241 k) (e3 : ∀ k, μ' 242 k = μ 242 k) : CN μ' nt := ⟨e1.trans h.1, h.2.1, h.2.2.1.ex (fun i _ _ => e2 i), h.2.2.2.ex (fun i _ _ => e3 i)⟩
theorem CW.fr {μ μ' : ZM} {cs : List Int} (h : CW μ cs) (e1 : μ' 240 4 = μ 240 4) (e2 : ∀ k, μ' 243 k = μ 243 k) : CW μ' cs := ⟨e1.trans h.1, h.2.1, h.2.2.ex (fun i _ _ => e2 i)⟩
theorem CZ.fr {μ μ' : ZM} (h : CZ μ) (E : ∀ a k : Int, 223 ≤ a ∧ a ≤ 226 → 0 ≤ k ∧ k < 4 → μ' a k = μ a k) : CZ μ' := ⟨h.1.ex (fun i g1 g2 => E _ _ (by omega) (by simp at g2; omega)), h.2.1.ex (fun i g1 g2 => E _ _ (by omega) (by simp at g2; omega)), h.2.2.ex (fun i g1 g2 => E _ _ (by omega) (by simp at g2; omega))⟩
theorem Sl.ex {μ μ' : ZM} {s : Int} {T : List Int} (h : Sl μ s T) (e1 : μ' 250 s = μ 250 s) (e2 : ∀ i : Int, 0 ≤ i → i < (T.length : Int) → μ' 249 (128 * s + i) = μ 249 (128 * s + i)) : Sl μ' s T := ⟨e1.trans h.1, h.2.ex e2⟩
theorem MT.fr {μ μ' : ZM} {tp : List Int} (h : MT μ tp) (e1 : μ' 248 3 = μ 248 3) (e2 : ∀ k, μ' 251 k = μ 251 k) : MT μ' tp := ⟨e1.trans h.1, h.2.1, h.2.2.ex (fun i _ _ => e2 i)⟩
theorem MF.fr {μ μ' : ZM} {fs : List Fn} (h : MF μ fs) (E : ∀ a : Int, 252 ≤ a ∧ a ≤ 255 → ∀ k, μ' a k = μ a k) (e1 : μ' 248 4 = μ 248 4) : MF μ' fs := by
  obtain ⟨b1, b2, b3⟩ := h
  refine ⟨e1.trans b1, b2, fun f h1 h2 => ?_⟩
  obtain ⟨q1, q2, q3⟩ := b3 f h1 h2
  refine ⟨by rw [E 252 (by omega)]; exact q1, by rw [E 253 (by omega)]; exact q2, fun w hw => ?_⟩
  obtain ⟨g1, g2⟩ := q3 w hw
  exact ⟨by rw [E 255 (by omega)]; exact g1, g2.ex (fun i _ _ => E 254 (by omega) _)⟩
theorem MC.fr {μ μ' : ZM} {cl : Option (List Int × List Int)} (h : MC μ cl) (hl : ∀ q, cl = some q → q.1.length ≤ 128 ∧ q.2.length ≤ 128) (e1 : μ' 248 9 = μ 248 9) (e2 : ∀ k : Int, k < 256 → μ' 249 k = μ 249 k) (e3 : ∀ k : Int, k < 2 → μ' 250 k = μ 250 k) : MC μ' cl := by
  unfold MC at h ⊢
  cases cl with
  | none => exact e1.trans h
  | some q =>
    obtain ⟨l1, l2⟩ := hl q rfl
    exact ⟨e1.trans h.1, h.2.1.ex (e3 _ (by omega)) (fun i _ _ => e2 _ (by omega)), h.2.2.ex (e3 _ (by omega)) (fun i _ _ => e2 _ (by omega))⟩
theorem ML.fr {μ μ' : ZM} {ls : List (List Int × List Int)} (h : ML μ ls) (e1 : μ' 248 35 = μ 248 35) (e2 : ∀ k : Int, 3584 ≤ k → μ' 249 k = μ 249 k) (e3 : ∀ k : Int, 28 ≤ k → μ' 250 k = μ 250 k) : ML μ' ls := by
  obtain ⟨d1, d2, d3⟩ := h
  refine ⟨e1.trans d1, d2, fun k h1 h2 => ?_⟩
  obtain ⟨q1, q2⟩ := d3 k h1 h2
  exact ⟨q1.ex (e3 _ (by omega)) (fun i _ _ => e2 _ (by omega)), q2.ex (e3 _ (by omega)) (fun i _ _ => e2 _ (by omega))⟩
theorem MN.fr {μ μ' : ZM} {nt : List (Int × Int)} (h : MN μ nt) (e1 : μ' 248 39 = μ 248 39) (e2 : ∀ k, μ' 270 k = μ 270 k) (e3 : ∀ k, μ' 271 k = μ 271 k) : MN μ' nt := ⟨e1.trans h.1, h.2.1, h.2.2.1.ex (fun i _ _ => e2 i), h.2.2.2.ex (fun i _ _ => e3 i)⟩
theorem MW.fr {μ μ' : ZM} {cs : List Int} (h : MW μ cs) (e1 : μ' 248 42 = μ 248 42) (e2 : μ' 248 43 = μ 248 43) (e3 : μ' 248 44 = μ 248 44) (e4 : μ' 248 45 = μ 248 45) : MW μ' cs := by
  unfold MW at h ⊢
  rw [e1, e2, e3, e4]
  exact h
/-! lists by Int -/
theorem gt_push {T : List Int} {x i : Int} (h : 0 ≤ i) : gt (T ++ [x]) i = if i = (T.length : Int) then x else gt T i := by
  unfold gt
  by_cases e : i = (T.length : Int)
  · rw [if_pos e, List.getD_eq_getElem?_getD, List.getElem?_append_right (by omega), show i.toNat - T.length = 0 by omega]
    rfl
  · rw [if_neg e, List.getD_eq_getElem?_getD, List.getD_eq_getElem?_getD]
    by_cases l : i.toNat < T.length
    · rw [List.getElem?_append_left l]
    · rw [List.getElem?_eq_none (by simp; omega), List.getElem?_eq_none (by omega)]
theorem rp_push {f g : Int → Int} {T : List Int} {x : Int} (h : rp f T) (e1 : g (T.length : Int) = x) (e2 : ∀ i : Int, 0 ≤ i → i < (T.length : Int) → g i = f i) : rp g (T ++ [x]) := by
  intro i h1 h2
  rw [gt_push h1]
  by_cases e : i = (T.length : Int)
  · rw [if_pos e, e]; exact e1
  · rw [if_neg e]
    simp at h2
    exact (e2 i h1 (by omega)).trans (h i h1 (by omega))
theorem gf_1 {nt : List (Int × Int)} {i : Int} : gt (nt.map Prod.fst) i = (nt.getD i.toNat (0, 0)).1 := by
  unfold gt
  rw [List.getD_eq_getElem?_getD, List.getD_eq_getElem?_getD, List.getElem?_map]
  cases nt[i.toNat]? <;> rfl
theorem gf_2 {nt : List (Int × Int)} {i : Int} : gt (nt.map Prod.snd) i = (nt.getD i.toNat (0, 0)).2 := by
  unfold gt
  rw [List.getD_eq_getElem?_getD, List.getD_eq_getElem?_getD, List.getElem?_map]
  cases nt[i.toNat]? <;> rfl
theorem okTp_push {tp : List Int} {x : Int} (h : okTp tp) (hx : 0 ≤ x ∧ x ≤ 127) : okTp (tp ++ [x]) := by
  intro i h1 h2
  rw [gt_push h1]
  by_cases e : i = (tp.length : Int)
  · rw [if_pos e]; exact hx
  · rw [if_neg e]
    simp at h2
    exact h i h1 (by omega)
/-! ===== the small calls ===== -/
theorem op_type {x : Int} {μ : ZM} (hI : Inv μ) {K : Int → ZM → Prop} (hK : ∀ r μ1, Ans (P_X12_type x μ1) r → K r μ1) : P_X11_type x μ K := by
  have hI0 := hI
  obtain ⟨tp, fs, cl, ls, nt, cs, hc, hm, ho⟩ := hI
  obtain ⟨c1, c2, c3, c4, c5, c6, c7⟩ := id hc
  obtain ⟨m1, m2, m3, m4, m5, m6⟩ := id hm
  unfold P_X11_type P_X9_put
  simp only [z_wr]
  have a1 := c1.1
  have b1 := m1.1
  have l1 := c1.2.1
  refine s_out (fun h => if1 (hK _ _ (fun K' hK' => ?_))) (fun h => if0 (ifb (fun h1 => ?_) (fun h1 => hK _ _ (fun K' hK' => ?_))))
  · unfold P_X12_type
    exact s_wi (fun h' => absurd h' (by omega)) (fun _ => if0 (hK' _ hI0))
  · refine ifb (fun h2 => absurd h2 (by omega)) (fun _ => ifb (fun h2 => absurd h2 (by omega)) (fun _ => ⟨⟨by omega, by omega⟩, ⟨?_, ?_⟩, hK _ _ (fun K' hK' => ?_)⟩))
    · rw [zu_n (by decide)]; omega
    · rw [zu_n (by decide)]; omega
    · unfold P_X12_type
      simp only [z_wr]
      refine s_wi (fun _ => if1 (ifb (fun h3 => ?_) (fun _ => ?_))) (fun h' => absurd h' (by omega))
      · rw [zu_n (by decide), zu_n (by decide)] at h3
        omega
      · simp only [zu_s, zu_n (show (248 : Int) ≠ 212 by decide), zu_n (show (248 : Int) ≠ 213 by decide), zu_n (show (248 : Int) ≠ 251 by decide), zu_n (show (212 : Int) ≠ 213 by decide)]
        refine ⟨⟨by omega, by omega⟩, ⟨by omega, by omega⟩, ?_⟩
        simp only [zu_s, zu_n (show (212 : Int) ≠ 213 by decide)] at hK'
        rw [show μ 212 3 + 1 = μ 248 3 + 1 by omega] at hK' ⊢
        refine hK' _ ⟨tp ++ [x], fs, cl, ls, nt, cs, ⟨⟨?_, ⟨by simp; omega, okTp_push l1.2 h⟩, rp_push c1.2.2 ?_ ?_⟩, ?_, ?_, ?_, ?_, ?_, ?_⟩, ⟨⟨?_, by simp; omega, rp_push m1.2.2 ?_ ?_⟩, ?_, ?_, ?_, ?_, ?_⟩, ho⟩
        · simp [z_upd, a1, b1]
        · simp [z_upd, a1]
        · intro i h5 h6
          simp [z_upd, a1]
          omega
        · refine c2.fr (fun a h k => ?_) (by simp [z_upd])
          rw [zu_n (by omega), zu_n (by omega), zu_n (by omega), zu_n (by omega)]
        · refine c3.fr (fun a h k => ?_) (by simp [z_upd])
          rw [zu_n (by omega), zu_n (by omega), zu_n (by omega), zu_n (by omega)]
        · refine c4.fr (fun a h k => ?_) (by simp [z_upd])
          rw [zu_n (by omega), zu_n (by omega), zu_n (by omega), zu_n (by omega)]
        · exact c5.fr (by simp [z_upd]) (fun k => by simp [z_upd]) (fun k => by simp [z_upd])
        · exact c6.fr (by simp [z_upd]) (fun k => by simp [z_upd])
        · refine c7.fr (fun a k h h' => ?_)
          rw [zu_n (by omega), zu_n (by omega), zu_n (by omega), zu_n (by omega)]
        · simp [z_upd, b1]
        · simp [z_upd, b1]
        · intro i h5 h6
          simp [z_upd, b1]
          omega
        · refine m2.fr (fun a h k => ?_) (by simp [z_upd])
          rw [zu_n (by omega), zu_n (by omega), zu_n (by omega), zu_n (by omega)]
        · refine m3.fr (fun q hq => ?_) (by simp [z_upd]) (fun k _ => by simp [z_upd]) (fun k _ => by simp [z_upd])
          have := ho.2.1 q hq
          omega
        · exact m4.fr (by simp [z_upd]) (fun k _ => by simp [z_upd]) (fun k _ => by simp [z_upd])
        · exact m5.fr (by simp [z_upd]) (fun k => by simp [z_upd]) (fun k => by simp [z_upd])
        · exact m6.fr (by simp [z_upd]) (by simp [z_upd]) (by simp [z_upd]) (by simp [z_upd])
  · unfold P_X12_type
    exact s_wi (fun _ => if1 (ifb (fun h3 => hK' _ hI0) (fun h3 => absurd (show μ 248 3 = 48 by omega) h3))) (fun h' => absurd h' (by omega))
theorem Ans.same {PM : (Int → ZM → Prop) → Prop} {r : Int} {μ : ZM} (hI : Inv μ) (h : ∀ K : Int → ZM → Prop, K r μ → PM K) : Ans PM r := fun K hK => h K (hK μ hI)
theorem op_wipe {μ : ZM} (hI : Inv μ) {K : Int → ZM → Prop} (hK : ∀ r μ1, Ans (P_X12_wipe μ1) r → K r μ1) : P_X11_wipe μ K := by
  obtain ⟨tp, fs, cl, ls, nt, cs, ⟨c1, c2, c3, c4, c5, c6, c7⟩, ⟨m1, m2, m3, m4, m5, m6⟩, ho⟩ := hI
  refine hK _ _ (fun K' hK' => ?_)
  show K' (z_upd μ 212 3 0 248 3) _
  rw [zu_n (by decide), m1.1, ← c1.1]
  refine hK' _ ⟨[], fs, cl, ls, nt, cs, ⟨⟨by simp [z_upd], ⟨by simp, fun i h1 h2 => absurd h2 (by simp; omega)⟩, fun i h1 h2 => absurd h2 (by simp; omega)⟩, ?_, ?_, ?_, ?_, ?_, ?_⟩, ⟨⟨by simp [z_upd], by simp, fun i h1 h2 => absurd h2 (by simp; omega)⟩, ?_, ?_, ?_, ?_, ?_⟩, ho⟩
  · exact c2.fr (fun a h k => by rw [zu_n (by omega), zu_n (by omega)]) (by simp [z_upd])
  · exact c3.fr (fun a h k => by rw [zu_n (by omega), zu_n (by omega)]) (by simp [z_upd])
  · exact c4.fr (fun a h k => by rw [zu_n (by omega), zu_n (by omega)]) (by simp [z_upd])
  · exact c5.fr (by simp [z_upd]) (fun k => by simp [z_upd]) (fun k => by simp [z_upd])
  · exact c6.fr (by simp [z_upd]) (fun k => by simp [z_upd])
  · exact c7.fr (fun a k h h' => by rw [zu_n (by omega), zu_n (by omega)])
  · exact m2.fr (fun a h k => by rw [zu_n (by omega), zu_n (by omega)]) (by simp [z_upd])
  · exact m3.fr (fun q hq => by have := ho.2.1 q hq; omega) (by simp [z_upd]) (fun k _ => by simp [z_upd]) (fun k _ => by simp [z_upd])
  · exact m4.fr (by simp [z_upd]) (fun k _ => by simp [z_upd]) (fun k _ => by simp [z_upd])
  · exact m5.fr (by simp [z_upd]) (fun k => by simp [z_upd]) (fun k => by simp [z_upd])
  · exact m6.fr (by simp [z_upd]) (by simp [z_upd]) (by simp [z_upd]) (by simp [z_upd])
theorem op_many {x : Int} {μ : ZM} (hI : Inv μ) {K : Int → ZM → Prop} (hK : ∀ r μ1, Ans (P_X12_many x μ1) r → K r μ1) : P_X11_many x μ K := by
  have hI0 := hI
  obtain ⟨tp, fs, cl, ls, nt, cs, ⟨c1, c2, c3, c4, c5, c6, c7⟩, ⟨m1, m2, m3, m4, m5, m6⟩, ho⟩ := hI
  unfold P_X11_many
  refine ifb (fun h => hK _ _ (Ans.same hI0 (fun K' h' => ?_))) (fun g0 => ifb (fun h => hK _ _ (Ans.same hI0 (fun K' h' => ?_))) (fun g1 => ifb (fun h => hK _ _ (Ans.same hI0 (fun K' h' => ?_))) (fun g2 => ifb (fun h => hK _ _ (Ans.same hI0 (fun K' h' => ?_))) (fun g3 => hK _ _ (Ans.same hI0 (fun K' h' => ?_))))))
  · unfold P_X12_many
    rw [if_pos h, m2.1, ← c2.1]; exact h'
  · unfold P_X12_many
    rw [if_neg g0, if_pos h, m4.1, ← c4.1]; exact h'
  · unfold P_X12_many
    rw [if_neg g0, if_neg g1, if_pos h, m1.1, ← c1.1]; exact h'
  · unfold P_X12_many
    rw [if_neg g0, if_neg g1, if_neg g2, if_pos h, m5.1, ← c5.1]; exact h'
  · unfold P_X12_many
    rw [if_neg g0, if_neg g1, if_neg g2, if_neg g3]; exact h'
theorem op_script {x y : Int} {μ : ZM} (hI : Inv μ) {K : Int → ZM → Prop} (hK : ∀ r μ1, Ans (P_X12_script x y μ1) r → K r μ1) : P_X11_script x y μ K := by
  have hI0 := hI
  obtain ⟨tp, fs, cl, ls, nt, cs, ⟨c1, c2, c3, c4, c5, c6, c7⟩, ⟨m1, m2, m3, m4, m5, m6⟩, ho⟩ := hI
  obtain ⟨a1, a2, a3, a4⟩ := c5
  obtain ⟨b1, b2, b3, b4⟩ := m5
  have key : ∀ r : Int, (∀ K' : Int → ZM → Prop, K' r μ → P_X12_script x y μ K') → K r μ := fun r h => hK _ _ (Ans.same hI0 h)
  unfold P_X11_script
  refine s_out (fun h => if1 (key _ (fun K' h' => s_wi (fun g => absurd g (by omega)) (fun _ => if0 h')))) (fun h => if0 (s_out (fun h1 => if1 (key _ (fun K' h' => s_wi (fun _ => if1 (s_wi (fun g => absurd g (by omega)) (fun _ => if0 h'))) (fun g => absurd g (by omega))))) (fun h1 => if0 (ifb (fun h2 => ifb (fun h3 => ⟨by omega, key _ (fun K' h' => ?_)⟩) (fun h3 => ⟨by omega, key _ (fun K' h' => ?_)⟩)) (fun h2 => key _ (fun K' h' => ?_))))))
  · refine s_wi (fun _ => if1 (s_wi (fun _ => if1 ?_) (fun g => absurd g (by omega)))) (fun g => absurd g (by omega))
    rw [if_pos (by omega), if_pos h3]
    rw [a3 x (by omega) (by simp; omega), ← b3 x (by omega) (by simp; omega)] at h'
    exact ⟨by omega, h'⟩
  · refine s_wi (fun _ => if1 (s_wi (fun _ => if1 ?_) (fun g => absurd g (by omega)))) (fun g => absurd g (by omega))
    rw [if_pos (by omega), if_neg h3]
    rw [a4 x (by omega) (by simp; omega), ← b4 x (by omega) (by simp; omega)] at h'
    exact ⟨by omega, h'⟩
  · refine s_wi (fun _ => if1 (s_wi (fun _ => if1 ?_) (fun g => absurd g (by omega)))) (fun g => absurd g (by omega))
    rw [if_neg (by omega)]
    exact h'
