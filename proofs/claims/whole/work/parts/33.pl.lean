def wo (x2 j : Int) : Int := if j = x2 then 2 else j
theorem s_define {x1 x2 n : Int} {B : List (List Int)} {μ : ZM} {K : ZM → Prop} (hn : μ 207 4 = n ∧ 0 ≤ n ∧ n ≤ 5) (hx2 : x2 = 1 ∨ x2 = 2) (hB : ∀ j : Int, 0 ≤ j → j ≤ x2 → (gb B j).length ≤ 10 ∧ μ (169 + 3 * j) 2 = ((gb B j).length : Int) ∧ rp (μ (169 + 3 * j + 1)) (gb B j)) (h : ∀ μ', (∀ a k, ¬ (a = 208 ∧ k = n) → ¬ (a = 209 ∧ k = n) → ¬ (a = 211 ∧ k = 97 + n) → ¬ (a = 207 ∧ k = 4) → ¬ (115 + 9 * n ≤ a ∧ a ≤ 115 + 9 * n + 8) → μ' a k = μ a k) → μ' 208 n = x1 → μ' 209 n = x2 → μ' 211 (97 + n) = x1 → μ' 207 4 = n + 1 → (∀ j : Int, 0 ≤ j → j ≤ x2 → μ' (115 + 3 * (3 * n + wo x2 j)) 2 = ((gb B j).length : Int) ∧ rp (μ' (115 + 3 * (3 * n + wo x2 j) + 1)) (gb B j)) → K μ') : P_X3_define x1 x2 μ K := by
  unfold P_X3_define
  simp only [z_wr]
  have r1 : z_upd μ 208 (μ 207 4) x1 207 4 = μ 207 4 := zu_n (by decide)
  rw [r1]
  have r2 : z_upd (z_upd μ 208 (μ 207 4) x1) 209 (μ 207 4) x2 207 4 = μ 207 4 := by rw [zu_n (by decide), r1]
  rw [r2, hn.1]
  refine ifb (fun g => absurd g (by omega)) (fun _ => ifb (fun g => absurd g (by omega)) (fun _ => ifb (fun g => absurd g (by omega)) (fun _ => ifb (fun _ => ⟨by omega, by omega, ⟨by omega, by omega⟩, by omega, ?_⟩) (fun g => absurd g (by omega)))))
  have hk : ∀ a k, ¬ (a = 208 ∧ k = n) → ¬ (a = 209 ∧ k = n) → ¬ (a = 211 ∧ k = 97 + n) → z_upd (z_upd (z_upd μ 208 n x1) 209 n x2) 211 (97 + n) x1 a k = μ a k := fun a k h1 h2 h3 => by rw [zu_f h3, zu_f h2, zu_f h1]
  have p1 : z_upd (z_upd (z_upd μ 208 n x1) 209 n x2) 211 (97 + n) x1 208 n = x1 := by rw [zu_n (by decide), zu_n (by decide), zu_s]
  have p2 : z_upd (z_upd (z_upd μ 208 n x1) 209 n x2) 211 (97 + n) x1 209 n = x2 := by rw [zu_n (by decide), zu_s]
  have p3 : z_upd (z_upd (z_upd μ 208 n x1) 209 n x2) 211 (97 + n) x1 211 (97 + n) = x1 := zu_s
  generalize z_upd (z_upd (z_upd μ 208 n x1) 209 n x2) 211 (97 + n) x1 = μ1 at hk p1 p2 p3 ⊢
  refine z_lf1_ind (fun x4 μ' => 0 ≤ x4 ∧ x4 ≤ x2 + 1 ∧ (∀ a k, ¬ (115 + 9 * n ≤ a ∧ a ≤ 115 + 9 * n + 8) → μ' a k = μ1 a k) ∧ ∀ j : Int, 0 ≤ j → j < x4 → μ' (115 + 3 * (3 * n + wo x2 j)) 2 = ((gb B j).length : Int) ∧ rp (μ' (115 + 3 * (3 * n + wo x2 j) + 1)) (gb B j)) (fun x4 _ => (x2 + 1 - x4).toNat) ?_ 0 μ1 ⟨by omega, by omega, fun _ _ _ => rfl, fun j h1 h2 => absurd h2 (by omega)⟩
  intro x4 μ' G ⟨e1, e2, e3, e4⟩ hG
  have c4 : μ' 207 4 = n := by rw [e3 _ _ (by omega), hk _ _ (by omega) (by omega) (by omega)]; exact hn.1
  rw [c4]
  refine ifb (fun g => ⟨⟨by omega, by omega⟩, h _ (fun a k h1 h2 h3 h4 h5 => ?_) ?_ ?_ ?_ zu_s (fun j h1 h2 => ?_)⟩) (fun g => ?_)
  · rw [zu_f h4, e3 _ _ h5, hk _ _ h1 h2 h3]
  · rw [zu_n (by decide), e3 _ _ (by omega)]; exact p1
  · rw [zu_n (by decide), e3 _ _ (by omega)]; exact p2
  · rw [zu_n (by decide), e3 _ _ (by omega)]; exact p3
  · obtain ⟨t1, t2⟩ := e4 j h1 (by omega)
    have hw : 0 ≤ wo x2 j ∧ wo x2 j ≤ 2 := by unfold wo; split <;> omega
    exact ⟨by rw [zu_n (by omega)]; exact t1, t2.ex (fun i _ _ => by rw [zu_n (by omega)])⟩
  · have step : P_X3_define_82 G x2 x4 (wo x2 x4) μ' K := by
      have hw : 0 ≤ wo x2 x4 ∧ wo x2 x4 ≤ 2 := by unfold wo; split <;> omega
      unfold P_X3_define_82
      rw [c4]
      obtain ⟨b1, b2, b3⟩ := hB x4 e1 (by omega)
      have s1 : ∀ a : Int, 169 ≤ a → a ≤ 177 → ∀ k, μ' a k = μ a k := fun a h1 h2 k => by rw [e3 _ _ (by omega), hk _ _ (by omega) (by omega) (by omega)]
      refine ⟨⟨by omega, by omega⟩, ⟨by omega, by omega⟩, by omega, by omega, s_copyB (T := gb B x4) (by unfold z_tm; omega) (by unfold z_tm; omega) (by omega) (by rw [s1 _ (by omega) (by omega)]; exact b2) (b3.ex (fun i _ _ => s1 _ (by omega) (by omega) i)) (by omega) (fun μ2 f1 f2 f3 => ⟨⟨by omega, by omega⟩, hG _ _ ⟨by omega, by omega, fun a k q => ?_, fun j h1 h2 => ?_⟩ (by omega)⟩)⟩
      · rw [f1 _ _ (by omega) (by omega) (by omega)]; exact e3 a k q
      · by_cases ej : j = x4
        · subst ej
          rw [show 115 + 3 * (3 * n + wo x2 j) = 115 + 3 * (n * 3 + wo x2 j) by omega]
          exact ⟨f2, f3⟩
        · obtain ⟨t1, t2⟩ := e4 j h1 (by omega)
          have hne : wo x2 j ≠ wo x2 x4 ∧ 0 ≤ wo x2 j ∧ wo x2 j ≤ 2 := by
            unfold wo
            repeat' split
            all_goals omega
          refine ⟨?_, t2.ex (fun i _ _ => ?_)⟩
          · rw [f1 _ _ (by omega) (by omega) (by omega)]; exact t1
          · rw [f1 _ _ (by omega) (by omega) (by omega)]
    refine ifb (fun g1 => ?_) (fun g1 => ?_)
    · unfold wo at step
      rw [if_pos g1] at step; exact step
    · unfold wo at step
      rw [if_neg g1] at step; exact step
/-! reference -/
theorem s_keepsBody {n w : Int} {T : List Int} {μ : ZM} {K : ZM → Prop} (hn : 0 ≤ n ∧ n ≤ 5) (hw : 0 ≤ w ∧ w ≤ 2) (h1 : μ 248 12 = (T.length : Int)) (hl : T.length ≤ 10) (h2 : rp (μ 256) T) (h : ∀ μ', (∀ a k, ¬ (a = 254 ∧ 10 * (3 * n + w) ≤ k ∧ k < 10 * (3 * n + w) + 10) → ¬ (a = 255 ∧ k = 3 * n + w) → μ' a k = μ a k) → μ' 255 (3 * n + w) = (T.length : Int) → rp (fun i => μ' 254 (10 * (3 * n + w) + i)) T → K μ') : P_X12_keepsBody n w μ K := by
  refine ⟨⟨by omega, by omega⟩, ⟨by omega, by omega⟩, by omega, ?_⟩
  show P_X12_keepsBody_16 n w 0 (z_upd μ 255 (3 * n + w) (μ 248 12)) K
  refine z_lf1_ind (fun i μ' => 0 ≤ i ∧ i ≤ (T.length : Int) ∧ μ' 255 (3 * n + w) = (T.length : Int) ∧ (∀ j : Int, 0 ≤ j → j < i → μ' 254 (10 * (3 * n + w) + j) = gt T j) ∧ ∀ a k, ¬ (a = 254 ∧ 10 * (3 * n + w) ≤ k ∧ k < 10 * (3 * n + w) + 10) → ¬ (a = 255 ∧ k = 3 * n + w) → μ' a k = μ a k) (fun i μ' => ((T.length : Int) - i).toNat) ?_ 0 _ ⟨by omega, by omega, by rw [zu_s]; exact h1, fun j g1 g2 => absurd g2 (by omega), fun a k g1 g2 => zu_f g2⟩
  intro i μ' G ⟨e1, e2, e3, e4, e5⟩ hG
  have hsz : μ' 248 12 = (T.length : Int) := (e5 248 12 (by omega) (by omega)).trans h1
  refine ifb (fun g => h μ' e5 e3 (fun j g1 g2 => e4 j g1 (by omega))) (fun g => ⟨⟨by omega, by omega⟩, ⟨by omega, by omega⟩, ⟨by omega, by omega⟩, ⟨by omega, by omega⟩, by omega, by omega, ⟨by omega, by omega⟩, hG _ _ ⟨by omega, by omega, ?_, ?_, ?_⟩ (by omega)⟩)
  · rw [zu_n (by decide)]; exact e3
  · intro j g1 g2
    by_cases ej : j = i
    · subst ej
      rw [zu_s, e5 256 _ (by omega) (by omega)]
      exact h2 j g1 (by omega)
    · rw [zu_k (by omega)]
      exact e4 j g1 (by omega)
  · intro a k g1 g2
    rw [zu_f (by omega)]
    exact e5 a k g1 g2
def frf (n a k : Int) : Prop := (a = 248 ∧ 10 ≤ k ∧ k ≤ 14) ∨ a = 256 ∨ (a = 254 ∧ 30 * n ≤ k) ∨ (a = 255 ∧ 3 * n ≤ k)
theorem MT.rf {n : Int} {μ μ' : ZM} {tp : List Int} (h : MT μ tp) (e : ∀ a k, ¬ frf n a k → μ' a k = μ a k) : MT μ' tp := h.fr (e _ _ (by unfold frf; omega)) (fun k => e _ _ (by unfold frf; omega))
theorem MF.rf {μ μ' : ZM} {fs : List Fn} (ho : okF fs) (h : MF μ fs) (e : ∀ a k, ¬ frf (fs.length : Int) a k → μ' a k = μ a k) : MF μ' fs := by
  obtain ⟨b1, b2, b3⟩ := h
  refine ⟨(e _ _ (by unfold frf; omega)).trans b1, b2, fun f h1 h2 => ?_⟩
  obtain ⟨q1, q2, q3⟩ := b3 f h1 h2
  refine ⟨by rw [e 252 _ (by unfold frf; omega)]; exact q1, by rw [e 253 _ (by unfold frf; omega)]; exact q2, fun w hw => ?_⟩
  obtain ⟨g1, g2⟩ := q3 w hw
  have := ((ho f h1 h2).2.2 w hw).2.1
  have hw1 := hw.1
  have hw2 := hw.2.1
  exact ⟨by rw [e 255 _ (by unfold frf; omega)]; exact g1, g2.ex (fun i i1 i2 => e 254 _ (by unfold frf; omega))⟩
theorem s_readsFunction {fs : List Fn} {tp : List Int} {x1 x2 : Int} {μ : ZM} {K : Int → ZM → Prop} (ho : okF fs) (hT : MT μ tp) (hF : MF μ fs) (hl : fs.length ≤ 5) (hx1 : x1 = 1 ∨ x1 = 2) (hx2 : x2 = 1 ∨ x2 = 2) (h10 : μ 248 10 = 0) (h13 : μ 248 13 = x1) (h : ∀ μ', (∀ a k, ¬ frf (fs.length : Int) a k → μ' a k = μ a k) → μ' 248 10 = (rf fs x1 (if x1 = 2 then 1 else 0) tp x2.toNat 0 []).2.1 → 0 ≤ μ' 248 10 → μ' 248 10 ≤ (tp.length : Int) → ((rf fs x1 (if x1 = 2 then 1 else 0) tp x2.toNat 0 []).1 ≠ 0 → ∀ j : Int, 0 ≤ j → j ≤ x2 → μ' 255 (3 * (fs.length : Int) + wo x2 j) = ((gb (rf fs x1 (if x1 = 2 then 1 else 0) tp x2.toNat 0 []).2.2 j).length : Int) ∧ rp (fun i => μ' 254 (10 * (3 * (fs.length : Int) + wo x2 j) + i)) (gb (rf fs x1 (if x1 = 2 then 1 else 0) tp x2.toNat 0 []).2.2 j)) → K (rf fs x1 (if x1 = 2 then 1 else 0) tp x2.toNat 0 []).1 μ') : P_X12_readsFunction (fs.length : Int) x2 μ K := by
  generalize hy0 : (if x1 = 2 then (1 : Int) else 0) = hy at h
  generalize hR : rf fs x1 hy tp x2.toNat 0 [] = R at h
  have main : P_X12_readsFunction_13 (fs.length : Int) x2 hy μ K := by
    unfold P_X12_readsFunction_13
    refine z_lf1_ind (fun x4 μ' => ∃ acc : List (List Int), x4 = (acc.length : Int) ∧ x4 ≤ x2 ∧ (∀ a k, ¬ frf (fs.length : Int) a k → μ' a k = μ a k) ∧ μ' 248 13 = x1 ∧ 0 ≤ μ' 248 10 ∧ μ' 248 10 ≤ (tp.length : Int) ∧ (∀ j : Int, 0 ≤ j → j < x4 → μ' 255 (3 * (fs.length : Int) + j) = ((gb acc j).length : Int) ∧ (gb acc j).length ≤ 10 ∧ rp (fun i => μ' 254 (10 * (3 * (fs.length : Int) + j) + i)) (gb acc j)) ∧ rf fs x1 hy tp (x2 - x4).toNat (μ' 248 10) acc = R) (fun x4 _ => (x2 - x4).toNat) ?_ 0 μ ⟨[], rfl, by omega, fun _ _ _ => rfl, h13, by omega, by omega, fun j h1 h2 => absurd h2 (by omega), by rw [h10, show x2 - 0 = x2 by omega]; exact hR⟩
    intro x4 μ' G ⟨acc, e1, e2, e3, e4, e5, e6, e7, e8⟩ hG
    refine ifb (fun g => ?_) (fun g => ?_)
    · rw [show (x2 - x4).toNat = 0 by omega, rf_0] at e8
      refine s_readsTerm (fs := fs) (tp := tp) (hx := 1) (hy := hy) (hz := 0) (own := 1) (oa := x1) (p := μ' 248 10) ho (hT.rf e3) (MF.rf ho hF e3) (by omega) ⟨rfl, e5, e6⟩ (fun _ => e4) hx1 ?_
      show ∀ μ2 : ZM, _ → μ2 248 10 = (rb fs x1 hy 1 tp (μ' 248 10)).2.1 → _ → _ → _ = ((rb fs x1 hy 1 tp (μ' 248 10)).2.2.length : Int) → ((rb fs x1 hy 1 tp (μ' 248 10)).2.2.length : Int) ≤ 10 → rp _ (rb fs x1 hy 1 tp (μ' 248 10)).2.2 → if (rb fs x1 hy 1 tp (μ' 248 10)).1 = 0 then _ else _
      intro μ2 f1 f2 f3 f4 f5 f6 f7
      have hk : ∀ a k, ¬ frf (fs.length : Int) a k → μ2 a k = μ a k := fun a k q => (f1 a k (by unfold frf at q; omega) (by unfold frf at q; omega) (by unfold frf at q; omega)).trans (e3 a k q)
      refine ifb (fun g2 => ⟨Or.inl rfl, ?_⟩) (fun g2 => ?_)
      · rw [if_pos g2] at e8
        subst e8
        exact h μ2 hk f2 f3 f4 (fun g => absurd rfl g)
      · rw [if_neg g2] at e8
        refine s_keepsBody (T := (rb fs x1 hy 1 tp (μ' 248 10)).2.2) (by omega) (by omega) f5 (by omega) f7 (fun μ3 q1 q2 q3 => ?_)
        have hk3 : ∀ a k, ¬ frf (fs.length : Int) a k → μ3 a k = μ a k := fun a k q => (q1 a k (by unfold frf at q; omega) (by unfold frf at q; omega)).trans (hk a k q)
        have a3 : μ3 248 3 = (tp.length : Int) := (hk3 _ _ (by unfold frf; omega)).trans hT.1
        have a10 : μ3 248 10 = μ2 248 10 := q1 _ _ (by omega) (by omega)
        refine ifb (fun g3 => ⟨Or.inr rfl, ?_⟩) (fun g3 => ⟨Or.inl rfl, ?_⟩)
        · rw [if_pos (by omega)] at e8
          subst e8
          refine h μ3 hk3 (by rw [a10]; exact f2) (by omega) (by omega) (fun _ j h1 h2 => ?_)
          show μ3 255 _ = ((gb (acc ++ [_]) j).length : Int) ∧ rp _ (gb (acc ++ [_]) j)
          rw [gb_push h1]
          unfold wo
          by_cases ej : j = x2
          · rw [if_pos ej, if_pos (by omega)]
            exact ⟨q2, q3⟩
          · rw [if_neg ej, if_neg (by omega)]
            obtain ⟨t1, t2, t3⟩ := e7 j h1 (by omega)
            refine ⟨?_, t3.ex (fun i i1 i2 => ?_)⟩
            · rw [q1 _ _ (by omega) (by omega), f1 _ _ (by omega) (by omega) (by omega)]; exact t1
            · rw [q1 _ _ (by omega) (by omega), f1 _ _ (by omega) (by omega) (by omega)]
        · rw [if_neg (by omega)] at e8
          subst e8
          exact h μ3 hk3 (by rw [a10]; exact f2) (by omega) (by omega) (fun g => absurd rfl g)
    · rw [rf_1 (by omega)] at e8
      refine s_readsTerm (fs := fs) (tp := tp) (hx := 0) (hy := hy) (hz := 0) (own := 0) (oa := x1) (p := μ' 248 10) ho (hT.rf e3) (MF.rf ho hF e3) (by omega) ⟨rfl, e5, e6⟩ (fun _ => e4) hx1 ?_
      show ∀ μ2 : ZM, _ → μ2 248 10 = (rb fs x1 hy 0 tp (μ' 248 10)).2.1 → _ → _ → _ = ((rb fs x1 hy 0 tp (μ' 248 10)).2.2.length : Int) → ((rb fs x1 hy 0 tp (μ' 248 10)).2.2.length : Int) ≤ 10 → rp _ (rb fs x1 hy 0 tp (μ' 248 10)).2.2 → if (rb fs x1 hy 0 tp (μ' 248 10)).1 = 0 then _ else _
      intro μ2 f1 f2 f3 f4 f5 f6 f7
      have hk : ∀ a k, ¬ frf (fs.length : Int) a k → μ2 a k = μ a k := fun a k q => (f1 a k (by unfold frf at q; omega) (by unfold frf at q; omega) (by unfold frf at q; omega)).trans (e3 a k q)
      refine ifb (fun g2 => ⟨Or.inl rfl, ?_⟩) (fun g2 => ?_)
      · rw [if_pos g2] at e8
        subst e8
        exact h μ2 hk f2 f3 f4 (fun g => absurd rfl g)
      · rw [if_neg g2] at e8
        refine s_reads (hT.rf hk) ⟨f2, by omega, by omega⟩ (fun s1 => if1 ?_) (fun s1 => if0 ⟨Or.inl rfl, ?_⟩)
        · rw [if_pos s1] at e8
          refine s_keepsBody (T := (rb fs x1 hy 0 tp (μ' 248 10)).2.2) (by omega) (by omega) (by rw [zu_k (by decide)]; exact f5) (by omega) (f7.ex (fun i _ _ => zu_n (by decide))) (fun μ3 q1 q2 q3 => ⟨⟨by omega, by omega⟩, hG _ _ ⟨acc ++ [(rb fs x1 hy 0 tp (μ' 248 10)).2.2], by simp; omega, by omega, fun a k q => ?_, ?_, ?_, ?_, fun j h1 h2 => ?_, ?_⟩ (by omega)⟩)
          · rw [q1 a k (by unfold frf at q; omega) (by unfold frf at q; omega), zu_f (by unfold frf at q; omega)]
            exact hk a k q
          · rw [q1 _ _ (by omega) (by omega), zu_k (by decide), f1 _ _ (by omega) (by omega) (by omega)]; exact e4
          · rw [q1 _ _ (by omega) (by omega), zu_s]; omega
          · rw [q1 _ _ (by omega) (by omega), zu_s]; omega
          · rw [gb_push h1]
            by_cases ej : j = (acc.length : Int)
            · rw [if_pos ej, ej, ← e1]
              exact ⟨q2, by omega, q3⟩
            · rw [if_neg ej]
              obtain ⟨t1, t2, t3⟩ := e7 j h1 (by omega)
              refine ⟨?_, t2, t3.ex (fun i i1 i2 => ?_)⟩
              · rw [q1 _ _ (by omega) (by omega), zu_n (by decide), f1 _ _ (by omega) (by omega) (by omega)]; exact t1
              · rw [q1 _ _ (by omega) (by omega), zu_n (by decide), f1 _ _ (by omega) (by omega) (by omega)]
          · rw [q1 _ _ (by omega) (by omega), zu_s, show (x2 - (x4 + 1)).toNat = (x2 - x4).toNat - 1 by omega]
            exact e8
        · rw [if_neg s1] at e8
          subst e8
          exact h μ2 hk f2 f3 f4 (fun g => absurd rfl g)
  unfold P_X12_readsFunction
  rw [h13]
  refine ifb (fun g => ?_) (fun g => ?_)
  · rw [if_pos g] at hy0; subst hy0; exact main
  · rw [if_neg g] at hy0; subst hy0; exact main
