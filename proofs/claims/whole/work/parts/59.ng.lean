theorem s_push0 {N : List (List Int)} {i : Int} {μ : ZM} {K : Int → ZM → Prop} (h1 : μ 222 11 = (N.length : Int)) (hi : 0 ≤ i ∧ i < (N.length : Int)) (hs : 0 ≤ μ 222 13 ∧ μ 222 13 < 540) (h : K 1 (z_upd (z_upd μ 231 (μ 222 13) i) 222 13 (μ 222 13 + 1))) : P_X6_push i μ K := by
  unfold P_X6_push
  rw [h1]
  rw [if_neg (show ¬ i < 0 by omega), if_neg (show ¬ (N.length : Int) ≤ i by omega), if_neg (show ¬ μ 222 13 < 0 by omega), if_pos hs.2]
  simp only [z_wr]
  rw [zu_n (show (222 : Int) ≠ 231 by decide)]
  exact ⟨hs, ⟨by omega, by omega⟩, Or.inr rfl, h⟩
theorem gV_ne {fs : List Fn} {V : List Int} (h : gV fs V) : ∃ c W, V = c :: W := by
  cases V with
  | nil => exact absurd (show (1 : Int) = 0 from h.1.1) (by decide)
  | cons c W => exact ⟨c, W, rfl⟩
theorem flat_len {fs : List Fn} : ∀ S : List (List Int), (∀ W ∈ S, gV fs W) → S.length ≤ S.flatten.length
  | [], _ => Nat.le_refl 0
  | V :: S, h => by
    have := flat_len S (fun W hW => h W (by simp [hW]))
    obtain ⟨c, W, e⟩ := gV_ne (h V (by simp))
    rw [List.flatten_cons, e, List.length_append, List.length_cons, List.length_cons]
    omega
theorem s_write {fs : List Fn} {N : List (List Int)} {t : Int} {V : List Int} {μ : ZM} {K : ZM → Prop} (ho : okF fs) (hF : CF μ fs) (hT : NT μ fs N) (hN : (N.length : Int) ≤ 546) (ht : z_tm t) (ht2 : ¬ (113 ≤ t ∧ t ≤ 168)) (h13 : μ 222 13 = 1) (hs : rN N (μ 231 0) V) (hV : gV fs V) (h : ∀ μ', (∀ a k, ¬ nvc a k → a ≠ t → a ≠ t + 1 → a ≠ t + 2 → μ' a k = μ a k) → Tm μ' fs t V → K μ') : P_X6_write t μ K := by
  have hl := hF.2.1
  have b := ht
  unfold z_tm at b
  have hV40 := hV.2
  refine ⟨ht, ⟨ht, ?_⟩⟩
  show P_X6_write_6 t 0 (z_upd μ t 2 0) K
  have hcl : ∀ μ' : ZM, μ' t 2 = (V.length : Int) → rp (μ' (t + 1)) V → (∀ a k, ¬ (a = 222 ∧ k = 13) → a ≠ 231 → a ≠ t + 1 → ¬ (a = t ∧ k = 2) → μ' a k = μ a k) → P_X6_write_110 t μ' K := by
    intro μ' q1 q2 q3
    refine s_close ho (hF.fr (fun a ha k => q3 _ _ (by omega) (by omega) (by omega) (by omega)) (q3 _ _ (by omega) (by omega) (by omega) (by omega))) ht q1 q2 hV40 (fun i p1 p2 => cv_bd hl hV.1.2 p1 p2) (fun μ2 e2 tm2 => h μ2 (fun a k p1 p2 p3 p4 => ?_) tm2)
    rw [e2 a k p4]
    exact q3 a k (by unfold nvc at p1; omega) (by unfold nvc at p1; omega) p3 (by omega)
  refine z_lf1_ind (fun i μ' => ∃ acc S, i = (acc.length : Int) ∧ acc ++ S.flatten = V ∧ (∀ W ∈ S, gV fs W) ∧ μ' 222 13 = (S.length : Int) ∧ gk (fun j W => rN N (μ' 231 j) W) S ∧ μ' t 2 = i ∧ rp (μ' (t + 1)) acc ∧ ∀ a k, ¬ (a = 222 ∧ k = 13) → a ≠ 231 → a ≠ t + 1 → ¬ (a = t ∧ k = 2) → μ' a k = μ a k) (fun i _ => (40 - i).toNat) ?_ 0 _ ⟨[], [V], rfl, by simp, fun W hW => by rw [List.mem_singleton.mp hW]; exact hV, ?_, ⟨?_, trivial⟩, zu_s, fun i g1 g2 => absurd g2 (by simp; omega), fun a k _ _ _ q => zu_f q⟩
  · intro i μ' G ⟨acc, S, e1, e2, e3, e4, e5, e6, e7, e8⟩ hG
    have hlen : (acc.length : Int) + (S.flatten.length : Int) = (V.length : Int) := by rw [← e2]; simp
    have hSl := flat_len S e3
    have fin : S = [] → P_X6_write_110 t μ' K := by
      intro q
      subst q
      have : acc = V := by rw [← e2]; simp
      subst this
      exact hcl μ' (e6.trans e1) e7 e8
    refine ifb (fun g => fin (List.length_eq_zero_iff.mp (by omega))) (fun g => ifb (fun g1 => fin (List.length_eq_zero_iff.mp (by omega))) (fun g1 => ?_))
    cases S with
    | nil => exact absurd e4 (by simp; omega)
    | cons W S =>
      have hW := e3 W (by simp)
      obtain ⟨c, X, eW⟩ := gV_ne hW
      have htop : μ' 222 13 - 1 = (S.length : Int) := by rw [e4]; simp
      simp only [z_wr]
      rw [show z_upd μ' 222 13 (μ' 222 13 - 1) 222 13 = (S.length : Int) from zu_s.trans htop, htop]
      rw [show z_upd μ' 222 13 (S.length : Int) 231 (S.length : Int) = μ' 231 (S.length : Int) from zu_n (by decide)]
      have hnode := e5.1
      dsimp only at hnode
      generalize μ' 231 (S.length : Int) = node at *
      obtain ⟨n1, n2, n3⟩ := hnode
      have f223 : ∀ a k, 223 ≤ a → a ≤ 226 → μ' a k = μ a k := fun a k p1 p2 => e8 a k (by omega) (by omega) (by omega) (by omega)
      obtain ⟨d1, d2, d3, d4, d5, d6⟩ := hT.2.2 node n1 n2
      rw [n3] at d1 d2 d6
      rw [eW] at d2
      have d2' : μ 223 node = c := d2
      rw [show z_upd μ' 222 13 (S.length : Int) 223 node = c from (zu_n (by decide)).trans ((f223 _ _ (by omega) (by omega)).trans d2')]
      have hcv : cv fs c := hW.1.2 c (by rw [eW]; simp)
      have hcb : 0 ≤ c ∧ c < 128 := by unfold cv at hcv; omega
      have hflat : ((W :: S).flatten.length : Int) = 1 + (X.length : Int) + (S.flatten.length : Int) := by
        rw [List.flatten_cons, eW]; simp; omega
      have hSl2 : S.length + 1 ≤ (W :: S).flatten.length := by simpa using hSl
      refine ⟨⟨by omega, by omega⟩, by omega, by omega, s_add ht (by rw [zu_n (by omega), e6]; omega) ?_⟩
      rw [show z_upd μ' 222 13 (S.length : Int) t 2 = i from (zu_n (by omega)).trans e6]
      generalize hM : z_upd (z_upd (z_upd μ' 222 13 (S.length : Int)) (t + 1) i c) t 2 (i + 1) = μ4
      have m0 : ∀ a k, ¬ (a = 222 ∧ k = 13) → ¬ (a = t + 1 ∧ k = i) → ¬ (a = t ∧ k = 2) → μ4 a k = μ' a k := fun a k p1 p2 p3 => by rw [← hM, zu_f p3, zu_f p2, zu_f p1]
      have m13 : μ4 222 13 = (S.length : Int) := by rw [← hM, zu_n (by omega), zu_n (by omega), zu_s]
      have m2 : μ4 t 2 = i + 1 := by rw [← hM, zu_s]
      have mc : μ4 (t + 1) i = c := by rw [← hM, zu_n (by omega), zu_s]
      have m8 : ∀ a k, ¬ (a = 222 ∧ k = 13) → a ≠ 231 → a ≠ t + 1 → ¬ (a = t ∧ k = 2) → μ4 a k = μ a k := fun a k p1 p2 p3 p4 => (m0 a k p1 (by omega) p4).trans (e8 a k p1 p2 p3 p4)
      have m211 : μ4 211 c = arf fs c := by rw [m8 _ _ (by omega) (by omega) (by omega) (by omega)]; exact hF.2.2.2 c hcb.1 hcb.2
      have m11 : ∀ μ5 : ZM, (∀ a k, ¬ (a = 222 ∧ k = 13) → a ≠ 231 → a ≠ t + 1 → ¬ (a = t ∧ k = 2) → μ5 a k = μ a k) → μ5 222 11 = (N.length : Int) := fun μ5 q => (q _ _ (by omega) (by omega) (by omega) (by omega)).trans hT.1
      have g5 : gk (fun j W => rN N (μ4 231 j) W) S := gk_ex (A' := fun j W => rN N (μ4 231 j) W) e5.2 (fun j Y _ _ q => by rw [m0 _ _ (by omega) (by omega) (by omega)]; exact q)
      have hrp : rp (μ4 (t + 1)) (acc ++ [c]) := rp_push e7 (by rw [← e1]; exact mc) (fun j p1 p2 => m0 _ _ (by omega) (by omega) (by omega))
      have hbd : (S.length : Int) < 500 := by omega
      have go : ∀ (μ5 : ZM) (S5 : List (List Int)), S5.flatten = X ++ S.flatten → (∀ Y ∈ S5, gV fs Y) → μ5 222 13 = (S5.length : Int) → gk (fun j W => rN N (μ5 231 j) W) S5 → (∀ a k, ¬ (a = 222 ∧ k = 13) → a ≠ 231 → μ5 a k = μ4 a k) → P_X6_write_104 G t i μ5 K := by
        intro μ5 S5 q1 q2 q3 q4 q5
        refine ⟨⟨by omega, by omega⟩, hG _ _ ⟨acc ++ [c], S5, by simp; omega, ?_, q2, q3, q4, (q5 _ _ (by omega) (by omega)).trans m2, hrp.ex (fun j _ _ => q5 _ _ (by omega) (by omega)), fun a k p1 p2 p3 p4 => (q5 a k p1 p2).trans (m8 a k p1 p2 p3 p4)⟩ (by omega)⟩
        rw [q1, ← e2, List.flatten_cons, eW]; simp
      have hS : ∀ Y ∈ S, gV fs Y := fun Y hY => e3 Y (by simp [hY])
      have gpos := arf_pos ho c
      have gle := arf_le ho c
      rw [d2'] at d6
      have last : ∀ (μ5 : ZM) (S5 : List (List Int)), (1 ≤ arf fs c → gN N (μ 224 node) ++ S5.flatten = X ++ S.flatten) → (arf fs c = 0 → S5 = S) → (∀ Y ∈ S5, gV fs Y) → S5.length ≤ S.length + 1 → μ5 222 13 = (S5.length : Int) → gk (fun j W => rN N (μ5 231 j) W) S5 → (∀ a k, ¬ (a = 222 ∧ k = 13) → a ≠ 231 → μ5 a k = μ4 a k) → P_X6_write_79 G t i node c μ5 K := by
        intro μ5 S5 q1 q1' q2 q2' q3 q4 q5
        unfold P_X6_write_79
        rw [q5 211 _ (by omega) (by omega), m211]
        refine ⟨hcb, ifb (fun y => go μ5 S5 ?_ q2 q3 q4 q5) (fun y => ⟨by omega, ?_⟩)⟩
        · rw [q1' (by omega)]
          have hp := hW.1.1
          rw [eW] at hp
          have hp2 := hp.2
          rw [show (1 : Int) - 1 + arf fs c = 0 by omega] at hp2
          cases X with
          | nil => rfl
          | cons z X => exact absurd hp2.1 (by decide)
        · have dd := d6 (by omega)
          have e224 : μ5 224 node = μ 224 node := (q5 _ _ (by omega) (by omega)).trans (m8 _ _ (by omega) (by omega) (by omega) (by omega))
          rw [e224]
          refine s_push0 (N := N) (m11 μ5 (fun a k p1 p2 p3 p4 => (q5 a k p1 p2).trans (m8 a k p1 p2 p3 p4))) ⟨d4, by omega⟩ (by omega) ?_
          rw [q3]
          refine go _ (gN N (μ 224 node) :: S5) ?_ ?_ ?_ ⟨?_, ?_⟩ (fun a k p1 p2 => by rw [zu_f p1, zu_n p2]; exact q5 a k p1 p2)
          · rw [List.flatten_cons]; exact q1 (by omega)
          · intro Y hY
            rcases List.mem_cons.mp hY with z | z
            · rw [z]; exact (hT.2.2 _ d4 (by omega)).1
            · exact q2 Y z
          · rw [zu_s]; simp
          · show rN N (z_upd (z_upd μ5 231 (S5.length : Int) (μ 224 node)) 222 13 _ 231 (S5.length : Int)) _
            rw [zu_n (by decide), zu_s]
            exact ⟨d4, by omega, rfl⟩
          · exact gk_ex (A' := fun j W => rN N (z_upd (z_upd μ5 231 (S5.length : Int) (μ 224 node)) 222 13 _ 231 j) W) q4 (fun j Y _ p q => by rw [zu_n (by decide), zu_k (by omega)]; exact q)
      rw [m211]
      refine ⟨hcb, ifb (fun y => ⟨by omega, ?_⟩) (fun y => last μ4 S (fun p => ?_) (fun _ => rfl) hS (by omega) m13 g5 (fun _ _ _ _ => rfl))⟩
      · obtain ⟨x1, x2, x3⟩ := (d6 (by omega)).2.2 y
        have e225 : μ4 225 node = μ 225 node := m8 _ _ (by omega) (by omega) (by omega) (by omega)
        rw [e225]
        refine s_push0 (N := N) (m11 μ4 m8) ⟨x1, by omega⟩ (by omega) ?_
        rw [m13]
        refine last _ (gN N (μ 225 node) :: S) (fun p => ?_) (fun p => absurd p (by omega)) ?_ (by simp) ?_ ⟨?_, ?_⟩ (fun a k p1 p2 => by rw [zu_f p1, zu_n p2])
        · rw [eW] at x3
          rw [(List.cons.inj x3).2, List.flatten_cons]
          simp
        · intro Y hY
          rcases List.mem_cons.mp hY with z | z
          · rw [z]; exact (hT.2.2 _ x1 (by omega)).1
          · exact hS Y z
        · rw [zu_s]; simp
        · show rN N (z_upd (z_upd μ4 231 (S.length : Int) (μ 225 node)) 222 13 _ 231 (S.length : Int)) _
          rw [zu_n (by decide), zu_s]
          exact ⟨x1, by omega, rfl⟩
        · exact gk_ex (A' := fun j W => rN N (z_upd (z_upd μ4 231 (S.length : Int) (μ 225 node)) 222 13 _ 231 j) W) g5 (fun j Y _ p q => by rw [zu_n (by decide), zu_k (by omega)]; exact q)
      · have := (d6 (by omega)).2.1 (by omega)
        rw [eW] at this
        rw [(List.cons.inj this).2]
  · rw [zu_n (by omega)]; exact h13
  · show rN N (z_upd μ t 2 0 231 0) V
    rw [zu_n (by omega)]; exact hs
