/-! ===== what is common ===== -/
theorem fe_app1 {fs : List Fn} : ∀ (X Y : List Int) (k : Int), pw fs k X → fe fs k (X ++ Y) = (X.length : Int)
  | [], Y, k, h => by
    have : k = 0 := h
    rw [List.nil_append, fe_0 (by omega)]; rfl
  | c :: X, Y, k, h => by
    have ih := fe_app1 X Y _ h.2
    rw [List.cons_append]
    conv => lhs; unfold fe
    rw [if_neg (by have := h.1; omega), ih, List.length_cons]
    omega
/-- codes as in a part make a part -/
theorem tl_of {fs : List Fn} {A B : List Int} {i j : Int} (ho : okF fs) (hA : okT fs A) (hi : 0 ≤ i ∧ i < (A.length : Int)) (hj : 0 ≤ j) (hn : j + (en fs A i - i) ≤ (B.length : Int)) : (∀ k : Int, 0 ≤ k → k < en fs A i - i → gt B (j + k) = gt A (i + k)) ↔ tl fs B j = tl fs A i := by
  have bd := en_bd (fs := fs) hi
  constructor
  · intro h
    have hX := okT_tl ho hA hi
    have lX := tl_len (fs := fs) (T := A) hi.1
    have e1 : (B.drop j.toNat).take (en fs A i - i).toNat = tl fs A i := by
      refine list_gt ?_ (fun k p1 p2 => ?_)
      · rw [List.length_take, List.length_drop]; omega
      · rw [List.length_take, List.length_drop] at p2
        rw [gt_take (by omega), gt_drop p1, tl_gt hi.1 ⟨p1, by omega⟩, show ((j.toNat : Nat) : Int) + k = j + k by omega]
        exact h k p1 (by omega)
    have e2 : B.drop j.toNat = tl fs A i ++ (B.drop j.toNat).drop (en fs A i - i).toNat := by
      rw [← e1, List.take_append_drop]
    have e3 : fe fs 1 (B.drop j.toNat) = en fs A i - i := by
      rw [e2, fe_app1 _ _ _ hX.1]; omega
    unfold tl at e1 ⊢
    rw [e3]; exact e1
  · intro h k p1 p2
    have := (tl_eq (fs := fs) (A := B) (B := A) hj hi.1).mp h
    exact this.2 k p1 (by omega)
def hsb (fs : List Fn) (A B : List Int) (i : Int) : Bool := (List.range B.length).any (fun j => decide (tl fs B (j : Int) = tl fs A i))
theorem hsb_iff {fs : List Fn} {A B : List Int} {i : Int} : hsb fs A B i = true ↔ ∃ j : Int, 0 ≤ j ∧ j < (B.length : Int) ∧ tl fs B j = tl fs A i := by
  unfold hsb
  rw [List.any_eq_true]
  constructor
  · intro ⟨j, h1, h2⟩
    exact ⟨(j : Int), by omega, by have := List.mem_range.mp h1; omega, of_decide_eq_true h2⟩
  · intro ⟨j, h1, h2, h3⟩
    refine ⟨j.toNat, List.mem_range.mpr (by omega), decide_eq_true ?_⟩
    rw [show ((j.toNat : Nat) : Int) = j by omega]; exact h3
abbrev cmc (fs : List Fn) (A B : List Int) (sz k : Int) : Prop := sz < en fs A k - k ∧ (97 ≤ gt A k ∧ gt A k < 103) ∧ hsb fs A B k = true
def cmS (fs : List Fn) (A B : List Int) : Nat → Int × Int
  | 0 => (-9, 0)
  | k + 1 => if cmc fs A B (cmS fs A B k).2 (k : Int) then ((k : Int), en fs A (k : Int) - (k : Int)) else cmS fs A B k
def cm (fs : List Fn) (A B : List Int) : Int := (cmS fs A B A.length).1
theorem cmS_s {fs : List Fn} {A B : List Int} {v : Int} (h : 0 ≤ v) : cmS fs A B (v + 1).toNat = if cmc fs A B (cmS fs A B v.toNat).2 v then (v, en fs A v - v) else cmS fs A B v.toNat := by
  rw [show (v + 1).toNat = v.toNat + 1 by omega]
  show (if _ then _ else _) = _
  rw [show (v.toNat : Int) = v by omega]
theorem cmS_ok {fs : List Fn} {A B : List Int} : ∀ k : Nat, k ≤ A.length → ((cmS fs A B k).1 = -9 ∧ (cmS fs A B k).2 = 0) ∨ (0 ≤ (cmS fs A B k).1 ∧ (cmS fs A B k).1 < (k : Int) ∧ (cmS fs A B k).2 = en fs A (cmS fs A B k).1 - (cmS fs A B k).1 ∧ 0 < (cmS fs A B k).2)
  | 0, _ => Or.inl ⟨rfl, rfl⟩
  | k + 1, hk => by
    have ih := cmS_ok (fs := fs) (A := A) (B := B) k (by omega)
    unfold cmS
    by_cases g : cmc fs A B (cmS fs A B k).2 (k : Int)
    · rw [if_pos g]
      have := en_bd (fs := fs) (T := A) (i := (k : Int)) ⟨by omega, by omega⟩
      exact Or.inr ⟨by dsimp only; omega, by dsimp only; omega, rfl, by dsimp only; omega⟩
    · rw [if_neg g]
      rcases ih with q | q
      · exact Or.inl q
      · exact Or.inr ⟨q.1, by omega, q.2.2⟩
theorem s_hasSubterm {fs : List Fn} {t t' i : Int} {A B : List Int} {μ : ZM} {K : Int → ZM → Prop} (ht : z_tm t) (ht' : z_tm t') (hT : Tm μ fs t B) (hT' : Tm μ fs t' A) (lA : A.length ≤ 40) (lB : B.length ≤ 40) (hi : 0 ≤ i ∧ i < (A.length : Int)) (h1 : hsb fs A B i = true → K 1 μ) (h0 : ¬ hsb fs A B i = true → K 0 μ) : P_X10_hasSubterm t t' i μ K := by
  rw [hsb_iff] at h1 h0
  refine ⟨ht, ht', ?_⟩
  refine z_lf1_ind (fun j μ' => μ' = μ ∧ 0 ≤ j ∧ j ≤ (B.length : Int) ∧ ∀ q : Int, 0 ≤ q → q < j → tl fs B q ≠ tl fs A i) (fun j _ => ((B.length : Int) - j).toNat) ?_ 0 μ ⟨rfl, by omega, by omega, fun q p1 p2 => absurd p2 (by omega)⟩
  intro j μ' G ⟨e1, e2, e3, e4⟩ hG
  subst e1
  rw [hT.1]
  refine ifb (fun g => ⟨Or.inl rfl, h0 (fun ⟨q, q1, q2, q3⟩ => e4 q q1 (by omega) q3)⟩) (fun g => s_isSameAt ht ht' hT hT' lB lA ⟨e2, by omega⟩ hi (fun q => if1 ⟨Or.inr rfl, h1 ⟨j, e2, by omega, q⟩⟩) (fun q => if0 ⟨⟨by omega, by omega⟩, hG _ _ ⟨rfl, by omega, by omega, fun x p1 p2 => ?_⟩ (by omega)⟩))
  by_cases ex : x = j
  · rw [ex]; exact q
  · exact e4 x p1 (by omega)
theorem s_commonStart {fs : List Fn} {c : Int} {A B : List Int} {μ : ZM} {K : Int → ZM → Prop} (hc : z_cm c) (hA : Tm μ fs (6 * (c - 187) + 1) A) (hB : Tm μ fs (6 * (c - 187) + 4) B) (lA : A.length ≤ 40) (lB : B.length ≤ 40) (h : K (cm fs A B) μ) : P_X0_commonStart c μ K := by
  have b := hc
  unfold z_cm at b
  refine ⟨hc, ?_⟩
  refine z_lf3_ind (fun best sz i μ' => μ' = μ ∧ 0 ≤ i ∧ i ≤ (A.length : Int) ∧ (best, sz) = cmS fs A B i.toNat) (fun best sz i _ => ((A.length : Int) - i).toNat) ?_ (-9) 0 0 μ ⟨rfl, by omega, by omega, rfl⟩
  intro best sz i μ' G ⟨e1, e2, e3, e4⟩ hG
  subst e1
  rw [hA.1]
  refine ifb (fun g => ?_) (fun g => ?_)
  · rw [show i.toNat = A.length by omega] at e4
    have : best = cm fs A B := congrArg Prod.fst e4
    rw [this]; exact h
  · have hi : 0 ≤ i ∧ i < (A.length : Int) := ⟨e2, by omega⟩
    have bd := en_bd (fs := fs) hi
    have nx := cmS_s (fs := fs) (A := A) (B := B) e2
    rw [← e4] at nx
    dsimp only at nx
    rw [show μ' (6 * (c - 187) + 1 + 2) i = en fs A i from hA.2.2 i e2 hi.2, hA.2.1 i e2 hi.2]
    have no : ¬ cmc fs A B sz i → P_X0_commonStart_72 G c best sz i μ' K := by
      intro q
      rw [if_neg q] at nx
      exact ⟨⟨by omega, by omega⟩, hG _ _ _ _ ⟨rfl, by omega, by omega, nx.symm⟩ (by omega)⟩
    refine ⟨by omega, ⟨by omega, by omega⟩, ifb (fun g1 => no (fun q => by have := q.1; omega)) (fun g1 => ⟨by omega, s_isLetter (fun g2 => if1 (s_hasSubterm (by unfold z_tm; omega) (by unfold z_tm; omega) hB hA lA lB hi (fun g3 => if1 ?_) (fun g3 => if0 (no (fun q => g3 q.2.2))))) (fun g2 => if0 (no (fun q => g2 q.2.1)))⟩)⟩
    rw [if_pos ⟨by omega, g2, g3⟩] at nx
    exact ⟨⟨by omega, by omega⟩, hG _ _ _ _ ⟨rfl, by omega, by omega, nx.symm⟩ (by omega)⟩
theorem s_isPartOf {fs : List Fn} {s s' i : Int} {A B : List Int} {μ : ZM} {K : Int → ZM → Prop} (ho : okF fs) (hs : 0 ≤ s ∧ s < 44) (hs' : 0 ≤ s' ∧ s' < 44) (hS : Sl μ s B) (hS' : Sl μ s' A) (hA : okT fs A) (lA : A.length ≤ 128) (lB : B.length ≤ 128) (hi : 0 ≤ i ∧ i < (A.length : Int)) (h1 : hsb fs A B i = true → K 1 μ) (h0 : ¬ hsb fs A B i = true → K 0 μ) : P_X12_isPartOf s s' i (en fs A i - i) μ K := by
  rw [hsb_iff] at h1 h0
  have bd := en_bd (fs := fs) hi
  refine z_lf1_ind (fun j μ' => μ' = μ ∧ 0 ≤ j ∧ j ≤ (B.length : Int) ∧ ∀ q : Int, 0 ≤ q → q < j → tl fs B q ≠ tl fs A i) (fun j _ => ((B.length : Int) - j).toNat) ?_ 0 μ ⟨rfl, by omega, by omega, fun q p1 p2 => absurd p2 (by omega)⟩
  intro j μ' G ⟨e1, e2, e3, e4⟩ hG
  subst e1
  rw [hS.1]
  refine ⟨⟨by omega, by omega⟩, hs, ifb (fun g => ⟨Or.inl rfl, h0 (fun ⟨q, q1, q2, q3⟩ => ?_)⟩) (fun g => ?_)⟩
  · by_cases gq : q < j
    · exact e4 q q1 gq q3
    · have := (tl_eq (fs := fs) q1 hi.1).mp q3
      have b2 := en_bd (fs := fs) (T := B) (i := q) ⟨q1, q2⟩
      omega
  · have key := tl_of (B := B) (j := j) ho hA hi e2 (by omega)
    refine s_isSamePart hs hs' hS hS' lB lA ⟨e2, by omega⟩ ⟨hi.1, by omega⟩ (fun q => if1 ⟨Or.inr rfl, h1 ⟨j, e2, by omega, key.mp q⟩⟩) (fun q => if0 ⟨⟨by omega, by omega⟩, hG _ _ ⟨rfl, by omega, by omega, fun x p1 p2 => ?_⟩ (by omega)⟩)
    by_cases ex : x = j
    · rw [ex]; exact fun y => q (key.mpr y)
    · exact e4 x p1 (by omega)
theorem s_findCommon {fs : List Fn} {s s' : Int} {A B : List Int} {μ : ZM} {K : Int → ZM → Prop} (ho : okF fs) (hF : MF μ fs) (hs : 0 ≤ s ∧ s < 44) (hs' : 0 ≤ s' ∧ s' < 44) (hS : Sl μ s A) (hS' : Sl μ s' B) (hA : okT fs A) (lA : A.length ≤ 40) (lB : B.length ≤ 40) (h0 : cm fs A B = -9 → ∀ μ', (∀ a k, ¬ (a = 248 ∧ (k = 37 ∨ k = 38)) → μ' a k = μ a k) → K 0 μ') (h1 : cm fs A B ≠ -9 → ∀ μ', (∀ a k, ¬ (a = 248 ∧ (k = 37 ∨ k = 38)) → μ' a k = μ a k) → μ' 248 37 = cm fs A B → μ' 248 38 = en fs A (cm fs A B) - cm fs A B → 0 ≤ cm fs A B → cm fs A B < (A.length : Int) → K 1 μ') : P_X12_findCommon s s' μ K := by
  show P_X12_findCommon_7 s s' 0 (z_upd μ 248 38 0) K
  refine z_lf1_ind (fun i μ' => 0 ≤ i ∧ i ≤ (A.length : Int) ∧ (∀ a k, ¬ (a = 248 ∧ (k = 37 ∨ k = 38)) → μ' a k = μ a k) ∧ μ' 248 38 = (cmS fs A B i.toNat).2 ∧ ((cmS fs A B i.toNat).1 ≠ -9 → μ' 248 37 = (cmS fs A B i.toNat).1)) (fun i _ => ((A.length : Int) - i).toNat) ?_ 0 _ ⟨by omega, by omega, fun a k q => zu_f (by omega), zu_s, fun q => absurd rfl q⟩
  intro i μ' G ⟨e1, e2, e3, e4, e5⟩ hG
  have hS1 : Sl μ' s A := hS.ex (e3 _ _ (by omega)) (fun _ _ _ => e3 _ _ (by omega))
  have hS2 : Sl μ' s' B := hS'.ex (e3 _ _ (by omega)) (fun _ _ _ => e3 _ _ (by omega))
  have hF1 : MF μ' fs := hF.fr (fun a ha k => e3 _ _ (by omega)) (e3 _ _ (by omega))
  have ok := cmS_ok (fs := fs) (A := A) (B := B) i.toNat (by omega)
  rw [hS1.1]
  refine ⟨hs, ifb (fun g => ?_) (fun g => ?_)⟩
  · have ei : i.toNat = A.length := by omega
    rw [ei] at e4 e5 ok
    refine ifb (fun g1 => ⟨Or.inl rfl, h0 ?_ μ' e3⟩) (fun g1 => ⟨Or.inr rfl, ?_⟩)
    · rcases ok with q | q
      · exact q.1
      · omega
    · rcases ok with q | q
      · omega
      · have hne : cm fs A B ≠ -9 := by unfold cm; omega
        exact h1 hne μ' e3 (e5 hne) (e4.trans q.2.2.1) q.1 (by unfold cm; omega)
  · have hi : 0 ≤ i ∧ i < (A.length : Int) := ⟨e1, by omega⟩
    have bd := en_bd (fs := fs) hi
    have nx := cmS_s (fs := fs) (A := A) (B := B) e1
    have no : ¬ cmc fs A B (cmS fs A B i.toNat).2 i → P_X12_findCommon_71 G s s' i μ' K := by
      intro q
      rw [if_neg q] at nx
      exact ⟨⟨by omega, by omega⟩, hG _ _ ⟨by omega, by omega, e3, by rw [nx]; exact e4, by rw [nx]; exact e5⟩ (by omega)⟩
    refine s_end (T := A) ho hF1 hs hS1 hA (by omega) hi ⟨⟨by omega, by omega⟩, s_atT hs hS1 (by omega) hi (s_wi (fun g1 => ⟨Or.inr rfl, if1 ?_⟩) (fun g1 => ⟨Or.inl rfl, if0 (no (fun q => g1 (by have := q.2.1; omega)))⟩))⟩
    rw [e4]
    refine ifb (fun g2 => no (fun q => by have := q.1; omega)) (fun g2 => s_isPartOf ho hs' hs hS2 hS1 hA (by omega) (by omega) hi (fun g3 => if1 ?_) (fun g3 => if0 (no (fun q => g3 q.2.2))))
    rw [if_pos ⟨by omega, by omega, g3⟩] at nx
    refine ⟨⟨by omega, by omega⟩, hG _ _ ⟨by omega, by omega, fun a k q => ?_, ?_, fun _ => ?_⟩ (by omega)⟩
    · rw [zu_f (by omega), zu_f (by omega)]; exact e3 a k q
    · rw [nx, zu_s]
    · rw [nx, zu_k (by decide), zu_s]
theorem cm_ok {fs : List Fn} {A B : List Int} (h : cm fs A B ≠ -9) : 0 ≤ cm fs A B ∧ cm fs A B < (A.length : Int) := by
  rcases cmS_ok (fs := fs) (A := A) (B := B) A.length (Nat.le_refl _) with q | q
  · exact absurd q.1 h
  · exact ⟨q.1, q.2.1⟩
theorem op_common {x1 : Int} {μ : ZM} (hI : Inv μ) {K : Int → ZM → Prop} (hK : ∀ r μ1, Ans (P_X12_common x1 μ1) r → K r μ1) : P_X11_common x1 μ K := by
  have hI0 := hI
  obtain ⟨tp, fs, cl, ls, nt, cs, hc, hm, ho⟩ := hI
  obtain ⟨c1, c2, c3, c4, c5, c6, c7⟩ := id hc
  have key : ∀ r : Int, (∀ K' : Int → ZM → Prop, K' r μ → P_X12_common x1 μ K') → K r μ := fun r h => hK _ _ (Ans.same hI0 h)
  have mid : ∀ (μ1 : ZM) (K' : Int → ZM → Prop), (x1 = -9 ∨ (0 ≤ x1 ∧ x1 < 20)) → P_X12_common_19 x1 μ1 K' → P_X12_common x1 μ1 K' := fun μ1 K' g2 h => ifb (fun _ => h) (fun g => s_wi (fun _ => if1 h) (fun y => absurd (by omega) y))
  refine s_nop (by omega) (fun h1 => if1 (key _ (fun K' h' => ifb (fun g => absurd g (by omega)) (fun _ => s_wi (fun y => absurd y (by omega)) (fun _ => if0 h'))))) (fun h1 => if0 ?_)
  cases cl with
  | none =>
    have e1 : μ 206 11 = 0 := c3
    have e2 : μ 248 9 = 0 := hm.2.2.1
    rw [if_pos e1]
    refine key _ (fun K' h' => mid _ _ h1 ?_)
    unfold P_X12_common_19
    rw [if_pos e2]; exact h'
  | some q =>
    obtain ⟨e1, t1, t2⟩ := id c3
    obtain ⟨o1, o2, l1, l2⟩ := ho.2.1 q rfl
    rw [if_neg (by omega)]
    have back : ∀ μ1 : ZM, (∀ a k, oC a k ∨ 248 ≤ a → μ1 a k = μ a k) → ∀ r : Int, (cm fs q.1 q.2 = -9 → r = -9) → (cm fs q.1 q.2 ≠ -9 → r = so (tl fs q.1 (cm fs q.1 q.2)) x1) → K r μ1 := by
      intro μ1 f1 r hr0 hr1
      obtain ⟨hc1, hm1⟩ := hc.sc hm f1
      refine hK _ _ (fun K' hK' => mid _ _ h1 ?_)
      obtain ⟨y1, y2, y3⟩ := hm1.2.2.1
      unfold P_X12_common_19
      rw [if_neg (by omega)]
      refine s_findCommon ho.1 hm1.2.1 (by omega) (by omega) y2 y3 o1 (by omega) (by omega) (fun g μ2 f2 => if0 ?_) (fun g μ2 f2 v1 v2 v3 v4 => if1 ?_)
      · rw [← hr0 g]
        exact hK' μ2 (Inv.sc hc1 hm1 ho (fun a k y => f2 a k (by unfold oM at y; omega)))
      · have hi := hK' μ2 (Inv.sc hc1 hm1 ho (fun a k y => f2 a k (by unfold oM at y; omega)))
        rw [hr1 g] at hi
        have ltl := tl_len (fs := fs) (T := q.1) v3
        have bd := en_bd (fs := fs) ⟨v3, v4⟩
        unfold so at hi
        rw [ltl] at hi
        rw [v1, v2]
        refine ifb (fun g1 => ?_) (fun g1 => ifb (fun g2 => ?_) (fun g2 => ⟨⟨by omega, by omega⟩, ?_⟩))
        · rw [if_pos g1] at hi; exact hi
        · rw [if_neg g1, if_neg (by omega)] at hi; exact hi
        · rw [if_neg g1, if_pos (by omega), tl_gt v3 (by omega)] at hi
          exact s_atT (T := q.1) (by omega) (y2.ex (f2 _ _ (by omega)) (fun _ _ _ => f2 _ _ (by omega))) (by omega) (by omega) hi
    refine s_commonStart (by decide) t1 t2 (by omega) (by omega) ?_
    refine ifb (fun g => back μ (fun _ _ _ => rfl) _ (fun _ => rfl) (fun y => absurd g y)) (fun g => ⟨by decide, ?_⟩)
    have ok := cm_ok g
    have bd := en_bd (fs := fs) ok
    have ltl := tl_len (fs := fs) (T := q.1) ok.1
    simp only [z_wr]
    rw [show z_upd μ 178 2 0 105 (cm fs q.1 q.2) = en fs q.1 (cm fs q.1 q.2) from (zu_n (by decide)).trans (t1.2.2 _ ok.1 ok.2)]
    refine ⟨by omega, s_addRange (acc := []) (by decide) (by decide) (by decide) ⟨by rw [zu_n (by decide)]; exact t1.1, t1.2.1.ex (fun k _ _ => zu_n (by decide))⟩ (by omega) zu_s (fun k p1 p2 => absurd p2 (by simp; omega)) (by simp) ⟨by omega, by omega, by omega⟩ (fun y => absurd (by simp; omega) y) (fun _ μ2 f2 a1 a2 => ?_)⟩
    have et : ([] : List Int) ++ (q.1.drop (cm fs q.1 q.2).toNat).take (en fs q.1 (cm fs q.1 q.2) - cm fs q.1 q.2).toNat = tl fs q.1 (cm fs q.1 q.2) := by
      rw [List.nil_append]
      unfold tl en
      rw [show cm fs q.1 q.2 + fe fs 1 (q.1.drop (cm fs q.1 q.2).toNat) - cm fs q.1 q.2 = fe fs 1 (q.1.drop (cm fs q.1 q.2).toNat) by omega]
    rw [et] at a1 a2
    refine s_sym (T := tl fs q.1 (cm fs q.1 q.2)) (by decide) a1 a2 (by omega) ?_
    exact back μ2 (fun a k y => (f2 a k (by unfold oC at y; omega) (by unfold oC at y; omega)).trans (zu_n (by unfold oC at y; omega))) _ (fun y => absurd y g) (fun _ => rfl)
