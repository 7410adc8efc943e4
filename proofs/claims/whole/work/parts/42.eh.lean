/-! a side's value, for both -/
def va (fs : List Fn) (T : List Int) (x y z : Int) : Int := (ev fs 701 0 [(T, (T.length : Int), x, y, z)] []).1
def cmp (fs : List Fn) (A B : List Int) (x y z : Int) : Int := if va fs A x y z = -9 then -9 else if va fs B x y z = -9 then -9 else if va fs A x y z = va fs B x y z then 1 else 0
theorem s_mValueOf {fs : List Fn} {T : List Int} {s x y z : Int} {μ : ZM} {K : Int → ZM → Prop} (ho : okF fs) (hF : MF μ fs) (hs : 0 ≤ s ∧ s < 44) (hS : Sl μ s T) (hT : okT fs T) (hl : T.length ≤ 40) (hx : 0 ≤ x ∧ x ≤ 99) (hy : 0 ≤ y ∧ y ≤ 99) (hz : 0 ≤ z ∧ z ≤ 99) (h : ∀ μ', (∀ a k, ¬ evm a k → μ' a k = μ a k) → K (va fs T x y z) μ') : P_X12_valueOf s x y z μ K := by
  unfold P_X12_valueOf
  simp only [z_wr]
  have m0 : ∀ a k, ¬ evm a k → z_upd (z_upd (z_upd μ 248 15 0) 248 16 0) 248 22 0 a k = μ a k := fun a k q => by
    unfold evm at q
    rw [zu_f (by omega), zu_f (by omega), zu_f (by omega)]
  have hE : EM (z_upd (z_upd (z_upd μ 248 15 0) 248 16 0) 248 22 0) 0 [] [] := ⟨by simp [z_upd], by simp [z_upd], by simp [z_upd], trivial, trivial⟩
  generalize z_upd (z_upd (z_upd μ 248 15 0) 248 16 0) 248 22 0 = μ1 at m0 hE ⊢
  refine ⟨hs, s_enters (T := T) (fr := []) (st := []) (w := 0) (by simp) (Or.inl ⟨hs.1, hs.2, hl, hS.2.ex (fun i _ _ => m0 _ _ (by unfold evm; omega))⟩) ((m0 _ _ (by unfold evm; omega)).trans hS.1) (yp := y) (fun _ => rfl) hE (fun μ2 k1 k2 => ?_)⟩
  refine s_works (R := ev fs 701 0 [(T, (T.length : Int), x, y, z)] []) (μ0 := μ) ho hF (fun μ' q _ => h μ' q) 701 μ2 ⟨0, _, [], k2, okE_0 hT hl hx (fun _ => hy) hz, rfl, fun a k q => (k1 a k q).trans (m0 a k q)⟩
theorem s_compare {fs : List Fn} {A B : List Int} {c x y z : Int} {μ : ZM} {K : Int → ZM → Prop} (ho : okF fs) (hF : CF μ fs) (hc : z_cm c) (hA : tx μ (6 * (c - 187) + 1) A) (hB : tx μ (6 * (c - 187) + 4) B) (oA : okT fs A) (oB : okT fs B) (lA : A.length ≤ 40) (lB : B.length ≤ 40) (hx : 0 ≤ x ∧ x ≤ 99) (hy : 0 ≤ y ∧ y ≤ 99) (hz : 0 ≤ z ∧ z ≤ 99) (h : ∀ μ', (∀ a k, ¬ evc a → μ' a k = μ a k) → K (cmp fs A B x y z) μ') : P_X2_compare c x y z μ K := by
  unfold cmp at h
  have b := hc
  unfold z_cm at b
  refine ⟨hc, s_valueOf (T := A) ho hF (by unfold z_tm; omega) hA oA lA hx (fun _ => hy) hz (fun μ1 e1 _ => ?_)⟩
  show if va fs A x y z = -9 then _ else _
  refine ifb (fun g => ?_) (fun g => ?_)
  · rw [if_pos g] at h; exact h μ1 e1
  · rw [if_neg g] at h
    refine s_valueOf (T := B) ho (hF.fr (fun a ha k => e1 _ _ (by unfold evc; omega)) (e1 _ _ (by unfold evc; omega))) (by unfold z_tm; omega) ⟨(e1 _ _ (by unfold evc; omega)).trans hB.1, hB.2.ex (fun i _ _ => e1 _ _ (by unfold evc; omega))⟩ oB lB hx (fun _ => hy) hz (fun μ2 e2 _ => ?_)
    show if va fs B x y z = -9 then _ else if va fs A x y z = va fs B x y z then _ else _
    have e : ∀ a k, ¬ evc a → μ2 a k = μ a k := fun a k q => (e2 a k q).trans (e1 a k q)
    refine ifb (fun g1 => ?_) (fun g1 => ?_)
    · rw [if_pos g1] at h; exact h μ2 e
    · rw [if_neg g1] at h
      refine ifb (fun g2 => ?_) (fun g2 => ?_)
      · rw [if_pos g2] at h; exact h μ2 e
      · rw [if_neg g2] at h; exact h μ2 e
theorem s_holdsBy {fs : List Fn} {A B : List Int} {s s' x y z : Int} {μ : ZM} {K : Int → ZM → Prop} (ho : okF fs) (hF : MF μ fs) (hs : 0 ≤ s ∧ s < 44) (hs' : 0 ≤ s' ∧ s' < 44) (hA : Sl μ s A) (hB : Sl μ s' B) (oA : okT fs A) (oB : okT fs B) (lA : A.length ≤ 40) (lB : B.length ≤ 40) (hx : 0 ≤ x ∧ x ≤ 99) (hy : 0 ≤ y ∧ y ≤ 99) (hz : 0 ≤ z ∧ z ≤ 99) (h : ∀ μ', (∀ a k, ¬ evm a k → μ' a k = μ a k) → K (cmp fs A B x y z) μ') : P_X12_holdsBy s s' x y z μ K := by
  unfold cmp at h
  refine s_mValueOf (T := A) ho hF hs hA oA lA hx hy hz (fun μ1 e1 => ?_)
  refine ifb (fun g => ?_) (fun g => ?_)
  · rw [if_pos g] at h
    unfold P_X12_holdsBy_34
    rw [if_pos rfl]
    exact h μ1 e1
  · rw [if_neg g] at h
    refine s_mValueOf (T := B) ho (hF.ev1 e1) hs' (hB.ex (e1 _ _ (by unfold evm; omega)) (fun i _ _ => e1 _ _ (by unfold evm; omega))) oB lB hx hy hz (fun μ2 e2 => ?_)
    have e : ∀ a k, ¬ evm a k → μ2 a k = μ a k := fun a k q => (e2 a k q).trans (e1 a k q)
    unfold P_X12_holdsBy_34
    refine ifb (fun g1 => ?_) (fun g1 => ?_)
    · rw [if_pos g1] at h; exact h μ2 e
    · rw [if_neg g1] at h
      refine ifb (fun g2 => ?_) (fun g2 => ?_)
      · rw [if_pos g2] at h; exact h μ2 e
      · rw [if_neg g2] at h; exact h μ2 e
theorem RC.ev {μ μ' : ZM} {tp : List Int} {fs : List Fn} {cl : Option (List Int × List Int)} {ls : List (List Int × List Int)} {nt : List (Int × Int)} {cs : List Int} (h : RC μ tp fs cl ls nt cs) (e : ∀ a k, ¬ evc a → ¬ a = 216 → ¬ (178 ≤ a ∧ a ≤ 180) → μ' a k = μ a k) : RC μ' tp fs cl ls nt cs := h.fr (fun a k ho => e a k (by unfold oC at ho; unfold evc; omega) (by unfold oC at ho; omega) (by unfold oC at ho; omega))
theorem RM.ev {μ μ' : ZM} {tp : List Int} {fs : List Fn} {cl : Option (List Int × List Int)} {ls : List (List Int × List Int)} {nt : List (Int × Int)} {cs : List Int} (hm : RM μ tp fs cl ls nt cs) (ho : okA fs cl ls) (hy : ∀ a k, ¬ evm a k → μ' a k = μ a k) : RM μ' tp fs cl ls nt cs := by
  obtain ⟨p1, p2, p3, p4, p5, p6⟩ := hm
  exact ⟨p1.fr (hy _ _ (by unfold evm; omega)) (fun k => hy _ _ (by unfold evm; omega)), p2.ev1 hy, p3.fr (fun q hq => by have := ho.2.1 q hq; omega) (hy _ _ (by unfold evm; omega)) (fun k h => hy _ _ (by unfold evm; omega)) (fun k h => hy _ _ (by unfold evm; omega)), p4.fr (hy _ _ (by unfold evm; omega)) (fun k h => hy _ _ (by unfold evm; omega)) (fun k h => hy _ _ (by unfold evm; omega)), p5.fr (hy _ _ (by unfold evm; omega)) (fun k => hy _ _ (by unfold evm; omega)) (fun k => hy _ _ (by unfold evm; omega)), p6.fr (hy _ _ (by unfold evm; omega)) (hy _ _ (by unfold evm; omega)) (hy _ _ (by unfold evm; omega)) (hy _ _ (by unfold evm; omega))⟩
theorem op_holds {x y z : Int} {μ : ZM} (hI : Inv μ) {K : Int → ZM → Prop} (hK : ∀ r μ1, Ans (P_X12_holds x y z μ1) r → K r μ1) : P_X11_holds x y z μ K := by
  have hI0 := hI
  obtain ⟨tp, fs, cl, ls, nt, cs, hc, hm, ho⟩ := hI
  obtain ⟨c1, c2, c3, c4, c5, c6, c7⟩ := id hc
  obtain ⟨m1, m2, m3, m4, m5, m6⟩ := id hm
  have key : ∀ r : Int, (∀ K' : Int → ZM → Prop, K' r μ → P_X12_holds x y z μ K') → K r μ := fun r h => hK _ _ (Ans.same hI0 h)
  refine s_out (fun h => if1 (key _ (fun K' h' => s_wi (fun g => absurd g (by omega)) (fun _ => if0 h')))) (fun h => if0 (s_out (fun h1 => if1 (key _ (fun K' h' => s_wi (fun _ => if1 (s_wi (fun g => absurd g (by omega)) (fun _ => if0 h'))) (fun g => absurd g (by omega))))) (fun h1 => if0 (s_out (fun h2 => if1 (key _ (fun K' h' => s_wi (fun _ => if1 (s_wi (fun _ => if1 (s_wi (fun g => absurd g (by omega)) (fun _ => if0 h'))) (fun g => absurd g (by omega)))) (fun g => absurd g (by omega))))) (fun h2 => if0 ?_)))))
  have mst : ∀ (μ1 : ZM) (K' : Int → ZM → Prop), (if μ1 248 9 = 0 then K' (-3) μ1 else P_X12_holdsBy 0 1 x y z μ1 (fun r8 μ7 => K' r8 μ7)) → P_X12_holds x y z μ1 K' := fun μ1 K' hh => s_wi (fun _ => if1 (s_wi (fun _ => if1 (s_wi (fun _ => if1 hh) (fun g => absurd g (by omega)))) (fun g => absurd g (by omega)))) (fun g => absurd g (by omega))
  cases cl with
  | none =>
    have a0 : μ 206 11 = 0 := c3
    have b0 : μ 248 9 = 0 := m3
    rw [if_pos a0]
    exact key _ (fun K' h' => mst _ _ (by rw [if_pos b0]; exact h'))
  | some q =>
    obtain ⟨a0, a1, a2⟩ : μ 206 11 = 1 ∧ Tm μ fs 103 q.1 ∧ Tm μ fs 106 q.2 := c3
    obtain ⟨b0, b1, b2⟩ : μ 248 9 = 1 ∧ Sl μ 0 q.1 ∧ Sl μ 1 q.2 := m3
    obtain ⟨o1, o2, o3, o4⟩ := ho.2.1 q rfl
    rw [if_neg (by omega)]
    refine s_compare (A := q.1) (B := q.2) ho.1 c2 (by unfold z_cm; omega) ⟨a1.1, a1.2.1⟩ ⟨a2.1, a2.2.1⟩ o1 o2 (by omega) (by omega) (by omega) (by omega) (by omega) (fun μ1 e1 => hK _ _ (fun K' hK' => mst _ _ ?_))
    have hm1 : RM μ1 tp fs (some q) ls nt cs := hm.fr (fun a k h => e1 a k (by unfold evc; omega))
    have hc1 : RC μ1 tp fs (some q) ls nt cs := hc.ev (fun a k h _ _ => e1 a k h)
    obtain ⟨p0, p1, p2⟩ : μ1 248 9 = 1 ∧ Sl μ1 0 q.1 ∧ Sl μ1 1 q.2 := hm1.2.2.1
    rw [if_neg (by omega)]
    refine s_holdsBy (A := q.1) (B := q.2) ho.1 hm1.2.1 (by omega) (by omega) p1 p2 o1 o2 (by omega) (by omega) (by omega) (by omega) (by omega) (fun μ2 e2 => hK' _ ⟨tp, fs, some q, ls, nt, cs, hc1.frM (fun a k h => e2 a k (by unfold evm; omega)), hm1.ev ho e2, ho⟩)
