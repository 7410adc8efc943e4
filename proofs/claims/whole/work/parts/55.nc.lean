/-! ===== normal forms: the class's machine ===== -/
def gN (N : List (List Int)) (k : Int) : List Int := N.getD k.toNat []
def rN (N : List (List Int)) (k : Int) (V : List Int) : Prop := 0 ≤ k ∧ k < (N.length : Int) ∧ gN N k = V
/-- a node -/
def nd (μ : ZM) (fs : List Fn) (N : List (List Int)) (k : Int) : Prop := gV fs (gN N k) ∧ μ 223 k = gt (gN N k) 0 ∧ μ 226 k = ((gN N k).length : Int) ∧ 0 ≤ μ 224 k ∧ μ 224 k < 546 ∧ (1 ≤ arf fs (μ 223 k) → μ 224 k < k ∧ (arf fs (μ 223 k) = 1 → gN N k = μ 223 k :: gN N (μ 224 k)) ∧ (arf fs (μ 223 k) = 2 → 0 ≤ μ 225 k ∧ μ 225 k < k ∧ gN N k = μ 223 k :: (gN N (μ 224 k) ++ gN N (μ 225 k))))
def NT (μ : ZM) (fs : List Fn) (N : List (List Int)) : Prop := μ 222 11 = (N.length : Int) ∧ 4 ≤ N.length ∧ ∀ k : Int, 0 ≤ k → k < (N.length : Int) → nd μ fs N k
def gk {α : Type} (A : Int → α → Prop) : List α → Prop
  | [] => True
  | v :: s => A (s.length : Int) v ∧ gk A s
theorem gk_ex {α : Type} {A A' : Int → α → Prop} : ∀ {s : List α}, gk A s → (∀ (i : Int) (f : α), 0 ≤ i → i < (s.length : Int) → A i f → A' i f) → gk A' s
  | [], _, _ => trivial
  | v :: s, h, e => ⟨e _ _ (by omega) (by simp; omega) h.1, gk_ex h.2 (fun i f h1 h2 => e i f h1 (by simp; omega))⟩
theorem gk_drop {α : Type} {A : Int → α → Prop} : ∀ {s : List α} (k : Nat), gk A s → gk A (s.drop k)
  | [], _, _ => by rw [List.drop_nil]; trivial
  | _ :: _, 0, h => h
  | _ :: s, k + 1, h => gk_drop (s := s) k h.2
theorem gk_hd {A : Int → List Int → Prop} {st : List (List Int)} (h : gk A st) (hl : 1 ≤ (st.length : Int)) : A ((st.length : Int) - 1) (st.headD []) := by
  cases st with
  | nil => simp at hl
  | cons v s =>
    rw [show (((v :: s).length : Nat) : Int) - 1 = (s.length : Int) by simp]
    exact h.1
theorem gk_2 {A : Int → List Int → Prop} {st : List (List Int)} (h : gk A st) (hl : 2 ≤ (st.length : Int)) : A ((st.length : Int) - 2) (st.tail.headD []) := by
  cases st with
  | nil => simp at hl
  | cons v s =>
    have := gk_hd h.2 (by simp at hl; omega)
    rw [show (((v :: s).length : Nat) : Int) - 2 = (s.length : Int) - 1 by simp; omega]
    exact this
def ss : List Nf → List (List Int)
  | [] => []
  | f :: fr => f.2.2.2 ++ ss fr
def rl : List Nf → Int
  | [] => 0
  | f :: fr => (f.1.length : Int) + rl fr
def fcl (μ : ZM) (N : List (List Int)) (mn : Int → List Int) (i : Int) (f : Nf) : Prop := z_tm (μ 227 i) ∧ rp (μ (μ 227 i + 1)) f.1.reverse ∧ μ 228 i = (f.1.length : Int) ∧ (120 ∈ f.1 → rN N (μ 229 i) (if i = 0 then mn 120 else xof f.2.1 f.2.2.1)) ∧ (121 ∈ f.1 → rN N (μ 230 i) (if i = 0 then mn 121 else yof f.2.2.1))
def NC (μ : ZM) (fs : List Fn) (N : List (List Int)) (mn : Int → List Int) (u : Int) (fr : List Nf) : Prop := NT μ fs N ∧ μ 222 14 = u ∧ μ 222 12 = (fr.length : Int) - 1 ∧ μ 222 13 = ((ss fr).length : Int) ∧ gk (fcl μ N mn) fr ∧ gk (fun i V => rN N (μ 231 i) V) (ss fr) ∧ rN N (μ 232 2) (mn 122)
def nvc (a k : Int) : Prop := a = 222 ∨ (223 ≤ a ∧ a ≤ 226 ∧ 4 ≤ k) ∨ (227 ≤ a ∧ a ≤ 232)
theorem gN_push1 {N : List (List Int)} {L : List Int} {k : Int} (h : 0 ≤ k ∧ k < (N.length : Int)) : gN (N ++ [L]) k = gN N k := by
  unfold gN
  rw [List.getD_eq_getElem?_getD, List.getElem?_append_left (by omega), List.getD_eq_getElem?_getD]
theorem gN_push2 {N : List (List Int)} {L : List Int} : gN (N ++ [L]) (N.length : Int) = L := by
  unfold gN
  rw [List.getD_eq_getElem?_getD, show ((N.length : Int)).toNat = N.length by omega, List.getElem?_append_right (Nat.le_refl _)]
  simp
theorem rN.up {N : List (List Int)} {L V : List Int} {k : Int} (h : rN N k V) : rN (N ++ [L]) k V := ⟨h.1, by have := h.2.1; simp; omega, (gN_push1 ⟨h.1, h.2.1⟩).trans h.2.2⟩
theorem nd.ex {μ μ' : ZM} {fs : List Fn} {N N' : List (List Int)} {k : Int} (h : nd μ fs N k) (hk : 0 ≤ k) (e : ∀ a, 223 ≤ a → a ≤ 226 → μ' a k = μ a k) (eN : ∀ j : Int, 0 ≤ j → j ≤ k → gN N' j = gN N j) : nd μ' fs N' k := by
  obtain ⟨a1, a2, a3, a4, a5, a6⟩ := h
  unfold nd
  rw [e 223 (by omega) (by omega), e 224 (by omega) (by omega), e 225 (by omega) (by omega), e 226 (by omega) (by omega), eN k hk (Int.le_refl k)]
  refine ⟨a1, a2, a3, a4, a5, fun q => ?_⟩
  obtain ⟨b1, b2, b3⟩ := a6 q
  refine ⟨b1, fun p => ?_, fun p => ?_⟩
  · rw [eN _ a4 (by omega)]; exact b2 p
  · obtain ⟨c1, c2, c3⟩ := b3 p
    refine ⟨c1, c2, ?_⟩
    rw [eN _ a4 (by omega), eN _ c1 (by omega)]; exact c3
theorem NT.ex {μ μ' : ZM} {fs : List Fn} {N : List (List Int)} (h : NT μ fs N) (e : ∀ a k, 223 ≤ a → a ≤ 226 → μ' a k = μ a k) (e1 : μ' 222 11 = μ 222 11) : NT μ' fs N := ⟨e1.trans h.1, h.2.1, fun k h1 h2 => (h.2.2 k h1 h2).ex h1 (fun a q1 q2 => e a k q1 q2) (fun _ _ _ => rfl)⟩
theorem fcl.ex {μ μ' : ZM} {N N' : List (List Int)} {mn : Int → List Int} {i : Int} {f : Nf} (h : fcl μ N mn i f) (e : ∀ a k, a < 222 → μ' a k = μ a k) (e1 : ∀ a, 227 ≤ a → a ≤ 230 → μ' a i = μ a i) (eN : ∀ k V, rN N k V → rN N' k V) : fcl μ' N' mn i f := by
  obtain ⟨a1, a2, a3, a4, a5⟩ := h
  have q : μ' 227 i = μ 227 i := e1 _ (by omega) (by omega)
  have b := a1
  unfold z_tm at b
  refine ⟨by rw [q]; exact a1, by rw [q]; exact a2.ex (fun j _ _ => e _ _ (by omega)), (e1 _ (by omega) (by omega)).trans a3, fun m => ?_, fun m => ?_⟩
  · rw [e1 229 (by omega) (by omega)]; exact eN _ _ (a4 m)
  · rw [e1 230 (by omega) (by omega)]; exact eN _ _ (a5 m)
theorem s_make {fs : List Fn} {N : List (List Int)} {c i j : Int} {V W : List Int} {μ : ZM} {K : Int → ZM → Prop} (hF : CF μ fs) (hT : NT μ fs N) (hN : (N.length : Int) < 546) (hc : cv fs c) (ha : arf fs c = 1 ∨ arf fs c = 2) (hl : fs.length ≤ 6) (hi : rN N i V) (hj : rN N j W) (hg : (1 : Int) + (V.length : Int) + (if arf fs c = 2 then (W.length : Int) else 0) ≤ 40 → gV fs (c :: (V ++ if arf fs c = 2 then W else []))) (hbad : ¬ ((1 : Int) + (V.length : Int) + (if arf fs c = 2 then (W.length : Int) else 0) ≤ 40) → K (-9) μ) (hgood : (1 : Int) + (V.length : Int) + (if arf fs c = 2 then (W.length : Int) else 0) ≤ 40 → ∀ μ', (∀ a k, ¬ (a = 222 ∧ k = 11) → ¬ (223 ≤ a ∧ a ≤ 226 ∧ k = (N.length : Int)) → μ' a k = μ a k) → NT μ' fs (N ++ [c :: (V ++ if arf fs c = 2 then W else [])]) → K (N.length : Int) μ') : P_X6_make c i j μ K := by
  obtain ⟨t1, t2, t3⟩ := id hT
  obtain ⟨i1, i2, i3⟩ := hi
  obtain ⟨j1, j2, j3⟩ := hj
  have hcb : 0 ≤ c ∧ c < 128 := by unfold cv at hc; omega
  have hwi := (t3 i i1 i2).2.2.1
  have hwj := (t3 j j1 j2).2.2.1
  rw [i3] at hwi
  rw [j3] at hwj
  have gi := (t3 i i1 i2).1.2
  have gj := (t3 j j1 j2).1.2
  rw [i3] at gi
  rw [j3] at gj
  have h211 := hF.2.2.2 c hcb.1 (by omega)
  unfold P_X6_make
  rw [t1, hwi, hwj, h211]
  have fin : ∀ s : Int, s = (if arf fs c = 2 then (W.length : Int) else 0) → 0 ≤ s ∧ s ≤ 40 → P_X6_make_68 c i j (1 + (V.length : Int)) s μ K := by
    intro s hs hs2
    unfold P_X6_make_68
    rw [← hs] at hbad hgood hg
    refine ⟨⟨by omega, by omega⟩, ifb (fun g => ?_) (fun g => hbad g)⟩
    simp only [z_wr, zu_n (show (222 : Int) ≠ 223 by decide), zu_n (show (222 : Int) ≠ 224 by decide), zu_n (show (222 : Int) ≠ 225 by decide), zu_n (show (222 : Int) ≠ 226 by decide), zu_s]
    rw [t1]
    refine ⟨by omega, by omega, by omega, by omega, ⟨by omega, by omega⟩, ⟨by omega, by omega⟩, ?_⟩
    rw [show (N.length : Int) + 1 - 1 = (N.length : Int) by omega]
    generalize hM : z_upd (z_upd (z_upd (z_upd (z_upd μ 223 (N.length : Int) c) 224 (N.length : Int) i) 225 (N.length : Int) j) 226 (N.length : Int) (1 + (V.length : Int) + s)) 222 11 ((N.length : Int) + 1) = μ1
    have m0 : ∀ a k, ¬ (a = 222 ∧ k = 11) → ¬ (223 ≤ a ∧ a ≤ 226 ∧ k = (N.length : Int)) → μ1 a k = μ a k := fun a k h1 h2 => by
      rw [← hM, zu_f (by omega), zu_f (by omega), zu_f (by omega), zu_f (by omega), zu_f (by omega)]
    refine hgood g μ1 m0 ⟨?_, by simp; omega, fun k h1 h2 => ?_⟩
    · rw [← hM, zu_s]; simp
    · by_cases ek : k = (N.length : Int)
      · have g0 := hg g
        subst ek
        have m1 : μ1 223 (N.length : Int) = c := by rw [← hM]; simp [z_upd]
        have m2 : μ1 224 (N.length : Int) = i := by rw [← hM]; simp [z_upd]
        have m3 : μ1 225 (N.length : Int) = j := by rw [← hM]; simp [z_upd]
        have m4 : μ1 226 (N.length : Int) = 1 + (V.length : Int) + s := by rw [← hM]; simp [z_upd]
        unfold nd
        rw [m1, m2, m3, m4, gN_push2]
        refine ⟨g0, rfl, ?_, i1, by omega, fun q => ⟨i2, fun p => ?_, fun p => ⟨j1, j2, ?_⟩⟩⟩
        · rw [hs]
          by_cases p : arf fs c = 2
          · rw [if_pos p, if_pos p]; simp; omega
          · rw [if_neg p, if_neg p]; simp; omega
        · rw [if_neg (by omega), List.append_nil, gN_push1 ⟨i1, i2⟩, i3]
        · rw [if_pos p, gN_push1 ⟨i1, i2⟩, gN_push1 ⟨j1, j2⟩, i3, j3]
      · have hk : k < (N.length : Int) := by simp at h2; omega
        exact (t3 k h1 hk).ex h1 (fun a q1 q2 => m0 a k (by omega) (by omega)) (fun x q1 q2 => gN_push1 ⟨q1, by omega⟩)
  rw [if_neg (show ¬ i < 0 by omega), if_neg (show ¬ (N.length : Int) ≤ i by omega), if_neg (show ¬ j < 0 by omega), if_neg (show ¬ (N.length : Int) ≤ j by omega), if_pos hN]
  exact ⟨by omega, ⟨by omega, by omega⟩, hcb, ifb (fun q => ⟨by omega, fin _ (by rw [if_pos q]) (by omega)⟩) (fun q => fin 0 (by rw [if_neg q]) (by omega))⟩
theorem NC.mk {μ μ' : ZM} {fs : List Fn} {N : List (List Int)} {L : List Int} {mn : Int → List Int} {u : Int} {fr : List Nf} (h : NC μ fs N mn u fr) (e : ∀ a k, ¬ (a = 222 ∧ k = 11) → ¬ (223 ≤ a ∧ a ≤ 226 ∧ k = (N.length : Int)) → μ' a k = μ a k) (hT : NT μ' fs (N ++ [L])) : NC μ' fs (N ++ [L]) mn u fr := by
  obtain ⟨h1, h2, h3, h4, h5, h6, h7⟩ := h
  refine ⟨hT, (e _ _ (by omega) (by omega)).trans h2, (e _ _ (by omega) (by omega)).trans h3, (e _ _ (by omega) (by omega)).trans h4, gk_ex h5 (fun i f _ _ q => q.ex (fun a k ha => e _ _ (by omega) (by omega)) (fun a p1 p2 => e _ _ (by omega) (by omega)) (fun k V p => p.up)), gk_ex h6 (fun i V _ _ q => ?_), ?_⟩
  · rw [e _ _ (by omega) (by omega)]; exact q.up
  · rw [e _ _ (by omega) (by omega)]; exact h7.up
theorem s_push {fs : List Fn} {N : List (List Int)} {mn : Int → List Int} {u i d : Int} {r V : List Int} {as st : List (List Int)} {fr : List Nf} {μ : ZM} {K : Int → ZM → Prop} (hC : NC μ fs N mn u ((r, d, as, st) :: fr)) (hi : rN N i V) (hs : ((ss ((r, d, as, st) :: fr)).length : Int) < 540) (h : ∀ μ', (∀ a k, ¬ (a = 222 ∧ k = 13) → a ≠ 231 → μ' a k = μ a k) → NC μ' fs N mn u ((r, d, as, V :: st) :: fr) → K 1 μ') : P_X6_push i μ K := by
  obtain ⟨h1, h2, h3, h4, h5, h6, h7⟩ := hC
  obtain ⟨i1, i2, i3⟩ := id hi
  unfold P_X6_push
  rw [h1.1, h4]
  rw [if_neg (show ¬ i < 0 by omega), if_neg (show ¬ (N.length : Int) ≤ i by omega), if_neg (show ¬ ((ss ((r, d, as, st) :: fr)).length : Int) < 0 by omega), if_pos hs]
  simp only [z_wr]
  rw [zu_n (show (222 : Int) ≠ 231 by decide), h4]
  generalize hM : z_upd (z_upd μ 231 ((ss ((r, d, as, st) :: fr)).length : Int) i) 222 13 (((ss ((r, d, as, st) :: fr)).length : Int) + 1) = μ1
  have m0 : ∀ a k, ¬ (a = 222 ∧ k = 13) → ¬ (a = 231 ∧ k = ((ss ((r, d, as, st) :: fr)).length : Int)) → μ1 a k = μ a k := fun a k q1 q2 => by rw [← hM, zu_f q1, zu_f q2]
  refine ⟨by omega, ⟨by omega, by omega⟩, Or.inr rfl, h μ1 (fun a k q1 q2 => m0 a k q1 (by omega)) ⟨h1.ex (fun a k _ _ => m0 _ _ (by omega) (by omega)) (m0 _ _ (by omega) (by omega)), (m0 _ _ (by omega) (by omega)).trans h2, (m0 _ _ (by omega) (by omega)).trans h3, ?_, ?_, ?_, ?_⟩⟩
  · rw [← hM, zu_s]
    show _ = (((V :: st) ++ ss fr).length : Int)
    show ((st ++ ss fr).length : Int) + 1 = _
    simp
  · refine ⟨h5.1.ex (fun a k ha => m0 _ _ (by omega) (by omega)) (fun a p1 p2 => m0 _ _ (by omega) (by omega)) (fun _ _ p => p), gk_ex h5.2 (fun j f _ _ q => q.ex (fun a k ha => m0 _ _ (by omega) (by omega)) (fun a p1 p2 => m0 _ _ (by omega) (by omega)) (fun _ _ p => p))⟩
  · show gk _ (V :: (st ++ ss fr))
    refine ⟨?_, gk_ex (s := ss ((r, d, as, st) :: fr)) h6 (fun j W q1 q2 q => ?_)⟩
    · have : μ1 231 ((st ++ ss fr).length : Int) = i := by
        rw [← hM, zu_n (by decide)]; exact zu_s
      show rN N (μ1 231 ((st ++ ss fr).length : Int)) V
      rw [this]; exact hi
    · show rN N (μ1 231 j) W
      rw [m0 _ _ (by omega) (by omega)]; exact q
  · rw [m0 _ _ (by omega) (by omega)]; exact h7
theorem s_pushBad {μ : ZM} {K : Int → ZM → Prop} (h : K 0 μ) : P_X6_push (-9) μ K := by
  unfold P_X6_push
  rw [if_pos (by decide)]
  exact ⟨Or.inl rfl, h⟩
