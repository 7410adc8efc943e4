/-! the reference's machine -/
def mdT (μ : ZM) (c : Int) (T : List Int) : Prop := (0 ≤ c ∧ c < 44 ∧ T.length ≤ 40 ∧ rp (fun j => μ 249 (128 * c + j)) T) ∨ (100 ≤ c ∧ c < 118 ∧ T.length ≤ 10 ∧ rp (fun j => μ 254 (10 * (c - 100) + j)) T)
def mdF (μ : ZM) (i : Int) (f : Fr) : Prop := mdT μ (μ 258 i) f.1 ∧ μ 259 i = f.2.1 - 1 ∧ μ 260 i = f.2.2.1 ∧ (121 ∈ f.1 → μ 261 i = f.2.2.2.1) ∧ μ 262 i = f.2.2.2.2
def EM (μ : ZM) (w : Int) (fr : List Fr) (st : List Int) : Prop := μ 248 16 = w ∧ μ 248 22 = (fr.length : Int) ∧ μ 248 15 = (st.length : Int) ∧ fk (mdF μ) fr ∧ sk (μ 257) st
def evm (a k : Int) : Prop := (a = 248 ∧ (k = 15 ∨ k = 16 ∨ k = 22)) ∨ (257 ≤ a ∧ a ≤ 262)
theorem mdT.ex {μ μ' : ZM} {c : Int} {T : List Int} (h : mdT μ c T) (e1 : ∀ k, μ' 249 k = μ 249 k) (e2 : ∀ k, μ' 254 k = μ 254 k) : mdT μ' c T := by
  rcases h with ⟨a1, a2, a3, a4⟩ | ⟨a1, a2, a3, a4⟩
  · exact Or.inl ⟨a1, a2, a3, a4.ex (fun i _ _ => e1 _)⟩
  · exact Or.inr ⟨a1, a2, a3, a4.ex (fun i _ _ => e2 _)⟩
theorem mdF.ex {μ μ' : ZM} {i : Int} {f : Fr} (h : mdF μ i f) (e1 : ∀ k, μ' 249 k = μ 249 k) (e2 : ∀ k, μ' 254 k = μ 254 k) (e : ∀ a, 258 ≤ a → a ≤ 262 → μ' a i = μ a i) : mdF μ' i f := by
  obtain ⟨a1, a2, a3, a4, a5⟩ := h
  refine ⟨by rw [e _ (by omega) (by omega)]; exact a1.ex e1 e2, (e _ (by omega) (by omega)).trans a2, (e _ (by omega) (by omega)).trans a3, fun q => (e _ (by omega) (by omega)).trans (a4 q), (e _ (by omega) (by omega)).trans a5⟩
theorem s_signOf {i j : Int} {T : List Int} {μ : ZM} {K : Int → ZM → Prop} (hi : 0 ≤ i ∧ i < 64) (h : mdT μ (μ 258 i) T) (hj : 0 ≤ j ∧ j < (T.length : Int)) (hK : K (gt T j) μ) : P_X12_signOf i j μ K := by
  refine ⟨hi, ?_⟩
  rcases h with ⟨a1, a2, a3, a4⟩ | ⟨a1, a2, a3, a4⟩
  · rw [if_neg (by omega)]
    refine s_at ⟨a1, a2⟩ (by omega) ?_
    have := a4 j hj.1 hj.2
    dsimp only at this
    rw [this]; exact hK
  · rw [if_pos (by omega)]
    have := a4 j hj.1 hj.2
    dsimp only at this
    rw [this]
    exact ⟨⟨by omega, by omega⟩, ⟨by omega, by omega⟩, ⟨by omega, by omega⟩, by omega, hK⟩
theorem s_enters {c l x y yp z w : Int} {T : List Int} {fr : List Fr} {st : List Int} {μ : ZM} {K : ZM → Prop} (hf : (fr.length : Int) ≤ 61) (hc : mdT μ c T) (hl : l = (T.length : Int)) (hyp : 121 ∈ T → y = yp) (hE : EM μ w fr st) (h : ∀ μ', (∀ a k, ¬ evm a k → μ' a k = μ a k) → EM μ' w ((T, (T.length : Int), x, yp, z) :: fr) st → K μ') : P_X12_enters c l x y z μ K := by
  obtain ⟨e1, e2, e3, e4, e5⟩ := hE
  have hT40 : T.length ≤ 40 := by
    rcases hc with q | q
    · exact q.2.2.1
    · have := q.2.2.1; omega
  subst hl
  unfold P_X12_enters
  simp only [z_wr, zu_n (show (248 : Int) ≠ 258 by decide), zu_n (show (248 : Int) ≠ 259 by decide), zu_n (show (248 : Int) ≠ 260 by decide), zu_n (show (248 : Int) ≠ 261 by decide), zu_n (show (248 : Int) ≠ 262 by decide)]
  rw [e2]
  refine ⟨by omega, ⟨by omega, by omega⟩, by omega, by omega, by omega, by omega, ⟨by omega, by omega⟩, ?_⟩
  generalize hM : z_upd (z_upd (z_upd (z_upd (z_upd (z_upd μ 258 (fr.length : Int) c) 259 (fr.length : Int) ((T.length : Int) - 1)) 260 (fr.length : Int) x) 261 (fr.length : Int) y) 262 (fr.length : Int) z) 248 22 ((fr.length : Int) + 1) = μ1
  have m0 : ∀ a k, ¬ (a = 248 ∧ k = 22) → ¬ (258 ≤ a ∧ a ≤ 262 ∧ k = (fr.length : Int)) → μ1 a k = μ a k := fun a k h1 h2 => by
    rw [← hM, zu_f (by omega), zu_f (by omega), zu_f (by omega), zu_f (by omega), zu_f (by omega), zu_f (by omega)]
  refine h μ1 (fun a k q => m0 a k (by unfold evm at q; omega) (by unfold evm at q; omega)) ⟨?_, ?_, ?_, ⟨?_, ?_⟩, ?_⟩
  · rw [m0 _ _ (by omega) (by omega)]; exact e1
  · rw [← hM, zu_s]; simp
  · rw [m0 _ _ (by omega) (by omega)]; exact e3
  · have m1 : μ1 258 (fr.length : Int) = c := by rw [← hM]; simp [z_upd]
    refine ⟨?_, ?_, ?_, ?_, ?_⟩
    · rw [m1]; exact hc.ex (fun k => m0 _ _ (by omega) (by omega)) (fun k => m0 _ _ (by omega) (by omega))
    · rw [← hM]; simp [z_upd]
    · rw [← hM]; simp [z_upd]
    · intro q
      rw [← hM, zu_n (by decide), zu_n (by decide), zu_s]; exact hyp q
    · rw [← hM]; simp [z_upd]
  · exact fk_ex e4 (fun i g h1 h2 q => q.ex (fun k => m0 _ _ (by omega) (by omega)) (fun k => m0 _ _ (by omega) (by omega)) (fun a h3 h4 => m0 _ _ (by omega) (by omega)))
  · exact sk_ex e5 (fun i _ _ => m0 _ _ (by omega) (by omega))
theorem cal_bw {fs : List Fn} {f : Int} (ho : okF fs) (hf : 0 ≤ f ∧ f < (fs.length : Int)) {v : Int} (hv : 0 ≤ v) : (if v < (gf fs f).2.1 then v else 2) = if v = 0 then 0 else if v < (gf fs f).2.1 then 1 else 2 := by
  obtain ⟨-, h2, -⟩ := ho f hf.1 hf.2
  by_cases e : v = 0
  · rw [if_pos e, if_pos (by omega)]; exact e
  · rw [if_neg e]
    by_cases e2 : v < (gf fs f).2.1
    · rw [if_pos e2, if_pos e2]; omega
    · rw [if_neg e2, if_neg e2]
/-- a call: v1 is the first value, v2 the second -/
theorem s_calls {fs : List Fn} {f v1 v2 v2p w : Int} {fr : List Fr} {st : List Int} {μ : ZM} {K : Int → ZM → Prop} (ho : okF fs) (hF : MF μ fs) (hf : 0 ≤ f ∧ f < (fs.length : Int)) (hv1 : 0 ≤ v1 ∧ v1 ≤ 99) (hv2 : (gf fs f).1 = 2 → v2 = v2p) (hE : EM μ w fr st) (hfl : (fr.length : Int) ≤ w + 1) (hw : 0 ≤ w ∧ w ≤ 60) (hfail : 60 ≤ w → ∀ μ', (∀ a k, ¬ evm a k → μ' a k = μ a k) → K 0 μ') (h : w < 60 → ∀ μ', (∀ a k, ¬ evm a k → μ' a k = μ a k) → EM μ' (w + 1) ((fB (gf fs f) (if v1 < (gf fs f).2.1 then v1 else 2), ((fB (gf fs f) (if v1 < (gf fs f).2.1 then v1 else 2)).length : Int), v1 - (gf fs f).2.1, v2p, 0) :: fr) st → K 1 μ') : P_X12_calls f v1 v2 μ K := by
  have hl := hF.2.1
  obtain ⟨e1, e2, e3, e4, e5⟩ := hE
  obtain ⟨f1, f2, f3⟩ := ho f hf.1 hf.2
  have hB := hasB_of (fs := fs) (v := v1) ho hf hv1.1
  have hbw := cal_bw ho hf hv1.1
  unfold P_X12_calls
  simp only [z_wr]
  rw [show z_upd μ 248 16 (μ 248 16 + 1) 248 16 = w + 1 by rw [zu_s, e1]]
  have m0 : ∀ a k, ¬ (a = 248 ∧ k = 16) → z_upd μ 248 16 (μ 248 16 + 1) a k = μ a k := fun a k q => zu_f q
  have m1 : z_upd μ 248 16 (μ 248 16 + 1) 248 16 = w + 1 := by rw [zu_s, e1]
  refine ⟨⟨by omega, by omega⟩, ifb (fun g => ⟨by omega, ?_⟩) (fun g => ⟨Or.inl rfl, hfail (by omega) _ (fun a k q => m0 a k (by unfold evm at q; omega))⟩)⟩
  generalize z_upd μ 248 16 (μ 248 16 + 1) = μ1 at m0 m1 ⊢
  have hd : μ1 253 f = (gf fs f).2.1 := (m0 _ _ (by omega)).trans (hF.2.2 f hf.1 hf.2).2.1
  rw [hd]
  generalize hbb : (if v1 < (gf fs f).2.1 then v1 else 2) = bw at *
  have hB' := hB
  unfold hasB at hB'
  obtain ⟨t1, t2⟩ := (hF.2.2 f hf.1 hf.2).2.2 bw hB
  have hlen := (f3 bw hB).2.1
  have hE1 : EM μ1 (w + 1) fr st := by
    refine ⟨m1, (m0 _ _ (by omega)).trans e2, (m0 _ _ (by omega)).trans e3, fk_ex e4 (fun i g h1 h2 q => q.ex (fun k => m0 _ _ (by omega)) (fun k => m0 _ _ (by omega)) (fun a h3 h4 => m0 _ _ (by omega))), sk_ex e5 (fun i _ _ => m0 _ _ (by omega))⟩
  have fin : P_X12_calls_48 f v1 v2 (gf fs f).2.1 bw μ1 K := by
    unfold P_X12_calls_48
    have hz : zin (3 * f) := ⟨by omega, by omega⟩
    refine ⟨hz, ⟨by omega, by omega⟩, ⟨by omega, by omega⟩, hz, ⟨by omega, by omega⟩, by omega, ⟨by omega, by omega⟩, ?_⟩
    refine s_enters (T := fB (gf fs f) bw) (fr := fr) (st := st) (w := w + 1) (by omega) ?_ ((m0 _ _ (by omega)).trans t1) (fun q => hv2 (((f3 bw hB).2.2 121 q).2.1 rfl)) hE1 (fun μ2 k1 k2 => ⟨Or.inr rfl, h (by omega) μ2 (fun a k q => (k1 a k q).trans (m0 a k (by unfold evm at q; omega))) k2⟩)
    refine Or.inr ⟨by omega, by omega, hlen, t2.ex (fun i _ _ => ?_)⟩
    show μ1 254 _ = _
    rw [m0 _ _ (by omega), show 100 + 3 * f + bw - 100 = 3 * f + bw by omega]
  refine ifb (fun q => ?_) (fun q => ifb (fun q1 => ?_) (fun q1 => ?_))
  · rw [if_pos q] at hbw; rw [← hbw]; exact fin
  · rw [if_neg q, if_pos q1] at hbw; subst hbw; exact fin
  · rw [if_neg q, if_neg q1] at hbw; subst hbw; exact fin
