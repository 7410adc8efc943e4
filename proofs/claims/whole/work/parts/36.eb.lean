theorem hasB_of {fs : List Fn} {f v : Int} (ho : okF fs) (hf : 0 ≤ f ∧ f < (fs.length : Int)) (hv : 0 ≤ v) : hasB (gf fs f) (if v < (gf fs f).2.1 then v else 2) := by
  obtain ⟨-, h2, -⟩ := ho f hf.1 hf.2
  by_cases e : v < (gf fs f).2.1
  · rw [if_pos e]; exact ⟨hv, by omega, fun q => by omega⟩
  · rw [if_neg e]; exact ⟨by omega, by omega, fun q => absurd q (by decide)⟩
theorem cv_fn {fs : List Fn} {c : Int} (h : cv fs c) (h1 : c ≠ 83) (h2 : c ≠ 120) (h3 : c ≠ 121) (h4 : c ≠ 122) (h5 : c ≠ 90) : 0 ≤ c - 97 ∧ c - 97 < (fs.length : Int) := by
  unfold cv at h; omega
theorem arf_fn {fs : List Fn} {c : Int} (h : 0 ≤ c - 97 ∧ c - 97 < (fs.length : Int)) : arf fs c = (gf fs (c - 97)).1 := by
  unfold arf
  rw [if_neg (by omega), if_pos (by omega)]
theorem okE_call {fs : List Fn} {n : Nat} {w : Int} {f : Fr} {fr : List Fr} {st : List Int} (ho : okF fs) (h : okE fs n w (f :: fr) st) (h0 : 0 < f.2.1) (hc : 0 ≤ cd f - 97 ∧ cd f - 97 < (fs.length : Int)) : n ≠ 0 ∧ (gf fs (cd f - 97)).1 ≤ (st.length : Int) ∧ 0 ≤ st.headD 0 ∧ st.headD 0 ≤ 99 ∧ (w < 60 → okE fs (n - 1) (w + 1) (cal fs (cd f - 97) st :: dn f :: fr) (st.drop (gf fs (cd f - 97)).1.toNat)) := by
  obtain ⟨a1, a2, a3, a4, a5, ⟨a6, a7, a8⟩, a9, a10⟩ := h
  obtain ⟨p1, p2⟩ := pnf_dn a6 h0
  obtain ⟨f1, f2, f3⟩ := ho _ hc.1 hc.2
  rw [arf_fn hc] at p1
  have h1 := ph_pos a8
  have h5 := sm_pos a8
  have h2 : ph (f :: fr) = (f.2.1 + 1) + ph fr := rfl
  have h3 : sm fs (f :: fr) = (pnf fs f - 1) + sm fs fr := rfl
  have h4 : cz (dn f :: fr) = cz (f :: fr) := rfl
  have hlen : (gf fs (cd f - 97)).1 ≤ (st.length : Int) := by omega
  have hhd : 0 ≤ st.headD 0 ∧ st.headD 0 ≤ 99 := by
    cases st with
    | nil => simp at hlen; omega
    | cons v s => exact a4 v (by simp)
  refine ⟨by omega, hlen, hhd.1, hhd.2, fun hw => ?_⟩
  have hB := hasB_of (fs := fs) (v := st.headD 0) ho hc hhd.1
  obtain ⟨b1, b2, b3⟩ := f3 _ hB
  have c1 : (cal fs (cd f - 97) st).1 = fB (gf fs (cd f - 97)) (if st.headD 0 < (gf fs (cd f - 97)).2.1 then st.headD 0 else 2) := rfl
  have c2 : (cal fs (cd f - 97) st).2.1 = ((cal fs (cd f - 97) st).1.length : Int) := rfl
  have c3 : (cal fs (cd f - 97) st).2.2.1 = st.headD 0 - (gf fs (cd f - 97)).2.1 := rfl
  have c4 : (cal fs (cd f - 97) st).2.2.2.1 = if (gf fs (cd f - 97)).1 = 2 then st.tail.headD 0 else 0 := rfl
  rw [← c1] at b1 b2 b3
  have pz : pnf fs (cal fs (cd f - 97) st) = 0 := by
    unfold pnf
    rw [c2, List.take_of_length_le (by omega)]
    exact (pw_iff.mp b1.1).2
  have s1 : sm fs (cal fs (cd f - 97) st :: dn f :: fr) = (pnf fs (cal fs (cd f - 97) st) - 1) + ((pnf fs (dn f) - 1) + sm fs fr) := rfl
  have s2 : ph (cal fs (cd f - 97) st :: dn f :: fr) = ((cal fs (cd f - 97) st).2.1 + 1) + ((f.2.1 - 1 + 1) + ph fr) := rfl
  have s3 : cz (cal fs (cd f - 97) st :: dn f :: fr) = (((cal fs (cd f - 97) st).1.length : Int) + 1) / 2 + cz (dn f :: fr) := rfl
  refine ⟨by omega, by omega, by simp at a3 ⊢; omega, fun v hv => a4 v (List.mem_of_mem_drop hv), ?_, ⟨⟨b1, by omega, by omega, fun q => ?_, fun q => ?_, fun q => ?_, by omega⟩, Or.inr c2, ?_⟩, by omega, by omega⟩
  · rw [List.length_drop, s1, pz]
    omega
  · have := (b3 120 q).2.2 rfl
    rw [c3]
    by_cases e : st.headD 0 < (gf fs (cd f - 97)).2.1
    · rw [if_pos e] at this; omega
    · omega
  · have := (b3 121 q).2.1 rfl
    rw [c4, if_pos this]
    cases st with
    | nil => simp at hlen; omega
    | cons v s =>
      cases s with
      | nil => simp at hlen; omega
      | cons u s => exact a4 u (by simp)
  · exact absurd rfl (b3 122 q).1
  · intro g hg
    rcases List.mem_cons.mp hg with e | e
    · rw [e]; exact ⟨fok_dn a6 h0, p2⟩
    · exact a8 g e
/-! stacks in memory -/
def sk (g : Int → Int) : List Int → Prop
  | [] => True
  | v :: s => g (s.length : Int) = v ∧ sk g s
def fk (A : Int → Fr → Prop) : List Fr → Prop
  | [] => True
  | f :: fr => A (fr.length : Int) f ∧ fk A fr
theorem sk_ex {g g' : Int → Int} : ∀ {s : List Int}, sk g s → (∀ i : Int, 0 ≤ i → i < (s.length : Int) → g' i = g i) → sk g' s
  | [], _, _ => trivial
  | v :: s, h, e => ⟨(e _ (by omega) (by simp; omega)).trans h.1, sk_ex h.2 (fun i h1 h2 => e i h1 (by simp; omega))⟩
theorem fk_ex {A A' : Int → Fr → Prop} : ∀ {s : List Fr}, fk A s → (∀ (i : Int) (f : Fr), 0 ≤ i → i < (s.length : Int) → A i f → A' i f) → fk A' s
  | [], _, _ => trivial
  | v :: s, h, e => ⟨e _ _ (by omega) (by simp; omega) h.1, fk_ex h.2 (fun i f h1 h2 => e i f h1 (by simp; omega))⟩
theorem sk_drop {g : Int → Int} : ∀ {s : List Int} (k : Nat), sk g s → sk g (s.drop k)
  | [], _, _ => by rw [List.drop_nil]; trivial
  | _ :: _, 0, h => h
  | _ :: s, k + 1, h => sk_drop (s := s) k h.2
def tx (μ : ZM) (t : Int) (T : List Int) : Prop := μ t 2 = (T.length : Int) ∧ rp (μ (t + 1)) T
def clF (μ : ZM) (z4 i : Int) (f : Fr) : Prop := z_tm (μ 217 i) ∧ tx μ (μ 217 i) f.1 ∧ μ 218 i = f.2.1 ∧ μ 219 i = f.2.2.1 ∧ (121 ∈ f.1 → μ 220 i = f.2.2.2.1) ∧ (122 ∈ f.1 → z4 = f.2.2.2.2)
def EC (μ : ZM) (z4 w : Int) (fr : List Fr) (st : List Int) : Prop := μ 215 2 = w ∧ μ 215 8 = (fr.length : Int) - 1 ∧ μ 215 9 = (st.length : Int) ∧ fk (clF μ z4) fr ∧ sk (μ 221) st
def evc (a : Int) : Prop := a = 215 ∨ (217 ≤ a ∧ a ≤ 221)
theorem clF.ex {μ μ' : ZM} {z4 i : Int} {f : Fr} (h : clF μ z4 i f) (e : ∀ a k, a < 215 → μ' a k = μ a k) (e1 : ∀ a, 217 ≤ a → a ≤ 220 → μ' a i = μ a i) : clF μ' z4 i f := by
  obtain ⟨a1, ⟨a2, a3⟩, a4, a5, a6, a7⟩ := h
  have q : μ' 217 i = μ 217 i := e1 _ (by omega) (by omega)
  have b := a1
  unfold z_tm at b
  refine ⟨by rw [q]; exact a1, ⟨by rw [q, e _ _ (by omega)]; exact a2, by rw [q]; exact a3.ex (fun j _ _ => e _ _ (by omega))⟩, (e1 _ (by omega) (by omega)).trans a4, (e1 _ (by omega) (by omega)).trans a5, fun m => (e1 _ (by omega) (by omega)).trans (a6 m), a7⟩
