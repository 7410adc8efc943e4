section VG
variable {X : ZX} {cc : ByteArray} {own : String} {nL : Nat} {rt : Option FieldType} {fr lo n1 : Nat} {pc q : Nat} {L : List (Option ZV)} {S : List ZV} {n : Nat} {M : ZM}
theorem z_entry {base : Nat} : ∀ (As : List ZV) (k i : Nat) (v : ZV), As[i]? = some v → (k + i, z_val base v) ∈ lv_args k (As.map (z_val base))
  | [], k, i, v, h => by simp at h
  | w :: As, k, i, v, h => by
    rw [List.map_cons]
    show (k + i, z_val base v) ∈ (k, z_val base w) :: lv_args (if (z_val base w).category = 2 then k + 2 else k + 1) (As.map (z_val base))
    rw [if_neg (by rw [z_cat]; decide)]
    cases i with
    | zero =>
      simp at h
      subst h
      exact List.mem_cons_self
    | succ i =>
      rw [List.getElem?_cons_succ] at h
      have q := z_entry (base := base) As (k + 1) i v h
      rw [show k + 1 + i = k + (i + 1) by omega] at q
      exact List.mem_cons_of_mem _ q
theorem z_sls {base : Nat} : ∀ (As : List ZV), (lg_sl (As.map (z_val base))).length = As.length
  | [] => rfl
  | w :: As => by
    have ih := z_sls (base := base) As
    unfold lg_sl at ih ⊢
    rw [List.map_cons, List.flatMap_cons, List.length_append, ih, if_neg (by rw [z_cat]; decide), List.length_cons, List.length_cons]
    show 0 + 1 + As.length = As.length + 1
    omega
/-- what a method may answer -/
def z_rt (rt : Option FieldType) (x : Int) : Prop := rt = some .int ∨ (rt = some .boolean ∧ (x = 0 ∨ x = 1))
/-- the ends of a method, for its walk -/
def zRi (X : ZX) (cc : ByteArray) (rt : Option FieldType) (n1 : Nat) (K : Option ZV → ZM → Prop) : Prop := ∀ (pc : Nat) (L : List (Option ZV)) (x : Int) (M : ZM), decode cc pc = .ok (.ireturn, 1) → z_rt rt x → K (some (.inl x)) M → zV X pc L [.inl x] n1 M
def zRa (X : ZX) (cc : ByteArray) (rt : Option FieldType) (n1 : Nat) (K : Option ZV → ZM → Prop) : Prop := ∀ (pc : Nat) (L : List (Option ZV)) (a : Int) (M : ZM), decode cc pc = .ok (.areturn, 1) → (∃ nm, rt = some (.object nm)) → K (some (.inr a)) M → zV X pc L [.inr a] n1 M
def zRv (X : ZX) (cc : ByteArray) (rt : Option FieldType) (n1 : Nat) (K : Option ZV → ZM → Prop) : Prop := ∀ (pc : Nat) (L : List (Option ZV)) (M : ZM), decode cc pc = .ok (.return_, 1) → rt = none → K none M → zV X pc L [] n1 M
def zI (X : ZX) (y : MethodName) : Prop := X.1.2.2.2.2.2.2.2.2.1.name = y.name
theorem zMet_of {y : MethodName} {b : ByteArray} {np : Nat} {As : List ZV} {K : Option ZV → ZM → Prop} {L0 : List (Option ZV)} (hy : zY y b nL rt np) (hL : As.map some ++ List.replicate (nL - As.length) none = L0) (hlen : As.length ≤ nL) (hn : n ≤ 274) (body : ∀ X : ZX, zC X b y.cls nL rt fr lo n1 → zI X y → zRi X b rt n1 K → zRa X b rt n1 K → zRv X b rt n1 K → zV X 0 L0 [] n M) : zMet y b nL rt fr lo As n n1 M K := by
  intro l D base c3 okA oM
  refine Met.ofW (cc := b) (maxL := nL) (ret := rt) hy.2.2.2 rfl ?_
  intro p e s m args below meth c s₁ B hml hv
  obtain ⟨rfl, ⟨hP, hK⟩, hsz, hN⟩ := hv
  have hx := B.exec
  have hb := B.bytes
  have hr := B.returns
  have hts0 := atoms_spec (ws := .code y b nL rt :: wt) B.pre
  have hts : ∀ w ∈ wt, w.before (As.map (z_val base)).toArray s = true := fun w hw => hts0 w (List.mem_cons_of_mem _ hw)
  have hown : s.vm.findClass y.cls = some m.cls := findClass_of_methodNamed B.named
  have hlk := B.notSynchronized
  have hnm := (name_of_methodNamed B.named B.method).1
  have hS : va_S (fun q => base ≤ q) s.heap s.heap [] := va_S.rf
  have hl := lv_entry (As.map (z_val base)) (n := nL) (by rw [z_sls]; exact hlen)
  rw [lg_entry_eq]
  generalize (lg_sl (As.map (z_val base)) ++ List.replicate (nL - (lg_sl (As.map (z_val base))).length) Slot.unset).toArray = ls at hl ⊢
  have hl2 : zL base ls c.maxLocals L0 := by
    rw [hml]
    refine ⟨hl.1, hl.2.1, fun i v hi => ?_⟩
    rw [← hL] at hi
    have hA : As[i]? = some v := by
      by_cases h : i < As.length
      · rw [List.getElem?_append_left (by simpa using h), List.getElem?_map] at hi
        cases hq : As[i]? with
        | none => rw [hq] at hi; simp at hi
        | some w => rw [hq] at hi; simp at hi; rw [hi]
      · rw [List.getElem?_append_right (by simpa using h)] at hi
        have := List.mem_of_getElem? hi
        rw [List.mem_replicate] at this
        exact absurd this.2 (by simp)
    have q := z_entry (base := base) As 0 i v hA
    rw [Nat.zero_add] at q
    exact hl.2.2 _ q
  have okL : ∀ v, some v ∈ L0 → z_ok v := fun v hv => by
    rw [← hL] at hv
    rcases List.mem_append.mp hv with h | h
    · obtain ⟨w, hw, e⟩ := List.mem_map.mp h
      cases e
      exact okA _ hw
    · rw [List.mem_replicate] at h
      exact absurd h.2 (by simp)
  have hz : (n - n : Nat) = 0 := Nat.sub_self n
  have hz2 : (z_sl n - z_sl n : Nat) = 0 := Nat.sub_self _
  have key := body ((p, l, e, { frames := fr, cells := n1 - n, slots := z_sl n1 - z_sl n, locals := lo }, s, m, (As.map (z_val base)).toArray, below, meth, c), (MQ below (zQ D base c3 n1 K) (As.map (z_val base)).toArray s (n1 - n) (z_sl n1 - z_sl n) (fun q => base ≤ q), base, n, D, c3))
    ⟨hx, hb, hml, hown, hts, hK, hr, hN, hsz, Nat.le_refl _, Nat.le_refl _, Nat.le_refl _, Nat.le_refl _⟩ hnm
    (fun pc L x M1 hd hrt hk => by
      intro h0 hn' oL oS oM1 ls H locs hl hP hS
      have hx1 : zin x := oS (.inl x) (by simp)
      have hnar : ∃ ty, meth.sig.returnType = some ty ∧ narrow ty (.int (Int32.ofInt x)) = .int (Int32.ofInt x) := by
        rcases hrt with h | ⟨h, h2⟩
        · exact ⟨.int, by rw [hr, h], rfl⟩
        · exact ⟨.boolean, by rw [hr, h], (z_st_ok (Or.inr ⟨rfl, h2⟩)).1⟩
      obtain ⟨ty, h1, h2⟩ := hnar
      exact W.zret (v := Int32.ofInt x) hx hb h1 h2 (fun t ht hW => ⟨⟨some (.inl x), M1, rfl, fun v hv => by cases hv; exact hx1, oM1, hk, by rw [ht]; exact hP, va_K.moved hW.alike hK⟩, hS.F ht⟩) hS.2.2 hd hlk)
    (fun pc L a M1 hd hrt hk => by
      intro h0 hn' oL oS oM1 ls H locs hl hP hS
      obtain ⟨nm, hnm⟩ := hrt
      refine W.aret (v := z_val base (.inr a)) hx hb (by rw [hr]; exact hnm) (Or.inl ⟨nm, rfl⟩) ?_ (fun t ht hW => ⟨⟨some (.inr a), M1, rfl, fun v hv => by cases hv; trivial, oM1, hk, by rw [ht]; exact hP, va_K.moved hW.alike hK⟩, hS.F ht⟩) hS.2.2 hd hlk
      show va_rf (z_rf base a) = .null ∨ ∃ a', va_rf (z_rf base a) = .ref a'
      cases z_rf base a with
      | none => exact Or.inl rfl
      | some b => exact Or.inr ⟨b, rfl⟩)
    (fun pc L M1 hd hrt hk => by
      intro h0 hn' oL oS oM1 ls H locs hl hP hS
      exact W.vret hx hb (by rw [hr]; exact hrt) (fun t ht hW => ⟨⟨none, M1, rfl, fun v hv => by (cases hv), oM1, hk, by rw [ht]; exact hP, va_K.moved hW.alike hK⟩, hS.F ht⟩) hS.2.2 hd hlk)
    (Nat.le_refl _) hn okL (fun v hv => by (cases hv)) oM ls s.heap [] hl2 hP hS
  rw [hz, hz2] at key
  exact key
end VG
