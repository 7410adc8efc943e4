section VB
variable {X : ZX} {cc : ByteArray} {own : String} {nL : Nat} {rt : Option FieldType} {fr lo n1 : Nat} {pc q : Nat} {L : List (Option ZV)} {S : List ZV} {n : Nat} {M : ZM}
/-! constants -/
theorem v_iconst (C : zC X cc own nL rt fr lo n1) {x : Int} (hd : decode cc pc = .ok (.iconst x, 1)) (hq : pc + 1 = q) (hx : zin x) (k : zV X q L (.inl x :: S) n M) : zV X pc L S n M := by
  obtain ⟨⟨p, l, e, R, s, m, args, below, meth, c⟩, Q, base, n0, D, c3⟩ := X
  obtain ⟨hx0, hb, hml, hown, hts, hK, hr, hlk, hbs, hfr, hlo, hce, hsl⟩ := C
  subst hq
  intro h0 hn oL oS oM ls H locs hl hP hS
  exact lv_iconst hx0 hb hd rfl (k h0 hn oL (List.forall_mem_cons.mpr ⟨hx, oS⟩) oM ls H locs hl hP hS)
theorem z_i8 : ∀ x : Int, -128 ≤ x → x ≤ 127 → (Int8.ofInt x).toInt32 = Int32.ofInt x := by
  intro x h1 h2
  rw [← Int32.toInt_inj, Int8.toInt_toInt32, Int8.toInt_ofInt_of_le (by omega) (by omega), Int32.toInt_ofInt_of_le (by omega) (by omega)]
theorem z_i16 : ∀ x : Int, -32768 ≤ x → x ≤ 32767 → (Int16.ofInt x).toInt32 = Int32.ofInt x := by
  intro x h1 h2
  rw [← Int32.toInt_inj, Int16.toInt_toInt32, Int16.toInt_ofInt_of_le (by omega) (by omega), Int32.toInt_ofInt_of_le (by omega) (by omega)]
theorem v_bipush (C : zC X cc own nL rt fr lo n1) {x : Int} (hd : decode cc pc = .ok (.bipush x, 2)) (hq : pc + 2 = q) (hx : -128 ≤ x ∧ x ≤ 127) (k : zV X q L (.inl x :: S) n M) : zV X pc L S n M := by
  obtain ⟨⟨p, l, e, R, s, m, args, below, meth, c⟩, Q, base, n0, D, c3⟩ := X
  obtain ⟨hx0, hb, hml, hown, hts, hK, hr, hlk, hbs, hfr, hlo, hce, hsl⟩ := C
  subst hq
  intro h0 hn oL oS oM ls H locs hl hP hS
  exact lv_bipush hx0 hb hd (z_i8 x hx.1 hx.2) (k h0 hn oL (List.forall_mem_cons.mpr ⟨⟨by omega, by omega⟩, oS⟩) oM ls H locs hl hP hS)
theorem v_sipush (C : zC X cc own nL rt fr lo n1) {x : Int} (hd : decode cc pc = .ok (.sipush x, 3)) (hq : pc + 3 = q) (hx : -32768 ≤ x ∧ x ≤ 32767) (k : zV X q L (.inl x :: S) n M) : zV X pc L S n M := by
  obtain ⟨⟨p, l, e, R, s, m, args, below, meth, c⟩, Q, base, n0, D, c3⟩ := X
  obtain ⟨hx0, hb, hml, hown, hts, hK, hr, hlk, hbs, hfr, hlo, hce, hsl⟩ := C
  subst hq
  intro h0 hn oL oS oM ls H locs hl hP hS
  exact lv_sipush hx0 hb hd (z_i16 x hx.1 hx.2) (k h0 hn oL (List.forall_mem_cons.mpr ⟨⟨by omega, by omega⟩, oS⟩) oM ls H locs hl hP hS)
theorem v_ldc (C : zC X cc own nL rt fr lo n1) {idx : Nat} {x : Int} (hw : Cond.constant own idx (Int32.ofInt x) ∈ wt) (hd : decode cc pc = .ok (.ldc idx, 2)) (hq : pc + 2 = q) (hx : zin x) (k : zV X q L (.inl x :: S) n M) : zV X pc L S n M := by
  obtain ⟨⟨p, l, e, R, s, m, args, below, meth, c⟩, Q, base, n0, D, c3⟩ := X
  obtain ⟨hx0, hb, hml, hown, hts, hK, hr, hlk, hbs, hfr, hlo, hce, hsl⟩ := C
  subst hq
  intro h0 hn oL oS oM ls H locs hl hP hS
  exact lv_ldc hx0 hb hown (hts _ hw) hd (k h0 hn oL (List.forall_mem_cons.mpr ⟨hx, oS⟩) oM ls H locs hl hP hS)
theorem v_ldcw (C : zC X cc own nL rt fr lo n1) {idx : Nat} {x : Int} (hw : Cond.constant own idx (Int32.ofInt x) ∈ wt) (hd : decode cc pc = .ok (.ldc_w idx, 3)) (hq : pc + 3 = q) (hx : zin x) (k : zV X q L (.inl x :: S) n M) : zV X pc L S n M := by
  obtain ⟨⟨p, l, e, R, s, m, args, below, meth, c⟩, Q, base, n0, D, c3⟩ := X
  obtain ⟨hx0, hb, hml, hown, hts, hK, hr, hlk, hbs, hfr, hlo, hce, hsl⟩ := C
  subst hq
  intro h0 hn oL oS oM ls H locs hl hP hS
  exact lv_ldcw hx0 hb hown (hts _ hw) hd (k h0 hn oL (List.forall_mem_cons.mpr ⟨hx, oS⟩) oM ls H locs hl hP hS)
theorem v_null (C : zC X cc own nL rt fr lo n1) (hd : decode cc pc = .ok (.aconst_null, 1)) (hq : pc + 1 = q) (k : zV X q L (.inr 0 :: S) n M) : zV X pc L S n M := by
  obtain ⟨⟨p, l, e, R, s, m, args, below, meth, c⟩, Q, base, n0, D, c3⟩ := X
  obtain ⟨hx0, hb, hml, hown, hts, hK, hr, hlk, hbs, hfr, hlo, hce, hsl⟩ := C
  subst hq
  intro h0 hn oL oS oM ls H locs hl hP hS
  exact lv_null hx0 hb hd (k h0 hn oL (List.forall_mem_cons.mpr ⟨trivial, oS⟩) oM ls H locs hl hP hS)
/-! locals -/
theorem v_iloadn (C : zC X cc own nL rt fr lo n1) {i : Fin 4} {x : Int} (hd : decode cc pc = .ok (.iload_n i, 1)) (hq : pc + 1 = q) (hx : L[(i : Nat)]? = some (some (.inl x))) (k : zV X q L (.inl x :: S) n M) : zV X pc L S n M := by
  obtain ⟨⟨p, l, e, R, s, m, args, below, meth, c⟩, Q, base, n0, D, c3⟩ := X
  obtain ⟨hx0, hb, hml, hown, hts, hK, hr, hlk, hbs, hfr, hlo, hce, hsl⟩ := C
  subst hq
  intro h0 hn oL oS oM ls H locs hl hP hS
  exact lv_iload_n hx0 hb hd rfl (hl.2.2 _ _ hx) (k h0 hn oL (List.forall_mem_cons.mpr ⟨oL _ (List.mem_of_getElem? hx), oS⟩) oM ls H locs hl hP hS)
theorem v_iload (C : zC X cc own nL rt fr lo n1) {i : Nat} {x : Int} (hd : decode cc pc = .ok (.iload i, 2)) (hq : pc + 2 = q) (hx : L[i]? = some (some (.inl x))) (k : zV X q L (.inl x :: S) n M) : zV X pc L S n M := by
  obtain ⟨⟨p, l, e, R, s, m, args, below, meth, c⟩, Q, base, n0, D, c3⟩ := X
  obtain ⟨hx0, hb, hml, hown, hts, hK, hr, hlk, hbs, hfr, hlo, hce, hsl⟩ := C
  subst hq
  intro h0 hn oL oS oM ls H locs hl hP hS
  exact lv_iload hx0 hb hd (hl.2.2 _ _ hx) (k h0 hn oL (List.forall_mem_cons.mpr ⟨oL _ (List.mem_of_getElem? hx), oS⟩) oM ls H locs hl hP hS)
theorem v_aloadn (C : zC X cc own nL rt fr lo n1) {i : Fin 4} {a : Int} (hd : decode cc pc = .ok (.aload_n i, 1)) (hq : pc + 1 = q) (hx : L[(i : Nat)]? = some (some (.inr a))) (k : zV X q L (.inr a :: S) n M) : zV X pc L S n M := by
  obtain ⟨⟨p, l, e, R, s, m, args, below, meth, c⟩, Q, base, n0, D, c3⟩ := X
  obtain ⟨hx0, hb, hml, hown, hts, hK, hr, hlk, hbs, hfr, hlo, hce, hsl⟩ := C
  subst hq
  intro h0 hn oL oS oM ls H locs hl hP hS
  have h1 := hl.2.2 _ _ hx
  have h2 := k h0 hn oL (List.forall_mem_cons.mpr ⟨trivial, oS⟩) oM ls H locs hl hP hS
  rw [List.map_cons] at h2
  unfold z_val at h1 h2
  dsimp only at h1 h2
  cases hz0 : z_rf base a with
  | none =>
    rw [hz0] at h1 h2
    exact lv_aload_nN hx0 hb hd rfl h1 h2
  | some b =>
    rw [hz0] at h1 h2
    exact lv_aload_n hx0 hb hd rfl h1 h2
theorem v_aload (C : zC X cc own nL rt fr lo n1) {i : Nat} {a : Int} (hd : decode cc pc = .ok (.aload i, 2)) (hq : pc + 2 = q) (hx : L[i]? = some (some (.inr a))) (k : zV X q L (.inr a :: S) n M) : zV X pc L S n M := by
  obtain ⟨⟨p, l, e, R, s, m, args, below, meth, c⟩, Q, base, n0, D, c3⟩ := X
  obtain ⟨hx0, hb, hml, hown, hts, hK, hr, hlk, hbs, hfr, hlo, hce, hsl⟩ := C
  subst hq
  intro h0 hn oL oS oM ls H locs hl hP hS
  have h1 := hl.2.2 _ _ hx
  have h2 := k h0 hn oL (List.forall_mem_cons.mpr ⟨trivial, oS⟩) oM ls H locs hl hP hS
  rw [List.map_cons] at h2
  unfold z_val at h1 h2
  dsimp only at h1 h2
  cases hz0 : z_rf base a with
  | none =>
    rw [hz0] at h1 h2
    exact lv_aloadN hx0 hb hd h1 h2
  | some b =>
    rw [hz0] at h1 h2
    exact lv_aload hx0 hb hd h1 h2
theorem z_okset {L : List (Option ZV)} {i : Nat} {v : ZV} (oL : ∀ v, some v ∈ L → z_ok v) (hv : z_ok v) : ∀ w, some w ∈ L.set i (some v) → z_ok w := by
  intro w hw
  rcases List.mem_or_eq_of_mem_set hw with h | h
  · exact oL w h
  · cases h; exact hv
theorem v_istoren (C : zC X cc own nL rt fr lo n1) {i : Fin 4} {x : Int} (hd : decode cc pc = .ok (.istore_n i, 1)) (hq : pc + 1 = q) (hi : (i : Nat) < nL) {L' : List (Option ZV)} (hL : L.set (i : Nat) (some (.inl x)) = L') (k : zV X q L' S n M) : zV X pc L (.inl x :: S) n M := by
  obtain ⟨⟨p, l, e, R, s, m, args, below, meth, c⟩, Q, base, n0, D, c3⟩ := X
  obtain ⟨hx0, hb, hml, hown, hts, hK, hr, hlk, hbs, hfr, hlo, hce, hsl⟩ := C
  subst hq; subst hL
  intro h0 hn oL oS oM ls H locs hl hP hS
  exact lv_istore_n hx0 hb hd rfl hl.has (by rw [hml]; exact hi) rfl (fun ls' hl' => k h0 hn (z_okset oL (oS _ List.mem_cons_self)) (fun v hv => oS v (List.mem_cons_of_mem _ hv)) oM ls' H locs (zL.store (v := .inl x) hl') hP hS)
theorem v_istore (C : zC X cc own nL rt fr lo n1) {i : Nat} {x : Int} (hd : decode cc pc = .ok (.istore i, 2)) (hq : pc + 2 = q) (hi : i < nL) {L' : List (Option ZV)} (hL : L.set i (some (.inl x)) = L') (k : zV X q L' S n M) : zV X pc L (.inl x :: S) n M := by
  obtain ⟨⟨p, l, e, R, s, m, args, below, meth, c⟩, Q, base, n0, D, c3⟩ := X
  obtain ⟨hx0, hb, hml, hown, hts, hK, hr, hlk, hbs, hfr, hlo, hce, hsl⟩ := C
  subst hq; subst hL
  intro h0 hn oL oS oM ls H locs hl hP hS
  exact lv_istore hx0 hb hd hl.has (by rw [hml]; exact hi) rfl (fun ls' hl' => k h0 hn (z_okset oL (oS _ List.mem_cons_self)) (fun v hv => oS v (List.mem_cons_of_mem _ hv)) oM ls' H locs (zL.store (v := .inl x) hl') hP hS)
theorem v_astoren (C : zC X cc own nL rt fr lo n1) {i : Fin 4} {a : Int} (hd : decode cc pc = .ok (.astore_n i, 1)) (hq : pc + 1 = q) (hi : (i : Nat) < nL) {L' : List (Option ZV)} (hL : L.set (i : Nat) (some (.inr a)) = L') (k : zV X q L' S n M) : zV X pc L (.inr a :: S) n M := by
  obtain ⟨⟨p, l, e, R, s, m, args, below, meth, c⟩, Q, base, n0, D, c3⟩ := X
  obtain ⟨hx0, hb, hml, hown, hts, hK, hr, hlk, hbs, hfr, hlo, hce, hsl⟩ := C
  subst hq; subst hL
  intro h0 hn oL oS oM ls H locs hl hP hS
  have kk : ∀ ls' : Array Slot, lv_has ls' c.maxLocals ((((i : Nat)), z_val base (.inr a)) :: (z_asc base L).filter (fun q => !(q.1 == (i : Nat)) && !(q.1 + 1 == (i : Nat) && q.2.category == 2))) → W p l e R s m args below meth c H locs (n - n0) (z_sl n - z_sl n0) Q (F0 m (pc + 1) ls' (S.map (z_val base))) := fun ls' hl' => k h0 hn (z_okset oL (oS _ List.mem_cons_self)) (fun v hv => oS v (List.mem_cons_of_mem _ hv)) oM ls' H locs (zL.store (v := .inr a) hl') hP hS
  rw [List.map_cons]
  have e1 : z_val base (.inr a) = va_rf (z_rf base a) := rfl
  rw [e1] at kk ⊢
  cases hz0 : z_rf base a with
  | none =>
    rw [hz0] at kk
    exact lv_astore_nN hx0 hb hd rfl hl.has (by rw [hml]; exact hi) rfl kk
  | some b =>
    rw [hz0] at kk
    exact lv_astore_n hx0 hb hd rfl hl.has (by rw [hml]; exact hi) rfl kk
theorem v_astore (C : zC X cc own nL rt fr lo n1) {i : Nat} {a : Int} (hd : decode cc pc = .ok (.astore i, 2)) (hq : pc + 2 = q) (hi : i < nL) {L' : List (Option ZV)} (hL : L.set i (some (.inr a)) = L') (k : zV X q L' S n M) : zV X pc L (.inr a :: S) n M := by
  obtain ⟨⟨p, l, e, R, s, m, args, below, meth, c⟩, Q, base, n0, D, c3⟩ := X
  obtain ⟨hx0, hb, hml, hown, hts, hK, hr, hlk, hbs, hfr, hlo, hce, hsl⟩ := C
  subst hq; subst hL
  intro h0 hn oL oS oM ls H locs hl hP hS
  have kk : ∀ ls' : Array Slot, lv_has ls' c.maxLocals ((i, z_val base (.inr a)) :: (z_asc base L).filter (fun q => !(q.1 == i) && !(q.1 + 1 == i && q.2.category == 2))) → W p l e R s m args below meth c H locs (n - n0) (z_sl n - z_sl n0) Q (F0 m (pc + 2) ls' (S.map (z_val base))) := fun ls' hl' => k h0 hn (z_okset oL (oS _ List.mem_cons_self)) (fun v hv => oS v (List.mem_cons_of_mem _ hv)) oM ls' H locs (zL.store (v := .inr a) hl') hP hS
  rw [List.map_cons]
  have e1 : z_val base (.inr a) = va_rf (z_rf base a) := rfl
  rw [e1] at kk ⊢
  cases hz0 : z_rf base a with
  | none =>
    rw [hz0] at kk
    exact lv_astoreN hx0 hb hd hl.has (by rw [hml]; exact hi) rfl kk
  | some b =>
    rw [hz0] at kk
    exact lv_astore hx0 hb hd hl.has (by rw [hml]; exact hi) rfl kk
theorem v_iinc (C : zC X cc own nL rt fr lo n1) {i : Nat} {d x : Int} (hd : decode cc pc = .ok (.iinc i d, 3)) (hq : pc + 3 = q) (hi : i < nL) (hx : L[i]? = some (some (.inl x))) {L' : List (Option ZV)} (hL : L.set i (some (.inl (x + d))) = L') (hr : zin (x + d)) (k : zV X q L' S n M) : zV X pc L S n M := by
  obtain ⟨⟨p, l, e, R, s, m, args, below, meth, c⟩, Q, base, n0, D, c3⟩ := X
  obtain ⟨hx0, hb, hml, hown, hts, hK, -, hlk, hbs, hfr, hlo, hce, hsl⟩ := C
  subst hq; subst hL
  intro h0 hn oL oS oM ls H locs hl hP hS
  have hm : (i, Value.int (Int32.ofInt x)) ∈ z_asc base L := List.mem_filterMap.mpr ⟨(some (.inl x), i), List.mk_mem_zipIdx_iff_getElem?.mpr hx, rfl⟩
  obtain ⟨j, hj⟩ := List.getElem?_of_mem hm
  exact lv_iinc (v := Int32.ofInt (x + d)) hx0 hb hd hl.has hj (Int32.ofInt_add x d).symm (by rw [hml]; exact hi) rfl (fun ls' hl' => k h0 hn (z_okset oL hr) oS oM ls' H locs (zL.store (v := .inl (x + d)) hl') hP hS)
/-! fewer locals are known -/
theorem v_less {L' : List (Option ZV)} (hw : ∀ (i : Nat) (v : ZV), L'[i]? = some (some v) → L[i]? = some (some v)) (k : zV X pc L' S n M) : zV X pc L S n M := by
  obtain ⟨⟨p, l, e, R, s, m, args, below, meth, c⟩, Q, base, n0, D, c3⟩ := X
  intro h0 hn oL oS oM ls H locs hl hP hS
  exact k h0 hn (fun v hv => by obtain ⟨i, hi⟩ := List.getElem?_of_mem hv; exact oL v (List.mem_of_getElem? (hw i v hi))) oS oM ls H locs (hl.weaken hw) hP hS
end VB
