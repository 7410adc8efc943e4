/-! ===== the law's own: its script ===== -/
section LA
variable {X : ZX} {cc : ByteArray} {own : String} {nL : Nat} {rt : Option FieldType} {fr lo n1 : Nat} {pc q : Nat} {L : List (Option ZV)} {S : List ZV} {n : Nat} {M : ZM}
/-- the script's ints are there, d cells below the world -/
def zScr (X : ZX) (d : Int) (ln : Nat) (xv : Int → Int) : Prop :=
  match X with
  | ((p, l, e, R, s, m, args, below, meth, c), (Q, base, n0, D, c3)) => ∃ b : Nat, b < s.heap.size ∧ b < base ∧ d = (b : Int) - (base : Int) ∧ (∀ i, zin (xv i)) ∧ va_X b ln (fun j => Int32.ofInt (xv (j : Int))) s s.heap
theorem z_scr_val {base b : Nat} {d : Int} (hb : b < base) (hd : d = (b : Int) - (base : Int)) : z_val base (.inr d) = .ref b := by
  show va_rf (z_rf base d) = .ref b
  unfold z_rf
  rw [if_neg (show ¬ d = 0 by omega), if_pos (show d < 0 by omega), show base - d.natAbs = b by omega]
  rfl
theorem v_sald (C : zC X cc own nL rt fr lo n1) {d i : Int} {ln : Nat} {xv : Int → Int} (hs : zScr X d ln xv) (hi : 0 ≤ i ∧ i < (ln : Int)) (hd : decode cc pc = .ok (.iaload, 1)) (hq : pc + 1 = q) (kk : zV X q L (.inl (xv i) :: S) n M) : zV X pc L (.inl i :: .inr d :: S) n M := by
  obtain ⟨⟨p, l, e, R, s, m, args, below, meth, c⟩, Q, base, n0, D, c3⟩ := X
  obtain ⟨hx0, hb, hml, hown, hts, hK, -, hlk, hbs, hfr, hlo, hce, hsl⟩ := C
  obtain ⟨b, hbl, hbb, hdd, hxv, hX⟩ := hs
  subst hq
  intro h0 hn oL oS oM ls H locs hl hP hS
  have hx : zin i := oS (.inl i) (by simp)
  have h2 := kk h0 hn oL (List.forall_mem_cons.mpr ⟨hxv i, fun v hv => oS v (List.mem_cons_of_mem _ (List.mem_cons_of_mem _ hv))⟩) oM ls H locs hl hP hS
  rw [List.map_cons, show z_val base (.inl (xv i)) = .int ((fun j : Nat => Int32.ofInt (xv (j : Int))) (Int32.ofInt i).toNatClampNeg) from by rw [z_clamp hx]; show Value.int (Int32.ofInt (xv i)) = Value.int (Int32.ofInt (xv ((i.toNat : Nat) : Int))); rw [show ((i.toNat : Nat) : Int) = i by omega]] at h2
  rw [List.map_cons, List.map_cons, z_scr_val hbb hdd]
  exact va_sld hx0 hb hX hbl (by omega) hS (z_vin hx hi) hd h2
theorem v_slen (C : zC X cc own nL rt fr lo n1) {d : Int} {ln : Nat} {xv : Int → Int} (hs : zScr X d ln xv) (hln : ln < 100000) (hd : decode cc pc = .ok (.arraylength, 1)) (hq : pc + 1 = q) (kk : zV X q L (.inl (ln : Int) :: S) n M) : zV X pc L (.inr d :: S) n M := by
  obtain ⟨⟨p, l, e, R, s, m, args, below, meth, c⟩, Q, base, n0, D, c3⟩ := X
  obtain ⟨hx0, hb, hml, hown, hts, hK, -, hlk, hbs, hfr, hlo, hce, hsl⟩ := C
  obtain ⟨b, hbl, hbb, hdd, hxv, hX⟩ := hs
  subst hq
  intro h0 hn oL oS oM ls H locs hl hP hS
  have h2 := kk h0 hn oL (List.forall_mem_cons.mpr ⟨⟨by omega, by omega⟩, fun v hv => oS v (List.mem_cons_of_mem _ hv)⟩) oM ls H locs hl hP hS
  rw [List.map_cons, z_scr_val hbb hdd]
  exact va_slen hx0 hb hX hbl (by omega) hS hd h2
theorem z_and31 {x : Int} (hx : zin x) : Int32.ofInt x &&& Int32.ofInt 31 = Int32.ofInt (x % 32) := by
  rw [pk_and (Int32.ofInt x) 5 (by decide)]
  have e1 : (Int32.ofInt x).toBitVec.toNat = (x % 4294967296).toNat := by
    show (BitVec.ofInt 32 x).toNat = _
    rw [BitVec.toNat_ofInt]
    rfl
  rw [e1]
  show Int32.ofNat _ = _
  rw [show Int32.ofNat ((x % 4294967296).toNat % 2 ^ 5) = Int32.ofInt (((x % 4294967296).toNat % 2 ^ 5 : Nat) : Int) from rfl]
  congr 1
  omega
theorem v_iand31 (C : zC X cc own nL rt fr lo n1) {x : Int} (hd : decode cc pc = .ok (.iand, 1)) (hq : pc + 1 = q) (kk : zV X q L (.inl (x % 32) :: S) n M) : zV X pc L (.inl 31 :: .inl x :: S) n M := by
  obtain ⟨⟨p, l, e, R, s, m, args, below, meth, c⟩, Q, base, n0, D, c3⟩ := X
  obtain ⟨hx0, hb, hml, hown, hts, hK, -, hlk, hbs, hfr, hlo, hce, hsl⟩ := C
  subst hq
  intro h0 hn oL oS oM ls H locs hl hP hS
  have hx : zin x := oS (.inl x) (by simp)
  have h2 := kk h0 hn oL (List.forall_mem_cons.mpr ⟨⟨by omega, by omega⟩, fun v hv => oS v (List.mem_cons_of_mem _ (List.mem_cons_of_mem _ hv))⟩) oM ls H locs hl hP hS
  rw [List.map_cons, show z_val base (.inl (x % 32)) = .int (Int32.ofInt x &&& Int32.ofInt 31) from congrArg Value.int (z_and31 hx).symm] at h2
  exact lv_iand hx0 hb hd h2
theorem u_sald (C : zC X cc own nL rt fr lo 274) {d i : Int} {ln : Nat} {xv : Int → Int} {μ : ZM} {P : Prop} (hs : zScr X d ln xv) (hd : decode cc pc = .ok (.iaload, 1)) (hq : pc + 1 = q) (h : (0 ≤ i ∧ i < (ln : Int)) ∧ P) (kk : P → zV X q L (.inl (xv i) :: S) 274 (z_ov μ)) : zV X pc L (.inl i :: .inr d :: S) 274 (z_ov μ) := v_sald C hs h.1 hd hq (kk h.2)
end LA
