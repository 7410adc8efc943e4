section VD
variable {X : ZX} {cc : ByteArray} {own : String} {nL : Nat} {rt : Option FieldType} {fr lo n1 : Nat} {pc q : Nat} {L : List (Option ZV)} {S : List ZV} {n : Nat} {M : ZM}
/-- what is known of class number ci -/
def zCl (ci : Nat) (Cn : String) (T : u_T) (N : Nat) (ty : Nat → FieldType) : Prop := vwCl[ci]? = some (Cn, T, N) ∧ ci < 13 ∧ (∀ w ∈ u_ws Cn T N, w ∈ wt) ∧ (∀ k, k < N → parseFieldDescriptor (T k).2.2.1 = some (ty k)) ∧ (∀ a, a < N → ∀ b, b < N → a ≠ b → (T a).2.1 ≠ (T b).2.1) ∧ (z_fk ci).length = N
def z_fv (kd : Nat) (x : Int) : ZV := if kd = 0 then .inl x else .inr x
theorem z_fld_fv (base kd : Nat) (x : Int) : z_fld base kd x = z_val base (z_fv kd x) := by
  unfold z_fld z_fv
  by_cases h : kd = 0
  · rw [if_pos h, if_pos h]; rfl
  · rw [if_neg h, if_neg h]; rfl
theorem z_fv_ok {kd : Nat} {x : Int} (h : zin x) : z_ok (z_fv kd x) := by
  unfold z_fv
  by_cases h0 : kd = 0
  · rw [if_pos h0]; exact h
  · rw [if_neg h0]; trivial
theorem z_rendO_at {base ci k kd : Nat} {f : Int → Int} (h : (z_fk ci)[k]? = some kd) : (z_rendO base ci f)[k]? = some (z_fld base kd (f (k : Int))) := by
  unfold z_rendO
  rw [List.getElem?_mapIdx, h]
  rfl
theorem z_rendO_set {base ci k kd : Nat} {f : Int → Int} {x : Int} (h : (z_fk ci)[k]? = some kd) : (z_rendO base ci f).set k (z_fld base kd x) = z_rendO base ci (fun j => if j = (k : Int) then x else f j) := by
  apply List.ext_getElem?
  intro j
  by_cases e : j = k
  · subst e
    have hl : j < (z_rendO base ci f).length := by
      unfold z_rendO
      rw [List.length_mapIdx]
      exact (List.getElem?_eq_some_iff.mp h).1
    rw [List.getElem?_set_self hl, z_rendO_at h, if_pos rfl]
  · rw [List.getElem?_set_ne (Ne.symm e)]
    unfold z_rendO
    rw [List.getElem?_mapIdx, List.getElem?_mapIdx]
    cases (z_fk ci)[j]? with
    | none => rfl
    | some kd' =>
      have e2 : ¬ ((j : Int) = (k : Int)) := by omega
      simp [e2]
theorem z_rend_o {base : Nat} {c3 : Z3} {ci : Nat} {f : Int → Int} (h : ci < 13) : z_rend base c3 (ci, 0) f = .inr (ci, z_rendO base ci f) := by
  unfold z_rend
  rw [if_pos h]
theorem z_rend_i {base : Nat} {c3 : Z3} {len : Nat} {f : Int → Int} : z_rend base c3 (13, len) f = .inl (c3.1, len, .inl (fun j => Int32.ofInt (f (j : Int)))) := by
  unfold z_rend
  rw [if_neg (show ¬ (13 : Nat) < 13 by decide), if_pos rfl]
theorem z_rend_t {base : Nat} {c3 : Z3} {len : Nat} {f : Int → Int} : z_rend base c3 (14, len) f = .inl (c3.2.1, len, .inr (.inr (.inr (.inr (fun j => z_rf base (f (j : Int))))))) := by
  unfold z_rend
  rw [if_neg (show ¬ (14 : Nat) < 13 by decide), if_neg (show ¬ (14 : Nat) = 13 by decide), if_pos rfl]
theorem z_rend_c {base : Nat} {c3 : Z3} {len : Nat} {f : Int → Int} : z_rend base c3 (15, len) f = .inl (c3.2.2, len, .inr (.inr (.inr (.inr (fun j => z_rf base (f (j : Int))))))) := by
  unfold z_rend
  rw [if_neg (show ¬ (15 : Nat) < 13 by decide), if_neg (show ¬ (15 : Nat) = 13 by decide), if_neg (show ¬ (15 : Nat) = 14 by decide)]
theorem z_upd_ok {M : ZM} {a i v : Int} (oM : ∀ a i, zin (M a i)) (hv : zin v) : ∀ b j, zin (z_upd M a i v b j) := by
  intro b j
  unfold z_upd
  by_cases h : b = a ∧ j = i
  · rw [if_pos h]; exact hv
  · rw [if_neg h]; exact oM b j
/-! fields -/
theorem v_get (C : zC X cc own nL rt fr lo n1) {a : Int} {ci idx k kd N : Nat} {Cn : String} {T : u_T} {ty : Nat → FieldType} (hcl : zCl ci Cn T N ty) (ha : z_al n a) (hc : z_dk a = (ci, 0)) (hkd : (z_fk ci)[k]? = some kd) (hlink : Cond.fieldLink own idx (T k).1 (T k).2.1 (T k).2.2.1 ∈ wt) (hd : decode cc pc = .ok (.getfield idx, 3)) (hq : pc + 3 = q) (kk : zV X q L (z_fv kd (M a (k : Int)) :: S) n M) : zV X pc L (.inr a :: S) n M := by
  obtain ⟨⟨p, l, e, R, s, m, args, below, meth, c⟩, Q, base, n0, D, c3⟩ := X
  obtain ⟨hx0, hb, hml, hown, hts, hK, -, hlk, hbs, hfr, hlo, hce, hsl⟩ := C
  obtain ⟨g1, g2, g3, g4, g5, g6⟩ := hcl
  subst hq
  intro h0 hn oL oS oM ls H locs hl hP hS
  have e0 := z_ws_id (base := base) (c3 := c3) (M := M) ha
  rw [hc, z_rend_o g2] at e0
  rw [List.map_cons, z_val_ref hn ha]
  have hk : k < N := by rw [← g6]; exact (List.getElem?_eq_some_iff.mp hkd).1
  have e1 := z_rendO_at (base := base) (f := M a) hkd
  rw [z_fld_fv] at e1
  exact va_get hx0 hb hts g3 hown hK hP (z_idx a) e0 g1 k hk (hts _ hlink) (fun _ h => h) e1 hd (kk h0 hn oL (List.forall_mem_cons.mpr ⟨z_fv_ok (oM _ _), fun v hv => oS v (List.mem_cons_of_mem _ hv)⟩) oM ls H locs hl hP hS)
/-- what may be stored in a field of this type -/
def z_st (ty : FieldType) (x : Int) : Prop := ty = .int ∨ (ty = .boolean ∧ (x = 0 ∨ x = 1))
theorem z_st_ok {ty : FieldType} {x : Int} (h : z_st ty x) : narrow ty (.int (Int32.ofInt x)) = .int (Int32.ofInt x) ∧ fits ty (.int (Int32.ofInt x)) = true := by
  rcases h with rfl | ⟨rfl, rfl | rfl⟩
  · exact ⟨rfl, rfl⟩
  · exact ⟨by decide, by decide⟩
  · exact ⟨by decide, by decide⟩
theorem v_put (C : zC X cc own nL rt fr lo n1) {a x : Int} {ci idx k N : Nat} {Cn : String} {T : u_T} {ty : Nat → FieldType} (hcl : zCl ci Cn T N ty) (ha : z_al n a) (hc : z_dk a = (ci, 0)) (hkd : (z_fk ci)[k]? = some 0) (hty : z_st (ty k) x) (hfin : (T k).2.2.2 = false) (hlink : Cond.fieldLink own idx (T k).1 (T k).2.1 (T k).2.2.1 ∈ wt) (hd : decode cc pc = .ok (.putfield idx, 3)) (hq : pc + 3 = q) (kk : zV X q L S n (z_upd M a (k : Int) x)) : zV X pc L (.inl x :: .inr a :: S) n M := by
  obtain ⟨⟨p, l, e, R, s, m, args, below, meth, c⟩, Q, base, n0, D, c3⟩ := X
  obtain ⟨hx0, hb, hml, hown, hts, hK, -, hlk, hbs, hfr, hlo, hce, hsl⟩ := C
  obtain ⟨g1, g2, g3, g4, g5, g6⟩ := hcl
  subst hq
  intro h0 hn oL oS oM ls H locs hl hP hS
  have e0 := z_ws_id (base := base) (c3 := c3) (M := M) ha
  rw [hc, z_rend_o g2] at e0
  rw [List.map_cons, List.map_cons, z_val_ref hn ha]
  have hk : k < N := by rw [← g6]; exact (List.getElem?_eq_some_iff.mp hkd).1
  have hx : zin x := oS (.inl x) (by simp)
  have oM' : ∀ b i, zin (z_upd M a (k : Int) x b i) := z_upd_ok oM hx
  have hkl : k < (z_rendO base ci (M a)).length := by unfold z_rendO; rw [List.length_mapIdx]; exact (List.getElem?_eq_some_iff.mp hkd).1
  refine va_put hx0 hb hts g3 ty g4 g5 hown hK hP z_ws_D hS (z_idx a) e0 g1 k hk (hts _ hlink) (fun _ h => h) hfin (g4 k hk) (z_st_ok hty).1 (z_st_ok hty).2 hkl hd (fun H1 locs1 hP1 hD1 hS1 => ?_)
  have e2 : (z_ws base c3 n M).set (z_idx a) (base + z_idx a, .inr (ci, (z_rendO base ci (M a)).set k (.int (Int32.ofInt x)))) = z_ws base c3 n (z_upd M a (k : Int) x) := by
    rw [z_upd_eq, ← z_ws_set hn ha, hc, z_rend_o g2, ← z_rendO_set (base := base) (x := x) hkd]
    rfl
  have hP2 : va_P D vwCl (z_ws base c3 n (z_upd M a (k : Int) x)) H1 := by rw [← e2]; exact hP1
  exact kk h0 hn oL (fun v hv => oS v (List.mem_cons_of_mem _ (List.mem_cons_of_mem _ hv))) oM' ls H1 locs1 hl hP2 hS1
/-! arrays -/
theorem v_iald (C : zC X cc own nL rt fr lo n1) {a i : Int} {len : Nat} (ha : z_al n a) (hc : z_dk a = (13, len)) (hi : 0 ≤ i ∧ i < (len : Int)) (hd : decode cc pc = .ok (.iaload, 1)) (hq : pc + 1 = q) (kk : zV X q L (.inl (M a i) :: S) n M) : zV X pc L (.inl i :: .inr a :: S) n M := by
  obtain ⟨⟨p, l, e, R, s, m, args, below, meth, c⟩, Q, base, n0, D, c3⟩ := X
  obtain ⟨hx0, hb, hml, hown, hts, hK, -, hlk, hbs, hfr, hlo, hce, hsl⟩ := C
  subst hq
  intro h0 hn oL oS oM ls H locs hl hP hS
  have e0 := z_ws_id (base := base) (c3 := c3) (M := M) ha
  rw [hc, z_rend_i] at e0
  rw [List.map_cons, List.map_cons, z_val_ref hn ha]
  have hx : zin i := oS (.inl i) (by simp)
  have h2 := kk h0 hn oL (List.forall_mem_cons.mpr ⟨oM a i, fun v hv => oS v (List.mem_cons_of_mem _ (List.mem_cons_of_mem _ hv))⟩) oM ls H locs hl hP hS
  rw [List.map_cons, show z_val base (.inl (M a i)) = .int ((fun j : Nat => Int32.ofInt (M a (j : Int))) (Int32.ofInt i).toNatClampNeg) from by rw [z_clamp hx]; show Value.int (Int32.ofInt (M a i)) = Value.int (Int32.ofInt (M a ((i.toNat : Nat) : Int))); rw [show ((i.toNat : Nat) : Int) = i by omega]] at h2
  exact va_iald hx0 hb hK hP (z_idx a) 0 e0 rfl (z_vin hx hi) hd h2
theorem v_iast (C : zC X cc own nL rt fr lo n1) {a i x : Int} {len : Nat} (ha : z_al n a) (hc : z_dk a = (13, len)) (hi : 0 ≤ i ∧ i < (len : Int)) (hd : decode cc pc = .ok (.iastore, 1)) (hq : pc + 1 = q) (kk : zV X q L S n (z_upd M a i x)) : zV X pc L (.inl x :: .inl i :: .inr a :: S) n M := by
  obtain ⟨⟨p, l, e, R, s, m, args, below, meth, c⟩, Q, base, n0, D, c3⟩ := X
  obtain ⟨hx0, hb, hml, hown, hts, hK, -, hlk, hbs, hfr, hlo, hce, hsl⟩ := C
  subst hq
  intro h0 hn oL oS oM ls H locs hl hP hS
  have e0 := z_ws_id (base := base) (c3 := c3) (M := M) ha
  rw [hc, z_rend_i] at e0
  rw [List.map_cons, List.map_cons, List.map_cons, z_val_ref hn ha]
  have hx : zin i := oS (.inl i) (by simp)
  have hy : zin x := oS (.inl x) (by simp)
  refine va_iast hx0 hb hK hP z_ws_D hS (z_idx a) 0 e0 rfl (z_vin hx hi) hd (fun H1 locs1 hP1 hD1 hS1 => ?_)
  have e2 : (z_ws base c3 n M).set (z_idx a) (base + z_idx a, .inl (c3.1, len, .inl (upd (fun j : Nat => Int32.ofInt (M a (j : Int))) (Int32.ofInt i).toNatClampNeg (Int32.ofInt x)))) = z_ws base c3 n (z_upd M a i x) := by
    rw [z_upd_eq, ← z_ws_set hn ha, hc, z_rend_i]
    have e3 : upd (fun j : Nat => Int32.ofInt (M a (j : Int))) (Int32.ofInt i).toNatClampNeg (Int32.ofInt x) = (fun j : Nat => Int32.ofInt (if (j : Int) = i then x else M a (j : Int))) := by
      funext j
      rw [z_clamp hx]
      by_cases h : (j : Int) = i
      · have hj : j = i.toNat := by omega
        rw [if_pos h, hj, pk_us]
      · have hj : j ≠ i.toNat := by omega
        rw [if_neg h, pk_un hj]
    rw [e3]
  rw [e2] at hP1
  exact kk h0 hn oL (fun v hv => oS v (List.mem_cons_of_mem _ (List.mem_cons_of_mem _ (List.mem_cons_of_mem _ hv)))) (z_upd_ok oM hy) ls H1 locs1 hl hP1 hS1
theorem z_tkind {c3 : Z3} {kd : Nat} (h : kd = 14 ∨ kd = 15) : ∃ (t0 : Nat) (cA : ClassId) (Cn : String), (z_tys c3)[t0]? = some (cA, .object Cn) ∧ (∀ (base len : Nat) (f : Int → Int), z_rend base c3 (kd, len) f = .inl (cA, len, .inr (.inr (.inr (.inr (fun j => z_rf base (f (j : Int)))))))) ∧ Cn = (if kd = 14 then RX10 else RX0) := by
  rcases h with rfl | rfl
  · exact ⟨1, c3.2.1, _, rfl, fun base len f => z_rend_t, rfl⟩
  · exact ⟨2, c3.2.2, _, rfl, fun base len f => z_rend_c, rfl⟩
theorem v_aald (C : zC X cc own nL rt fr lo n1) {a i : Int} {kd len : Nat} (ha : z_al n a) (hkd : kd = 14 ∨ kd = 15) (hc : z_dk a = (kd, len)) (hi : 0 ≤ i ∧ i < (len : Int)) (hd : decode cc pc = .ok (.aaload, 1)) (hq : pc + 1 = q) (kk : zV X q L (.inr (M a i) :: S) n M) : zV X pc L (.inl i :: .inr a :: S) n M := by
  obtain ⟨⟨p, l, e, R, s, m, args, below, meth, c⟩, Q, base, n0, D, c3⟩ := X
  obtain ⟨hx0, hb, hml, hown, hts, hK, -, hlk, hbs, hfr, hlo, hce, hsl⟩ := C
  subst hq
  intro h0 hn oL oS oM ls H locs hl hP hS
  obtain ⟨t0, cA, Cn, hty, hre, -⟩ := z_tkind (c3 := c3) hkd
  have e0 := z_ws_id (base := base) (c3 := c3) (M := M) ha
  rw [hc, hre] at e0
  rw [List.map_cons, List.map_cons, z_val_ref hn ha]
  have hx : zin i := oS (.inl i) (by simp)
  have h2 := kk h0 hn oL (List.forall_mem_cons.mpr ⟨trivial, fun v hv => oS v (List.mem_cons_of_mem _ (List.mem_cons_of_mem _ hv))⟩) oM ls H locs hl hP hS
  rw [List.map_cons, show z_val base (.inr (M a i)) = va_rf ((fun j : Nat => z_rf base (M a (j : Int))) (Int32.ofInt i).toNatClampNeg) from by rw [z_clamp hx]; show va_rf (z_rf base (M a i)) = va_rf (z_rf base (M a ((i.toNat : Nat) : Int))); rw [show ((i.toNat : Nat) : Int) = i by omega]] at h2
  exact va_aldq hx0 hb hK hP (z_idx a) t0 e0 hty (z_vin hx hi) hd h2
theorem v_aast (C : zC X cc own nL rt fr lo n1) {a i b : Int} {kd ci len : Nat} {r : vw_C} (ha : z_al n a) (hkd : kd = 14 ∨ kd = 15) (hc : z_dk a = (kd, len)) (hbl : z_al n b) (hbc : z_dk b = (ci, 0)) (hci : ci < 13) (hcl : vwCl[ci]? = some r) (hr : r.1 = (if kd = 14 then RX10 else RX0)) (hi : 0 ≤ i ∧ i < (len : Int)) (hd : decode cc pc = .ok (.aastore, 1)) (hq : pc + 1 = q) (hzb : zin b) (kk : zV X q L S n (z_upd M a i b)) : zV X pc L (.inr b :: .inl i :: .inr a :: S) n M := by
  obtain ⟨⟨p, l, e, R, s, m, args, below, meth, c⟩, Q, base, n0, D, c3⟩ := X
  obtain ⟨hx0, hb, hml, hown, hts, hK, -, hlk, hbs, hfr, hlo, hce, hsl⟩ := C
  subst hq
  intro h0 hn oL oS oM ls H locs hl hP hS
  obtain ⟨t0, cA, Cn, hty, hre, hCn⟩ := z_tkind (c3 := c3) hkd
  have e0 := z_ws_id (base := base) (c3 := c3) (M := M) ha
  rw [hc, hre] at e0
  have e1 := z_ws_id (base := base) (c3 := c3) (M := M) hbl
  rw [hbc, z_rend_o hci] at e1
  rw [List.map_cons, List.map_cons, List.map_cons, z_val_ref hn ha, z_val_ref hn hbl]
  have hx : zin i := oS (.inl i) (by simp)
  refine va_astq hx0 hb hK hP z_ws_D hS (z_idx a) t0 (z_idx b) ci e0 (by rw [hty, hr, hCn]) e1 hcl (z_vin hx hi) hd (fun H1 locs1 hP1 hD1 hS1 => ?_)
  have e2 : (z_ws base c3 n M).set (z_idx a) (base + z_idx a, .inl (cA, len, .inr (.inr (.inr (.inr (va_up (fun j : Nat => z_rf base (M a (j : Int))) (Int32.ofInt i).toNatClampNeg (some (base + z_idx b)))))))) = z_ws base c3 n (z_upd M a i b) := by
    rw [z_upd_eq, ← z_ws_set hn ha, hc, hre]
    have e3 : va_up (fun j : Nat => z_rf base (M a (j : Int))) (Int32.ofInt i).toNatClampNeg (some (base + z_idx b)) = (fun j : Nat => z_rf base (if (j : Int) = i then b else M a (j : Int))) := by
      funext j
      rw [z_clamp hx]
      unfold va_up
      by_cases h : (j : Int) = i
      · have hj : j = i.toNat := by omega
        rw [if_pos h, if_pos hj]
        rw [z_al_rf hn hbl]
      · have hj : j ≠ i.toNat := by omega
        rw [if_neg h, if_neg hj]
    rw [e3]
  rw [e2] at hP1
  exact kk h0 hn oL (fun v hv => oS v (List.mem_cons_of_mem _ (List.mem_cons_of_mem _ (List.mem_cons_of_mem _ hv)))) (z_upd_ok oM hzb) ls H1 locs1 hl hP1 hS1
theorem v_alen (C : zC X cc own nL rt fr lo n1) {a : Int} {kd len : Nat} (ha : z_al n a) (hkd : kd = 13 ∨ kd = 14 ∨ kd = 15) (hc : z_dk a = (kd, len)) (hlen : len < 100000) (hd : decode cc pc = .ok (.arraylength, 1)) (hq : pc + 1 = q) (kk : zV X q L (.inl (len : Int) :: S) n M) : zV X pc L (.inr a :: S) n M := by
  obtain ⟨⟨p, l, e, R, s, m, args, below, meth, c⟩, Q, base, n0, D, c3⟩ := X
  obtain ⟨hx0, hb, hml, hown, hts, hK, -, hlk, hbs, hfr, hlo, hce, hsl⟩ := C
  subst hq
  intro h0 hn oL oS oM ls H locs hl hP hS
  have e0 := z_ws_id (base := base) (c3 := c3) (M := M) ha
  rw [List.map_cons, z_val_ref hn ha]
  have h2 := kk h0 hn oL (List.forall_mem_cons.mpr ⟨⟨by omega, by omega⟩, fun v hv => oS v (List.mem_cons_of_mem _ hv)⟩) oM ls H locs hl hP hS
  rcases hkd with rfl | hkd
  · rw [hc, z_rend_i] at e0
    exact va_alen hx0 hb hK hP (z_idx a) 0 e0 rfl (v := Int32.ofInt (len : Int)) rfl hd h2
  · obtain ⟨t0, cA, Cn, hty, hre, -⟩ := z_tkind (c3 := c3) hkd
    rw [hc, hre] at e0
    exact va_alen hx0 hb hK hP (z_idx a) t0 e0 hty (v := Int32.ofInt (len : Int)) rfl hd h2
end VD
