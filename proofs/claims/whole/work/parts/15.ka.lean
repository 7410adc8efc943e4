/-! ===== constructors: cells come one by one ===== -/
theorem z_ws_succ {base : Nat} {c3 : Z3} {n : Nat} {M : ZM} : z_ws base c3 n M ++ [(base + n, z_rend base c3 (z_dk (z_ord n)) (M (z_ord n)))] = z_ws base c3 (n + 1) M := by
  unfold z_ws
  rw [List.range_succ, List.map_append]
  rfl
/-- a new cell's address -/
theorem z_newad {p : Program} {l : Launch} {e : Env} {R : Room} {s : State} {m : MethodId} {args : Array Value} {below : List Frame} {meth : Method} {c : Code} {T : State} {locs : List Loc} {cells slots base n0 n q : Nat} {D : va_G} {c3 : Z3} {M : ZM} {en : va_E} {H1 : Heap} (h0 : n0 ≤ n) (hbs : s.heap.size = base + n0) (hT : T.heap = H1) (hP : va_P D vwCl (z_ws base c3 n M ++ [(q, en)]) H1) (hD : va_D (fun q => base ≤ q) (z_ws base c3 n M ++ [(q, en)])) (hc : cells = n + 1 - n0) (St : Stand p l e R s m args below meth c T locs cells slots) : q = base + n := by
  have hlen : (z_ws base c3 n M).length = n := by unfold z_ws; simp
  have hq : (z_ws base c3 n M ++ [(q, en)])[n]? = some (q, en) := by
    rw [List.getElem?_append_right (by omega), hlen, Nat.sub_self]
    rfl
  have h1 := (hP n _ hq).lt
  have h2 := hD.2 n _ hq
  have h3 := St.heapSize
  rw [hT] at h3
  dsimp only at h1 h2
  by_cases h : q < base + n
  · have hk : (z_ws base c3 n M ++ [(q, en)])[q - base]? = some (base + (q - base), z_rend base c3 (z_dk (z_ord (q - base))) (M (z_ord (q - base)))) := by
      rw [List.getElem?_append_left (by omega)]
      exact z_ws_at (by omega)
    have := hD.1 (q - base) n _ _ hk hq (by dsimp only; omega)
    omega
  · omega
section KA
variable {X : ZX} {cc : ByteArray} {own : String} {nL : Nat} {rt : Option FieldType} {fr lo n1 : Nat} {pc q : Nat} {L : List (Option ZV)} {S : List ZV} {n : Nat} {M : ZM}
theorem v_new (C : zC X cc own nL rt fr lo n1) {ci idx N : Nat} {Cn : String} {T : u_T} {ty : Nat → FieldType} {a : Int} (hcl : zCl ci Cn T N ty) (hdef : ∀ j, j < N → defaultValue (ty j) = if (z_fk ci).getD j 0 = 0 then .int 0 else .null) (hlink : Cond.classLink own idx Cn ∈ wt) (hins : Cond.instantiable Cn N ∈ wt) (hini : Cond.initialized Cn ∈ wt) (hn1 : n + 1 ≤ n1) (hn2 : n < 274) (ho : z_ord n = a) (hc : z_dk a = (ci, 0)) (hz : ∀ k, M a k = 0) (hd : decode cc pc = .ok (.new idx, 3)) (hq : pc + 3 = q) (kk : zV X q L (.inr a :: S) (n + 1) M) : zV X pc L S n M := by
  obtain ⟨⟨p, l, e, R, s, m, args, below, meth, c⟩, Q, base, n0, D, c3⟩ := X
  obtain ⟨hx0, hb, hml, hown, hts, hK, -, hlk, hbs, hfr, hlo, hce, hsl⟩ := C
  obtain ⟨g1, g2, g3, g4, g5, g6⟩ := hcl
  subst hq; subst ho
  intro h0 hn oL oS oM ls H locs hl hP hS
  have hal : z_al (n + 1) (z_ord n) := ⟨by rw [z_idx_ord n hn2], by rw [z_idx_ord n hn2]; omega⟩
  have hszn : z_sz (z_ord n) = N := by unfold z_sz; rw [hc, if_pos g2]; exact g6
  have hm := z_sl_mono (show n + 1 ≤ n1 from hn1)
  have hm0 := z_sl_mono h0
  have hsu : z_sl (n + 1) = z_sl n + N := by show z_sl n + z_sz (z_ord n) = _; rw [hszn]
  refine va_new (fs := z_rendO base ci (M (z_ord n))) (T := T) (N := N) (ci := ci) hx0 hb hts g3 ty g4 hown (hts _ hlink) (hts _ hins) (hts _ hini) hK hP z_ws_D hS (fun q h => by omega) g1 (fun j hj => ?_) (by omega) (by omega) hd (fun q H1 hP1 hD1 hS1 => ?_)
  · rw [hdef j hj]
    unfold vp_V
    have hj2 : j < (z_fk ci).length := by omega
    have e1 : (z_fk ci)[j]? = some ((z_fk ci).getD j 0) := by
      rw [List.getD_eq_getElem?_getD, List.getElem?_eq_getElem hj2]
      rfl
    rw [show (z_rendO base ci (M (z_ord n))).getD j Value.null = z_fld base ((z_fk ci).getD j 0) 0 from by rw [List.getD_eq_getElem?_getD (l := z_rendO base ci (M (z_ord n))), z_rendO_at e1, hz]; rfl]
    unfold z_fld
    by_cases h : (z_fk ci).getD j 0 = 0
    · rw [if_pos h, if_pos h]; rfl
    · rw [if_neg h, if_neg h]; rfl
  · intro T1 hT1 St1
    rw [show n - n0 + 1 = n + 1 - n0 by omega, show z_sl n - z_sl n0 + N = z_sl (n + 1) - z_sl n0 by omega] at St1
    have hqq := z_newad h0 hbs hT1 hP1 hD1 rfl St1
    subst hqq
    rw [show Sum.inr (ci, z_rendO base ci (M (z_ord n))) = z_rend base c3 (z_dk (z_ord n)) (M (z_ord n)) by rw [hc, z_rend_o g2], z_ws_succ] at hP1
    have h2 := kk (by omega) (by omega) oL (List.forall_mem_cons.mpr ⟨trivial, oS⟩) oM ls H1 locs hl hP1 hS1
    rw [List.map_cons, z_val_ref (by omega) hal, z_idx_ord n hn2] at h2
    exact h2 T1 hT1 St1
theorem v_newarray (C : zC X cc own nL rt fr lo n1) {len : Nat} {a x : Int} (hw : Cond.arrayClass .int ∈ wt) (hn1 : n + 1 ≤ n1) (hn2 : n < 274) (ho : z_ord n = a) (hc : z_dk a = (13, len)) (hx : x = (len : Int)) (hlen : len ≤ 100000) (hz : ∀ k, M a k = 0) (hd : decode cc pc = .ok (.newarray .int, 2)) (hq : pc + 2 = q) (kk : zV X q L (.inr a :: S) (n + 1) M) : zV X pc L (.inl x :: S) n M := by
  obtain ⟨⟨p, l, e, R, s, m, args, below, meth, c⟩, Q, base, n0, D, c3⟩ := X
  obtain ⟨hx0, hb, hml, hown, hts, hK, -, hlk, hbs, hfr, hlo, hce, hsl⟩ := C
  subst hq; subst ho; subst hx
  intro h0 hn oL oS oM ls H locs hl hP hS
  have hal : z_al (n + 1) (z_ord n) := ⟨by rw [z_idx_ord n hn2], by rw [z_idx_ord n hn2]; omega⟩
  have hszn : z_sz (z_ord n) = len := by unfold z_sz; rw [hc, if_neg (show ¬ (13 : Nat) < 13 by decide)]
  have hm := z_sl_mono (show n + 1 ≤ n1 from hn1)
  have hm0 := z_sl_mono h0
  have hsu : z_sl (n + 1) = z_sl n + len := by show z_sl n + z_sz (z_ord n) = _; rw [hszn]
  have hzi : zin (len : Int) := ⟨by omega, by omega⟩
  refine va_newa (atype := .int) (ty := .int) (N' := len) (a0 := (len, .inl (fun j => Int32.ofInt (M (z_ord n) (j : Int))))) hx0 hb (hts _ hw) rfl hK hP z_ws_D hS (fun q h => by omega) (fun cA => ?_) (fun h => ?_) (by rw [z_clamp hzi]; omega) (by show len * 4 ≤ _; omega) (by omega) (by omega) hd (fun q cA H1 hK1 hP1 hD1 hS1 => ?_)
  · rw [vp_cell_i]
    congr 1
    funext j
    rw [hz]
    rfl
  · have := (z_lt hzi (show zin 0 from ⟨by decide, by decide⟩)).mp h
    omega
  · have hcA : cA = c3.1 := by
      have e1 := (hK1.2 3 (cA, .int) rfl).2
      have e2 := (hK.2 0 (c3.1, .int) rfl).2
      exact Option.some.inj (e1.symm.trans e2)
    subst hcA
    intro T1 hT1 St1
    rw [show n - n0 + 1 = n + 1 - n0 by omega, show z_sl n - z_sl n0 + len = z_sl (n + 1) - z_sl n0 by omega] at St1
    have hqq := z_newad h0 hbs hT1 hP1 hD1 rfl St1
    subst hqq
    rw [show Sum.inl (c3.1, len, Sum.inl (fun j : Nat => Int32.ofInt (M (z_ord n) (j : Int)))) = z_rend base c3 (z_dk (z_ord n)) (M (z_ord n)) by rw [hc, z_rend_i], z_ws_succ] at hP1
    have h2 := kk (by omega) (by omega) oL (List.forall_mem_cons.mpr ⟨trivial, fun v hv => oS v (List.mem_cons_of_mem _ hv)⟩) oM ls H1 locs hl hP1 hS1
    rw [List.map_cons, z_val_ref (by omega) hal, z_idx_ord n hn2] at h2
    exact h2 T1 hT1 St1
theorem v_anewarray (C : zC X cc own nL rt fr lo n1) {kd len idx : Nat} {a x : Int} {Cn : String} (hkd : kd = 14 ∨ kd = 15) (hCn : Cn = (if kd = 14 then RX10 else RX0)) (hlink : Cond.classLink own idx Cn ∈ wt) (hn1 : n + 1 ≤ n1) (hn2 : n < 274) (ho : z_ord n = a) (hc : z_dk a = (kd, len)) (hx : x = (len : Int)) (hlen : len ≤ 100000) (hz : ∀ k, M a k = 0) (hd : decode cc pc = .ok (.anewarray idx, 3)) (hq : pc + 3 = q) (kk : zV X q L (.inr a :: S) (n + 1) M) : zV X pc L (.inl x :: S) n M := by
  obtain ⟨⟨p, l, e, R, s, m, args, below, meth, c⟩, Q, base, n0, D, c3⟩ := X
  obtain ⟨hx0, hb, hml, hown, hts, hK, -, hlk, hbs, hfr, hlo, hce, hsl⟩ := C
  subst hq; subst ho; subst hx
  intro h0 hn oL oS oM ls H locs hl hP hS
  obtain ⟨t0, cA0, Cn0, hty, hre, hCn0⟩ := z_tkind (c3 := c3) hkd
  have hao : va_AO Cn s := by
    rw [hCn]
    rcases hkd with rfl | rfl
    · exact hlk.2.1
    · exact hlk.2.2
  have eCn : Cn0 = Cn := by rw [hCn, hCn0]
  subst eCn
  have hal : z_al (n + 1) (z_ord n) := ⟨by rw [z_idx_ord n hn2], by rw [z_idx_ord n hn2]; omega⟩
  have hszn : z_sz (z_ord n) = len := by unfold z_sz; rw [hc, if_neg (show ¬ kd < 13 by omega)]
  have hm := z_sl_mono (show n + 1 ≤ n1 from hn1)
  have hm0 := z_sl_mono h0
  have hsu : z_sl (n + 1) = z_sl n + len := by show z_sl n + z_sz (z_ord n) = _; rw [hszn]
  have hzi : zin (len : Int) := ⟨by omega, by omega⟩
  refine va_newq (N' := len) hx0 hb hown (hts _ hlink) hao hK hP z_ws_D hS (fun q h => by omega) (fun h => ?_) (by rw [z_clamp hzi]; omega) (by omega) (by omega) (by omega) hd (fun q cA H1 hK1 hP1 hD1 hS1 => ?_)
  · have := (z_lt hzi (show zin 0 from ⟨by decide, by decide⟩)).mp h
    omega
  · have hcA : cA = cA0 := by
      obtain ⟨_, _, _, _, _, e1⟩ := (hK1.2 3 (cA, .object Cn0) rfl).2
      obtain ⟨_, _, _, _, _, e2⟩ := (hK.2 t0 (cA0, .object Cn0) hty).2
      exact Option.some.inj (e1.symm.trans e2)
    subst hcA
    intro T1 hT1 St1
    rw [show n - n0 + 1 = n + 1 - n0 by omega, show z_sl n - z_sl n0 + len = z_sl (n + 1) - z_sl n0 by omega] at St1
    have hqq := z_newad h0 hbs hT1 hP1 hD1 rfl St1
    subst hqq
    have efn : (fun j : Nat => z_rf base (M (z_ord n) (j : Int))) = (fun _ => none) := by funext j; rw [hz]; rfl
    rw [show Sum.inl (cA, len, Sum.inr (Sum.inr (Sum.inr (Sum.inr (fun _ : Nat => (none : Option Nat)))))) = z_rend base c3 (z_dk (z_ord n)) (M (z_ord n)) by rw [hc, hre, efn], z_ws_succ] at hP1
    have h2 := kk (by omega) (by omega) oL (List.forall_mem_cons.mpr ⟨trivial, fun v hv => oS v (List.mem_cons_of_mem _ hv)⟩) oM ls H1 locs hl hP1 hS1
    rw [List.map_cons, z_val_ref (by omega) hal, z_idx_ord n hn2] at h2
    exact h2 T1 hT1 St1
theorem v_putF (C : zC X cc own nL rt fr lo n1) {a b : Int} {ci idx k N : Nat} {Cn : String} {T : u_T} {ty : Nat → FieldType} {y : MethodName} (hI : zI X y) (hyi : y.name = "<init>") (hcl : zCl ci Cn T N ty) (ha : z_al n a) (hc : z_dk a = (ci, 0)) (hkd : (z_fk ci)[k]? = some 1) (hty : (∃ nm, ty k = .object nm) ∨ ∃ t, ty k = .array t) (hfin : (T k).2.2.2 = true) (hdecl : (T k).1 = own) (hlink : Cond.fieldLink own idx (T k).1 (T k).2.1 (T k).2.2.1 ∈ wt) (hzb : zin b) (hd : decode cc pc = .ok (.putfield idx, 3)) (hq : pc + 3 = q) (kk : zV X q L S n (z_upd M a (k : Int) b)) : zV X pc L (.inr b :: .inr a :: S) n M := by
  obtain ⟨⟨p, l, e, R, s, m, args, below, meth, c⟩, Q, base, n0, D, c3⟩ := X
  obtain ⟨hx0, hb, hml, hown, hts, hK, -, hlk, hbs, hfr, hlo, hce, hsl⟩ := C
  obtain ⟨g1, g2, g3, g4, g5, g6⟩ := hcl
  subst hq
  intro h0 hn oL oS oM ls H locs hl hP hS
  have e0 := z_ws_id (base := base) (c3 := c3) (M := M) ha
  rw [hc, z_rend_o g2] at e0
  rw [List.map_cons, List.map_cons, z_val_ref hn ha]
  have hk : k < N := by rw [← g6]; exact (List.getElem?_eq_some_iff.mp hkd).1
  have oM' : ∀ b' i, zin (z_upd M a (k : Int) b b' i) := z_upd_ok oM hzb
  have hkl : k < (z_rendO base ci (M a)).length := by unfold z_rendO; rw [List.length_mapIdx]; exact (List.getElem?_eq_some_iff.mp hkd).1
  have hnf : narrow (ty k) (z_val base (.inr b)) = z_val base (.inr b) ∧ fits (ty k) (z_val base (.inr b)) = true := by
    show narrow (ty k) (va_rf (z_rf base b)) = va_rf (z_rf base b) ∧ fits (ty k) (va_rf (z_rf base b)) = true
    rcases hty with ⟨nm, h⟩ | ⟨t, h⟩ <;> rw [h] <;> cases z_rf base b <;> exact ⟨rfl, rfl⟩
  refine va_putF hx0 hb hts g3 ty g4 g5 hown hK hP z_ws_D hS (z_idx a) e0 g1 k hk (hts _ hlink) (fun _ h => h) hfin (hI.trans hyi) hdecl (g4 k hk) hnf.1 hnf.2 hkl hd (fun H1 locs1 hP1 hD1 hS1 => ?_)
  have e2 : (z_ws base c3 n M).set (z_idx a) (base + z_idx a, .inr (ci, (z_rendO base ci (M a)).set k (z_val base (.inr b)))) = z_ws base c3 n (z_upd M a (k : Int) b) := by
    rw [z_upd_eq, ← z_ws_set hn ha, hc, z_rend_o g2, ← z_rendO_set (base := base) (x := b) hkd]
    rfl
  rw [e2] at hP1
  exact kk h0 hn oL (fun v hv => oS v (List.mem_cons_of_mem _ (List.mem_cons_of_mem _ hv))) oM' ls H1 locs1 hl hP1 hS1
theorem v_objInit (C : zC X cc own nL rt fr lo n1) {idx : Nat} {a : Int} (hlink : Cond.methodLink own idx objectInit ∈ wt) (hi : Cond.instanceMethod objectInit ∈ wt) (hcd : Cond.code objectInit ⟨#[0xb1]⟩ 1 none ∈ wt) (ha : z_al n a) (hfr1 : 1 ≤ fr) (hlo1 : S.length + 12 ≤ lo) (hd : decode cc pc = .ok (.invokespecial idx, 3)) (hq : pc + 3 = q) (kk : zV X q L S n M) : zV X pc L (.inr a :: S) n M := by
  obtain ⟨⟨p, l, e, R, s, m, args, below, meth, c⟩, Q, base, n0, D, c3⟩ := X
  obtain ⟨hx0, hb, hml, hown, hts, hK, -, hlk, hbs, hfr, hlo, hce, hsl⟩ := C
  subst hq
  intro h0 hn oL oS oM ls H locs hl hP hS
  rw [List.map_cons, z_val_ref hn ha]
  exact W.objInit (g := F0 m pc ls (.ref (base + z_idx a) :: S.map (z_val base))) hx0 hb hown (hts _ hlink) (hts _ hi) (hts _ hcd) rfl hl.1 rfl hd (by omega) (by show 2 * 0 + _ + 12 ≤ _; rw [z_cats]; omega) (kk h0 hn oL (fun v hv => oS v (List.mem_cons_of_mem _ hv)) oM ls H locs hl hP hS)
end KA
