def z_cpy (M : ZM) (a0 sp a1 dp k : Int) : ZM := fun b j => if b = a1 ∧ dp ≤ j ∧ j < dp + k then M a0 (sp + (j - dp)) else M b j
/-! the table's words -/
theorem z_allin {ws : List Cond} (h : ws.all (fun w => decide (w ∈ tables_1) && goodWord w) = true) : ∀ w ∈ ws, w ∈ wt := fun w hw => by
  have h1 := List.all_eq_true.mp h w hw
  simp only [Bool.and_eq_true, decide_eq_true_eq] at h1
  exact wt_tbl h1.1 h1.2
theorem w_sys : ∀ w ∈ ([Cond.native arraycopyName, Cond.static arraycopyName, Cond.initialized "java/lang/System", Cond.initialized "java/lang/Math", Cond.static Lib.Math.max.name, Cond.static Lib.Math.min.name] : List Cond), w ∈ wt := z_allin (by decide +kernel)
theorem z_sl_mono {a b : Nat} (h : a ≤ b) : z_sl a ≤ z_sl b := by
  induction b with
  | zero => rw [show a = 0 by omega]; exact Nat.le_refl _
  | succ b ih =>
    by_cases e : a = b + 1
    · rw [e]; exact Nat.le_refl _
    · exact Nat.le_trans (ih (by omega)) (Nat.le_add_right _ _)
section VE
variable {X : ZX} {cc : ByteArray} {own : String} {nL : Nat} {rt : Option FieldType} {fr lo n1 : Nat} {pc q : Nat} {L : List (Option ZV)} {S : List ZV} {n : Nat} {M : ZM}
theorem z_cats (base : Nat) (S : List ZV) : ((S.map (z_val base)).map fun v => v.category).sum = S.length := by
  induction S with
  | nil => rfl
  | cons v S ih =>
    rw [List.map_cons, List.map_cons, List.sum_cons, ih, z_cat, List.length_cons]
    omega
theorem v_acopy (C : zC X cc own nL rt fr lo n1) {a0 a1 sp dp k : Int} {idx len0 len1 : Nat} (hl0 : z_al n a0) (hc0 : z_dk a0 = (13, len0)) (hl1 : z_al n a1) (hc1 : z_dk a1 = (13, len1)) (hlink : Cond.methodLink own idx arraycopyName ∈ wt) (hr : 0 ≤ sp ∧ 0 ≤ dp ∧ 0 ≤ k ∧ sp + k ≤ (len0 : Int) ∧ dp + k ≤ (len1 : Int)) (hfr1 : 1 ≤ fr) (hlo1 : S.length + (nativeFrameWords "java/lang/System" "arraycopy" 5 + 11) ≤ lo) (hd : decode cc pc = .ok (.invokestatic idx, 3)) (hq : pc + 3 = q) (kk : zV X q L S n (z_cpy M a0 sp a1 dp k)) : zV X pc L (.inl k :: .inl dp :: .inr a1 :: .inl sp :: .inr a0 :: S) n M := by
  obtain ⟨⟨p, l, e, R, s, m, args, below, meth, c⟩, Q, base, n0, D, c3⟩ := X
  obtain ⟨hx0, hb, hml, hown, hts, hK, -, hlk, hbs, hfr, hlo, hce, hsl⟩ := C
  subst hq
  intro h0 hn oL oS oM ls H locs hl hP hS
  have e0 := z_ws_id (base := base) (c3 := c3) (M := M) hl0
  rw [hc0, z_rend_i] at e0
  have e1 := z_ws_id (base := base) (c3 := c3) (M := M) hl1
  rw [hc1, z_rend_i] at e1
  have oM' : ∀ b j, zin (z_cpy M a0 sp a1 dp k b j) := by
    intro b j
    unfold z_cpy
    by_cases h : b = a1 ∧ dp ≤ j ∧ j < dp + k
    · rw [if_pos h]; exact oM _ _
    · rw [if_neg h]; exact oM b j
  have hsp : zin sp := oS (.inl sp) (by simp)
  have hdp : zin dp := oS (.inl dp) (by simp)
  have hkk : zin k := oS (.inl k) (by simp)
  have hz0 : zin 0 := ⟨by decide, by decide⟩
  rw [List.map_cons, List.map_cons, List.map_cons, List.map_cons, List.map_cons, z_val_ref hn hl0, z_val_ref hn hl1]
  have nneg : ∀ {x : Int}, zin x → 0 ≤ x → ¬ Int32.ofInt x < 0 := fun {x} hx h9 h8 => by
    have := (z_lt hx hz0).mp h8
    omega
  refine va_copyi hx0 hb hl.1.symm hown (hts _ hlink) (hts _ (w_sys _ (by decide))) (hts _ (w_sys _ (by decide))) (hts _ (w_sys _ (by decide))) hK hP z_ws_D hS (z_idx a0) (z_idx a1) 0 0 e0 e1 rfl rfl rfl (nneg hsp hr.1) (nneg hdp hr.2.1) (nneg hkk hr.2.2.1) (by rw [z_clamp hsp, z_clamp hkk]; omega) (by rw [z_clamp hdp, z_clamp hkk]; omega) (fun i hi => rfl) (by omega) (by rw [z_cats]; omega) hd (fun H1 locs1 hP1 hD1 hS1 => ?_)
  have e2 : (z_ws base c3 n M).set (z_idx a1) (base + z_idx a1, .inl (c3.1, len1, .inl (va_cpy (fun j : Nat => Int32.ofInt (M a0 (j : Int))) (fun j : Nat => Int32.ofInt (M a1 (j : Int))) (Int32.ofInt sp).toNatClampNeg (Int32.ofInt dp).toNatClampNeg (Int32.ofInt k).toNatClampNeg))) = z_ws base c3 n (z_cpy M a0 sp a1 dp k) := by
    have e4 : z_cpy M a0 sp a1 dp k = z_setc M a1 (fun j => if dp ≤ j ∧ j < dp + k then M a0 (sp + (j - dp)) else M a1 j) := by
      funext b j
      unfold z_cpy z_setc
      by_cases h : b = a1
      · subst h; simp
      · simp [h]
    rw [e4, ← z_ws_set hn hl1, hc1, z_rend_i]
    have e3 : va_cpy (fun j : Nat => Int32.ofInt (M a0 (j : Int))) (fun j : Nat => Int32.ofInt (M a1 (j : Int))) (Int32.ofInt sp).toNatClampNeg (Int32.ofInt dp).toNatClampNeg (Int32.ofInt k).toNatClampNeg = (fun j : Nat => Int32.ofInt (if dp ≤ (j : Int) ∧ (j : Int) < dp + k then M a0 (sp + ((j : Int) - dp)) else M a1 (j : Int))) := by
      funext j
      rw [z_clamp hsp, z_clamp hdp, z_clamp hkk]
      by_cases h : dp ≤ (j : Int) ∧ (j : Int) < dp + k
      · rw [if_pos h, pk_cpy_in (by omega) (by omega), show ((sp.toNat + (j - dp.toNat) : Nat) : Int) = sp + ((j : Int) - dp) by omega]
      · rw [if_neg h, pk_cpy_out (by omega)]
    rw [e3]
  rw [e2] at hP1
  exact kk h0 hn oL (fun v hv => oS v (by simp [hv])) oM' ls H1 locs1 hl hP1 hS1
theorem z_max {x y : Int} (hx : zin x) (hy : zin y) : (if Int32.ofInt x < Int32.ofInt y then Int32.ofInt y else Int32.ofInt x) = Int32.ofInt (max x y) := by
  by_cases h : x < y
  · rw [if_pos ((z_lt hx hy).mpr h), Int.max_eq_right (by omega)]
  · rw [if_neg (fun q => h ((z_lt hx hy).mp q)), Int.max_eq_left (by omega)]
theorem z_min {x y : Int} (hx : zin x) (hy : zin y) : (if Int32.ofInt y < Int32.ofInt x then Int32.ofInt y else Int32.ofInt x) = Int32.ofInt (min x y) := by
  by_cases h : y < x
  · rw [if_pos ((z_lt hy hx).mpr h), Int.min_eq_right (by omega)]
  · rw [if_neg (fun q => h ((z_lt hy hx).mp q)), Int.min_eq_left (by omega)]
theorem w_max : Cond.code Lib.Math.max.name Lib.Math.max.code 2 (some .int) ∈ wt := wt_tbl (List.mem_of_getElem? (i := 542) (by decide +kernel)) (by decide +kernel)
theorem w_min : Cond.code Lib.Math.min.name Lib.Math.min.code 2 (some .int) ∈ wt := wt_tbl (List.mem_of_getElem? (i := 664) (by decide +kernel)) (by decide +kernel)
theorem v_max (C : zC X cc own nL rt fr lo n1) {x y : Int} {idx : Nat} (hlink : Cond.methodLink own idx Lib.Math.max.name ∈ wt) (hfr1 : 1 ≤ fr) (hlo1 : S.length + 13 ≤ lo) (hn1 : n ≤ n1) (hd : decode cc pc = .ok (.invokestatic idx, 3)) (hq : pc + 3 = q) (kk : zV X q L (.inl (max x y) :: S) n M) : zV X pc L (.inl y :: .inl x :: S) n M := by
  obtain ⟨⟨p, l, e, R, s, m, args, below, meth, c⟩, Q, base, n0, D, c3⟩ := X
  obtain ⟨hx0, hb, hml, hown, hts, hK, -, hlk, hbs, hfr, hlo, hce, hsl⟩ := C
  subst hq
  intro h0 hn oL oS oM ls H locs hl hP hS
  have hx : zin x := oS (.inl x) (by simp)
  have hy : zin y := oS (.inl y) (by simp)
  have h2 := kk h0 hn oL (List.forall_mem_cons.mpr ⟨⟨by omega, by omega⟩, fun v hv => oS v (List.mem_cons_of_mem _ (List.mem_cons_of_mem _ hv))⟩) oM ls H locs hl hP hS
  rw [List.map_cons, show z_val base (.inl (max x y)) = .int (if Int32.ofInt x < Int32.ofInt y then Int32.ofInt y else Int32.ofInt x) from congrArg Value.int (z_max hx hy).symm] at h2
  exact va_mmax hx0 hb hl.1.symm hown (hts _ hlink) (hts _ (w_sys _ (by decide))) (hts _ (w_sys _ (by decide))) (hts _ w_max) (by omega) (by rw [z_cats]; omega) (by omega) (Nat.le_trans (Nat.sub_le_sub_right (z_sl_mono hn1) _) hsl) hd h2
theorem v_min (C : zC X cc own nL rt fr lo n1) {x y : Int} {idx : Nat} (hlink : Cond.methodLink own idx Lib.Math.min.name ∈ wt) (hfr1 : 1 ≤ fr) (hlo1 : S.length + 13 ≤ lo) (hn1 : n ≤ n1) (hd : decode cc pc = .ok (.invokestatic idx, 3)) (hq : pc + 3 = q) (kk : zV X q L (.inl (min x y) :: S) n M) : zV X pc L (.inl y :: .inl x :: S) n M := by
  obtain ⟨⟨p, l, e, R, s, m, args, below, meth, c⟩, Q, base, n0, D, c3⟩ := X
  obtain ⟨hx0, hb, hml, hown, hts, hK, -, hlk, hbs, hfr, hlo, hce, hsl⟩ := C
  subst hq
  intro h0 hn oL oS oM ls H locs hl hP hS
  have hx : zin x := oS (.inl x) (by simp)
  have hy : zin y := oS (.inl y) (by simp)
  have h2 := kk h0 hn oL (List.forall_mem_cons.mpr ⟨⟨by omega, by omega⟩, fun v hv => oS v (List.mem_cons_of_mem _ (List.mem_cons_of_mem _ hv))⟩) oM ls H locs hl hP hS
  rw [List.map_cons, show z_val base (.inl (min x y)) = .int (if Int32.ofInt y < Int32.ofInt x then Int32.ofInt y else Int32.ofInt x) from congrArg Value.int (z_min hx hy).symm] at h2
  exact va_mmin hx0 hb hl.1.symm hown (hts _ hlink) (hts _ (w_sys _ (by decide))) (hts _ (w_sys _ (by decide))) (hts _ w_min) (by omega) (by rw [z_cats]; omega) (by omega) (Nat.le_trans (Nat.sub_le_sub_right (z_sl_mono hn1) _) hsl) hd h2
/-! contracts -/
def zW (D : va_G) (base : Nat) (c3 : Z3) (n : Nat) (M : ZM) (U : State) : Prop := va_P D vwCl (z_ws base c3 n M) U.heap ∧ va_K D vwCl (z_tys c3) U
def zPre (D : va_G) (base : Nat) (c3 : Z3) (n : Nat) (M : ZM) (As : List ZV) : Array Value → State → Prop := va_Pc (As.map (z_val base)) (fun U => zW D base c3 n M U ∧ U.heap.size = base + n ∧ zN U)
def zQ (D : va_G) (base : Nat) (c3 : Z3) (n1 : Nat) (K : Option ZV → ZM → Prop) : Array Value → State → Outcome → State → Prop := fun _ st oc t => (∃ (rv : Option ZV) (M : ZM), oc = .returned (rv.map (z_val base)) ∧ (∀ v, rv = some v → z_ok v) ∧ (∀ a i, zin (M a i)) ∧ K rv M ∧ zW D base c3 n1 M t) ∧ va_F (fun q => base ≤ q) st t
def zMet (y : MethodName) (b : ByteArray) (nL : Nat) (rt : Option FieldType) (fr lo : Nat) (As : List ZV) (n n1 : Nat) (M : ZM) (K : Option ZV → ZM → Prop) : Prop :=
  ∀ (l : Launch) (D : va_G) (base : Nat) (c3 : Z3), (∀ v ∈ As, z_ok v) → (∀ a i, zin (M a i)) → Met l y (.code y b nL rt :: wt) { frames := fr, cells := n1 - n, slots := z_sl n1 - z_sl n, locals := lo } (zPre D base c3 n M As) (zQ D base c3 n1 K) (n1 - n) (z_sl n1 - z_sl n) (fun q => base ≤ q)
theorem zPre_blind {D : va_G} {base : Nat} {c3 : Z3} {As : List ZV} : FrameBlind (zPre D base c3 n M As) := by
  intro a U g mk h
  obtain ⟨h1, ⟨h2, h3⟩, h4, h5⟩ := h
  exact ⟨h1, ⟨h2, va_K.moved (u := U) (U := U.calling g mk a) (Vm.Alike.refl U.vm) h3⟩, h4, h5.same rfl⟩
/-- the heap's size, at any time of the walk -/
theorem z_size {p : Program} {l : Launch} {e : Env} {R : Room} {s : State} {m : MethodId} {args : Array Value} {below : List Frame} {meth : Method} {c : Code} {T : State} {locs locs' : List Loc} {slots base n0 : Nat} {D : va_G} {c3 : Z3} (h0 : n0 ≤ n) (hbs : s.heap.size = base + n0) (hP : va_P D vwCl (z_ws base c3 n M) T.heap) (hS : va_S (fun q => base ≤ q) s.heap T.heap locs') (St : Stand p l e R s m args below meth c T locs (n - n0) slots) : T.heap.size = base + n := by
  have h1 := St.heapSize
  have h2 := hS.1
  by_cases h : n = n0
  · omega
  · have h3 := (hP (n - 1) _ (z_ws_at (by omega))).lt
    dsimp only at h3
    omega
end VE
