/-! ===== zV: an abstract W. Memory: id → index → Int (ZM); values: ints in range, references by id (0: null). ===== -/
def z_upd (M : ZM) (a i v : Int) : ZM := fun b j => if b = a ∧ j = i then v else M b j
def z_setc (M : ZM) (a : Int) (f : Int → Int) : ZM := fun b => if b = a then f else M b
theorem z_upd_eq (M : ZM) (a i v : Int) : z_upd M a i v = z_setc M a (fun j => if j = i then v else M a j) := by
  funext b j
  unfold z_upd z_setc
  by_cases h : b = a
  · subst h; simp
  · simp [h]
/-- a reference: 0 null; a negative number: that far below the world (the law's script); else a cell of the world -/
def z_rf (base : Nat) (a : Int) : Option Nat := if a = 0 then none else some (if a < 0 then base - a.natAbs else base + z_idx a)
def z_val (base : Nat) : ZV → Value
  | .inl x => .int (Int32.ofInt x)
  | .inr a => va_rf (z_rf base a)
def z_ok : ZV → Prop
  | .inl x => zin x
  | .inr _ => True
abbrev Z3 : Type := ClassId × ClassId × ClassId
def z_fld (base : Nat) (kd : Nat) (x : Int) : Value := if kd = 0 then .int (Int32.ofInt x) else va_rf (z_rf base x)
def z_rendO (base ci : Nat) (f : Int → Int) : List Value := (z_fk ci).mapIdx (fun k kd => z_fld base kd (f (k : Int)))
def z_rend (base : Nat) (c3 : Z3) (d : Nat × Nat) (f : Int → Int) : va_E :=
  if d.1 < 13 then .inr (d.1, z_rendO base d.1 f) else if d.1 = 13 then .inl (c3.1, d.2, .inl (fun j => Int32.ofInt (f (j : Int)))) else .inl (if d.1 = 14 then c3.2.1 else c3.2.2, d.2, .inr (.inr (.inr (.inr (fun j => z_rf base (f (j : Int)))))))
def z_ws (base : Nat) (c3 : Z3) (n : Nat) (M : ZM) : va_W := (List.range n).map (fun k => (base + k, z_rend base c3 (z_dk (z_ord k)) (M (z_ord k))))
def z_tys (c3 : Z3) : List (ClassId × FieldType) := [(c3.1, .int), (c3.2.1, .object "SteeredClaims$Term"), (c3.2.2, .object "SteeredClaims$Claim")]
theorem z_ws_at {base : Nat} {c3 : Z3} {n : Nat} {M : ZM} {k : Nat} (h : k < n) : (z_ws base c3 n M)[k]? = some (base + k, z_rend base c3 (z_dk (z_ord k)) (M (z_ord k))) := by
  unfold z_ws
  rw [List.getElem?_map, List.getElem?_range h]
  rfl
theorem z_ws_key {base : Nat} {c3 : Z3} {n : Nat} {M : ZM} {k : Nat} {q : Nat × va_E} (hk : (z_ws base c3 n M)[k]? = some q) : k < n ∧ q = (base + k, z_rend base c3 (z_dk (z_ord k)) (M (z_ord k))) := by
  by_cases h : k < n
  · rw [z_ws_at h] at hk
    exact ⟨h, (Option.some.inj hk).symm⟩
  · unfold z_ws at hk
    rw [List.getElem?_map, List.getElem?_eq_none (by rw [List.length_range]; omega)] at hk
    cases hk
theorem z_ws_id {base : Nat} {c3 : Z3} {n : Nat} {M : ZM} {a : Int} (h : z_al n a) : (z_ws base c3 n M)[z_idx a]? = some (base + z_idx a, z_rend base c3 (z_dk a) (M a)) := by
  have q := z_ws_at (base := base) (c3 := c3) (M := M) h.2
  rw [h.1] at q
  exact q
theorem z_ws_D {base : Nat} {c3 : Z3} {n : Nat} {M : ZM} : va_D (fun q => base ≤ q) (z_ws base c3 n M) := by
  refine ⟨fun i j p q hi hj e => ?_, fun k q hk => ?_⟩
  · obtain ⟨-, rfl⟩ := z_ws_key hi
    obtain ⟨-, rfl⟩ := z_ws_key hj
    dsimp only at e
    omega
  · obtain ⟨-, rfl⟩ := z_ws_key hk
    dsimp only
    omega
theorem z_ws_set {base : Nat} {c3 : Z3} {n : Nat} {M : ZM} {a : Int} {f : Int → Int} (hn : n ≤ 274) (h : z_al n a) : (z_ws base c3 n M).set (z_idx a) (base + z_idx a, z_rend base c3 (z_dk a) f) = z_ws base c3 n (z_setc M a f) := by
  apply List.ext_getElem?
  intro k
  by_cases hk : k < n
  · by_cases e : k = z_idx a
    · subst e
      rw [List.getElem?_set_self (by unfold z_ws; simpa using hk), z_ws_at hk, h.1]
      simp [z_setc]
    · rw [List.getElem?_set_ne (Ne.symm e), z_ws_at hk, z_ws_at hk]
      have ne : z_ord k ≠ a := fun q => e (by rw [← q, z_idx_ord k (by omega)])
      simp [z_setc, ne]
  · rw [List.getElem?_eq_none (by simp [z_ws]; omega), List.getElem?_eq_none (by simp [z_ws]; omega)]
theorem z_al_pos {n : Nat} {a : Int} (hn : n ≤ 274) (h : z_al n a) : 0 < a := by
  rw [← h.1]
  exact z_ord_pos _ (Nat.lt_of_lt_of_le h.2 hn)
theorem z_al_rf {base n : Nat} {a : Int} (hn : n ≤ 274) (h : z_al n a) : z_rf base a = some (base + z_idx a) := by
  have := z_al_pos hn h
  unfold z_rf
  rw [if_neg (show ¬ a = 0 by omega), if_neg (show ¬ a < 0 by omega)]
theorem z_val_ref {base : Nat} {n : Nat} {a : Int} (hn : n ≤ 274) (h : z_al n a) : z_val base (.inr a) = .ref (base + z_idx a) := by
  show va_rf (z_rf base a) = _
  rw [z_al_rf hn h]
  rfl
/-! numbers -/
theorem z_toInt {x : Int} (h : zin x) : (Int32.ofInt x).toInt = x := Int32.toInt_ofInt_of_le (by omega) (by omega)
theorem z_lt {x y : Int} (hx : zin x) (hy : zin y) : Int32.ofInt x < Int32.ofInt y ↔ x < y := by rw [Int32.lt_iff_toInt_lt, z_toInt hx, z_toInt hy]
theorem z_le {x y : Int} (hx : zin x) (hy : zin y) : Int32.ofInt x ≤ Int32.ofInt y ↔ x ≤ y := by rw [Int32.le_iff_toInt_le, z_toInt hx, z_toInt hy]
theorem z_eq {x y : Int} (hx : zin x) (hy : zin y) : Int32.ofInt x = Int32.ofInt y ↔ x = y := by rw [← Int32.toInt_inj, z_toInt hx, z_toInt hy]
theorem z_clamp {x : Int} (h : zin x) : (Int32.ofInt x).toNatClampNeg = x.toNat := Int32.toNatClampNeg_ofInt_of_le (by omega) (by omega)
theorem z_vin {x : Int} {n : Nat} (hx : zin x) (h : 0 ≤ x ∧ x < (n : Int)) : vp_in (Int32.ofInt x) n := vp_in_iff.mpr (by rw [z_toInt hx]; exact h)
/-! the locals -/
def zL (base : Nat) (ls : Array Slot) (nL : Nat) (L : List (Option ZV)) : Prop := ls.size = nL ∧ lv_wf ls ∧ ∀ (i : Nat) (v : ZV), L[i]? = some (some v) → ls[i]? = some (.val (z_val base v))
def z_asc (base : Nat) (L : List (Option ZV)) : List (Nat × Value) := L.zipIdx.filterMap (fun q => q.1.map (fun v => (q.2, z_val base v)))
theorem z_cat (base : Nat) (v : ZV) : (z_val base v).category = 1 := by
  cases v with
  | inl x => rfl
  | inr a =>
    show (va_rf (z_rf base a)).category = 1
    cases z_rf base a <;> rfl
theorem zL.has {base : Nat} {ls : Array Slot} {nL : Nat} {L : List (Option ZV)} (h : zL base ls nL L) : lv_has ls nL (z_asc base L) := by
  refine ⟨h.1, h.2.1, fun q hq => ?_⟩
  obtain ⟨⟨o, i⟩, h1, h2⟩ := List.mem_filterMap.mp hq
  cases o with
  | none => simp at h2
  | some v =>
    simp only [Option.map_some, Option.some.injEq] at h2
    subst h2
    exact h.2.2 i v (List.mk_mem_zipIdx_iff_getElem?.mp h1)
theorem zL.store {base : Nat} {ls' : Array Slot} {nL : Nat} {L : List (Option ZV)} {i : Nat} {v : ZV} (h : lv_has ls' nL ((i, z_val base v) :: (z_asc base L).filter (fun q => !(q.1 == i) && !(q.1 + 1 == i && q.2.category == 2)))) : zL base ls' nL (L.set i (some v)) := by
  refine ⟨h.1, h.2.1, fun j w hj => ?_⟩
  by_cases e : j = i
  · subst e
    have hl : j < L.length := by
      have := (List.getElem?_eq_some_iff.mp hj).1
      simpa using this
    rw [List.getElem?_set_self hl] at hj
    cases hj
    exact h.2.2 (j, z_val base v) List.mem_cons_self
  · rw [List.getElem?_set_ne (Ne.symm e)] at hj
    refine h.2.2 (j, z_val base w) (List.mem_cons_of_mem _ (List.mem_filter.mpr ⟨List.mem_filterMap.mpr ⟨(some w, j), List.mk_mem_zipIdx_iff_getElem?.mpr hj, rfl⟩, ?_⟩))
    simp [e, z_cat]
theorem zL.weaken {base : Nat} {ls : Array Slot} {nL : Nat} {L L' : List (Option ZV)} (h : zL base ls nL L) (hw : ∀ (i : Nat) (v : ZV), L'[i]? = some (some v) → L[i]? = some (some v)) : zL base ls nL L' := ⟨h.1, h.2.1, fun i v hi => h.2.2 i v (hw i v hi)⟩
/-! the context, and zV -/
abbrev ZX : Type := (Program × Launch × Env × Room × State × MethodId × Array Value × List Frame × Method × Code) × ((State → Prop) × Nat × Nat × va_G × Z3)
def wt : List Cond := lw_tbl.filter goodWord
theorem wt_in {w : Cond} (h : w ∈ lw_tbl) (hg : goodWord w = true) : w ∈ wt := List.mem_filter.mpr ⟨h, hg⟩
theorem wt_tbl {w : Cond} (h : w ∈ tables_1) (hg : goodWord w = true) : w ∈ wt := wt_in (List.mem_append_right _ h) hg
theorem wt_good {ws : List Cond} (h : ∀ w ∈ ws, w ∈ wt) : GoodIn wt ws := fun w hw => ⟨h w hw, good_of_word (List.mem_filter.mp (h w hw)).2⟩
/-- links to private members of nest mates: they are kept in the contracts' starts -/
def wn : List (String × Nat × MethodName × String) := [(RX11, 41, yX1_init, "SteeredClaims"), (RX11, 60, yX7_init, "SteeredClaims"), (RX11, 76, yX0_init, "SteeredClaims"), (RX11, 86, yX10_init, "SteeredClaims"), (RX11, 235, yX8_attempt, "SteeredClaims"), (RX0, 11, yX10_init, "SteeredClaims"), (RX3, 27, yX10_init, "SteeredClaims"), (RX4, 19, yX10_init, "SteeredClaims"), (RX4, 32, yX0_init, "SteeredClaims"), (RX8, 25, yX10_init, "SteeredClaims"), (RX8, 54, yX0_init, "SteeredClaims"), (RX9, 25, yX10_init, "SteeredClaims")]
def zN (U : State) : Prop := (∀ q ∈ wn, va_Nw (.methodLinkNest q.1 q.2.1 q.2.2.1 q.2.2.2) U) ∧ va_AO RX10 U ∧ va_AO RX0 U
theorem zN.warm {s U : State} (h : zN s) (hW : s.WarmedH U.vm) : zN U := ⟨fun q hq => (h.1 q hq).warmM hW, h.2.1.moved hW.alike, h.2.2.moved hW.alike⟩
theorem zN.same {u U : State} (h : zN u) (e : u.vm = U.vm) : zN U := ⟨fun q hq => (h.1 q hq).same rfl e, h.2.1.moved (by rw [e]; exact Vm.Alike.refl _), h.2.2.moved (by rw [e]; exact Vm.Alike.refl _)⟩
def zV (X : ZX) (pc : Nat) (L : List (Option ZV)) (S : List ZV) (n : Nat) (M : ZM) : Prop :=
  match X with
  | ((p, l, e, R, s, m, args, below, meth, c), (Q, base, n0, D, c3)) =>
    n0 ≤ n → n ≤ 274 → (∀ v, some v ∈ L → z_ok v) → (∀ v ∈ S, z_ok v) → (∀ a i, zin (M a i)) → ∀ (ls : Array Slot) (H : Heap) (locs : List Loc), zL base ls c.maxLocals L → va_P D vwCl (z_ws base c3 n M) H → va_S (fun q => base ≤ q) s.heap H locs →
      W p l e R s m args below meth c H locs (n - n0) (z_sl n - z_sl n0) Q (F0 m pc ls (S.map (z_val base)))
def zC (X : ZX) (cc : ByteArray) (own : String) (nL : Nat) (rt : Option FieldType) (fr lo n1 : Nat) : Prop :=
  match X with
  | ((p, l, e, R, s, m, args, below, meth, c), (Q, base, n0, D, c3)) =>
    p.tables.exec = Jvm.exec ∧ c.code = cc ∧ c.maxLocals = nL ∧ s.vm.findClass own = some m.cls ∧ (∀ w ∈ wt, w.before args s = true) ∧ va_K D vwCl (z_tys c3) s ∧ meth.sig.returnType = rt ∧ zN s ∧ s.heap.size = base + n0 ∧ fr ≤ R.frames ∧ lo ≤ R.locals ∧ n1 - n0 ≤ R.cells ∧ z_sl n1 - z_sl n0 ≤ R.slots
