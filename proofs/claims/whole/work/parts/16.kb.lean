/-! constructors over lists of what was written -/
def z_0 : ZM := fun _ _ => 0
def z_me (M : ZM) : List (Int × Int × Int) → ZM
  | [] => M
  | e :: l => z_upd (z_me M l) e.1 e.2.1 e.2.2
def z_nw (l : List (Int × Int × Int)) (a : Int) : Bool := l.all (fun e => !(decide (e.1 = a)))
theorem z_me_n {M : ZM} {l : List (Int × Int × Int)} {a : Int} (h : z_nw l a = true) (k : Int) : z_me M l a k = M a k := by
  induction l with
  | nil => rfl
  | cons e l ih =>
    unfold z_nw at h ih
    rw [List.all_cons, Bool.and_eq_true] at h
    show z_upd (z_me M l) e.1 e.2.1 e.2.2 a k = M a k
    have h1 : ¬ e.1 = a := by simpa using h.1
    unfold z_upd
    rw [if_neg (fun z => h1 z.1.symm)]
    exact ih h.2
theorem z_me_0 {l : List (Int × Int × Int)} {a : Int} (h : z_nw l a = true) (k : Int) : z_me z_0 l a k = 0 := z_me_n h k
def KZ (M : ZM) : Option ZV → ZM → Prop := fun rv M' => rv = none ∧ M' = M
section KB
variable {X : ZX} {cc : ByteArray} {own : String} {nL : Nat} {rt : Option FieldType} {fr lo n1 : Nat} {pc q : Nat} {L : List (Option ZV)} {S : List ZV} {n n' : Nat} {M : ZM} {l : List (Int × Int × Int)}
theorem k_new (C : zC X cc own nL rt fr lo n1) {ci idx N : Nat} {Cn : String} {T : u_T} {ty : Nat → FieldType} {a : Int} (hcl : zCl ci Cn T N ty) (hdef : ∀ j, j < N → defaultValue (ty j) = if (z_fk ci).getD j 0 = 0 then .int 0 else .null) (hlink : Cond.classLink own idx Cn ∈ wt) (hins : Cond.instantiable Cn N ∈ wt ∧ Cond.initialized Cn ∈ wt) (hn : n + 1 = n') (hn1 : n' ≤ n1 ∧ n' ≤ 274) (ho : z_ord n = a) (hc : z_dk a = (ci, 0)) (hz : ∀ k, M a k = 0) (hd : decode cc pc = .ok (.new idx, 3)) (hq : pc + 3 = q) (kk : zV X q L (.inr a :: S) n' M) : zV X pc L S n M := by
  subst hn
  exact v_new C hcl hdef hlink hins.1 hins.2 hn1.1 hn1.2 ho hc hz hd hq kk
theorem k_newarray (C : zC X cc own nL rt fr lo n1) {len : Nat} {a x : Int} (hw : Cond.arrayClass .int ∈ wt) (hn : n + 1 = n') (hn1 : n' ≤ n1 ∧ n' ≤ 274) (ho : z_ord n = a) (hc : z_dk a = (13, len)) (hx : x = (len : Int)) (hlen : len ≤ 100000) (hz : ∀ k, M a k = 0) (hd : decode cc pc = .ok (.newarray .int, 2)) (hq : pc + 2 = q) (kk : zV X q L (.inr a :: S) n' M) : zV X pc L (.inl x :: S) n M := by
  subst hn
  exact v_newarray C hw hn1.1 hn1.2 ho hc hx hlen hz hd hq kk
theorem k_anewarray (C : zC X cc own nL rt fr lo n1) {kd len idx : Nat} {a x : Int} {Cn : String} (hkd : kd = 14 ∨ kd = 15) (hCn : Cn = (if kd = 14 then RX10 else RX0)) (hlink : Cond.classLink own idx Cn ∈ wt) (hn : n + 1 = n') (hn1 : n' ≤ n1 ∧ n' ≤ 274) (ho : z_ord n = a) (hc : z_dk a = (kd, len)) (hx : x = (len : Int)) (hlen : len ≤ 100000) (hz : ∀ k, M a k = 0) (hd : decode cc pc = .ok (.anewarray idx, 3)) (hq : pc + 3 = q) (kk : zV X q L (.inr a :: S) n' M) : zV X pc L (.inl x :: S) n M := by
  subst hn
  exact v_anewarray C hkd hCn hlink hn1.1 hn1.2 ho hc hx hlen hz hd hq kk
theorem k_put (C : zC X cc own nL rt fr lo n1) {a x ki : Int} {ci idx k N : Nat} {Cn : String} {T : u_T} {ty : Nat → FieldType} (hcl : zCl ci Cn T N ty) (hlink : Cond.fieldLink own idx (T k).1 (T k).2.1 (T k).2.2.1 ∈ wt) (ha : z_al n a) (hc : z_dk a = (ci, 0)) (hki : ((k : Nat) : Int) = ki) (hkd : (z_fk ci)[k]? = some 0) (hty : z_st (ty k) x) (hfin : (T k).2.2.2 = false) (hd : decode cc pc = .ok (.putfield idx, 3)) (hq : pc + 3 = q) (kk : zV X q L S n (z_me M ((a, ki, x) :: l))) : zV X pc L (.inl x :: .inr a :: S) n (z_me M l) := by
  subst hki
  exact v_put C hcl ha hc hkd hty hfin hlink hd hq kk
theorem k_putF (C : zC X cc own nL rt fr lo n1) {a b ki : Int} {ci idx k N : Nat} {Cn : String} {T : u_T} {ty : Nat → FieldType} {y : MethodName} (hI : zI X y) (hyi : y.name = "<init>") (hcl : zCl ci Cn T N ty) (hlink : Cond.fieldLink own idx (T k).1 (T k).2.1 (T k).2.2.1 ∈ wt) (ha : z_al n a) (hc : z_dk a = (ci, 0)) (hki : ((k : Nat) : Int) = ki) (hkd : (z_fk ci)[k]? = some 1) (hty : (∃ nm, ty k = .object nm) ∨ ∃ t, ty k = .array t) (hfin : (T k).2.2.2 = true) (hdecl : (T k).1 = own) (hzb : zin b) (hd : decode cc pc = .ok (.putfield idx, 3)) (hq : pc + 3 = q) (kk : zV X q L S n (z_me M ((a, ki, b) :: l))) : zV X pc L (.inr b :: .inr a :: S) n (z_me M l) := by
  subst hki
  exact v_putF C hI hyi hcl ha hc hkd hty hfin hdecl hlink hzb hd hq kk
theorem k_get (C : zC X cc own nL rt fr lo n1) {a v ki : Int} {ci idx k N : Nat} {Cn : String} {T : u_T} {ty : Nat → FieldType} (hcl : zCl ci Cn T N ty) (hlink : Cond.fieldLink own idx (T k).1 (T k).2.1 (T k).2.2.1 ∈ wt) (ha : z_al n a) (hc : z_dk a = (ci, 0)) (hki : ((k : Nat) : Int) = ki) (hkd : (z_fk ci)[k]? = some 1) (hv : M a ki = v) (hd : decode cc pc = .ok (.getfield idx, 3)) (hq : pc + 3 = q) (kk : zV X q L (.inr v :: S) n M) : zV X pc L (.inr a :: S) n M := by
  subst hki; subst hv
  exact v_get C hcl ha hc hkd hlink hd hq kk
theorem k_iast (C : zC X cc own nL rt fr lo n1) {a i x : Int} {len : Nat} (ha : z_al n a) (hc : z_dk a = (13, len)) (hi : 0 ≤ i ∧ i < (len : Int)) (hd : decode cc pc = .ok (.iastore, 1)) (hq : pc + 1 = q) (kk : zV X q L S n (z_me M ((a, i, x) :: l))) : zV X pc L (.inl x :: .inl i :: .inr a :: S) n (z_me M l) := v_iast C ha hc hi hd hq kk
theorem k_aast (C : zC X cc own nL rt fr lo n1) {a i b : Int} {kd ci len : Nat} {r : vw_C} (ha : z_al n a) (hkd : kd = 14 ∨ kd = 15) (hc : z_dk a = (kd, len)) (hbl : z_al n b) (hbc : z_dk b = (ci, 0)) (hci : ci < 13) (hcl : vwCl[ci]? = some r) (hr : r.1 = (if kd = 14 then RX10 else RX0)) (hi : 0 ≤ i ∧ i < (len : Int)) (hzb : zin b) (hd : decode cc pc = .ok (.aastore, 1)) (hq : pc + 1 = q) (kk : zV X q L S n (z_me M ((a, i, b) :: l))) : zV X pc L (.inr b :: .inl i :: .inr a :: S) n (z_me M l) := v_aast C ha hkd hc hbl hbc hci hcl hr hi hd hq hzb kk
theorem k_iadd (C : zC X cc own nL rt fr lo n1) {x y z : Int} (hd : decode cc pc = .ok (.iadd, 1)) (hq : pc + 1 = q) (hz : x + y = z) (hr : zin z) (k : zV X q L (.inl z :: S) n M) : zV X pc L (.inl y :: .inl x :: S) n M := by
  subst hz
  exact v_iadd C hd hq hr k
theorem k_iinc (C : zC X cc own nL rt fr lo n1) {i : Nat} {d x z : Int} (hd : decode cc pc = .ok (.iinc i d, 3)) (hq : pc + 3 = q) (hi : i < nL) (hx : L[i]? = some (some (.inl x))) (hz : x + d = z) {L' : List (Option ZV)} (hL : L.set i (some (.inl z)) = L') (hr : zin z) (k : zV X q L' S n M) : zV X pc L S n M := by
  subst hz
  exact v_iinc C hd hq hi hx hL hr k
theorem k_vret (hR : zRv X cc none n (KZ M)) (hd : decode cc pc = .ok (.return_, 1)) : zV X pc L [] n M := hR pc L M hd rfl ⟨rfl, rfl⟩
theorem k_cI0 (C : zC X cc own nL rt fr lo n1) {y : MethodName} {b : ByteArray} {nL' : Nat} {fr' lo' idx : Nat} {a : Int} {M2 : ZM} (hM : zMet y b nL' none fr' lo' (.inr a :: []) n n' M (KZ M2)) (hy : zY y b nL' none 0) (hi : Cond.instanceMethod y ∈ wt) (hini : y.name = "<init>") (hlink : Cond.methodLink own idx y ∈ wt) (ha : z_al n a) (hR : fr' + 1 ≤ fr ∧ 8 + (nL' + 11) + lo' ≤ lo) (hn2 : n ≤ n' ∧ n' ≤ n1 ∧ n' ≤ 274) (hsl : S.length ≤ 8) (hd : decode cc pc = .ok (.invokespecial idx, 3)) (hq : pc + 3 = q) (kk : zV X q L S n' M2) : zV X pc L (.inr a :: S) n M :=
  v_callI C hM hy hi hini hlink ha hR hn2 rfl rfl hsl hd hq (fun rv M' hk => by
    obtain ⟨rfl, rfl⟩ := hk
    exact kk)
theorem k_cN0 (C : zC X cc own nL rt fr lo n1) {y : MethodName} {b : ByteArray} {nL' : Nat} {fr' lo' idx : Nat} {a : Int} {host : String} {M2 : ZM} (hM : zMet y b nL' none fr' lo' (.inr a :: []) n n' M (KZ M2)) (hy : zY y b nL' none 0) (hi : Cond.instanceMethod y ∈ wt) (hini : y.name = "<init>") (hlink : (own, idx, y, host) ∈ wn) (ha : z_al n a) (hR : fr' + 1 ≤ fr ∧ 8 + (nL' + 11) + lo' ≤ lo) (hn2 : n ≤ n' ∧ n' ≤ n1 ∧ n' ≤ 274) (hsl : S.length ≤ 8) (hd : decode cc pc = .ok (.invokespecial idx, 3)) (hq : pc + 3 = q) (kk : zV X q L S n' M2) : zV X pc L (.inr a :: S) n M :=
  v_callIN C hM hy hi hini hlink ha hR hn2 rfl rfl hsl hd hq (fun rv M' hk => by
    obtain ⟨rfl, rfl⟩ := hk
    exact kk)
theorem k_cI1 (C : zC X cc own nL rt fr lo n1) {y : MethodName} {b : ByteArray} {nL' : Nat} {fr' lo' idx : Nat} {a : Int} {v1 : ZV} {M2 : ZM} (hM : zMet y b nL' none fr' lo' (.inr a :: [v1]) n n' M (KZ M2)) (hy : zY y b nL' none 1) (hi : Cond.instanceMethod y ∈ wt) (hini : y.name = "<init>") (hlink : Cond.methodLink own idx y ∈ wt) (ha : z_al n a) (hR : fr' + 1 ≤ fr ∧ 8 + (nL' + 11) + lo' ≤ lo) (hn2 : n ≤ n' ∧ n' ≤ n1 ∧ n' ≤ 274) (hsl : S.length ≤ 8) (hd : decode cc pc = .ok (.invokespecial idx, 3)) (hq : pc + 3 = q) (kk : zV X q L S n' M2) : zV X pc L (v1 :: .inr a :: S) n M :=
  v_callI C hM hy hi hini hlink ha hR hn2 rfl rfl hsl hd hq (fun rv M' hk => by
    obtain ⟨rfl, rfl⟩ := hk
    exact kk)
theorem k_cN1 (C : zC X cc own nL rt fr lo n1) {y : MethodName} {b : ByteArray} {nL' : Nat} {fr' lo' idx : Nat} {a : Int} {host : String} {v1 : ZV} {M2 : ZM} (hM : zMet y b nL' none fr' lo' (.inr a :: [v1]) n n' M (KZ M2)) (hy : zY y b nL' none 1) (hi : Cond.instanceMethod y ∈ wt) (hini : y.name = "<init>") (hlink : (own, idx, y, host) ∈ wn) (ha : z_al n a) (hR : fr' + 1 ≤ fr ∧ 8 + (nL' + 11) + lo' ≤ lo) (hn2 : n ≤ n' ∧ n' ≤ n1 ∧ n' ≤ 274) (hsl : S.length ≤ 8) (hd : decode cc pc = .ok (.invokespecial idx, 3)) (hq : pc + 3 = q) (kk : zV X q L S n' M2) : zV X pc L (v1 :: .inr a :: S) n M :=
  v_callIN C hM hy hi hini hlink ha hR hn2 rfl rfl hsl hd hq (fun rv M' hk => by
    obtain ⟨rfl, rfl⟩ := hk
    exact kk)
theorem k_cI2 (C : zC X cc own nL rt fr lo n1) {y : MethodName} {b : ByteArray} {nL' : Nat} {fr' lo' idx : Nat} {a : Int} {v1 v2 : ZV} {M2 : ZM} (hM : zMet y b nL' none fr' lo' (.inr a :: [v1, v2]) n n' M (KZ M2)) (hy : zY y b nL' none 2) (hi : Cond.instanceMethod y ∈ wt) (hini : y.name = "<init>") (hlink : Cond.methodLink own idx y ∈ wt) (ha : z_al n a) (hR : fr' + 1 ≤ fr ∧ 8 + (nL' + 11) + lo' ≤ lo) (hn2 : n ≤ n' ∧ n' ≤ n1 ∧ n' ≤ 274) (hsl : S.length ≤ 8) (hd : decode cc pc = .ok (.invokespecial idx, 3)) (hq : pc + 3 = q) (kk : zV X q L S n' M2) : zV X pc L (v2 :: v1 :: .inr a :: S) n M :=
  v_callI C hM hy hi hini hlink ha hR hn2 rfl rfl hsl hd hq (fun rv M' hk => by
    obtain ⟨rfl, rfl⟩ := hk
    exact kk)
theorem k_cN2 (C : zC X cc own nL rt fr lo n1) {y : MethodName} {b : ByteArray} {nL' : Nat} {fr' lo' idx : Nat} {a : Int} {host : String} {v1 v2 : ZV} {M2 : ZM} (hM : zMet y b nL' none fr' lo' (.inr a :: [v1, v2]) n n' M (KZ M2)) (hy : zY y b nL' none 2) (hi : Cond.instanceMethod y ∈ wt) (hini : y.name = "<init>") (hlink : (own, idx, y, host) ∈ wn) (ha : z_al n a) (hR : fr' + 1 ≤ fr ∧ 8 + (nL' + 11) + lo' ≤ lo) (hn2 : n ≤ n' ∧ n' ≤ n1 ∧ n' ≤ 274) (hsl : S.length ≤ 8) (hd : decode cc pc = .ok (.invokespecial idx, 3)) (hq : pc + 3 = q) (kk : zV X q L S n' M2) : zV X pc L (v2 :: v1 :: .inr a :: S) n M :=
  v_callIN C hM hy hi hini hlink ha hR hn2 rfl rfl hsl hd hq (fun rv M' hk => by
    obtain ⟨rfl, rfl⟩ := hk
    exact kk)
theorem k_cI3 (C : zC X cc own nL rt fr lo n1) {y : MethodName} {b : ByteArray} {nL' : Nat} {fr' lo' idx : Nat} {a : Int} {v1 v2 v3 : ZV} {M2 : ZM} (hM : zMet y b nL' none fr' lo' (.inr a :: [v1, v2, v3]) n n' M (KZ M2)) (hy : zY y b nL' none 3) (hi : Cond.instanceMethod y ∈ wt) (hini : y.name = "<init>") (hlink : Cond.methodLink own idx y ∈ wt) (ha : z_al n a) (hR : fr' + 1 ≤ fr ∧ 8 + (nL' + 11) + lo' ≤ lo) (hn2 : n ≤ n' ∧ n' ≤ n1 ∧ n' ≤ 274) (hsl : S.length ≤ 8) (hd : decode cc pc = .ok (.invokespecial idx, 3)) (hq : pc + 3 = q) (kk : zV X q L S n' M2) : zV X pc L (v3 :: v2 :: v1 :: .inr a :: S) n M :=
  v_callI C hM hy hi hini hlink ha hR hn2 rfl rfl hsl hd hq (fun rv M' hk => by
    obtain ⟨rfl, rfl⟩ := hk
    exact kk)
theorem k_cN3 (C : zC X cc own nL rt fr lo n1) {y : MethodName} {b : ByteArray} {nL' : Nat} {fr' lo' idx : Nat} {a : Int} {host : String} {v1 v2 v3 : ZV} {M2 : ZM} (hM : zMet y b nL' none fr' lo' (.inr a :: [v1, v2, v3]) n n' M (KZ M2)) (hy : zY y b nL' none 3) (hi : Cond.instanceMethod y ∈ wt) (hini : y.name = "<init>") (hlink : (own, idx, y, host) ∈ wn) (ha : z_al n a) (hR : fr' + 1 ≤ fr ∧ 8 + (nL' + 11) + lo' ≤ lo) (hn2 : n ≤ n' ∧ n' ≤ n1 ∧ n' ≤ 274) (hsl : S.length ≤ 8) (hd : decode cc pc = .ok (.invokespecial idx, 3)) (hq : pc + 3 = q) (kk : zV X q L S n' M2) : zV X pc L (v3 :: v2 :: v1 :: .inr a :: S) n M :=
  v_callIN C hM hy hi hini hlink ha hR hn2 rfl rfl hsl hd hq (fun rv M' hk => by
    obtain ⟨rfl, rfl⟩ := hk
    exact kk)
theorem k_cI4 (C : zC X cc own nL rt fr lo n1) {y : MethodName} {b : ByteArray} {nL' : Nat} {fr' lo' idx : Nat} {a : Int} {v1 v2 v3 v4 : ZV} {M2 : ZM} (hM : zMet y b nL' none fr' lo' (.inr a :: [v1, v2, v3, v4]) n n' M (KZ M2)) (hy : zY y b nL' none 4) (hi : Cond.instanceMethod y ∈ wt) (hini : y.name = "<init>") (hlink : Cond.methodLink own idx y ∈ wt) (ha : z_al n a) (hR : fr' + 1 ≤ fr ∧ 8 + (nL' + 11) + lo' ≤ lo) (hn2 : n ≤ n' ∧ n' ≤ n1 ∧ n' ≤ 274) (hsl : S.length ≤ 8) (hd : decode cc pc = .ok (.invokespecial idx, 3)) (hq : pc + 3 = q) (kk : zV X q L S n' M2) : zV X pc L (v4 :: v3 :: v2 :: v1 :: .inr a :: S) n M :=
  v_callI C hM hy hi hini hlink ha hR hn2 rfl rfl hsl hd hq (fun rv M' hk => by
    obtain ⟨rfl, rfl⟩ := hk
    exact kk)
theorem k_cN4 (C : zC X cc own nL rt fr lo n1) {y : MethodName} {b : ByteArray} {nL' : Nat} {fr' lo' idx : Nat} {a : Int} {host : String} {v1 v2 v3 v4 : ZV} {M2 : ZM} (hM : zMet y b nL' none fr' lo' (.inr a :: [v1, v2, v3, v4]) n n' M (KZ M2)) (hy : zY y b nL' none 4) (hi : Cond.instanceMethod y ∈ wt) (hini : y.name = "<init>") (hlink : (own, idx, y, host) ∈ wn) (ha : z_al n a) (hR : fr' + 1 ≤ fr ∧ 8 + (nL' + 11) + lo' ≤ lo) (hn2 : n ≤ n' ∧ n' ≤ n1 ∧ n' ≤ 274) (hsl : S.length ≤ 8) (hd : decode cc pc = .ok (.invokespecial idx, 3)) (hq : pc + 3 = q) (kk : zV X q L S n' M2) : zV X pc L (v4 :: v3 :: v2 :: v1 :: .inr a :: S) n M :=
  v_callIN C hM hy hi hini hlink ha hR hn2 rfl rfl hsl hd hq (fun rv M' hk => by
    obtain ⟨rfl, rfl⟩ := hk
    exact kk)
theorem k_cI5 (C : zC X cc own nL rt fr lo n1) {y : MethodName} {b : ByteArray} {nL' : Nat} {fr' lo' idx : Nat} {a : Int} {v1 v2 v3 v4 v5 : ZV} {M2 : ZM} (hM : zMet y b nL' none fr' lo' (.inr a :: [v1, v2, v3, v4, v5]) n n' M (KZ M2)) (hy : zY y b nL' none 5) (hi : Cond.instanceMethod y ∈ wt) (hini : y.name = "<init>") (hlink : Cond.methodLink own idx y ∈ wt) (ha : z_al n a) (hR : fr' + 1 ≤ fr ∧ 8 + (nL' + 11) + lo' ≤ lo) (hn2 : n ≤ n' ∧ n' ≤ n1 ∧ n' ≤ 274) (hsl : S.length ≤ 8) (hd : decode cc pc = .ok (.invokespecial idx, 3)) (hq : pc + 3 = q) (kk : zV X q L S n' M2) : zV X pc L (v5 :: v4 :: v3 :: v2 :: v1 :: .inr a :: S) n M :=
  v_callI C hM hy hi hini hlink ha hR hn2 rfl rfl hsl hd hq (fun rv M' hk => by
    obtain ⟨rfl, rfl⟩ := hk
    exact kk)
theorem k_cN5 (C : zC X cc own nL rt fr lo n1) {y : MethodName} {b : ByteArray} {nL' : Nat} {fr' lo' idx : Nat} {a : Int} {host : String} {v1 v2 v3 v4 v5 : ZV} {M2 : ZM} (hM : zMet y b nL' none fr' lo' (.inr a :: [v1, v2, v3, v4, v5]) n n' M (KZ M2)) (hy : zY y b nL' none 5) (hi : Cond.instanceMethod y ∈ wt) (hini : y.name = "<init>") (hlink : (own, idx, y, host) ∈ wn) (ha : z_al n a) (hR : fr' + 1 ≤ fr ∧ 8 + (nL' + 11) + lo' ≤ lo) (hn2 : n ≤ n' ∧ n' ≤ n1 ∧ n' ≤ 274) (hsl : S.length ≤ 8) (hd : decode cc pc = .ok (.invokespecial idx, 3)) (hq : pc + 3 = q) (kk : zV X q L S n' M2) : zV X pc L (v5 :: v4 :: v3 :: v2 :: v1 :: .inr a :: S) n M :=
  v_callIN C hM hy hi hini hlink ha hR hn2 rfl rfl hsl hd hq (fun rv M' hk => by
    obtain ⟨rfl, rfl⟩ := hk
    exact kk)
theorem k_cI6 (C : zC X cc own nL rt fr lo n1) {y : MethodName} {b : ByteArray} {nL' : Nat} {fr' lo' idx : Nat} {a : Int} {v1 v2 v3 v4 v5 v6 : ZV} {M2 : ZM} (hM : zMet y b nL' none fr' lo' (.inr a :: [v1, v2, v3, v4, v5, v6]) n n' M (KZ M2)) (hy : zY y b nL' none 6) (hi : Cond.instanceMethod y ∈ wt) (hini : y.name = "<init>") (hlink : Cond.methodLink own idx y ∈ wt) (ha : z_al n a) (hR : fr' + 1 ≤ fr ∧ 8 + (nL' + 11) + lo' ≤ lo) (hn2 : n ≤ n' ∧ n' ≤ n1 ∧ n' ≤ 274) (hsl : S.length ≤ 8) (hd : decode cc pc = .ok (.invokespecial idx, 3)) (hq : pc + 3 = q) (kk : zV X q L S n' M2) : zV X pc L (v6 :: v5 :: v4 :: v3 :: v2 :: v1 :: .inr a :: S) n M :=
  v_callI C hM hy hi hini hlink ha hR hn2 rfl rfl hsl hd hq (fun rv M' hk => by
    obtain ⟨rfl, rfl⟩ := hk
    exact kk)
theorem k_cN6 (C : zC X cc own nL rt fr lo n1) {y : MethodName} {b : ByteArray} {nL' : Nat} {fr' lo' idx : Nat} {a : Int} {host : String} {v1 v2 v3 v4 v5 v6 : ZV} {M2 : ZM} (hM : zMet y b nL' none fr' lo' (.inr a :: [v1, v2, v3, v4, v5, v6]) n n' M (KZ M2)) (hy : zY y b nL' none 6) (hi : Cond.instanceMethod y ∈ wt) (hini : y.name = "<init>") (hlink : (own, idx, y, host) ∈ wn) (ha : z_al n a) (hR : fr' + 1 ≤ fr ∧ 8 + (nL' + 11) + lo' ≤ lo) (hn2 : n ≤ n' ∧ n' ≤ n1 ∧ n' ≤ 274) (hsl : S.length ≤ 8) (hd : decode cc pc = .ok (.invokespecial idx, 3)) (hq : pc + 3 = q) (kk : zV X q L S n' M2) : zV X pc L (v6 :: v5 :: v4 :: v3 :: v2 :: v1 :: .inr a :: S) n M :=
  v_callIN C hM hy hi hini hlink ha hR hn2 rfl rfl hsl hd hq (fun rv M' hk => by
    obtain ⟨rfl, rfl⟩ := hk
    exact kk)
end KB
