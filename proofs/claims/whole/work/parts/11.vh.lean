/-! ===== the ordinary methods: all 274 cells are there, the pointers stand as the layout says ===== -/
def z_ov (μ : ZM) : ZM := fun a k => if z_ptr a k = 0 then μ a k else z_ptr a k
def z_wr (μ : ZM) (k : ZM → Prop) : Prop := k μ
theorem z_ov_0 {μ : ZM} {a k : Int} (h : z_ptr a k = 0) : z_ov μ a k = μ a k := if_pos h
theorem z_ov_p {μ : ZM} {a k v : Int} (h : z_ptr a k = v) (hv : v ≠ 0) : z_ov μ a k = v := by
  unfold z_ov
  rw [h, if_neg hv]
theorem z_ov_upd {μ : ZM} {a k v : Int} (h : z_ptr a k = 0) : z_upd (z_ov μ) a k v = z_ov (z_upd μ a k v) := by
  funext b j
  unfold z_upd z_ov
  by_cases e : b = a ∧ j = k
  · obtain ⟨rfl, rfl⟩ := e
    simp [h]
  · simp [e]
theorem z_ov_cpy {μ : ZM} {a0 sp a1 dp k : Int} (h0 : ∀ i, z_ptr a0 i = 0) (h1 : ∀ i, z_ptr a1 i = 0) : z_cpy (z_ov μ) a0 sp a1 dp k = z_ov (z_cpy μ a0 sp a1 dp k) := by
  funext b j
  unfold z_cpy z_ov
  by_cases e : b = a1 ∧ dp ≤ j ∧ j < dp + k
  · obtain ⟨rfl, e2⟩ := e
    simp [h0, h1, e2]
  · simp [e]
/-- contracts of the ordinary methods -/
def KN (K : Option ZV → ZM → Prop) : Option ZV → ZM → Prop := fun rv M => ∃ μ, M = z_ov μ ∧ K rv μ
def KI (k : Int → ZM → Prop) : Option ZV → ZM → Prop := fun rv μ => ∃ r, rv = some (.inl r) ∧ k r μ
def KA (k : Int → ZM → Prop) : Option ZV → ZM → Prop := fun rv μ => ∃ r, rv = some (.inr r) ∧ k r μ
def KV (k : ZM → Prop) : Option ZV → ZM → Prop := fun rv μ => rv = none ∧ k μ
def zMu (y : MethodName) (b : ByteArray) (nL : Nat) (rt : Option FieldType) (fr lo : Nat) (As : List ZV) (μ : ZM) (K : Option ZV → ZM → Prop) : Prop := zMet y b nL rt fr lo As 274 274 (z_ov μ) (KN K)
def zb (x : Int) : Prop := x = 0 ∨ x = 1
section VH
variable {X : ZX} {cc : ByteArray} {own : String} {nL : Nat} {rt : Option FieldType} {fr lo : Nat} {pc q : Nat} {L : List (Option ZV)} {S : List ZV} {μ : ZM} {P : Prop}
theorem u_getI (C : zC X cc own nL rt fr lo 274) {a ki : Int} {ci idx k N : Nat} {Cn : String} {T : u_T} {ty : Nat → FieldType} (hcl : zCl ci Cn T N ty) (hlink : Cond.fieldLink own idx (T k).1 (T k).2.1 (T k).2.2.1 ∈ wt) (ho : z_ob a ci) (hp : z_ptr a ki = 0) (hki : ((k : Nat) : Int) = ki) (hkd : (z_fk ci)[k]? = some 0) (hd : decode cc pc = .ok (.getfield idx, 3)) (hq : pc + 3 = q) (kk : zV X q L (.inl (μ a ki) :: S) 274 (z_ov μ)) : zV X pc L (.inr a :: S) 274 (z_ov μ) := by
  subst hki
  refine v_get C hcl ho.2 ho.1 hkd hlink hd hq ?_
  rw [z_ov_0 hp]
  exact kk
theorem u_getR (C : zC X cc own nL rt fr lo 274) {a ki v : Int} {ci idx k N : Nat} {Cn : String} {T : u_T} {ty : Nat → FieldType} (hcl : zCl ci Cn T N ty) (hlink : Cond.fieldLink own idx (T k).1 (T k).2.1 (T k).2.2.1 ∈ wt) (ho : z_ob a ci) (hp : z_ptr a ki = v) (hv : v ≠ 0) (hki : ((k : Nat) : Int) = ki) (hkd : (z_fk ci)[k]? = some 1) (hd : decode cc pc = .ok (.getfield idx, 3)) (hq : pc + 3 = q) (kk : zV X q L (.inr v :: S) 274 (z_ov μ)) : zV X pc L (.inr a :: S) 274 (z_ov μ) := by
  subst hki
  refine v_get C hcl ho.2 ho.1 hkd hlink hd hq ?_
  rw [z_ov_p hp hv]
  exact kk
theorem u_put (C : zC X cc own nL rt fr lo 274) {a x ki : Int} {ci idx k N : Nat} {Cn : String} {T : u_T} {ty : Nat → FieldType} (hcl : zCl ci Cn T N ty) (hlink : Cond.fieldLink own idx (T k).1 (T k).2.1 (T k).2.2.1 ∈ wt) (ho : z_ob a ci) (hp : z_ptr a ki = 0) (hki : ((k : Nat) : Int) = ki) (hkd : (z_fk ci)[k]? = some 0) (hty : ty k = .int) (hfin : (T k).2.2.2 = false) (hd : decode cc pc = .ok (.putfield idx, 3)) (hq : pc + 3 = q) {kp : ZM → Prop} (h : z_wr (z_upd μ a ki x) kp) (kk : ∀ μ, kp μ → zV X q L S 274 (z_ov μ)) : zV X pc L (.inl x :: .inr a :: S) 274 (z_ov μ) := by
  subst hki
  refine v_put C hcl ho.2 ho.1 hkd (Or.inl hty) hfin hlink hd hq ?_
  rw [z_ov_upd hp]
  exact kk _ h
theorem u_putZ (C : zC X cc own nL rt fr lo 274) {a x ki : Int} {ci idx k N : Nat} {Cn : String} {T : u_T} {ty : Nat → FieldType} (hcl : zCl ci Cn T N ty) (hlink : Cond.fieldLink own idx (T k).1 (T k).2.1 (T k).2.2.1 ∈ wt) (ho : z_ob a ci) (hp : z_ptr a ki = 0) (hki : ((k : Nat) : Int) = ki) (hkd : (z_fk ci)[k]? = some 0) (hty : ty k = .boolean) (hfin : (T k).2.2.2 = false) (hd : decode cc pc = .ok (.putfield idx, 3)) (hq : pc + 3 = q) {kp : ZM → Prop} (h : zb x ∧ z_wr (z_upd μ a ki x) kp) (kk : ∀ μ, kp μ → zV X q L S 274 (z_ov μ)) : zV X pc L (.inl x :: .inr a :: S) 274 (z_ov μ) := by
  subst hki
  refine v_put C hcl ho.2 ho.1 hkd (Or.inr ⟨hty, h.1⟩) hfin hlink hd hq ?_
  rw [z_ov_upd hp]
  exact kk _ h.2
theorem u_iald (C : zC X cc own nL rt fr lo 274) {a i : Int} {len : Nat} (ha : z_ia a len) (hd : decode cc pc = .ok (.iaload, 1)) (hq : pc + 1 = q) (h : (0 ≤ i ∧ i < (len : Int)) ∧ P) (kk : P → zV X q L (.inl (μ a i) :: S) 274 (z_ov μ)) : zV X pc L (.inl i :: .inr a :: S) 274 (z_ov μ) := by
  refine v_iald C ha.2.1 ha.1 h.1 hd hq ?_
  rw [z_ov_0 (ha.2.2 i)]
  exact kk h.2
theorem u_iast (C : zC X cc own nL rt fr lo 274) {a i x : Int} {len : Nat} (ha : z_ia a len) (hd : decode cc pc = .ok (.iastore, 1)) (hq : pc + 1 = q) {kp : ZM → Prop} (h : (0 ≤ i ∧ i < (len : Int)) ∧ z_wr (z_upd μ a i x) kp) (kk : ∀ μ, kp μ → zV X q L S 274 (z_ov μ)) : zV X pc L (.inl x :: .inl i :: .inr a :: S) 274 (z_ov μ) := by
  refine v_iast C ha.2.1 ha.1 h.1 hd hq ?_
  rw [z_ov_upd (ha.2.2 i)]
  exact kk _ h.2
theorem u_aald (C : zC X cc own nL rt fr lo 274) {a i : Int} {len : Nat} (ha : z_ra a len) (hd : decode cc pc = .ok (.aaload, 1)) (hq : pc + 1 = q) (h : (0 ≤ i ∧ i < (len : Int)) ∧ P) (kk : P → zV X q L (.inr (μ a i) :: S) 274 (z_ov μ)) : zV X pc L (.inl i :: .inr a :: S) 274 (z_ov μ) := by
  refine v_aald C ha.2.1 (Or.inl rfl) ha.1 h.1 hd hq ?_
  rw [z_ov_0 (ha.2.2 i)]
  exact kk h.2
theorem u_aast (C : zC X cc own nL rt fr lo 274) {a i b : Int} {len : Nat} (ha : z_ra a len) (hb : z_tm b) (hd : decode cc pc = .ok (.aastore, 1)) (hq : pc + 1 = q) {kp : ZM → Prop} (h : (0 ≤ i ∧ i < (len : Int)) ∧ z_wr (z_upd μ a i b) kp) (kk : ∀ μ, kp μ → zV X q L S 274 (z_ov μ)) : zV X pc L (.inr b :: .inl i :: .inr a :: S) 274 (z_ov μ) := by
  refine v_aast C (r := (RX10, TX10, 3)) ha.2.1 (Or.inl rfl) ha.1 (ob_tm hb).2 (ob_tm hb).1 (by decide) rfl rfl h.1 hd hq ⟨by omega, by omega⟩ ?_
  rw [z_ov_upd (ha.2.2 i)]
  exact kk _ h.2
/-- an array of references that never change -/
theorem u_fald (C : zC X cc own nL rt fr lo 274) {a i v : Int} {kd len : Nat} (ha : z_dk a = (kd, len) ∧ z_al 274 a) (hkd : kd = 14 ∨ kd = 15) (hd : decode cc pc = .ok (.aaload, 1)) (hq : pc + 1 = q) (h : (0 ≤ i ∧ i < (len : Int)) ∧ P) (hv : 0 ≤ i ∧ i < (len : Int) → z_ptr a i = v ∧ v ≠ 0) (kk : P → zV X q L (.inr v :: S) 274 (z_ov μ)) : zV X pc L (.inl i :: .inr a :: S) 274 (z_ov μ) := by
  refine v_aald C ha.2 hkd ha.1 h.1 hd hq ?_
  rw [z_ov_p (hv h.1).1 (hv h.1).2]
  exact kk h.2
theorem u_alen (C : zC X cc own nL rt fr lo 274) {a : Int} {kd len : Nat} {v : Int} (ha : z_dk a = (kd, len) ∧ z_al 274 a) (hkd : kd = 13 ∨ kd = 14 ∨ kd = 15) (hlen : len < 100000) (hv : (len : Int) = v) (hd : decode cc pc = .ok (.arraylength, 1)) (hq : pc + 1 = q) (kk : zV X q L (.inl v :: S) 274 (z_ov μ)) : zV X pc L (.inr a :: S) 274 (z_ov μ) := by
  subst hv
  exact v_alen C ha.2 hkd ha.1 hlen hd hq kk
theorem u_acopy (C : zC X cc own nL rt fr lo 274) {a0 a1 sp dp k : Int} {idx len0 len1 : Nat} (h0 : z_ia a0 len0) (h1 : z_ia a1 len1) (hlink : Cond.methodLink own idx arraycopyName ∈ wt) (hfr1 : 1 ≤ fr) (hlo1 : S.length + (nativeFrameWords "java/lang/System" "arraycopy" 5 + 11) ≤ lo) (hd : decode cc pc = .ok (.invokestatic idx, 3)) (hq : pc + 3 = q) {kp : ZM → Prop} (h : (0 ≤ sp ∧ 0 ≤ dp ∧ 0 ≤ k ∧ sp + k ≤ (len0 : Int) ∧ dp + k ≤ (len1 : Int)) ∧ z_wr (z_cpy μ a0 sp a1 dp k) kp) (kk : ∀ μ, kp μ → zV X q L S 274 (z_ov μ)) : zV X pc L (.inl k :: .inl dp :: .inr a1 :: .inl sp :: .inr a0 :: S) 274 (z_ov μ) := by
  refine v_acopy C h0.2.1 h0.1 h1.2.1 h1.1 hlink h.1 hfr1 hlo1 hd hq ?_
  rw [z_ov_cpy h0.2.2 h1.2.2]
  exact kk _ h.2
theorem u_tm (h : z_tm 0 ∧ P) : P := h.2
theorem u_iadd (C : zC X cc own nL rt fr lo 274) {x y : Int} (hd : decode cc pc = .ok (.iadd, 1)) (hq : pc + 1 = q) (h : zin (x + y) ∧ P) (kk : P → zV X q L (.inl (x + y) :: S) 274 (z_ov μ)) : zV X pc L (.inl y :: .inl x :: S) 274 (z_ov μ) := v_iadd C hd hq h.1 (kk h.2)
theorem u_isub (C : zC X cc own nL rt fr lo 274) {x y : Int} (hd : decode cc pc = .ok (.isub, 1)) (hq : pc + 1 = q) (h : zin (x - y) ∧ P) (kk : P → zV X q L (.inl (x - y) :: S) 274 (z_ov μ)) : zV X pc L (.inl y :: .inl x :: S) 274 (z_ov μ) := v_isub C hd hq h.1 (kk h.2)
theorem u_imul (C : zC X cc own nL rt fr lo 274) {x y : Int} (hd : decode cc pc = .ok (.imul, 1)) (hq : pc + 1 = q) (h : zin (x * y) ∧ P) (kk : P → zV X q L (.inl (x * y) :: S) 274 (z_ov μ)) : zV X pc L (.inl y :: .inl x :: S) 274 (z_ov μ) := v_imul C hd hq h.1 (kk h.2)
theorem u_idiv (C : zC X cc own nL rt fr lo 274) {x y : Int} (hd : decode cc pc = .ok (.idiv, 1)) (hq : pc + 1 = q) (h : (0 ≤ x ∧ 0 < y) ∧ P) (kk : P → zV X q L (.inl (x / y) :: S) 274 (z_ov μ)) : zV X pc L (.inl y :: .inl x :: S) 274 (z_ov μ) := v_idiv C hd hq h.1 (kk h.2)
theorem u_irem (C : zC X cc own nL rt fr lo 274) {x y : Int} (hd : decode cc pc = .ok (.irem, 1)) (hq : pc + 1 = q) (h : (0 ≤ x ∧ 0 < y) ∧ P) (kk : P → zV X q L (.inl (x % y) :: S) 274 (z_ov μ)) : zV X pc L (.inl y :: .inl x :: S) 274 (z_ov μ) := v_irem C hd hq h.1 (kk h.2)
theorem u_iinc (C : zC X cc own nL rt fr lo 274) {i : Nat} {d x : Int} (hd : decode cc pc = .ok (.iinc i d, 3)) (hq : pc + 3 = q) (hi : i < nL) (hx : L[i]? = some (some (.inl x))) {L' : List (Option ZV)} (hL : L.set i (some (.inl (x + d))) = L') (h : zin (x + d) ∧ P) (kk : P → zV X q L' S 274 (z_ov μ)) : zV X pc L S 274 (z_ov μ) := v_iinc C hd hq hi hx hL h.1 (kk h.2)
theorem u_iret {K : Int → ZM → Prop} (hR : zRi X cc (some .int) 274 (KN (KI K))) (hd : decode cc pc = .ok (.ireturn, 1)) {r : Int} (h : K r μ) : zV X pc L [.inl r] 274 (z_ov μ) := hR pc L r _ hd (Or.inl rfl) ⟨μ, rfl, r, rfl, h⟩
theorem u_zret {K : Int → ZM → Prop} (hR : zRi X cc (some .boolean) 274 (KN (KI K))) (hd : decode cc pc = .ok (.ireturn, 1)) {r : Int} (h : zb r ∧ K r μ) : zV X pc L [.inl r] 274 (z_ov μ) := hR pc L r _ hd (Or.inr ⟨rfl, h.1⟩) ⟨μ, rfl, r, rfl, h.2⟩
theorem u_aret {nm : String} {K : Int → ZM → Prop} (hR : zRa X cc (some (.object nm)) 274 (KN (KA K))) (hd : decode cc pc = .ok (.areturn, 1)) {r : Int} (h : K r μ) : zV X pc L [.inr r] 274 (z_ov μ) := hR pc L r _ hd ⟨nm, rfl⟩ ⟨μ, rfl, r, rfl, h⟩
theorem u_vret {K : ZM → Prop} (hR : zRv X cc none 274 (KN (KV K))) (hd : decode cc pc = .ok (.return_, 1)) (h : K μ) : zV X pc L [] 274 (z_ov μ) := hR pc L _ hd rfl ⟨μ, rfl, rfl, h⟩
theorem u_cVi0 (C : zC X cc own nL rt fr lo 274) {y : MethodName} {b : ByteArray} {nL' : Nat} {rt' : Option FieldType} {fr' lo' ci idx N : Nat} {T : u_T} {a : Int} {k : Int → ZM → Prop} (hM : zMu y b nL' rt' fr' lo' (.inr a :: []) μ (KI k)) (hy : zY y b nL' rt' 0) (hi : Cond.instanceMethod y ∈ wt ∧ Cond.selects y.cls y y ∈ wt) (hlink : Cond.methodLink own idx y ∈ wt) (ho : z_ob a ci) (hci : ci < 13) (hcl : vwCl[ci]? = some (y.cls, T, N)) (hR : fr' + 1 ≤ fr ∧ 8 + (nL' + 11) + lo' ≤ lo) (hsl : S.length ≤ 8) (hd : decode cc pc = .ok (.invokevirtual idx, 3)) (hq : pc + 3 = q) (kk : ∀ (r : Int) (μ : ZM), k r μ → zV X q L (.inl r :: S) 274 (z_ov μ)) : zV X pc L (.inr a :: S) 274 (z_ov μ) :=
  v_callV C hM hy hi hlink ho.2 ho.1 hci hcl hR ⟨Nat.le_refl _, Nat.le_refl _, Nat.le_refl _⟩ rfl rfl hsl hd hq (fun rv M' hk => by
    obtain ⟨μ', rfl, r, rfl, h9⟩ := hk
    exact kk _ _ h9)
theorem u_cNi0 (C : zC X cc own nL rt fr lo 274) {y : MethodName} {b : ByteArray} {nL' : Nat} {rt' : Option FieldType} {fr' lo' ci idx N : Nat} {T : u_T} {a : Int} {host : String} {k : Int → ZM → Prop} (hM : zMu y b nL' rt' fr' lo' (.inr a :: []) μ (KI k)) (hy : zY y b nL' rt' 0) (hi : Cond.instanceMethod y ∈ wt ∧ Cond.selects y.cls y y ∈ wt) (hlink : (own, idx, y, host) ∈ wn) (ho : z_ob a ci) (hci : ci < 13) (hcl : vwCl[ci]? = some (y.cls, T, N)) (hR : fr' + 1 ≤ fr ∧ 8 + (nL' + 11) + lo' ≤ lo) (hsl : S.length ≤ 8) (hd : decode cc pc = .ok (.invokevirtual idx, 3)) (hq : pc + 3 = q) (kk : ∀ (r : Int) (μ : ZM), k r μ → zV X q L (.inl r :: S) 274 (z_ov μ)) : zV X pc L (.inr a :: S) 274 (z_ov μ) :=
  v_callVN C hM hy hi hlink ho.2 ho.1 hci hcl hR ⟨Nat.le_refl _, Nat.le_refl _, Nat.le_refl _⟩ rfl rfl hsl hd hq (fun rv M' hk => by
    obtain ⟨μ', rfl, r, rfl, h9⟩ := hk
    exact kk _ _ h9)
theorem u_cSi0 (C : zC X cc own nL rt fr lo 274) {y : MethodName} {b : ByteArray} {nL' : Nat} {rt' : Option FieldType} {fr' lo' idx : Nat} {k : Int → ZM → Prop} (hM : zMu y b nL' rt' fr' lo' [] μ (KI k)) (hy : zY y b nL' rt' 0) (hi : Cond.static y ∈ wt) (hlink : Cond.methodLink own idx y ∈ wt) (hR : fr' + 1 ≤ fr ∧ 8 + (nL' + 11) + lo' ≤ lo) (hsl : S.length ≤ 8) (hd : decode cc pc = .ok (.invokestatic idx, 3)) (hq : pc + 3 = q) (kk : ∀ (r : Int) (μ : ZM), k r μ → zV X q L (.inl r :: S) 274 (z_ov μ)) : zV X pc L (S) 274 (z_ov μ) :=
  v_callS C hM hy hi hlink hR ⟨Nat.le_refl _, Nat.le_refl _, Nat.le_refl _⟩ rfl rfl hsl hd hq (fun rv M' hk => by
    obtain ⟨μ', rfl, r, rfl, h9⟩ := hk
    exact kk _ _ h9)
theorem u_cVi1 (C : zC X cc own nL rt fr lo 274) {y : MethodName} {b : ByteArray} {nL' : Nat} {rt' : Option FieldType} {fr' lo' ci idx N : Nat} {T : u_T} {a : Int} {v1 : ZV} {k : Int → ZM → Prop} (hM : zMu y b nL' rt' fr' lo' (.inr a :: [v1]) μ (KI k)) (hy : zY y b nL' rt' 1) (hi : Cond.instanceMethod y ∈ wt ∧ Cond.selects y.cls y y ∈ wt) (hlink : Cond.methodLink own idx y ∈ wt) (ho : z_ob a ci) (hci : ci < 13) (hcl : vwCl[ci]? = some (y.cls, T, N)) (hR : fr' + 1 ≤ fr ∧ 8 + (nL' + 11) + lo' ≤ lo) (hsl : S.length ≤ 8) (hd : decode cc pc = .ok (.invokevirtual idx, 3)) (hq : pc + 3 = q) (kk : ∀ (r : Int) (μ : ZM), k r μ → zV X q L (.inl r :: S) 274 (z_ov μ)) : zV X pc L (v1 :: .inr a :: S) 274 (z_ov μ) :=
  v_callV C hM hy hi hlink ho.2 ho.1 hci hcl hR ⟨Nat.le_refl _, Nat.le_refl _, Nat.le_refl _⟩ rfl rfl hsl hd hq (fun rv M' hk => by
    obtain ⟨μ', rfl, r, rfl, h9⟩ := hk
    exact kk _ _ h9)
theorem u_cNi1 (C : zC X cc own nL rt fr lo 274) {y : MethodName} {b : ByteArray} {nL' : Nat} {rt' : Option FieldType} {fr' lo' ci idx N : Nat} {T : u_T} {a : Int} {host : String} {v1 : ZV} {k : Int → ZM → Prop} (hM : zMu y b nL' rt' fr' lo' (.inr a :: [v1]) μ (KI k)) (hy : zY y b nL' rt' 1) (hi : Cond.instanceMethod y ∈ wt ∧ Cond.selects y.cls y y ∈ wt) (hlink : (own, idx, y, host) ∈ wn) (ho : z_ob a ci) (hci : ci < 13) (hcl : vwCl[ci]? = some (y.cls, T, N)) (hR : fr' + 1 ≤ fr ∧ 8 + (nL' + 11) + lo' ≤ lo) (hsl : S.length ≤ 8) (hd : decode cc pc = .ok (.invokevirtual idx, 3)) (hq : pc + 3 = q) (kk : ∀ (r : Int) (μ : ZM), k r μ → zV X q L (.inl r :: S) 274 (z_ov μ)) : zV X pc L (v1 :: .inr a :: S) 274 (z_ov μ) :=
  v_callVN C hM hy hi hlink ho.2 ho.1 hci hcl hR ⟨Nat.le_refl _, Nat.le_refl _, Nat.le_refl _⟩ rfl rfl hsl hd hq (fun rv M' hk => by
    obtain ⟨μ', rfl, r, rfl, h9⟩ := hk
    exact kk _ _ h9)
theorem u_cSi1 (C : zC X cc own nL rt fr lo 274) {y : MethodName} {b : ByteArray} {nL' : Nat} {rt' : Option FieldType} {fr' lo' idx : Nat} {v1 : ZV} {k : Int → ZM → Prop} (hM : zMu y b nL' rt' fr' lo' [v1] μ (KI k)) (hy : zY y b nL' rt' 1) (hi : Cond.static y ∈ wt) (hlink : Cond.methodLink own idx y ∈ wt) (hR : fr' + 1 ≤ fr ∧ 8 + (nL' + 11) + lo' ≤ lo) (hsl : S.length ≤ 8) (hd : decode cc pc = .ok (.invokestatic idx, 3)) (hq : pc + 3 = q) (kk : ∀ (r : Int) (μ : ZM), k r μ → zV X q L (.inl r :: S) 274 (z_ov μ)) : zV X pc L (v1 :: S) 274 (z_ov μ) :=
  v_callS C hM hy hi hlink hR ⟨Nat.le_refl _, Nat.le_refl _, Nat.le_refl _⟩ rfl rfl hsl hd hq (fun rv M' hk => by
    obtain ⟨μ', rfl, r, rfl, h9⟩ := hk
    exact kk _ _ h9)
theorem u_cVi2 (C : zC X cc own nL rt fr lo 274) {y : MethodName} {b : ByteArray} {nL' : Nat} {rt' : Option FieldType} {fr' lo' ci idx N : Nat} {T : u_T} {a : Int} {v1 v2 : ZV} {k : Int → ZM → Prop} (hM : zMu y b nL' rt' fr' lo' (.inr a :: [v1, v2]) μ (KI k)) (hy : zY y b nL' rt' 2) (hi : Cond.instanceMethod y ∈ wt ∧ Cond.selects y.cls y y ∈ wt) (hlink : Cond.methodLink own idx y ∈ wt) (ho : z_ob a ci) (hci : ci < 13) (hcl : vwCl[ci]? = some (y.cls, T, N)) (hR : fr' + 1 ≤ fr ∧ 8 + (nL' + 11) + lo' ≤ lo) (hsl : S.length ≤ 8) (hd : decode cc pc = .ok (.invokevirtual idx, 3)) (hq : pc + 3 = q) (kk : ∀ (r : Int) (μ : ZM), k r μ → zV X q L (.inl r :: S) 274 (z_ov μ)) : zV X pc L (v2 :: v1 :: .inr a :: S) 274 (z_ov μ) :=
  v_callV C hM hy hi hlink ho.2 ho.1 hci hcl hR ⟨Nat.le_refl _, Nat.le_refl _, Nat.le_refl _⟩ rfl rfl hsl hd hq (fun rv M' hk => by
    obtain ⟨μ', rfl, r, rfl, h9⟩ := hk
    exact kk _ _ h9)
theorem u_cNi2 (C : zC X cc own nL rt fr lo 274) {y : MethodName} {b : ByteArray} {nL' : Nat} {rt' : Option FieldType} {fr' lo' ci idx N : Nat} {T : u_T} {a : Int} {host : String} {v1 v2 : ZV} {k : Int → ZM → Prop} (hM : zMu y b nL' rt' fr' lo' (.inr a :: [v1, v2]) μ (KI k)) (hy : zY y b nL' rt' 2) (hi : Cond.instanceMethod y ∈ wt ∧ Cond.selects y.cls y y ∈ wt) (hlink : (own, idx, y, host) ∈ wn) (ho : z_ob a ci) (hci : ci < 13) (hcl : vwCl[ci]? = some (y.cls, T, N)) (hR : fr' + 1 ≤ fr ∧ 8 + (nL' + 11) + lo' ≤ lo) (hsl : S.length ≤ 8) (hd : decode cc pc = .ok (.invokevirtual idx, 3)) (hq : pc + 3 = q) (kk : ∀ (r : Int) (μ : ZM), k r μ → zV X q L (.inl r :: S) 274 (z_ov μ)) : zV X pc L (v2 :: v1 :: .inr a :: S) 274 (z_ov μ) :=
  v_callVN C hM hy hi hlink ho.2 ho.1 hci hcl hR ⟨Nat.le_refl _, Nat.le_refl _, Nat.le_refl _⟩ rfl rfl hsl hd hq (fun rv M' hk => by
    obtain ⟨μ', rfl, r, rfl, h9⟩ := hk
    exact kk _ _ h9)
theorem u_cSi2 (C : zC X cc own nL rt fr lo 274) {y : MethodName} {b : ByteArray} {nL' : Nat} {rt' : Option FieldType} {fr' lo' idx : Nat} {v1 v2 : ZV} {k : Int → ZM → Prop} (hM : zMu y b nL' rt' fr' lo' [v1, v2] μ (KI k)) (hy : zY y b nL' rt' 2) (hi : Cond.static y ∈ wt) (hlink : Cond.methodLink own idx y ∈ wt) (hR : fr' + 1 ≤ fr ∧ 8 + (nL' + 11) + lo' ≤ lo) (hsl : S.length ≤ 8) (hd : decode cc pc = .ok (.invokestatic idx, 3)) (hq : pc + 3 = q) (kk : ∀ (r : Int) (μ : ZM), k r μ → zV X q L (.inl r :: S) 274 (z_ov μ)) : zV X pc L (v2 :: v1 :: S) 274 (z_ov μ) :=
  v_callS C hM hy hi hlink hR ⟨Nat.le_refl _, Nat.le_refl _, Nat.le_refl _⟩ rfl rfl hsl hd hq (fun rv M' hk => by
    obtain ⟨μ', rfl, r, rfl, h9⟩ := hk
    exact kk _ _ h9)
theorem u_cVi3 (C : zC X cc own nL rt fr lo 274) {y : MethodName} {b : ByteArray} {nL' : Nat} {rt' : Option FieldType} {fr' lo' ci idx N : Nat} {T : u_T} {a : Int} {v1 v2 v3 : ZV} {k : Int → ZM → Prop} (hM : zMu y b nL' rt' fr' lo' (.inr a :: [v1, v2, v3]) μ (KI k)) (hy : zY y b nL' rt' 3) (hi : Cond.instanceMethod y ∈ wt ∧ Cond.selects y.cls y y ∈ wt) (hlink : Cond.methodLink own idx y ∈ wt) (ho : z_ob a ci) (hci : ci < 13) (hcl : vwCl[ci]? = some (y.cls, T, N)) (hR : fr' + 1 ≤ fr ∧ 8 + (nL' + 11) + lo' ≤ lo) (hsl : S.length ≤ 8) (hd : decode cc pc = .ok (.invokevirtual idx, 3)) (hq : pc + 3 = q) (kk : ∀ (r : Int) (μ : ZM), k r μ → zV X q L (.inl r :: S) 274 (z_ov μ)) : zV X pc L (v3 :: v2 :: v1 :: .inr a :: S) 274 (z_ov μ) :=
  v_callV C hM hy hi hlink ho.2 ho.1 hci hcl hR ⟨Nat.le_refl _, Nat.le_refl _, Nat.le_refl _⟩ rfl rfl hsl hd hq (fun rv M' hk => by
    obtain ⟨μ', rfl, r, rfl, h9⟩ := hk
    exact kk _ _ h9)
theorem u_cNi3 (C : zC X cc own nL rt fr lo 274) {y : MethodName} {b : ByteArray} {nL' : Nat} {rt' : Option FieldType} {fr' lo' ci idx N : Nat} {T : u_T} {a : Int} {host : String} {v1 v2 v3 : ZV} {k : Int → ZM → Prop} (hM : zMu y b nL' rt' fr' lo' (.inr a :: [v1, v2, v3]) μ (KI k)) (hy : zY y b nL' rt' 3) (hi : Cond.instanceMethod y ∈ wt ∧ Cond.selects y.cls y y ∈ wt) (hlink : (own, idx, y, host) ∈ wn) (ho : z_ob a ci) (hci : ci < 13) (hcl : vwCl[ci]? = some (y.cls, T, N)) (hR : fr' + 1 ≤ fr ∧ 8 + (nL' + 11) + lo' ≤ lo) (hsl : S.length ≤ 8) (hd : decode cc pc = .ok (.invokevirtual idx, 3)) (hq : pc + 3 = q) (kk : ∀ (r : Int) (μ : ZM), k r μ → zV X q L (.inl r :: S) 274 (z_ov μ)) : zV X pc L (v3 :: v2 :: v1 :: .inr a :: S) 274 (z_ov μ) :=
  v_callVN C hM hy hi hlink ho.2 ho.1 hci hcl hR ⟨Nat.le_refl _, Nat.le_refl _, Nat.le_refl _⟩ rfl rfl hsl hd hq (fun rv M' hk => by
    obtain ⟨μ', rfl, r, rfl, h9⟩ := hk
    exact kk _ _ h9)
theorem u_cSi3 (C : zC X cc own nL rt fr lo 274) {y : MethodName} {b : ByteArray} {nL' : Nat} {rt' : Option FieldType} {fr' lo' idx : Nat} {v1 v2 v3 : ZV} {k : Int → ZM → Prop} (hM : zMu y b nL' rt' fr' lo' [v1, v2, v3] μ (KI k)) (hy : zY y b nL' rt' 3) (hi : Cond.static y ∈ wt) (hlink : Cond.methodLink own idx y ∈ wt) (hR : fr' + 1 ≤ fr ∧ 8 + (nL' + 11) + lo' ≤ lo) (hsl : S.length ≤ 8) (hd : decode cc pc = .ok (.invokestatic idx, 3)) (hq : pc + 3 = q) (kk : ∀ (r : Int) (μ : ZM), k r μ → zV X q L (.inl r :: S) 274 (z_ov μ)) : zV X pc L (v3 :: v2 :: v1 :: S) 274 (z_ov μ) :=
  v_callS C hM hy hi hlink hR ⟨Nat.le_refl _, Nat.le_refl _, Nat.le_refl _⟩ rfl rfl hsl hd hq (fun rv M' hk => by
    obtain ⟨μ', rfl, r, rfl, h9⟩ := hk
    exact kk _ _ h9)
theorem u_cVi4 (C : zC X cc own nL rt fr lo 274) {y : MethodName} {b : ByteArray} {nL' : Nat} {rt' : Option FieldType} {fr' lo' ci idx N : Nat} {T : u_T} {a : Int} {v1 v2 v3 v4 : ZV} {k : Int → ZM → Prop} (hM : zMu y b nL' rt' fr' lo' (.inr a :: [v1, v2, v3, v4]) μ (KI k)) (hy : zY y b nL' rt' 4) (hi : Cond.instanceMethod y ∈ wt ∧ Cond.selects y.cls y y ∈ wt) (hlink : Cond.methodLink own idx y ∈ wt) (ho : z_ob a ci) (hci : ci < 13) (hcl : vwCl[ci]? = some (y.cls, T, N)) (hR : fr' + 1 ≤ fr ∧ 8 + (nL' + 11) + lo' ≤ lo) (hsl : S.length ≤ 8) (hd : decode cc pc = .ok (.invokevirtual idx, 3)) (hq : pc + 3 = q) (kk : ∀ (r : Int) (μ : ZM), k r μ → zV X q L (.inl r :: S) 274 (z_ov μ)) : zV X pc L (v4 :: v3 :: v2 :: v1 :: .inr a :: S) 274 (z_ov μ) :=
  v_callV C hM hy hi hlink ho.2 ho.1 hci hcl hR ⟨Nat.le_refl _, Nat.le_refl _, Nat.le_refl _⟩ rfl rfl hsl hd hq (fun rv M' hk => by
    obtain ⟨μ', rfl, r, rfl, h9⟩ := hk
    exact kk _ _ h9)
theorem u_cNi4 (C : zC X cc own nL rt fr lo 274) {y : MethodName} {b : ByteArray} {nL' : Nat} {rt' : Option FieldType} {fr' lo' ci idx N : Nat} {T : u_T} {a : Int} {host : String} {v1 v2 v3 v4 : ZV} {k : Int → ZM → Prop} (hM : zMu y b nL' rt' fr' lo' (.inr a :: [v1, v2, v3, v4]) μ (KI k)) (hy : zY y b nL' rt' 4) (hi : Cond.instanceMethod y ∈ wt ∧ Cond.selects y.cls y y ∈ wt) (hlink : (own, idx, y, host) ∈ wn) (ho : z_ob a ci) (hci : ci < 13) (hcl : vwCl[ci]? = some (y.cls, T, N)) (hR : fr' + 1 ≤ fr ∧ 8 + (nL' + 11) + lo' ≤ lo) (hsl : S.length ≤ 8) (hd : decode cc pc = .ok (.invokevirtual idx, 3)) (hq : pc + 3 = q) (kk : ∀ (r : Int) (μ : ZM), k r μ → zV X q L (.inl r :: S) 274 (z_ov μ)) : zV X pc L (v4 :: v3 :: v2 :: v1 :: .inr a :: S) 274 (z_ov μ) :=
  v_callVN C hM hy hi hlink ho.2 ho.1 hci hcl hR ⟨Nat.le_refl _, Nat.le_refl _, Nat.le_refl _⟩ rfl rfl hsl hd hq (fun rv M' hk => by
    obtain ⟨μ', rfl, r, rfl, h9⟩ := hk
    exact kk _ _ h9)
theorem u_cSi4 (C : zC X cc own nL rt fr lo 274) {y : MethodName} {b : ByteArray} {nL' : Nat} {rt' : Option FieldType} {fr' lo' idx : Nat} {v1 v2 v3 v4 : ZV} {k : Int → ZM → Prop} (hM : zMu y b nL' rt' fr' lo' [v1, v2, v3, v4] μ (KI k)) (hy : zY y b nL' rt' 4) (hi : Cond.static y ∈ wt) (hlink : Cond.methodLink own idx y ∈ wt) (hR : fr' + 1 ≤ fr ∧ 8 + (nL' + 11) + lo' ≤ lo) (hsl : S.length ≤ 8) (hd : decode cc pc = .ok (.invokestatic idx, 3)) (hq : pc + 3 = q) (kk : ∀ (r : Int) (μ : ZM), k r μ → zV X q L (.inl r :: S) 274 (z_ov μ)) : zV X pc L (v4 :: v3 :: v2 :: v1 :: S) 274 (z_ov μ) :=
  v_callS C hM hy hi hlink hR ⟨Nat.le_refl _, Nat.le_refl _, Nat.le_refl _⟩ rfl rfl hsl hd hq (fun rv M' hk => by
    obtain ⟨μ', rfl, r, rfl, h9⟩ := hk
    exact kk _ _ h9)
theorem u_cVi5 (C : zC X cc own nL rt fr lo 274) {y : MethodName} {b : ByteArray} {nL' : Nat} {rt' : Option FieldType} {fr' lo' ci idx N : Nat} {T : u_T} {a : Int} {v1 v2 v3 v4 v5 : ZV} {k : Int → ZM → Prop} (hM : zMu y b nL' rt' fr' lo' (.inr a :: [v1, v2, v3, v4, v5]) μ (KI k)) (hy : zY y b nL' rt' 5) (hi : Cond.instanceMethod y ∈ wt ∧ Cond.selects y.cls y y ∈ wt) (hlink : Cond.methodLink own idx y ∈ wt) (ho : z_ob a ci) (hci : ci < 13) (hcl : vwCl[ci]? = some (y.cls, T, N)) (hR : fr' + 1 ≤ fr ∧ 8 + (nL' + 11) + lo' ≤ lo) (hsl : S.length ≤ 8) (hd : decode cc pc = .ok (.invokevirtual idx, 3)) (hq : pc + 3 = q) (kk : ∀ (r : Int) (μ : ZM), k r μ → zV X q L (.inl r :: S) 274 (z_ov μ)) : zV X pc L (v5 :: v4 :: v3 :: v2 :: v1 :: .inr a :: S) 274 (z_ov μ) :=
  v_callV C hM hy hi hlink ho.2 ho.1 hci hcl hR ⟨Nat.le_refl _, Nat.le_refl _, Nat.le_refl _⟩ rfl rfl hsl hd hq (fun rv M' hk => by
    obtain ⟨μ', rfl, r, rfl, h9⟩ := hk
    exact kk _ _ h9)
theorem u_cNi5 (C : zC X cc own nL rt fr lo 274) {y : MethodName} {b : ByteArray} {nL' : Nat} {rt' : Option FieldType} {fr' lo' ci idx N : Nat} {T : u_T} {a : Int} {host : String} {v1 v2 v3 v4 v5 : ZV} {k : Int → ZM → Prop} (hM : zMu y b nL' rt' fr' lo' (.inr a :: [v1, v2, v3, v4, v5]) μ (KI k)) (hy : zY y b nL' rt' 5) (hi : Cond.instanceMethod y ∈ wt ∧ Cond.selects y.cls y y ∈ wt) (hlink : (own, idx, y, host) ∈ wn) (ho : z_ob a ci) (hci : ci < 13) (hcl : vwCl[ci]? = some (y.cls, T, N)) (hR : fr' + 1 ≤ fr ∧ 8 + (nL' + 11) + lo' ≤ lo) (hsl : S.length ≤ 8) (hd : decode cc pc = .ok (.invokevirtual idx, 3)) (hq : pc + 3 = q) (kk : ∀ (r : Int) (μ : ZM), k r μ → zV X q L (.inl r :: S) 274 (z_ov μ)) : zV X pc L (v5 :: v4 :: v3 :: v2 :: v1 :: .inr a :: S) 274 (z_ov μ) :=
  v_callVN C hM hy hi hlink ho.2 ho.1 hci hcl hR ⟨Nat.le_refl _, Nat.le_refl _, Nat.le_refl _⟩ rfl rfl hsl hd hq (fun rv M' hk => by
    obtain ⟨μ', rfl, r, rfl, h9⟩ := hk
    exact kk _ _ h9)
theorem u_cSi5 (C : zC X cc own nL rt fr lo 274) {y : MethodName} {b : ByteArray} {nL' : Nat} {rt' : Option FieldType} {fr' lo' idx : Nat} {v1 v2 v3 v4 v5 : ZV} {k : Int → ZM → Prop} (hM : zMu y b nL' rt' fr' lo' [v1, v2, v3, v4, v5] μ (KI k)) (hy : zY y b nL' rt' 5) (hi : Cond.static y ∈ wt) (hlink : Cond.methodLink own idx y ∈ wt) (hR : fr' + 1 ≤ fr ∧ 8 + (nL' + 11) + lo' ≤ lo) (hsl : S.length ≤ 8) (hd : decode cc pc = .ok (.invokestatic idx, 3)) (hq : pc + 3 = q) (kk : ∀ (r : Int) (μ : ZM), k r μ → zV X q L (.inl r :: S) 274 (z_ov μ)) : zV X pc L (v5 :: v4 :: v3 :: v2 :: v1 :: S) 274 (z_ov μ) :=
  v_callS C hM hy hi hlink hR ⟨Nat.le_refl _, Nat.le_refl _, Nat.le_refl _⟩ rfl rfl hsl hd hq (fun rv M' hk => by
    obtain ⟨μ', rfl, r, rfl, h9⟩ := hk
    exact kk _ _ h9)
theorem u_cVi6 (C : zC X cc own nL rt fr lo 274) {y : MethodName} {b : ByteArray} {nL' : Nat} {rt' : Option FieldType} {fr' lo' ci idx N : Nat} {T : u_T} {a : Int} {v1 v2 v3 v4 v5 v6 : ZV} {k : Int → ZM → Prop} (hM : zMu y b nL' rt' fr' lo' (.inr a :: [v1, v2, v3, v4, v5, v6]) μ (KI k)) (hy : zY y b nL' rt' 6) (hi : Cond.instanceMethod y ∈ wt ∧ Cond.selects y.cls y y ∈ wt) (hlink : Cond.methodLink own idx y ∈ wt) (ho : z_ob a ci) (hci : ci < 13) (hcl : vwCl[ci]? = some (y.cls, T, N)) (hR : fr' + 1 ≤ fr ∧ 8 + (nL' + 11) + lo' ≤ lo) (hsl : S.length ≤ 8) (hd : decode cc pc = .ok (.invokevirtual idx, 3)) (hq : pc + 3 = q) (kk : ∀ (r : Int) (μ : ZM), k r μ → zV X q L (.inl r :: S) 274 (z_ov μ)) : zV X pc L (v6 :: v5 :: v4 :: v3 :: v2 :: v1 :: .inr a :: S) 274 (z_ov μ) :=
  v_callV C hM hy hi hlink ho.2 ho.1 hci hcl hR ⟨Nat.le_refl _, Nat.le_refl _, Nat.le_refl _⟩ rfl rfl hsl hd hq (fun rv M' hk => by
    obtain ⟨μ', rfl, r, rfl, h9⟩ := hk
    exact kk _ _ h9)
theorem u_cNi6 (C : zC X cc own nL rt fr lo 274) {y : MethodName} {b : ByteArray} {nL' : Nat} {rt' : Option FieldType} {fr' lo' ci idx N : Nat} {T : u_T} {a : Int} {host : String} {v1 v2 v3 v4 v5 v6 : ZV} {k : Int → ZM → Prop} (hM : zMu y b nL' rt' fr' lo' (.inr a :: [v1, v2, v3, v4, v5, v6]) μ (KI k)) (hy : zY y b nL' rt' 6) (hi : Cond.instanceMethod y ∈ wt ∧ Cond.selects y.cls y y ∈ wt) (hlink : (own, idx, y, host) ∈ wn) (ho : z_ob a ci) (hci : ci < 13) (hcl : vwCl[ci]? = some (y.cls, T, N)) (hR : fr' + 1 ≤ fr ∧ 8 + (nL' + 11) + lo' ≤ lo) (hsl : S.length ≤ 8) (hd : decode cc pc = .ok (.invokevirtual idx, 3)) (hq : pc + 3 = q) (kk : ∀ (r : Int) (μ : ZM), k r μ → zV X q L (.inl r :: S) 274 (z_ov μ)) : zV X pc L (v6 :: v5 :: v4 :: v3 :: v2 :: v1 :: .inr a :: S) 274 (z_ov μ) :=
  v_callVN C hM hy hi hlink ho.2 ho.1 hci hcl hR ⟨Nat.le_refl _, Nat.le_refl _, Nat.le_refl _⟩ rfl rfl hsl hd hq (fun rv M' hk => by
    obtain ⟨μ', rfl, r, rfl, h9⟩ := hk
    exact kk _ _ h9)
theorem u_cSi6 (C : zC X cc own nL rt fr lo 274) {y : MethodName} {b : ByteArray} {nL' : Nat} {rt' : Option FieldType} {fr' lo' idx : Nat} {v1 v2 v3 v4 v5 v6 : ZV} {k : Int → ZM → Prop} (hM : zMu y b nL' rt' fr' lo' [v1, v2, v3, v4, v5, v6] μ (KI k)) (hy : zY y b nL' rt' 6) (hi : Cond.static y ∈ wt) (hlink : Cond.methodLink own idx y ∈ wt) (hR : fr' + 1 ≤ fr ∧ 8 + (nL' + 11) + lo' ≤ lo) (hsl : S.length ≤ 8) (hd : decode cc pc = .ok (.invokestatic idx, 3)) (hq : pc + 3 = q) (kk : ∀ (r : Int) (μ : ZM), k r μ → zV X q L (.inl r :: S) 274 (z_ov μ)) : zV X pc L (v6 :: v5 :: v4 :: v3 :: v2 :: v1 :: S) 274 (z_ov μ) :=
  v_callS C hM hy hi hlink hR ⟨Nat.le_refl _, Nat.le_refl _, Nat.le_refl _⟩ rfl rfl hsl hd hq (fun rv M' hk => by
    obtain ⟨μ', rfl, r, rfl, h9⟩ := hk
    exact kk _ _ h9)
theorem u_cVa0 (C : zC X cc own nL rt fr lo 274) {y : MethodName} {b : ByteArray} {nL' : Nat} {rt' : Option FieldType} {fr' lo' ci idx N : Nat} {T : u_T} {a : Int} {k : Int → ZM → Prop} (hM : zMu y b nL' rt' fr' lo' (.inr a :: []) μ (KA k)) (hy : zY y b nL' rt' 0) (hi : Cond.instanceMethod y ∈ wt ∧ Cond.selects y.cls y y ∈ wt) (hlink : Cond.methodLink own idx y ∈ wt) (ho : z_ob a ci) (hci : ci < 13) (hcl : vwCl[ci]? = some (y.cls, T, N)) (hR : fr' + 1 ≤ fr ∧ 8 + (nL' + 11) + lo' ≤ lo) (hsl : S.length ≤ 8) (hd : decode cc pc = .ok (.invokevirtual idx, 3)) (hq : pc + 3 = q) (kk : ∀ (r : Int) (μ : ZM), k r μ → zV X q L (.inr r :: S) 274 (z_ov μ)) : zV X pc L (.inr a :: S) 274 (z_ov μ) :=
  v_callV C hM hy hi hlink ho.2 ho.1 hci hcl hR ⟨Nat.le_refl _, Nat.le_refl _, Nat.le_refl _⟩ rfl rfl hsl hd hq (fun rv M' hk => by
    obtain ⟨μ', rfl, r, rfl, h9⟩ := hk
    exact kk _ _ h9)
theorem u_cNa0 (C : zC X cc own nL rt fr lo 274) {y : MethodName} {b : ByteArray} {nL' : Nat} {rt' : Option FieldType} {fr' lo' ci idx N : Nat} {T : u_T} {a : Int} {host : String} {k : Int → ZM → Prop} (hM : zMu y b nL' rt' fr' lo' (.inr a :: []) μ (KA k)) (hy : zY y b nL' rt' 0) (hi : Cond.instanceMethod y ∈ wt ∧ Cond.selects y.cls y y ∈ wt) (hlink : (own, idx, y, host) ∈ wn) (ho : z_ob a ci) (hci : ci < 13) (hcl : vwCl[ci]? = some (y.cls, T, N)) (hR : fr' + 1 ≤ fr ∧ 8 + (nL' + 11) + lo' ≤ lo) (hsl : S.length ≤ 8) (hd : decode cc pc = .ok (.invokevirtual idx, 3)) (hq : pc + 3 = q) (kk : ∀ (r : Int) (μ : ZM), k r μ → zV X q L (.inr r :: S) 274 (z_ov μ)) : zV X pc L (.inr a :: S) 274 (z_ov μ) :=
  v_callVN C hM hy hi hlink ho.2 ho.1 hci hcl hR ⟨Nat.le_refl _, Nat.le_refl _, Nat.le_refl _⟩ rfl rfl hsl hd hq (fun rv M' hk => by
    obtain ⟨μ', rfl, r, rfl, h9⟩ := hk
    exact kk _ _ h9)
theorem u_cSa0 (C : zC X cc own nL rt fr lo 274) {y : MethodName} {b : ByteArray} {nL' : Nat} {rt' : Option FieldType} {fr' lo' idx : Nat} {k : Int → ZM → Prop} (hM : zMu y b nL' rt' fr' lo' [] μ (KA k)) (hy : zY y b nL' rt' 0) (hi : Cond.static y ∈ wt) (hlink : Cond.methodLink own idx y ∈ wt) (hR : fr' + 1 ≤ fr ∧ 8 + (nL' + 11) + lo' ≤ lo) (hsl : S.length ≤ 8) (hd : decode cc pc = .ok (.invokestatic idx, 3)) (hq : pc + 3 = q) (kk : ∀ (r : Int) (μ : ZM), k r μ → zV X q L (.inr r :: S) 274 (z_ov μ)) : zV X pc L (S) 274 (z_ov μ) :=
  v_callS C hM hy hi hlink hR ⟨Nat.le_refl _, Nat.le_refl _, Nat.le_refl _⟩ rfl rfl hsl hd hq (fun rv M' hk => by
    obtain ⟨μ', rfl, r, rfl, h9⟩ := hk
    exact kk _ _ h9)
theorem u_cVa1 (C : zC X cc own nL rt fr lo 274) {y : MethodName} {b : ByteArray} {nL' : Nat} {rt' : Option FieldType} {fr' lo' ci idx N : Nat} {T : u_T} {a : Int} {v1 : ZV} {k : Int → ZM → Prop} (hM : zMu y b nL' rt' fr' lo' (.inr a :: [v1]) μ (KA k)) (hy : zY y b nL' rt' 1) (hi : Cond.instanceMethod y ∈ wt ∧ Cond.selects y.cls y y ∈ wt) (hlink : Cond.methodLink own idx y ∈ wt) (ho : z_ob a ci) (hci : ci < 13) (hcl : vwCl[ci]? = some (y.cls, T, N)) (hR : fr' + 1 ≤ fr ∧ 8 + (nL' + 11) + lo' ≤ lo) (hsl : S.length ≤ 8) (hd : decode cc pc = .ok (.invokevirtual idx, 3)) (hq : pc + 3 = q) (kk : ∀ (r : Int) (μ : ZM), k r μ → zV X q L (.inr r :: S) 274 (z_ov μ)) : zV X pc L (v1 :: .inr a :: S) 274 (z_ov μ) :=
  v_callV C hM hy hi hlink ho.2 ho.1 hci hcl hR ⟨Nat.le_refl _, Nat.le_refl _, Nat.le_refl _⟩ rfl rfl hsl hd hq (fun rv M' hk => by
    obtain ⟨μ', rfl, r, rfl, h9⟩ := hk
    exact kk _ _ h9)
theorem u_cNa1 (C : zC X cc own nL rt fr lo 274) {y : MethodName} {b : ByteArray} {nL' : Nat} {rt' : Option FieldType} {fr' lo' ci idx N : Nat} {T : u_T} {a : Int} {host : String} {v1 : ZV} {k : Int → ZM → Prop} (hM : zMu y b nL' rt' fr' lo' (.inr a :: [v1]) μ (KA k)) (hy : zY y b nL' rt' 1) (hi : Cond.instanceMethod y ∈ wt ∧ Cond.selects y.cls y y ∈ wt) (hlink : (own, idx, y, host) ∈ wn) (ho : z_ob a ci) (hci : ci < 13) (hcl : vwCl[ci]? = some (y.cls, T, N)) (hR : fr' + 1 ≤ fr ∧ 8 + (nL' + 11) + lo' ≤ lo) (hsl : S.length ≤ 8) (hd : decode cc pc = .ok (.invokevirtual idx, 3)) (hq : pc + 3 = q) (kk : ∀ (r : Int) (μ : ZM), k r μ → zV X q L (.inr r :: S) 274 (z_ov μ)) : zV X pc L (v1 :: .inr a :: S) 274 (z_ov μ) :=
  v_callVN C hM hy hi hlink ho.2 ho.1 hci hcl hR ⟨Nat.le_refl _, Nat.le_refl _, Nat.le_refl _⟩ rfl rfl hsl hd hq (fun rv M' hk => by
    obtain ⟨μ', rfl, r, rfl, h9⟩ := hk
    exact kk _ _ h9)
theorem u_cSa1 (C : zC X cc own nL rt fr lo 274) {y : MethodName} {b : ByteArray} {nL' : Nat} {rt' : Option FieldType} {fr' lo' idx : Nat} {v1 : ZV} {k : Int → ZM → Prop} (hM : zMu y b nL' rt' fr' lo' [v1] μ (KA k)) (hy : zY y b nL' rt' 1) (hi : Cond.static y ∈ wt) (hlink : Cond.methodLink own idx y ∈ wt) (hR : fr' + 1 ≤ fr ∧ 8 + (nL' + 11) + lo' ≤ lo) (hsl : S.length ≤ 8) (hd : decode cc pc = .ok (.invokestatic idx, 3)) (hq : pc + 3 = q) (kk : ∀ (r : Int) (μ : ZM), k r μ → zV X q L (.inr r :: S) 274 (z_ov μ)) : zV X pc L (v1 :: S) 274 (z_ov μ) :=
  v_callS C hM hy hi hlink hR ⟨Nat.le_refl _, Nat.le_refl _, Nat.le_refl _⟩ rfl rfl hsl hd hq (fun rv M' hk => by
    obtain ⟨μ', rfl, r, rfl, h9⟩ := hk
    exact kk _ _ h9)
theorem u_cVa2 (C : zC X cc own nL rt fr lo 274) {y : MethodName} {b : ByteArray} {nL' : Nat} {rt' : Option FieldType} {fr' lo' ci idx N : Nat} {T : u_T} {a : Int} {v1 v2 : ZV} {k : Int → ZM → Prop} (hM : zMu y b nL' rt' fr' lo' (.inr a :: [v1, v2]) μ (KA k)) (hy : zY y b nL' rt' 2) (hi : Cond.instanceMethod y ∈ wt ∧ Cond.selects y.cls y y ∈ wt) (hlink : Cond.methodLink own idx y ∈ wt) (ho : z_ob a ci) (hci : ci < 13) (hcl : vwCl[ci]? = some (y.cls, T, N)) (hR : fr' + 1 ≤ fr ∧ 8 + (nL' + 11) + lo' ≤ lo) (hsl : S.length ≤ 8) (hd : decode cc pc = .ok (.invokevirtual idx, 3)) (hq : pc + 3 = q) (kk : ∀ (r : Int) (μ : ZM), k r μ → zV X q L (.inr r :: S) 274 (z_ov μ)) : zV X pc L (v2 :: v1 :: .inr a :: S) 274 (z_ov μ) :=
  v_callV C hM hy hi hlink ho.2 ho.1 hci hcl hR ⟨Nat.le_refl _, Nat.le_refl _, Nat.le_refl _⟩ rfl rfl hsl hd hq (fun rv M' hk => by
    obtain ⟨μ', rfl, r, rfl, h9⟩ := hk
    exact kk _ _ h9)
theorem u_cNa2 (C : zC X cc own nL rt fr lo 274) {y : MethodName} {b : ByteArray} {nL' : Nat} {rt' : Option FieldType} {fr' lo' ci idx N : Nat} {T : u_T} {a : Int} {host : String} {v1 v2 : ZV} {k : Int → ZM → Prop} (hM : zMu y b nL' rt' fr' lo' (.inr a :: [v1, v2]) μ (KA k)) (hy : zY y b nL' rt' 2) (hi : Cond.instanceMethod y ∈ wt ∧ Cond.selects y.cls y y ∈ wt) (hlink : (own, idx, y, host) ∈ wn) (ho : z_ob a ci) (hci : ci < 13) (hcl : vwCl[ci]? = some (y.cls, T, N)) (hR : fr' + 1 ≤ fr ∧ 8 + (nL' + 11) + lo' ≤ lo) (hsl : S.length ≤ 8) (hd : decode cc pc = .ok (.invokevirtual idx, 3)) (hq : pc + 3 = q) (kk : ∀ (r : Int) (μ : ZM), k r μ → zV X q L (.inr r :: S) 274 (z_ov μ)) : zV X pc L (v2 :: v1 :: .inr a :: S) 274 (z_ov μ) :=
  v_callVN C hM hy hi hlink ho.2 ho.1 hci hcl hR ⟨Nat.le_refl _, Nat.le_refl _, Nat.le_refl _⟩ rfl rfl hsl hd hq (fun rv M' hk => by
    obtain ⟨μ', rfl, r, rfl, h9⟩ := hk
    exact kk _ _ h9)
theorem u_cSa2 (C : zC X cc own nL rt fr lo 274) {y : MethodName} {b : ByteArray} {nL' : Nat} {rt' : Option FieldType} {fr' lo' idx : Nat} {v1 v2 : ZV} {k : Int → ZM → Prop} (hM : zMu y b nL' rt' fr' lo' [v1, v2] μ (KA k)) (hy : zY y b nL' rt' 2) (hi : Cond.static y ∈ wt) (hlink : Cond.methodLink own idx y ∈ wt) (hR : fr' + 1 ≤ fr ∧ 8 + (nL' + 11) + lo' ≤ lo) (hsl : S.length ≤ 8) (hd : decode cc pc = .ok (.invokestatic idx, 3)) (hq : pc + 3 = q) (kk : ∀ (r : Int) (μ : ZM), k r μ → zV X q L (.inr r :: S) 274 (z_ov μ)) : zV X pc L (v2 :: v1 :: S) 274 (z_ov μ) :=
  v_callS C hM hy hi hlink hR ⟨Nat.le_refl _, Nat.le_refl _, Nat.le_refl _⟩ rfl rfl hsl hd hq (fun rv M' hk => by
    obtain ⟨μ', rfl, r, rfl, h9⟩ := hk
    exact kk _ _ h9)
theorem u_cVa3 (C : zC X cc own nL rt fr lo 274) {y : MethodName} {b : ByteArray} {nL' : Nat} {rt' : Option FieldType} {fr' lo' ci idx N : Nat} {T : u_T} {a : Int} {v1 v2 v3 : ZV} {k : Int → ZM → Prop} (hM : zMu y b nL' rt' fr' lo' (.inr a :: [v1, v2, v3]) μ (KA k)) (hy : zY y b nL' rt' 3) (hi : Cond.instanceMethod y ∈ wt ∧ Cond.selects y.cls y y ∈ wt) (hlink : Cond.methodLink own idx y ∈ wt) (ho : z_ob a ci) (hci : ci < 13) (hcl : vwCl[ci]? = some (y.cls, T, N)) (hR : fr' + 1 ≤ fr ∧ 8 + (nL' + 11) + lo' ≤ lo) (hsl : S.length ≤ 8) (hd : decode cc pc = .ok (.invokevirtual idx, 3)) (hq : pc + 3 = q) (kk : ∀ (r : Int) (μ : ZM), k r μ → zV X q L (.inr r :: S) 274 (z_ov μ)) : zV X pc L (v3 :: v2 :: v1 :: .inr a :: S) 274 (z_ov μ) :=
  v_callV C hM hy hi hlink ho.2 ho.1 hci hcl hR ⟨Nat.le_refl _, Nat.le_refl _, Nat.le_refl _⟩ rfl rfl hsl hd hq (fun rv M' hk => by
    obtain ⟨μ', rfl, r, rfl, h9⟩ := hk
    exact kk _ _ h9)
theorem u_cNa3 (C : zC X cc own nL rt fr lo 274) {y : MethodName} {b : ByteArray} {nL' : Nat} {rt' : Option FieldType} {fr' lo' ci idx N : Nat} {T : u_T} {a : Int} {host : String} {v1 v2 v3 : ZV} {k : Int → ZM → Prop} (hM : zMu y b nL' rt' fr' lo' (.inr a :: [v1, v2, v3]) μ (KA k)) (hy : zY y b nL' rt' 3) (hi : Cond.instanceMethod y ∈ wt ∧ Cond.selects y.cls y y ∈ wt) (hlink : (own, idx, y, host) ∈ wn) (ho : z_ob a ci) (hci : ci < 13) (hcl : vwCl[ci]? = some (y.cls, T, N)) (hR : fr' + 1 ≤ fr ∧ 8 + (nL' + 11) + lo' ≤ lo) (hsl : S.length ≤ 8) (hd : decode cc pc = .ok (.invokevirtual idx, 3)) (hq : pc + 3 = q) (kk : ∀ (r : Int) (μ : ZM), k r μ → zV X q L (.inr r :: S) 274 (z_ov μ)) : zV X pc L (v3 :: v2 :: v1 :: .inr a :: S) 274 (z_ov μ) :=
  v_callVN C hM hy hi hlink ho.2 ho.1 hci hcl hR ⟨Nat.le_refl _, Nat.le_refl _, Nat.le_refl _⟩ rfl rfl hsl hd hq (fun rv M' hk => by
    obtain ⟨μ', rfl, r, rfl, h9⟩ := hk
    exact kk _ _ h9)
theorem u_cSa3 (C : zC X cc own nL rt fr lo 274) {y : MethodName} {b : ByteArray} {nL' : Nat} {rt' : Option FieldType} {fr' lo' idx : Nat} {v1 v2 v3 : ZV} {k : Int → ZM → Prop} (hM : zMu y b nL' rt' fr' lo' [v1, v2, v3] μ (KA k)) (hy : zY y b nL' rt' 3) (hi : Cond.static y ∈ wt) (hlink : Cond.methodLink own idx y ∈ wt) (hR : fr' + 1 ≤ fr ∧ 8 + (nL' + 11) + lo' ≤ lo) (hsl : S.length ≤ 8) (hd : decode cc pc = .ok (.invokestatic idx, 3)) (hq : pc + 3 = q) (kk : ∀ (r : Int) (μ : ZM), k r μ → zV X q L (.inr r :: S) 274 (z_ov μ)) : zV X pc L (v3 :: v2 :: v1 :: S) 274 (z_ov μ) :=
  v_callS C hM hy hi hlink hR ⟨Nat.le_refl _, Nat.le_refl _, Nat.le_refl _⟩ rfl rfl hsl hd hq (fun rv M' hk => by
    obtain ⟨μ', rfl, r, rfl, h9⟩ := hk
    exact kk _ _ h9)
theorem u_cVa4 (C : zC X cc own nL rt fr lo 274) {y : MethodName} {b : ByteArray} {nL' : Nat} {rt' : Option FieldType} {fr' lo' ci idx N : Nat} {T : u_T} {a : Int} {v1 v2 v3 v4 : ZV} {k : Int → ZM → Prop} (hM : zMu y b nL' rt' fr' lo' (.inr a :: [v1, v2, v3, v4]) μ (KA k)) (hy : zY y b nL' rt' 4) (hi : Cond.instanceMethod y ∈ wt ∧ Cond.selects y.cls y y ∈ wt) (hlink : Cond.methodLink own idx y ∈ wt) (ho : z_ob a ci) (hci : ci < 13) (hcl : vwCl[ci]? = some (y.cls, T, N)) (hR : fr' + 1 ≤ fr ∧ 8 + (nL' + 11) + lo' ≤ lo) (hsl : S.length ≤ 8) (hd : decode cc pc = .ok (.invokevirtual idx, 3)) (hq : pc + 3 = q) (kk : ∀ (r : Int) (μ : ZM), k r μ → zV X q L (.inr r :: S) 274 (z_ov μ)) : zV X pc L (v4 :: v3 :: v2 :: v1 :: .inr a :: S) 274 (z_ov μ) :=
  v_callV C hM hy hi hlink ho.2 ho.1 hci hcl hR ⟨Nat.le_refl _, Nat.le_refl _, Nat.le_refl _⟩ rfl rfl hsl hd hq (fun rv M' hk => by
    obtain ⟨μ', rfl, r, rfl, h9⟩ := hk
    exact kk _ _ h9)
theorem u_cNa4 (C : zC X cc own nL rt fr lo 274) {y : MethodName} {b : ByteArray} {nL' : Nat} {rt' : Option FieldType} {fr' lo' ci idx N : Nat} {T : u_T} {a : Int} {host : String} {v1 v2 v3 v4 : ZV} {k : Int → ZM → Prop} (hM : zMu y b nL' rt' fr' lo' (.inr a :: [v1, v2, v3, v4]) μ (KA k)) (hy : zY y b nL' rt' 4) (hi : Cond.instanceMethod y ∈ wt ∧ Cond.selects y.cls y y ∈ wt) (hlink : (own, idx, y, host) ∈ wn) (ho : z_ob a ci) (hci : ci < 13) (hcl : vwCl[ci]? = some (y.cls, T, N)) (hR : fr' + 1 ≤ fr ∧ 8 + (nL' + 11) + lo' ≤ lo) (hsl : S.length ≤ 8) (hd : decode cc pc = .ok (.invokevirtual idx, 3)) (hq : pc + 3 = q) (kk : ∀ (r : Int) (μ : ZM), k r μ → zV X q L (.inr r :: S) 274 (z_ov μ)) : zV X pc L (v4 :: v3 :: v2 :: v1 :: .inr a :: S) 274 (z_ov μ) :=
  v_callVN C hM hy hi hlink ho.2 ho.1 hci hcl hR ⟨Nat.le_refl _, Nat.le_refl _, Nat.le_refl _⟩ rfl rfl hsl hd hq (fun rv M' hk => by
    obtain ⟨μ', rfl, r, rfl, h9⟩ := hk
    exact kk _ _ h9)
theorem u_cSa4 (C : zC X cc own nL rt fr lo 274) {y : MethodName} {b : ByteArray} {nL' : Nat} {rt' : Option FieldType} {fr' lo' idx : Nat} {v1 v2 v3 v4 : ZV} {k : Int → ZM → Prop} (hM : zMu y b nL' rt' fr' lo' [v1, v2, v3, v4] μ (KA k)) (hy : zY y b nL' rt' 4) (hi : Cond.static y ∈ wt) (hlink : Cond.methodLink own idx y ∈ wt) (hR : fr' + 1 ≤ fr ∧ 8 + (nL' + 11) + lo' ≤ lo) (hsl : S.length ≤ 8) (hd : decode cc pc = .ok (.invokestatic idx, 3)) (hq : pc + 3 = q) (kk : ∀ (r : Int) (μ : ZM), k r μ → zV X q L (.inr r :: S) 274 (z_ov μ)) : zV X pc L (v4 :: v3 :: v2 :: v1 :: S) 274 (z_ov μ) :=
  v_callS C hM hy hi hlink hR ⟨Nat.le_refl _, Nat.le_refl _, Nat.le_refl _⟩ rfl rfl hsl hd hq (fun rv M' hk => by
    obtain ⟨μ', rfl, r, rfl, h9⟩ := hk
    exact kk _ _ h9)
theorem u_cVa5 (C : zC X cc own nL rt fr lo 274) {y : MethodName} {b : ByteArray} {nL' : Nat} {rt' : Option FieldType} {fr' lo' ci idx N : Nat} {T : u_T} {a : Int} {v1 v2 v3 v4 v5 : ZV} {k : Int → ZM → Prop} (hM : zMu y b nL' rt' fr' lo' (.inr a :: [v1, v2, v3, v4, v5]) μ (KA k)) (hy : zY y b nL' rt' 5) (hi : Cond.instanceMethod y ∈ wt ∧ Cond.selects y.cls y y ∈ wt) (hlink : Cond.methodLink own idx y ∈ wt) (ho : z_ob a ci) (hci : ci < 13) (hcl : vwCl[ci]? = some (y.cls, T, N)) (hR : fr' + 1 ≤ fr ∧ 8 + (nL' + 11) + lo' ≤ lo) (hsl : S.length ≤ 8) (hd : decode cc pc = .ok (.invokevirtual idx, 3)) (hq : pc + 3 = q) (kk : ∀ (r : Int) (μ : ZM), k r μ → zV X q L (.inr r :: S) 274 (z_ov μ)) : zV X pc L (v5 :: v4 :: v3 :: v2 :: v1 :: .inr a :: S) 274 (z_ov μ) :=
  v_callV C hM hy hi hlink ho.2 ho.1 hci hcl hR ⟨Nat.le_refl _, Nat.le_refl _, Nat.le_refl _⟩ rfl rfl hsl hd hq (fun rv M' hk => by
    obtain ⟨μ', rfl, r, rfl, h9⟩ := hk
    exact kk _ _ h9)
theorem u_cNa5 (C : zC X cc own nL rt fr lo 274) {y : MethodName} {b : ByteArray} {nL' : Nat} {rt' : Option FieldType} {fr' lo' ci idx N : Nat} {T : u_T} {a : Int} {host : String} {v1 v2 v3 v4 v5 : ZV} {k : Int → ZM → Prop} (hM : zMu y b nL' rt' fr' lo' (.inr a :: [v1, v2, v3, v4, v5]) μ (KA k)) (hy : zY y b nL' rt' 5) (hi : Cond.instanceMethod y ∈ wt ∧ Cond.selects y.cls y y ∈ wt) (hlink : (own, idx, y, host) ∈ wn) (ho : z_ob a ci) (hci : ci < 13) (hcl : vwCl[ci]? = some (y.cls, T, N)) (hR : fr' + 1 ≤ fr ∧ 8 + (nL' + 11) + lo' ≤ lo) (hsl : S.length ≤ 8) (hd : decode cc pc = .ok (.invokevirtual idx, 3)) (hq : pc + 3 = q) (kk : ∀ (r : Int) (μ : ZM), k r μ → zV X q L (.inr r :: S) 274 (z_ov μ)) : zV X pc L (v5 :: v4 :: v3 :: v2 :: v1 :: .inr a :: S) 274 (z_ov μ) :=
  v_callVN C hM hy hi hlink ho.2 ho.1 hci hcl hR ⟨Nat.le_refl _, Nat.le_refl _, Nat.le_refl _⟩ rfl rfl hsl hd hq (fun rv M' hk => by
    obtain ⟨μ', rfl, r, rfl, h9⟩ := hk
    exact kk _ _ h9)
theorem u_cSa5 (C : zC X cc own nL rt fr lo 274) {y : MethodName} {b : ByteArray} {nL' : Nat} {rt' : Option FieldType} {fr' lo' idx : Nat} {v1 v2 v3 v4 v5 : ZV} {k : Int → ZM → Prop} (hM : zMu y b nL' rt' fr' lo' [v1, v2, v3, v4, v5] μ (KA k)) (hy : zY y b nL' rt' 5) (hi : Cond.static y ∈ wt) (hlink : Cond.methodLink own idx y ∈ wt) (hR : fr' + 1 ≤ fr ∧ 8 + (nL' + 11) + lo' ≤ lo) (hsl : S.length ≤ 8) (hd : decode cc pc = .ok (.invokestatic idx, 3)) (hq : pc + 3 = q) (kk : ∀ (r : Int) (μ : ZM), k r μ → zV X q L (.inr r :: S) 274 (z_ov μ)) : zV X pc L (v5 :: v4 :: v3 :: v2 :: v1 :: S) 274 (z_ov μ) :=
  v_callS C hM hy hi hlink hR ⟨Nat.le_refl _, Nat.le_refl _, Nat.le_refl _⟩ rfl rfl hsl hd hq (fun rv M' hk => by
    obtain ⟨μ', rfl, r, rfl, h9⟩ := hk
    exact kk _ _ h9)
theorem u_cVa6 (C : zC X cc own nL rt fr lo 274) {y : MethodName} {b : ByteArray} {nL' : Nat} {rt' : Option FieldType} {fr' lo' ci idx N : Nat} {T : u_T} {a : Int} {v1 v2 v3 v4 v5 v6 : ZV} {k : Int → ZM → Prop} (hM : zMu y b nL' rt' fr' lo' (.inr a :: [v1, v2, v3, v4, v5, v6]) μ (KA k)) (hy : zY y b nL' rt' 6) (hi : Cond.instanceMethod y ∈ wt ∧ Cond.selects y.cls y y ∈ wt) (hlink : Cond.methodLink own idx y ∈ wt) (ho : z_ob a ci) (hci : ci < 13) (hcl : vwCl[ci]? = some (y.cls, T, N)) (hR : fr' + 1 ≤ fr ∧ 8 + (nL' + 11) + lo' ≤ lo) (hsl : S.length ≤ 8) (hd : decode cc pc = .ok (.invokevirtual idx, 3)) (hq : pc + 3 = q) (kk : ∀ (r : Int) (μ : ZM), k r μ → zV X q L (.inr r :: S) 274 (z_ov μ)) : zV X pc L (v6 :: v5 :: v4 :: v3 :: v2 :: v1 :: .inr a :: S) 274 (z_ov μ) :=
  v_callV C hM hy hi hlink ho.2 ho.1 hci hcl hR ⟨Nat.le_refl _, Nat.le_refl _, Nat.le_refl _⟩ rfl rfl hsl hd hq (fun rv M' hk => by
    obtain ⟨μ', rfl, r, rfl, h9⟩ := hk
    exact kk _ _ h9)
theorem u_cNa6 (C : zC X cc own nL rt fr lo 274) {y : MethodName} {b : ByteArray} {nL' : Nat} {rt' : Option FieldType} {fr' lo' ci idx N : Nat} {T : u_T} {a : Int} {host : String} {v1 v2 v3 v4 v5 v6 : ZV} {k : Int → ZM → Prop} (hM : zMu y b nL' rt' fr' lo' (.inr a :: [v1, v2, v3, v4, v5, v6]) μ (KA k)) (hy : zY y b nL' rt' 6) (hi : Cond.instanceMethod y ∈ wt ∧ Cond.selects y.cls y y ∈ wt) (hlink : (own, idx, y, host) ∈ wn) (ho : z_ob a ci) (hci : ci < 13) (hcl : vwCl[ci]? = some (y.cls, T, N)) (hR : fr' + 1 ≤ fr ∧ 8 + (nL' + 11) + lo' ≤ lo) (hsl : S.length ≤ 8) (hd : decode cc pc = .ok (.invokevirtual idx, 3)) (hq : pc + 3 = q) (kk : ∀ (r : Int) (μ : ZM), k r μ → zV X q L (.inr r :: S) 274 (z_ov μ)) : zV X pc L (v6 :: v5 :: v4 :: v3 :: v2 :: v1 :: .inr a :: S) 274 (z_ov μ) :=
  v_callVN C hM hy hi hlink ho.2 ho.1 hci hcl hR ⟨Nat.le_refl _, Nat.le_refl _, Nat.le_refl _⟩ rfl rfl hsl hd hq (fun rv M' hk => by
    obtain ⟨μ', rfl, r, rfl, h9⟩ := hk
    exact kk _ _ h9)
theorem u_cSa6 (C : zC X cc own nL rt fr lo 274) {y : MethodName} {b : ByteArray} {nL' : Nat} {rt' : Option FieldType} {fr' lo' idx : Nat} {v1 v2 v3 v4 v5 v6 : ZV} {k : Int → ZM → Prop} (hM : zMu y b nL' rt' fr' lo' [v1, v2, v3, v4, v5, v6] μ (KA k)) (hy : zY y b nL' rt' 6) (hi : Cond.static y ∈ wt) (hlink : Cond.methodLink own idx y ∈ wt) (hR : fr' + 1 ≤ fr ∧ 8 + (nL' + 11) + lo' ≤ lo) (hsl : S.length ≤ 8) (hd : decode cc pc = .ok (.invokestatic idx, 3)) (hq : pc + 3 = q) (kk : ∀ (r : Int) (μ : ZM), k r μ → zV X q L (.inr r :: S) 274 (z_ov μ)) : zV X pc L (v6 :: v5 :: v4 :: v3 :: v2 :: v1 :: S) 274 (z_ov μ) :=
  v_callS C hM hy hi hlink hR ⟨Nat.le_refl _, Nat.le_refl _, Nat.le_refl _⟩ rfl rfl hsl hd hq (fun rv M' hk => by
    obtain ⟨μ', rfl, r, rfl, h9⟩ := hk
    exact kk _ _ h9)
theorem u_cVv0 (C : zC X cc own nL rt fr lo 274) {y : MethodName} {b : ByteArray} {nL' : Nat} {rt' : Option FieldType} {fr' lo' ci idx N : Nat} {T : u_T} {a : Int} {k : ZM → Prop} (hM : zMu y b nL' rt' fr' lo' (.inr a :: []) μ (KV k)) (hy : zY y b nL' rt' 0) (hi : Cond.instanceMethod y ∈ wt ∧ Cond.selects y.cls y y ∈ wt) (hlink : Cond.methodLink own idx y ∈ wt) (ho : z_ob a ci) (hci : ci < 13) (hcl : vwCl[ci]? = some (y.cls, T, N)) (hR : fr' + 1 ≤ fr ∧ 8 + (nL' + 11) + lo' ≤ lo) (hsl : S.length ≤ 8) (hd : decode cc pc = .ok (.invokevirtual idx, 3)) (hq : pc + 3 = q) (kk : ∀ (μ : ZM), k μ → zV X q L S 274 (z_ov μ)) : zV X pc L (.inr a :: S) 274 (z_ov μ) :=
  v_callV C hM hy hi hlink ho.2 ho.1 hci hcl hR ⟨Nat.le_refl _, Nat.le_refl _, Nat.le_refl _⟩ rfl rfl hsl hd hq (fun rv M' hk => by
    obtain ⟨μ', rfl, rfl, h9⟩ := hk
    exact kk _ h9)
theorem u_cNv0 (C : zC X cc own nL rt fr lo 274) {y : MethodName} {b : ByteArray} {nL' : Nat} {rt' : Option FieldType} {fr' lo' ci idx N : Nat} {T : u_T} {a : Int} {host : String} {k : ZM → Prop} (hM : zMu y b nL' rt' fr' lo' (.inr a :: []) μ (KV k)) (hy : zY y b nL' rt' 0) (hi : Cond.instanceMethod y ∈ wt ∧ Cond.selects y.cls y y ∈ wt) (hlink : (own, idx, y, host) ∈ wn) (ho : z_ob a ci) (hci : ci < 13) (hcl : vwCl[ci]? = some (y.cls, T, N)) (hR : fr' + 1 ≤ fr ∧ 8 + (nL' + 11) + lo' ≤ lo) (hsl : S.length ≤ 8) (hd : decode cc pc = .ok (.invokevirtual idx, 3)) (hq : pc + 3 = q) (kk : ∀ (μ : ZM), k μ → zV X q L S 274 (z_ov μ)) : zV X pc L (.inr a :: S) 274 (z_ov μ) :=
  v_callVN C hM hy hi hlink ho.2 ho.1 hci hcl hR ⟨Nat.le_refl _, Nat.le_refl _, Nat.le_refl _⟩ rfl rfl hsl hd hq (fun rv M' hk => by
    obtain ⟨μ', rfl, rfl, h9⟩ := hk
    exact kk _ h9)
theorem u_cSv0 (C : zC X cc own nL rt fr lo 274) {y : MethodName} {b : ByteArray} {nL' : Nat} {rt' : Option FieldType} {fr' lo' idx : Nat} {k : ZM → Prop} (hM : zMu y b nL' rt' fr' lo' [] μ (KV k)) (hy : zY y b nL' rt' 0) (hi : Cond.static y ∈ wt) (hlink : Cond.methodLink own idx y ∈ wt) (hR : fr' + 1 ≤ fr ∧ 8 + (nL' + 11) + lo' ≤ lo) (hsl : S.length ≤ 8) (hd : decode cc pc = .ok (.invokestatic idx, 3)) (hq : pc + 3 = q) (kk : ∀ (μ : ZM), k μ → zV X q L S 274 (z_ov μ)) : zV X pc L (S) 274 (z_ov μ) :=
  v_callS C hM hy hi hlink hR ⟨Nat.le_refl _, Nat.le_refl _, Nat.le_refl _⟩ rfl rfl hsl hd hq (fun rv M' hk => by
    obtain ⟨μ', rfl, rfl, h9⟩ := hk
    exact kk _ h9)
theorem u_cVv1 (C : zC X cc own nL rt fr lo 274) {y : MethodName} {b : ByteArray} {nL' : Nat} {rt' : Option FieldType} {fr' lo' ci idx N : Nat} {T : u_T} {a : Int} {v1 : ZV} {k : ZM → Prop} (hM : zMu y b nL' rt' fr' lo' (.inr a :: [v1]) μ (KV k)) (hy : zY y b nL' rt' 1) (hi : Cond.instanceMethod y ∈ wt ∧ Cond.selects y.cls y y ∈ wt) (hlink : Cond.methodLink own idx y ∈ wt) (ho : z_ob a ci) (hci : ci < 13) (hcl : vwCl[ci]? = some (y.cls, T, N)) (hR : fr' + 1 ≤ fr ∧ 8 + (nL' + 11) + lo' ≤ lo) (hsl : S.length ≤ 8) (hd : decode cc pc = .ok (.invokevirtual idx, 3)) (hq : pc + 3 = q) (kk : ∀ (μ : ZM), k μ → zV X q L S 274 (z_ov μ)) : zV X pc L (v1 :: .inr a :: S) 274 (z_ov μ) :=
  v_callV C hM hy hi hlink ho.2 ho.1 hci hcl hR ⟨Nat.le_refl _, Nat.le_refl _, Nat.le_refl _⟩ rfl rfl hsl hd hq (fun rv M' hk => by
    obtain ⟨μ', rfl, rfl, h9⟩ := hk
    exact kk _ h9)
theorem u_cNv1 (C : zC X cc own nL rt fr lo 274) {y : MethodName} {b : ByteArray} {nL' : Nat} {rt' : Option FieldType} {fr' lo' ci idx N : Nat} {T : u_T} {a : Int} {host : String} {v1 : ZV} {k : ZM → Prop} (hM : zMu y b nL' rt' fr' lo' (.inr a :: [v1]) μ (KV k)) (hy : zY y b nL' rt' 1) (hi : Cond.instanceMethod y ∈ wt ∧ Cond.selects y.cls y y ∈ wt) (hlink : (own, idx, y, host) ∈ wn) (ho : z_ob a ci) (hci : ci < 13) (hcl : vwCl[ci]? = some (y.cls, T, N)) (hR : fr' + 1 ≤ fr ∧ 8 + (nL' + 11) + lo' ≤ lo) (hsl : S.length ≤ 8) (hd : decode cc pc = .ok (.invokevirtual idx, 3)) (hq : pc + 3 = q) (kk : ∀ (μ : ZM), k μ → zV X q L S 274 (z_ov μ)) : zV X pc L (v1 :: .inr a :: S) 274 (z_ov μ) :=
  v_callVN C hM hy hi hlink ho.2 ho.1 hci hcl hR ⟨Nat.le_refl _, Nat.le_refl _, Nat.le_refl _⟩ rfl rfl hsl hd hq (fun rv M' hk => by
    obtain ⟨μ', rfl, rfl, h9⟩ := hk
    exact kk _ h9)
theorem u_cSv1 (C : zC X cc own nL rt fr lo 274) {y : MethodName} {b : ByteArray} {nL' : Nat} {rt' : Option FieldType} {fr' lo' idx : Nat} {v1 : ZV} {k : ZM → Prop} (hM : zMu y b nL' rt' fr' lo' [v1] μ (KV k)) (hy : zY y b nL' rt' 1) (hi : Cond.static y ∈ wt) (hlink : Cond.methodLink own idx y ∈ wt) (hR : fr' + 1 ≤ fr ∧ 8 + (nL' + 11) + lo' ≤ lo) (hsl : S.length ≤ 8) (hd : decode cc pc = .ok (.invokestatic idx, 3)) (hq : pc + 3 = q) (kk : ∀ (μ : ZM), k μ → zV X q L S 274 (z_ov μ)) : zV X pc L (v1 :: S) 274 (z_ov μ) :=
  v_callS C hM hy hi hlink hR ⟨Nat.le_refl _, Nat.le_refl _, Nat.le_refl _⟩ rfl rfl hsl hd hq (fun rv M' hk => by
    obtain ⟨μ', rfl, rfl, h9⟩ := hk
    exact kk _ h9)
theorem u_cVv2 (C : zC X cc own nL rt fr lo 274) {y : MethodName} {b : ByteArray} {nL' : Nat} {rt' : Option FieldType} {fr' lo' ci idx N : Nat} {T : u_T} {a : Int} {v1 v2 : ZV} {k : ZM → Prop} (hM : zMu y b nL' rt' fr' lo' (.inr a :: [v1, v2]) μ (KV k)) (hy : zY y b nL' rt' 2) (hi : Cond.instanceMethod y ∈ wt ∧ Cond.selects y.cls y y ∈ wt) (hlink : Cond.methodLink own idx y ∈ wt) (ho : z_ob a ci) (hci : ci < 13) (hcl : vwCl[ci]? = some (y.cls, T, N)) (hR : fr' + 1 ≤ fr ∧ 8 + (nL' + 11) + lo' ≤ lo) (hsl : S.length ≤ 8) (hd : decode cc pc = .ok (.invokevirtual idx, 3)) (hq : pc + 3 = q) (kk : ∀ (μ : ZM), k μ → zV X q L S 274 (z_ov μ)) : zV X pc L (v2 :: v1 :: .inr a :: S) 274 (z_ov μ) :=
  v_callV C hM hy hi hlink ho.2 ho.1 hci hcl hR ⟨Nat.le_refl _, Nat.le_refl _, Nat.le_refl _⟩ rfl rfl hsl hd hq (fun rv M' hk => by
    obtain ⟨μ', rfl, rfl, h9⟩ := hk
    exact kk _ h9)
theorem u_cNv2 (C : zC X cc own nL rt fr lo 274) {y : MethodName} {b : ByteArray} {nL' : Nat} {rt' : Option FieldType} {fr' lo' ci idx N : Nat} {T : u_T} {a : Int} {host : String} {v1 v2 : ZV} {k : ZM → Prop} (hM : zMu y b nL' rt' fr' lo' (.inr a :: [v1, v2]) μ (KV k)) (hy : zY y b nL' rt' 2) (hi : Cond.instanceMethod y ∈ wt ∧ Cond.selects y.cls y y ∈ wt) (hlink : (own, idx, y, host) ∈ wn) (ho : z_ob a ci) (hci : ci < 13) (hcl : vwCl[ci]? = some (y.cls, T, N)) (hR : fr' + 1 ≤ fr ∧ 8 + (nL' + 11) + lo' ≤ lo) (hsl : S.length ≤ 8) (hd : decode cc pc = .ok (.invokevirtual idx, 3)) (hq : pc + 3 = q) (kk : ∀ (μ : ZM), k μ → zV X q L S 274 (z_ov μ)) : zV X pc L (v2 :: v1 :: .inr a :: S) 274 (z_ov μ) :=
  v_callVN C hM hy hi hlink ho.2 ho.1 hci hcl hR ⟨Nat.le_refl _, Nat.le_refl _, Nat.le_refl _⟩ rfl rfl hsl hd hq (fun rv M' hk => by
    obtain ⟨μ', rfl, rfl, h9⟩ := hk
    exact kk _ h9)
theorem u_cSv2 (C : zC X cc own nL rt fr lo 274) {y : MethodName} {b : ByteArray} {nL' : Nat} {rt' : Option FieldType} {fr' lo' idx : Nat} {v1 v2 : ZV} {k : ZM → Prop} (hM : zMu y b nL' rt' fr' lo' [v1, v2] μ (KV k)) (hy : zY y b nL' rt' 2) (hi : Cond.static y ∈ wt) (hlink : Cond.methodLink own idx y ∈ wt) (hR : fr' + 1 ≤ fr ∧ 8 + (nL' + 11) + lo' ≤ lo) (hsl : S.length ≤ 8) (hd : decode cc pc = .ok (.invokestatic idx, 3)) (hq : pc + 3 = q) (kk : ∀ (μ : ZM), k μ → zV X q L S 274 (z_ov μ)) : zV X pc L (v2 :: v1 :: S) 274 (z_ov μ) :=
  v_callS C hM hy hi hlink hR ⟨Nat.le_refl _, Nat.le_refl _, Nat.le_refl _⟩ rfl rfl hsl hd hq (fun rv M' hk => by
    obtain ⟨μ', rfl, rfl, h9⟩ := hk
    exact kk _ h9)
theorem u_cVv3 (C : zC X cc own nL rt fr lo 274) {y : MethodName} {b : ByteArray} {nL' : Nat} {rt' : Option FieldType} {fr' lo' ci idx N : Nat} {T : u_T} {a : Int} {v1 v2 v3 : ZV} {k : ZM → Prop} (hM : zMu y b nL' rt' fr' lo' (.inr a :: [v1, v2, v3]) μ (KV k)) (hy : zY y b nL' rt' 3) (hi : Cond.instanceMethod y ∈ wt ∧ Cond.selects y.cls y y ∈ wt) (hlink : Cond.methodLink own idx y ∈ wt) (ho : z_ob a ci) (hci : ci < 13) (hcl : vwCl[ci]? = some (y.cls, T, N)) (hR : fr' + 1 ≤ fr ∧ 8 + (nL' + 11) + lo' ≤ lo) (hsl : S.length ≤ 8) (hd : decode cc pc = .ok (.invokevirtual idx, 3)) (hq : pc + 3 = q) (kk : ∀ (μ : ZM), k μ → zV X q L S 274 (z_ov μ)) : zV X pc L (v3 :: v2 :: v1 :: .inr a :: S) 274 (z_ov μ) :=
  v_callV C hM hy hi hlink ho.2 ho.1 hci hcl hR ⟨Nat.le_refl _, Nat.le_refl _, Nat.le_refl _⟩ rfl rfl hsl hd hq (fun rv M' hk => by
    obtain ⟨μ', rfl, rfl, h9⟩ := hk
    exact kk _ h9)
theorem u_cNv3 (C : zC X cc own nL rt fr lo 274) {y : MethodName} {b : ByteArray} {nL' : Nat} {rt' : Option FieldType} {fr' lo' ci idx N : Nat} {T : u_T} {a : Int} {host : String} {v1 v2 v3 : ZV} {k : ZM → Prop} (hM : zMu y b nL' rt' fr' lo' (.inr a :: [v1, v2, v3]) μ (KV k)) (hy : zY y b nL' rt' 3) (hi : Cond.instanceMethod y ∈ wt ∧ Cond.selects y.cls y y ∈ wt) (hlink : (own, idx, y, host) ∈ wn) (ho : z_ob a ci) (hci : ci < 13) (hcl : vwCl[ci]? = some (y.cls, T, N)) (hR : fr' + 1 ≤ fr ∧ 8 + (nL' + 11) + lo' ≤ lo) (hsl : S.length ≤ 8) (hd : decode cc pc = .ok (.invokevirtual idx, 3)) (hq : pc + 3 = q) (kk : ∀ (μ : ZM), k μ → zV X q L S 274 (z_ov μ)) : zV X pc L (v3 :: v2 :: v1 :: .inr a :: S) 274 (z_ov μ) :=
  v_callVN C hM hy hi hlink ho.2 ho.1 hci hcl hR ⟨Nat.le_refl _, Nat.le_refl _, Nat.le_refl _⟩ rfl rfl hsl hd hq (fun rv M' hk => by
    obtain ⟨μ', rfl, rfl, h9⟩ := hk
    exact kk _ h9)
theorem u_cSv3 (C : zC X cc own nL rt fr lo 274) {y : MethodName} {b : ByteArray} {nL' : Nat} {rt' : Option FieldType} {fr' lo' idx : Nat} {v1 v2 v3 : ZV} {k : ZM → Prop} (hM : zMu y b nL' rt' fr' lo' [v1, v2, v3] μ (KV k)) (hy : zY y b nL' rt' 3) (hi : Cond.static y ∈ wt) (hlink : Cond.methodLink own idx y ∈ wt) (hR : fr' + 1 ≤ fr ∧ 8 + (nL' + 11) + lo' ≤ lo) (hsl : S.length ≤ 8) (hd : decode cc pc = .ok (.invokestatic idx, 3)) (hq : pc + 3 = q) (kk : ∀ (μ : ZM), k μ → zV X q L S 274 (z_ov μ)) : zV X pc L (v3 :: v2 :: v1 :: S) 274 (z_ov μ) :=
  v_callS C hM hy hi hlink hR ⟨Nat.le_refl _, Nat.le_refl _, Nat.le_refl _⟩ rfl rfl hsl hd hq (fun rv M' hk => by
    obtain ⟨μ', rfl, rfl, h9⟩ := hk
    exact kk _ h9)
theorem u_cVv4 (C : zC X cc own nL rt fr lo 274) {y : MethodName} {b : ByteArray} {nL' : Nat} {rt' : Option FieldType} {fr' lo' ci idx N : Nat} {T : u_T} {a : Int} {v1 v2 v3 v4 : ZV} {k : ZM → Prop} (hM : zMu y b nL' rt' fr' lo' (.inr a :: [v1, v2, v3, v4]) μ (KV k)) (hy : zY y b nL' rt' 4) (hi : Cond.instanceMethod y ∈ wt ∧ Cond.selects y.cls y y ∈ wt) (hlink : Cond.methodLink own idx y ∈ wt) (ho : z_ob a ci) (hci : ci < 13) (hcl : vwCl[ci]? = some (y.cls, T, N)) (hR : fr' + 1 ≤ fr ∧ 8 + (nL' + 11) + lo' ≤ lo) (hsl : S.length ≤ 8) (hd : decode cc pc = .ok (.invokevirtual idx, 3)) (hq : pc + 3 = q) (kk : ∀ (μ : ZM), k μ → zV X q L S 274 (z_ov μ)) : zV X pc L (v4 :: v3 :: v2 :: v1 :: .inr a :: S) 274 (z_ov μ) :=
  v_callV C hM hy hi hlink ho.2 ho.1 hci hcl hR ⟨Nat.le_refl _, Nat.le_refl _, Nat.le_refl _⟩ rfl rfl hsl hd hq (fun rv M' hk => by
    obtain ⟨μ', rfl, rfl, h9⟩ := hk
    exact kk _ h9)
theorem u_cNv4 (C : zC X cc own nL rt fr lo 274) {y : MethodName} {b : ByteArray} {nL' : Nat} {rt' : Option FieldType} {fr' lo' ci idx N : Nat} {T : u_T} {a : Int} {host : String} {v1 v2 v3 v4 : ZV} {k : ZM → Prop} (hM : zMu y b nL' rt' fr' lo' (.inr a :: [v1, v2, v3, v4]) μ (KV k)) (hy : zY y b nL' rt' 4) (hi : Cond.instanceMethod y ∈ wt ∧ Cond.selects y.cls y y ∈ wt) (hlink : (own, idx, y, host) ∈ wn) (ho : z_ob a ci) (hci : ci < 13) (hcl : vwCl[ci]? = some (y.cls, T, N)) (hR : fr' + 1 ≤ fr ∧ 8 + (nL' + 11) + lo' ≤ lo) (hsl : S.length ≤ 8) (hd : decode cc pc = .ok (.invokevirtual idx, 3)) (hq : pc + 3 = q) (kk : ∀ (μ : ZM), k μ → zV X q L S 274 (z_ov μ)) : zV X pc L (v4 :: v3 :: v2 :: v1 :: .inr a :: S) 274 (z_ov μ) :=
  v_callVN C hM hy hi hlink ho.2 ho.1 hci hcl hR ⟨Nat.le_refl _, Nat.le_refl _, Nat.le_refl _⟩ rfl rfl hsl hd hq (fun rv M' hk => by
    obtain ⟨μ', rfl, rfl, h9⟩ := hk
    exact kk _ h9)
theorem u_cSv4 (C : zC X cc own nL rt fr lo 274) {y : MethodName} {b : ByteArray} {nL' : Nat} {rt' : Option FieldType} {fr' lo' idx : Nat} {v1 v2 v3 v4 : ZV} {k : ZM → Prop} (hM : zMu y b nL' rt' fr' lo' [v1, v2, v3, v4] μ (KV k)) (hy : zY y b nL' rt' 4) (hi : Cond.static y ∈ wt) (hlink : Cond.methodLink own idx y ∈ wt) (hR : fr' + 1 ≤ fr ∧ 8 + (nL' + 11) + lo' ≤ lo) (hsl : S.length ≤ 8) (hd : decode cc pc = .ok (.invokestatic idx, 3)) (hq : pc + 3 = q) (kk : ∀ (μ : ZM), k μ → zV X q L S 274 (z_ov μ)) : zV X pc L (v4 :: v3 :: v2 :: v1 :: S) 274 (z_ov μ) :=
  v_callS C hM hy hi hlink hR ⟨Nat.le_refl _, Nat.le_refl _, Nat.le_refl _⟩ rfl rfl hsl hd hq (fun rv M' hk => by
    obtain ⟨μ', rfl, rfl, h9⟩ := hk
    exact kk _ h9)
theorem u_cVv5 (C : zC X cc own nL rt fr lo 274) {y : MethodName} {b : ByteArray} {nL' : Nat} {rt' : Option FieldType} {fr' lo' ci idx N : Nat} {T : u_T} {a : Int} {v1 v2 v3 v4 v5 : ZV} {k : ZM → Prop} (hM : zMu y b nL' rt' fr' lo' (.inr a :: [v1, v2, v3, v4, v5]) μ (KV k)) (hy : zY y b nL' rt' 5) (hi : Cond.instanceMethod y ∈ wt ∧ Cond.selects y.cls y y ∈ wt) (hlink : Cond.methodLink own idx y ∈ wt) (ho : z_ob a ci) (hci : ci < 13) (hcl : vwCl[ci]? = some (y.cls, T, N)) (hR : fr' + 1 ≤ fr ∧ 8 + (nL' + 11) + lo' ≤ lo) (hsl : S.length ≤ 8) (hd : decode cc pc = .ok (.invokevirtual idx, 3)) (hq : pc + 3 = q) (kk : ∀ (μ : ZM), k μ → zV X q L S 274 (z_ov μ)) : zV X pc L (v5 :: v4 :: v3 :: v2 :: v1 :: .inr a :: S) 274 (z_ov μ) :=
  v_callV C hM hy hi hlink ho.2 ho.1 hci hcl hR ⟨Nat.le_refl _, Nat.le_refl _, Nat.le_refl _⟩ rfl rfl hsl hd hq (fun rv M' hk => by
    obtain ⟨μ', rfl, rfl, h9⟩ := hk
    exact kk _ h9)
theorem u_cNv5 (C : zC X cc own nL rt fr lo 274) {y : MethodName} {b : ByteArray} {nL' : Nat} {rt' : Option FieldType} {fr' lo' ci idx N : Nat} {T : u_T} {a : Int} {host : String} {v1 v2 v3 v4 v5 : ZV} {k : ZM → Prop} (hM : zMu y b nL' rt' fr' lo' (.inr a :: [v1, v2, v3, v4, v5]) μ (KV k)) (hy : zY y b nL' rt' 5) (hi : Cond.instanceMethod y ∈ wt ∧ Cond.selects y.cls y y ∈ wt) (hlink : (own, idx, y, host) ∈ wn) (ho : z_ob a ci) (hci : ci < 13) (hcl : vwCl[ci]? = some (y.cls, T, N)) (hR : fr' + 1 ≤ fr ∧ 8 + (nL' + 11) + lo' ≤ lo) (hsl : S.length ≤ 8) (hd : decode cc pc = .ok (.invokevirtual idx, 3)) (hq : pc + 3 = q) (kk : ∀ (μ : ZM), k μ → zV X q L S 274 (z_ov μ)) : zV X pc L (v5 :: v4 :: v3 :: v2 :: v1 :: .inr a :: S) 274 (z_ov μ) :=
  v_callVN C hM hy hi hlink ho.2 ho.1 hci hcl hR ⟨Nat.le_refl _, Nat.le_refl _, Nat.le_refl _⟩ rfl rfl hsl hd hq (fun rv M' hk => by
    obtain ⟨μ', rfl, rfl, h9⟩ := hk
    exact kk _ h9)
theorem u_cSv5 (C : zC X cc own nL rt fr lo 274) {y : MethodName} {b : ByteArray} {nL' : Nat} {rt' : Option FieldType} {fr' lo' idx : Nat} {v1 v2 v3 v4 v5 : ZV} {k : ZM → Prop} (hM : zMu y b nL' rt' fr' lo' [v1, v2, v3, v4, v5] μ (KV k)) (hy : zY y b nL' rt' 5) (hi : Cond.static y ∈ wt) (hlink : Cond.methodLink own idx y ∈ wt) (hR : fr' + 1 ≤ fr ∧ 8 + (nL' + 11) + lo' ≤ lo) (hsl : S.length ≤ 8) (hd : decode cc pc = .ok (.invokestatic idx, 3)) (hq : pc + 3 = q) (kk : ∀ (μ : ZM), k μ → zV X q L S 274 (z_ov μ)) : zV X pc L (v5 :: v4 :: v3 :: v2 :: v1 :: S) 274 (z_ov μ) :=
  v_callS C hM hy hi hlink hR ⟨Nat.le_refl _, Nat.le_refl _, Nat.le_refl _⟩ rfl rfl hsl hd hq (fun rv M' hk => by
    obtain ⟨μ', rfl, rfl, h9⟩ := hk
    exact kk _ h9)
theorem u_cVv6 (C : zC X cc own nL rt fr lo 274) {y : MethodName} {b : ByteArray} {nL' : Nat} {rt' : Option FieldType} {fr' lo' ci idx N : Nat} {T : u_T} {a : Int} {v1 v2 v3 v4 v5 v6 : ZV} {k : ZM → Prop} (hM : zMu y b nL' rt' fr' lo' (.inr a :: [v1, v2, v3, v4, v5, v6]) μ (KV k)) (hy : zY y b nL' rt' 6) (hi : Cond.instanceMethod y ∈ wt ∧ Cond.selects y.cls y y ∈ wt) (hlink : Cond.methodLink own idx y ∈ wt) (ho : z_ob a ci) (hci : ci < 13) (hcl : vwCl[ci]? = some (y.cls, T, N)) (hR : fr' + 1 ≤ fr ∧ 8 + (nL' + 11) + lo' ≤ lo) (hsl : S.length ≤ 8) (hd : decode cc pc = .ok (.invokevirtual idx, 3)) (hq : pc + 3 = q) (kk : ∀ (μ : ZM), k μ → zV X q L S 274 (z_ov μ)) : zV X pc L (v6 :: v5 :: v4 :: v3 :: v2 :: v1 :: .inr a :: S) 274 (z_ov μ) :=
  v_callV C hM hy hi hlink ho.2 ho.1 hci hcl hR ⟨Nat.le_refl _, Nat.le_refl _, Nat.le_refl _⟩ rfl rfl hsl hd hq (fun rv M' hk => by
    obtain ⟨μ', rfl, rfl, h9⟩ := hk
    exact kk _ h9)
theorem u_cNv6 (C : zC X cc own nL rt fr lo 274) {y : MethodName} {b : ByteArray} {nL' : Nat} {rt' : Option FieldType} {fr' lo' ci idx N : Nat} {T : u_T} {a : Int} {host : String} {v1 v2 v3 v4 v5 v6 : ZV} {k : ZM → Prop} (hM : zMu y b nL' rt' fr' lo' (.inr a :: [v1, v2, v3, v4, v5, v6]) μ (KV k)) (hy : zY y b nL' rt' 6) (hi : Cond.instanceMethod y ∈ wt ∧ Cond.selects y.cls y y ∈ wt) (hlink : (own, idx, y, host) ∈ wn) (ho : z_ob a ci) (hci : ci < 13) (hcl : vwCl[ci]? = some (y.cls, T, N)) (hR : fr' + 1 ≤ fr ∧ 8 + (nL' + 11) + lo' ≤ lo) (hsl : S.length ≤ 8) (hd : decode cc pc = .ok (.invokevirtual idx, 3)) (hq : pc + 3 = q) (kk : ∀ (μ : ZM), k μ → zV X q L S 274 (z_ov μ)) : zV X pc L (v6 :: v5 :: v4 :: v3 :: v2 :: v1 :: .inr a :: S) 274 (z_ov μ) :=
  v_callVN C hM hy hi hlink ho.2 ho.1 hci hcl hR ⟨Nat.le_refl _, Nat.le_refl _, Nat.le_refl _⟩ rfl rfl hsl hd hq (fun rv M' hk => by
    obtain ⟨μ', rfl, rfl, h9⟩ := hk
    exact kk _ h9)
theorem u_cSv6 (C : zC X cc own nL rt fr lo 274) {y : MethodName} {b : ByteArray} {nL' : Nat} {rt' : Option FieldType} {fr' lo' idx : Nat} {v1 v2 v3 v4 v5 v6 : ZV} {k : ZM → Prop} (hM : zMu y b nL' rt' fr' lo' [v1, v2, v3, v4, v5, v6] μ (KV k)) (hy : zY y b nL' rt' 6) (hi : Cond.static y ∈ wt) (hlink : Cond.methodLink own idx y ∈ wt) (hR : fr' + 1 ≤ fr ∧ 8 + (nL' + 11) + lo' ≤ lo) (hsl : S.length ≤ 8) (hd : decode cc pc = .ok (.invokestatic idx, 3)) (hq : pc + 3 = q) (kk : ∀ (μ : ZM), k μ → zV X q L S 274 (z_ov μ)) : zV X pc L (v6 :: v5 :: v4 :: v3 :: v2 :: v1 :: S) 274 (z_ov μ) :=
  v_callS C hM hy hi hlink hR ⟨Nat.le_refl _, Nat.le_refl _, Nat.le_refl _⟩ rfl rfl hsl hd hq (fun rv M' hk => by
    obtain ⟨μ', rfl, rfl, h9⟩ := hk
    exact kk _ h9)
end VH
/-! loops: least fixed points, by the number of ints that move  -/
def z_lf0 (F : (ZM → Prop) → ZM → Prop) (μ : ZM) : Prop := ∀ G : ZM → Prop, (∀ (μ : ZM), F G μ → G μ) → G μ
theorem z_lf0_ind {F : (ZM → Prop) → ZM → Prop} (I : ZM → Prop) (ms : ZM → Nat) (h : ∀ (μ : ZM) (G : ZM → Prop), I μ → (∀ (μ' : ZM), I μ' → ms μ' < ms μ → G μ') → F G μ) : ∀ (μ : ZM), I μ → z_lf0 F μ := by
  intro μ hI G hG
  have key : ∀ (n : Nat) (μ : ZM), ms μ < n → I μ → G μ := by
    intro n
    induction n with
    | zero => intro μ h0; exact absurd h0 (Nat.not_lt_zero _)
    | succ n ih =>
      intro μ h0 h1
      exact hG μ (h μ G h1 (fun μ' h2 h3 => ih μ' (Nat.lt_of_lt_of_le h3 (Nat.le_of_lt_succ h0)) h2))
  exact key _ μ (Nat.lt_succ_self _) hI
def z_lf1 (F : (Int → ZM → Prop) → Int → ZM → Prop) (x1 : Int) (μ : ZM) : Prop := ∀ G : Int → ZM → Prop, (∀ (x1 : Int) (μ : ZM), F G x1 μ → G x1 μ) → G x1 μ
theorem z_lf1_ind {F : (Int → ZM → Prop) → Int → ZM → Prop} (I : Int → ZM → Prop) (ms : Int → ZM → Nat) (h : ∀ (x1 : Int) (μ : ZM) (G : Int → ZM → Prop), I x1 μ → (∀ (y1 : Int) (μ' : ZM), I y1 μ' → ms y1 μ' < ms x1 μ → G y1 μ') → F G x1 μ) : ∀ (x1 : Int) (μ : ZM), I x1 μ → z_lf1 F x1 μ := by
  intro x1 μ hI G hG
  have key : ∀ (n : Nat) (x1 : Int) (μ : ZM), ms x1 μ < n → I x1 μ → G x1 μ := by
    intro n
    induction n with
    | zero => intro x1 μ h0; exact absurd h0 (Nat.not_lt_zero _)
    | succ n ih =>
      intro x1 μ h0 h1
      exact hG x1 μ (h x1 μ G h1 (fun y1 μ' h2 h3 => ih y1 μ' (Nat.lt_of_lt_of_le h3 (Nat.le_of_lt_succ h0)) h2))
  exact key _ x1 μ (Nat.lt_succ_self _) hI
def z_lf2 (F : (Int → Int → ZM → Prop) → Int → Int → ZM → Prop) (x1 x2 : Int) (μ : ZM) : Prop := ∀ G : Int → Int → ZM → Prop, (∀ (x1 x2 : Int) (μ : ZM), F G x1 x2 μ → G x1 x2 μ) → G x1 x2 μ
theorem z_lf2_ind {F : (Int → Int → ZM → Prop) → Int → Int → ZM → Prop} (I : Int → Int → ZM → Prop) (ms : Int → Int → ZM → Nat) (h : ∀ (x1 x2 : Int) (μ : ZM) (G : Int → Int → ZM → Prop), I x1 x2 μ → (∀ (y1 y2 : Int) (μ' : ZM), I y1 y2 μ' → ms y1 y2 μ' < ms x1 x2 μ → G y1 y2 μ') → F G x1 x2 μ) : ∀ (x1 x2 : Int) (μ : ZM), I x1 x2 μ → z_lf2 F x1 x2 μ := by
  intro x1 x2 μ hI G hG
  have key : ∀ (n : Nat) (x1 x2 : Int) (μ : ZM), ms x1 x2 μ < n → I x1 x2 μ → G x1 x2 μ := by
    intro n
    induction n with
    | zero => intro x1 x2 μ h0; exact absurd h0 (Nat.not_lt_zero _)
    | succ n ih =>
      intro x1 x2 μ h0 h1
      exact hG x1 x2 μ (h x1 x2 μ G h1 (fun y1 y2 μ' h2 h3 => ih y1 y2 μ' (Nat.lt_of_lt_of_le h3 (Nat.le_of_lt_succ h0)) h2))
  exact key _ x1 x2 μ (Nat.lt_succ_self _) hI
def z_lf3 (F : (Int → Int → Int → ZM → Prop) → Int → Int → Int → ZM → Prop) (x1 x2 x3 : Int) (μ : ZM) : Prop := ∀ G : Int → Int → Int → ZM → Prop, (∀ (x1 x2 x3 : Int) (μ : ZM), F G x1 x2 x3 μ → G x1 x2 x3 μ) → G x1 x2 x3 μ
theorem z_lf3_ind {F : (Int → Int → Int → ZM → Prop) → Int → Int → Int → ZM → Prop} (I : Int → Int → Int → ZM → Prop) (ms : Int → Int → Int → ZM → Nat) (h : ∀ (x1 x2 x3 : Int) (μ : ZM) (G : Int → Int → Int → ZM → Prop), I x1 x2 x3 μ → (∀ (y1 y2 y3 : Int) (μ' : ZM), I y1 y2 y3 μ' → ms y1 y2 y3 μ' < ms x1 x2 x3 μ → G y1 y2 y3 μ') → F G x1 x2 x3 μ) : ∀ (x1 x2 x3 : Int) (μ : ZM), I x1 x2 x3 μ → z_lf3 F x1 x2 x3 μ := by
  intro x1 x2 x3 μ hI G hG
  have key : ∀ (n : Nat) (x1 x2 x3 : Int) (μ : ZM), ms x1 x2 x3 μ < n → I x1 x2 x3 μ → G x1 x2 x3 μ := by
    intro n
    induction n with
    | zero => intro x1 x2 x3 μ h0; exact absurd h0 (Nat.not_lt_zero _)
    | succ n ih =>
      intro x1 x2 x3 μ h0 h1
      exact hG x1 x2 x3 μ (h x1 x2 x3 μ G h1 (fun y1 y2 y3 μ' h2 h3 => ih y1 y2 y3 μ' (Nat.lt_of_lt_of_le h3 (Nat.le_of_lt_succ h0)) h2))
  exact key _ x1 x2 x3 μ (Nat.lt_succ_self _) hI
def z_lf4 (F : (Int → Int → Int → Int → ZM → Prop) → Int → Int → Int → Int → ZM → Prop) (x1 x2 x3 x4 : Int) (μ : ZM) : Prop := ∀ G : Int → Int → Int → Int → ZM → Prop, (∀ (x1 x2 x3 x4 : Int) (μ : ZM), F G x1 x2 x3 x4 μ → G x1 x2 x3 x4 μ) → G x1 x2 x3 x4 μ
theorem z_lf4_ind {F : (Int → Int → Int → Int → ZM → Prop) → Int → Int → Int → Int → ZM → Prop} (I : Int → Int → Int → Int → ZM → Prop) (ms : Int → Int → Int → Int → ZM → Nat) (h : ∀ (x1 x2 x3 x4 : Int) (μ : ZM) (G : Int → Int → Int → Int → ZM → Prop), I x1 x2 x3 x4 μ → (∀ (y1 y2 y3 y4 : Int) (μ' : ZM), I y1 y2 y3 y4 μ' → ms y1 y2 y3 y4 μ' < ms x1 x2 x3 x4 μ → G y1 y2 y3 y4 μ') → F G x1 x2 x3 x4 μ) : ∀ (x1 x2 x3 x4 : Int) (μ : ZM), I x1 x2 x3 x4 μ → z_lf4 F x1 x2 x3 x4 μ := by
  intro x1 x2 x3 x4 μ hI G hG
  have key : ∀ (n : Nat) (x1 x2 x3 x4 : Int) (μ : ZM), ms x1 x2 x3 x4 μ < n → I x1 x2 x3 x4 μ → G x1 x2 x3 x4 μ := by
    intro n
    induction n with
    | zero => intro x1 x2 x3 x4 μ h0; exact absurd h0 (Nat.not_lt_zero _)
    | succ n ih =>
      intro x1 x2 x3 x4 μ h0 h1
      exact hG x1 x2 x3 x4 μ (h x1 x2 x3 x4 μ G h1 (fun y1 y2 y3 y4 μ' h2 h3 => ih y1 y2 y3 y4 μ' (Nat.lt_of_lt_of_le h3 (Nat.le_of_lt_succ h0)) h2))
  exact key _ x1 x2 x3 x4 μ (Nat.lt_succ_self _) hI
def z_lf5 (F : (Int → Int → Int → Int → Int → ZM → Prop) → Int → Int → Int → Int → Int → ZM → Prop) (x1 x2 x3 x4 x5 : Int) (μ : ZM) : Prop := ∀ G : Int → Int → Int → Int → Int → ZM → Prop, (∀ (x1 x2 x3 x4 x5 : Int) (μ : ZM), F G x1 x2 x3 x4 x5 μ → G x1 x2 x3 x4 x5 μ) → G x1 x2 x3 x4 x5 μ
theorem z_lf5_ind {F : (Int → Int → Int → Int → Int → ZM → Prop) → Int → Int → Int → Int → Int → ZM → Prop} (I : Int → Int → Int → Int → Int → ZM → Prop) (ms : Int → Int → Int → Int → Int → ZM → Nat) (h : ∀ (x1 x2 x3 x4 x5 : Int) (μ : ZM) (G : Int → Int → Int → Int → Int → ZM → Prop), I x1 x2 x3 x4 x5 μ → (∀ (y1 y2 y3 y4 y5 : Int) (μ' : ZM), I y1 y2 y3 y4 y5 μ' → ms y1 y2 y3 y4 y5 μ' < ms x1 x2 x3 x4 x5 μ → G y1 y2 y3 y4 y5 μ') → F G x1 x2 x3 x4 x5 μ) : ∀ (x1 x2 x3 x4 x5 : Int) (μ : ZM), I x1 x2 x3 x4 x5 μ → z_lf5 F x1 x2 x3 x4 x5 μ := by
  intro x1 x2 x3 x4 x5 μ hI G hG
  have key : ∀ (n : Nat) (x1 x2 x3 x4 x5 : Int) (μ : ZM), ms x1 x2 x3 x4 x5 μ < n → I x1 x2 x3 x4 x5 μ → G x1 x2 x3 x4 x5 μ := by
    intro n
    induction n with
    | zero => intro x1 x2 x3 x4 x5 μ h0; exact absurd h0 (Nat.not_lt_zero _)
    | succ n ih =>
      intro x1 x2 x3 x4 x5 μ h0 h1
      exact hG x1 x2 x3 x4 x5 μ (h x1 x2 x3 x4 x5 μ G h1 (fun y1 y2 y3 y4 y5 μ' h2 h3 => ih y1 y2 y3 y4 y5 μ' (Nat.lt_of_lt_of_le h3 (Nat.le_of_lt_succ h0)) h2))
  exact key _ x1 x2 x3 x4 x5 μ (Nat.lt_succ_self _) hI
def z_lf6 (F : (Int → Int → Int → Int → Int → Int → ZM → Prop) → Int → Int → Int → Int → Int → Int → ZM → Prop) (x1 x2 x3 x4 x5 x6 : Int) (μ : ZM) : Prop := ∀ G : Int → Int → Int → Int → Int → Int → ZM → Prop, (∀ (x1 x2 x3 x4 x5 x6 : Int) (μ : ZM), F G x1 x2 x3 x4 x5 x6 μ → G x1 x2 x3 x4 x5 x6 μ) → G x1 x2 x3 x4 x5 x6 μ
theorem z_lf6_ind {F : (Int → Int → Int → Int → Int → Int → ZM → Prop) → Int → Int → Int → Int → Int → Int → ZM → Prop} (I : Int → Int → Int → Int → Int → Int → ZM → Prop) (ms : Int → Int → Int → Int → Int → Int → ZM → Nat) (h : ∀ (x1 x2 x3 x4 x5 x6 : Int) (μ : ZM) (G : Int → Int → Int → Int → Int → Int → ZM → Prop), I x1 x2 x3 x4 x5 x6 μ → (∀ (y1 y2 y3 y4 y5 y6 : Int) (μ' : ZM), I y1 y2 y3 y4 y5 y6 μ' → ms y1 y2 y3 y4 y5 y6 μ' < ms x1 x2 x3 x4 x5 x6 μ → G y1 y2 y3 y4 y5 y6 μ') → F G x1 x2 x3 x4 x5 x6 μ) : ∀ (x1 x2 x3 x4 x5 x6 : Int) (μ : ZM), I x1 x2 x3 x4 x5 x6 μ → z_lf6 F x1 x2 x3 x4 x5 x6 μ := by
  intro x1 x2 x3 x4 x5 x6 μ hI G hG
  have key : ∀ (n : Nat) (x1 x2 x3 x4 x5 x6 : Int) (μ : ZM), ms x1 x2 x3 x4 x5 x6 μ < n → I x1 x2 x3 x4 x5 x6 μ → G x1 x2 x3 x4 x5 x6 μ := by
    intro n
    induction n with
    | zero => intro x1 x2 x3 x4 x5 x6 μ h0; exact absurd h0 (Nat.not_lt_zero _)
    | succ n ih =>
      intro x1 x2 x3 x4 x5 x6 μ h0 h1
      exact hG x1 x2 x3 x4 x5 x6 μ (h x1 x2 x3 x4 x5 x6 μ G h1 (fun y1 y2 y3 y4 y5 y6 μ' h2 h3 => ih y1 y2 y3 y4 y5 y6 μ' (Nat.lt_of_lt_of_le h3 (Nat.le_of_lt_succ h0)) h2))
  exact key _ x1 x2 x3 x4 x5 x6 μ (Nat.lt_succ_self _) hI
def z_lf7 (F : (Int → Int → Int → Int → Int → Int → Int → ZM → Prop) → Int → Int → Int → Int → Int → Int → Int → ZM → Prop) (x1 x2 x3 x4 x5 x6 x7 : Int) (μ : ZM) : Prop := ∀ G : Int → Int → Int → Int → Int → Int → Int → ZM → Prop, (∀ (x1 x2 x3 x4 x5 x6 x7 : Int) (μ : ZM), F G x1 x2 x3 x4 x5 x6 x7 μ → G x1 x2 x3 x4 x5 x6 x7 μ) → G x1 x2 x3 x4 x5 x6 x7 μ
theorem z_lf7_ind {F : (Int → Int → Int → Int → Int → Int → Int → ZM → Prop) → Int → Int → Int → Int → Int → Int → Int → ZM → Prop} (I : Int → Int → Int → Int → Int → Int → Int → ZM → Prop) (ms : Int → Int → Int → Int → Int → Int → Int → ZM → Nat) (h : ∀ (x1 x2 x3 x4 x5 x6 x7 : Int) (μ : ZM) (G : Int → Int → Int → Int → Int → Int → Int → ZM → Prop), I x1 x2 x3 x4 x5 x6 x7 μ → (∀ (y1 y2 y3 y4 y5 y6 y7 : Int) (μ' : ZM), I y1 y2 y3 y4 y5 y6 y7 μ' → ms y1 y2 y3 y4 y5 y6 y7 μ' < ms x1 x2 x3 x4 x5 x6 x7 μ → G y1 y2 y3 y4 y5 y6 y7 μ') → F G x1 x2 x3 x4 x5 x6 x7 μ) : ∀ (x1 x2 x3 x4 x5 x6 x7 : Int) (μ : ZM), I x1 x2 x3 x4 x5 x6 x7 μ → z_lf7 F x1 x2 x3 x4 x5 x6 x7 μ := by
  intro x1 x2 x3 x4 x5 x6 x7 μ hI G hG
  have key : ∀ (n : Nat) (x1 x2 x3 x4 x5 x6 x7 : Int) (μ : ZM), ms x1 x2 x3 x4 x5 x6 x7 μ < n → I x1 x2 x3 x4 x5 x6 x7 μ → G x1 x2 x3 x4 x5 x6 x7 μ := by
    intro n
    induction n with
    | zero => intro x1 x2 x3 x4 x5 x6 x7 μ h0; exact absurd h0 (Nat.not_lt_zero _)
    | succ n ih =>
      intro x1 x2 x3 x4 x5 x6 x7 μ h0 h1
      exact hG x1 x2 x3 x4 x5 x6 x7 μ (h x1 x2 x3 x4 x5 x6 x7 μ G h1 (fun y1 y2 y3 y4 y5 y6 y7 μ' h2 h3 => ih y1 y2 y3 y4 y5 y6 y7 μ' (Nat.lt_of_lt_of_le h3 (Nat.le_of_lt_succ h0)) h2))
  exact key _ x1 x2 x3 x4 x5 x6 x7 μ (Nat.lt_succ_self _) hI
def z_lf8 (F : (Int → Int → Int → Int → Int → Int → Int → Int → ZM → Prop) → Int → Int → Int → Int → Int → Int → Int → Int → ZM → Prop) (x1 x2 x3 x4 x5 x6 x7 x8 : Int) (μ : ZM) : Prop := ∀ G : Int → Int → Int → Int → Int → Int → Int → Int → ZM → Prop, (∀ (x1 x2 x3 x4 x5 x6 x7 x8 : Int) (μ : ZM), F G x1 x2 x3 x4 x5 x6 x7 x8 μ → G x1 x2 x3 x4 x5 x6 x7 x8 μ) → G x1 x2 x3 x4 x5 x6 x7 x8 μ
theorem z_lf8_ind {F : (Int → Int → Int → Int → Int → Int → Int → Int → ZM → Prop) → Int → Int → Int → Int → Int → Int → Int → Int → ZM → Prop} (I : Int → Int → Int → Int → Int → Int → Int → Int → ZM → Prop) (ms : Int → Int → Int → Int → Int → Int → Int → Int → ZM → Nat) (h : ∀ (x1 x2 x3 x4 x5 x6 x7 x8 : Int) (μ : ZM) (G : Int → Int → Int → Int → Int → Int → Int → Int → ZM → Prop), I x1 x2 x3 x4 x5 x6 x7 x8 μ → (∀ (y1 y2 y3 y4 y5 y6 y7 y8 : Int) (μ' : ZM), I y1 y2 y3 y4 y5 y6 y7 y8 μ' → ms y1 y2 y3 y4 y5 y6 y7 y8 μ' < ms x1 x2 x3 x4 x5 x6 x7 x8 μ → G y1 y2 y3 y4 y5 y6 y7 y8 μ') → F G x1 x2 x3 x4 x5 x6 x7 x8 μ) : ∀ (x1 x2 x3 x4 x5 x6 x7 x8 : Int) (μ : ZM), I x1 x2 x3 x4 x5 x6 x7 x8 μ → z_lf8 F x1 x2 x3 x4 x5 x6 x7 x8 μ := by
  intro x1 x2 x3 x4 x5 x6 x7 x8 μ hI G hG
  have key : ∀ (n : Nat) (x1 x2 x3 x4 x5 x6 x7 x8 : Int) (μ : ZM), ms x1 x2 x3 x4 x5 x6 x7 x8 μ < n → I x1 x2 x3 x4 x5 x6 x7 x8 μ → G x1 x2 x3 x4 x5 x6 x7 x8 μ := by
    intro n
    induction n with
    | zero => intro x1 x2 x3 x4 x5 x6 x7 x8 μ h0; exact absurd h0 (Nat.not_lt_zero _)
    | succ n ih =>
      intro x1 x2 x3 x4 x5 x6 x7 x8 μ h0 h1
      exact hG x1 x2 x3 x4 x5 x6 x7 x8 μ (h x1 x2 x3 x4 x5 x6 x7 x8 μ G h1 (fun y1 y2 y3 y4 y5 y6 y7 y8 μ' h2 h3 => ih y1 y2 y3 y4 y5 y6 y7 y8 μ' (Nat.lt_of_lt_of_le h3 (Nat.le_of_lt_succ h0)) h2))
  exact key _ x1 x2 x3 x4 x5 x6 x7 x8 μ (Nat.lt_succ_self _) hI
def z_lf9 (F : (Int → Int → Int → Int → Int → Int → Int → Int → Int → ZM → Prop) → Int → Int → Int → Int → Int → Int → Int → Int → Int → ZM → Prop) (x1 x2 x3 x4 x5 x6 x7 x8 x9 : Int) (μ : ZM) : Prop := ∀ G : Int → Int → Int → Int → Int → Int → Int → Int → Int → ZM → Prop, (∀ (x1 x2 x3 x4 x5 x6 x7 x8 x9 : Int) (μ : ZM), F G x1 x2 x3 x4 x5 x6 x7 x8 x9 μ → G x1 x2 x3 x4 x5 x6 x7 x8 x9 μ) → G x1 x2 x3 x4 x5 x6 x7 x8 x9 μ
theorem z_lf9_ind {F : (Int → Int → Int → Int → Int → Int → Int → Int → Int → ZM → Prop) → Int → Int → Int → Int → Int → Int → Int → Int → Int → ZM → Prop} (I : Int → Int → Int → Int → Int → Int → Int → Int → Int → ZM → Prop) (ms : Int → Int → Int → Int → Int → Int → Int → Int → Int → ZM → Nat) (h : ∀ (x1 x2 x3 x4 x5 x6 x7 x8 x9 : Int) (μ : ZM) (G : Int → Int → Int → Int → Int → Int → Int → Int → Int → ZM → Prop), I x1 x2 x3 x4 x5 x6 x7 x8 x9 μ → (∀ (y1 y2 y3 y4 y5 y6 y7 y8 y9 : Int) (μ' : ZM), I y1 y2 y3 y4 y5 y6 y7 y8 y9 μ' → ms y1 y2 y3 y4 y5 y6 y7 y8 y9 μ' < ms x1 x2 x3 x4 x5 x6 x7 x8 x9 μ → G y1 y2 y3 y4 y5 y6 y7 y8 y9 μ') → F G x1 x2 x3 x4 x5 x6 x7 x8 x9 μ) : ∀ (x1 x2 x3 x4 x5 x6 x7 x8 x9 : Int) (μ : ZM), I x1 x2 x3 x4 x5 x6 x7 x8 x9 μ → z_lf9 F x1 x2 x3 x4 x5 x6 x7 x8 x9 μ := by
  intro x1 x2 x3 x4 x5 x6 x7 x8 x9 μ hI G hG
  have key : ∀ (n : Nat) (x1 x2 x3 x4 x5 x6 x7 x8 x9 : Int) (μ : ZM), ms x1 x2 x3 x4 x5 x6 x7 x8 x9 μ < n → I x1 x2 x3 x4 x5 x6 x7 x8 x9 μ → G x1 x2 x3 x4 x5 x6 x7 x8 x9 μ := by
    intro n
    induction n with
    | zero => intro x1 x2 x3 x4 x5 x6 x7 x8 x9 μ h0; exact absurd h0 (Nat.not_lt_zero _)
    | succ n ih =>
      intro x1 x2 x3 x4 x5 x6 x7 x8 x9 μ h0 h1
      exact hG x1 x2 x3 x4 x5 x6 x7 x8 x9 μ (h x1 x2 x3 x4 x5 x6 x7 x8 x9 μ G h1 (fun y1 y2 y3 y4 y5 y6 y7 y8 y9 μ' h2 h3 => ih y1 y2 y3 y4 y5 y6 y7 y8 y9 μ' (Nat.lt_of_lt_of_le h3 (Nat.le_of_lt_succ h0)) h2))
  exact key _ x1 x2 x3 x4 x5 x6 x7 x8 x9 μ (Nat.lt_succ_self _) hI
