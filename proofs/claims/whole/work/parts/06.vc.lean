section VC
variable {X : ZX} {cc : ByteArray} {own : String} {nL : Nat} {rt : Option FieldType} {fr lo n1 : Nat} {pc q : Nat} {L : List (Option ZV)} {S : List ZV} {n : Nat} {M : ZM}
def z_mask (ks : List Bool) (L : List (Option ZV)) : List (Option ZV) := List.zipWith (fun b o => cond b o none) ks L
theorem v_mask (ks : List Bool) {L' : List (Option ZV)} (hm : z_mask ks L = L') (k : zV X pc L' S n M) : zV X pc L S n M := by
  refine v_less (fun i v hi => ?_) k
  rw [← hm] at hi
  unfold z_mask at hi
  rw [List.getElem?_zipWith] at hi
  cases h1 : ks[i]? with
  | none => rw [h1] at hi; simp at hi
  | some b =>
    cases h2 : L[i]? with
    | none => rw [h1, h2] at hi; simp at hi
    | some o =>
      rw [h1, h2] at hi
      cases b
      · simp at hi
      · simpa using hi
theorem v_iadd (C : zC X cc own nL rt fr lo n1) {x y : Int} (hd : decode cc pc = .ok (.iadd, 1)) (hq : pc + 1 = q) (hr : zin (x + y)) (k : zV X q L (.inl (x + y) :: S) n M) : zV X pc L (.inl y :: .inl x :: S) n M := by
  obtain ⟨⟨p, l, e, R, s, m, args, below, meth, c⟩, Q, base, n0, D, c3⟩ := X
  obtain ⟨hx0, hb, hml, hown, hts, hK, -, hlk, hbs, hfr, hlo, hce, hsl⟩ := C
  subst hq
  intro h0 hn oL oS oM ls H locs hl hP hS
  have h2 := k h0 hn oL (List.forall_mem_cons.mpr ⟨hr, fun v hv => oS v (List.mem_cons_of_mem _ (List.mem_cons_of_mem _ hv))⟩) oM ls H locs hl hP hS
  rw [List.map_cons, show z_val base (.inl (x + y)) = .int (Int32.ofInt x + Int32.ofInt y) from congrArg Value.int (Int32.ofInt_add x y)] at h2
  exact lv_iadd hx0 hb hd h2
theorem v_isub (C : zC X cc own nL rt fr lo n1) {x y : Int} (hd : decode cc pc = .ok (.isub, 1)) (hq : pc + 1 = q) (hr : zin (x - y)) (k : zV X q L (.inl (x - y) :: S) n M) : zV X pc L (.inl y :: .inl x :: S) n M := by
  obtain ⟨⟨p, l, e, R, s, m, args, below, meth, c⟩, Q, base, n0, D, c3⟩ := X
  obtain ⟨hx0, hb, hml, hown, hts, hK, -, hlk, hbs, hfr, hlo, hce, hsl⟩ := C
  subst hq
  intro h0 hn oL oS oM ls H locs hl hP hS
  have h2 := k h0 hn oL (List.forall_mem_cons.mpr ⟨hr, fun v hv => oS v (List.mem_cons_of_mem _ (List.mem_cons_of_mem _ hv))⟩) oM ls H locs hl hP hS
  rw [List.map_cons, show z_val base (.inl (x - y)) = .int (Int32.ofInt x - Int32.ofInt y) from congrArg Value.int (Int32.ofInt_sub x y)] at h2
  exact lv_isub hx0 hb hd h2
theorem v_imul (C : zC X cc own nL rt fr lo n1) {x y : Int} (hd : decode cc pc = .ok (.imul, 1)) (hq : pc + 1 = q) (hr : zin (x * y)) (k : zV X q L (.inl (x * y) :: S) n M) : zV X pc L (.inl y :: .inl x :: S) n M := by
  obtain ⟨⟨p, l, e, R, s, m, args, below, meth, c⟩, Q, base, n0, D, c3⟩ := X
  obtain ⟨hx0, hb, hml, hown, hts, hK, -, hlk, hbs, hfr, hlo, hce, hsl⟩ := C
  subst hq
  intro h0 hn oL oS oM ls H locs hl hP hS
  have h2 := k h0 hn oL (List.forall_mem_cons.mpr ⟨hr, fun v hv => oS v (List.mem_cons_of_mem _ (List.mem_cons_of_mem _ hv))⟩) oM ls H locs hl hP hS
  rw [List.map_cons, show z_val base (.inl (x * y)) = .int (Int32.ofInt x * Int32.ofInt y) from congrArg Value.int (Int32.ofInt_mul x y)] at h2
  exact lv_imul hx0 hb hd h2
theorem z_div {x y : Int} (hx : zin x) (hy : zin y) (h : 0 ≤ x ∧ 0 < y) : Int32.ofInt x / Int32.ofInt y = Int32.ofInt (x / y) := by
  have h1 : 0 ≤ x / y := Int.ediv_nonneg h.1 (by omega)
  have h2 : x / y ≤ x := Int.ediv_le_self _ h.1
  rw [← Int32.toInt_inj, Int32.toInt_div_of_ne_right _ _ (fun q => by have := congrArg Int32.toInt q; rw [z_toInt hy] at this; rw [this] at h; exact absurd h.2 (by decide)), z_toInt hx, z_toInt hy, z_toInt ⟨by omega, by omega⟩, Int.tdiv_eq_ediv_of_nonneg h.1]
theorem z_rem {x y : Int} (hx : zin x) (hy : zin y) (h : 0 ≤ x ∧ 0 < y) : Int32.ofInt x - Int32.ofInt x / Int32.ofInt y * Int32.ofInt y = Int32.ofInt (x % y) := by
  rw [z_div hx hy h, ← Int32.ofInt_mul, ← Int32.ofInt_sub, Int.emod_def, Int.mul_comm (x / y) y]
theorem v_idiv (C : zC X cc own nL rt fr lo n1) {x y : Int} (hd : decode cc pc = .ok (.idiv, 1)) (hq : pc + 1 = q) (hr : 0 ≤ x ∧ 0 < y) (k : zV X q L (.inl (x / y) :: S) n M) : zV X pc L (.inl y :: .inl x :: S) n M := by
  obtain ⟨⟨p, l, e, R, s, m, args, below, meth, c⟩, Q, base, n0, D, c3⟩ := X
  obtain ⟨hx0, hb, hml, hown, hts, hK, -, hlk, hbs, hfr, hlo, hce, hsl⟩ := C
  subst hq
  intro h0 hn oL oS oM ls H locs hl hP hS
  have hx : zin x := oS (.inl x) (by simp)
  have hy : zin y := oS (.inl y) (by simp)
  have h1 : 0 ≤ x / y := Int.ediv_nonneg hr.1 (by omega)
  have h2 : x / y ≤ x := Int.ediv_le_self _ hr.1
  have h3 := k h0 hn oL (List.forall_mem_cons.mpr ⟨⟨by omega, by omega⟩, fun v hv => oS v (List.mem_cons_of_mem _ (List.mem_cons_of_mem _ hv))⟩) oM ls H locs hl hP hS
  rw [List.map_cons, show z_val base (.inl (x / y)) = .int (Int32.ofInt x / Int32.ofInt y) from congrArg Value.int (z_div hx hy hr).symm] at h3
  exact lv_idiv hx0 hb hd (fun q => by have := (z_eq hy ⟨by decide, by decide⟩).mp (show Int32.ofInt y = Int32.ofInt 0 from q); omega) h3
theorem v_irem (C : zC X cc own nL rt fr lo n1) {x y : Int} (hd : decode cc pc = .ok (.irem, 1)) (hq : pc + 1 = q) (hr : 0 ≤ x ∧ 0 < y) (k : zV X q L (.inl (x % y) :: S) n M) : zV X pc L (.inl y :: .inl x :: S) n M := by
  obtain ⟨⟨p, l, e, R, s, m, args, below, meth, c⟩, Q, base, n0, D, c3⟩ := X
  obtain ⟨hx0, hb, hml, hown, hts, hK, -, hlk, hbs, hfr, hlo, hce, hsl⟩ := C
  subst hq
  intro h0 hn oL oS oM ls H locs hl hP hS
  have hx : zin x := oS (.inl x) (by simp)
  have hy : zin y := oS (.inl y) (by simp)
  have h1 : 0 ≤ x % y := Int.emod_nonneg _ (by omega)
  have h2 : x % y < y := Int.emod_lt_of_pos _ hr.2
  have h3 := k h0 hn oL (List.forall_mem_cons.mpr ⟨⟨by omega, by omega⟩, fun v hv => oS v (List.mem_cons_of_mem _ (List.mem_cons_of_mem _ hv))⟩) oM ls H locs hl hP hS
  rw [List.map_cons, show z_val base (.inl (x % y)) = .int (Int32.ofInt x - Int32.ofInt x / Int32.ofInt y * Int32.ofInt y) from congrArg Value.int (z_rem hx hy hr).symm] at h3
  exact lv_irem hx0 hb hd (fun q => by have := (z_eq hy ⟨by decide, by decide⟩).mp (show Int32.ofInt y = Int32.ofInt 0 from q); omega) h3
theorem v_dup (C : zC X cc own nL rt fr lo n1) {v : ZV} (hd : decode cc pc = .ok (.dup, 1)) (hq : pc + 1 = q) (k : zV X q L (v :: v :: S) n M) : zV X pc L (v :: S) n M := by
  obtain ⟨⟨p, l, e, R, s, m, args, below, meth, c⟩, Q, base, n0, D, c3⟩ := X
  obtain ⟨hx0, hb, hml, hown, hts, hK, -, hlk, hbs, hfr, hlo, hce, hsl⟩ := C
  subst hq
  intro h0 hn oL oS oM ls H locs hl hP hS
  exact lv_dup hx0 hb hd (z_cat base v) (k h0 hn oL (List.forall_mem_cons.mpr ⟨oS v List.mem_cons_self, oS⟩) oM ls H locs hl hP hS)
theorem v_dup2 (C : zC X cc own nL rt fr lo n1) {v w : ZV} (hd : decode cc pc = .ok (.dup2, 1)) (hq : pc + 1 = q) (k : zV X q L (v :: w :: v :: w :: S) n M) : zV X pc L (v :: w :: S) n M := by
  obtain ⟨⟨p, l, e, R, s, m, args, below, meth, c⟩, Q, base, n0, D, c3⟩ := X
  obtain ⟨hx0, hb, hml, hown, hts, hK, -, hlk, hbs, hfr, hlo, hce, hsl⟩ := C
  subst hq
  intro h0 hn oL oS oM ls H locs hl hP hS
  exact lv_dup2_11 hx0 hb hd (z_cat base v) (z_cat base w) (k h0 hn oL (List.forall_mem_cons.mpr ⟨oS v List.mem_cons_self, List.forall_mem_cons.mpr ⟨oS w (by simp), oS⟩⟩) oM ls H locs hl hP hS)
theorem v_pop (C : zC X cc own nL rt fr lo n1) {v : ZV} (hd : decode cc pc = .ok (.pop, 1)) (hq : pc + 1 = q) (k : zV X q L S n M) : zV X pc L (v :: S) n M := by
  obtain ⟨⟨p, l, e, R, s, m, args, below, meth, c⟩, Q, base, n0, D, c3⟩ := X
  obtain ⟨hx0, hb, hml, hown, hts, hK, -, hlk, hbs, hfr, hlo, hce, hsl⟩ := C
  subst hq
  intro h0 hn oL oS oM ls H locs hl hP hS
  exact lv_pop hx0 hb hd (z_cat base v) (k h0 hn oL (fun v hv => oS v (List.mem_cons_of_mem _ hv)) oM ls H locs hl hP hS)
theorem v_goto (C : zC X cc own nL rt fr lo n1) {off : Int} (hd : decode cc pc = .ok (.goto off, 3)) (hq : (pc : Int) + off = (q : Int)) (k : zV X q L S n M) : zV X pc L S n M := by
  obtain ⟨⟨p, l, e, R, s, m, args, below, meth, c⟩, Q, base, n0, D, c3⟩ := X
  obtain ⟨hx0, hb, hml, hown, hts, hK, -, hlk, hbs, hfr, hlo, hce, hsl⟩ := C
  intro h0 hn oL oS oM ls H locs hl hP hS
  exact lv_goto hx0 hb hd hq (k h0 hn oL oS oM ls H locs hl hP hS)
theorem v_icmp_eq (C : zC X cc own nL rt fr lo n1) {x y off : Int} {tgt : Nat} (hd : decode cc pc = .ok (.if_icmp .eq off, 3)) (hq : pc + 3 = q) (ht : (pc : Int) + off = (tgt : Int)) {A B : Prop} (h : if x = y then A else B) (kA : A → zV X tgt L S n M) (kB : B → zV X q L S n M) : zV X pc L (.inl y :: .inl x :: S) n M := by
  obtain ⟨⟨p, l, e, R, s, m, args, below, meth, c⟩, Q, base, n0, D, c3⟩ := X
  obtain ⟨hx0, hb, hml, hown, hts, hK, -, hlk, hbs, hfr, hlo, hce, hsl⟩ := C
  subst hq
  intro h0 hn oL oS oM ls H locs hl hP hS
  have hx : zin x := oS (.inl x) (by simp)
  have hy : zin y := oS (.inl y) (by simp)
  have o2 : ∀ v ∈ S, z_ok v := fun v hv => oS v (List.mem_cons_of_mem _ (List.mem_cons_of_mem _ hv))
  exact lv_icmp_eq hx0 hb hd ht (fun c9 => kA (by rw [if_pos ((z_eq hx hy).mp c9)] at h; exact h) h0 hn oL o2 oM ls H locs hl hP hS) (fun c9 => kB (by rw [if_neg (fun z => c9 ((z_eq hx hy).mpr z))] at h; exact h) h0 hn oL o2 oM ls H locs hl hP hS)
theorem v_if_eq (C : zC X cc own nL rt fr lo n1) {x off : Int} {tgt : Nat} (hd : decode cc pc = .ok (.ifCond .eq off, 3)) (hq : pc + 3 = q) (ht : (pc : Int) + off = (tgt : Int)) {A B : Prop} (h : if x = 0 then A else B) (kA : A → zV X tgt L S n M) (kB : B → zV X q L S n M) : zV X pc L (.inl x :: S) n M := by
  obtain ⟨⟨p, l, e, R, s, m, args, below, meth, c⟩, Q, base, n0, D, c3⟩ := X
  obtain ⟨hx0, hb, hml, hown, hts, hK, -, hlk, hbs, hfr, hlo, hce, hsl⟩ := C
  subst hq
  intro h0 hn oL oS oM ls H locs hl hP hS
  have hx : zin x := oS (.inl x) (by simp)
  have hy0 : zin 0 := ⟨by decide, by decide⟩
  have o2 : ∀ v ∈ S, z_ok v := fun v hv => oS v (List.mem_cons_of_mem _ hv)
  exact lv_if_eq hx0 hb hd ht (fun c9 => kA (by rw [if_pos ((z_eq hx hy0).mp c9)] at h; exact h) h0 hn oL o2 oM ls H locs hl hP hS) (fun c9 => kB (by rw [if_neg (fun z => c9 ((z_eq hx hy0).mpr z))] at h; exact h) h0 hn oL o2 oM ls H locs hl hP hS)
theorem v_icmp_ne (C : zC X cc own nL rt fr lo n1) {x y off : Int} {tgt : Nat} (hd : decode cc pc = .ok (.if_icmp .ne off, 3)) (hq : pc + 3 = q) (ht : (pc : Int) + off = (tgt : Int)) {A B : Prop} (h : if x = y then A else B) (kA : A → zV X q L S n M) (kB : B → zV X tgt L S n M) : zV X pc L (.inl y :: .inl x :: S) n M := by
  obtain ⟨⟨p, l, e, R, s, m, args, below, meth, c⟩, Q, base, n0, D, c3⟩ := X
  obtain ⟨hx0, hb, hml, hown, hts, hK, -, hlk, hbs, hfr, hlo, hce, hsl⟩ := C
  subst hq
  intro h0 hn oL oS oM ls H locs hl hP hS
  have hx : zin x := oS (.inl x) (by simp)
  have hy : zin y := oS (.inl y) (by simp)
  have o2 : ∀ v ∈ S, z_ok v := fun v hv => oS v (List.mem_cons_of_mem _ (List.mem_cons_of_mem _ hv))
  exact lv_icmp_ne hx0 hb hd ht (fun c9 => kB (by rw [if_neg (fun z => c9 ((z_eq hx hy).mpr z))] at h; exact h) h0 hn oL o2 oM ls H locs hl hP hS) (fun c9 => kA (by rw [if_pos ((z_eq hx hy).mp c9)] at h; exact h) h0 hn oL o2 oM ls H locs hl hP hS)
theorem v_if_ne (C : zC X cc own nL rt fr lo n1) {x off : Int} {tgt : Nat} (hd : decode cc pc = .ok (.ifCond .ne off, 3)) (hq : pc + 3 = q) (ht : (pc : Int) + off = (tgt : Int)) {A B : Prop} (h : if x = 0 then A else B) (kA : A → zV X q L S n M) (kB : B → zV X tgt L S n M) : zV X pc L (.inl x :: S) n M := by
  obtain ⟨⟨p, l, e, R, s, m, args, below, meth, c⟩, Q, base, n0, D, c3⟩ := X
  obtain ⟨hx0, hb, hml, hown, hts, hK, -, hlk, hbs, hfr, hlo, hce, hsl⟩ := C
  subst hq
  intro h0 hn oL oS oM ls H locs hl hP hS
  have hx : zin x := oS (.inl x) (by simp)
  have hy0 : zin 0 := ⟨by decide, by decide⟩
  have o2 : ∀ v ∈ S, z_ok v := fun v hv => oS v (List.mem_cons_of_mem _ hv)
  exact lv_if_ne hx0 hb hd ht (fun c9 => kB (by rw [if_neg (fun z => c9 ((z_eq hx hy0).mpr z))] at h; exact h) h0 hn oL o2 oM ls H locs hl hP hS) (fun c9 => kA (by rw [if_pos ((z_eq hx hy0).mp c9)] at h; exact h) h0 hn oL o2 oM ls H locs hl hP hS)
theorem v_icmp_lt (C : zC X cc own nL rt fr lo n1) {x y off : Int} {tgt : Nat} (hd : decode cc pc = .ok (.if_icmp .lt off, 3)) (hq : pc + 3 = q) (ht : (pc : Int) + off = (tgt : Int)) {A B : Prop} (h : if x < y then A else B) (kA : A → zV X tgt L S n M) (kB : B → zV X q L S n M) : zV X pc L (.inl y :: .inl x :: S) n M := by
  obtain ⟨⟨p, l, e, R, s, m, args, below, meth, c⟩, Q, base, n0, D, c3⟩ := X
  obtain ⟨hx0, hb, hml, hown, hts, hK, -, hlk, hbs, hfr, hlo, hce, hsl⟩ := C
  subst hq
  intro h0 hn oL oS oM ls H locs hl hP hS
  have hx : zin x := oS (.inl x) (by simp)
  have hy : zin y := oS (.inl y) (by simp)
  have o2 : ∀ v ∈ S, z_ok v := fun v hv => oS v (List.mem_cons_of_mem _ (List.mem_cons_of_mem _ hv))
  exact lv_icmp_lt hx0 hb hd ht (fun c9 => kA (by rw [if_pos ((z_lt hx hy).mp c9)] at h; exact h) h0 hn oL o2 oM ls H locs hl hP hS) (fun c9 => kB (by rw [if_neg (fun z => c9 ((z_lt hx hy).mpr z))] at h; exact h) h0 hn oL o2 oM ls H locs hl hP hS)
theorem v_if_lt (C : zC X cc own nL rt fr lo n1) {x off : Int} {tgt : Nat} (hd : decode cc pc = .ok (.ifCond .lt off, 3)) (hq : pc + 3 = q) (ht : (pc : Int) + off = (tgt : Int)) {A B : Prop} (h : if x < 0 then A else B) (kA : A → zV X tgt L S n M) (kB : B → zV X q L S n M) : zV X pc L (.inl x :: S) n M := by
  obtain ⟨⟨p, l, e, R, s, m, args, below, meth, c⟩, Q, base, n0, D, c3⟩ := X
  obtain ⟨hx0, hb, hml, hown, hts, hK, -, hlk, hbs, hfr, hlo, hce, hsl⟩ := C
  subst hq
  intro h0 hn oL oS oM ls H locs hl hP hS
  have hx : zin x := oS (.inl x) (by simp)
  have hy0 : zin 0 := ⟨by decide, by decide⟩
  have o2 : ∀ v ∈ S, z_ok v := fun v hv => oS v (List.mem_cons_of_mem _ hv)
  exact lv_if_lt hx0 hb hd ht (fun c9 => kA (by rw [if_pos ((z_lt hx hy0).mp c9)] at h; exact h) h0 hn oL o2 oM ls H locs hl hP hS) (fun c9 => kB (by rw [if_neg (fun z => c9 ((z_lt hx hy0).mpr z))] at h; exact h) h0 hn oL o2 oM ls H locs hl hP hS)
theorem v_icmp_ge (C : zC X cc own nL rt fr lo n1) {x y off : Int} {tgt : Nat} (hd : decode cc pc = .ok (.if_icmp .ge off, 3)) (hq : pc + 3 = q) (ht : (pc : Int) + off = (tgt : Int)) {A B : Prop} (h : if y ≤ x then A else B) (kA : A → zV X tgt L S n M) (kB : B → zV X q L S n M) : zV X pc L (.inl y :: .inl x :: S) n M := by
  obtain ⟨⟨p, l, e, R, s, m, args, below, meth, c⟩, Q, base, n0, D, c3⟩ := X
  obtain ⟨hx0, hb, hml, hown, hts, hK, -, hlk, hbs, hfr, hlo, hce, hsl⟩ := C
  subst hq
  intro h0 hn oL oS oM ls H locs hl hP hS
  have hx : zin x := oS (.inl x) (by simp)
  have hy : zin y := oS (.inl y) (by simp)
  have o2 : ∀ v ∈ S, z_ok v := fun v hv => oS v (List.mem_cons_of_mem _ (List.mem_cons_of_mem _ hv))
  exact lv_icmp_ge hx0 hb hd ht (fun c9 => kA (by rw [if_pos ((z_le hy hx).mp c9)] at h; exact h) h0 hn oL o2 oM ls H locs hl hP hS) (fun c9 => kB (by rw [if_neg (fun z => c9 ((z_le hy hx).mpr z))] at h; exact h) h0 hn oL o2 oM ls H locs hl hP hS)
theorem v_if_ge (C : zC X cc own nL rt fr lo n1) {x off : Int} {tgt : Nat} (hd : decode cc pc = .ok (.ifCond .ge off, 3)) (hq : pc + 3 = q) (ht : (pc : Int) + off = (tgt : Int)) {A B : Prop} (h : if 0 ≤ x then A else B) (kA : A → zV X tgt L S n M) (kB : B → zV X q L S n M) : zV X pc L (.inl x :: S) n M := by
  obtain ⟨⟨p, l, e, R, s, m, args, below, meth, c⟩, Q, base, n0, D, c3⟩ := X
  obtain ⟨hx0, hb, hml, hown, hts, hK, -, hlk, hbs, hfr, hlo, hce, hsl⟩ := C
  subst hq
  intro h0 hn oL oS oM ls H locs hl hP hS
  have hx : zin x := oS (.inl x) (by simp)
  have hy0 : zin 0 := ⟨by decide, by decide⟩
  have o2 : ∀ v ∈ S, z_ok v := fun v hv => oS v (List.mem_cons_of_mem _ hv)
  exact lv_if_ge hx0 hb hd ht (fun c9 => kA (by rw [if_pos ((z_le hy0 hx).mp c9)] at h; exact h) h0 hn oL o2 oM ls H locs hl hP hS) (fun c9 => kB (by rw [if_neg (fun z => c9 ((z_le hy0 hx).mpr z))] at h; exact h) h0 hn oL o2 oM ls H locs hl hP hS)
theorem v_icmp_gt (C : zC X cc own nL rt fr lo n1) {x y off : Int} {tgt : Nat} (hd : decode cc pc = .ok (.if_icmp .gt off, 3)) (hq : pc + 3 = q) (ht : (pc : Int) + off = (tgt : Int)) {A B : Prop} (h : if y < x then A else B) (kA : A → zV X tgt L S n M) (kB : B → zV X q L S n M) : zV X pc L (.inl y :: .inl x :: S) n M := by
  obtain ⟨⟨p, l, e, R, s, m, args, below, meth, c⟩, Q, base, n0, D, c3⟩ := X
  obtain ⟨hx0, hb, hml, hown, hts, hK, -, hlk, hbs, hfr, hlo, hce, hsl⟩ := C
  subst hq
  intro h0 hn oL oS oM ls H locs hl hP hS
  have hx : zin x := oS (.inl x) (by simp)
  have hy : zin y := oS (.inl y) (by simp)
  have o2 : ∀ v ∈ S, z_ok v := fun v hv => oS v (List.mem_cons_of_mem _ (List.mem_cons_of_mem _ hv))
  exact lv_icmp_gt hx0 hb hd ht (fun c9 => kA (by rw [if_pos ((z_lt hy hx).mp c9)] at h; exact h) h0 hn oL o2 oM ls H locs hl hP hS) (fun c9 => kB (by rw [if_neg (fun z => c9 ((z_lt hy hx).mpr z))] at h; exact h) h0 hn oL o2 oM ls H locs hl hP hS)
theorem v_if_gt (C : zC X cc own nL rt fr lo n1) {x off : Int} {tgt : Nat} (hd : decode cc pc = .ok (.ifCond .gt off, 3)) (hq : pc + 3 = q) (ht : (pc : Int) + off = (tgt : Int)) {A B : Prop} (h : if 0 < x then A else B) (kA : A → zV X tgt L S n M) (kB : B → zV X q L S n M) : zV X pc L (.inl x :: S) n M := by
  obtain ⟨⟨p, l, e, R, s, m, args, below, meth, c⟩, Q, base, n0, D, c3⟩ := X
  obtain ⟨hx0, hb, hml, hown, hts, hK, -, hlk, hbs, hfr, hlo, hce, hsl⟩ := C
  subst hq
  intro h0 hn oL oS oM ls H locs hl hP hS
  have hx : zin x := oS (.inl x) (by simp)
  have hy0 : zin 0 := ⟨by decide, by decide⟩
  have o2 : ∀ v ∈ S, z_ok v := fun v hv => oS v (List.mem_cons_of_mem _ hv)
  exact lv_if_gt hx0 hb hd ht (fun c9 => kA (by rw [if_pos ((z_lt hy0 hx).mp c9)] at h; exact h) h0 hn oL o2 oM ls H locs hl hP hS) (fun c9 => kB (by rw [if_neg (fun z => c9 ((z_lt hy0 hx).mpr z))] at h; exact h) h0 hn oL o2 oM ls H locs hl hP hS)
theorem v_icmp_le (C : zC X cc own nL rt fr lo n1) {x y off : Int} {tgt : Nat} (hd : decode cc pc = .ok (.if_icmp .le off, 3)) (hq : pc + 3 = q) (ht : (pc : Int) + off = (tgt : Int)) {A B : Prop} (h : if x ≤ y then A else B) (kA : A → zV X tgt L S n M) (kB : B → zV X q L S n M) : zV X pc L (.inl y :: .inl x :: S) n M := by
  obtain ⟨⟨p, l, e, R, s, m, args, below, meth, c⟩, Q, base, n0, D, c3⟩ := X
  obtain ⟨hx0, hb, hml, hown, hts, hK, -, hlk, hbs, hfr, hlo, hce, hsl⟩ := C
  subst hq
  intro h0 hn oL oS oM ls H locs hl hP hS
  have hx : zin x := oS (.inl x) (by simp)
  have hy : zin y := oS (.inl y) (by simp)
  have o2 : ∀ v ∈ S, z_ok v := fun v hv => oS v (List.mem_cons_of_mem _ (List.mem_cons_of_mem _ hv))
  exact lv_icmp_le hx0 hb hd ht (fun c9 => kA (by rw [if_pos ((z_le hx hy).mp c9)] at h; exact h) h0 hn oL o2 oM ls H locs hl hP hS) (fun c9 => kB (by rw [if_neg (fun z => c9 ((z_le hx hy).mpr z))] at h; exact h) h0 hn oL o2 oM ls H locs hl hP hS)
theorem v_if_le (C : zC X cc own nL rt fr lo n1) {x off : Int} {tgt : Nat} (hd : decode cc pc = .ok (.ifCond .le off, 3)) (hq : pc + 3 = q) (ht : (pc : Int) + off = (tgt : Int)) {A B : Prop} (h : if x ≤ 0 then A else B) (kA : A → zV X tgt L S n M) (kB : B → zV X q L S n M) : zV X pc L (.inl x :: S) n M := by
  obtain ⟨⟨p, l, e, R, s, m, args, below, meth, c⟩, Q, base, n0, D, c3⟩ := X
  obtain ⟨hx0, hb, hml, hown, hts, hK, -, hlk, hbs, hfr, hlo, hce, hsl⟩ := C
  subst hq
  intro h0 hn oL oS oM ls H locs hl hP hS
  have hx : zin x := oS (.inl x) (by simp)
  have hy0 : zin 0 := ⟨by decide, by decide⟩
  have o2 : ∀ v ∈ S, z_ok v := fun v hv => oS v (List.mem_cons_of_mem _ hv)
  exact lv_if_le hx0 hb hd ht (fun c9 => kA (by rw [if_pos ((z_le hx hy0).mp c9)] at h; exact h) h0 hn oL o2 oM ls H locs hl hP hS) (fun c9 => kB (by rw [if_neg (fun z => c9 ((z_le hx hy0).mpr z))] at h; exact h) h0 hn oL o2 oM ls H locs hl hP hS)
theorem v_ifnonnull (C : zC X cc own nL rt fr lo n1) {a off : Int} {tgt : Nat} (hd : decode cc pc = .ok (.ifnonnull off, 3)) (hq : pc + 3 = q) (ht : (pc : Int) + off = (tgt : Int)) {A B : Prop} (h : if a = 0 then A else B) (kA : A → zV X q L S n M) (kB : B → zV X tgt L S n M) : zV X pc L (.inr a :: S) n M := by
  obtain ⟨⟨p, l, e, R, s, m, args, below, meth, c⟩, Q, base, n0, D, c3⟩ := X
  obtain ⟨hx0, hb, hml, hown, hts, hK, -, hlk, hbs, hfr, hlo, hce, hsl⟩ := C
  subst hq
  intro h0 hn oL oS oM ls H locs hl hP hS
  have o2 : ∀ v ∈ S, z_ok v := fun v hv => oS v (List.mem_cons_of_mem _ hv)
  rw [List.map_cons, show z_val base (.inr a) = va_rf (z_rf base a) from rfl]
  unfold z_rf
  by_cases ha : a = 0
  · rw [if_pos ha] at h ⊢
    exact lv_ifnonnullN hx0 hb hd (kA h h0 hn oL o2 oM ls H locs hl hP hS)
  · rw [if_neg ha] at h ⊢
    exact lv_ifnonnull hx0 hb hd ht (kB h h0 hn oL o2 oM ls H locs hl hP hS)
theorem v_ifnull (C : zC X cc own nL rt fr lo n1) {a off : Int} {tgt : Nat} (hd : decode cc pc = .ok (.ifnull off, 3)) (hq : pc + 3 = q) (ht : (pc : Int) + off = (tgt : Int)) {A B : Prop} (h : if a = 0 then A else B) (kA : A → zV X tgt L S n M) (kB : B → zV X q L S n M) : zV X pc L (.inr a :: S) n M := by
  obtain ⟨⟨p, l, e, R, s, m, args, below, meth, c⟩, Q, base, n0, D, c3⟩ := X
  obtain ⟨hx0, hb, hml, hown, hts, hK, -, hlk, hbs, hfr, hlo, hce, hsl⟩ := C
  subst hq
  intro h0 hn oL oS oM ls H locs hl hP hS
  have o2 : ∀ v ∈ S, z_ok v := fun v hv => oS v (List.mem_cons_of_mem _ hv)
  rw [List.map_cons, show z_val base (.inr a) = va_rf (z_rf base a) from rfl]
  unfold z_rf
  by_cases ha : a = 0
  · rw [if_pos ha] at h ⊢
    exact lv_ifnullN hx0 hb hd ht (kA h h0 hn oL o2 oM ls H locs hl hP hS)
  · rw [if_neg ha] at h ⊢
    exact lv_ifnull hx0 hb hd (kB h h0 hn oL o2 oM ls H locs hl hP hS)
theorem v_lookup (C : zC X cc own nL rt fr lo n1) {x dflt : Int} {ps : Array (Int × Int)} {len : Nat} (hd : decode cc pc = .ok (.lookupswitch dflt ps, len)) (hp : (ps.toList.zip (ps.toList.drop 1)).all (fun (a, next) => a.1 < next.1) = true) {off : Int} {tgt : Nat} (ho : Op.lookupswitch.offset ps.toList dflt x = off) (ht : (pc : Int) + off = (tgt : Int)) (k : zV X tgt L S n M) : zV X pc L (.inl x :: S) n M := by
  obtain ⟨⟨p, l, e, R, s, m, args, below, meth, c⟩, Q, base, n0, D, c3⟩ := X
  obtain ⟨hx0, hb, hml, hown, hts, hK, -, hlk, hbs, hfr, hlo, hce, hsl⟩ := C
  intro h0 hn oL oS oM ls H locs hl hP hS
  have hx : zin x := oS (.inl x) (by simp)
  have o2 : ∀ v ∈ S, z_ok v := fun v hv => oS v (List.mem_cons_of_mem _ hv)
  exact lv_lookup hx0 hb hd hp (by rw [z_toInt hx]; exact ho) ht (k h0 hn oL o2 oM ls H locs hl hP hS)
theorem v_tableOut (C : zC X cc own nL rt fr lo n1) {x dflt a b : Int} {offs : Array Int} {len : Nat} (hd : decode cc pc = .ok (.tableswitch dflt a b offs, len)) (h : x < a ∨ b < x) {tgt : Nat} (ht : (pc : Int) + dflt = (tgt : Int)) (k : zV X tgt L S n M) : zV X pc L (.inl x :: S) n M := by
  obtain ⟨⟨p, l, e, R, s, m, args, below, meth, c⟩, Q, base, n0, D, c3⟩ := X
  obtain ⟨hx0, hb, hml, hown, hts, hK, -, hlk, hbs, hfr, hlo, hce, hsl⟩ := C
  intro h0 hn oL oS oM ls H locs hl hP hS
  have hx : zin x := oS (.inl x) (by simp)
  have o2 : ∀ v ∈ S, z_ok v := fun v hv => oS v (List.mem_cons_of_mem _ hv)
  exact lv_tableOut hx0 hb hd (by rw [z_toInt hx]; exact h) ht (k h0 hn oL o2 oM ls H locs hl hP hS)
theorem v_tableIn (C : zC X cc own nL rt fr lo n1) {x dflt a b : Int} {offs : Array Int} {len : Nat} (hd : decode cc pc = .ok (.tableswitch dflt a b offs, len)) (h : a ≤ x ∧ x ≤ b) {off : Int} {tgt : Nat} (ho : offs[(x - a).toNat]? = some off) (ht : (pc : Int) + off = (tgt : Int)) (k : zV X tgt L S n M) : zV X pc L (.inl x :: S) n M := by
  obtain ⟨⟨p, l, e, R, s, m, args, below, meth, c⟩, Q, base, n0, D, c3⟩ := X
  obtain ⟨hx0, hb, hml, hown, hts, hK, -, hlk, hbs, hfr, hlo, hce, hsl⟩ := C
  intro h0 hn oL oS oM ls H locs hl hP hS
  have hx : zin x := oS (.inl x) (by simp)
  have o2 : ∀ v ∈ S, z_ok v := fun v hv => oS v (List.mem_cons_of_mem _ hv)
  exact lv_tableIn hx0 hb hd (by rw [z_toInt hx]; omega) (by rw [z_toInt hx]; omega) (by rw [z_toInt hx]; exact ho) ht (k h0 hn oL o2 oM ls H locs hl hP hS)
end VC
