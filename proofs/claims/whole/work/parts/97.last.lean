/-! THE CLAIM OUT OF ONE WALK OF THE LAW'S BODY. Your part is whole_start (and what it stands on); all else here is the same for every law, but numbers. -/
def R_law : String := "SteeredClaimsLaw"
def lw_P (b : Addr) (xs : List Int32) (args : Array Value) (s : State) : Prop := args = #[.ref b] ∧ s.IntsAt b xs ∧ xs.length ≤ 2560 ∧ (Jvm.Cond.and given_1 narrow_1).before args s = true
def lw_Q (_ : Array Value) (s : State) (o : Outcome) (t : State) : Prop := o = .returned (some (.int 1)) ∧ Framed s o t [] 600000 7302250
def lw_Z (below : List Frame) (a : Array Value) (s : State) : State → Prop := fun t => ∃ o, t.status = .running ∧ Ended t below o ∧ lw_Q a s o t
/-- the law's own end, with 1 on the stack, nothing written that was there before, its room as the claim has it -/
theorem lw_ret {p : Program} {l : Launch} {e : Env} {s : State} {m : MethodId} {below : List Frame} {meth : Method} {c : Code} {b : Nat} (hx : p.tables.exec = Jvm.exec) (hb : c.code = code) (hr : meth.sig.returnType = ret) (hlocks : meth.locks = false) {pc : Nat} {H : Heap} {ls : Array Slot} (hdg : decode code pc = .ok (.ireturn, 1)) : W p l e room_1 s m #[Value.ref b] below meth c H [] 600000 7302250 (lw_Z below #[Value.ref b] s) (F0 m pc ls [.int 1]) := by
  intro T hT X
  obtain ⟨fs, hret, hrun, hended, hW, hframe⟩ := X.leave (v := some (.int 1)) (hlocks := hlocks) (fun h => by rw [hr] at h; cases h)
  have hmeth' : T.vm.method? m = some meth := X.method'
  refine ⟨T.setFrames fs, ?_, .returned (some (.int 1)), hrun, hended, rfl, ⟨_, rfl⟩, hW, hframe⟩
  jvm_step X.here [X.here.top, hx, hb, hdg, hmeth', hr, ret, narrow_b1]
  (try refine ⟨rfl, ?_⟩); (try refine ⟨rfl, ?_⟩)
  first | (intro acts; rw [hret _ acts rfl rfl rfl]) | rw [hret _ _ rfl rfl rfl]
  exact Steps.refl _
/-- what holds at the law's entry: the machine, the code, the tables' words (any of lw_tbl by 'hts w (by decide +kernel)'), the script of L ints xs at the cell b, what the Statement gives of the start (any of its parts by flat_of_before) -/
def lw_At (p : Program) (s : State) (m : MethodId) (meth : Method) (c : Code) (b L : Nat) (xs : Nat → Int32) : Prop :=
  p.tables.exec = Jvm.exec ∧ c.code = code ∧ meth.sig.returnType = ret ∧ c.maxLocals = 4 ∧ s.vm.findClass R_law = some m.cls ∧ (∀ w ∈ lw_tbl, w.before #[Value.ref b] s = true) ∧ va_X b L xs s s.heap ∧ b < s.heap.size ∧ meth.locks = false ∧ (Jvm.Cond.and given_1 narrow_1).before #[Value.ref b] s = true
theorem wn_in : ∀ q ∈ wn, Cond.methodLinkNest q.1 q.2.1 q.2.2.1 q.2.2.2 ∈ tables_1 := by decide +kernel
theorem ao_in : Cond.arrayOver (.object RX10) ∈ tables_1 ∧ Cond.arrayOver (.object RX0) ∈ tables_1 := ⟨by decide +kernel, by decide +kernel⟩
theorem z_slots : z_sl 274 - z_sl 0 ≤ 7302250 := by decide +kernel
theorem z_lt_tbl {args : Array Value} {s : State} (hts : ∀ w ∈ lw_tbl, w.before args s = true) : ∀ w ∈ wt, w.before args s = true := fun w hw => hts w (List.mem_filter.mp hw).1
/-- all that the tables say of the classes and the array classes -/
theorem z_known {args : Array Value} {s : State} (hts : ∀ w ∈ lw_tbl, w.before args s = true) : ∃ (D : va_G) (c3 : Z3), va_K D vwCl (z_tys c3) s := by
  have ht := z_lt_tbl hts
  obtain ⟨c0, i0, h0⟩ := u_known (C := RX0) (T := TX0) (N := 2) (n := 2) ht kl0.2.2.1 (ht _ in_0)
  obtain ⟨c1, i1, h1⟩ := u_known (C := RX1) (T := TX1) (N := 2) (n := 2) ht kl1.2.2.1 (ht _ in_1)
  obtain ⟨c2, i2, h2⟩ := u_known (C := RX2) (T := TX2) (N := 10) (n := 10) ht kl2.2.2.1 (ht _ in_2)
  obtain ⟨c3, i3, h3⟩ := u_known (C := RX3) (T := TX3) (N := 5) (n := 5) ht kl3.2.2.1 (ht _ in_3)
  obtain ⟨c4, i4, h4⟩ := u_known (C := RX4) (T := TX4) (N := 5) (n := 5) ht kl4.2.2.1 (ht _ in_4)
  obtain ⟨c5, i5, h5⟩ := u_known (C := RX5) (T := TX5) (N := 2) (n := 2) ht kl5.2.2.1 (ht _ in_5)
  obtain ⟨c6, i6, h6⟩ := u_known (C := RX6) (T := TX6) (N := 15) (n := 15) ht kl6.2.2.1 (ht _ in_6)
  obtain ⟨c7, i7, h7⟩ := u_known (C := RX7) (T := TX7) (N := 5) (n := 5) ht kl7.2.2.1 (ht _ in_7)
  obtain ⟨c8, i8, h8⟩ := u_known (C := RX8) (T := TX8) (N := 10) (n := 10) ht kl8.2.2.1 (ht _ in_8)
  obtain ⟨c9, i9, h9⟩ := u_known (C := RX9) (T := TX9) (N := 10) (n := 10) ht kl9.2.2.1 (ht _ in_9)
  obtain ⟨c10, i10, h10⟩ := u_known (C := RX10) (T := TX10) (N := 3) (n := 3) ht kl10.2.2.1 (ht _ in_10)
  obtain ⟨c11, i11, h11⟩ := u_known (C := RX11) (T := TX11) (N := 12) (n := 12) ht kl11.2.2.1 (ht _ in_11)
  obtain ⟨c12, i12, h12⟩ := u_known (C := RX12) (T := TX12) (N := 50) (n := 50) ht kl12.2.2.1 (ht _ in_12)
  obtain ⟨cI, kI, compI, f1, f2, f3⟩ := Cond.arrayClass_spec (ht _ ac_I)
  obtain ⟨compT, cT, kT, t1, -, t3, t4, t5⟩ := Cond.arrayOver_spec (hts _ (List.mem_append_right _ ao_in.1))
  obtain ⟨compC, cC, kC, u1, -, u3, u4, u5⟩ := Cond.arrayOver_spec (hts _ (List.mem_append_right _ ao_in.2))
  refine ⟨(fun k => ([c0, c1, c2, c3, c4, c5, c6, c7, c8, c9, c10, c11, c12] : List ClassId).getD k c0, fun k => ([i0, i1, i2, i3, i4, i5, i6, i7, i8, i9, i10, i11, i12] : List (Nat → Nat)).getD k i0), (cI, cT, cC), ?_, ?_⟩
  · intro k q hq
    match k, hq with
    | 0, hq => cases hq; exact h0
    | 1, hq => cases hq; exact h1
    | 2, hq => cases hq; exact h2
    | 3, hq => cases hq; exact h3
    | 4, hq => cases hq; exact h4
    | 5, hq => cases hq; exact h5
    | 6, hq => cases hq; exact h6
    | 7, hq => cases hq; exact h7
    | 8, hq => cases hq; exact h8
    | 9, hq => cases hq; exact h9
    | 10, hq => cases hq; exact h10
    | 11, hq => cases hq; exact h11
    | 12, hq => cases hq; exact h12
    | k + 13, hq => simp [vwCl] at hq
  · intro k q hq
    match k, hq with
    | 0, hq => cases hq; exact ⟨fun N z => ⟨fun k h => by (cases h), kI, f2, compI, f3⟩, f1⟩
    | 1, hq => cases hq; exact ⟨fun N z => ⟨fun k h => by (cases h), kT, t3, compT, t4⟩, kT, compT, t3, t4, t1, t5⟩
    | 2, hq => cases hq; exact ⟨fun N z => ⟨fun k h => by (cases h), kC, u3, compC, u4⟩, kC, compC, u3, u4, u1, u5⟩
    | k + 3, hq => simp [z_tys] at hq
/-- behind the constructors the pointers stand as the layout says -/
theorem z_ov_chk : ∀ k, k < 274 → ∀ j, j < 50 → z_ptr ((k : Nat) + 1 : Int) ((j : Nat) : Int) = 0 ∨ z_me z_0 ML73 ((k : Nat) + 1 : Int) ((j : Nat) : Int) = z_ptr ((k : Nat) + 1 : Int) ((j : Nat) : Int) := by decide +kernel
theorem z_ov_fin : z_me z_0 ML73 = z_ov (z_me z_0 ML73) := by
  funext a k
  unfold z_ov
  by_cases h : z_ptr a k = 0
  · rw [if_pos h]
  · rw [if_neg h]
    obtain ⟨h1, h2, h3, h4⟩ := z_ptr_dom h
    have q := z_ov_chk (a - 1).toNat (by omega) k.toNat (by omega)
    rw [show (((a - 1).toNat : Nat) + 1 : Int) = a by omega, show ((k.toNat : Nat) : Int) = k by omega] at q
    rcases q with q | q
    · exact absurd q h
    · exact q
set_option maxHeartbeats 4000000 in
set_option maxRecDepth 100000 in
/-- THE LAW, from its entry -/
theorem whole_start {p : Program} {e : Env} {s : State} {m : MethodId} {below : List Frame} {meth : Method} {c : Code} (l : Launch) (hflags : l.flags = flags0) {b L : Nat} {xs : Nat → Int32} (hL : L ≤ 2560) (C0 : lw_At p s m meth c b L xs) : W p l e room_1 s m #[Value.ref b] below meth c s.heap [] 0 0 (lw_Z below #[Value.ref b] s) (entryFrame m ([Value.ref b] : List Value).toArray 4) := by
  obtain ⟨hx, hb, hr, hml, hown, hts, hX, hbl, hlocks, hgv⟩ := C0
  obtain ⟨D, c3, hK⟩ := z_known hts
  have hN : zN s := ⟨fun q hq => va_Nw.of rfl (hts _ (List.mem_append_right _ (wn_in q hq))), va_AO.of (hts _ (List.mem_append_right _ ao_in.1)), va_AO.of (hts _ (List.mem_append_right _ ao_in.2))⟩
  obtain ⟨X, hXe⟩ : ∃ X : ZX, X = ((p, l, e, room_1, s, m, #[Value.ref b], below, meth, c), (lw_Z below #[Value.ref b] s, s.heap.size, 0, D, c3)) := ⟨_, rfl⟩
  have C : zC X cL_law RL 4 (some .boolean) 2048 84000 274 := by
    subst hXe
    exact ⟨hx, hb, hml, hown, z_lt_tbl hts, hK, hr, hN, rfl, nb rfl, nb rfl, nb rfl, z_slots⟩
  have hs : zScr X ((b : Int) - (s.heap.size : Int)) L (fun i => (xs i.toNat).toInt) := by
    subst hXe
    refine ⟨b, hbl, hbl, rfl, fun i => ⟨?_, ?_⟩, ?_⟩
    · have := (xs i.toNat).le_toInt
      dsimp only
      omega
    · have := (xs i.toNat).toInt_lt
      dsimp only
      omega
    · have e1 : (fun j : Nat => Int32.ofInt ((fun i : Int => (xs i.toNat).toInt) (j : Int))) = xs := by
        funext j
        show Int32.ofInt (xs ((j : Int).toNat)).toInt = xs j
        rw [Int32.ofInt_toInt, Int.toNat_natCast]
      rw [e1]
      exact hX
  have hR : zRi X cL_law (some .boolean) 274 (KN (KI (fun r _ => r = 1))) := by
    intro pc L x M hd hrt hk
    obtain ⟨μ, rfl, r, hr1, rfl⟩ := hk
    cases hr1
    subst hXe
    intro h0 hn oL oS oM ls H locs hl hP hS
    refine va_forget (fun q hq => hS.2.2 q hq) ?_
    refine W.widen (k := 600000) (n := 7302250) (nb rfl) z_slots ?_
    exact lw_ret hx hb hr hlocks hd
  have hov : z_me z_0 ML73 = z_ov (z_me z_0 ML73) := z_ov_fin
  have key : zV X 0 [some (.inr ((b : Int) - (s.heap.size : Int))), none, none, none] [] 0 (z_me z_0 ML0) := by
    refine k_new (q := 3) (n' := 1) (a := 206) C kl11 df11 ck_L_7 ⟨in_11, it_11⟩ rfl ⟨nb rfl, nb rfl⟩ (by decide +kernel) (by decide +kernel) (fun _ => rfl) dL_law_0 rfl ?_
    refine v_dup (q := 4) C dL_law_3 rfl ?_
    refine k_cI0 (q := 7) (n' := 247) (M2 := z_me z_0 ML71) C kt_X11_init sy_X11_init si_X11_init rfl ml_L_9 ⟨by decide +kernel, by decide +kernel⟩ ⟨nb rfl, nb rfl⟩ ⟨nb rfl, nb rfl, nb rfl⟩ (nb rfl) dL_law_4 rfl ?_
    refine v_astoren (q := 8) C dL_law_7 rfl (nb rfl) (L' := [some (.inr ((b : Int) - (s.heap.size : Int))), some (.inr 206), none, none]) rfl ?_
    refine k_new (q := 11) (n' := 248) (a := 248) C kl12 df12 ck_L_10 ⟨in_12, it_12⟩ rfl ⟨nb rfl, nb rfl⟩ (by decide +kernel) (by decide +kernel) (z_me_0 (by decide +kernel)) dL_law_8 rfl ?_
    refine v_dup (q := 12) C dL_law_11 rfl ?_
    refine k_cI0 (q := 15) (n' := 274) (M2 := z_me z_0 ML73) C kt_X12_init sy_X12_init si_X12_init rfl ml_L_12 ⟨by decide +kernel, by decide +kernel⟩ ⟨nb rfl, nb rfl⟩ ⟨nb rfl, nb rfl, nb rfl⟩ (nb rfl) dL_law_12 rfl ?_
    refine v_astoren (q := 16) C dL_law_15 rfl (nb rfl) (L' := [some (.inr ((b : Int) - (s.heap.size : Int))), some (.inr 206), some (.inr 248), none]) rfl ?_
    refine v_iconst (q := 17) C dL_law_16 rfl (by decide) ?_
    refine v_istoren (q := 18) C dL_law_17 rfl (nb rfl) (L' := [some (.inr ((b : Int) - (s.heap.size : Int))), some (.inr 206), some (.inr 248), some (.inl 0)]) rfl ?_
    rw [hov]
    exact w_L_law_18 hs (by omega) C hR (pure_main hL (fun i => by
      have h1 := (xs i.toNat).le_toInt
      have h2 := (xs i.toNat).toInt_lt
      exact ⟨by omega, by omega⟩))
  have hl := lv_entry ([.ref b]) (n := 4) (nb rfl)
  rw [lg_entry_eq]
  generalize (lg_sl ([.ref b]) ++ List.replicate (4 - (lg_sl ([.ref b])).length) Slot.unset).toArray = ls at hl ⊢
  have hl : lv_has ls 4 [(0, .ref b)] := hl
  have hl2 : zL s.heap.size ls c.maxLocals [some (.inr ((b : Int) - (s.heap.size : Int))), none, none, none] := by
    rw [hml]
    refine ⟨hl.1, hl.2.1, fun i v hi => ?_⟩
    match i, hi with
    | 0, hi =>
      cases hi
      rw [z_scr_val hbl rfl]
      exact lv_at hl 0 rfl
    | 1, hi => cases hi
    | 2, hi => cases hi
    | 3, hi => cases hi
    | i + 4, hi => simp at hi
  subst hXe
  exact key (Nat.le_refl _) (Nat.zero_le _) (fun v hv => by
    rcases List.mem_cons.mp hv with h | h
    · cases h; trivial
    · simp at h) (fun v hv => by (cases hv)) (fun a i => ⟨by show (-2147483648 : Int) ≤ 0; decide, by show (0 : Int) ≤ 2147483647; decide⟩) ls s.heap [] hl2 (fun k q h => by simp [z_ws] at h) va_S.rf
set_option maxHeartbeats 4000000 in
theorem lw_walk (l : Launch) (hflags : l.flags = flags0) (b : Addr) (xs : List Int32) : MetFree l x (headSpec (Jvm.Cond.code x code maxLocals ret :: tables_1) room_1) (lw_P b xs) (fun _ _ _ _ _ => True) lw_Q := by
  refine MetFree.of_bodyS (code := code) (maxLocals := maxLocals) (ret := ret) (by decide) ?_ ?_
  · intro args s m h hn
    obtain ⟨meth, c, h1, h2, h3, h4, h5, h6, -, -⟩ := Cond.code_spec hn (atoms_spec (ws := Jvm.Cond.code x code maxLocals ret :: tables_1) h _ List.mem_cons_self)
    exact ⟨meth, c, h1, h2, h3, h4, h5, h6⟩
  · intro p e s m args below meth c s₁ B hml0 hP _
    obtain ⟨rfl, hx, hbd, hgv⟩ := hP
    obtain ⟨scr, harrAt, hlist, hof, hsmall⟩ := hx
    obtain ⟨hcb, hkn, -, -⟩ := State.arrayAt?_spec harrAt
    have hown : s.vm.findClass R_law = some m.cls := findClass_of_methodNamed B.named
    have hts0 : ∀ c ∈ (Jvm.Cond.code x code maxLocals ret :: tables_1), c.before #[Value.ref b] s = true := atoms_spec (ws := Jvm.Cond.code x code maxLocals ret :: tables_1) B.pre
    have hts : ∀ w ∈ lw_tbl, w.before #[Value.ref b] s = true := k2_hts_sels lw_privs (fun w hw => hts0 w (List.mem_cons_of_mem _ hw)) lw_privs_ok
    have hml : c.maxLocals = 4 := B.maxLocals_eq (hts0 _ List.mem_cons_self)
    have X₀ : Stand p l e room_1 s m #[Value.ref b] below meth c s₁ [] 0 0 := Stand.of_body B
    have hh0 : s₁.heap = s.heap := by rw [B.state]; rfl
    have hsz : scr.slots.size = xs.length := by rw [← Array.length_toList, hlist, List.length_map]
    have hval : ∀ j : Nat, j < xs.length → scr.slots[j]? = some (.int (xs.getD j 0)) := fun j hj => by
      rw [← Array.getElem?_toList, hlist]
      simp [hj]
    have hbl : b < s.heap.size := (Array.getElem?_eq_some_iff.mp hcb).1
    have hX : va_X b xs.length (fun j => xs.getD j 0) s s.heap := ⟨scr, hcb, hof, hkn, hsz, hval⟩
    have K : W p l e room_1 s m #[Value.ref b] below meth c s₁.heap [] 0 0 (lw_Z below #[Value.ref b] s) (entryFrame m ([Value.ref b] : List Value).toArray 4) := by
      rw [hh0]
      exact whole_start l hflags hbd ⟨B.exec, B.bytes, B.returns, hml, hown, hts, hX, hbl, B.notSynchronized, hgv⟩
    obtain ⟨t, a1, o, b1, b2, b3⟩ := K s₁ rfl X₀
    exact ⟨t, o, a1, b1, b2, b3⟩
theorem lw_pre_spec {args : Array Value} {s : State} (h : (Jvm.Cond.and given_1 narrow_1).before args s = true) (hr : rest_1_c.before args s = true) : ∃ (b : Addr) (xs : List Int32), lw_P b xs args s := by
  have hs := flat_of_before _ h
  have hq := flat_of_before _ hr
  have hc : (Cond.count 1).before args s = true := hs _ (by decide +kernel)
  have harr : (Cond.arrayOf (.arg 0) .int).before args s = true := hs _ (by decide +kernel)
  have hle : (Cond.le (.length (.arg 0)) (.int 2560)).before args s = true := hs _ (by decide +kernel)
  have hlen : (Cond.isInt (.length (.arg 0))).before args s = true := hq _ (by decide +kernel)
  have hall : (Cond.all (.arg 0) (.isInt (.elem (.arg 0) (.index 0)))).before args s = true := hq _ (by decide +kernel)
  obtain ⟨b, xs, hb, hx⟩ := State.ints_of_pre rfl harr hlen hall
  have hsm : xs.length < 2 ^ 31 := hx.choose_spec.2.2.2
  have hev : (Term.length (.arg 0)).eval args s none [] s = some (.int xs.length.toInt32) := hx.length_eval hb
  have hv := Cond.le_ints hev (show (Term.int 2560).eval args s none [] s = some (.int 2560) from rfl)
  have hd : xs.length.toInt32 ≤ 2560 := by
    simpa [Cond.before, Cond.holds, hv] using hle
  have hN : xs.length ≤ 2560 := (Int32.ofNat_le_ofNat hsm (by decide)).mp (show Int32.ofNat xs.length ≤ Int32.ofNat 2560 from hd)
  exact ⟨b, xs, Cond.one_arg hc (show args[0]? = some (.ref b) from hb), hx, hN, h⟩
theorem lw_comes (l : Launch) (hflags : l.flags = flags0) : Comes l x (Jvm.Cond.code x code maxLocals ret :: tables_1) room_1 (fun tb e args s => Calls_1 tb e args s ∧ rest_1 tb e args s ∧ Pre_1 tb e args s)
    (fun _ _ args s o t => lw_Q args s o t) := by
  intro p e ha hc hk s m args below hf hfit hheap happ hpre
  obtain ⟨b, xs, hP⟩ := lw_pre_spec hpre.2.2 hpre.2.1
  obtain ⟨k, o, h1, h2, h3, hQ⟩ := lw_walk l hflags b xs p e ha hc hk s m args below hf ((Spec.applies_iff_loose hf).mp happ).1 hP trivial
  exact ⟨k, o, h1, h2, h3, hQ⟩
theorem lw_frame {s t : State} {o : Outcome} {args : Array Value} (h : Framed s o t [] 600000 7302250) :
    Framed s o t (fieldLocs frame_1_writes args s ++ arrayLocs frame_1_arrays args s ++ staticLocs frame_1_statics s) 600000 7302250 := h
theorem lw_limb (L : Cond) (hL : ∀ (args : Array Value) (s t : State), L.after args s (.returned (some (.int 1))) t = true) :
    ArmFor flags0 classFile x code maxLocals ret World_1 tables_1 room_1 Calls_1 rest_1 Pre_1
      (fun tb e a s o t => postC L tb e a s o t ∧ Framed s o t (fieldLocs frame_1_writes a s ++ arrayLocs frame_1_arrays a s ++ staticLocs frame_1_statics s) 600000 7302250) := by
  intro l hflags _ _ p e ha hc hk s m args below hf hfit hheap happ hpre
  obtain ⟨k, o, h1, h2, h3, rfl, hF⟩ := lw_comes l hflags p e ha hc hk s m args below hf hfit hheap happ hpre
  exact ⟨k, _, h1, h2, h3, hL args s _, lw_frame hF⟩
theorem i_vc : Claimed_1_1 ∧ Claimed_1_2 := ⟨lw_limb limb_1_1 (fun args s t => by simp [limb_1_1, Cond.after, Cond.holds, Cond.value]), lw_limb limb_1_2 (fun args s t => Cond.after_iff.mpr (by
  first | (rw [show limb_1_2 = Cond.eq .result (.int 1) from rfl, Cond.eq_ints (x := 1) (y := 1) rfl rfl]; simp; done) | (simp [limb_1_2, Cond.value, Term.eval]; done)))⟩
