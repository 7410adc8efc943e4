section VF
variable {X : ZX} {cc : ByteArray} {own : String} {nL : Nat} {rt : Option FieldType} {fr lo n1 : Nat} {pc q : Nat} {L : List (Option ZV)} {S : List ZV} {n : Nat} {M : ZM}
/-- what is known of a method: its code's word, its class, its parameters -/
def zY (y : MethodName) (b : ByteArray) (nL : Nat) (rt : Option FieldType) (np : Nat) : Prop := Cond.code y b nL rt ∈ wt ∧ Cond.initialized y.cls ∈ wt ∧ (y.cls ≠ "java/lang/invoke/MethodHandle" ∧ y.cls ≠ "java/lang/invoke/VarHandle" ∧ (parseMethodDescriptor y.desc).map (fun d => d.parameters.length) = some np) ∧ plainName y.cls = true
theorem zY.good {y : MethodName} {b : ByteArray} {nL : Nat} {rt : Option FieldType} {np : Nat} (h : zY y b nL rt np) : GoodIn wt (.code y b nL rt :: wt) := wt_good (fun w hw => by
  rcases List.mem_cons.mp hw with rfl | hw
  · exact h.1
  · exact hw)
/-- behind a call that went: the abstract walk goes on -/
theorem z_ran {p : Program} {l : Launch} {e : Env} {R : Room} {s : State} {m : MethodId} {args : Array Value} {below : List Frame} {meth : Method} {c : Code} {Q : State → Prop} {base n0 n2 : Nat} {D : va_G} {c3 : Z3} {H : Heap} {locs : List Loc} {ls : Array Slot} {a : Array Value} {st : List Value} {K : Option ZV → ZM → Prop} {T : State}
    (h0 : n0 ≤ n) (hn2 : n ≤ n2) (hn3 : n2 ≤ 274) (oL : ∀ v, some v ∈ L → z_ok v) (oS : ∀ v ∈ S, z_ok v) (hl : zL base ls c.maxLocals L) (hK : va_K D vwCl (z_tys c3) s) (hS : va_S (fun q => base ≤ q) s.heap H locs) (hT : T.heap = H) (St : Stand p l e R s m args below meth c T locs (n - n0) (z_sl n - z_sl n0))
    (hr : va_Run p l e R s m args below meth c H locs (n - n0) (z_sl n - z_sl n0) (n2 - n) (z_sl n2 - z_sl n) (F0 m pc ls st) (S.map (z_val base)) (zQ D base c3 n2 K a) (fun q => base ≤ q))
    (kk : ∀ (rv : Option ZV) (M' : ZM), K rv M' → zV ((p, l, e, R, s, m, args, below, meth, c), (Q, base, n0, D, c3)) (pc + 3) L (rv.toList ++ S) n2 M') : ∃ t, Steps p.tables e below (T.setTop (F0 m pc ls st)) t ∧ Q t := by
  obtain ⟨v, st₀, t, T', L', g0, X', hL', e1, e2, ⟨⟨rv, M', hv, hok, oM', hKK, hP1, hK1⟩, hz1, hk1⟩, stp⟩ := hr T hT St
  cases hv
  rw [g0] at hz1 hk1
  have hm := z_sl_mono hn2
  have hm0 := z_sl_mono h0
  rw [show n - n0 + (n2 - n) = n2 - n0 by omega, show z_sl n - z_sl n0 + (z_sl n2 - z_sl n) = z_sl n2 - z_sl n0 by omega] at X'
  have hS1 : va_S (fun q => base ≤ q) s.heap T'.heap (locs ++ L') := ⟨Nat.le_trans hS.1 (by rw [e1]; exact hz1), fun q h1 h2 => by rw [e1, hk1 q (Nat.lt_of_lt_of_le h1 hS.1) h2]; exact hS.2.1 q h1 h2, fun q hq => by
    rcases List.mem_append.mp hq with h | h
    · exact hS.2.2 q h
    · exact hL' q h⟩
  have okS : ∀ v ∈ rv.toList ++ S, z_ok v := fun v hv => by
    rcases List.mem_append.mp hv with h | h
    · cases rv with
      | none => simp at h
      | some w => simp at h; subst h; exact hok _ rfl
    · exact oS v h
  obtain ⟨t2, a1, b1⟩ := kk rv M' hKK (Nat.le_trans h0 hn2) hn3 oL okS oM' ls T'.heap (locs ++ L') hl (by rw [e1]; exact hP1) hS1 T' rfl X'
  refine ⟨t2, stp t2 ?_, b1⟩
  cases rv <;> exact a1
theorem v_callV (C : zC X cc own nL rt fr lo n1) {y : MethodName} {b : ByteArray} {nL' : Nat} {rt' : Option FieldType} {fr' lo' ci n2 idx N np : Nat} {T : u_T} {a : Int} {As St : List ZV} {K : Option ZV → ZM → Prop} (hM : zMet y b nL' rt' fr' lo' (.inr a :: As) n n2 M K) (hy : zY y b nL' rt' np) (hi : Cond.instanceMethod y ∈ wt ∧ Cond.selects y.cls y y ∈ wt) (hlink : Cond.methodLink own idx y ∈ wt) (ha : z_al n a) (hc : z_dk a = (ci, 0)) (hci : ci < 13) (hcl : vwCl[ci]? = some (y.cls, T, N)) (hR : fr' + 1 ≤ fr ∧ 8 + (nL' + 11) + lo' ≤ lo) (hn2 : n ≤ n2 ∧ n2 ≤ n1 ∧ n2 ≤ 274) (hnp : As.length = np) (hst : St = As.reverse ++ .inr a :: S) (hsl : S.length ≤ 8) (hd : decode cc pc = .ok (.invokevirtual idx, 3)) (hq : pc + 3 = q) (kk : ∀ (rv : Option ZV) (M' : ZM), K rv M' → zV X q L (rv.toList ++ S) n2 M') : zV X pc L St n M := by
  obtain ⟨⟨p, l, e, R, s, m, args, below, meth, c⟩, Q, base, n0, D, c3⟩ := X
  obtain ⟨hx0, hb, hml, hown, hts, hK, -, hlk, hbs, hfr, hlo, hce, hsl0⟩ := C
  subst hq; subst hst
  intro h0 hn oL oS oM ls H locs hl hP hS Tt hTt Sd
  have okA : ∀ v ∈ Sum.inr a :: As, z_ok v := List.forall_mem_cons.mpr ⟨trivial, fun v hv => oS v (by simp [hv])⟩
  have hsz : H.size = base + n := by rw [← hTt]; exact z_size h0 hbs (by rw [hTt]; exact hP) (by rw [hTt]; exact hS) Sd
  have e0 := z_ws_id (base := base) (c3 := c3) (M := M) ha
  rw [hc, z_rend_o hci] at e0
  have hm := z_sl_mono hn2.2.1
  have hm1 := z_sl_mono hn2.1
  have hm0 := z_sl_mono h0
  have cw : CallW R s args own y.cls idx y b nL' rt' (.code y b nL' rt' :: wt) { frames := fr', cells := n2 - n, slots := z_sl n2 - z_sl n, locals := lo' } (n2 - n) (z_sl n2 - z_sl n) As.length := ⟨callB_of As.length hts hy.good rfl rfl rfl (hts _ hy.2.1) (hts _ hlink) ⟨hy.2.2.1.1, hy.2.2.1.2.1, by rw [hnp]; exact hy.2.2.1.2.2⟩ ⟨Nat.le_trans hR.1 hfr, Nat.le_trans hR.2 hlo⟩, hts _ hi.1, hts _ hi.2⟩
  have hrun := va_runV (p := p) (e := e) (below := below) (meth := meth) (locs := locs) (cells := n - n0) (slots := z_sl n - z_sl n0) (As := As.map (z_val base)) (rest := S.map (z_val base)) (g := F0 m pc ls ((As.reverse ++ .inr a :: S).map (z_val base))) (H := H) (b := base + z_idx a) ⟨hx0, hb, rfl, hown, hts⟩ (hM l D base c3 okA oM) cw
    ⟨zPre_blind, va_recv hK hP hcl e0, fun U hU hW => ⟨by rw [List.map_cons, z_val_ref hn ha], ⟨by rw [hU]; exact hP, va_K.moved hW.alike hK⟩, by rw [hU]; exact hsz, hlk.warm hW⟩⟩ rfl (by simp) hl.1 (by simp [z_val_ref hn ha]) (by show 2 * 0 + _ ≤ 8; rw [z_cats]; omega) hd ⟨by show n - n0 + (n2 - n) ≤ R.cells; omega, by show z_sl n - z_sl n0 + (z_sl n2 - z_sl n) ≤ R.slots; omega⟩
  exact z_ran h0 hn2.1 hn2.2.2 oL (fun v hv => oS v (by simp [hv])) hl hK hS hTt Sd hrun kk
theorem v_callVN (C : zC X cc own nL rt fr lo n1) {y : MethodName} {b : ByteArray} {nL' : Nat} {rt' : Option FieldType} {fr' lo' ci n2 idx N np : Nat} {host : String} {T : u_T} {a : Int} {As St : List ZV} {K : Option ZV → ZM → Prop} (hM : zMet y b nL' rt' fr' lo' (.inr a :: As) n n2 M K) (hy : zY y b nL' rt' np) (hi : Cond.instanceMethod y ∈ wt ∧ Cond.selects y.cls y y ∈ wt) (hlink : (own, idx, y, host) ∈ wn) (ha : z_al n a) (hc : z_dk a = (ci, 0)) (hci : ci < 13) (hcl : vwCl[ci]? = some (y.cls, T, N)) (hR : fr' + 1 ≤ fr ∧ 8 + (nL' + 11) + lo' ≤ lo) (hn2 : n ≤ n2 ∧ n2 ≤ n1 ∧ n2 ≤ 274) (hnp : As.length = np) (hst : St = As.reverse ++ .inr a :: S) (hsl : S.length ≤ 8) (hd : decode cc pc = .ok (.invokevirtual idx, 3)) (hq : pc + 3 = q) (kk : ∀ (rv : Option ZV) (M' : ZM), K rv M' → zV X q L (rv.toList ++ S) n2 M') : zV X pc L St n M := by
  obtain ⟨⟨p, l, e, R, s, m, args, below, meth, c⟩, Q, base, n0, D, c3⟩ := X
  obtain ⟨hx0, hb, hml, hown, hts, hK, -, hlk, hbs, hfr, hlo, hce, hsl0⟩ := C
  subst hq; subst hst
  intro h0 hn oL oS oM ls H locs hl hP hS Tt hTt Sd
  have okA : ∀ v ∈ Sum.inr a :: As, z_ok v := List.forall_mem_cons.mpr ⟨trivial, fun v hv => oS v (by simp [hv])⟩
  have hsz : H.size = base + n := by rw [← hTt]; exact z_size h0 hbs (by rw [hTt]; exact hP) (by rw [hTt]; exact hS) Sd
  have e0 := z_ws_id (base := base) (c3 := c3) (M := M) ha
  rw [hc, z_rend_o hci] at e0
  have hm := z_sl_mono hn2.2.1
  have hm1 := z_sl_mono hn2.1
  have hm0 := z_sl_mono h0
  have cw : va_CN R s args own idx y host b nL' rt' (.code y b nL' rt' :: wt) { frames := fr', cells := n2 - n, slots := z_sl n2 - z_sl n, locals := lo' } (n2 - n) (z_sl n2 - z_sl n) As.length ∧ (Cond.instanceMethod y).before args s = true ∧ (Cond.selects y.cls y y).before args s = true := ⟨va_cnB As.length hts hy.good rfl rfl rfl (hlk.1 _ hlink) (hts _ hy.2.1) ⟨hy.2.2.1.1, hy.2.2.1.2.1, by rw [hnp]; exact hy.2.2.1.2.2⟩ ⟨Nat.le_trans hR.1 hfr, Nat.le_trans hR.2 hlo⟩, hts _ hi.1, hts _ hi.2⟩
  have hrun := va_runVN (p := p) (e := e) (below := below) (meth := meth) (locs := locs) (cells := n - n0) (slots := z_sl n - z_sl n0) (As := As.map (z_val base)) (rest := S.map (z_val base)) (g := F0 m pc ls ((As.reverse ++ .inr a :: S).map (z_val base))) (H := H) (b := base + z_idx a) ⟨hx0, hb, rfl, hown, hts⟩ (hM l D base c3 okA oM) cw
    ⟨zPre_blind, va_recv hK hP hcl e0, fun U hU hW => ⟨by rw [List.map_cons, z_val_ref hn ha], ⟨by rw [hU]; exact hP, va_K.moved hW.alike hK⟩, by rw [hU]; exact hsz, hlk.warm hW⟩⟩ rfl (by simp) hl.1 (by simp [z_val_ref hn ha]) (by show 2 * 0 + _ ≤ 8; rw [z_cats]; omega) hd ⟨by show n - n0 + (n2 - n) ≤ R.cells; omega, by show z_sl n - z_sl n0 + (z_sl n2 - z_sl n) ≤ R.slots; omega⟩
  exact z_ran h0 hn2.1 hn2.2.2 oL (fun v hv => oS v (by simp [hv])) hl hK hS hTt Sd hrun kk
theorem v_callS (C : zC X cc own nL rt fr lo n1) {y : MethodName} {b : ByteArray} {nL' : Nat} {rt' : Option FieldType} {fr' lo' n2 idx np : Nat} {As St : List ZV} {K : Option ZV → ZM → Prop} (hM : zMet y b nL' rt' fr' lo' As n n2 M K) (hy : zY y b nL' rt' np) (hi : Cond.static y ∈ wt) (hlink : Cond.methodLink own idx y ∈ wt) (hR : fr' + 1 ≤ fr ∧ 8 + (nL' + 11) + lo' ≤ lo) (hn2 : n ≤ n2 ∧ n2 ≤ n1 ∧ n2 ≤ 274) (hnp : As.length = np) (hst : St = As.reverse ++ S) (hsl : S.length ≤ 8) (hd : decode cc pc = .ok (.invokestatic idx, 3)) (hq : pc + 3 = q) (kk : ∀ (rv : Option ZV) (M' : ZM), K rv M' → zV X q L (rv.toList ++ S) n2 M') : zV X pc L St n M := by
  obtain ⟨⟨p, l, e, R, s, m, args, below, meth, c⟩, Q, base, n0, D, c3⟩ := X
  obtain ⟨hx0, hb, hml, hown, hts, hK, -, hlk, hbs, hfr, hlo, hce, hsl0⟩ := C
  subst hq; subst hst
  intro h0 hn oL oS oM ls H locs hl hP hS Tt hTt Sd
  have okA : ∀ v ∈ As, z_ok v := fun v hv => oS v (by simp [hv])
  have hsz : H.size = base + n := by rw [← hTt]; exact z_size h0 hbs (by rw [hTt]; exact hP) (by rw [hTt]; exact hS) Sd
  have hm := z_sl_mono hn2.2.1
  have hm1 := z_sl_mono hn2.1
  have hm0 := z_sl_mono h0
  have cw : CallB R s args own idx y b nL' rt' (.code y b nL' rt' :: wt) { frames := fr', cells := n2 - n, slots := z_sl n2 - z_sl n, locals := lo' } (n2 - n) (z_sl n2 - z_sl n) As.length ∧ (Cond.static y).before args s = true := ⟨callB_of As.length hts hy.good rfl rfl rfl (hts _ hy.2.1) (hts _ hlink) ⟨hy.2.2.1.1, hy.2.2.1.2.1, by rw [hnp]; exact hy.2.2.1.2.2⟩ ⟨Nat.le_trans hR.1 hfr, Nat.le_trans hR.2 hlo⟩, hts _ hi⟩
  have hrun := va_runS (p := p) (e := e) (below := below) (meth := meth) (locs := locs) (cells := n - n0) (slots := z_sl n - z_sl n0) (As := As.map (z_val base)) (rest := S.map (z_val base)) (g := F0 m pc ls ((As.reverse ++ S).map (z_val base))) (H := H) ⟨hx0, hb, rfl, hown, hts⟩ (hM l D base c3 okA oM) cw
    ⟨zPre_blind, fun U hU hW => ⟨rfl, ⟨by rw [hU]; exact hP, va_K.moved hW.alike hK⟩, by rw [hU]; exact hsz, hlk.warm hW⟩⟩ rfl (by simp) hl.1 (by simp) (by show 2 * 0 + _ ≤ 8; rw [z_cats]; omega) hd ⟨by show n - n0 + (n2 - n) ≤ R.cells; omega, by show z_sl n - z_sl n0 + (z_sl n2 - z_sl n) ≤ R.slots; omega⟩
  exact z_ran h0 hn2.1 hn2.2.2 oL (fun v hv => oS v (by simp [hv])) hl hK hS hTt Sd hrun kk
theorem v_callI (C : zC X cc own nL rt fr lo n1) {y : MethodName} {b : ByteArray} {nL' : Nat} {fr' lo' n2 idx np : Nat} {a : Int} {As St : List ZV} {K : Option ZV → ZM → Prop} (hM : zMet y b nL' none fr' lo' (.inr a :: As) n n2 M K) (hy : zY y b nL' none np) (hi : Cond.instanceMethod y ∈ wt) (hini : y.name = "<init>") (hlink : Cond.methodLink own idx y ∈ wt) (ha : z_al n a) (hR : fr' + 1 ≤ fr ∧ 8 + (nL' + 11) + lo' ≤ lo) (hn2 : n ≤ n2 ∧ n2 ≤ n1 ∧ n2 ≤ 274) (hnp : As.length = np) (hst : St = As.reverse ++ .inr a :: S) (hsl : S.length ≤ 8) (hd : decode cc pc = .ok (.invokespecial idx, 3)) (hq : pc + 3 = q) (kk : ∀ (rv : Option ZV) (M' : ZM), K rv M' → zV X q L (rv.toList ++ S) n2 M') : zV X pc L St n M := by
  obtain ⟨⟨p, l, e, R, s, m, args, below, meth, c⟩, Q, base, n0, D, c3⟩ := X
  obtain ⟨hx0, hb, hml, hown, hts, hK, -, hlk, hbs, hfr, hlo, hce, hsl0⟩ := C
  subst hq; subst hst
  intro h0 hn oL oS oM ls H locs hl hP hS Tt hTt Sd
  have okA : ∀ v ∈ Sum.inr a :: As, z_ok v := List.forall_mem_cons.mpr ⟨trivial, fun v hv => oS v (by simp [hv])⟩
  have hsz : H.size = base + n := by rw [← hTt]; exact z_size h0 hbs (by rw [hTt]; exact hP) (by rw [hTt]; exact hS) Sd
  have hm := z_sl_mono hn2.2.1
  have hm1 := z_sl_mono hn2.1
  have hm0 := z_sl_mono h0
  have cw : CallB R s args own idx y b nL' none (.code y b nL' none :: wt) { frames := fr', cells := n2 - n, slots := z_sl n2 - z_sl n, locals := lo' } (n2 - n) (z_sl n2 - z_sl n) As.length ∧ y.name = "<init>" ∧ (Cond.instanceMethod y).before args s = true := ⟨callB_of As.length hts hy.good rfl rfl rfl (hts _ hy.2.1) (hts _ hlink) ⟨hy.2.2.1.1, hy.2.2.1.2.1, by rw [hnp]; exact hy.2.2.1.2.2⟩ ⟨Nat.le_trans hR.1 hfr, Nat.le_trans hR.2 hlo⟩, hini, hts _ hi⟩
  have hrun := va_runI (p := p) (e := e) (below := below) (meth := meth) (locs := locs) (cells := n - n0) (slots := z_sl n - z_sl n0) (As := As.map (z_val base)) (rest := S.map (z_val base)) (g := F0 m pc ls ((As.reverse ++ .inr a :: S).map (z_val base))) (H := H) (b := base + z_idx a) ⟨hx0, hb, rfl, hown, hts⟩ (hM l D base c3 okA oM) cw
    ⟨zPre_blind, fun U hU hW => ⟨by rw [List.map_cons, z_val_ref hn ha], ⟨by rw [hU]; exact hP, va_K.moved hW.alike hK⟩, by rw [hU]; exact hsz, hlk.warm hW⟩⟩ rfl (by simp) hl.1 (by simp [z_val_ref hn ha]) (by show 2 * 0 + _ ≤ 8; rw [z_cats]; omega) hd ⟨by show n - n0 + (n2 - n) ≤ R.cells; omega, by show z_sl n - z_sl n0 + (z_sl n2 - z_sl n) ≤ R.slots; omega⟩
  exact z_ran h0 hn2.1 hn2.2.2 oL (fun v hv => oS v (by simp [hv])) hl hK hS hTt Sd hrun kk
theorem v_callIN (C : zC X cc own nL rt fr lo n1) {y : MethodName} {b : ByteArray} {nL' : Nat} {fr' lo' n2 idx np : Nat} {host : String} {a : Int} {As St : List ZV} {K : Option ZV → ZM → Prop} (hM : zMet y b nL' none fr' lo' (.inr a :: As) n n2 M K) (hy : zY y b nL' none np) (hi : Cond.instanceMethod y ∈ wt) (hini : y.name = "<init>") (hlink : (own, idx, y, host) ∈ wn) (ha : z_al n a) (hR : fr' + 1 ≤ fr ∧ 8 + (nL' + 11) + lo' ≤ lo) (hn2 : n ≤ n2 ∧ n2 ≤ n1 ∧ n2 ≤ 274) (hnp : As.length = np) (hst : St = As.reverse ++ .inr a :: S) (hsl : S.length ≤ 8) (hd : decode cc pc = .ok (.invokespecial idx, 3)) (hq : pc + 3 = q) (kk : ∀ (rv : Option ZV) (M' : ZM), K rv M' → zV X q L (rv.toList ++ S) n2 M') : zV X pc L St n M := by
  obtain ⟨⟨p, l, e, R, s, m, args, below, meth, c⟩, Q, base, n0, D, c3⟩ := X
  obtain ⟨hx0, hb, hml, hown, hts, hK, -, hlk, hbs, hfr, hlo, hce, hsl0⟩ := C
  subst hq; subst hst
  intro h0 hn oL oS oM ls H locs hl hP hS Tt hTt Sd
  have okA : ∀ v ∈ Sum.inr a :: As, z_ok v := List.forall_mem_cons.mpr ⟨trivial, fun v hv => oS v (by simp [hv])⟩
  have hsz : H.size = base + n := by rw [← hTt]; exact z_size h0 hbs (by rw [hTt]; exact hP) (by rw [hTt]; exact hS) Sd
  have hm := z_sl_mono hn2.2.1
  have hm1 := z_sl_mono hn2.1
  have hm0 := z_sl_mono h0
  have cw : va_CN R s args own idx y host b nL' none (.code y b nL' none :: wt) { frames := fr', cells := n2 - n, slots := z_sl n2 - z_sl n, locals := lo' } (n2 - n) (z_sl n2 - z_sl n) As.length ∧ y.name = "<init>" ∧ (Cond.instanceMethod y).before args s = true := ⟨va_cnB As.length hts hy.good rfl rfl rfl (hlk.1 _ hlink) (hts _ hy.2.1) ⟨hy.2.2.1.1, hy.2.2.1.2.1, by rw [hnp]; exact hy.2.2.1.2.2⟩ ⟨Nat.le_trans hR.1 hfr, Nat.le_trans hR.2 hlo⟩, hini, hts _ hi⟩
  have hrun := va_runIN (p := p) (e := e) (below := below) (meth := meth) (locs := locs) (cells := n - n0) (slots := z_sl n - z_sl n0) (As := As.map (z_val base)) (rest := S.map (z_val base)) (g := F0 m pc ls ((As.reverse ++ .inr a :: S).map (z_val base))) (H := H) (b := base + z_idx a) ⟨hx0, hb, rfl, hown, hts⟩ (hM l D base c3 okA oM) cw
    ⟨zPre_blind, fun U hU hW => ⟨by rw [List.map_cons, z_val_ref hn ha], ⟨by rw [hU]; exact hP, va_K.moved hW.alike hK⟩, by rw [hU]; exact hsz, hlk.warm hW⟩⟩ rfl (by simp) hl.1 (by simp [z_val_ref hn ha]) (by show 2 * 0 + _ ≤ 8; rw [z_cats]; omega) hd ⟨by show n - n0 + (n2 - n) ≤ R.cells; omega, by show z_sl n - z_sl n0 + (z_sl n2 - z_sl n) ≤ R.slots; omega⟩
  exact z_ran h0 hn2.1 hn2.2.2 oL (fun v hv => oS v (by simp [hv])) hl hK hS hTt Sd hrun kk
end VF
