/-! ===== values: the pure machine ===== -/
theorem z_lf0_ix {F : (ZM → Prop) → ZM → Prop} (I : Nat → ZM → Prop) (h : ∀ (n : Nat) (μ : ZM) (G : ZM → Prop), I n μ → (∀ (m : Nat) (μ' : ZM), m < n → I m μ' → G μ') → F G μ) (n : Nat) (μ : ZM) (hI : I n μ) : z_lf0 F μ := by
  intro G hG
  have key : ∀ (b n : Nat) (μ : ZM), n < b → I n μ → G μ := by
    intro b
    induction b with
    | zero => intro n μ h0; exact absurd h0 (Nat.not_lt_zero _)
    | succ b ih =>
      intro n μ h0 h1
      exact hG μ (h n μ G h1 (fun m μ' h2 h3 => ih m μ' (Nat.lt_of_lt_of_le h2 (Nat.le_of_lt_succ h0)) h3))
  exact key _ n μ (Nat.lt_succ_self _) hI
theorem z_lf1_ix {F : (Int → ZM → Prop) → Int → ZM → Prop} (I : Nat → Int → ZM → Prop) (h : ∀ (n : Nat) (x : Int) (μ : ZM) (G : Int → ZM → Prop), I n x μ → (∀ (m : Nat) (y : Int) (μ' : ZM), m < n → I m y μ' → G y μ') → F G x μ) (n : Nat) (x : Int) (μ : ZM) (hI : I n x μ) : z_lf1 F x μ := by
  intro G hG
  have key : ∀ (b n : Nat) (x : Int) (μ : ZM), n < b → I n x μ → G x μ := by
    intro b
    induction b with
    | zero => intro n x μ h0; exact absurd h0 (Nat.not_lt_zero _)
    | succ b ih =>
      intro n x μ h0 h1
      exact hG x μ (h n x μ G h1 (fun m y μ' h2 h3 => ih m y μ' (Nat.lt_of_lt_of_le h2 (Nat.le_of_lt_succ h0)) h3))
  exact key _ n x μ (Nat.lt_succ_self _) hI
/-- a frame: text, codes left, x, y, z -/
abbrev Fr : Type := List Int × Int × Int × Int × Int
def dn (f : Fr) : Fr := (f.1, f.2.1 - 1, f.2.2)
def cd (f : Fr) : Int := gt f.1 (f.2.1 - 1)
def cal (fs : List Fn) (f : Int) (st : List Int) : Fr := (fB (gf fs f) (if st.headD 0 < (gf fs f).2.1 then st.headD 0 else 2), ((fB (gf fs f) (if st.headD 0 < (gf fs f).2.1 then st.headD 0 else 2)).length : Int), st.headD 0 - (gf fs f).2.1, if (gf fs f).1 = 2 then st.tail.headD 0 else 0, 0)
def ev (fs : List Fn) : Nat → Int → List Fr → List Int → Int × Int
  | 0, w, fr, st => if fr.isEmpty then (st.headD 0, w) else (-9, 0)
  | n + 1, w, fr, st => match fr with
    | [] => (st.headD 0, w)
    | f :: fr =>
      if f.2.1 ≤ 0 then ev fs n w fr st
      else if cd f = 83 then (if st.headD 0 < 99 then ev fs n w (dn f :: fr) ((st.headD 0 + 1) :: st.tail) else (-9, 0))
      else if cd f = 120 then ev fs n w (dn f :: fr) (f.2.2.1 :: st)
      else if cd f = 121 then ev fs n w (dn f :: fr) (f.2.2.2.1 :: st)
      else if cd f = 122 then ev fs n w (dn f :: fr) (f.2.2.2.2 :: st)
      else if cd f = 90 then ev fs n w (dn f :: fr) (0 :: st)
      else if 60 ≤ w then (-9, 0)
      else ev fs n (w + 1) (cal fs (cd f - 97) st :: dn f :: fr) (st.drop (gf fs (cd f - 97)).1.toNat)
theorem ev_nil {fs : List Fn} {n : Nat} {w : Int} {st : List Int} : ev fs n w [] st = (st.headD 0, w) := by
  cases n <;> rfl
theorem ev_cons {fs : List Fn} {n : Nat} {w : Int} {f : Fr} {fr : List Fr} {st : List Int} (h : n ≠ 0) : ev fs n w (f :: fr) st = if f.2.1 ≤ 0 then ev fs (n - 1) w fr st
      else if cd f = 83 then (if st.headD 0 < 99 then ev fs (n - 1) w (dn f :: fr) ((st.headD 0 + 1) :: st.tail) else (-9, 0))
      else if cd f = 120 then ev fs (n - 1) w (dn f :: fr) (f.2.2.1 :: st)
      else if cd f = 121 then ev fs (n - 1) w (dn f :: fr) (f.2.2.2.1 :: st)
      else if cd f = 122 then ev fs (n - 1) w (dn f :: fr) (f.2.2.2.2 :: st)
      else if cd f = 90 then ev fs (n - 1) w (dn f :: fr) (0 :: st)
      else if 60 ≤ w then (-9, 0)
      else ev fs (n - 1) (w + 1) (cal fs (cd f - 97) st :: dn f :: fr) (st.drop (gf fs (cd f - 97)).1.toNat) := by
  cases n with
  | zero => exact absurd rfl h
  | succ n => rfl
theorem ev_ex {fs : List Fn} {e : Fr} (he : e.2.1 ≤ 0) : ∀ (n : Nat) (w : Int) (fr : List Fr) (st : List Int), ev fs (n + 1) w (fr ++ [e]) st = ev fs n w fr st := by
  intro n
  induction n with
  | zero =>
    intro w fr st
    cases fr with
    | nil => rw [List.nil_append, ev_cons (by omega), if_pos he, ev_nil]
    | cons f fr =>
      have z : ∀ (w : Int) (fr : List Fr) (st : List Int), ev fs 0 w (fr ++ [e]) st = (-9, 0) := fun w fr st => by
        unfold ev
        rw [if_neg (by simp)]
      have z1 : ∀ (w : Int) (a : Fr) (fr : List Fr) (st : List Int), ev fs 0 w (a :: (fr ++ [e])) st = (-9, 0) := fun w a fr st => z w (a :: fr) st
      have z2 : ∀ (w : Int) (a b : Fr) (fr : List Fr) (st : List Int), ev fs 0 w (a :: b :: (fr ++ [e])) st = (-9, 0) := fun w a b fr st => z w (a :: b :: fr) st
      have z3 : ev fs 0 w (f :: fr) st = (-9, 0) := rfl
      rw [List.cons_append, ev_cons (by omega), z3]
      simp only [Nat.zero_add, Nat.sub_self, z, z1, z2, ite_self]
  | succ n ih =>
    intro w fr st
    cases fr with
    | nil => rw [List.nil_append, ev_cons (by omega), if_pos he, ev_nil, ev_nil]
    | cons f fr =>
      have i1 : ∀ (w : Int) (a : Fr) (fr : List Fr) (st : List Int), ev fs (n + 1) w (a :: (fr ++ [e])) st = ev fs n w (a :: fr) st := fun w a fr st => ih w (a :: fr) st
      have i2 : ∀ (w : Int) (a b : Fr) (fr : List Fr) (st : List Int), ev fs (n + 1) w (a :: b :: (fr ++ [e])) st = ev fs n w (a :: b :: fr) st := fun w a b fr st => ih w (a :: b :: fr) st
      rw [List.cons_append, ev_cons (n := n + 1 + 1) (by omega), ev_cons (n := n + 1) (w := w) (f := f) (fr := fr) (st := st) (by omega)]
      simp only [Nat.add_sub_cancel, ih, i1, i2]
/-! what holds on the way -/
def pnf (fs : List Fn) (f : Fr) : Int := pn fs 1 (f.1.take f.2.1.toNat)
def fok (fs : List Fn) (f : Fr) : Prop := okT fs f.1 ∧ 0 ≤ f.2.1 ∧ f.2.1 ≤ (f.1.length : Int) ∧ (120 ∈ f.1 → 0 ≤ f.2.2.1 ∧ f.2.2.1 ≤ 99) ∧ (121 ∈ f.1 → 0 ≤ f.2.2.2.1 ∧ f.2.2.2.1 ≤ 99) ∧ (122 ∈ f.1 → 0 ≤ f.2.2.2.2 ∧ f.2.2.2.2 ≤ 99) ∧ f.1.length ≤ 40
def sm (fs : List Fn) : List Fr → Int
  | [] => 0
  | f :: fr => (pnf fs f - 1) + sm fs fr
def cz : List Fr → Int
  | [] => 0
  | f :: fr => ((f.1.length : Int) + 1) / 2 + cz fr
def ph : List Fr → Int
  | [] => 0
  | f :: fr => (f.2.1 + 1) + ph fr
def low (fs : List Fn) (fr : List Fr) : Prop := ∀ g ∈ fr, fok fs g ∧ 1 ≤ pnf fs g
def topk (fs : List Fn) (fr : List Fr) : Prop := match fr with
  | [] => True
  | f :: fr => fok fs f ∧ (1 ≤ pnf fs f ∨ f.2.1 = (f.1.length : Int)) ∧ low fs fr
def okE (fs : List Fn) (n : Nat) (w : Int) (fr : List Fr) (st : List Int) : Prop := 0 ≤ w ∧ w ≤ 60 ∧ (fr.length : Int) ≤ w + 1 ∧ (∀ v ∈ st, 0 ≤ v ∧ v ≤ 99) ∧ (st.length : Int) = 1 + sm fs fr ∧ topk fs fr ∧ cz fr ≤ 20 + 5 * w ∧ ph fr + 11 * (60 - w) ≤ (n : Int)
theorem arf_le {fs : List Fn} (ho : okF fs) (c : Int) : arf fs c ≤ 2 := by
  unfold arf
  by_cases q : c = 83
  · rw [if_pos q]; decide
  · rw [if_neg q]
    by_cases q2 : 97 ≤ c ∧ c < 97 + (fs.length : Int)
    · rw [if_pos q2]
      have := (ho (c - 97) (by omega) (by omega)).1
      omega
    · rw [if_neg q2]; decide
theorem pn_le {fs : List Fn} (ho : okF fs) : ∀ (A : List Int) (k : Int), pn fs k A ≤ k + (A.length : Int)
  | [], k => by show k ≤ k + (0 : Int); omega
  | c :: A, k => by
    have := pn_le ho A (k - 1 + arf fs c)
    have := arf_le ho c
    show pn fs (k - 1 + arf fs c) A ≤ _
    simp
    omega
theorem pw_len {fs : List Fn} (ho : okF fs) : ∀ (A : List Int) (k : Int), pw fs k A → k ≤ (A.length : Int)
  | [], k, h => by have : k = 0 := h; simp; omega
  | c :: A, k, h => by
    have := pw_len ho A _ h.2
    have := arf_pos ho c
    simp
    omega
theorem pw_app2 {fs : List Fn} {A B : List Int} {k : Int} (h : pw fs k (A ++ B)) : pk fs k A ∧ pw fs (pn fs k A) B := by
  rw [pw_iff, pk_app, pn_app] at h
  exact ⟨h.1.1, pw_iff.mpr ⟨h.1.2, h.2⟩⟩
theorem pnf_bd {fs : List Fn} {f : Fr} (ho : okF fs) (h : fok fs f) : 2 * pnf fs f ≤ (f.1.length : Int) + 1 := by
  obtain ⟨⟨h1, -⟩, h2, h3, -⟩ := h
  unfold pnf
  have e := List.take_append_drop f.2.1.toNat f.1
  rw [← e] at h1
  obtain ⟨q1, q2⟩ := pw_app2 h1
  have := pw_len ho _ _ q2
  have := pn_le ho (f.1.take f.2.1.toNat) 1
  rw [List.length_drop] at *
  rw [List.length_take] at *
  omega
theorem take_gt {T : List Int} {i : Int} (h : 0 < i ∧ i ≤ (T.length : Int)) : T.take i.toNat = T.take (i - 1).toNat ++ [gt T (i - 1)] := by
  rw [show i.toNat = (i - 1).toNat + 1 by omega, List.take_add_one]
  unfold gt
  rw [List.getD_eq_getElem?_getD, List.getElem?_eq_getElem (by omega)]
  rfl
theorem cd_mem {f : Fr} (h : 0 < f.2.1 ∧ f.2.1 ≤ (f.1.length : Int)) : cd f ∈ f.1 := by
  unfold cd gt
  rw [List.getD_eq_getElem?_getD, List.getElem?_eq_getElem (by omega)]
  exact List.getElem_mem _
theorem pnf_dn {fs : List Fn} {f : Fr} (hf : fok fs f) (h : 0 < f.2.1) : pnf fs f = pnf fs (dn f) - 1 + arf fs (cd f) ∧ 1 ≤ pnf fs (dn f) := by
  obtain ⟨⟨h1, -⟩, h2, h3, -⟩ := hf
  have e := List.take_append_drop f.2.1.toNat f.1
  rw [← e] at h1
  obtain ⟨q1, q2⟩ := pw_app2 h1
  have t := take_gt (T := f.1) (i := f.2.1) ⟨h, h3⟩
  unfold pnf dn cd
  rw [t] at q1 ⊢
  rw [pk_app] at q1
  rw [pn_app]
  exact ⟨rfl, q1.2.1⟩
theorem okE_pop {fs : List Fn} {n : Nat} {w : Int} {f : Fr} {fr : List Fr} {st : List Int} (h : okE fs n w (f :: fr) st) (h0 : f.2.1 ≤ 0) : n ≠ 0 ∧ okE fs (n - 1) w fr st := by
  obtain ⟨a1, a2, a3, a4, a5, ⟨a6, a7, a8⟩, a9, a10⟩ := h
  have hat : f.2.1 = 0 := by have := a6.2.1; omega
  have hp : pnf fs f = 1 := by unfold pnf; rw [hat]; rfl
  have hph : ∀ fr : List Fr, (∀ g ∈ fr, fok fs g ∧ 1 ≤ pnf fs g) → 0 ≤ ph fr := by
    intro fr
    induction fr with
    | nil => intro _; exact Int.le_refl 0
    | cons g fr ih =>
      intro hh
      have := ih (fun q hq => hh q (by simp [hq]))
      have := (hh g (by simp)).1.2.1
      show 0 ≤ (g.2.1 + 1) + ph fr
      omega
  have h1 := hph fr a8
  have h2 : ph (f :: fr) = (f.2.1 + 1) + ph fr := rfl
  have h3 : sm fs (f :: fr) = (pnf fs f - 1) + sm fs fr := rfl
  have h4 : cz (f :: fr) = ((f.1.length : Int) + 1) / 2 + cz fr := rfl
  refine ⟨by omega, a1, a2, ?_, a4, by omega, ?_, by omega, by omega⟩
  · simp at a3; omega
  · cases fr with
    | nil => trivial
    | cons g fr =>
      have := a8 g (by simp)
      exact ⟨this.1, Or.inl this.2, fun q hq => a8 q (by simp [hq])⟩
theorem fok_dn {fs : List Fn} {f : Fr} (h : fok fs f) (h0 : 0 < f.2.1) : fok fs (dn f) := by
  obtain ⟨a1, a2, a3, a4⟩ := h
  exact ⟨a1, by show 0 ≤ f.2.1 - 1; omega, by show f.2.1 - 1 ≤ (f.1.length : Int); omega, a4⟩
theorem ph_pos {fs : List Fn} : ∀ {fr : List Fr}, low fs fr → 0 ≤ ph fr
  | [], _ => Int.le_refl 0
  | g :: fr, hh => by
    have := ph_pos (fs := fs) (fr := fr) (fun q hq => hh q (by simp [hq]))
    have := (hh g (by simp)).1.2.1
    show 0 ≤ (g.2.1 + 1) + ph fr
    omega
theorem sm_pos {fs : List Fn} : ∀ {fr : List Fr}, low fs fr → 0 ≤ sm fs fr
  | [], _ => Int.le_refl 0
  | g :: fr, hh => by
    have := sm_pos (fs := fs) (fr := fr) (fun q hq => hh q (by simp [hq]))
    have := (hh g (by simp)).2
    show 0 ≤ (pnf fs g - 1) + sm fs fr
    omega
theorem sm_le {fs : List Fn} (ho : okF fs) : ∀ {fr : List Fr}, (∀ g ∈ fr, fok fs g) → sm fs fr ≤ cz fr
  | [], _ => Int.le_refl 0
  | g :: fr, hh => by
    have := sm_le ho (fr := fr) (fun q hq => hh q (by simp [hq]))
    have := pnf_bd ho (hh g (by simp))
    show (pnf fs g - 1) + sm fs fr ≤ ((g.1.length : Int) + 1) / 2 + cz fr
    omega
/-- the height of the values -/
theorem okE_bd {fs : List Fn} {n : Nat} {w : Int} {fr : List Fr} {st : List Int} (ho : okF fs) (h : okE fs n w fr st) : (st.length : Int) ≤ 321 := by
  obtain ⟨a1, a2, a3, a4, a5, a6, a9, a10⟩ := h
  have : sm fs fr ≤ cz fr := by
    refine sm_le ho ?_
    cases fr with
    | nil => intro g hg; exact absurd hg (by simp)
    | cons f fr =>
      intro g hg
      rcases List.mem_cons.mp hg with e | e
      · rw [e]; exact a6.1
      · exact (a6.2.2 g e).1
  omega
theorem okE_push {fs : List Fn} {n : Nat} {w v : Int} {f : Fr} {fr : List Fr} {st : List Int} (h : okE fs n w (f :: fr) st) (h0 : 0 < f.2.1) (hc : arf fs (cd f) = 0) (hv : 0 ≤ v ∧ v ≤ 99) : n ≠ 0 ∧ okE fs (n - 1) w (dn f :: fr) (v :: st) := by
  obtain ⟨a1, a2, a3, a4, a5, ⟨a6, a7, a8⟩, a9, a10⟩ := h
  obtain ⟨p1, p2⟩ := pnf_dn a6 h0
  have h1 := ph_pos a8
  have h2 : ph (f :: fr) = (f.2.1 + 1) + ph fr := rfl
  have h2' : ph (dn f :: fr) = (f.2.1 - 1 + 1) + ph fr := rfl
  have h3 : sm fs (f :: fr) = (pnf fs f - 1) + sm fs fr := rfl
  have h3' : sm fs (dn f :: fr) = (pnf fs (dn f) - 1) + sm fs fr := rfl
  have h4' : cz (dn f :: fr) = cz (f :: fr) := rfl
  refine ⟨by omega, a1, a2, by simpa using a3, ?_, by simp; omega, ⟨fok_dn a6 h0, Or.inl p2, a8⟩, by omega, by omega⟩
  intro u hu
  rcases List.mem_cons.mp hu with e | e
  · rw [e]; exact hv
  · exact a4 u e
theorem okE_succ {fs : List Fn} {n : Nat} {w : Int} {f : Fr} {fr : List Fr} {st : List Int} (h : okE fs n w (f :: fr) st) (h0 : 0 < f.2.1) (hc : cd f = 83) : n ≠ 0 ∧ ∃ v s, st = v :: s ∧ 0 ≤ v ∧ v ≤ 99 ∧ (v < 99 → okE fs (n - 1) w (dn f :: fr) ((v + 1) :: s)) := by
  obtain ⟨a1, a2, a3, a4, a5, ⟨a6, a7, a8⟩, a9, a10⟩ := h
  obtain ⟨p1, p2⟩ := pnf_dn a6 h0
  have har : arf fs (cd f) = 1 := by unfold arf; rw [if_pos hc]
  have h1 := ph_pos a8
  have h5 := sm_pos a8
  have h2 : ph (f :: fr) = (f.2.1 + 1) + ph fr := rfl
  have h2' : ph (dn f :: fr) = (f.2.1 - 1 + 1) + ph fr := rfl
  have h3 : sm fs (f :: fr) = (pnf fs f - 1) + sm fs fr := rfl
  have h3' : sm fs (dn f :: fr) = (pnf fs (dn f) - 1) + sm fs fr := rfl
  have h4' : cz (dn f :: fr) = cz (f :: fr) := rfl
  refine ⟨by omega, ?_⟩
  cases st with
  | nil => simp at a5; omega
  | cons v s =>
    have hv := a4 v (by simp)
    refine ⟨v, s, rfl, hv.1, hv.2, fun hl => ⟨a1, a2, by simpa using a3, ?_, by simp at a5 ⊢; omega, ⟨fok_dn a6 h0, Or.inl p2, a8⟩, by omega, by omega⟩⟩
    intro u hu
    rcases List.mem_cons.mp hu with e | e
    · rw [e]; omega
    · exact a4 u (by simp [e])
