/-! ===== a function ===== -/
def gb (B : List (List Int)) (j : Int) : List Int := B.getD j.toNat []
def rb (fs : List Fn) (oa hy own : Int) (tp : List Int) (p : Int) : Int × Int × List Int := rt fs own hy 0 own oa tp 10 (10 : Int).toNat p 1 0 []
abbrev sep (tp : List Int) (p : Int) : Prop := p < (tp.length : Int) ∧ gt tp p = 59
def rf (fs : List Fn) (oa hy : Int) (tp : List Int) : Nat → Int → List (List Int) → Int × Int × List (List Int)
  | 0, p, acc => if (rb fs oa hy 1 tp p).1 = 0 then (0, (rb fs oa hy 1 tp p).2.1, []) else if (rb fs oa hy 1 tp p).2.1 = (tp.length : Int) then (1, (rb fs oa hy 1 tp p).2.1, acc ++ [(rb fs oa hy 1 tp p).2.2]) else (0, (rb fs oa hy 1 tp p).2.1, [])
  | k + 1, p, acc => if (rb fs oa hy 0 tp p).1 = 0 then (0, (rb fs oa hy 0 tp p).2.1, []) else if sep tp (rb fs oa hy 0 tp p).2.1 then rf fs oa hy tp k ((rb fs oa hy 0 tp p).2.1 + 1) (acc ++ [(rb fs oa hy 0 tp p).2.2]) else (0, (rb fs oa hy 0 tp p).2.1, [])
theorem gf_app1 {fs : List Fn} {g : Fn} {f : Int} (h : 0 ≤ f ∧ f < (fs.length : Int)) : gf (fs ++ [g]) f = gf fs f := by
  unfold gf
  rw [List.getD_eq_getElem?_getD, List.getD_eq_getElem?_getD, List.getElem?_append_left (by omega)]
theorem gf_app2 {fs : List Fn} {g : Fn} : gf (fs ++ [g]) (fs.length : Int) = g := by
  unfold gf
  rw [List.getD_eq_getElem?_getD, List.getElem?_append_right (by omega), show (fs.length : Int).toNat - fs.length = 0 by omega]
  rfl
theorem arf_app {fs : List Fn} {g : Fn} {c : Int} : arf (fs ++ [g]) c = if c = 97 + (fs.length : Int) then g.1 else arf fs c := by
  unfold arf
  by_cases e : c = 97 + (fs.length : Int)
  · rw [if_pos e, if_neg (by omega), if_pos (by simp; omega), show c - 97 = (fs.length : Int) by omega, gf_app2]
  · rw [if_neg e]
    by_cases e1 : c = 83
    · rw [if_pos e1, if_pos e1]
    · rw [if_neg e1, if_neg e1]
      by_cases e2 : 97 ≤ c ∧ c < 97 + (fs.length : Int)
      · rw [if_pos e2, if_pos (by simp; omega), gf_app1 (by omega)]
      · rw [if_neg e2, if_neg (by simp; omega)]
theorem arf_cv {fs : List Fn} {g : Fn} {c : Int} (hl : fs.length ≤ 5) (h : cv fs c) : arf (fs ++ [g]) c = arf fs c := by
  rw [arf_app, if_neg (by unfold cv at h; omega)]
theorem cv_app {fs : List Fn} {g : Fn} {c : Int} (h : cv fs c) : cv (fs ++ [g]) c := by
  unfold cv at h ⊢
  simp
  omega
theorem pw_app {fs : List Fn} {g : Fn} (hl : fs.length ≤ 5) : ∀ {T : List Int} {k : Int}, (∀ c ∈ T, cv fs c) → pw fs k T → pw (fs ++ [g]) k T
  | [], _, _, h => h
  | c :: T, k, hc, h => by
    refine ⟨h.1, ?_⟩
    rw [arf_cv hl (hc c (by simp))]
    exact pw_app hl (fun d hd => hc d (by simp [hd])) h.2
theorem fe_app {fs : List Fn} {g : Fn} (hl : fs.length ≤ 5) : ∀ {T : List Int} {k : Int}, (∀ c ∈ T, cv fs c) → fe (fs ++ [g]) k T = fe fs k T
  | [], _, _ => rfl
  | c :: T, k, hc => by
    unfold fe
    rw [arf_cv hl (hc c (by simp)), fe_app hl (fun d hd => hc d (by simp [hd]))]
theorem okT_app {fs : List Fn} {g : Fn} {T : List Int} (hl : fs.length ≤ 5) (h : okT fs T) : okT (fs ++ [g]) T := ⟨pw_app hl h.2 h.1, fun c hc => cv_app (h.2 c hc)⟩
theorem Tm_app {fs : List Fn} {g : Fn} {T : List Int} {μ : ZM} {t : Int} (hl : fs.length ≤ 5) (h : okT fs T) (hT : Tm μ fs t T) : Tm μ (fs ++ [g]) t T := by
  refine ⟨hT.1, hT.2.1, fun i h1 h2 => ?_⟩
  rw [fe_app hl (fun c hc => h.2 c (List.mem_of_mem_drop hc))]
  exact hT.2.2 i h1 h2
def gB (fs : List Fn) (oa own : Int) (T : List Int) : Prop := pw fs 1 T ∧ T.length ≤ 10 ∧ ∀ c ∈ T, cv fs c ∧ c ≠ 122 ∧ (c = 121 → oa = 2) ∧ (c = 120 → own = 1)
theorem pa_fn {fs : List Fn} {g : Fn} {oa own c : Int} (hl : fs.length ≤ 5) (ho : own = 0 ∨ own = 1) (hg : g.1 = oa) (h : 0 ≤ pa fs own (if oa = 2 then 1 else 0) 0 own oa c) : arf (fs ++ [g]) c = pa fs own (if oa = 2 then 1 else 0) 0 own oa c ∧ (cv (fs ++ [g]) c ∧ c ≠ 122 ∧ (c = 121 → oa = 2) ∧ (c = 120 → own = 1)) := by
  rw [arf_app]
  revert h
  unfold pa arf cv
  have hlen : ((fs ++ [g]).length : Int) = (fs.length : Int) + 1 := by simp
  rw [hlen]
  by_cases e1 : c = 90
  · rw [if_pos e1, if_neg (show ¬ c = 97 + (fs.length : Int) by omega), if_neg (show ¬ c = 83 by omega), if_neg (show ¬ (97 ≤ c ∧ c < 97 + (fs.length : Int)) by omega)]; intro _; exact ⟨rfl, by omega⟩
  · rw [if_neg e1]
    by_cases e2 : c = 83
    · rw [if_pos e2, if_neg (show ¬ c = 97 + (fs.length : Int) by omega), if_pos e2]; intro _; exact ⟨rfl, by omega⟩
    · rw [if_neg e2, if_neg e2]
      by_cases e3 : c = 120
      · rw [if_pos e3, if_neg (show ¬ c = 97 + (fs.length : Int) by omega), if_neg (show ¬ (97 ≤ c ∧ c < 97 + (fs.length : Int)) by omega)]
        by_cases e : own = 0
        · rw [if_pos e]; intro h; exact absurd h (by decide)
        · rw [if_neg e]; intro _; exact ⟨rfl, by omega⟩
      · rw [if_neg e3]
        by_cases e4 : c = 121
        · rw [if_pos e4, if_neg (show ¬ c = 97 + (fs.length : Int) by omega), if_neg (show ¬ (97 ≤ c ∧ c < 97 + (fs.length : Int)) by omega)]
          by_cases e : oa = 2
          · rw [if_pos e, if_neg (by decide)]; intro _; exact ⟨rfl, by omega⟩
          · rw [if_neg e, if_pos rfl]; intro h; exact absurd h (by decide)
        · rw [if_neg e4]
          by_cases e5 : c = 122
          · rw [if_pos e5, if_pos rfl]; intro h; exact absurd h (by decide)
          · rw [if_neg e5]
            by_cases e6 : 97 ≤ c ∧ c < 97 + (fs.length : Int)
            · rw [if_pos e6, if_neg (show ¬ c = 97 + (fs.length : Int) by omega), if_pos e6]; intro _; exact ⟨rfl, by omega⟩
            · rw [if_neg e6]
              by_cases e7 : own ≠ 0 ∧ c = 97 + (fs.length : Int)
              · rw [if_pos e7, if_pos e7.2]; intro _; exact ⟨hg, by omega⟩
              · rw [if_neg e7]; intro h; exact absurd h (by decide)
theorem rb_ok {fs : List Fn} {g : Fn} {oa own : Int} {tp : List Int} {p : Int} (hl : fs.length ≤ 5) (ho : own = 0 ∨ own = 1) (hg : g.1 = oa) (h : (rb fs oa (if oa = 2 then 1 else 0) own tp p).1 ≠ 0) : gB (fs ++ [g]) oa own (rb fs oa (if oa = 2 then 1 else 0) own tp p).2.2 := by
  have h1 : (rb fs oa (if oa = 2 then 1 else 0) own tp p).1 = 1 := by
    rcases rt_01 (fs := fs) (hx := own) (hy := if oa = 2 then 1 else 0) (hz := 0) (own := own) (oa := oa) (tp := tp) (room := 10) (10 : Int).toNat p 1 0 [] with e | e
    · exact absurd e h
    · exact e
  have := rt_ok (fs := fs) (fs' := fs ++ [g]) (hx := own) (hy := if oa = 2 then 1 else 0) (hz := 0) (own := own) (oa := oa) (tp := tp) (room := 10) (Q := fun c => cv (fs ++ [g]) c ∧ c ≠ 122 ∧ (c = 121 → oa = 2) ∧ (c = 120 → own = 1)) (fun c hc => pa_fn hl ho hg hc) (10 : Int).toNat p 1 0 [] (by omega) (by simp) (by simp) trivial rfl (fun c hc => absurd hc (by simp)) h1
  obtain ⟨a1, a2, a3⟩ := this
  refine ⟨a1, ?_, a2⟩
  unfold rb
  omega
theorem rf_ok {fs : List Fn} {g : Fn} {oa : Int} {tp : List Int} (hl : fs.length ≤ 5) (hg : g.1 = oa) : ∀ (k : Nat) (p : Int) (acc : List (List Int)), (rf fs oa (if oa = 2 then 1 else 0) tp k p acc).1 ≠ 0 → ∃ L : List (List Int), (rf fs oa (if oa = 2 then 1 else 0) tp k p acc).2.2 = acc ++ L ∧ L.length = k + 1 ∧ ∀ j : Int, 0 ≤ j → j ≤ (k : Int) → gB (fs ++ [g]) oa (if j = (k : Int) then 1 else 0) (gb L j) := by
  intro k
  induction k with
  | zero =>
    intro p acc h
    unfold rf at h ⊢
    by_cases g1 : (rb fs oa (if oa = 2 then 1 else 0) 1 tp p).1 = 0
    · rw [if_pos g1] at h; exact absurd rfl h
    · rw [if_neg g1] at h ⊢
      by_cases g2 : (rb fs oa (if oa = 2 then 1 else 0) 1 tp p).2.1 = (tp.length : Int)
      · rw [if_pos g2]
        refine ⟨[(rb fs oa (if oa = 2 then 1 else 0) 1 tp p).2.2], rfl, rfl, fun j h1 h2 => ?_⟩
        rw [if_pos (by omega), show j = 0 by omega]
        exact rb_ok hl (Or.inr rfl) hg g1
      · rw [if_neg g2] at h; exact absurd rfl h
  | succ k ih =>
    intro p acc h
    unfold rf at h ⊢
    by_cases g1 : (rb fs oa (if oa = 2 then 1 else 0) 0 tp p).1 = 0
    · rw [if_pos g1] at h; exact absurd rfl h
    · rw [if_neg g1] at h ⊢
      by_cases g2 : sep tp (rb fs oa (if oa = 2 then 1 else 0) 0 tp p).2.1
      · rw [if_pos g2] at h ⊢
        obtain ⟨L, l1, l2, l3⟩ := ih _ _ h
        refine ⟨(rb fs oa (if oa = 2 then 1 else 0) 0 tp p).2.2 :: L, by rw [l1, List.append_assoc]; rfl, by simp [l2], fun j h1 h2 => ?_⟩
        by_cases ej : j = 0
        · subst ej
          rw [if_neg (by omega)]
          exact rb_ok hl (Or.inl rfl) hg g1
        · have := l3 (j - 1) (by omega) (by omega)
          have e : gb ((rb fs oa (if oa = 2 then 1 else 0) 0 tp p).2.2 :: L) j = gb L (j - 1) := by
            unfold gb
            rw [show j.toNat = (j - 1).toNat + 1 by omega]
            rfl
          rw [e]
          by_cases ek : j = ((k + 1 : Nat) : Int)
          · rw [if_pos ek]; rw [if_pos (by omega)] at this; exact this
          · rw [if_neg ek]; rw [if_neg (by omega)] at this; exact this
      · rw [if_neg g2] at h; exact absurd rfl h
theorem gb_push {B : List (List Int)} {T : List Int} {j : Int} (h : 0 ≤ j) : gb (B ++ [T]) j = if j = (B.length : Int) then T else gb B j := by
  unfold gb
  by_cases e : j = (B.length : Int)
  · rw [if_pos e, List.getD_eq_getElem?_getD, List.getElem?_append_right (by omega), show j.toNat - B.length = 0 by omega]
    rfl
  · rw [if_neg e, List.getD_eq_getElem?_getD, List.getD_eq_getElem?_getD]
    by_cases l : j.toNat < B.length
    · rw [List.getElem?_append_left l]
    · rw [List.getElem?_eq_none (by simp; omega), List.getElem?_eq_none (by omega)]
