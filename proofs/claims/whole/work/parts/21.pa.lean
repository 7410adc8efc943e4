/-! ===== the pure part: abstract states, what the class's and the reference's memory hold of them ===== -/
def gt (T : List Int) (i : Int) : Int := T.getD i.toNat 0
def rp (f : Int → Int) (T : List Int) : Prop := ∀ i : Int, 0 ≤ i → i < (T.length : Int) → f i = gt T i
/-- a function: arity, depth, first, second and last body -/
abbrev Fn : Type := Int × Int × List Int × List Int × List Int
def fB (g : Fn) (w : Int) : List Int := if w = 0 then g.2.2.1 else if w = 1 then g.2.2.2.1 else g.2.2.2.2
def gf (fs : List Fn) (f : Int) : Fn := fs.getD f.toNat (0, 0, [], [], [])
def arf (fs : List Fn) (c : Int) : Int := if c = 83 then 1 else if 97 ≤ c ∧ c < 97 + (fs.length : Int) then (gf fs (c - 97)).1 else 0
/-- T is k terms one behind the other -/
def pw (fs : List Fn) : Int → List Int → Prop
  | k, [] => k = 0
  | k, c :: T => 1 ≤ k ∧ pw fs (k - 1 + arf fs c) T
/-- where the first of the terms ends -/
def fe (fs : List Fn) : Int → List Int → Int
  | _, [] => 0
  | k, c :: T => if k ≤ 0 then 0 else 1 + fe fs (k - 1 + arf fs c) T
/-- codes that may stand in a claim -/
def cv (fs : List Fn) (c : Int) : Prop := c = 90 ∨ c = 83 ∨ c = 120 ∨ c = 121 ∨ c = 122 ∨ (97 ≤ c ∧ c < 97 + (fs.length : Int))
def okT (fs : List Fn) (T : List Int) : Prop := pw fs 1 T ∧ ∀ c ∈ T, cv fs c
/-! class -/
def Tm (μ : ZM) (fs : List Fn) (t : Int) (T : List Int) : Prop := μ t 2 = (T.length : Int) ∧ rp (μ (t + 1)) T ∧ ∀ i : Int, 0 ≤ i → i < (T.length : Int) → μ (t + 2) i = i + fe fs 1 (T.drop i.toNat)
def okTp (tp : List Int) : Prop := ∀ i : Int, 0 ≤ i → i < (tp.length : Int) → 0 ≤ gt tp i ∧ gt tp i ≤ 127
def CT (μ : ZM) (tp : List Int) : Prop := μ 212 3 = (tp.length : Int) ∧ (tp.length ≤ 48 ∧ okTp tp) ∧ rp (μ 213) tp
def hasB (g : Fn) (w : Int) : Prop := 0 ≤ w ∧ w ≤ 2 ∧ (w = 1 → g.2.1 = 2)
def CF (μ : ZM) (fs : List Fn) : Prop := μ 207 4 = (fs.length : Int) ∧ fs.length ≤ 6 ∧ (∀ f : Int, 0 ≤ f → f < (fs.length : Int) → μ 208 f = (gf fs f).1 ∧ μ 209 f = (gf fs f).2.1 ∧ ∀ w, hasB (gf fs f) w → μ (115 + 3 * (3 * f + w)) 2 = ((fB (gf fs f) w).length : Int) ∧ rp (μ (115 + 3 * (3 * f + w) + 1)) (fB (gf fs f) w)) ∧ ∀ c : Int, 0 ≤ c → c < 128 → μ 211 c = arf fs c
def CC (μ : ZM) (fs : List Fn) (cl : Option (List Int × List Int)) : Prop := match cl with
  | none => μ 206 11 = 0
  | some q => μ 206 11 = 1 ∧ Tm μ fs 103 q.1 ∧ Tm μ fs 106 q.2
def gl (ls : List (List Int × List Int)) (k : Int) : List Int × List Int := ls.getD k.toNat ([], [])
def CL (μ : ZM) (fs : List Fn) (ls : List (List Int × List Int)) : Prop := μ 238 1 = (ls.length : Int) ∧ ls.length ≤ 8 ∧ ∀ k : Int, 0 ≤ k → k < (ls.length : Int) → Tm μ fs (6 * k + 1) (gl ls k).1 ∧ Tm μ fs (6 * k + 4) (gl ls k).2
def CN (μ : ZM) (nt : List (Int × Int)) : Prop := μ 240 3 = (nt.length : Int) ∧ nt.length ≤ 99 ∧ rp (μ 241) (nt.map Prod.fst) ∧ rp (μ 242) (nt.map Prod.snd)
def CW (μ : ZM) (cs : List Int) : Prop := μ 240 4 = (cs.length : Int) ∧ cs.length ≤ 4 ∧ rp (μ 243) cs
def CZ (μ : ZM) : Prop := rp (μ 223) [90, 120, 121, 122] ∧ rp (μ 224) [0, 0, 0, 0] ∧ rp (μ 226) [1, 1, 1, 1]
abbrev TC : Type := List Int × List Fn × Option (List Int × List Int) × List (List Int × List Int) × List (Int × Int) × List Int
def RC (μ : ZM) (tp : List Int) (fs : List Fn) (cl : Option (List Int × List Int)) (ls : List (List Int × List Int)) (nt : List (Int × Int)) (cs : List Int) : Prop := CT μ tp ∧ CF μ fs ∧ CC μ fs cl ∧ CL μ fs ls ∧ CN μ nt ∧ CW μ cs ∧ CZ μ
/-! reference -/
def Sl (μ : ZM) (s : Int) (T : List Int) : Prop := μ 250 s = (T.length : Int) ∧ rp (fun i => μ 249 (128 * s + i)) T
def MT (μ : ZM) (tp : List Int) : Prop := μ 248 3 = (tp.length : Int) ∧ tp.length ≤ 48 ∧ rp (μ 251) tp
def MF (μ : ZM) (fs : List Fn) : Prop := μ 248 4 = (fs.length : Int) ∧ fs.length ≤ 6 ∧ ∀ f : Int, 0 ≤ f → f < (fs.length : Int) → μ 252 f = (gf fs f).1 ∧ μ 253 f = (gf fs f).2.1 ∧ ∀ w, hasB (gf fs f) w → μ 255 (3 * f + w) = ((fB (gf fs f) w).length : Int) ∧ rp (fun i => μ 254 (10 * (3 * f + w) + i)) (fB (gf fs f) w)
def MC (μ : ZM) (cl : Option (List Int × List Int)) : Prop := match cl with
  | none => μ 248 9 = 0
  | some q => μ 248 9 = 1 ∧ Sl μ 0 q.1 ∧ Sl μ 1 q.2
def ML (μ : ZM) (ls : List (List Int × List Int)) : Prop := μ 248 35 = (ls.length : Int) ∧ ls.length ≤ 8 ∧ ∀ k : Int, 0 ≤ k → k < (ls.length : Int) → Sl μ (28 + 2 * k) (gl ls k).1 ∧ Sl μ (28 + 2 * k + 1) (gl ls k).2
def MN (μ : ZM) (nt : List (Int × Int)) : Prop := μ 248 39 = (nt.length : Int) ∧ nt.length ≤ 99 ∧ rp (μ 270) (nt.map Prod.fst) ∧ rp (μ 271) (nt.map Prod.snd)
def wl (o fl fk dp : Int) : List Int := if o = 3 then [3] else if o = 1 ∨ o = 2 then List.replicate fl.toNat 2 ++ [fk] ++ (if dp = 0 then [] else [4]) else []
def MW (μ : ZM) (cs : List Int) : Prop := cs = wl (μ 248 42) (μ 248 43) (μ 248 44) (μ 248 45) ∧ (μ 248 42 = 1 ∨ μ 248 42 = 2 → 0 ≤ μ 248 43 ∧ μ 248 43 ≤ 2)
def RM (μ : ZM) (tp : List Int) (fs : List Fn) (cl : Option (List Int × List Int)) (ls : List (List Int × List Int)) (nt : List (Int × Int)) (cs : List Int) : Prop := MT μ tp ∧ MF μ fs ∧ MC μ cl ∧ ML μ ls ∧ MN μ nt ∧ MW μ cs
/-! what is known of abstract states -/
def okF (fs : List Fn) : Prop := ∀ f : Int, 0 ≤ f → f < (fs.length : Int) → ((gf fs f).1 = 1 ∨ (gf fs f).1 = 2) ∧ ((gf fs f).2.1 = 1 ∨ (gf fs f).2.1 = 2) ∧ ∀ w, hasB (gf fs f) w → okT fs (fB (gf fs f) w) ∧ (fB (gf fs f) w).length ≤ 10 ∧ (∀ c ∈ fB (gf fs f) w, c ≠ 122 ∧ (c = 121 → (gf fs f).1 = 2) ∧ (c = 120 → w = 2))
def okA (fs : List Fn) (cl : Option (List Int × List Int)) (ls : List (List Int × List Int)) : Prop := okF fs ∧ (∀ q, cl = some q → okT fs q.1 ∧ okT fs q.2 ∧ q.1.length ≤ 20 ∧ q.2.length ≤ 20) ∧ ∀ q ∈ ls, okT fs q.1 ∧ okT fs q.2 ∧ q.1.length ≤ 40 ∧ q.2.length ≤ 40
/-- one memory holds one abstract state twice -/
def Inv (μ : ZM) : Prop := ∃ tp fs cl ls nt cs, RC μ tp fs cl ls nt cs ∧ RM μ tp fs cl ls nt cs ∧ okA fs cl ls
def Ans (PM : (Int → ZM → Prop) → Prop) (r : Int) : Prop := ∀ K : Int → ZM → Prop, (∀ μ, Inv μ → K r μ) → PM K
/-- what the class did leaves the reference's cells alone, and the other way round -/
def fC (μ μ' : ZM) : Prop := ∀ a k, 248 ≤ a → μ' a k = μ a k
def fM (μ μ' : ZM) : Prop := ∀ a k, a < 248 → μ' a k = μ a k
theorem rp.ex {f g : Int → Int} {T : List Int} (h : rp f T) (e : ∀ i : Int, 0 ≤ i → i < (T.length : Int) → g i = f i) : rp g T := fun i h1 h2 => (e i h1 h2).trans (h i h1 h2)
theorem RM.fr {μ μ' : ZM} {tp : List Int} {fs : List Fn} {cl : Option (List Int × List Int)} {ls : List (List Int × List Int)} {nt : List (Int × Int)} {cs : List Int} (h : RM μ tp fs cl ls nt cs) (e : fC μ μ') : RM μ' tp fs cl ls nt cs := by
  unfold RM MT MF MC ML MN MW Sl rp at *
  unfold fC at e
  simp only [e _ _ (show (248 : Int) ≤ 248 by decide), e _ _ (show (248 : Int) ≤ 249 by decide), e _ _ (show (248 : Int) ≤ 250 by decide), e _ _ (show (248 : Int) ≤ 251 by decide), e _ _ (show (248 : Int) ≤ 252 by decide), e _ _ (show (248 : Int) ≤ 253 by decide), e _ _ (show (248 : Int) ≤ 254 by decide), e _ _ (show (248 : Int) ≤ 255 by decide), e _ _ (show (248 : Int) ≤ 270 by decide), e _ _ (show (248 : Int) ≤ 271 by decide)]
  exact h
theorem Tm.ex {μ μ' : ZM} {fs : List Fn} {t : Int} {T : List Int} (h : Tm μ fs t T) (e : ∀ k, μ' t k = μ t k) (e1 : ∀ k, μ' (t + 1) k = μ (t + 1) k) (e2 : ∀ k, μ' (t + 2) k = μ (t + 2) k) : Tm μ' fs t T := by
  unfold Tm rp at *
  simp only [e, e1, e2]
  exact h
/-- the class's observed cells -/
def oC (a k : Int) : Prop := (1 ≤ a ∧ a ≤ 48) ∨ (103 ≤ a ∧ a ≤ 108) ∨ (115 ≤ a ∧ a ≤ 168) ∨ (206 ≤ a ∧ a ≤ 211) ∨ (a = 212 ∧ k = 3) ∨ a = 213 ∨ (223 ≤ a ∧ a ≤ 226 ∧ 0 ≤ k ∧ k < 4) ∨ a = 238 ∨ (240 ≤ a ∧ a ≤ 243)
theorem RC.fr {μ μ' : ZM} {tp : List Int} {fs : List Fn} {cl : Option (List Int × List Int)} {ls : List (List Int × List Int)} {nt : List (Int × Int)} {cs : List Int} (h : RC μ tp fs cl ls nt cs) (e : ∀ a k, oC a k → μ' a k = μ a k) : RC μ' tp fs cl ls nt cs := by
  obtain ⟨⟨a1, a2, a3⟩, ⟨b1, b2, b3, b4⟩, hc, ⟨d1, d2, d3⟩, ⟨n1, n2, n3, n4⟩, ⟨w1, w2, w3⟩, z1, z2, z3⟩ := h
  have E : ∀ (a : Int), ((1 ≤ a ∧ a ≤ 48) ∨ (103 ≤ a ∧ a ≤ 108) ∨ (115 ≤ a ∧ a ≤ 168) ∨ (206 ≤ a ∧ a ≤ 211) ∨ a = 213 ∨ a = 238 ∨ (240 ≤ a ∧ a ≤ 243)) → ∀ k, μ' a k = μ a k := fun a h k => e a k (by unfold oC; omega)
  refine ⟨⟨by rw [e 212 3 (by unfold oC; omega)]; exact a1, a2, a3.ex (fun i _ _ => E 213 (by omega) i)⟩, ⟨by rw [E 207 (by omega)]; exact b1, b2, fun f h1 h2 => ?_, fun c h1 h2 => by rw [E 211 (by omega)]; exact b4 c h1 h2⟩, ?_, ⟨by rw [E 238 (by omega)]; exact d1, d2, fun k h1 h2 => ?_⟩, ⟨by rw [E 240 (by omega)]; exact n1, n2, n3.ex (fun i _ _ => E 241 (by omega) i), n4.ex (fun i _ _ => E 242 (by omega) i)⟩, ⟨by rw [E 240 (by omega)]; exact w1, w2, w3.ex (fun i _ _ => E 243 (by omega) i)⟩, z1.ex (fun i g1 g2 => e _ _ (by unfold oC; simp at g2; omega)), z2.ex (fun i g1 g2 => e _ _ (by unfold oC; simp at g2; omega)), z3.ex (fun i g1 g2 => e _ _ (by unfold oC; simp at g2; omega))⟩
  · obtain ⟨q1, q2, q3⟩ := b3 f h1 h2
    refine ⟨by rw [E 208 (by omega)]; exact q1, by rw [E 209 (by omega)]; exact q2, fun w hw => ?_⟩
    obtain ⟨g1, g2⟩ := q3 w hw
    obtain ⟨hw1, hw2, -⟩ := hw
    exact ⟨by rw [E _ (by omega)]; exact g1, g2.ex (fun i _ _ => E _ (by omega) i)⟩
  · unfold CC at hc ⊢
    cases cl with
    | none => dsimp only at hc ⊢; rw [E 206 (by omega)]; exact hc
    | some q => dsimp only at hc ⊢; exact ⟨by rw [E 206 (by omega)]; exact hc.1, hc.2.1.ex (E _ (by omega)) (E _ (by omega)) (E _ (by omega)), hc.2.2.ex (E _ (by omega)) (E _ (by omega)) (E _ (by omega))⟩
  · obtain ⟨q1, q2⟩ := d3 k h1 h2
    exact ⟨q1.ex (E _ (by omega)) (E _ (by omega)) (E _ (by omega)), q2.ex (E _ (by omega)) (E _ (by omega)) (E _ (by omega))⟩
theorem RC.frM {μ μ' : ZM} {tp : List Int} {fs : List Fn} {cl : Option (List Int × List Int)} {ls : List (List Int × List Int)} {nt : List (Int × Int)} {cs : List Int} (h : RC μ tp fs cl ls nt cs) (e : fM μ μ') : RC μ' tp fs cl ls nt cs := h.fr (fun a k ho => e a k (by unfold oC at ho; omega))
/-! small tools -/
theorem if1 {A B : Prop} (h : B) : if (1 : Int) = 0 then A else B := h
theorem if0 {A B : Prop} (h : A) : if (0 : Int) = 0 then A else B := h
theorem ifb {c A B : Prop} {d : Decidable c} (h1 : c → A) (h2 : ¬ c → B) : @ite Prop c d A B := by
  by_cases h : c
  · rw [if_pos h]; exact h1 h
  · rw [if_neg h]; exact h2 h
theorem s_out {x0 x1 : Int} {μ : ZM} {K : Int → ZM → Prop} (h1 : ¬ (0 ≤ x0 ∧ x0 ≤ x1) → K 1 μ) (h0 : 0 ≤ x0 ∧ x0 ≤ x1 → K 0 μ) : P_X11_isOutside x0 x1 μ K := by
  unfold P_X11_isOutside P_X11_isOutside_9
  refine ifb (fun h => ⟨Or.inr rfl, h1 (by omega)⟩) (fun h => ifb (fun h' => ⟨Or.inl rfl, h0 (by omega)⟩) (fun h' => ⟨Or.inr rfl, h1 (by omega)⟩))
theorem s_nop {x0 x1 : Int} {μ : ZM} {K : Int → ZM → Prop} (hx : 0 ≤ x1 ∧ x1 ≤ 100) (h1 : ¬ (x0 = -9 ∨ (0 ≤ x0 ∧ x0 < x1)) → K 1 μ) (h0 : x0 = -9 ∨ (0 ≤ x0 ∧ x0 < x1) → K 0 μ) : P_X11_isNoPlace x0 x1 μ K := by
  unfold P_X11_isNoPlace
  refine ifb (fun h => ⟨Or.inl rfl, h0 (by omega)⟩) (fun h => ⟨⟨by omega, by omega⟩, s_out (fun h' => if1 ⟨Or.inr rfl, h1 (by omega)⟩) (fun h' => if0 ⟨Or.inl rfl, h0 (by omega)⟩)⟩)
theorem s_wi {x0 x1 x2 : Int} {μ : ZM} {K : Int → ZM → Prop} (h1 : x1 ≤ x0 ∧ x0 ≤ x2 → K 1 μ) (h0 : ¬ (x1 ≤ x0 ∧ x0 ≤ x2) → K 0 μ) : P_X12_within x0 x1 x2 μ K := by
  unfold P_X12_within
  refine ifb (fun h => ⟨Or.inl rfl, h0 (by omega)⟩) (fun h => ifb (fun h' => ⟨Or.inl rfl, h0 (by omega)⟩) (fun h' => ⟨Or.inr rfl, h1 (by omega)⟩))
theorem s_at {s i : Int} {μ : ZM} {K : Int → ZM → Prop} (hs : 0 ≤ s ∧ s < 44) (hi : 0 ≤ i ∧ i < 128) (h : K (μ 249 (128 * s + i)) μ) : P_X12_at s i μ K := ⟨⟨by omega, by omega⟩, ⟨by omega, by omega⟩, ⟨by omega, by omega⟩, h⟩
