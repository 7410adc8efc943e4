/-! the reference ripples -/
def rpm (a k : Int) : Prop := (266 ≤ a ∧ a ≤ 269) ∨ fr20 a k
theorem ML_side {μ : ZM} {ls : List (List Int × List Int)} {k d : Int} (h : ML μ ls) (hk : 0 ≤ k ∧ k < (ls.length : Int)) (hd : 0 ≤ d ∧ d ≤ 1) : Sl μ (28 + 2 * k + d) (gs (gl ls k) d) := by
  obtain ⟨h1, h2⟩ := h.2.2 k hk.1 hk.2
  exact gs_M hd h1 h2
theorem s_steersOnce {fs : List Fn} {ls : List (List Int × List Int)} {s s' now : Int} {A S : List Int} {μ : ZM} {K : Int → ZM → Prop} (ho : okF fs) (hF : MF μ fs) (hML : ML μ ls) (hL : okL fs ls) (hs : 0 ≤ s ∧ s < 28) (hs' : 0 ≤ s' ∧ s' < 28) (hne : s ≠ 20) (hne' : s' ≠ 20) (hss : s ≠ s') (hSl : Sl μ s A) (hSl' : Sl μ s' S) (hA : okT fs A) (hS : okT fs S) (lA : A.length ≤ 40) (lS : S.length ≤ 40) (h0 : fi (cn fs ls A S now) 640 0 = none → ∀ μ', (∀ a q, ¬ rpm a q → μ' a q = μ a q) → K 0 μ') (h1 : ∀ m T, fi (cn fs ls A S now) 640 0 = some (m, T) → ∀ μ', (∀ a q, ¬ rpm a q → ¬ (a = 248 ∧ q = 36) → ¬ (a = 249 ∧ 128 * s ≤ q ∧ q < 128 * s + 128) → ¬ (a = 250 ∧ q = s) → μ' a q = μ a q) → Sl μ' s T → μ' 248 36 = 100 * (m % 16 / 2) + m % 2 → K 1 μ') : P_X12_steersOnce s s' now μ K := by
  have hl := hF.2.1
  have hL8 := hL.1
  have lA1 := okT_1 hA
  have lS1 := okT_1 hS
  generalize hg : cn fs ls A S now = g at *
  generalize hR : fi g 640 0 = R at *
  refine z_lf1_ind (fun i μ' => 0 ≤ i ∧ i ≤ (A.length : Int) ∧ (∀ a q, ¬ rpm a q → μ' a q = μ a q) ∧ fi g (640 - 16 * i).toNat (16 * i) = R) (fun i _ => ((A.length : Int) - i).toNat) ?_ 0 μ ⟨by omega, by omega, fun _ _ _ => rfl, hR⟩
  intro i μ2 G ⟨a1, a2, a3, a4⟩ hG
  rw [show μ2 250 s = (A.length : Int) from (a3 _ _ (by unfold rpm fr20; omega)).trans hSl.1]
  refine ⟨by omega, ifb (fun g1 => ⟨Or.inl rfl, h0 ?_ μ2 a3⟩) (fun g1 => ?_)⟩
  · rw [← a4]
    refine fi_no (by omega) (fun x p1 p2 => ?_)
    rw [← hg]
    exact cn_out (i := x / 16) (u := x % 16) (by omega) (by omega) (Or.inl (by omega))
  · refine z_lf1_ind (fun u μ' => 0 ≤ u ∧ u ≤ 2 * (ls.length : Int) ∧ (∀ a q, ¬ rpm a q → μ' a q = μ a q) ∧ fi g (640 - (16 * i + u)).toNat (16 * i + u) = R) (fun u _ => (2 * (ls.length : Int) - u).toNat) ?_ 0 μ2 ⟨by omega, by omega, a3, by rw [show 16 * i + 0 = 16 * i by omega]; exact a4⟩
    intro u μ3 G2 ⟨b1, b2, b3, b4⟩ hG2
    have hML3 : ML μ3 ls := hML.fr (b3 _ _ (by unfold rpm fr20; omega)) (fun k h => b3 _ _ (by unfold rpm fr20; omega)) (fun k h => b3 _ _ (by unfold rpm fr20; omega))
    rw [hML3.1]
    refine ⟨⟨by omega, by omega⟩, ifb (fun g2 => ⟨⟨by omega, by omega⟩, hG _ _ ⟨by omega, by omega, b3, ?_⟩ (by omega)⟩) (fun g2 => ⟨⟨by omega, by omega⟩, by omega, ?_⟩)⟩
    · rw [← b4]
      refine (fi_go (by omega) (by omega) (fun x p1 p2 => ?_)).symm
      rw [← hg]
      exact cn_out (i := i) (u := x - 16 * i) (by omega) (by omega) (Or.inr (by omega))
    · have hcn := cn_in (fs := fs) (ls := ls) (A := A) (S := S) (now := now) (i := i) (u := u) (m := 16 * i + u) rfl (by omega) (by omega)
      have skip : g (16 * i + u) = none → ∀ μ5, (∀ a q, ¬ rpm a q → μ5 a q = μ a q) → P_X12_steersOnce_140 G G2 s s' now i u μ5 K := by
        intro hn μ5 f5
        refine ⟨⟨by omega, by omega⟩, hG2 _ _ ⟨by omega, by omega, f5, ?_⟩ (by omega)⟩
        rw [← b4, fi_n (by omega) hn, show 16 * i + (u + 1) = 16 * i + u + 1 by omega]
      have skip96 : cw fs ls A i u = none → ∀ μ5, (∀ a q, ¬ rpm a q → μ5 a q = μ a q) → P_X12_steersOnce_96 G G2 s s' now i u μ5 K := by
        intro hw μ5 f5
        unfold P_X12_steersOnce_96 P_X12_steersOnce_97
        rw [if_pos rfl]
        exact skip (by rw [← hg, hcn, hw]) μ5 f5
      obtain ⟨⟨p1, p2⟩, p3, p4⟩ := okL_p (u := u) hL (by omega)
      have sP : Sl μ3 (28 + u) (pt ls u) := by
        have := ML_side (k := u / 2) (d := u % 2) hML3 (by omega) (by omega)
        rw [show 28 + 2 * (u / 2) + u % 2 = 28 + u by omega] at this
        exact this
      have sQ : Sl μ3 (28 + 2 * (u / 2) + (1 - u % 2)) (po ls u) := ML_side (k := u / 2) (d := 1 - u % 2) hML3 (by omega) (by omega)
      have main : ∀ o : Int, o = 28 + 2 * (u / 2) + (1 - u % 2) → P_X12_steersOnce_53 G G2 s s' now i u (28 + u) o μ3 K := by
        intro o hoo
        rw [← hoo] at sQ
        have hSl3 : Sl μ3 s A := hSl.ex (b3 _ _ (by unfold rpm fr20; omega)) (fun _ _ _ => b3 _ _ (by unfold rpm fr20; omega))
        have hF3 : MF μ3 fs := hF.fr (fun a ha k => b3 _ _ (by unfold rpm fr20; omega)) (b3 _ _ (by unfold rpm fr20; omega))
        have ecw : cw fs ls A i u = if usb (pt ls u) (po ls u) then (match mt fs A (-9) (pt ls u) i b9 with
          | none => none
          | some b => if (RP fs A i b (po ls u)).length ≤ 40 then some (RP fs A i b (po ls u)) else none) else none := rfl
        refine s_isPattern (by omega) (by omega) sP sQ p2 p4 (cv_122 hl p1) (fun hu => if1 ?_) (fun hu => if0 (skip96 (by rw [ecw, if_neg hu]) μ3 b3))
        rw [if_pos hu] at ecw
        refine s_matchesM ho hF3 (by omega) (by omega) sP hSl3 hA p2 lA (cv_122 hl p1) ⟨a1, by omega⟩ (fun hm μ4 f4 => if0 (skip96 (by rw [ecw, hm]) μ4 (fun a q y => (f4 a q (by unfold rpm at y; omega) (by unfold rpm at y; omega)).trans (b3 a q y)))) (fun bb hm μ4 f4 hbm => if1 ?_)
        rw [hm] at ecw
        dsimp only at ecw
        have hb := mt_ok _ _ _ _ a1 b9_ok hm
        have f4' : ∀ a q, ¬ rpm a q → μ4 a q = μ a q := fun a q y => (f4 a q (by unfold rpm at y; omega) (by unfold rpm at y; omega)).trans (b3 a q y)
        refine s_replacesM (b := bb) (Q := po ls u) ho (hF3.fr (fun a ha k => f4 _ _ (by omega) (by omega)) (f4 _ _ (by omega) (by omega))) (by omega) (by omega) hne (by omega) (hSl3.ex (f4 _ _ (by omega) (by omega)) (fun _ _ _ => f4 _ _ (by omega) (by omega))) (sQ.ex (f4 _ _ (by omega) (by omega)) (fun _ _ _ => f4 _ _ (by omega) (by omega))) hA p4 lA hb hbm ⟨a1, by omega⟩ (fun q => if0 (skip96 (by rw [ecw, if_neg q]) μ4 f4')) (fun q μ5 f5 t5 => if1 ?_)
        rw [if_pos q] at ecw
        have okw := cw_ok ho hl hL hA ⟨a1, by omega⟩ (u := u) ⟨by omega, by omega⟩ ecw
        have f5' : ∀ a q, ¬ rpm a q → μ5 a q = μ a q := fun a q y => (f5 a q (fun z => y (Or.inr z))).trans (f4' a q y)
        rw [ecw] at hcn
        dsimp only at hcn
        generalize RP fs A i bb (po ls u) = T at *
        unfold P_X12_steersOnce_97
        rw [if_neg (by decide)]
        have hF5 : MF μ5 fs := hF.fr (fun a ha k => f5' _ _ (by unfold rpm fr20; omega)) (f5' _ _ (by unfold rpm fr20; omega))
        refine s_differenceOf ho hF5 (by omega) (by omega) t5 (hSl'.ex (f5' _ _ (by unfold rpm fr20; omega)) (fun _ _ _ => f5' _ _ (by unfold rpm fr20; omega))) okw.1 hS okw.2 lS (fun μ6 f6 => ?_)
        have f6' : ∀ a q, ¬ rpm a q → μ6 a q = μ a q := fun a q y => (f6 a q (by unfold rpm at y; omega) (by unfold rpm at y; omega)).trans (f5' a q y)
        refine ifb (fun y => skip ?_ μ6 f6') (fun y => ?_)
        · rw [← hg, hcn, if_neg (by omega)]
        · have hsm : g (16 * i + u) = some T := by rw [← hg, hcn, if_pos (by omega)]
          rw [fi_s (by omega) hsm] at b4
          refine s_copies (s := 20) (d := s) (by omega) (by omega) (by omega) (t5.ex (f6 _ _ (by omega) (by omega)) (fun _ _ _ => f6 _ _ (by omega) (by omega))) (by have := okw.2; omega) (fun μ7 f7 t7 => ⟨by omega, ⟨by omega, by omega⟩, by omega, ⟨by omega, by omega⟩, Or.inr rfl, ?_⟩)
          have := h1 _ _ b4.symm (z_upd μ7 248 36 (100 * (u / 2) + u % 2)) (fun a q y1 y2 y3 y4 => ?_) (t7.ex (zu_n (by decide)) (fun _ _ _ => zu_n (by decide))) (by rw [zu_s]; omega)
          · exact this
          · rw [zu_f y2, f7 a q y3 y4]; exact f6' a q y1
      refine ifb (fun g3 => ⟨⟨by omega, by omega⟩, main _ (by omega)⟩) (fun g3 => ⟨⟨by omega, by omega⟩, main _ (by omega)⟩)
/-! notes -/
def an (nt : List (Int × Int)) (k v : Int) : List (Int × Int) := if nt.length < 99 then nt ++ [(k, v)] else nt
theorem map_push1 {nt : List (Int × Int)} {k v : Int} : (nt ++ [(k, v)]).map Prod.fst = nt.map Prod.fst ++ [k] := by simp
theorem map_push2 {nt : List (Int × Int)} {k v : Int} : (nt ++ [(k, v)]).map Prod.snd = nt.map Prod.snd ++ [v] := by simp
theorem s_notesIt {k v : Int} {nt : List (Int × Int)} {μ : ZM} {K : ZM → Prop} (hN : MN μ nt) (h : ∀ μ', (∀ a q, ¬ (a = 248 ∧ q = 39) → a ≠ 270 → a ≠ 271 → μ' a q = μ a q) → MN μ' (an nt k v) → K μ') : P_X12_notesIt k v μ K := by
  obtain ⟨n1, n2, n3, n4⟩ := id hN
  unfold P_X12_notesIt
  rw [n1]
  unfold an at h
  refine ifb (fun g => ?_) (fun g => ?_)
  · rw [if_neg (by omega)] at h
    exact h μ (fun _ _ _ _ _ => rfl) hN
  · rw [if_pos (by omega)] at h
    simp only [z_wr, zu_n (show (248 : Int) ≠ 270 by decide), zu_n (show (248 : Int) ≠ 271 by decide)]
    rw [n1]
    refine ⟨by omega, by omega, ⟨by omega, by omega⟩, h _ (fun a q y1 y2 y3 => ?_) ⟨?_, by simp; omega, ?_, ?_⟩⟩
    · rw [zu_f y1, zu_n y3, zu_n y2]
    · rw [zu_s]; simp
    · rw [map_push1]
      exact rp_push n3 (by rw [zu_n (by decide), zu_n (by decide), List.length_map, zu_s]) (fun i p1 p2 => by rw [List.length_map] at p2; rw [zu_n (by decide), zu_n (by decide), zu_k (by omega)])
    · rw [map_push2]
      exact rp_push n4 (by rw [zu_n (by decide), List.length_map, zu_s]) (fun i p1 p2 => by rw [List.length_map] at p2; rw [zu_n (by decide), zu_k (by omega), zu_n (by decide)])
theorem s_write7 {k v : Int} {nt : List (Int × Int)} {μ : ZM} {K : ZM → Prop} (hN : CN μ nt) (h : ∀ μ', (∀ a q, ¬ (a = 240 ∧ q = 3) → a ≠ 241 → a ≠ 242 → μ' a q = μ a q) → CN μ' (an nt k v) → K μ') : P_X7_write k v μ K := by
  obtain ⟨n1, n2, n3, n4⟩ := id hN
  unfold P_X7_write
  rw [n1]
  unfold an at h
  refine ifb (fun g => absurd g (by omega)) (fun _ => ifb (fun g => ?_) (fun g => ?_))
  · rw [if_neg (by omega)] at h
    exact h μ (fun _ _ _ _ _ => rfl) hN
  · rw [if_pos (by omega)] at h
    simp only [z_wr, zu_n (show (240 : Int) ≠ 241 by decide), zu_n (show (240 : Int) ≠ 242 by decide)]
    rw [n1]
    refine ⟨by omega, by omega, ⟨by omega, by omega⟩, h _ (fun a q y1 y2 y3 => ?_) ⟨?_, by simp; omega, ?_, ?_⟩⟩
    · rw [zu_f y1, zu_n y3, zu_n y2]
    · rw [zu_s]; simp
    · rw [map_push1]
      exact rp_push n3 (by rw [zu_n (by decide), zu_n (by decide), List.length_map, zu_s]) (fun i p1 p2 => by rw [List.length_map] at p2; rw [zu_n (by decide), zu_n (by decide), zu_k (by omega)])
    · rw [map_push2]
      exact rp_push n4 (by rw [zu_n (by decide), List.length_map, zu_s]) (fun i p1 p2 => by rw [List.length_map] at p2; rw [zu_n (by decide), zu_k (by omega), zu_n (by decide)])
