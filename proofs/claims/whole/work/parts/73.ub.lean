def bl (fs : List Fn) (A : List Int) (μ : ZM) (b : Int → Int) : Prop := ∀ v : Int, 0 ≤ v → v ≤ 2 → μ 268 v = b v ∧ (b v ≠ -9 → μ 269 v = en fs A (b v) - b v)
theorem s_matchesM {fs : List Fn} {s s' i fx : Int} {P A : List Int} {μ : ZM} {K : Int → ZM → Prop} (ho : okF fs) (hF : MF μ fs) (hs : 0 ≤ s ∧ s < 44) (hs' : 0 ≤ s' ∧ s' < 44) (hS : Sl μ s P) (hS' : Sl μ s' A) (hA : okT fs A) (lP : P.length ≤ 40) (lA : A.length ≤ 40) (hcP : ∀ c ∈ P, 0 ≤ c ∧ c ≤ 122) (hi : 0 ≤ i ∧ i < (A.length : Int)) (h0 : mt fs A fx P i b9 = none → ∀ μ', (∀ a k, a ≠ 268 → a ≠ 269 → μ' a k = μ a k) → K 0 μ') (h1 : ∀ b, mt fs A fx P i b9 = some b → ∀ μ', (∀ a k, a ≠ 268 → a ≠ 269 → μ' a k = μ a k) → bl fs A μ' b → K 1 μ') : P_X12_matches s s' i fx μ K := by
  generalize hR : mt fs A fx P i b9 = R at *
  refine z_lf1_ind (fun v μ' => 0 ≤ v ∧ v ≤ 3 ∧ (∀ a k, a ≠ 268 → μ' a k = μ a k) ∧ ∀ q : Int, 0 ≤ q → q < v → μ' 268 q = -9) (fun v _ => (3 - v).toNat) ?_ 0 μ ⟨by omega, by omega, fun _ _ _ => rfl, fun q p1 p2 => absurd p2 (by omega)⟩
  intro v0 μ0 G0 ⟨a1, a2, a3, a4⟩ hG0
  refine ifb (fun g0 => ?_) (fun g0 => ⟨by omega, ⟨by omega, by omega⟩, hG0 _ _ ⟨by omega, by omega, fun a k q => (zu_n q).trans (a3 a k q), fun q p1 p2 => ?_⟩ (by omega)⟩)
  · refine z_lf2_ind (fun j k μ' => ∃ b, 0 ≤ j ∧ 0 ≤ k ∧ k ≤ (P.length : Int) ∧ (∀ a q, a ≠ 268 → a ≠ 269 → μ' a q = μ a q) ∧ bl fs A μ' b ∧ okB A b ∧ mt fs A fx (P.drop k.toNat) j b = R) (fun j k _ => ((P.length : Int) - k).toNat) ?_ i 0 μ0 ⟨b9, by omega, by omega, by omega, fun a q p _ => a3 a q p, fun v p1 p2 => ⟨a4 v p1 (by omega), fun q => absurd rfl q⟩, fun v => Or.inl rfl, hR⟩
    intro j k μ' G ⟨b, e1, e2, e3, e4, e5, e6, e7⟩ hG
    have hSp : Sl μ' s P := hS.ex (e4 _ _ (by omega) (by omega)) (fun _ _ _ => e4 _ _ (by omega) (by omega))
    have hSa : Sl μ' s' A := hS'.ex (e4 _ _ (by omega) (by omega)) (fun _ _ _ => e4 _ _ (by omega) (by omega))
    have hF' : MF μ' fs := hF.fr (fun a ha k => e4 _ _ (by omega) (by omega)) (e4 _ _ (by omega) (by omega))
    rw [hSp.1]
    refine ⟨hs, ifb (fun g => ?_) (fun g => ?_)⟩
    · rw [mt_nil g] at e7
      exact ⟨Or.inr rfl, h1 b e7.symm μ' e4 e5⟩
    rw [mt_s ⟨e2, by omega⟩] at e7
    have hcb := hcP (gt P k) (mem_gt.mpr ⟨k, e2, by omega, rfl⟩)
    refine s_atT hs hSp (by omega) ⟨e2, by omega⟩ ?_
    rw [hSa.1]
    refine ⟨hs', ifb (fun g1 => ?_) (fun g1 => ?_)⟩
    · rw [if_neg (by omega)] at e7
      have hjj : 0 ≤ j ∧ j < (A.length : Int) := ⟨e1, g1⟩
      have bd := en_bd (fs := fs) hjj
      generalize gt P k = c at *
      have plain : ¬ isv c fx → P_X12_matches_110 G s s' fx j k c μ' K := by
        intro q
        rw [if_neg q] at e7
        refine s_atT hs' hSa (by omega) hjj (ifb (fun g2 => ?_) (fun g2 => ?_))
        · rw [if_pos g2] at e7
          exact ⟨⟨by omega, by omega⟩, ⟨by omega, by omega⟩, hG _ _ _ ⟨b, by omega, by omega, by omega, e4, e5, e6, e7⟩ (by omega)⟩
        · rw [if_neg g2] at e7
          exact ⟨Or.inl rfl, h0 e7.symm μ' e4⟩
      refine s_isVar (fun g2 => if1 ⟨⟨by omega, by omega⟩, ifb (fun g3 => plain (fun q => q.2.2 g3)) (fun g3 => ⟨⟨by omega, by omega⟩, ?_⟩)⟩) (fun g2 => if0 (plain (fun q => g2 ⟨q.1, q.2.1⟩)))
      rw [if_pos ⟨g2.1, g2.2, g3⟩] at e7
      obtain ⟨ev, el⟩ := e5 (c - 120) (by omega) (by omega)
      have go : ∀ (μ2 : ZM) (b' : Int → Int), (∀ a q, a ≠ 268 → a ≠ 269 → μ2 a q = μ a q) → bl fs A μ2 b' → okB A b' → mt fs A fx (P.drop (k + 1).toNat) (en fs A j) b' = R → P_X12_end s' j μ2 (fun r10 μ9 => P_X12_matches_127 G s s' fx r10 k μ9 K) := by
        intro μ2 b' q1 q2 q3 q4
        refine s_end (T := A) ho (hF.fr (fun a ha k => q1 _ _ (by omega) (by omega)) (q1 _ _ (by omega) (by omega))) hs' (hS'.ex (q1 _ _ (by omega) (by omega)) (fun _ _ _ => q1 _ _ (by omega) (by omega))) hA (by omega) hjj ?_
        exact ⟨⟨by omega, by omega⟩, hG _ _ _ ⟨b', by omega, by omega, by omega, q1, q2, q3, q4⟩ (by omega)⟩
      refine s_end (T := A) ho hF' hs' hSa hA (by omega) hjj ⟨⟨by omega, by omega⟩, by omega, ?_⟩
      rw [ev]
      refine ifb (fun g5 => ⟨by omega, ⟨by omega, ⟨Or.inr rfl, if1 ?_⟩⟩⟩) (fun g5 => ⟨by omega, ?_⟩)
      · rw [if_pos g5] at e7
        refine go _ (ubd b (c - 120) j) (fun a q p1 p2 => (zu_n p2).trans ((zu_n p1).trans (e4 a q p1 p2))) (fun v p1 p2 => ?_) (okB_ubd e6 hjj) e7
        unfold ubd
        by_cases g6 : v = c - 120
        · rw [if_pos g6, g6, zu_n (by decide), zu_s, zu_s]
          exact ⟨rfl, fun _ => rfl⟩
        · rw [if_neg g6]
          refine ⟨?_, fun q => ?_⟩
          · rw [zu_k g6, zu_k g6]; exact (e5 v p1 p2).1
          · rw [zu_k g6, zu_k g6]; exact (e5 v p1 p2).2 q
      · rw [if_neg g5] at e7
        have hbv : 0 ≤ b (c - 120) ∧ b (c - 120) < (A.length : Int) := (e6 (c - 120)).resolve_left g5
        have bdv := en_bd (fs := fs) hbv
        have key := tl_eq (fs := fs) (A := A) (B := A) (i := b (c - 120)) (j := j) hbv.1 e1
        rw [el g5]
        have no : tl fs A (b (c - 120)) ≠ tl fs A j → ∀ μ2, μ2 = μ' → K 0 μ2 := by
          intro q μ2 q2
          subst q2
          rw [if_neg q] at e7
          exact h0 e7.symm _ e4
        refine ifb (fun g6 => ⟨by omega, s_isSamePart hs' hs' hSa hSa (by omega) (by omega) ⟨e1, by omega⟩ ⟨hbv.1, by omega⟩ (fun q => if1 ⟨Or.inr rfl, if1 ?_⟩) (fun q => if0 ⟨Or.inl rfl, if0 ⟨Or.inl rfl, no (fun p => ?_) _ rfl⟩⟩)⟩) (fun g6 => ⟨Or.inl rfl, if0 ⟨Or.inl rfl, no (fun p => g6 (key.mp p).1.symm) _ rfl⟩⟩)
        · rw [if_pos (key.mpr ⟨by omega, fun x p1 p2 => (q x p1 (by omega)).symm⟩)] at e7
          exact go μ' b e4 e5 e6 e7
        · exact q (fun x p1 p2 => ((key.mp p).2 x p1 (by omega)).symm)
    · rw [if_pos (by omega)] at e7
      exact ⟨Or.inl rfl, h0 e7.symm μ' e4⟩
  · by_cases eq : q = v0
    · rw [eq, zu_s]
    · rw [zu_k eq]; exact a4 q p1 (by omega)
/-! ===== replacing ===== -/
def r1 (fs : List Fn) (A : List Int) (b : Int → Int) (c : Int) : List Int := if 120 ≤ c ∧ c ≤ 122 ∧ b (c - 120) ≠ -9 then tl fs A (b (c - 120)) else [c]
def RQ (fs : List Fn) (A : List Int) (b : Int → Int) (Q : List Int) : List Int := Q.flatMap (r1 fs A b)
def RP (fs : List Fn) (A : List Int) (i : Int) (b : Int → Int) (Q : List Int) : List Int := A.take i.toNat ++ (RQ fs A b Q ++ A.drop (en fs A i).toNat)
theorem okT_tl {fs : List Fn} {A : List Int} {i : Int} (ho : okF fs) (hA : okT fs A) (hi : 0 ≤ i ∧ i < (A.length : Int)) : okT fs (tl fs A i) := by
  obtain ⟨k, hk, hp⟩ := pw_sfx hA hi
  rw [show k = 1 + (k - 1) by omega] at hp
  exact ⟨(pw_fe ho _ 1 (k - 1) (by omega) (by omega) hp).2, fun c hc => hA.2 c (List.mem_of_mem_drop (List.mem_of_mem_take hc))⟩
theorem pw_RQ {fs : List Fn} {A : List Int} {b : Int → Int} (ho : okF fs) (hl : fs.length ≤ 6) (hA : okT fs A) (hb : okB A b) : ∀ {Q : List Int} {k : Int}, pw fs k Q → pw fs k (RQ fs A b Q)
  | [], k, h => h
  | c :: Q, k, h => by
    have hk := h.1
    have ih := pw_RQ ho hl hA hb h.2
    have hap := arf_pos ho c
    show pw fs k (r1 fs A b c ++ RQ fs A b Q)
    unfold r1
    by_cases g : 120 ≤ c ∧ c ≤ 122 ∧ b (c - 120) ≠ -9
    · rw [if_pos g]
      rw [arf_w hl g.1] at ih
      have := pw_cat (by omega) (okT_tl ho hA ((hb (c - 120)).resolve_left g.2.2)).1 ih
      rw [show 1 + (k - 1 + 0) = k by omega] at this
      exact this
    · rw [if_neg g]
      exact ⟨hk, ih⟩
theorem okT_RP {fs : List Fn} {A Q : List Int} {i : Int} {b : Int → Int} (ho : okF fs) (hl : fs.length ≤ 6) (hA : okT fs A) (hQ : okT fs Q) (hb : okB A b) (hi : 0 ≤ i ∧ i < (A.length : Int)) : okT fs (RP fs A i b Q) := by
  have bd := en_bd (fs := fs) hi
  refine ⟨?_, fun c hc => ?_⟩
  · have h1 := hA.1
    rw [← List.take_append_drop i.toNat A] at h1
    obtain ⟨q1, q2⟩ := pw_app2 h1
    generalize hk : pn fs 1 (A.take i.toNat) = k at q2
    have hk1 : 1 ≤ k := by rw [drop_gt hi] at q2; exact q2.1
    rw [show k = 1 + (k - 1) by omega] at q2
    have h2 := (pw_fe ho _ 1 (k - 1) (by omega) (by omega) q2).1
    rw [List.drop_drop] at h2
    have e : i.toNat + (fe fs 1 (A.drop i.toNat)).toNat = (en fs A i).toNat := by
      unfold en
      have := fe_bd (fs := fs) (A.drop i.toNat) 1
      omega
    rw [e] at h2
    have h3 := pw_cat (by omega) (pw_RQ ho hl hA hb hQ.1) h2
    rw [show 1 + (k - 1) = k by omega, ← hk] at h3
    unfold RP
    rw [pw_iff] at h3 ⊢
    rw [pk_app, pn_app]
    exact ⟨⟨q1, h3.1⟩, h3.2⟩
  · unfold RP at hc
    rcases List.mem_append.mp hc with q | q
    · exact hA.2 c (List.mem_of_mem_take q)
    · rcases List.mem_append.mp q with q | q
      · obtain ⟨x, w1, w2⟩ := List.mem_flatMap.mp q
        unfold r1 at w2
        by_cases g : 120 ≤ x ∧ x ≤ 122 ∧ b (x - 120) ≠ -9
        · rw [if_pos g] at w2
          exact (okT_tl ho hA ((hb (x - 120)).resolve_left g.2.2)).2 c w2
        · rw [if_neg g] at w2
          rw [List.mem_singleton.mp w2]; exact hQ.2 x w1
      · exact hA.2 c (List.mem_of_mem_drop q)
theorem RP_len {fs : List Fn} {A Q : List Int} {i : Int} {b : Int → Int} (hi : 0 ≤ i ∧ i < (A.length : Int)) : ((RP fs A i b Q).length : Int) = i + ((RQ fs A b Q).length : Int) + ((A.length : Int) - en fs A i) := by
  have bd := en_bd (fs := fs) hi
  unfold RP
  rw [List.length_append, List.length_append, List.length_take, List.length_drop]
  omega
theorem RQ_s {fs : List Fn} {A Q : List Int} {b : Int → Int} {k : Int} (h : 0 ≤ k ∧ k < (Q.length : Int)) : RQ fs A b (Q.take (k + 1).toNat) = RQ fs A b (Q.take k.toNat) ++ r1 fs A b (gt Q k) := by
  rw [take_s1 h]
  unfold RQ
  rw [List.flatMap_append]
  simp
theorem RQ_le {fs : List Fn} {A Q : List Int} {b : Int → Int} {k : Nat} : (RQ fs A b (Q.take k)).length ≤ (RQ fs A b Q).length := by
  conv => rhs; rw [← List.take_append_drop k Q]
  unfold RQ
  rw [List.flatMap_append, List.length_append]
  omega
