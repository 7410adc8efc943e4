theorem sT_s {v b : Int} {k : Nat} {T : List Int} {i : Int} (h : 0 ≤ i ∧ i < (T.length : Int)) : sT v b k (T.take (i + 1).toNat) = sT v b k (T.take i.toNat) ++ sv v b k (gt T i) := by
  rw [take_s1 h]
  unfold sT
  rw [List.flatMap_append]
  simp
theorem s_takesCase {w L v c d : Int} {T : List Int} {μ : ZM} {K : ZM → Prop} (hL : 0 ≤ L ∧ L ≤ 2) (hw : 0 ≤ w ∧ w ≤ 1) (h46 : μ 248 46 = L) (h273 : μ 273 L = v) (h272 : μ 272 L = c) (h274 : μ 274 L = d) (hv : 0 ≤ v ∧ v ≤ 2) (hc : 0 ≤ c ∧ c ≤ 2) (hS : Sl μ (6 * L + 4 + w) T) (lT : T.length ≤ 40) (h : ∀ μ', (∀ a k, ¬ (a = 249 ∧ 128 * (24 + w) ≤ k ∧ k < 128 * (24 + w) + 128) → ¬ (a = 250 ∧ k = 24 + w) → μ' a k = μ a k) → Sl μ' (24 + w) (sbx v c (if c = d then 1 else 0) T) → K μ') : P_X12_takesCase w μ K := by
  refine s_slot h46 (by omega) (by omega) hw ?_
  rw [h46, h273, h272, h274]
  have main : ∀ o : Int, o = (if c = d then 1 else 0) → P_X12_takesCase_52 (6 * L + 4 + w) (24 + w) (120 + v) o μ K := by
    intro o hoo
    rw [← hoo] at h
    have es : sbx v c o T = sT (120 + v) (if o = 0 then 90 else 120 + v) c.toNat T := by unfold sbx; rw [if_neg (by omega)]
    rw [es] at h
    have hb : ∀ T' : List Int, ((sT (120 + v) (if o = 0 then 90 else 120 + v) c.toNat T').length : Int) ≤ 3 * (T'.length : Int) := fun T' => by
      have := sT_len (v := 120 + v) (b := if o = 0 then 90 else 120 + v) (j := c.toNat) (by omega) T'
      omega
    refine ⟨by omega, ?_⟩
    show P_X12_takesCase_64 (6 * L + 4 + w) (24 + w) (120 + v) o 0 (z_upd μ 250 (24 + w) 0) K
    refine z_lf1_ind (fun i μ' => 0 ≤ i ∧ i ≤ (T.length : Int) ∧ Sl μ' (24 + w) (sT (120 + v) (if o = 0 then 90 else 120 + v) c.toNat (T.take i.toNat)) ∧ ∀ a k, ¬ (a = 249 ∧ 128 * (24 + w) ≤ k ∧ k < 128 * (24 + w) + 128) → ¬ (a = 250 ∧ k = 24 + w) → μ' a k = μ a k) (fun i _ => ((T.length : Int) - i).toNat) ?_ 0 _ ⟨by omega, by omega, ⟨zu_s, fun k p1 p2 => absurd p2 (by simp [sT]; omega)⟩, fun a k _ q => zu_f q⟩
    intro i μ1 G ⟨a1, a2, a3, a4⟩ hG
    have hS1 : Sl μ1 (6 * L + 4 + w) T := hS.ex (a4 _ _ (by omega) (by omega)) (fun k p1 p2 => a4 _ _ (by omega) (by omega))
    rw [hS1.1]
    refine ⟨by omega, ifb (fun g => h μ1 a4 ?_) (fun g => ?_)⟩
    · rw [List.take_of_length_le (show T.length ≤ i.toNat by omega)] at a3; exact a3
    · have hi : 0 ≤ i ∧ i < (T.length : Int) := ⟨a1, by omega⟩
      have hs := sT_s (v := 120 + v) (b := if o = 0 then 90 else 120 + v) (k := c.toNat) hi
      have hlen := hb (T.take i.toNat)
      rw [List.length_take] at hlen
      refine s_atT (by omega) hS1 (by omega) hi ?_
      generalize sT (120 + v) (if o = 0 then 90 else 120 + v) c.toNat (T.take i.toNat) = acc at *
      have put : ∀ (x : Int) (μ2 : ZM) (P : List Int), P.length ≤ 2 → Sl μ2 (24 + w) (acc ++ P) → (∀ a k, ¬ (a = 249 ∧ 128 * (24 + w) ≤ k ∧ k < 128 * (24 + w) + 128) → ¬ (a = 250 ∧ k = 24 + w) → μ2 a k = μ a k) → P ++ [x] = sv (120 + v) (if o = 0 then 90 else 120 + v) c.toNat (gt T i) → P_X12_takesCase_153 G (6 * L + 4 + w) (24 + w) (120 + v) o i (24 + w) x μ2 K := by
        intro x μ2 P q0 q1 q2 q3
        refine s_puts (by omega) q1 (by rw [List.length_append]; omega) (fun μ3 f3 t3 => ⟨⟨by omega, by omega⟩, hG _ _ ⟨by omega, by omega, ?_, fun a k y1 y2 => ?_⟩ (by omega)⟩)
        · rw [hs, ← q3, ← List.append_assoc]; exact t3
        · rw [f3 a k (by rw [List.length_append]; omega) y2]; exact q2 a k y1 y2
      have at146 : ∀ (μ2 : ZM) (P : List Int), P.length ≤ 2 → Sl μ2 (24 + w) (acc ++ P) → (∀ a k, ¬ (a = 249 ∧ 128 * (24 + w) ≤ k ∧ k < 128 * (24 + w) + 128) → ¬ (a = 250 ∧ k = 24 + w) → μ2 a k = μ a k) → P ++ [gt T i] = sv (120 + v) (if o = 0 then 90 else 120 + v) c.toNat (gt T i) → P_X12_takesCase_146 G (6 * L + 4 + w) (24 + w) (120 + v) o i (24 + w) μ2 K := by
        intro μ2 P q0 q1 q2 q3
        exact s_atT (by omega) (hS.ex (q2 _ _ (by omega) (by omega)) (fun k p1 p2 => q2 _ _ (by omega) (by omega))) (by omega) hi (put _ μ2 P q0 q1 q2 q3)
      refine ifb (fun g1 => ?_) (fun g1 => ?_)
      · -- the variable
        refine z_lf1_ind (fun x μ2 => 0 ≤ x ∧ x ≤ c ∧ Sl μ2 (24 + w) (acc ++ List.replicate x.toNat 83) ∧ ∀ a k, ¬ (a = 249 ∧ 128 * (24 + w) ≤ k ∧ k < 128 * (24 + w) + 128) → ¬ (a = 250 ∧ k = 24 + w) → μ2 a k = μ a k) (fun x _ => (c - x).toNat) ?_ 0 μ1 ⟨by omega, by omega, by show Sl μ1 (24 + w) (acc ++ []); rw [List.append_nil]; exact a3, a4⟩
        intro x μ2 G2 ⟨b1, b2, b3, b4⟩ hG2
        have esv : sv (120 + v) (if o = 0 then 90 else 120 + v) c.toNat (gt T i) = List.replicate c.toNat 83 ++ [if o = 0 then 90 else 120 + v] := by unfold sv; rw [if_pos g1]
        have l46 : μ2 248 46 = L := (b4 _ _ (by omega) (by omega)).trans h46
        rw [l46, show μ2 272 L = c from (b4 _ _ (by omega) (by omega)).trans h272]
        refine ⟨by omega, ifb (fun g2 => ?_) (fun g2 => ifb (fun g3 => absurd g3 (by decide)) (fun _ => s_puts (by omega) b3 (by rw [List.length_append, List.length_replicate]; omega) (fun μ3 f3 t3 => ⟨⟨by omega, by omega⟩, hG2 _ _ ⟨by omega, by omega, ?_, fun a k y1 y2 => ?_⟩ (by omega)⟩)))⟩
        · have ex : x = c := by omega
          subst ex
          unfold P_X12_takesCase_129
          rw [if_neg (by decide)]
          refine ifb (fun g3 => put 90 μ2 _ (by rw [List.length_replicate]; omega) b3 b4 ?_) (fun g3 => at146 μ2 _ (by rw [List.length_replicate]; omega) b3 b4 ?_)
          · rw [esv, if_pos g3]
          · rw [esv, if_neg g3, g1]
        · rw [show (x + 1).toNat = x.toNat + 1 by omega, List.replicate_succ', ← List.append_assoc]; exact t3
        · rw [f3 a k (by rw [List.length_append, List.length_replicate]; omega) y2]; exact b4 a k y1 y2
      · have esv : sv (120 + v) (if o = 0 then 90 else 120 + v) c.toNat (gt T i) = [gt T i] := by unfold sv; rw [if_neg g1]
        refine z_lf1_ind (fun x μ2 => x = 0 ∧ μ2 = μ1) (fun _ _ => 0) ?_ 0 μ1 ⟨rfl, rfl⟩
        intro x μ2 G2 ⟨b1, b2⟩ hG2
        subst b2
        have l46 : μ2 248 46 = L := (a4 _ _ (by omega) (by omega)).trans h46
        have last : P_X12_takesCase_129 G (6 * L + 4 + w) (24 + w) (120 + v) o i 0 μ2 K := by
          unfold P_X12_takesCase_129
          rw [if_pos rfl]
          exact at146 μ2 [] (by simp) (by rw [List.append_nil]; exact a3) a4 (by rw [esv]; rfl)
        exact ⟨by omega, ifb (fun _ => last) (fun _ => ifb (fun _ => last) (fun q => absurd rfl q))⟩
  refine ⟨⟨by omega, by omega⟩, by omega, ⟨by omega, by omega⟩, by omega, by omega, ifb (fun g => main 1 (by rw [if_pos g])) (fun g => main 0 (by rw [if_neg g]))⟩
theorem s_normalGoal {fs : List Fn} {L : Int} {G : Cm} {μ : ZM} {K : Int → ZM → Prop} (ho : okF fs) (hF : MF μ fs) (hL : 0 ≤ L ∧ L ≤ 2) (h46 : μ 248 46 = L) (hG : S2 μ (6 * L + 6) G) (o1 : okT fs G.1) (o2 : okT fs G.2) (l1 : G.1.length ≤ 120) (l2 : G.2.length ≤ 120) (h0 : nm2 fs G = none → ∀ μ', (∀ a k, ¬ scM a k → ¬ s2c (6 * L + 6) a k → μ' a k = μ a k) → K 0 μ') (h1 : ∀ G', nm2 fs G = some G' → ∀ μ', (∀ a k, ¬ scM a k → ¬ s2c (6 * L + 6) a k → μ' a k = μ a k) → S2 μ' (6 * L + 6) G' → K 1 μ') : P_X12_normalGoal μ K := by
  have hl := hF.2.1
  refine s_slot h46 (by omega) (by omega) (by omega) (s_copies (T := G.1) (by omega) (by omega) (by omega) (by rw [show 6 * L + 6 + 0 = 6 * L + 6 by omega]; exact hG.1) (by omega) (fun μ1 f1 t1 => ?_))
  have c1 : μ1 248 46 = L := (f1 _ _ (by omega) (by omega)).trans h46
  refine s_slot c1 (by omega) (by omega) (by omega) (s_copies (T := G.2) (by omega) (by omega) (by omega) (hG.2.ex (f1 _ _ (by omega) (by omega)) (fun k p1 p2 => f1 _ _ (by omega) (by omega))) (by omega) (fun μ2 f2 t2 => ?_))
  have c2 : μ2 248 46 = L := (f2 _ _ (by omega) (by omega)).trans c1
  have fr2 : ∀ a k, ¬ scM a k → μ2 a k = μ a k := fun a k y => (f2 a k (by unfold scM at y; omega) (by unfold scM at y; omega)).trans (f1 a k (by unfold scM at y; omega) (by unfold scM at y; omega))
  have t1' : Sl μ2 24 G.1 := t1.ex (f2 _ _ (by omega) (by omega)) (fun k p1 p2 => f2 _ _ (by omega) (by omega))
  have hF2 : MF μ2 fs := hF.fr (fun a ha k => fr2 _ _ (by unfold scM; omega)) (fr2 _ _ (by unfold scM; omega))
  unfold nm2 at h0 h1
  refine s_slot c2 (by omega) (by omega) (by omega) (s_makesNormal ho hF2 (by omega) (by omega) t1' o1 l1 (fun hn μ3 f3 => if0 ⟨Or.inl rfl, h0 (by rw [hn]) μ3 (fun a k y1 y2 => (f3 a k (by unfold scM at y1; unfold nvm; omega)).trans (fr2 a k y1))⟩) (fun V hn μ3 f3 t3 => if1 ?_))
  rw [hn] at h0 h1
  dsimp only at h0 h1
  have c3 : μ3 248 46 = L := (f3 _ _ (by unfold nvm; omega) (by omega) (by omega)).trans c2
  have t2' : Sl μ3 25 G.2 := t2.ex (f3 _ _ (by unfold nvm; omega) (by omega) (by omega)) (fun k p1 p2 => f3 _ _ (by unfold nvm; omega) (by omega) (by omega))
  have fr3 : ∀ a k, ¬ scM a k → ¬ s2c (6 * L + 6) a k → μ3 a k = μ a k := fun a k y1 y2 => (f3 a k (by unfold scM at y1; unfold nvm; omega) (by unfold s2c at y2; omega) (by unfold s2c at y2; omega)).trans (fr2 a k y1)
  have gV1 := nm_ok ho hl o1 l1 hn
  refine s_slot c3 (by omega) (by omega) (by omega) (s_makesNormal ho (hF.fr (fun a ha k => fr3 _ _ (by unfold scM; omega) (by unfold s2c; omega)) (fr3 _ _ (by unfold scM; omega) (by unfold s2c; omega))) (by omega) (by omega) t2' o2 l2 (fun hn2 μ4 f4 => if0 ⟨Or.inl rfl, h0 (by rw [hn2]) μ4 (fun a k y1 y2 => (f4 a k (by unfold scM at y1; unfold nvm; omega)).trans (fr3 a k y1 y2))⟩) (fun W hn2 μ4 f4 t4 => if1 ⟨Or.inr rfl, h1 (V, W) (by rw [hn2]) μ4 (fun a k y1 y2 => (f4 a k (by unfold scM at y1; unfold nvm; omega) (by unfold s2c at y2; omega) (by unfold s2c at y2; omega)).trans (fr3 a k y1 y2)) ⟨?_, t4⟩⟩))
  rw [show 6 * L + 6 + 0 = 6 * L + 6 by omega] at t3
  have := gV1.2
  exact t3.ex (f4 _ _ (by unfold nvm; omega) (by omega) (by omega)) (fun k p1 p2 => f4 _ _ (by unfold nvm; omega) (by omega) (by omega))
theorem s_usesClaim {fs : List Fn} {ls : Ls} {nt : Nt} {L v w : Int} {N G : Cm} {μ : ZM} {K : Int → ZM → Prop} (ho : okF fs) (hE : EnM μ fs ls nt) (hL : 0 ≤ L ∧ L ≤ 2) (hw : 0 ≤ w ∧ w ≤ 1) (hv : 0 ≤ v ∧ v ≤ 2) (h46 : μ 248 46 = L) (h273 : μ 273 L = v) (hN : S2 μ (6 * L + 4) N) (hG : S2 μ (6 * L + 6) G) (oN : okQ fs N) (oG : okQ fs G) (h0 : us1 fs v (gs N w) (gs N (1 - w)) (gs G w) = none → ∀ μ', (∀ a k, ¬ scM a k → μ' a k = μ a k) → K 0 μ') (h1 : us1 fs v (gs N w) (gs N (1 - w)) (gs G w) = some none → ∀ μ', (∀ a k, ¬ scM a k → μ' a k = μ a k) → K 3 μ') (h2 : ∀ T, us1 fs v (gs N w) (gs N (1 - w)) (gs G w) = some (some T) → ∀ μ', (∀ a k, ¬ scM a k → ¬ ntm a k → ¬ (a = 249 ∧ 128 * (6 * L + 6 + w) ≤ k ∧ k < 128 * (6 * L + 6 + w) + 128) → ¬ (a = 250 ∧ k = 6 * L + 6 + w) → μ' a k = μ a k) → Sl μ' (6 * L + 6 + w) T → EnM μ' fs ls (an nt 5 w) → K 1 μ') : P_X12_usesClaim w μ K := by
  have hl := hE.1.2.1
  have tP := gs_M hw hN.1 hN.2
  have tQ := gs_M (w := 1 - w) (by omega) hN.1 hN.2
  have tG := gs_M hw hG.1 hG.2
  obtain ⟨oP, lP⟩ := gs_ok (w := w) oN
  obtain ⟨oQ, lQ⟩ := gs_ok (w := 1 - w) oN
  obtain ⟨oT, lT⟩ := gs_ok (w := w) oG
  unfold us1 at h0 h1 h2
  generalize gs N w = P at *
  generalize gs N (1 - w) = Q at *
  generalize gs G w = T at *
  generalize hR : fm fs P T v T.length 0 = R at *
  refine s_slot h46 (by omega) (by omega) hw ?_
  refine z_lf1_ind (fun i μ' => 0 ≤ i ∧ i ≤ (T.length : Int) ∧ (∀ a k, ¬ scM a k → μ' a k = μ a k) ∧ fm fs P T v ((T.length : Int) - i).toNat i = R) (fun i _ => ((T.length : Int) - i).toNat) ?_ 0 μ ⟨by omega, by omega, fun _ _ _ => rfl, by rw [← hR]; congr 1⟩
  intro i μ1 G3 ⟨e1, e2, e3, e4⟩ hG3
  have tG1 : Sl μ1 (6 * L + 6 + w) T := tG.ex (e3 _ _ (by unfold scM; omega)) (fun k p1 p2 => e3 _ _ (by unfold scM; omega))
  have tP1 : Sl μ1 (6 * L + 4 + w) P := tP.ex (e3 _ _ (by unfold scM; omega)) (fun k p1 p2 => e3 _ _ (by unfold scM; omega))
  have tQ1 : Sl μ1 (6 * L + 4 + (1 - w)) Q := tQ.ex (e3 _ _ (by unfold scM; omega)) (fun k p1 p2 => e3 _ _ (by unfold scM; omega))
  have c1 : μ1 248 46 = L := (e3 _ _ (by unfold scM; omega)).trans h46
  have hE1 : EnM μ1 fs ls nt := hE.lo (fun a k y => e3 a k (fun z => y (Or.inl z)))
  rw [tG1.1]
  refine ⟨by omega, ifb (fun g => ?_) (fun g => s_slot c1 (by omega) (by omega) hw ?_)⟩
  · rw [show ((T.length : Int) - i).toNat = 0 by omega] at e4
    have e5 : R = none := e4.symm
    rw [e5] at h0
    exact h0 rfl μ1 e3
  · rw [show ((T.length : Int) - i).toNat = ((T.length : Int) - (i + 1)).toNat + 1 by omega] at e4
    unfold fm at e4
    rw [c1, show μ1 273 L = v from (e3 _ _ (by unfold scM; omega)).trans h273]
    refine ⟨by omega, s_matchesM ho hE1.1 (by omega) (by omega) tP1 tG1 oT lP lT (cv_122 hl oP) ⟨e1, by omega⟩ (fun hm μ2 f2 => if0 ⟨⟨by omega, by omega⟩, hG3 _ _ ⟨by omega, by omega, fun a k y => (f2 a k (by unfold scM at y; omega) (by unfold scM at y; omega)).trans (e3 a k y), ?_⟩ (by omega)⟩) (fun bb hm μ2 f2 hb => if1 ⟨⟨by omega, by omega⟩, ?_⟩)⟩
    · rw [hm] at e4; exact e4
    · rw [hm] at e4
      have e5 : R = some (i, bb) := e4.symm
      rw [e5] at h0 h1 h2
      dsimp only at h0 h1 h2
      have okb := mt_ok _ _ _ _ e1 b9_ok hm
      have fr2 : ∀ a k, ¬ scM a k → μ2 a k = μ a k := fun a k y => (f2 a k (by unfold scM at y; omega) (by unfold scM at y; omega)).trans (e3 a k y)
      refine s_slot ((f2 _ _ (by omega) (by omega)).trans c1) (by omega) (by omega) (by omega) ?_
      refine s_replacesM (b := bb) (Q := Q) ho (hE1.1.fr (fun a ha k => f2 _ _ (by omega) (by omega)) (f2 _ _ (by omega) (by omega))) (by omega) (by omega) (by omega) (by omega) (tG1.ex (f2 _ _ (by omega) (by omega)) (fun k _ _ => f2 _ _ (by omega) (by omega))) (tQ1.ex (f2 _ _ (by omega) (by omega)) (fun k _ _ => f2 _ _ (by omega) (by omega))) oT lQ lT okb hb ⟨e1, by omega⟩ (fun q => if0 (h1 (by rw [if_neg q]) μ2 fr2)) (fun q μ3 f3 t3 => if1 ?_)
      rw [if_pos q] at h2
      have fr3 : ∀ a k, ¬ scM a k → μ3 a k = μ a k := fun a k y => (f3 a k (by unfold scM at y; unfold fr20; omega)).trans (fr2 a k y)
      refine s_copies (s := 20) (by omega) (by omega) (by omega) t3 (by omega) (fun μ4 f4 t4 => ?_)
      have hE4 : EnM μ4 fs ls nt := hE.lo (fun a k y => (f4 a k (by unfold loM at y; omega) (by unfold loM at y; omega)).trans (fr3 a k (fun z => y (Or.inl z))))
      refine s_nI hE4 (fun μ5 f5 e5 => h2 _ rfl μ5 (fun a k y1 y2 y3 y4 => (f5 a k y2).trans ((f4 a k y3 y4).trans (fr3 a k y1))) (t4.ex (f5 _ _ (by unfold ntm; omega)) (fun k _ _ => f5 _ _ (by unfold ntm; omega))) e5)
