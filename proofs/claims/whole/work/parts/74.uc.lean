/-! the class replaces -/
theorem s_addRange {t t' f e : Int} {A acc : List Int} {μ : ZM} {K : Int → ZM → Prop} (ht : z_tm t) (ht' : z_tm t') (hne : t ≠ t') (hA : tx μ t' A) (lA : A.length ≤ 40) (ha1 : μ t 2 = (acc.length : Int)) (ha2 : rp (μ (t + 1)) acc) (hl : acc.length ≤ 40) (hf : 0 ≤ f ∧ f ≤ e ∧ e ≤ (A.length : Int)) (h0 : ¬ ((acc.length : Int) + (e - f) ≤ 40) → K 0 μ) (h1 : (acc.length : Int) + (e - f) ≤ 40 → ∀ μ', (∀ a k, a ≠ t + 1 → ¬ (a = t ∧ k = 2) → μ' a k = μ a k) → μ' t 2 = ((acc ++ (A.drop f.toNat).take (e - f).toNat).length : Int) → rp (μ' (t + 1)) (acc ++ (A.drop f.toNat).take (e - f).toNat) → K 1 μ') : P_X10_addRange t t' f e μ K := by
  have b1 := ht
  have b2 := ht'
  unfold z_tm at b1 b2
  have hll : (((A.drop f.toNat).take (e - f).toNat).length : Int) = e - f := by
    rw [List.length_take, List.length_drop]; omega
  unfold P_X10_addRange
  rw [hA.1, ha1]
  refine ⟨ht, ht', ⟨by omega, by omega⟩, ifb (fun g => absurd g (by omega)) (fun _ => ifb (fun g => absurd g (by omega)) (fun _ => ifb (fun g => absurd g (by omega)) (fun _ => ⟨⟨by omega, by omega⟩, ifb (fun g => ?_) (fun g => ⟨Or.inl rfl, h0 g⟩)⟩)))⟩
  simp only [z_wr]
  have e2 : z_cpy μ (t' + 1) f (t + 1) (acc.length : Int) (e - f) t 2 = (acc.length : Int) := by
    unfold z_cpy
    rw [if_neg (by omega)]; exact ha1
  rw [e2]
  refine ⟨⟨by omega, by omega, by omega, by omega, by omega⟩, ⟨by omega, by omega⟩, Or.inr rfl, h1 g _ (fun a k q1 q2 => ?_) ?_ ?_⟩
  · rw [zu_f q2]
    unfold z_cpy
    rw [if_neg (by omega)]
  · rw [zu_s, List.length_append]; omega
  · intro i p1 p2
    rw [zu_n (by omega), gt_app p1]
    unfold z_cpy
    by_cases q : i < (acc.length : Int)
    · rw [if_neg (by omega), if_pos q]; exact ha2 i p1 q
    · rw [List.length_append] at p2
      rw [if_pos (by omega), if_neg q, gt_take (by omega), gt_drop (by omega)]
      have := hA.2 (f + (i - (acc.length : Int))) (by omega) (by omega)
      rw [this]
      congr 1
      omega
theorem s_addL {t c : Int} {acc : List Int} {μ : ZM} {K : Int → ZM → Prop} (ht : z_tm t) (ha1 : μ t 2 = (acc.length : Int)) (ha2 : rp (μ (t + 1)) acc) (h0 : ¬ ((acc.length : Int) + 1 ≤ 40) → K 0 μ) (h1 : (acc.length : Int) + 1 ≤ 40 → ∀ μ', (∀ a k, a ≠ t + 1 → ¬ (a = t ∧ k = 2) → μ' a k = μ a k) → μ' t 2 = ((acc ++ [c]).length : Int) → rp (μ' (t + 1)) (acc ++ [c]) → K 1 μ') : P_X10_add t c μ K := by
  have b1 := ht
  unfold z_tm at b1
  by_cases g : (acc.length : Int) + 1 ≤ 40
  · refine s_add ht (by omega) (h1 g _ (fun a k q1 q2 => ?_) ?_ ?_)
    · rw [zu_f q2, zu_n q1]
    · rw [zu_s, ha1]; simp
    · rw [ha1]
      exact rp_push ha2 (by rw [zu_n (by omega), zu_s]) (fun i p1 p2 => by rw [zu_n (by omega), zu_k (by omega)])
  · unfold P_X10_add
    rw [ha1]
    exact ⟨ht, ifb (fun q => absurd q (by omega)) (fun _ => ifb (fun q => absurd q (by omega)) (fun _ => ⟨Or.inl rfl, h0 g⟩))⟩
theorem r1_len {fs : List Fn} {A : List Int} {b : Int → Int} {c : Int} (hb : okB A b) (lA : A.length ≤ 40) : ((r1 fs A b c).length : Int) ≤ 40 := by
  unfold r1
  by_cases g : 120 ≤ c ∧ c ≤ 122 ∧ b (c - 120) ≠ -9
  · rw [if_pos g]
    have hv := (hb (c - 120)).resolve_left g.2.2
    rw [tl_len hv.1]
    have := en_bd (fs := fs) hv
    omega
  · rw [if_neg g]; simp
theorem s_replaceC {fs : List Fn} {t t' t4 i : Int} {Q A : List Int} {b : Int → Int} {μ : ZM} {K : Int → ZM → Prop} (ho : okF fs) (hF : CF μ fs) (ht : z_tm t) (ht' : z_tm t') (ht4 : z_tm t4) (hne : t4 ≠ t) (hne' : t4 ≠ t') (ht2 : ¬ (113 ≤ t4 ∧ t4 ≤ 168)) (hT : Tm μ fs t Q) (hT' : Tm μ fs t' A) (hQ : okT fs Q) (hA : okT fs A) (lQ : Q.length ≤ 40) (lA : A.length ≤ 40) (hb : okB A b) (hbm : ∀ v : Int, 0 ≤ v → v ≤ 2 → μ 237 v = b v) (hi : 0 ≤ i ∧ i < (A.length : Int)) (h0 : ¬ (RP fs A i b Q).length ≤ 40 → ∀ μ', (∀ a k, a ≠ t4 → a ≠ t4 + 1 → a ≠ t4 + 2 → μ' a k = μ a k) → K 0 μ') (h1 : (RP fs A i b Q).length ≤ 40 → ∀ μ', (∀ a k, a ≠ t4 → a ≠ t4 + 1 → a ≠ t4 + 2 → μ' a k = μ a k) → Tm μ' fs t4 (RP fs A i b Q) → K 1 μ') : P_X5_replace t t' i t4 μ K := by
  have b1 := ht
  have b2 := ht'
  have b4 := ht4
  unfold z_tm at b1 b2 b4
  have hl := hF.2.1
  have bd := en_bd (fs := fs) hi
  have hRl := RP_len (fs := fs) (b := b) (Q := Q) hi
  unfold P_X5_replace
  rw [hT'.1]
  refine ⟨ht, ht', ht4, ifb (fun g => absurd g (by omega)) (fun _ => ifb (fun _ => ⟨ht4, ?_⟩) (fun g => absurd hi.2 g))⟩
  show P_X10_addRange t4 t' 0 i (z_upd μ t4 2 0) (fun r3 μ2 => P_X5_replace_32 t t' i t4 r3 0 μ2 K)
  have hA0 : tx (z_upd μ t4 2 0) t' A := ⟨by rw [zu_n (by omega)]; exact hT'.1, hT'.2.1.ex (fun k _ _ => zu_n (by omega))⟩
  refine s_addRange (acc := []) ht4 ht' hne' hA0 lA zu_s (fun k p1 p2 => absurd p2 (by simp; omega)) (by simp) ⟨by omega, by omega, by omega⟩ (fun g => absurd (by simp; omega) g) (fun _ μ1 e1 a1 a2 => ?_)
  have eT : ([] : List Int) ++ (A.drop (0 : Int).toNat).take (i - 0).toNat = A.take i.toNat := by
    rw [List.nil_append, show (i - 0).toNat = i.toNat by omega]; rfl
  rw [eT] at a1 a2
  have e1' : ∀ a k, a ≠ t4 → a ≠ t4 + 1 → a ≠ t4 + 2 → μ1 a k = μ a k := fun a k q1 q2 q3 => (e1 a k q2 (by omega)).trans (zu_n q1)
  have last : ∀ (μ2 : ZM) (fits : Int), (∀ a k, a ≠ t4 → a ≠ t4 + 1 → a ≠ t4 + 2 → μ2 a k = μ a k) → ((fits = 0 ∧ ¬ (RP fs A i b Q).length ≤ 40) ∨ (fits = 1 ∧ μ2 t4 2 = ((A.take i.toNat ++ RQ fs A b Q).length : Int) ∧ rp (μ2 (t4 + 1)) (A.take i.toNat ++ RQ fs A b Q) ∧ (A.take i.toNat ++ RQ fs A b Q).length ≤ 40)) → P_X5_replace_134 t' i t4 fits μ2 K := by
    intro μ2 fits q1 q2
    rcases q2 with ⟨q2, q3⟩ | ⟨q2, q3, q4, q5⟩
    · subst q2
      unfold P_X5_replace_134 P_X5_replace_162 P_X5_replace_163
      rw [if_pos rfl, if_pos rfl]
      exact ⟨Or.inl rfl, h0 q3 μ2 q1⟩
    · subst q2
      unfold P_X5_replace_134
      rw [if_neg (by decide)]
      rw [show μ2 (t' + 2) i = en fs A i from (q1 _ _ (by omega) (by omega) (by omega)).trans (hT'.2.2 i hi.1 hi.2), show μ2 t' 2 = (A.length : Int) from (q1 _ _ (by omega) (by omega) (by omega)).trans hT'.1]
      have hll : ((A.take i.toNat ++ RQ fs A b Q).length : Int) = i + ((RQ fs A b Q).length : Int) := by rw [List.length_append, List.length_take]; omega
      refine ⟨by omega, s_addRange ht4 ht' hne' ⟨(q1 _ _ (by omega) (by omega) (by omega)).trans hT'.1, hT'.2.1.ex (fun k _ _ => q1 _ _ (by omega) (by omega) (by omega))⟩ lA q3 q4 q5 ⟨by omega, by omega, by omega⟩ (fun g => ?_) (fun g μ3 e3 a3 a4 => ?_)⟩
      · unfold P_X5_replace_162 P_X5_replace_163
        rw [if_pos rfl, if_pos rfl]
        exact ⟨Or.inl rfl, h0 (by omega) μ2 q1⟩
      · have eT2 : (A.take i.toNat ++ RQ fs A b Q) ++ (A.drop (en fs A i).toNat).take ((A.length : Int) - en fs A i).toNat = RP fs A i b Q := by
          unfold RP
          have hdt : (A.drop (en fs A i).toNat).take ((A.length : Int) - en fs A i).toNat = A.drop (en fs A i).toNat := List.take_of_length_le (by rw [List.length_drop]; omega)
          rw [hdt, List.append_assoc]
        rw [eT2] at a3 a4
        unfold P_X5_replace_163
        rw [if_neg (by decide), if_neg (by decide)]
        have e3' : ∀ a k, a ≠ t4 → a ≠ t4 + 1 → a ≠ t4 + 2 → μ3 a k = μ a k := fun a k p1 p2 p3 => (e3 a k p2 (by omega)).trans (q1 a k p1 p2 p3)
        have okR := okT_RP ho hl hA hQ hb hi
        refine s_close ho (hF.fr (fun a ha k => e3' _ _ (by omega) (by omega) (by omega)) (e3' _ _ (by omega) (by omega) (by omega))) ht4 a3 a4 (by omega) (fun k p1 p2 => cv_bd hl okR.2 p1 p2) (fun μ4 e4 t4' => ⟨Or.inr rfl, h1 (by omega) μ4 (fun a k p1 p2 p3 => (e4 a k p3).trans (e3' a k p1 p2 p3)) t4'⟩)
  refine z_lf2_ind (fun fits k μ' => 0 ≤ k ∧ k ≤ (Q.length : Int) ∧ (∀ a q, a ≠ t4 → a ≠ t4 + 1 → a ≠ t4 + 2 → μ' a q = μ a q) ∧ ((fits = 0 ∧ ¬ (RP fs A i b Q).length ≤ 40) ∨ (fits = 1 ∧ μ' t4 2 = ((A.take i.toNat ++ RQ fs A b (Q.take k.toNat)).length : Int) ∧ rp (μ' (t4 + 1)) (A.take i.toNat ++ RQ fs A b (Q.take k.toNat)) ∧ (A.take i.toNat ++ RQ fs A b (Q.take k.toNat)).length ≤ 40))) (fun fits k _ => ((Q.length : Int) - k).toNat) ?_ 1 0 μ1 ⟨by omega, by omega, e1', Or.inr ⟨rfl, ?_, ?_, ?_⟩⟩
  · intro fits k μ' G ⟨e2, e3, e4, e5⟩ hG
    rw [show μ' t 2 = (Q.length : Int) from (e4 _ _ (by omega) (by omega) (by omega)).trans hT.1]
    refine ifb (fun g => last μ' fits e4 ?_) (fun g => ifb (fun g1 => last μ' fits e4 ?_) (fun g1 => ?_))
    · rw [List.take_of_length_le (show Q.length ≤ k.toNat by omega)] at e5
      exact e5
    · rcases e5 with q | q
      · exact Or.inl q
      · omega
    · obtain ⟨f1, f2, f3, f4⟩ := e5.resolve_left (fun q => g1 q.1)
      have hk : 0 ≤ k ∧ k < (Q.length : Int) := ⟨e2, by omega⟩
      have hQk : μ' (t + 1) k = gt Q k := (e4 _ _ (by omega) (by omega) (by omega)).trans (hT.2.1 k e2 (by omega))
      have hs := RQ_s (fs := fs) (A := A) (b := b) hk
      have hle := RQ_le (fs := fs) (A := A) (b := b) (Q := Q) (k := (k + 1).toNat)
      have hcv := hQ.2 (gt Q k) (mem_gt.mpr ⟨k, e2, by omega, rfl⟩)
      rw [hQk]
      generalize gt Q k = c at *
      have hacc : ((A.take i.toNat ++ RQ fs A b (Q.take k.toNat)).length : Int) = i + ((RQ fs A b (Q.take k.toNat)).length : Int) := by rw [List.length_append, List.length_take]; omega
      rw [hs, List.length_append] at hle
      have bad : ∀ μ2 : ZM, (∀ a q, a ≠ t4 → a ≠ t4 + 1 → a ≠ t4 + 2 → μ2 a q = μ a q) → ¬ (((A.take i.toNat ++ RQ fs A b (Q.take k.toNat)).length : Int) + ((r1 fs A b c).length : Int) ≤ 40) → P_X5_replace_126 G t t' i t4 k 0 μ2 K := by
        intro μ2 q1 q2
        exact ⟨⟨by omega, by omega⟩, hG _ _ _ ⟨by omega, by omega, q1, Or.inl ⟨rfl, by omega⟩⟩ (by omega)⟩
      have good : ∀ μ2 : ZM, (∀ a q, a ≠ t4 → a ≠ t4 + 1 → a ≠ t4 + 2 → μ2 a q = μ a q) → ((A.take i.toNat ++ RQ fs A b (Q.take k.toNat)).length : Int) + ((r1 fs A b c).length : Int) ≤ 40 → μ2 t4 2 = (((A.take i.toNat ++ RQ fs A b (Q.take k.toNat)) ++ r1 fs A b c).length : Int) → rp (μ2 (t4 + 1)) ((A.take i.toNat ++ RQ fs A b (Q.take k.toNat)) ++ r1 fs A b c) → P_X5_replace_126 G t t' i t4 k 1 μ2 K := by
        intro μ2 q1 q2 q3 q4
        refine ⟨⟨by omega, by omega⟩, hG _ _ _ ⟨by omega, by omega, q1, Or.inr ⟨rfl, ?_, ?_, ?_⟩⟩ (by omega)⟩
        · rw [hs, ← List.append_assoc]; exact q3
        · rw [hs, ← List.append_assoc]; exact q4
        · rw [hs, ← List.append_assoc, List.length_append]; omega
      have fr : ∀ μ2 : ZM, (∀ a q, a ≠ t4 + 1 → ¬ (a = t4 ∧ q = 2) → μ2 a q = μ' a q) → ∀ a q, a ≠ t4 → a ≠ t4 + 1 → a ≠ t4 + 2 → μ2 a q = μ a q := fun μ2 q1 a q p1 p2 p3 => (q1 a q p2 (by omega)).trans (e4 a q p1 p2 p3)
      have plain : ¬ (120 ≤ c ∧ c ≤ 122 ∧ b (c - 120) ≠ -9) → P_X5_replace_119 G t t' i t4 k c μ' K := by
        intro q
        have er : r1 fs A b c = [c] := by unfold r1; rw [if_neg q]
        rw [er] at bad good
        exact s_addL ht4 f2 f3 (fun p => bad μ' e4 (by simp at p ⊢; omega)) (fun p μ2 w1 w2 w3 => good μ2 (fr μ2 w1) (by simp at p ⊢; omega) w2 w3)
      have plain9 : ¬ (120 ≤ c ∧ c ≤ 122 ∧ b (c - 120) ≠ -9) → P_X5_replace_83 G t t' i t4 k c μ' K := by
        intro q
        unfold P_X5_replace_83 P_X5_replace_85
        rw [if_pos (by decide)]
        exact plain q
      refine ⟨by omega, ⟨by unfold cv at hcv; omega, by unfold cv at hcv; omega⟩, ifb (fun g2 => plain9 (by omega)) (fun g2 => ifb (fun g3 => plain9 (by omega)) (fun g3 => ⟨by omega, ?_⟩))⟩
      rw [show μ' 237 (c - 120) = b (c - 120) from (e4 _ _ (by omega) (by omega) (by omega)).trans (hbm _ (by omega) (by omega))]
      unfold P_X5_replace_85
      by_cases g4 : b (c - 120) = -9
      · rw [if_pos (by omega)]
        exact plain (fun q => q.2.2 g4)
      · have hv := (hb (c - 120)).resolve_left g4
        have bdv := en_bd (fs := fs) hv
        have er : r1 fs A b c = tl fs A (b (c - 120)) := by unfold r1; rw [if_pos ⟨by omega, by omega, g4⟩]
        have etl : (A.drop (b (c - 120)).toNat).take (en fs A (b (c - 120)) - b (c - 120)).toNat = tl fs A (b (c - 120)) := by
          unfold tl en
          rw [show b (c - 120) + fe fs 1 (A.drop (b (c - 120)).toNat) - b (c - 120) = fe fs 1 (A.drop (b (c - 120)).toNat) by omega]
        have ltl := tl_len (fs := fs) (T := A) hv.1
        rw [er] at bad good
        rw [if_neg (by omega), show μ' t' 2 = (A.length : Int) from (e4 _ _ (by omega) (by omega) (by omega)).trans hT'.1, if_neg (by omega), show μ' (t' + 2) (b (c - 120)) = en fs A (b (c - 120)) from (e4 _ _ (by omega) (by omega) (by omega)).trans (hT'.2.2 _ hv.1 hv.2)]
        refine ⟨by omega, s_addRange ht4 ht' hne' ⟨(e4 _ _ (by omega) (by omega) (by omega)).trans hT'.1, hT'.2.1.ex (fun k _ _ => e4 _ _ (by omega) (by omega) (by omega))⟩ lA f2 f3 f4 ⟨by omega, by omega, by omega⟩ (fun p => bad μ' e4 (by omega)) (fun p μ2 w1 w2 w3 => ?_)⟩
        rw [etl] at w2 w3
        exact good μ2 (fr μ2 w1) (by omega) w2 w3
  · have : A.take i.toNat ++ RQ fs A b (Q.take (0 : Int).toNat) = A.take i.toNat := by
      show A.take i.toNat ++ [] = _
      rw [List.append_nil]
    rw [this]; exact a1
  · have : A.take i.toNat ++ RQ fs A b (Q.take (0 : Int).toNat) = A.take i.toNat := by
      show A.take i.toNat ++ [] = _
      rw [List.append_nil]
    rw [this]; exact a2
  · show (A.take i.toNat ++ []).length ≤ 40
    rw [List.append_nil, List.length_take]; omega
