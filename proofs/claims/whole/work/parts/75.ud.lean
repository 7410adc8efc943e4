/-! the reference replaces -/
theorem s_longWith {fs : List Fn} {s : Int} {Q A : List Int} {b : Int → Int} {μ : ZM} {K : Int → ZM → Prop} (hs : 0 ≤ s ∧ s < 44) (hS : Sl μ s Q) (lQ : Q.length ≤ 40) (lA : A.length ≤ 40) (hb : okB A b) (hbm : bl fs A μ b) (h : K ((RQ fs A b Q).length : Int) μ) : P_X12_longWith s μ K := by
  refine z_lf2_ind (fun n k μ' => μ' = μ ∧ 0 ≤ k ∧ k ≤ (Q.length : Int) ∧ n = ((RQ fs A b (Q.take k.toNat)).length : Int) ∧ n ≤ 40 * k) (fun n k _ => ((Q.length : Int) - k).toNat) ?_ 0 0 μ ⟨rfl, by omega, by omega, rfl, by omega⟩
  intro n k μ' G ⟨e1, e2, e3, e4, e5⟩ hG
  subst e1
  rw [hS.1]
  refine ⟨hs, ifb (fun g => ?_) (fun g => ?_)⟩
  · rw [List.take_of_length_le (by omega)] at e4
    rw [e4]; exact h
  · have hk : 0 ≤ k ∧ k < (Q.length : Int) := ⟨e2, by omega⟩
    have hsq := RQ_s (fs := fs) (A := A) (b := b) hk
    refine s_atT hs hS (by omega) hk ?_
    generalize gt Q k = c at *
    have h40 := r1_len (fs := fs) (c := c) hb lA
    have step : ∀ m : Int, m = ((r1 fs A b c).length : Int) → P_X12_longWith_60 G s k n m μ' K := by
      intro m hm
      refine ⟨⟨by omega, by omega⟩, ⟨by omega, by omega⟩, hG _ _ _ ⟨rfl, by omega, by omega, ?_, by omega⟩ (by omega)⟩
      rw [hsq, List.length_append]; omega
    have one : ¬ (120 ≤ c ∧ c ≤ 122 ∧ b (c - 120) ≠ -9) → P_X12_longWith_59 G s k n μ' K := fun q => step 1 (by unfold r1; rw [if_neg q]; rfl)
    refine s_isVar (fun q => if1 ⟨⟨by omega, by omega⟩, by omega, ?_⟩) (fun q => if0 (one (fun p => q ⟨p.1, p.2.1⟩)))
    obtain ⟨w1, w2⟩ := hbm (c - 120) (by omega) (by omega)
    rw [w1]
    refine ifb (fun g1 => one (fun p => p.2.2 g1)) (fun g1 => ⟨⟨by omega, by omega⟩, by omega, step _ ?_⟩)
    have hv := (hb (c - 120)).resolve_left g1
    rw [w2 g1]
    unfold r1
    rw [if_pos ⟨q.1, q.2, g1⟩, tl_len hv.1]
/-- the cells of the slot for trying -/
def fr20 (a k : Int) : Prop := (a = 249 ∧ 2560 ≤ k ∧ k < 2688) ∨ (a = 250 ∧ k = 20)
theorem s_puts20 {c : Int} {T : List Int} {μ : ZM} {K : ZM → Prop} (hS : Sl μ 20 T) (hl : T.length < 128) (h : ∀ μ', (∀ a k, ¬ fr20 a k → μ' a k = μ a k) → Sl μ' 20 (T ++ [c]) → K μ') : P_X12_puts 20 c μ K :=
  s_puts (by omega) hS hl (fun μ' e1 e2 => h μ' (fun a k q => e1 a k (by unfold fr20 at q; omega) (by unfold fr20 at q; omega)) e2)
theorem s_replacesM {fs : List Fn} {s s' i : Int} {Q A : List Int} {b : Int → Int} {μ : ZM} {K : Int → ZM → Prop} (ho : okF fs) (hF : MF μ fs) (hs : 0 ≤ s ∧ s < 44) (hs' : 0 ≤ s' ∧ s' < 44) (hne : s ≠ 20) (hne' : s' ≠ 20) (hS : Sl μ s A) (hS' : Sl μ s' Q) (hA : okT fs A) (lQ : Q.length ≤ 40) (lA : A.length ≤ 40) (hb : okB A b) (hbm : bl fs A μ b) (hi : 0 ≤ i ∧ i < (A.length : Int)) (h0 : ¬ (RP fs A i b Q).length ≤ 40 → K 0 μ) (h1 : (RP fs A i b Q).length ≤ 40 → ∀ μ', (∀ a k, ¬ fr20 a k → μ' a k = μ a k) → Sl μ' 20 (RP fs A i b Q) → K 1 μ') : P_X12_replaces s i s' μ K := by
  have bd := en_bd (fs := fs) hi
  have hRl := RP_len (fs := fs) (b := b) (Q := Q) hi
  refine s_end (T := A) ho hF hs hS hA (by omega) hi ⟨hs, ⟨by omega, by omega⟩, ?_⟩
  rw [hS.1]
  refine ⟨⟨by omega, by omega⟩, s_longWith (fs := fs) (A := A) hs' hS' lQ lA hb hbm ?_⟩
  have hRQ : ((RQ fs A b Q).length : Int) ≤ 1600 := by
    have : ∀ Q' : List Int, ((RQ fs A b Q').length : Int) ≤ 40 * (Q'.length : Int) := by
      intro Q'
      induction Q' with
      | nil => show ((0 : Nat) : Int) ≤ 40 * ((0 : Nat) : Int); omega
      | cons c Q' ih =>
        have h40 := r1_len (fs := fs) (c := c) hb lA
        show ((r1 fs A b c ++ RQ fs A b Q').length : Int) ≤ _
        rw [List.length_append, List.length_cons]
        omega
    have := this Q
    omega
  refine ⟨⟨by omega, by omega⟩, ifb (fun g => ⟨by omega, ?_⟩) (fun g => ⟨Or.inl rfl, h0 (by omega)⟩)⟩
  have hR40 : (RP fs A i b Q).length ≤ 40 := by omega
  show P_X12_replaces_43 s i s' (en fs A i) 0 (z_upd μ 250 20 0) K
  have fin : ∀ (μ2 : ZM), (∀ a k, ¬ fr20 a k → μ2 a k = μ a k) → Sl μ2 20 (A.take i.toNat ++ RQ fs A b Q) → P_X12_replaces_183 s (en fs A i) μ2 K := by
    intro μ2 q1 q2
    refine z_lf1_ind (fun k μ' => en fs A i ≤ k ∧ k ≤ (A.length : Int) ∧ (∀ a q, ¬ fr20 a q → μ' a q = μ a q) ∧ Sl μ' 20 (A.take i.toNat ++ RQ fs A b Q ++ (A.drop (en fs A i).toNat).take (k - en fs A i).toNat)) (fun k _ => ((A.length : Int) - k).toNat) ?_ _ μ2 ⟨by omega, by omega, q1, ?_⟩
    · intro k μ' G ⟨e1, e2, e3, e4⟩ hG
      have hSa : Sl μ' s A := hS.ex (e3 _ _ (by unfold fr20; omega)) (fun _ _ _ => e3 _ _ (by unfold fr20; omega))
      rw [hSa.1]
      refine ⟨hs, ifb (fun g1 => ⟨Or.inr rfl, h1 hR40 μ' e3 ?_⟩) (fun g1 => s_atT hs hSa (by omega) ⟨by omega, by omega⟩ ?_)⟩
      · have hdt : (A.drop (en fs A i).toNat).take (k - en fs A i).toNat = A.drop (en fs A i).toNat := List.take_of_length_le (by rw [List.length_drop]; omega)
        rw [hdt, List.append_assoc] at e4
        exact e4
      · refine s_puts20 e4 (by rw [List.length_append, List.length_append, List.length_take, List.length_take, List.length_drop]; omega) (fun μ3 f1 f2 => ⟨⟨by omega, by omega⟩, hG _ _ ⟨by omega, by omega, fun a q p => (f1 a q p).trans (e3 a q p), ?_⟩ (by omega)⟩)
        have := take_s1 (T := A.drop (en fs A i).toNat) (i := k - en fs A i) ⟨by omega, by rw [List.length_drop]; omega⟩
        rw [gt_drop (by omega), show ((en fs A i).toNat : Int) + (k - en fs A i) = k by omega] at this
        rw [show k + 1 - en fs A i = k - en fs A i + 1 by omega, this, ← List.append_assoc]
        exact f2
    · rw [show (en fs A i - en fs A i).toNat = 0 by omega, List.take_zero, List.append_nil]; exact q2
  refine z_lf1_ind (fun k μ' => 0 ≤ k ∧ k ≤ i ∧ (∀ a q, ¬ fr20 a q → μ' a q = μ a q) ∧ Sl μ' 20 (A.take k.toNat)) (fun k _ => (i - k).toNat) ?_ 0 _ ⟨by omega, by omega, fun a q p => zu_f (by unfold fr20 at p; omega), ⟨by rw [zu_s]; rfl, fun k p1 p2 => absurd p2 (by simp; omega)⟩⟩
  intro k0 μ0 G0 ⟨a1, a2, a3, a4⟩ hG0
  have hSa0 : Sl μ0 s A := hS.ex (a3 _ _ (by unfold fr20; omega)) (fun _ _ _ => a3 _ _ (by unfold fr20; omega))
  refine ifb (fun g0 => ?_) (fun g0 => s_atT hs hSa0 (by omega) ⟨a1, by omega⟩ (s_puts20 a4 (by rw [List.length_take]; omega) (fun μ3 f1 f2 => ⟨⟨by omega, by omega⟩, hG0 _ _ ⟨by omega, by omega, fun a q p => (f1 a q p).trans (a3 a q p), by rw [take_s1 ⟨a1, by omega⟩]; exact f2⟩ (by omega)⟩)))
  have ek : k0 = i := by omega
  subst ek
  refine z_lf1_ind (fun k μ' => 0 ≤ k ∧ k ≤ (Q.length : Int) ∧ (∀ a q, ¬ fr20 a q → μ' a q = μ a q) ∧ Sl μ' 20 (A.take k0.toNat ++ RQ fs A b (Q.take k.toNat))) (fun k _ => ((Q.length : Int) - k).toNat) ?_ 0 μ0 ⟨by omega, by omega, a3, by show Sl μ0 20 (A.take k0.toNat ++ []); rw [List.append_nil]; exact a4⟩
  intro k μ' G ⟨e1, e2, e3, e4⟩ hG
  have hSa : Sl μ' s A := hS.ex (e3 _ _ (by unfold fr20; omega)) (fun _ _ _ => e3 _ _ (by unfold fr20; omega))
  have hSq : Sl μ' s' Q := hS'.ex (e3 _ _ (by unfold fr20; omega)) (fun _ _ _ => e3 _ _ (by unfold fr20; omega))
  rw [hSq.1]
  refine ⟨hs', ifb (fun g1 => fin μ' e3 ?_) (fun g1 => ?_)⟩
  · rw [List.take_of_length_le (show Q.length ≤ k.toNat by omega)] at e4
    exact e4
  · have hk : 0 ≤ k ∧ k < (Q.length : Int) := ⟨e1, by omega⟩
    have hsq := RQ_s (fs := fs) (A := A) (b := b) hk
    have hle := RQ_le (fs := fs) (A := A) (b := b) (Q := Q) (k := (k + 1).toNat)
    rw [hsq, List.length_append] at hle
    have hacc : ((A.take k0.toNat ++ RQ fs A b (Q.take k.toNat)).length : Int) = k0 + ((RQ fs A b (Q.take k.toNat)).length : Int) := by rw [List.length_append, List.length_take]; omega
    refine s_atT hs' hSq (by omega) hk ?_
    generalize gt Q k = c at *
    have go : ∀ μ2 : ZM, (∀ a q, ¬ fr20 a q → μ2 a q = μ a q) → Sl μ2 20 ((A.take k0.toNat ++ RQ fs A b (Q.take k.toNat)) ++ r1 fs A b c) → P_X12_replaces_173 G s s' (en fs A k0) k μ2 K := by
      intro μ2 q1 q2
      refine ⟨⟨by omega, by omega⟩, hG _ _ ⟨by omega, by omega, q1, ?_⟩ (by omega)⟩
      rw [hsq, ← List.append_assoc]; exact q2
    have plain : ¬ (120 ≤ c ∧ c ≤ 122 ∧ b (c - 120) ≠ -9) → P_X12_replaces_165 G s s' (en fs A k0) k c μ' K := by
      intro q
      have er : r1 fs A b c = [c] := by unfold r1; rw [if_neg q]
      rw [er] at go hle
      refine s_puts20 e4 (by simp at hle; omega) (fun μ3 f1 f2 => go μ3 (fun a q p => (f1 a q p).trans (e3 a q p)) f2)
    refine s_isVar (fun q => if1 ⟨⟨by omega, by omega⟩, by omega, ?_⟩) (fun q => if0 (plain (fun p => q ⟨p.1, p.2.1⟩)))
    have hbm' : μ' 268 (c - 120) = b (c - 120) := (e3 _ _ (by unfold fr20; omega)).trans (hbm (c - 120) (by omega) (by omega)).1
    rw [hbm']
    refine ifb (fun g2 => plain (fun p => p.2.2 g2)) (fun g2 => ?_)
    have hv := (hb (c - 120)).resolve_left g2
    have bdv := en_bd (fs := fs) hv
    have er : r1 fs A b c = tl fs A (b (c - 120)) := by unfold r1; rw [if_pos ⟨q.1, q.2, g2⟩]
    have ltl := tl_len (fs := fs) (T := A) hv.1
    rw [er] at go hle
    refine z_lf1_ind (fun x μ2 => 0 ≤ x ∧ x ≤ en fs A (b (c - 120)) - b (c - 120) ∧ (∀ a q, ¬ fr20 a q → μ2 a q = μ a q) ∧ Sl μ2 20 ((A.take k0.toNat ++ RQ fs A b (Q.take k.toNat)) ++ (tl fs A (b (c - 120))).take x.toNat)) (fun x _ => (en fs A (b (c - 120)) - b (c - 120) - x).toNat) ?_ 0 μ' ⟨by omega, by omega, e3, by show Sl μ' 20 (_ ++ []); rw [List.append_nil]; exact e4⟩
    intro x μ2 G2 ⟨x1, x2, x3, x4⟩ hG2
    have y1 : μ2 268 (c - 120) = b (c - 120) := (x3 _ _ (by unfold fr20; omega)).trans (hbm (c - 120) (by omega) (by omega)).1
    have y2 : μ2 269 (c - 120) = en fs A (b (c - 120)) - b (c - 120) := (x3 _ _ (by unfold fr20; omega)).trans ((hbm (c - 120) (by omega) (by omega)).2 g2)
    have hSa2 : Sl μ2 s A := hS.ex (x3 _ _ (by unfold fr20; omega)) (fun _ _ _ => x3 _ _ (by unfold fr20; omega))
    rw [y1, y2]
    refine ⟨⟨by omega, by omega⟩, by omega, ifb (fun g3 => go μ2 x3 ?_) (fun g3 => ⟨⟨by omega, by omega⟩, by omega, ⟨by omega, by omega⟩, s_atT hs hSa2 (by omega) ⟨by omega, by omega⟩ (s_puts20 x4 ?_ (fun μ3 f1 f2 => ⟨⟨by omega, by omega⟩, hG2 _ _ ⟨by omega, by omega, fun a q p => (f1 a q p).trans (x3 a q p), ?_⟩ (by omega)⟩))⟩)⟩
    · have hdt : (tl fs A (b (c - 120))).take x.toNat = tl fs A (b (c - 120)) := List.take_of_length_le (by omega)
      rw [hdt] at x4; exact x4
    · rw [List.length_append, List.length_take]; omega
    · have := take_s1 (T := tl fs A (b (c - 120))) (i := x) ⟨x1, by omega⟩
      rw [tl_gt hv.1 ⟨x1, by omega⟩] at this
      rw [this, ← List.append_assoc]; exact f2
/-! which side may be used -/
abbrev usb (P Q : List Int) : Prop := ¬ (P.length = 1 ∧ 120 ≤ gt P 0) ∧ (120 ∈ Q → 120 ∈ P) ∧ (121 ∈ Q → 121 ∈ P) ∧ (122 ∈ Q → 122 ∈ P)
theorem usb_iff {P Q : List Int} : usb P Q ↔ ¬ (P.length = 1 ∧ 120 ≤ gt P 0) ∧ ∀ v : Int, 0 ≤ v → v < 3 → 120 + v ∈ Q → 120 + v ∈ P := by
  constructor
  · intro ⟨h1, h2, h3, h4⟩
    refine ⟨h1, fun v p1 p2 => ?_⟩
    have : v = 0 ∨ v = 1 ∨ v = 2 := by omega
    rcases this with q | q | q <;> subst q
    · exact h2
    · exact h3
    · exact h4
  · intro ⟨h1, h2⟩
    exact ⟨h1, h2 0 (by omega) (by omega), h2 1 (by omega) (by omega), h2 2 (by omega) (by omega)⟩
theorem s_isUsable {t t' : Int} {P Q : List Int} {μ : ZM} {K : Int → ZM → Prop} (ht : z_tm t) (ht' : z_tm t') (hT : tx μ t P) (hT' : tx μ t' Q) (lP : P.length ≤ 40) (lQ : Q.length ≤ 40) (h1 : usb P Q → K 1 μ) (h0 : ¬ usb P Q → K 0 μ) : P_X4_isUsable t t' μ K := by
  rw [usb_iff] at h1 h0
  have loop : ¬ (P.length = 1 ∧ 120 ≤ gt P 0) → P_X4_isUsable_21 t t' μ K := by
    intro hn
    refine z_lf1_ind (fun v μ' => μ' = μ ∧ 0 ≤ v ∧ v ≤ 3 ∧ ∀ w : Int, 0 ≤ w → w < v → 120 + w ∈ Q → 120 + w ∈ P) (fun v _ => (3 - v).toNat) ?_ 0 μ ⟨rfl, by omega, by omega, fun w p1 p2 => absurd p2 (by omega)⟩
    intro v μ' G ⟨e1, e2, e3, e4⟩ hG
    subst e1
    have next : (120 + v ∈ Q → 120 + v ∈ P) → v < 3 → P_X4_isUsable_52 G t t' v μ' K := by
      intro q q3
      refine ⟨⟨by omega, by omega⟩, hG _ _ ⟨rfl, by omega, by omega, fun w p1 p2 => ?_⟩ (by omega)⟩
      by_cases ew : w = v
      · rw [ew]; exact q
      · exact e4 w p1 (by omega)
    refine ifb (fun g => ⟨Or.inr rfl, h1 ⟨hn, fun w p1 p2 => e4 w p1 (by omega)⟩⟩) (fun g => ⟨⟨by omega, by omega⟩, s_has ht' hT' lQ (fun q => if1 ⟨⟨by omega, by omega⟩, s_has ht hT lP (fun p => if1 (next (fun _ => p) (by omega))) (fun p => if0 ⟨Or.inl rfl, h0 (fun y => p (y.2 v e2 (by omega) q))⟩)⟩) (fun q => if0 (next (fun p => absurd p q) (by omega)))⟩)
  unfold P_X4_isUsable
  rw [hT.1]
  refine ⟨ht, ht', ifb (fun g => ⟨by omega, ?_⟩) (fun g => loop (by omega))⟩
  rw [hT.2 0 (by omega) (by omega)]
  exact ifb (fun g1 => loop (by omega)) (fun g1 => ⟨Or.inl rfl, h0 (fun y => y.1 ⟨by omega, by omega⟩)⟩)
theorem s_isPattern {s s' : Int} {P Q : List Int} {μ : ZM} {K : Int → ZM → Prop} (hs : 0 ≤ s ∧ s < 44) (hs' : 0 ≤ s' ∧ s' < 44) (hS : Sl μ s P) (hS' : Sl μ s' Q) (lP : P.length ≤ 40) (lQ : Q.length ≤ 40) (hcP : ∀ c ∈ P, 0 ≤ c ∧ c ≤ 122) (h1 : usb P Q → K 1 μ) (h0 : ¬ usb P Q → K 0 μ) : P_X12_isPattern s s' μ K := by
  rw [usb_iff] at h1 h0
  have loop : ¬ (P.length = 1 ∧ 120 ≤ gt P 0) → P_X12_isPattern_24 s s' μ K := by
    intro hn
    refine z_lf1_ind (fun v μ' => μ' = μ ∧ 0 ≤ v ∧ v ≤ 3 ∧ ∀ w : Int, 0 ≤ w → w < v → 120 + w ∈ Q → 120 + w ∈ P) (fun v _ => (3 - v).toNat) ?_ 0 μ ⟨rfl, by omega, by omega, fun w p1 p2 => absurd p2 (by omega)⟩
    intro v μ' G ⟨e1, e2, e3, e4⟩ hG
    subst e1
    have next : (120 + v ∈ Q → 120 + v ∈ P) → v < 3 → P_X12_isPattern_57 G s s' v μ' K := by
      intro q q3
      refine ⟨⟨by omega, by omega⟩, hG _ _ ⟨rfl, by omega, by omega, fun w p1 p2 => ?_⟩ (by omega)⟩
      by_cases ew : w = v
      · rw [ew]; exact q
      · exact e4 w p1 (by omega)
    refine ifb (fun g => ⟨Or.inr rfl, h1 ⟨hn, fun w p1 p2 => e4 w p1 (by omega)⟩⟩) (fun g => ⟨⟨by omega, by omega⟩, s_hasSign hs' hS' lQ (fun q => if1 ⟨⟨by omega, by omega⟩, s_hasSign hs hS lP (fun p => if1 (next (fun _ => p) (by omega))) (fun p => if0 ⟨Or.inl rfl, h0 (fun y => p (y.2 v e2 (by omega) q))⟩)⟩) (fun q => if0 (next (fun p => absurd p q) (by omega)))⟩)
  unfold P_X12_isPattern
  rw [hS.1]
  refine ⟨hs, ifb (fun g => s_atT hs hS (by omega) ⟨by omega, by omega⟩ ?_) (fun g => loop (by omega))⟩
  have hb := hcP (gt P 0) (mem_gt.mpr ⟨0, by omega, by omega, rfl⟩)
  exact s_isVar (fun q => if1 ⟨Or.inl rfl, h0 (fun y => y.1 ⟨by omega, by omega⟩)⟩) (fun q => if0 (loop (by omega)))
