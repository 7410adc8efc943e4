/-- cells on which a step of rippling works -/
def rpc (a : Int) : Prop := a = 234 ∨ a = 235 ∨ a = 237 ∨ (181 ≤ a ∧ a ≤ 183)
theorem CL_side {μ : ZM} {fs : List Fn} {ls : List (List Int × List Int)} {k d : Int} (h : CL μ fs ls) (hk : 0 ≤ k ∧ k < (ls.length : Int)) (hd : 0 ≤ d ∧ d ≤ 1) : Tm μ fs (6 * (187 + 1 * k - 187) + 1 + 3 * d) (gs (gl ls k) d) := by
  obtain ⟨h1, h2⟩ := h.2.2 k hk.1 hk.2
  refine gs_C hd ?_ ?_
  · rw [show 6 * (187 + 1 * k - 187) + 1 = 6 * k + 1 by omega]; exact h1
  · rw [show 6 * (187 + 1 * k - 187) + 4 = 6 * k + 4 by omega]; exact h2
theorem s_rewrites {fs : List Fn} {ls : List (List Int × List Int)} {t i k d : Int} {A : List Int} {μ : ZM} {K : Int → ZM → Prop} (ho : okF fs) (hF : CF μ fs) (hCL : CL μ fs ls) (hL : okL fs ls) (ht : z_tm t) (ht2 : 49 ≤ t ∧ t ≠ 181) (hT : Tm μ fs t A) (hA : okT fs A) (lA : A.length ≤ 40) (hi : 0 ≤ i ∧ i < (A.length : Int)) (hk : 0 ≤ k ∧ k < (ls.length : Int)) (hd : 0 ≤ d ∧ d ≤ 1) (h0 : cw fs ls A i (2 * k + d) = none → ∀ μ', (∀ a q, ¬ rpc a → μ' a q = μ a q) → K 0 μ') (h1 : ∀ T, cw fs ls A i (2 * k + d) = some T → ∀ μ', (∀ a q, ¬ rpc a → μ' a q = μ a q) → Tm μ' fs 181 T → K 1 μ') : P_X4_rewrites t i (187 + 1 * k) d μ K := by
  have hl := hF.2.1
  have hL8 := hL.1
  have b := ht
  unfold z_tm at b
  have hc : z_cm (187 + 1 * k) := by unfold z_cm; omega
  have e1 : (2 * k + d) / 2 = k := by omega
  have e2 : (2 * k + d) % 2 = d := by omega
  obtain ⟨⟨p1, p2⟩, p3, p4⟩ := okL_p (u := 2 * k + d) hL (by omega)
  have tP := CL_side hCL hk hd
  have tQ := CL_side (d := 1 - d) hCL hk (by omega)
  have eP : pt ls (2 * k + d) = gs (gl ls k) d := by unfold pt; rw [e1, e2]
  have eQ : po ls (2 * k + d) = gs (gl ls k) (1 - d) := by unfold po; rw [e1, e2]
  unfold cw at h0 h1
  rw [eP, eQ] at h0 h1
  rw [eP] at p1 p2
  rw [eQ] at p3 p4
  generalize gs (gl ls k) d = P at *
  generalize gs (gl ls k) (1 - d) = Q at *
  have z1 : z_tm (6 * (187 + 1 * k - 187) + 1 + 3 * d) := by unfold z_tm; omega
  have z2 : z_tm (6 * (187 + 1 * k - 187) + 1 + 3 * (1 - d)) := by unfold z_tm; omega
  refine ⟨ht, hc, s_part hc hd ⟨z1, ⟨by omega, by omega⟩, s_part hc (by omega) ⟨z2, s_matchesC z1 ht tP hT p2 lA (cv_122 hl p1) hi (fun hm μ1 f1 => if0 ⟨Or.inl rfl, h0 ?_ μ1 (fun a q y => f1 a q (by unfold rpc at y; omega))⟩) (fun bb hm μ1 f1 hbm => if1 ?_)⟩⟩⟩
  · by_cases g : usb P Q
    · rw [if_pos g, hm]
    · rw [if_neg g]
  · have hb := mt_ok _ _ _ _ hi.1 b9_ok hm
    have tP1 : Tm μ1 fs _ P := tP.ex (fun q => f1 _ _ (by omega)) (fun q => f1 _ _ (by omega)) (fun q => f1 _ _ (by omega))
    have tQ1 : Tm μ1 fs _ Q := tQ.ex (fun q => f1 _ _ (by omega)) (fun q => f1 _ _ (by omega)) (fun q => f1 _ _ (by omega))
    refine s_isUsable z1 z2 ⟨tP1.1, tP1.2.1⟩ ⟨tQ1.1, tQ1.2.1⟩ p2 p4 (fun g => if1 ?_) (fun g => if0 ⟨Or.inl rfl, h0 (by rw [if_neg g]) μ1 (fun a q y => f1 a q (by unfold rpc at y; omega))⟩)
    rw [if_pos g, hm] at h0 h1
    dsimp only at h0 h1
    refine s_replaceC (b := bb) ho (hF.fr (fun a ha q => f1 _ _ (by omega)) (f1 _ _ (by omega))) z2 ht (by decide) (by omega) (by omega) (by omega) tQ1 (hT.ex (fun q => f1 _ _ (by omega)) (fun q => f1 _ _ (by omega)) (fun q => f1 _ _ (by omega))) p3 hA p4 lA hb hbm hi (fun q μ2 f2 => if0 ⟨Or.inl rfl, h0 (by rw [if_neg q]) μ2 (fun a x y => (f2 a x (by unfold rpc at y; omega) (by unfold rpc at y; omega) (by unfold rpc at y; omega)).trans (f1 a x (by unfold rpc at y; omega)))⟩) (fun q μ2 f2 t2 => if1 ⟨Or.inr rfl, h1 _ (by rw [if_pos q]) μ2 (fun a x y => (f2 a x (by unfold rpc at y; omega) (by unfold rpc at y; omega) (by unfold rpc at y; omega)).trans (f1 a x (by unfold rpc at y; omega))) t2⟩)
theorem s_rippleC {fs : List Fn} {ls : List (List Int × List Int)} {t t' : Int} {A S : List Int} {μ : ZM} {K : Int → ZM → Prop} (ho : okF fs) (hF : CF μ fs) (hCL : CL μ fs ls) (hL : okL fs ls) (ht : z_tm t) (ht2 : 49 ≤ t ∧ ¬ (113 ≤ t ∧ t ≤ 168) ∧ t ≠ 181) (ht' : z_tm t') (ht2' : t' ≠ 181) (hT : Tm μ fs t A) (hT' : Tm μ fs t' S) (hA : okT fs A) (hS : okT fs S) (lA : A.length ≤ 40) (lS : S.length ≤ 40) (h0 : rip fs ls A S = none → ∀ μ', (∀ a q, ¬ rpc a → μ' a q = μ a q) → K (-9) μ') (h1 : ∀ m T, rip fs ls A S = some (m, T) → ∀ μ', (∀ a q, ¬ rpc a → a ≠ t → a ≠ t + 1 → a ≠ t + 2 → μ' a q = μ a q) → Tm μ' fs t T → K (100 * (m % 16 / 2) + m % 2) μ') : P_X4_ripple t t' μ K := by
  have b := ht
  have b' := ht'
  unfold z_tm at b b'
  have hl := hF.2.1
  have hL8 := hL.1
  have lA1 := okT_1 hA
  have lS1 := okT_1 hS
  have hD := dD_b (i := 0) (j := 0) ho hA hS lA ⟨by omega, by omega⟩ ⟨by omega, by omega⟩
  refine ⟨ht, ht', s_smallest ho ht ht' hT hT' hA hS lA lS (fun μ1 e1 => ?_)⟩
  have e1' : ∀ a q, ¬ rpc a → μ1 a q = μ a q := fun a q y => e1 a q (by unfold rpc at y; omega) (by unfold rpc at y; omega)
  by_cases gd : dD fs A S 0 0 < 100000
  · have edf : df fs A S = dD fs A S 0 0 := by unfold df; rw [if_pos gd]
    have erip : rip fs ls A S = fi (cn fs ls A S (dD fs A S 0 0)) (640 - 0 : Int).toNat 0 := by unfold rip; rw [if_pos gd]; rfl
    rw [edf]
    generalize hR : rip fs ls A S = R at *
    generalize hg : cn fs ls A S (dD fs A S 0 0) = g at *
    have hzero : dD fs A S 0 0 ≤ 0 → R = none := by
      intro q
      rw [erip]
      refine fi_no (by omega) (fun x p1 p2 => ?_)
      cases hx : g x with
      | none => rfl
      | some T =>
        rw [← hg] at hx
        have ok := cn_ok ho hl hL hA p1 hx
        have := okT_1 ok.1
        have := (dD_b (i := 0) (j := 0) ho ok.1 hS ok.2.1 ⟨by omega, by omega⟩ ⟨by omega, by omega⟩).1
        omega
    refine z_lf1_ind (fun i μ' => 0 ≤ i ∧ i ≤ (A.length : Int) ∧ (∀ a q, ¬ rpc a → μ' a q = μ a q) ∧ fi g (640 - 16 * i).toNat (16 * i) = R) (fun i _ => ((A.length : Int) - i).toNat) ?_ 0 μ1 ⟨by omega, by omega, e1', erip.symm⟩
    intro i μ2 G ⟨a1, a2, a3, a4⟩ hG
    rw [show μ2 t 2 = (A.length : Int) from (a3 _ _ (by unfold rpc; omega)).trans hT.1]
    refine ifb (fun g1 => h0 ?_ μ2 a3) (fun g1 => ifb (fun g2 => h0 (hzero g2) μ2 a3) (fun g2 => ?_))
    · rw [← a4]
      refine fi_no (by omega) (fun x p1 p2 => ?_)
      rw [← hg]
      exact cn_out (i := x / 16) (u := x % 16) (by omega) (by omega) (Or.inl (by omega))
    · refine z_lf1_ind (fun k μ' => 0 ≤ k ∧ k ≤ (ls.length : Int) ∧ (∀ a q, ¬ rpc a → μ' a q = μ a q) ∧ fi g (640 - (16 * i + 2 * k)).toNat (16 * i + 2 * k) = R) (fun k _ => ((ls.length : Int) - k).toNat) ?_ 0 μ2 ⟨by omega, by omega, a3, by rw [show 16 * i + 2 * 0 = 16 * i by omega]; exact a4⟩
      intro k μ3 G2 ⟨b1, b2, b3, b4⟩ hG2
      have nexti : k = (ls.length : Int) → P_X4_ripple_132 G t t' (dD fs A S 0 0) i μ3 K := by
        intro ek
        refine ⟨⟨by omega, by omega⟩, hG _ _ ⟨by omega, by omega, b3, ?_⟩ (by omega)⟩
        rw [← b4]
        refine (fi_go (by omega) (by omega) (fun x p1 p2 => ?_)).symm
        rw [← hg]
        exact cn_out (i := i) (u := x - 16 * i) (by omega) (by omega) (Or.inr (by omega))
      have hcl3 : CL μ3 fs ls := hCL.fr (fun a ha q => b3 _ _ (by unfold rpc; omega)) (b3 _ _ (by unfold rpc; omega))
      rw [hcl3.1]
      refine ifb (fun g3 => nexti (by omega)) (fun g3 => ifb (fun g4 => nexti (by omega)) (fun g4 => ?_))
      refine z_lf1_ind (fun d μ' => 0 ≤ d ∧ d ≤ 2 ∧ (∀ a q, ¬ rpc a → μ' a q = μ a q) ∧ fi g (640 - (16 * i + (2 * k + d))).toNat (16 * i + (2 * k + d)) = R) (fun d _ => (2 - d).toNat) ?_ 0 μ3 ⟨by omega, by omega, b3, by rw [show 16 * i + (2 * k + 0) = 16 * i + 2 * k by omega]; exact b4⟩
      intro d μ4 G3 ⟨c1, c2, c3, c4⟩ hG3
      refine ifb (fun g5 => ⟨⟨by omega, by omega⟩, hG2 _ _ ⟨by omega, by omega, c3, by rw [show 16 * i + 2 * (k + 1) = 16 * i + (2 * k + d) by omega]; exact c4⟩ (by omega)⟩) (fun g5 => ⟨by omega, ?_⟩)
      have hF4 : CF μ4 fs := hF.fr (fun a ha q => c3 _ _ (by unfold rpc; omega)) (c3 _ _ (by unfold rpc; omega))
      have hCL4 : CL μ4 fs ls := hCL.fr (fun a ha q => c3 _ _ (by unfold rpc; omega)) (c3 _ _ (by unfold rpc; omega))
      have hT4 : Tm μ4 fs t A := hT.ex (fun q => c3 _ _ (by unfold rpc; omega)) (fun q => c3 _ _ (by unfold rpc; omega)) (fun q => c3 _ _ (by unfold rpc; omega))
      have hcn := cn_in (fs := fs) (ls := ls) (A := A) (S := S) (now := dD fs A S 0 0) (i := i) (u := 2 * k + d) (m := 16 * i + (2 * k + d)) rfl (by omega) (by omega)
      have skip : g (16 * i + (2 * k + d)) = none → ∀ μ5, (∀ a q, ¬ rpc a → μ5 a q = μ a q) → P_X4_ripple_120 G G2 G3 t t' (dD fs A S 0 0) i k d μ5 K := by
        intro hn μ5 f5
        refine ⟨⟨by omega, by omega⟩, hG3 _ _ ⟨by omega, by omega, f5, ?_⟩ (by omega)⟩
        rw [← c4, fi_n (by omega) hn, show 16 * i + (2 * k + (d + 1)) = 16 * i + (2 * k + d) + 1 by omega]
      refine s_rewrites (A := A) ho hF4 hCL4 hL ht ⟨ht2.1, ht2.2.2⟩ hT4 hA lA ⟨a1, by omega⟩ ⟨b1, by omega⟩ ⟨c1, by omega⟩ (fun hw μ5 f5 => if0 (skip ?_ μ5 (fun a q y => (f5 a q y).trans (c3 a q y)))) (fun T hw μ5 f5 t5 => if1 ?_)
      · rw [← hg, hcn, hw]
      · have okw := cw_ok ho hl hL hA ⟨a1, by omega⟩ (u := 2 * k + d) ⟨by omega, by omega⟩ hw
        have f5' : ∀ a q, ¬ rpc a → μ5 a q = μ a q := fun a q y => (f5 a q y).trans (c3 a q y)
        have lT1 := okT_1 okw.1
        have hDT := dD_b (i := 0) (j := 0) ho okw.1 hS okw.2 ⟨by omega, by omega⟩ ⟨by omega, by omega⟩
        rw [hw] at hcn
        dsimp only at hcn
        refine s_smallest ho (by decide) ht' t5 (hT'.ex (fun q => f5' _ _ (by unfold rpc; omega)) (fun q => f5' _ _ (by unfold rpc; omega)) (fun q => f5' _ _ (by unfold rpc; omega))) okw.1 hS okw.2 lS (fun μ6 f6 => ?_)
        have f6' : ∀ a q, ¬ rpc a → μ6 a q = μ a q := fun a q y => (f6 a q (by unfold rpc at y; omega) (by unfold rpc at y; omega)).trans (f5' a q y)
        have t6 : Tm μ6 fs 181 T := t5.ex (fun q => f6 _ _ (by omega) (by omega)) (fun q => f6 _ _ (by omega) (by omega)) (fun q => f6 _ _ (by omega) (by omega))
        unfold df
        by_cases gT : dD fs T S 0 0 < 100000
        · rw [if_pos gT]
          refine ifb (fun q => absurd q (by omega)) (fun _ => ifb (fun q => skip ?_ μ6 f6') (fun q => ?_))
          · rw [← hg, hcn, if_neg (by omega)]
          · have hs : g (16 * i + (2 * k + d)) = some T := by rw [← hg, hcn, if_pos (by omega)]
            rw [fi_s (by omega) hs] at c4
            refine s_copy ht (by decide) ht2.2.2 t6 okw.2 (fun μ7 f7 t7 => ⟨⟨by omega, by omega⟩, ⟨by omega, by omega⟩, ?_⟩)
            have := h1 _ _ c4.symm μ7 (fun a q y1 y2 y3 y4 => (f7 a q y2 y3 y4).trans (f6' a q y1)) t7
            rw [show (16 * i + (2 * k + d)) % 16 / 2 = k by omega, show (16 * i + (2 * k + d)) % 2 = d by omega] at this
            exact this
        · rw [if_neg gT]
          rw [if_pos rfl]
          refine skip ?_ μ6 f6'
          rw [← hg, hcn, if_neg (by omega)]
  · have edf : df fs A S = -9 := by unfold df; rw [if_neg gd]
    have er : rip fs ls A S = none := by unfold rip; rw [if_neg gd]
    rw [edf]
    have hone : P_X4_ripple_13 t t' (-9) 0 μ1 K := by
      refine z_lf1_ind (fun i μ' => i = 0 ∧ μ' = μ1) (fun _ _ => 0) ?_ 0 μ1 ⟨rfl, rfl⟩
      intro i μ' G ⟨q1, q2⟩ hG
      subst q2
      exact ifb (fun _ => h0 er _ e1') (fun _ => ifb (fun _ => h0 er _ e1') (fun q => absurd (by decide) q))
    exact hone
