def mkF (x1 x2 : Int) (B : List (List Int)) : Fn := (x1, x2, gb B 0, gb B 1, gb B x2)
theorem fB_mk {x1 x2 w : Int} {B : List (List Int)} (hx2 : x2 = 1 ∨ x2 = 2) (h : hasB (mkF x1 x2 B) w) : ∃ j : Int, 0 ≤ j ∧ j ≤ x2 ∧ wo x2 j = w ∧ fB (mkF x1 x2 B) w = gb B j ∧ (j = x2 ↔ w = 2) := by
  obtain ⟨h1, h2, h3⟩ := h
  have h3' : w = 1 → x2 = 2 := h3
  by_cases e0 : w = 0
  · exact ⟨0, by omega, by omega, by unfold wo; rw [if_neg (by omega)]; omega, by subst e0; rfl, by omega⟩
  · by_cases e1 : w = 1
    · exact ⟨1, by omega, by have := h3' e1; omega, by have := h3' e1; unfold wo; rw [if_neg (by omega)]; omega, by subst e1; rfl, by have := h3' e1; omega⟩
    · have e2 : w = 2 := by omega
      exact ⟨x2, by omega, by omega, by unfold wo; rw [if_pos rfl]; omega, by subst e2; rfl, by omega⟩
theorem okF_app {fs : List Fn} {x1 x2 : Int} {B : List (List Int)} (hl : fs.length ≤ 5) (ho : okF fs) (hx1 : x1 = 1 ∨ x1 = 2) (hx2 : x2 = 1 ∨ x2 = 2) (hB : ∀ j : Int, 0 ≤ j → j ≤ x2 → gB (fs ++ [mkF x1 x2 B]) x1 (if j = x2 then 1 else 0) (gb B j)) : okF (fs ++ [mkF x1 x2 B]) := by
  intro f h1 h2
  have hlen : ((fs ++ [mkF x1 x2 B]).length : Int) = (fs.length : Int) + 1 := by simp
  by_cases e : f = (fs.length : Int)
  · subst e
    rw [gf_app2]
    refine ⟨hx1, hx2, fun w hw => ?_⟩
    obtain ⟨j, j1, j2, j3, j4, j5⟩ := fB_mk hx2 hw
    obtain ⟨b1, b2, b3⟩ := hB j j1 j2
    rw [j4]
    refine ⟨⟨b1, fun c hc => (b3 c hc).1⟩, b2, fun c hc => ⟨(b3 c hc).2.1, (b3 c hc).2.2.1, fun q => ?_⟩⟩
    have := (b3 c hc).2.2.2 q
    by_cases ej : j = x2
    · exact j5.mp ej
    · rw [if_neg ej] at this; exact absurd this (by decide)
  · rw [gf_app1 (by omega)]
    obtain ⟨a1, a2, a3⟩ := ho f h1 (by omega)
    exact ⟨a1, a2, fun w hw => ⟨okT_app hl (a3 w hw).1, (a3 w hw).2⟩⟩
theorem op_function {x1 x2 : Int} {μ : ZM} (hI : Inv μ) {K : Int → ZM → Prop} (hK : ∀ r μ1, Ans (P_X12_function x1 x2 μ1) r → K r μ1) : P_X11_function x1 x2 μ K := by
  have hI0 := hI
  obtain ⟨tp, fs, cl, ls, nt, cs, hc, hm, ho⟩ := hI
  obtain ⟨c1, c2, c3, c4, c5, c6, c7⟩ := id hc
  obtain ⟨m1, m2, m3, m4, m5, m6⟩ := id hm
  have fl := c2.2.1
  have tl := c1.2.1.1
  have n1 := c2.1
  have n2 := m2.1
  have key : ∀ r : Int, (∀ K' : Int → ZM → Prop, K' r μ → P_X12_function x1 x2 μ K') → K r μ := fun r h => hK _ _ (Ans.same hI0 h)
  have bad1 : ¬ (1 ≤ x1 ∧ x1 ≤ 2) → K (-2) μ := fun g => key _ (fun K' h' => s_wi (fun q => absurd q g) (fun _ => if0 h'))
  have bad2 : (1 ≤ x1 ∧ x1 ≤ 2) → ¬ (1 ≤ x2 ∧ x2 ≤ 2) → K (-2) μ := fun g g2 => key _ (fun K' h' => s_wi (fun _ => if1 (s_wi (fun q => absurd q g2) (fun _ => if0 h'))) (fun q => absurd g q))
  have bad3 : (1 ≤ x1 ∧ x1 ≤ 2) → (1 ≤ x2 ∧ x2 ≤ 2) → μ 248 4 = 6 → K (-4) μ := fun g g2 g3 => key _ (fun K' h' => s_wi (fun _ => if1 (s_wi (fun _ => if1 (by rw [if_pos g3]; exact h')) (fun q => absurd g2 q))) (fun q => absurd g q))
  refine ifb (fun g => bad1 (by omega)) (fun g1 => ifb (fun g => bad1 (by omega)) (fun g2 => ifb (fun g => bad2 (by omega) (by omega)) (fun g3 => ifb (fun g4 => ifb (fun g5 => ?_) (fun g5 => bad3 (by omega) (by omega) (by omega))) (fun g => bad2 (by omega) (by omega)))))
  have hl5 : fs.length ≤ 5 := by omega
  have hx1 : x1 = 1 ∨ x1 = 2 := by omega
  have hx2 : x2 = 1 ∨ x2 = 2 := by omega
  have modelStart : ∀ (μ1 : ZM) (K' : Int → ZM → Prop), μ1 248 4 = (fs.length : Int) → P_X12_readsFunction (fs.length : Int) x2 (z_upd (z_upd μ1 248 10 0) 248 13 x1) (fun r8 μ7 => if r8 = 0 then ((zin (((-100)) - (μ7 248 10)) ∧ K' (((-100)) - (μ7 248 10)) μ7)) else ((((0 : Int) ≤ μ7 248 4 ∧ μ7 248 4 < 6) ∧ z_wr (z_upd μ7 252 (μ7 248 4) x1) (fun μ9 => (((0 : Int) ≤ μ9 248 4 ∧ μ9 248 4 < 6) ∧ z_wr (z_upd μ9 253 (μ9 248 4) x2) (fun μ10 => (zin ((μ10 248 4) + 1) ∧ z_wr (z_upd μ10 248 4 ((μ10 248 4) + 1)) (fun μ11 => (zin ((μ11 248 4) - 1) ∧ K' ((μ11 248 4) - 1) μ11))))))))) → P_X12_function x1 x2 μ1 K' := by
    intro μ1 K' h4 hh
    refine s_wi (fun _ => if1 (s_wi (fun _ => if1 ?_) (fun q => absurd q (by omega)))) (fun q => absurd q (by omega))
    rw [if_neg (by omega)]
    simp only [z_wr] at hh ⊢
    rw [show z_upd (z_upd μ1 248 10 0) 248 13 x1 248 4 = (fs.length : Int) by rw [zu_k (by decide), zu_k (by decide)]; exact h4]
    exact hh
  generalize hRR : rf fs x1 (if x1 = 2 then 1 else 0) tp x2.toNat 0 [] = R
  refine s_readFunction ho.1 c1 c2 hx1 hx2 (fun μ1 e1 e2 e3 e4 e5 => ?_)
  rw [hRR] at e2 e5 ⊢
  have rm1 : RM μ1 tp fs cl ls nt cs := hm.fr (fun a k h => e1 a k (by unfold frk; omega))
  have rc1 : RC μ1 tp fs cl ls nt cs := hc.fr (fun a k h => e1 a k (by unfold frk; unfold oC at h; omega))
  refine ifb (fun g => ⟨⟨by omega, by omega⟩, hK _ _ (fun K' hK' => modelStart _ _ rm1.2.1.1 ?_)⟩) (fun g => ?_)
  · have hx0 : ∀ a k, ¬ frf (fs.length : Int) a k → z_upd (z_upd μ1 248 10 0) 248 13 x1 a k = μ1 a k := fun a k g => by
      unfold frf at g
      rw [zu_f (by omega), zu_f (by omega)]
    refine s_readsFunction ho.1 (rm1.1.rf hx0) (MF.rf ho.1 rm1.2.1 hx0) hl5 hx1 hx2 (by rw [zu_k (by decide), zu_s]) zu_s (fun μ2 f1 f2 f3 f4 f5 => ?_)
    rw [hRR] at f2 f5 ⊢
    rw [if_pos g]
    refine ⟨⟨by omega, by omega⟩, ?_⟩
    rw [f2, ← e2]
    have hy : ∀ a k, ¬ frf (fs.length : Int) a k → μ2 a k = μ1 a k := fun a k g => (f1 a k g).trans (hx0 a k g)
    refine hK' _ ⟨tp, fs, cl, ls, nt, cs, rc1.frM (fun a k h => hy a k (by unfold frf; omega)), ?_, ho⟩
    obtain ⟨p1, p2, p3, p4, p5, p6⟩ := rm1
    exact ⟨p1.rf hy, MF.rf ho.1 p2 hy, p3.fr (fun q hq => by have := ho.2.1 q hq; omega) (hy _ _ (by unfold frf; omega)) (fun k h => hy _ _ (by unfold frf; omega)) (fun k h => hy _ _ (by unfold frf; omega)), p4.fr (hy _ _ (by unfold frf; omega)) (fun k h => hy _ _ (by unfold frf; omega)) (fun k h => hy _ _ (by unfold frf; omega)), p5.fr (hy _ _ (by unfold frf; omega)) (fun k => hy _ _ (by unfold frf; omega)) (fun k => hy _ _ (by unfold frf; omega)), p6.fr (hy _ _ (by unfold frf; omega)) (hy _ _ (by unfold frf; omega)) (hy _ _ (by unfold frf; omega)) (hy _ _ (by unfold frf; omega))⟩
  · obtain ⟨L, l1, l2, l3⟩ := rf_ok (g := mkF x1 x2 R.2.2) (oa := x1) (tp := tp) hl5 rfl x2.toNat 0 [] (by rw [hRR]; exact g)
    rw [hRR, List.nil_append] at l1
    have hB : ∀ j : Int, 0 ≤ j → j ≤ x2 → gB (fs ++ [mkF x1 x2 R.2.2]) x1 (if j = x2 then 1 else 0) (gb R.2.2 j) := fun j h1 h2 => by
      have := l3 j h1 (by omega)
      rw [show ((x2.toNat : Nat) : Int) = x2 by omega, ← l1] at this
      exact this
    generalize hBB : R.2.2 = B at *
    have okf := okF_app hl5 ho.1 hx1 hx2 hB
    have hlen : ((fs ++ [mkF x1 x2 B]).length : Int) = (fs.length : Int) + 1 := by simp
    refine s_define (B := B) (n := (fs.length : Int)) ⟨rc1.2.1.1, by omega, by omega⟩ hx2 (fun j h1 h2 => ⟨(hB j h1 h2).2.1, e5 g j h1 h2⟩) (fun μ2 f1 f2 f3 f4 f5 f6 => ?_)
    rw [f5]
    refine ⟨⟨by omega, by omega⟩, hK _ _ (fun K' hK' => ?_)⟩
    have rm2 : RM μ2 tp fs cl ls nt cs := rm1.fr (fun a k h => f1 a k (by omega) (by omega) (by omega) (by omega) (by omega))
    refine modelStart _ _ rm2.2.1.1 ?_
    have hx0 : ∀ a k, ¬ frf (fs.length : Int) a k → z_upd (z_upd μ2 248 10 0) 248 13 x1 a k = μ2 a k := fun a k g => by
      unfold frf at g
      rw [zu_f (by omega), zu_f (by omega)]
    refine s_readsFunction ho.1 (rm2.1.rf hx0) (MF.rf ho.1 rm2.2.1 hx0) hl5 hx1 hx2 (by rw [zu_k (by decide), zu_s]) zu_s (fun μ3 k1 k2 k3 k4 k5 => ?_)
    rw [hRR] at k2 k5 ⊢
    rw [hBB] at k5
    rw [if_neg g]
    have hy : ∀ a k, ¬ frf (fs.length : Int) a k → μ3 a k = μ2 a k := fun a k g => (k1 a k g).trans (hx0 a k g)
    have v4 : μ3 248 4 = (fs.length : Int) := (hy _ _ (by unfold frf; omega)).trans rm2.2.1.1
    simp only [z_wr]
    have r1 : z_upd μ3 252 (μ3 248 4) x1 248 4 = (fs.length : Int) := (zu_n (by decide)).trans v4
    rw [r1]
    have r2 : z_upd (z_upd μ3 252 (μ3 248 4) x1) 253 (fs.length : Int) x2 248 4 = (fs.length : Int) := (zu_n (by decide)).trans r1
    rw [r2, v4]
    have hz : ∀ a k, ¬ (a = 252 ∧ k = (fs.length : Int)) → ¬ (a = 253 ∧ k = (fs.length : Int)) → ¬ (a = 248 ∧ k = 4) → z_upd (z_upd (z_upd μ3 252 (fs.length : Int) x1) 253 (fs.length : Int) x2) 248 4 ((fs.length : Int) + 1) a k = μ3 a k := fun a k h1 h2 h3 => by rw [zu_f h3, zu_f h2, zu_f h1]
    have z1 : z_upd (z_upd (z_upd μ3 252 (fs.length : Int) x1) 253 (fs.length : Int) x2) 248 4 ((fs.length : Int) + 1) 252 (fs.length : Int) = x1 := by rw [zu_n (by decide), zu_n (by decide), zu_s]
    have z2 : z_upd (z_upd (z_upd μ3 252 (fs.length : Int) x1) 253 (fs.length : Int) x2) 248 4 ((fs.length : Int) + 1) 253 (fs.length : Int) = x2 := by rw [zu_n (by decide), zu_s]
    have z3 : z_upd (z_upd (z_upd μ3 252 (fs.length : Int) x1) 253 (fs.length : Int) x2) 248 4 ((fs.length : Int) + 1) 248 4 = (fs.length : Int) + 1 := zu_s
    generalize z_upd (z_upd (z_upd μ3 252 (fs.length : Int) x1) 253 (fs.length : Int) x2) 248 4 ((fs.length : Int) + 1) = μ4 at hz z1 z2 z3 ⊢
    rw [z3]
    refine ⟨by omega, by omega, ⟨by omega, by omega⟩, ⟨by omega, by omega⟩, hK' _ ⟨tp, fs ++ [mkF x1 x2 B], cl, ls, nt, cs, ?_, ?_, okf, fun q hq => ?_, fun q hq => ?_⟩⟩
    · have E : ∀ a k, a < 248 → μ4 a k = μ2 a k := fun a k h => (hz a k (by omega) (by omega) (by omega)).trans (hy a k (by unfold frf; omega))
      have E1 : ∀ a k, a < 248 → ¬ (a = 208 ∧ k = (fs.length : Int)) → ¬ (a = 209 ∧ k = (fs.length : Int)) → ¬ (a = 211 ∧ k = 97 + (fs.length : Int)) → ¬ (a = 207 ∧ k = 4) → ¬ (115 + 9 * (fs.length : Int) ≤ a ∧ a ≤ 115 + 9 * (fs.length : Int) + 8) → μ4 a k = μ1 a k := fun a k h h1 h2 h3 h4 h5 => (E a k h).trans (f1 a k h1 h2 h3 h4 h5)
      obtain ⟨p1, p2, p3, p4, p5, p6, p7⟩ := rc1
      refine ⟨p1.fr (E1 _ _ (by omega) (by omega) (by omega) (by omega) (by omega) (by omega)) (fun k => E1 _ _ (by omega) (by omega) (by omega) (by omega) (by omega) (by omega)), ⟨?_, by simp; omega, fun f h1 h2 => ?_, fun c h1 h2 => ?_⟩, ?_, ?_, p5.fr (E1 _ _ (by omega) (by omega) (by omega) (by omega) (by omega) (by omega)) (fun k => E1 _ _ (by omega) (by omega) (by omega) (by omega) (by omega) (by omega)) (fun k => E1 _ _ (by omega) (by omega) (by omega) (by omega) (by omega) (by omega)), p6.fr (E1 _ _ (by omega) (by omega) (by omega) (by omega) (by omega) (by omega)) (fun k => E1 _ _ (by omega) (by omega) (by omega) (by omega) (by omega) (by omega)), p7.fr (fun a k h h' => E1 _ _ (by omega) (by omega) (by omega) (by omega) (by omega) (by omega))⟩
      · rw [E _ _ (by omega), f5, hlen]
      · by_cases ef : f = (fs.length : Int)
        · subst ef
          rw [gf_app2, E _ _ (by omega), E _ _ (by omega)]
          refine ⟨f2, f3, fun w hw => ?_⟩
          obtain ⟨j, j1, j2, j3, j4, j5⟩ := fB_mk hx2 hw
          obtain ⟨w1, w2, -⟩ := hw
          obtain ⟨t1, t2⟩ := f6 j j1 j2
          rw [j3] at t1 t2
          rw [j4]
          exact ⟨by rw [E _ _ (by omega)]; exact t1, t2.ex (fun i _ _ => E _ _ (by omega))⟩
        · rw [gf_app1 (by omega)]
          obtain ⟨q1, q2, q3⟩ := p2.2.2.1 f h1 (by omega)
          refine ⟨by rw [E1 _ _ (by omega) (by omega) (by omega) (by omega) (by omega) (by omega)]; exact q1, by rw [E1 _ _ (by omega) (by omega) (by omega) (by omega) (by omega) (by omega)]; exact q2, fun w hw => ?_⟩
          obtain ⟨t1, t2⟩ := q3 w hw
          obtain ⟨w1, w2, -⟩ := hw
          exact ⟨by rw [E1 _ _ (by omega) (by omega) (by omega) (by omega) (by omega) (by omega)]; exact t1, t2.ex (fun i _ _ => E1 _ _ (by omega) (by omega) (by omega) (by omega) (by omega) (by omega))⟩
      · rw [arf_app]
        by_cases ec : c = 97 + (fs.length : Int)
        · rw [if_pos ec, ec, E _ _ (by omega)]; exact f4
        · rw [if_neg ec, E1 _ _ (by omega) (by omega) (by omega) (by omega) (by omega) (by omega)]
          exact p2.2.2.2 c h1 h2
      · have p3' := p3.fr (μ' := μ4) (fun a h k => E1 _ _ (by omega) (by omega) (by omega) (by omega) (by omega) (by omega)) (E1 _ _ (by omega) (by omega) (by omega) (by omega) (by omega) (by omega))
        cases cl with
        | none => exact p3'
        | some q =>
          obtain ⟨o1, o2, -⟩ := ho.2.1 q rfl
          exact ⟨p3'.1, Tm_app hl5 o1 p3'.2.1, Tm_app hl5 o2 p3'.2.2⟩
      · have p4' := p4.fr (μ' := μ4) (fun a h k => E1 _ _ (by omega) (by omega) (by omega) (by omega) (by omega) (by omega)) (E1 _ _ (by omega) (by omega) (by omega) (by omega) (by omega) (by omega))
        refine ⟨p4'.1, p4'.2.1, fun k h1 h2 => ?_⟩
        obtain ⟨t1, t2⟩ := p4'.2.2 k h1 h2
        have hmem : gl ls k ∈ ls := by
          unfold gl
          rw [List.getD_eq_getElem?_getD, List.getElem?_eq_getElem (by omega)]
          exact List.getElem_mem _
        obtain ⟨o1, o2, -⟩ := ho.2.2 _ hmem
        exact ⟨Tm_app hl5 o1 t1, Tm_app hl5 o2 t2⟩
    · have E : ∀ a k, ¬ frf (fs.length : Int) a k → ¬ (a = 252 ∧ k = (fs.length : Int)) → ¬ (a = 253 ∧ k = (fs.length : Int)) → ¬ (a = 248 ∧ k = 4) → μ4 a k = μ2 a k := fun a k h h1 h2 h3 => (hz a k h1 h2 h3).trans (hy a k h)
      obtain ⟨p1, p2, p3, p4, p5, p6⟩ := rm2
      have e0 : ∀ k, k ≠ 4 → ¬ (10 ≤ k ∧ k ≤ 14) → μ4 248 k = μ2 248 k := fun k h1 h2 => E _ _ (by unfold frf; omega) (by omega) (by omega) (by omega)
      have e1 : ∀ a, ¬ (252 ≤ a ∧ a ≤ 256) → a ≠ 248 → ∀ k, μ4 a k = μ2 a k := fun a h1 h2 k => E _ _ (by unfold frf; omega) (by omega) (by omega) (by omega)
      refine ⟨p1.fr (e0 _ (by omega) (by omega)) (e1 _ (by omega) (by omega)), ⟨by rw [z3, hlen], by simp; omega, fun f h1 h2 => ?_⟩, p3.fr (fun q hq => by have := ho.2.1 q hq; omega) (e0 _ (by omega) (by omega)) (fun k _ => e1 _ (by omega) (by omega) _) (fun k _ => e1 _ (by omega) (by omega) _), p4.fr (e0 _ (by omega) (by omega)) (fun k _ => e1 _ (by omega) (by omega) _) (fun k _ => e1 _ (by omega) (by omega) _), p5.fr (e0 _ (by omega) (by omega)) (fun k => e1 _ (by omega) (by omega) _) (fun k => e1 _ (by omega) (by omega) _), p6.fr (e0 _ (by omega) (by omega)) (e0 _ (by omega) (by omega)) (e0 _ (by omega) (by omega)) (e0 _ (by omega) (by omega))⟩
      by_cases ef : f = (fs.length : Int)
      · subst ef
        rw [gf_app2]
        refine ⟨z1, z2, fun w hw => ?_⟩
        obtain ⟨j, j1, j2, j3, j4, j5⟩ := fB_mk hx2 hw
        obtain ⟨t1, t2⟩ := k5 g j j1 j2
        rw [j3] at t1 t2
        rw [j4]
        exact ⟨by rw [hz _ _ (by omega) (by omega) (by omega)]; exact t1, t2.ex (fun i _ _ => hz _ _ (by omega) (by omega) (by omega))⟩
      · rw [gf_app1 (by omega)]
        obtain ⟨q1, q2, q3⟩ := (MF.rf ho.1 p2 hy).2.2 f h1 (by omega)
        refine ⟨by rw [hz _ _ (by omega) (by omega) (by omega)]; exact q1, by rw [hz _ _ (by omega) (by omega) (by omega)]; exact q2, fun w hw => ?_⟩
        obtain ⟨t1, t2⟩ := q3 w hw
        exact ⟨by rw [hz _ _ (by omega) (by omega) (by omega)]; exact t1, t2.ex (fun i _ _ => hz _ _ (by omega) (by omega) (by omega))⟩
    · have := ho.2.1 q hq
      exact ⟨okT_app hl5 this.1, okT_app hl5 this.2.1, this.2.2⟩
    · have := ho.2.2 q hq
      exact ⟨okT_app hl5 this.1, okT_app hl5 this.2.1, this.2.2⟩
