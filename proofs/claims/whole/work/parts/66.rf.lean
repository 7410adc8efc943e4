/-! the reference's observed cells -/
def oM (a k : Int) : Prop := (a = 248 ∧ (k = 3 ∨ k = 4 ∨ k = 9 ∨ k = 35 ∨ k = 39 ∨ (42 ≤ k ∧ k ≤ 45))) ∨ (a = 249 ∧ (k < 256 ∨ 3584 ≤ k)) ∨ (a = 250 ∧ (k < 2 ∨ 28 ≤ k)) ∨ (251 ≤ a ∧ a ≤ 255) ∨ (270 ≤ a ∧ a ≤ 271)
theorem RM.sc {μ μ' : ZM} {tp : List Int} {fs : List Fn} {cl : Option (List Int × List Int)} {ls : List (List Int × List Int)} {nt : List (Int × Int)} {cs : List Int} (hm : RM μ tp fs cl ls nt cs) (ho : okA fs cl ls) (e : ∀ a k, oM a k → μ' a k = μ a k) : RM μ' tp fs cl ls nt cs := by
  obtain ⟨m1, m2, m3, m4, m5, m6⟩ := hm
  exact ⟨m1.fr (e _ _ (by unfold oM; omega)) (fun k => e _ _ (by unfold oM; omega)), m2.fr (fun a ha k => e _ _ (by unfold oM; omega)) (e _ _ (by unfold oM; omega)), m3.fr (fun q hq => by have := ho.2.1 q hq; omega) (e _ _ (by unfold oM; omega)) (fun k h => e _ _ (by unfold oM; omega)) (fun k h => e _ _ (by unfold oM; omega)), m4.fr (e _ _ (by unfold oM; omega)) (fun k h => e _ _ (by unfold oM; omega)) (fun k h => e _ _ (by unfold oM; omega)), m5.fr (e _ _ (by unfold oM; omega)) (fun k => e _ _ (by unfold oM; omega)) (fun k => e _ _ (by unfold oM; omega)), m6.fr (e _ _ (by unfold oM; omega)) (e _ _ (by unfold oM; omega)) (e _ _ (by unfold oM; omega)) (e _ _ (by unfold oM; omega))⟩
/-- the class worked on cells of no account -/
theorem RC.sc {μ μ' : ZM} {tp : List Int} {fs : List Fn} {cl : Option (List Int × List Int)} {ls : List (List Int × List Int)} {nt : List (Int × Int)} {cs : List Int} (hc : RC μ tp fs cl ls nt cs) (hm : RM μ tp fs cl ls nt cs) (e : ∀ a k, oC a k ∨ 248 ≤ a → μ' a k = μ a k) : RC μ' tp fs cl ls nt cs ∧ RM μ' tp fs cl ls nt cs := ⟨hc.fr (fun a k h => e a k (Or.inl h)), hm.fr (fun a k h => e a k (Or.inr h))⟩
theorem Inv.sc {μ μ' : ZM} {tp : List Int} {fs : List Fn} {cl : Option (List Int × List Int)} {ls : List (List Int × List Int)} {nt : List (Int × Int)} {cs : List Int} (hc : RC μ tp fs cl ls nt cs) (hm : RM μ tp fs cl ls nt cs) (ho : okA fs cl ls) (e : ∀ a k, oM a k ∨ a < 248 → μ' a k = μ a k) : Inv μ' := ⟨tp, fs, cl, ls, nt, cs, hc.frM (fun a k h => e a k (Or.inr h)), hm.sc ho (fun a k h => e a k (Or.inl h)), ho⟩
def gs (q : List Int × List Int) (w : Int) : List Int := if w = 0 then q.1 else q.2
theorem gs_C {μ : ZM} {fs : List Fn} {q : List Int × List Int} {w c : Int} (hw : 0 ≤ w ∧ w ≤ 1) (h1 : Tm μ fs (6 * (c - 187) + 1) q.1) (h2 : Tm μ fs (6 * (c - 187) + 4) q.2) : Tm μ fs (6 * (c - 187) + 1 + 3 * w) (gs q w) := by
  unfold gs
  by_cases g : w = 0
  · rw [if_pos g, g, show 6 * (c - 187) + 1 + 3 * 0 = 6 * (c - 187) + 1 by omega]; exact h1
  · rw [if_neg g, show w = 1 by omega, show 6 * (c - 187) + 1 + 3 * 1 = 6 * (c - 187) + 4 by omega]; exact h2
theorem gs_M {μ : ZM} {q : List Int × List Int} {w s : Int} (hw : 0 ≤ w ∧ w ≤ 1) (h1 : Sl μ s q.1) (h2 : Sl μ (s + 1) q.2) : Sl μ (s + w) (gs q w) := by
  unfold gs
  by_cases g : w = 0
  · rw [if_pos g, g, Int.add_zero]; exact h1
  · rw [if_neg g, show w = 1 by omega]; exact h2
theorem s_part {c w : Int} {μ : ZM} {K : Int → ZM → Prop} (hc : z_cm c) (hw : 0 ≤ w ∧ w ≤ 1) (h : K (6 * (c - 187) + 1 + 3 * w) μ) : P_X0_part c w μ K := by
  refine ⟨hc, ifb (fun g => ?_) (fun g => ?_)⟩
  · rw [g] at h
    rw [show 6 * (c - 187) + 1 + 3 * 0 = 6 * (c - 187) + 1 by omega] at h; exact h
  · rw [show w = 1 by omega, show 6 * (c - 187) + 1 + 3 * 1 = 6 * (c - 187) + 4 by omega] at h; exact h
theorem gs_ok {fs : List Fn} {q : List Int × List Int} {w : Int} {m : Nat} (h : okT fs q.1 ∧ okT fs q.2 ∧ q.1.length ≤ m ∧ q.2.length ≤ m) : okT fs (gs q w) ∧ (gs q w).length ≤ m := by
  unfold gs
  by_cases g : w = 0
  · rw [if_pos g]; exact ⟨h.1, h.2.2.1⟩
  · rw [if_neg g]; exact ⟨h.2.1, h.2.2.2⟩
theorem op_normal {x1 x2 : Int} {μ : ZM} (hI : Inv μ) {K : Int → ZM → Prop} (hK : ∀ r μ1, Ans (P_X12_normal x1 x2 μ1) r → K r μ1) : P_X11_normal x1 x2 μ K := by
  have hI0 := hI
  obtain ⟨tp, fs, cl, ls, nt, cs, hc, hm, ho⟩ := hI
  obtain ⟨c1, c2, c3, c4, c5, c6, c7⟩ := id hc
  have key : ∀ r : Int, (∀ K' : Int → ZM → Prop, K' r μ → P_X12_normal x1 x2 μ K') → K r μ := fun r h => hK _ _ (Ans.same hI0 h)
  have mid : ∀ (μ1 : ZM) (K' : Int → ZM → Prop), 0 ≤ x1 ∧ x1 ≤ 1 → (x2 = -9 ∨ (0 ≤ x2 ∧ x2 < 40)) → P_X12_normal_28 x1 x2 μ1 K' → P_X12_normal x1 x2 μ1 K' := fun μ1 K' g1 g2 h => s_wi (fun _ => if1 (ifb (fun _ => h) (fun g => s_wi (fun _ => if1 h) (fun y => absurd (by omega) y)))) (fun y => absurd g1 y)
  refine s_out (fun h => if1 (key _ (fun K' h' => s_wi (fun g => absurd g (by omega)) (fun _ => if0 h')))) (fun h => if0 (s_nop (by omega) (fun h1 => if1 (key _ (fun K' h' => s_wi (fun _ => if1 (ifb (fun g => absurd g (by omega)) (fun _ => s_wi (fun y => absurd y (by omega)) (fun _ => if0 h')))) (fun g => absurd h g)))) (fun h1 => if0 ?_)))
  cases cl with
  | none =>
    have e1 : μ 206 11 = 0 := c3
    have e2 : μ 248 9 = 0 := hm.2.2.1
    rw [if_pos e1]
    refine key _ (fun K' h' => mid _ _ h h1 ?_)
    unfold P_X12_normal_28
    rw [if_pos e2]; exact h'
  | some q =>
    obtain ⟨e1, t1, t2⟩ := id c3
    have hq := ho.2.1 q rfl
    obtain ⟨g1, g2⟩ := gs_ok (w := x1) hq
    rw [if_neg (by omega)]
    have tm : Tm μ fs (6 * (204 - 187) + 1 + 3 * x1) (gs q x1) := gs_C (c := 204) h t1 t2
    have esb : sbx (-9) 0 0 (gs q x1) = gs q x1 := by unfold sbx; rw [if_pos (by decide)]
    -- the reference, from where the class ended
    have back : ∀ μ1 : ZM, (∀ a k, oC a k ∨ 248 ≤ a → μ1 a k = μ a k) → ∀ r : Int, (nm fs (gs q x1) = none → r = -3) → (∀ V, nm fs (gs q x1) = some V → r = so V x2) → K r μ1 := by
      intro μ1 f1 r hr0 hr1
      obtain ⟨hc1, hm1⟩ := hc.sc hm f1
      refine hK _ _ (fun K' hK' => mid _ _ h h1 ?_)
      obtain ⟨y1, y2, y3⟩ := hm1.2.2.1
      unfold P_X12_normal_28
      rw [if_neg (by omega)]
      refine ⟨⟨by omega, by omega⟩, s_makesNormal ho.1 hm1.2.1 (by omega) (by omega) (gs_M h y2 y3) g1 (by omega) (fun hn μ2 f2 => ?_) (fun V hn μ2 f2 s2 => ?_)⟩
      · rw [if_pos rfl, ← hr0 hn]
        exact hK' μ2 (Inv.sc hc1 hm1 ho (fun a k y => f2 a k (by unfold oM at y; unfold nvm; omega)))
      · rw [if_neg (by decide)]
        have gv := nm_ok ho.1 c2.2.1 g1 (by omega) hn
        refine s_told (T := V) (by omega) s2 (by have := gv.2; omega) (by omega) ?_
        rw [← hr1 V hn]
        exact hK' μ2 (Inv.sc hc1 hm1 ho (fun a k y => f2 a k (by unfold oM at y; unfold nvm; omega) (by unfold oM at y; omega) (by unfold oM at y; omega)))
    refine s_part (by decide) h ⟨by unfold z_tm; omega, s_rewrite (T := gs q x1) ho.1 c2 c7 (by unfold z_tm; omega) (by decide) (by omega) ⟨tm.1, tm.2.1⟩ g1 (by omega) (Or.inl rfl) (fun hn μ1 f1 => ?_) (fun V hn μ1 f1 s1 => ?_)⟩
    · rw [esb] at hn
      rw [if_pos rfl]
      exact back μ1 (fun a k y => f1 a k (by unfold oC at y; unfold nvc; omega) (by unfold oC at y; omega) (by unfold oC at y; omega) (by unfold oC at y; omega)) _ (fun _ => rfl) (fun V hV => absurd hV (by rw [hn]; simp))
    · rw [esb] at hn
      rw [if_neg (by decide)]
      have gv := nm_ok ho.1 c2.2.1 g1 (by omega) hn
      refine s_sym (T := V) (by decide) s1.1 s1.2.1 gv.2 ?_
      exact back μ1 (fun a k y => f1 a k (by unfold oC at y; unfold nvc; omega) (by unfold oC at y; omega) (by unfold oC at y; omega) (by unfold oC at y; omega)) _ (fun hV => absurd hV (by rw [hn]; simp)) (fun W hW => by rw [hn] at hW; rw [Option.some.inj hW])
