theorem s_valueLoop {fs : List Fn} {z4 : Int} {R : Int × Int} {μ0 : ZM} {K : Int → ZM → Prop} (ho : okF fs) (hF : CF μ0 fs) (h : ∀ μ', (∀ a k, ¬ evc a → μ' a k = μ0 a k) → (R.1 ≠ -9 → μ' 215 2 = R.2) → K R.1 μ') (n : Nat) (x5 : Int) (μ : ZM) (hI : ∃ w f fr st, EC μ z4 w (f :: fr) st ∧ okE fs n w (f :: fr) st ∧ 0 ≤ x5 ∧ x5 + (n : Int) ≤ 701 ∧ ev fs n w (f :: fr) st = R ∧ ∀ a k, ¬ evc a → μ a k = μ0 a k) : P_X2_valueOf_49 z4 x5 μ K := by
  have hl := hF.2.1
  refine z_lf1_ix (fun n x5 μ => ∃ w f fr st, EC μ z4 w (f :: fr) st ∧ okE fs n w (f :: fr) st ∧ 0 ≤ x5 ∧ x5 + (n : Int) ≤ 701 ∧ ev fs n w (f :: fr) st = R ∧ ∀ a k, ¬ evc a → μ a k = μ0 a k) ?_ n x5 μ hI
  intro n x5 μ G ⟨w, f, fr, st, hC, hok, hx0, hx, hR, hfr⟩ hG
  obtain ⟨e1, e2, e3, e4, e5⟩ := id hC
  obtain ⟨t1, t2, t3, t4, t5, t6⟩ := e4.1
  have hb := okE_bd ho hok
  have hi : μ 215 8 = (fr.length : Int) := by rw [e2]; simp
  have hfl : (fr.length : Int) ≤ w := by
    have := hok.2.2.1
    simp at this
    omega
  have hw60 := hok.2.1
  have hfok := hok.2.2.2.2.2.1.1
  have hat0 := hfok.2.1
  have hat1 := hfok.2.2.1
  have hlen40 := hfok.2.2.2.2.2.2
  have main : ¬ (f.2.1 ≤ 0 ∧ fr = []) → P_X2_valueOf_96 G z4 x5 μ K := by
    intro hne
    unfold P_X2_valueOf_96
    rw [hi, t3]
    refine ⟨by omega, ifb (fun g => ?_) (fun g => ?_)⟩
    · simp only [z_wr]
      rw [show z_upd μ 218 (fr.length : Int) (f.2.1 - 1) 215 8 = (fr.length : Int) from (zu_n (by decide)).trans hi]
      rw [show z_upd μ 218 (fr.length : Int) (f.2.1 - 1) 218 (fr.length : Int) = f.2.1 - 1 from zu_s]
      rw [show z_upd μ 218 (fr.length : Int) (f.2.1 - 1) 217 (fr.length : Int) = μ 217 (fr.length : Int) from zu_n (by decide)]
      have htm := t1
      unfold z_tm at htm
      have hcode : z_upd μ 218 (fr.length : Int) (f.2.1 - 1) (μ 217 (fr.length : Int) + 1) (f.2.1 - 1) = cd f := by
        rw [zu_n (by omega)]
        exact t2.2 _ (by omega) (by omega)
      rw [hcode]
      have hC' : EC (z_upd μ 218 (fr.length : Int) (f.2.1 - 1)) z4 w (dn f :: fr) st := by
        refine ⟨?_, ?_, ?_, ⟨?_, ?_⟩, ?_⟩
        · rw [zu_n (by decide)]; exact e1
        · rw [zu_n (by decide)]; exact e2
        · rw [zu_n (by decide)]; exact e3
        · unfold clF
          rw [show z_upd μ 218 (fr.length : Int) (f.2.1 - 1) 217 (fr.length : Int) = μ 217 (fr.length : Int) from zu_n (by decide)]
          refine ⟨t1, ⟨by rw [zu_n (by omega)]; exact t2.1, t2.2.ex (fun j _ _ => zu_n (by omega))⟩, zu_s, by rw [zu_n (by decide)]; exact t4, fun q => by rw [zu_n (by decide)]; exact t5 q, t6⟩
        · exact fk_ex e4.2 (fun i g h1 h2 q => q.ex (fun a k ha => zu_n (by omega)) (fun a h3 h4 => zu_k (by omega)))
        · exact sk_ex e5 (fun i _ _ => zu_n (by decide))
      have hfr' : ∀ a k, ¬ evc a → z_upd μ 218 (fr.length : Int) (f.2.1 - 1) a k = μ0 a k := fun a k q => by
        rw [zu_n (by unfold evc at q; omega)]; exact hfr a k q
      have hF' : CF (z_upd μ 218 (fr.length : Int) (f.2.1 - 1)) fs := hF.fr (fun a ha k => hfr' a k (by unfold evc; omega)) (hfr' _ _ (by unfold evc; omega))
      have bad : R = (-9, 0) → ∀ μ', (∀ a k, ¬ evc a → μ' a k = μ0 a k) → K (-9) μ' := by
        intro q μ' hm
        subst q
        exact h μ' hm (fun q => absurd rfl q)
      refine ⟨by omega, ⟨by omega, by omega⟩, by omega, by omega, t1, by omega, by omega, s_isLetter (fun q => if1 ⟨⟨by omega, by omega⟩, ?_⟩) (fun q => if0 ?_)⟩
      · refine s_call ho hF' hok g hC' q hR (fun hr => ?_) (fun μ' st' k1 k2 k3 k4 k5 => ?_)
        · exact if0 (bad hr _ hfr')
        · refine if1 ⟨⟨by omega, by omega⟩, hG (n - 1) _ _ (by omega) ⟨_, _, _, _, k2, k4, by omega, by omega, k5, fun a k hk => (k1 a k hk).trans (hfr' a k hk)⟩⟩
      · refine s_take ho hl hok g hC' q hR (fun hr => ?_) (fun μ' st' k1 k2 k3 k4 k5 => ?_)
        · exact if0 (bad hr _ hfr')
        · refine if1 ⟨⟨by omega, by omega⟩, hG (n - 1) _ _ (by omega) ⟨_, _, _, _, k2, k4, by omega, by omega, k5, fun a k hk => (k1 a k (by unfold evc at hk; omega) (by unfold evc at hk; omega)).trans (hfr' a k hk)⟩⟩
    · cases fr with
      | nil => exact absurd ⟨by omega, rfl⟩ hne
      | cons g2 fr =>
        obtain ⟨k3, k4⟩ := okE_pop hok (by omega)
        rw [ev_cons k3, if_pos (by omega)] at hR
        refine ⟨⟨by omega, by omega⟩, ⟨by omega, by omega⟩, hG (n - 1) _ _ (by omega) ⟨w, g2, fr, st, ⟨?_, ?_, ?_, ?_, ?_⟩, k4, by omega, by omega, hR, fun a k hk => ?_⟩⟩
        · rw [zu_k (by decide)]; exact e1
        · rw [zu_s]
        · rw [zu_k (by decide)]; exact e3
        · exact fk_ex e4.2 (fun i g h1 h2 q => q.ex (fun a k ha => zu_n (by omega)) (fun a h3 h4 => zu_n (by omega)))
        · exact sk_ex e5 (fun i _ _ => zu_n (by decide))
        · rw [zu_n (by unfold evc at hk; omega)]; exact hfr a k hk
  refine ifb (fun g => absurd g (by omega)) (fun _ => ?_)
  rw [hi, t3]
  refine ⟨by omega, ifb (fun g => main (by omega)) (fun g => ifb (fun g1 => ?_) (fun g1 => main (fun q => by rw [q.2] at g1; exact g1 rfl)))⟩
  have hnil : fr = [] := List.length_eq_zero_iff.mp (by omega)
  subst hnil
  obtain ⟨k3, k4⟩ := okE_pop hok (by omega)
  rw [ev_cons k3, if_pos (by omega), ev_nil] at hR
  have hs1 : (st.length : Int) = 1 := k4.2.2.2.2.1
  rw [if_pos (by omega)]
  have hv := sk_hd e5 (by omega)
  rw [hs1] at hv
  refine ⟨by omega, ?_⟩
  rw [show (0 : Int) = 1 - 1 by decide, hv]
  subst hR
  exact h μ hfr (fun _ => e1)
theorem okE_0 {fs : List Fn} {T : List Int} {x y z : Int} (hT : okT fs T) (hl : T.length ≤ 40) (hx : 0 ≤ x ∧ x ≤ 99) (hy : 121 ∈ T → 0 ≤ y ∧ y ≤ 99) (hz : 0 ≤ z ∧ z ≤ 99) : okE fs 701 0 [(T, (T.length : Int), x, y, z)] [] := by
  have pz : pnf fs (T, (T.length : Int), x, y, z) = 0 := by
    show pn fs 1 (T.take (T.length : Int).toNat) = 0
    rw [List.take_of_length_le (by omega)]
    exact (pw_iff.mp hT.1).2
  refine ⟨by omega, by omega, by simp, fun v hv => absurd hv (by simp), ?_, ⟨⟨hT, by show (0 : Int) ≤ (T.length : Int); omega, Int.le_refl _, fun _ => hx, hy, fun _ => hz, hl⟩, Or.inr rfl, fun g hg => absurd hg (by simp)⟩, ?_, ?_⟩
  · show (0 : Int) = 1 + ((pnf fs (T, (T.length : Int), x, y, z) - 1) + 0)
    rw [pz]; rfl
  · show ((T.length : Int) + 1) / 2 + 0 ≤ 20 + 5 * 0
    omega
  · show ((T.length : Int) + 1) + 0 + 11 * (60 - 0) ≤ ((701 : Nat) : Int)
    omega
theorem s_valueOf {fs : List Fn} {T : List Int} {t x y z : Int} {μ : ZM} {K : Int → ZM → Prop} (ho : okF fs) (hF : CF μ fs) (ht : z_tm t) (htx : tx μ t T) (hT : okT fs T) (hl : T.length ≤ 40) (hx : 0 ≤ x ∧ x ≤ 99) (hy : 121 ∈ T → 0 ≤ y ∧ y ≤ 99) (hz : 0 ≤ z ∧ z ≤ 99) (h : ∀ μ', (∀ a k, ¬ evc a → μ' a k = μ a k) → ((ev fs 701 0 [(T, (T.length : Int), x, y, z)] []).1 ≠ -9 → μ' 215 2 = (ev fs 701 0 [(T, (T.length : Int), x, y, z)] []).2) → K (ev fs 701 0 [(T, (T.length : Int), x, y, z)] []).1 μ') : P_X2_valueOf t x y z μ K := by
  unfold P_X2_valueOf
  simp only [z_wr]
  have b := ht
  unfold z_tm at b
  refine ⟨ht, by omega, by omega, by omega, by omega, ?_⟩
  have r : z_upd (z_upd (z_upd (z_upd μ 215 2 0) 215 9 0) 215 8 0) 217 0 t t 2 = (T.length : Int) := by
    rw [zu_n (by omega), zu_n (by omega), zu_n (by omega), zu_n (by omega)]; exact htx.1
  rw [r]
  generalize hM : z_upd (z_upd (z_upd (z_upd (z_upd (z_upd (z_upd μ 215 2 0) 215 9 0) 215 8 0) 217 0 t) 218 0 (T.length : Int)) 219 0 x) 220 0 y = μ1
  have m0 : ∀ a k, ¬ evc a → μ1 a k = μ a k := fun a k q => by
    unfold evc at q
    rw [← hM, zu_n (by omega), zu_n (by omega), zu_n (by omega), zu_n (by omega), zu_n (by omega), zu_n (by omega), zu_n (by omega)]
  have m217 : μ1 217 0 = t := by rw [← hM]; simp [z_upd]
  refine s_valueLoop (R := ev fs 701 0 [(T, (T.length : Int), x, y, z)] []) ho hF h 701 0 μ1 ⟨0, (T, (T.length : Int), x, y, z), [], [], ⟨?_, ?_, ?_, ⟨?_, trivial⟩, trivial⟩, okE_0 hT hl hx hy hz, by omega, by omega, rfl, m0⟩
  · rw [← hM]; simp [z_upd]
  · rw [← hM]; simp [z_upd]
  · rw [← hM]; simp [z_upd]
  · show clF μ1 z 0 _
    unfold clF
    rw [m217]
    refine ⟨ht, ⟨(m0 _ _ (by unfold evc; omega)).trans htx.1, htx.2.ex (fun i _ _ => m0 _ _ (by unfold evc; omega))⟩, ?_, ?_, fun _ => ?_, fun _ => rfl⟩
    · rw [← hM]; simp [z_upd]
    · rw [← hM]; simp [z_upd]
    · rw [← hM]; simp [z_upd]
