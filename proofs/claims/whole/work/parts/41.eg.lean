theorem MF.ev1 {μ μ' : ZM} {fs : List Fn} (h : MF μ fs) (e : ∀ a k, ¬ evm a k → μ' a k = μ a k) : MF μ' fs := h.fr (fun a ha k => e _ _ (by unfold evm; omega)) (e _ _ (by unfold evm; omega))
theorem s_takesSign {fs : List Fn} {n : Nat} {w : Int} {f : Fr} {fr : List Fr} {st : List Int} {μ : ZM} {R : Int × Int} {K : Int → ZM → Prop} (ho : okF fs) (hF : MF μ fs) (hok : okE fs n w (f :: fr) st) (h0 : 0 < f.2.1) (hC : EM μ w (dn f :: fr) st) (hR : ev fs n w (f :: fr) st = R) (hfail : R = (-9, 0) → ∀ μ', (∀ a k, ¬ evm a k → μ' a k = μ a k) → K 0 μ') (hnext : ∀ μ' w' fr' st', (∀ a k, ¬ evm a k → μ' a k = μ a k) → EM μ' w' fr' st' → n ≠ 0 → okE fs (n - 1) w' fr' st' → ev fs (n - 1) w' fr' st' = R → K 1 μ') : P_X12_takesSign (fr.length : Int) (cd f) μ K := by
  have hb := okE_bd ho hok
  have hl := hF.2.1
  obtain ⟨e1, e2, e3, e4, e5⟩ := id hC
  have hmem : cd f ∈ f.1 := cd_mem ⟨h0, hok.2.2.2.2.2.1.1.2.2.1⟩
  have hcv : cv fs (cd f) := hok.2.2.2.2.2.1.1.1.2 _ hmem
  have hfl : (fr.length : Int) ≤ w := by
    have := hok.2.2.1
    simp at this
    omega
  have hw60 := hok.2.1
  have hw0 := hok.1
  have hn : n ≠ 0 := by
    have h1 := ph_pos hok.2.2.2.2.2.1.2.2
    have h2 : ph (f :: fr) = (f.2.1 + 1) + ph fr := rfl
    have := hok.2.2.2.2.2.2.2
    omega
  rw [ev_cons hn, if_neg (by omega)] at hR
  have pushed : ∀ v : Int, EM (z_upd (z_upd μ 257 (st.length : Int) v) 248 15 ((st.length : Int) + 1)) w (dn f :: fr) (v :: st) := by
    intro v
    refine ⟨?_, ?_, ?_, ?_, ?_⟩
    · rw [zu_k (by decide), zu_n (by decide)]; exact e1
    · rw [zu_k (by decide), zu_n (by decide)]; exact e2
    · rw [zu_s]; simp
    · exact fk_ex e4 (fun i g _ _ q => q.ex (fun k => by rw [zu_n (by decide), zu_n (by decide)]) (fun k => by rw [zu_n (by decide), zu_n (by decide)]) (fun a h1 h2 => by rw [zu_n (by omega), zu_n (by omega)]))
    · refine ⟨by rw [zu_n (by decide), zu_s], sk_ex e5 (fun i h1 h2 => by rw [zu_n (by decide), zu_k (by omega)])⟩
  have push : ∀ v : Int, arf fs (cd f) = 0 → 0 ≤ v ∧ v ≤ 99 → ev fs (n - 1) w (dn f :: fr) (v :: st) = R → P_X12_takesSign_123 (μ 248 15) v μ K := by
    intro v ha hv hRv
    unfold P_X12_takesSign_123
    simp only [z_wr]
    rw [zu_n (by decide), e3]
    refine ⟨by omega, ⟨by omega, by omega⟩, Or.inr rfl, hnext _ _ _ _ (fun a k q => ?_) (pushed v) hn (okE_push hok h0 ha hv).2 hRv⟩
    unfold evm at q
    rw [zu_f (by omega), zu_n (by omega)]
  have ha0 : ¬ (97 ≤ cd f ∧ cd f < 97 + (fs.length : Int)) → cd f ≠ 83 → arf fs (cd f) = 0 := by
    intro q q1
    unfold arf
    rw [if_neg q1, if_neg q]
  obtain ⟨k1, k2, k3, k4, k5, k6, -⟩ := hok.2.2.2.2.2.1.1
  obtain ⟨t1, t2, t3, t4, t5⟩ := e4.1
  refine ifb (fun g => ?_) (fun g => ifb (fun g1 => ?_) (fun g1 => ?_))
  · rw [if_neg (by omega), if_neg (by omega), if_neg (by omega), if_neg (by omega), if_pos g] at hR
    exact push 0 (ha0 (by omega) (by omega)) (by omega) hR
  · rw [if_pos g1] at hR
    obtain ⟨-, v, s, q1, q2, q3, q4⟩ := okE_succ hok h0 g1
    subst q1
    have hl9 : μ 248 15 - 1 = (s.length : Int) := by rw [e3]; simp
    have hv : μ 257 (μ 248 15 - 1) = v := by rw [hl9]; exact e5.1
    simp only [z_wr]
    rw [zu_n (show (248 : Int) ≠ 257 by decide), hv, hl9, zu_s]
    have fr0 : ∀ a k, ¬ evm a k → z_upd μ 257 (s.length : Int) (v + 1) a k = μ a k := fun a k q => by
      unfold evm at q
      rw [zu_n (by omega)]
    have hsl : (s.length : Int) ≤ 320 := by simp at hb; omega
    refine ⟨⟨by omega, by omega⟩, by omega, ⟨by omega, by omega⟩, by omega, ⟨by omega, by omega⟩, by omega, ifb (fun g2 => ⟨Or.inl rfl, hfail ?_ _ fr0⟩) (fun g2 => ⟨Or.inr rfl, hnext _ w (dn f :: fr) ((v + 1) :: s) fr0 ?_ hn (q4 (by omega)) ?_⟩)⟩
    · rw [if_neg (show ¬ (v :: s).headD 0 < 99 by show ¬ v < 99; omega)] at hR
      exact hR.symm
    · refine ⟨?_, ?_, ?_, ?_, ?_⟩
      · rw [zu_n (by decide)]; exact e1
      · rw [zu_n (by decide)]; exact e2
      · rw [zu_n (by decide)]; exact e3
      · exact fk_ex e4 (fun i g _ _ q => q.ex (fun k => zu_n (by decide)) (fun k => zu_n (by decide)) (fun a h1 h2 => zu_n (by omega)))
      · exact ⟨zu_s, sk_ex e5.2 (fun i h1 h2 => zu_k (by omega))⟩
    · rw [if_pos (show (v :: s).headD 0 < 99 by show v < 99; omega)] at hR
      exact hR
  · rw [if_neg g1] at hR
    refine s_isVar (fun g2 => if1 ?_) (fun g2 => if0 ?_)
    · refine ifb (fun g3 => ?_) (fun g3 => ifb (fun g4 => ?_) (fun g4 => ?_))
      · rw [if_pos g3] at hR
        rw [t3]
        exact ⟨by omega, push _ (ha0 (by omega) g1) (k4 (by rw [← g3]; exact hmem)) hR⟩
      · rw [if_neg g3, if_pos g4] at hR
        have hm : 121 ∈ f.1 := by rw [← g4]; exact hmem
        rw [t4 hm]
        exact ⟨by omega, push _ (ha0 (by omega) g1) (k5 hm) hR⟩
      · have g5 : cd f = 122 := by omega
        rw [if_neg g3, if_neg g4, if_pos g5] at hR
        rw [t5]
        exact ⟨by omega, push _ (ha0 (by omega) g1) (k6 (by rw [← g5]; exact hmem)) hR⟩
    · rw [if_neg (by omega), if_neg (by omega), if_neg (by omega), if_neg g] at hR
      have hfn : 0 ≤ cd f - 97 ∧ cd f - 97 < (fs.length : Int) := by unfold cv at hcv; omega
      obtain ⟨-, b1, b2, b3, b4⟩ := okE_call ho hok h0 hfn
      obtain ⟨f1, f2, f3⟩ := ho _ hfn.1 hfn.2
      have har : μ 252 (cd f - 97) = (gf fs (cd f - 97)).1 := (hF.2.2 _ hfn.1 hfn.2).1
      have hhd : μ 257 (μ 248 15 - 1) = st.headD 0 := by rw [e3]; exact sk_hd e5 (by omega)
      have fin : ∀ v2 : Int, v2 = (if (gf fs (cd f - 97)).1 = 2 then st.tail.headD 0 else 0) → P_X12_takesSign_180 (cd f - 97) (st.headD 0) v2 μ K := by
        intro v2 hv2
        refine ⟨by omega, ?_⟩
        rw [har, e3]
        refine ⟨⟨by omega, by omega⟩, ?_⟩
        have fr1 : ∀ a k, ¬ evm a k → z_upd μ 248 15 ((st.length : Int) - (gf fs (cd f - 97)).1) a k = μ a k := fun a k q => by
          unfold evm at q
          rw [zu_f (by omega)]
        refine s_calls (fs := fs) (w := w) (fr := dn f :: fr) (st := st.drop (gf fs (cd f - 97)).1.toNat) (v2p := v2) ho (hF.ev1 fr1) hfn ⟨b2, b3⟩ (fun _ => rfl) ?_ (by simp; omega) ⟨hw0, hw60⟩ (fun q μ' k => ⟨Or.inl rfl, hfail ?_ μ' (fun a k' hk => (k a k' hk).trans (fr1 a k' hk))⟩) (fun q μ' k kE => ⟨Or.inr rfl, hnext μ' _ _ _ (fun a k' hk => (k a k' hk).trans (fr1 a k' hk)) kE hn ?_ ?_⟩)
        · refine ⟨?_, ?_, ?_, ?_, ?_⟩
          · rw [zu_k (by decide)]; exact e1
          · rw [zu_k (by decide)]; exact e2
          · rw [zu_s, List.length_drop]; omega
          · exact fk_ex e4 (fun i g _ _ q => q.ex (fun k => zu_n (by decide)) (fun k => zu_n (by decide)) (fun a h1 h2 => zu_n (by omega)))
          · exact sk_ex (sk_drop _ e5) (fun i h1 h2 => zu_n (by decide))
        · rw [if_pos q] at hR; exact hR.symm
        · have := b4 q
          unfold cal at this
          rw [← hv2] at this
          exact this
        · rw [if_neg (by omega)] at hR
          unfold cal at hR
          rw [← hv2] at hR
          exact hR
      refine ⟨⟨by omega, by omega⟩, ⟨by omega, by omega⟩, by omega, by omega, ?_⟩
      rw [har, hhd]
      refine ifb (fun q => ⟨⟨by omega, by omega⟩, by omega, ?_⟩) (fun q => fin 0 (by rw [if_neg q]))
      have h2 : μ 257 (μ 248 15 - 2) = st.tail.headD 0 := by rw [e3]; exact sk_2 e5 (by omega)
      rw [h2]
      exact fin _ (by rw [if_pos q])
theorem s_works {fs : List Fn} {R : Int × Int} {μ0 : ZM} {K : Int → ZM → Prop} (ho : okF fs) (hF : MF μ0 fs) (h : ∀ μ', (∀ a k, ¬ evm a k → μ' a k = μ0 a k) → (R.1 ≠ -9 → μ' 248 16 = R.2) → K R.1 μ') (n : Nat) (μ : ZM) (hI : ∃ w fr st, EM μ w fr st ∧ okE fs n w fr st ∧ ev fs n w fr st = R ∧ ∀ a k, ¬ evm a k → μ a k = μ0 a k) : P_X12_works μ K := by
  refine z_lf0_ix (fun n μ => ∃ w fr st, EM μ w fr st ∧ okE fs n w fr st ∧ ev fs n w fr st = R ∧ ∀ a k, ¬ evm a k → μ a k = μ0 a k) ?_ n μ hI
  intro n μ G ⟨w, fr, st, hC, hok, hR, hfr⟩ hG
  obtain ⟨e1, e2, e3, e4, e5⟩ := id hC
  have hb := okE_bd ho hok
  have hw60 := hok.2.1
  have hfl := hok.2.2.1
  cases fr with
  | nil =>
    rw [ev_nil] at hR
    have hs1 : (st.length : Int) = 1 := hok.2.2.2.2.1
    have hv := sk_hd e5 (by omega)
    rw [hs1] at hv
    refine ifb (fun _ => ⟨by omega, ?_⟩) (fun g => absurd (show μ 248 22 ≤ 0 by rw [e2]; simp) g)
    rw [show (0 : Int) = 1 - 1 by decide, hv]
    subst hR
    exact h μ hfr (fun _ => e1)
  | cons f fr =>
    have hi : μ 248 22 - 1 = (fr.length : Int) := by rw [e2]; simp
    have hfl' : (fr.length : Int) ≤ 60 := by simp at hfl; omega
    obtain ⟨t1, t2, t3, t4, t5⟩ := e4.1
    have hfok := hok.2.2.2.2.2.1.1
    refine ifb (fun g => absurd g (by rw [e2]; simp)) (fun _ => ?_)
    rw [hi, t2]
    refine ⟨⟨by omega, by omega⟩, by omega, ifb (fun g => ⟨by omega, ?_⟩) (fun g => ⟨⟨by omega, by omega⟩, ?_⟩)⟩
    · refine s_signOf (T := f.1) (by omega) t1 (by have := hfok.2.2.1; omega) ?_
      simp only [z_wr]
      rw [t2]
      have hlen40 := hfok.2.2.2.2.2.2
      have hat := hfok.2.2.1
      refine ⟨by omega, ⟨by omega, by omega⟩, by omega, ?_⟩
      have hC' : EM (z_upd μ 259 (fr.length : Int) (f.2.1 - 1 - 1)) w (dn f :: fr) st := by
        refine ⟨?_, ?_, ?_, ⟨?_, ?_⟩, ?_⟩
        · rw [zu_n (by decide)]; exact e1
        · rw [zu_n (by decide)]; exact e2
        · rw [zu_n (by decide)]; exact e3
        · refine ⟨?_, zu_s, ?_, ?_, ?_⟩
          · rw [zu_n (by decide)]
            exact t1.ex (fun k => zu_n (by decide)) (fun k => zu_n (by decide))
          · rw [zu_n (by decide)]; exact t3
          · intro q
            rw [zu_n (by decide)]; exact t4 q
          · rw [zu_n (by decide)]; exact t5
        · exact fk_ex e4.2 (fun i g h1 h2 q => q.ex (fun k => zu_n (by decide)) (fun k => zu_n (by decide)) (fun a h3 h4 => zu_k (by omega)))
        · exact sk_ex e5 (fun i _ _ => zu_n (by decide))
      have hfr' : ∀ a k, ¬ evm a k → z_upd μ 259 (fr.length : Int) (f.2.1 - 1 - 1) a k = μ0 a k := fun a k q => by
        rw [zu_n (by unfold evm at q; omega)]; exact hfr a k q
      refine s_takesSign ho (hF.ev1 hfr') hok (by omega) hC' hR (fun hr μ' k => ?_) (fun μ' w' fr' st' k1 k2 k3 k4 k5 => ?_)
      · subst hr
        exact if0 (h μ' (fun a k' hk => (k a k' hk).trans (hfr' a k' hk)) (fun q => absurd rfl q))
      · exact if1 (hG (n - 1) μ' (by omega) ⟨w', fr', st', k2, k4, k5, fun a k' hk => (k1 a k' hk).trans (hfr' a k' hk)⟩)
    · obtain ⟨k3, k4⟩ := okE_pop hok (by omega)
      rw [ev_cons k3, if_pos (by omega)] at hR
      refine hG (n - 1) _ (by omega) ⟨w, fr, st, ⟨?_, zu_s, ?_, ?_, ?_⟩, k4, hR, fun a k hk => ?_⟩
      · rw [zu_k (by decide)]; exact e1
      · rw [zu_k (by decide)]; exact e3
      · exact fk_ex e4.2 (fun i g h1 h2 q => q.ex (fun k => zu_n (by decide)) (fun k => zu_n (by decide)) (fun a h3 h4 => zu_n (by omega)))
      · exact sk_ex e5 (fun i _ _ => zu_n (by decide))
      · rw [zu_f (by unfold evm at hk; omega)]; exact hfr a k hk
