/-! the class rewrites a term -/
theorem pw_S {fs : List Fn} {X : List Int} {x : Int} : ∀ (j : Nat) {k : Int}, 1 ≤ k → (pw fs k (List.replicate j 83 ++ x :: X) ↔ pw fs (k - 1 + arf fs x) X)
  | 0, k, hk => by
    show (1 ≤ k ∧ pw fs (k - 1 + arf fs x) X) ↔ _
    constructor
    · intro h; exact h.2
    · intro h; exact ⟨hk, h⟩
  | j + 1, k, hk => by
    have e : arf fs 83 = 1 := by unfold arf; rw [if_pos rfl]
    rw [List.replicate_succ, List.cons_append]
    show (1 ≤ k ∧ pw fs (k - 1 + arf fs 83) (List.replicate j 83 ++ x :: X)) ↔ _
    rw [e, show k - 1 + 1 = k by omega, pw_S j hk]
    constructor
    · intro h; exact h.2
    · intro h; exact ⟨hk, h⟩
theorem arf_w {fs : List Fn} {v : Int} (hl : fs.length ≤ 6) (hv : 120 ≤ v) : arf fs v = 0 := by
  unfold arf; rw [if_neg (by omega), if_neg (by omega)]
theorem pw_sT {fs : List Fn} {v b : Int} {j : Nat} (hl : fs.length ≤ 6) (hv : 120 ≤ v) (hb : b = 90 ∨ b = v) : ∀ {T : List Int} {k : Int}, pw fs k T → pw fs k (sT v b j T)
  | [], k, h => h
  | c :: T, k, h => by
    have ih := pw_sT (j := j) hl hv hb h.2
    show pw fs k (sv v b j c ++ sT v b j T)
    unfold sv
    by_cases g : c = v
    · rw [if_pos g, List.append_assoc]
      show pw fs k (List.replicate j 83 ++ b :: sT v b j T)
      rw [pw_S j h.1]
      have e1 : arf fs b = 0 := by
        rcases hb with q | q
        · rw [q]; exact arf_90
        · rw [q]; exact arf_w hl hv
      rw [g, arf_w hl hv] at ih
      rw [e1]; exact ih
    · rw [if_neg g]
      exact ⟨h.1, ih⟩
theorem sT_len {v b : Int} {j : Nat} (hj : j ≤ 2) : ∀ T : List Int, (sT v b j T).length ≤ 3 * T.length
  | [] => Nat.le_refl 0
  | c :: T => by
    have ih := sT_len (v := v) (b := b) hj T
    have : (sv v b j c).length ≤ 3 := by
      unfold sv
      by_cases g : c = v
      · rw [if_pos g]; simp; omega
      · rw [if_neg g]; simp
    show (sv v b j c ++ sT v b j T).length ≤ _
    rw [List.length_append, List.length_cons]
    omega
theorem cv_b {fs : List Fn} {v b : Int} (hv : 120 ≤ v ∧ v ≤ 122) (hb : b = 90 ∨ b = v) : cv fs b := by unfold cv; omega
theorem okT_sT {fs : List Fn} {v b : Int} {j : Nat} {T : List Int} (hl : fs.length ≤ 6) (hv : 120 ≤ v ∧ v ≤ 122) (hb : b = 90 ∨ b = v) (h : okT fs T) : okT fs (sT v b j T) := by
  refine ⟨pw_sT hl hv.1 hb h.1, fun c hc => ?_⟩
  obtain ⟨x, h1, h2⟩ := List.mem_flatMap.mp hc
  unfold sv at h2
  by_cases g : x = v
  · rw [if_pos g] at h2
    rcases List.mem_append.mp h2 with q | q
    · rw [(List.mem_replicate.mp q).2]; exact Or.inr (Or.inl rfl)
    · rw [List.mem_singleton.mp q]; exact cv_b hv hb
  · rw [if_neg g] at h2
    rw [List.mem_singleton.mp h2]; exact h.2 x h1
theorem okM_sv {fs : List Fn} {v b : Int} {j : Nat} (hl : fs.length ≤ 6) (hv : 120 ≤ v ∧ v ≤ 122) (hb : b = 90 ∨ b = v) (hj : j ≤ 2) : okM fs (sv v b j) := by
  intro c h1 h2
  have hm := okM_mi (fs := fs) hl c h1 h2
  have : sT v b j [c] = sv v b j c := by show sv v b j c ++ [] = _; rw [List.append_nil]
  rw [← this]
  refine ⟨okT_sT hl hv hb hm.1, ?_⟩
  have := sT_len (v := v) (b := b) hj [c]
  simp at this
  omega
/-- the term in which the variable is replaced (or none) -/
def sbx (v k o : Int) (T : List Int) : List Int := if v < 0 then T else sT (120 + v) (if o = 0 then 90 else 120 + v) k.toNat T
def mnx (v k o : Int) (c : Int) : List Int := if v < 0 then mi c else sv (120 + v) (if o = 0 then 90 else 120 + v) k.toNat c
def okP (v k : Int) : Prop := v = -9 ∨ (0 ≤ v ∧ v ≤ 2 ∧ 0 ≤ k ∧ k ≤ 2)
theorem ifo {o v : Int} : (if o = 0 then (90 : Int) else 120 + v) = 90 ∨ (if o = 0 then (90 : Int) else 120 + v) = 120 + v := by
  by_cases g : o = 0
  · rw [if_pos g]; exact Or.inl rfl
  · rw [if_neg g]; exact Or.inr rfl
theorem okM_mnx {fs : List Fn} {v k o : Int} (hl : fs.length ≤ 6) (hp : okP v k) : okM fs (mnx v k o) := by
  intro c h1 h2
  unfold mnx
  by_cases g : v < 0
  · rw [if_pos g]; exact okM_mi hl c h1 h2
  · rw [if_neg g]
    unfold okP at hp
    exact okM_sv hl (by omega) ifo (by omega) c h1 h2
theorem okT_sbx {fs : List Fn} {v k o : Int} {T : List Int} (hl : fs.length ≤ 6) (hp : okP v k) (hT : okT fs T) (hlT : T.length ≤ 40) : okT fs (sbx v k o T) ∧ (sbx v k o T).length ≤ 120 := by
  unfold sbx
  by_cases g : v < 0
  · rw [if_pos g]; exact ⟨hT, by omega⟩
  · rw [if_neg g]
    unfold okP at hp
    have := sT_len (v := 120 + v) (b := if o = 0 then 90 else 120 + v) (j := k.toNat) (by omega) T
    exact ⟨okT_sT hl (by omega) ifo hT, by omega⟩
theorem nv_mnx {fs : List Fn} {v k o : Int} {T : List Int} (ho : okF fs) (hl : fs.length ≤ 6) (hp : okP v k) (hT : okT fs T) (hlT : T.length ≤ 40) : nv fs (mnx v k o) 591 0 [(T.reverse, 0, [], [])] = some (nm fs (sbx v k o T)) := by
  obtain ⟨R, h1, -⟩ := nv_ok (L0 := 40) ho hl (okM_mnx (o := o) hl hp) 591 0 _ (okN_0 (T := T) hT (by omega) (by omega))
  obtain ⟨q1, q2⟩ := okT_sbx (o := o) hl hp hT hlT
  have h2 := nm_eq ho hl q1 q2
  rw [h1]
  congr 1
  by_cases g : v < 0
  · have e1 : mnx v k o = mi := by funext c; unfold mnx; rw [if_pos g]
    have e2 : sbx v k o T = T := by unfold sbx; rw [if_pos g]
    rw [e1] at h1
    rw [e2] at h2 ⊢
    exact nv_one h1 h2
  · have e1 : mnx v k o = sv (120 + v) (if o = 0 then 90 else 120 + v) k.toNat := by funext c; unfold mnx; rw [if_neg g]
    have e2 : sbx v k o T = sT (120 + v) (if o = 0 then 90 else 120 + v) k.toNat T := by unfold sbx; rw [if_neg g]
    rw [e1] at h1
    rw [e2] at h2 ⊢
    unfold okP at hp
    obtain ⟨m, hm⟩ := nv_sub (fs := fs) (by omega) ifo (by omega) 591 0 [] T.reverse [] R h1
    rw [← sT_rev] at hm
    exact nv_one hm h2
def N0 : List (List Int) := [[90], [120], [121], [122]]
theorem NT_0 {μ : ZM} {fs : List Fn} (hl : fs.length ≤ 6) (hZ : CZ μ) (h : μ 222 11 = 4) : NT μ fs N0 := by
  refine ⟨h, by decide, fun k h1 h2 => ?_⟩
  obtain ⟨z1, z2, z3⟩ := hZ
  have h2' : k < 4 := h2
  have a1 := z1 k h1 h2'
  have a2 := z2 k h1 h2'
  have a3 := z3 k h1 h2'
  have hm : ∀ c, 120 ≤ c → c ≤ 122 → gV fs [c] := okM_mi hl
  have hk : k = 0 ∨ k = 1 ∨ k = 2 ∨ k = 3 := by omega
  unfold nd
  rw [a1, a2, a3]
  rcases hk with q | q | q | q <;> subst q
  · exact ⟨gV_Z, rfl, rfl, by decide, by decide, fun q => absurd (show (1 : Int) ≤ arf fs 90 from q) (by rw [arf_90]; decide)⟩
  · exact ⟨hm 120 (by omega) (by omega), rfl, rfl, by decide, by decide, fun q => absurd (show (1 : Int) ≤ arf fs 120 from q) (by rw [arf_w hl (by decide)]; decide)⟩
  · exact ⟨hm 121 (by omega) (by omega), rfl, rfl, by decide, by decide, fun q => absurd (show (1 : Int) ≤ arf fs 121 from q) (by rw [arf_w hl (by decide)]; decide)⟩
  · exact ⟨hm 122 (by omega) (by omega), rfl, rfl, by decide, by decide, fun q => absurd (show (1 : Int) ≤ arf fs 122 from q) (by rw [arf_w hl (by decide)]; decide)⟩
/-- with the meanings made -/
theorem s_rw97 {fs : List Fn} {N : List (List Int)} {t t' v k o : Int} {T : List Int} {μ μ0 : ZM} {K : Int → ZM → Prop} (ho : okF fs) (hF : CF μ0 fs) (hz : μ0 223 0 = 90) (ht : z_tm t) (ht' : z_tm t') (ht2 : ¬ (113 ≤ t' ∧ t' ≤ 168)) (hx : tx μ0 t T) (hT : okT fs T) (hlT : T.length ≤ 40) (hp : okP v k) (hN : NT μ fs N) (hN6 : N.length ≤ 6) (hm : ∀ j : Int, 0 ≤ j → j ≤ 2 → rN N (μ 232 j) (mnx v k o (120 + j))) (hfr : ∀ a k, ¬ nvc a k → μ a k = μ0 a k) (h0 : nm fs (sbx v k o T) = none → ∀ μ', (∀ a k, ¬ nvc a k → a ≠ t' → a ≠ t' + 1 → a ≠ t' + 2 → μ' a k = μ0 a k) → K 0 μ') (h1 : ∀ V, nm fs (sbx v k o T) = some V → ∀ μ', (∀ a k, ¬ nvc a k → a ≠ t' → a ≠ t' + 1 → a ≠ t' + 2 → μ' a k = μ0 a k) → Tm μ' fs t' V → K 1 μ') : P_X6_rewrite_97 t t' μ K := by
  have hl := hF.2.1
  have b := ht
  unfold z_tm at b
  obtain ⟨q1, q2⟩ := okT_sbx (o := o) hl hp hT hlT
  unfold P_X6_rewrite_97 P_X6_run
  simp only [z_wr]
  have r0 : z_upd (z_upd (z_upd (z_upd μ 222 14 0) 222 13 0) 222 12 0) 227 0 t t 2 = (T.length : Int) := by
    rw [zu_n (by omega), zu_n (by omega), zu_n (by omega), zu_n (by omega), hfr _ _ (by unfold nvc; omega)]; exact hx.1
  rw [r0]
  simp only [zu_n (show (232 : Int) ≠ 229 by decide), zu_n (show (232 : Int) ≠ 228 by decide), zu_n (show (232 : Int) ≠ 227 by decide), zu_n (show (232 : Int) ≠ 222 by decide)]
  generalize hM : z_upd (z_upd (z_upd (z_upd (z_upd (z_upd (z_upd μ 222 14 0) 222 13 0) 222 12 0) 227 0 t) 228 0 (T.length : Int)) 229 0 (μ 232 0)) 230 0 (μ 232 1) = μ1
  have m0 : ∀ a k, ¬ (a = 222 ∧ 12 ≤ k) → ¬ (227 ≤ a ∧ a ≤ 230 ∧ k = 0) → μ1 a k = μ a k := fun a k p1 p2 => by
    rw [← hM, zu_f (by omega), zu_f (by omega), zu_f (by omega), zu_f (by omega), zu_f (by omega), zu_f (by omega), zu_f (by omega)]
  have m0' : ∀ a k, ¬ nvc a k → μ1 a k = μ0 a k := fun a k p => (m0 a k (by unfold nvc at p; omega) (by unfold nvc at p; omega)).trans (hfr a k p)
  have m1 : μ1 227 0 = t := by rw [← hM]; simp [z_upd]
  have m2 : μ1 228 0 = (T.length : Int) := by rw [← hM]; simp [z_upd]
  have m3 : μ1 229 0 = μ 232 0 := by rw [← hM]; simp [z_upd]
  have m4 : μ1 230 0 = μ 232 1 := by rw [← hM]; simp [z_upd]
  refine ⟨ht, by omega, by omega, by omega, by omega, by omega, by omega, s_runLoop (R := nm fs (sbx v k o T)) (mn := mnx v k o) (μ0 := μ0) ho hF (okM_mnx hl hp) hz (fun μ2 N2 V e2 hV n2 l2 t2 r2 => if1 ?_) (fun q μ2 e2 => if0 ⟨Or.inl rfl, h0 q μ2 (fun a k p _ _ _ => e2 a k p)⟩) 591 0 μ1 ⟨N, 0, (T.reverse, 0, [], []), [], ⟨hN.ex (fun a k _ _ => m0 _ _ (by omega) (by omega)) (m0 _ _ (by omega) (by omega)), ?_, ?_, ?_, ⟨?_, trivial⟩, trivial, ?_⟩, ?_, okN_0 hT (by omega) (by omega), by omega, by omega, nv_mnx ho hl hp hT hlT, m0'⟩⟩
  · have hg := nm_ok ho hl q1 q2 hV
    exact s_write ho (hF.fr (fun a ha k => e2 _ _ (by unfold nvc; omega)) (e2 _ _ (by unfold nvc; omega))) n2 l2 ht' ht2 t2 r2 hg (fun μ3 e3 tm => ⟨Or.inr rfl, h1 V hV μ3 (fun a k p1 p2 p3 p4 => (e3 a k p1 p2 p3 p4).trans (e2 a k p1)) tm⟩)
  · rw [← hM]; simp [z_upd]
  · rw [← hM]; simp [z_upd]
  · rw [← hM]; simp [z_upd, ss]
  · show fcl μ1 N (mnx v k o) 0 (T.reverse, 0, [], [])
    unfold fcl
    rw [m1, m2, m3, m4]
    dsimp only
    rw [List.reverse_reverse]
    exact ⟨ht, hx.2.ex (fun i _ _ => m0' _ _ (by unfold nvc; omega)), by simp, fun _ => by rw [if_pos rfl]; exact hm 0 (by omega) (by omega), fun _ => by rw [if_pos rfl]; exact hm 1 (by omega) (by omega)⟩
  · rw [m0 _ _ (by omega) (by omega)]; exact hm 2 (by omega) (by omega)
  · show (N.length : Int) + ((T.reverse.length : Int) + 0) ≤ _
    rw [List.length_reverse]; omega
theorem rep_S {b : Int} : ∀ j : Nat, List.replicate (j + 1) 83 ++ [b] = 83 :: (List.replicate j 83 ++ [b]) := fun j => by rw [List.replicate_succ, List.cons_append]
theorem s_rewrite {fs : List Fn} {t t' v k o : Int} {T : List Int} {μ : ZM} {K : Int → ZM → Prop} (ho : okF fs) (hF : CF μ fs) (hZ : CZ μ) (ht : z_tm t) (ht' : z_tm t') (ht2 : ¬ (113 ≤ t' ∧ t' ≤ 168)) (hx : tx μ t T) (hT : okT fs T) (hlT : T.length ≤ 40) (hp : okP v k) (h0 : nm fs (sbx v k o T) = none → ∀ μ', (∀ a k, ¬ nvc a k → a ≠ t' → a ≠ t' + 1 → a ≠ t' + 2 → μ' a k = μ a k) → K 0 μ') (h1 : ∀ V, nm fs (sbx v k o T) = some V → ∀ μ', (∀ a k, ¬ nvc a k → a ≠ t' → a ≠ t' + 1 → a ≠ t' + 2 → μ' a k = μ a k) → Tm μ' fs t' V → K 1 μ') : P_X6_rewrite t t' v k o μ K := by
  have hl := hF.2.1
  have hz : μ 223 0 = 90 := hZ.1 0 (by omega) (by decide)
  refine ⟨ht, ht', ?_⟩
  show P_X6_rewrite_8 t t' v k o 0 (z_upd μ 222 11 4) K
  refine z_lf1_ind (fun i μ' => 0 ≤ i ∧ i ≤ 3 ∧ μ' 222 11 = 4 ∧ (∀ j : Int, 0 ≤ j → j < i → μ' 232 j = 1 + j) ∧ (∀ a k, ¬ nvc a k → μ' a k = μ a k)) (fun i _ => (3 - i).toNat) ?_ 0 _ ⟨by omega, by omega, zu_s, fun j q1 q2 => absurd q2 (by omega), fun a k q => zu_n (by unfold nvc at q; omega)⟩
  intro i μ' G ⟨e1, e2, e3, e4, e5⟩ hG
  refine ifb (fun g => ?_) (fun g => ⟨⟨by omega, by omega⟩, by omega, ⟨by omega, by omega⟩, hG _ _ ⟨by omega, by omega, ?_, fun j q1 q2 => ?_, fun a k q => ?_⟩ (by omega)⟩)
  · have hZ' : CZ μ' := hZ.fr (fun a k q1 q2 => e5 a k (by unfold nvc; omega))
    have hF' : CF μ' fs := hF.fr (fun a ha k => e5 _ _ (by unfold nvc; omega)) (e5 _ _ (by unfold nvc; omega))
    have hN := NT_0 (fs := fs) hl hZ' e3
    have b0 : ∀ j : Int, 0 ≤ j → j ≤ 2 → rN N0 (1 + j) (mi (120 + j)) := by
      intro j q1 q2
      refine ⟨by omega, by show 1 + j < 4; omega, ?_⟩
      have : j = 0 ∨ j = 1 ∨ j = 2 := by omega
      rcases this with q | q | q <;> subst q <;> rfl
    by_cases gv : v < 0
    · rw [if_pos gv]
      refine s_rw97 (N := N0) (v := v) (k := k) (o := o) ho hF hz ht ht' ht2 hx hT hlT hp hN (by decide) (fun j q1 q2 => ?_) e5 h0 h1
      rw [e4 j q1 (by omega)]
      have : mnx v k o (120 + j) = mi (120 + j) := by unfold mnx; rw [if_pos gv]
      rw [this]; exact b0 j q1 q2
    · rw [if_neg gv, if_neg (by unfold okP at hp; omega)]
      unfold okP at hp
      have hp' : 0 ≤ v ∧ v ≤ 2 ∧ 0 ≤ k ∧ k ≤ 2 := by omega
      have main : ∀ s : Int, rN N0 s [if o = 0 then 90 else 120 + v] → P_X6_rewrite_52 t t' v k s μ' K := by
        intro s hs
        unfold P_X6_rewrite_52
        refine z_lf2_ind (fun nd j μ2 => ∃ N, NT μ2 fs N ∧ (N.length : Int) = 4 + j ∧ 0 ≤ j ∧ j ≤ k ∧ rN N nd (List.replicate j.toNat 83 ++ [if o = 0 then 90 else 120 + v]) ∧ (∀ q V, rN N0 q V → rN N q V) ∧ (∀ j : Int, 0 ≤ j → j < 3 → μ2 232 j = 1 + j) ∧ ∀ a k, ¬ nvc a k → μ2 a k = μ a k) (fun nd j _ => (k - j).toNat) ?_ s 0 μ' ⟨N0, hN, rfl, by omega, by omega, hs, fun _ _ q => q, fun j q1 q2 => e4 j q1 (by omega), e5⟩
        intro nd j μ2 G2 ⟨N, f1, f2, f3, f4, f5, f6, f7, f8⟩ hG2
        have last : j = k → P_X6_rewrite_89 t t' v nd μ2 K := by
          intro ej
          subst ej
          refine ⟨by omega, ?_⟩
          show P_X6_rewrite_97 t t' (z_upd μ2 232 v nd) K
          refine s_rw97 (N := N) (v := v) (k := j) (o := o) ho hF hz ht ht' ht2 hx hT hlT (Or.inr hp') (f1.ex (fun a k _ _ => zu_n (by omega)) (zu_n (by decide))) (by omega) (fun i q1 q2 => ?_) (fun a k q => (zu_n (by unfold nvc at q; omega)).trans (f8 a k q)) h0 h1
          unfold mnx
          rw [if_neg gv]
          unfold sv
          by_cases ei : i = v
          · subst ei
            rw [zu_s, if_pos rfl]; exact f5
          · rw [zu_k ei, f7 i q1 (by omega), if_neg (by omega)]
            exact f6 _ _ (b0 i q1 q2)
        refine ifb (fun g1 => last (by omega)) (fun g1 => ifb (fun g2 => ?_) (fun g2 => ?_))
        · have := f5.1; omega
        · have a83 : arf fs 83 = 1 := by unfold arf; rw [if_pos rfl]
          have hF2 : CF μ2 fs := hF.fr (fun a ha k => f8 _ _ (by unfold nvc; omega)) (f8 _ _ (by unfold nvc; omega))
          have eL : (83 :: ((List.replicate j.toNat 83 ++ [if o = 0 then 90 else 120 + v]) ++ if arf fs 83 = 2 then (List.replicate j.toNat 83 ++ [if o = 0 then 90 else 120 + v]) else []) : List Int) = List.replicate (j + 1).toNat 83 ++ [if o = 0 then 90 else 120 + v] := by
            rw [if_neg (show ¬ arf fs 83 = 2 by omega), List.append_nil, show (j + 1).toNat = j.toNat + 1 by omega, rep_S]
          have gL : gV fs (List.replicate (j + 1).toNat 83 ++ [if o = 0 then 90 else 120 + v]) := by
            have := okM_sv (fs := fs) (v := 120 + v) (b := if o = 0 then 90 else 120 + v) (j := (j + 1).toNat) hl (by omega) ifo (by omega) (120 + v) (by omega) (by omega)
            unfold sv at this
            rw [if_pos rfl] at this
            exact this
          have lL : ((List.replicate j.toNat 83 ++ [if o = 0 then 90 else 120 + v] : List Int).length : Int) = j + 1 := by simp; omega
          refine s_make (V := List.replicate j.toNat 83 ++ [if o = 0 then 90 else 120 + v]) (W := List.replicate j.toNat 83 ++ [if o = 0 then 90 else 120 + v]) hF2 f1 (by omega) (Or.inr (Or.inl rfl)) (Or.inl a83) hl f5 f5 (fun _ => by rw [eL]; exact gL) (fun q => absurd (show (1 : Int) + _ + _ ≤ 40 by rw [lL, if_neg (show ¬ arf fs 83 = 2 by omega)]; omega) q) (fun _ μ3 e3' t3 => ⟨⟨by omega, by omega⟩, hG2 _ _ _ ⟨_, t3, by simp; omega, by omega, by omega, ?_, fun q V p => (f6 q V p).up, fun j q1 q2 => (e3' _ _ (by omega) (by omega)).trans (f7 j q1 q2), fun a k q => (e3' a k (by unfold nvc at q; omega) (by unfold nvc at q; omega)).trans (f8 a k q)⟩ (by omega)⟩)
          refine ⟨by omega, by simp; omega, ?_⟩
          rw [gN_push2, eL]
      refine ifb (fun g1 => ?_) (fun g1 => ⟨⟨by omega, by omega⟩, ?_⟩)
      · refine main 0 ⟨by omega, by decide, ?_⟩
        rw [if_pos g1]; rfl
      · have := b0 v (by omega) (by omega)
        refine main (1 + v) ?_
        rw [if_neg g1]; exact this
  · rw [zu_n (by decide)]; exact e3
  · by_cases ej : j = i
    · subst ej; rw [zu_s]
    · rw [zu_k ej]; exact e4 j q1 (by omega)
  · rw [zu_n (by unfold nvc at q; omega)]; exact e5 a k q
