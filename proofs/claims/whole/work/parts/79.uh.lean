/-! rippling to the end -/
def uc (m : Int) : Int := 100 * (m % 16 / 2) + m % 2
def rpl (fs : List Fn) (ls : List (List Int × List Int)) (S : List Int) : Nat → List Int → List Int × List Int
  | 0, A => (A, [])
  | n + 1, A => match rip fs ls A S with
    | none => (A, [])
    | some (m, T) => ((rpl fs ls S n T).1, uc m :: (rpl fs ls S n T).2)
theorem rpl_no {fs : List Fn} {ls : List (List Int × List Int)} {A S : List Int} {n : Nat} (h : rip fs ls A S = none) : rpl fs ls S n A = (A, []) := by
  cases n with
  | zero => rfl
  | succ n => unfold rpl; rw [h]
theorem rpl_s {fs : List Fn} {ls : List (List Int × List Int)} {A S T : List Int} {n : Nat} {m : Int} (hn : n ≠ 0) (h : rip fs ls A S = some (m, T)) : rpl fs ls S n A = ((rpl fs ls S (n - 1) T).1, uc m :: (rpl fs ls S (n - 1) T).2) := by
  cases n with
  | zero => exact absurd rfl hn
  | succ n => conv => lhs; unfold rpl; rw [h]
              rfl
def ad1 (nt : List (Int × Int)) (w u : Int) : List (Int × Int) := if w = -9 then nt else an nt 4 (u + 10 * w)
def ads (w : Int) : List (Int × Int) → List Int → List (Int × Int)
  | nt, [] => nt
  | nt, u :: us => ads w (ad1 nt w u) us
theorem ads_9 : ∀ (us : List Int) (nt : List (Int × Int)), ads (-9) nt us = nt
  | [], _ => rfl
  | u :: us, nt => by
    show ads (-9) (ad1 nt (-9) u) us = nt
    rw [show ad1 nt (-9) u = nt from rfl]
    exact ads_9 us nt
theorem rpl_ok {fs : List Fn} {ls : List (List Int × List Int)} {S : List Int} (ho : okF fs) (hl : fs.length ≤ 6) (hL : okL fs ls) : ∀ (n : Nat) (A : List Int), okT fs A → A.length ≤ 40 → okT fs (rpl fs ls S n A).1 ∧ (rpl fs ls S n A).1.length ≤ 40
  | 0, A, h1, h2 => ⟨h1, h2⟩
  | n + 1, A, h1, h2 => by
    cases hr : rip fs ls A S with
    | none => rw [rpl_no hr]; exact ⟨h1, h2⟩
    | some q =>
      obtain ⟨m, T⟩ := q
      have ok := rip_ok ho hl hL h1 hr
      rw [rpl_s (by omega) hr]
      exact rpl_ok ho hl hL n T ok.1 ok.2.1
theorem uc_bd {m n : Int} (h1 : 0 ≤ m) (h2 : m % 16 < 2 * n) (h3 : n ≤ 8) : 0 ≤ uc m ∧ uc m ≤ 1000 := by
  unfold uc; omega
theorem s_steers {fs : List Fn} {ls : List (List Int × List Int)} {s s' w : Int} {A S : List Int} {nt : List (Int × Int)} {μ : ZM} {K : ZM → Prop} (ho : okF fs) (hF : MF μ fs) (hML : ML μ ls) (hL : okL fs ls) (hN : MN μ nt) (hw : w = -9 ∨ w = 0 ∨ w = 1) (hs : 0 ≤ s ∧ s < 28) (hs' : 0 ≤ s' ∧ s' < 28) (hne : s ≠ 20) (hne' : s' ≠ 20) (hss : s ≠ s') (hSl : Sl μ s A) (hSl' : Sl μ s' S) (hA : okT fs A) (hS : okT fs S) (lA : A.length ≤ 40) (lS : S.length ≤ 40) (h : ∀ μ', (∀ a q, ¬ rpm a q → ¬ (a = 248 ∧ (q = 36 ∨ q = 39)) → a ≠ 270 → a ≠ 271 → ¬ (a = 249 ∧ 128 * s ≤ q ∧ q < 128 * s + 128) → ¬ (a = 250 ∧ q = s) → μ' a q = μ a q) → Sl μ' s (rpl fs ls S 1600 A).1 → MN μ' (ads w nt (rpl fs ls S 1600 A).2) → K μ') : P_X12_steers s s' w μ K := by
  have hl := hF.2.1
  have lS1 := okT_1 hS
  have lA1 := okT_1 hA
  have dA0 := dD_b (i := 0) (j := 0) ho hA hS lA ⟨by omega, by omega⟩ ⟨by omega, by omega⟩
  refine s_differenceOf ho hF (by omega) (by omega) hSl hSl' hA hS lA lS (fun μ1 e1 => ?_)
  refine z_lf1_ix (fun n now μ' => ∃ A' nt', okT fs A' ∧ A'.length ≤ 40 ∧ now = dD fs A' S 0 0 ∧ (now < 100000 → now < (n : Int)) ∧ n ≠ 0 ∧ Sl μ' s A' ∧ MN μ' nt' ∧ (rpl fs ls S n A').1 = (rpl fs ls S 1600 A).1 ∧ ads w nt' (rpl fs ls S n A').2 = ads w nt (rpl fs ls S 1600 A).2 ∧ ∀ a q, ¬ rpm a q → ¬ (a = 248 ∧ (q = 36 ∨ q = 39)) → a ≠ 270 → a ≠ 271 → ¬ (a = 249 ∧ 128 * s ≤ q ∧ q < 128 * s + 128) → ¬ (a = 250 ∧ q = s) → μ' a q = μ a q) ?_ 1600 _ μ1 ⟨A, nt, hA, lA, rfl, fun q => by have := (dA0.2.2 q).1; omega, by omega, hSl.ex (e1 _ _ (by omega) (by omega)) (fun _ _ _ => e1 _ _ (by omega) (by omega)), hN.fr (e1 _ _ (by omega) (by omega)) (fun k => e1 _ _ (by omega) (by omega)) (fun k => e1 _ _ (by omega) (by omega)), rfl, rfl, fun a q y1 _ _ _ _ _ => e1 a q (by unfold rpm at y1; omega) (by unfold rpm at y1; omega)⟩
  intro n now μ2 G ⟨A', nt', a1, a2, a3, a4, a5, a6, a7, a8, a9, a10⟩ hG
  have fin : rip fs ls A' S = none → ∀ μ3, (∀ a q, ¬ rpm a q → μ3 a q = μ2 a q) → K μ3 := by
    intro hr μ3 f3
    rw [rpl_no hr] at a8 a9
    refine h μ3 (fun a q y1 y2 y3 y4 y5 y6 => (f3 a q y1).trans (a10 a q y1 y2 y3 y4 y5 y6)) ?_ ?_
    · rw [← a8]; exact a6.ex (f3 _ _ (by unfold rpm fr20; omega)) (fun k p1 p2 => f3 _ _ (by unfold rpm fr20; omega))
    · rw [← a9]; exact a7.fr (f3 _ _ (by unfold rpm fr20; omega)) (fun k => f3 _ _ (by unfold rpm fr20; omega)) (fun k => f3 _ _ (by unfold rpm fr20; omega))
  refine ifb (fun g => fin ?_ μ2 (fun _ _ _ => rfl)) (fun g => ?_)
  · unfold rip; rw [if_neg (by omega)]
  · have hF2 : MF μ2 fs := hF.fr (fun a ha k => a10 _ _ (by unfold rpm fr20; omega) (by omega) (by omega) (by omega) (by omega) (by omega)) (a10 _ _ (by unfold rpm fr20; omega) (by omega) (by omega) (by omega) (by omega) (by omega))
    have hML2 : ML μ2 ls := hML.fr (a10 _ _ (by unfold rpm fr20; omega) (by omega) (by omega) (by omega) (by omega) (by omega)) (fun k hk => a10 _ _ (by unfold rpm fr20; omega) (by omega) (by omega) (by omega) (by omega) (by omega)) (fun k hk => a10 _ _ (by unfold rpm fr20; omega) (by omega) (by omega) (by omega) (by omega) (by omega))
    have hS2 : Sl μ2 s' S := hSl'.ex (a10 _ _ (by unfold rpm fr20; omega) (by omega) (by omega) (by omega) (by omega) (by omega)) (fun k p1 p2 => a10 _ _ (by unfold rpm fr20; omega) (by omega) (by omega) (by omega) (by omega) (by omega))
    have er : rip fs ls A' S = fi (cn fs ls A' S now) 640 0 := by unfold rip; rw [if_pos (by omega), a3]
    refine s_steersOnce (now := now) ho hF2 hML2 hL hs hs' hne hne' hss a6 hS2 a1 hS a2 lS (fun hr μ3 f3 => if0 (fin (er.trans hr) μ3 f3)) (fun m T hr μ3 f3 t3 u3 => if1 ?_)
    have hr' := er.trans hr
    have ok := rip_ok ho hl hL a1 hr'
    have lT1 := okT_1 ok.1
    have dT := (dD_b (i := 0) (j := 0) ho ok.1 hS ok.2.1 ⟨by omega, by omega⟩ ⟨by omega, by omega⟩).1
    have hn2 := a4 (by omega)
    have hlt0 := ok.2.2.1
    rw [rpl_s a5 hr'] at a8 a9
    dsimp only at a8 a9
    have f3' : ∀ a q, ¬ rpm a q → ¬ (a = 248 ∧ (q = 36 ∨ q = 39)) → a ≠ 270 → a ≠ 271 → ¬ (a = 249 ∧ 128 * s ≤ q ∧ q < 128 * s + 128) → ¬ (a = 250 ∧ q = s) → μ3 a q = μ a q := fun a q y1 y2 y3 y4 y5 y6 => (f3 a q y1 (by omega) y5 y6).trans (a10 a q y1 y2 y3 y4 y5 y6)
    have hN3 : MN μ3 nt' := a7.fr (f3 _ _ (by unfold rpm fr20; omega) (by omega) (by omega) (by omega)) (fun k => f3 _ _ (by unfold rpm fr20; omega) (by omega) (by omega) (by omega)) (fun k => f3 _ _ (by unfold rpm fr20; omega) (by omega) (by omega) (by omega))
    have hF3 : MF μ3 fs := hF.fr (fun a ha k => f3' _ _ (by unfold rpm fr20; omega) (by omega) (by omega) (by omega) (by omega) (by omega)) (f3' _ _ (by unfold rpm fr20; omega) (by omega) (by omega) (by omega) (by omega) (by omega))
    have hS3 : Sl μ3 s' S := hSl'.ex (f3' _ _ (by unfold rpm fr20; omega) (by omega) (by omega) (by omega) (by omega) (by omega)) (fun k p1 p2 => f3' _ _ (by unfold rpm fr20; omega) (by omega) (by omega) (by omega) (by omega) (by omega))
    refine s_differenceOf ho hF3 (by omega) (by omega) t3 hS3 ok.1 hS ok.2.1 lS (fun μ4 f4 => ?_)
    have f4' : ∀ a q, ¬ rpm a q → μ4 a q = μ3 a q := fun a q y => f4 a q (by unfold rpm at y; omega) (by unfold rpm at y; omega)
    have hN4 : MN μ4 nt' := hN3.fr (f4 _ _ (by omega) (by omega)) (fun k => f4 _ _ (by omega) (by omega)) (fun k => f4 _ _ (by omega) (by omega))
    have t4 : Sl μ4 s T := t3.ex (f4 _ _ (by omega) (by omega)) (fun k _ _ => f4 _ _ (by omega) (by omega))
    have hlt := ok.2.2.1
    have ubd := uc_bd ok.2.2.2.2.2.1 ok.2.2.2.2.1 (by have := hL.1; omega)
    refine ifb (fun g1 => ?_) (fun g1 => ?_)
    · refine hG (n - 1) _ _ (by omega) ⟨T, nt', ok.1, ok.2.1, rfl, fun q => by omega, by omega, t4, hN4, a8, ?_, fun a q y1 y2 y3 y4 y5 y6 => (f4' a q y1).trans (f3' a q y1 y2 y3 y4 y5 y6)⟩
      rw [g1] at a9 ⊢
      rw [ads_9] at a9 ⊢
      exact a9
    · rw [show μ4 248 36 = uc m from (f4 _ _ (by omega) (by omega)).trans u3]
      refine ⟨⟨by omega, by omega⟩, ⟨by omega, by omega⟩, s_notesIt hN4 (fun μ5 f5 n5 => ?_)⟩
      refine hG (n - 1) _ _ (by omega) ⟨T, an nt' 4 (uc m + 10 * w), ok.1, ok.2.1, rfl, fun q => by omega, by omega, t4.ex (f5 _ _ (by omega) (by omega) (by omega)) (fun k _ _ => f5 _ _ (by omega) (by omega) (by omega)), n5, a8, ?_, fun a q y1 y2 y3 y4 y5 y6 => (f5 a q (by omega) y3 y4).trans ((f4' a q y1).trans (f3' a q y1 y2 y3 y4 y5 y6))⟩
      rw [← a9]
      show _ = ads w (ad1 nt' w (uc m)) _
      unfold ad1
      rw [if_neg g1]
/-- the class's loop with notes -/
theorem s_ripple8 {fs : List Fn} {ls : List (List Int × List Int)} {t t' w : Int} {A S : List Int} {nt : List (Int × Int)} {μ : ZM} {K : ZM → Prop} (ho : okF fs) (hF : CF μ fs) (hCL : CL μ fs ls) (hL : okL fs ls) (hN : CN μ nt) (hw : w = 0 ∨ w = 1) (ht : z_tm t) (ht2 : 49 ≤ t ∧ ¬ (113 ≤ t ∧ t ≤ 168) ∧ t ≠ 181) (ht' : z_tm t') (ht2' : t' ≠ 181) (htt : t ≠ t') (hT : Tm μ fs t A) (hT' : Tm μ fs t' S) (hA : okT fs A) (hS : okT fs S) (lA : A.length ≤ 40) (lS : S.length ≤ 40) (h : ∀ μ', (∀ a q, ¬ rpc a → a ≠ t → a ≠ t + 1 → a ≠ t + 2 → ¬ (a = 240 ∧ q = 3) → a ≠ 241 → a ≠ 242 → μ' a q = μ a q) → Tm μ' fs t (rpl fs ls S 1600 A).1 → CN μ' (ads w nt (rpl fs ls S 1600 A).2) → K μ') : P_X8_ripple t' t w μ K := by
  have hl := hF.2.1
  have b := ht
  have b' := ht'
  unfold z_tm at b b'
  refine ⟨ht', ht, ?_⟩
  refine z_lf1_ind (fun x μ' => ∃ A' nt', 0 ≤ x ∧ x ≤ 1600 ∧ okT fs A' ∧ A'.length ≤ 40 ∧ Tm μ' fs t A' ∧ CN μ' nt' ∧ (rpl fs ls S (1600 - x).toNat A').1 = (rpl fs ls S 1600 A).1 ∧ ads w nt' (rpl fs ls S (1600 - x).toNat A').2 = ads w nt (rpl fs ls S 1600 A).2 ∧ ∀ a q, ¬ rpc a → a ≠ t → a ≠ t + 1 → a ≠ t + 2 → ¬ (a = 240 ∧ q = 3) → a ≠ 241 → a ≠ 242 → μ' a q = μ a q) (fun x _ => (1600 - x).toNat) ?_ 0 μ ⟨A, nt, by omega, by omega, hA, lA, hT, hN, rfl, rfl, fun _ _ _ _ _ _ _ _ _ => rfl⟩
  intro x μ' G ⟨A', nt', a1, a2, a3, a4, a5, a6, a7, a8, a9⟩ hG
  refine ifb (fun g => ?_) (fun g => ?_)
  · rw [show (1600 - x).toNat = 0 by omega] at a7 a8
    refine h μ' a9 ?_ ?_
    · rw [← a7]; exact a5
    · rw [← a8]; exact a6
  · have fr : ∀ a q, (a < 181 ∨ 184 ≤ a) → a < 230 ∨ a = 238 → a ≠ t → a ≠ t + 1 → a ≠ t + 2 → μ' a q = μ a q := fun a q y1 y2 y3 y4 y5 => a9 a q (by unfold rpc; omega) y3 y4 y5 (by omega) (by omega) (by omega)
    refine s_rippleC ho (hF.fr (fun a ha k => fr _ _ (by omega) (by omega) (by omega) (by omega) (by omega)) (fr _ _ (by omega) (by omega) (by omega) (by omega) (by omega))) (hCL.fr (fun a ha k => fr _ _ (by omega) (by omega) (by omega) (by omega) (by omega)) (fr _ _ (by omega) (by omega) (by omega) (by omega) (by omega))) hL ht ht2 ht' ht2' a5 (hT'.ex (fun k => fr _ _ (by omega) (by omega) (by omega) (by omega) (by omega)) (fun k => fr _ _ (by omega) (by omega) (by omega) (by omega) (by omega)) (fun k => fr _ _ (by omega) (by omega) (by omega) (by omega) (by omega))) a3 hS a4 lS (fun hr μ2 f2 => ?_) (fun m T hr μ2 f2 t2 => ?_)
    · rw [if_pos rfl]
      rw [rpl_no hr] at a7 a8
      refine h μ2 (fun a q y1 y2 y3 y4 y5 y6 y7 => (f2 a q y1).trans (a9 a q y1 y2 y3 y4 y5 y6 y7)) ?_ ?_
      · rw [← a7]; exact a5.ex (fun k => f2 _ _ (by unfold rpc; omega)) (fun k => f2 _ _ (by unfold rpc; omega)) (fun k => f2 _ _ (by unfold rpc; omega))
      · rw [← a8]; exact a6.fr (f2 _ _ (by unfold rpc; omega)) (fun k => f2 _ _ (by unfold rpc; omega)) (fun k => f2 _ _ (by unfold rpc; omega))
    · have ok := rip_ok ho hl hL a3 hr
      have ubd := uc_bd ok.2.2.2.2.2.1 ok.2.2.2.2.1 (by have := hL.1; omega)
      rw [rpl_s (by omega) hr, show (1600 - x).toNat - 1 = (1600 - (x + 1)).toNat by omega] at a7 a8
      dsimp only at a7 a8
      show if uc m = -9 then _ else _
      rw [if_neg (by omega)]
      have hN2 : CN μ2 nt' := a6.fr (f2 _ _ (by unfold rpc; omega) (by omega) (by omega) (by omega)) (fun k => f2 _ _ (by unfold rpc; omega) (by omega) (by omega) (by omega)) (fun k => f2 _ _ (by unfold rpc; omega) (by omega) (by omega) (by omega))
      refine ⟨⟨by omega, by omega⟩, ⟨by unfold uc at ubd; omega, by unfold uc at ubd; omega⟩, s_write7 hN2 (fun μ3 f3 n3 => ⟨⟨by omega, by omega⟩, hG _ _ ⟨T, _, by omega, by omega, ok.1, ok.2.1, t2.ex (fun k => f3 _ _ (by omega) (by omega) (by omega)) (fun k => f3 _ _ (by omega) (by omega) (by omega)) (fun k => f3 _ _ (by omega) (by omega) (by omega)), n3, a7, ?_, fun a q y1 y2 y3 y4 y5 y6 y7 => (f3 a q y5 y6 y7).trans ((f2 a q y1 y2 y3 y4).trans (a9 a q y1 y2 y3 y4 y5 y6 y7))⟩ (by omega)⟩)⟩
      rw [← a8]
      show _ = ads w (ad1 nt' w (uc m)) _
      unfold ad1
      rw [if_neg (by omega)]
      rfl
