theorem pure_main {ln : Nat} {xv : Int → Int} (hln : ln ≤ 2560) (hxv : ∀ i, zin (xv i)) : P_L_law_18 ln xv 0 (z_me z_0 ML73) (fun r _ => r = 1) := by
  sorry
