theorem nb {a b : Nat} (h : Nat.ble a b = true) : a ≤ b := Nat.le_of_ble_eq_true h
theorem z_pl {ws : List Cond} (ps : List Nat) (h : ws = ps.filterMap (fun i => tables_1[i]?)) (hg : ws.all goodWord = true) : ∀ w ∈ ws, w ∈ wt := fun w hw => by
  have h1 := List.all_eq_true.mp hg w hw
  rw [h] at hw
  obtain ⟨i, -, hi⟩ := List.mem_filterMap.mp hw
  exact wt_tbl (List.mem_of_getElem? hi) h1
theorem kl0 : zCl 0 RX0 TX0 2 tyX0 := ⟨rfl, by decide, z_allin (by decide +kernel), tyX0_ok, nmX0, rfl⟩
theorem kl1 : zCl 1 RX1 TX1 2 tyX1 := ⟨rfl, by decide, z_allin (by decide +kernel), tyX1_ok, nmX1, rfl⟩
theorem kl2 : zCl 2 RX2 TX2 10 tyX2 := ⟨rfl, by decide, z_allin (by decide +kernel), tyX2_ok, nmX2, rfl⟩
theorem kl3 : zCl 3 RX3 TX3 5 tyX3 := ⟨rfl, by decide, z_allin (by decide +kernel), tyX3_ok, nmX3, rfl⟩
theorem kl4 : zCl 4 RX4 TX4 5 tyX4 := ⟨rfl, by decide, z_allin (by decide +kernel), tyX4_ok, nmX4, rfl⟩
theorem kl5 : zCl 5 RX5 TX5 2 tyX5 := ⟨rfl, by decide, z_allin (by decide +kernel), tyX5_ok, nmX5, rfl⟩
theorem kl6 : zCl 6 RX6 TX6 15 tyX6 := ⟨rfl, by decide, z_allin (by decide +kernel), tyX6_ok, nmX6, rfl⟩
theorem kl7 : zCl 7 RX7 TX7 5 tyX7 := ⟨rfl, by decide, z_allin (by decide +kernel), tyX7_ok, nmX7, rfl⟩
theorem kl8 : zCl 8 RX8 TX8 10 tyX8 := ⟨rfl, by decide, z_allin (by decide +kernel), tyX8_ok, nmX8, rfl⟩
theorem kl9 : zCl 9 RX9 TX9 10 tyX9 := ⟨rfl, by decide, z_allin (by decide +kernel), tyX9_ok, nmX9, rfl⟩
theorem kl10 : zCl 10 RX10 TX10 3 tyX10 := ⟨rfl, by decide, z_allin (by decide +kernel), tyX10_ok, nmX10, rfl⟩
theorem kl11 : zCl 11 RX11 TX11 12 tyX11 := ⟨rfl, by decide, z_allin (by decide +kernel), tyX11_ok, nmX11, rfl⟩
theorem kl12 : zCl 12 RX12 TX12 50 tyX12 := ⟨rfl, by decide, z_allin (by decide +kernel), tyX12_ok, nmX12, rfl⟩
theorem t1_1 {w : Cond} (h : w ∈ tables_1_1) : w ∈ tables_1 := List.mem_append_left _ h
theorem t1_2 {w : Cond} (h : w ∈ tables_1_2) : w ∈ tables_1 := List.mem_append_right _ (List.mem_append_left _ h)
theorem t1_3 {w : Cond} (h : w ∈ tables_1_3) : w ∈ tables_1 := List.mem_append_right _ (List.mem_append_right _ (List.mem_append_left _ h))
theorem t1_4 {w : Cond} (h : w ∈ tables_1_4) : w ∈ tables_1 := List.mem_append_right _ (List.mem_append_right _ (List.mem_append_right _ (List.mem_append_left _ h)))
theorem t1_5 {w : Cond} (h : w ∈ tables_1_5) : w ∈ tables_1 := List.mem_append_right _ (List.mem_append_right _ (List.mem_append_right _ (List.mem_append_right _ (List.mem_append_left _ h))))
theorem t1_6 {w : Cond} (h : w ∈ tables_1_6) : w ∈ tables_1 := List.mem_append_right _ (List.mem_append_right _ (List.mem_append_right _ (List.mem_append_right _ (List.mem_append_right _ (h)))))
def wp_l : List (MethodName × Nat) := [(yX9_pass, 10), (yX9_readTerm, 10), (yX9_argumentsOf, 10), (yX9_isOwn, 10), (yX2_call, 10), (yX2_take, 10), (yX6_make, 15), (yX6_run, 15), (yX6_apply, 15), (yX6_bodyFor, 15), (yX6_push, 15), (yX6_take, 15), (yX6_write, 15), (yX1_findDepths, 2), (yX1_smallestAt, 2), (yX4_rewrites, 5), (yX0_putVariable, 2), (yX8_attempt, 10), (yX8_fail, 10), (yX8_normalize, 10), (yX8_succeed, 10), (yX8_proveCase, 10), (yX8_ripple, 10), (yX8_useClaim, 10), (yX8_guess, 10), (yX12_readsFunction, 50), (yX12_readsTerm, 50), (yX12_partsOf, 50), (yX12_reads, 50), (yX12_keepsBody, 50), (yX12_isFunction, 50), (yX12_bodyLong, 50), (yX12_readsClaim, 50), (yX12_keepsSide, 50), (yX12_puts, 50), (yX12_copies, 50), (yX12_at, 50), (yX12_told, 50), (yX12_calls, 50), (yX12_enters, 50), (yX12_works, 50), (yX12_signOf, 50), (yX12_takesSign, 50), (yX12_holdsBy, 50), (yX12_valueOf, 50), (yX12_counterexample, 50), (yX12_upTo, 50), (yX12_hasSign, 50), (yX12_makesNormal, 50), (yX12_falls, 50), (yX12_longOf, 50), (yX12_normalizes, 50), (yX12_pushes, 50), (yX12_pushesSign, 50), (yX12_joins, 50), (yX12_bodyFor, 50), (yX12_findScheme, 50), (yX12_callsIn, 50), (yX12_differenceOf, 50), (yX12_findDeep, 50), (yX12_end, 50), (yX12_arity, 50), (yX12_heldAt, 50), (yX12_atMost, 50), (yX12_steers, 50), (yX12_steersOnce, 50), (yX12_isPattern, 50), (yX12_matches, 50), (yX12_binds, 50), (yX12_isSamePart, 50), (yX12_replaces, 50), (yX12_longWith, 50), (yX12_notesIt, 50), (yX12_findCommon, 50), (yX12_isPartOf, 50), (yX12_makesGeneral, 50), (yX12_generalizes, 50), (yX12_slotOf, 50), (yX12_begins, 50), (yX12_fails, 50), (yX12_areSame, 50), (yX12_proves, 50), (yX12_isLemma, 50), (yX12_nextCase, 50), (yX12_takesCase, 50), (yX12_normalGoal, 50), (yX12_carries, 50), (yX12_usesClaim, 50), (yX12_guesses, 50), (yX12_isKnown, 50)]
theorem wp_in : ∀ q ∈ wp_l, q ∈ lw_privs := by rw [show wp_l = lw_privs by decide +kernel]; exact fun _ h => h
def wl0 : List Cond := [.fieldLink RX11 12 (TX11 0).1 (TX11 0).2.1 (TX11 0).2.2.1, .fieldLink RX11 21 (TX11 1).1 (TX11 1).2.1 (TX11 1).2.2.1, .fieldLink RX11 28 (TX11 2).1 (TX11 2).2.1 (TX11 2).2.2.1, .fieldLink RX11 35 (TX11 3).1 (TX11 3).2.1 (TX11 3).2.2.1, .fieldLink RX11 42 (TX11 4).1 (TX11 4).2.1 (TX11 4).2.2.1, .fieldLink RX11 54 (TX11 5).1 (TX11 5).2.1 (TX11 5).2.2.1, .fieldLink RX11 61 (TX11 6).1 (TX11 6).2.1 (TX11 6).2.2.1, .fieldLink RX11 70 (TX11 7).1 (TX11 7).2.1 (TX11 7).2.2.1, .fieldLink RX11 77 (TX11 8).1 (TX11 8).2.1 (TX11 8).2.2.1, .fieldLink RX11 81 (TX11 9).1 (TX11 9).2.1 (TX11 9).2.2.1, .fieldLink RX11 87 (TX11 10).1 (TX11 10).2.1 (TX11 10).2.2.1, .fieldLink RX11 91 (TX11 11).1 (TX11 11).2.1 (TX11 11).2.2.1, .fieldLink RX11 99 (TX9 3).1 (TX9 3).2.1 (TX9 3).2.2.1, .fieldLink RX11 107 (TX3 4).1 (TX3 4).2.1 (TX3 4).2.2.1, .fieldLink RX11 111 (TX9 4).1 (TX9 4).2.1 (TX9 4).2.2.1, .fieldLink RX11 114 (TX9 1).1 (TX9 1).2.1 (TX9 1).2.2.1, .fieldLink RX11 122 (TX3 0).1 (TX3 0).2.1 (TX3 0).2.2.1, .fieldLink RX11 126 (TX3 1).1 (TX3 1).2.1 (TX3 1).2.2.1, .fieldLink RX11 133 (TX10 2).1 (TX10 2).2.1 (TX10 2).2.2.1, .fieldLink RX11 144 (TX0 0).1 (TX0 0).2.1 (TX0 0).2.2.1, .fieldLink RX11 151 (TX0 1).1 (TX0 1).2.1 (TX0 1).2.2.1, .fieldLink RX11 161 (TX4 1).1 (TX4 1).2.1 (TX4 1).2.2.1, .fieldLink RX11 174 (TX2 2).1 (TX2 2).2.1 (TX2 2).2.2.1, .fieldLink RX11 185 (TX2 1).1 (TX2 1).2.1 (TX2 1).2.2.1, .fieldLink RX11 217 (TX10 1).1 (TX10 1).2.1 (TX10 1).2.2.1, .fieldLink RX11 228 (TX8 0).1 (TX8 0).2.1 (TX8 0).2.2.1, .fieldLink RX11 242 (TX7 4).1 (TX7 4).2.1 (TX7 4).2.2.1, .fieldLink RX11 245 (TX7 2).1 (TX7 2).2.1 (TX7 2).2.2.1, .fieldLink RX11 248 (TX7 3).1 (TX7 3).2.1 (TX7 3).2.2.1, .fieldLink RX11 249 (TX7 0).1 (TX7 0).2.1 (TX7 0).2.2.1, .fieldLink RX11 252 (TX7 1).1 (TX7 1).2.1 (TX7 1).2.2.1, .fieldLink RX11 255 (TX4 0).1 (TX4 0).2.1 (TX4 0).2.2.1, .fieldLink RX0 12 (TX0 0).1 (TX0 0).2.1 (TX0 0).2.2.1, .fieldLink RX0 18 (TX0 1).1 (TX0 1).2.1 (TX0 1).2.2.1, .fieldLink RX0 37 (TX10 0).1 (TX10 0).2.1 (TX10 0).2.2.1, .fieldLink RX0 60 (TX10 2).1 (TX10 2).2.1 (TX10 2).2.2.1, .fieldLink RX0 64 (TX10 1).1 (TX10 1).2.1 (TX10 1).2.2.1, .fieldLink RX0 89 (TX3 3).1 (TX3 3).2.1 (TX3 3).2.2.1, .fieldLink RX1 9 (TX1 0).1 (TX1 0).2.1 (TX1 0).2.2.1, .fieldLink RX1 15 (TX1 1).1 (TX1 1).2.1 (TX1 1).2.2.1, .fieldLink RX1 18 (TX10 2).1 (TX10 2).2.1 (TX10 2).2.2.1, .fieldLink RX1 33 (TX10 1).1 (TX10 1).2.1 (TX10 1).2.2.1, .fieldLink RX1 36 (TX10 0).1 (TX10 0).2.1 (TX10 0).2.2.1, .fieldLink RX2 11 (TX2 1).1 (TX2 1).2.1 (TX2 1).2.2.1, .fieldLink RX2 17 (TX2 3).1 (TX2 3).2.1 (TX2 3).2.2.1, .fieldLink RX2 21 (TX2 4).1 (TX2 4).2.1 (TX2 4).2.2.1, .fieldLink RX2 24 (TX2 5).1 (TX2 5).2.1 (TX2 5).2.2.1, .fieldLink RX2 27 (TX2 6).1 (TX2 6).2.1 (TX2 6).2.2.1, .fieldLink RX2 30 (TX2 7).1 (TX2 7).2.1 (TX2 7).2.2.1, .fieldLink RX2 33 (TX2 0).1 (TX2 0).2.1 (TX2 0).2.2.1, .fieldLink RX2 47 (TX0 0).1 (TX0 0).2.1 (TX0 0).2.2.1, .fieldLink RX2 55 (TX0 1).1 (TX0 1).2.1 (TX0 1).2.2.1, .fieldLink RX2 58 (TX2 2).1 (TX2 2).2.1 (TX2 2).2.2.1, .fieldLink RX2 62 (TX2 9).1 (TX2 9).2.1 (TX2 9).2.2.1, .fieldLink RX2 65 (TX2 8).1 (TX2 8).2.1 (TX2 8).2.2.1, .fieldLink RX2 68 (TX10 2).1 (TX10 2).2.1 (TX10 2).2.2.1, .fieldLink RX2 71 (TX10 0).1 (TX10 0).2.1 (TX10 0).2.2.1, .fieldLink RX2 84 (TX3 4).1 (TX3 4).2.1 (TX3 4).2.2.1, .fieldLink RX2 89 (TX3 1).1 (TX3 1).2.1 (TX3 1).2.2.1, .fieldLink RX2 92 (TX3 0).1 (TX3 0).2.1 (TX3 0).2.2.1]
theorem wl0_in : ∀ w ∈ wl0, w ∈ wt := z_pl [379, 380, 381, 382, 383, 384, 385, 386, 387, 388, 389, 390, 110, 82, 112, 107, 67, 71, 55, 278, 282, 291, 150, 148, 48, 344, 321, 317, 319, 313, 315, 289, 275, 279, 43, 56, 47, 80, 238, 239, 49, 46, 40, 147, 151, 152, 153, 154, 155, 146, 277, 281, 149, 157, 156, 54, 42, 84, 73, 68] (by decide +kernel) (by decide +kernel)
def wl1 : List Cond := [.fieldLink RX2 95 (TX3 2).1 (TX3 2).2.1 (TX3 2).2.2.1, .fieldLink RX3 9 (TX3 0).1 (TX3 0).2.1 (TX3 0).2.2.1, .fieldLink RX3 15 (TX3 1).1 (TX3 1).2.1 (TX3 1).2.2.1, .fieldLink RX3 20 (TX3 2).1 (TX3 2).2.1 (TX3 2).2.2.1, .fieldLink RX3 24 (TX3 3).1 (TX3 3).2.1 (TX3 3).2.2.1, .fieldLink RX3 28 (TX3 4).1 (TX3 4).2.1 (TX3 4).2.2.1, .fieldLink RX4 11 (TX4 0).1 (TX4 0).2.1 (TX4 0).2.2.1, .fieldLink RX4 20 (TX4 4).1 (TX4 4).2.1 (TX4 4).2.2.1, .fieldLink RX4 24 (TX4 2).1 (TX4 2).2.1 (TX4 2).2.2.1, .fieldLink RX4 28 (TX4 3).1 (TX4 3).2.1 (TX4 3).2.2.1, .fieldLink RX4 37 (TX4 1).1 (TX4 1).2.1 (TX4 1).2.2.1, .fieldLink RX4 55 (TX10 2).1 (TX10 2).2.1 (TX10 2).2.2.1, .fieldLink RX4 83 (TX10 0).1 (TX10 0).2.1 (TX10 0).2.2.1, .fieldLink RX5 9 (TX5 1).1 (TX5 1).2.1 (TX5 1).2.2.1, .fieldLink RX5 15 (TX5 0).1 (TX5 0).2.1 (TX5 0).2.2.1, .fieldLink RX5 19 (TX10 2).1 (TX10 2).2.1 (TX10 2).2.2.1, .fieldLink RX5 25 (TX10 0).1 (TX10 0).2.1 (TX10 0).2.2.1, .fieldLink RX5 32 (TX10 1).1 (TX10 1).2.1 (TX10 1).2.2.1, .fieldLink RX5 50 (TX3 3).1 (TX3 3).2.1 (TX3 3).2.2.1, .fieldLink RX6 11 (TX6 1).1 (TX6 1).2.1 (TX6 1).2.2.1, .fieldLink RX6 15 (TX6 2).1 (TX6 2).2.1 (TX6 2).2.2.1, .fieldLink RX6 18 (TX6 3).1 (TX6 3).2.1 (TX6 3).2.2.1, .fieldLink RX6 21 (TX6 4).1 (TX6 4).2.1 (TX6 4).2.2.1, .fieldLink RX6 26 (TX6 5).1 (TX6 5).2.1 (TX6 5).2.2.1, .fieldLink RX6 30 (TX6 6).1 (TX6 6).2.1 (TX6 6).2.2.1, .fieldLink RX6 33 (TX6 7).1 (TX6 7).2.1 (TX6 7).2.2.1, .fieldLink RX6 36 (TX6 8).1 (TX6 8).2.1 (TX6 8).2.2.1, .fieldLink RX6 39 (TX6 9).1 (TX6 9).2.1 (TX6 9).2.2.1, .fieldLink RX6 42 (TX6 10).1 (TX6 10).2.1 (TX6 10).2.2.1, .fieldLink RX6 45 (TX6 0).1 (TX6 0).2.1 (TX6 0).2.2.1, .fieldLink RX6 49 (TX6 11).1 (TX6 11).2.1 (TX6 11).2.2.1, .fieldLink RX6 65 (TX6 14).1 (TX6 14).2.1 (TX6 14).2.2.1, .fieldLink RX6 68 (TX6 13).1 (TX6 13).2.1 (TX6 13).2.2.1, .fieldLink RX6 71 (TX6 12).1 (TX6 12).2.1 (TX6 12).2.2.1, .fieldLink RX6 74 (TX10 2).1 (TX10 2).2.1 (TX10 2).2.2.1, .fieldLink RX6 77 (TX10 0).1 (TX10 0).2.1 (TX10 0).2.2.1, .fieldLink RX6 93 (TX3 4).1 (TX3 4).2.1 (TX3 4).2.2.1, .fieldLink RX6 98 (TX3 0).1 (TX3 0).2.1 (TX3 0).2.2.1, .fieldLink RX6 109 (TX3 1).1 (TX3 1).2.1 (TX3 1).2.2.1, .fieldLink RX6 112 (TX3 3).1 (TX3 3).2.1 (TX3 3).2.2.1, .fieldLink RX7 9 (TX7 0).1 (TX7 0).2.1 (TX7 0).2.2.1, .fieldLink RX7 15 (TX7 1).1 (TX7 1).2.1 (TX7 1).2.2.1, .fieldLink RX7 18 (TX7 2).1 (TX7 2).2.1 (TX7 2).2.2.1, .fieldLink RX7 21 (TX7 3).1 (TX7 3).2.1 (TX7 3).2.2.1, .fieldLink RX7 25 (TX7 4).1 (TX7 4).2.1 (TX7 4).2.2.1, .fieldLink RX8 11 (TX8 0).1 (TX8 0).2.1 (TX8 0).2.2.1, .fieldLink RX8 17 (TX8 1).1 (TX8 1).2.1 (TX8 1).2.2.1, .fieldLink RX8 20 (TX8 2).1 (TX8 2).2.1 (TX8 2).2.2.1, .fieldLink RX8 26 (TX8 3).1 (TX8 3).2.1 (TX8 3).2.2.1, .fieldLink RX8 30 (TX8 4).1 (TX8 4).2.1 (TX8 4).2.2.1, .fieldLink RX8 34 (TX8 5).1 (TX8 5).2.1 (TX8 5).2.2.1, .fieldLink RX8 38 (TX8 6).1 (TX8 6).2.1 (TX8 6).2.2.1, .fieldLink RX8 42 (TX8 7).1 (TX8 7).2.1 (TX8 7).2.2.1, .fieldLink RX8 46 (TX8 8).1 (TX8 8).2.1 (TX8 8).2.2.1, .fieldLink RX8 50 (TX8 9).1 (TX8 9).2.1 (TX8 9).2.2.1, .fieldLink RX8 95 (TX0 0).1 (TX0 0).2.1 (TX0 0).2.2.1, .fieldLink RX8 102 (TX0 1).1 (TX0 1).2.1 (TX0 1).2.2.1, .fieldLink RX9 9 (TX9 0).1 (TX9 0).2.1 (TX9 0).2.2.1, .fieldLink RX9 17 (TX9 1).1 (TX9 1).2.1 (TX9 1).2.2.1, .fieldLink RX9 21 (TX9 2).1 (TX9 2).2.1 (TX9 2).2.2.1]
theorem wl1_in : ∀ w ∈ wl1, w ∈ wt := z_pl [75, 65, 70, 74, 76, 81, 288, 294, 292, 293, 290, 52, 41, 252, 251, 51, 38, 45, 78, 187, 188, 189, 190, 191, 192, 193, 194, 195, 196, 186, 197, 200, 199, 198, 53, 39, 83, 66, 72, 79, 312, 314, 316, 318, 320, 343, 345, 346, 347, 348, 349, 350, 351, 352, 353, 276, 280, 105, 106, 108] (by decide +kernel) (by decide +kernel)
def wl2 : List Cond := [.fieldLink RX9 26 (TX9 3).1 (TX9 3).2.1 (TX9 3).2.2.1, .fieldLink RX9 30 (TX9 4).1 (TX9 4).2.1 (TX9 4).2.2.1, .fieldLink RX9 33 (TX9 5).1 (TX9 5).2.1 (TX9 5).2.2.1, .fieldLink RX9 36 (TX9 8).1 (TX9 8).2.1 (TX9 8).2.2.1, .fieldLink RX9 40 (TX9 9).1 (TX9 9).2.1 (TX9 9).2.2.1, .fieldLink RX9 43 (TX9 6).1 (TX9 6).2.1 (TX9 6).2.2.1, .fieldLink RX9 46 (TX9 7).1 (TX9 7).2.1 (TX9 7).2.2.1, .fieldLink RX9 57 (TX3 3).1 (TX3 3).2.1 (TX3 3).2.2.1, .fieldLink RX9 79 (TX3 4).1 (TX3 4).2.1 (TX3 4).2.2.1, .fieldLink RX9 80 (TX3 0).1 (TX3 0).2.1 (TX3 0).2.2.1, .fieldLink RX10 9 (TX10 0).1 (TX10 0).2.1 (TX10 0).2.2.1, .fieldLink RX10 15 (TX10 1).1 (TX10 1).2.1 (TX10 1).2.2.1, .fieldLink RX10 18 (TX10 2).1 (TX10 2).2.1 (TX10 2).2.2.1, .fieldLink RX12 7 (TX12 0).1 (TX12 0).2.1 (TX12 0).2.2.1, .fieldLink RX12 13 (TX12 1).1 (TX12 1).2.1 (TX12 1).2.2.1, .fieldLink RX12 16 (TX12 2).1 (TX12 2).2.1 (TX12 2).2.2.1, .fieldLink RX12 19 (TX12 5).1 (TX12 5).2.1 (TX12 5).2.2.1, .fieldLink RX12 22 (TX12 6).1 (TX12 6).2.1 (TX12 6).2.2.1, .fieldLink RX12 25 (TX12 7).1 (TX12 7).2.1 (TX12 7).2.2.1, .fieldLink RX12 28 (TX12 8).1 (TX12 8).2.1 (TX12 8).2.2.1, .fieldLink RX12 31 (TX12 11).1 (TX12 11).2.1 (TX12 11).2.2.1, .fieldLink RX12 34 (TX12 14).1 (TX12 14).2.1 (TX12 14).2.2.1, .fieldLink RX12 37 (TX12 17).1 (TX12 17).2.1 (TX12 17).2.2.1, .fieldLink RX12 40 (TX12 18).1 (TX12 18).2.1 (TX12 18).2.2.1, .fieldLink RX12 43 (TX12 19).1 (TX12 19).2.1 (TX12 19).2.2.1, .fieldLink RX12 46 (TX12 20).1 (TX12 20).2.1 (TX12 20).2.2.1, .fieldLink RX12 49 (TX12 21).1 (TX12 21).2.1 (TX12 21).2.2.1, .fieldLink RX12 52 (TX12 23).1 (TX12 23).2.1 (TX12 23).2.2.1, .fieldLink RX12 55 (TX12 24).1 (TX12 24).2.1 (TX12 24).2.2.1, .fieldLink RX12 58 (TX12 27).1 (TX12 27).2.1 (TX12 27).2.2.1, .fieldLink RX12 61 (TX12 31).1 (TX12 31).2.1 (TX12 31).2.2.1, .fieldLink RX12 64 (TX12 32).1 (TX12 32).2.1 (TX12 32).2.2.1, .fieldLink RX12 67 (TX12 33).1 (TX12 33).2.1 (TX12 33).2.2.1, .fieldLink RX12 70 (TX12 34).1 (TX12 34).2.1 (TX12 34).2.2.1, .fieldLink RX12 73 (TX12 40).1 (TX12 40).2.1 (TX12 40).2.2.1, .fieldLink RX12 76 (TX12 41).1 (TX12 41).2.1 (TX12 41).2.2.1, .fieldLink RX12 79 (TX12 42).1 (TX12 42).2.1 (TX12 42).2.2.1, .fieldLink RX12 83 (TX12 47).1 (TX12 47).2.1 (TX12 47).2.2.1, .fieldLink RX12 86 (TX12 48).1 (TX12 48).2.1 (TX12 48).2.2.1, .fieldLink RX12 89 (TX12 49).1 (TX12 49).2.1 (TX12 49).2.2.1, .fieldLink RX12 108 (TX12 3).1 (TX12 3).2.1 (TX12 3).2.2.1, .fieldLink RX12 114 (TX12 13).1 (TX12 13).2.1 (TX12 13).2.2.1, .fieldLink RX12 117 (TX12 12).1 (TX12 12).2.1 (TX12 12).2.2.1, .fieldLink RX12 120 (TX12 10).1 (TX12 10).2.1 (TX12 10).2.2.1, .fieldLink RX12 137 (TX12 4).1 (TX12 4).2.1 (TX12 4).2.2.1, .fieldLink RX12 164 (TX12 9).1 (TX12 9).2.1 (TX12 9).2.2.1, .fieldLink RX12 171 (TX12 35).1 (TX12 35).2.1 (TX12 35).2.2.1, .fieldLink RX12 174 (TX12 39).1 (TX12 39).2.1 (TX12 39).2.2.1, .fieldLink RX12 177 (TX12 22).1 (TX12 22).2.1 (TX12 22).2.2.1, .fieldLink RX12 180 (TX12 16).1 (TX12 16).2.1 (TX12 16).2.2.1, .fieldLink RX12 187 (TX12 15).1 (TX12 15).2.1 (TX12 15).2.2.1, .fieldLink RX12 224 (TX12 25).1 (TX12 25).2.1 (TX12 25).2.2.1, .fieldLink RX12 242 (TX12 26).1 (TX12 26).2.1 (TX12 26).2.2.1, .fieldLink RX12 251 (TX12 30).1 (TX12 30).2.1 (TX12 30).2.2.1, .fieldLink RX12 257 (TX12 29).1 (TX12 29).2.1 (TX12 29).2.2.1, .fieldLink RX12 260 (TX12 28).1 (TX12 28).2.1 (TX12 28).2.2.1, .fieldLink RX12 302 (TX12 36).1 (TX12 36).2.1 (TX12 36).2.2.1, .fieldLink RX12 315 (TX12 38).1 (TX12 38).2.1 (TX12 38).2.2.1, .fieldLink RX12 321 (TX12 37).1 (TX12 37).2.1 (TX12 37).2.2.1, .fieldLink RX12 334 (TX12 46).1 (TX12 46).2.1 (TX12 46).2.2.1]
theorem wl2_in : ∀ w ∈ wl2, w ∈ wt := z_pl [109, 111, 113, 116, 117, 114, 115, 77, 85, 69, 37, 44, 50, 860, 861, 862, 865, 866, 867, 868, 871, 874, 877, 878, 879, 880, 881, 883, 884, 887, 891, 892, 893, 894, 900, 901, 902, 907, 908, 909, 863, 873, 872, 870, 864, 869, 895, 899, 882, 876, 875, 885, 886, 890, 889, 888, 896, 898, 897, 906] (by decide +kernel) (by decide +kernel)
def wl3 : List Cond := [.fieldLink RX12 337 (TX12 43).1 (TX12 43).2.1 (TX12 43).2.2.1, .fieldLink RX12 340 (TX12 44).1 (TX12 44).2.1 (TX12 44).2.2.1, .fieldLink RX12 352 (TX12 45).1 (TX12 45).2.1 (TX12 45).2.2.1, .methodLink RX11 3 objectInit, .methodLink RX11 11 yX3_init, .methodLink RX11 18 yX9_init, .methodLink RX11 27 yX2_init, .methodLink RX11 34 yX6_init, .methodLink RX11 48 yX5_init, .methodLink RX11 51 yX4_init, .methodLink RX11 67 yX8_init, .methodLink RX11 95 yX11_isOutside, .methodLink RX11 103 yX9_put, .methodLink RX11 108 yX9_readFunction, .methodLink RX11 118 yX3_define, .methodLink RX11 129 yX3_bodyOf, .methodLink RX11 136 yX10_symbolOrSize, .methodLink RX11 140 yX9_readClaim, .methodLink RX11 147 yX10_copy, .methodLink RX11 154 yX0_part, .methodLink RX11 158 yX3_forgetAll, .methodLink RX11 162 yX7_empty, .methodLink RX11 165 yX10_empty, .methodLink RX11 166 yX10_add, .methodLink RX11 170 yX2_valueOf, .methodLink RX11 177 yX2_compare, .methodLink RX11 181 yX2_refutes, .methodLink RX11 188 yX11_isNoPlace, .methodLink RX11 191 yX6_rewrite, .methodLink RX11 195 yX0_inductionVariable, .methodLink RX11 199 yX0_deepestCall, .methodLink RX11 203 yX0_callsOf, .methodLink RX11 206 yX1_smallest, .methodLink RX11 210 yX4_ripple, .methodLink RX11 213 yX0_commonStart, .methodLink RX11 220 yX10_addRange, .methodLink RX11 224 yX0_generalize, .methodLink RX11 232 yX0_copy, .methodLink RX11 238 yX7_blame, .methodLink RX11 258 yX2_countTriples, .methodLink RX0 3 objectInit, .methodLink RX0 21 yX10_copy, .methodLink RX0 25 yX10_isSame, .methodLink RX0 29 yX10_has, .methodLink RX0 33 yX10_isCall, .methodLink RX0 41 yX3_depthOf, .methodLink RX0 47 Lib.Math.max.name, .methodLink RX0 53 yX0_callsOf, .methodLink RX0 56 yX0_deepestCall, .methodLink RX0 67 yX10_isLetter, .methodLink RX0 70 yX10_hasSubterm, .methodLink RX0 74 yX0_has, .methodLink RX0 75 yX0_commonStart, .methodLink RX0 79 yX0_freeVariable, .methodLink RX0 82 yX0_copy, .methodLink RX0 85 yX0_putVariable, .methodLink RX0 92 yX10_close, .methodLink RX0 96 yX10_empty, .methodLink RX0 99 yX10_isSameAt, .methodLink RX0 103 yX10_add]
theorem wl3_in : ∀ w ∈ wl3, w ∈ wt := z_pl [903, 904, 905, 21, 26, 99, 141, 181, 247, 260, 335, 420, 423, 435, 463, 478, 486, 494, 502, 507, 515, 519, 527, 528, 529, 551, 560, 577, 580, 621, 643, 644, 649, 669, 707, 717, 722, 749, 825, 842, 272, 736, 777, 568, 629, 638, 642, 625, 634, 711, 712, 731, 726, 727, 732, 737, 744, 741, 742, 743] (by decide +kernel) (by decide +kernel)
def wl4 : List Cond := [.methodLink RX1 3 objectInit, .methodLink RX1 24 yX1_findDepths, .methodLink RX1 28 yX1_smallestAt, .methodLink RX1 39 Lib.Math.min.name, .methodLink RX2 5 objectInit, .methodLink RX2 37 yX0_has, .methodLink RX2 43 yX2_compare, .methodLink RX2 51 yX2_valueOf, .methodLink RX2 74 yX10_isLetter, .methodLink RX2 77 yX2_call, .methodLink RX2 80 yX2_take, .methodLink RX2 98 Lib.Math.max.name, .methodLink RX3 3 objectInit, .methodLink RX3 32 yX10_copy, .methodLink RX4 3 objectInit, .methodLink RX4 33 yX0_isTrivial, .methodLink RX4 41 yX0_isSame, .methodLink RX4 45 yX0_copy, .methodLink RX4 49 yX1_smallest, .methodLink RX4 58 yX4_rewrites, .methodLink RX4 62 yX10_copy, .methodLink RX4 65 yX0_part, .methodLink RX4 69 yX5_matches, .methodLink RX4 75 yX4_isUsable, .methodLink RX4 79 yX5_replace, .methodLink RX4 87 yX10_has, .methodLink RX5 3 objectInit, .methodLink RX5 28 yX10_isSameAt, .methodLink RX5 35 yX5_matches, .methodLink RX5 39 yX10_empty, .methodLink RX5 42 yX10_addRange, .methodLink RX5 46 yX10_add, .methodLink RX5 55 yX10_close, .methodLink RX6 5 objectInit, .methodLink RX6 53 yX6_make, .methodLink RX6 57 yX6_run, .methodLink RX6 61 yX6_write, .methodLink RX6 80 yX10_isLetter, .methodLink RX6 84 yX6_apply, .methodLink RX6 87 yX6_take, .methodLink RX6 90 yX6_push, .methodLink RX6 101 yX6_bodyFor, .methodLink RX6 105 yX3_bodyOf, .methodLink RX6 115 yX10_empty, .methodLink RX6 118 yX10_add, .methodLink RX6 121 yX10_close, .methodLink RX7 3 objectInit, .methodLink RX7 28 Lib.Math.max.name, .methodLink RX8 3 objectInit, .methodLink RX8 55 yX7_write, .methodLink RX8 61 yX2_refutes, .methodLink RX8 67 yX8_fail, .methodLink RX8 71 yX8_normalize, .methodLink RX8 75 yX0_isTrivial, .methodLink RX8 79 yX8_succeed, .methodLink RX8 83 yX0_inductionVariable, .methodLink RX8 87 yX0_deepestCall, .methodLink RX8 91 yX8_proveCase, .methodLink RX8 98 yX8_ripple, .methodLink RX8 105 yX8_useClaim]
theorem wl4_in : ∀ w ∈ wl4, w ∈ wt := z_pl [237, 653, 657, 662, 144, 564, 572, 555, 533, 536, 543, 540, 29, 467, 263, 789, 790, 794, 673, 674, 702, 678, 679, 687, 691, 690, 250, 683, 815, 695, 696, 700, 701, 184, 584, 588, 610, 592, 593, 606, 601, 597, 605, 614, 615, 616, 311, 767, 338, 754, 758, 759, 768, 773, 781, 795, 796, 797, 801, 806] (by decide +kernel) (by decide +kernel)
def wl5 : List Cond := [.methodLink RX8 109 yX7_blame, .methodLink RX8 112 yX8_guess, .methodLink RX8 116 yX8_attempt, .methodLink RX8 119 yX6_rewrite, .methodLink RX8 125 yX4_ripple, .methodLink RX8 130 yX0_part, .methodLink RX8 134 yX5_firstMatch, .methodLink RX8 140 yX5_replace, .methodLink RX8 144 yX10_copy, .methodLink RX8 148 yX0_generalize, .methodLink RX8 152 yX0_copy, .methodLink RX8 155 yX4_keep, .methodLink RX9 3 objectInit, .methodLink RX9 49 yX9_pass, .methodLink RX9 53 yX9_readTerm, .methodLink RX9 62 yX10_close, .methodLink RX9 66 yX10_empty, .methodLink RX9 69 yX9_argumentsOf, .methodLink RX9 73 yX9_isOwn, .methodLink RX9 76 yX10_add, .methodLink RX10 3 objectInit, .methodLink RX10 22 arraycopyName, .methodLink RX10 28 yX10_isSameAt, .methodLink RX10 32 yX10_isLetter, .methodLink RL 9 yX11_init, .methodLink RL 12 yX12_init, .methodLink RL 13 yX11_type, .methodLink RL 17 yX12_type, .methodLink RL 18 yX11_wipe, .methodLink RL 22 yX12_wipe, .methodLink RL 23 yX11_function, .methodLink RL 27 yX12_function, .methodLink RL 28 yX11_ofFunction, .methodLink RL 31 yX12_ofFunction, .methodLink RL 32 yX11_body, .methodLink RL 36 yX12_body, .methodLink RL 37 yX11_claim, .methodLink RL 40 yX12_claim, .methodLink RL 41 yX11_side, .methodLink RL 44 yX12_side, .methodLink RL 45 yX11_anew, .methodLink RL 48 yX12_anew, .methodLink RL 49 yX11_value, .methodLink RL 53 yX12_value, .methodLink RL 54 yX11_holds, .methodLink RL 57 yX12_holds, .methodLink RL 58 yX11_counter, .methodLink RL 61 yX12_counter, .methodLink RL 62 yX11_normal, .methodLink RL 65 yX12_normal, .methodLink RL 66 yX11_scheme, .methodLink RL 69 yX12_scheme, .methodLink RL 70 yX11_difference, .methodLink RL 73 yX12_difference, .methodLink RL 74 yX11_steered, .methodLink RL 77 yX12_steered, .methodLink RL 78 yX11_common, .methodLink RL 81 yX12_common, .methodLink RL 82 yX11_general, .methodLink RL 85 yX12_general]
theorem wl5_in : ∀ w ∈ wl5, w ∈ wt := z_pl [763, 818, 824, 772, 805, 810, 811, 816, 817, 822, 823, 785, 102, 439, 443, 498, 447, 451, 455, 459, 36, 471, 716, 633, 18, 856, 416, 1011, 427, 1018, 431, 1022, 474, 1049, 482, 1061, 490, 1065, 503, 1089, 511, 1097, 523, 1101, 547, 1125, 556, 1137, 573, 1153, 617, 1189, 645, 1204, 665, 1233, 703, 1273, 718, 1285] (by decide +kernel) (by decide +kernel)
def wl6 : List Cond := [.methodLink RL 86 yX11_prove, .methodLink RL 89 yX12_prove, .methodLink RL 90 yX11_why, .methodLink RL 93 yX12_why, .methodLink RL 94 yX11_script, .methodLink RL 97 yX12_script, .methodLink RL 98 yX11_lemma, .methodLink RL 101 yX12_lemma, .methodLink RL 102 yX11_tested, .methodLink RL 105 yX12_tested, .methodLink RL 106 yX11_back, .methodLink RL 109 yX12_back, .methodLink RL 110 yX11_many, .methodLink RL 113 yX12_many, .methodLink RX12 1 objectInit, .methodLink RX12 92 yX12_at, .methodLink RX12 96 yX12_within, .methodLink RX12 100 yX12_isLetter, .methodLink RX12 104 yX12_arity, .methodLink RX12 111 yX12_isVariable, .methodLink RX12 123 yX12_partsOf, .methodLink RX12 127 yX12_readsTerm, .methodLink RX12 131 yX12_reads, .methodLink RX12 133 yX12_keepsBody, .methodLink RX12 140 yX12_readsFunction, .methodLink RX12 144 yX12_isFunction, .methodLink RX12 147 yX12_bodyLong, .methodLink RX12 150 yX12_puts, .methodLink RX12 153 yX12_keepsSide, .methodLink RX12 157 yX12_readsClaim, .methodLink RX12 161 yX12_copies, .methodLink RX12 168 yX12_told, .methodLink RX12 183 yX12_enters, .methodLink RX12 190 yX12_calls, .methodLink RX12 193 yX12_signOf, .methodLink RX12 196 yX12_takesSign, .methodLink RX12 199 yX12_works, .methodLink RX12 203 yX12_valueOf, .methodLink RX12 207 yX12_holdsBy, .methodLink RX12 211 yX12_hasSign, .methodLink RX12 214 yX12_upTo, .methodLink RX12 218 yX12_counterexample, .methodLink RX12 221 yX12_longOf, .methodLink RX12 227 yX12_pushesSign, .methodLink RX12 230 yX12_falls, .methodLink RX12 233 yX12_pushes, .methodLink RX12 236 yX12_joins, .methodLink RX12 239 yX12_bodyFor, .methodLink RX12 245 yX12_normalizes, .methodLink RX12 248 yX12_makesNormal, .methodLink RX12 254 yX12_callsIn, .methodLink RX12 263 yX12_findScheme, .methodLink RX12 266 yX12_end, .methodLink RX12 270 yX12_atMost, .methodLink RX12 273 yX12_findDeep, .methodLink RX12 276 yX12_heldAt, .methodLink RX12 279 yX12_differenceOf, .methodLink RX12 282 yX12_isSamePart, .methodLink RX12 286 yX12_binds, .methodLink RX12 289 yX12_longWith]
theorem wl6_in : ∀ w ∈ wl6, w ∈ wt := z_pl [745, 1297, 826, 1349, 830, 1353, 834, 1357, 838, 1365, 846, 1369, 850, 1373, 859, 1085, 1015, 1201, 1220, 1038, 1034, 1030, 1041, 1045, 1026, 1053, 1057, 1077, 1073, 1069, 1081, 1093, 1109, 1105, 1117, 1121, 1113, 1133, 1129, 1149, 1145, 1141, 1165, 1177, 1161, 1173, 1181, 1185, 1169, 1157, 1197, 1193, 1216, 1229, 1212, 1224, 1208, 1257, 1253, 1265] (by decide +kernel) (by decide +kernel)
def wl7 : List Cond := [.methodLink RX12 292 yX12_isPattern, .methodLink RX12 295 yX12_matches, .methodLink RX12 299 yX12_replaces, .methodLink RX12 305 yX12_steersOnce, .methodLink RX12 308 yX12_notesIt, .methodLink RX12 311 yX12_steers, .methodLink RX12 318 yX12_isPartOf, .methodLink RX12 324 yX12_findCommon, .methodLink RX12 327 yX12_generalizes, .methodLink RX12 331 yX12_makesGeneral, .methodLink RX12 343 yX12_areSame, .methodLink RX12 346 yX12_slotOf, .methodLink RX12 349 yX12_isLemma, .methodLink RX12 355 yX12_fails, .methodLink RX12 359 yX12_proves, .methodLink RX12 362 yX12_usesClaim, .methodLink RX12 365 yX12_normalGoal, .methodLink RX12 368 yX12_takesCase, .methodLink RX12 371 yX12_carries, .methodLink RX12 374 yX12_guesses, .methodLink RX12 377 yX12_begins, .methodLink RX12 380 yX12_nextCase, .methodLink RX12 383 yX12_isKnown, .constant RX1 32 (Int32.ofInt 1000000), .constant RX12 269 (Int32.ofInt 100000), .initialized "SteeredClaimsLaw", .initialized "SteeredClaims", .initialized "SteeredClaims$Functions", .initialized "SteeredClaims$Term", .initialized "SteeredClaims$Reader", .initialized "SteeredClaims$Evaluator", .initialized "SteeredClaims$Normalizer", .initialized "SteeredClaims$Embedding", .initialized "SteeredClaims$Matcher", .initialized "SteeredClaims$Lemmas", .initialized "SteeredClaims$Claim", .initialized "SteeredClaims$Notes", .initialized "SteeredClaims$Prover", .initialized "SteeredClaimsModel", .initialized "java/lang/System", .initialized "java/lang/Math", .instanceMethod yX0_init, .instanceMethod yX0_part, .selects yX0_part.cls yX0_part yX0_part, .instanceMethod yX0_copy, .selects yX0_copy.cls yX0_copy yX0_copy, .instanceMethod yX0_isSame, .selects yX0_isSame.cls yX0_isSame yX0_isSame, .instanceMethod yX0_isTrivial, .selects yX0_isTrivial.cls yX0_isTrivial yX0_isTrivial, .instanceMethod yX0_has, .selects yX0_has.cls yX0_has yX0_has, .instanceMethod yX0_callsOf, .selects yX0_callsOf.cls yX0_callsOf yX0_callsOf, .instanceMethod yX0_deepestCall, .selects yX0_deepestCall.cls yX0_deepestCall yX0_deepestCall, .instanceMethod yX0_inductionVariable, .selects yX0_inductionVariable.cls yX0_inductionVariable yX0_inductionVariable, .instanceMethod yX0_commonStart, .selects yX0_commonStart.cls yX0_commonStart yX0_commonStart]
theorem wl7_in : ∀ w ∈ wl7, w ∈ wt := z_pl [1245, 1249, 1261, 1241, 1269, 1237, 1281, 1277, 1293, 1289, 1313, 1301, 1321, 1309, 1317, 1341, 1333, 1329, 1337, 1345, 1305, 1325, 1361, 661, 1228, 0, 1, 2, 3, 4, 5, 6, 7, 8, 9, 10, 11, 12, 13, 14, 15, 270, 508, 509, 733, 734, 791, 792, 774, 775, 565, 566, 626, 627, 635, 636, 622, 623, 708, 709] (by decide +kernel) (by decide +kernel)
def wl8 : List Cond := [.instanceMethod yX0_freeVariable, .selects yX0_freeVariable.cls yX0_freeVariable yX0_freeVariable, .instanceMethod yX0_generalize, .selects yX0_generalize.cls yX0_generalize yX0_generalize, .instanceMethod yX0_putVariable, .instanceMethod yX1_init, .instanceMethod yX1_smallest, .selects yX1_smallest.cls yX1_smallest yX1_smallest, .instanceMethod yX1_findDepths, .instanceMethod yX1_smallestAt, .instanceMethod yX2_init, .instanceMethod yX2_refutes, .selects yX2_refutes.cls yX2_refutes yX2_refutes, .instanceMethod yX2_countTriples, .selects yX2_countTriples.cls yX2_countTriples yX2_countTriples, .instanceMethod yX2_compare, .selects yX2_compare.cls yX2_compare yX2_compare, .instanceMethod yX2_valueOf, .selects yX2_valueOf.cls yX2_valueOf yX2_valueOf, .instanceMethod yX2_take, .instanceMethod yX2_call, .instanceMethod yX3_init, .instanceMethod yX3_define, .selects yX3_define.cls yX3_define yX3_define, .instanceMethod yX3_forgetAll, .selects yX3_forgetAll.cls yX3_forgetAll yX3_forgetAll, .instanceMethod yX3_bodyOf, .selects yX3_bodyOf.cls yX3_bodyOf yX3_bodyOf, .instanceMethod yX3_depthOf, .selects yX3_depthOf.cls yX3_depthOf yX3_depthOf, .instanceMethod yX4_init, .instanceMethod yX4_keep, .selects yX4_keep.cls yX4_keep yX4_keep, .instanceMethod yX4_ripple, .selects yX4_ripple.cls yX4_ripple yX4_ripple, .instanceMethod yX4_rewrites, .static yX4_isUsable, .instanceMethod yX5_init, .instanceMethod yX5_matches, .selects yX5_matches.cls yX5_matches yX5_matches, .instanceMethod yX5_firstMatch, .selects yX5_firstMatch.cls yX5_firstMatch yX5_firstMatch, .instanceMethod yX5_replace, .selects yX5_replace.cls yX5_replace yX5_replace, .instanceMethod yX6_init, .instanceMethod yX6_rewrite, .selects yX6_rewrite.cls yX6_rewrite yX6_rewrite, .instanceMethod yX6_run, .instanceMethod yX6_take, .instanceMethod yX6_apply, .instanceMethod yX6_bodyFor, .instanceMethod yX6_make, .instanceMethod yX6_push, .instanceMethod yX6_write, .instanceMethod yX7_init, .instanceMethod yX7_empty, .selects yX7_empty.cls yX7_empty yX7_empty, .instanceMethod yX7_write, .selects yX7_write.cls yX7_write yX7_write, .instanceMethod yX7_blame]
theorem wl8_in : ∀ w ∈ wl8, w ∈ wt := z_pl [728, 729, 723, 724, 739, 235, 650, 651, 655, 659, 142, 561, 562, 843, 844, 552, 553, 530, 531, 545, 538, 27, 464, 465, 516, 517, 479, 480, 639, 640, 261, 786, 787, 670, 671, 676, 688, 248, 680, 681, 812, 813, 692, 693, 182, 581, 582, 590, 608, 595, 599, 586, 603, 612, 309, 520, 521, 755, 756, 764] (by decide +kernel) (by decide +kernel)
def wl9 : List Cond := [.selects yX7_blame.cls yX7_blame yX7_blame, .instanceMethod yX8_init, .instanceMethod yX8_attempt, .instanceMethod yX8_proveCase, .instanceMethod yX8_normalize, .instanceMethod yX8_ripple, .instanceMethod yX8_useClaim, .instanceMethod yX8_guess, .instanceMethod yX8_fail, .instanceMethod yX8_succeed, .instanceMethod yX9_init, .instanceMethod yX9_put, .selects yX9_put.cls yX9_put yX9_put, .instanceMethod yX9_readFunction, .selects yX9_readFunction.cls yX9_readFunction yX9_readFunction, .instanceMethod yX9_readClaim, .selects yX9_readClaim.cls yX9_readClaim yX9_readClaim, .instanceMethod yX9_pass, .instanceMethod yX9_readTerm, .instanceMethod yX9_isOwn, .instanceMethod yX9_argumentsOf, .instanceMethod yX10_init, .instanceMethod yX10_empty, .selects yX10_empty.cls yX10_empty yX10_empty, .instanceMethod yX10_add, .selects yX10_add.cls yX10_add yX10_add, .instanceMethod yX10_addRange, .selects yX10_addRange.cls yX10_addRange yX10_addRange, .instanceMethod yX10_close, .selects yX10_close.cls yX10_close yX10_close, .instanceMethod yX10_copy, .selects yX10_copy.cls yX10_copy yX10_copy, .instanceMethod yX10_symbolOrSize, .selects yX10_symbolOrSize.cls yX10_symbolOrSize yX10_symbolOrSize, .instanceMethod yX10_isSame, .selects yX10_isSame.cls yX10_isSame yX10_isSame, .instanceMethod yX10_isSameAt, .selects yX10_isSameAt.cls yX10_isSameAt yX10_isSameAt, .instanceMethod yX10_has, .selects yX10_has.cls yX10_has yX10_has, .instanceMethod yX10_hasSubterm, .selects yX10_hasSubterm.cls yX10_hasSubterm yX10_hasSubterm, .instanceMethod yX10_isCall, .selects yX10_isCall.cls yX10_isCall yX10_isCall, .static yX10_isLetter, .instanceMethod yX11_init, .instanceMethod yX11_type, .selects yX11_type.cls yX11_type yX11_type, .instanceMethod yX11_wipe, .selects yX11_wipe.cls yX11_wipe yX11_wipe, .instanceMethod yX11_function, .selects yX11_function.cls yX11_function yX11_function, .instanceMethod yX11_ofFunction, .selects yX11_ofFunction.cls yX11_ofFunction yX11_ofFunction, .instanceMethod yX11_body, .selects yX11_body.cls yX11_body yX11_body, .instanceMethod yX11_claim, .selects yX11_claim.cls yX11_claim yX11_claim, .instanceMethod yX11_side, .selects yX11_side.cls yX11_side yX11_side]
theorem wl9_in : ∀ w ∈ wl9, w ∈ wt := z_pl [765, 336, 752, 799, 770, 803, 808, 820, 761, 783, 100, 424, 425, 436, 437, 495, 496, 441, 445, 457, 453, 34, 448, 449, 460, 461, 697, 698, 499, 500, 468, 469, 487, 488, 778, 779, 684, 685, 569, 570, 713, 714, 630, 631, 534, 19, 417, 418, 428, 429, 432, 433, 475, 476, 483, 484, 491, 492, 504, 505] (by decide +kernel) (by decide +kernel)
def wl10 : List Cond := [.instanceMethod yX11_anew, .selects yX11_anew.cls yX11_anew yX11_anew, .instanceMethod yX11_value, .selects yX11_value.cls yX11_value yX11_value, .instanceMethod yX11_holds, .selects yX11_holds.cls yX11_holds yX11_holds, .instanceMethod yX11_counter, .selects yX11_counter.cls yX11_counter yX11_counter, .instanceMethod yX11_normal, .selects yX11_normal.cls yX11_normal yX11_normal, .instanceMethod yX11_scheme, .selects yX11_scheme.cls yX11_scheme yX11_scheme, .instanceMethod yX11_difference, .selects yX11_difference.cls yX11_difference yX11_difference, .instanceMethod yX11_steered, .selects yX11_steered.cls yX11_steered yX11_steered, .instanceMethod yX11_common, .selects yX11_common.cls yX11_common yX11_common, .instanceMethod yX11_general, .selects yX11_general.cls yX11_general yX11_general, .instanceMethod yX11_prove, .selects yX11_prove.cls yX11_prove yX11_prove, .instanceMethod yX11_why, .selects yX11_why.cls yX11_why yX11_why, .instanceMethod yX11_script, .selects yX11_script.cls yX11_script yX11_script, .instanceMethod yX11_lemma, .selects yX11_lemma.cls yX11_lemma yX11_lemma, .instanceMethod yX11_tested, .selects yX11_tested.cls yX11_tested yX11_tested, .instanceMethod yX11_back, .selects yX11_back.cls yX11_back yX11_back, .instanceMethod yX11_many, .selects yX11_many.cls yX11_many yX11_many, .static yX11_isOutside, .static yX11_isNoPlace, .instanceMethod yX12_init, .static yX12_within, .instanceMethod yX12_at, .instanceMethod yX12_puts, .instanceMethod yX12_copies, .static yX12_isVariable, .static yX12_isLetter, .instanceMethod yX12_arity, .instanceMethod yX12_end, .instanceMethod yX12_areSame, .instanceMethod yX12_isSamePart, .instanceMethod yX12_hasSign, .instanceMethod yX12_type, .selects yX12_type.cls yX12_type yX12_type, .instanceMethod yX12_wipe, .selects yX12_wipe.cls yX12_wipe yX12_wipe, .instanceMethod yX12_partsOf, .instanceMethod yX12_readsTerm, .instanceMethod yX12_reads, .instanceMethod yX12_keepsBody, .instanceMethod yX12_readsFunction, .instanceMethod yX12_function, .selects yX12_function.cls yX12_function yX12_function, .instanceMethod yX12_isFunction]
theorem wl10_in : ∀ w ∈ wl10, w ∈ wt := z_pl [512, 513, 524, 525, 548, 549, 557, 558, 574, 575, 618, 619, 646, 647, 666, 667, 704, 705, 719, 720, 746, 747, 827, 828, 831, 832, 835, 836, 839, 840, 847, 848, 851, 852, 421, 578, 857, 1016, 1087, 1079, 1083, 1039, 1202, 1222, 1218, 1315, 1259, 1151, 1012, 1013, 1019, 1020, 1036, 1032, 1043, 1047, 1028, 1023, 1024, 1055] (by decide +kernel) (by decide +kernel)
def wl11 : List Cond := [.instanceMethod yX12_bodyLong, .instanceMethod yX12_ofFunction, .selects yX12_ofFunction.cls yX12_ofFunction yX12_ofFunction, .instanceMethod yX12_body, .selects yX12_body.cls yX12_body yX12_body, .instanceMethod yX12_keepsSide, .instanceMethod yX12_readsClaim, .instanceMethod yX12_claim, .selects yX12_claim.cls yX12_claim yX12_claim, .instanceMethod yX12_told, .instanceMethod yX12_side, .selects yX12_side.cls yX12_side yX12_side, .instanceMethod yX12_anew, .selects yX12_anew.cls yX12_anew yX12_anew, .instanceMethod yX12_signOf, .instanceMethod yX12_enters, .instanceMethod yX12_calls, .instanceMethod yX12_takesSign, .instanceMethod yX12_works, .instanceMethod yX12_valueOf, .instanceMethod yX12_value, .selects yX12_value.cls yX12_value yX12_value, .instanceMethod yX12_holdsBy, .instanceMethod yX12_holds, .selects yX12_holds.cls yX12_holds yX12_holds, .instanceMethod yX12_upTo, .instanceMethod yX12_counterexample, .instanceMethod yX12_counter, .selects yX12_counter.cls yX12_counter yX12_counter, .instanceMethod yX12_longOf, .instanceMethod yX12_pushes, .instanceMethod yX12_pushesSign, .instanceMethod yX12_falls, .instanceMethod yX12_joins, .instanceMethod yX12_bodyFor, .instanceMethod yX12_normalizes, .instanceMethod yX12_makesNormal, .instanceMethod yX12_normal, .selects yX12_normal.cls yX12_normal yX12_normal, .instanceMethod yX12_callsIn, .instanceMethod yX12_findScheme, .instanceMethod yX12_scheme, .selects yX12_scheme.cls yX12_scheme yX12_scheme, .instanceMethod yX12_findDeep, .instanceMethod yX12_atMost, .instanceMethod yX12_heldAt, .instanceMethod yX12_differenceOf, .instanceMethod yX12_difference, .selects yX12_difference.cls yX12_difference yX12_difference, .instanceMethod yX12_binds, .instanceMethod yX12_matches, .instanceMethod yX12_longWith, .instanceMethod yX12_replaces, .instanceMethod yX12_isPattern, .instanceMethod yX12_steersOnce, .instanceMethod yX12_steers, .instanceMethod yX12_steered, .selects yX12_steered.cls yX12_steered yX12_steered, .instanceMethod yX12_isPartOf, .instanceMethod yX12_findCommon]
theorem wl11_in : ∀ w ∈ wl11, w ∈ wt := z_pl [1059, 1050, 1051, 1062, 1063, 1075, 1071, 1066, 1067, 1095, 1090, 1091, 1098, 1099, 1119, 1111, 1107, 1123, 1115, 1135, 1102, 1103, 1131, 1126, 1127, 1147, 1143, 1138, 1139, 1167, 1175, 1179, 1163, 1183, 1187, 1171, 1159, 1154, 1155, 1199, 1195, 1190, 1191, 1214, 1231, 1226, 1210, 1205, 1206, 1255, 1251, 1267, 1263, 1247, 1243, 1239, 1234, 1235, 1283, 1279] (by decide +kernel) (by decide +kernel)
def wl12 : List Cond := [.instanceMethod yX12_common, .selects yX12_common.cls yX12_common yX12_common, .instanceMethod yX12_generalizes, .instanceMethod yX12_makesGeneral, .instanceMethod yX12_general, .selects yX12_general.cls yX12_general yX12_general, .instanceMethod yX12_notesIt, .instanceMethod yX12_slotOf, .instanceMethod yX12_fails, .instanceMethod yX12_isLemma, .instanceMethod yX12_proves, .instanceMethod yX12_begins, .instanceMethod yX12_takesCase, .instanceMethod yX12_normalGoal, .instanceMethod yX12_usesClaim, .instanceMethod yX12_carries, .instanceMethod yX12_guesses, .instanceMethod yX12_nextCase, .instanceMethod yX12_prove, .selects yX12_prove.cls yX12_prove yX12_prove, .instanceMethod yX12_why, .selects yX12_why.cls yX12_why yX12_why, .instanceMethod yX12_script, .selects yX12_script.cls yX12_script yX12_script, .instanceMethod yX12_isKnown, .instanceMethod yX12_lemma, .selects yX12_lemma.cls yX12_lemma yX12_lemma, .instanceMethod yX12_tested, .selects yX12_tested.cls yX12_tested yX12_tested, .instanceMethod yX12_back, .selects yX12_back.cls yX12_back yX12_back, .instanceMethod yX12_many, .selects yX12_many.cls yX12_many yX12_many]
theorem wl12_in : ∀ w ∈ wl12, w ∈ wt := z_pl [1274, 1275, 1295, 1291, 1286, 1287, 1271, 1303, 1311, 1323, 1319, 1307, 1331, 1335, 1343, 1339, 1347, 1327, 1298, 1299, 1350, 1351, 1354, 1355, 1363, 1358, 1359, 1366, 1367, 1370, 1371, 1374, 1375] (by decide +kernel) (by decide +kernel)
theorem fl_X11_12 : Cond.fieldLink RX11 12 (TX11 0).1 (TX11 0).2.1 (TX11 0).2.2.1 ∈ wt := (wl0_in _ (List.mem_of_getElem? (i := 0) rfl))
theorem fl_X11_21 : Cond.fieldLink RX11 21 (TX11 1).1 (TX11 1).2.1 (TX11 1).2.2.1 ∈ wt := (wl0_in _ (List.mem_of_getElem? (i := 1) rfl))
theorem fl_X11_28 : Cond.fieldLink RX11 28 (TX11 2).1 (TX11 2).2.1 (TX11 2).2.2.1 ∈ wt := (wl0_in _ (List.mem_of_getElem? (i := 2) rfl))
theorem fl_X11_35 : Cond.fieldLink RX11 35 (TX11 3).1 (TX11 3).2.1 (TX11 3).2.2.1 ∈ wt := (wl0_in _ (List.mem_of_getElem? (i := 3) rfl))
theorem fl_X11_42 : Cond.fieldLink RX11 42 (TX11 4).1 (TX11 4).2.1 (TX11 4).2.2.1 ∈ wt := (wl0_in _ (List.mem_of_getElem? (i := 4) rfl))
theorem fl_X11_54 : Cond.fieldLink RX11 54 (TX11 5).1 (TX11 5).2.1 (TX11 5).2.2.1 ∈ wt := (wl0_in _ (List.mem_of_getElem? (i := 5) rfl))
theorem fl_X11_61 : Cond.fieldLink RX11 61 (TX11 6).1 (TX11 6).2.1 (TX11 6).2.2.1 ∈ wt := (wl0_in _ (List.mem_of_getElem? (i := 6) rfl))
theorem fl_X11_70 : Cond.fieldLink RX11 70 (TX11 7).1 (TX11 7).2.1 (TX11 7).2.2.1 ∈ wt := (wl0_in _ (List.mem_of_getElem? (i := 7) rfl))
theorem fl_X11_77 : Cond.fieldLink RX11 77 (TX11 8).1 (TX11 8).2.1 (TX11 8).2.2.1 ∈ wt := (wl0_in _ (List.mem_of_getElem? (i := 8) rfl))
theorem fl_X11_81 : Cond.fieldLink RX11 81 (TX11 9).1 (TX11 9).2.1 (TX11 9).2.2.1 ∈ wt := (wl0_in _ (List.mem_of_getElem? (i := 9) rfl))
theorem fl_X11_87 : Cond.fieldLink RX11 87 (TX11 10).1 (TX11 10).2.1 (TX11 10).2.2.1 ∈ wt := (wl0_in _ (List.mem_of_getElem? (i := 10) rfl))
theorem fl_X11_91 : Cond.fieldLink RX11 91 (TX11 11).1 (TX11 11).2.1 (TX11 11).2.2.1 ∈ wt := (wl0_in _ (List.mem_of_getElem? (i := 11) rfl))
theorem fl_X11_99 : Cond.fieldLink RX11 99 (TX9 3).1 (TX9 3).2.1 (TX9 3).2.2.1 ∈ wt := (wl0_in _ (List.mem_of_getElem? (i := 12) rfl))
theorem fl_X11_107 : Cond.fieldLink RX11 107 (TX3 4).1 (TX3 4).2.1 (TX3 4).2.2.1 ∈ wt := (wl0_in _ (List.mem_of_getElem? (i := 13) rfl))
theorem fl_X11_111 : Cond.fieldLink RX11 111 (TX9 4).1 (TX9 4).2.1 (TX9 4).2.2.1 ∈ wt := (wl0_in _ (List.mem_of_getElem? (i := 14) rfl))
theorem fl_X11_114 : Cond.fieldLink RX11 114 (TX9 1).1 (TX9 1).2.1 (TX9 1).2.2.1 ∈ wt := (wl0_in _ (List.mem_of_getElem? (i := 15) rfl))
theorem fl_X11_122 : Cond.fieldLink RX11 122 (TX3 0).1 (TX3 0).2.1 (TX3 0).2.2.1 ∈ wt := (wl0_in _ (List.mem_of_getElem? (i := 16) rfl))
theorem fl_X11_126 : Cond.fieldLink RX11 126 (TX3 1).1 (TX3 1).2.1 (TX3 1).2.2.1 ∈ wt := (wl0_in _ (List.mem_of_getElem? (i := 17) rfl))
theorem fl_X11_133 : Cond.fieldLink RX11 133 (TX10 2).1 (TX10 2).2.1 (TX10 2).2.2.1 ∈ wt := (wl0_in _ (List.mem_of_getElem? (i := 18) rfl))
theorem fl_X11_144 : Cond.fieldLink RX11 144 (TX0 0).1 (TX0 0).2.1 (TX0 0).2.2.1 ∈ wt := (wl0_in _ (List.mem_of_getElem? (i := 19) rfl))
theorem fl_X11_151 : Cond.fieldLink RX11 151 (TX0 1).1 (TX0 1).2.1 (TX0 1).2.2.1 ∈ wt := (wl0_in _ (List.mem_of_getElem? (i := 20) rfl))
theorem fl_X11_161 : Cond.fieldLink RX11 161 (TX4 1).1 (TX4 1).2.1 (TX4 1).2.2.1 ∈ wt := (wl0_in _ (List.mem_of_getElem? (i := 21) rfl))
theorem fl_X11_174 : Cond.fieldLink RX11 174 (TX2 2).1 (TX2 2).2.1 (TX2 2).2.2.1 ∈ wt := (wl0_in _ (List.mem_of_getElem? (i := 22) rfl))
theorem fl_X11_185 : Cond.fieldLink RX11 185 (TX2 1).1 (TX2 1).2.1 (TX2 1).2.2.1 ∈ wt := (wl0_in _ (List.mem_of_getElem? (i := 23) rfl))
theorem fl_X11_217 : Cond.fieldLink RX11 217 (TX10 1).1 (TX10 1).2.1 (TX10 1).2.2.1 ∈ wt := (wl0_in _ (List.mem_of_getElem? (i := 24) rfl))
theorem fl_X11_228 : Cond.fieldLink RX11 228 (TX8 0).1 (TX8 0).2.1 (TX8 0).2.2.1 ∈ wt := (wl0_in _ (List.mem_of_getElem? (i := 25) rfl))
theorem fl_X11_242 : Cond.fieldLink RX11 242 (TX7 4).1 (TX7 4).2.1 (TX7 4).2.2.1 ∈ wt := (wl0_in _ (List.mem_of_getElem? (i := 26) rfl))
theorem fl_X11_245 : Cond.fieldLink RX11 245 (TX7 2).1 (TX7 2).2.1 (TX7 2).2.2.1 ∈ wt := (wl0_in _ (List.mem_of_getElem? (i := 27) rfl))
theorem fl_X11_248 : Cond.fieldLink RX11 248 (TX7 3).1 (TX7 3).2.1 (TX7 3).2.2.1 ∈ wt := (wl0_in _ (List.mem_of_getElem? (i := 28) rfl))
theorem fl_X11_249 : Cond.fieldLink RX11 249 (TX7 0).1 (TX7 0).2.1 (TX7 0).2.2.1 ∈ wt := (wl0_in _ (List.mem_of_getElem? (i := 29) rfl))
theorem fl_X11_252 : Cond.fieldLink RX11 252 (TX7 1).1 (TX7 1).2.1 (TX7 1).2.2.1 ∈ wt := (wl0_in _ (List.mem_of_getElem? (i := 30) rfl))
theorem fl_X11_255 : Cond.fieldLink RX11 255 (TX4 0).1 (TX4 0).2.1 (TX4 0).2.2.1 ∈ wt := (wl0_in _ (List.mem_of_getElem? (i := 31) rfl))
theorem fl_X0_12 : Cond.fieldLink RX0 12 (TX0 0).1 (TX0 0).2.1 (TX0 0).2.2.1 ∈ wt := (wl0_in _ (List.mem_of_getElem? (i := 32) rfl))
theorem fl_X0_18 : Cond.fieldLink RX0 18 (TX0 1).1 (TX0 1).2.1 (TX0 1).2.2.1 ∈ wt := (wl0_in _ (List.mem_of_getElem? (i := 33) rfl))
theorem fl_X0_37 : Cond.fieldLink RX0 37 (TX10 0).1 (TX10 0).2.1 (TX10 0).2.2.1 ∈ wt := (wl0_in _ (List.mem_of_getElem? (i := 34) rfl))
theorem fl_X0_60 : Cond.fieldLink RX0 60 (TX10 2).1 (TX10 2).2.1 (TX10 2).2.2.1 ∈ wt := (wl0_in _ (List.mem_of_getElem? (i := 35) rfl))
theorem fl_X0_64 : Cond.fieldLink RX0 64 (TX10 1).1 (TX10 1).2.1 (TX10 1).2.2.1 ∈ wt := (wl0_in _ (List.mem_of_getElem? (i := 36) rfl))
theorem fl_X0_89 : Cond.fieldLink RX0 89 (TX3 3).1 (TX3 3).2.1 (TX3 3).2.2.1 ∈ wt := (wl0_in _ (List.mem_of_getElem? (i := 37) rfl))
theorem fl_X1_9 : Cond.fieldLink RX1 9 (TX1 0).1 (TX1 0).2.1 (TX1 0).2.2.1 ∈ wt := (wl0_in _ (List.mem_of_getElem? (i := 38) rfl))
theorem fl_X1_15 : Cond.fieldLink RX1 15 (TX1 1).1 (TX1 1).2.1 (TX1 1).2.2.1 ∈ wt := (wl0_in _ (List.mem_of_getElem? (i := 39) rfl))
theorem fl_X1_18 : Cond.fieldLink RX1 18 (TX10 2).1 (TX10 2).2.1 (TX10 2).2.2.1 ∈ wt := (wl0_in _ (List.mem_of_getElem? (i := 40) rfl))
theorem fl_X1_33 : Cond.fieldLink RX1 33 (TX10 1).1 (TX10 1).2.1 (TX10 1).2.2.1 ∈ wt := (wl0_in _ (List.mem_of_getElem? (i := 41) rfl))
theorem fl_X1_36 : Cond.fieldLink RX1 36 (TX10 0).1 (TX10 0).2.1 (TX10 0).2.2.1 ∈ wt := (wl0_in _ (List.mem_of_getElem? (i := 42) rfl))
theorem fl_X2_11 : Cond.fieldLink RX2 11 (TX2 1).1 (TX2 1).2.1 (TX2 1).2.2.1 ∈ wt := (wl0_in _ (List.mem_of_getElem? (i := 43) rfl))
theorem fl_X2_17 : Cond.fieldLink RX2 17 (TX2 3).1 (TX2 3).2.1 (TX2 3).2.2.1 ∈ wt := (wl0_in _ (List.mem_of_getElem? (i := 44) rfl))
theorem fl_X2_21 : Cond.fieldLink RX2 21 (TX2 4).1 (TX2 4).2.1 (TX2 4).2.2.1 ∈ wt := (wl0_in _ (List.mem_of_getElem? (i := 45) rfl))
theorem fl_X2_24 : Cond.fieldLink RX2 24 (TX2 5).1 (TX2 5).2.1 (TX2 5).2.2.1 ∈ wt := (wl0_in _ (List.mem_of_getElem? (i := 46) rfl))
theorem fl_X2_27 : Cond.fieldLink RX2 27 (TX2 6).1 (TX2 6).2.1 (TX2 6).2.2.1 ∈ wt := (wl0_in _ (List.mem_of_getElem? (i := 47) rfl))
theorem fl_X2_30 : Cond.fieldLink RX2 30 (TX2 7).1 (TX2 7).2.1 (TX2 7).2.2.1 ∈ wt := (wl0_in _ (List.mem_of_getElem? (i := 48) rfl))
theorem fl_X2_33 : Cond.fieldLink RX2 33 (TX2 0).1 (TX2 0).2.1 (TX2 0).2.2.1 ∈ wt := (wl0_in _ (List.mem_of_getElem? (i := 49) rfl))
theorem fl_X2_47 : Cond.fieldLink RX2 47 (TX0 0).1 (TX0 0).2.1 (TX0 0).2.2.1 ∈ wt := (wl0_in _ (List.mem_of_getElem? (i := 50) rfl))
theorem fl_X2_55 : Cond.fieldLink RX2 55 (TX0 1).1 (TX0 1).2.1 (TX0 1).2.2.1 ∈ wt := (wl0_in _ (List.mem_of_getElem? (i := 51) rfl))
theorem fl_X2_58 : Cond.fieldLink RX2 58 (TX2 2).1 (TX2 2).2.1 (TX2 2).2.2.1 ∈ wt := (wl0_in _ (List.mem_of_getElem? (i := 52) rfl))
theorem fl_X2_62 : Cond.fieldLink RX2 62 (TX2 9).1 (TX2 9).2.1 (TX2 9).2.2.1 ∈ wt := (wl0_in _ (List.mem_of_getElem? (i := 53) rfl))
theorem fl_X2_65 : Cond.fieldLink RX2 65 (TX2 8).1 (TX2 8).2.1 (TX2 8).2.2.1 ∈ wt := (wl0_in _ (List.mem_of_getElem? (i := 54) rfl))
theorem fl_X2_68 : Cond.fieldLink RX2 68 (TX10 2).1 (TX10 2).2.1 (TX10 2).2.2.1 ∈ wt := (wl0_in _ (List.mem_of_getElem? (i := 55) rfl))
theorem fl_X2_71 : Cond.fieldLink RX2 71 (TX10 0).1 (TX10 0).2.1 (TX10 0).2.2.1 ∈ wt := (wl0_in _ (List.mem_of_getElem? (i := 56) rfl))
theorem fl_X2_84 : Cond.fieldLink RX2 84 (TX3 4).1 (TX3 4).2.1 (TX3 4).2.2.1 ∈ wt := (wl0_in _ (List.mem_of_getElem? (i := 57) rfl))
theorem fl_X2_89 : Cond.fieldLink RX2 89 (TX3 1).1 (TX3 1).2.1 (TX3 1).2.2.1 ∈ wt := (wl0_in _ (List.mem_of_getElem? (i := 58) rfl))
theorem fl_X2_92 : Cond.fieldLink RX2 92 (TX3 0).1 (TX3 0).2.1 (TX3 0).2.2.1 ∈ wt := (wl0_in _ (List.mem_of_getElem? (i := 59) rfl))
theorem fl_X2_95 : Cond.fieldLink RX2 95 (TX3 2).1 (TX3 2).2.1 (TX3 2).2.2.1 ∈ wt := (wl1_in _ (List.mem_of_getElem? (i := 0) rfl))
theorem fl_X3_9 : Cond.fieldLink RX3 9 (TX3 0).1 (TX3 0).2.1 (TX3 0).2.2.1 ∈ wt := (wl1_in _ (List.mem_of_getElem? (i := 1) rfl))
theorem fl_X3_15 : Cond.fieldLink RX3 15 (TX3 1).1 (TX3 1).2.1 (TX3 1).2.2.1 ∈ wt := (wl1_in _ (List.mem_of_getElem? (i := 2) rfl))
theorem fl_X3_20 : Cond.fieldLink RX3 20 (TX3 2).1 (TX3 2).2.1 (TX3 2).2.2.1 ∈ wt := (wl1_in _ (List.mem_of_getElem? (i := 3) rfl))
theorem fl_X3_24 : Cond.fieldLink RX3 24 (TX3 3).1 (TX3 3).2.1 (TX3 3).2.2.1 ∈ wt := (wl1_in _ (List.mem_of_getElem? (i := 4) rfl))
theorem fl_X3_28 : Cond.fieldLink RX3 28 (TX3 4).1 (TX3 4).2.1 (TX3 4).2.2.1 ∈ wt := (wl1_in _ (List.mem_of_getElem? (i := 5) rfl))
theorem fl_X4_11 : Cond.fieldLink RX4 11 (TX4 0).1 (TX4 0).2.1 (TX4 0).2.2.1 ∈ wt := (wl1_in _ (List.mem_of_getElem? (i := 6) rfl))
theorem fl_X4_20 : Cond.fieldLink RX4 20 (TX4 4).1 (TX4 4).2.1 (TX4 4).2.2.1 ∈ wt := (wl1_in _ (List.mem_of_getElem? (i := 7) rfl))
theorem fl_X4_24 : Cond.fieldLink RX4 24 (TX4 2).1 (TX4 2).2.1 (TX4 2).2.2.1 ∈ wt := (wl1_in _ (List.mem_of_getElem? (i := 8) rfl))
theorem fl_X4_28 : Cond.fieldLink RX4 28 (TX4 3).1 (TX4 3).2.1 (TX4 3).2.2.1 ∈ wt := (wl1_in _ (List.mem_of_getElem? (i := 9) rfl))
theorem fl_X4_37 : Cond.fieldLink RX4 37 (TX4 1).1 (TX4 1).2.1 (TX4 1).2.2.1 ∈ wt := (wl1_in _ (List.mem_of_getElem? (i := 10) rfl))
theorem fl_X4_55 : Cond.fieldLink RX4 55 (TX10 2).1 (TX10 2).2.1 (TX10 2).2.2.1 ∈ wt := (wl1_in _ (List.mem_of_getElem? (i := 11) rfl))
theorem fl_X4_83 : Cond.fieldLink RX4 83 (TX10 0).1 (TX10 0).2.1 (TX10 0).2.2.1 ∈ wt := (wl1_in _ (List.mem_of_getElem? (i := 12) rfl))
theorem fl_X5_9 : Cond.fieldLink RX5 9 (TX5 1).1 (TX5 1).2.1 (TX5 1).2.2.1 ∈ wt := (wl1_in _ (List.mem_of_getElem? (i := 13) rfl))
theorem fl_X5_15 : Cond.fieldLink RX5 15 (TX5 0).1 (TX5 0).2.1 (TX5 0).2.2.1 ∈ wt := (wl1_in _ (List.mem_of_getElem? (i := 14) rfl))
theorem fl_X5_19 : Cond.fieldLink RX5 19 (TX10 2).1 (TX10 2).2.1 (TX10 2).2.2.1 ∈ wt := (wl1_in _ (List.mem_of_getElem? (i := 15) rfl))
theorem fl_X5_25 : Cond.fieldLink RX5 25 (TX10 0).1 (TX10 0).2.1 (TX10 0).2.2.1 ∈ wt := (wl1_in _ (List.mem_of_getElem? (i := 16) rfl))
theorem fl_X5_32 : Cond.fieldLink RX5 32 (TX10 1).1 (TX10 1).2.1 (TX10 1).2.2.1 ∈ wt := (wl1_in _ (List.mem_of_getElem? (i := 17) rfl))
theorem fl_X5_50 : Cond.fieldLink RX5 50 (TX3 3).1 (TX3 3).2.1 (TX3 3).2.2.1 ∈ wt := (wl1_in _ (List.mem_of_getElem? (i := 18) rfl))
theorem fl_X6_11 : Cond.fieldLink RX6 11 (TX6 1).1 (TX6 1).2.1 (TX6 1).2.2.1 ∈ wt := (wl1_in _ (List.mem_of_getElem? (i := 19) rfl))
theorem fl_X6_15 : Cond.fieldLink RX6 15 (TX6 2).1 (TX6 2).2.1 (TX6 2).2.2.1 ∈ wt := (wl1_in _ (List.mem_of_getElem? (i := 20) rfl))
theorem fl_X6_18 : Cond.fieldLink RX6 18 (TX6 3).1 (TX6 3).2.1 (TX6 3).2.2.1 ∈ wt := (wl1_in _ (List.mem_of_getElem? (i := 21) rfl))
theorem fl_X6_21 : Cond.fieldLink RX6 21 (TX6 4).1 (TX6 4).2.1 (TX6 4).2.2.1 ∈ wt := (wl1_in _ (List.mem_of_getElem? (i := 22) rfl))
theorem fl_X6_26 : Cond.fieldLink RX6 26 (TX6 5).1 (TX6 5).2.1 (TX6 5).2.2.1 ∈ wt := (wl1_in _ (List.mem_of_getElem? (i := 23) rfl))
theorem fl_X6_30 : Cond.fieldLink RX6 30 (TX6 6).1 (TX6 6).2.1 (TX6 6).2.2.1 ∈ wt := (wl1_in _ (List.mem_of_getElem? (i := 24) rfl))
theorem fl_X6_33 : Cond.fieldLink RX6 33 (TX6 7).1 (TX6 7).2.1 (TX6 7).2.2.1 ∈ wt := (wl1_in _ (List.mem_of_getElem? (i := 25) rfl))
theorem fl_X6_36 : Cond.fieldLink RX6 36 (TX6 8).1 (TX6 8).2.1 (TX6 8).2.2.1 ∈ wt := (wl1_in _ (List.mem_of_getElem? (i := 26) rfl))
theorem fl_X6_39 : Cond.fieldLink RX6 39 (TX6 9).1 (TX6 9).2.1 (TX6 9).2.2.1 ∈ wt := (wl1_in _ (List.mem_of_getElem? (i := 27) rfl))
theorem fl_X6_42 : Cond.fieldLink RX6 42 (TX6 10).1 (TX6 10).2.1 (TX6 10).2.2.1 ∈ wt := (wl1_in _ (List.mem_of_getElem? (i := 28) rfl))
theorem fl_X6_45 : Cond.fieldLink RX6 45 (TX6 0).1 (TX6 0).2.1 (TX6 0).2.2.1 ∈ wt := (wl1_in _ (List.mem_of_getElem? (i := 29) rfl))
theorem fl_X6_49 : Cond.fieldLink RX6 49 (TX6 11).1 (TX6 11).2.1 (TX6 11).2.2.1 ∈ wt := (wl1_in _ (List.mem_of_getElem? (i := 30) rfl))
theorem fl_X6_65 : Cond.fieldLink RX6 65 (TX6 14).1 (TX6 14).2.1 (TX6 14).2.2.1 ∈ wt := (wl1_in _ (List.mem_of_getElem? (i := 31) rfl))
theorem fl_X6_68 : Cond.fieldLink RX6 68 (TX6 13).1 (TX6 13).2.1 (TX6 13).2.2.1 ∈ wt := (wl1_in _ (List.mem_of_getElem? (i := 32) rfl))
theorem fl_X6_71 : Cond.fieldLink RX6 71 (TX6 12).1 (TX6 12).2.1 (TX6 12).2.2.1 ∈ wt := (wl1_in _ (List.mem_of_getElem? (i := 33) rfl))
theorem fl_X6_74 : Cond.fieldLink RX6 74 (TX10 2).1 (TX10 2).2.1 (TX10 2).2.2.1 ∈ wt := (wl1_in _ (List.mem_of_getElem? (i := 34) rfl))
theorem fl_X6_77 : Cond.fieldLink RX6 77 (TX10 0).1 (TX10 0).2.1 (TX10 0).2.2.1 ∈ wt := (wl1_in _ (List.mem_of_getElem? (i := 35) rfl))
theorem fl_X6_93 : Cond.fieldLink RX6 93 (TX3 4).1 (TX3 4).2.1 (TX3 4).2.2.1 ∈ wt := (wl1_in _ (List.mem_of_getElem? (i := 36) rfl))
theorem fl_X6_98 : Cond.fieldLink RX6 98 (TX3 0).1 (TX3 0).2.1 (TX3 0).2.2.1 ∈ wt := (wl1_in _ (List.mem_of_getElem? (i := 37) rfl))
theorem fl_X6_109 : Cond.fieldLink RX6 109 (TX3 1).1 (TX3 1).2.1 (TX3 1).2.2.1 ∈ wt := (wl1_in _ (List.mem_of_getElem? (i := 38) rfl))
theorem fl_X6_112 : Cond.fieldLink RX6 112 (TX3 3).1 (TX3 3).2.1 (TX3 3).2.2.1 ∈ wt := (wl1_in _ (List.mem_of_getElem? (i := 39) rfl))
theorem fl_X7_9 : Cond.fieldLink RX7 9 (TX7 0).1 (TX7 0).2.1 (TX7 0).2.2.1 ∈ wt := (wl1_in _ (List.mem_of_getElem? (i := 40) rfl))
theorem fl_X7_15 : Cond.fieldLink RX7 15 (TX7 1).1 (TX7 1).2.1 (TX7 1).2.2.1 ∈ wt := (wl1_in _ (List.mem_of_getElem? (i := 41) rfl))
theorem fl_X7_18 : Cond.fieldLink RX7 18 (TX7 2).1 (TX7 2).2.1 (TX7 2).2.2.1 ∈ wt := (wl1_in _ (List.mem_of_getElem? (i := 42) rfl))
theorem fl_X7_21 : Cond.fieldLink RX7 21 (TX7 3).1 (TX7 3).2.1 (TX7 3).2.2.1 ∈ wt := (wl1_in _ (List.mem_of_getElem? (i := 43) rfl))
theorem fl_X7_25 : Cond.fieldLink RX7 25 (TX7 4).1 (TX7 4).2.1 (TX7 4).2.2.1 ∈ wt := (wl1_in _ (List.mem_of_getElem? (i := 44) rfl))
theorem fl_X8_11 : Cond.fieldLink RX8 11 (TX8 0).1 (TX8 0).2.1 (TX8 0).2.2.1 ∈ wt := (wl1_in _ (List.mem_of_getElem? (i := 45) rfl))
theorem fl_X8_17 : Cond.fieldLink RX8 17 (TX8 1).1 (TX8 1).2.1 (TX8 1).2.2.1 ∈ wt := (wl1_in _ (List.mem_of_getElem? (i := 46) rfl))
theorem fl_X8_20 : Cond.fieldLink RX8 20 (TX8 2).1 (TX8 2).2.1 (TX8 2).2.2.1 ∈ wt := (wl1_in _ (List.mem_of_getElem? (i := 47) rfl))
theorem fl_X8_26 : Cond.fieldLink RX8 26 (TX8 3).1 (TX8 3).2.1 (TX8 3).2.2.1 ∈ wt := (wl1_in _ (List.mem_of_getElem? (i := 48) rfl))
theorem fl_X8_30 : Cond.fieldLink RX8 30 (TX8 4).1 (TX8 4).2.1 (TX8 4).2.2.1 ∈ wt := (wl1_in _ (List.mem_of_getElem? (i := 49) rfl))
theorem fl_X8_34 : Cond.fieldLink RX8 34 (TX8 5).1 (TX8 5).2.1 (TX8 5).2.2.1 ∈ wt := (wl1_in _ (List.mem_of_getElem? (i := 50) rfl))
theorem fl_X8_38 : Cond.fieldLink RX8 38 (TX8 6).1 (TX8 6).2.1 (TX8 6).2.2.1 ∈ wt := (wl1_in _ (List.mem_of_getElem? (i := 51) rfl))
theorem fl_X8_42 : Cond.fieldLink RX8 42 (TX8 7).1 (TX8 7).2.1 (TX8 7).2.2.1 ∈ wt := (wl1_in _ (List.mem_of_getElem? (i := 52) rfl))
theorem fl_X8_46 : Cond.fieldLink RX8 46 (TX8 8).1 (TX8 8).2.1 (TX8 8).2.2.1 ∈ wt := (wl1_in _ (List.mem_of_getElem? (i := 53) rfl))
theorem fl_X8_50 : Cond.fieldLink RX8 50 (TX8 9).1 (TX8 9).2.1 (TX8 9).2.2.1 ∈ wt := (wl1_in _ (List.mem_of_getElem? (i := 54) rfl))
theorem fl_X8_95 : Cond.fieldLink RX8 95 (TX0 0).1 (TX0 0).2.1 (TX0 0).2.2.1 ∈ wt := (wl1_in _ (List.mem_of_getElem? (i := 55) rfl))
theorem fl_X8_102 : Cond.fieldLink RX8 102 (TX0 1).1 (TX0 1).2.1 (TX0 1).2.2.1 ∈ wt := (wl1_in _ (List.mem_of_getElem? (i := 56) rfl))
theorem fl_X9_9 : Cond.fieldLink RX9 9 (TX9 0).1 (TX9 0).2.1 (TX9 0).2.2.1 ∈ wt := (wl1_in _ (List.mem_of_getElem? (i := 57) rfl))
theorem fl_X9_17 : Cond.fieldLink RX9 17 (TX9 1).1 (TX9 1).2.1 (TX9 1).2.2.1 ∈ wt := (wl1_in _ (List.mem_of_getElem? (i := 58) rfl))
theorem fl_X9_21 : Cond.fieldLink RX9 21 (TX9 2).1 (TX9 2).2.1 (TX9 2).2.2.1 ∈ wt := (wl1_in _ (List.mem_of_getElem? (i := 59) rfl))
theorem fl_X9_26 : Cond.fieldLink RX9 26 (TX9 3).1 (TX9 3).2.1 (TX9 3).2.2.1 ∈ wt := (wl2_in _ (List.mem_of_getElem? (i := 0) rfl))
theorem fl_X9_30 : Cond.fieldLink RX9 30 (TX9 4).1 (TX9 4).2.1 (TX9 4).2.2.1 ∈ wt := (wl2_in _ (List.mem_of_getElem? (i := 1) rfl))
theorem fl_X9_33 : Cond.fieldLink RX9 33 (TX9 5).1 (TX9 5).2.1 (TX9 5).2.2.1 ∈ wt := (wl2_in _ (List.mem_of_getElem? (i := 2) rfl))
theorem fl_X9_36 : Cond.fieldLink RX9 36 (TX9 8).1 (TX9 8).2.1 (TX9 8).2.2.1 ∈ wt := (wl2_in _ (List.mem_of_getElem? (i := 3) rfl))
theorem fl_X9_40 : Cond.fieldLink RX9 40 (TX9 9).1 (TX9 9).2.1 (TX9 9).2.2.1 ∈ wt := (wl2_in _ (List.mem_of_getElem? (i := 4) rfl))
theorem fl_X9_43 : Cond.fieldLink RX9 43 (TX9 6).1 (TX9 6).2.1 (TX9 6).2.2.1 ∈ wt := (wl2_in _ (List.mem_of_getElem? (i := 5) rfl))
theorem fl_X9_46 : Cond.fieldLink RX9 46 (TX9 7).1 (TX9 7).2.1 (TX9 7).2.2.1 ∈ wt := (wl2_in _ (List.mem_of_getElem? (i := 6) rfl))
theorem fl_X9_57 : Cond.fieldLink RX9 57 (TX3 3).1 (TX3 3).2.1 (TX3 3).2.2.1 ∈ wt := (wl2_in _ (List.mem_of_getElem? (i := 7) rfl))
theorem fl_X9_79 : Cond.fieldLink RX9 79 (TX3 4).1 (TX3 4).2.1 (TX3 4).2.2.1 ∈ wt := (wl2_in _ (List.mem_of_getElem? (i := 8) rfl))
theorem fl_X9_80 : Cond.fieldLink RX9 80 (TX3 0).1 (TX3 0).2.1 (TX3 0).2.2.1 ∈ wt := (wl2_in _ (List.mem_of_getElem? (i := 9) rfl))
theorem fl_X10_9 : Cond.fieldLink RX10 9 (TX10 0).1 (TX10 0).2.1 (TX10 0).2.2.1 ∈ wt := (wl2_in _ (List.mem_of_getElem? (i := 10) rfl))
theorem fl_X10_15 : Cond.fieldLink RX10 15 (TX10 1).1 (TX10 1).2.1 (TX10 1).2.2.1 ∈ wt := (wl2_in _ (List.mem_of_getElem? (i := 11) rfl))
theorem fl_X10_18 : Cond.fieldLink RX10 18 (TX10 2).1 (TX10 2).2.1 (TX10 2).2.2.1 ∈ wt := (wl2_in _ (List.mem_of_getElem? (i := 12) rfl))
theorem fl_X12_7 : Cond.fieldLink RX12 7 (TX12 0).1 (TX12 0).2.1 (TX12 0).2.2.1 ∈ wt := (wl2_in _ (List.mem_of_getElem? (i := 13) rfl))
theorem fl_X12_13 : Cond.fieldLink RX12 13 (TX12 1).1 (TX12 1).2.1 (TX12 1).2.2.1 ∈ wt := (wl2_in _ (List.mem_of_getElem? (i := 14) rfl))
theorem fl_X12_16 : Cond.fieldLink RX12 16 (TX12 2).1 (TX12 2).2.1 (TX12 2).2.2.1 ∈ wt := (wl2_in _ (List.mem_of_getElem? (i := 15) rfl))
theorem fl_X12_19 : Cond.fieldLink RX12 19 (TX12 5).1 (TX12 5).2.1 (TX12 5).2.2.1 ∈ wt := (wl2_in _ (List.mem_of_getElem? (i := 16) rfl))
theorem fl_X12_22 : Cond.fieldLink RX12 22 (TX12 6).1 (TX12 6).2.1 (TX12 6).2.2.1 ∈ wt := (wl2_in _ (List.mem_of_getElem? (i := 17) rfl))
theorem fl_X12_25 : Cond.fieldLink RX12 25 (TX12 7).1 (TX12 7).2.1 (TX12 7).2.2.1 ∈ wt := (wl2_in _ (List.mem_of_getElem? (i := 18) rfl))
theorem fl_X12_28 : Cond.fieldLink RX12 28 (TX12 8).1 (TX12 8).2.1 (TX12 8).2.2.1 ∈ wt := (wl2_in _ (List.mem_of_getElem? (i := 19) rfl))
theorem fl_X12_31 : Cond.fieldLink RX12 31 (TX12 11).1 (TX12 11).2.1 (TX12 11).2.2.1 ∈ wt := (wl2_in _ (List.mem_of_getElem? (i := 20) rfl))
theorem fl_X12_34 : Cond.fieldLink RX12 34 (TX12 14).1 (TX12 14).2.1 (TX12 14).2.2.1 ∈ wt := (wl2_in _ (List.mem_of_getElem? (i := 21) rfl))
theorem fl_X12_37 : Cond.fieldLink RX12 37 (TX12 17).1 (TX12 17).2.1 (TX12 17).2.2.1 ∈ wt := (wl2_in _ (List.mem_of_getElem? (i := 22) rfl))
theorem fl_X12_40 : Cond.fieldLink RX12 40 (TX12 18).1 (TX12 18).2.1 (TX12 18).2.2.1 ∈ wt := (wl2_in _ (List.mem_of_getElem? (i := 23) rfl))
theorem fl_X12_43 : Cond.fieldLink RX12 43 (TX12 19).1 (TX12 19).2.1 (TX12 19).2.2.1 ∈ wt := (wl2_in _ (List.mem_of_getElem? (i := 24) rfl))
theorem fl_X12_46 : Cond.fieldLink RX12 46 (TX12 20).1 (TX12 20).2.1 (TX12 20).2.2.1 ∈ wt := (wl2_in _ (List.mem_of_getElem? (i := 25) rfl))
theorem fl_X12_49 : Cond.fieldLink RX12 49 (TX12 21).1 (TX12 21).2.1 (TX12 21).2.2.1 ∈ wt := (wl2_in _ (List.mem_of_getElem? (i := 26) rfl))
theorem fl_X12_52 : Cond.fieldLink RX12 52 (TX12 23).1 (TX12 23).2.1 (TX12 23).2.2.1 ∈ wt := (wl2_in _ (List.mem_of_getElem? (i := 27) rfl))
theorem fl_X12_55 : Cond.fieldLink RX12 55 (TX12 24).1 (TX12 24).2.1 (TX12 24).2.2.1 ∈ wt := (wl2_in _ (List.mem_of_getElem? (i := 28) rfl))
theorem fl_X12_58 : Cond.fieldLink RX12 58 (TX12 27).1 (TX12 27).2.1 (TX12 27).2.2.1 ∈ wt := (wl2_in _ (List.mem_of_getElem? (i := 29) rfl))
theorem fl_X12_61 : Cond.fieldLink RX12 61 (TX12 31).1 (TX12 31).2.1 (TX12 31).2.2.1 ∈ wt := (wl2_in _ (List.mem_of_getElem? (i := 30) rfl))
theorem fl_X12_64 : Cond.fieldLink RX12 64 (TX12 32).1 (TX12 32).2.1 (TX12 32).2.2.1 ∈ wt := (wl2_in _ (List.mem_of_getElem? (i := 31) rfl))
theorem fl_X12_67 : Cond.fieldLink RX12 67 (TX12 33).1 (TX12 33).2.1 (TX12 33).2.2.1 ∈ wt := (wl2_in _ (List.mem_of_getElem? (i := 32) rfl))
theorem fl_X12_70 : Cond.fieldLink RX12 70 (TX12 34).1 (TX12 34).2.1 (TX12 34).2.2.1 ∈ wt := (wl2_in _ (List.mem_of_getElem? (i := 33) rfl))
theorem fl_X12_73 : Cond.fieldLink RX12 73 (TX12 40).1 (TX12 40).2.1 (TX12 40).2.2.1 ∈ wt := (wl2_in _ (List.mem_of_getElem? (i := 34) rfl))
theorem fl_X12_76 : Cond.fieldLink RX12 76 (TX12 41).1 (TX12 41).2.1 (TX12 41).2.2.1 ∈ wt := (wl2_in _ (List.mem_of_getElem? (i := 35) rfl))
theorem fl_X12_79 : Cond.fieldLink RX12 79 (TX12 42).1 (TX12 42).2.1 (TX12 42).2.2.1 ∈ wt := (wl2_in _ (List.mem_of_getElem? (i := 36) rfl))
theorem fl_X12_83 : Cond.fieldLink RX12 83 (TX12 47).1 (TX12 47).2.1 (TX12 47).2.2.1 ∈ wt := (wl2_in _ (List.mem_of_getElem? (i := 37) rfl))
theorem fl_X12_86 : Cond.fieldLink RX12 86 (TX12 48).1 (TX12 48).2.1 (TX12 48).2.2.1 ∈ wt := (wl2_in _ (List.mem_of_getElem? (i := 38) rfl))
theorem fl_X12_89 : Cond.fieldLink RX12 89 (TX12 49).1 (TX12 49).2.1 (TX12 49).2.2.1 ∈ wt := (wl2_in _ (List.mem_of_getElem? (i := 39) rfl))
theorem fl_X12_108 : Cond.fieldLink RX12 108 (TX12 3).1 (TX12 3).2.1 (TX12 3).2.2.1 ∈ wt := (wl2_in _ (List.mem_of_getElem? (i := 40) rfl))
theorem fl_X12_114 : Cond.fieldLink RX12 114 (TX12 13).1 (TX12 13).2.1 (TX12 13).2.2.1 ∈ wt := (wl2_in _ (List.mem_of_getElem? (i := 41) rfl))
theorem fl_X12_117 : Cond.fieldLink RX12 117 (TX12 12).1 (TX12 12).2.1 (TX12 12).2.2.1 ∈ wt := (wl2_in _ (List.mem_of_getElem? (i := 42) rfl))
theorem fl_X12_120 : Cond.fieldLink RX12 120 (TX12 10).1 (TX12 10).2.1 (TX12 10).2.2.1 ∈ wt := (wl2_in _ (List.mem_of_getElem? (i := 43) rfl))
theorem fl_X12_137 : Cond.fieldLink RX12 137 (TX12 4).1 (TX12 4).2.1 (TX12 4).2.2.1 ∈ wt := (wl2_in _ (List.mem_of_getElem? (i := 44) rfl))
theorem fl_X12_164 : Cond.fieldLink RX12 164 (TX12 9).1 (TX12 9).2.1 (TX12 9).2.2.1 ∈ wt := (wl2_in _ (List.mem_of_getElem? (i := 45) rfl))
theorem fl_X12_171 : Cond.fieldLink RX12 171 (TX12 35).1 (TX12 35).2.1 (TX12 35).2.2.1 ∈ wt := (wl2_in _ (List.mem_of_getElem? (i := 46) rfl))
theorem fl_X12_174 : Cond.fieldLink RX12 174 (TX12 39).1 (TX12 39).2.1 (TX12 39).2.2.1 ∈ wt := (wl2_in _ (List.mem_of_getElem? (i := 47) rfl))
theorem fl_X12_177 : Cond.fieldLink RX12 177 (TX12 22).1 (TX12 22).2.1 (TX12 22).2.2.1 ∈ wt := (wl2_in _ (List.mem_of_getElem? (i := 48) rfl))
theorem fl_X12_180 : Cond.fieldLink RX12 180 (TX12 16).1 (TX12 16).2.1 (TX12 16).2.2.1 ∈ wt := (wl2_in _ (List.mem_of_getElem? (i := 49) rfl))
theorem fl_X12_187 : Cond.fieldLink RX12 187 (TX12 15).1 (TX12 15).2.1 (TX12 15).2.2.1 ∈ wt := (wl2_in _ (List.mem_of_getElem? (i := 50) rfl))
theorem fl_X12_224 : Cond.fieldLink RX12 224 (TX12 25).1 (TX12 25).2.1 (TX12 25).2.2.1 ∈ wt := (wl2_in _ (List.mem_of_getElem? (i := 51) rfl))
theorem fl_X12_242 : Cond.fieldLink RX12 242 (TX12 26).1 (TX12 26).2.1 (TX12 26).2.2.1 ∈ wt := (wl2_in _ (List.mem_of_getElem? (i := 52) rfl))
theorem fl_X12_251 : Cond.fieldLink RX12 251 (TX12 30).1 (TX12 30).2.1 (TX12 30).2.2.1 ∈ wt := (wl2_in _ (List.mem_of_getElem? (i := 53) rfl))
theorem fl_X12_257 : Cond.fieldLink RX12 257 (TX12 29).1 (TX12 29).2.1 (TX12 29).2.2.1 ∈ wt := (wl2_in _ (List.mem_of_getElem? (i := 54) rfl))
theorem fl_X12_260 : Cond.fieldLink RX12 260 (TX12 28).1 (TX12 28).2.1 (TX12 28).2.2.1 ∈ wt := (wl2_in _ (List.mem_of_getElem? (i := 55) rfl))
theorem fl_X12_302 : Cond.fieldLink RX12 302 (TX12 36).1 (TX12 36).2.1 (TX12 36).2.2.1 ∈ wt := (wl2_in _ (List.mem_of_getElem? (i := 56) rfl))
theorem fl_X12_315 : Cond.fieldLink RX12 315 (TX12 38).1 (TX12 38).2.1 (TX12 38).2.2.1 ∈ wt := (wl2_in _ (List.mem_of_getElem? (i := 57) rfl))
theorem fl_X12_321 : Cond.fieldLink RX12 321 (TX12 37).1 (TX12 37).2.1 (TX12 37).2.2.1 ∈ wt := (wl2_in _ (List.mem_of_getElem? (i := 58) rfl))
theorem fl_X12_334 : Cond.fieldLink RX12 334 (TX12 46).1 (TX12 46).2.1 (TX12 46).2.2.1 ∈ wt := (wl2_in _ (List.mem_of_getElem? (i := 59) rfl))
theorem fl_X12_337 : Cond.fieldLink RX12 337 (TX12 43).1 (TX12 43).2.1 (TX12 43).2.2.1 ∈ wt := (wl3_in _ (List.mem_of_getElem? (i := 0) rfl))
theorem fl_X12_340 : Cond.fieldLink RX12 340 (TX12 44).1 (TX12 44).2.1 (TX12 44).2.2.1 ∈ wt := (wl3_in _ (List.mem_of_getElem? (i := 1) rfl))
theorem fl_X12_352 : Cond.fieldLink RX12 352 (TX12 45).1 (TX12 45).2.1 (TX12 45).2.2.1 ∈ wt := (wl3_in _ (List.mem_of_getElem? (i := 2) rfl))
theorem ml_X11_3 : Cond.methodLink RX11 3 objectInit ∈ wt := (wl3_in _ (List.mem_of_getElem? (i := 3) rfl))
theorem ml_X11_11 : Cond.methodLink RX11 11 yX3_init ∈ wt := (wl3_in _ (List.mem_of_getElem? (i := 4) rfl))
theorem ml_X11_18 : Cond.methodLink RX11 18 yX9_init ∈ wt := (wl3_in _ (List.mem_of_getElem? (i := 5) rfl))
theorem ml_X11_27 : Cond.methodLink RX11 27 yX2_init ∈ wt := (wl3_in _ (List.mem_of_getElem? (i := 6) rfl))
theorem ml_X11_34 : Cond.methodLink RX11 34 yX6_init ∈ wt := (wl3_in _ (List.mem_of_getElem? (i := 7) rfl))
theorem ml_X11_48 : Cond.methodLink RX11 48 yX5_init ∈ wt := (wl3_in _ (List.mem_of_getElem? (i := 8) rfl))
theorem ml_X11_51 : Cond.methodLink RX11 51 yX4_init ∈ wt := (wl3_in _ (List.mem_of_getElem? (i := 9) rfl))
theorem ml_X11_67 : Cond.methodLink RX11 67 yX8_init ∈ wt := (wl3_in _ (List.mem_of_getElem? (i := 10) rfl))
theorem ml_X11_95 : Cond.methodLink RX11 95 yX11_isOutside ∈ wt := (wl3_in _ (List.mem_of_getElem? (i := 11) rfl))
theorem ml_X11_103 : Cond.methodLink RX11 103 yX9_put ∈ wt := (wl3_in _ (List.mem_of_getElem? (i := 12) rfl))
theorem ml_X11_108 : Cond.methodLink RX11 108 yX9_readFunction ∈ wt := (wl3_in _ (List.mem_of_getElem? (i := 13) rfl))
theorem ml_X11_118 : Cond.methodLink RX11 118 yX3_define ∈ wt := (wl3_in _ (List.mem_of_getElem? (i := 14) rfl))
theorem ml_X11_129 : Cond.methodLink RX11 129 yX3_bodyOf ∈ wt := (wl3_in _ (List.mem_of_getElem? (i := 15) rfl))
theorem ml_X11_136 : Cond.methodLink RX11 136 yX10_symbolOrSize ∈ wt := (wl3_in _ (List.mem_of_getElem? (i := 16) rfl))
theorem ml_X11_140 : Cond.methodLink RX11 140 yX9_readClaim ∈ wt := (wl3_in _ (List.mem_of_getElem? (i := 17) rfl))
theorem ml_X11_147 : Cond.methodLink RX11 147 yX10_copy ∈ wt := (wl3_in _ (List.mem_of_getElem? (i := 18) rfl))
theorem ml_X11_154 : Cond.methodLink RX11 154 yX0_part ∈ wt := (wl3_in _ (List.mem_of_getElem? (i := 19) rfl))
theorem ml_X11_158 : Cond.methodLink RX11 158 yX3_forgetAll ∈ wt := (wl3_in _ (List.mem_of_getElem? (i := 20) rfl))
theorem ml_X11_162 : Cond.methodLink RX11 162 yX7_empty ∈ wt := (wl3_in _ (List.mem_of_getElem? (i := 21) rfl))
theorem ml_X11_165 : Cond.methodLink RX11 165 yX10_empty ∈ wt := (wl3_in _ (List.mem_of_getElem? (i := 22) rfl))
theorem ml_X11_166 : Cond.methodLink RX11 166 yX10_add ∈ wt := (wl3_in _ (List.mem_of_getElem? (i := 23) rfl))
theorem ml_X11_170 : Cond.methodLink RX11 170 yX2_valueOf ∈ wt := (wl3_in _ (List.mem_of_getElem? (i := 24) rfl))
theorem ml_X11_177 : Cond.methodLink RX11 177 yX2_compare ∈ wt := (wl3_in _ (List.mem_of_getElem? (i := 25) rfl))
theorem ml_X11_181 : Cond.methodLink RX11 181 yX2_refutes ∈ wt := (wl3_in _ (List.mem_of_getElem? (i := 26) rfl))
theorem ml_X11_188 : Cond.methodLink RX11 188 yX11_isNoPlace ∈ wt := (wl3_in _ (List.mem_of_getElem? (i := 27) rfl))
theorem ml_X11_191 : Cond.methodLink RX11 191 yX6_rewrite ∈ wt := (wl3_in _ (List.mem_of_getElem? (i := 28) rfl))
theorem ml_X11_195 : Cond.methodLink RX11 195 yX0_inductionVariable ∈ wt := (wl3_in _ (List.mem_of_getElem? (i := 29) rfl))
theorem ml_X11_199 : Cond.methodLink RX11 199 yX0_deepestCall ∈ wt := (wl3_in _ (List.mem_of_getElem? (i := 30) rfl))
theorem ml_X11_203 : Cond.methodLink RX11 203 yX0_callsOf ∈ wt := (wl3_in _ (List.mem_of_getElem? (i := 31) rfl))
theorem ml_X11_206 : Cond.methodLink RX11 206 yX1_smallest ∈ wt := (wl3_in _ (List.mem_of_getElem? (i := 32) rfl))
theorem ml_X11_210 : Cond.methodLink RX11 210 yX4_ripple ∈ wt := (wl3_in _ (List.mem_of_getElem? (i := 33) rfl))
theorem ml_X11_213 : Cond.methodLink RX11 213 yX0_commonStart ∈ wt := (wl3_in _ (List.mem_of_getElem? (i := 34) rfl))
theorem ml_X11_220 : Cond.methodLink RX11 220 yX10_addRange ∈ wt := (wl3_in _ (List.mem_of_getElem? (i := 35) rfl))
theorem ml_X11_224 : Cond.methodLink RX11 224 yX0_generalize ∈ wt := (wl3_in _ (List.mem_of_getElem? (i := 36) rfl))
theorem ml_X11_232 : Cond.methodLink RX11 232 yX0_copy ∈ wt := (wl3_in _ (List.mem_of_getElem? (i := 37) rfl))
theorem ml_X11_238 : Cond.methodLink RX11 238 yX7_blame ∈ wt := (wl3_in _ (List.mem_of_getElem? (i := 38) rfl))
theorem ml_X11_258 : Cond.methodLink RX11 258 yX2_countTriples ∈ wt := (wl3_in _ (List.mem_of_getElem? (i := 39) rfl))
theorem ml_X0_3 : Cond.methodLink RX0 3 objectInit ∈ wt := (wl3_in _ (List.mem_of_getElem? (i := 40) rfl))
theorem ml_X0_21 : Cond.methodLink RX0 21 yX10_copy ∈ wt := (wl3_in _ (List.mem_of_getElem? (i := 41) rfl))
theorem ml_X0_25 : Cond.methodLink RX0 25 yX10_isSame ∈ wt := (wl3_in _ (List.mem_of_getElem? (i := 42) rfl))
theorem ml_X0_29 : Cond.methodLink RX0 29 yX10_has ∈ wt := (wl3_in _ (List.mem_of_getElem? (i := 43) rfl))
theorem ml_X0_33 : Cond.methodLink RX0 33 yX10_isCall ∈ wt := (wl3_in _ (List.mem_of_getElem? (i := 44) rfl))
theorem ml_X0_41 : Cond.methodLink RX0 41 yX3_depthOf ∈ wt := (wl3_in _ (List.mem_of_getElem? (i := 45) rfl))
theorem ml_X0_47 : Cond.methodLink RX0 47 Lib.Math.max.name ∈ wt := (wl3_in _ (List.mem_of_getElem? (i := 46) rfl))
theorem ml_X0_53 : Cond.methodLink RX0 53 yX0_callsOf ∈ wt := (wl3_in _ (List.mem_of_getElem? (i := 47) rfl))
theorem ml_X0_56 : Cond.methodLink RX0 56 yX0_deepestCall ∈ wt := (wl3_in _ (List.mem_of_getElem? (i := 48) rfl))
theorem ml_X0_67 : Cond.methodLink RX0 67 yX10_isLetter ∈ wt := (wl3_in _ (List.mem_of_getElem? (i := 49) rfl))
theorem ml_X0_70 : Cond.methodLink RX0 70 yX10_hasSubterm ∈ wt := (wl3_in _ (List.mem_of_getElem? (i := 50) rfl))
theorem ml_X0_74 : Cond.methodLink RX0 74 yX0_has ∈ wt := (wl3_in _ (List.mem_of_getElem? (i := 51) rfl))
theorem ml_X0_75 : Cond.methodLink RX0 75 yX0_commonStart ∈ wt := (wl3_in _ (List.mem_of_getElem? (i := 52) rfl))
theorem ml_X0_79 : Cond.methodLink RX0 79 yX0_freeVariable ∈ wt := (wl3_in _ (List.mem_of_getElem? (i := 53) rfl))
theorem ml_X0_82 : Cond.methodLink RX0 82 yX0_copy ∈ wt := (wl3_in _ (List.mem_of_getElem? (i := 54) rfl))
theorem ml_X0_85 : Cond.methodLink RX0 85 yX0_putVariable ∈ wt := (wl3_in _ (List.mem_of_getElem? (i := 55) rfl))
theorem ml_X0_92 : Cond.methodLink RX0 92 yX10_close ∈ wt := (wl3_in _ (List.mem_of_getElem? (i := 56) rfl))
theorem ml_X0_96 : Cond.methodLink RX0 96 yX10_empty ∈ wt := (wl3_in _ (List.mem_of_getElem? (i := 57) rfl))
theorem ml_X0_99 : Cond.methodLink RX0 99 yX10_isSameAt ∈ wt := (wl3_in _ (List.mem_of_getElem? (i := 58) rfl))
theorem ml_X0_103 : Cond.methodLink RX0 103 yX10_add ∈ wt := (wl3_in _ (List.mem_of_getElem? (i := 59) rfl))
theorem ml_X1_3 : Cond.methodLink RX1 3 objectInit ∈ wt := (wl4_in _ (List.mem_of_getElem? (i := 0) rfl))
theorem ml_X1_24 : Cond.methodLink RX1 24 yX1_findDepths ∈ wt := (wl4_in _ (List.mem_of_getElem? (i := 1) rfl))
theorem ml_X1_28 : Cond.methodLink RX1 28 yX1_smallestAt ∈ wt := (wl4_in _ (List.mem_of_getElem? (i := 2) rfl))
theorem ml_X1_39 : Cond.methodLink RX1 39 Lib.Math.min.name ∈ wt := (wl4_in _ (List.mem_of_getElem? (i := 3) rfl))
theorem ml_X2_5 : Cond.methodLink RX2 5 objectInit ∈ wt := (wl4_in _ (List.mem_of_getElem? (i := 4) rfl))
theorem ml_X2_37 : Cond.methodLink RX2 37 yX0_has ∈ wt := (wl4_in _ (List.mem_of_getElem? (i := 5) rfl))
theorem ml_X2_43 : Cond.methodLink RX2 43 yX2_compare ∈ wt := (wl4_in _ (List.mem_of_getElem? (i := 6) rfl))
theorem ml_X2_51 : Cond.methodLink RX2 51 yX2_valueOf ∈ wt := (wl4_in _ (List.mem_of_getElem? (i := 7) rfl))
theorem ml_X2_74 : Cond.methodLink RX2 74 yX10_isLetter ∈ wt := (wl4_in _ (List.mem_of_getElem? (i := 8) rfl))
theorem ml_X2_77 : Cond.methodLink RX2 77 yX2_call ∈ wt := (wl4_in _ (List.mem_of_getElem? (i := 9) rfl))
theorem ml_X2_80 : Cond.methodLink RX2 80 yX2_take ∈ wt := (wl4_in _ (List.mem_of_getElem? (i := 10) rfl))
theorem ml_X2_98 : Cond.methodLink RX2 98 Lib.Math.max.name ∈ wt := (wl4_in _ (List.mem_of_getElem? (i := 11) rfl))
theorem ml_X3_3 : Cond.methodLink RX3 3 objectInit ∈ wt := (wl4_in _ (List.mem_of_getElem? (i := 12) rfl))
theorem ml_X3_32 : Cond.methodLink RX3 32 yX10_copy ∈ wt := (wl4_in _ (List.mem_of_getElem? (i := 13) rfl))
theorem ml_X4_3 : Cond.methodLink RX4 3 objectInit ∈ wt := (wl4_in _ (List.mem_of_getElem? (i := 14) rfl))
theorem ml_X4_33 : Cond.methodLink RX4 33 yX0_isTrivial ∈ wt := (wl4_in _ (List.mem_of_getElem? (i := 15) rfl))
theorem ml_X4_41 : Cond.methodLink RX4 41 yX0_isSame ∈ wt := (wl4_in _ (List.mem_of_getElem? (i := 16) rfl))
theorem ml_X4_45 : Cond.methodLink RX4 45 yX0_copy ∈ wt := (wl4_in _ (List.mem_of_getElem? (i := 17) rfl))
theorem ml_X4_49 : Cond.methodLink RX4 49 yX1_smallest ∈ wt := (wl4_in _ (List.mem_of_getElem? (i := 18) rfl))
theorem ml_X4_58 : Cond.methodLink RX4 58 yX4_rewrites ∈ wt := (wl4_in _ (List.mem_of_getElem? (i := 19) rfl))
theorem ml_X4_62 : Cond.methodLink RX4 62 yX10_copy ∈ wt := (wl4_in _ (List.mem_of_getElem? (i := 20) rfl))
theorem ml_X4_65 : Cond.methodLink RX4 65 yX0_part ∈ wt := (wl4_in _ (List.mem_of_getElem? (i := 21) rfl))
theorem ml_X4_69 : Cond.methodLink RX4 69 yX5_matches ∈ wt := (wl4_in _ (List.mem_of_getElem? (i := 22) rfl))
theorem ml_X4_75 : Cond.methodLink RX4 75 yX4_isUsable ∈ wt := (wl4_in _ (List.mem_of_getElem? (i := 23) rfl))
theorem ml_X4_79 : Cond.methodLink RX4 79 yX5_replace ∈ wt := (wl4_in _ (List.mem_of_getElem? (i := 24) rfl))
theorem ml_X4_87 : Cond.methodLink RX4 87 yX10_has ∈ wt := (wl4_in _ (List.mem_of_getElem? (i := 25) rfl))
theorem ml_X5_3 : Cond.methodLink RX5 3 objectInit ∈ wt := (wl4_in _ (List.mem_of_getElem? (i := 26) rfl))
theorem ml_X5_28 : Cond.methodLink RX5 28 yX10_isSameAt ∈ wt := (wl4_in _ (List.mem_of_getElem? (i := 27) rfl))
theorem ml_X5_35 : Cond.methodLink RX5 35 yX5_matches ∈ wt := (wl4_in _ (List.mem_of_getElem? (i := 28) rfl))
theorem ml_X5_39 : Cond.methodLink RX5 39 yX10_empty ∈ wt := (wl4_in _ (List.mem_of_getElem? (i := 29) rfl))
theorem ml_X5_42 : Cond.methodLink RX5 42 yX10_addRange ∈ wt := (wl4_in _ (List.mem_of_getElem? (i := 30) rfl))
theorem ml_X5_46 : Cond.methodLink RX5 46 yX10_add ∈ wt := (wl4_in _ (List.mem_of_getElem? (i := 31) rfl))
theorem ml_X5_55 : Cond.methodLink RX5 55 yX10_close ∈ wt := (wl4_in _ (List.mem_of_getElem? (i := 32) rfl))
theorem ml_X6_5 : Cond.methodLink RX6 5 objectInit ∈ wt := (wl4_in _ (List.mem_of_getElem? (i := 33) rfl))
theorem ml_X6_53 : Cond.methodLink RX6 53 yX6_make ∈ wt := (wl4_in _ (List.mem_of_getElem? (i := 34) rfl))
theorem ml_X6_57 : Cond.methodLink RX6 57 yX6_run ∈ wt := (wl4_in _ (List.mem_of_getElem? (i := 35) rfl))
theorem ml_X6_61 : Cond.methodLink RX6 61 yX6_write ∈ wt := (wl4_in _ (List.mem_of_getElem? (i := 36) rfl))
theorem ml_X6_80 : Cond.methodLink RX6 80 yX10_isLetter ∈ wt := (wl4_in _ (List.mem_of_getElem? (i := 37) rfl))
theorem ml_X6_84 : Cond.methodLink RX6 84 yX6_apply ∈ wt := (wl4_in _ (List.mem_of_getElem? (i := 38) rfl))
theorem ml_X6_87 : Cond.methodLink RX6 87 yX6_take ∈ wt := (wl4_in _ (List.mem_of_getElem? (i := 39) rfl))
theorem ml_X6_90 : Cond.methodLink RX6 90 yX6_push ∈ wt := (wl4_in _ (List.mem_of_getElem? (i := 40) rfl))
theorem ml_X6_101 : Cond.methodLink RX6 101 yX6_bodyFor ∈ wt := (wl4_in _ (List.mem_of_getElem? (i := 41) rfl))
theorem ml_X6_105 : Cond.methodLink RX6 105 yX3_bodyOf ∈ wt := (wl4_in _ (List.mem_of_getElem? (i := 42) rfl))
theorem ml_X6_115 : Cond.methodLink RX6 115 yX10_empty ∈ wt := (wl4_in _ (List.mem_of_getElem? (i := 43) rfl))
theorem ml_X6_118 : Cond.methodLink RX6 118 yX10_add ∈ wt := (wl4_in _ (List.mem_of_getElem? (i := 44) rfl))
theorem ml_X6_121 : Cond.methodLink RX6 121 yX10_close ∈ wt := (wl4_in _ (List.mem_of_getElem? (i := 45) rfl))
theorem ml_X7_3 : Cond.methodLink RX7 3 objectInit ∈ wt := (wl4_in _ (List.mem_of_getElem? (i := 46) rfl))
theorem ml_X7_28 : Cond.methodLink RX7 28 Lib.Math.max.name ∈ wt := (wl4_in _ (List.mem_of_getElem? (i := 47) rfl))
theorem ml_X8_3 : Cond.methodLink RX8 3 objectInit ∈ wt := (wl4_in _ (List.mem_of_getElem? (i := 48) rfl))
theorem ml_X8_55 : Cond.methodLink RX8 55 yX7_write ∈ wt := (wl4_in _ (List.mem_of_getElem? (i := 49) rfl))
theorem ml_X8_61 : Cond.methodLink RX8 61 yX2_refutes ∈ wt := (wl4_in _ (List.mem_of_getElem? (i := 50) rfl))
theorem ml_X8_67 : Cond.methodLink RX8 67 yX8_fail ∈ wt := (wl4_in _ (List.mem_of_getElem? (i := 51) rfl))
theorem ml_X8_71 : Cond.methodLink RX8 71 yX8_normalize ∈ wt := (wl4_in _ (List.mem_of_getElem? (i := 52) rfl))
theorem ml_X8_75 : Cond.methodLink RX8 75 yX0_isTrivial ∈ wt := (wl4_in _ (List.mem_of_getElem? (i := 53) rfl))
theorem ml_X8_79 : Cond.methodLink RX8 79 yX8_succeed ∈ wt := (wl4_in _ (List.mem_of_getElem? (i := 54) rfl))
theorem ml_X8_83 : Cond.methodLink RX8 83 yX0_inductionVariable ∈ wt := (wl4_in _ (List.mem_of_getElem? (i := 55) rfl))
theorem ml_X8_87 : Cond.methodLink RX8 87 yX0_deepestCall ∈ wt := (wl4_in _ (List.mem_of_getElem? (i := 56) rfl))
theorem ml_X8_91 : Cond.methodLink RX8 91 yX8_proveCase ∈ wt := (wl4_in _ (List.mem_of_getElem? (i := 57) rfl))
theorem ml_X8_98 : Cond.methodLink RX8 98 yX8_ripple ∈ wt := (wl4_in _ (List.mem_of_getElem? (i := 58) rfl))
theorem ml_X8_105 : Cond.methodLink RX8 105 yX8_useClaim ∈ wt := (wl4_in _ (List.mem_of_getElem? (i := 59) rfl))
theorem ml_X8_109 : Cond.methodLink RX8 109 yX7_blame ∈ wt := (wl5_in _ (List.mem_of_getElem? (i := 0) rfl))
theorem ml_X8_112 : Cond.methodLink RX8 112 yX8_guess ∈ wt := (wl5_in _ (List.mem_of_getElem? (i := 1) rfl))
theorem ml_X8_116 : Cond.methodLink RX8 116 yX8_attempt ∈ wt := (wl5_in _ (List.mem_of_getElem? (i := 2) rfl))
theorem ml_X8_119 : Cond.methodLink RX8 119 yX6_rewrite ∈ wt := (wl5_in _ (List.mem_of_getElem? (i := 3) rfl))
theorem ml_X8_125 : Cond.methodLink RX8 125 yX4_ripple ∈ wt := (wl5_in _ (List.mem_of_getElem? (i := 4) rfl))
theorem ml_X8_130 : Cond.methodLink RX8 130 yX0_part ∈ wt := (wl5_in _ (List.mem_of_getElem? (i := 5) rfl))
theorem ml_X8_134 : Cond.methodLink RX8 134 yX5_firstMatch ∈ wt := (wl5_in _ (List.mem_of_getElem? (i := 6) rfl))
theorem ml_X8_140 : Cond.methodLink RX8 140 yX5_replace ∈ wt := (wl5_in _ (List.mem_of_getElem? (i := 7) rfl))
theorem ml_X8_144 : Cond.methodLink RX8 144 yX10_copy ∈ wt := (wl5_in _ (List.mem_of_getElem? (i := 8) rfl))
theorem ml_X8_148 : Cond.methodLink RX8 148 yX0_generalize ∈ wt := (wl5_in _ (List.mem_of_getElem? (i := 9) rfl))
theorem ml_X8_152 : Cond.methodLink RX8 152 yX0_copy ∈ wt := (wl5_in _ (List.mem_of_getElem? (i := 10) rfl))
theorem ml_X8_155 : Cond.methodLink RX8 155 yX4_keep ∈ wt := (wl5_in _ (List.mem_of_getElem? (i := 11) rfl))
theorem ml_X9_3 : Cond.methodLink RX9 3 objectInit ∈ wt := (wl5_in _ (List.mem_of_getElem? (i := 12) rfl))
theorem ml_X9_49 : Cond.methodLink RX9 49 yX9_pass ∈ wt := (wl5_in _ (List.mem_of_getElem? (i := 13) rfl))
theorem ml_X9_53 : Cond.methodLink RX9 53 yX9_readTerm ∈ wt := (wl5_in _ (List.mem_of_getElem? (i := 14) rfl))
theorem ml_X9_62 : Cond.methodLink RX9 62 yX10_close ∈ wt := (wl5_in _ (List.mem_of_getElem? (i := 15) rfl))
theorem ml_X9_66 : Cond.methodLink RX9 66 yX10_empty ∈ wt := (wl5_in _ (List.mem_of_getElem? (i := 16) rfl))
theorem ml_X9_69 : Cond.methodLink RX9 69 yX9_argumentsOf ∈ wt := (wl5_in _ (List.mem_of_getElem? (i := 17) rfl))
theorem ml_X9_73 : Cond.methodLink RX9 73 yX9_isOwn ∈ wt := (wl5_in _ (List.mem_of_getElem? (i := 18) rfl))
theorem ml_X9_76 : Cond.methodLink RX9 76 yX10_add ∈ wt := (wl5_in _ (List.mem_of_getElem? (i := 19) rfl))
theorem ml_X10_3 : Cond.methodLink RX10 3 objectInit ∈ wt := (wl5_in _ (List.mem_of_getElem? (i := 20) rfl))
theorem ml_X10_22 : Cond.methodLink RX10 22 arraycopyName ∈ wt := (wl5_in _ (List.mem_of_getElem? (i := 21) rfl))
theorem ml_X10_28 : Cond.methodLink RX10 28 yX10_isSameAt ∈ wt := (wl5_in _ (List.mem_of_getElem? (i := 22) rfl))
theorem ml_X10_32 : Cond.methodLink RX10 32 yX10_isLetter ∈ wt := (wl5_in _ (List.mem_of_getElem? (i := 23) rfl))
theorem ml_L_9 : Cond.methodLink RL 9 yX11_init ∈ wt := (wl5_in _ (List.mem_of_getElem? (i := 24) rfl))
theorem ml_L_12 : Cond.methodLink RL 12 yX12_init ∈ wt := (wl5_in _ (List.mem_of_getElem? (i := 25) rfl))
theorem ml_L_13 : Cond.methodLink RL 13 yX11_type ∈ wt := (wl5_in _ (List.mem_of_getElem? (i := 26) rfl))
theorem ml_L_17 : Cond.methodLink RL 17 yX12_type ∈ wt := (wl5_in _ (List.mem_of_getElem? (i := 27) rfl))
theorem ml_L_18 : Cond.methodLink RL 18 yX11_wipe ∈ wt := (wl5_in _ (List.mem_of_getElem? (i := 28) rfl))
theorem ml_L_22 : Cond.methodLink RL 22 yX12_wipe ∈ wt := (wl5_in _ (List.mem_of_getElem? (i := 29) rfl))
theorem ml_L_23 : Cond.methodLink RL 23 yX11_function ∈ wt := (wl5_in _ (List.mem_of_getElem? (i := 30) rfl))
theorem ml_L_27 : Cond.methodLink RL 27 yX12_function ∈ wt := (wl5_in _ (List.mem_of_getElem? (i := 31) rfl))
theorem ml_L_28 : Cond.methodLink RL 28 yX11_ofFunction ∈ wt := (wl5_in _ (List.mem_of_getElem? (i := 32) rfl))
theorem ml_L_31 : Cond.methodLink RL 31 yX12_ofFunction ∈ wt := (wl5_in _ (List.mem_of_getElem? (i := 33) rfl))
theorem ml_L_32 : Cond.methodLink RL 32 yX11_body ∈ wt := (wl5_in _ (List.mem_of_getElem? (i := 34) rfl))
theorem ml_L_36 : Cond.methodLink RL 36 yX12_body ∈ wt := (wl5_in _ (List.mem_of_getElem? (i := 35) rfl))
theorem ml_L_37 : Cond.methodLink RL 37 yX11_claim ∈ wt := (wl5_in _ (List.mem_of_getElem? (i := 36) rfl))
theorem ml_L_40 : Cond.methodLink RL 40 yX12_claim ∈ wt := (wl5_in _ (List.mem_of_getElem? (i := 37) rfl))
theorem ml_L_41 : Cond.methodLink RL 41 yX11_side ∈ wt := (wl5_in _ (List.mem_of_getElem? (i := 38) rfl))
theorem ml_L_44 : Cond.methodLink RL 44 yX12_side ∈ wt := (wl5_in _ (List.mem_of_getElem? (i := 39) rfl))
theorem ml_L_45 : Cond.methodLink RL 45 yX11_anew ∈ wt := (wl5_in _ (List.mem_of_getElem? (i := 40) rfl))
theorem ml_L_48 : Cond.methodLink RL 48 yX12_anew ∈ wt := (wl5_in _ (List.mem_of_getElem? (i := 41) rfl))
theorem ml_L_49 : Cond.methodLink RL 49 yX11_value ∈ wt := (wl5_in _ (List.mem_of_getElem? (i := 42) rfl))
theorem ml_L_53 : Cond.methodLink RL 53 yX12_value ∈ wt := (wl5_in _ (List.mem_of_getElem? (i := 43) rfl))
theorem ml_L_54 : Cond.methodLink RL 54 yX11_holds ∈ wt := (wl5_in _ (List.mem_of_getElem? (i := 44) rfl))
theorem ml_L_57 : Cond.methodLink RL 57 yX12_holds ∈ wt := (wl5_in _ (List.mem_of_getElem? (i := 45) rfl))
theorem ml_L_58 : Cond.methodLink RL 58 yX11_counter ∈ wt := (wl5_in _ (List.mem_of_getElem? (i := 46) rfl))
theorem ml_L_61 : Cond.methodLink RL 61 yX12_counter ∈ wt := (wl5_in _ (List.mem_of_getElem? (i := 47) rfl))
theorem ml_L_62 : Cond.methodLink RL 62 yX11_normal ∈ wt := (wl5_in _ (List.mem_of_getElem? (i := 48) rfl))
theorem ml_L_65 : Cond.methodLink RL 65 yX12_normal ∈ wt := (wl5_in _ (List.mem_of_getElem? (i := 49) rfl))
theorem ml_L_66 : Cond.methodLink RL 66 yX11_scheme ∈ wt := (wl5_in _ (List.mem_of_getElem? (i := 50) rfl))
theorem ml_L_69 : Cond.methodLink RL 69 yX12_scheme ∈ wt := (wl5_in _ (List.mem_of_getElem? (i := 51) rfl))
theorem ml_L_70 : Cond.methodLink RL 70 yX11_difference ∈ wt := (wl5_in _ (List.mem_of_getElem? (i := 52) rfl))
theorem ml_L_73 : Cond.methodLink RL 73 yX12_difference ∈ wt := (wl5_in _ (List.mem_of_getElem? (i := 53) rfl))
theorem ml_L_74 : Cond.methodLink RL 74 yX11_steered ∈ wt := (wl5_in _ (List.mem_of_getElem? (i := 54) rfl))
theorem ml_L_77 : Cond.methodLink RL 77 yX12_steered ∈ wt := (wl5_in _ (List.mem_of_getElem? (i := 55) rfl))
theorem ml_L_78 : Cond.methodLink RL 78 yX11_common ∈ wt := (wl5_in _ (List.mem_of_getElem? (i := 56) rfl))
theorem ml_L_81 : Cond.methodLink RL 81 yX12_common ∈ wt := (wl5_in _ (List.mem_of_getElem? (i := 57) rfl))
theorem ml_L_82 : Cond.methodLink RL 82 yX11_general ∈ wt := (wl5_in _ (List.mem_of_getElem? (i := 58) rfl))
theorem ml_L_85 : Cond.methodLink RL 85 yX12_general ∈ wt := (wl5_in _ (List.mem_of_getElem? (i := 59) rfl))
theorem ml_L_86 : Cond.methodLink RL 86 yX11_prove ∈ wt := (wl6_in _ (List.mem_of_getElem? (i := 0) rfl))
theorem ml_L_89 : Cond.methodLink RL 89 yX12_prove ∈ wt := (wl6_in _ (List.mem_of_getElem? (i := 1) rfl))
theorem ml_L_90 : Cond.methodLink RL 90 yX11_why ∈ wt := (wl6_in _ (List.mem_of_getElem? (i := 2) rfl))
theorem ml_L_93 : Cond.methodLink RL 93 yX12_why ∈ wt := (wl6_in _ (List.mem_of_getElem? (i := 3) rfl))
theorem ml_L_94 : Cond.methodLink RL 94 yX11_script ∈ wt := (wl6_in _ (List.mem_of_getElem? (i := 4) rfl))
theorem ml_L_97 : Cond.methodLink RL 97 yX12_script ∈ wt := (wl6_in _ (List.mem_of_getElem? (i := 5) rfl))
theorem ml_L_98 : Cond.methodLink RL 98 yX11_lemma ∈ wt := (wl6_in _ (List.mem_of_getElem? (i := 6) rfl))
theorem ml_L_101 : Cond.methodLink RL 101 yX12_lemma ∈ wt := (wl6_in _ (List.mem_of_getElem? (i := 7) rfl))
theorem ml_L_102 : Cond.methodLink RL 102 yX11_tested ∈ wt := (wl6_in _ (List.mem_of_getElem? (i := 8) rfl))
theorem ml_L_105 : Cond.methodLink RL 105 yX12_tested ∈ wt := (wl6_in _ (List.mem_of_getElem? (i := 9) rfl))
theorem ml_L_106 : Cond.methodLink RL 106 yX11_back ∈ wt := (wl6_in _ (List.mem_of_getElem? (i := 10) rfl))
theorem ml_L_109 : Cond.methodLink RL 109 yX12_back ∈ wt := (wl6_in _ (List.mem_of_getElem? (i := 11) rfl))
theorem ml_L_110 : Cond.methodLink RL 110 yX11_many ∈ wt := (wl6_in _ (List.mem_of_getElem? (i := 12) rfl))
theorem ml_L_113 : Cond.methodLink RL 113 yX12_many ∈ wt := (wl6_in _ (List.mem_of_getElem? (i := 13) rfl))
theorem ml_X12_1 : Cond.methodLink RX12 1 objectInit ∈ wt := (wl6_in _ (List.mem_of_getElem? (i := 14) rfl))
theorem ml_X12_92 : Cond.methodLink RX12 92 yX12_at ∈ wt := (wl6_in _ (List.mem_of_getElem? (i := 15) rfl))
theorem ml_X12_96 : Cond.methodLink RX12 96 yX12_within ∈ wt := (wl6_in _ (List.mem_of_getElem? (i := 16) rfl))
theorem ml_X12_100 : Cond.methodLink RX12 100 yX12_isLetter ∈ wt := (wl6_in _ (List.mem_of_getElem? (i := 17) rfl))
theorem ml_X12_104 : Cond.methodLink RX12 104 yX12_arity ∈ wt := (wl6_in _ (List.mem_of_getElem? (i := 18) rfl))
theorem ml_X12_111 : Cond.methodLink RX12 111 yX12_isVariable ∈ wt := (wl6_in _ (List.mem_of_getElem? (i := 19) rfl))
theorem ml_X12_123 : Cond.methodLink RX12 123 yX12_partsOf ∈ wt := (wl6_in _ (List.mem_of_getElem? (i := 20) rfl))
theorem ml_X12_127 : Cond.methodLink RX12 127 yX12_readsTerm ∈ wt := (wl6_in _ (List.mem_of_getElem? (i := 21) rfl))
theorem ml_X12_131 : Cond.methodLink RX12 131 yX12_reads ∈ wt := (wl6_in _ (List.mem_of_getElem? (i := 22) rfl))
theorem ml_X12_133 : Cond.methodLink RX12 133 yX12_keepsBody ∈ wt := (wl6_in _ (List.mem_of_getElem? (i := 23) rfl))
theorem ml_X12_140 : Cond.methodLink RX12 140 yX12_readsFunction ∈ wt := (wl6_in _ (List.mem_of_getElem? (i := 24) rfl))
theorem ml_X12_144 : Cond.methodLink RX12 144 yX12_isFunction ∈ wt := (wl6_in _ (List.mem_of_getElem? (i := 25) rfl))
theorem ml_X12_147 : Cond.methodLink RX12 147 yX12_bodyLong ∈ wt := (wl6_in _ (List.mem_of_getElem? (i := 26) rfl))
theorem ml_X12_150 : Cond.methodLink RX12 150 yX12_puts ∈ wt := (wl6_in _ (List.mem_of_getElem? (i := 27) rfl))
theorem ml_X12_153 : Cond.methodLink RX12 153 yX12_keepsSide ∈ wt := (wl6_in _ (List.mem_of_getElem? (i := 28) rfl))
theorem ml_X12_157 : Cond.methodLink RX12 157 yX12_readsClaim ∈ wt := (wl6_in _ (List.mem_of_getElem? (i := 29) rfl))
theorem ml_X12_161 : Cond.methodLink RX12 161 yX12_copies ∈ wt := (wl6_in _ (List.mem_of_getElem? (i := 30) rfl))
theorem ml_X12_168 : Cond.methodLink RX12 168 yX12_told ∈ wt := (wl6_in _ (List.mem_of_getElem? (i := 31) rfl))
theorem ml_X12_183 : Cond.methodLink RX12 183 yX12_enters ∈ wt := (wl6_in _ (List.mem_of_getElem? (i := 32) rfl))
theorem ml_X12_190 : Cond.methodLink RX12 190 yX12_calls ∈ wt := (wl6_in _ (List.mem_of_getElem? (i := 33) rfl))
theorem ml_X12_193 : Cond.methodLink RX12 193 yX12_signOf ∈ wt := (wl6_in _ (List.mem_of_getElem? (i := 34) rfl))
theorem ml_X12_196 : Cond.methodLink RX12 196 yX12_takesSign ∈ wt := (wl6_in _ (List.mem_of_getElem? (i := 35) rfl))
theorem ml_X12_199 : Cond.methodLink RX12 199 yX12_works ∈ wt := (wl6_in _ (List.mem_of_getElem? (i := 36) rfl))
theorem ml_X12_203 : Cond.methodLink RX12 203 yX12_valueOf ∈ wt := (wl6_in _ (List.mem_of_getElem? (i := 37) rfl))
theorem ml_X12_207 : Cond.methodLink RX12 207 yX12_holdsBy ∈ wt := (wl6_in _ (List.mem_of_getElem? (i := 38) rfl))
theorem ml_X12_211 : Cond.methodLink RX12 211 yX12_hasSign ∈ wt := (wl6_in _ (List.mem_of_getElem? (i := 39) rfl))
theorem ml_X12_214 : Cond.methodLink RX12 214 yX12_upTo ∈ wt := (wl6_in _ (List.mem_of_getElem? (i := 40) rfl))
theorem ml_X12_218 : Cond.methodLink RX12 218 yX12_counterexample ∈ wt := (wl6_in _ (List.mem_of_getElem? (i := 41) rfl))
theorem ml_X12_221 : Cond.methodLink RX12 221 yX12_longOf ∈ wt := (wl6_in _ (List.mem_of_getElem? (i := 42) rfl))
theorem ml_X12_227 : Cond.methodLink RX12 227 yX12_pushesSign ∈ wt := (wl6_in _ (List.mem_of_getElem? (i := 43) rfl))
theorem ml_X12_230 : Cond.methodLink RX12 230 yX12_falls ∈ wt := (wl6_in _ (List.mem_of_getElem? (i := 44) rfl))
theorem ml_X12_233 : Cond.methodLink RX12 233 yX12_pushes ∈ wt := (wl6_in _ (List.mem_of_getElem? (i := 45) rfl))
theorem ml_X12_236 : Cond.methodLink RX12 236 yX12_joins ∈ wt := (wl6_in _ (List.mem_of_getElem? (i := 46) rfl))
theorem ml_X12_239 : Cond.methodLink RX12 239 yX12_bodyFor ∈ wt := (wl6_in _ (List.mem_of_getElem? (i := 47) rfl))
theorem ml_X12_245 : Cond.methodLink RX12 245 yX12_normalizes ∈ wt := (wl6_in _ (List.mem_of_getElem? (i := 48) rfl))
theorem ml_X12_248 : Cond.methodLink RX12 248 yX12_makesNormal ∈ wt := (wl6_in _ (List.mem_of_getElem? (i := 49) rfl))
theorem ml_X12_254 : Cond.methodLink RX12 254 yX12_callsIn ∈ wt := (wl6_in _ (List.mem_of_getElem? (i := 50) rfl))
theorem ml_X12_263 : Cond.methodLink RX12 263 yX12_findScheme ∈ wt := (wl6_in _ (List.mem_of_getElem? (i := 51) rfl))
theorem ml_X12_266 : Cond.methodLink RX12 266 yX12_end ∈ wt := (wl6_in _ (List.mem_of_getElem? (i := 52) rfl))
theorem ml_X12_270 : Cond.methodLink RX12 270 yX12_atMost ∈ wt := (wl6_in _ (List.mem_of_getElem? (i := 53) rfl))
theorem ml_X12_273 : Cond.methodLink RX12 273 yX12_findDeep ∈ wt := (wl6_in _ (List.mem_of_getElem? (i := 54) rfl))
theorem ml_X12_276 : Cond.methodLink RX12 276 yX12_heldAt ∈ wt := (wl6_in _ (List.mem_of_getElem? (i := 55) rfl))
theorem ml_X12_279 : Cond.methodLink RX12 279 yX12_differenceOf ∈ wt := (wl6_in _ (List.mem_of_getElem? (i := 56) rfl))
theorem ml_X12_282 : Cond.methodLink RX12 282 yX12_isSamePart ∈ wt := (wl6_in _ (List.mem_of_getElem? (i := 57) rfl))
theorem ml_X12_286 : Cond.methodLink RX12 286 yX12_binds ∈ wt := (wl6_in _ (List.mem_of_getElem? (i := 58) rfl))
theorem ml_X12_289 : Cond.methodLink RX12 289 yX12_longWith ∈ wt := (wl6_in _ (List.mem_of_getElem? (i := 59) rfl))
theorem ml_X12_292 : Cond.methodLink RX12 292 yX12_isPattern ∈ wt := (wl7_in _ (List.mem_of_getElem? (i := 0) rfl))
theorem ml_X12_295 : Cond.methodLink RX12 295 yX12_matches ∈ wt := (wl7_in _ (List.mem_of_getElem? (i := 1) rfl))
theorem ml_X12_299 : Cond.methodLink RX12 299 yX12_replaces ∈ wt := (wl7_in _ (List.mem_of_getElem? (i := 2) rfl))
theorem ml_X12_305 : Cond.methodLink RX12 305 yX12_steersOnce ∈ wt := (wl7_in _ (List.mem_of_getElem? (i := 3) rfl))
theorem ml_X12_308 : Cond.methodLink RX12 308 yX12_notesIt ∈ wt := (wl7_in _ (List.mem_of_getElem? (i := 4) rfl))
theorem ml_X12_311 : Cond.methodLink RX12 311 yX12_steers ∈ wt := (wl7_in _ (List.mem_of_getElem? (i := 5) rfl))
theorem ml_X12_318 : Cond.methodLink RX12 318 yX12_isPartOf ∈ wt := (wl7_in _ (List.mem_of_getElem? (i := 6) rfl))
theorem ml_X12_324 : Cond.methodLink RX12 324 yX12_findCommon ∈ wt := (wl7_in _ (List.mem_of_getElem? (i := 7) rfl))
theorem ml_X12_327 : Cond.methodLink RX12 327 yX12_generalizes ∈ wt := (wl7_in _ (List.mem_of_getElem? (i := 8) rfl))
theorem ml_X12_331 : Cond.methodLink RX12 331 yX12_makesGeneral ∈ wt := (wl7_in _ (List.mem_of_getElem? (i := 9) rfl))
theorem ml_X12_343 : Cond.methodLink RX12 343 yX12_areSame ∈ wt := (wl7_in _ (List.mem_of_getElem? (i := 10) rfl))
theorem ml_X12_346 : Cond.methodLink RX12 346 yX12_slotOf ∈ wt := (wl7_in _ (List.mem_of_getElem? (i := 11) rfl))
theorem ml_X12_349 : Cond.methodLink RX12 349 yX12_isLemma ∈ wt := (wl7_in _ (List.mem_of_getElem? (i := 12) rfl))
theorem ml_X12_355 : Cond.methodLink RX12 355 yX12_fails ∈ wt := (wl7_in _ (List.mem_of_getElem? (i := 13) rfl))
theorem ml_X12_359 : Cond.methodLink RX12 359 yX12_proves ∈ wt := (wl7_in _ (List.mem_of_getElem? (i := 14) rfl))
theorem ml_X12_362 : Cond.methodLink RX12 362 yX12_usesClaim ∈ wt := (wl7_in _ (List.mem_of_getElem? (i := 15) rfl))
theorem ml_X12_365 : Cond.methodLink RX12 365 yX12_normalGoal ∈ wt := (wl7_in _ (List.mem_of_getElem? (i := 16) rfl))
theorem ml_X12_368 : Cond.methodLink RX12 368 yX12_takesCase ∈ wt := (wl7_in _ (List.mem_of_getElem? (i := 17) rfl))
theorem ml_X12_371 : Cond.methodLink RX12 371 yX12_carries ∈ wt := (wl7_in _ (List.mem_of_getElem? (i := 18) rfl))
theorem ml_X12_374 : Cond.methodLink RX12 374 yX12_guesses ∈ wt := (wl7_in _ (List.mem_of_getElem? (i := 19) rfl))
theorem ml_X12_377 : Cond.methodLink RX12 377 yX12_begins ∈ wt := (wl7_in _ (List.mem_of_getElem? (i := 20) rfl))
theorem ml_X12_380 : Cond.methodLink RX12 380 yX12_nextCase ∈ wt := (wl7_in _ (List.mem_of_getElem? (i := 21) rfl))
theorem ml_X12_383 : Cond.methodLink RX12 383 yX12_isKnown ∈ wt := (wl7_in _ (List.mem_of_getElem? (i := 22) rfl))
theorem mn_X11_41 : (RX11, 41, yX1_init, "SteeredClaims") ∈ wn := List.mem_of_getElem? (i := 0) rfl
theorem mn_X11_60 : (RX11, 60, yX7_init, "SteeredClaims") ∈ wn := List.mem_of_getElem? (i := 1) rfl
theorem mn_X11_76 : (RX11, 76, yX0_init, "SteeredClaims") ∈ wn := List.mem_of_getElem? (i := 2) rfl
theorem mn_X11_86 : (RX11, 86, yX10_init, "SteeredClaims") ∈ wn := List.mem_of_getElem? (i := 3) rfl
theorem mn_X11_235 : (RX11, 235, yX8_attempt, "SteeredClaims") ∈ wn := List.mem_of_getElem? (i := 4) rfl
theorem mn_X0_11 : (RX0, 11, yX10_init, "SteeredClaims") ∈ wn := List.mem_of_getElem? (i := 5) rfl
theorem mn_X3_27 : (RX3, 27, yX10_init, "SteeredClaims") ∈ wn := List.mem_of_getElem? (i := 6) rfl
theorem mn_X4_19 : (RX4, 19, yX10_init, "SteeredClaims") ∈ wn := List.mem_of_getElem? (i := 7) rfl
theorem mn_X4_32 : (RX4, 32, yX0_init, "SteeredClaims") ∈ wn := List.mem_of_getElem? (i := 8) rfl
theorem mn_X8_25 : (RX8, 25, yX10_init, "SteeredClaims") ∈ wn := List.mem_of_getElem? (i := 9) rfl
theorem mn_X8_54 : (RX8, 54, yX0_init, "SteeredClaims") ∈ wn := List.mem_of_getElem? (i := 10) rfl
theorem mn_X9_25 : (RX9, 25, yX10_init, "SteeredClaims") ∈ wn := List.mem_of_getElem? (i := 11) rfl
theorem kc_X1_32 : Cond.constant RX1 32 (Int32.ofInt 1000000) ∈ wt := (wl7_in _ (List.mem_of_getElem? (i := 23) rfl))
theorem kc_X12_269 : Cond.constant RX12 269 (Int32.ofInt 100000) ∈ wt := (wl7_in _ (List.mem_of_getElem? (i := 24) rfl))
set_option maxRecDepth 100000 in
theorem cw_X0_init : Cond.code yX0_init cX0_init 1 none ∈ wt := wt_tbl (t1_2 (List.mem_of_getElem? (i := 31) rfl)) rfl
theorem sy_X0_init : zY yX0_init cX0_init 1 none 0 := ⟨cw_X0_init, (wl7_in _ (List.mem_of_getElem? (i := 35) rfl)), ⟨by decide, by decide, by decide +kernel⟩, by decide⟩
theorem si_X0_init : Cond.instanceMethod yX0_init ∈ wt := (wl7_in _ (List.mem_of_getElem? (i := 41) rfl))
set_option maxRecDepth 100000 in
theorem cw_X0_part : Cond.code yX0_part cX0_part 2 (some (.object "SteeredClaims$Term")) ∈ wt := wt_tbl (t1_3 (List.mem_of_getElem? (i := 30) rfl)) rfl
theorem sy_X0_part : zY yX0_part cX0_part 2 (some (.object "SteeredClaims$Term")) 1 := ⟨cw_X0_part, (wl7_in _ (List.mem_of_getElem? (i := 35) rfl)), ⟨by decide, by decide, by decide +kernel⟩, by decide⟩
theorem si_X0_part : Cond.instanceMethod yX0_part ∈ wt ∧ Cond.selects yX0_part.cls yX0_part yX0_part ∈ wt := ⟨(wl7_in _ (List.mem_of_getElem? (i := 42) rfl)), (wl7_in _ (List.mem_of_getElem? (i := 43) rfl))⟩
theorem so_X0_part : vwCl[0]? = some (yX0_part.cls, TX0, 2) := rfl
set_option maxRecDepth 100000 in
theorem cw_X0_copy : Cond.code yX0_copy cX0_copy 2 none ∈ wt := wt_tbl (t1_4 (List.mem_of_getElem? (i := 15) rfl)) rfl
theorem sy_X0_copy : zY yX0_copy cX0_copy 2 none 1 := ⟨cw_X0_copy, (wl7_in _ (List.mem_of_getElem? (i := 35) rfl)), ⟨by decide, by decide, by decide +kernel⟩, by decide⟩
theorem si_X0_copy : Cond.instanceMethod yX0_copy ∈ wt ∧ Cond.selects yX0_copy.cls yX0_copy yX0_copy ∈ wt := ⟨(wl7_in _ (List.mem_of_getElem? (i := 44) rfl)), (wl7_in _ (List.mem_of_getElem? (i := 45) rfl))⟩
theorem so_X0_copy : vwCl[0]? = some (yX0_copy.cls, TX0, 2) := rfl
set_option maxRecDepth 100000 in
theorem cw_X0_isSame : Cond.code yX0_isSame cX0_isSame 2 (some .boolean) ∈ wt := wt_tbl (t1_4 (List.mem_of_getElem? (i := 73) rfl)) rfl
theorem sy_X0_isSame : zY yX0_isSame cX0_isSame 2 (some .boolean) 1 := ⟨cw_X0_isSame, (wl7_in _ (List.mem_of_getElem? (i := 35) rfl)), ⟨by decide, by decide, by decide +kernel⟩, by decide⟩
theorem si_X0_isSame : Cond.instanceMethod yX0_isSame ∈ wt ∧ Cond.selects yX0_isSame.cls yX0_isSame yX0_isSame ∈ wt := ⟨(wl7_in _ (List.mem_of_getElem? (i := 46) rfl)), (wl7_in _ (List.mem_of_getElem? (i := 47) rfl))⟩
theorem so_X0_isSame : vwCl[0]? = some (yX0_isSame.cls, TX0, 2) := rfl
set_option maxRecDepth 100000 in
theorem cw_X0_isTrivial : Cond.code yX0_isTrivial cX0_isTrivial 1 (some .boolean) ∈ wt := wt_tbl (t1_4 (List.mem_of_getElem? (i := 56) rfl)) rfl
theorem sy_X0_isTrivial : zY yX0_isTrivial cX0_isTrivial 1 (some .boolean) 0 := ⟨cw_X0_isTrivial, (wl7_in _ (List.mem_of_getElem? (i := 35) rfl)), ⟨by decide, by decide, by decide +kernel⟩, by decide⟩
theorem si_X0_isTrivial : Cond.instanceMethod yX0_isTrivial ∈ wt ∧ Cond.selects yX0_isTrivial.cls yX0_isTrivial yX0_isTrivial ∈ wt := ⟨(wl7_in _ (List.mem_of_getElem? (i := 48) rfl)), (wl7_in _ (List.mem_of_getElem? (i := 49) rfl))⟩
theorem so_X0_isTrivial : vwCl[0]? = some (yX0_isTrivial.cls, TX0, 2) := rfl
set_option maxRecDepth 100000 in
theorem cw_X0_has : Cond.code yX0_has cX0_has 2 (some .boolean) ∈ wt := wt_tbl (t1_3 (List.mem_of_getElem? (i := 87) rfl)) rfl
theorem sy_X0_has : zY yX0_has cX0_has 2 (some .boolean) 1 := ⟨cw_X0_has, (wl7_in _ (List.mem_of_getElem? (i := 35) rfl)), ⟨by decide, by decide, by decide +kernel⟩, by decide⟩
theorem si_X0_has : Cond.instanceMethod yX0_has ∈ wt ∧ Cond.selects yX0_has.cls yX0_has yX0_has ∈ wt := ⟨(wl7_in _ (List.mem_of_getElem? (i := 50) rfl)), (wl7_in _ (List.mem_of_getElem? (i := 51) rfl))⟩
theorem so_X0_has : vwCl[0]? = some (yX0_has.cls, TX0, 2) := rfl
set_option maxRecDepth 100000 in
theorem cw_X0_callsOf : Cond.code yX0_callsOf cX0_callsOf 4 (some .int) ∈ wt := wt_tbl (t1_3 (List.mem_of_getElem? (i := 148) rfl)) rfl
theorem sy_X0_callsOf : zY yX0_callsOf cX0_callsOf 4 (some .int) 1 := ⟨cw_X0_callsOf, (wl7_in _ (List.mem_of_getElem? (i := 35) rfl)), ⟨by decide, by decide, by decide +kernel⟩, by decide⟩
theorem si_X0_callsOf : Cond.instanceMethod yX0_callsOf ∈ wt ∧ Cond.selects yX0_callsOf.cls yX0_callsOf yX0_callsOf ∈ wt := ⟨(wl7_in _ (List.mem_of_getElem? (i := 52) rfl)), (wl7_in _ (List.mem_of_getElem? (i := 53) rfl))⟩
theorem so_X0_callsOf : vwCl[0]? = some (yX0_callsOf.cls, TX0, 2) := rfl
set_option maxRecDepth 100000 in
theorem cw_X0_deepestCall : Cond.code yX0_deepestCall cX0_deepestCall 5 (some .int) ∈ wt := wt_tbl (t1_3 (List.mem_of_getElem? (i := 157) rfl)) rfl
theorem sy_X0_deepestCall : zY yX0_deepestCall cX0_deepestCall 5 (some .int) 2 := ⟨cw_X0_deepestCall, (wl7_in _ (List.mem_of_getElem? (i := 35) rfl)), ⟨by decide, by decide, by decide +kernel⟩, by decide⟩
theorem si_X0_deepestCall : Cond.instanceMethod yX0_deepestCall ∈ wt ∧ Cond.selects yX0_deepestCall.cls yX0_deepestCall yX0_deepestCall ∈ wt := ⟨(wl7_in _ (List.mem_of_getElem? (i := 54) rfl)), (wl7_in _ (List.mem_of_getElem? (i := 55) rfl))⟩
theorem so_X0_deepestCall : vwCl[0]? = some (yX0_deepestCall.cls, TX0, 2) := rfl
set_option maxRecDepth 100000 in
theorem cw_X0_inductionVariable : Cond.code yX0_inductionVariable cX0_inductionVariable 8 (some .int) ∈ wt := wt_tbl (t1_3 (List.mem_of_getElem? (i := 144) rfl)) rfl
theorem sy_X0_inductionVariable : zY yX0_inductionVariable cX0_inductionVariable 8 (some .int) 1 := ⟨cw_X0_inductionVariable, (wl7_in _ (List.mem_of_getElem? (i := 35) rfl)), ⟨by decide, by decide, by decide +kernel⟩, by decide⟩
theorem si_X0_inductionVariable : Cond.instanceMethod yX0_inductionVariable ∈ wt ∧ Cond.selects yX0_inductionVariable.cls yX0_inductionVariable yX0_inductionVariable ∈ wt := ⟨(wl7_in _ (List.mem_of_getElem? (i := 56) rfl)), (wl7_in _ (List.mem_of_getElem? (i := 57) rfl))⟩
theorem so_X0_inductionVariable : vwCl[0]? = some (yX0_inductionVariable.cls, TX0, 2) := rfl
set_option maxRecDepth 100000 in
theorem cw_X0_commonStart : Cond.code yX0_commonStart cX0_commonStart 5 (some .int) ∈ wt := wt_tbl (t1_3 (List.mem_of_getElem? (i := 230) rfl)) rfl
theorem sy_X0_commonStart : zY yX0_commonStart cX0_commonStart 5 (some .int) 0 := ⟨cw_X0_commonStart, (wl7_in _ (List.mem_of_getElem? (i := 35) rfl)), ⟨by decide, by decide, by decide +kernel⟩, by decide⟩
theorem si_X0_commonStart : Cond.instanceMethod yX0_commonStart ∈ wt ∧ Cond.selects yX0_commonStart.cls yX0_commonStart yX0_commonStart ∈ wt := ⟨(wl7_in _ (List.mem_of_getElem? (i := 58) rfl)), (wl7_in _ (List.mem_of_getElem? (i := 59) rfl))⟩
theorem so_X0_commonStart : vwCl[0]? = some (yX0_commonStart.cls, TX0, 2) := rfl
set_option maxRecDepth 100000 in
theorem cw_X0_freeVariable : Cond.code yX0_freeVariable cX0_freeVariable 2 (some .int) ∈ wt := wt_tbl (t1_4 (List.mem_of_getElem? (i := 10) rfl)) rfl
theorem sy_X0_freeVariable : zY yX0_freeVariable cX0_freeVariable 2 (some .int) 0 := ⟨cw_X0_freeVariable, (wl7_in _ (List.mem_of_getElem? (i := 35) rfl)), ⟨by decide, by decide, by decide +kernel⟩, by decide⟩
theorem si_X0_freeVariable : Cond.instanceMethod yX0_freeVariable ∈ wt ∧ Cond.selects yX0_freeVariable.cls yX0_freeVariable yX0_freeVariable ∈ wt := ⟨(wl8_in _ (List.mem_of_getElem? (i := 0) rfl)), (wl8_in _ (List.mem_of_getElem? (i := 1) rfl))⟩
theorem so_X0_freeVariable : vwCl[0]? = some (yX0_freeVariable.cls, TX0, 2) := rfl
set_option maxRecDepth 100000 in
theorem cw_X0_generalize : Cond.code yX0_generalize cX0_generalize 5 (some .int) ∈ wt := wt_tbl (t1_4 (List.mem_of_getElem? (i := 5) rfl)) rfl
theorem sy_X0_generalize : zY yX0_generalize cX0_generalize 5 (some .int) 2 := ⟨cw_X0_generalize, (wl7_in _ (List.mem_of_getElem? (i := 35) rfl)), ⟨by decide, by decide, by decide +kernel⟩, by decide⟩
theorem si_X0_generalize : Cond.instanceMethod yX0_generalize ∈ wt ∧ Cond.selects yX0_generalize.cls yX0_generalize yX0_generalize ∈ wt := ⟨(wl8_in _ (List.mem_of_getElem? (i := 2) rfl)), (wl8_in _ (List.mem_of_getElem? (i := 3) rfl))⟩
theorem so_X0_generalize : vwCl[0]? = some (yX0_generalize.cls, TX0, 2) := rfl
set_option maxRecDepth 100000 in
theorem cw_X0_putVariable : Cond.code yX0_putVariable cX0_putVariable 8 none ∈ wt := wt_tbl (t1_4 (List.mem_of_getElem? (i := 20) rfl)) rfl
theorem sy_X0_putVariable : zY yX0_putVariable cX0_putVariable 8 none 4 := ⟨cw_X0_putVariable, (wl7_in _ (List.mem_of_getElem? (i := 35) rfl)), ⟨by decide, by decide, by decide +kernel⟩, by decide⟩
theorem si_X0_putVariable : Cond.instanceMethod yX0_putVariable ∈ wt ∧ Cond.selects yX0_putVariable.cls yX0_putVariable yX0_putVariable ∈ wt := ⟨(wl8_in _ (List.mem_of_getElem? (i := 4) rfl)), wt_in (List.mem_append_left _ (List.mem_map.mpr ⟨(yX0_putVariable, 2), wp_in _ (List.mem_of_getElem? (i := 16) rfl), rfl⟩)) rfl⟩
theorem so_X0_putVariable : vwCl[0]? = some (yX0_putVariable.cls, TX0, 2) := rfl
set_option maxRecDepth 100000 in
theorem cw_X1_init : Cond.code yX1_init cX1_init 1 none ∈ wt := wt_tbl (t1_1 (List.mem_of_getElem? (i := 236) rfl)) rfl
theorem sy_X1_init : zY yX1_init cX1_init 1 none 0 := ⟨cw_X1_init, (wl7_in _ (List.mem_of_getElem? (i := 32) rfl)), ⟨by decide, by decide, by decide +kernel⟩, by decide⟩
theorem si_X1_init : Cond.instanceMethod yX1_init ∈ wt := (wl8_in _ (List.mem_of_getElem? (i := 5) rfl))
set_option maxRecDepth 100000 in
theorem cw_X1_smallest : Cond.code yX1_smallest cX1_smallest 5 (some .int) ∈ wt := wt_tbl (t1_3 (List.mem_of_getElem? (i := 172) rfl)) rfl
theorem sy_X1_smallest : zY yX1_smallest cX1_smallest 5 (some .int) 2 := ⟨cw_X1_smallest, (wl7_in _ (List.mem_of_getElem? (i := 32) rfl)), ⟨by decide, by decide, by decide +kernel⟩, by decide⟩
theorem si_X1_smallest : Cond.instanceMethod yX1_smallest ∈ wt ∧ Cond.selects yX1_smallest.cls yX1_smallest yX1_smallest ∈ wt := ⟨(wl8_in _ (List.mem_of_getElem? (i := 6) rfl)), (wl8_in _ (List.mem_of_getElem? (i := 7) rfl))⟩
theorem so_X1_smallest : vwCl[1]? = some (yX1_smallest.cls, TX1, 2) := rfl
set_option maxRecDepth 100000 in
theorem cw_X1_findDepths : Cond.code yX1_findDepths cX1_findDepths 4 none ∈ wt := wt_tbl (t1_3 (List.mem_of_getElem? (i := 176) rfl)) rfl
theorem sy_X1_findDepths : zY yX1_findDepths cX1_findDepths 4 none 1 := ⟨cw_X1_findDepths, (wl7_in _ (List.mem_of_getElem? (i := 32) rfl)), ⟨by decide, by decide, by decide +kernel⟩, by decide⟩
theorem si_X1_findDepths : Cond.instanceMethod yX1_findDepths ∈ wt ∧ Cond.selects yX1_findDepths.cls yX1_findDepths yX1_findDepths ∈ wt := ⟨(wl8_in _ (List.mem_of_getElem? (i := 8) rfl)), wt_in (List.mem_append_left _ (List.mem_map.mpr ⟨(yX1_findDepths, 2), wp_in _ (List.mem_of_getElem? (i := 13) rfl), rfl⟩)) rfl⟩
theorem so_X1_findDepths : vwCl[1]? = some (yX1_findDepths.cls, TX1, 2) := rfl
set_option maxRecDepth 100000 in
theorem cw_X1_smallestAt : Cond.code yX1_smallestAt cX1_smallestAt 13 (some .int) ∈ wt := wt_tbl (t1_3 (List.mem_of_getElem? (i := 180) rfl)) rfl
theorem sy_X1_smallestAt : zY yX1_smallestAt cX1_smallestAt 13 (some .int) 4 := ⟨cw_X1_smallestAt, (wl7_in _ (List.mem_of_getElem? (i := 32) rfl)), ⟨by decide, by decide, by decide +kernel⟩, by decide⟩
theorem si_X1_smallestAt : Cond.instanceMethod yX1_smallestAt ∈ wt ∧ Cond.selects yX1_smallestAt.cls yX1_smallestAt yX1_smallestAt ∈ wt := ⟨(wl8_in _ (List.mem_of_getElem? (i := 9) rfl)), wt_in (List.mem_append_left _ (List.mem_map.mpr ⟨(yX1_smallestAt, 2), wp_in _ (List.mem_of_getElem? (i := 14) rfl), rfl⟩)) rfl⟩
theorem so_X1_smallestAt : vwCl[1]? = some (yX1_smallestAt.cls, TX1, 2) := rfl
set_option maxRecDepth 100000 in
theorem cw_X2_init : Cond.code yX2_init cX2_init 2 none ∈ wt := wt_tbl (t1_1 (List.mem_of_getElem? (i := 143) rfl)) rfl
theorem sy_X2_init : zY yX2_init cX2_init 2 none 1 := ⟨cw_X2_init, (wl7_in _ (List.mem_of_getElem? (i := 30) rfl)), ⟨by decide, by decide, by decide +kernel⟩, by decide⟩
theorem si_X2_init : Cond.instanceMethod yX2_init ∈ wt := (wl8_in _ (List.mem_of_getElem? (i := 10) rfl))
set_option maxRecDepth 100000 in
theorem cw_X2_refutes : Cond.code yX2_refutes cX2_refutes 8 (some .boolean) ∈ wt := wt_tbl (t1_3 (List.mem_of_getElem? (i := 83) rfl)) rfl
theorem sy_X2_refutes : zY yX2_refutes cX2_refutes 8 (some .boolean) 1 := ⟨cw_X2_refutes, (wl7_in _ (List.mem_of_getElem? (i := 30) rfl)), ⟨by decide, by decide, by decide +kernel⟩, by decide⟩
theorem si_X2_refutes : Cond.instanceMethod yX2_refutes ∈ wt ∧ Cond.selects yX2_refutes.cls yX2_refutes yX2_refutes ∈ wt := ⟨(wl8_in _ (List.mem_of_getElem? (i := 11) rfl)), (wl8_in _ (List.mem_of_getElem? (i := 12) rfl))⟩
theorem so_X2_refutes : vwCl[2]? = some (yX2_refutes.cls, TX2, 10) := rfl
set_option maxRecDepth 100000 in
theorem cw_X2_countTriples : Cond.code yX2_countTriples cX2_countTriples 10 (some .int) ∈ wt := wt_tbl (t1_4 (List.mem_of_getElem? (i := 125) rfl)) rfl
theorem sy_X2_countTriples : zY yX2_countTriples cX2_countTriples 10 (some .int) 2 := ⟨cw_X2_countTriples, (wl7_in _ (List.mem_of_getElem? (i := 30) rfl)), ⟨by decide, by decide, by decide +kernel⟩, by decide⟩
theorem si_X2_countTriples : Cond.instanceMethod yX2_countTriples ∈ wt ∧ Cond.selects yX2_countTriples.cls yX2_countTriples yX2_countTriples ∈ wt := ⟨(wl8_in _ (List.mem_of_getElem? (i := 13) rfl)), (wl8_in _ (List.mem_of_getElem? (i := 14) rfl))⟩
theorem so_X2_countTriples : vwCl[2]? = some (yX2_countTriples.cls, TX2, 10) := rfl
set_option maxRecDepth 100000 in
theorem cw_X2_compare : Cond.code yX2_compare cX2_compare 7 (some .int) ∈ wt := wt_tbl (t1_3 (List.mem_of_getElem? (i := 74) rfl)) rfl
theorem sy_X2_compare : zY yX2_compare cX2_compare 7 (some .int) 4 := ⟨cw_X2_compare, (wl7_in _ (List.mem_of_getElem? (i := 30) rfl)), ⟨by decide, by decide, by decide +kernel⟩, by decide⟩
theorem si_X2_compare : Cond.instanceMethod yX2_compare ∈ wt ∧ Cond.selects yX2_compare.cls yX2_compare yX2_compare ∈ wt := ⟨(wl8_in _ (List.mem_of_getElem? (i := 15) rfl)), (wl8_in _ (List.mem_of_getElem? (i := 16) rfl))⟩
theorem so_X2_compare : vwCl[2]? = some (yX2_compare.cls, TX2, 10) := rfl
set_option maxRecDepth 100000 in
theorem cw_X2_valueOf : Cond.code yX2_valueOf cX2_valueOf 8 (some .int) ∈ wt := wt_tbl (t1_3 (List.mem_of_getElem? (i := 52) rfl)) rfl
theorem sy_X2_valueOf : zY yX2_valueOf cX2_valueOf 8 (some .int) 4 := ⟨cw_X2_valueOf, (wl7_in _ (List.mem_of_getElem? (i := 30) rfl)), ⟨by decide, by decide, by decide +kernel⟩, by decide⟩
theorem si_X2_valueOf : Cond.instanceMethod yX2_valueOf ∈ wt ∧ Cond.selects yX2_valueOf.cls yX2_valueOf yX2_valueOf ∈ wt := ⟨(wl8_in _ (List.mem_of_getElem? (i := 17) rfl)), (wl8_in _ (List.mem_of_getElem? (i := 18) rfl))⟩
theorem so_X2_valueOf : vwCl[2]? = some (yX2_valueOf.cls, TX2, 10) := rfl
set_option maxRecDepth 100000 in
theorem cw_X2_take : Cond.code yX2_take cX2_take 3 (some .boolean) ∈ wt := wt_tbl (t1_3 (List.mem_of_getElem? (i := 66) rfl)) rfl
theorem sy_X2_take : zY yX2_take cX2_take 3 (some .boolean) 2 := ⟨cw_X2_take, (wl7_in _ (List.mem_of_getElem? (i := 30) rfl)), ⟨by decide, by decide, by decide +kernel⟩, by decide⟩
theorem si_X2_take : Cond.instanceMethod yX2_take ∈ wt ∧ Cond.selects yX2_take.cls yX2_take yX2_take ∈ wt := ⟨(wl8_in _ (List.mem_of_getElem? (i := 19) rfl)), wt_in (List.mem_append_left _ (List.mem_map.mpr ⟨(yX2_take, 10), wp_in _ (List.mem_of_getElem? (i := 5) rfl), rfl⟩)) rfl⟩
theorem so_X2_take : vwCl[2]? = some (yX2_take.cls, TX2, 10) := rfl
set_option maxRecDepth 100000 in
theorem cw_X2_call : Cond.code yX2_call cX2_call 6 (some .boolean) ∈ wt := wt_tbl (t1_3 (List.mem_of_getElem? (i := 59) rfl)) rfl
theorem sy_X2_call : zY yX2_call cX2_call 6 (some .boolean) 1 := ⟨cw_X2_call, (wl7_in _ (List.mem_of_getElem? (i := 30) rfl)), ⟨by decide, by decide, by decide +kernel⟩, by decide⟩
theorem si_X2_call : Cond.instanceMethod yX2_call ∈ wt ∧ Cond.selects yX2_call.cls yX2_call yX2_call ∈ wt := ⟨(wl8_in _ (List.mem_of_getElem? (i := 20) rfl)), wt_in (List.mem_append_left _ (List.mem_map.mpr ⟨(yX2_call, 10), wp_in _ (List.mem_of_getElem? (i := 4) rfl), rfl⟩)) rfl⟩
theorem so_X2_call : vwCl[2]? = some (yX2_call.cls, TX2, 10) := rfl
set_option maxRecDepth 100000 in
theorem cw_X3_init : Cond.code yX3_init cX3_init 2 none ∈ wt := wt_tbl (t1_1 (List.mem_of_getElem? (i := 28) rfl)) rfl
theorem sy_X3_init : zY yX3_init cX3_init 2 none 0 := ⟨cw_X3_init, (wl7_in _ (List.mem_of_getElem? (i := 27) rfl)), ⟨by decide, by decide, by decide +kernel⟩, by decide⟩
theorem si_X3_init : Cond.instanceMethod yX3_init ∈ wt := (wl8_in _ (List.mem_of_getElem? (i := 21) rfl))
set_option maxRecDepth 100000 in
theorem cw_X3_define : Cond.code yX3_define cX3_define 6 none ∈ wt := wt_tbl (t1_2 (List.mem_of_getElem? (i := 226) rfl)) rfl
theorem sy_X3_define : zY yX3_define cX3_define 6 none 3 := ⟨cw_X3_define, (wl7_in _ (List.mem_of_getElem? (i := 27) rfl)), ⟨by decide, by decide, by decide +kernel⟩, by decide⟩
theorem si_X3_define : Cond.instanceMethod yX3_define ∈ wt ∧ Cond.selects yX3_define.cls yX3_define yX3_define ∈ wt := ⟨(wl8_in _ (List.mem_of_getElem? (i := 22) rfl)), (wl8_in _ (List.mem_of_getElem? (i := 23) rfl))⟩
theorem so_X3_define : vwCl[3]? = some (yX3_define.cls, TX3, 5) := rfl
set_option maxRecDepth 100000 in
theorem cw_X3_forgetAll : Cond.code yX3_forgetAll cX3_forgetAll 2 none ∈ wt := wt_tbl (t1_3 (List.mem_of_getElem? (i := 38) rfl)) rfl
theorem sy_X3_forgetAll : zY yX3_forgetAll cX3_forgetAll 2 none 0 := ⟨cw_X3_forgetAll, (wl7_in _ (List.mem_of_getElem? (i := 27) rfl)), ⟨by decide, by decide, by decide +kernel⟩, by decide⟩
theorem si_X3_forgetAll : Cond.instanceMethod yX3_forgetAll ∈ wt ∧ Cond.selects yX3_forgetAll.cls yX3_forgetAll yX3_forgetAll ∈ wt := ⟨(wl8_in _ (List.mem_of_getElem? (i := 24) rfl)), (wl8_in _ (List.mem_of_getElem? (i := 25) rfl))⟩
theorem so_X3_forgetAll : vwCl[3]? = some (yX3_forgetAll.cls, TX3, 5) := rfl
set_option maxRecDepth 100000 in
theorem cw_X3_bodyOf : Cond.code yX3_bodyOf cX3_bodyOf 3 (some (.object "SteeredClaims$Term")) ∈ wt := wt_tbl (t1_3 (List.mem_of_getElem? (i := 1) rfl)) rfl
theorem sy_X3_bodyOf : zY yX3_bodyOf cX3_bodyOf 3 (some (.object "SteeredClaims$Term")) 2 := ⟨cw_X3_bodyOf, (wl7_in _ (List.mem_of_getElem? (i := 27) rfl)), ⟨by decide, by decide, by decide +kernel⟩, by decide⟩
theorem si_X3_bodyOf : Cond.instanceMethod yX3_bodyOf ∈ wt ∧ Cond.selects yX3_bodyOf.cls yX3_bodyOf yX3_bodyOf ∈ wt := ⟨(wl8_in _ (List.mem_of_getElem? (i := 26) rfl)), (wl8_in _ (List.mem_of_getElem? (i := 27) rfl))⟩
theorem so_X3_bodyOf : vwCl[3]? = some (yX3_bodyOf.cls, TX3, 5) := rfl
set_option maxRecDepth 100000 in
theorem cw_X3_depthOf : Cond.code yX3_depthOf cX3_depthOf 3 (some .int) ∈ wt := wt_tbl (t1_3 (List.mem_of_getElem? (i := 161) rfl)) rfl
theorem sy_X3_depthOf : zY yX3_depthOf cX3_depthOf 3 (some .int) 1 := ⟨cw_X3_depthOf, (wl7_in _ (List.mem_of_getElem? (i := 27) rfl)), ⟨by decide, by decide, by decide +kernel⟩, by decide⟩
theorem si_X3_depthOf : Cond.instanceMethod yX3_depthOf ∈ wt ∧ Cond.selects yX3_depthOf.cls yX3_depthOf yX3_depthOf ∈ wt := ⟨(wl8_in _ (List.mem_of_getElem? (i := 28) rfl)), (wl8_in _ (List.mem_of_getElem? (i := 29) rfl))⟩
theorem so_X3_depthOf : vwCl[3]? = some (yX3_depthOf.cls, TX3, 5) := rfl
set_option maxRecDepth 100000 in
theorem cw_X4_init : Cond.code yX4_init cX4_init 4 none ∈ wt := wt_tbl (t1_2 (List.mem_of_getElem? (i := 22) rfl)) rfl
theorem sy_X4_init : zY yX4_init cX4_init 4 none 2 := ⟨cw_X4_init, (wl7_in _ (List.mem_of_getElem? (i := 34) rfl)), ⟨by decide, by decide, by decide +kernel⟩, by decide⟩
theorem si_X4_init : Cond.instanceMethod yX4_init ∈ wt := (wl8_in _ (List.mem_of_getElem? (i := 30) rfl))
set_option maxRecDepth 100000 in
theorem cw_X4_keep : Cond.code yX4_keep cX4_keep 3 none ∈ wt := wt_tbl (t1_4 (List.mem_of_getElem? (i := 68) rfl)) rfl
theorem sy_X4_keep : zY yX4_keep cX4_keep 3 none 1 := ⟨cw_X4_keep, (wl7_in _ (List.mem_of_getElem? (i := 34) rfl)), ⟨by decide, by decide, by decide +kernel⟩, by decide⟩
theorem si_X4_keep : Cond.instanceMethod yX4_keep ∈ wt ∧ Cond.selects yX4_keep.cls yX4_keep yX4_keep ∈ wt := ⟨(wl8_in _ (List.mem_of_getElem? (i := 31) rfl)), (wl8_in _ (List.mem_of_getElem? (i := 32) rfl))⟩
theorem so_X4_keep : vwCl[4]? = some (yX4_keep.cls, TX4, 5) := rfl
set_option maxRecDepth 100000 in
theorem cw_X4_ripple : Cond.code yX4_ripple cX4_ripple 8 (some .int) ∈ wt := wt_tbl (t1_3 (List.mem_of_getElem? (i := 192) rfl)) rfl
theorem sy_X4_ripple : zY yX4_ripple cX4_ripple 8 (some .int) 2 := ⟨cw_X4_ripple, (wl7_in _ (List.mem_of_getElem? (i := 34) rfl)), ⟨by decide, by decide, by decide +kernel⟩, by decide⟩
theorem si_X4_ripple : Cond.instanceMethod yX4_ripple ∈ wt ∧ Cond.selects yX4_ripple.cls yX4_ripple yX4_ripple ∈ wt := ⟨(wl8_in _ (List.mem_of_getElem? (i := 33) rfl)), (wl8_in _ (List.mem_of_getElem? (i := 34) rfl))⟩
theorem so_X4_ripple : vwCl[4]? = some (yX4_ripple.cls, TX4, 5) := rfl
set_option maxRecDepth 100000 in
theorem cw_X4_rewrites : Cond.code yX4_rewrites cX4_rewrites 7 (some .boolean) ∈ wt := wt_tbl (t1_3 (List.mem_of_getElem? (i := 197) rfl)) rfl
theorem sy_X4_rewrites : zY yX4_rewrites cX4_rewrites 7 (some .boolean) 4 := ⟨cw_X4_rewrites, (wl7_in _ (List.mem_of_getElem? (i := 34) rfl)), ⟨by decide, by decide, by decide +kernel⟩, by decide⟩
theorem si_X4_rewrites : Cond.instanceMethod yX4_rewrites ∈ wt ∧ Cond.selects yX4_rewrites.cls yX4_rewrites yX4_rewrites ∈ wt := ⟨(wl8_in _ (List.mem_of_getElem? (i := 35) rfl)), wt_in (List.mem_append_left _ (List.mem_map.mpr ⟨(yX4_rewrites, 5), wp_in _ (List.mem_of_getElem? (i := 15) rfl), rfl⟩)) rfl⟩
theorem so_X4_rewrites : vwCl[4]? = some (yX4_rewrites.cls, TX4, 5) := rfl
set_option maxRecDepth 100000 in
theorem cw_X4_isUsable : Cond.code yX4_isUsable cX4_isUsable 3 (some .boolean) ∈ wt := wt_tbl (t1_3 (List.mem_of_getElem? (i := 209) rfl)) rfl
theorem sy_X4_isUsable : zY yX4_isUsable cX4_isUsable 3 (some .boolean) 2 := ⟨cw_X4_isUsable, (wl7_in _ (List.mem_of_getElem? (i := 34) rfl)), ⟨by decide, by decide, by decide +kernel⟩, by decide⟩
theorem ss_X4_isUsable : Cond.static yX4_isUsable ∈ wt := (wl8_in _ (List.mem_of_getElem? (i := 36) rfl))
set_option maxRecDepth 100000 in
theorem cw_X5_init : Cond.code yX5_init cX5_init 2 none ∈ wt := wt_tbl (t1_2 (List.mem_of_getElem? (i := 9) rfl)) rfl
theorem sy_X5_init : zY yX5_init cX5_init 2 none 1 := ⟨cw_X5_init, (wl7_in _ (List.mem_of_getElem? (i := 33) rfl)), ⟨by decide, by decide, by decide +kernel⟩, by decide⟩
theorem si_X5_init : Cond.instanceMethod yX5_init ∈ wt := (wl8_in _ (List.mem_of_getElem? (i := 37) rfl))
set_option maxRecDepth 100000 in
theorem cw_X5_matches : Cond.code yX5_matches cX5_matches 9 (some .boolean) ∈ wt := wt_tbl (t1_3 (List.mem_of_getElem? (i := 202) rfl)) rfl
theorem sy_X5_matches : zY yX5_matches cX5_matches 9 (some .boolean) 4 := ⟨cw_X5_matches, (wl7_in _ (List.mem_of_getElem? (i := 33) rfl)), ⟨by decide, by decide, by decide +kernel⟩, by decide⟩
theorem si_X5_matches : Cond.instanceMethod yX5_matches ∈ wt ∧ Cond.selects yX5_matches.cls yX5_matches yX5_matches ∈ wt := ⟨(wl8_in _ (List.mem_of_getElem? (i := 38) rfl)), (wl8_in _ (List.mem_of_getElem? (i := 39) rfl))⟩
theorem so_X5_matches : vwCl[5]? = some (yX5_matches.cls, TX5, 2) := rfl
set_option maxRecDepth 100000 in
theorem cw_X5_firstMatch : Cond.code yX5_firstMatch cX5_firstMatch 5 (some .int) ∈ wt := wt_tbl (t1_4 (List.mem_of_getElem? (i := 94) rfl)) rfl
theorem sy_X5_firstMatch : zY yX5_firstMatch cX5_firstMatch 5 (some .int) 3 := ⟨cw_X5_firstMatch, (wl7_in _ (List.mem_of_getElem? (i := 33) rfl)), ⟨by decide, by decide, by decide +kernel⟩, by decide⟩
theorem si_X5_firstMatch : Cond.instanceMethod yX5_firstMatch ∈ wt ∧ Cond.selects yX5_firstMatch.cls yX5_firstMatch yX5_firstMatch ∈ wt := ⟨(wl8_in _ (List.mem_of_getElem? (i := 40) rfl)), (wl8_in _ (List.mem_of_getElem? (i := 41) rfl))⟩
theorem so_X5_firstMatch : vwCl[5]? = some (yX5_firstMatch.cls, TX5, 2) := rfl
set_option maxRecDepth 100000 in
theorem cw_X5_replace : Cond.code yX5_replace cX5_replace 10 (some .boolean) ∈ wt := wt_tbl (t1_3 (List.mem_of_getElem? (i := 214) rfl)) rfl
theorem sy_X5_replace : zY yX5_replace cX5_replace 10 (some .boolean) 4 := ⟨cw_X5_replace, (wl7_in _ (List.mem_of_getElem? (i := 33) rfl)), ⟨by decide, by decide, by decide +kernel⟩, by decide⟩
theorem si_X5_replace : Cond.instanceMethod yX5_replace ∈ wt ∧ Cond.selects yX5_replace.cls yX5_replace yX5_replace ∈ wt := ⟨(wl8_in _ (List.mem_of_getElem? (i := 42) rfl)), (wl8_in _ (List.mem_of_getElem? (i := 43) rfl))⟩
theorem so_X5_replace : vwCl[5]? = some (yX5_replace.cls, TX5, 2) := rfl
set_option maxRecDepth 100000 in
theorem cw_X6_init : Cond.code yX6_init cX6_init 3 none ∈ wt := wt_tbl (t1_1 (List.mem_of_getElem? (i := 183) rfl)) rfl
theorem sy_X6_init : zY yX6_init cX6_init 3 none 1 := ⟨cw_X6_init, (wl7_in _ (List.mem_of_getElem? (i := 31) rfl)), ⟨by decide, by decide, by decide +kernel⟩, by decide⟩
theorem si_X6_init : Cond.instanceMethod yX6_init ∈ wt := (wl8_in _ (List.mem_of_getElem? (i := 44) rfl))
set_option maxRecDepth 100000 in
theorem cw_X6_rewrite : Cond.code yX6_rewrite cX6_rewrite 8 (some .boolean) ∈ wt := wt_tbl (t1_3 (List.mem_of_getElem? (i := 103) rfl)) rfl
theorem sy_X6_rewrite : zY yX6_rewrite cX6_rewrite 8 (some .boolean) 5 := ⟨cw_X6_rewrite, (wl7_in _ (List.mem_of_getElem? (i := 31) rfl)), ⟨by decide, by decide, by decide +kernel⟩, by decide⟩
theorem si_X6_rewrite : Cond.instanceMethod yX6_rewrite ∈ wt ∧ Cond.selects yX6_rewrite.cls yX6_rewrite yX6_rewrite ∈ wt := ⟨(wl8_in _ (List.mem_of_getElem? (i := 45) rfl)), (wl8_in _ (List.mem_of_getElem? (i := 46) rfl))⟩
theorem so_X6_rewrite : vwCl[6]? = some (yX6_rewrite.cls, TX6, 15) := rfl
set_option maxRecDepth 100000 in
theorem cw_X6_run : Cond.code yX6_run cX6_run 5 (some .boolean) ∈ wt := wt_tbl (t1_3 (List.mem_of_getElem? (i := 111) rfl)) rfl
theorem sy_X6_run : zY yX6_run cX6_run 5 (some .boolean) 1 := ⟨cw_X6_run, (wl7_in _ (List.mem_of_getElem? (i := 31) rfl)), ⟨by decide, by decide, by decide +kernel⟩, by decide⟩
theorem si_X6_run : Cond.instanceMethod yX6_run ∈ wt ∧ Cond.selects yX6_run.cls yX6_run yX6_run ∈ wt := ⟨(wl8_in _ (List.mem_of_getElem? (i := 47) rfl)), wt_in (List.mem_append_left _ (List.mem_map.mpr ⟨(yX6_run, 15), wp_in _ (List.mem_of_getElem? (i := 7) rfl), rfl⟩)) rfl⟩
theorem so_X6_run : vwCl[6]? = some (yX6_run.cls, TX6, 15) := rfl
set_option maxRecDepth 100000 in
theorem cw_X6_take : Cond.code yX6_take cX6_take 2 (some .boolean) ∈ wt := wt_tbl (t1_3 (List.mem_of_getElem? (i := 129) rfl)) rfl
theorem sy_X6_take : zY yX6_take cX6_take 2 (some .boolean) 1 := ⟨cw_X6_take, (wl7_in _ (List.mem_of_getElem? (i := 31) rfl)), ⟨by decide, by decide, by decide +kernel⟩, by decide⟩
theorem si_X6_take : Cond.instanceMethod yX6_take ∈ wt ∧ Cond.selects yX6_take.cls yX6_take yX6_take ∈ wt := ⟨(wl8_in _ (List.mem_of_getElem? (i := 48) rfl)), wt_in (List.mem_append_left _ (List.mem_map.mpr ⟨(yX6_take, 15), wp_in _ (List.mem_of_getElem? (i := 11) rfl), rfl⟩)) rfl⟩
theorem so_X6_take : vwCl[6]? = some (yX6_take.cls, TX6, 15) := rfl
set_option maxRecDepth 100000 in
theorem cw_X6_apply : Cond.code yX6_apply cX6_apply 7 (some .boolean) ∈ wt := wt_tbl (t1_3 (List.mem_of_getElem? (i := 116) rfl)) rfl
theorem sy_X6_apply : zY yX6_apply cX6_apply 7 (some .boolean) 1 := ⟨cw_X6_apply, (wl7_in _ (List.mem_of_getElem? (i := 31) rfl)), ⟨by decide, by decide, by decide +kernel⟩, by decide⟩
theorem si_X6_apply : Cond.instanceMethod yX6_apply ∈ wt ∧ Cond.selects yX6_apply.cls yX6_apply yX6_apply ∈ wt := ⟨(wl8_in _ (List.mem_of_getElem? (i := 49) rfl)), wt_in (List.mem_append_left _ (List.mem_map.mpr ⟨(yX6_apply, 15), wp_in _ (List.mem_of_getElem? (i := 8) rfl), rfl⟩)) rfl⟩
theorem so_X6_apply : vwCl[6]? = some (yX6_apply.cls, TX6, 15) := rfl
set_option maxRecDepth 100000 in
theorem cw_X6_bodyFor : Cond.code yX6_bodyFor cX6_bodyFor 4 (some .int) ∈ wt := wt_tbl (t1_3 (List.mem_of_getElem? (i := 120) rfl)) rfl
theorem sy_X6_bodyFor : zY yX6_bodyFor cX6_bodyFor 4 (some .int) 2 := ⟨cw_X6_bodyFor, (wl7_in _ (List.mem_of_getElem? (i := 31) rfl)), ⟨by decide, by decide, by decide +kernel⟩, by decide⟩
theorem si_X6_bodyFor : Cond.instanceMethod yX6_bodyFor ∈ wt ∧ Cond.selects yX6_bodyFor.cls yX6_bodyFor yX6_bodyFor ∈ wt := ⟨(wl8_in _ (List.mem_of_getElem? (i := 50) rfl)), wt_in (List.mem_append_left _ (List.mem_map.mpr ⟨(yX6_bodyFor, 15), wp_in _ (List.mem_of_getElem? (i := 9) rfl), rfl⟩)) rfl⟩
theorem so_X6_bodyFor : vwCl[6]? = some (yX6_bodyFor.cls, TX6, 15) := rfl
set_option maxRecDepth 100000 in
theorem cw_X6_make : Cond.code yX6_make cX6_make 5 (some .int) ∈ wt := wt_tbl (t1_3 (List.mem_of_getElem? (i := 107) rfl)) rfl
theorem sy_X6_make : zY yX6_make cX6_make 5 (some .int) 3 := ⟨cw_X6_make, (wl7_in _ (List.mem_of_getElem? (i := 31) rfl)), ⟨by decide, by decide, by decide +kernel⟩, by decide⟩
theorem si_X6_make : Cond.instanceMethod yX6_make ∈ wt ∧ Cond.selects yX6_make.cls yX6_make yX6_make ∈ wt := ⟨(wl8_in _ (List.mem_of_getElem? (i := 51) rfl)), wt_in (List.mem_append_left _ (List.mem_map.mpr ⟨(yX6_make, 15), wp_in _ (List.mem_of_getElem? (i := 6) rfl), rfl⟩)) rfl⟩
theorem so_X6_make : vwCl[6]? = some (yX6_make.cls, TX6, 15) := rfl
set_option maxRecDepth 100000 in
theorem cw_X6_push : Cond.code yX6_push cX6_push 2 (some .boolean) ∈ wt := wt_tbl (t1_3 (List.mem_of_getElem? (i := 124) rfl)) rfl
theorem sy_X6_push : zY yX6_push cX6_push 2 (some .boolean) 1 := ⟨cw_X6_push, (wl7_in _ (List.mem_of_getElem? (i := 31) rfl)), ⟨by decide, by decide, by decide +kernel⟩, by decide⟩
theorem si_X6_push : Cond.instanceMethod yX6_push ∈ wt ∧ Cond.selects yX6_push.cls yX6_push yX6_push ∈ wt := ⟨(wl8_in _ (List.mem_of_getElem? (i := 52) rfl)), wt_in (List.mem_append_left _ (List.mem_map.mpr ⟨(yX6_push, 15), wp_in _ (List.mem_of_getElem? (i := 10) rfl), rfl⟩)) rfl⟩
theorem so_X6_push : vwCl[6]? = some (yX6_push.cls, TX6, 15) := rfl
set_option maxRecDepth 100000 in
theorem cw_X6_write : Cond.code yX6_write cX6_write 5 none ∈ wt := wt_tbl (t1_3 (List.mem_of_getElem? (i := 133) rfl)) rfl
theorem sy_X6_write : zY yX6_write cX6_write 5 none 1 := ⟨cw_X6_write, (wl7_in _ (List.mem_of_getElem? (i := 31) rfl)), ⟨by decide, by decide, by decide +kernel⟩, by decide⟩
theorem si_X6_write : Cond.instanceMethod yX6_write ∈ wt ∧ Cond.selects yX6_write.cls yX6_write yX6_write ∈ wt := ⟨(wl8_in _ (List.mem_of_getElem? (i := 53) rfl)), wt_in (List.mem_append_left _ (List.mem_map.mpr ⟨(yX6_write, 15), wp_in _ (List.mem_of_getElem? (i := 12) rfl), rfl⟩)) rfl⟩
theorem so_X6_write : vwCl[6]? = some (yX6_write.cls, TX6, 15) := rfl
set_option maxRecDepth 100000 in
theorem cw_X7_init : Cond.code yX7_init cX7_init 1 none ∈ wt := wt_tbl (t1_2 (List.mem_of_getElem? (i := 70) rfl)) rfl
theorem sy_X7_init : zY yX7_init cX7_init 1 none 0 := ⟨cw_X7_init, (wl7_in _ (List.mem_of_getElem? (i := 36) rfl)), ⟨by decide, by decide, by decide +kernel⟩, by decide⟩
theorem si_X7_init : Cond.instanceMethod yX7_init ∈ wt := (wl8_in _ (List.mem_of_getElem? (i := 54) rfl))
set_option maxRecDepth 100000 in
theorem cw_X7_empty : Cond.code yX7_empty cX7_empty 1 none ∈ wt := wt_tbl (t1_3 (List.mem_of_getElem? (i := 42) rfl)) rfl
theorem sy_X7_empty : zY yX7_empty cX7_empty 1 none 0 := ⟨cw_X7_empty, (wl7_in _ (List.mem_of_getElem? (i := 36) rfl)), ⟨by decide, by decide, by decide +kernel⟩, by decide⟩
theorem si_X7_empty : Cond.instanceMethod yX7_empty ∈ wt ∧ Cond.selects yX7_empty.cls yX7_empty yX7_empty ∈ wt := ⟨(wl8_in _ (List.mem_of_getElem? (i := 55) rfl)), (wl8_in _ (List.mem_of_getElem? (i := 56) rfl))⟩
theorem so_X7_empty : vwCl[7]? = some (yX7_empty.cls, TX7, 5) := rfl
set_option maxRecDepth 100000 in
theorem cw_X7_write : Cond.code yX7_write cX7_write 3 none ∈ wt := wt_tbl (t1_4 (List.mem_of_getElem? (i := 37) rfl)) rfl
theorem sy_X7_write : zY yX7_write cX7_write 3 none 2 := ⟨cw_X7_write, (wl7_in _ (List.mem_of_getElem? (i := 36) rfl)), ⟨by decide, by decide, by decide +kernel⟩, by decide⟩
theorem si_X7_write : Cond.instanceMethod yX7_write ∈ wt ∧ Cond.selects yX7_write.cls yX7_write yX7_write ∈ wt := ⟨(wl8_in _ (List.mem_of_getElem? (i := 57) rfl)), (wl8_in _ (List.mem_of_getElem? (i := 58) rfl))⟩
theorem so_X7_write : vwCl[7]? = some (yX7_write.cls, TX7, 5) := rfl
set_option maxRecDepth 100000 in
theorem cw_X7_blame : Cond.code yX7_blame cX7_blame 3 none ∈ wt := wt_tbl (t1_4 (List.mem_of_getElem? (i := 46) rfl)) rfl
theorem sy_X7_blame : zY yX7_blame cX7_blame 3 none 2 := ⟨cw_X7_blame, (wl7_in _ (List.mem_of_getElem? (i := 36) rfl)), ⟨by decide, by decide, by decide +kernel⟩, by decide⟩
theorem si_X7_blame : Cond.instanceMethod yX7_blame ∈ wt ∧ Cond.selects yX7_blame.cls yX7_blame yX7_blame ∈ wt := ⟨(wl8_in _ (List.mem_of_getElem? (i := 59) rfl)), (wl9_in _ (List.mem_of_getElem? (i := 0) rfl))⟩
theorem so_X7_blame : vwCl[7]? = some (yX7_blame.cls, TX7, 5) := rfl
set_option maxRecDepth 100000 in
theorem cw_X8_init : Cond.code yX8_init cX8_init 8 none ∈ wt := wt_tbl (t1_2 (List.mem_of_getElem? (i := 97) rfl)) rfl
theorem sy_X8_init : zY yX8_init cX8_init 8 none 6 := ⟨cw_X8_init, (wl7_in _ (List.mem_of_getElem? (i := 37) rfl)), ⟨by decide, by decide, by decide +kernel⟩, by decide⟩
theorem si_X8_init : Cond.instanceMethod yX8_init ∈ wt := (wl9_in _ (List.mem_of_getElem? (i := 1) rfl))
set_option maxRecDepth 100000 in
theorem cw_X8_attempt : Cond.code yX8_attempt cX8_attempt 7 (some .int) ∈ wt := wt_tbl (t1_4 (List.mem_of_getElem? (i := 33) rfl)) rfl
theorem sy_X8_attempt : zY yX8_attempt cX8_attempt 7 (some .int) 1 := ⟨cw_X8_attempt, (wl7_in _ (List.mem_of_getElem? (i := 37) rfl)), ⟨by decide, by decide, by decide +kernel⟩, by decide⟩
theorem si_X8_attempt : Cond.instanceMethod yX8_attempt ∈ wt ∧ Cond.selects yX8_attempt.cls yX8_attempt yX8_attempt ∈ wt := ⟨(wl9_in _ (List.mem_of_getElem? (i := 2) rfl)), wt_in (List.mem_append_left _ (List.mem_map.mpr ⟨(yX8_attempt, 10), wp_in _ (List.mem_of_getElem? (i := 17) rfl), rfl⟩)) rfl⟩
theorem so_X8_attempt : vwCl[8]? = some (yX8_attempt.cls, TX8, 10) := rfl
set_option maxRecDepth 100000 in
theorem cw_X8_proveCase : Cond.code yX8_proveCase cX8_proveCase 8 (some .int) ∈ wt := wt_tbl (t1_4 (List.mem_of_getElem? (i := 80) rfl)) rfl
theorem sy_X8_proveCase : zY yX8_proveCase cX8_proveCase 8 (some .int) 4 := ⟨cw_X8_proveCase, (wl7_in _ (List.mem_of_getElem? (i := 37) rfl)), ⟨by decide, by decide, by decide +kernel⟩, by decide⟩
theorem si_X8_proveCase : Cond.instanceMethod yX8_proveCase ∈ wt ∧ Cond.selects yX8_proveCase.cls yX8_proveCase yX8_proveCase ∈ wt := ⟨(wl9_in _ (List.mem_of_getElem? (i := 3) rfl)), wt_in (List.mem_append_left _ (List.mem_map.mpr ⟨(yX8_proveCase, 10), wp_in _ (List.mem_of_getElem? (i := 21) rfl), rfl⟩)) rfl⟩
theorem so_X8_proveCase : vwCl[8]? = some (yX8_proveCase.cls, TX8, 10) := rfl
set_option maxRecDepth 100000 in
theorem cw_X8_normalize : Cond.code yX8_normalize cX8_normalize 6 (some .boolean) ∈ wt := wt_tbl (t1_4 (List.mem_of_getElem? (i := 51) rfl)) rfl
theorem sy_X8_normalize : zY yX8_normalize cX8_normalize 6 (some .boolean) 5 := ⟨cw_X8_normalize, (wl7_in _ (List.mem_of_getElem? (i := 37) rfl)), ⟨by decide, by decide, by decide +kernel⟩, by decide⟩
theorem si_X8_normalize : Cond.instanceMethod yX8_normalize ∈ wt ∧ Cond.selects yX8_normalize.cls yX8_normalize yX8_normalize ∈ wt := ⟨(wl9_in _ (List.mem_of_getElem? (i := 4) rfl)), wt_in (List.mem_append_left _ (List.mem_map.mpr ⟨(yX8_normalize, 10), wp_in _ (List.mem_of_getElem? (i := 19) rfl), rfl⟩)) rfl⟩
theorem so_X8_normalize : vwCl[8]? = some (yX8_normalize.cls, TX8, 10) := rfl
set_option maxRecDepth 100000 in
theorem cw_X8_ripple : Cond.code yX8_ripple cX8_ripple 6 none ∈ wt := wt_tbl (t1_4 (List.mem_of_getElem? (i := 84) rfl)) rfl
theorem sy_X8_ripple : zY yX8_ripple cX8_ripple 6 none 3 := ⟨cw_X8_ripple, (wl7_in _ (List.mem_of_getElem? (i := 37) rfl)), ⟨by decide, by decide, by decide +kernel⟩, by decide⟩
theorem si_X8_ripple : Cond.instanceMethod yX8_ripple ∈ wt ∧ Cond.selects yX8_ripple.cls yX8_ripple yX8_ripple ∈ wt := ⟨(wl9_in _ (List.mem_of_getElem? (i := 5) rfl)), wt_in (List.mem_append_left _ (List.mem_map.mpr ⟨(yX8_ripple, 10), wp_in _ (List.mem_of_getElem? (i := 22) rfl), rfl⟩)) rfl⟩
theorem so_X8_ripple : vwCl[8]? = some (yX8_ripple.cls, TX8, 10) := rfl
set_option maxRecDepth 100000 in
theorem cw_X8_useClaim : Cond.code yX8_useClaim cX8_useClaim 7 (some .boolean) ∈ wt := wt_tbl (t1_4 (List.mem_of_getElem? (i := 89) rfl)) rfl
theorem sy_X8_useClaim : zY yX8_useClaim cX8_useClaim 7 (some .boolean) 3 := ⟨cw_X8_useClaim, (wl7_in _ (List.mem_of_getElem? (i := 37) rfl)), ⟨by decide, by decide, by decide +kernel⟩, by decide⟩
theorem si_X8_useClaim : Cond.instanceMethod yX8_useClaim ∈ wt ∧ Cond.selects yX8_useClaim.cls yX8_useClaim yX8_useClaim ∈ wt := ⟨(wl9_in _ (List.mem_of_getElem? (i := 6) rfl)), wt_in (List.mem_append_left _ (List.mem_map.mpr ⟨(yX8_useClaim, 10), wp_in _ (List.mem_of_getElem? (i := 23) rfl), rfl⟩)) rfl⟩
theorem so_X8_useClaim : vwCl[8]? = some (yX8_useClaim.cls, TX8, 10) := rfl
set_option maxRecDepth 100000 in
theorem cw_X8_guess : Cond.code yX8_guess cX8_guess 4 (some .int) ∈ wt := wt_tbl (t1_4 (List.mem_of_getElem? (i := 101) rfl)) rfl
theorem sy_X8_guess : zY yX8_guess cX8_guess 4 (some .int) 2 := ⟨cw_X8_guess, (wl7_in _ (List.mem_of_getElem? (i := 37) rfl)), ⟨by decide, by decide, by decide +kernel⟩, by decide⟩
theorem si_X8_guess : Cond.instanceMethod yX8_guess ∈ wt ∧ Cond.selects yX8_guess.cls yX8_guess yX8_guess ∈ wt := ⟨(wl9_in _ (List.mem_of_getElem? (i := 7) rfl)), wt_in (List.mem_append_left _ (List.mem_map.mpr ⟨(yX8_guess, 10), wp_in _ (List.mem_of_getElem? (i := 24) rfl), rfl⟩)) rfl⟩
theorem so_X8_guess : vwCl[8]? = some (yX8_guess.cls, TX8, 10) := rfl
set_option maxRecDepth 100000 in
theorem cw_X8_fail : Cond.code yX8_fail cX8_fail 3 (some .int) ∈ wt := wt_tbl (t1_4 (List.mem_of_getElem? (i := 42) rfl)) rfl
theorem sy_X8_fail : zY yX8_fail cX8_fail 3 (some .int) 2 := ⟨cw_X8_fail, (wl7_in _ (List.mem_of_getElem? (i := 37) rfl)), ⟨by decide, by decide, by decide +kernel⟩, by decide⟩
theorem si_X8_fail : Cond.instanceMethod yX8_fail ∈ wt ∧ Cond.selects yX8_fail.cls yX8_fail yX8_fail ∈ wt := ⟨(wl9_in _ (List.mem_of_getElem? (i := 8) rfl)), wt_in (List.mem_append_left _ (List.mem_map.mpr ⟨(yX8_fail, 10), wp_in _ (List.mem_of_getElem? (i := 18) rfl), rfl⟩)) rfl⟩
theorem so_X8_fail : vwCl[8]? = some (yX8_fail.cls, TX8, 10) := rfl
set_option maxRecDepth 100000 in
theorem cw_X8_succeed : Cond.code yX8_succeed cX8_succeed 2 (some .int) ∈ wt := wt_tbl (t1_4 (List.mem_of_getElem? (i := 64) rfl)) rfl
theorem sy_X8_succeed : zY yX8_succeed cX8_succeed 2 (some .int) 1 := ⟨cw_X8_succeed, (wl7_in _ (List.mem_of_getElem? (i := 37) rfl)), ⟨by decide, by decide, by decide +kernel⟩, by decide⟩
theorem si_X8_succeed : Cond.instanceMethod yX8_succeed ∈ wt ∧ Cond.selects yX8_succeed.cls yX8_succeed yX8_succeed ∈ wt := ⟨(wl9_in _ (List.mem_of_getElem? (i := 9) rfl)), wt_in (List.mem_append_left _ (List.mem_map.mpr ⟨(yX8_succeed, 10), wp_in _ (List.mem_of_getElem? (i := 20) rfl), rfl⟩)) rfl⟩
theorem so_X8_succeed : vwCl[8]? = some (yX8_succeed.cls, TX8, 10) := rfl
set_option maxRecDepth 100000 in
theorem cw_X9_init : Cond.code yX9_init cX9_init 3 none ∈ wt := wt_tbl (t1_1 (List.mem_of_getElem? (i := 101) rfl)) rfl
theorem sy_X9_init : zY yX9_init cX9_init 3 none 1 := ⟨cw_X9_init, (wl7_in _ (List.mem_of_getElem? (i := 29) rfl)), ⟨by decide, by decide, by decide +kernel⟩, by decide⟩
theorem si_X9_init : Cond.instanceMethod yX9_init ∈ wt := (wl9_in _ (List.mem_of_getElem? (i := 10) rfl))
set_option maxRecDepth 100000 in
theorem cw_X9_put : Cond.code yX9_put cX9_put 2 none ∈ wt := wt_tbl (t1_2 (List.mem_of_getElem? (i := 186) rfl)) rfl
theorem sy_X9_put : zY yX9_put cX9_put 2 none 1 := ⟨cw_X9_put, (wl7_in _ (List.mem_of_getElem? (i := 29) rfl)), ⟨by decide, by decide, by decide +kernel⟩, by decide⟩
theorem si_X9_put : Cond.instanceMethod yX9_put ∈ wt ∧ Cond.selects yX9_put.cls yX9_put yX9_put ∈ wt := ⟨(wl9_in _ (List.mem_of_getElem? (i := 11) rfl)), (wl9_in _ (List.mem_of_getElem? (i := 12) rfl))⟩
theorem so_X9_put : vwCl[9]? = some (yX9_put.cls, TX9, 10) := rfl
set_option maxRecDepth 100000 in
theorem cw_X9_readFunction : Cond.code yX9_readFunction cX9_readFunction 4 (some .boolean) ∈ wt := wt_tbl (t1_2 (List.mem_of_getElem? (i := 198) rfl)) rfl
theorem sy_X9_readFunction : zY yX9_readFunction cX9_readFunction 4 (some .boolean) 2 := ⟨cw_X9_readFunction, (wl7_in _ (List.mem_of_getElem? (i := 29) rfl)), ⟨by decide, by decide, by decide +kernel⟩, by decide⟩
theorem si_X9_readFunction : Cond.instanceMethod yX9_readFunction ∈ wt ∧ Cond.selects yX9_readFunction.cls yX9_readFunction yX9_readFunction ∈ wt := ⟨(wl9_in _ (List.mem_of_getElem? (i := 13) rfl)), (wl9_in _ (List.mem_of_getElem? (i := 14) rfl))⟩
theorem so_X9_readFunction : vwCl[9]? = some (yX9_readFunction.cls, TX9, 10) := rfl
set_option maxRecDepth 100000 in
theorem cw_X9_readClaim : Cond.code yX9_readClaim cX9_readClaim 2 (some .boolean) ∈ wt := wt_tbl (t1_3 (List.mem_of_getElem? (i := 17) rfl)) rfl
theorem sy_X9_readClaim : zY yX9_readClaim cX9_readClaim 2 (some .boolean) 0 := ⟨cw_X9_readClaim, (wl7_in _ (List.mem_of_getElem? (i := 29) rfl)), ⟨by decide, by decide, by decide +kernel⟩, by decide⟩
theorem si_X9_readClaim : Cond.instanceMethod yX9_readClaim ∈ wt ∧ Cond.selects yX9_readClaim.cls yX9_readClaim yX9_readClaim ∈ wt := ⟨(wl9_in _ (List.mem_of_getElem? (i := 15) rfl)), (wl9_in _ (List.mem_of_getElem? (i := 16) rfl))⟩
theorem so_X9_readClaim : vwCl[9]? = some (yX9_readClaim.cls, TX9, 10) := rfl
set_option maxRecDepth 100000 in
theorem cw_X9_pass : Cond.code yX9_pass cX9_pass 2 (some .boolean) ∈ wt := wt_tbl (t1_2 (List.mem_of_getElem? (i := 202) rfl)) rfl
theorem sy_X9_pass : zY yX9_pass cX9_pass 2 (some .boolean) 1 := ⟨cw_X9_pass, (wl7_in _ (List.mem_of_getElem? (i := 29) rfl)), ⟨by decide, by decide, by decide +kernel⟩, by decide⟩
theorem si_X9_pass : Cond.instanceMethod yX9_pass ∈ wt ∧ Cond.selects yX9_pass.cls yX9_pass yX9_pass ∈ wt := ⟨(wl9_in _ (List.mem_of_getElem? (i := 17) rfl)), wt_in (List.mem_append_left _ (List.mem_map.mpr ⟨(yX9_pass, 10), wp_in _ (List.mem_of_getElem? (i := 0) rfl), rfl⟩)) rfl⟩
theorem so_X9_pass : vwCl[9]? = some (yX9_pass.cls, TX9, 10) := rfl
set_option maxRecDepth 100000 in
theorem cw_X9_readTerm : Cond.code yX9_readTerm cX9_readTerm 8 (some .boolean) ∈ wt := wt_tbl (t1_2 (List.mem_of_getElem? (i := 206) rfl)) rfl
theorem sy_X9_readTerm : zY yX9_readTerm cX9_readTerm 8 (some .boolean) 2 := ⟨cw_X9_readTerm, (wl7_in _ (List.mem_of_getElem? (i := 29) rfl)), ⟨by decide, by decide, by decide +kernel⟩, by decide⟩
theorem si_X9_readTerm : Cond.instanceMethod yX9_readTerm ∈ wt ∧ Cond.selects yX9_readTerm.cls yX9_readTerm yX9_readTerm ∈ wt := ⟨(wl9_in _ (List.mem_of_getElem? (i := 18) rfl)), wt_in (List.mem_append_left _ (List.mem_map.mpr ⟨(yX9_readTerm, 10), wp_in _ (List.mem_of_getElem? (i := 1) rfl), rfl⟩)) rfl⟩
theorem so_X9_readTerm : vwCl[9]? = some (yX9_readTerm.cls, TX9, 10) := rfl
set_option maxRecDepth 100000 in
theorem cw_X9_isOwn : Cond.code yX9_isOwn cX9_isOwn 2 (some .boolean) ∈ wt := wt_tbl (t1_2 (List.mem_of_getElem? (i := 218) rfl)) rfl
theorem sy_X9_isOwn : zY yX9_isOwn cX9_isOwn 2 (some .boolean) 1 := ⟨cw_X9_isOwn, (wl7_in _ (List.mem_of_getElem? (i := 29) rfl)), ⟨by decide, by decide, by decide +kernel⟩, by decide⟩
theorem si_X9_isOwn : Cond.instanceMethod yX9_isOwn ∈ wt ∧ Cond.selects yX9_isOwn.cls yX9_isOwn yX9_isOwn ∈ wt := ⟨(wl9_in _ (List.mem_of_getElem? (i := 19) rfl)), wt_in (List.mem_append_left _ (List.mem_map.mpr ⟨(yX9_isOwn, 10), wp_in _ (List.mem_of_getElem? (i := 3) rfl), rfl⟩)) rfl⟩
theorem so_X9_isOwn : vwCl[9]? = some (yX9_isOwn.cls, TX9, 10) := rfl
set_option maxRecDepth 100000 in
theorem cw_X9_argumentsOf : Cond.code yX9_argumentsOf cX9_argumentsOf 3 (some .int) ∈ wt := wt_tbl (t1_2 (List.mem_of_getElem? (i := 214) rfl)) rfl
theorem sy_X9_argumentsOf : zY yX9_argumentsOf cX9_argumentsOf 3 (some .int) 1 := ⟨cw_X9_argumentsOf, (wl7_in _ (List.mem_of_getElem? (i := 29) rfl)), ⟨by decide, by decide, by decide +kernel⟩, by decide⟩
theorem si_X9_argumentsOf : Cond.instanceMethod yX9_argumentsOf ∈ wt ∧ Cond.selects yX9_argumentsOf.cls yX9_argumentsOf yX9_argumentsOf ∈ wt := ⟨(wl9_in _ (List.mem_of_getElem? (i := 20) rfl)), wt_in (List.mem_append_left _ (List.mem_map.mpr ⟨(yX9_argumentsOf, 10), wp_in _ (List.mem_of_getElem? (i := 2) rfl), rfl⟩)) rfl⟩
theorem so_X9_argumentsOf : vwCl[9]? = some (yX9_argumentsOf.cls, TX9, 10) := rfl
set_option maxRecDepth 100000 in
theorem cw_X10_init : Cond.code yX10_init cX10_init 1 none ∈ wt := wt_tbl (t1_1 (List.mem_of_getElem? (i := 35) rfl)) rfl
theorem sy_X10_init : zY yX10_init cX10_init 1 none 0 := ⟨cw_X10_init, (wl7_in _ (List.mem_of_getElem? (i := 28) rfl)), ⟨by decide, by decide, by decide +kernel⟩, by decide⟩
theorem si_X10_init : Cond.instanceMethod yX10_init ∈ wt := (wl9_in _ (List.mem_of_getElem? (i := 21) rfl))
set_option maxRecDepth 100000 in
theorem cw_X10_empty : Cond.code yX10_empty cX10_empty 1 none ∈ wt := wt_tbl (t1_2 (List.mem_of_getElem? (i := 210) rfl)) rfl
theorem sy_X10_empty : zY yX10_empty cX10_empty 1 none 0 := ⟨cw_X10_empty, (wl7_in _ (List.mem_of_getElem? (i := 28) rfl)), ⟨by decide, by decide, by decide +kernel⟩, by decide⟩
theorem si_X10_empty : Cond.instanceMethod yX10_empty ∈ wt ∧ Cond.selects yX10_empty.cls yX10_empty yX10_empty ∈ wt := ⟨(wl9_in _ (List.mem_of_getElem? (i := 22) rfl)), (wl9_in _ (List.mem_of_getElem? (i := 23) rfl))⟩
theorem so_X10_empty : vwCl[10]? = some (yX10_empty.cls, TX10, 3) := rfl
set_option maxRecDepth 100000 in
theorem cw_X10_add : Cond.code yX10_add cX10_add 2 (some .boolean) ∈ wt := wt_tbl (t1_2 (List.mem_of_getElem? (i := 222) rfl)) rfl
theorem sy_X10_add : zY yX10_add cX10_add 2 (some .boolean) 1 := ⟨cw_X10_add, (wl7_in _ (List.mem_of_getElem? (i := 28) rfl)), ⟨by decide, by decide, by decide +kernel⟩, by decide⟩
theorem si_X10_add : Cond.instanceMethod yX10_add ∈ wt ∧ Cond.selects yX10_add.cls yX10_add yX10_add ∈ wt := ⟨(wl9_in _ (List.mem_of_getElem? (i := 24) rfl)), (wl9_in _ (List.mem_of_getElem? (i := 25) rfl))⟩
theorem so_X10_add : vwCl[10]? = some (yX10_add.cls, TX10, 3) := rfl
set_option maxRecDepth 100000 in
theorem cw_X10_addRange : Cond.code yX10_addRange cX10_addRange 5 (some .boolean) ∈ wt := wt_tbl (t1_3 (List.mem_of_getElem? (i := 219) rfl)) rfl
theorem sy_X10_addRange : zY yX10_addRange cX10_addRange 5 (some .boolean) 3 := ⟨cw_X10_addRange, (wl7_in _ (List.mem_of_getElem? (i := 28) rfl)), ⟨by decide, by decide, by decide +kernel⟩, by decide⟩
theorem si_X10_addRange : Cond.instanceMethod yX10_addRange ∈ wt ∧ Cond.selects yX10_addRange.cls yX10_addRange yX10_addRange ∈ wt := ⟨(wl9_in _ (List.mem_of_getElem? (i := 26) rfl)), (wl9_in _ (List.mem_of_getElem? (i := 27) rfl))⟩
theorem so_X10_addRange : vwCl[10]? = some (yX10_addRange.cls, TX10, 3) := rfl
set_option maxRecDepth 100000 in
theorem cw_X10_close : Cond.code yX10_close cX10_close 7 none ∈ wt := wt_tbl (t1_3 (List.mem_of_getElem? (i := 21) rfl)) rfl
theorem sy_X10_close : zY yX10_close cX10_close 7 none 1 := ⟨cw_X10_close, (wl7_in _ (List.mem_of_getElem? (i := 28) rfl)), ⟨by decide, by decide, by decide +kernel⟩, by decide⟩
theorem si_X10_close : Cond.instanceMethod yX10_close ∈ wt ∧ Cond.selects yX10_close.cls yX10_close yX10_close ∈ wt := ⟨(wl9_in _ (List.mem_of_getElem? (i := 28) rfl)), (wl9_in _ (List.mem_of_getElem? (i := 29) rfl))⟩
theorem so_X10_close : vwCl[10]? = some (yX10_close.cls, TX10, 3) := rfl
set_option maxRecDepth 100000 in
theorem cw_X10_copy : Cond.code yX10_copy cX10_copy 2 none ∈ wt := wt_tbl (t1_2 (List.mem_of_getElem? (i := 230) rfl)) rfl
theorem sy_X10_copy : zY yX10_copy cX10_copy 2 none 1 := ⟨cw_X10_copy, (wl7_in _ (List.mem_of_getElem? (i := 28) rfl)), ⟨by decide, by decide, by decide +kernel⟩, by decide⟩
theorem si_X10_copy : Cond.instanceMethod yX10_copy ∈ wt ∧ Cond.selects yX10_copy.cls yX10_copy yX10_copy ∈ wt := ⟨(wl9_in _ (List.mem_of_getElem? (i := 30) rfl)), (wl9_in _ (List.mem_of_getElem? (i := 31) rfl))⟩
theorem so_X10_copy : vwCl[10]? = some (yX10_copy.cls, TX10, 3) := rfl
set_option maxRecDepth 100000 in
theorem cw_X10_symbolOrSize : Cond.code yX10_symbolOrSize cX10_symbolOrSize 2 (some .int) ∈ wt := wt_tbl (t1_3 (List.mem_of_getElem? (i := 9) rfl)) rfl
theorem sy_X10_symbolOrSize : zY yX10_symbolOrSize cX10_symbolOrSize 2 (some .int) 1 := ⟨cw_X10_symbolOrSize, (wl7_in _ (List.mem_of_getElem? (i := 28) rfl)), ⟨by decide, by decide, by decide +kernel⟩, by decide⟩
theorem si_X10_symbolOrSize : Cond.instanceMethod yX10_symbolOrSize ∈ wt ∧ Cond.selects yX10_symbolOrSize.cls yX10_symbolOrSize yX10_symbolOrSize ∈ wt := ⟨(wl9_in _ (List.mem_of_getElem? (i := 32) rfl)), (wl9_in _ (List.mem_of_getElem? (i := 33) rfl))⟩
theorem so_X10_symbolOrSize : vwCl[10]? = some (yX10_symbolOrSize.cls, TX10, 3) := rfl
set_option maxRecDepth 100000 in
theorem cw_X10_isSame : Cond.code yX10_isSame cX10_isSame 2 (some .boolean) ∈ wt := wt_tbl (t1_4 (List.mem_of_getElem? (i := 60) rfl)) rfl
theorem sy_X10_isSame : zY yX10_isSame cX10_isSame 2 (some .boolean) 1 := ⟨cw_X10_isSame, (wl7_in _ (List.mem_of_getElem? (i := 28) rfl)), ⟨by decide, by decide, by decide +kernel⟩, by decide⟩
theorem si_X10_isSame : Cond.instanceMethod yX10_isSame ∈ wt ∧ Cond.selects yX10_isSame.cls yX10_isSame yX10_isSame ∈ wt := ⟨(wl9_in _ (List.mem_of_getElem? (i := 34) rfl)), (wl9_in _ (List.mem_of_getElem? (i := 35) rfl))⟩
theorem so_X10_isSame : vwCl[10]? = some (yX10_isSame.cls, TX10, 3) := rfl
set_option maxRecDepth 100000 in
theorem cw_X10_isSameAt : Cond.code yX10_isSameAt cX10_isSameAt 6 (some .boolean) ∈ wt := wt_tbl (t1_3 (List.mem_of_getElem? (i := 206) rfl)) rfl
theorem sy_X10_isSameAt : zY yX10_isSameAt cX10_isSameAt 6 (some .boolean) 3 := ⟨cw_X10_isSameAt, (wl7_in _ (List.mem_of_getElem? (i := 28) rfl)), ⟨by decide, by decide, by decide +kernel⟩, by decide⟩
theorem si_X10_isSameAt : Cond.instanceMethod yX10_isSameAt ∈ wt ∧ Cond.selects yX10_isSameAt.cls yX10_isSameAt yX10_isSameAt ∈ wt := ⟨(wl9_in _ (List.mem_of_getElem? (i := 36) rfl)), (wl9_in _ (List.mem_of_getElem? (i := 37) rfl))⟩
theorem so_X10_isSameAt : vwCl[10]? = some (yX10_isSameAt.cls, TX10, 3) := rfl
set_option maxRecDepth 100000 in
theorem cw_X10_has : Cond.code yX10_has cX10_has 3 (some .boolean) ∈ wt := wt_tbl (t1_3 (List.mem_of_getElem? (i := 91) rfl)) rfl
theorem sy_X10_has : zY yX10_has cX10_has 3 (some .boolean) 1 := ⟨cw_X10_has, (wl7_in _ (List.mem_of_getElem? (i := 28) rfl)), ⟨by decide, by decide, by decide +kernel⟩, by decide⟩
theorem si_X10_has : Cond.instanceMethod yX10_has ∈ wt ∧ Cond.selects yX10_has.cls yX10_has yX10_has ∈ wt := ⟨(wl9_in _ (List.mem_of_getElem? (i := 38) rfl)), (wl9_in _ (List.mem_of_getElem? (i := 39) rfl))⟩
theorem so_X10_has : vwCl[10]? = some (yX10_has.cls, TX10, 3) := rfl
set_option maxRecDepth 100000 in
theorem cw_X10_hasSubterm : Cond.code yX10_hasSubterm cX10_hasSubterm 4 (some .boolean) ∈ wt := wt_tbl (t1_3 (List.mem_of_getElem? (i := 235) rfl)) rfl
theorem sy_X10_hasSubterm : zY yX10_hasSubterm cX10_hasSubterm 4 (some .boolean) 2 := ⟨cw_X10_hasSubterm, (wl7_in _ (List.mem_of_getElem? (i := 28) rfl)), ⟨by decide, by decide, by decide +kernel⟩, by decide⟩
theorem si_X10_hasSubterm : Cond.instanceMethod yX10_hasSubterm ∈ wt ∧ Cond.selects yX10_hasSubterm.cls yX10_hasSubterm yX10_hasSubterm ∈ wt := ⟨(wl9_in _ (List.mem_of_getElem? (i := 40) rfl)), (wl9_in _ (List.mem_of_getElem? (i := 41) rfl))⟩
theorem so_X10_hasSubterm : vwCl[10]? = some (yX10_hasSubterm.cls, TX10, 3) := rfl
set_option maxRecDepth 100000 in
theorem cw_X10_isCall : Cond.code yX10_isCall cX10_isCall 3 (some .boolean) ∈ wt := wt_tbl (t1_3 (List.mem_of_getElem? (i := 152) rfl)) rfl
theorem sy_X10_isCall : zY yX10_isCall cX10_isCall 3 (some .boolean) 2 := ⟨cw_X10_isCall, (wl7_in _ (List.mem_of_getElem? (i := 28) rfl)), ⟨by decide, by decide, by decide +kernel⟩, by decide⟩
theorem si_X10_isCall : Cond.instanceMethod yX10_isCall ∈ wt ∧ Cond.selects yX10_isCall.cls yX10_isCall yX10_isCall ∈ wt := ⟨(wl9_in _ (List.mem_of_getElem? (i := 42) rfl)), (wl9_in _ (List.mem_of_getElem? (i := 43) rfl))⟩
theorem so_X10_isCall : vwCl[10]? = some (yX10_isCall.cls, TX10, 3) := rfl
set_option maxRecDepth 100000 in
theorem cw_X10_isLetter : Cond.code yX10_isLetter cX10_isLetter 1 (some .boolean) ∈ wt := wt_tbl (t1_3 (List.mem_of_getElem? (i := 55) rfl)) rfl
theorem sy_X10_isLetter : zY yX10_isLetter cX10_isLetter 1 (some .boolean) 1 := ⟨cw_X10_isLetter, (wl7_in _ (List.mem_of_getElem? (i := 28) rfl)), ⟨by decide, by decide, by decide +kernel⟩, by decide⟩
theorem ss_X10_isLetter : Cond.static yX10_isLetter ∈ wt := (wl9_in _ (List.mem_of_getElem? (i := 44) rfl))
set_option maxRecDepth 100000 in
theorem cw_X11_init : Cond.code yX11_init cX11_init 2 none ∈ wt := wt_tbl (t1_1 (List.mem_of_getElem? (i := 20) rfl)) rfl
theorem sy_X11_init : zY yX11_init cX11_init 2 none 0 := ⟨cw_X11_init, (wl7_in _ (List.mem_of_getElem? (i := 26) rfl)), ⟨by decide, by decide, by decide +kernel⟩, by decide⟩
theorem si_X11_init : Cond.instanceMethod yX11_init ∈ wt := (wl9_in _ (List.mem_of_getElem? (i := 45) rfl))
set_option maxRecDepth 100000 in
theorem cw_X11_type : Cond.code yX11_type cX11_type 2 (some .int) ∈ wt := wt_tbl (t1_2 (List.mem_of_getElem? (i := 179) rfl)) rfl
theorem sy_X11_type : zY yX11_type cX11_type 2 (some .int) 1 := ⟨cw_X11_type, (wl7_in _ (List.mem_of_getElem? (i := 26) rfl)), ⟨by decide, by decide, by decide +kernel⟩, by decide⟩
theorem si_X11_type : Cond.instanceMethod yX11_type ∈ wt ∧ Cond.selects yX11_type.cls yX11_type yX11_type ∈ wt := ⟨(wl9_in _ (List.mem_of_getElem? (i := 46) rfl)), (wl9_in _ (List.mem_of_getElem? (i := 47) rfl))⟩
theorem so_X11_type : vwCl[11]? = some (yX11_type.cls, TX11, 12) := rfl
set_option maxRecDepth 100000 in
theorem cw_X11_wipe : Cond.code yX11_wipe cX11_wipe 2 (some .int) ∈ wt := wt_tbl (t1_2 (List.mem_of_getElem? (i := 190) rfl)) rfl
theorem sy_X11_wipe : zY yX11_wipe cX11_wipe 2 (some .int) 0 := ⟨cw_X11_wipe, (wl7_in _ (List.mem_of_getElem? (i := 26) rfl)), ⟨by decide, by decide, by decide +kernel⟩, by decide⟩
theorem si_X11_wipe : Cond.instanceMethod yX11_wipe ∈ wt ∧ Cond.selects yX11_wipe.cls yX11_wipe yX11_wipe ∈ wt := ⟨(wl9_in _ (List.mem_of_getElem? (i := 48) rfl)), (wl9_in _ (List.mem_of_getElem? (i := 49) rfl))⟩
theorem so_X11_wipe : vwCl[11]? = some (yX11_wipe.cls, TX11, 12) := rfl
set_option maxRecDepth 100000 in
theorem cw_X11_function : Cond.code yX11_function cX11_function 3 (some .int) ∈ wt := wt_tbl (t1_2 (List.mem_of_getElem? (i := 194) rfl)) rfl
theorem sy_X11_function : zY yX11_function cX11_function 3 (some .int) 2 := ⟨cw_X11_function, (wl7_in _ (List.mem_of_getElem? (i := 26) rfl)), ⟨by decide, by decide, by decide +kernel⟩, by decide⟩
theorem si_X11_function : Cond.instanceMethod yX11_function ∈ wt ∧ Cond.selects yX11_function.cls yX11_function yX11_function ∈ wt := ⟨(wl9_in _ (List.mem_of_getElem? (i := 50) rfl)), (wl9_in _ (List.mem_of_getElem? (i := 51) rfl))⟩
theorem so_X11_function : vwCl[11]? = some (yX11_function.cls, TX11, 12) := rfl
set_option maxRecDepth 100000 in
theorem cw_X11_ofFunction : Cond.code yX11_ofFunction cX11_ofFunction 4 (some .int) ∈ wt := wt_tbl (t1_2 (List.mem_of_getElem? (i := 237) rfl)) rfl
theorem sy_X11_ofFunction : zY yX11_ofFunction cX11_ofFunction 4 (some .int) 2 := ⟨cw_X11_ofFunction, (wl7_in _ (List.mem_of_getElem? (i := 26) rfl)), ⟨by decide, by decide, by decide +kernel⟩, by decide⟩
theorem si_X11_ofFunction : Cond.instanceMethod yX11_ofFunction ∈ wt ∧ Cond.selects yX11_ofFunction.cls yX11_ofFunction yX11_ofFunction ∈ wt := ⟨(wl9_in _ (List.mem_of_getElem? (i := 52) rfl)), (wl9_in _ (List.mem_of_getElem? (i := 53) rfl))⟩
theorem so_X11_ofFunction : vwCl[11]? = some (yX11_ofFunction.cls, TX11, 12) := rfl
set_option maxRecDepth 100000 in
theorem cw_X11_body : Cond.code yX11_body cX11_body 5 (some .int) ∈ wt := wt_tbl (t1_3 (List.mem_of_getElem? (i := 5) rfl)) rfl
theorem sy_X11_body : zY yX11_body cX11_body 5 (some .int) 3 := ⟨cw_X11_body, (wl7_in _ (List.mem_of_getElem? (i := 26) rfl)), ⟨by decide, by decide, by decide +kernel⟩, by decide⟩
theorem si_X11_body : Cond.instanceMethod yX11_body ∈ wt ∧ Cond.selects yX11_body.cls yX11_body yX11_body ∈ wt := ⟨(wl9_in _ (List.mem_of_getElem? (i := 54) rfl)), (wl9_in _ (List.mem_of_getElem? (i := 55) rfl))⟩
theorem so_X11_body : vwCl[11]? = some (yX11_body.cls, TX11, 12) := rfl
set_option maxRecDepth 100000 in
theorem cw_X11_claim : Cond.code yX11_claim cX11_claim 1 (some .int) ∈ wt := wt_tbl (t1_3 (List.mem_of_getElem? (i := 13) rfl)) rfl
theorem sy_X11_claim : zY yX11_claim cX11_claim 1 (some .int) 0 := ⟨cw_X11_claim, (wl7_in _ (List.mem_of_getElem? (i := 26) rfl)), ⟨by decide, by decide, by decide +kernel⟩, by decide⟩
theorem si_X11_claim : Cond.instanceMethod yX11_claim ∈ wt ∧ Cond.selects yX11_claim.cls yX11_claim yX11_claim ∈ wt := ⟨(wl9_in _ (List.mem_of_getElem? (i := 56) rfl)), (wl9_in _ (List.mem_of_getElem? (i := 57) rfl))⟩
theorem so_X11_claim : vwCl[11]? = some (yX11_claim.cls, TX11, 12) := rfl
set_option maxRecDepth 100000 in
theorem cw_X11_side : Cond.code yX11_side cX11_side 3 (some .int) ∈ wt := wt_tbl (t1_3 (List.mem_of_getElem? (i := 26) rfl)) rfl
theorem sy_X11_side : zY yX11_side cX11_side 3 (some .int) 2 := ⟨cw_X11_side, (wl7_in _ (List.mem_of_getElem? (i := 26) rfl)), ⟨by decide, by decide, by decide +kernel⟩, by decide⟩
theorem si_X11_side : Cond.instanceMethod yX11_side ∈ wt ∧ Cond.selects yX11_side.cls yX11_side yX11_side ∈ wt := ⟨(wl9_in _ (List.mem_of_getElem? (i := 58) rfl)), (wl9_in _ (List.mem_of_getElem? (i := 59) rfl))⟩
theorem so_X11_side : vwCl[11]? = some (yX11_side.cls, TX11, 12) := rfl
set_option maxRecDepth 100000 in
theorem cw_X11_anew : Cond.code yX11_anew cX11_anew 2 (some .int) ∈ wt := wt_tbl (t1_3 (List.mem_of_getElem? (i := 34) rfl)) rfl
theorem sy_X11_anew : zY yX11_anew cX11_anew 2 (some .int) 0 := ⟨cw_X11_anew, (wl7_in _ (List.mem_of_getElem? (i := 26) rfl)), ⟨by decide, by decide, by decide +kernel⟩, by decide⟩
theorem si_X11_anew : Cond.instanceMethod yX11_anew ∈ wt ∧ Cond.selects yX11_anew.cls yX11_anew yX11_anew ∈ wt := ⟨(wl10_in _ (List.mem_of_getElem? (i := 0) rfl)), (wl10_in _ (List.mem_of_getElem? (i := 1) rfl))⟩
theorem so_X11_anew : vwCl[11]? = some (yX11_anew.cls, TX11, 12) := rfl
set_option maxRecDepth 100000 in
theorem cw_X11_value : Cond.code yX11_value cX11_value 7 (some .int) ∈ wt := wt_tbl (t1_3 (List.mem_of_getElem? (i := 46) rfl)) rfl
theorem sy_X11_value : zY yX11_value cX11_value 7 (some .int) 4 := ⟨cw_X11_value, (wl7_in _ (List.mem_of_getElem? (i := 26) rfl)), ⟨by decide, by decide, by decide +kernel⟩, by decide⟩
theorem si_X11_value : Cond.instanceMethod yX11_value ∈ wt ∧ Cond.selects yX11_value.cls yX11_value yX11_value ∈ wt := ⟨(wl10_in _ (List.mem_of_getElem? (i := 2) rfl)), (wl10_in _ (List.mem_of_getElem? (i := 3) rfl))⟩
theorem so_X11_value : vwCl[11]? = some (yX11_value.cls, TX11, 12) := rfl
set_option maxRecDepth 100000 in
theorem cw_X11_holds : Cond.code yX11_holds cX11_holds 4 (some .int) ∈ wt := wt_tbl (t1_3 (List.mem_of_getElem? (i := 70) rfl)) rfl
theorem sy_X11_holds : zY yX11_holds cX11_holds 4 (some .int) 3 := ⟨cw_X11_holds, (wl7_in _ (List.mem_of_getElem? (i := 26) rfl)), ⟨by decide, by decide, by decide +kernel⟩, by decide⟩
theorem si_X11_holds : Cond.instanceMethod yX11_holds ∈ wt ∧ Cond.selects yX11_holds.cls yX11_holds yX11_holds ∈ wt := ⟨(wl10_in _ (List.mem_of_getElem? (i := 4) rfl)), (wl10_in _ (List.mem_of_getElem? (i := 5) rfl))⟩
theorem so_X11_holds : vwCl[11]? = some (yX11_holds.cls, TX11, 12) := rfl
set_option maxRecDepth 100000 in
theorem cw_X11_counter : Cond.code yX11_counter cX11_counter 2 (some .int) ∈ wt := wt_tbl (t1_3 (List.mem_of_getElem? (i := 79) rfl)) rfl
theorem sy_X11_counter : zY yX11_counter cX11_counter 2 (some .int) 1 := ⟨cw_X11_counter, (wl7_in _ (List.mem_of_getElem? (i := 26) rfl)), ⟨by decide, by decide, by decide +kernel⟩, by decide⟩
theorem si_X11_counter : Cond.instanceMethod yX11_counter ∈ wt ∧ Cond.selects yX11_counter.cls yX11_counter yX11_counter ∈ wt := ⟨(wl10_in _ (List.mem_of_getElem? (i := 6) rfl)), (wl10_in _ (List.mem_of_getElem? (i := 7) rfl))⟩
theorem so_X11_counter : vwCl[11]? = some (yX11_counter.cls, TX11, 12) := rfl
set_option maxRecDepth 100000 in
theorem cw_X11_normal : Cond.code yX11_normal cX11_normal 3 (some .int) ∈ wt := wt_tbl (t1_3 (List.mem_of_getElem? (i := 96) rfl)) rfl
theorem sy_X11_normal : zY yX11_normal cX11_normal 3 (some .int) 2 := ⟨cw_X11_normal, (wl7_in _ (List.mem_of_getElem? (i := 26) rfl)), ⟨by decide, by decide, by decide +kernel⟩, by decide⟩
theorem si_X11_normal : Cond.instanceMethod yX11_normal ∈ wt ∧ Cond.selects yX11_normal.cls yX11_normal yX11_normal ∈ wt := ⟨(wl10_in _ (List.mem_of_getElem? (i := 8) rfl)), (wl10_in _ (List.mem_of_getElem? (i := 9) rfl))⟩
theorem so_X11_normal : vwCl[11]? = some (yX11_normal.cls, TX11, 12) := rfl
set_option maxRecDepth 100000 in
theorem cw_X11_scheme : Cond.code yX11_scheme cX11_scheme 3 (some .int) ∈ wt := wt_tbl (t1_3 (List.mem_of_getElem? (i := 140) rfl)) rfl
theorem sy_X11_scheme : zY yX11_scheme cX11_scheme 3 (some .int) 1 := ⟨cw_X11_scheme, (wl7_in _ (List.mem_of_getElem? (i := 26) rfl)), ⟨by decide, by decide, by decide +kernel⟩, by decide⟩
theorem si_X11_scheme : Cond.instanceMethod yX11_scheme ∈ wt ∧ Cond.selects yX11_scheme.cls yX11_scheme yX11_scheme ∈ wt := ⟨(wl10_in _ (List.mem_of_getElem? (i := 10) rfl)), (wl10_in _ (List.mem_of_getElem? (i := 11) rfl))⟩
theorem so_X11_scheme : vwCl[11]? = some (yX11_scheme.cls, TX11, 12) := rfl
set_option maxRecDepth 100000 in
theorem cw_X11_difference : Cond.code yX11_difference cX11_difference 1 (some .int) ∈ wt := wt_tbl (t1_3 (List.mem_of_getElem? (i := 168) rfl)) rfl
theorem sy_X11_difference : zY yX11_difference cX11_difference 1 (some .int) 0 := ⟨cw_X11_difference, (wl7_in _ (List.mem_of_getElem? (i := 26) rfl)), ⟨by decide, by decide, by decide +kernel⟩, by decide⟩
theorem si_X11_difference : Cond.instanceMethod yX11_difference ∈ wt ∧ Cond.selects yX11_difference.cls yX11_difference yX11_difference ∈ wt := ⟨(wl10_in _ (List.mem_of_getElem? (i := 12) rfl)), (wl10_in _ (List.mem_of_getElem? (i := 13) rfl))⟩
theorem so_X11_difference : vwCl[11]? = some (yX11_difference.cls, TX11, 12) := rfl
set_option maxRecDepth 100000 in
theorem cw_X11_steered : Cond.code yX11_steered cX11_steered 3 (some .int) ∈ wt := wt_tbl (t1_3 (List.mem_of_getElem? (i := 188) rfl)) rfl
theorem sy_X11_steered : zY yX11_steered cX11_steered 3 (some .int) 1 := ⟨cw_X11_steered, (wl7_in _ (List.mem_of_getElem? (i := 26) rfl)), ⟨by decide, by decide, by decide +kernel⟩, by decide⟩
theorem si_X11_steered : Cond.instanceMethod yX11_steered ∈ wt ∧ Cond.selects yX11_steered.cls yX11_steered yX11_steered ∈ wt := ⟨(wl10_in _ (List.mem_of_getElem? (i := 14) rfl)), (wl10_in _ (List.mem_of_getElem? (i := 15) rfl))⟩
theorem so_X11_steered : vwCl[11]? = some (yX11_steered.cls, TX11, 12) := rfl
set_option maxRecDepth 100000 in
theorem cw_X11_common : Cond.code yX11_common cX11_common 3 (some .int) ∈ wt := wt_tbl (t1_3 (List.mem_of_getElem? (i := 226) rfl)) rfl
theorem sy_X11_common : zY yX11_common cX11_common 3 (some .int) 1 := ⟨cw_X11_common, (wl7_in _ (List.mem_of_getElem? (i := 26) rfl)), ⟨by decide, by decide, by decide +kernel⟩, by decide⟩
theorem si_X11_common : Cond.instanceMethod yX11_common ∈ wt ∧ Cond.selects yX11_common.cls yX11_common yX11_common ∈ wt := ⟨(wl10_in _ (List.mem_of_getElem? (i := 16) rfl)), (wl10_in _ (List.mem_of_getElem? (i := 17) rfl))⟩
theorem so_X11_common : vwCl[11]? = some (yX11_common.cls, TX11, 12) := rfl
set_option maxRecDepth 100000 in
theorem cw_X11_general : Cond.code yX11_general cX11_general 3 (some .int) ∈ wt := wt_tbl (t1_4 (List.mem_of_getElem? (i := 1) rfl)) rfl
theorem sy_X11_general : zY yX11_general cX11_general 3 (some .int) 2 := ⟨cw_X11_general, (wl7_in _ (List.mem_of_getElem? (i := 26) rfl)), ⟨by decide, by decide, by decide +kernel⟩, by decide⟩
theorem si_X11_general : Cond.instanceMethod yX11_general ∈ wt ∧ Cond.selects yX11_general.cls yX11_general yX11_general ∈ wt := ⟨(wl10_in _ (List.mem_of_getElem? (i := 18) rfl)), (wl10_in _ (List.mem_of_getElem? (i := 19) rfl))⟩
theorem so_X11_general : vwCl[11]? = some (yX11_general.cls, TX11, 12) := rfl
set_option maxRecDepth 100000 in
theorem cw_X11_prove : Cond.code yX11_prove cX11_prove 2 (some .int) ∈ wt := wt_tbl (t1_4 (List.mem_of_getElem? (i := 28) rfl)) rfl
theorem sy_X11_prove : zY yX11_prove cX11_prove 2 (some .int) 0 := ⟨cw_X11_prove, (wl7_in _ (List.mem_of_getElem? (i := 26) rfl)), ⟨by decide, by decide, by decide +kernel⟩, by decide⟩
theorem si_X11_prove : Cond.instanceMethod yX11_prove ∈ wt ∧ Cond.selects yX11_prove.cls yX11_prove yX11_prove ∈ wt := ⟨(wl10_in _ (List.mem_of_getElem? (i := 20) rfl)), (wl10_in _ (List.mem_of_getElem? (i := 21) rfl))⟩
theorem so_X11_prove : vwCl[11]? = some (yX11_prove.cls, TX11, 12) := rfl
set_option maxRecDepth 100000 in
theorem cw_X11_why : Cond.code yX11_why cX11_why 2 (some .int) ∈ wt := wt_tbl (t1_4 (List.mem_of_getElem? (i := 109) rfl)) rfl
theorem sy_X11_why : zY yX11_why cX11_why 2 (some .int) 1 := ⟨cw_X11_why, (wl7_in _ (List.mem_of_getElem? (i := 26) rfl)), ⟨by decide, by decide, by decide +kernel⟩, by decide⟩
theorem si_X11_why : Cond.instanceMethod yX11_why ∈ wt ∧ Cond.selects yX11_why.cls yX11_why yX11_why ∈ wt := ⟨(wl10_in _ (List.mem_of_getElem? (i := 22) rfl)), (wl10_in _ (List.mem_of_getElem? (i := 23) rfl))⟩
theorem so_X11_why : vwCl[11]? = some (yX11_why.cls, TX11, 12) := rfl
set_option maxRecDepth 100000 in
theorem cw_X11_script : Cond.code yX11_script cX11_script 3 (some .int) ∈ wt := wt_tbl (t1_4 (List.mem_of_getElem? (i := 113) rfl)) rfl
theorem sy_X11_script : zY yX11_script cX11_script 3 (some .int) 2 := ⟨cw_X11_script, (wl7_in _ (List.mem_of_getElem? (i := 26) rfl)), ⟨by decide, by decide, by decide +kernel⟩, by decide⟩
theorem si_X11_script : Cond.instanceMethod yX11_script ∈ wt ∧ Cond.selects yX11_script.cls yX11_script yX11_script ∈ wt := ⟨(wl10_in _ (List.mem_of_getElem? (i := 24) rfl)), (wl10_in _ (List.mem_of_getElem? (i := 25) rfl))⟩
theorem so_X11_script : vwCl[11]? = some (yX11_script.cls, TX11, 12) := rfl
set_option maxRecDepth 100000 in
theorem cw_X11_lemma : Cond.code yX11_lemma cX11_lemma 4 (some .int) ∈ wt := wt_tbl (t1_4 (List.mem_of_getElem? (i := 117) rfl)) rfl
theorem sy_X11_lemma : zY yX11_lemma cX11_lemma 4 (some .int) 3 := ⟨cw_X11_lemma, (wl7_in _ (List.mem_of_getElem? (i := 26) rfl)), ⟨by decide, by decide, by decide +kernel⟩, by decide⟩
theorem si_X11_lemma : Cond.instanceMethod yX11_lemma ∈ wt ∧ Cond.selects yX11_lemma.cls yX11_lemma yX11_lemma ∈ wt := ⟨(wl10_in _ (List.mem_of_getElem? (i := 26) rfl)), (wl10_in _ (List.mem_of_getElem? (i := 27) rfl))⟩
theorem so_X11_lemma : vwCl[11]? = some (yX11_lemma.cls, TX11, 12) := rfl
set_option maxRecDepth 100000 in
theorem cw_X11_tested : Cond.code yX11_tested cX11_tested 4 (some .int) ∈ wt := wt_tbl (t1_4 (List.mem_of_getElem? (i := 121) rfl)) rfl
theorem sy_X11_tested : zY yX11_tested cX11_tested 4 (some .int) 2 := ⟨cw_X11_tested, (wl7_in _ (List.mem_of_getElem? (i := 26) rfl)), ⟨by decide, by decide, by decide +kernel⟩, by decide⟩
theorem si_X11_tested : Cond.instanceMethod yX11_tested ∈ wt ∧ Cond.selects yX11_tested.cls yX11_tested yX11_tested ∈ wt := ⟨(wl10_in _ (List.mem_of_getElem? (i := 28) rfl)), (wl10_in _ (List.mem_of_getElem? (i := 29) rfl))⟩
theorem so_X11_tested : vwCl[11]? = some (yX11_tested.cls, TX11, 12) := rfl
set_option maxRecDepth 100000 in
theorem cw_X11_back : Cond.code yX11_back cX11_back 1 (some .int) ∈ wt := wt_tbl (t1_4 (List.mem_of_getElem? (i := 129) rfl)) rfl
theorem sy_X11_back : zY yX11_back cX11_back 1 (some .int) 0 := ⟨cw_X11_back, (wl7_in _ (List.mem_of_getElem? (i := 26) rfl)), ⟨by decide, by decide, by decide +kernel⟩, by decide⟩
theorem si_X11_back : Cond.instanceMethod yX11_back ∈ wt ∧ Cond.selects yX11_back.cls yX11_back yX11_back ∈ wt := ⟨(wl10_in _ (List.mem_of_getElem? (i := 30) rfl)), (wl10_in _ (List.mem_of_getElem? (i := 31) rfl))⟩
theorem so_X11_back : vwCl[11]? = some (yX11_back.cls, TX11, 12) := rfl
set_option maxRecDepth 100000 in
theorem cw_X11_many : Cond.code yX11_many cX11_many 2 (some .int) ∈ wt := wt_tbl (t1_4 (List.mem_of_getElem? (i := 133) rfl)) rfl
theorem sy_X11_many : zY yX11_many cX11_many 2 (some .int) 1 := ⟨cw_X11_many, (wl7_in _ (List.mem_of_getElem? (i := 26) rfl)), ⟨by decide, by decide, by decide +kernel⟩, by decide⟩
theorem si_X11_many : Cond.instanceMethod yX11_many ∈ wt ∧ Cond.selects yX11_many.cls yX11_many yX11_many ∈ wt := ⟨(wl10_in _ (List.mem_of_getElem? (i := 32) rfl)), (wl10_in _ (List.mem_of_getElem? (i := 33) rfl))⟩
theorem so_X11_many : vwCl[11]? = some (yX11_many.cls, TX11, 12) := rfl
set_option maxRecDepth 100000 in
theorem cw_X11_isOutside : Cond.code yX11_isOutside cX11_isOutside 2 (some .boolean) ∈ wt := wt_tbl (t1_2 (List.mem_of_getElem? (i := 182) rfl)) rfl
theorem sy_X11_isOutside : zY yX11_isOutside cX11_isOutside 2 (some .boolean) 2 := ⟨cw_X11_isOutside, (wl7_in _ (List.mem_of_getElem? (i := 26) rfl)), ⟨by decide, by decide, by decide +kernel⟩, by decide⟩
theorem ss_X11_isOutside : Cond.static yX11_isOutside ∈ wt := (wl10_in _ (List.mem_of_getElem? (i := 34) rfl))
set_option maxRecDepth 100000 in
theorem cw_X11_isNoPlace : Cond.code yX11_isNoPlace cX11_isNoPlace 2 (some .boolean) ∈ wt := wt_tbl (t1_3 (List.mem_of_getElem? (i := 99) rfl)) rfl
theorem sy_X11_isNoPlace : zY yX11_isNoPlace cX11_isNoPlace 2 (some .boolean) 2 := ⟨cw_X11_isNoPlace, (wl7_in _ (List.mem_of_getElem? (i := 26) rfl)), ⟨by decide, by decide, by decide +kernel⟩, by decide⟩
theorem ss_X11_isNoPlace : Cond.static yX11_isNoPlace ∈ wt := (wl10_in _ (List.mem_of_getElem? (i := 35) rfl))
set_option maxRecDepth 100000 in
theorem cw_X12_init : Cond.code yX12_init cX12_init 1 none ∈ wt := wt_tbl (t1_4 (List.mem_of_getElem? (i := 138) rfl)) rfl
theorem sy_X12_init : zY yX12_init cX12_init 1 none 0 := ⟨cw_X12_init, (wl7_in _ (List.mem_of_getElem? (i := 38) rfl)), ⟨by decide, by decide, by decide +kernel⟩, by decide⟩
theorem si_X12_init : Cond.instanceMethod yX12_init ∈ wt := (wl10_in _ (List.mem_of_getElem? (i := 36) rfl))
set_option maxRecDepth 100000 in
theorem cw_X12_within : Cond.code yX12_within cX12_within 3 (some .boolean) ∈ wt := wt_tbl (t1_5 (List.mem_of_getElem? (i := 57) rfl)) rfl
theorem sy_X12_within : zY yX12_within cX12_within 3 (some .boolean) 3 := ⟨cw_X12_within, (wl7_in _ (List.mem_of_getElem? (i := 38) rfl)), ⟨by decide, by decide, by decide +kernel⟩, by decide⟩
theorem ss_X12_within : Cond.static yX12_within ∈ wt := (wl10_in _ (List.mem_of_getElem? (i := 37) rfl))
set_option maxRecDepth 100000 in
theorem cw_X12_at : Cond.code yX12_at cX12_at 3 (some .int) ∈ wt := wt_tbl (t1_5 (List.mem_of_getElem? (i := 128) rfl)) rfl
theorem sy_X12_at : zY yX12_at cX12_at 3 (some .int) 2 := ⟨cw_X12_at, (wl7_in _ (List.mem_of_getElem? (i := 38) rfl)), ⟨by decide, by decide, by decide +kernel⟩, by decide⟩
theorem si_X12_at : Cond.instanceMethod yX12_at ∈ wt ∧ Cond.selects yX12_at.cls yX12_at yX12_at ∈ wt := ⟨(wl10_in _ (List.mem_of_getElem? (i := 38) rfl)), wt_in (List.mem_append_left _ (List.mem_map.mpr ⟨(yX12_at, 50), wp_in _ (List.mem_of_getElem? (i := 36) rfl), rfl⟩)) rfl⟩
theorem so_X12_at : vwCl[12]? = some (yX12_at.cls, TX12, 50) := rfl
set_option maxRecDepth 100000 in
theorem cw_X12_puts : Cond.code yX12_puts cX12_puts 3 none ∈ wt := wt_tbl (t1_5 (List.mem_of_getElem? (i := 120) rfl)) rfl
theorem sy_X12_puts : zY yX12_puts cX12_puts 3 none 2 := ⟨cw_X12_puts, (wl7_in _ (List.mem_of_getElem? (i := 38) rfl)), ⟨by decide, by decide, by decide +kernel⟩, by decide⟩
theorem si_X12_puts : Cond.instanceMethod yX12_puts ∈ wt ∧ Cond.selects yX12_puts.cls yX12_puts yX12_puts ∈ wt := ⟨(wl10_in _ (List.mem_of_getElem? (i := 39) rfl)), wt_in (List.mem_append_left _ (List.mem_map.mpr ⟨(yX12_puts, 50), wp_in _ (List.mem_of_getElem? (i := 34) rfl), rfl⟩)) rfl⟩
theorem so_X12_puts : vwCl[12]? = some (yX12_puts.cls, TX12, 50) := rfl
set_option maxRecDepth 100000 in
theorem cw_X12_copies : Cond.code yX12_copies cX12_copies 4 none ∈ wt := wt_tbl (t1_5 (List.mem_of_getElem? (i := 124) rfl)) rfl
theorem sy_X12_copies : zY yX12_copies cX12_copies 4 none 2 := ⟨cw_X12_copies, (wl7_in _ (List.mem_of_getElem? (i := 38) rfl)), ⟨by decide, by decide, by decide +kernel⟩, by decide⟩
theorem si_X12_copies : Cond.instanceMethod yX12_copies ∈ wt ∧ Cond.selects yX12_copies.cls yX12_copies yX12_copies ∈ wt := ⟨(wl10_in _ (List.mem_of_getElem? (i := 40) rfl)), wt_in (List.mem_append_left _ (List.mem_map.mpr ⟨(yX12_copies, 50), wp_in _ (List.mem_of_getElem? (i := 35) rfl), rfl⟩)) rfl⟩
theorem so_X12_copies : vwCl[12]? = some (yX12_copies.cls, TX12, 50) := rfl
set_option maxRecDepth 100000 in
theorem cw_X12_isVariable : Cond.code yX12_isVariable cX12_isVariable 1 (some .boolean) ∈ wt := wt_tbl (t1_5 (List.mem_of_getElem? (i := 80) rfl)) rfl
theorem sy_X12_isVariable : zY yX12_isVariable cX12_isVariable 1 (some .boolean) 1 := ⟨cw_X12_isVariable, (wl7_in _ (List.mem_of_getElem? (i := 38) rfl)), ⟨by decide, by decide, by decide +kernel⟩, by decide⟩
theorem ss_X12_isVariable : Cond.static yX12_isVariable ∈ wt := (wl10_in _ (List.mem_of_getElem? (i := 41) rfl))
set_option maxRecDepth 100000 in
theorem cw_X12_isLetter : Cond.code yX12_isLetter cX12_isLetter 1 (some .boolean) ∈ wt := wt_tbl (t1_6 (List.mem_of_getElem? (i := 3) rfl)) rfl
theorem sy_X12_isLetter : zY yX12_isLetter cX12_isLetter 1 (some .boolean) 1 := ⟨cw_X12_isLetter, (wl7_in _ (List.mem_of_getElem? (i := 38) rfl)), ⟨by decide, by decide, by decide +kernel⟩, by decide⟩
theorem ss_X12_isLetter : Cond.static yX12_isLetter ∈ wt := (wl10_in _ (List.mem_of_getElem? (i := 42) rfl))
set_option maxRecDepth 100000 in
theorem cw_X12_arity : Cond.code yX12_arity cX12_arity 2 (some .int) ∈ wt := wt_tbl (t1_6 (List.mem_of_getElem? (i := 23) rfl)) rfl
theorem sy_X12_arity : zY yX12_arity cX12_arity 2 (some .int) 1 := ⟨cw_X12_arity, (wl7_in _ (List.mem_of_getElem? (i := 38) rfl)), ⟨by decide, by decide, by decide +kernel⟩, by decide⟩
theorem si_X12_arity : Cond.instanceMethod yX12_arity ∈ wt ∧ Cond.selects yX12_arity.cls yX12_arity yX12_arity ∈ wt := ⟨(wl10_in _ (List.mem_of_getElem? (i := 43) rfl)), wt_in (List.mem_append_left _ (List.mem_map.mpr ⟨(yX12_arity, 50), wp_in _ (List.mem_of_getElem? (i := 61) rfl), rfl⟩)) rfl⟩
theorem so_X12_arity : vwCl[12]? = some (yX12_arity.cls, TX12, 50) := rfl
set_option maxRecDepth 100000 in
theorem cw_X12_end : Cond.code yX12_end cX12_end 5 (some .int) ∈ wt := wt_tbl (t1_6 (List.mem_of_getElem? (i := 19) rfl)) rfl
theorem sy_X12_end : zY yX12_end cX12_end 5 (some .int) 2 := ⟨cw_X12_end, (wl7_in _ (List.mem_of_getElem? (i := 38) rfl)), ⟨by decide, by decide, by decide +kernel⟩, by decide⟩
theorem si_X12_end : Cond.instanceMethod yX12_end ∈ wt ∧ Cond.selects yX12_end.cls yX12_end yX12_end ∈ wt := ⟨(wl10_in _ (List.mem_of_getElem? (i := 44) rfl)), wt_in (List.mem_append_left _ (List.mem_map.mpr ⟨(yX12_end, 50), wp_in _ (List.mem_of_getElem? (i := 60) rfl), rfl⟩)) rfl⟩
theorem so_X12_end : vwCl[12]? = some (yX12_end.cls, TX12, 50) := rfl
set_option maxRecDepth 100000 in
theorem cw_X12_areSame : Cond.code yX12_areSame cX12_areSame 5 (some .boolean) ∈ wt := wt_tbl (t1_6 (List.mem_of_getElem? (i := 116) rfl)) rfl
theorem sy_X12_areSame : zY yX12_areSame cX12_areSame 5 (some .boolean) 2 := ⟨cw_X12_areSame, (wl7_in _ (List.mem_of_getElem? (i := 38) rfl)), ⟨by decide, by decide, by decide +kernel⟩, by decide⟩
theorem si_X12_areSame : Cond.instanceMethod yX12_areSame ∈ wt ∧ Cond.selects yX12_areSame.cls yX12_areSame yX12_areSame ∈ wt := ⟨(wl10_in _ (List.mem_of_getElem? (i := 45) rfl)), wt_in (List.mem_append_left _ (List.mem_map.mpr ⟨(yX12_areSame, 50), wp_in _ (List.mem_of_getElem? (i := 80) rfl), rfl⟩)) rfl⟩
theorem so_X12_areSame : vwCl[12]? = some (yX12_areSame.cls, TX12, 50) := rfl
set_option maxRecDepth 100000 in
theorem cw_X12_isSamePart : Cond.code yX12_isSamePart cX12_isSamePart 7 (some .boolean) ∈ wt := wt_tbl (t1_6 (List.mem_of_getElem? (i := 60) rfl)) rfl
theorem sy_X12_isSamePart : zY yX12_isSamePart cX12_isSamePart 7 (some .boolean) 5 := ⟨cw_X12_isSamePart, (wl7_in _ (List.mem_of_getElem? (i := 38) rfl)), ⟨by decide, by decide, by decide +kernel⟩, by decide⟩
theorem si_X12_isSamePart : Cond.instanceMethod yX12_isSamePart ∈ wt ∧ Cond.selects yX12_isSamePart.cls yX12_isSamePart yX12_isSamePart ∈ wt := ⟨(wl10_in _ (List.mem_of_getElem? (i := 46) rfl)), wt_in (List.mem_append_left _ (List.mem_map.mpr ⟨(yX12_isSamePart, 50), wp_in _ (List.mem_of_getElem? (i := 69) rfl), rfl⟩)) rfl⟩
theorem so_X12_isSamePart : vwCl[12]? = some (yX12_isSamePart.cls, TX12, 50) := rfl
set_option maxRecDepth 100000 in
theorem cw_X12_hasSign : Cond.code yX12_hasSign cX12_hasSign 4 (some .boolean) ∈ wt := wt_tbl (t1_5 (List.mem_of_getElem? (i := 192) rfl)) rfl
theorem sy_X12_hasSign : zY yX12_hasSign cX12_hasSign 4 (some .boolean) 2 := ⟨cw_X12_hasSign, (wl7_in _ (List.mem_of_getElem? (i := 38) rfl)), ⟨by decide, by decide, by decide +kernel⟩, by decide⟩
theorem si_X12_hasSign : Cond.instanceMethod yX12_hasSign ∈ wt ∧ Cond.selects yX12_hasSign.cls yX12_hasSign yX12_hasSign ∈ wt := ⟨(wl10_in _ (List.mem_of_getElem? (i := 47) rfl)), wt_in (List.mem_append_left _ (List.mem_map.mpr ⟨(yX12_hasSign, 50), wp_in _ (List.mem_of_getElem? (i := 47) rfl), rfl⟩)) rfl⟩
theorem so_X12_hasSign : vwCl[12]? = some (yX12_hasSign.cls, TX12, 50) := rfl
set_option maxRecDepth 100000 in
theorem cw_X12_type : Cond.code yX12_type cX12_type 2 (some .int) ∈ wt := wt_tbl (t1_5 (List.mem_of_getElem? (i := 54) rfl)) rfl
theorem sy_X12_type : zY yX12_type cX12_type 2 (some .int) 1 := ⟨cw_X12_type, (wl7_in _ (List.mem_of_getElem? (i := 38) rfl)), ⟨by decide, by decide, by decide +kernel⟩, by decide⟩
theorem si_X12_type : Cond.instanceMethod yX12_type ∈ wt ∧ Cond.selects yX12_type.cls yX12_type yX12_type ∈ wt := ⟨(wl10_in _ (List.mem_of_getElem? (i := 48) rfl)), (wl10_in _ (List.mem_of_getElem? (i := 49) rfl))⟩
theorem so_X12_type : vwCl[12]? = some (yX12_type.cls, TX12, 50) := rfl
set_option maxRecDepth 100000 in
theorem cw_X12_wipe : Cond.code yX12_wipe cX12_wipe 2 (some .int) ∈ wt := wt_tbl (t1_5 (List.mem_of_getElem? (i := 61) rfl)) rfl
theorem sy_X12_wipe : zY yX12_wipe cX12_wipe 2 (some .int) 0 := ⟨cw_X12_wipe, (wl7_in _ (List.mem_of_getElem? (i := 38) rfl)), ⟨by decide, by decide, by decide +kernel⟩, by decide⟩
theorem si_X12_wipe : Cond.instanceMethod yX12_wipe ∈ wt ∧ Cond.selects yX12_wipe.cls yX12_wipe yX12_wipe ∈ wt := ⟨(wl10_in _ (List.mem_of_getElem? (i := 50) rfl)), (wl10_in _ (List.mem_of_getElem? (i := 51) rfl))⟩
theorem so_X12_wipe : vwCl[12]? = some (yX12_wipe.cls, TX12, 50) := rfl
set_option maxRecDepth 100000 in
theorem cw_X12_partsOf : Cond.code yX12_partsOf cX12_partsOf 8 (some .int) ∈ wt := wt_tbl (t1_5 (List.mem_of_getElem? (i := 77) rfl)) rfl
theorem sy_X12_partsOf : zY yX12_partsOf cX12_partsOf 8 (some .int) 6 := ⟨cw_X12_partsOf, (wl7_in _ (List.mem_of_getElem? (i := 38) rfl)), ⟨by decide, by decide, by decide +kernel⟩, by decide⟩
theorem si_X12_partsOf : Cond.instanceMethod yX12_partsOf ∈ wt ∧ Cond.selects yX12_partsOf.cls yX12_partsOf yX12_partsOf ∈ wt := ⟨(wl10_in _ (List.mem_of_getElem? (i := 52) rfl)), wt_in (List.mem_append_left _ (List.mem_map.mpr ⟨(yX12_partsOf, 50), wp_in _ (List.mem_of_getElem? (i := 27) rfl), rfl⟩)) rfl⟩
theorem so_X12_partsOf : vwCl[12]? = some (yX12_partsOf.cls, TX12, 50) := rfl
set_option maxRecDepth 100000 in
theorem cw_X12_readsTerm : Cond.code yX12_readsTerm cX12_readsTerm 11 (some .boolean) ∈ wt := wt_tbl (t1_5 (List.mem_of_getElem? (i := 73) rfl)) rfl
theorem sy_X12_readsTerm : zY yX12_readsTerm cX12_readsTerm 11 (some .boolean) 6 := ⟨cw_X12_readsTerm, (wl7_in _ (List.mem_of_getElem? (i := 38) rfl)), ⟨by decide, by decide, by decide +kernel⟩, by decide⟩
theorem si_X12_readsTerm : Cond.instanceMethod yX12_readsTerm ∈ wt ∧ Cond.selects yX12_readsTerm.cls yX12_readsTerm yX12_readsTerm ∈ wt := ⟨(wl10_in _ (List.mem_of_getElem? (i := 53) rfl)), wt_in (List.mem_append_left _ (List.mem_map.mpr ⟨(yX12_readsTerm, 50), wp_in _ (List.mem_of_getElem? (i := 26) rfl), rfl⟩)) rfl⟩
theorem so_X12_readsTerm : vwCl[12]? = some (yX12_readsTerm.cls, TX12, 50) := rfl
set_option maxRecDepth 100000 in
theorem cw_X12_reads : Cond.code yX12_reads cX12_reads 2 (some .boolean) ∈ wt := wt_tbl (t1_5 (List.mem_of_getElem? (i := 84) rfl)) rfl
theorem sy_X12_reads : zY yX12_reads cX12_reads 2 (some .boolean) 1 := ⟨cw_X12_reads, (wl7_in _ (List.mem_of_getElem? (i := 38) rfl)), ⟨by decide, by decide, by decide +kernel⟩, by decide⟩
theorem si_X12_reads : Cond.instanceMethod yX12_reads ∈ wt ∧ Cond.selects yX12_reads.cls yX12_reads yX12_reads ∈ wt := ⟨(wl10_in _ (List.mem_of_getElem? (i := 54) rfl)), wt_in (List.mem_append_left _ (List.mem_map.mpr ⟨(yX12_reads, 50), wp_in _ (List.mem_of_getElem? (i := 28) rfl), rfl⟩)) rfl⟩
theorem so_X12_reads : vwCl[12]? = some (yX12_reads.cls, TX12, 50) := rfl
set_option maxRecDepth 100000 in
theorem cw_X12_keepsBody : Cond.code yX12_keepsBody cX12_keepsBody 4 none ∈ wt := wt_tbl (t1_5 (List.mem_of_getElem? (i := 88) rfl)) rfl
theorem sy_X12_keepsBody : zY yX12_keepsBody cX12_keepsBody 4 none 2 := ⟨cw_X12_keepsBody, (wl7_in _ (List.mem_of_getElem? (i := 38) rfl)), ⟨by decide, by decide, by decide +kernel⟩, by decide⟩
theorem si_X12_keepsBody : Cond.instanceMethod yX12_keepsBody ∈ wt ∧ Cond.selects yX12_keepsBody.cls yX12_keepsBody yX12_keepsBody ∈ wt := ⟨(wl10_in _ (List.mem_of_getElem? (i := 55) rfl)), wt_in (List.mem_append_left _ (List.mem_map.mpr ⟨(yX12_keepsBody, 50), wp_in _ (List.mem_of_getElem? (i := 29) rfl), rfl⟩)) rfl⟩
theorem so_X12_keepsBody : vwCl[12]? = some (yX12_keepsBody.cls, TX12, 50) := rfl
set_option maxRecDepth 100000 in
theorem cw_X12_readsFunction : Cond.code yX12_readsFunction cX12_readsFunction 5 (some .boolean) ∈ wt := wt_tbl (t1_5 (List.mem_of_getElem? (i := 69) rfl)) rfl
theorem sy_X12_readsFunction : zY yX12_readsFunction cX12_readsFunction 5 (some .boolean) 2 := ⟨cw_X12_readsFunction, (wl7_in _ (List.mem_of_getElem? (i := 38) rfl)), ⟨by decide, by decide, by decide +kernel⟩, by decide⟩
theorem si_X12_readsFunction : Cond.instanceMethod yX12_readsFunction ∈ wt ∧ Cond.selects yX12_readsFunction.cls yX12_readsFunction yX12_readsFunction ∈ wt := ⟨(wl10_in _ (List.mem_of_getElem? (i := 56) rfl)), wt_in (List.mem_append_left _ (List.mem_map.mpr ⟨(yX12_readsFunction, 50), wp_in _ (List.mem_of_getElem? (i := 25) rfl), rfl⟩)) rfl⟩
theorem so_X12_readsFunction : vwCl[12]? = some (yX12_readsFunction.cls, TX12, 50) := rfl
set_option maxRecDepth 100000 in
theorem cw_X12_function : Cond.code yX12_function cX12_function 3 (some .int) ∈ wt := wt_tbl (t1_5 (List.mem_of_getElem? (i := 65) rfl)) rfl
theorem sy_X12_function : zY yX12_function cX12_function 3 (some .int) 2 := ⟨cw_X12_function, (wl7_in _ (List.mem_of_getElem? (i := 38) rfl)), ⟨by decide, by decide, by decide +kernel⟩, by decide⟩
theorem si_X12_function : Cond.instanceMethod yX12_function ∈ wt ∧ Cond.selects yX12_function.cls yX12_function yX12_function ∈ wt := ⟨(wl10_in _ (List.mem_of_getElem? (i := 57) rfl)), (wl10_in _ (List.mem_of_getElem? (i := 58) rfl))⟩
theorem so_X12_function : vwCl[12]? = some (yX12_function.cls, TX12, 50) := rfl
set_option maxRecDepth 100000 in
theorem cw_X12_isFunction : Cond.code yX12_isFunction cX12_isFunction 2 (some .boolean) ∈ wt := wt_tbl (t1_5 (List.mem_of_getElem? (i := 96) rfl)) rfl
theorem sy_X12_isFunction : zY yX12_isFunction cX12_isFunction 2 (some .boolean) 1 := ⟨cw_X12_isFunction, (wl7_in _ (List.mem_of_getElem? (i := 38) rfl)), ⟨by decide, by decide, by decide +kernel⟩, by decide⟩
theorem si_X12_isFunction : Cond.instanceMethod yX12_isFunction ∈ wt ∧ Cond.selects yX12_isFunction.cls yX12_isFunction yX12_isFunction ∈ wt := ⟨(wl10_in _ (List.mem_of_getElem? (i := 59) rfl)), wt_in (List.mem_append_left _ (List.mem_map.mpr ⟨(yX12_isFunction, 50), wp_in _ (List.mem_of_getElem? (i := 30) rfl), rfl⟩)) rfl⟩
theorem so_X12_isFunction : vwCl[12]? = some (yX12_isFunction.cls, TX12, 50) := rfl
set_option maxRecDepth 100000 in
theorem cw_X12_bodyLong : Cond.code yX12_bodyLong cX12_bodyLong 3 (some .int) ∈ wt := wt_tbl (t1_5 (List.mem_of_getElem? (i := 100) rfl)) rfl
theorem sy_X12_bodyLong : zY yX12_bodyLong cX12_bodyLong 3 (some .int) 2 := ⟨cw_X12_bodyLong, (wl7_in _ (List.mem_of_getElem? (i := 38) rfl)), ⟨by decide, by decide, by decide +kernel⟩, by decide⟩
theorem si_X12_bodyLong : Cond.instanceMethod yX12_bodyLong ∈ wt ∧ Cond.selects yX12_bodyLong.cls yX12_bodyLong yX12_bodyLong ∈ wt := ⟨(wl11_in _ (List.mem_of_getElem? (i := 0) rfl)), wt_in (List.mem_append_left _ (List.mem_map.mpr ⟨(yX12_bodyLong, 50), wp_in _ (List.mem_of_getElem? (i := 31) rfl), rfl⟩)) rfl⟩
theorem so_X12_bodyLong : vwCl[12]? = some (yX12_bodyLong.cls, TX12, 50) := rfl
set_option maxRecDepth 100000 in
theorem cw_X12_ofFunction : Cond.code yX12_ofFunction cX12_ofFunction 3 (some .int) ∈ wt := wt_tbl (t1_5 (List.mem_of_getElem? (i := 92) rfl)) rfl
theorem sy_X12_ofFunction : zY yX12_ofFunction cX12_ofFunction 3 (some .int) 2 := ⟨cw_X12_ofFunction, (wl7_in _ (List.mem_of_getElem? (i := 38) rfl)), ⟨by decide, by decide, by decide +kernel⟩, by decide⟩
theorem si_X12_ofFunction : Cond.instanceMethod yX12_ofFunction ∈ wt ∧ Cond.selects yX12_ofFunction.cls yX12_ofFunction yX12_ofFunction ∈ wt := ⟨(wl11_in _ (List.mem_of_getElem? (i := 1) rfl)), (wl11_in _ (List.mem_of_getElem? (i := 2) rfl))⟩
theorem so_X12_ofFunction : vwCl[12]? = some (yX12_ofFunction.cls, TX12, 50) := rfl
set_option maxRecDepth 100000 in
theorem cw_X12_body : Cond.code yX12_body cX12_body 4 (some .int) ∈ wt := wt_tbl (t1_5 (List.mem_of_getElem? (i := 104) rfl)) rfl
theorem sy_X12_body : zY yX12_body cX12_body 4 (some .int) 3 := ⟨cw_X12_body, (wl7_in _ (List.mem_of_getElem? (i := 38) rfl)), ⟨by decide, by decide, by decide +kernel⟩, by decide⟩
theorem si_X12_body : Cond.instanceMethod yX12_body ∈ wt ∧ Cond.selects yX12_body.cls yX12_body yX12_body ∈ wt := ⟨(wl11_in _ (List.mem_of_getElem? (i := 3) rfl)), (wl11_in _ (List.mem_of_getElem? (i := 4) rfl))⟩
theorem so_X12_body : vwCl[12]? = some (yX12_body.cls, TX12, 50) := rfl
set_option maxRecDepth 100000 in
theorem cw_X12_keepsSide : Cond.code yX12_keepsSide cX12_keepsSide 3 none ∈ wt := wt_tbl (t1_5 (List.mem_of_getElem? (i := 116) rfl)) rfl
theorem sy_X12_keepsSide : zY yX12_keepsSide cX12_keepsSide 3 none 1 := ⟨cw_X12_keepsSide, (wl7_in _ (List.mem_of_getElem? (i := 38) rfl)), ⟨by decide, by decide, by decide +kernel⟩, by decide⟩
theorem si_X12_keepsSide : Cond.instanceMethod yX12_keepsSide ∈ wt ∧ Cond.selects yX12_keepsSide.cls yX12_keepsSide yX12_keepsSide ∈ wt := ⟨(wl11_in _ (List.mem_of_getElem? (i := 5) rfl)), wt_in (List.mem_append_left _ (List.mem_map.mpr ⟨(yX12_keepsSide, 50), wp_in _ (List.mem_of_getElem? (i := 33) rfl), rfl⟩)) rfl⟩
theorem so_X12_keepsSide : vwCl[12]? = some (yX12_keepsSide.cls, TX12, 50) := rfl
set_option maxRecDepth 100000 in
theorem cw_X12_readsClaim : Cond.code yX12_readsClaim cX12_readsClaim 1 (some .boolean) ∈ wt := wt_tbl (t1_5 (List.mem_of_getElem? (i := 112) rfl)) rfl
theorem sy_X12_readsClaim : zY yX12_readsClaim cX12_readsClaim 1 (some .boolean) 0 := ⟨cw_X12_readsClaim, (wl7_in _ (List.mem_of_getElem? (i := 38) rfl)), ⟨by decide, by decide, by decide +kernel⟩, by decide⟩
theorem si_X12_readsClaim : Cond.instanceMethod yX12_readsClaim ∈ wt ∧ Cond.selects yX12_readsClaim.cls yX12_readsClaim yX12_readsClaim ∈ wt := ⟨(wl11_in _ (List.mem_of_getElem? (i := 6) rfl)), wt_in (List.mem_append_left _ (List.mem_map.mpr ⟨(yX12_readsClaim, 50), wp_in _ (List.mem_of_getElem? (i := 32) rfl), rfl⟩)) rfl⟩
theorem so_X12_readsClaim : vwCl[12]? = some (yX12_readsClaim.cls, TX12, 50) := rfl
set_option maxRecDepth 100000 in
theorem cw_X12_claim : Cond.code yX12_claim cX12_claim 1 (some .int) ∈ wt := wt_tbl (t1_5 (List.mem_of_getElem? (i := 108) rfl)) rfl
theorem sy_X12_claim : zY yX12_claim cX12_claim 1 (some .int) 0 := ⟨cw_X12_claim, (wl7_in _ (List.mem_of_getElem? (i := 38) rfl)), ⟨by decide, by decide, by decide +kernel⟩, by decide⟩
theorem si_X12_claim : Cond.instanceMethod yX12_claim ∈ wt ∧ Cond.selects yX12_claim.cls yX12_claim yX12_claim ∈ wt := ⟨(wl11_in _ (List.mem_of_getElem? (i := 7) rfl)), (wl11_in _ (List.mem_of_getElem? (i := 8) rfl))⟩
theorem so_X12_claim : vwCl[12]? = some (yX12_claim.cls, TX12, 50) := rfl
set_option maxRecDepth 100000 in
theorem cw_X12_told : Cond.code yX12_told cX12_told 3 (some .int) ∈ wt := wt_tbl (t1_5 (List.mem_of_getElem? (i := 136) rfl)) rfl
theorem sy_X12_told : zY yX12_told cX12_told 3 (some .int) 2 := ⟨cw_X12_told, (wl7_in _ (List.mem_of_getElem? (i := 38) rfl)), ⟨by decide, by decide, by decide +kernel⟩, by decide⟩
theorem si_X12_told : Cond.instanceMethod yX12_told ∈ wt ∧ Cond.selects yX12_told.cls yX12_told yX12_told ∈ wt := ⟨(wl11_in _ (List.mem_of_getElem? (i := 9) rfl)), wt_in (List.mem_append_left _ (List.mem_map.mpr ⟨(yX12_told, 50), wp_in _ (List.mem_of_getElem? (i := 37) rfl), rfl⟩)) rfl⟩
theorem so_X12_told : vwCl[12]? = some (yX12_told.cls, TX12, 50) := rfl
set_option maxRecDepth 100000 in
theorem cw_X12_side : Cond.code yX12_side cX12_side 3 (some .int) ∈ wt := wt_tbl (t1_5 (List.mem_of_getElem? (i := 132) rfl)) rfl
theorem sy_X12_side : zY yX12_side cX12_side 3 (some .int) 2 := ⟨cw_X12_side, (wl7_in _ (List.mem_of_getElem? (i := 38) rfl)), ⟨by decide, by decide, by decide +kernel⟩, by decide⟩
theorem si_X12_side : Cond.instanceMethod yX12_side ∈ wt ∧ Cond.selects yX12_side.cls yX12_side yX12_side ∈ wt := ⟨(wl11_in _ (List.mem_of_getElem? (i := 10) rfl)), (wl11_in _ (List.mem_of_getElem? (i := 11) rfl))⟩
theorem so_X12_side : vwCl[12]? = some (yX12_side.cls, TX12, 50) := rfl
set_option maxRecDepth 100000 in
theorem cw_X12_anew : Cond.code yX12_anew cX12_anew 2 (some .int) ∈ wt := wt_tbl (t1_5 (List.mem_of_getElem? (i := 140) rfl)) rfl
theorem sy_X12_anew : zY yX12_anew cX12_anew 2 (some .int) 0 := ⟨cw_X12_anew, (wl7_in _ (List.mem_of_getElem? (i := 38) rfl)), ⟨by decide, by decide, by decide +kernel⟩, by decide⟩
theorem si_X12_anew : Cond.instanceMethod yX12_anew ∈ wt ∧ Cond.selects yX12_anew.cls yX12_anew yX12_anew ∈ wt := ⟨(wl11_in _ (List.mem_of_getElem? (i := 12) rfl)), (wl11_in _ (List.mem_of_getElem? (i := 13) rfl))⟩
theorem so_X12_anew : vwCl[12]? = some (yX12_anew.cls, TX12, 50) := rfl
set_option maxRecDepth 100000 in
theorem cw_X12_signOf : Cond.code yX12_signOf cX12_signOf 4 (some .int) ∈ wt := wt_tbl (t1_5 (List.mem_of_getElem? (i := 160) rfl)) rfl
theorem sy_X12_signOf : zY yX12_signOf cX12_signOf 4 (some .int) 2 := ⟨cw_X12_signOf, (wl7_in _ (List.mem_of_getElem? (i := 38) rfl)), ⟨by decide, by decide, by decide +kernel⟩, by decide⟩
theorem si_X12_signOf : Cond.instanceMethod yX12_signOf ∈ wt ∧ Cond.selects yX12_signOf.cls yX12_signOf yX12_signOf ∈ wt := ⟨(wl11_in _ (List.mem_of_getElem? (i := 14) rfl)), wt_in (List.mem_append_left _ (List.mem_map.mpr ⟨(yX12_signOf, 50), wp_in _ (List.mem_of_getElem? (i := 41) rfl), rfl⟩)) rfl⟩
theorem so_X12_signOf : vwCl[12]? = some (yX12_signOf.cls, TX12, 50) := rfl
set_option maxRecDepth 100000 in
theorem cw_X12_enters : Cond.code yX12_enters cX12_enters 6 none ∈ wt := wt_tbl (t1_5 (List.mem_of_getElem? (i := 152) rfl)) rfl
theorem sy_X12_enters : zY yX12_enters cX12_enters 6 none 5 := ⟨cw_X12_enters, (wl7_in _ (List.mem_of_getElem? (i := 38) rfl)), ⟨by decide, by decide, by decide +kernel⟩, by decide⟩
theorem si_X12_enters : Cond.instanceMethod yX12_enters ∈ wt ∧ Cond.selects yX12_enters.cls yX12_enters yX12_enters ∈ wt := ⟨(wl11_in _ (List.mem_of_getElem? (i := 15) rfl)), wt_in (List.mem_append_left _ (List.mem_map.mpr ⟨(yX12_enters, 50), wp_in _ (List.mem_of_getElem? (i := 39) rfl), rfl⟩)) rfl⟩
theorem so_X12_enters : vwCl[12]? = some (yX12_enters.cls, TX12, 50) := rfl
set_option maxRecDepth 100000 in
theorem cw_X12_calls : Cond.code yX12_calls cX12_calls 6 (some .boolean) ∈ wt := wt_tbl (t1_5 (List.mem_of_getElem? (i := 148) rfl)) rfl
theorem sy_X12_calls : zY yX12_calls cX12_calls 6 (some .boolean) 3 := ⟨cw_X12_calls, (wl7_in _ (List.mem_of_getElem? (i := 38) rfl)), ⟨by decide, by decide, by decide +kernel⟩, by decide⟩
theorem si_X12_calls : Cond.instanceMethod yX12_calls ∈ wt ∧ Cond.selects yX12_calls.cls yX12_calls yX12_calls ∈ wt := ⟨(wl11_in _ (List.mem_of_getElem? (i := 16) rfl)), wt_in (List.mem_append_left _ (List.mem_map.mpr ⟨(yX12_calls, 50), wp_in _ (List.mem_of_getElem? (i := 38) rfl), rfl⟩)) rfl⟩
theorem so_X12_calls : vwCl[12]? = some (yX12_calls.cls, TX12, 50) := rfl
set_option maxRecDepth 100000 in
theorem cw_X12_takesSign : Cond.code yX12_takesSign cX12_takesSign 6 (some .boolean) ∈ wt := wt_tbl (t1_5 (List.mem_of_getElem? (i := 164) rfl)) rfl
theorem sy_X12_takesSign : zY yX12_takesSign cX12_takesSign 6 (some .boolean) 2 := ⟨cw_X12_takesSign, (wl7_in _ (List.mem_of_getElem? (i := 38) rfl)), ⟨by decide, by decide, by decide +kernel⟩, by decide⟩
theorem si_X12_takesSign : Cond.instanceMethod yX12_takesSign ∈ wt ∧ Cond.selects yX12_takesSign.cls yX12_takesSign yX12_takesSign ∈ wt := ⟨(wl11_in _ (List.mem_of_getElem? (i := 17) rfl)), wt_in (List.mem_append_left _ (List.mem_map.mpr ⟨(yX12_takesSign, 50), wp_in _ (List.mem_of_getElem? (i := 42) rfl), rfl⟩)) rfl⟩
theorem so_X12_takesSign : vwCl[12]? = some (yX12_takesSign.cls, TX12, 50) := rfl
set_option maxRecDepth 100000 in
theorem cw_X12_works : Cond.code yX12_works cX12_works 3 (some .int) ∈ wt := wt_tbl (t1_5 (List.mem_of_getElem? (i := 156) rfl)) rfl
theorem sy_X12_works : zY yX12_works cX12_works 3 (some .int) 0 := ⟨cw_X12_works, (wl7_in _ (List.mem_of_getElem? (i := 38) rfl)), ⟨by decide, by decide, by decide +kernel⟩, by decide⟩
theorem si_X12_works : Cond.instanceMethod yX12_works ∈ wt ∧ Cond.selects yX12_works.cls yX12_works yX12_works ∈ wt := ⟨(wl11_in _ (List.mem_of_getElem? (i := 18) rfl)), wt_in (List.mem_append_left _ (List.mem_map.mpr ⟨(yX12_works, 50), wp_in _ (List.mem_of_getElem? (i := 40) rfl), rfl⟩)) rfl⟩
theorem so_X12_works : vwCl[12]? = some (yX12_works.cls, TX12, 50) := rfl
set_option maxRecDepth 100000 in
theorem cw_X12_valueOf : Cond.code yX12_valueOf cX12_valueOf 5 (some .int) ∈ wt := wt_tbl (t1_5 (List.mem_of_getElem? (i := 176) rfl)) rfl
theorem sy_X12_valueOf : zY yX12_valueOf cX12_valueOf 5 (some .int) 4 := ⟨cw_X12_valueOf, (wl7_in _ (List.mem_of_getElem? (i := 38) rfl)), ⟨by decide, by decide, by decide +kernel⟩, by decide⟩
theorem si_X12_valueOf : Cond.instanceMethod yX12_valueOf ∈ wt ∧ Cond.selects yX12_valueOf.cls yX12_valueOf yX12_valueOf ∈ wt := ⟨(wl11_in _ (List.mem_of_getElem? (i := 19) rfl)), wt_in (List.mem_append_left _ (List.mem_map.mpr ⟨(yX12_valueOf, 50), wp_in _ (List.mem_of_getElem? (i := 44) rfl), rfl⟩)) rfl⟩
theorem so_X12_valueOf : vwCl[12]? = some (yX12_valueOf.cls, TX12, 50) := rfl
set_option maxRecDepth 100000 in
theorem cw_X12_value : Cond.code yX12_value cX12_value 6 (some .int) ∈ wt := wt_tbl (t1_5 (List.mem_of_getElem? (i := 144) rfl)) rfl
theorem sy_X12_value : zY yX12_value cX12_value 6 (some .int) 4 := ⟨cw_X12_value, (wl7_in _ (List.mem_of_getElem? (i := 38) rfl)), ⟨by decide, by decide, by decide +kernel⟩, by decide⟩
theorem si_X12_value : Cond.instanceMethod yX12_value ∈ wt ∧ Cond.selects yX12_value.cls yX12_value yX12_value ∈ wt := ⟨(wl11_in _ (List.mem_of_getElem? (i := 20) rfl)), (wl11_in _ (List.mem_of_getElem? (i := 21) rfl))⟩
theorem so_X12_value : vwCl[12]? = some (yX12_value.cls, TX12, 50) := rfl
set_option maxRecDepth 100000 in
theorem cw_X12_holdsBy : Cond.code yX12_holdsBy cX12_holdsBy 8 (some .int) ∈ wt := wt_tbl (t1_5 (List.mem_of_getElem? (i := 172) rfl)) rfl
theorem sy_X12_holdsBy : zY yX12_holdsBy cX12_holdsBy 8 (some .int) 5 := ⟨cw_X12_holdsBy, (wl7_in _ (List.mem_of_getElem? (i := 38) rfl)), ⟨by decide, by decide, by decide +kernel⟩, by decide⟩
theorem si_X12_holdsBy : Cond.instanceMethod yX12_holdsBy ∈ wt ∧ Cond.selects yX12_holdsBy.cls yX12_holdsBy yX12_holdsBy ∈ wt := ⟨(wl11_in _ (List.mem_of_getElem? (i := 22) rfl)), wt_in (List.mem_append_left _ (List.mem_map.mpr ⟨(yX12_holdsBy, 50), wp_in _ (List.mem_of_getElem? (i := 43) rfl), rfl⟩)) rfl⟩
theorem so_X12_holdsBy : vwCl[12]? = some (yX12_holdsBy.cls, TX12, 50) := rfl
set_option maxRecDepth 100000 in
theorem cw_X12_holds : Cond.code yX12_holds cX12_holds 4 (some .int) ∈ wt := wt_tbl (t1_5 (List.mem_of_getElem? (i := 168) rfl)) rfl
theorem sy_X12_holds : zY yX12_holds cX12_holds 4 (some .int) 3 := ⟨cw_X12_holds, (wl7_in _ (List.mem_of_getElem? (i := 38) rfl)), ⟨by decide, by decide, by decide +kernel⟩, by decide⟩
theorem si_X12_holds : Cond.instanceMethod yX12_holds ∈ wt ∧ Cond.selects yX12_holds.cls yX12_holds yX12_holds ∈ wt := ⟨(wl11_in _ (List.mem_of_getElem? (i := 23) rfl)), (wl11_in _ (List.mem_of_getElem? (i := 24) rfl))⟩
theorem so_X12_holds : vwCl[12]? = some (yX12_holds.cls, TX12, 50) := rfl
set_option maxRecDepth 100000 in
theorem cw_X12_upTo : Cond.code yX12_upTo cX12_upTo 4 (some .int) ∈ wt := wt_tbl (t1_5 (List.mem_of_getElem? (i := 188) rfl)) rfl
theorem sy_X12_upTo : zY yX12_upTo cX12_upTo 4 (some .int) 3 := ⟨cw_X12_upTo, (wl7_in _ (List.mem_of_getElem? (i := 38) rfl)), ⟨by decide, by decide, by decide +kernel⟩, by decide⟩
theorem si_X12_upTo : Cond.instanceMethod yX12_upTo ∈ wt ∧ Cond.selects yX12_upTo.cls yX12_upTo yX12_upTo ∈ wt := ⟨(wl11_in _ (List.mem_of_getElem? (i := 25) rfl)), wt_in (List.mem_append_left _ (List.mem_map.mpr ⟨(yX12_upTo, 50), wp_in _ (List.mem_of_getElem? (i := 46) rfl), rfl⟩)) rfl⟩
theorem so_X12_upTo : vwCl[12]? = some (yX12_upTo.cls, TX12, 50) := rfl
set_option maxRecDepth 100000 in
theorem cw_X12_counterexample : Cond.code yX12_counterexample cX12_counterexample 6 (some .int) ∈ wt := wt_tbl (t1_5 (List.mem_of_getElem? (i := 184) rfl)) rfl
theorem sy_X12_counterexample : zY yX12_counterexample cX12_counterexample 6 (some .int) 2 := ⟨cw_X12_counterexample, (wl7_in _ (List.mem_of_getElem? (i := 38) rfl)), ⟨by decide, by decide, by decide +kernel⟩, by decide⟩
theorem si_X12_counterexample : Cond.instanceMethod yX12_counterexample ∈ wt ∧ Cond.selects yX12_counterexample.cls yX12_counterexample yX12_counterexample ∈ wt := ⟨(wl11_in _ (List.mem_of_getElem? (i := 26) rfl)), wt_in (List.mem_append_left _ (List.mem_map.mpr ⟨(yX12_counterexample, 50), wp_in _ (List.mem_of_getElem? (i := 45) rfl), rfl⟩)) rfl⟩
theorem so_X12_counterexample : vwCl[12]? = some (yX12_counterexample.cls, TX12, 50) := rfl
set_option maxRecDepth 100000 in
theorem cw_X12_counter : Cond.code yX12_counter cX12_counter 3 (some .int) ∈ wt := wt_tbl (t1_5 (List.mem_of_getElem? (i := 180) rfl)) rfl
theorem sy_X12_counter : zY yX12_counter cX12_counter 3 (some .int) 1 := ⟨cw_X12_counter, (wl7_in _ (List.mem_of_getElem? (i := 38) rfl)), ⟨by decide, by decide, by decide +kernel⟩, by decide⟩
theorem si_X12_counter : Cond.instanceMethod yX12_counter ∈ wt ∧ Cond.selects yX12_counter.cls yX12_counter yX12_counter ∈ wt := ⟨(wl11_in _ (List.mem_of_getElem? (i := 27) rfl)), (wl11_in _ (List.mem_of_getElem? (i := 28) rfl))⟩
theorem so_X12_counter : vwCl[12]? = some (yX12_counter.cls, TX12, 50) := rfl
set_option maxRecDepth 100000 in
theorem cw_X12_longOf : Cond.code yX12_longOf cX12_longOf 2 (some .int) ∈ wt := wt_tbl (t1_5 (List.mem_of_getElem? (i := 208) rfl)) rfl
theorem sy_X12_longOf : zY yX12_longOf cX12_longOf 2 (some .int) 1 := ⟨cw_X12_longOf, (wl7_in _ (List.mem_of_getElem? (i := 38) rfl)), ⟨by decide, by decide, by decide +kernel⟩, by decide⟩
theorem si_X12_longOf : Cond.instanceMethod yX12_longOf ∈ wt ∧ Cond.selects yX12_longOf.cls yX12_longOf yX12_longOf ∈ wt := ⟨(wl11_in _ (List.mem_of_getElem? (i := 29) rfl)), wt_in (List.mem_append_left _ (List.mem_map.mpr ⟨(yX12_longOf, 50), wp_in _ (List.mem_of_getElem? (i := 50) rfl), rfl⟩)) rfl⟩
theorem so_X12_longOf : vwCl[12]? = some (yX12_longOf.cls, TX12, 50) := rfl
set_option maxRecDepth 100000 in
theorem cw_X12_pushes : Cond.code yX12_pushes cX12_pushes 5 none ∈ wt := wt_tbl (t1_5 (List.mem_of_getElem? (i := 216) rfl)) rfl
theorem sy_X12_pushes : zY yX12_pushes cX12_pushes 5 none 2 := ⟨cw_X12_pushes, (wl7_in _ (List.mem_of_getElem? (i := 38) rfl)), ⟨by decide, by decide, by decide +kernel⟩, by decide⟩
theorem si_X12_pushes : Cond.instanceMethod yX12_pushes ∈ wt ∧ Cond.selects yX12_pushes.cls yX12_pushes yX12_pushes ∈ wt := ⟨(wl11_in _ (List.mem_of_getElem? (i := 30) rfl)), wt_in (List.mem_append_left _ (List.mem_map.mpr ⟨(yX12_pushes, 50), wp_in _ (List.mem_of_getElem? (i := 52) rfl), rfl⟩)) rfl⟩
theorem so_X12_pushes : vwCl[12]? = some (yX12_pushes.cls, TX12, 50) := rfl
set_option maxRecDepth 100000 in
theorem cw_X12_pushesSign : Cond.code yX12_pushesSign cX12_pushesSign 2 none ∈ wt := wt_tbl (t1_5 (List.mem_of_getElem? (i := 220) rfl)) rfl
theorem sy_X12_pushesSign : zY yX12_pushesSign cX12_pushesSign 2 none 1 := ⟨cw_X12_pushesSign, (wl7_in _ (List.mem_of_getElem? (i := 38) rfl)), ⟨by decide, by decide, by decide +kernel⟩, by decide⟩
theorem si_X12_pushesSign : Cond.instanceMethod yX12_pushesSign ∈ wt ∧ Cond.selects yX12_pushesSign.cls yX12_pushesSign yX12_pushesSign ∈ wt := ⟨(wl11_in _ (List.mem_of_getElem? (i := 31) rfl)), wt_in (List.mem_append_left _ (List.mem_map.mpr ⟨(yX12_pushesSign, 50), wp_in _ (List.mem_of_getElem? (i := 53) rfl), rfl⟩)) rfl⟩
theorem so_X12_pushesSign : vwCl[12]? = some (yX12_pushesSign.cls, TX12, 50) := rfl
set_option maxRecDepth 100000 in
theorem cw_X12_falls : Cond.code yX12_falls cX12_falls 4 none ∈ wt := wt_tbl (t1_5 (List.mem_of_getElem? (i := 204) rfl)) rfl
theorem sy_X12_falls : zY yX12_falls cX12_falls 4 none 1 := ⟨cw_X12_falls, (wl7_in _ (List.mem_of_getElem? (i := 38) rfl)), ⟨by decide, by decide, by decide +kernel⟩, by decide⟩
theorem si_X12_falls : Cond.instanceMethod yX12_falls ∈ wt ∧ Cond.selects yX12_falls.cls yX12_falls yX12_falls ∈ wt := ⟨(wl11_in _ (List.mem_of_getElem? (i := 32) rfl)), wt_in (List.mem_append_left _ (List.mem_map.mpr ⟨(yX12_falls, 50), wp_in _ (List.mem_of_getElem? (i := 49) rfl), rfl⟩)) rfl⟩
theorem so_X12_falls : vwCl[12]? = some (yX12_falls.cls, TX12, 50) := rfl
set_option maxRecDepth 100000 in
theorem cw_X12_joins : Cond.code yX12_joins cX12_joins 9 (some .boolean) ∈ wt := wt_tbl (t1_5 (List.mem_of_getElem? (i := 224) rfl)) rfl
theorem sy_X12_joins : zY yX12_joins cX12_joins 9 (some .boolean) 2 := ⟨cw_X12_joins, (wl7_in _ (List.mem_of_getElem? (i := 38) rfl)), ⟨by decide, by decide, by decide +kernel⟩, by decide⟩
theorem si_X12_joins : Cond.instanceMethod yX12_joins ∈ wt ∧ Cond.selects yX12_joins.cls yX12_joins yX12_joins ∈ wt := ⟨(wl11_in _ (List.mem_of_getElem? (i := 33) rfl)), wt_in (List.mem_append_left _ (List.mem_map.mpr ⟨(yX12_joins, 50), wp_in _ (List.mem_of_getElem? (i := 54) rfl), rfl⟩)) rfl⟩
theorem so_X12_joins : vwCl[12]? = some (yX12_joins.cls, TX12, 50) := rfl
set_option maxRecDepth 100000 in
theorem cw_X12_bodyFor : Cond.code yX12_bodyFor cX12_bodyFor 4 (some .int) ∈ wt := wt_tbl (t1_5 (List.mem_of_getElem? (i := 228) rfl)) rfl
theorem sy_X12_bodyFor : zY yX12_bodyFor cX12_bodyFor 4 (some .int) 1 := ⟨cw_X12_bodyFor, (wl7_in _ (List.mem_of_getElem? (i := 38) rfl)), ⟨by decide, by decide, by decide +kernel⟩, by decide⟩
theorem si_X12_bodyFor : Cond.instanceMethod yX12_bodyFor ∈ wt ∧ Cond.selects yX12_bodyFor.cls yX12_bodyFor yX12_bodyFor ∈ wt := ⟨(wl11_in _ (List.mem_of_getElem? (i := 34) rfl)), wt_in (List.mem_append_left _ (List.mem_map.mpr ⟨(yX12_bodyFor, 50), wp_in _ (List.mem_of_getElem? (i := 55) rfl), rfl⟩)) rfl⟩
theorem so_X12_bodyFor : vwCl[12]? = some (yX12_bodyFor.cls, TX12, 50) := rfl
set_option maxRecDepth 100000 in
theorem cw_X12_normalizes : Cond.code yX12_normalizes cX12_normalizes 5 (some .boolean) ∈ wt := wt_tbl (t1_5 (List.mem_of_getElem? (i := 212) rfl)) rfl
theorem sy_X12_normalizes : zY yX12_normalizes cX12_normalizes 5 (some .boolean) 2 := ⟨cw_X12_normalizes, (wl7_in _ (List.mem_of_getElem? (i := 38) rfl)), ⟨by decide, by decide, by decide +kernel⟩, by decide⟩
theorem si_X12_normalizes : Cond.instanceMethod yX12_normalizes ∈ wt ∧ Cond.selects yX12_normalizes.cls yX12_normalizes yX12_normalizes ∈ wt := ⟨(wl11_in _ (List.mem_of_getElem? (i := 35) rfl)), wt_in (List.mem_append_left _ (List.mem_map.mpr ⟨(yX12_normalizes, 50), wp_in _ (List.mem_of_getElem? (i := 51) rfl), rfl⟩)) rfl⟩
theorem so_X12_normalizes : vwCl[12]? = some (yX12_normalizes.cls, TX12, 50) := rfl
set_option maxRecDepth 100000 in
theorem cw_X12_makesNormal : Cond.code yX12_makesNormal cX12_makesNormal 5 (some .boolean) ∈ wt := wt_tbl (t1_5 (List.mem_of_getElem? (i := 200) rfl)) rfl
theorem sy_X12_makesNormal : zY yX12_makesNormal cX12_makesNormal 5 (some .boolean) 2 := ⟨cw_X12_makesNormal, (wl7_in _ (List.mem_of_getElem? (i := 38) rfl)), ⟨by decide, by decide, by decide +kernel⟩, by decide⟩
theorem si_X12_makesNormal : Cond.instanceMethod yX12_makesNormal ∈ wt ∧ Cond.selects yX12_makesNormal.cls yX12_makesNormal yX12_makesNormal ∈ wt := ⟨(wl11_in _ (List.mem_of_getElem? (i := 36) rfl)), wt_in (List.mem_append_left _ (List.mem_map.mpr ⟨(yX12_makesNormal, 50), wp_in _ (List.mem_of_getElem? (i := 48) rfl), rfl⟩)) rfl⟩
theorem so_X12_makesNormal : vwCl[12]? = some (yX12_makesNormal.cls, TX12, 50) := rfl
set_option maxRecDepth 100000 in
theorem cw_X12_normal : Cond.code yX12_normal cX12_normal 3 (some .int) ∈ wt := wt_tbl (t1_5 (List.mem_of_getElem? (i := 196) rfl)) rfl
theorem sy_X12_normal : zY yX12_normal cX12_normal 3 (some .int) 2 := ⟨cw_X12_normal, (wl7_in _ (List.mem_of_getElem? (i := 38) rfl)), ⟨by decide, by decide, by decide +kernel⟩, by decide⟩
theorem si_X12_normal : Cond.instanceMethod yX12_normal ∈ wt ∧ Cond.selects yX12_normal.cls yX12_normal yX12_normal ∈ wt := ⟨(wl11_in _ (List.mem_of_getElem? (i := 37) rfl)), (wl11_in _ (List.mem_of_getElem? (i := 38) rfl))⟩
theorem so_X12_normal : vwCl[12]? = some (yX12_normal.cls, TX12, 50) := rfl
set_option maxRecDepth 100000 in
theorem cw_X12_callsIn : Cond.code yX12_callsIn cX12_callsIn 7 (some .int) ∈ wt := wt_tbl (t1_6 (List.mem_of_getElem? (i := 0) rfl)) rfl
theorem sy_X12_callsIn : zY yX12_callsIn cX12_callsIn 7 (some .int) 3 := ⟨cw_X12_callsIn, (wl7_in _ (List.mem_of_getElem? (i := 38) rfl)), ⟨by decide, by decide, by decide +kernel⟩, by decide⟩
theorem si_X12_callsIn : Cond.instanceMethod yX12_callsIn ∈ wt ∧ Cond.selects yX12_callsIn.cls yX12_callsIn yX12_callsIn ∈ wt := ⟨(wl11_in _ (List.mem_of_getElem? (i := 39) rfl)), wt_in (List.mem_append_left _ (List.mem_map.mpr ⟨(yX12_callsIn, 50), wp_in _ (List.mem_of_getElem? (i := 57) rfl), rfl⟩)) rfl⟩
theorem so_X12_callsIn : vwCl[12]? = some (yX12_callsIn.cls, TX12, 50) := rfl
set_option maxRecDepth 100000 in
theorem cw_X12_findScheme : Cond.code yX12_findScheme cX12_findScheme 6 (some .boolean) ∈ wt := wt_tbl (t1_5 (List.mem_of_getElem? (i := 236) rfl)) rfl
theorem sy_X12_findScheme : zY yX12_findScheme cX12_findScheme 6 (some .boolean) 2 := ⟨cw_X12_findScheme, (wl7_in _ (List.mem_of_getElem? (i := 38) rfl)), ⟨by decide, by decide, by decide +kernel⟩, by decide⟩
theorem si_X12_findScheme : Cond.instanceMethod yX12_findScheme ∈ wt ∧ Cond.selects yX12_findScheme.cls yX12_findScheme yX12_findScheme ∈ wt := ⟨(wl11_in _ (List.mem_of_getElem? (i := 40) rfl)), wt_in (List.mem_append_left _ (List.mem_map.mpr ⟨(yX12_findScheme, 50), wp_in _ (List.mem_of_getElem? (i := 56) rfl), rfl⟩)) rfl⟩
theorem so_X12_findScheme : vwCl[12]? = some (yX12_findScheme.cls, TX12, 50) := rfl
set_option maxRecDepth 100000 in
theorem cw_X12_scheme : Cond.code yX12_scheme cX12_scheme 2 (some .int) ∈ wt := wt_tbl (t1_5 (List.mem_of_getElem? (i := 232) rfl)) rfl
theorem sy_X12_scheme : zY yX12_scheme cX12_scheme 2 (some .int) 1 := ⟨cw_X12_scheme, (wl7_in _ (List.mem_of_getElem? (i := 38) rfl)), ⟨by decide, by decide, by decide +kernel⟩, by decide⟩
theorem si_X12_scheme : Cond.instanceMethod yX12_scheme ∈ wt ∧ Cond.selects yX12_scheme.cls yX12_scheme yX12_scheme ∈ wt := ⟨(wl11_in _ (List.mem_of_getElem? (i := 41) rfl)), (wl11_in _ (List.mem_of_getElem? (i := 42) rfl))⟩
theorem so_X12_scheme : vwCl[12]? = some (yX12_scheme.cls, TX12, 50) := rfl
set_option maxRecDepth 100000 in
theorem cw_X12_findDeep : Cond.code yX12_findDeep cX12_findDeep 4 none ∈ wt := wt_tbl (t1_6 (List.mem_of_getElem? (i := 15) rfl)) rfl
theorem sy_X12_findDeep : zY yX12_findDeep cX12_findDeep 4 none 1 := ⟨cw_X12_findDeep, (wl7_in _ (List.mem_of_getElem? (i := 38) rfl)), ⟨by decide, by decide, by decide +kernel⟩, by decide⟩
theorem si_X12_findDeep : Cond.instanceMethod yX12_findDeep ∈ wt ∧ Cond.selects yX12_findDeep.cls yX12_findDeep yX12_findDeep ∈ wt := ⟨(wl11_in _ (List.mem_of_getElem? (i := 43) rfl)), wt_in (List.mem_append_left _ (List.mem_map.mpr ⟨(yX12_findDeep, 50), wp_in _ (List.mem_of_getElem? (i := 59) rfl), rfl⟩)) rfl⟩
theorem so_X12_findDeep : vwCl[12]? = some (yX12_findDeep.cls, TX12, 50) := rfl
set_option maxRecDepth 100000 in
theorem cw_X12_atMost : Cond.code yX12_atMost cX12_atMost 2 (some .int) ∈ wt := wt_tbl (t1_6 (List.mem_of_getElem? (i := 32) rfl)) rfl
theorem sy_X12_atMost : zY yX12_atMost cX12_atMost 2 (some .int) 1 := ⟨cw_X12_atMost, (wl7_in _ (List.mem_of_getElem? (i := 38) rfl)), ⟨by decide, by decide, by decide +kernel⟩, by decide⟩
theorem si_X12_atMost : Cond.instanceMethod yX12_atMost ∈ wt ∧ Cond.selects yX12_atMost.cls yX12_atMost yX12_atMost ∈ wt := ⟨(wl11_in _ (List.mem_of_getElem? (i := 44) rfl)), wt_in (List.mem_append_left _ (List.mem_map.mpr ⟨(yX12_atMost, 50), wp_in _ (List.mem_of_getElem? (i := 63) rfl), rfl⟩)) rfl⟩
theorem so_X12_atMost : vwCl[12]? = some (yX12_atMost.cls, TX12, 50) := rfl
set_option maxRecDepth 100000 in
theorem cw_X12_heldAt : Cond.code yX12_heldAt cX12_heldAt 9 (some .int) ∈ wt := wt_tbl (t1_6 (List.mem_of_getElem? (i := 27) rfl)) rfl
theorem sy_X12_heldAt : zY yX12_heldAt cX12_heldAt 9 (some .int) 4 := ⟨cw_X12_heldAt, (wl7_in _ (List.mem_of_getElem? (i := 38) rfl)), ⟨by decide, by decide, by decide +kernel⟩, by decide⟩
theorem si_X12_heldAt : Cond.instanceMethod yX12_heldAt ∈ wt ∧ Cond.selects yX12_heldAt.cls yX12_heldAt yX12_heldAt ∈ wt := ⟨(wl11_in _ (List.mem_of_getElem? (i := 45) rfl)), wt_in (List.mem_append_left _ (List.mem_map.mpr ⟨(yX12_heldAt, 50), wp_in _ (List.mem_of_getElem? (i := 62) rfl), rfl⟩)) rfl⟩
theorem so_X12_heldAt : vwCl[12]? = some (yX12_heldAt.cls, TX12, 50) := rfl
set_option maxRecDepth 100000 in
theorem cw_X12_differenceOf : Cond.code yX12_differenceOf cX12_differenceOf 5 (some .int) ∈ wt := wt_tbl (t1_6 (List.mem_of_getElem? (i := 11) rfl)) rfl
theorem sy_X12_differenceOf : zY yX12_differenceOf cX12_differenceOf 5 (some .int) 2 := ⟨cw_X12_differenceOf, (wl7_in _ (List.mem_of_getElem? (i := 38) rfl)), ⟨by decide, by decide, by decide +kernel⟩, by decide⟩
theorem si_X12_differenceOf : Cond.instanceMethod yX12_differenceOf ∈ wt ∧ Cond.selects yX12_differenceOf.cls yX12_differenceOf yX12_differenceOf ∈ wt := ⟨(wl11_in _ (List.mem_of_getElem? (i := 46) rfl)), wt_in (List.mem_append_left _ (List.mem_map.mpr ⟨(yX12_differenceOf, 50), wp_in _ (List.mem_of_getElem? (i := 58) rfl), rfl⟩)) rfl⟩
theorem so_X12_differenceOf : vwCl[12]? = some (yX12_differenceOf.cls, TX12, 50) := rfl
set_option maxRecDepth 100000 in
theorem cw_X12_difference : Cond.code yX12_difference cX12_difference 2 (some .int) ∈ wt := wt_tbl (t1_6 (List.mem_of_getElem? (i := 7) rfl)) rfl
theorem sy_X12_difference : zY yX12_difference cX12_difference 2 (some .int) 0 := ⟨cw_X12_difference, (wl7_in _ (List.mem_of_getElem? (i := 38) rfl)), ⟨by decide, by decide, by decide +kernel⟩, by decide⟩
theorem si_X12_difference : Cond.instanceMethod yX12_difference ∈ wt ∧ Cond.selects yX12_difference.cls yX12_difference yX12_difference ∈ wt := ⟨(wl11_in _ (List.mem_of_getElem? (i := 47) rfl)), (wl11_in _ (List.mem_of_getElem? (i := 48) rfl))⟩
theorem so_X12_difference : vwCl[12]? = some (yX12_difference.cls, TX12, 50) := rfl
set_option maxRecDepth 100000 in
theorem cw_X12_binds : Cond.code yX12_binds cX12_binds 5 (some .boolean) ∈ wt := wt_tbl (t1_6 (List.mem_of_getElem? (i := 56) rfl)) rfl
theorem sy_X12_binds : zY yX12_binds cX12_binds 5 (some .boolean) 3 := ⟨cw_X12_binds, (wl7_in _ (List.mem_of_getElem? (i := 38) rfl)), ⟨by decide, by decide, by decide +kernel⟩, by decide⟩
theorem si_X12_binds : Cond.instanceMethod yX12_binds ∈ wt ∧ Cond.selects yX12_binds.cls yX12_binds yX12_binds ∈ wt := ⟨(wl11_in _ (List.mem_of_getElem? (i := 49) rfl)), wt_in (List.mem_append_left _ (List.mem_map.mpr ⟨(yX12_binds, 50), wp_in _ (List.mem_of_getElem? (i := 68) rfl), rfl⟩)) rfl⟩
theorem so_X12_binds : vwCl[12]? = some (yX12_binds.cls, TX12, 50) := rfl
set_option maxRecDepth 100000 in
theorem cw_X12_matches : Cond.code yX12_matches cX12_matches 8 (some .boolean) ∈ wt := wt_tbl (t1_6 (List.mem_of_getElem? (i := 52) rfl)) rfl
theorem sy_X12_matches : zY yX12_matches cX12_matches 8 (some .boolean) 4 := ⟨cw_X12_matches, (wl7_in _ (List.mem_of_getElem? (i := 38) rfl)), ⟨by decide, by decide, by decide +kernel⟩, by decide⟩
theorem si_X12_matches : Cond.instanceMethod yX12_matches ∈ wt ∧ Cond.selects yX12_matches.cls yX12_matches yX12_matches ∈ wt := ⟨(wl11_in _ (List.mem_of_getElem? (i := 50) rfl)), wt_in (List.mem_append_left _ (List.mem_map.mpr ⟨(yX12_matches, 50), wp_in _ (List.mem_of_getElem? (i := 67) rfl), rfl⟩)) rfl⟩
theorem so_X12_matches : vwCl[12]? = some (yX12_matches.cls, TX12, 50) := rfl
set_option maxRecDepth 100000 in
theorem cw_X12_longWith : Cond.code yX12_longWith cX12_longWith 5 (some .int) ∈ wt := wt_tbl (t1_6 (List.mem_of_getElem? (i := 68) rfl)) rfl
theorem sy_X12_longWith : zY yX12_longWith cX12_longWith 5 (some .int) 1 := ⟨cw_X12_longWith, (wl7_in _ (List.mem_of_getElem? (i := 38) rfl)), ⟨by decide, by decide, by decide +kernel⟩, by decide⟩
theorem si_X12_longWith : Cond.instanceMethod yX12_longWith ∈ wt ∧ Cond.selects yX12_longWith.cls yX12_longWith yX12_longWith ∈ wt := ⟨(wl11_in _ (List.mem_of_getElem? (i := 51) rfl)), wt_in (List.mem_append_left _ (List.mem_map.mpr ⟨(yX12_longWith, 50), wp_in _ (List.mem_of_getElem? (i := 71) rfl), rfl⟩)) rfl⟩
theorem so_X12_longWith : vwCl[12]? = some (yX12_longWith.cls, TX12, 50) := rfl
set_option maxRecDepth 100000 in
theorem cw_X12_replaces : Cond.code yX12_replaces cX12_replaces 8 (some .boolean) ∈ wt := wt_tbl (t1_6 (List.mem_of_getElem? (i := 64) rfl)) rfl
theorem sy_X12_replaces : zY yX12_replaces cX12_replaces 8 (some .boolean) 3 := ⟨cw_X12_replaces, (wl7_in _ (List.mem_of_getElem? (i := 38) rfl)), ⟨by decide, by decide, by decide +kernel⟩, by decide⟩
theorem si_X12_replaces : Cond.instanceMethod yX12_replaces ∈ wt ∧ Cond.selects yX12_replaces.cls yX12_replaces yX12_replaces ∈ wt := ⟨(wl11_in _ (List.mem_of_getElem? (i := 52) rfl)), wt_in (List.mem_append_left _ (List.mem_map.mpr ⟨(yX12_replaces, 50), wp_in _ (List.mem_of_getElem? (i := 70) rfl), rfl⟩)) rfl⟩
theorem so_X12_replaces : vwCl[12]? = some (yX12_replaces.cls, TX12, 50) := rfl
set_option maxRecDepth 100000 in
theorem cw_X12_isPattern : Cond.code yX12_isPattern cX12_isPattern 4 (some .boolean) ∈ wt := wt_tbl (t1_6 (List.mem_of_getElem? (i := 48) rfl)) rfl
theorem sy_X12_isPattern : zY yX12_isPattern cX12_isPattern 4 (some .boolean) 2 := ⟨cw_X12_isPattern, (wl7_in _ (List.mem_of_getElem? (i := 38) rfl)), ⟨by decide, by decide, by decide +kernel⟩, by decide⟩
theorem si_X12_isPattern : Cond.instanceMethod yX12_isPattern ∈ wt ∧ Cond.selects yX12_isPattern.cls yX12_isPattern yX12_isPattern ∈ wt := ⟨(wl11_in _ (List.mem_of_getElem? (i := 53) rfl)), wt_in (List.mem_append_left _ (List.mem_map.mpr ⟨(yX12_isPattern, 50), wp_in _ (List.mem_of_getElem? (i := 66) rfl), rfl⟩)) rfl⟩
theorem so_X12_isPattern : vwCl[12]? = some (yX12_isPattern.cls, TX12, 50) := rfl
set_option maxRecDepth 100000 in
theorem cw_X12_steersOnce : Cond.code yX12_steersOnce cX12_steersOnce 9 (some .boolean) ∈ wt := wt_tbl (t1_6 (List.mem_of_getElem? (i := 44) rfl)) rfl
theorem sy_X12_steersOnce : zY yX12_steersOnce cX12_steersOnce 9 (some .boolean) 3 := ⟨cw_X12_steersOnce, (wl7_in _ (List.mem_of_getElem? (i := 38) rfl)), ⟨by decide, by decide, by decide +kernel⟩, by decide⟩
theorem si_X12_steersOnce : Cond.instanceMethod yX12_steersOnce ∈ wt ∧ Cond.selects yX12_steersOnce.cls yX12_steersOnce yX12_steersOnce ∈ wt := ⟨(wl11_in _ (List.mem_of_getElem? (i := 54) rfl)), wt_in (List.mem_append_left _ (List.mem_map.mpr ⟨(yX12_steersOnce, 50), wp_in _ (List.mem_of_getElem? (i := 65) rfl), rfl⟩)) rfl⟩
theorem so_X12_steersOnce : vwCl[12]? = some (yX12_steersOnce.cls, TX12, 50) := rfl
set_option maxRecDepth 100000 in
theorem cw_X12_steers : Cond.code yX12_steers cX12_steers 5 none ∈ wt := wt_tbl (t1_6 (List.mem_of_getElem? (i := 40) rfl)) rfl
theorem sy_X12_steers : zY yX12_steers cX12_steers 5 none 3 := ⟨cw_X12_steers, (wl7_in _ (List.mem_of_getElem? (i := 38) rfl)), ⟨by decide, by decide, by decide +kernel⟩, by decide⟩
theorem si_X12_steers : Cond.instanceMethod yX12_steers ∈ wt ∧ Cond.selects yX12_steers.cls yX12_steers yX12_steers ∈ wt := ⟨(wl11_in _ (List.mem_of_getElem? (i := 55) rfl)), wt_in (List.mem_append_left _ (List.mem_map.mpr ⟨(yX12_steers, 50), wp_in _ (List.mem_of_getElem? (i := 64) rfl), rfl⟩)) rfl⟩
theorem so_X12_steers : vwCl[12]? = some (yX12_steers.cls, TX12, 50) := rfl
set_option maxRecDepth 100000 in
theorem cw_X12_steered : Cond.code yX12_steered cX12_steered 2 (some .int) ∈ wt := wt_tbl (t1_6 (List.mem_of_getElem? (i := 36) rfl)) rfl
theorem sy_X12_steered : zY yX12_steered cX12_steered 2 (some .int) 1 := ⟨cw_X12_steered, (wl7_in _ (List.mem_of_getElem? (i := 38) rfl)), ⟨by decide, by decide, by decide +kernel⟩, by decide⟩
theorem si_X12_steered : Cond.instanceMethod yX12_steered ∈ wt ∧ Cond.selects yX12_steered.cls yX12_steered yX12_steered ∈ wt := ⟨(wl11_in _ (List.mem_of_getElem? (i := 56) rfl)), (wl11_in _ (List.mem_of_getElem? (i := 57) rfl))⟩
theorem so_X12_steered : vwCl[12]? = some (yX12_steered.cls, TX12, 50) := rfl
set_option maxRecDepth 100000 in
theorem cw_X12_isPartOf : Cond.code yX12_isPartOf cX12_isPartOf 6 (some .boolean) ∈ wt := wt_tbl (t1_6 (List.mem_of_getElem? (i := 84) rfl)) rfl
theorem sy_X12_isPartOf : zY yX12_isPartOf cX12_isPartOf 6 (some .boolean) 4 := ⟨cw_X12_isPartOf, (wl7_in _ (List.mem_of_getElem? (i := 38) rfl)), ⟨by decide, by decide, by decide +kernel⟩, by decide⟩
theorem si_X12_isPartOf : Cond.instanceMethod yX12_isPartOf ∈ wt ∧ Cond.selects yX12_isPartOf.cls yX12_isPartOf yX12_isPartOf ∈ wt := ⟨(wl11_in _ (List.mem_of_getElem? (i := 58) rfl)), wt_in (List.mem_append_left _ (List.mem_map.mpr ⟨(yX12_isPartOf, 50), wp_in _ (List.mem_of_getElem? (i := 74) rfl), rfl⟩)) rfl⟩
theorem so_X12_isPartOf : vwCl[12]? = some (yX12_isPartOf.cls, TX12, 50) := rfl
set_option maxRecDepth 100000 in
theorem cw_X12_findCommon : Cond.code yX12_findCommon cX12_findCommon 5 (some .boolean) ∈ wt := wt_tbl (t1_6 (List.mem_of_getElem? (i := 80) rfl)) rfl
theorem sy_X12_findCommon : zY yX12_findCommon cX12_findCommon 5 (some .boolean) 2 := ⟨cw_X12_findCommon, (wl7_in _ (List.mem_of_getElem? (i := 38) rfl)), ⟨by decide, by decide, by decide +kernel⟩, by decide⟩
theorem si_X12_findCommon : Cond.instanceMethod yX12_findCommon ∈ wt ∧ Cond.selects yX12_findCommon.cls yX12_findCommon yX12_findCommon ∈ wt := ⟨(wl11_in _ (List.mem_of_getElem? (i := 59) rfl)), wt_in (List.mem_append_left _ (List.mem_map.mpr ⟨(yX12_findCommon, 50), wp_in _ (List.mem_of_getElem? (i := 73) rfl), rfl⟩)) rfl⟩
theorem so_X12_findCommon : vwCl[12]? = some (yX12_findCommon.cls, TX12, 50) := rfl
set_option maxRecDepth 100000 in
theorem cw_X12_common : Cond.code yX12_common cX12_common 2 (some .int) ∈ wt := wt_tbl (t1_6 (List.mem_of_getElem? (i := 76) rfl)) rfl
theorem sy_X12_common : zY yX12_common cX12_common 2 (some .int) 1 := ⟨cw_X12_common, (wl7_in _ (List.mem_of_getElem? (i := 38) rfl)), ⟨by decide, by decide, by decide +kernel⟩, by decide⟩
theorem si_X12_common : Cond.instanceMethod yX12_common ∈ wt ∧ Cond.selects yX12_common.cls yX12_common yX12_common ∈ wt := ⟨(wl12_in _ (List.mem_of_getElem? (i := 0) rfl)), (wl12_in _ (List.mem_of_getElem? (i := 1) rfl))⟩
theorem so_X12_common : vwCl[12]? = some (yX12_common.cls, TX12, 50) := rfl
set_option maxRecDepth 100000 in
theorem cw_X12_generalizes : Cond.code yX12_generalizes cX12_generalizes 7 none ∈ wt := wt_tbl (t1_6 (List.mem_of_getElem? (i := 96) rfl)) rfl
theorem sy_X12_generalizes : zY yX12_generalizes cX12_generalizes 7 none 4 := ⟨cw_X12_generalizes, (wl7_in _ (List.mem_of_getElem? (i := 38) rfl)), ⟨by decide, by decide, by decide +kernel⟩, by decide⟩
theorem si_X12_generalizes : Cond.instanceMethod yX12_generalizes ∈ wt ∧ Cond.selects yX12_generalizes.cls yX12_generalizes yX12_generalizes ∈ wt := ⟨(wl12_in _ (List.mem_of_getElem? (i := 2) rfl)), wt_in (List.mem_append_left _ (List.mem_map.mpr ⟨(yX12_generalizes, 50), wp_in _ (List.mem_of_getElem? (i := 76) rfl), rfl⟩)) rfl⟩
theorem so_X12_generalizes : vwCl[12]? = some (yX12_generalizes.cls, TX12, 50) := rfl
set_option maxRecDepth 100000 in
theorem cw_X12_makesGeneral : Cond.code yX12_makesGeneral cX12_makesGeneral 4 (some .int) ∈ wt := wt_tbl (t1_6 (List.mem_of_getElem? (i := 92) rfl)) rfl
theorem sy_X12_makesGeneral : zY yX12_makesGeneral cX12_makesGeneral 4 (some .int) 2 := ⟨cw_X12_makesGeneral, (wl7_in _ (List.mem_of_getElem? (i := 38) rfl)), ⟨by decide, by decide, by decide +kernel⟩, by decide⟩
theorem si_X12_makesGeneral : Cond.instanceMethod yX12_makesGeneral ∈ wt ∧ Cond.selects yX12_makesGeneral.cls yX12_makesGeneral yX12_makesGeneral ∈ wt := ⟨(wl12_in _ (List.mem_of_getElem? (i := 3) rfl)), wt_in (List.mem_append_left _ (List.mem_map.mpr ⟨(yX12_makesGeneral, 50), wp_in _ (List.mem_of_getElem? (i := 75) rfl), rfl⟩)) rfl⟩
theorem so_X12_makesGeneral : vwCl[12]? = some (yX12_makesGeneral.cls, TX12, 50) := rfl
set_option maxRecDepth 100000 in
theorem cw_X12_general : Cond.code yX12_general cX12_general 3 (some .int) ∈ wt := wt_tbl (t1_6 (List.mem_of_getElem? (i := 88) rfl)) rfl
theorem sy_X12_general : zY yX12_general cX12_general 3 (some .int) 2 := ⟨cw_X12_general, (wl7_in _ (List.mem_of_getElem? (i := 38) rfl)), ⟨by decide, by decide, by decide +kernel⟩, by decide⟩
theorem si_X12_general : Cond.instanceMethod yX12_general ∈ wt ∧ Cond.selects yX12_general.cls yX12_general yX12_general ∈ wt := ⟨(wl12_in _ (List.mem_of_getElem? (i := 4) rfl)), (wl12_in _ (List.mem_of_getElem? (i := 5) rfl))⟩
theorem so_X12_general : vwCl[12]? = some (yX12_general.cls, TX12, 50) := rfl
set_option maxRecDepth 100000 in
theorem cw_X12_notesIt : Cond.code yX12_notesIt cX12_notesIt 3 none ∈ wt := wt_tbl (t1_6 (List.mem_of_getElem? (i := 72) rfl)) rfl
theorem sy_X12_notesIt : zY yX12_notesIt cX12_notesIt 3 none 2 := ⟨cw_X12_notesIt, (wl7_in _ (List.mem_of_getElem? (i := 38) rfl)), ⟨by decide, by decide, by decide +kernel⟩, by decide⟩
theorem si_X12_notesIt : Cond.instanceMethod yX12_notesIt ∈ wt ∧ Cond.selects yX12_notesIt.cls yX12_notesIt yX12_notesIt ∈ wt := ⟨(wl12_in _ (List.mem_of_getElem? (i := 6) rfl)), wt_in (List.mem_append_left _ (List.mem_map.mpr ⟨(yX12_notesIt, 50), wp_in _ (List.mem_of_getElem? (i := 72) rfl), rfl⟩)) rfl⟩
theorem so_X12_notesIt : vwCl[12]? = some (yX12_notesIt.cls, TX12, 50) := rfl
set_option maxRecDepth 100000 in
theorem cw_X12_slotOf : Cond.code yX12_slotOf cX12_slotOf 3 (some .int) ∈ wt := wt_tbl (t1_6 (List.mem_of_getElem? (i := 104) rfl)) rfl
theorem sy_X12_slotOf : zY yX12_slotOf cX12_slotOf 3 (some .int) 2 := ⟨cw_X12_slotOf, (wl7_in _ (List.mem_of_getElem? (i := 38) rfl)), ⟨by decide, by decide, by decide +kernel⟩, by decide⟩
theorem si_X12_slotOf : Cond.instanceMethod yX12_slotOf ∈ wt ∧ Cond.selects yX12_slotOf.cls yX12_slotOf yX12_slotOf ∈ wt := ⟨(wl12_in _ (List.mem_of_getElem? (i := 7) rfl)), wt_in (List.mem_append_left _ (List.mem_map.mpr ⟨(yX12_slotOf, 50), wp_in _ (List.mem_of_getElem? (i := 77) rfl), rfl⟩)) rfl⟩
theorem so_X12_slotOf : vwCl[12]? = some (yX12_slotOf.cls, TX12, 50) := rfl
set_option maxRecDepth 100000 in
theorem cw_X12_fails : Cond.code yX12_fails cX12_fails 3 (some .int) ∈ wt := wt_tbl (t1_6 (List.mem_of_getElem? (i := 112) rfl)) rfl
theorem sy_X12_fails : zY yX12_fails cX12_fails 3 (some .int) 2 := ⟨cw_X12_fails, (wl7_in _ (List.mem_of_getElem? (i := 38) rfl)), ⟨by decide, by decide, by decide +kernel⟩, by decide⟩
theorem si_X12_fails : Cond.instanceMethod yX12_fails ∈ wt ∧ Cond.selects yX12_fails.cls yX12_fails yX12_fails ∈ wt := ⟨(wl12_in _ (List.mem_of_getElem? (i := 8) rfl)), wt_in (List.mem_append_left _ (List.mem_map.mpr ⟨(yX12_fails, 50), wp_in _ (List.mem_of_getElem? (i := 79) rfl), rfl⟩)) rfl⟩
theorem so_X12_fails : vwCl[12]? = some (yX12_fails.cls, TX12, 50) := rfl
set_option maxRecDepth 100000 in
theorem cw_X12_isLemma : Cond.code yX12_isLemma cX12_isLemma 4 (some .boolean) ∈ wt := wt_tbl (t1_6 (List.mem_of_getElem? (i := 124) rfl)) rfl
theorem sy_X12_isLemma : zY yX12_isLemma cX12_isLemma 4 (some .boolean) 2 := ⟨cw_X12_isLemma, (wl7_in _ (List.mem_of_getElem? (i := 38) rfl)), ⟨by decide, by decide, by decide +kernel⟩, by decide⟩
theorem si_X12_isLemma : Cond.instanceMethod yX12_isLemma ∈ wt ∧ Cond.selects yX12_isLemma.cls yX12_isLemma yX12_isLemma ∈ wt := ⟨(wl12_in _ (List.mem_of_getElem? (i := 9) rfl)), wt_in (List.mem_append_left _ (List.mem_map.mpr ⟨(yX12_isLemma, 50), wp_in _ (List.mem_of_getElem? (i := 82) rfl), rfl⟩)) rfl⟩
theorem so_X12_isLemma : vwCl[12]? = some (yX12_isLemma.cls, TX12, 50) := rfl
set_option maxRecDepth 100000 in
theorem cw_X12_proves : Cond.code yX12_proves cX12_proves 3 (some .int) ∈ wt := wt_tbl (t1_6 (List.mem_of_getElem? (i := 120) rfl)) rfl
theorem sy_X12_proves : zY yX12_proves cX12_proves 3 (some .int) 0 := ⟨cw_X12_proves, (wl7_in _ (List.mem_of_getElem? (i := 38) rfl)), ⟨by decide, by decide, by decide +kernel⟩, by decide⟩
theorem si_X12_proves : Cond.instanceMethod yX12_proves ∈ wt ∧ Cond.selects yX12_proves.cls yX12_proves yX12_proves ∈ wt := ⟨(wl12_in _ (List.mem_of_getElem? (i := 10) rfl)), wt_in (List.mem_append_left _ (List.mem_map.mpr ⟨(yX12_proves, 50), wp_in _ (List.mem_of_getElem? (i := 81) rfl), rfl⟩)) rfl⟩
theorem so_X12_proves : vwCl[12]? = some (yX12_proves.cls, TX12, 50) := rfl
set_option maxRecDepth 100000 in
theorem cw_X12_begins : Cond.code yX12_begins cX12_begins 3 (some .int) ∈ wt := wt_tbl (t1_6 (List.mem_of_getElem? (i := 108) rfl)) rfl
theorem sy_X12_begins : zY yX12_begins cX12_begins 3 (some .int) 0 := ⟨cw_X12_begins, (wl7_in _ (List.mem_of_getElem? (i := 38) rfl)), ⟨by decide, by decide, by decide +kernel⟩, by decide⟩
theorem si_X12_begins : Cond.instanceMethod yX12_begins ∈ wt ∧ Cond.selects yX12_begins.cls yX12_begins yX12_begins ∈ wt := ⟨(wl12_in _ (List.mem_of_getElem? (i := 11) rfl)), wt_in (List.mem_append_left _ (List.mem_map.mpr ⟨(yX12_begins, 50), wp_in _ (List.mem_of_getElem? (i := 78) rfl), rfl⟩)) rfl⟩
theorem so_X12_begins : vwCl[12]? = some (yX12_begins.cls, TX12, 50) := rfl
set_option maxRecDepth 100000 in
theorem cw_X12_takesCase : Cond.code yX12_takesCase cX12_takesCase 9 none ∈ wt := wt_tbl (t1_6 (List.mem_of_getElem? (i := 132) rfl)) rfl
theorem sy_X12_takesCase : zY yX12_takesCase cX12_takesCase 9 none 1 := ⟨cw_X12_takesCase, (wl7_in _ (List.mem_of_getElem? (i := 38) rfl)), ⟨by decide, by decide, by decide +kernel⟩, by decide⟩
theorem si_X12_takesCase : Cond.instanceMethod yX12_takesCase ∈ wt ∧ Cond.selects yX12_takesCase.cls yX12_takesCase yX12_takesCase ∈ wt := ⟨(wl12_in _ (List.mem_of_getElem? (i := 12) rfl)), wt_in (List.mem_append_left _ (List.mem_map.mpr ⟨(yX12_takesCase, 50), wp_in _ (List.mem_of_getElem? (i := 84) rfl), rfl⟩)) rfl⟩
theorem so_X12_takesCase : vwCl[12]? = some (yX12_takesCase.cls, TX12, 50) := rfl
set_option maxRecDepth 100000 in
theorem cw_X12_normalGoal : Cond.code yX12_normalGoal cX12_normalGoal 1 (some .boolean) ∈ wt := wt_tbl (t1_6 (List.mem_of_getElem? (i := 136) rfl)) rfl
theorem sy_X12_normalGoal : zY yX12_normalGoal cX12_normalGoal 1 (some .boolean) 0 := ⟨cw_X12_normalGoal, (wl7_in _ (List.mem_of_getElem? (i := 38) rfl)), ⟨by decide, by decide, by decide +kernel⟩, by decide⟩
theorem si_X12_normalGoal : Cond.instanceMethod yX12_normalGoal ∈ wt ∧ Cond.selects yX12_normalGoal.cls yX12_normalGoal yX12_normalGoal ∈ wt := ⟨(wl12_in _ (List.mem_of_getElem? (i := 13) rfl)), wt_in (List.mem_append_left _ (List.mem_map.mpr ⟨(yX12_normalGoal, 50), wp_in _ (List.mem_of_getElem? (i := 85) rfl), rfl⟩)) rfl⟩
theorem so_X12_normalGoal : vwCl[12]? = some (yX12_normalGoal.cls, TX12, 50) := rfl
set_option maxRecDepth 100000 in
theorem cw_X12_usesClaim : Cond.code yX12_usesClaim cX12_usesClaim 4 (some .int) ∈ wt := wt_tbl (t1_6 (List.mem_of_getElem? (i := 144) rfl)) rfl
theorem sy_X12_usesClaim : zY yX12_usesClaim cX12_usesClaim 4 (some .int) 1 := ⟨cw_X12_usesClaim, (wl7_in _ (List.mem_of_getElem? (i := 38) rfl)), ⟨by decide, by decide, by decide +kernel⟩, by decide⟩
theorem si_X12_usesClaim : Cond.instanceMethod yX12_usesClaim ∈ wt ∧ Cond.selects yX12_usesClaim.cls yX12_usesClaim yX12_usesClaim ∈ wt := ⟨(wl12_in _ (List.mem_of_getElem? (i := 14) rfl)), wt_in (List.mem_append_left _ (List.mem_map.mpr ⟨(yX12_usesClaim, 50), wp_in _ (List.mem_of_getElem? (i := 87) rfl), rfl⟩)) rfl⟩
theorem so_X12_usesClaim : vwCl[12]? = some (yX12_usesClaim.cls, TX12, 50) := rfl
set_option maxRecDepth 100000 in
theorem cw_X12_carries : Cond.code yX12_carries cX12_carries 2 (some .boolean) ∈ wt := wt_tbl (t1_6 (List.mem_of_getElem? (i := 140) rfl)) rfl
theorem sy_X12_carries : zY yX12_carries cX12_carries 2 (some .boolean) 0 := ⟨cw_X12_carries, (wl7_in _ (List.mem_of_getElem? (i := 38) rfl)), ⟨by decide, by decide, by decide +kernel⟩, by decide⟩
theorem si_X12_carries : Cond.instanceMethod yX12_carries ∈ wt ∧ Cond.selects yX12_carries.cls yX12_carries yX12_carries ∈ wt := ⟨(wl12_in _ (List.mem_of_getElem? (i := 15) rfl)), wt_in (List.mem_append_left _ (List.mem_map.mpr ⟨(yX12_carries, 50), wp_in _ (List.mem_of_getElem? (i := 86) rfl), rfl⟩)) rfl⟩
theorem so_X12_carries : vwCl[12]? = some (yX12_carries.cls, TX12, 50) := rfl
set_option maxRecDepth 100000 in
theorem cw_X12_guesses : Cond.code yX12_guesses cX12_guesses 4 (some .int) ∈ wt := wt_tbl (t1_6 (List.mem_of_getElem? (i := 148) rfl)) rfl
theorem sy_X12_guesses : zY yX12_guesses cX12_guesses 4 (some .int) 0 := ⟨cw_X12_guesses, (wl7_in _ (List.mem_of_getElem? (i := 38) rfl)), ⟨by decide, by decide, by decide +kernel⟩, by decide⟩
theorem si_X12_guesses : Cond.instanceMethod yX12_guesses ∈ wt ∧ Cond.selects yX12_guesses.cls yX12_guesses yX12_guesses ∈ wt := ⟨(wl12_in _ (List.mem_of_getElem? (i := 16) rfl)), wt_in (List.mem_append_left _ (List.mem_map.mpr ⟨(yX12_guesses, 50), wp_in _ (List.mem_of_getElem? (i := 88) rfl), rfl⟩)) rfl⟩
theorem so_X12_guesses : vwCl[12]? = some (yX12_guesses.cls, TX12, 50) := rfl
set_option maxRecDepth 100000 in
theorem cw_X12_nextCase : Cond.code yX12_nextCase cX12_nextCase 2 (some .int) ∈ wt := wt_tbl (t1_6 (List.mem_of_getElem? (i := 128) rfl)) rfl
theorem sy_X12_nextCase : zY yX12_nextCase cX12_nextCase 2 (some .int) 0 := ⟨cw_X12_nextCase, (wl7_in _ (List.mem_of_getElem? (i := 38) rfl)), ⟨by decide, by decide, by decide +kernel⟩, by decide⟩
theorem si_X12_nextCase : Cond.instanceMethod yX12_nextCase ∈ wt ∧ Cond.selects yX12_nextCase.cls yX12_nextCase yX12_nextCase ∈ wt := ⟨(wl12_in _ (List.mem_of_getElem? (i := 17) rfl)), wt_in (List.mem_append_left _ (List.mem_map.mpr ⟨(yX12_nextCase, 50), wp_in _ (List.mem_of_getElem? (i := 83) rfl), rfl⟩)) rfl⟩
theorem so_X12_nextCase : vwCl[12]? = some (yX12_nextCase.cls, TX12, 50) := rfl
set_option maxRecDepth 100000 in
theorem cw_X12_prove : Cond.code yX12_prove cX12_prove 3 (some .int) ∈ wt := wt_tbl (t1_6 (List.mem_of_getElem? (i := 100) rfl)) rfl
theorem sy_X12_prove : zY yX12_prove cX12_prove 3 (some .int) 0 := ⟨cw_X12_prove, (wl7_in _ (List.mem_of_getElem? (i := 38) rfl)), ⟨by decide, by decide, by decide +kernel⟩, by decide⟩
theorem si_X12_prove : Cond.instanceMethod yX12_prove ∈ wt ∧ Cond.selects yX12_prove.cls yX12_prove yX12_prove ∈ wt := ⟨(wl12_in _ (List.mem_of_getElem? (i := 18) rfl)), (wl12_in _ (List.mem_of_getElem? (i := 19) rfl))⟩
theorem so_X12_prove : vwCl[12]? = some (yX12_prove.cls, TX12, 50) := rfl
set_option maxRecDepth 100000 in
theorem cw_X12_why : Cond.code yX12_why cX12_why 2 (some .int) ∈ wt := wt_tbl (t1_6 (List.mem_of_getElem? (i := 152) rfl)) rfl
theorem sy_X12_why : zY yX12_why cX12_why 2 (some .int) 1 := ⟨cw_X12_why, (wl7_in _ (List.mem_of_getElem? (i := 38) rfl)), ⟨by decide, by decide, by decide +kernel⟩, by decide⟩
theorem si_X12_why : Cond.instanceMethod yX12_why ∈ wt ∧ Cond.selects yX12_why.cls yX12_why yX12_why ∈ wt := ⟨(wl12_in _ (List.mem_of_getElem? (i := 20) rfl)), (wl12_in _ (List.mem_of_getElem? (i := 21) rfl))⟩
theorem so_X12_why : vwCl[12]? = some (yX12_why.cls, TX12, 50) := rfl
set_option maxRecDepth 100000 in
theorem cw_X12_script : Cond.code yX12_script cX12_script 3 (some .int) ∈ wt := wt_tbl (t1_6 (List.mem_of_getElem? (i := 156) rfl)) rfl
theorem sy_X12_script : zY yX12_script cX12_script 3 (some .int) 2 := ⟨cw_X12_script, (wl7_in _ (List.mem_of_getElem? (i := 38) rfl)), ⟨by decide, by decide, by decide +kernel⟩, by decide⟩
theorem si_X12_script : Cond.instanceMethod yX12_script ∈ wt ∧ Cond.selects yX12_script.cls yX12_script yX12_script ∈ wt := ⟨(wl12_in _ (List.mem_of_getElem? (i := 22) rfl)), (wl12_in _ (List.mem_of_getElem? (i := 23) rfl))⟩
theorem so_X12_script : vwCl[12]? = some (yX12_script.cls, TX12, 50) := rfl
set_option maxRecDepth 100000 in
theorem cw_X12_isKnown : Cond.code yX12_isKnown cX12_isKnown 2 (some .boolean) ∈ wt := wt_tbl (t1_6 (List.mem_of_getElem? (i := 164) rfl)) rfl
theorem sy_X12_isKnown : zY yX12_isKnown cX12_isKnown 2 (some .boolean) 1 := ⟨cw_X12_isKnown, (wl7_in _ (List.mem_of_getElem? (i := 38) rfl)), ⟨by decide, by decide, by decide +kernel⟩, by decide⟩
theorem si_X12_isKnown : Cond.instanceMethod yX12_isKnown ∈ wt ∧ Cond.selects yX12_isKnown.cls yX12_isKnown yX12_isKnown ∈ wt := ⟨(wl12_in _ (List.mem_of_getElem? (i := 24) rfl)), wt_in (List.mem_append_left _ (List.mem_map.mpr ⟨(yX12_isKnown, 50), wp_in _ (List.mem_of_getElem? (i := 89) rfl), rfl⟩)) rfl⟩
theorem so_X12_isKnown : vwCl[12]? = some (yX12_isKnown.cls, TX12, 50) := rfl
set_option maxRecDepth 100000 in
theorem cw_X12_lemma : Cond.code yX12_lemma cX12_lemma 4 (some .int) ∈ wt := wt_tbl (t1_6 (List.mem_of_getElem? (i := 160) rfl)) rfl
theorem sy_X12_lemma : zY yX12_lemma cX12_lemma 4 (some .int) 3 := ⟨cw_X12_lemma, (wl7_in _ (List.mem_of_getElem? (i := 38) rfl)), ⟨by decide, by decide, by decide +kernel⟩, by decide⟩
theorem si_X12_lemma : Cond.instanceMethod yX12_lemma ∈ wt ∧ Cond.selects yX12_lemma.cls yX12_lemma yX12_lemma ∈ wt := ⟨(wl12_in _ (List.mem_of_getElem? (i := 25) rfl)), (wl12_in _ (List.mem_of_getElem? (i := 26) rfl))⟩
theorem so_X12_lemma : vwCl[12]? = some (yX12_lemma.cls, TX12, 50) := rfl
set_option maxRecDepth 100000 in
theorem cw_X12_tested : Cond.code yX12_tested cX12_tested 6 (some .int) ∈ wt := wt_tbl (t1_6 (List.mem_of_getElem? (i := 168) rfl)) rfl
theorem sy_X12_tested : zY yX12_tested cX12_tested 6 (some .int) 2 := ⟨cw_X12_tested, (wl7_in _ (List.mem_of_getElem? (i := 38) rfl)), ⟨by decide, by decide, by decide +kernel⟩, by decide⟩
theorem si_X12_tested : Cond.instanceMethod yX12_tested ∈ wt ∧ Cond.selects yX12_tested.cls yX12_tested yX12_tested ∈ wt := ⟨(wl12_in _ (List.mem_of_getElem? (i := 27) rfl)), (wl12_in _ (List.mem_of_getElem? (i := 28) rfl))⟩
theorem so_X12_tested : vwCl[12]? = some (yX12_tested.cls, TX12, 50) := rfl
set_option maxRecDepth 100000 in
theorem cw_X12_back : Cond.code yX12_back cX12_back 1 (some .int) ∈ wt := wt_tbl (t1_6 (List.mem_of_getElem? (i := 172) rfl)) rfl
theorem sy_X12_back : zY yX12_back cX12_back 1 (some .int) 0 := ⟨cw_X12_back, (wl7_in _ (List.mem_of_getElem? (i := 38) rfl)), ⟨by decide, by decide, by decide +kernel⟩, by decide⟩
theorem si_X12_back : Cond.instanceMethod yX12_back ∈ wt ∧ Cond.selects yX12_back.cls yX12_back yX12_back ∈ wt := ⟨(wl12_in _ (List.mem_of_getElem? (i := 29) rfl)), (wl12_in _ (List.mem_of_getElem? (i := 30) rfl))⟩
theorem so_X12_back : vwCl[12]? = some (yX12_back.cls, TX12, 50) := rfl
set_option maxRecDepth 100000 in
theorem cw_X12_many : Cond.code yX12_many cX12_many 2 (some .int) ∈ wt := wt_tbl (t1_6 (List.mem_of_getElem? (i := 176) rfl)) rfl
theorem sy_X12_many : zY yX12_many cX12_many 2 (some .int) 1 := ⟨cw_X12_many, (wl7_in _ (List.mem_of_getElem? (i := 38) rfl)), ⟨by decide, by decide, by decide +kernel⟩, by decide⟩
theorem si_X12_many : Cond.instanceMethod yX12_many ∈ wt ∧ Cond.selects yX12_many.cls yX12_many yX12_many ∈ wt := ⟨(wl12_in _ (List.mem_of_getElem? (i := 31) rfl)), (wl12_in _ (List.mem_of_getElem? (i := 32) rfl))⟩
theorem so_X12_many : vwCl[12]? = some (yX12_many.cls, TX12, 50) := rfl
theorem tm_178 : z_tm 178 := by decide
theorem ob_178 : z_ob 178 10 := ob_tm tm_178
theorem pt_178_0 : z_ptr 178 0 = 179 := by decide +kernel
theorem pt_178_1 : z_ptr 178 1 = 180 := by decide +kernel
theorem pt_178_2 : z_ptr 178 2 = 0 := by decide +kernel
theorem ia_179 : z_ia 179 40 := ia_code tm_178
theorem ia_180 : z_ia 180 40 := ia_end tm_178
theorem tm_181 : z_tm 181 := by decide
theorem ob_181 : z_ob 181 10 := ob_tm tm_181
theorem pt_181_0 : z_ptr 181 0 = 182 := by decide +kernel
theorem pt_181_1 : z_ptr 181 1 = 183 := by decide +kernel
theorem pt_181_2 : z_ptr 181 2 = 0 := by decide +kernel
theorem ia_182 : z_ia 182 40 := ia_code tm_181
theorem ia_183 : z_ia 183 40 := ia_end tm_181
theorem tm_184 : z_tm 184 := by decide
theorem ob_184 : z_ob 184 10 := ob_tm tm_184
theorem pt_184_0 : z_ptr 184 0 = 185 := by decide +kernel
theorem pt_184_1 : z_ptr 184 1 = 186 := by decide +kernel
theorem pt_184_2 : z_ptr 184 2 = 0 := by decide +kernel
theorem ia_185 : z_ia 185 40 := ia_code tm_184
theorem ia_186 : z_ia 186 40 := ia_end tm_184
theorem tm_103 : z_tm 103 := by decide
theorem ob_103 : z_ob 103 10 := ob_tm tm_103
theorem pt_103_0 : z_ptr 103 0 = 104 := by decide +kernel
theorem pt_103_1 : z_ptr 103 1 = 105 := by decide +kernel
theorem pt_103_2 : z_ptr 103 2 = 0 := by decide +kernel
theorem ia_104 : z_ia 104 40 := ia_code tm_103
theorem ia_105 : z_ia 105 40 := ia_end tm_103
theorem tm_106 : z_tm 106 := by decide
theorem ob_106 : z_ob 106 10 := ob_tm tm_106
theorem pt_106_0 : z_ptr 106 0 = 107 := by decide +kernel
theorem pt_106_1 : z_ptr 106 1 = 108 := by decide +kernel
theorem pt_106_2 : z_ptr 106 2 = 0 := by decide +kernel
theorem ia_107 : z_ia 107 40 := ia_code tm_106
theorem ia_108 : z_ia 108 40 := ia_end tm_106
theorem tm_109 : z_tm 109 := by decide
theorem ob_109 : z_ob 109 10 := ob_tm tm_109
theorem pt_109_0 : z_ptr 109 0 = 110 := by decide +kernel
theorem pt_109_1 : z_ptr 109 1 = 111 := by decide +kernel
theorem pt_109_2 : z_ptr 109 2 = 0 := by decide +kernel
theorem ia_110 : z_ia 110 40 := ia_code tm_109
theorem ia_111 : z_ia 111 40 := ia_end tm_109
theorem tm_112 : z_tm 112 := by decide
theorem ob_112 : z_ob 112 10 := ob_tm tm_112
theorem pt_112_0 : z_ptr 112 0 = 113 := by decide +kernel
theorem pt_112_1 : z_ptr 112 1 = 114 := by decide +kernel
theorem pt_112_2 : z_ptr 112 2 = 0 := by decide +kernel
theorem ia_113 : z_ia 113 40 := ia_code tm_112
theorem ia_114 : z_ia 114 40 := ia_end tm_112
theorem cm_204 : z_cm 204 := by decide
theorem ob_204 : z_ob 204 0 := ob_cm cm_204
theorem pt_204_0 : z_ptr 204 0 = 103 := by decide +kernel
theorem pt_204_1 : z_ptr 204 1 = 106 := by decide +kernel
theorem cm_205 : z_cm 205 := by decide
theorem ob_205 : z_ob 205 0 := ob_cm cm_205
theorem pt_205_0 : z_ptr 205 0 = 109 := by decide +kernel
theorem pt_205_1 : z_ptr 205 1 = 112 := by decide +kernel
theorem tm_left {c : Int} (h : z_cm c) : z_tm (6 * (c - 187) + 1) := by omega
theorem tm_right {c : Int} (h : z_cm c) : z_tm (6 * (c - 187) + 4) := by omega
