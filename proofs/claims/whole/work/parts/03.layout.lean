/-! ===== the layout: logical ids of the cells, their order of allocation, kinds, fixed pointers (written by wip/whole/mklayout.py) ===== -/
abbrev ZM : Type := Int → Int → Int
abbrev ZV : Type := Int ⊕ Int
abbrev zin (x : Int) : Prop := -2147483648 ≤ x ∧ x ≤ 2147483647
def z_ordL : List Int := [206, 207, 208, 209, 210, 211, 115, 116, 117, 118, 119, 120, 121, 122, 123, 124, 125, 126, 127, 128, 129, 130, 131, 132, 133, 134, 135, 136, 137, 138, 139, 140, 141, 142, 143, 144, 145, 146, 147, 148, 149, 150, 151, 152, 153, 154, 155, 156, 157, 158, 159, 160, 161, 162, 163, 164, 165, 166, 167, 168, 212, 213, 214, 169, 170, 171, 172, 173, 174, 175, 176, 177, 215, 216, 217, 218, 219, 220, 221, 222, 223, 224, 225, 226, 227, 228, 229, 230, 231, 232, 233, 234, 235, 236, 237, 238, 239, 181, 182, 183, 187, 1, 2, 3, 4, 5, 6, 188, 7, 8, 9, 10, 11, 12, 189, 13, 14, 15, 16, 17, 18, 190, 19, 20, 21, 22, 23, 24, 191, 25, 26, 27, 28, 29, 30, 192, 31, 32, 33, 34, 35, 36, 193, 37, 38, 39, 40, 41, 42, 194, 43, 44, 45, 46, 47, 48, 240, 241, 242, 243, 244, 245, 246, 247, 184, 185, 186, 195, 49, 50, 51, 52, 53, 54, 198, 67, 68, 69, 70, 71, 72, 201, 85, 86, 87, 88, 89, 90, 196, 55, 56, 57, 58, 59, 60, 199, 73, 74, 75, 76, 77, 78, 202, 91, 92, 93, 94, 95, 96, 197, 61, 62, 63, 64, 65, 66, 200, 79, 80, 81, 82, 83, 84, 203, 97, 98, 99, 100, 101, 102, 204, 103, 104, 105, 106, 107, 108, 205, 109, 110, 111, 112, 113, 114, 178, 179, 180, 248, 249, 250, 251, 252, 253, 254, 255, 256, 257, 258, 259, 260, 261, 262, 263, 264, 265, 266, 267, 268, 269, 270, 271, 272, 273, 274]
def z_idxL : List Nat := [0, 101, 102, 103, 104, 105, 106, 108, 109, 110, 111, 112, 113, 115, 116, 117, 118, 119, 120, 122, 123, 124, 125, 126, 127, 129, 130, 131, 132, 133, 134, 136, 137, 138, 139, 140, 141, 143, 144, 145, 146, 147, 148, 150, 151, 152, 153, 154, 155, 168, 169, 170, 171, 172, 173, 189, 190, 191, 192, 193, 194, 210, 211, 212, 213, 214, 215, 175, 176, 177, 178, 179, 180, 196, 197, 198, 199, 200, 201, 217, 218, 219, 220, 221, 222, 182, 183, 184, 185, 186, 187, 203, 204, 205, 206, 207, 208, 224, 225, 226, 227, 228, 229, 231, 232, 233, 234, 235, 236, 238, 239, 240, 241, 242, 243, 6, 7, 8, 9, 10, 11, 12, 13, 14, 15, 16, 17, 18, 19, 20, 21, 22, 23, 24, 25, 26, 27, 28, 29, 30, 31, 32, 33, 34, 35, 36, 37, 38, 39, 40, 41, 42, 43, 44, 45, 46, 47, 48, 49, 50, 51, 52, 53, 54, 55, 56, 57, 58, 59, 63, 64, 65, 66, 67, 68, 69, 70, 71, 244, 245, 246, 97, 98, 99, 164, 165, 166, 100, 107, 114, 121, 128, 135, 142, 149, 167, 188, 209, 174, 195, 216, 181, 202, 223, 230, 237, 0, 1, 2, 3, 4, 5, 60, 61, 62, 72, 73, 74, 75, 76, 77, 78, 79, 80, 81, 82, 83, 84, 85, 86, 87, 88, 89, 90, 91, 92, 93, 94, 95, 96, 156, 157, 158, 159, 160, 161, 162, 163, 247, 248, 249, 250, 251, 252, 253, 254, 255, 256, 257, 258, 259, 260, 261, 262, 263, 264, 265, 266, 267, 268, 269, 270, 271, 272, 273]
def z_dkL : List (Nat × Nat) := [(99, 0), (10, 0), (13, 40), (13, 40), (10, 0), (13, 40), (13, 40), (10, 0), (13, 40), (13, 40), (10, 0), (13, 40), (13, 40), (10, 0), (13, 40), (13, 40), (10, 0), (13, 40), (13, 40), (10, 0), (13, 40), (13, 40), (10, 0), (13, 40), (13, 40), (10, 0), (13, 40), (13, 40), (10, 0), (13, 40), (13, 40), (10, 0), (13, 40), (13, 40), (10, 0), (13, 40), (13, 40), (10, 0), (13, 40), (13, 40), (10, 0), (13, 40), (13, 40), (10, 0), (13, 40), (13, 40), (10, 0), (13, 40), (13, 40), (10, 0), (13, 40), (13, 40), (10, 0), (13, 40), (13, 40), (10, 0), (13, 40), (13, 40), (10, 0), (13, 40), (13, 40), (10, 0), (13, 40), (13, 40), (10, 0), (13, 40), (13, 40), (10, 0), (13, 40), (13, 40), (10, 0), (13, 40), (13, 40), (10, 0), (13, 40), (13, 40), (10, 0), (13, 40), (13, 40), (10, 0), (13, 40), (13, 40), (10, 0), (13, 40), (13, 40), (10, 0), (13, 40), (13, 40), (10, 0), (13, 40), (13, 40), (10, 0), (13, 40), (13, 40), (10, 0), (13, 40), (13, 40), (10, 0), (13, 40), (13, 40), (10, 0), (13, 40), (13, 40), (10, 0), (13, 40), (13, 40), (10, 0), (13, 40), (13, 40), (10, 0), (13, 40), (13, 40), (10, 0), (13, 40), (13, 40), (10, 0), (13, 40), (13, 40), (10, 0), (13, 40), (13, 40), (10, 0), (13, 40), (13, 40), (10, 0), (13, 40), (13, 40), (10, 0), (13, 40), (13, 40), (10, 0), (13, 40), (13, 40), (10, 0), (13, 40), (13, 40), (10, 0), (13, 40), (13, 40), (10, 0), (13, 40), (13, 40), (10, 0), (13, 40), (13, 40), (10, 0), (13, 40), (13, 40), (10, 0), (13, 40), (13, 40), (10, 0), (13, 40), (13, 40), (10, 0), (13, 40), (13, 40), (10, 0), (13, 40), (13, 40), (10, 0), (13, 40), (13, 40), (10, 0), (13, 40), (13, 40), (10, 0), (13, 40), (13, 40), (10, 0), (13, 40), (13, 40), (10, 0), (13, 40), (13, 40), (10, 0), (13, 40), (13, 40), (10, 0), (13, 40), (13, 40), (10, 0), (13, 40), (13, 40), (10, 0), (13, 40), (13, 40), (0, 0), (0, 0), (0, 0), (0, 0), (0, 0), (0, 0), (0, 0), (0, 0), (0, 0), (0, 0), (0, 0), (0, 0), (0, 0), (0, 0), (0, 0), (0, 0), (0, 0), (0, 0), (0, 0), (11, 0), (3, 0), (13, 6), (13, 6), (14, 18), (13, 128), (9, 0), (13, 48), (14, 3), (2, 0), (13, 3), (14, 61), (13, 61), (13, 61), (13, 61), (13, 640), (6, 0), (13, 546), (13, 546), (13, 546), (13, 546), (14, 51), (13, 51), (13, 51), (13, 51), (13, 540), (13, 3), (1, 0), (13, 1600), (13, 40), (5, 0), (13, 3), (4, 0), (15, 8), (7, 0), (13, 99), (13, 99), (13, 4), (8, 0), (15, 3), (15, 3), (15, 3), (12, 0), (13, 5632), (13, 44), (13, 48), (13, 6), (13, 6), (13, 180), (13, 18), (13, 20), (13, 460), (13, 64), (13, 64), (13, 64), (13, 64), (13, 64), (13, 16400), (13, 440), (13, 64), (13, 1600), (13, 40), (13, 3), (13, 3), (13, 99), (13, 99), (13, 3), (13, 3), (13, 3)]
def z_fkL : List (List Nat) := [[1, 1], [1, 1], [1, 1, 0, 1, 1, 1, 1, 1, 0, 0], [1, 1, 1, 1, 0], [1, 0, 1, 1, 1], [1, 1], [1, 1, 1, 1, 1, 1, 1, 1, 1, 1, 1, 0, 0, 0, 0], [1, 1, 1, 0, 0], [1, 1, 1, 1, 1, 1, 1, 1, 1, 1], [1, 1, 1, 0, 0, 0, 0, 0, 0, 0], [1, 1, 0], [1, 1, 1, 1, 1, 1, 1, 1, 1, 1, 1, 0], [1, 1, 1, 0, 0, 1, 1, 1, 1, 0, 0, 1, 0, 0, 1, 0, 0, 1, 1, 1, 1, 1, 0, 1, 1, 0, 0, 1, 0, 0, 0, 1, 1, 1, 1, 0, 0, 0, 0, 0, 1, 1, 0, 0, 0, 0, 0, 1, 1, 1]]
def z_ptrL : List (List Int) := [[207, 212, 215, 222, 233, 238, 240, 244, 204, 205, 178], [208, 209, 210, 211], [], [], [115, 118, 121, 124, 127, 130, 133, 136, 139, 142, 145, 148, 151, 154, 157, 160, 163, 166], [], [213, 214, 207], [], [169, 172, 175], [207, 216, 0, 217, 218, 219, 220, 221], [], [], [], [], [], [], [207, 223, 224, 225, 226, 227, 228, 229, 230, 231, 232], [], [], [], [], [], [], [], [], [], [], [234, 235], [], [], [207, 237], [], [239, 0, 233, 236, 181], [187, 188, 189, 190, 191, 192, 193, 194], [241, 242, 243], [], [], [], [245, 246, 247, 184, 207, 215, 222, 236, 238, 240], [195, 196, 197], [198, 199, 200], [201, 202, 203], [249, 250, 251, 0, 0, 252, 253, 254, 255, 0, 0, 256, 0, 0, 257, 0, 0, 258, 259, 260, 261, 262, 0, 263, 264, 0, 0, 265, 0, 0, 0, 266, 267, 268, 269, 0, 0, 0, 0, 0, 270, 271, 0, 0, 0, 0, 0, 272, 273, 274], [], [], [], [], [], [], [], [], [], [], [], [], [], [], [], [], [], [], [], [], [], [], [], [], [], []]
def z_ord (k : Nat) : Int := z_ordL.getD k 0
def z_idx (a : Int) : Nat := z_idxL.getD a.toNat 0
def z_dk (a : Int) : Nat × Nat := z_dkL.getD a.toNat (99, 0)
def z_fk (ci : Nat) : List Nat := z_fkL.getD ci []
def z_sz (a : Int) : Nat := if (z_dk a).1 < 13 then (z_fk (z_dk a).1).length else (z_dk a).2
def z_sl : Nat → Nat
  | 0 => 0
  | n + 1 => z_sl n + z_sz (z_ord n)
def z_ptr (a k : Int) : Int := if k < 0 ∨ a < 1 then 0 else if a ≤ 186 then (if a % 3 = 1 then (if k = 0 then a + 1 else if k = 1 then a + 2 else 0) else 0) else if a ≤ 205 then (if k = 0 then 6 * (a - 187) + 1 else if k = 1 then 6 * (a - 187) + 4 else 0) else (z_ptrL.getD (a - 206).toNat []).getD k.toNat 0
/-- the cell a is there when n cells have been made -/
def z_al (n : Nat) (a : Int) : Prop := z_ord (z_idx a) = a ∧ z_idx a < n
theorem z_idx_ord : ∀ k, k < 274 → z_idx (z_ord k) = k := by decide +kernel
theorem z_ord_pos : ∀ k, k < 274 → 0 < z_ord k := by decide +kernel
theorem z_all0 : ∀ k, k < 274 → z_ord (z_idx ((k : Nat) + 1 : Int)) = ((k : Nat) + 1 : Int) ∧ z_idx ((k : Nat) + 1 : Int) < 274 := by decide +kernel
theorem z_all {a : Int} (h1 : 1 ≤ a) (h2 : a ≤ 274) : z_al 274 a := by
  have h := z_all0 (a - 1).toNat (by omega)
  have e : (((a - 1).toNat : Nat) + 1 : Int) = a := by omega
  rw [e] at h
  exact h
theorem z_ptrL_len : ∀ i, i < 69 → (z_ptrL.getD i []).length ≤ 50 := by decide +kernel
theorem z_ptr_dom {a k : Int} (h : z_ptr a k ≠ 0) : 1 ≤ a ∧ a ≤ 274 ∧ 0 ≤ k ∧ k < 50 := by
  by_cases h1 : k < 0 ∨ a < 1
  · exact absurd (by unfold z_ptr; rw [if_pos h1]) h
  · by_cases h2 : a ≤ 205
    · by_cases h3 : k < 50
      · omega
      · refine absurd ?_ h
        unfold z_ptr
        rw [if_neg h1, if_neg (show ¬ k = 0 by omega), if_neg (show ¬ k = 1 by omega), if_neg (show ¬ k = 0 by omega), if_neg (show ¬ k = 1 by omega), if_pos h2]
        simp
    · have e : z_ptr a k = (z_ptrL.getD (a - 206).toNat []).getD k.toNat 0 := by
        unfold z_ptr
        rw [if_neg h1, if_neg (show ¬ a ≤ 186 by omega), if_neg h2]
      rw [e] at h
      by_cases h3 : a ≤ 274
      · by_cases h4 : k < 50
        · omega
        · have h5 := z_ptrL_len (a - 206).toNat (by omega)
          rw [List.getD_eq_getElem?_getD, List.getElem?_eq_none (by omega)] at h
          exact absurd rfl h
      · have h6 : z_ptrL.getD (a - 206).toNat [] = [] := by
          rw [List.getD_eq_getElem?_getD, List.getElem?_eq_none (by rw [show z_ptrL.length = 69 from rfl]; omega)]
          rfl
        rw [h6] at h
        exact absurd rfl h
abbrev z_tm (t : Int) : Prop := 1 ≤ t ∧ t ≤ 184 ∧ t % 3 = 1
abbrev z_cm (c : Int) : Prop := 187 ≤ c ∧ c ≤ 205
/-- an object of class ci, an int array, an array of references that may change -/
def z_ob (a : Int) (ci : Nat) : Prop := z_dk a = (ci, 0) ∧ z_al 274 a
def z_ia (a : Int) (len : Nat) : Prop := z_dk a = (13, len) ∧ z_al 274 a ∧ ∀ i, z_ptr a i = 0
def z_ra (a : Int) (len : Nat) : Prop := z_dk a = (14, len) ∧ z_al 274 a ∧ ∀ i, z_ptr a i = 0
theorem z_tm0 : ∀ k, k < 62 → z_dk (3 * (k : Nat) + 1 : Int) = (10, 0) ∧ z_dk (3 * (k : Nat) + 2 : Int) = (13, 40) ∧ z_dk (3 * (k : Nat) + 3 : Int) = (13, 40) := by decide +kernel
theorem z_cm0 : ∀ k, k < 19 → z_dk (187 + (k : Nat) : Int) = (0, 0) := by decide +kernel
theorem z_tm1 {t : Int} (h : z_tm t) : z_dk t = (10, 0) ∧ z_dk (t + 1) = (13, 40) ∧ z_dk (t + 2) = (13, 40) := by
  have q := z_tm0 ((t - 1) / 3).toNat (by omega)
  have e : (3 * (((t - 1) / 3).toNat : Nat) : Int) = t - 1 := by omega
  have e1 : (3 * (((t - 1) / 3).toNat : Nat) + 1 : Int) = t := by omega
  have e2 : (3 * (((t - 1) / 3).toNat : Nat) + 2 : Int) = t + 1 := by omega
  have e3 : (3 * (((t - 1) / 3).toNat : Nat) + 3 : Int) = t + 2 := by omega
  rw [e1, e2, e3] at q
  exact q
theorem ob_tm {t : Int} (h : z_tm t) : z_ob t 10 := ⟨(z_tm1 h).1, z_all (by omega) (by omega)⟩
theorem ia_code {t : Int} (h : z_tm t) : z_ia (t + 1) 40 := ⟨(z_tm1 h).2.1, z_all (by omega) (by omega), fun i => by
  unfold z_ptr
  rw [if_pos (show t + 1 ≤ 186 by omega), if_neg (show ¬ (t + 1) % 3 = 1 by omega)]
  split <;> rfl⟩
theorem ia_end {t : Int} (h : z_tm t) : z_ia (t + 2) 40 := ⟨(z_tm1 h).2.2, z_all (by omega) (by omega), fun i => by
  unfold z_ptr
  rw [if_pos (show t + 2 ≤ 186 by omega), if_neg (show ¬ (t + 2) % 3 = 1 by omega)]
  split <;> rfl⟩
theorem ob_cm {c : Int} (h : z_cm c) : z_ob c 0 := by
  have q := z_cm0 (c - 187).toNat (by omega)
  have e : (187 + ((c - 187).toNat : Nat) : Int) = c := by omega
  rw [e] at q
  exact ⟨q, z_all (by omega) (by omega)⟩
theorem pt_code {t : Int} (h : z_tm t) : z_ptr t 0 = t + 1 := by
  unfold z_ptr
  rw [if_neg (by omega), if_pos (show t ≤ 186 by omega), if_pos h.2.2]
  rfl
theorem pt_end {t : Int} (h : z_tm t) : z_ptr t 1 = t + 2 := by
  unfold z_ptr
  rw [if_neg (by omega), if_pos (show t ≤ 186 by omega), if_pos h.2.2]
  rfl
theorem pt_size {t : Int} (h : z_tm t) : z_ptr t 2 = 0 := by
  unfold z_ptr
  rw [if_neg (by omega), if_pos (show t ≤ 186 by omega), if_pos h.2.2]
  rfl
theorem pt_left {c : Int} (h : z_cm c) : z_ptr c 0 = 6 * (c - 187) + 1 := by
  unfold z_ptr
  rw [if_neg (by omega), if_neg (show ¬ c ≤ 186 by omega), if_pos h.2]
  rfl
theorem pt_right {c : Int} (h : z_cm c) : z_ptr c 1 = 6 * (c - 187) + 4 := by
  unfold z_ptr
  rw [if_neg (by omega), if_neg (show ¬ c ≤ 186 by omega), if_pos h.2]
  rfl
theorem ob_206 : z_ob 206 11 := ⟨by decide +kernel, by decide +kernel, by decide +kernel⟩
theorem ob_207 : z_ob 207 3 := ⟨by decide +kernel, by decide +kernel, by decide +kernel⟩
theorem ia_208 : z_ia 208 6 := ⟨by decide +kernel, ⟨by decide +kernel, by decide +kernel⟩, fun i => by unfold z_ptr; rw [if_neg (show ¬ (208 : Int) ≤ 186 by decide), if_neg (show ¬ (208 : Int) ≤ 205 by decide), show z_ptrL.getD ((208 : Int) - 206).toNat [] = [] by decide +kernel]; split <;> rfl⟩
theorem ia_209 : z_ia 209 6 := ⟨by decide +kernel, ⟨by decide +kernel, by decide +kernel⟩, fun i => by unfold z_ptr; rw [if_neg (show ¬ (209 : Int) ≤ 186 by decide), if_neg (show ¬ (209 : Int) ≤ 205 by decide), show z_ptrL.getD ((209 : Int) - 206).toNat [] = [] by decide +kernel]; split <;> rfl⟩
theorem fa_210 : z_dk 210 = (14, 18) ∧ z_al 274 210 := ⟨by decide +kernel, by decide +kernel, by decide +kernel⟩
theorem fe0_210 : ∀ k, k < 18 → z_ptr 210 ((k : Nat) : Int) = 115 + 3 * ((k : Nat) : Int) := by decide +kernel
theorem fe_210 {i : Int} (h : 0 ≤ i ∧ i < 18) : z_ptr 210 i = 115 + 3 * i := by have q := fe0_210 i.toNat (by omega); rw [show ((i.toNat : Nat) : Int) = i by omega] at q; exact q
theorem ia_211 : z_ia 211 128 := ⟨by decide +kernel, ⟨by decide +kernel, by decide +kernel⟩, fun i => by unfold z_ptr; rw [if_neg (show ¬ (211 : Int) ≤ 186 by decide), if_neg (show ¬ (211 : Int) ≤ 205 by decide), show z_ptrL.getD ((211 : Int) - 206).toNat [] = [] by decide +kernel]; split <;> rfl⟩
theorem ob_212 : z_ob 212 9 := ⟨by decide +kernel, by decide +kernel, by decide +kernel⟩
theorem ia_213 : z_ia 213 48 := ⟨by decide +kernel, ⟨by decide +kernel, by decide +kernel⟩, fun i => by unfold z_ptr; rw [if_neg (show ¬ (213 : Int) ≤ 186 by decide), if_neg (show ¬ (213 : Int) ≤ 205 by decide), show z_ptrL.getD ((213 : Int) - 206).toNat [] = [] by decide +kernel]; split <;> rfl⟩
theorem fa_214 : z_dk 214 = (14, 3) ∧ z_al 274 214 := ⟨by decide +kernel, by decide +kernel, by decide +kernel⟩
theorem fe0_214 : ∀ k, k < 3 → z_ptr 214 ((k : Nat) : Int) = 169 + 3 * ((k : Nat) : Int) := by decide +kernel
theorem fe_214 {i : Int} (h : 0 ≤ i ∧ i < 3) : z_ptr 214 i = 169 + 3 * i := by have q := fe0_214 i.toNat (by omega); rw [show ((i.toNat : Nat) : Int) = i by omega] at q; exact q
theorem ob_215 : z_ob 215 2 := ⟨by decide +kernel, by decide +kernel, by decide +kernel⟩
theorem ia_216 : z_ia 216 3 := ⟨by decide +kernel, ⟨by decide +kernel, by decide +kernel⟩, fun i => by unfold z_ptr; rw [if_neg (show ¬ (216 : Int) ≤ 186 by decide), if_neg (show ¬ (216 : Int) ≤ 205 by decide), show z_ptrL.getD ((216 : Int) - 206).toNat [] = [] by decide +kernel]; split <;> rfl⟩
theorem ra_217 : z_ra 217 61 := ⟨by decide +kernel, ⟨by decide +kernel, by decide +kernel⟩, fun i => by unfold z_ptr; rw [if_neg (show ¬ (217 : Int) ≤ 186 by decide), if_neg (show ¬ (217 : Int) ≤ 205 by decide), show z_ptrL.getD ((217 : Int) - 206).toNat [] = [] by decide +kernel]; split <;> rfl⟩
theorem ia_218 : z_ia 218 61 := ⟨by decide +kernel, ⟨by decide +kernel, by decide +kernel⟩, fun i => by unfold z_ptr; rw [if_neg (show ¬ (218 : Int) ≤ 186 by decide), if_neg (show ¬ (218 : Int) ≤ 205 by decide), show z_ptrL.getD ((218 : Int) - 206).toNat [] = [] by decide +kernel]; split <;> rfl⟩
theorem ia_219 : z_ia 219 61 := ⟨by decide +kernel, ⟨by decide +kernel, by decide +kernel⟩, fun i => by unfold z_ptr; rw [if_neg (show ¬ (219 : Int) ≤ 186 by decide), if_neg (show ¬ (219 : Int) ≤ 205 by decide), show z_ptrL.getD ((219 : Int) - 206).toNat [] = [] by decide +kernel]; split <;> rfl⟩
theorem ia_220 : z_ia 220 61 := ⟨by decide +kernel, ⟨by decide +kernel, by decide +kernel⟩, fun i => by unfold z_ptr; rw [if_neg (show ¬ (220 : Int) ≤ 186 by decide), if_neg (show ¬ (220 : Int) ≤ 205 by decide), show z_ptrL.getD ((220 : Int) - 206).toNat [] = [] by decide +kernel]; split <;> rfl⟩
theorem ia_221 : z_ia 221 640 := ⟨by decide +kernel, ⟨by decide +kernel, by decide +kernel⟩, fun i => by unfold z_ptr; rw [if_neg (show ¬ (221 : Int) ≤ 186 by decide), if_neg (show ¬ (221 : Int) ≤ 205 by decide), show z_ptrL.getD ((221 : Int) - 206).toNat [] = [] by decide +kernel]; split <;> rfl⟩
theorem ob_222 : z_ob 222 6 := ⟨by decide +kernel, by decide +kernel, by decide +kernel⟩
theorem ia_223 : z_ia 223 546 := ⟨by decide +kernel, ⟨by decide +kernel, by decide +kernel⟩, fun i => by unfold z_ptr; rw [if_neg (show ¬ (223 : Int) ≤ 186 by decide), if_neg (show ¬ (223 : Int) ≤ 205 by decide), show z_ptrL.getD ((223 : Int) - 206).toNat [] = [] by decide +kernel]; split <;> rfl⟩
theorem ia_224 : z_ia 224 546 := ⟨by decide +kernel, ⟨by decide +kernel, by decide +kernel⟩, fun i => by unfold z_ptr; rw [if_neg (show ¬ (224 : Int) ≤ 186 by decide), if_neg (show ¬ (224 : Int) ≤ 205 by decide), show z_ptrL.getD ((224 : Int) - 206).toNat [] = [] by decide +kernel]; split <;> rfl⟩
theorem ia_225 : z_ia 225 546 := ⟨by decide +kernel, ⟨by decide +kernel, by decide +kernel⟩, fun i => by unfold z_ptr; rw [if_neg (show ¬ (225 : Int) ≤ 186 by decide), if_neg (show ¬ (225 : Int) ≤ 205 by decide), show z_ptrL.getD ((225 : Int) - 206).toNat [] = [] by decide +kernel]; split <;> rfl⟩
theorem ia_226 : z_ia 226 546 := ⟨by decide +kernel, ⟨by decide +kernel, by decide +kernel⟩, fun i => by unfold z_ptr; rw [if_neg (show ¬ (226 : Int) ≤ 186 by decide), if_neg (show ¬ (226 : Int) ≤ 205 by decide), show z_ptrL.getD ((226 : Int) - 206).toNat [] = [] by decide +kernel]; split <;> rfl⟩
theorem ra_227 : z_ra 227 51 := ⟨by decide +kernel, ⟨by decide +kernel, by decide +kernel⟩, fun i => by unfold z_ptr; rw [if_neg (show ¬ (227 : Int) ≤ 186 by decide), if_neg (show ¬ (227 : Int) ≤ 205 by decide), show z_ptrL.getD ((227 : Int) - 206).toNat [] = [] by decide +kernel]; split <;> rfl⟩
theorem ia_228 : z_ia 228 51 := ⟨by decide +kernel, ⟨by decide +kernel, by decide +kernel⟩, fun i => by unfold z_ptr; rw [if_neg (show ¬ (228 : Int) ≤ 186 by decide), if_neg (show ¬ (228 : Int) ≤ 205 by decide), show z_ptrL.getD ((228 : Int) - 206).toNat [] = [] by decide +kernel]; split <;> rfl⟩
theorem ia_229 : z_ia 229 51 := ⟨by decide +kernel, ⟨by decide +kernel, by decide +kernel⟩, fun i => by unfold z_ptr; rw [if_neg (show ¬ (229 : Int) ≤ 186 by decide), if_neg (show ¬ (229 : Int) ≤ 205 by decide), show z_ptrL.getD ((229 : Int) - 206).toNat [] = [] by decide +kernel]; split <;> rfl⟩
theorem ia_230 : z_ia 230 51 := ⟨by decide +kernel, ⟨by decide +kernel, by decide +kernel⟩, fun i => by unfold z_ptr; rw [if_neg (show ¬ (230 : Int) ≤ 186 by decide), if_neg (show ¬ (230 : Int) ≤ 205 by decide), show z_ptrL.getD ((230 : Int) - 206).toNat [] = [] by decide +kernel]; split <;> rfl⟩
theorem ia_231 : z_ia 231 540 := ⟨by decide +kernel, ⟨by decide +kernel, by decide +kernel⟩, fun i => by unfold z_ptr; rw [if_neg (show ¬ (231 : Int) ≤ 186 by decide), if_neg (show ¬ (231 : Int) ≤ 205 by decide), show z_ptrL.getD ((231 : Int) - 206).toNat [] = [] by decide +kernel]; split <;> rfl⟩
theorem ia_232 : z_ia 232 3 := ⟨by decide +kernel, ⟨by decide +kernel, by decide +kernel⟩, fun i => by unfold z_ptr; rw [if_neg (show ¬ (232 : Int) ≤ 186 by decide), if_neg (show ¬ (232 : Int) ≤ 205 by decide), show z_ptrL.getD ((232 : Int) - 206).toNat [] = [] by decide +kernel]; split <;> rfl⟩
theorem ob_233 : z_ob 233 1 := ⟨by decide +kernel, by decide +kernel, by decide +kernel⟩
theorem ia_234 : z_ia 234 1600 := ⟨by decide +kernel, ⟨by decide +kernel, by decide +kernel⟩, fun i => by unfold z_ptr; rw [if_neg (show ¬ (234 : Int) ≤ 186 by decide), if_neg (show ¬ (234 : Int) ≤ 205 by decide), show z_ptrL.getD ((234 : Int) - 206).toNat [] = [] by decide +kernel]; split <;> rfl⟩
theorem ia_235 : z_ia 235 40 := ⟨by decide +kernel, ⟨by decide +kernel, by decide +kernel⟩, fun i => by unfold z_ptr; rw [if_neg (show ¬ (235 : Int) ≤ 186 by decide), if_neg (show ¬ (235 : Int) ≤ 205 by decide), show z_ptrL.getD ((235 : Int) - 206).toNat [] = [] by decide +kernel]; split <;> rfl⟩
theorem ob_236 : z_ob 236 5 := ⟨by decide +kernel, by decide +kernel, by decide +kernel⟩
theorem ia_237 : z_ia 237 3 := ⟨by decide +kernel, ⟨by decide +kernel, by decide +kernel⟩, fun i => by unfold z_ptr; rw [if_neg (show ¬ (237 : Int) ≤ 186 by decide), if_neg (show ¬ (237 : Int) ≤ 205 by decide), show z_ptrL.getD ((237 : Int) - 206).toNat [] = [] by decide +kernel]; split <;> rfl⟩
theorem ob_238 : z_ob 238 4 := ⟨by decide +kernel, by decide +kernel, by decide +kernel⟩
theorem fa_239 : z_dk 239 = (15, 8) ∧ z_al 274 239 := ⟨by decide +kernel, by decide +kernel, by decide +kernel⟩
theorem fe0_239 : ∀ k, k < 8 → z_ptr 239 ((k : Nat) : Int) = 187 + 1 * ((k : Nat) : Int) := by decide +kernel
theorem fe_239 {i : Int} (h : 0 ≤ i ∧ i < 8) : z_ptr 239 i = 187 + 1 * i := by have q := fe0_239 i.toNat (by omega); rw [show ((i.toNat : Nat) : Int) = i by omega] at q; exact q
theorem ob_240 : z_ob 240 7 := ⟨by decide +kernel, by decide +kernel, by decide +kernel⟩
theorem ia_241 : z_ia 241 99 := ⟨by decide +kernel, ⟨by decide +kernel, by decide +kernel⟩, fun i => by unfold z_ptr; rw [if_neg (show ¬ (241 : Int) ≤ 186 by decide), if_neg (show ¬ (241 : Int) ≤ 205 by decide), show z_ptrL.getD ((241 : Int) - 206).toNat [] = [] by decide +kernel]; split <;> rfl⟩
theorem ia_242 : z_ia 242 99 := ⟨by decide +kernel, ⟨by decide +kernel, by decide +kernel⟩, fun i => by unfold z_ptr; rw [if_neg (show ¬ (242 : Int) ≤ 186 by decide), if_neg (show ¬ (242 : Int) ≤ 205 by decide), show z_ptrL.getD ((242 : Int) - 206).toNat [] = [] by decide +kernel]; split <;> rfl⟩
theorem ia_243 : z_ia 243 4 := ⟨by decide +kernel, ⟨by decide +kernel, by decide +kernel⟩, fun i => by unfold z_ptr; rw [if_neg (show ¬ (243 : Int) ≤ 186 by decide), if_neg (show ¬ (243 : Int) ≤ 205 by decide), show z_ptrL.getD ((243 : Int) - 206).toNat [] = [] by decide +kernel]; split <;> rfl⟩
theorem ob_244 : z_ob 244 8 := ⟨by decide +kernel, by decide +kernel, by decide +kernel⟩
theorem fa_245 : z_dk 245 = (15, 3) ∧ z_al 274 245 := ⟨by decide +kernel, by decide +kernel, by decide +kernel⟩
theorem fe0_245 : ∀ k, k < 3 → z_ptr 245 ((k : Nat) : Int) = 195 + 1 * ((k : Nat) : Int) := by decide +kernel
theorem fe_245 {i : Int} (h : 0 ≤ i ∧ i < 3) : z_ptr 245 i = 195 + 1 * i := by have q := fe0_245 i.toNat (by omega); rw [show ((i.toNat : Nat) : Int) = i by omega] at q; exact q
theorem fa_246 : z_dk 246 = (15, 3) ∧ z_al 274 246 := ⟨by decide +kernel, by decide +kernel, by decide +kernel⟩
theorem fe0_246 : ∀ k, k < 3 → z_ptr 246 ((k : Nat) : Int) = 198 + 1 * ((k : Nat) : Int) := by decide +kernel
theorem fe_246 {i : Int} (h : 0 ≤ i ∧ i < 3) : z_ptr 246 i = 198 + 1 * i := by have q := fe0_246 i.toNat (by omega); rw [show ((i.toNat : Nat) : Int) = i by omega] at q; exact q
theorem fa_247 : z_dk 247 = (15, 3) ∧ z_al 274 247 := ⟨by decide +kernel, by decide +kernel, by decide +kernel⟩
theorem fe0_247 : ∀ k, k < 3 → z_ptr 247 ((k : Nat) : Int) = 201 + 1 * ((k : Nat) : Int) := by decide +kernel
theorem fe_247 {i : Int} (h : 0 ≤ i ∧ i < 3) : z_ptr 247 i = 201 + 1 * i := by have q := fe0_247 i.toNat (by omega); rw [show ((i.toNat : Nat) : Int) = i by omega] at q; exact q
theorem ob_248 : z_ob 248 12 := ⟨by decide +kernel, by decide +kernel, by decide +kernel⟩
theorem ia_249 : z_ia 249 5632 := ⟨by decide +kernel, ⟨by decide +kernel, by decide +kernel⟩, fun i => by unfold z_ptr; rw [if_neg (show ¬ (249 : Int) ≤ 186 by decide), if_neg (show ¬ (249 : Int) ≤ 205 by decide), show z_ptrL.getD ((249 : Int) - 206).toNat [] = [] by decide +kernel]; split <;> rfl⟩
theorem ia_250 : z_ia 250 44 := ⟨by decide +kernel, ⟨by decide +kernel, by decide +kernel⟩, fun i => by unfold z_ptr; rw [if_neg (show ¬ (250 : Int) ≤ 186 by decide), if_neg (show ¬ (250 : Int) ≤ 205 by decide), show z_ptrL.getD ((250 : Int) - 206).toNat [] = [] by decide +kernel]; split <;> rfl⟩
theorem ia_251 : z_ia 251 48 := ⟨by decide +kernel, ⟨by decide +kernel, by decide +kernel⟩, fun i => by unfold z_ptr; rw [if_neg (show ¬ (251 : Int) ≤ 186 by decide), if_neg (show ¬ (251 : Int) ≤ 205 by decide), show z_ptrL.getD ((251 : Int) - 206).toNat [] = [] by decide +kernel]; split <;> rfl⟩
theorem ia_252 : z_ia 252 6 := ⟨by decide +kernel, ⟨by decide +kernel, by decide +kernel⟩, fun i => by unfold z_ptr; rw [if_neg (show ¬ (252 : Int) ≤ 186 by decide), if_neg (show ¬ (252 : Int) ≤ 205 by decide), show z_ptrL.getD ((252 : Int) - 206).toNat [] = [] by decide +kernel]; split <;> rfl⟩
theorem ia_253 : z_ia 253 6 := ⟨by decide +kernel, ⟨by decide +kernel, by decide +kernel⟩, fun i => by unfold z_ptr; rw [if_neg (show ¬ (253 : Int) ≤ 186 by decide), if_neg (show ¬ (253 : Int) ≤ 205 by decide), show z_ptrL.getD ((253 : Int) - 206).toNat [] = [] by decide +kernel]; split <;> rfl⟩
theorem ia_254 : z_ia 254 180 := ⟨by decide +kernel, ⟨by decide +kernel, by decide +kernel⟩, fun i => by unfold z_ptr; rw [if_neg (show ¬ (254 : Int) ≤ 186 by decide), if_neg (show ¬ (254 : Int) ≤ 205 by decide), show z_ptrL.getD ((254 : Int) - 206).toNat [] = [] by decide +kernel]; split <;> rfl⟩
theorem ia_255 : z_ia 255 18 := ⟨by decide +kernel, ⟨by decide +kernel, by decide +kernel⟩, fun i => by unfold z_ptr; rw [if_neg (show ¬ (255 : Int) ≤ 186 by decide), if_neg (show ¬ (255 : Int) ≤ 205 by decide), show z_ptrL.getD ((255 : Int) - 206).toNat [] = [] by decide +kernel]; split <;> rfl⟩
theorem ia_256 : z_ia 256 20 := ⟨by decide +kernel, ⟨by decide +kernel, by decide +kernel⟩, fun i => by unfold z_ptr; rw [if_neg (show ¬ (256 : Int) ≤ 186 by decide), if_neg (show ¬ (256 : Int) ≤ 205 by decide), show z_ptrL.getD ((256 : Int) - 206).toNat [] = [] by decide +kernel]; split <;> rfl⟩
theorem ia_257 : z_ia 257 460 := ⟨by decide +kernel, ⟨by decide +kernel, by decide +kernel⟩, fun i => by unfold z_ptr; rw [if_neg (show ¬ (257 : Int) ≤ 186 by decide), if_neg (show ¬ (257 : Int) ≤ 205 by decide), show z_ptrL.getD ((257 : Int) - 206).toNat [] = [] by decide +kernel]; split <;> rfl⟩
theorem ia_258 : z_ia 258 64 := ⟨by decide +kernel, ⟨by decide +kernel, by decide +kernel⟩, fun i => by unfold z_ptr; rw [if_neg (show ¬ (258 : Int) ≤ 186 by decide), if_neg (show ¬ (258 : Int) ≤ 205 by decide), show z_ptrL.getD ((258 : Int) - 206).toNat [] = [] by decide +kernel]; split <;> rfl⟩
theorem ia_259 : z_ia 259 64 := ⟨by decide +kernel, ⟨by decide +kernel, by decide +kernel⟩, fun i => by unfold z_ptr; rw [if_neg (show ¬ (259 : Int) ≤ 186 by decide), if_neg (show ¬ (259 : Int) ≤ 205 by decide), show z_ptrL.getD ((259 : Int) - 206).toNat [] = [] by decide +kernel]; split <;> rfl⟩
theorem ia_260 : z_ia 260 64 := ⟨by decide +kernel, ⟨by decide +kernel, by decide +kernel⟩, fun i => by unfold z_ptr; rw [if_neg (show ¬ (260 : Int) ≤ 186 by decide), if_neg (show ¬ (260 : Int) ≤ 205 by decide), show z_ptrL.getD ((260 : Int) - 206).toNat [] = [] by decide +kernel]; split <;> rfl⟩
theorem ia_261 : z_ia 261 64 := ⟨by decide +kernel, ⟨by decide +kernel, by decide +kernel⟩, fun i => by unfold z_ptr; rw [if_neg (show ¬ (261 : Int) ≤ 186 by decide), if_neg (show ¬ (261 : Int) ≤ 205 by decide), show z_ptrL.getD ((261 : Int) - 206).toNat [] = [] by decide +kernel]; split <;> rfl⟩
theorem ia_262 : z_ia 262 64 := ⟨by decide +kernel, ⟨by decide +kernel, by decide +kernel⟩, fun i => by unfold z_ptr; rw [if_neg (show ¬ (262 : Int) ≤ 186 by decide), if_neg (show ¬ (262 : Int) ≤ 205 by decide), show z_ptrL.getD ((262 : Int) - 206).toNat [] = [] by decide +kernel]; split <;> rfl⟩
theorem ia_263 : z_ia 263 16400 := ⟨by decide +kernel, ⟨by decide +kernel, by decide +kernel⟩, fun i => by unfold z_ptr; rw [if_neg (show ¬ (263 : Int) ≤ 186 by decide), if_neg (show ¬ (263 : Int) ≤ 205 by decide), show z_ptrL.getD ((263 : Int) - 206).toNat [] = [] by decide +kernel]; split <;> rfl⟩
theorem ia_264 : z_ia 264 440 := ⟨by decide +kernel, ⟨by decide +kernel, by decide +kernel⟩, fun i => by unfold z_ptr; rw [if_neg (show ¬ (264 : Int) ≤ 186 by decide), if_neg (show ¬ (264 : Int) ≤ 205 by decide), show z_ptrL.getD ((264 : Int) - 206).toNat [] = [] by decide +kernel]; split <;> rfl⟩
theorem ia_265 : z_ia 265 64 := ⟨by decide +kernel, ⟨by decide +kernel, by decide +kernel⟩, fun i => by unfold z_ptr; rw [if_neg (show ¬ (265 : Int) ≤ 186 by decide), if_neg (show ¬ (265 : Int) ≤ 205 by decide), show z_ptrL.getD ((265 : Int) - 206).toNat [] = [] by decide +kernel]; split <;> rfl⟩
theorem ia_266 : z_ia 266 1600 := ⟨by decide +kernel, ⟨by decide +kernel, by decide +kernel⟩, fun i => by unfold z_ptr; rw [if_neg (show ¬ (266 : Int) ≤ 186 by decide), if_neg (show ¬ (266 : Int) ≤ 205 by decide), show z_ptrL.getD ((266 : Int) - 206).toNat [] = [] by decide +kernel]; split <;> rfl⟩
theorem ia_267 : z_ia 267 40 := ⟨by decide +kernel, ⟨by decide +kernel, by decide +kernel⟩, fun i => by unfold z_ptr; rw [if_neg (show ¬ (267 : Int) ≤ 186 by decide), if_neg (show ¬ (267 : Int) ≤ 205 by decide), show z_ptrL.getD ((267 : Int) - 206).toNat [] = [] by decide +kernel]; split <;> rfl⟩
theorem ia_268 : z_ia 268 3 := ⟨by decide +kernel, ⟨by decide +kernel, by decide +kernel⟩, fun i => by unfold z_ptr; rw [if_neg (show ¬ (268 : Int) ≤ 186 by decide), if_neg (show ¬ (268 : Int) ≤ 205 by decide), show z_ptrL.getD ((268 : Int) - 206).toNat [] = [] by decide +kernel]; split <;> rfl⟩
theorem ia_269 : z_ia 269 3 := ⟨by decide +kernel, ⟨by decide +kernel, by decide +kernel⟩, fun i => by unfold z_ptr; rw [if_neg (show ¬ (269 : Int) ≤ 186 by decide), if_neg (show ¬ (269 : Int) ≤ 205 by decide), show z_ptrL.getD ((269 : Int) - 206).toNat [] = [] by decide +kernel]; split <;> rfl⟩
theorem ia_270 : z_ia 270 99 := ⟨by decide +kernel, ⟨by decide +kernel, by decide +kernel⟩, fun i => by unfold z_ptr; rw [if_neg (show ¬ (270 : Int) ≤ 186 by decide), if_neg (show ¬ (270 : Int) ≤ 205 by decide), show z_ptrL.getD ((270 : Int) - 206).toNat [] = [] by decide +kernel]; split <;> rfl⟩
theorem ia_271 : z_ia 271 99 := ⟨by decide +kernel, ⟨by decide +kernel, by decide +kernel⟩, fun i => by unfold z_ptr; rw [if_neg (show ¬ (271 : Int) ≤ 186 by decide), if_neg (show ¬ (271 : Int) ≤ 205 by decide), show z_ptrL.getD ((271 : Int) - 206).toNat [] = [] by decide +kernel]; split <;> rfl⟩
theorem ia_272 : z_ia 272 3 := ⟨by decide +kernel, ⟨by decide +kernel, by decide +kernel⟩, fun i => by unfold z_ptr; rw [if_neg (show ¬ (272 : Int) ≤ 186 by decide), if_neg (show ¬ (272 : Int) ≤ 205 by decide), show z_ptrL.getD ((272 : Int) - 206).toNat [] = [] by decide +kernel]; split <;> rfl⟩
theorem ia_273 : z_ia 273 3 := ⟨by decide +kernel, ⟨by decide +kernel, by decide +kernel⟩, fun i => by unfold z_ptr; rw [if_neg (show ¬ (273 : Int) ≤ 186 by decide), if_neg (show ¬ (273 : Int) ≤ 205 by decide), show z_ptrL.getD ((273 : Int) - 206).toNat [] = [] by decide +kernel]; split <;> rfl⟩
theorem ia_274 : z_ia 274 3 := ⟨by decide +kernel, ⟨by decide +kernel, by decide +kernel⟩, fun i => by unfold z_ptr; rw [if_neg (show ¬ (274 : Int) ≤ 186 by decide), if_neg (show ¬ (274 : Int) ≤ 205 by decide), show z_ptrL.getD ((274 : Int) - 206).toNat [] = [] by decide +kernel]; split <;> rfl⟩
theorem pt_206_0 : z_ptr 206 0 = 207 := by decide +kernel
theorem pt_206_1 : z_ptr 206 1 = 212 := by decide +kernel
theorem pt_206_2 : z_ptr 206 2 = 215 := by decide +kernel
theorem pt_206_3 : z_ptr 206 3 = 222 := by decide +kernel
theorem pt_206_4 : z_ptr 206 4 = 233 := by decide +kernel
theorem pt_206_5 : z_ptr 206 5 = 238 := by decide +kernel
theorem pt_206_6 : z_ptr 206 6 = 240 := by decide +kernel
theorem pt_206_7 : z_ptr 206 7 = 244 := by decide +kernel
theorem pt_206_8 : z_ptr 206 8 = 204 := by decide +kernel
theorem pt_206_9 : z_ptr 206 9 = 205 := by decide +kernel
theorem pt_206_10 : z_ptr 206 10 = 178 := by decide +kernel
theorem pt_206_11 : z_ptr 206 11 = 0 := by decide +kernel
theorem pt_207_0 : z_ptr 207 0 = 208 := by decide +kernel
theorem pt_207_1 : z_ptr 207 1 = 209 := by decide +kernel
theorem pt_207_2 : z_ptr 207 2 = 210 := by decide +kernel
theorem pt_207_3 : z_ptr 207 3 = 211 := by decide +kernel
theorem pt_207_4 : z_ptr 207 4 = 0 := by decide +kernel
theorem pt_212_0 : z_ptr 212 0 = 213 := by decide +kernel
theorem pt_212_1 : z_ptr 212 1 = 214 := by decide +kernel
theorem pt_212_2 : z_ptr 212 2 = 207 := by decide +kernel
theorem pt_212_3 : z_ptr 212 3 = 0 := by decide +kernel
theorem pt_212_4 : z_ptr 212 4 = 0 := by decide +kernel
theorem pt_212_5 : z_ptr 212 5 = 0 := by decide +kernel
theorem pt_212_6 : z_ptr 212 6 = 0 := by decide +kernel
theorem pt_212_7 : z_ptr 212 7 = 0 := by decide +kernel
theorem pt_212_8 : z_ptr 212 8 = 0 := by decide +kernel
theorem pt_212_9 : z_ptr 212 9 = 0 := by decide +kernel
theorem pt_215_0 : z_ptr 215 0 = 207 := by decide +kernel
theorem pt_215_1 : z_ptr 215 1 = 216 := by decide +kernel
theorem pt_215_2 : z_ptr 215 2 = 0 := by decide +kernel
theorem pt_215_3 : z_ptr 215 3 = 217 := by decide +kernel
theorem pt_215_4 : z_ptr 215 4 = 218 := by decide +kernel
theorem pt_215_5 : z_ptr 215 5 = 219 := by decide +kernel
theorem pt_215_6 : z_ptr 215 6 = 220 := by decide +kernel
theorem pt_215_7 : z_ptr 215 7 = 221 := by decide +kernel
theorem pt_215_8 : z_ptr 215 8 = 0 := by decide +kernel
theorem pt_215_9 : z_ptr 215 9 = 0 := by decide +kernel
theorem pt_222_0 : z_ptr 222 0 = 207 := by decide +kernel
theorem pt_222_1 : z_ptr 222 1 = 223 := by decide +kernel
theorem pt_222_2 : z_ptr 222 2 = 224 := by decide +kernel
theorem pt_222_3 : z_ptr 222 3 = 225 := by decide +kernel
theorem pt_222_4 : z_ptr 222 4 = 226 := by decide +kernel
theorem pt_222_5 : z_ptr 222 5 = 227 := by decide +kernel
theorem pt_222_6 : z_ptr 222 6 = 228 := by decide +kernel
theorem pt_222_7 : z_ptr 222 7 = 229 := by decide +kernel
theorem pt_222_8 : z_ptr 222 8 = 230 := by decide +kernel
theorem pt_222_9 : z_ptr 222 9 = 231 := by decide +kernel
theorem pt_222_10 : z_ptr 222 10 = 232 := by decide +kernel
theorem pt_222_11 : z_ptr 222 11 = 0 := by decide +kernel
theorem pt_222_12 : z_ptr 222 12 = 0 := by decide +kernel
theorem pt_222_13 : z_ptr 222 13 = 0 := by decide +kernel
theorem pt_222_14 : z_ptr 222 14 = 0 := by decide +kernel
theorem pt_233_0 : z_ptr 233 0 = 234 := by decide +kernel
theorem pt_233_1 : z_ptr 233 1 = 235 := by decide +kernel
theorem pt_236_0 : z_ptr 236 0 = 207 := by decide +kernel
theorem pt_236_1 : z_ptr 236 1 = 237 := by decide +kernel
theorem pt_238_0 : z_ptr 238 0 = 239 := by decide +kernel
theorem pt_238_1 : z_ptr 238 1 = 0 := by decide +kernel
theorem pt_238_2 : z_ptr 238 2 = 233 := by decide +kernel
theorem pt_238_3 : z_ptr 238 3 = 236 := by decide +kernel
theorem pt_238_4 : z_ptr 238 4 = 181 := by decide +kernel
theorem pt_240_0 : z_ptr 240 0 = 241 := by decide +kernel
theorem pt_240_1 : z_ptr 240 1 = 242 := by decide +kernel
theorem pt_240_2 : z_ptr 240 2 = 243 := by decide +kernel
theorem pt_240_3 : z_ptr 240 3 = 0 := by decide +kernel
theorem pt_240_4 : z_ptr 240 4 = 0 := by decide +kernel
theorem pt_244_0 : z_ptr 244 0 = 245 := by decide +kernel
theorem pt_244_1 : z_ptr 244 1 = 246 := by decide +kernel
theorem pt_244_2 : z_ptr 244 2 = 247 := by decide +kernel
theorem pt_244_3 : z_ptr 244 3 = 184 := by decide +kernel
theorem pt_244_4 : z_ptr 244 4 = 207 := by decide +kernel
theorem pt_244_5 : z_ptr 244 5 = 215 := by decide +kernel
theorem pt_244_6 : z_ptr 244 6 = 222 := by decide +kernel
theorem pt_244_7 : z_ptr 244 7 = 236 := by decide +kernel
theorem pt_244_8 : z_ptr 244 8 = 238 := by decide +kernel
theorem pt_244_9 : z_ptr 244 9 = 240 := by decide +kernel
theorem pt_248_0 : z_ptr 248 0 = 249 := by decide +kernel
theorem pt_248_1 : z_ptr 248 1 = 250 := by decide +kernel
theorem pt_248_2 : z_ptr 248 2 = 251 := by decide +kernel
theorem pt_248_3 : z_ptr 248 3 = 0 := by decide +kernel
theorem pt_248_4 : z_ptr 248 4 = 0 := by decide +kernel
theorem pt_248_5 : z_ptr 248 5 = 252 := by decide +kernel
theorem pt_248_6 : z_ptr 248 6 = 253 := by decide +kernel
theorem pt_248_7 : z_ptr 248 7 = 254 := by decide +kernel
theorem pt_248_8 : z_ptr 248 8 = 255 := by decide +kernel
theorem pt_248_9 : z_ptr 248 9 = 0 := by decide +kernel
theorem pt_248_10 : z_ptr 248 10 = 0 := by decide +kernel
theorem pt_248_11 : z_ptr 248 11 = 256 := by decide +kernel
theorem pt_248_12 : z_ptr 248 12 = 0 := by decide +kernel
theorem pt_248_13 : z_ptr 248 13 = 0 := by decide +kernel
theorem pt_248_14 : z_ptr 248 14 = 257 := by decide +kernel
theorem pt_248_15 : z_ptr 248 15 = 0 := by decide +kernel
theorem pt_248_16 : z_ptr 248 16 = 0 := by decide +kernel
theorem pt_248_17 : z_ptr 248 17 = 258 := by decide +kernel
theorem pt_248_18 : z_ptr 248 18 = 259 := by decide +kernel
theorem pt_248_19 : z_ptr 248 19 = 260 := by decide +kernel
theorem pt_248_20 : z_ptr 248 20 = 261 := by decide +kernel
theorem pt_248_21 : z_ptr 248 21 = 262 := by decide +kernel
theorem pt_248_22 : z_ptr 248 22 = 0 := by decide +kernel
theorem pt_248_23 : z_ptr 248 23 = 263 := by decide +kernel
theorem pt_248_24 : z_ptr 248 24 = 264 := by decide +kernel
theorem pt_248_25 : z_ptr 248 25 = 0 := by decide +kernel
theorem pt_248_26 : z_ptr 248 26 = 0 := by decide +kernel
theorem pt_248_27 : z_ptr 248 27 = 265 := by decide +kernel
theorem pt_248_28 : z_ptr 248 28 = 0 := by decide +kernel
theorem pt_248_29 : z_ptr 248 29 = 0 := by decide +kernel
theorem pt_248_30 : z_ptr 248 30 = 0 := by decide +kernel
theorem pt_248_31 : z_ptr 248 31 = 266 := by decide +kernel
theorem pt_248_32 : z_ptr 248 32 = 267 := by decide +kernel
theorem pt_248_33 : z_ptr 248 33 = 268 := by decide +kernel
theorem pt_248_34 : z_ptr 248 34 = 269 := by decide +kernel
theorem pt_248_35 : z_ptr 248 35 = 0 := by decide +kernel
theorem pt_248_36 : z_ptr 248 36 = 0 := by decide +kernel
theorem pt_248_37 : z_ptr 248 37 = 0 := by decide +kernel
theorem pt_248_38 : z_ptr 248 38 = 0 := by decide +kernel
theorem pt_248_39 : z_ptr 248 39 = 0 := by decide +kernel
theorem pt_248_40 : z_ptr 248 40 = 270 := by decide +kernel
theorem pt_248_41 : z_ptr 248 41 = 271 := by decide +kernel
theorem pt_248_42 : z_ptr 248 42 = 0 := by decide +kernel
theorem pt_248_43 : z_ptr 248 43 = 0 := by decide +kernel
theorem pt_248_44 : z_ptr 248 44 = 0 := by decide +kernel
theorem pt_248_45 : z_ptr 248 45 = 0 := by decide +kernel
theorem pt_248_46 : z_ptr 248 46 = 0 := by decide +kernel
theorem pt_248_47 : z_ptr 248 47 = 272 := by decide +kernel
theorem pt_248_48 : z_ptr 248 48 = 273 := by decide +kernel
theorem pt_248_49 : z_ptr 248 49 = 274 := by decide +kernel
