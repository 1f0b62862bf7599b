/-! Cells by their kinds; what a local forgets; the methods' names with integers. -/
theorem jz_lt205 {a : Nat} (h : jz_kd a ≠ 0) : a < 205 := by
  by_cases h1 : a < 205
  · exact h1
  · exfalso
    apply h
    unfold jz_kd
    rw [List.getElem?_eq_none (by have : jm_lay0.length = 205 := by decide +kernel
                                  omega)]
def jz_chk (n : Nat) (f : Nat → Bool) : Bool := (List.range 205).all fun a => !(jz_kd a == n) || f a
theorem jz_chk_use {n : Nat} {f : Nat → Bool} (h : jz_chk n f = true) (hn : n ≠ 0) {a : Nat} (ha : jz_kd a = n) : f a = true := by
  have h1 := List.all_eq_true.mp h a (List.mem_range.mpr (jz_lt205 (by omega)))
  rw [ha] at h1
  simpa using h1

theorem jz_m16 : jz_chk 16 (fun a => (jz_rf a 0 == some (a + 1) && jz_kd (a + 1) == 1 && jz_ln (a + 1) == 60) && (jz_rf a 1 == some (a + 2) && jz_kd (a + 2) == 1 && jz_ln (a + 2) == 60)) = true := by decide +kernel
theorem jzr_16_1 {a : Nat} (h : jz_kd a = 16) : jz_rf a 0 = some (a + 1) := by
  have h0 := jz_chk_use jz_m16 (by decide) h
  simp only [Bool.and_eq_true, beq_iff_eq] at h0
  first | exact h0.1.1 | exact h0.1.2 | (rw [h0.2]; rfl) | exact h0.1.1.1 | exact h0.1.1.2 | (rw [h0.1.2]; rfl) | exact h0.2.1.1 | exact h0.2.1.2 | (rw [h0.2.2]; rfl) | exact h0.1.1.1.1 | exact h0.1.1.1.2 | (rw [h0.1.1.2]; rfl) | exact h0.1.2.1.1 | exact h0.1.2.1.2 | (rw [h0.1.2.2]; rfl)
theorem jzk_16_1 {a : Nat} (h : jz_kd a = 16) : jz_kd (a + 1) = 1 := by
  have h0 := jz_chk_use jz_m16 (by decide) h
  simp only [Bool.and_eq_true, beq_iff_eq] at h0
  first | exact h0.1.1 | exact h0.1.2 | (rw [h0.2]; rfl) | exact h0.1.1.1 | exact h0.1.1.2 | (rw [h0.1.2]; rfl) | exact h0.2.1.1 | exact h0.2.1.2 | (rw [h0.2.2]; rfl) | exact h0.1.1.1.1 | exact h0.1.1.1.2 | (rw [h0.1.1.2]; rfl) | exact h0.1.2.1.1 | exact h0.1.2.1.2 | (rw [h0.1.2.2]; rfl)
theorem jzn_16_1 {a : Nat} (h : jz_kd a = 16) : (jz_ln (a + 1) : Int) = 60 := by
  have h0 := jz_chk_use jz_m16 (by decide) h
  simp only [Bool.and_eq_true, beq_iff_eq] at h0
  first | exact h0.1.1 | exact h0.1.2 | (rw [h0.2]; rfl) | exact h0.1.1.1 | exact h0.1.1.2 | (rw [h0.1.2]; rfl) | exact h0.2.1.1 | exact h0.2.1.2 | (rw [h0.2.2]; rfl) | exact h0.1.1.1.1 | exact h0.1.1.1.2 | (rw [h0.1.1.2]; rfl) | exact h0.1.2.1.1 | exact h0.1.2.1.2 | (rw [h0.1.2.2]; rfl)
theorem jzr_16_2 {a : Nat} (h : jz_kd a = 16) : jz_rf a 1 = some (a + 2) := by
  have h0 := jz_chk_use jz_m16 (by decide) h
  simp only [Bool.and_eq_true, beq_iff_eq] at h0
  first | exact h0.1.1 | exact h0.1.2 | (rw [h0.2]; rfl) | exact h0.1.1.1 | exact h0.1.1.2 | (rw [h0.1.2]; rfl) | exact h0.2.1.1 | exact h0.2.1.2 | (rw [h0.2.2]; rfl) | exact h0.1.1.1.1 | exact h0.1.1.1.2 | (rw [h0.1.1.2]; rfl) | exact h0.1.2.1.1 | exact h0.1.2.1.2 | (rw [h0.1.2.2]; rfl)
theorem jzk_16_2 {a : Nat} (h : jz_kd a = 16) : jz_kd (a + 2) = 1 := by
  have h0 := jz_chk_use jz_m16 (by decide) h
  simp only [Bool.and_eq_true, beq_iff_eq] at h0
  first | exact h0.1.1 | exact h0.1.2 | (rw [h0.2]; rfl) | exact h0.1.1.1 | exact h0.1.1.2 | (rw [h0.1.2]; rfl) | exact h0.2.1.1 | exact h0.2.1.2 | (rw [h0.2.2]; rfl) | exact h0.1.1.1.1 | exact h0.1.1.1.2 | (rw [h0.1.1.2]; rfl) | exact h0.1.2.1.1 | exact h0.1.2.1.2 | (rw [h0.1.2.2]; rfl)
theorem jzn_16_2 {a : Nat} (h : jz_kd a = 16) : (jz_ln (a + 2) : Int) = 60 := by
  have h0 := jz_chk_use jz_m16 (by decide) h
  simp only [Bool.and_eq_true, beq_iff_eq] at h0
  first | exact h0.1.1 | exact h0.1.2 | (rw [h0.2]; rfl) | exact h0.1.1.1 | exact h0.1.1.2 | (rw [h0.1.2]; rfl) | exact h0.2.1.1 | exact h0.2.1.2 | (rw [h0.2.2]; rfl) | exact h0.1.1.1.1 | exact h0.1.1.1.2 | (rw [h0.1.1.2]; rfl) | exact h0.1.2.1.1 | exact h0.1.2.1.2 | (rw [h0.1.2.2]; rfl)
theorem jz_m18 : jz_chk 18 (fun a => (jz_rf a 0 == some (a + 1) && jz_kd (a + 1) == 1 && jz_ln (a + 1) == 60) && (jz_rf a 1 == some (a + 2) && jz_kd (a + 2) == 1 && jz_ln (a + 2) == 60) && (jz_rf a 2 == some (a + 3) && jz_kd (a + 3) == 1 && jz_ln (a + 3) == 16)) = true := by decide +kernel
theorem jzr_18_1 {a : Nat} (h : jz_kd a = 18) : jz_rf a 0 = some (a + 1) := by
  have h0 := jz_chk_use jz_m18 (by decide) h
  simp only [Bool.and_eq_true, beq_iff_eq] at h0
  first | exact h0.1.1 | exact h0.1.2 | (rw [h0.2]; rfl) | exact h0.1.1.1 | exact h0.1.1.2 | (rw [h0.1.2]; rfl) | exact h0.2.1.1 | exact h0.2.1.2 | (rw [h0.2.2]; rfl) | exact h0.1.1.1.1 | exact h0.1.1.1.2 | (rw [h0.1.1.2]; rfl) | exact h0.1.2.1.1 | exact h0.1.2.1.2 | (rw [h0.1.2.2]; rfl)
theorem jzk_18_1 {a : Nat} (h : jz_kd a = 18) : jz_kd (a + 1) = 1 := by
  have h0 := jz_chk_use jz_m18 (by decide) h
  simp only [Bool.and_eq_true, beq_iff_eq] at h0
  first | exact h0.1.1 | exact h0.1.2 | (rw [h0.2]; rfl) | exact h0.1.1.1 | exact h0.1.1.2 | (rw [h0.1.2]; rfl) | exact h0.2.1.1 | exact h0.2.1.2 | (rw [h0.2.2]; rfl) | exact h0.1.1.1.1 | exact h0.1.1.1.2 | (rw [h0.1.1.2]; rfl) | exact h0.1.2.1.1 | exact h0.1.2.1.2 | (rw [h0.1.2.2]; rfl)
theorem jzn_18_1 {a : Nat} (h : jz_kd a = 18) : (jz_ln (a + 1) : Int) = 60 := by
  have h0 := jz_chk_use jz_m18 (by decide) h
  simp only [Bool.and_eq_true, beq_iff_eq] at h0
  first | exact h0.1.1 | exact h0.1.2 | (rw [h0.2]; rfl) | exact h0.1.1.1 | exact h0.1.1.2 | (rw [h0.1.2]; rfl) | exact h0.2.1.1 | exact h0.2.1.2 | (rw [h0.2.2]; rfl) | exact h0.1.1.1.1 | exact h0.1.1.1.2 | (rw [h0.1.1.2]; rfl) | exact h0.1.2.1.1 | exact h0.1.2.1.2 | (rw [h0.1.2.2]; rfl)
theorem jzr_18_2 {a : Nat} (h : jz_kd a = 18) : jz_rf a 1 = some (a + 2) := by
  have h0 := jz_chk_use jz_m18 (by decide) h
  simp only [Bool.and_eq_true, beq_iff_eq] at h0
  first | exact h0.1.1 | exact h0.1.2 | (rw [h0.2]; rfl) | exact h0.1.1.1 | exact h0.1.1.2 | (rw [h0.1.2]; rfl) | exact h0.2.1.1 | exact h0.2.1.2 | (rw [h0.2.2]; rfl) | exact h0.1.1.1.1 | exact h0.1.1.1.2 | (rw [h0.1.1.2]; rfl) | exact h0.1.2.1.1 | exact h0.1.2.1.2 | (rw [h0.1.2.2]; rfl)
theorem jzk_18_2 {a : Nat} (h : jz_kd a = 18) : jz_kd (a + 2) = 1 := by
  have h0 := jz_chk_use jz_m18 (by decide) h
  simp only [Bool.and_eq_true, beq_iff_eq] at h0
  first | exact h0.1.1 | exact h0.1.2 | (rw [h0.2]; rfl) | exact h0.1.1.1 | exact h0.1.1.2 | (rw [h0.1.2]; rfl) | exact h0.2.1.1 | exact h0.2.1.2 | (rw [h0.2.2]; rfl) | exact h0.1.1.1.1 | exact h0.1.1.1.2 | (rw [h0.1.1.2]; rfl) | exact h0.1.2.1.1 | exact h0.1.2.1.2 | (rw [h0.1.2.2]; rfl)
theorem jzn_18_2 {a : Nat} (h : jz_kd a = 18) : (jz_ln (a + 2) : Int) = 60 := by
  have h0 := jz_chk_use jz_m18 (by decide) h
  simp only [Bool.and_eq_true, beq_iff_eq] at h0
  first | exact h0.1.1 | exact h0.1.2 | (rw [h0.2]; rfl) | exact h0.1.1.1 | exact h0.1.1.2 | (rw [h0.1.2]; rfl) | exact h0.2.1.1 | exact h0.2.1.2 | (rw [h0.2.2]; rfl) | exact h0.1.1.1.1 | exact h0.1.1.1.2 | (rw [h0.1.1.2]; rfl) | exact h0.1.2.1.1 | exact h0.1.2.1.2 | (rw [h0.1.2.2]; rfl)
theorem jzr_18_3 {a : Nat} (h : jz_kd a = 18) : jz_rf a 2 = some (a + 3) := by
  have h0 := jz_chk_use jz_m18 (by decide) h
  simp only [Bool.and_eq_true, beq_iff_eq] at h0
  first | exact h0.1.1 | exact h0.1.2 | (rw [h0.2]; rfl) | exact h0.1.1.1 | exact h0.1.1.2 | (rw [h0.1.2]; rfl) | exact h0.2.1.1 | exact h0.2.1.2 | (rw [h0.2.2]; rfl) | exact h0.1.1.1.1 | exact h0.1.1.1.2 | (rw [h0.1.1.2]; rfl) | exact h0.1.2.1.1 | exact h0.1.2.1.2 | (rw [h0.1.2.2]; rfl)
theorem jzk_18_3 {a : Nat} (h : jz_kd a = 18) : jz_kd (a + 3) = 1 := by
  have h0 := jz_chk_use jz_m18 (by decide) h
  simp only [Bool.and_eq_true, beq_iff_eq] at h0
  first | exact h0.1.1 | exact h0.1.2 | (rw [h0.2]; rfl) | exact h0.1.1.1 | exact h0.1.1.2 | (rw [h0.1.2]; rfl) | exact h0.2.1.1 | exact h0.2.1.2 | (rw [h0.2.2]; rfl) | exact h0.1.1.1.1 | exact h0.1.1.1.2 | (rw [h0.1.1.2]; rfl) | exact h0.1.2.1.1 | exact h0.1.2.1.2 | (rw [h0.1.2.2]; rfl)
theorem jzn_18_3 {a : Nat} (h : jz_kd a = 18) : (jz_ln (a + 3) : Int) = 16 := by
  have h0 := jz_chk_use jz_m18 (by decide) h
  simp only [Bool.and_eq_true, beq_iff_eq] at h0
  first | exact h0.1.1 | exact h0.1.2 | (rw [h0.2]; rfl) | exact h0.1.1.1 | exact h0.1.1.2 | (rw [h0.1.2]; rfl) | exact h0.2.1.1 | exact h0.2.1.2 | (rw [h0.2.2]; rfl) | exact h0.1.1.1.1 | exact h0.1.1.1.2 | (rw [h0.1.1.2]; rfl) | exact h0.1.2.1.1 | exact h0.1.2.1.2 | (rw [h0.1.2.2]; rfl)
theorem jz_m12 : jz_chk 12 (fun a => (jz_rf a 0 == some (a + 1) && jz_kd (a + 1) == 4 && jz_ln (a + 1) == 24) && ((List.range 24).all fun i => jz_rf (a + 1) i == some (a + 2 + i) && jz_kd (a + 2 + i) == 10)) = true := by decide +kernel
theorem jzr_12_1 {a : Nat} (h : jz_kd a = 12) : jz_rf a 0 = some (a + 1) := by
  have h0 := jz_chk_use jz_m12 (by decide) h
  simp only [Bool.and_eq_true, beq_iff_eq] at h0
  first | exact h0.1.1 | exact h0.1.2 | (rw [h0.2]; rfl) | exact h0.1.1.1 | exact h0.1.1.2 | (rw [h0.1.2]; rfl) | exact h0.2.1.1 | exact h0.2.1.2 | (rw [h0.2.2]; rfl) | exact h0.1.1.1.1 | exact h0.1.1.1.2 | (rw [h0.1.1.2]; rfl) | exact h0.1.2.1.1 | exact h0.1.2.1.2 | (rw [h0.1.2.2]; rfl)
theorem jzk_12_1 {a : Nat} (h : jz_kd a = 12) : jz_kd (a + 1) = 4 := by
  have h0 := jz_chk_use jz_m12 (by decide) h
  simp only [Bool.and_eq_true, beq_iff_eq] at h0
  first | exact h0.1.1 | exact h0.1.2 | (rw [h0.2]; rfl) | exact h0.1.1.1 | exact h0.1.1.2 | (rw [h0.1.2]; rfl) | exact h0.2.1.1 | exact h0.2.1.2 | (rw [h0.2.2]; rfl) | exact h0.1.1.1.1 | exact h0.1.1.1.2 | (rw [h0.1.1.2]; rfl) | exact h0.1.2.1.1 | exact h0.1.2.1.2 | (rw [h0.1.2.2]; rfl)
theorem jzn_12_1 {a : Nat} (h : jz_kd a = 12) : (jz_ln (a + 1) : Int) = 24 := by
  have h0 := jz_chk_use jz_m12 (by decide) h
  simp only [Bool.and_eq_true, beq_iff_eq] at h0
  first | exact h0.1.1 | exact h0.1.2 | (rw [h0.2]; rfl) | exact h0.1.1.1 | exact h0.1.1.2 | (rw [h0.1.2]; rfl) | exact h0.2.1.1 | exact h0.2.1.2 | (rw [h0.2.2]; rfl) | exact h0.1.1.1.1 | exact h0.1.1.1.2 | (rw [h0.1.1.2]; rfl) | exact h0.1.2.1.1 | exact h0.1.2.1.2 | (rw [h0.1.2.2]; rfl)
theorem jzr_12e {a : Nat} (h : jz_kd a = 12) {i : Int} (hi : 0 ≤ i ∧ i < 24) : jz_rf (a + 1) i.toNat = some (a + 2 + i.toNat) := by
  have h0 := jz_chk_use jz_m12 (by decide) h
  simp only [Bool.and_eq_true, beq_iff_eq] at h0
  have h1 := List.all_eq_true.mp h0.2 i.toNat (List.mem_range.mpr (by omega))
  simp only [Bool.and_eq_true, beq_iff_eq] at h1
  first | exact h1.1 | exact h1.2
theorem jze_12e {a : Nat} (h : jz_kd a = 12) {i : Int} (hi : 0 ≤ i ∧ i < 24) : jz_kd (a + 2 + i.toNat) = 10 := by
  have h0 := jz_chk_use jz_m12 (by decide) h
  simp only [Bool.and_eq_true, beq_iff_eq] at h0
  have h1 := List.all_eq_true.mp h0.2 i.toNat (List.mem_range.mpr (by omega))
  simp only [Bool.and_eq_true, beq_iff_eq] at h1
  first | exact h1.1 | exact h1.2
theorem jz_m15 : jz_chk 15 (fun a => (jz_rf a 0 == some (a + 1) && jz_kd (a + 1) == 2 && jz_ln (a + 1) == 40)) = true := by decide +kernel
theorem jzr_15_1 {a : Nat} (h : jz_kd a = 15) : jz_rf a 0 = some (a + 1) := by
  have h0 := jz_chk_use jz_m15 (by decide) h
  simp only [Bool.and_eq_true, beq_iff_eq] at h0
  first | exact h0.1.1 | exact h0.1.2 | (rw [h0.2]; rfl) | exact h0.1.1.1 | exact h0.1.1.2 | (rw [h0.1.2]; rfl) | exact h0.2.1.1 | exact h0.2.1.2 | (rw [h0.2.2]; rfl) | exact h0.1.1.1.1 | exact h0.1.1.1.2 | (rw [h0.1.1.2]; rfl) | exact h0.1.2.1.1 | exact h0.1.2.1.2 | (rw [h0.1.2.2]; rfl)
theorem jzk_15_1 {a : Nat} (h : jz_kd a = 15) : jz_kd (a + 1) = 2 := by
  have h0 := jz_chk_use jz_m15 (by decide) h
  simp only [Bool.and_eq_true, beq_iff_eq] at h0
  first | exact h0.1.1 | exact h0.1.2 | (rw [h0.2]; rfl) | exact h0.1.1.1 | exact h0.1.1.2 | (rw [h0.1.2]; rfl) | exact h0.2.1.1 | exact h0.2.1.2 | (rw [h0.2.2]; rfl) | exact h0.1.1.1.1 | exact h0.1.1.1.2 | (rw [h0.1.1.2]; rfl) | exact h0.1.2.1.1 | exact h0.1.2.1.2 | (rw [h0.1.2.2]; rfl)
theorem jzn_15_1 {a : Nat} (h : jz_kd a = 15) : (jz_ln (a + 1) : Int) = 40 := by
  have h0 := jz_chk_use jz_m15 (by decide) h
  simp only [Bool.and_eq_true, beq_iff_eq] at h0
  first | exact h0.1.1 | exact h0.1.2 | (rw [h0.2]; rfl) | exact h0.1.1.1 | exact h0.1.1.2 | (rw [h0.1.2]; rfl) | exact h0.2.1.1 | exact h0.2.1.2 | (rw [h0.2.2]; rfl) | exact h0.1.1.1.1 | exact h0.1.1.1.2 | (rw [h0.1.1.2]; rfl) | exact h0.1.2.1.1 | exact h0.1.2.1.2 | (rw [h0.1.2.2]; rfl)
theorem jz_l62 : ((List.range 24).all fun i => jz_rf 62 i == some (68 + 3 * i) && jz_kd (68 + 3 * i) == 16) = true := by decide +kernel
theorem jzr_62 {i : Int} (hi : 0 ≤ i ∧ i < 24) : jz_rf 62 i.toNat = some (68 + 3 * i.toNat) := by
  have h1 := List.all_eq_true.mp jz_l62 i.toNat (List.mem_range.mpr (by omega))
  simp only [Bool.and_eq_true, beq_iff_eq] at h1
  first | exact h1.1 | exact h1.2 | exact h1.1.1 | exact h1.1.2 | (rw [h1.2]; rfl)
theorem jze_62 {i : Int} (hi : 0 ≤ i ∧ i < 24) : jz_kd (68 + 3 * i.toNat) = 16 := by
  have h1 := List.all_eq_true.mp jz_l62 i.toNat (List.mem_range.mpr (by omega))
  simp only [Bool.and_eq_true, beq_iff_eq] at h1
  first | exact h1.1 | exact h1.2 | exact h1.1.1 | exact h1.1.2 | (rw [h1.2]; rfl)
theorem jz_l149 : ((List.range 8).all fun i => jz_rf 149 i == some (151 + 2 * i) && jz_kd (151 + 2 * i) == 15) = true := by decide +kernel
theorem jzr_149 {i : Int} (hi : 0 ≤ i ∧ i < 8) : jz_rf 149 i.toNat = some (151 + 2 * i.toNat) := by
  have h1 := List.all_eq_true.mp jz_l149 i.toNat (List.mem_range.mpr (by omega))
  simp only [Bool.and_eq_true, beq_iff_eq] at h1
  first | exact h1.1 | exact h1.2 | exact h1.1.1 | exact h1.1.2 | (rw [h1.2]; rfl)
theorem jze_149 {i : Int} (hi : 0 ≤ i ∧ i < 8) : jz_kd (151 + 2 * i.toNat) = 15 := by
  have h1 := List.all_eq_true.mp jz_l149 i.toNat (List.mem_range.mpr (by omega))
  simp only [Bool.and_eq_true, beq_iff_eq] at h1
  first | exact h1.1 | exact h1.2 | exact h1.1.1 | exact h1.1.2 | (rw [h1.2]; rfl)
theorem jz_l171 : ((List.range 8).all fun i => jz_rf 171 i == some (172 + i) && jz_kd (172 + i) == 2 && jz_ln (172 + i) == 40) = true := by decide +kernel
theorem jzr_171 {i : Int} (hi : 0 ≤ i ∧ i < 8) : jz_rf 171 i.toNat = some (172 + i.toNat) := by
  have h1 := List.all_eq_true.mp jz_l171 i.toNat (List.mem_range.mpr (by omega))
  simp only [Bool.and_eq_true, beq_iff_eq] at h1
  first | exact h1.1 | exact h1.2 | exact h1.1.1 | exact h1.1.2 | (rw [h1.2]; rfl)
theorem jze_171 {i : Int} (hi : 0 ≤ i ∧ i < 8) : jz_kd (172 + i.toNat) = 2 := by
  have h1 := List.all_eq_true.mp jz_l171 i.toNat (List.mem_range.mpr (by omega))
  simp only [Bool.and_eq_true, beq_iff_eq] at h1
  first | exact h1.1 | exact h1.2 | exact h1.1.1 | exact h1.1.2 | (rw [h1.2]; rfl)
theorem jzl_171 {i : Int} (hi : 0 ≤ i ∧ i < 8) : (jz_ln (172 + i.toNat) : Int) = 40 := by
  have h1 := List.all_eq_true.mp jz_l171 i.toNat (List.mem_range.mpr (by omega))
  simp only [Bool.and_eq_true, beq_iff_eq] at h1
  first | exact h1.1 | exact h1.2 | exact h1.1.1 | exact h1.1.2 | (rw [h1.2]; rfl)
theorem jz_l10 : ((List.range 24).all fun i => jz_rf 10 i == some (11 + i) && jz_kd (11 + i) == 10) = true := by decide +kernel
theorem jzr_10 {i : Int} (hi : 0 ≤ i ∧ i < 24) : jz_rf 10 i.toNat = some (11 + i.toNat) := by
  have h1 := List.all_eq_true.mp jz_l10 i.toNat (List.mem_range.mpr (by omega))
  simp only [Bool.and_eq_true, beq_iff_eq] at h1
  first | exact h1.1 | exact h1.2 | exact h1.1.1 | exact h1.1.2 | (rw [h1.2]; rfl)
theorem jze_10 {i : Int} (hi : 0 ≤ i ∧ i < 24) : jz_kd (11 + i.toNat) = 10 := by
  have h1 := List.all_eq_true.mp jz_l10 i.toNat (List.mem_range.mpr (by omega))
  simp only [Bool.and_eq_true, beq_iff_eq] at h1
  first | exact h1.1 | exact h1.2 | exact h1.1.1 | exact h1.1.2 | (rw [h1.2]; rfl)
theorem jz_l36 : ((List.range 24).all fun i => jz_rf 36 i == some (37 + i) && jz_kd (37 + i) == 10) = true := by decide +kernel
theorem jzr_36 {i : Int} (hi : 0 ≤ i ∧ i < 24) : jz_rf 36 i.toNat = some (37 + i.toNat) := by
  have h1 := List.all_eq_true.mp jz_l36 i.toNat (List.mem_range.mpr (by omega))
  simp only [Bool.and_eq_true, beq_iff_eq] at h1
  first | exact h1.1 | exact h1.2 | exact h1.1.1 | exact h1.1.2 | (rw [h1.2]; rfl)
theorem jze_36 {i : Int} (hi : 0 ≤ i ∧ i < 24) : jz_kd (37 + i.toNat) = 10 := by
  have h1 := List.all_eq_true.mp jz_l36 i.toNat (List.mem_range.mpr (by omega))
  simp only [Bool.and_eq_true, beq_iff_eq] at h1
  first | exact h1.1 | exact h1.2 | exact h1.1.1 | exact h1.1.2 | (rw [h1.2]; rfl)
def jz_nd (v : Option Value) : Prop := ∀ x, v ≠ some (.double x)
def jz_R : jm_L → jm_L → Prop
  | [], [] => True
  | none :: l, v :: l' => jz_nd v ∧ jz_R l l'
  | some x :: l, v :: l' => v = some x ∧ jz_R l l'
  | _, _ => False
theorem jz_n0 : jz_nd none := fun _ h => by cases h
theorem jz_ni {x : Int32} : jz_nd (some (.int x)) := fun _ h => by cases h
theorem jz_nl {x : Int64} : jz_nd (some (.long x)) := fun _ h => by cases h
theorem jz_nr {x : Nat} : jz_nd (some (.ref x)) := fun _ h => by cases h
theorem jz_ns {x : Nat} : jz_nd (some (.retAddr x)) := fun _ h => by cases h
/-- pointwise -/
def jz_P (l l' : jm_L) : Prop := l.length = l'.length ∧ ∀ k : Nat, l'[k]? = l[k]? ∨ (l[k]? = some none ∧ ∀ x, l'[k]? ≠ some (some (.double x)))
theorem jz_P_of : ∀ {l l' : jm_L}, jz_R l l' → jz_P l l'
  | [], [], _ => ⟨rfl, fun _ => .inl rfl⟩
  | none :: l, v :: l', h => by
    obtain ⟨h1, h2⟩ := jz_P_of h.2
    refine ⟨by simp [h1], fun k => ?_⟩
    cases k with
    | zero => exact .inr ⟨rfl, fun x hx => h.1 x (by simpa using hx)⟩
    | succ k => simpa using h2 k
  | some x :: l, v :: l', h => by
    obtain ⟨h1, h2⟩ := jz_P_of h.2
    obtain rfl := h.1
    refine ⟨by simp [h1], fun k => ?_⟩
    cases k with
    | zero => exact .inl rfl
    | succ k => simpa using h2 k
  | [], _ :: _, h => h.elim
  | some _ :: _, [], h => h.elim
  | none :: _, [], h => h.elim
theorem jz_P_some {l l' : jm_L} (h : jz_P l l') {k : Nat} {v : Value} (hk : l[k]? = some (some v)) : l'[k]? = some (some v) := by
  rcases h.2 k with h1 | h1
  · rw [h1, hk]
  · rw [h1.1] at hk
    cases hk
theorem jz_P_set {l l' : jm_L} (h : jz_P l l') (k : Nat) (v : Option Value) : jz_P (l.set k v) (l'.set k v) := by
  refine ⟨by simp [h.1], fun j => ?_⟩
  by_cases hj : k = j
  · subst hj
    by_cases hl : k < l.length
    · exact .inl (by rw [List.getElem?_set_self hl, List.getElem?_set_self (by rw [← h.1]; exact hl)])
    · exact .inl (by rw [List.getElem?_eq_none (by rw [List.length_set, ← h.1]; omega), List.getElem?_eq_none (by rw [List.length_set]; omega)])
  · rw [List.getElem?_set_ne hj, List.getElem?_set_ne hj]
    exact h.2 j
theorem jz_P_set0 {l l' : jm_L} (h : jz_P l l') {k : Nat} (hk : l[k]? = some none) : jz_P l (l'.set k none) := by
  refine ⟨by simp [h.1], fun j => ?_⟩
  by_cases hj : k = j
  · subst hj
    have hl : k < l.length := (List.getElem?_eq_some_iff.mp hk).1
    exact .inl (by rw [List.getElem?_set_self (by rw [← h.1]; exact hl), hk])
  · rw [List.getElem?_set_ne hj]
    exact h.2 j
theorem jz_P_st1 {l l' m : jm_L} (h : jz_P l l') {k : Nat} {v : Value} (hs : jm_st1 l k v = some m) : ∃ m', jm_st1 l' k v = some m' ∧ jz_P m m' := by
  unfold jm_st1 at hs ⊢
  rw [← h.1]
  split at hs
  · rename_i hk
    rw [if_pos hk]
    cases k with
    | zero =>
      cases hs
      exact ⟨_, rfl, jz_P_set h 0 _⟩
    | succ j =>
      dsimp only at hs ⊢
      rcases h.2 j with h1 | ⟨h1, h2⟩
      · rw [h1]
        split at hs
        · cases hs
          exact ⟨_, rfl, jz_P_set (jz_P_set h _ _) _ _⟩
        · cases hs
        · cases hs
          exact ⟨_, rfl, jz_P_set h _ _⟩
      · rw [h1] at hs
        dsimp only at hs
        cases hs
        have h6 : (l.set (j + 1) (some v))[j]? = some none := by
          rw [List.getElem?_set_ne (by omega)]
          exact h1
        split
        · exact ⟨_, rfl, jz_P_set0 (jz_P_set h _ _) h6⟩
        · rename_i h5
          exact absurd h5 (h2 _)
        · exact ⟨_, rfl, jz_P_set h _ _⟩
  · cases hs
theorem jz_P_st2 {l l' m : jm_L} (h : jz_P l l') {k : Nat} {v : Value} (hs : jm_st2 l k v = some m) : ∃ m', jm_st2 l' k v = some m' ∧ jz_P m m' := by
  unfold jm_st2 at hs ⊢
  rw [← h.1]
  split at hs
  · rename_i hk
    rw [if_pos hk]
    cases k with
    | zero =>
      cases hs
      exact ⟨_, rfl, jz_P_set (jz_P_set h 0 _) _ _⟩
    | succ j =>
      dsimp only at hs ⊢
      rcases h.2 j with h1 | ⟨h1, h2⟩
      · rw [h1]
        split at hs
        · cases hs
          exact ⟨_, rfl, jz_P_set (jz_P_set (jz_P_set h _ _) _ _) _ _⟩
        · cases hs
        · cases hs
          exact ⟨_, rfl, jz_P_set (jz_P_set h _ _) _ _⟩
      · rw [h1] at hs
        dsimp only at hs
        cases hs
        have h6 : ((l.set (j + 1) (some v)).set (j + 2) none)[j]? = some none := by
          rw [List.getElem?_set_ne (by omega), List.getElem?_set_ne (by omega)]
          exact h1
        split
        · exact ⟨_, rfl, jz_P_set0 (jz_P_set (jz_P_set h _ _) _ _) h6⟩
        · rename_i h5
          exact absurd h5 (h2 _)
        · exact ⟨_, rfl, jz_P_set (jz_P_set h _ _) _ _⟩
  · cases hs
/-- locals put into a step's answer -/
def jz_put (l : jm_L) : jm_C ⊕ jm_O → jm_C ⊕ jm_O
  | .inl c => .inl (c.1, l, c.2.2)
  | .inr o => .inr o
def jz_loc : Instr → Bool
  | .iload _ | .iload_n _ | .lload _ | .lload_n _ | .aload _ | .aload_n _ | .istore _ | .istore_n _ | .lstore _ | .astore _ | .astore_n _ | .iinc _ _ => true
  | _ => false
theorem jz_nxp {pc : Nat} {l : jm_L} {st : List Value} {H : jm_H} : jm_nx pc l st H = (jm_nx pc [] st H).map (jz_put l) := rfl
theorem jz_ifp {p : Prop} {i : Decidable p} {a b : Nat} {l : jm_L} {st : List Value} {H : jm_H} : jm_ifb p i a b l st H = (jm_ifb p i a b [] st H).map (jz_put l) := by
  unfold jm_ifb
  split <;> rfl
theorem jz_jmpp {pc : Nat} {o : Int} {l : jm_L} {st : List Value} {H : jm_H} : jm_jmp pc o l st H = (jm_jmp pc o [] st H).map (jz_put l) := by
  unfold jm_jmp
  split <;> rfl
theorem jz_callp {n : Nat} {l : jm_L} {r : List Value} {o : Option jm_O} : jm_call n l r o = (jm_call n [] r o).map (jz_put l) := by
  unfold jm_call
  split <;> rfl
set_option maxHeartbeats 4000000 in
theorem jz_nat_ls {xs : Nat → Int32} {L : Nat} {E : jm_E} {e : jm_I} {pc : Nat} (l : jm_L) {st : List Value} {H : jm_H} (hl : jz_loc e.1 = false) : jm_stp xs L E e pc l st H = (jm_stp xs L E e pc [] st H).map (jz_put l) := by
  obtain ⟨ins, npc, a0, b0, z0⟩ := e
  cases ins <;> first
    | (exfalso; exact absurd hl (by decide))
    | rfl
    | (exfalso; revert hl; simp [jz_loc]; done)
    | (simp only [jm_stp]; first
      | exact jz_nxp
      | (split <;> first
        | rfl
        | exact jz_ifp
        | exact jz_jmpp
        | (split <;> first | rfl | exact jz_ifp | exact jz_jmpp | exact jz_callp | (split <;> first | rfl | exact jz_ifp | exact jz_jmpp | exact jz_callp | (split <;> first | rfl | exact jz_callp | exact jz_jmpp | (split <;> first | rfl | exact jz_callp | (split <;> first | rfl | exact jz_callp)))))))
/-- a run from locals that know less is a run from those that know more -/
theorem jz_run_fg {xs : Nat → Int32} {L : Nat} {E : jm_E} {mi : Nat} : ∀ (n pc : Nat) (l l' : jm_L) (st : List Value) (H : jm_H) (r : jm_O), jz_P l l' → jm_run xs L E mi n (pc, l, st, H) = some r → jm_run xs L E mi n (pc, l', st, H) = some r
  | 0, _, _, _, _, _, _, _, h => by simp [jm_run] at h
  | n + 1, pc, l, l', st, H, r, hp, h => by
    simp only [jm_run] at h ⊢
    split at h
    · rename_i e he
      have key : ∀ (c : jm_C), jm_stp xs L E e pc l st H = some (.inl c) → ∃ m', jz_P c.2.1 m' ∧ jm_stp xs L E e pc l' st H = some (.inl (c.1, m', c.2.2)) := by
        intro c hc
        by_cases hl : jz_loc e.1 = false
        · rw [jz_nat_ls l hl] at hc
          rw [jz_nat_ls l' hl]
          cases hq : jm_stp xs L E e pc [] st H with
          | none => rw [hq] at hc; cases hc
          | some q =>
            rw [hq] at hc
            cases q with
            | inl q => cases hc; exact ⟨l', hp, rfl⟩
            | inr q => cases hc
        · obtain ⟨ins, npc, a0, b0, z0⟩ := e
          cases ins <;> first
            | exact absurd rfl hl
            | (simp only [jm_stp] at hc ⊢
               split at hc
               · rename_i x hx
                 cases hc
                 rw [jz_P_some hp hx]
                 exact ⟨l', hp, rfl⟩
               · cases hc)
            | (simp only [jm_stp] at hc ⊢
               split at hc
               · rename_i x hx
                 cases hc
                 rw [jz_P_some hp hx]
                 exact ⟨l', hp, rfl⟩
               · rename_i x hx
                 cases hc
                 rw [jz_P_some hp hx]
                 exact ⟨l', hp, rfl⟩
               · cases hc)
            | (simp only [jm_stp] at hc ⊢
               split at hc
               · unfold jm_sto at hc
                 split at hc
                 · rename_i m hm
                   obtain ⟨m', h1, h2⟩ := jz_P_st1 hp hm
                   cases hc
                   rw [h1]
                   exact ⟨m', h2, rfl⟩
                 · cases hc
               · cases hc)
            | (simp only [jm_stp] at hc ⊢
               split at hc
               · unfold jm_sto at hc
                 split at hc
                 · rename_i m hm
                   obtain ⟨m', h1, h2⟩ := jz_P_st2 hp hm
                   cases hc
                   rw [h1]
                   exact ⟨m', h2, rfl⟩
                 · cases hc
               · cases hc)
            | (simp only [jm_stp] at hc ⊢
               split at hc
               · rename_i x hx
                 rw [jz_P_some hp hx]
                 unfold jm_sto at hc
                 split at hc
                 · rename_i m hm
                   obtain ⟨m', h1, h2⟩ := jz_P_st1 hp hm
                   cases hc
                   dsimp only
                   rw [h1]
                   exact ⟨m', h2, rfl⟩
                 · cases hc
               · cases hc)
      have key2 : ∀ (o : jm_O), jm_stp xs L E e pc l st H = some (.inr o) → jm_stp xs L E e pc l' st H = some (.inr o) := by
        intro o hc
        by_cases hl : jz_loc e.1 = false
        · rw [jz_nat_ls l hl] at hc
          rw [jz_nat_ls l' hl]
          cases hq : jm_stp xs L E e pc [] st H with
          | none => rw [hq] at hc; cases hc
          | some q =>
            rw [hq] at hc
            cases q with
            | inl q => cases hc
            | inr q => cases hc; rfl
        · exfalso
          obtain ⟨ins, npc, a0, b0, z0⟩ := e
          cases ins <;> first
            | exact absurd rfl hl
            | (simp only [jm_stp, jm_nx, jm_sto] at hc
               repeat' split at hc
               all_goals cases hc)
      split at h
      · rename_i c hc
        obtain ⟨m', h1, h2⟩ := key c hc
        rw [h2]
        exact jz_run_fg n _ _ _ _ _ r h1 h
      · rename_i o hc
        rw [key2 o hc]
        exact h
      · cases h
    · cases h
theorem jz_fg {xs : Nat → Int32} {L d mi pc : Nat} {l l' : jm_L} {st : List Value} {H : jm_H} {P : Option Value → jm_H → Prop} (hr : jz_R l l') (h : jm_W xs L d mi pc l st H P) : jm_W xs L d mi pc l' st H P := by
  obtain ⟨n, r, h1, h2⟩ := h
  exact ⟨n, r, jz_run_fg n pc l l' st H r (jz_P_of hr) h1, h2⟩

def q_11 (xs : Nat → Int32) (L d : Nat) (v1 : Int) (v2 : Int) (v3 : Int) (J K : jZ) (P : Int → jZ → jZ → Prop) : Prop := jm_Q xs L d 11 [.ref 0, .int (Int32.ofInt v1), .int (Int32.ofInt v2), .int (Int32.ofInt v3)] (jz_H J K) (jp_i P)
def q_12 (xs : Nat → Int32) (L d : Nat) (v0 : Int) (J K : jZ) (P : Int → jZ → jZ → Prop) : Prop := jm_Q xs L d 12 [.int (Int32.ofInt v0)] (jz_H J K) (jp_i P)
def q_13 (xs : Nat → Int32) (L d : Nat) (v1 : Int) (J K : jZ) (P : Int → jZ → jZ → Prop) : Prop := jm_Q xs L d 13 [.ref 0, .int (Int32.ofInt v1)] (jz_H J K) (jp_i P)
def q_14 (xs : Nat → Int32) (L d : Nat) (v0 : Nat) (v1 : Int) (v2 : Int) (J K : jZ) (P : jZ → jZ → Prop) : Prop := jm_Q xs L d 14 [.ref v0, .int (Int32.ofInt v1), .int (Int32.ofInt v2)] (jz_H J K) (jp_v P)
def q_15 (xs : Nat → Int32) (L d : Nat) (v0 : Nat) (v1 : Int) (J K : jZ) (P : jZ → jZ → Prop) : Prop := jm_Q xs L d 15 [.ref v0, .long (Int64.ofInt v1)] (jz_H J K) (jp_v P)
def l_15_6 (xs : Nat → Int32) (L d : Nat) (v0 : Nat) (v1 : Int) (v3 : Int) (v4 : Int) (J K : jZ) (P : jZ → jZ → Prop) : Prop := jm_W xs L d 15 6 [some (.ref v0), some (.long (Int64.ofInt v1)), none, some (.int (Int32.ofInt v3)), some (.int (Int32.ofInt v4))] [] (jz_H J K) (jp_v P)
def q_16 (xs : Nat → Int32) (L d : Nat) (v1 : Int) (v2 : Int) (v3 : Int) (J K : jZ) (P : Int → jZ → jZ → Prop) : Prop := jm_Q xs L d 16 [.ref 0, .int (Int32.ofInt v1), .int (Int32.ofInt v2), .long (Int64.ofInt v3)] (jz_H J K) (jp_i P)
def q_17 (xs : Nat → Int32) (L d : Nat) (v1 : Int) (v2 : Int) (J K : jZ) (P : Int → jZ → jZ → Prop) : Prop := jm_Q xs L d 17 [.ref 0, .int (Int32.ofInt v1), .int (Int32.ofInt v2)] (jz_H J K) (jp_i P)
def q_18 (xs : Nat → Int32) (L d : Nat) (v0 : Nat) (J K : jZ) (P : Int → jZ → jZ → Prop) : Prop := jm_Q xs L d 18 [.ref v0] (jz_H J K) (jp_i P)
def q_19 (xs : Nat → Int32) (L d : Nat) (v0 : Nat) (J K : jZ) (P : Int → jZ → jZ → Prop) : Prop := jm_Q xs L d 19 [.ref v0] (jz_H J K) (jp_i P)
def q_20 (xs : Nat → Int32) (L d : Nat) (v0 : Nat) (v1 : Int) (J K : jZ) (P : Int → jZ → jZ → Prop) : Prop := jm_Q xs L d 20 [.ref v0, .int (Int32.ofInt v1)] (jz_H J K) (jp_i P)
def q_21 (xs : Nat → Int32) (L d : Nat) (v0 : Int) (v1 : Int) (J K : jZ) (P : Int → jZ → jZ → Prop) : Prop := jm_Q xs L d 21 [.int (Int32.ofInt v0), .long (Int64.ofInt v1)] (jz_H J K) (jp_l P)
def q_22 (xs : Nat → Int32) (L d : Nat) (v1 : Int) (v2 : Int) (v3 : Int) (v4 : Int) (v5 : Int) (J K : jZ) (P : Int → jZ → jZ → Prop) : Prop := jm_Q xs L d 22 [.ref 0, .int (Int32.ofInt v1), .int (Int32.ofInt v2), .int (Int32.ofInt v3), .int (Int32.ofInt v4), .int (Int32.ofInt v5)] (jz_H J K) (jp_i P)
def l_22_14 (xs : Nat → Int32) (L d : Nat) (J K : jZ) (P : Int → jZ → jZ → Prop) : Prop := jm_W xs L d 22 14 [some (.ref 0), none, none, none, none, none, none, none, none] [] (jz_H J K) (jp_i P)
def l_22_59 (xs : Nat → Int32) (L d : Nat) (v3 : Int) (v4 : Int) (v5 : Int) (v6 : Nat) (v7 : Nat) (J K : jZ) (P : Int → jZ → jZ → Prop) : Prop := jm_W xs L d 22 59 [some (.ref 0), none, none, some (.int (Int32.ofInt v3)), some (.int (Int32.ofInt v4)), some (.int (Int32.ofInt v5)), some (.ref v6), some (.ref v7), none] [] (jz_H J K) (jp_i P)
def l_22_96 (xs : Nat → Int32) (L d : Nat) (J K : jZ) (P : Int → jZ → jZ → Prop) : Prop := jm_W xs L d 22 96 [some (.ref 0), none, none, none, none, none, none, none, none] [] (jz_H J K) (jp_i P)
def l_22_103 (xs : Nat → Int32) (L d : Nat) (v3 : Int) (v4 : Int) (v5 : Int) (v6 : Nat) (v7 : Nat) (v8 : Int) (J K : jZ) (P : Int → jZ → jZ → Prop) : Prop := jm_W xs L d 22 103 [some (.ref 0), none, none, some (.int (Int32.ofInt v3)), some (.int (Int32.ofInt v4)), some (.int (Int32.ofInt v5)), some (.ref v6), some (.ref v7), some (.int (Int32.ofInt v8))] [] (jz_H J K) (jp_i P)
def l_22_138 (xs : Nat → Int32) (L d : Nat) (J K : jZ) (P : Int → jZ → jZ → Prop) : Prop := jm_W xs L d 22 138 [some (.ref 0), none, none, none, none, none, none, none, none] [] (jz_H J K) (jp_i P)
def q_23 (xs : Nat → Int32) (L d : Nat) (v0 : Nat) (v1 : Int) (v2 : Int) (J K : jZ) (P : Int → jZ → jZ → Prop) : Prop := jm_Q xs L d 23 [.ref v0, .int (Int32.ofInt v1), .int (Int32.ofInt v2)] (jz_H J K) (jp_i P)
def q_24 (xs : Nat → Int32) (L d : Nat) (v1 : Int) (v2 : Int) (J K : jZ) (P : Int → jZ → jZ → Prop) : Prop := jm_Q xs L d 24 [.ref 0, .int (Int32.ofInt v1), .int (Int32.ofInt v2)] (jz_H J K) (jp_l P)
def q_25 (xs : Nat → Int32) (L d : Nat) (v1 : Int) (J K : jZ) (P : Int → jZ → jZ → Prop) : Prop := jm_Q xs L d 25 [.ref 0, .int (Int32.ofInt v1)] (jz_H J K) (jp_i P)
def q_26 (xs : Nat → Int32) (L d : Nat) (v1 : Int) (v2 : Int) (J K : jZ) (P : Int → jZ → jZ → Prop) : Prop := jm_Q xs L d 26 [.ref 0, .int (Int32.ofInt v1), .int (Int32.ofInt v2)] (jz_H J K) (jp_i P)
def q_27 (xs : Nat → Int32) (L d : Nat) (v0 : Nat) (v1 : Int) (J K : jZ) (P : Int → jZ → jZ → Prop) : Prop := jm_Q xs L d 27 [.ref v0, .int (Int32.ofInt v1)] (jz_H J K) (jp_i P)
def q_28 (xs : Nat → Int32) (L d : Nat) (v1 : Int) (v2 : Int) (J K : jZ) (P : Int → jZ → jZ → Prop) : Prop := jm_Q xs L d 28 [.ref 0, .int (Int32.ofInt v1), .int (Int32.ofInt v2)] (jz_H J K) (jp_i P)
def q_29 (xs : Nat → Int32) (L d : Nat) (v0 : Int) (v1 : Int) (J K : jZ) (P : Int → jZ → jZ → Prop) : Prop := jm_Q xs L d 29 [.int (Int32.ofInt v0), .int (Int32.ofInt v1)] (jz_H J K) (jp_i P)
def q_30 (xs : Nat → Int32) (L d : Nat) (v0 : Int) (J K : jZ) (P : Int → jZ → jZ → Prop) : Prop := jm_Q xs L d 30 [.int (Int32.ofInt v0)] (jz_H J K) (jp_i P)
def q_31 (xs : Nat → Int32) (L d : Nat) (v1 : Int) (v2 : Int) (J K : jZ) (P : Int → jZ → jZ → Prop) : Prop := jm_Q xs L d 31 [.ref 0, .int (Int32.ofInt v1), .int (Int32.ofInt v2)] (jz_H J K) (jp_i P)
def q_32 (xs : Nat → Int32) (L d : Nat) (v1 : Int) (J K : jZ) (P : Nat → jZ → jZ → Prop) : Prop := jm_Q xs L d 32 [.ref 61, .int (Int32.ofInt v1)] (jz_H J K) (jp_r P)
def l_32_38 (xs : Nat → Int32) (L d : Nat) (v1 : Int) (v2 : Int) (v3 : Int) (J K : jZ) (P : Nat → jZ → jZ → Prop) : Prop := jm_W xs L d 32 38 [some (.ref 61), some (.int (Int32.ofInt v1)), some (.int (Int32.ofInt v2)), some (.int (Int32.ofInt v3))] [] (jz_H J K) (jp_r P)
def q_33 (xs : Nat → Int32) (L d : Nat) (v1 : Int) (J K : jZ) (P : jZ → jZ → Prop) : Prop := jm_Q xs L d 33 [.ref 61, .int (Int32.ofInt v1)] (jz_H J K) (jp_v P)
def q_34 (xs : Nat → Int32) (L d : Nat) (v1 : Nat) (v2 : Nat) (J K : jZ) (P : jZ → jZ → Prop) : Prop := jm_Q xs L d 34 [.ref 61, .ref v1, .ref v2] (jz_H J K) (jp_v P)
def l_34_7 (xs : Nat → Int32) (L d : Nat) (v1 : Nat) (v2 : Nat) (v3 : Int) (J K : jZ) (P : jZ → jZ → Prop) : Prop := jm_W xs L d 34 7 [some (.ref 61), some (.ref v1), some (.ref v2), some (.int (Int32.ofInt v3)), none] [] (jz_H J K) (jp_v P)
def l_34_26 (xs : Nat → Int32) (L d : Nat) (v1 : Nat) (v2 : Nat) (v3 : Int) (v4 : Int) (J K : jZ) (P : jZ → jZ → Prop) : Prop := jm_W xs L d 34 26 [some (.ref 61), some (.ref v1), some (.ref v2), some (.int (Int32.ofInt v3)), some (.int (Int32.ofInt v4))] [] (jz_H J K) (jp_v P)
def q_35 (xs : Nat → Int32) (L d : Nat) (v1 : Int) (v2 : Int) (J K : jZ) (P : Int → jZ → jZ → Prop) : Prop := jm_Q xs L d 35 [.ref 61, .int (Int32.ofInt v1), .int (Int32.ofInt v2)] (jz_H J K) (jp_i P)
def q_36 (xs : Nat → Int32) (L d : Nat) (v0 : Nat) (v1 : Int) (J K : jZ) (P : Int → jZ → jZ → Prop) : Prop := jm_Q xs L d 36 [.ref v0, .int (Int32.ofInt v1)] (jz_H J K) (jp_i P)
def q_37 (xs : Nat → Int32) (L d : Nat) (v0 : Nat) (v1 : Int) (v2 : Int) (J K : jZ) (P : jZ → jZ → Prop) : Prop := jm_Q xs L d 37 [.ref v0, .int (Int32.ofInt v1), .int (Int32.ofInt v2)] (jz_H J K) (jp_v P)
def q_38 (xs : Nat → Int32) (L d : Nat) (v0 : Nat) (v1 : Int) (v2 : Nat) (J K : jZ) (P : jZ → jZ → Prop) : Prop := jm_Q xs L d 38 [.ref v0, .int (Int32.ofInt v1), .ref v2] (jz_H J K) (jp_v P)
def l_38_10 (xs : Nat → Int32) (L d : Nat) (v0 : Nat) (v1 : Int) (v2 : Nat) (v3 : Int) (v4 : Int) (J K : jZ) (P : jZ → jZ → Prop) : Prop := jm_W xs L d 38 10 [some (.ref v0), some (.int (Int32.ofInt v1)), some (.ref v2), some (.int (Int32.ofInt v3)), some (.int (Int32.ofInt v4))] [] (jz_H J K) (jp_v P)
def q_39 (xs : Nat → Int32) (L d : Nat) (v1 : Int) (J K : jZ) (P : Nat → jZ → jZ → Prop) : Prop := jm_Q xs L d 39 [.ref 61, .int (Int32.ofInt v1)] (jz_H J K) (jp_r P)
def q_40 (xs : Nat → Int32) (L d : Nat) (v1 : Nat) (v2 : Int) (v3 : Nat) (J K : jZ) (P : jZ → jZ → Prop) : Prop := jm_Q xs L d 40 [.ref 61, .ref v1, .int (Int32.ofInt v2), .ref v3] (jz_H J K) (jp_v P)
def l_40_8 (xs : Nat → Int32) (L d : Nat) (v1 : Nat) (v2 : Int) (v3 : Nat) (v4 : Int) (J K : jZ) (P : jZ → jZ → Prop) : Prop := jm_W xs L d 40 8 [none, some (.ref v1), some (.int (Int32.ofInt v2)), some (.ref v3), some (.int (Int32.ofInt v4))] [] (jz_H J K) (jp_v P)
def q_41 (xs : Nat → Int32) (L d : Nat) (v0 : Nat) (v1 : Int) (J K : jZ) (P : Int → jZ → jZ → Prop) : Prop := jm_Q xs L d 41 [.ref v0, .int (Int32.ofInt v1)] (jz_H J K) (jp_i P)
def q_42 (xs : Nat → Int32) (L d : Nat) (J K : jZ) (P : jZ → jZ → Prop) : Prop := jm_Q xs L d 42 [.ref 66] (jz_H J K) (jp_v P)
def q_43 (xs : Nat → Int32) (L d : Nat) (v0 : Nat) (v1 : Int) (J K : jZ) (P : jZ → jZ → Prop) : Prop := jm_Q xs L d 43 [.ref v0, .int (Int32.ofInt v1)] (jz_H J K) (jp_v P)
def l_43_5 (xs : Nat → Int32) (L d : Nat) (v0 : Nat) (v1 : Int) (v2 : Int) (v3 : Int) (J K : jZ) (P : jZ → jZ → Prop) : Prop := jm_W xs L d 43 5 [some (.ref v0), some (.int (Int32.ofInt v1)), some (.int (Int32.ofInt v2)), some (.int (Int32.ofInt v3))] [] (jz_H J K) (jp_v P)
def q_44 (xs : Nat → Int32) (L d : Nat) (v1 : Int) (v2 : Nat) (v3 : Nat) (v4 : Nat) (J K : jZ) (P : jZ → jZ → Prop) : Prop := jm_Q xs L d 44 [.ref 61, .int (Int32.ofInt v1), .ref v2, .ref v3, .ref v4] (jz_H J K) (jp_v P)
def l_44_12 (xs : Nat → Int32) (L d : Nat) (v1 : Int) (v2 : Nat) (v3 : Nat) (v4 : Nat) (v5 : Int) (v6 : Int) (v7 : Int) (v8 : Int) (J K : jZ) (P : jZ → jZ → Prop) : Prop := jm_W xs L d 44 12 [some (.ref 61), some (.int (Int32.ofInt v1)), some (.ref v2), some (.ref v3), some (.ref v4), some (.int (Int32.ofInt v5)), some (.int (Int32.ofInt v6)), some (.int (Int32.ofInt v7)), some (.int (Int32.ofInt v8))] [] (jz_H J K) (jp_v P)
def q_45 (xs : Nat → Int32) (L d : Nat) (v0 : Nat) (v1 : Int) (v2 : Int) (J K : jZ) (P : Int → jZ → jZ → Prop) : Prop := jm_Q xs L d 45 [.ref v0, .int (Int32.ofInt v1), .long (Int64.ofInt v2)] (jz_H J K) (jp_i P)
def l_45_3 (xs : Nat → Int32) (L d : Nat) (v0 : Nat) (v2 : Int) (v4 : Int) (J K : jZ) (P : Int → jZ → jZ → Prop) : Prop := jm_W xs L d 45 3 [some (.ref v0), none, some (.long (Int64.ofInt v2)), none, some (.int (Int32.ofInt v4))] [] (jz_H J K) (jp_i P)
def q_46 (xs : Nat → Int32) (L d : Nat) (v0 : Nat) (v1 : Int) (J K : jZ) (P : Int → jZ → jZ → Prop) : Prop := jm_Q xs L d 46 [.ref v0, .int (Int32.ofInt v1)] (jz_H J K) (jp_i P)
def q_47 (xs : Nat → Int32) (L d : Nat) (v0 : Nat) (v1 : Int) (J K : jZ) (P : Int → jZ → jZ → Prop) : Prop := jm_Q xs L d 47 [.ref v0, .int (Int32.ofInt v1)] (jz_H J K) (jp_i P)
def q_48 (xs : Nat → Int32) (L d : Nat) (v0 : Int) (v1 : Int) (v2 : Int) (v3 : Int) (J K : jZ) (P : Int → jZ → jZ → Prop) : Prop := jm_Q xs L d 48 [.int (Int32.ofInt v0), .int (Int32.ofInt v1), .int (Int32.ofInt v2), .int (Int32.ofInt v3)] (jz_H J K) (jp_i P)
def q_51 (xs : Nat → Int32) (L d : Nat) (v1 : Int) (v2 : Int) (J K : jZ) (P : jZ → jZ → Prop) : Prop := jm_Q xs L d 51 [.ref 66, .int (Int32.ofInt v1), .int (Int32.ofInt v2)] (jz_H J K) (jp_v P)
def q_52 (xs : Nat → Int32) (L d : Nat) (v1 : Nat) (J K : jZ) (P : jZ → jZ → Prop) : Prop := jm_Q xs L d 52 [.ref 66, .ref v1] (jz_H J K) (jp_v P)
def l_52_6 (xs : Nat → Int32) (L d : Nat) (v1 : Nat) (v2 : Int) (v3 : Int) (J K : jZ) (P : jZ → jZ → Prop) : Prop := jm_W xs L d 52 6 [some (.ref 66), some (.ref v1), some (.int (Int32.ofInt v2)), some (.int (Int32.ofInt v3))] [] (jz_H J K) (jp_v P)
def l_52_51 (xs : Nat → Int32) (L d : Nat) (v1 : Nat) (v3 : Int) (J K : jZ) (P : jZ → jZ → Prop) : Prop := jm_W xs L d 52 51 [some (.ref 66), some (.ref v1), none, some (.int (Int32.ofInt v3))] [] (jz_H J K) (jp_v P)
def q_53 (xs : Nat → Int32) (L d : Nat) (v1 : Int) (v2 : Nat) (v3 : Nat) (v4 : Nat) (J K : jZ) (P : jZ → jZ → Prop) : Prop := jm_Q xs L d 53 [.ref 61, .int (Int32.ofInt v1), .ref v2, .ref v3, .ref v4] (jz_H J K) (jp_v P)
def q_54 (xs : Nat → Int32) (L d : Nat) (v1 : Int) (v2 : Nat) (v3 : Nat) (v4 : Nat) (J K : jZ) (P : jZ → jZ → Prop) : Prop := jm_Q xs L d 54 [.ref 61, .int (Int32.ofInt v1), .ref v2, .ref v3, .ref v4] (jz_H J K) (jp_v P)
def l_54_18 (xs : Nat → Int32) (L d : Nat) (v1 : Int) (v2 : Nat) (v3 : Nat) (v4 : Nat) (v5 : Int) (J K : jZ) (P : jZ → jZ → Prop) : Prop := jm_W xs L d 54 18 [none, some (.int (Int32.ofInt v1)), some (.ref v2), some (.ref v3), some (.ref v4), some (.int (Int32.ofInt v5)), none, none, none, none, none, none, none] [] (jz_H J K) (jp_v P)
def l_54_36 (xs : Nat → Int32) (L d : Nat) (v2 : Nat) (v3 : Nat) (v4 : Nat) (v5 : Int) (v6 : Int) (J K : jZ) (P : jZ → jZ → Prop) : Prop := jm_W xs L d 54 36 [none, none, some (.ref v2), some (.ref v3), some (.ref v4), some (.int (Int32.ofInt v5)), some (.int (Int32.ofInt v6)), none, none, none, none, none, none] [] (jz_H J K) (jp_v P)
def l_54_54 (xs : Nat → Int32) (L d : Nat) (v2 : Nat) (v3 : Nat) (v4 : Nat) (v5 : Int) (v6 : Int) (v7 : Int) (v8 : Int) (v9 : Int) (J K : jZ) (P : jZ → jZ → Prop) : Prop := jm_W xs L d 54 54 [none, none, some (.ref v2), some (.ref v3), some (.ref v4), some (.int (Int32.ofInt v5)), some (.int (Int32.ofInt v6)), some (.int (Int32.ofInt v7)), some (.int (Int32.ofInt v8)), some (.int (Int32.ofInt v9)), none, none, none] [] (jz_H J K) (jp_v P)
def l_54_130 (xs : Nat → Int32) (L d : Nat) (v2 : Nat) (v3 : Nat) (v4 : Nat) (v5 : Int) (v6 : Int) (v7 : Int) (v8 : Int) (v9 : Int) (v10 : Int) (v11 : Int) (J K : jZ) (P : jZ → jZ → Prop) : Prop := jm_W xs L d 54 130 [none, none, some (.ref v2), some (.ref v3), some (.ref v4), some (.int (Int32.ofInt v5)), some (.int (Int32.ofInt v6)), some (.int (Int32.ofInt v7)), some (.int (Int32.ofInt v8)), some (.int (Int32.ofInt v9)), some (.int (Int32.ofInt v10)), some (.int (Int32.ofInt v11)), none] [] (jz_H J K) (jp_v P)
def l_54_152 (xs : Nat → Int32) (L d : Nat) (v2 : Nat) (v3 : Nat) (v4 : Nat) (v5 : Int) (v6 : Int) (v7 : Int) (v8 : Int) (v9 : Int) (v10 : Int) (v11 : Int) (v12 : Int) (J K : jZ) (P : jZ → jZ → Prop) : Prop := jm_W xs L d 54 152 [none, none, some (.ref v2), some (.ref v3), some (.ref v4), some (.int (Int32.ofInt v5)), some (.int (Int32.ofInt v6)), some (.int (Int32.ofInt v7)), some (.int (Int32.ofInt v8)), some (.int (Int32.ofInt v9)), some (.int (Int32.ofInt v10)), some (.int (Int32.ofInt v11)), some (.int (Int32.ofInt v12))] [] (jz_H J K) (jp_v P)
def l_54_168 (xs : Nat → Int32) (L d : Nat) (v2 : Nat) (v3 : Nat) (v4 : Nat) (v5 : Int) (v6 : Int) (v7 : Int) (v8 : Int) (v9 : Int) (J K : jZ) (P : jZ → jZ → Prop) : Prop := jm_W xs L d 54 168 [none, none, some (.ref v2), some (.ref v3), some (.ref v4), some (.int (Int32.ofInt v5)), some (.int (Int32.ofInt v6)), some (.int (Int32.ofInt v7)), some (.int (Int32.ofInt v8)), some (.int (Int32.ofInt v9)), none, none, none] [] (jz_H J K) (jp_v P)
def q_55 (xs : Nat → Int32) (L d : Nat) (v1 : Nat) (v2 : Nat) (J K : jZ) (P : jZ → jZ → Prop) : Prop := jm_Q xs L d 55 [.ref 61, .ref v1, .ref v2] (jz_H J K) (jp_v P)
def l_55_5 (xs : Nat → Int32) (L d : Nat) (v1 : Nat) (v2 : Nat) (v3 : Int) (v4 : Int) (J K : jZ) (P : jZ → jZ → Prop) : Prop := jm_W xs L d 55 5 [some (.ref 61), some (.ref v1), some (.ref v2), some (.int (Int32.ofInt v3)), some (.int (Int32.ofInt v4))] [] (jz_H J K) (jp_v P)
def q_56 (xs : Nat → Int32) (L d : Nat) (v1 : Int) (J K : jZ) (P : Int → jZ → jZ → Prop) : Prop := jm_Q xs L d 56 [.ref 0, .int (Int32.ofInt v1)] (jz_H J K) (jp_i P)
def q_57 (xs : Nat → Int32) (L d : Nat) (v0 : Int) (J K : jZ) (P : Int → jZ → jZ → Prop) : Prop := jm_Q xs L d 57 [.int (Int32.ofInt v0)] (jz_H J K) (jp_i P)
def q_58 (xs : Nat → Int32) (L d : Nat) (v0 : Nat) (v1 : Int) (J K : jZ) (P : jZ → jZ → Prop) : Prop := jm_Q xs L d 58 [.ref v0, .int (Int32.ofInt v1)] (jz_H J K) (jp_v P)
def q_59 (xs : Nat → Int32) (L d : Nat) (J K : jZ) (P : jZ → jZ → Prop) : Prop := jm_Q xs L d 59 [.ref 61] (jz_H J K) (jp_v P)
def q_60 (xs : Nat → Int32) (L d : Nat) (v1 : Int) (J K : jZ) (P : Int → jZ → jZ → Prop) : Prop := jm_Q xs L d 60 [.ref 0, .int (Int32.ofInt v1)] (jz_H J K) (jp_i P)
def q_61 (xs : Nat → Int32) (L d : Nat) (v0 : Nat) (J K : jZ) (P : Int → jZ → jZ → Prop) : Prop := jm_Q xs L d 61 [.ref v0] (jz_H J K) (jp_i P)
def q_62 (xs : Nat → Int32) (L d : Nat) (v0 : Nat) (v1 : Int) (J K : jZ) (P : jZ → jZ → Prop) : Prop := jm_Q xs L d 62 [.ref v0, .int (Int32.ofInt v1)] (jz_H J K) (jp_v P)
def q_63 (xs : Nat → Int32) (L d : Nat) (v1 : Int) (v2 : Int) (J K : jZ) (P : Int → jZ → jZ → Prop) : Prop := jm_Q xs L d 63 [.ref 0, .int (Int32.ofInt v1), .int (Int32.ofInt v2)] (jz_H J K) (jp_i P)
def q_64 (xs : Nat → Int32) (L d : Nat) (v0 : Nat) (v1 : Int) (J K : jZ) (P : Int → jZ → jZ → Prop) : Prop := jm_Q xs L d 64 [.ref v0, .int (Int32.ofInt v1)] (jz_H J K) (jp_i P)
def q_65 (xs : Nat → Int32) (L d : Nat) (v1 : Int) (v2 : Int) (v3 : Int) (J K : jZ) (P : Int → jZ → jZ → Prop) : Prop := jm_Q xs L d 65 [.ref 0, .int (Int32.ofInt v1), .int (Int32.ofInt v2), .int (Int32.ofInt v3)] (jz_H J K) (jp_i P)
def q_66 (xs : Nat → Int32) (L d : Nat) (v1 : Int) (J K : jZ) (P : Int → jZ → jZ → Prop) : Prop := jm_Q xs L d 66 [.ref 0, .int (Int32.ofInt v1)] (jz_H J K) (jp_i P)
def q_67 (xs : Nat → Int32) (L d : Nat) (v1 : Int) (J K : jZ) (P : jZ → jZ → Prop) : Prop := jm_Q xs L d 67 [.ref 144, .int (Int32.ofInt v1)] (jz_H J K) (jp_v P)
def q_68 (xs : Nat → Int32) (L d : Nat) (J K : jZ) (P : Int → jZ → jZ → Prop) : Prop := jm_Q xs L d 68 [.ref 0] (jz_H J K) (jp_i P)
def q_69 (xs : Nat → Int32) (L d : Nat) (J K : jZ) (P : Int → jZ → jZ → Prop) : Prop := jm_Q xs L d 69 [.ref 0] (jz_H J K) (jp_i P)
def q_70 (xs : Nat → Int32) (L d : Nat) (v1 : Int) (J K : jZ) (P : Int → jZ → jZ → Prop) : Prop := jm_Q xs L d 70 [.ref 144, .int (Int32.ofInt v1)] (jz_H J K) (jp_i P)
def l_70_7 (xs : Nat → Int32) (L d : Nat) (v2 : Int) (v3 : Int) (v4 : Int) (J K : jZ) (P : Int → jZ → jZ → Prop) : Prop := jm_W xs L d 70 7 [some (.ref 144), none, some (.int (Int32.ofInt v2)), some (.int (Int32.ofInt v3)), some (.int (Int32.ofInt v4)), none] [] (jz_H J K) (jp_i P)
def q_71 (xs : Nat → Int32) (L d : Nat) (v0 : Int) (J K : jZ) (P : Int → jZ → jZ → Prop) : Prop := jm_Q xs L d 71 [.int (Int32.ofInt v0)] (jz_H J K) (jp_i P)
def q_72 (xs : Nat → Int32) (L d : Nat) (v0 : Int) (J K : jZ) (P : Int → jZ → jZ → Prop) : Prop := jm_Q xs L d 72 [.int (Int32.ofInt v0)] (jz_H J K) (jp_i P)
def q_73 (xs : Nat → Int32) (L d : Nat) (J K : jZ) (P : Int → jZ → jZ → Prop) : Prop := jm_Q xs L d 73 [.ref 144] (jz_H J K) (jp_i P)
def l_73_4 (xs : Nat → Int32) (L d : Nat) (v1 : Int) (v2 : Int) (J K : jZ) (P : Int → jZ → jZ → Prop) : Prop := jm_W xs L d 73 4 [some (.ref 144), some (.int (Int32.ofInt v1)), some (.int (Int32.ofInt v2))] [] (jz_H J K) (jp_i P)
def q_74 (xs : Nat → Int32) (L d : Nat) (v1 : Int) (J K : jZ) (P : Int → jZ → jZ → Prop) : Prop := jm_Q xs L d 74 [.ref 0, .int (Int32.ofInt v1)] (jz_H J K) (jp_i P)
def q_75 (xs : Nat → Int32) (L d : Nat) (v1 : Nat) (J K : jZ) (P : jZ → jZ → Prop) : Prop := jm_Q xs L d 75 [.ref 144, .ref v1] (jz_H J K) (jp_v P)
def l_75_2 (xs : Nat → Int32) (L d : Nat) (v1 : Nat) (v2 : Int) (J K : jZ) (P : jZ → jZ → Prop) : Prop := jm_W xs L d 75 2 [some (.ref 144), some (.ref v1), some (.int (Int32.ofInt v2)), none] [] (jz_H J K) (jp_v P)
def q_76 (xs : Nat → Int32) (L d : Nat) (J K : jZ) (P : Int → jZ → jZ → Prop) : Prop := jm_Q xs L d 76 [.ref 0] (jz_H J K) (jp_i P)
def q_77 (xs : Nat → Int32) (L d : Nat) (J K : jZ) (P : Int → jZ → jZ → Prop) : Prop := jm_Q xs L d 77 [.ref 146] (jz_H J K) (jp_i P)
def l_77_36 (xs : Nat → Int32) (L d : Nat) (J K : jZ) (P : Int → jZ → jZ → Prop) : Prop := jm_W xs L d 77 36 [some (.ref 146), none] [] (jz_H J K) (jp_i P)
def l_77_110 (xs : Nat → Int32) (L d : Nat) (J K : jZ) (P : Int → jZ → jZ → Prop) : Prop := jm_W xs L d 77 110 [some (.ref 146), none] [] (jz_H J K) (jp_i P)
def l_77_113 (xs : Nat → Int32) (L d : Nat) (J K : jZ) (P : Int → jZ → jZ → Prop) : Prop := jm_W xs L d 77 113 [some (.ref 146), none] [] (jz_H J K) (jp_i P)
def l_77_133 (xs : Nat → Int32) (L d : Nat) (J K : jZ) (P : Int → jZ → jZ → Prop) : Prop := jm_W xs L d 77 133 [some (.ref 146), none] [] (jz_H J K) (jp_i P)
def l_77_155 (xs : Nat → Int32) (L d : Nat) (J K : jZ) (P : Int → jZ → jZ → Prop) : Prop := jm_W xs L d 77 155 [some (.ref 146), none] [] (jz_H J K) (jp_i P)
def l_77_166 (xs : Nat → Int32) (L d : Nat) (J K : jZ) (P : Int → jZ → jZ → Prop) : Prop := jm_W xs L d 77 166 [some (.ref 146), none] [] (jz_H J K) (jp_i P)
def q_78 (xs : Nat → Int32) (L d : Nat) (v1 : Int) (J K : jZ) (P : jZ → jZ → Prop) : Prop := jm_Q xs L d 78 [.ref 146, .int (Int32.ofInt v1)] (jz_H J K) (jp_v P)
def q_79 (xs : Nat → Int32) (L d : Nat) (v1 : Int) (v2 : Int) (v3 : Int) (J K : jZ) (P : jZ → jZ → Prop) : Prop := jm_Q xs L d 79 [.ref 146, .int (Int32.ofInt v1), .int (Int32.ofInt v2), .int (Int32.ofInt v3)] (jz_H J K) (jp_v P)
def q_80 (xs : Nat → Int32) (L d : Nat) (v0 : Nat) (v1 : Int) (v2 : Int) (v3 : Int) (v4 : Int) (J K : jZ) (P : jZ → jZ → Prop) : Prop := jm_Q xs L d 80 [.ref v0, .int (Int32.ofInt v1), .int (Int32.ofInt v2), .int (Int32.ofInt v3), .int (Int32.ofInt v4)] (jz_H J K) (jp_v P)
def l_80_46 (xs : Nat → Int32) (L d : Nat) (v3 : Int) (v4 : Int) (v5 : Nat) (v6 : Int) (J K : jZ) (P : jZ → jZ → Prop) : Prop := jm_W xs L d 80 46 [none, none, none, some (.int (Int32.ofInt v3)), some (.int (Int32.ofInt v4)), some (.ref v5), some (.int (Int32.ofInt v6))] [] (jz_H J K) (jp_v P)
def q_81 (xs : Nat → Int32) (L d : Nat) (v0 : Nat) (v1 : Int) (v2 : Int) (v3 : Int) (J K : jZ) (P : jZ → jZ → Prop) : Prop := jm_Q xs L d 81 [.ref v0, .int (Int32.ofInt v1), .int (Int32.ofInt v2), .int (Int32.ofInt v3)] (jz_H J K) (jp_v P)
def q_82 (xs : Nat → Int32) (L d : Nat) (J K : jZ) (P : jZ → jZ → Prop) : Prop := jm_Q xs L d 82 [.ref 146] (jz_H J K) (jp_v P)
def q_83 (xs : Nat → Int32) (L d : Nat) (J K : jZ) (P : jZ → jZ → Prop) : Prop := jm_Q xs L d 83 [.ref 146] (jz_H J K) (jp_v P)
def l_83_4 (xs : Nat → Int32) (L d : Nat) (v1 : Int) (v2 : Int) (J K : jZ) (P : jZ → jZ → Prop) : Prop := jm_W xs L d 83 4 [some (.ref 146), some (.int (Int32.ofInt v1)), some (.int (Int32.ofInt v2)), none] [] (jz_H J K) (jp_v P)
def l_83_60 (xs : Nat → Int32) (L d : Nat) (v1 : Int) (v2 : Int) (v3 : Int) (J K : jZ) (P : jZ → jZ → Prop) : Prop := jm_W xs L d 83 60 [some (.ref 146), some (.int (Int32.ofInt v1)), some (.int (Int32.ofInt v2)), some (.int (Int32.ofInt v3))] [] (jz_H J K) (jp_v P)
def l_83_89 (xs : Nat → Int32) (L d : Nat) (v1 : Int) (v2 : Int) (v3 : Int) (J K : jZ) (P : jZ → jZ → Prop) : Prop := jm_W xs L d 83 89 [some (.ref 146), some (.int (Int32.ofInt v1)), some (.int (Int32.ofInt v2)), some (.int (Int32.ofInt v3))] [] (jz_H J K) (jp_v P)
def l_83_104 (xs : Nat → Int32) (L d : Nat) (v1 : Int) (v2 : Int) (J K : jZ) (P : jZ → jZ → Prop) : Prop := jm_W xs L d 83 104 [some (.ref 146), some (.int (Int32.ofInt v1)), some (.int (Int32.ofInt v2)), none] [] (jz_H J K) (jp_v P)
def q_84 (xs : Nat → Int32) (L d : Nat) (v1 : Int) (J K : jZ) (P : jZ → jZ → Prop) : Prop := jm_Q xs L d 84 [.ref 146, .int (Int32.ofInt v1)] (jz_H J K) (jp_v P)
def q_85 (xs : Nat → Int32) (L d : Nat) (v1 : Int) (J K : jZ) (P : Int → jZ → jZ → Prop) : Prop := jm_Q xs L d 85 [.ref 146, .int (Int32.ofInt v1)] (jz_H J K) (jp_i P)
def l_85_0 (xs : Nat → Int32) (L d : Nat) (v1 : Int) (J K : jZ) (P : Int → jZ → jZ → Prop) : Prop := jm_W xs L d 85 0 [some (.ref 146), some (.int (Int32.ofInt v1)), none, none] [] (jz_H J K) (jp_i P)
def l_85_44 (xs : Nat → Int32) (L d : Nat) (v1 : Int) (J K : jZ) (P : Int → jZ → jZ → Prop) : Prop := jm_W xs L d 85 44 [some (.ref 146), some (.int (Int32.ofInt v1)), none, none] [] (jz_H J K) (jp_i P)
def l_85_51 (xs : Nat → Int32) (L d : Nat) (v1 : Int) (v2 : Int) (v3 : Int) (J K : jZ) (P : Int → jZ → jZ → Prop) : Prop := jm_W xs L d 85 51 [some (.ref 146), some (.int (Int32.ofInt v1)), some (.int (Int32.ofInt v2)), some (.int (Int32.ofInt v3))] [] (jz_H J K) (jp_i P)
def l_85_149 (xs : Nat → Int32) (L d : Nat) (v1 : Int) (v2 : Int) (v3 : Int) (J K : jZ) (P : Int → jZ → jZ → Prop) : Prop := jm_W xs L d 85 149 [some (.ref 146), some (.int (Int32.ofInt v1)), some (.int (Int32.ofInt v2)), some (.int (Int32.ofInt v3))] [] (jz_H J K) (jp_i P)
def l_85_159 (xs : Nat → Int32) (L d : Nat) (v2 : Int) (J K : jZ) (P : Int → jZ → jZ → Prop) : Prop := jm_W xs L d 85 159 [some (.ref 146), none, some (.int (Int32.ofInt v2)), none] [] (jz_H J K) (jp_i P)
def q_86 (xs : Nat → Int32) (L d : Nat) (v1 : Int) (J K : jZ) (P : jZ → jZ → Prop) : Prop := jm_Q xs L d 86 [.ref 146, .int (Int32.ofInt v1)] (jz_H J K) (jp_v P)
def q_87 (xs : Nat → Int32) (L d : Nat) (v0 : Int) (J K : jZ) (P : Int → jZ → jZ → Prop) : Prop := jm_Q xs L d 87 [.int (Int32.ofInt v0)] (jz_H J K) (jp_i P)
def q_88 (xs : Nat → Int32) (L d : Nat) (v1 : Int) (J K : jZ) (P : jZ → jZ → Prop) : Prop := jm_Q xs L d 88 [.ref 146, .int (Int32.ofInt v1)] (jz_H J K) (jp_v P)
def l_88_5 (xs : Nat → Int32) (L d : Nat) (v2 : Int) (J K : jZ) (P : jZ → jZ → Prop) : Prop := jm_W xs L d 88 5 [some (.ref 146), none, some (.int (Int32.ofInt v2)), none, none, none] [] (jz_H J K) (jp_v P)
def q_89 (xs : Nat → Int32) (L d : Nat) (v0 : Int) (J K : jZ) (P : Int → jZ → jZ → Prop) : Prop := jm_Q xs L d 89 [.int (Int32.ofInt v0)] (jz_H J K) (jp_i P)
def q_90 (xs : Nat → Int32) (L d : Nat) (J K : jZ) (P : Int → jZ → jZ → Prop) : Prop := jm_Q xs L d 90 [.ref 146] (jz_H J K) (jp_i P)
def q_91 (xs : Nat → Int32) (L d : Nat) (J K : jZ) (P : Int → jZ → jZ → Prop) : Prop := jm_Q xs L d 91 [.ref 146] (jz_H J K) (jp_i P)
def q_92 (xs : Nat → Int32) (L d : Nat) (v1 : Int) (v2 : Int) (v3 : Int) (v4 : Int) (v5 : Int) (J K : jZ) (P : jZ → jZ → Prop) : Prop := jm_Q xs L d 92 [.ref 146, .int (Int32.ofInt v1), .int (Int32.ofInt v2), .int (Int32.ofInt v3), .int (Int32.ofInt v4), .int (Int32.ofInt v5)] (jz_H J K) (jp_v P)
def q_93 (xs : Nat → Int32) (L d : Nat) (v0 : Nat) (v1 : Int) (v2 : Int) (v3 : Int) (v4 : Int) (v5 : Int) (v6 : Int) (J K : jZ) (P : jZ → jZ → Prop) : Prop := jm_Q xs L d 93 [.ref v0, .int (Int32.ofInt v1), .int (Int32.ofInt v2), .int (Int32.ofInt v3), .int (Int32.ofInt v4), .int (Int32.ofInt v5), .int (Int32.ofInt v6)] (jz_H J K) (jp_v P)
def l_93_10 (xs : Nat → Int32) (L d : Nat) (J K : jZ) (P : jZ → jZ → Prop) : Prop := jm_W xs L d 93 10 [none, none, none, none, none, none, none, none] [] (jz_H J K) (jp_v P)
def l_93_71 (xs : Nat → Int32) (L d : Nat) (v0 : Nat) (v1 : Int) (v5 : Int) (v6 : Int) (v7 : Nat) (J K : jZ) (P : jZ → jZ → Prop) : Prop := jm_W xs L d 93 71 [some (.ref v0), some (.int (Int32.ofInt v1)), none, none, none, some (.int (Int32.ofInt v5)), some (.int (Int32.ofInt v6)), some (.ref v7)] [] (jz_H J K) (jp_v P)
def l_93_94 (xs : Nat → Int32) (L d : Nat) (v0 : Nat) (v1 : Int) (v6 : Int) (v7 : Nat) (J K : jZ) (P : jZ → jZ → Prop) : Prop := jm_W xs L d 93 94 [some (.ref v0), some (.int (Int32.ofInt v1)), none, none, none, none, some (.int (Int32.ofInt v6)), some (.ref v7)] [] (jz_H J K) (jp_v P)
def l_93_117 (xs : Nat → Int32) (L d : Nat) (J K : jZ) (P : jZ → jZ → Prop) : Prop := jm_W xs L d 93 117 [none, none, none, none, none, none, none, none] [] (jz_H J K) (jp_v P)
def q_94 (xs : Nat → Int32) (L d : Nat) (v0 : Nat) (v1 : Nat) (J K : jZ) (P : jZ → jZ → Prop) : Prop := jm_Q xs L d 94 [.ref v0, .ref v1] (jz_H J K) (jp_v P)
def q_95 (xs : Nat → Int32) (L d : Nat) (J K : jZ) (P : jZ → jZ → Prop) : Prop := jm_Q xs L d 95 [.ref 146] (jz_H J K) (jp_v P)
def q_96 (xs : Nat → Int32) (L d : Nat) (v1 : Int) (J K : jZ) (P : Int → jZ → jZ → Prop) : Prop := jm_Q xs L d 96 [.ref 146, .int (Int32.ofInt v1)] (jz_H J K) (jp_i P)
def l_96_41 (xs : Nat → Int32) (L d : Nat) (v1 : Int) (v2 : Int) (v3 : Int) (J K : jZ) (P : Int → jZ → jZ → Prop) : Prop := jm_W xs L d 96 41 [some (.ref 146), some (.int (Int32.ofInt v1)), some (.int (Int32.ofInt v2)), some (.int (Int32.ofInt v3)), none, none, none] [] (jz_H J K) (jp_i P)
def l_96_83 (xs : Nat → Int32) (L d : Nat) (v1 : Int) (v2 : Int) (v3 : Int) (J K : jZ) (P : Int → jZ → jZ → Prop) : Prop := jm_W xs L d 96 83 [some (.ref 146), some (.int (Int32.ofInt v1)), some (.int (Int32.ofInt v2)), some (.int (Int32.ofInt v3)), none, none, none] [] (jz_H J K) (jp_i P)
def l_96_150 (xs : Nat → Int32) (L d : Nat) (J K : jZ) (P : Int → jZ → jZ → Prop) : Prop := jm_W xs L d 96 150 [none, none, none, none, none, none, none] [] (jz_H J K) (jp_i P)
def q_97 (xs : Nat → Int32) (L d : Nat) (v1 : Int) (J K : jZ) (P : Int → jZ → jZ → Prop) : Prop := jm_Q xs L d 97 [.ref 0, .int (Int32.ofInt v1)] (jz_H J K) (jp_i P)
def q_98 (xs : Nat → Int32) (L d : Nat) (v1 : Int) (v2 : Int) (v3 : Int) (J K : jZ) (P : Int → jZ → jZ → Prop) : Prop := jm_Q xs L d 98 [.ref 0, .int (Int32.ofInt v1), .int (Int32.ofInt v2), .int (Int32.ofInt v3)] (jz_H J K) (jp_i P)
def q_99 (xs : Nat → Int32) (L d : Nat) (v0 : Nat) (J K : jZ) (P : Int → jZ → jZ → Prop) : Prop := jm_Q xs L d 99 [.ref v0] (jz_H J K) (jp_i P)
def q_100 (xs : Nat → Int32) (L d : Nat) (v0 : Nat) (J K : jZ) (P : Int → jZ → jZ → Prop) : Prop := jm_Q xs L d 100 [.ref v0] (jz_H J K) (jp_i P)
def q_101 (xs : Nat → Int32) (L d : Nat) (v1 : Int) (v2 : Int) (J K : jZ) (P : Int → jZ → jZ → Prop) : Prop := jm_Q xs L d 101 [.ref 0, .int (Int32.ofInt v1), .int (Int32.ofInt v2)] (jz_H J K) (jp_i P)
def l_101_40 (xs : Nat → Int32) (L d : Nat) (v1 : Int) (v2 : Int) (v4 : Int) (v5 : Int) (J K : jZ) (P : Int → jZ → jZ → Prop) : Prop := jm_W xs L d 101 40 [some (.ref 0), some (.int (Int32.ofInt v1)), some (.int (Int32.ofInt v2)), none, some (.int (Int32.ofInt v4)), some (.int (Int32.ofInt v5)), none, none] [] (jz_H J K) (jp_i P)
def q_102 (xs : Nat → Int32) (L d : Nat) (v1 : Int) (v2 : Int) (v3 : Int) (J K : jZ) (P : Int → jZ → jZ → Prop) : Prop := jm_Q xs L d 102 [.ref 0, .int (Int32.ofInt v1), .int (Int32.ofInt v2), .int (Int32.ofInt v3)] (jz_H J K) (jp_i P)
def q_103 (xs : Nat → Int32) (L d : Nat) (v1 : Int) (v2 : Int) (v3 : Int) (v4 : Int) (v5 : Int) (J K : jZ) (P : Int → jZ → jZ → Prop) : Prop := jm_Q xs L d 103 [.ref 0, .int (Int32.ofInt v1), .int (Int32.ofInt v2), .int (Int32.ofInt v3), .int (Int32.ofInt v4), .int (Int32.ofInt v5)] (jz_H J K) (jp_i P)
def q_104 (xs : Nat → Int32) (L d : Nat) (v1 : Int) (J K : jZ) (P : Int → jZ → jZ → Prop) : Prop := jm_Q xs L d 104 [.ref 0, .int (Int32.ofInt v1)] (jz_H J K) (jp_i P)
def q_105 (xs : Nat → Int32) (L d : Nat) (v1 : Int) (v2 : Int) (J K : jZ) (P : Int → jZ → jZ → Prop) : Prop := jm_Q xs L d 105 [.ref 0, .int (Int32.ofInt v1), .int (Int32.ofInt v2)] (jz_H J K) (jp_i P)
def q_106 (xs : Nat → Int32) (L d : Nat) (v1 : Int) (v2 : Int) (v3 : Int) (v4 : Int) (J K : jZ) (P : Int → jZ → jZ → Prop) : Prop := jm_Q xs L d 106 [.ref 0, .int (Int32.ofInt v1), .int (Int32.ofInt v2), .int (Int32.ofInt v3), .int (Int32.ofInt v4)] (jz_H J K) (jp_i P)
def q_107 (xs : Nat → Int32) (L d : Nat) (J K : jZ) (P : Int → jZ → jZ → Prop) : Prop := jm_Q xs L d 107 [.ref 0] (jz_H J K) (jp_i P)
def q_108 (xs : Nat → Int32) (L d : Nat) (v1 : Int) (J K : jZ) (P : jZ → jZ → Prop) : Prop := jm_Q xs L d 108 [.ref 61, .int (Int32.ofInt v1)] (jz_H J K) (jp_v P)
def q_109 (xs : Nat → Int32) (L d : Nat) (J K : jZ) (P : jZ → jZ → Prop) : Prop := jm_Q xs L d 109 [.ref 0] (jz_H J K) (jp_v P)
def l_109_2 (xs : Nat → Int32) (L d : Nat) (v1 : Int) (J K : jZ) (P : jZ → jZ → Prop) : Prop := jm_W xs L d 109 2 [some (.ref 0), some (.int (Int32.ofInt v1))] [] (jz_H J K) (jp_v P)
def q_110 (xs : Nat → Int32) (L d : Nat) (v1 : Int) (v2 : Int) (J K : jZ) (P : Int → jZ → jZ → Prop) : Prop := jm_Q xs L d 110 [.ref 0, .int (Int32.ofInt v1), .int (Int32.ofInt v2)] (jz_H J K) (jp_i P)
def q_111 (xs : Nat → Int32) (L d : Nat) (v1 : Int) (v2 : Int) (J K : jZ) (P : Int → jZ → jZ → Prop) : Prop := jm_Q xs L d 111 [.ref 0, .int (Int32.ofInt v1), .int (Int32.ofInt v2)] (jz_H J K) (jp_i P)
def q_112 (xs : Nat → Int32) (L d : Nat) (v0 : Nat) (v1 : Int) (v2 : Int) (J K : jZ) (P : Int → jZ → jZ → Prop) : Prop := jm_Q xs L d 112 [.ref v0, .int (Int32.ofInt v1), .int (Int32.ofInt v2)] (jz_H J K) (jp_i P)
def l_112_5 (xs : Nat → Int32) (L d : Nat) (v0 : Nat) (v1 : Int) (v2 : Int) (v3 : Int) (v4 : Int) (J K : jZ) (P : Int → jZ → jZ → Prop) : Prop := jm_W xs L d 112 5 [some (.ref v0), some (.int (Int32.ofInt v1)), some (.int (Int32.ofInt v2)), some (.int (Int32.ofInt v3)), some (.int (Int32.ofInt v4))] [] (jz_H J K) (jp_i P)
def q_113 (xs : Nat → Int32) (L d : Nat) (v1 : Int) (J K : jZ) (P : Int → jZ → jZ → Prop) : Prop := jm_Q xs L d 113 [.ref 0, .int (Int32.ofInt v1)] (jz_H J K) (jp_i P)
def q_114 (xs : Nat → Int32) (L d : Nat) (v1 : Int) (v2 : Int) (J K : jZ) (P : Int → jZ → jZ → Prop) : Prop := jm_Q xs L d 114 [.ref 0, .int (Int32.ofInt v1), .int (Int32.ofInt v2)] (jz_H J K) (jp_i P)
def q_115 (xs : Nat → Int32) (L d : Nat) (v0 : Nat) (v1 : Int) (J K : jZ) (P : Int → jZ → jZ → Prop) : Prop := jm_Q xs L d 115 [.ref v0, .int (Int32.ofInt v1)] (jz_H J K) (jp_i P)
def q_116 (xs : Nat → Int32) (L d : Nat) (v1 : Int) (v2 : Int) (v3 : Int) (J K : jZ) (P : Int → jZ → jZ → Prop) : Prop := jm_Q xs L d 116 [.ref 0, .int (Int32.ofInt v1), .int (Int32.ofInt v2), .int (Int32.ofInt v3)] (jz_H J K) (jp_i P)
def q_117 (xs : Nat → Int32) (L d : Nat) (v0 : Nat) (v1 : Int) (J K : jZ) (P : Int → jZ → jZ → Prop) : Prop := jm_Q xs L d 117 [.ref v0, .int (Int32.ofInt v1)] (jz_H J K) (jp_i P)
def q_118 (xs : Nat → Int32) (L d : Nat) (v0 : Nat) (v1 : Int) (J K : jZ) (P : Int → jZ → jZ → Prop) : Prop := jm_Q xs L d 118 [.ref v0, .int (Int32.ofInt v1)] (jz_H J K) (jp_i P)
def l_118_2 (xs : Nat → Int32) (L d : Nat) (v0 : Nat) (v1 : Int) (v2 : Int) (J K : jZ) (P : Int → jZ → jZ → Prop) : Prop := jm_W xs L d 118 2 [some (.ref v0), some (.int (Int32.ofInt v1)), some (.int (Int32.ofInt v2))] [] (jz_H J K) (jp_i P)
def q_119 (xs : Nat → Int32) (L d : Nat) (v1 : Int) (v2 : Int) (J K : jZ) (P : Int → jZ → jZ → Prop) : Prop := jm_Q xs L d 119 [.ref 0, .int (Int32.ofInt v1), .int (Int32.ofInt v2)] (jz_H J K) (jp_i P)
def q_120 (xs : Nat → Int32) (L d : Nat) (v0 : Nat) (v1 : Int) (J K : jZ) (P : Int → jZ → jZ → Prop) : Prop := jm_Q xs L d 120 [.ref v0, .int (Int32.ofInt v1)] (jz_H J K) (jp_i P)
def q_121 (xs : Nat → Int32) (L d : Nat) (v1 : Int) (J K : jZ) (P : Int → jZ → jZ → Prop) : Prop := jm_Q xs L d 121 [.ref 0, .int (Int32.ofInt v1)] (jz_H J K) (jp_i P)
def l_121_35 (xs : Nat → Int32) (L d : Nat) (v2 : Nat) (v3 : Int) (v4 : Int) (v5 : Int) (J K : jZ) (P : Int → jZ → jZ → Prop) : Prop := jm_W xs L d 121 35 [some (.ref 0), none, some (.ref v2), some (.int (Int32.ofInt v3)), some (.int (Int32.ofInt v4)), some (.int (Int32.ofInt v5)), none] [] (jz_H J K) (jp_i P)
def q_122 (xs : Nat → Int32) (L d : Nat) (v1 : Int) (v2 : Int) (J K : jZ) (P : Int → jZ → jZ → Prop) : Prop := jm_Q xs L d 122 [.ref 0, .int (Int32.ofInt v1), .int (Int32.ofInt v2)] (jz_H J K) (jp_i P)
def l_122_48 (xs : Nat → Int32) (L d : Nat) (v2 : Int) (v3 : Nat) (v4 : Int) (v5 : Int) (v6 : Int) (v7 : Int) (J K : jZ) (P : Int → jZ → jZ → Prop) : Prop := jm_W xs L d 122 48 [some (.ref 0), none, some (.int (Int32.ofInt v2)), some (.ref v3), some (.int (Int32.ofInt v4)), some (.int (Int32.ofInt v5)), some (.int (Int32.ofInt v6)), some (.int (Int32.ofInt v7)), none] [] (jz_H J K) (jp_i P)
def l_122_76 (xs : Nat → Int32) (L d : Nat) (v2 : Int) (v3 : Nat) (v4 : Int) (v5 : Int) (v6 : Int) (v7 : Int) (v8 : Int) (J K : jZ) (P : Int → jZ → jZ → Prop) : Prop := jm_W xs L d 122 76 [some (.ref 0), none, some (.int (Int32.ofInt v2)), some (.ref v3), some (.int (Int32.ofInt v4)), some (.int (Int32.ofInt v5)), some (.int (Int32.ofInt v6)), some (.int (Int32.ofInt v7)), some (.int (Int32.ofInt v8))] [] (jz_H J K) (jp_i P)
def l_122_106 (xs : Nat → Int32) (L d : Nat) (v2 : Int) (v3 : Nat) (v4 : Int) (v5 : Int) (v6 : Int) (v7 : Int) (J K : jZ) (P : Int → jZ → jZ → Prop) : Prop := jm_W xs L d 122 106 [some (.ref 0), none, some (.int (Int32.ofInt v2)), some (.ref v3), some (.int (Int32.ofInt v4)), some (.int (Int32.ofInt v5)), some (.int (Int32.ofInt v6)), some (.int (Int32.ofInt v7)), none] [] (jz_H J K) (jp_i P)
def q_123 (xs : Nat → Int32) (L d : Nat) (v1 : Int) (v2 : Int) (J K : jZ) (P : Int → jZ → jZ → Prop) : Prop := jm_Q xs L d 123 [.ref 0, .int (Int32.ofInt v1), .int (Int32.ofInt v2)] (jz_H J K) (jp_i P)
def l_123_60 (xs : Nat → Int32) (L d : Nat) (v2 : Int) (v3 : Nat) (v4 : Int) (v5 : Int) (v6 : Int) (v7 : Int) (J K : jZ) (P : Int → jZ → jZ → Prop) : Prop := jm_W xs L d 123 60 [none, none, some (.int (Int32.ofInt v2)), some (.ref v3), some (.int (Int32.ofInt v4)), some (.int (Int32.ofInt v5)), some (.int (Int32.ofInt v6)), some (.int (Int32.ofInt v7)), none] [] (jz_H J K) (jp_i P)
def q_124 (xs : Nat → Int32) (L d : Nat) (v1 : Int) (v2 : Int) (J K : jZ) (P : Int → jZ → jZ → Prop) : Prop := jm_Q xs L d 124 [.ref 0, .int (Int32.ofInt v1), .int (Int32.ofInt v2)] (jz_H J K) (jp_i P)
def q_125 (xs : Nat → Int32) (L d : Nat) (v0 : Nat) (J K : jZ) (P : Int → jZ → jZ → Prop) : Prop := jm_Q xs L d 125 [.ref v0] (jz_H J K) (jp_i P)
def l_125_6 (xs : Nat → Int32) (L d : Nat) (v0 : Nat) (v1 : Int) (v2 : Int) (v3 : Int) (J K : jZ) (P : Int → jZ → jZ → Prop) : Prop := jm_W xs L d 125 6 [some (.ref v0), some (.int (Int32.ofInt v1)), some (.int (Int32.ofInt v2)), some (.int (Int32.ofInt v3))] [] (jz_H J K) (jp_i P)
def q_126 (xs : Nat → Int32) (L d : Nat) (v0 : Nat) (v1 : Int) (J K : jZ) (P : Int → jZ → jZ → Prop) : Prop := jm_Q xs L d 126 [.ref v0, .int (Int32.ofInt v1)] (jz_H J K) (jp_i P)
def l_126_7 (xs : Nat → Int32) (L d : Nat) (v0 : Nat) (v1 : Int) (v2 : Int) (v3 : Int) (v4 : Int) (J K : jZ) (P : Int → jZ → jZ → Prop) : Prop := jm_W xs L d 126 7 [some (.ref v0), some (.int (Int32.ofInt v1)), some (.int (Int32.ofInt v2)), some (.int (Int32.ofInt v3)), some (.int (Int32.ofInt v4))] [] (jz_H J K) (jp_i P)
def q_127 (xs : Nat → Int32) (L d : Nat) (v1 : Int) (v2 : Int) (J K : jZ) (P : Int → jZ → jZ → Prop) : Prop := jm_Q xs L d 127 [.ref 0, .int (Int32.ofInt v1), .int (Int32.ofInt v2)] (jz_H J K) (jp_i P)
def q_128 (xs : Nat → Int32) (L d : Nat) (v1 : Int) (v2 : Int) (J K : jZ) (P : Int → jZ → jZ → Prop) : Prop := jm_Q xs L d 128 [.ref 0, .int (Int32.ofInt v1), .int (Int32.ofInt v2)] (jz_H J K) (jp_i P)
def q_129 (xs : Nat → Int32) (L d : Nat) (v0 : Nat) (v1 : Int) (J K : jZ) (P : Int → jZ → jZ → Prop) : Prop := jm_Q xs L d 129 [.ref v0, .int (Int32.ofInt v1)] (jz_H J K) (jp_i P)
def q_130 (xs : Nat → Int32) (L d : Nat) (v1 : Nat) (v2 : Int) (J K : jZ) (P : Int → jZ → jZ → Prop) : Prop := jm_Q xs L d 130 [.ref 0, .ref v1, .int (Int32.ofInt v2)] (jz_H J K) (jp_i P)
def l_130_49 (xs : Nat → Int32) (L d : Nat) (v1 : Nat) (v3 : Int) (v4 : Int) (v5 : Int) (J K : jZ) (P : Int → jZ → jZ → Prop) : Prop := jm_W xs L d 130 49 [none, some (.ref v1), none, some (.int (Int32.ofInt v3)), some (.int (Int32.ofInt v4)), some (.int (Int32.ofInt v5)), none] [] (jz_H J K) (jp_i P)
def q_131 (xs : Nat → Int32) (L d : Nat) (v1 : Int) (v2 : Int) (J K : jZ) (P : Int → jZ → jZ → Prop) : Prop := jm_Q xs L d 131 [.ref 0, .int (Int32.ofInt v1), .int (Int32.ofInt v2)] (jz_H J K) (jp_i P)
def l_131_61 (xs : Nat → Int32) (L d : Nat) (v2 : Int) (v3 : Int) (v4 : Nat) (v5 : Int) (J K : jZ) (P : Int → jZ → jZ → Prop) : Prop := jm_W xs L d 131 61 [some (.ref 0), none, some (.int (Int32.ofInt v2)), some (.int (Int32.ofInt v3)), some (.ref v4), some (.int (Int32.ofInt v5))] [] (jz_H J K) (jp_i P)
def l_131_91 (xs : Nat → Int32) (L d : Nat) (v2 : Int) (v3 : Int) (v5 : Int) (J K : jZ) (P : Int → jZ → jZ → Prop) : Prop := jm_W xs L d 131 91 [some (.ref 0), none, some (.int (Int32.ofInt v2)), some (.int (Int32.ofInt v3)), none, some (.int (Int32.ofInt v5))] [] (jz_H J K) (jp_i P)
def q_132 (xs : Nat → Int32) (L d : Nat) (v1 : Int) (v2 : Int) (J K : jZ) (P : Int → jZ → jZ → Prop) : Prop := jm_Q xs L d 132 [.ref 0, .int (Int32.ofInt v1), .int (Int32.ofInt v2)] (jz_H J K) (jp_i P)
def l_132_5 (xs : Nat → Int32) (L d : Nat) (v1 : Int) (v2 : Int) (v3 : Int) (v4 : Int) (J K : jZ) (P : Int → jZ → jZ → Prop) : Prop := jm_W xs L d 132 5 [some (.ref 0), some (.int (Int32.ofInt v1)), some (.int (Int32.ofInt v2)), some (.int (Int32.ofInt v3)), some (.int (Int32.ofInt v4)), none] [] (jz_H J K) (jp_i P)
def q_133 (xs : Nat → Int32) (L d : Nat) (v1 : Int) (v2 : Int) (v3 : Int) (J K : jZ) (P : Int → jZ → jZ → Prop) : Prop := jm_Q xs L d 133 [.ref 0, .int (Int32.ofInt v1), .int (Int32.ofInt v2), .int (Int32.ofInt v3)] (jz_H J K) (jp_i P)
def l_133_65 (xs : Nat → Int32) (L d : Nat) (v2 : Int) (v3 : Int) (v4 : Nat) (v5 : Int) (v6 : Int) (v7 : Int) (J K : jZ) (P : Int → jZ → jZ → Prop) : Prop := jm_W xs L d 133 65 [some (.ref 0), none, some (.int (Int32.ofInt v2)), some (.int (Int32.ofInt v3)), some (.ref v4), some (.int (Int32.ofInt v5)), some (.int (Int32.ofInt v6)), some (.int (Int32.ofInt v7)), none] [] (jz_H J K) (jp_i P)
def q_134 (xs : Nat → Int32) (L d : Nat) (v0 : Nat) (v1 : Int) (v2 : Int) (J K : jZ) (P : Int → jZ → jZ → Prop) : Prop := jm_Q xs L d 134 [.ref v0, .int (Int32.ofInt v1), .int (Int32.ofInt v2)] (jz_H J K) (jp_i P)
def q_135 (xs : Nat → Int32) (L d : Nat) (v1 : Int) (v2 : Int) (J K : jZ) (P : Int → jZ → jZ → Prop) : Prop := jm_Q xs L d 135 [.ref 0, .int (Int32.ofInt v1), .int (Int32.ofInt v2)] (jz_H J K) (jp_i P)
def l_135_55 (xs : Nat → Int32) (L d : Nat) (v3 : Nat) (v4 : Nat) (v5 : Int) (v6 : Int) (J K : jZ) (P : Int → jZ → jZ → Prop) : Prop := jm_W xs L d 135 55 [none, none, none, some (.ref v3), some (.ref v4), some (.int (Int32.ofInt v5)), some (.int (Int32.ofInt v6)), none, none, none] [] (jz_H J K) (jp_i P)
def l_135_67 (xs : Nat → Int32) (L d : Nat) (v3 : Nat) (v4 : Nat) (v5 : Int) (v6 : Int) (v7 : Int) (J K : jZ) (P : Int → jZ → jZ → Prop) : Prop := jm_W xs L d 135 67 [none, none, none, some (.ref v3), some (.ref v4), some (.int (Int32.ofInt v5)), some (.int (Int32.ofInt v6)), some (.int (Int32.ofInt v7)), none, none] [] (jz_H J K) (jp_i P)
def q_136 (xs : Nat → Int32) (L d : Nat) (v1 : Int) (v2 : Int) (v3 : Int) (J K : jZ) (P : Int → jZ → jZ → Prop) : Prop := jm_Q xs L d 136 [.ref 0, .int (Int32.ofInt v1), .int (Int32.ofInt v2), .int (Int32.ofInt v3)] (jz_H J K) (jp_i P)
def q_137 (xs : Nat → Int32) (L d : Nat) (v0 : Nat) (v1 : Nat) (J K : jZ) (P : Int → jZ → jZ → Prop) : Prop := jm_Q xs L d 137 [.ref v0, .ref v1] (jz_H J K) (jp_i P)
def l_137_7 (xs : Nat → Int32) (L d : Nat) (v0 : Nat) (v1 : Nat) (v2 : Int) (v3 : Int) (v4 : Int) (J K : jZ) (P : Int → jZ → jZ → Prop) : Prop := jm_W xs L d 137 7 [some (.ref v0), some (.ref v1), some (.int (Int32.ofInt v2)), some (.int (Int32.ofInt v3)), some (.int (Int32.ofInt v4))] [] (jz_H J K) (jp_i P)
def q_138 (xs : Nat → Int32) (L d : Nat) (v1 : Int) (v2 : Int) (J K : jZ) (P : Int → jZ → jZ → Prop) : Prop := jm_Q xs L d 138 [.ref 0, .int (Int32.ofInt v1), .int (Int32.ofInt v2)] (jz_H J K) (jp_i P)
def q_139 (xs : Nat → Int32) (L d : Nat) (v0 : Nat) (v1 : Nat) (J K : jZ) (P : Int → jZ → jZ → Prop) : Prop := jm_Q xs L d 139 [.ref v0, .ref v1] (jz_H J K) (jp_i P)
def l_139_14 (xs : Nat → Int32) (L d : Nat) (v0 : Nat) (v1 : Nat) (v2 : Int) (v3 : Int) (J K : jZ) (P : Int → jZ → jZ → Prop) : Prop := jm_W xs L d 139 14 [some (.ref v0), some (.ref v1), some (.int (Int32.ofInt v2)), some (.int (Int32.ofInt v3))] [] (jz_H J K) (jp_i P)
def q_140 (xs : Nat → Int32) (L d : Nat) (v1 : Int) (J K : jZ) (P : Int → jZ → jZ → Prop) : Prop := jm_Q xs L d 140 [.ref 0, .int (Int32.ofInt v1)] (jz_H J K) (jp_i P)
def l_140_29 (xs : Nat → Int32) (L d : Nat) (v1 : Int) (v2 : Nat) (v3 : Int) (J K : jZ) (P : Int → jZ → jZ → Prop) : Prop := jm_W xs L d 140 29 [some (.ref 0), some (.int (Int32.ofInt v1)), some (.ref v2), some (.int (Int32.ofInt v3))] [] (jz_H J K) (jp_i P)
def q_141 (xs : Nat → Int32) (L d : Nat) (v1 : Int) (J K : jZ) (P : Int → jZ → jZ → Prop) : Prop := jm_Q xs L d 141 [.ref 0, .int (Int32.ofInt v1)] (jz_H J K) (jp_i P)
def l_141_32 (xs : Nat → Int32) (L d : Nat) (v2 : Nat) (v3 : Int) (v4 : Int) (J K : jZ) (P : Int → jZ → jZ → Prop) : Prop := jm_W xs L d 141 32 [some (.ref 0), none, some (.ref v2), some (.int (Int32.ofInt v3)), some (.int (Int32.ofInt v4)), none] [] (jz_H J K) (jp_i P)
def q_142 (xs : Nat → Int32) (L d : Nat) (v1 : Int) (v2 : Int) (J K : jZ) (P : Int → jZ → jZ → Prop) : Prop := jm_Q xs L d 142 [.ref 0, .int (Int32.ofInt v1), .int (Int32.ofInt v2)] (jz_H J K) (jp_i P)
def l_142_45 (xs : Nat → Int32) (L d : Nat) (v1 : Int) (v2 : Int) (v3 : Int) (v4 : Int) (v5 : Int) (J K : jZ) (P : Int → jZ → jZ → Prop) : Prop := jm_W xs L d 142 45 [some (.ref 0), some (.int (Int32.ofInt v1)), some (.int (Int32.ofInt v2)), some (.int (Int32.ofInt v3)), some (.int (Int32.ofInt v4)), some (.int (Int32.ofInt v5)), none, none] [] (jz_H J K) (jp_i P)
def l_142_113 (xs : Nat → Int32) (L d : Nat) (v1 : Int) (v2 : Int) (v3 : Int) (v4 : Int) (v5 : Int) (v7 : Int) (J K : jZ) (P : Int → jZ → jZ → Prop) : Prop := jm_W xs L d 142 113 [some (.ref 0), some (.int (Int32.ofInt v1)), some (.int (Int32.ofInt v2)), some (.int (Int32.ofInt v3)), some (.int (Int32.ofInt v4)), some (.int (Int32.ofInt v5)), none, some (.int (Int32.ofInt v7))] [] (jz_H J K) (jp_i P)
def q_143 (xs : Nat → Int32) (L d : Nat) (v1 : Int) (v2 : Int) (J K : jZ) (P : Int → jZ → jZ → Prop) : Prop := jm_Q xs L d 143 [.ref 61, .int (Int32.ofInt v1), .int (Int32.ofInt v2)] (jz_H J K) (jp_i P)
def q_144 (xs : Nat → Int32) (L d : Nat) (v1 : Int) (v2 : Int) (v3 : Int) (J K : jZ) (P : Int → jZ → jZ → Prop) : Prop := jm_Q xs L d 144 [.ref 0, .int (Int32.ofInt v1), .int (Int32.ofInt v2), .int (Int32.ofInt v3)] (jz_H J K) (jp_i P)
def q_145 (xs : Nat → Int32) (L d : Nat) (v1 : Int) (v2 : Int) (v3 : Int) (J K : jZ) (P : Int → jZ → jZ → Prop) : Prop := jm_Q xs L d 145 [.ref 61, .int (Int32.ofInt v1), .int (Int32.ofInt v2), .int (Int32.ofInt v3)] (jz_H J K) (jp_i P)
def q_146 (xs : Nat → Int32) (L d : Nat) (v1 : Int) (v2 : Int) (J K : jZ) (P : Int → jZ → jZ → Prop) : Prop := jm_Q xs L d 146 [.ref 0, .int (Int32.ofInt v1), .int (Int32.ofInt v2)] (jz_H J K) (jp_i P)
def l_146_37 (xs : Nat → Int32) (L d : Nat) (v1 : Int) (v2 : Int) (v3 : Int) (v4 : Int) (v5 : Int) (J K : jZ) (P : Int → jZ → jZ → Prop) : Prop := jm_W xs L d 146 37 [some (.ref 0), some (.int (Int32.ofInt v1)), some (.int (Int32.ofInt v2)), some (.int (Int32.ofInt v3)), some (.int (Int32.ofInt v4)), some (.int (Int32.ofInt v5)), none] [] (jz_H J K) (jp_i P)
def q_147 (xs : Nat → Int32) (L d : Nat) (v1 : Int) (v2 : Int) (v3 : Int) (v4 : Int) (J K : jZ) (P : Int → jZ → jZ → Prop) : Prop := jm_Q xs L d 147 [.ref 0, .int (Int32.ofInt v1), .int (Int32.ofInt v2), .int (Int32.ofInt v3), .int (Int32.ofInt v4)] (jz_H J K) (jp_i P)
def l_147_90 (xs : Nat → Int32) (L d : Nat) (v3 : Int) (v4 : Int) (v6 : Nat) (v7 : Nat) (v8 : Int) (v9 : Int) (J K : jZ) (P : Int → jZ → jZ → Prop) : Prop := jm_W xs L d 147 90 [some (.ref 0), none, none, some (.int (Int32.ofInt v3)), some (.int (Int32.ofInt v4)), none, some (.ref v6), some (.ref v7), some (.int (Int32.ofInt v8)), some (.int (Int32.ofInt v9))] [] (jz_H J K) (jp_i P)
def q_148 (xs : Nat → Int32) (L d : Nat) (v0 : Nat) (v1 : Nat) (v2 : Int) (J K : jZ) (P : Int → jZ → jZ → Prop) : Prop := jm_Q xs L d 148 [.ref v0, .ref v1, .int (Int32.ofInt v2)] (jz_H J K) (jp_i P)
def l_148_15 (xs : Nat → Int32) (L d : Nat) (v0 : Nat) (v1 : Nat) (v2 : Int) (v3 : Int) (J K : jZ) (P : Int → jZ → jZ → Prop) : Prop := jm_W xs L d 148 15 [some (.ref v0), some (.ref v1), some (.int (Int32.ofInt v2)), some (.int (Int32.ofInt v3)), none] [] (jz_H J K) (jp_i P)
def l_148_72 (xs : Nat → Int32) (L d : Nat) (v0 : Nat) (v1 : Nat) (v2 : Int) (v3 : Int) (J K : jZ) (P : Int → jZ → jZ → Prop) : Prop := jm_W xs L d 148 72 [some (.ref v0), some (.ref v1), some (.int (Int32.ofInt v2)), some (.int (Int32.ofInt v3)), none] [] (jz_H J K) (jp_i P)
def q_149 (xs : Nat → Int32) (L d : Nat) (v1 : Int) (v2 : Int) (v3 : Int) (J K : jZ) (P : Int → jZ → jZ → Prop) : Prop := jm_Q xs L d 149 [.ref 0, .int (Int32.ofInt v1), .int (Int32.ofInt v2), .int (Int32.ofInt v3)] (jz_H J K) (jp_i P)
def q_150 (xs : Nat → Int32) (L d : Nat) (v1 : Int) (v2 : Int) (v3 : Int) (J K : jZ) (P : Int → jZ → jZ → Prop) : Prop := jm_Q xs L d 150 [.ref 0, .int (Int32.ofInt v1), .int (Int32.ofInt v2), .int (Int32.ofInt v3)] (jz_H J K) (jp_i P)
def l_150_64 (xs : Nat → Int32) (L d : Nat) (v2 : Int) (v3 : Int) (v5 : Nat) (v6 : Int) (v7 : Int) (J K : jZ) (P : Int → jZ → jZ → Prop) : Prop := jm_W xs L d 150 64 [some (.ref 0), none, some (.int (Int32.ofInt v2)), some (.int (Int32.ofInt v3)), none, some (.ref v5), some (.int (Int32.ofInt v6)), some (.int (Int32.ofInt v7))] [] (jz_H J K) (jp_i P)
def q_151 (xs : Nat → Int32) (L d : Nat) (v1 : Int) (v2 : Int) (v3 : Int) (v4 : Int) (J K : jZ) (P : Int → jZ → jZ → Prop) : Prop := jm_Q xs L d 151 [.ref 0, .int (Int32.ofInt v1), .int (Int32.ofInt v2), .int (Int32.ofInt v3), .int (Int32.ofInt v4)] (jz_H J K) (jp_i P)
def l_151_65 (xs : Nat → Int32) (L d : Nat) (v1 : Int) (v3 : Int) (v4 : Int) (v6 : Nat) (v7 : Int) (J K : jZ) (P : Int → jZ → jZ → Prop) : Prop := jm_W xs L d 151 65 [some (.ref 0), some (.int (Int32.ofInt v1)), none, some (.int (Int32.ofInt v3)), some (.int (Int32.ofInt v4)), none, some (.ref v6), some (.int (Int32.ofInt v7))] [] (jz_H J K) (jp_i P)
def l_151_98 (xs : Nat → Int32) (L d : Nat) (J K : jZ) (P : Int → jZ → jZ → Prop) : Prop := jm_W xs L d 151 98 [some (.ref 0), none, none, none, none, none, none, none] [] (jz_H J K) (jp_i P)
def l_151_133 (xs : Nat → Int32) (L d : Nat) (v1 : Int) (v3 : Int) (v4 : Int) (v6 : Nat) (v7 : Int) (J K : jZ) (P : Int → jZ → jZ → Prop) : Prop := jm_W xs L d 151 133 [some (.ref 0), some (.int (Int32.ofInt v1)), none, some (.int (Int32.ofInt v3)), some (.int (Int32.ofInt v4)), none, some (.ref v6), some (.int (Int32.ofInt v7))] [] (jz_H J K) (jp_i P)
def q_152 (xs : Nat → Int32) (L d : Nat) (v0 : Nat) (v1 : Nat) (J K : jZ) (P : jZ → jZ → Prop) : Prop := jm_Q xs L d 152 [.ref v0, .ref v1] (jz_H J K) (jp_v P)
def q_153 (xs : Nat → Int32) (L d : Nat) (v1 : Int) (J K : jZ) (P : Int → jZ → jZ → Prop) : Prop := jm_Q xs L d 153 [.ref 0, .int (Int32.ofInt v1)] (jz_H J K) (jp_i P)
def l_153_20 (xs : Nat → Int32) (L d : Nat) (v1 : Int) (v2 : Int) (J K : jZ) (P : Int → jZ → jZ → Prop) : Prop := jm_W xs L d 153 20 [some (.ref 0), some (.int (Int32.ofInt v1)), some (.int (Int32.ofInt v2))] [] (jz_H J K) (jp_i P)
def q_154 (xs : Nat → Int32) (L d : Nat) (v0 : Nat) (J K : jZ) (P : jZ → jZ → Prop) : Prop := jm_Q xs L d 154 [.ref v0] (jz_H J K) (jp_v P)
def q_155 (xs : Nat → Int32) (L d : Nat) (v0 : Nat) (v1 : Int) (J K : jZ) (P : Int → jZ → jZ → Prop) : Prop := jm_Q xs L d 155 [.ref v0, .int (Int32.ofInt v1)] (jz_H J K) (jp_i P)
def q_156 (xs : Nat → Int32) (L d : Nat) (v1 : Int) (J K : jZ) (P : Int → jZ → jZ → Prop) : Prop := jm_Q xs L d 156 [.ref 0, .int (Int32.ofInt v1)] (jz_H J K) (jp_i P)
def q_157 (xs : Nat → Int32) (L d : Nat) (J K : jZ) (P : Int → jZ → jZ → Prop) : Prop := jm_Q xs L d 157 [.ref 0] (jz_H J K) (jp_i P)
def q_158 (xs : Nat → Int32) (L d : Nat) (v0 : Nat) (v1 : Nat) (J K : jZ) (P : jZ → jZ → Prop) : Prop := jm_Q xs L d 158 [.ref v0, .ref v1] (jz_H J K) (jp_v P)
def q_159 (xs : Nat → Int32) (L d : Nat) (v0 : Nat) (v1 : Nat) (J K : jZ) (P : jZ → jZ → Prop) : Prop := jm_Q xs L d 159 [.ref v0, .ref v1] (jz_H J K) (jp_v P)
def l_159_10 (xs : Nat → Int32) (L d : Nat) (v0 : Nat) (v1 : Nat) (v2 : Int) (J K : jZ) (P : jZ → jZ → Prop) : Prop := jm_W xs L d 159 10 [some (.ref v0), some (.ref v1), some (.int (Int32.ofInt v2))] [] (jz_H J K) (jp_v P)
def q_160 (xs : Nat → Int32) (L d : Nat) (v0 : Nat) (v1 : Nat) (J K : jZ) (P : jZ → jZ → Prop) : Prop := jm_Q xs L d 160 [.ref v0, .ref v1] (jz_H J K) (jp_v P)
def q_161 (xs : Nat → Int32) (L d : Nat) (J K : jZ) (P : Int → jZ → jZ → Prop) : Prop := jm_Q xs L d 161 [.ref 0] (jz_H J K) (jp_i P)
def q_162 (xs : Nat → Int32) (L d : Nat) (v1 : Int) (J K : jZ) (P : Int → jZ → jZ → Prop) : Prop := jm_Q xs L d 162 [.ref 0, .int (Int32.ofInt v1)] (jz_H J K) (jp_i P)
def q_163 (xs : Nat → Int32) (L d : Nat) (v0 : Nat) (J K : jZ) (P : Int → jZ → jZ → Prop) : Prop := jm_Q xs L d 163 [.ref v0] (jz_H J K) (jp_i P)
def l_163_4 (xs : Nat → Int32) (L d : Nat) (v0 : Nat) (v1 : Int) (v2 : Int) (J K : jZ) (P : Int → jZ → jZ → Prop) : Prop := jm_W xs L d 163 4 [some (.ref v0), some (.int (Int32.ofInt v1)), some (.int (Int32.ofInt v2))] [] (jz_H J K) (jp_i P)
def q_164 (xs : Nat → Int32) (L d : Nat) (v0 : Int) (J K : jZ) (P : Int → jZ → jZ → Prop) : Prop := jm_Q xs L d 164 [.int (Int32.ofInt v0)] (jz_H J K) (jp_i P)
def q_165 (xs : Nat → Int32) (L d : Nat) (v0 : Nat) (J K : jZ) (P : Int → jZ → jZ → Prop) : Prop := jm_Q xs L d 165 [.ref v0] (jz_H J K) (jp_i P)
def l_165_4 (xs : Nat → Int32) (L d : Nat) (v0 : Nat) (v1 : Int) (v2 : Int) (J K : jZ) (P : Int → jZ → jZ → Prop) : Prop := jm_W xs L d 165 4 [some (.ref v0), some (.int (Int32.ofInt v1)), some (.int (Int32.ofInt v2))] [] (jz_H J K) (jp_i P)
def q_166 (xs : Nat → Int32) (L d : Nat) (J K : jZ) (P : Int → jZ → jZ → Prop) : Prop := jm_Q xs L d 166 [.ref 0] (jz_H J K) (jp_i P)
def l_166_4 (xs : Nat → Int32) (L d : Nat) (v1 : Int) (v2 : Int) (J K : jZ) (P : Int → jZ → jZ → Prop) : Prop := jm_W xs L d 166 4 [some (.ref 0), some (.int (Int32.ofInt v1)), some (.int (Int32.ofInt v2))] [] (jz_H J K) (jp_i P)
def q_168 (xs : Nat → Int32) (L d : Nat) (v1 : Int) (v2 : Int) (v3 : Int) (J K : jZ) (P : Int → jZ → jZ → Prop) : Prop := jm_Q xs L d 168 [.ref 167, .int (Int32.ofInt v1), .int (Int32.ofInt v2), .int (Int32.ofInt v3)] (jz_H J K) (jp_i P)
def l_168_67 (xs : Nat → Int32) (L d : Nat) (v1 : Int) (v4 : Int) (J K : jZ) (P : Int → jZ → jZ → Prop) : Prop := jm_W xs L d 168 67 [some (.ref 167), some (.int (Int32.ofInt v1)), none, none, some (.int (Int32.ofInt v4))] [] (jz_H J K) (jp_i P)
def q_169 (xs : Nat → Int32) (L d : Nat) (v0 : Int) (v2 : Int) (v4 : Int) (J K : jZ) (P : Int → jZ → jZ → Prop) : Prop := jm_Q xs L d 169 [.long (Int64.ofInt v0), .long (Int64.ofInt v2), .long (Int64.ofInt v4)] (jz_H J K) (jp_i P)
def q_170 (xs : Nat → Int32) (L d : Nat) (v1 : Int) (J K : jZ) (P : Int → jZ → jZ → Prop) : Prop := jm_Q xs L d 170 [.ref 167, .int (Int32.ofInt v1)] (jz_H J K) (jp_i P)
def q_171 (xs : Nat → Int32) (L d : Nat) (v1 : Int) (v2 : Int) (v3 : Int) (J K : jZ) (P : Int → jZ → jZ → Prop) : Prop := jm_Q xs L d 171 [.ref 167, .int (Int32.ofInt v1), .int (Int32.ofInt v2), .long (Int64.ofInt v3)] (jz_H J K) (jp_i P)
def q_172 (xs : Nat → Int32) (L d : Nat) (v1 : Int) (J K : jZ) (P : Int → jZ → jZ → Prop) : Prop := jm_Q xs L d 172 [.ref 167, .int (Int32.ofInt v1)] (jz_H J K) (jp_i P)
def q_173 (xs : Nat → Int32) (L d : Nat) (v0 : Int) (v1 : Int) (J K : jZ) (P : Int → jZ → jZ → Prop) : Prop := jm_Q xs L d 173 [.int (Int32.ofInt v0), .long (Int64.ofInt v1)] (jz_H J K) (jp_l P)
def q_174 (xs : Nat → Int32) (L d : Nat) (v1 : Int) (v2 : Int) (v3 : Int) (v4 : Int) (v5 : Int) (J K : jZ) (P : Int → jZ → jZ → Prop) : Prop := jm_Q xs L d 174 [.ref 167, .int (Int32.ofInt v1), .int (Int32.ofInt v2), .int (Int32.ofInt v3), .int (Int32.ofInt v4), .int (Int32.ofInt v5)] (jz_H J K) (jp_i P)
def l_174_24 (xs : Nat → Int32) (L d : Nat) (J K : jZ) (P : Int → jZ → jZ → Prop) : Prop := jm_W xs L d 174 24 [some (.ref 167), none, none, none, none, none, none] [] (jz_H J K) (jp_i P)
def l_174_86 (xs : Nat → Int32) (L d : Nat) (J K : jZ) (P : Int → jZ → jZ → Prop) : Prop := jm_W xs L d 174 86 [some (.ref 167), none, none, none, none, none, none] [] (jz_H J K) (jp_i P)
def l_174_93 (xs : Nat → Int32) (L d : Nat) (v1 : Int) (v2 : Int) (v3 : Int) (v4 : Int) (v5 : Int) (J K : jZ) (P : Int → jZ → jZ → Prop) : Prop := jm_W xs L d 174 93 [some (.ref 167), some (.int (Int32.ofInt v1)), some (.int (Int32.ofInt v2)), some (.int (Int32.ofInt v3)), some (.int (Int32.ofInt v4)), some (.int (Int32.ofInt v5)), none] [] (jz_H J K) (jp_i P)
def l_174_111 (xs : Nat → Int32) (L d : Nat) (J K : jZ) (P : Int → jZ → jZ → Prop) : Prop := jm_W xs L d 174 111 [some (.ref 167), none, none, none, none, none, none] [] (jz_H J K) (jp_i P)
def l_174_181 (xs : Nat → Int32) (L d : Nat) (J K : jZ) (P : Int → jZ → jZ → Prop) : Prop := jm_W xs L d 174 181 [some (.ref 167), none, none, none, none, none, none] [] (jz_H J K) (jp_i P)
def l_174_191 (xs : Nat → Int32) (L d : Nat) (v1 : Int) (v2 : Int) (v3 : Int) (v4 : Int) (v5 : Int) (v6 : Int) (J K : jZ) (P : Int → jZ → jZ → Prop) : Prop := jm_W xs L d 174 191 [some (.ref 167), some (.int (Int32.ofInt v1)), some (.int (Int32.ofInt v2)), some (.int (Int32.ofInt v3)), some (.int (Int32.ofInt v4)), some (.int (Int32.ofInt v5)), some (.int (Int32.ofInt v6))] [] (jz_H J K) (jp_i P)
def l_174_225 (xs : Nat → Int32) (L d : Nat) (v2 : Int) (v4 : Int) (v5 : Int) (v6 : Int) (J K : jZ) (P : Int → jZ → jZ → Prop) : Prop := jm_W xs L d 174 225 [some (.ref 167), none, some (.int (Int32.ofInt v2)), none, some (.int (Int32.ofInt v4)), some (.int (Int32.ofInt v5)), some (.int (Int32.ofInt v6))] [] (jz_H J K) (jp_i P)
def q_175 (xs : Nat → Int32) (L d : Nat) (v1 : Int) (v2 : Int) (J K : jZ) (P : Int → jZ → jZ → Prop) : Prop := jm_Q xs L d 175 [.ref 167, .int (Int32.ofInt v1), .int (Int32.ofInt v2)] (jz_H J K) (jp_l P)
def q_176 (xs : Nat → Int32) (L d : Nat) (v1 : Int) (J K : jZ) (P : Int → jZ → jZ → Prop) : Prop := jm_Q xs L d 176 [.ref 167, .int (Int32.ofInt v1)] (jz_H J K) (jp_i P)
def q_177 (xs : Nat → Int32) (L d : Nat) (v1 : Int) (v2 : Int) (J K : jZ) (P : Int → jZ → jZ → Prop) : Prop := jm_Q xs L d 177 [.ref 167, .int (Int32.ofInt v1), .int (Int32.ofInt v2)] (jz_H J K) (jp_i P)
def q_178 (xs : Nat → Int32) (L d : Nat) (v1 : Int) (J K : jZ) (P : Int → jZ → jZ → Prop) : Prop := jm_Q xs L d 178 [.ref 167, .int (Int32.ofInt v1)] (jz_H J K) (jp_i P)
def q_179 (xs : Nat → Int32) (L d : Nat) (v1 : Int) (v2 : Int) (J K : jZ) (P : Int → jZ → jZ → Prop) : Prop := jm_Q xs L d 179 [.ref 167, .int (Int32.ofInt v1), .int (Int32.ofInt v2)] (jz_H J K) (jp_i P)
def l_179_24 (xs : Nat → Int32) (L d : Nat) (J K : jZ) (P : Int → jZ → jZ → Prop) : Prop := jm_W xs L d 179 24 [some (.ref 167), none, none, none, none, none] [] (jz_H J K) (jp_i P)
def l_179_71 (xs : Nat → Int32) (L d : Nat) (J K : jZ) (P : Int → jZ → jZ → Prop) : Prop := jm_W xs L d 179 71 [some (.ref 167), none, none, none, none, none] [] (jz_H J K) (jp_i P)
def l_179_78 (xs : Nat → Int32) (L d : Nat) (v1 : Int) (v2 : Int) (v3 : Int) (J K : jZ) (P : Int → jZ → jZ → Prop) : Prop := jm_W xs L d 179 78 [some (.ref 167), some (.int (Int32.ofInt v1)), some (.int (Int32.ofInt v2)), some (.int (Int32.ofInt v3)), none, none] [] (jz_H J K) (jp_i P)
def q_180 (xs : Nat → Int32) (L d : Nat) (v0 : Int) (v1 : Int) (J K : jZ) (P : Int → jZ → jZ → Prop) : Prop := jm_Q xs L d 180 [.int (Int32.ofInt v0), .int (Int32.ofInt v1)] (jz_H J K) (jp_i P)
def q_181 (xs : Nat → Int32) (L d : Nat) (J K : jZ) (P : jZ → jZ → Prop) : Prop := jm_Q xs L d 181 [.ref 167] (jz_H J K) (jp_v P)
def q_182 (xs : Nat → Int32) (L d : Nat) (J K : jZ) (P : jZ → jZ → Prop) : Prop := jm_Q xs L d 182 [.ref 167] (jz_H J K) (jp_v P)
def l_182_6 (xs : Nat → Int32) (L d : Nat) (v1 : Int) (J K : jZ) (P : jZ → jZ → Prop) : Prop := jm_W xs L d 182 6 [some (.ref 167), some (.int (Int32.ofInt v1)), none] [] (jz_H J K) (jp_v P)
def q_183 (xs : Nat → Int32) (L d : Nat) (J K : jZ) (P : jZ → jZ → Prop) : Prop := jm_Q xs L d 183 [.ref 167] (jz_H J K) (jp_v P)
def l_183_2 (xs : Nat → Int32) (L d : Nat) (v1 : Int) (J K : jZ) (P : jZ → jZ → Prop) : Prop := jm_W xs L d 183 2 [some (.ref 167), some (.int (Int32.ofInt v1)), none] [] (jz_H J K) (jp_v P)
def q_184 (xs : Nat → Int32) (L d : Nat) (v1 : Int) (J K : jZ) (P : jZ → jZ → Prop) : Prop := jm_Q xs L d 184 [.ref 167, .int (Int32.ofInt v1)] (jz_H J K) (jp_v P)
def l_184_57 (xs : Nat → Int32) (L d : Nat) (v1 : Int) (v2 : Int) (v3 : Int) (J K : jZ) (P : jZ → jZ → Prop) : Prop := jm_W xs L d 184 57 [some (.ref 167), some (.int (Int32.ofInt v1)), some (.int (Int32.ofInt v2)), some (.int (Int32.ofInt v3)), none, none] [] (jz_H J K) (jp_v P)
def l_184_73 (xs : Nat → Int32) (L d : Nat) (v1 : Int) (v2 : Int) (v3 : Int) (v4 : Int) (v5 : Int) (J K : jZ) (P : jZ → jZ → Prop) : Prop := jm_W xs L d 184 73 [some (.ref 167), some (.int (Int32.ofInt v1)), some (.int (Int32.ofInt v2)), some (.int (Int32.ofInt v3)), some (.int (Int32.ofInt v4)), some (.int (Int32.ofInt v5))] [] (jz_H J K) (jp_v P)
def l_184_137 (xs : Nat → Int32) (L d : Nat) (v1 : Int) (v2 : Int) (v3 : Int) (J K : jZ) (P : jZ → jZ → Prop) : Prop := jm_W xs L d 184 137 [some (.ref 167), some (.int (Int32.ofInt v1)), some (.int (Int32.ofInt v2)), some (.int (Int32.ofInt v3)), none, none] [] (jz_H J K) (jp_v P)
def q_185 (xs : Nat → Int32) (L d : Nat) (J K : jZ) (P : jZ → jZ → Prop) : Prop := jm_Q xs L d 185 [.ref 167] (jz_H J K) (jp_v P)
def l_185_2 (xs : Nat → Int32) (L d : Nat) (v1 : Int) (J K : jZ) (P : jZ → jZ → Prop) : Prop := jm_W xs L d 185 2 [some (.ref 167), some (.int (Int32.ofInt v1))] [] (jz_H J K) (jp_v P)
def q_186 (xs : Nat → Int32) (L d : Nat) (v1 : Int) (v2 : Int) (J K : jZ) (P : jZ → jZ → Prop) : Prop := jm_Q xs L d 186 [.ref 167, .int (Int32.ofInt v1), .int (Int32.ofInt v2)] (jz_H J K) (jp_v P)
def q_187 (xs : Nat → Int32) (L d : Nat) (v1 : Int) (J K : jZ) (P : jZ → jZ → Prop) : Prop := jm_Q xs L d 187 [.ref 167, .int (Int32.ofInt v1)] (jz_H J K) (jp_v P)
def l_187_6 (xs : Nat → Int32) (L d : Nat) (v1 : Int) (v2 : Int) (v3 : Int) (J K : jZ) (P : jZ → jZ → Prop) : Prop := jm_W xs L d 187 6 [some (.ref 167), some (.int (Int32.ofInt v1)), some (.int (Int32.ofInt v2)), some (.int (Int32.ofInt v3))] [] (jz_H J K) (jp_v P)
def l_187_62 (xs : Nat → Int32) (L d : Nat) (v1 : Int) (v3 : Int) (J K : jZ) (P : jZ → jZ → Prop) : Prop := jm_W xs L d 187 62 [some (.ref 167), some (.int (Int32.ofInt v1)), none, some (.int (Int32.ofInt v3))] [] (jz_H J K) (jp_v P)
def q_188 (xs : Nat → Int32) (L d : Nat) (v1 : Int) (J K : jZ) (P : jZ → jZ → Prop) : Prop := jm_Q xs L d 188 [.ref 167, .int (Int32.ofInt v1)] (jz_H J K) (jp_v P)
def l_188_18 (xs : Nat → Int32) (L d : Nat) (v1 : Int) (v2 : Int) (v3 : Int) (v4 : Int) (J K : jZ) (P : jZ → jZ → Prop) : Prop := jm_W xs L d 188 18 [some (.ref 167), some (.int (Int32.ofInt v1)), some (.int (Int32.ofInt v2)), some (.int (Int32.ofInt v3)), some (.int (Int32.ofInt v4))] [] (jz_H J K) (jp_v P)
def q_189 (xs : Nat → Int32) (L d : Nat) (v1 : Int) (v2 : Int) (J K : jZ) (P : Int → jZ → jZ → Prop) : Prop := jm_Q xs L d 189 [.ref 167, .int (Int32.ofInt v1), .int (Int32.ofInt v2)] (jz_H J K) (jp_i P)
def q_190 (xs : Nat → Int32) (L d : Nat) (v1 : Int) (J K : jZ) (P : jZ → jZ → Prop) : Prop := jm_Q xs L d 190 [.ref 167, .int (Int32.ofInt v1)] (jz_H J K) (jp_v P)
def l_190_15 (xs : Nat → Int32) (L d : Nat) (v1 : Int) (v2 : Int) (v3 : Int) (J K : jZ) (P : jZ → jZ → Prop) : Prop := jm_W xs L d 190 15 [some (.ref 167), some (.int (Int32.ofInt v1)), some (.int (Int32.ofInt v2)), some (.int (Int32.ofInt v3))] [] (jz_H J K) (jp_v P)
def q_191 (xs : Nat → Int32) (L d : Nat) (v1 : Int) (v2 : Int) (J K : jZ) (P : Int → jZ → jZ → Prop) : Prop := jm_Q xs L d 191 [.ref 167, .int (Int32.ofInt v1), .int (Int32.ofInt v2)] (jz_H J K) (jp_i P)
def q_192 (xs : Nat → Int32) (L d : Nat) (v1 : Int) (v2 : Int) (J K : jZ) (P : Int → jZ → jZ → Prop) : Prop := jm_Q xs L d 192 [.ref 167, .int (Int32.ofInt v1), .int (Int32.ofInt v2)] (jz_H J K) (jp_i P)
def q_193 (xs : Nat → Int32) (L d : Nat) (v1 : Int) (J K : jZ) (P : jZ → jZ → Prop) : Prop := jm_Q xs L d 193 [.ref 167, .int (Int32.ofInt v1)] (jz_H J K) (jp_v P)
def l_193_122 (xs : Nat → Int32) (L d : Nat) (v1 : Int) (J K : jZ) (P : jZ → jZ → Prop) : Prop := jm_W xs L d 193 122 [some (.ref 167), some (.int (Int32.ofInt v1)), none, none, none, none] [] (jz_H J K) (jp_v P)
def q_194 (xs : Nat → Int32) (L d : Nat) (v1 : Int) (v2 : Int) (v3 : Int) (v4 : Int) (J K : jZ) (P : jZ → jZ → Prop) : Prop := jm_Q xs L d 194 [.ref 167, .int (Int32.ofInt v1), .int (Int32.ofInt v2), .int (Int32.ofInt v3), .int (Int32.ofInt v4)] (jz_H J K) (jp_v P)
def q_195 (xs : Nat → Int32) (L d : Nat) (v1 : Int) (J K : jZ) (P : jZ → jZ → Prop) : Prop := jm_Q xs L d 195 [.ref 167, .int (Int32.ofInt v1)] (jz_H J K) (jp_v P)
def l_195_2 (xs : Nat → Int32) (L d : Nat) (v1 : Int) (v2 : Int) (J K : jZ) (P : jZ → jZ → Prop) : Prop := jm_W xs L d 195 2 [some (.ref 167), some (.int (Int32.ofInt v1)), some (.int (Int32.ofInt v2))] [] (jz_H J K) (jp_v P)
def q_196 (xs : Nat → Int32) (L d : Nat) (v1 : Int) (v2 : Int) (v3 : Int) (J K : jZ) (P : jZ → jZ → Prop) : Prop := jm_Q xs L d 196 [.ref 167, .int (Int32.ofInt v1), .int (Int32.ofInt v2), .int (Int32.ofInt v3)] (jz_H J K) (jp_v P)
def l_196_3 (xs : Nat → Int32) (L d : Nat) (v1 : Int) (v2 : Int) (v3 : Int) (v4 : Int) (J K : jZ) (P : jZ → jZ → Prop) : Prop := jm_W xs L d 196 3 [some (.ref 167), some (.int (Int32.ofInt v1)), some (.int (Int32.ofInt v2)), some (.int (Int32.ofInt v3)), some (.int (Int32.ofInt v4)), none, none, none] [] (jz_H J K) (jp_v P)
def l_196_17 (xs : Nat → Int32) (L d : Nat) (v1 : Int) (v2 : Int) (v3 : Int) (v4 : Int) (v5 : Int) (J K : jZ) (P : jZ → jZ → Prop) : Prop := jm_W xs L d 196 17 [some (.ref 167), some (.int (Int32.ofInt v1)), some (.int (Int32.ofInt v2)), some (.int (Int32.ofInt v3)), some (.int (Int32.ofInt v4)), some (.int (Int32.ofInt v5)), none, none] [] (jz_H J K) (jp_v P)
def l_196_64 (xs : Nat → Int32) (L d : Nat) (v1 : Int) (v2 : Int) (v3 : Int) (v4 : Int) (v5 : Int) (v6 : Int) (J K : jZ) (P : jZ → jZ → Prop) : Prop := jm_W xs L d 196 64 [some (.ref 167), some (.int (Int32.ofInt v1)), some (.int (Int32.ofInt v2)), some (.int (Int32.ofInt v3)), some (.int (Int32.ofInt v4)), some (.int (Int32.ofInt v5)), some (.int (Int32.ofInt v6)), none] [] (jz_H J K) (jp_v P)
def l_196_100 (xs : Nat → Int32) (L d : Nat) (v1 : Int) (v2 : Int) (v3 : Int) (v4 : Int) (v5 : Int) (v6 : Int) (v7 : Int) (J K : jZ) (P : jZ → jZ → Prop) : Prop := jm_W xs L d 196 100 [some (.ref 167), some (.int (Int32.ofInt v1)), some (.int (Int32.ofInt v2)), some (.int (Int32.ofInt v3)), some (.int (Int32.ofInt v4)), some (.int (Int32.ofInt v5)), some (.int (Int32.ofInt v6)), some (.int (Int32.ofInt v7))] [] (jz_H J K) (jp_v P)
def l_196_151 (xs : Nat → Int32) (L d : Nat) (v1 : Int) (v2 : Int) (v3 : Int) (v4 : Int) (v5 : Int) (J K : jZ) (P : jZ → jZ → Prop) : Prop := jm_W xs L d 196 151 [some (.ref 167), some (.int (Int32.ofInt v1)), some (.int (Int32.ofInt v2)), some (.int (Int32.ofInt v3)), some (.int (Int32.ofInt v4)), some (.int (Int32.ofInt v5)), none, none] [] (jz_H J K) (jp_v P)
def q_197 (xs : Nat → Int32) (L d : Nat) (v1 : Int) (v2 : Int) (v3 : Int) (J K : jZ) (P : jZ → jZ → Prop) : Prop := jm_Q xs L d 197 [.ref 167, .int (Int32.ofInt v1), .int (Int32.ofInt v2), .int (Int32.ofInt v3)] (jz_H J K) (jp_v P)
def l_197_3 (xs : Nat → Int32) (L d : Nat) (v1 : Int) (v2 : Int) (v3 : Int) (v4 : Int) (J K : jZ) (P : jZ → jZ → Prop) : Prop := jm_W xs L d 197 3 [some (.ref 167), some (.int (Int32.ofInt v1)), some (.int (Int32.ofInt v2)), some (.int (Int32.ofInt v3)), some (.int (Int32.ofInt v4)), none] [] (jz_H J K) (jp_v P)
def l_197_49 (xs : Nat → Int32) (L d : Nat) (v1 : Int) (v2 : Int) (v3 : Int) (v4 : Int) (v5 : Int) (J K : jZ) (P : jZ → jZ → Prop) : Prop := jm_W xs L d 197 49 [some (.ref 167), some (.int (Int32.ofInt v1)), some (.int (Int32.ofInt v2)), some (.int (Int32.ofInt v3)), some (.int (Int32.ofInt v4)), some (.int (Int32.ofInt v5))] [] (jz_H J K) (jp_v P)
def l_197_88 (xs : Nat → Int32) (L d : Nat) (v1 : Int) (v2 : Int) (v3 : Int) (v4 : Int) (J K : jZ) (P : jZ → jZ → Prop) : Prop := jm_W xs L d 197 88 [some (.ref 167), some (.int (Int32.ofInt v1)), some (.int (Int32.ofInt v2)), some (.int (Int32.ofInt v3)), some (.int (Int32.ofInt v4)), none] [] (jz_H J K) (jp_v P)
def q_198 (xs : Nat → Int32) (L d : Nat) (v1 : Int) (v2 : Int) (v3 : Int) (v4 : Int) (J K : jZ) (P : Int → jZ → jZ → Prop) : Prop := jm_Q xs L d 198 [.ref 167, .int (Int32.ofInt v1), .int (Int32.ofInt v2), .int (Int32.ofInt v3), .int (Int32.ofInt v4)] (jz_H J K) (jp_i P)
def l_198_6 (xs : Nat → Int32) (L d : Nat) (v1 : Int) (v2 : Int) (v3 : Int) (v4 : Int) (v5 : Int) (v6 : Int) (J K : jZ) (P : Int → jZ → jZ → Prop) : Prop := jm_W xs L d 198 6 [some (.ref 167), some (.int (Int32.ofInt v1)), some (.int (Int32.ofInt v2)), some (.int (Int32.ofInt v3)), some (.int (Int32.ofInt v4)), some (.int (Int32.ofInt v5)), some (.int (Int32.ofInt v6))] [] (jz_H J K) (jp_i P)
def q_199 (xs : Nat → Int32) (L d : Nat) (v1 : Int) (v2 : Int) (v3 : Int) (v4 : Int) (J K : jZ) (P : Int → jZ → jZ → Prop) : Prop := jm_Q xs L d 199 [.ref 167, .int (Int32.ofInt v1), .int (Int32.ofInt v2), .int (Int32.ofInt v3), .int (Int32.ofInt v4)] (jz_H J K) (jp_i P)
def q_200 (xs : Nat → Int32) (L d : Nat) (v1 : Int) (J K : jZ) (P : Int → jZ → jZ → Prop) : Prop := jm_Q xs L d 200 [.ref 167, .int (Int32.ofInt v1)] (jz_H J K) (jp_i P)
def q_201 (xs : Nat → Int32) (L d : Nat) (v1 : Int) (J K : jZ) (P : jZ → jZ → Prop) : Prop := jm_Q xs L d 201 [.ref 167, .int (Int32.ofInt v1)] (jz_H J K) (jp_v P)
def q_202 (xs : Nat → Int32) (L d : Nat) (v1 : Int) (J K : jZ) (P : Int → jZ → jZ → Prop) : Prop := jm_Q xs L d 202 [.ref 167, .int (Int32.ofInt v1)] (jz_H J K) (jp_i P)
def q_203 (xs : Nat → Int32) (L d : Nat) (v1 : Int) (v2 : Int) (J K : jZ) (P : Int → jZ → jZ → Prop) : Prop := jm_Q xs L d 203 [.ref 167, .int (Int32.ofInt v1), .int (Int32.ofInt v2)] (jz_H J K) (jp_i P)
def q_204 (xs : Nat → Int32) (L d : Nat) (v1 : Int) (J K : jZ) (P : Int → jZ → jZ → Prop) : Prop := jm_Q xs L d 204 [.ref 167, .int (Int32.ofInt v1)] (jz_H J K) (jp_i P)
def q_205 (xs : Nat → Int32) (L d : Nat) (v1 : Int) (v2 : Int) (v3 : Int) (J K : jZ) (P : Int → jZ → jZ → Prop) : Prop := jm_Q xs L d 205 [.ref 167, .int (Int32.ofInt v1), .int (Int32.ofInt v2), .int (Int32.ofInt v3)] (jz_H J K) (jp_i P)
def q_206 (xs : Nat → Int32) (L d : Nat) (v1 : Int) (J K : jZ) (P : Int → jZ → jZ → Prop) : Prop := jm_Q xs L d 206 [.ref 167, .int (Int32.ofInt v1)] (jz_H J K) (jp_i P)
def q_207 (xs : Nat → Int32) (L d : Nat) (J K : jZ) (P : Int → jZ → jZ → Prop) : Prop := jm_Q xs L d 207 [.ref 167] (jz_H J K) (jp_i P)
def q_208 (xs : Nat → Int32) (L d : Nat) (J K : jZ) (P : Int → jZ → jZ → Prop) : Prop := jm_Q xs L d 208 [.ref 167] (jz_H J K) (jp_i P)
def l_208_58 (xs : Nat → Int32) (L d : Nat) (v2 : Int) (v3 : Int) (v4 : Int) (J K : jZ) (P : Int → jZ → jZ → Prop) : Prop := jm_W xs L d 208 58 [some (.ref 167), none, some (.int (Int32.ofInt v2)), some (.int (Int32.ofInt v3)), some (.int (Int32.ofInt v4))] [] (jz_H J K) (jp_i P)
def l_208_141 (xs : Nat → Int32) (L d : Nat) (v2 : Int) (v3 : Int) (v4 : Int) (J K : jZ) (P : Int → jZ → jZ → Prop) : Prop := jm_W xs L d 208 141 [some (.ref 167), none, some (.int (Int32.ofInt v2)), some (.int (Int32.ofInt v3)), some (.int (Int32.ofInt v4))] [] (jz_H J K) (jp_i P)
def q_209 (xs : Nat → Int32) (L d : Nat) (J K : jZ) (P : Int → jZ → jZ → Prop) : Prop := jm_Q xs L d 209 [.ref 167] (jz_H J K) (jp_i P)
def l_209_27 (xs : Nat → Int32) (L d : Nat) (v1 : Int) (v2 : Int) (v3 : Int) (J K : jZ) (P : Int → jZ → jZ → Prop) : Prop := jm_W xs L d 209 27 [some (.ref 167), some (.int (Int32.ofInt v1)), some (.int (Int32.ofInt v2)), some (.int (Int32.ofInt v3)), none] [] (jz_H J K) (jp_i P)
def l_209_79 (xs : Nat → Int32) (L d : Nat) (v1 : Int) (v2 : Int) (v3 : Int) (v4 : Int) (J K : jZ) (P : Int → jZ → jZ → Prop) : Prop := jm_W xs L d 209 79 [some (.ref 167), some (.int (Int32.ofInt v1)), some (.int (Int32.ofInt v2)), some (.int (Int32.ofInt v3)), some (.int (Int32.ofInt v4))] [] (jz_H J K) (jp_i P)
def l_209_96 (xs : Nat → Int32) (L d : Nat) (v1 : Int) (v2 : Int) (v3 : Int) (v4 : Int) (J K : jZ) (P : Int → jZ → jZ → Prop) : Prop := jm_W xs L d 209 96 [some (.ref 167), some (.int (Int32.ofInt v1)), some (.int (Int32.ofInt v2)), some (.int (Int32.ofInt v3)), some (.int (Int32.ofInt v4))] [] (jz_H J K) (jp_i P)
def l_209_105 (xs : Nat → Int32) (L d : Nat) (v1 : Int) (v2 : Int) (v3 : Int) (v4 : Int) (J K : jZ) (P : Int → jZ → jZ → Prop) : Prop := jm_W xs L d 209 105 [some (.ref 167), some (.int (Int32.ofInt v1)), some (.int (Int32.ofInt v2)), some (.int (Int32.ofInt v3)), some (.int (Int32.ofInt v4))] [] (jz_H J K) (jp_i P)
def q_210 (xs : Nat → Int32) (L d : Nat) (J K : jZ) (P : Int → jZ → jZ → Prop) : Prop := jm_Q xs L d 210 [.ref 167] (jz_H J K) (jp_i P)
def l_210_4 (xs : Nat → Int32) (L d : Nat) (v1 : Int) (v2 : Int) (J K : jZ) (P : Int → jZ → jZ → Prop) : Prop := jm_W xs L d 210 4 [some (.ref 167), some (.int (Int32.ofInt v1)), some (.int (Int32.ofInt v2))] [] (jz_H J K) (jp_i P)
def q_211 (xs : Nat → Int32) (L d : Nat) (J K : jZ) (P : Int → jZ → jZ → Prop) : Prop := jm_Q xs L d 211 [.ref 167] (jz_H J K) (jp_i P)
def q_212 (xs : Nat → Int32) (L d : Nat) (J K : jZ) (P : Int → jZ → jZ → Prop) : Prop := jm_Q xs L d 212 [.ref 167] (jz_H J K) (jp_i P)
def l_212_5 (xs : Nat → Int32) (L d : Nat) (v1 : Int) (J K : jZ) (P : Int → jZ → jZ → Prop) : Prop := jm_W xs L d 212 5 [some (.ref 167), some (.int (Int32.ofInt v1)), none] [] (jz_H J K) (jp_i P)
def q_213 (xs : Nat → Int32) (L d : Nat) (J K : jZ) (P : Int → jZ → jZ → Prop) : Prop := jm_Q xs L d 213 [.ref 167] (jz_H J K) (jp_i P)
def l_213_5 (xs : Nat → Int32) (L d : Nat) (v1 : Int) (J K : jZ) (P : Int → jZ → jZ → Prop) : Prop := jm_W xs L d 213 5 [some (.ref 167), some (.int (Int32.ofInt v1)), none] [] (jz_H J K) (jp_i P)
def q_214 (xs : Nat → Int32) (L d : Nat) (J K : jZ) (P : Int → jZ → jZ → Prop) : Prop := jm_Q xs L d 214 [.ref 167] (jz_H J K) (jp_i P)
def l_214_5 (xs : Nat → Int32) (L d : Nat) (v1 : Int) (J K : jZ) (P : Int → jZ → jZ → Prop) : Prop := jm_W xs L d 214 5 [some (.ref 167), some (.int (Int32.ofInt v1)), none] [] (jz_H J K) (jp_i P)
def q_215 (xs : Nat → Int32) (L d : Nat) (J K : jZ) (P : Int → jZ → jZ → Prop) : Prop := jm_Q xs L d 215 [.ref 167] (jz_H J K) (jp_i P)
def l_215_25 (xs : Nat → Int32) (L d : Nat) (v1 : Int) (v2 : Int) (J K : jZ) (P : Int → jZ → jZ → Prop) : Prop := jm_W xs L d 215 25 [some (.ref 167), some (.int (Int32.ofInt v1)), some (.int (Int32.ofInt v2)), none] [] (jz_H J K) (jp_i P)
def q_216 (xs : Nat → Int32) (L d : Nat) (J K : jZ) (P : Int → jZ → jZ → Prop) : Prop := jm_Q xs L d 216 [.ref 167] (jz_H J K) (jp_i P)
def q_217 (xs : Nat → Int32) (L d : Nat) (J K : jZ) (P : Int → jZ → jZ → Prop) : Prop := jm_Q xs L d 217 [.ref 167] (jz_H J K) (jp_i P)
def l_217_0 (xs : Nat → Int32) (L d : Nat) (J K : jZ) (P : Int → jZ → jZ → Prop) : Prop := jm_W xs L d 217 0 [some (.ref 167)] [] (jz_H J K) (jp_i P)
def q_218 (xs : Nat → Int32) (L d : Nat) (v1 : Int) (v2 : Int) (v3 : Int) (v4 : Int) (v5 : Int) (J K : jZ) (P : Int → jZ → jZ → Prop) : Prop := jm_Q xs L d 218 [.ref 167, .int (Int32.ofInt v1), .int (Int32.ofInt v2), .int (Int32.ofInt v3), .int (Int32.ofInt v4), .int (Int32.ofInt v5)] (jz_H J K) (jp_i P)
def q_219 (xs : Nat → Int32) (L d : Nat) (J K : jZ) (P : Int → jZ → jZ → Prop) : Prop := jm_Q xs L d 219 [.ref 167] (jz_H J K) (jp_i P)
def l_219_4 (xs : Nat → Int32) (L d : Nat) (v1 : Int) (v2 : Int) (J K : jZ) (P : Int → jZ → jZ → Prop) : Prop := jm_W xs L d 219 4 [some (.ref 167), some (.int (Int32.ofInt v1)), some (.int (Int32.ofInt v2))] [] (jz_H J K) (jp_i P)
def l_219_22 (xs : Nat → Int32) (L d : Nat) (v1 : Int) (J K : jZ) (P : Int → jZ → jZ → Prop) : Prop := jm_W xs L d 219 22 [some (.ref 167), some (.int (Int32.ofInt v1)), none] [] (jz_H J K) (jp_i P)
def q_220 (xs : Nat → Int32) (L d : Nat) (v1 : Int) (J K : jZ) (P : Int → jZ → jZ → Prop) : Prop := jm_Q xs L d 220 [.ref 167, .int (Int32.ofInt v1)] (jz_H J K) (jp_i P)
def q_221 (xs : Nat → Int32) (L d : Nat) (v1 : Int) (J K : jZ) (P : jZ → jZ → Prop) : Prop := jm_Q xs L d 221 [.ref 167, .int (Int32.ofInt v1)] (jz_H J K) (jp_v P)
def q_222 (xs : Nat → Int32) (L d : Nat) (v1 : Int) (J K : jZ) (P : Int → jZ → jZ → Prop) : Prop := jm_Q xs L d 222 [.ref 167, .int (Int32.ofInt v1)] (jz_H J K) (jp_i P)
def q_223 (xs : Nat → Int32) (L d : Nat) (J K : jZ) (P : Int → jZ → jZ → Prop) : Prop := jm_Q xs L d 223 [.ref 167] (jz_H J K) (jp_i P)
def q_224 (xs : Nat → Int32) (L d : Nat) (v1 : Int) (v2 : Int) (J K : jZ) (P : Int → jZ → jZ → Prop) : Prop := jm_Q xs L d 224 [.ref 167, .int (Int32.ofInt v1), .int (Int32.ofInt v2)] (jz_H J K) (jp_i P)
def l_224_23 (xs : Nat → Int32) (L d : Nat) (v1 : Int) (v2 : Int) (v3 : Int) (v4 : Int) (J K : jZ) (P : Int → jZ → jZ → Prop) : Prop := jm_W xs L d 224 23 [some (.ref 167), some (.int (Int32.ofInt v1)), some (.int (Int32.ofInt v2)), some (.int (Int32.ofInt v3)), some (.int (Int32.ofInt v4))] [] (jz_H J K) (jp_i P)
def l_224_104 (xs : Nat → Int32) (L d : Nat) (v1 : Int) (v2 : Int) (v3 : Int) (v4 : Int) (J K : jZ) (P : Int → jZ → jZ → Prop) : Prop := jm_W xs L d 224 104 [some (.ref 167), some (.int (Int32.ofInt v1)), some (.int (Int32.ofInt v2)), some (.int (Int32.ofInt v3)), some (.int (Int32.ofInt v4))] [] (jz_H J K) (jp_i P)
def l_224_135 (xs : Nat → Int32) (L d : Nat) (v3 : Int) (J K : jZ) (P : Int → jZ → jZ → Prop) : Prop := jm_W xs L d 224 135 [some (.ref 167), none, none, some (.int (Int32.ofInt v3)), none] [] (jz_H J K) (jp_i P)
def q_225 (xs : Nat → Int32) (L d : Nat) (v0 : Int) (J K : jZ) (P : Int → jZ → jZ → Prop) : Prop := jm_Q xs L d 225 [.int (Int32.ofInt v0)] (jz_H J K) (jp_i P)
def q_226 (xs : Nat → Int32) (L d : Nat) (v1 : Int) (J K : jZ) (P : Int → jZ → jZ → Prop) : Prop := jm_Q xs L d 226 [.ref 167, .int (Int32.ofInt v1)] (jz_H J K) (jp_i P)
def q_227 (xs : Nat → Int32) (L d : Nat) (v1 : Int) (v2 : Int) (v3 : Int) (v4 : Int) (v5 : Int) (J K : jZ) (P : Int → jZ → jZ → Prop) : Prop := jm_Q xs L d 227 [.ref 167, .int (Int32.ofInt v1), .int (Int32.ofInt v2), .int (Int32.ofInt v3), .int (Int32.ofInt v4), .int (Int32.ofInt v5)] (jz_H J K) (jp_i P)
def q_228 (xs : Nat → Int32) (L d : Nat) (v1 : Int) (v2 : Int) (J K : jZ) (P : Int → jZ → jZ → Prop) : Prop := jm_Q xs L d 228 [.ref 167, .int (Int32.ofInt v1), .int (Int32.ofInt v2)] (jz_H J K) (jp_i P)
def l_228_49 (xs : Nat → Int32) (L d : Nat) (v1 : Int) (v2 : Int) (v4 : Int) (J K : jZ) (P : Int → jZ → jZ → Prop) : Prop := jm_W xs L d 228 49 [some (.ref 167), some (.int (Int32.ofInt v1)), some (.int (Int32.ofInt v2)), none, some (.int (Int32.ofInt v4))] [] (jz_H J K) (jp_i P)
def q_229 (xs : Nat → Int32) (L d : Nat) (v1 : Int) (v2 : Int) (J K : jZ) (P : Int → jZ → jZ → Prop) : Prop := jm_Q xs L d 229 [.ref 167, .int (Int32.ofInt v1), .int (Int32.ofInt v2)] (jz_H J K) (jp_i P)
def q_230 (xs : Nat → Int32) (L d : Nat) (v1 : Int) (v2 : Int) (v3 : Int) (J K : jZ) (P : Int → jZ → jZ → Prop) : Prop := jm_Q xs L d 230 [.ref 167, .int (Int32.ofInt v1), .int (Int32.ofInt v2), .int (Int32.ofInt v3)] (jz_H J K) (jp_i P)
def q_231 (xs : Nat → Int32) (L d : Nat) (v1 : Int) (J K : jZ) (P : Int → jZ → jZ → Prop) : Prop := jm_Q xs L d 231 [.ref 167, .int (Int32.ofInt v1)] (jz_H J K) (jp_i P)
def q_232 (xs : Nat → Int32) (L d : Nat) (v1 : Int) (v2 : Int) (J K : jZ) (P : Int → jZ → jZ → Prop) : Prop := jm_Q xs L d 232 [.ref 167, .int (Int32.ofInt v1), .int (Int32.ofInt v2)] (jz_H J K) (jp_i P)
def q_233 (xs : Nat → Int32) (L d : Nat) (v1 : Int) (v2 : Int) (v3 : Int) (v4 : Int) (J K : jZ) (P : Int → jZ → jZ → Prop) : Prop := jm_Q xs L d 233 [.ref 167, .int (Int32.ofInt v1), .int (Int32.ofInt v2), .int (Int32.ofInt v3), .int (Int32.ofInt v4)] (jz_H J K) (jp_i P)
def q_234 (xs : Nat → Int32) (L d : Nat) (J K : jZ) (P : Int → jZ → jZ → Prop) : Prop := jm_Q xs L d 234 [.ref 167] (jz_H J K) (jp_i P)
def l_234_26 (xs : Nat → Int32) (L d : Nat) (v1 : Int) (J K : jZ) (P : Int → jZ → jZ → Prop) : Prop := jm_W xs L d 234 26 [some (.ref 167), some (.int (Int32.ofInt v1))] [] (jz_H J K) (jp_i P)
def q_235 (xs : Nat → Int32) (L d : Nat) (v1 : Int) (v2 : Int) (J K : jZ) (P : Int → jZ → jZ → Prop) : Prop := jm_Q xs L d 235 [.ref 167, .int (Int32.ofInt v1), .int (Int32.ofInt v2)] (jz_H J K) (jp_i P)
def l_235_20 (xs : Nat → Int32) (L d : Nat) (J K : jZ) (P : Int → jZ → jZ → Prop) : Prop := jm_W xs L d 235 20 [some (.ref 167), none, none, none] [] (jz_H J K) (jp_i P)
def q_236 (xs : Nat → Int32) (L d : Nat) (J K : jZ) (P : jZ → jZ → Prop) : Prop := jm_Q xs L d 236 [.ref 167] (jz_H J K) (jp_v P)
def l_236_2 (xs : Nat → Int32) (L d : Nat) (v1 : Int) (J K : jZ) (P : jZ → jZ → Prop) : Prop := jm_W xs L d 236 2 [some (.ref 167), some (.int (Int32.ofInt v1)), none, none] [] (jz_H J K) (jp_v P)
def l_236_60 (xs : Nat → Int32) (L d : Nat) (v1 : Int) (v2 : Int) (J K : jZ) (P : jZ → jZ → Prop) : Prop := jm_W xs L d 236 60 [some (.ref 167), some (.int (Int32.ofInt v1)), some (.int (Int32.ofInt v2)), none] [] (jz_H J K) (jp_v P)
def q_237 (xs : Nat → Int32) (L d : Nat) (v1 : Int) (J K : jZ) (P : Int → jZ → jZ → Prop) : Prop := jm_Q xs L d 237 [.ref 167, .int (Int32.ofInt v1)] (jz_H J K) (jp_i P)
def l_237_4 (xs : Nat → Int32) (L d : Nat) (v1 : Int) (v2 : Int) (v3 : Int) (J K : jZ) (P : Int → jZ → jZ → Prop) : Prop := jm_W xs L d 237 4 [some (.ref 167), some (.int (Int32.ofInt v1)), some (.int (Int32.ofInt v2)), some (.int (Int32.ofInt v3))] [] (jz_H J K) (jp_i P)
def q_238 (xs : Nat → Int32) (L d : Nat) (v0 : Int) (J K : jZ) (P : Int → jZ → jZ → Prop) : Prop := jm_Q xs L d 238 [.int (Int32.ofInt v0)] (jz_H J K) (jp_i P)
def q_239 (xs : Nat → Int32) (L d : Nat) (v1 : Int) (v2 : Int) (J K : jZ) (P : Int → jZ → jZ → Prop) : Prop := jm_Q xs L d 239 [.ref 167, .int (Int32.ofInt v1), .int (Int32.ofInt v2)] (jz_H J K) (jp_i P)
def q_240 (xs : Nat → Int32) (L d : Nat) (v1 : Int) (v2 : Int) (J K : jZ) (P : Int → jZ → jZ → Prop) : Prop := jm_Q xs L d 240 [.ref 167, .int (Int32.ofInt v1), .int (Int32.ofInt v2)] (jz_H J K) (jp_i P)
def l_240_5 (xs : Nat → Int32) (L d : Nat) (v1 : Int) (v2 : Int) (v3 : Int) (v4 : Int) (J K : jZ) (P : Int → jZ → jZ → Prop) : Prop := jm_W xs L d 240 5 [some (.ref 167), some (.int (Int32.ofInt v1)), some (.int (Int32.ofInt v2)), some (.int (Int32.ofInt v3)), some (.int (Int32.ofInt v4))] [] (jz_H J K) (jp_i P)
def q_241 (xs : Nat → Int32) (L d : Nat) (v1 : Int) (J K : jZ) (P : Int → jZ → jZ → Prop) : Prop := jm_Q xs L d 241 [.ref 167, .int (Int32.ofInt v1)] (jz_H J K) (jp_i P)
def q_242 (xs : Nat → Int32) (L d : Nat) (v1 : Int) (v2 : Int) (J K : jZ) (P : Int → jZ → jZ → Prop) : Prop := jm_Q xs L d 242 [.ref 167, .int (Int32.ofInt v1), .int (Int32.ofInt v2)] (jz_H J K) (jp_i P)
def q_243 (xs : Nat → Int32) (L d : Nat) (v1 : Int) (v2 : Int) (J K : jZ) (P : Int → jZ → jZ → Prop) : Prop := jm_Q xs L d 243 [.ref 167, .int (Int32.ofInt v1), .int (Int32.ofInt v2)] (jz_H J K) (jp_i P)
def q_244 (xs : Nat → Int32) (L d : Nat) (v1 : Int) (v2 : Int) (v3 : Int) (J K : jZ) (P : Int → jZ → jZ → Prop) : Prop := jm_Q xs L d 244 [.ref 167, .int (Int32.ofInt v1), .int (Int32.ofInt v2), .int (Int32.ofInt v3)] (jz_H J K) (jp_i P)
def l_244_37 (xs : Nat → Int32) (L d : Nat) (v1 : Int) (v2 : Int) (v3 : Int) (v4 : Int) (v5 : Int) (J K : jZ) (P : Int → jZ → jZ → Prop) : Prop := jm_W xs L d 244 37 [some (.ref 167), some (.int (Int32.ofInt v1)), some (.int (Int32.ofInt v2)), some (.int (Int32.ofInt v3)), some (.int (Int32.ofInt v4)), some (.int (Int32.ofInt v5)), none, none] [] (jz_H J K) (jp_i P)
def l_244_57 (xs : Nat → Int32) (L d : Nat) (v1 : Int) (v2 : Int) (v3 : Int) (v4 : Int) (v5 : Int) (J K : jZ) (P : Int → jZ → jZ → Prop) : Prop := jm_W xs L d 244 57 [some (.ref 167), some (.int (Int32.ofInt v1)), some (.int (Int32.ofInt v2)), some (.int (Int32.ofInt v3)), some (.int (Int32.ofInt v4)), some (.int (Int32.ofInt v5)), none, none] [] (jz_H J K) (jp_i P)
def l_244_76 (xs : Nat → Int32) (L d : Nat) (v1 : Int) (v2 : Int) (v3 : Int) (v4 : Int) (v5 : Int) (v6 : Int) (J K : jZ) (P : Int → jZ → jZ → Prop) : Prop := jm_W xs L d 244 76 [some (.ref 167), some (.int (Int32.ofInt v1)), some (.int (Int32.ofInt v2)), some (.int (Int32.ofInt v3)), some (.int (Int32.ofInt v4)), some (.int (Int32.ofInt v5)), some (.int (Int32.ofInt v6)), none] [] (jz_H J K) (jp_i P)
def l_244_108 (xs : Nat → Int32) (L d : Nat) (v1 : Int) (v2 : Int) (v3 : Int) (v4 : Int) (v5 : Int) (v7 : Int) (J K : jZ) (P : Int → jZ → jZ → Prop) : Prop := jm_W xs L d 244 108 [some (.ref 167), some (.int (Int32.ofInt v1)), some (.int (Int32.ofInt v2)), some (.int (Int32.ofInt v3)), some (.int (Int32.ofInt v4)), some (.int (Int32.ofInt v5)), none, some (.int (Int32.ofInt v7))] [] (jz_H J K) (jp_i P)
def l_244_124 (xs : Nat → Int32) (L d : Nat) (v1 : Int) (v2 : Int) (v3 : Int) (v5 : Int) (J K : jZ) (P : Int → jZ → jZ → Prop) : Prop := jm_W xs L d 244 124 [some (.ref 167), some (.int (Int32.ofInt v1)), some (.int (Int32.ofInt v2)), some (.int (Int32.ofInt v3)), none, some (.int (Int32.ofInt v5)), none, none] [] (jz_H J K) (jp_i P)
def l_244_129 (xs : Nat → Int32) (L d : Nat) (v1 : Int) (v2 : Int) (v3 : Int) (v4 : Int) (v5 : Int) (J K : jZ) (P : Int → jZ → jZ → Prop) : Prop := jm_W xs L d 244 129 [some (.ref 167), some (.int (Int32.ofInt v1)), some (.int (Int32.ofInt v2)), some (.int (Int32.ofInt v3)), some (.int (Int32.ofInt v4)), some (.int (Int32.ofInt v5)), none, none] [] (jz_H J K) (jp_i P)
def l_244_133 (xs : Nat → Int32) (L d : Nat) (v1 : Int) (v2 : Int) (v3 : Int) (v4 : Int) (v5 : Int) (J K : jZ) (P : Int → jZ → jZ → Prop) : Prop := jm_W xs L d 244 133 [some (.ref 167), some (.int (Int32.ofInt v1)), some (.int (Int32.ofInt v2)), some (.int (Int32.ofInt v3)), some (.int (Int32.ofInt v4)), some (.int (Int32.ofInt v5)), none, none] [] (jz_H J K) (jp_i P)
def q_245 (xs : Nat → Int32) (L d : Nat) (v1 : Int) (v2 : Int) (J K : jZ) (P : Int → jZ → jZ → Prop) : Prop := jm_Q xs L d 245 [.ref 167, .int (Int32.ofInt v1), .int (Int32.ofInt v2)] (jz_H J K) (jp_i P)
def q_246 (xs : Nat → Int32) (L d : Nat) (v1 : Int) (v2 : Int) (J K : jZ) (P : Int → jZ → jZ → Prop) : Prop := jm_Q xs L d 246 [.ref 167, .int (Int32.ofInt v1), .int (Int32.ofInt v2)] (jz_H J K) (jp_i P)
def l_246_5 (xs : Nat → Int32) (L d : Nat) (v1 : Int) (v2 : Int) (v3 : Int) (v4 : Int) (J K : jZ) (P : Int → jZ → jZ → Prop) : Prop := jm_W xs L d 246 5 [some (.ref 167), some (.int (Int32.ofInt v1)), some (.int (Int32.ofInt v2)), some (.int (Int32.ofInt v3)), some (.int (Int32.ofInt v4))] [] (jz_H J K) (jp_i P)
def q_247 (xs : Nat → Int32) (L d : Nat) (v1 : Int) (J K : jZ) (P : Int → jZ → jZ → Prop) : Prop := jm_Q xs L d 247 [.ref 167, .int (Int32.ofInt v1)] (jz_H J K) (jp_i P)
def l_247_23 (xs : Nat → Int32) (L d : Nat) (v1 : Int) (v2 : Int) (v3 : Int) (J K : jZ) (P : Int → jZ → jZ → Prop) : Prop := jm_W xs L d 247 23 [some (.ref 167), some (.int (Int32.ofInt v1)), some (.int (Int32.ofInt v2)), some (.int (Int32.ofInt v3)), none] [] (jz_H J K) (jp_i P)
def q_248 (xs : Nat → Int32) (L d : Nat) (v1 : Int) (v2 : Int) (J K : jZ) (P : Int → jZ → jZ → Prop) : Prop := jm_Q xs L d 248 [.ref 167, .int (Int32.ofInt v1), .int (Int32.ofInt v2)] (jz_H J K) (jp_i P)
def l_248_42 (xs : Nat → Int32) (L d : Nat) (v1 : Int) (v2 : Int) (v3 : Int) (v4 : Int) (v5 : Int) (v6 : Int) (J K : jZ) (P : Int → jZ → jZ → Prop) : Prop := jm_W xs L d 248 42 [some (.ref 167), some (.int (Int32.ofInt v1)), some (.int (Int32.ofInt v2)), some (.int (Int32.ofInt v3)), some (.int (Int32.ofInt v4)), some (.int (Int32.ofInt v5)), some (.int (Int32.ofInt v6)), none] [] (jz_H J K) (jp_i P)
def l_248_68 (xs : Nat → Int32) (L d : Nat) (v1 : Int) (v2 : Int) (v3 : Int) (v4 : Int) (v5 : Int) (v6 : Int) (v7 : Int) (J K : jZ) (P : Int → jZ → jZ → Prop) : Prop := jm_W xs L d 248 68 [some (.ref 167), some (.int (Int32.ofInt v1)), some (.int (Int32.ofInt v2)), some (.int (Int32.ofInt v3)), some (.int (Int32.ofInt v4)), some (.int (Int32.ofInt v5)), some (.int (Int32.ofInt v6)), some (.int (Int32.ofInt v7))] [] (jz_H J K) (jp_i P)
def l_248_96 (xs : Nat → Int32) (L d : Nat) (v1 : Int) (v2 : Int) (v3 : Int) (v4 : Int) (v5 : Int) (v6 : Int) (J K : jZ) (P : Int → jZ → jZ → Prop) : Prop := jm_W xs L d 248 96 [some (.ref 167), some (.int (Int32.ofInt v1)), some (.int (Int32.ofInt v2)), some (.int (Int32.ofInt v3)), some (.int (Int32.ofInt v4)), some (.int (Int32.ofInt v5)), some (.int (Int32.ofInt v6)), none] [] (jz_H J K) (jp_i P)
def l_248_112 (xs : Nat → Int32) (L d : Nat) (v1 : Int) (v2 : Int) (v3 : Int) (v4 : Int) (v5 : Int) (v6 : Int) (J K : jZ) (P : Int → jZ → jZ → Prop) : Prop := jm_W xs L d 248 112 [some (.ref 167), some (.int (Int32.ofInt v1)), some (.int (Int32.ofInt v2)), some (.int (Int32.ofInt v3)), some (.int (Int32.ofInt v4)), some (.int (Int32.ofInt v5)), some (.int (Int32.ofInt v6)), none] [] (jz_H J K) (jp_i P)
def q_249 (xs : Nat → Int32) (L d : Nat) (v1 : Int) (v2 : Int) (J K : jZ) (P : Int → jZ → jZ → Prop) : Prop := jm_Q xs L d 249 [.ref 167, .int (Int32.ofInt v1), .int (Int32.ofInt v2)] (jz_H J K) (jp_i P)
def l_249_36 (xs : Nat → Int32) (L d : Nat) (v1 : Int) (v2 : Int) (v3 : Int) (v4 : Int) (J K : jZ) (P : Int → jZ → jZ → Prop) : Prop := jm_W xs L d 249 36 [some (.ref 167), some (.int (Int32.ofInt v1)), some (.int (Int32.ofInt v2)), some (.int (Int32.ofInt v3)), some (.int (Int32.ofInt v4)), none] [] (jz_H J K) (jp_i P)
def l_249_92 (xs : Nat → Int32) (L d : Nat) (v1 : Int) (v2 : Int) (v4 : Int) (v5 : Int) (J K : jZ) (P : Int → jZ → jZ → Prop) : Prop := jm_W xs L d 249 92 [some (.ref 167), some (.int (Int32.ofInt v1)), some (.int (Int32.ofInt v2)), none, some (.int (Int32.ofInt v4)), some (.int (Int32.ofInt v5))] [] (jz_H J K) (jp_i P)
def l_249_97 (xs : Nat → Int32) (L d : Nat) (v1 : Int) (v2 : Int) (v3 : Int) (v4 : Int) (J K : jZ) (P : Int → jZ → jZ → Prop) : Prop := jm_W xs L d 249 97 [some (.ref 167), some (.int (Int32.ofInt v1)), some (.int (Int32.ofInt v2)), some (.int (Int32.ofInt v3)), some (.int (Int32.ofInt v4)), none] [] (jz_H J K) (jp_i P)
def l_249_99 (xs : Nat → Int32) (L d : Nat) (v1 : Int) (v2 : Int) (v3 : Int) (v4 : Int) (J K : jZ) (P : Int → jZ → jZ → Prop) : Prop := jm_W xs L d 249 99 [some (.ref 167), some (.int (Int32.ofInt v1)), some (.int (Int32.ofInt v2)), some (.int (Int32.ofInt v3)), some (.int (Int32.ofInt v4)), none] [] (jz_H J K) (jp_i P)
def q_250 (xs : Nat → Int32) (L d : Nat) (v1 : Int) (v2 : Int) (J K : jZ) (P : Int → jZ → jZ → Prop) : Prop := jm_Q xs L d 250 [.ref 167, .int (Int32.ofInt v1), .int (Int32.ofInt v2)] (jz_H J K) (jp_i P)
def q_251 (xs : Nat → Int32) (L d : Nat) (v1 : Int) (v2 : Int) (J K : jZ) (P : Int → jZ → jZ → Prop) : Prop := jm_Q xs L d 251 [.ref 167, .int (Int32.ofInt v1), .int (Int32.ofInt v2)] (jz_H J K) (jp_i P)
def l_251_32 (xs : Nat → Int32) (L d : Nat) (v1 : Int) (v2 : Int) (v3 : Int) (v4 : Int) (v5 : Int) (J K : jZ) (P : Int → jZ → jZ → Prop) : Prop := jm_W xs L d 251 32 [some (.ref 167), some (.int (Int32.ofInt v1)), some (.int (Int32.ofInt v2)), some (.int (Int32.ofInt v3)), some (.int (Int32.ofInt v4)), some (.int (Int32.ofInt v5))] [] (jz_H J K) (jp_i P)
def q_252 (xs : Nat → Int32) (L d : Nat) (v1 : Int) (v2 : Int) (J K : jZ) (P : Int → jZ → jZ → Prop) : Prop := jm_Q xs L d 252 [.ref 167, .int (Int32.ofInt v1), .int (Int32.ofInt v2)] (jz_H J K) (jp_i P)
def l_252_32 (xs : Nat → Int32) (L d : Nat) (v1 : Int) (v2 : Int) (v3 : Int) (v4 : Int) (v5 : Int) (J K : jZ) (P : Int → jZ → jZ → Prop) : Prop := jm_W xs L d 252 32 [some (.ref 167), some (.int (Int32.ofInt v1)), some (.int (Int32.ofInt v2)), some (.int (Int32.ofInt v3)), some (.int (Int32.ofInt v4)), some (.int (Int32.ofInt v5))] [] (jz_H J K) (jp_i P)
def q_253 (xs : Nat → Int32) (L d : Nat) (v1 : Int) (v2 : Int) (J K : jZ) (P : Int → jZ → jZ → Prop) : Prop := jm_Q xs L d 253 [.ref 167, .int (Int32.ofInt v1), .int (Int32.ofInt v2)] (jz_H J K) (jp_i P)
def q_254 (xs : Nat → Int32) (L d : Nat) (J K : jZ) (P : Int → jZ → jZ → Prop) : Prop := jm_Q xs L d 254 [.ref 167] (jz_H J K) (jp_i P)
def q_255 (xs : Nat → Int32) (L d : Nat) (v1 : Int) (v2 : Int) (J K : jZ) (P : Int → jZ → jZ → Prop) : Prop := jm_Q xs L d 255 [.ref 167, .int (Int32.ofInt v1), .int (Int32.ofInt v2)] (jz_H J K) (jp_i P)
def l_255_5 (xs : Nat → Int32) (L d : Nat) (v1 : Int) (v2 : Int) (v3 : Int) (v4 : Int) (J K : jZ) (P : Int → jZ → jZ → Prop) : Prop := jm_W xs L d 255 5 [some (.ref 167), some (.int (Int32.ofInt v1)), some (.int (Int32.ofInt v2)), some (.int (Int32.ofInt v3)), some (.int (Int32.ofInt v4)), none] [] (jz_H J K) (jp_i P)
def q_256 (xs : Nat → Int32) (L d : Nat) (v1 : Int) (v2 : Int) (J K : jZ) (P : Int → jZ → jZ → Prop) : Prop := jm_Q xs L d 256 [.ref 167, .int (Int32.ofInt v1), .int (Int32.ofInt v2)] (jz_H J K) (jp_i P)
def l_256_43 (xs : Nat → Int32) (L d : Nat) (v1 : Int) (v2 : Int) (v3 : Int) (v4 : Int) (J K : jZ) (P : Int → jZ → jZ → Prop) : Prop := jm_W xs L d 256 43 [some (.ref 167), some (.int (Int32.ofInt v1)), some (.int (Int32.ofInt v2)), some (.int (Int32.ofInt v3)), some (.int (Int32.ofInt v4)), none, none] [] (jz_H J K) (jp_i P)
def l_256_72 (xs : Nat → Int32) (L d : Nat) (v2 : Int) (v3 : Int) (v4 : Int) (J K : jZ) (P : Int → jZ → jZ → Prop) : Prop := jm_W xs L d 256 72 [some (.ref 167), none, some (.int (Int32.ofInt v2)), some (.int (Int32.ofInt v3)), some (.int (Int32.ofInt v4)), none, none] [] (jz_H J K) (jp_i P)
def l_256_84 (xs : Nat → Int32) (L d : Nat) (v2 : Int) (v3 : Int) (v4 : Int) (v5 : Int) (v6 : Int) (J K : jZ) (P : Int → jZ → jZ → Prop) : Prop := jm_W xs L d 256 84 [some (.ref 167), none, some (.int (Int32.ofInt v2)), some (.int (Int32.ofInt v3)), some (.int (Int32.ofInt v4)), some (.int (Int32.ofInt v5)), some (.int (Int32.ofInt v6))] [] (jz_H J K) (jp_i P)
def q_257 (xs : Nat → Int32) (L d : Nat) (v1 : Int) (v2 : Int) (v3 : Int) (J K : jZ) (P : Int → jZ → jZ → Prop) : Prop := jm_Q xs L d 257 [.ref 167, .int (Int32.ofInt v1), .int (Int32.ofInt v2), .int (Int32.ofInt v3)] (jz_H J K) (jp_i P)
def l_257_50 (xs : Nat → Int32) (L d : Nat) (v1 : Int) (v2 : Int) (v3 : Int) (v4 : Int) (v5 : Int) (v6 : Int) (J K : jZ) (P : Int → jZ → jZ → Prop) : Prop := jm_W xs L d 257 50 [some (.ref 167), some (.int (Int32.ofInt v1)), some (.int (Int32.ofInt v2)), some (.int (Int32.ofInt v3)), some (.int (Int32.ofInt v4)), some (.int (Int32.ofInt v5)), some (.int (Int32.ofInt v6)), none, none] [] (jz_H J K) (jp_i P)
def l_257_66 (xs : Nat → Int32) (L d : Nat) (v1 : Int) (v2 : Int) (v3 : Int) (v4 : Int) (v5 : Int) (v6 : Int) (J K : jZ) (P : Int → jZ → jZ → Prop) : Prop := jm_W xs L d 257 66 [some (.ref 167), some (.int (Int32.ofInt v1)), some (.int (Int32.ofInt v2)), some (.int (Int32.ofInt v3)), some (.int (Int32.ofInt v4)), some (.int (Int32.ofInt v5)), some (.int (Int32.ofInt v6)), none, none] [] (jz_H J K) (jp_i P)
def l_257_72 (xs : Nat → Int32) (L d : Nat) (v1 : Int) (v2 : Int) (v3 : Int) (v4 : Int) (v5 : Int) (v6 : Int) (v7 : Int) (v8 : Int) (J K : jZ) (P : Int → jZ → jZ → Prop) : Prop := jm_W xs L d 257 72 [some (.ref 167), some (.int (Int32.ofInt v1)), some (.int (Int32.ofInt v2)), some (.int (Int32.ofInt v3)), some (.int (Int32.ofInt v4)), some (.int (Int32.ofInt v5)), some (.int (Int32.ofInt v6)), some (.int (Int32.ofInt v7)), some (.int (Int32.ofInt v8))] [] (jz_H J K) (jp_i P)
def l_257_141 (xs : Nat → Int32) (L d : Nat) (v1 : Int) (v2 : Int) (v3 : Int) (v4 : Int) (v5 : Int) (v6 : Int) (v7 : Int) (J K : jZ) (P : Int → jZ → jZ → Prop) : Prop := jm_W xs L d 257 141 [some (.ref 167), some (.int (Int32.ofInt v1)), some (.int (Int32.ofInt v2)), some (.int (Int32.ofInt v3)), some (.int (Int32.ofInt v4)), some (.int (Int32.ofInt v5)), some (.int (Int32.ofInt v6)), some (.int (Int32.ofInt v7)), none] [] (jz_H J K) (jp_i P)
def l_257_157 (xs : Nat → Int32) (L d : Nat) (v1 : Int) (v2 : Int) (v3 : Int) (v4 : Int) (v5 : Int) (v6 : Int) (J K : jZ) (P : Int → jZ → jZ → Prop) : Prop := jm_W xs L d 257 157 [some (.ref 167), some (.int (Int32.ofInt v1)), some (.int (Int32.ofInt v2)), some (.int (Int32.ofInt v3)), some (.int (Int32.ofInt v4)), some (.int (Int32.ofInt v5)), some (.int (Int32.ofInt v6)), none, none] [] (jz_H J K) (jp_i P)
def q_258 (xs : Nat → Int32) (L d : Nat) (v1 : Int) (v2 : Int) (J K : jZ) (P : Int → jZ → jZ → Prop) : Prop := jm_Q xs L d 258 [.ref 167, .int (Int32.ofInt v1), .int (Int32.ofInt v2)] (jz_H J K) (jp_i P)
def l_258_32 (xs : Nat → Int32) (L d : Nat) (v1 : Int) (v2 : Int) (v3 : Int) (v4 : Int) (J K : jZ) (P : Int → jZ → jZ → Prop) : Prop := jm_W xs L d 258 32 [some (.ref 167), some (.int (Int32.ofInt v1)), some (.int (Int32.ofInt v2)), some (.int (Int32.ofInt v3)), some (.int (Int32.ofInt v4)), none, none, none, none] [] (jz_H J K) (jp_i P)
def l_258_46 (xs : Nat → Int32) (L d : Nat) (v1 : Int) (v2 : Int) (v3 : Int) (v4 : Int) (v5 : Int) (J K : jZ) (P : Int → jZ → jZ → Prop) : Prop := jm_W xs L d 258 46 [some (.ref 167), some (.int (Int32.ofInt v1)), some (.int (Int32.ofInt v2)), some (.int (Int32.ofInt v3)), some (.int (Int32.ofInt v4)), some (.int (Int32.ofInt v5)), none, none, none] [] (jz_H J K) (jp_i P)
def l_258_111 (xs : Nat → Int32) (L d : Nat) (v1 : Int) (v2 : Int) (v3 : Int) (v4 : Int) (v5 : Int) (v8 : Int) (J K : jZ) (P : Int → jZ → jZ → Prop) : Prop := jm_W xs L d 258 111 [some (.ref 167), some (.int (Int32.ofInt v1)), some (.int (Int32.ofInt v2)), some (.int (Int32.ofInt v3)), some (.int (Int32.ofInt v4)), some (.int (Int32.ofInt v5)), none, none, some (.int (Int32.ofInt v8))] [] (jz_H J K) (jp_i P)
def l_258_124 (xs : Nat → Int32) (L d : Nat) (v1 : Int) (v2 : Int) (v3 : Int) (v4 : Int) (v5 : Int) (v8 : Int) (J K : jZ) (P : Int → jZ → jZ → Prop) : Prop := jm_W xs L d 258 124 [some (.ref 167), some (.int (Int32.ofInt v1)), some (.int (Int32.ofInt v2)), some (.int (Int32.ofInt v3)), some (.int (Int32.ofInt v4)), some (.int (Int32.ofInt v5)), none, none, some (.int (Int32.ofInt v8))] [] (jz_H J K) (jp_i P)
def l_258_135 (xs : Nat → Int32) (L d : Nat) (v1 : Int) (v2 : Int) (v4 : Int) (v5 : Int) (v8 : Int) (J K : jZ) (P : Int → jZ → jZ → Prop) : Prop := jm_W xs L d 258 135 [some (.ref 167), some (.int (Int32.ofInt v1)), some (.int (Int32.ofInt v2)), none, some (.int (Int32.ofInt v4)), some (.int (Int32.ofInt v5)), none, none, some (.int (Int32.ofInt v8))] [] (jz_H J K) (jp_i P)
def l_258_142 (xs : Nat → Int32) (L d : Nat) (v1 : Int) (v2 : Int) (v3 : Int) (v4 : Int) (v5 : Int) (J K : jZ) (P : Int → jZ → jZ → Prop) : Prop := jm_W xs L d 258 142 [some (.ref 167), some (.int (Int32.ofInt v1)), some (.int (Int32.ofInt v2)), some (.int (Int32.ofInt v3)), some (.int (Int32.ofInt v4)), some (.int (Int32.ofInt v5)), none, none, none] [] (jz_H J K) (jp_i P)
def q_259 (xs : Nat → Int32) (L d : Nat) (v1 : Int) (v2 : Int) (v3 : Int) (J K : jZ) (P : Int → jZ → jZ → Prop) : Prop := jm_Q xs L d 259 [.ref 167, .int (Int32.ofInt v1), .int (Int32.ofInt v2), .int (Int32.ofInt v3)] (jz_H J K) (jp_i P)
def l_259_45 (xs : Nat → Int32) (L d : Nat) (v1 : Int) (v2 : Int) (v3 : Int) (v4 : Int) (v5 : Int) (J K : jZ) (P : Int → jZ → jZ → Prop) : Prop := jm_W xs L d 259 45 [some (.ref 167), some (.int (Int32.ofInt v1)), some (.int (Int32.ofInt v2)), some (.int (Int32.ofInt v3)), some (.int (Int32.ofInt v4)), some (.int (Int32.ofInt v5)), none] [] (jz_H J K) (jp_i P)
def q_260 (xs : Nat → Int32) (L d : Nat) (v1 : Int) (v2 : Int) (v3 : Int) (J K : jZ) (P : Int → jZ → jZ → Prop) : Prop := jm_Q xs L d 260 [.ref 167, .int (Int32.ofInt v1), .int (Int32.ofInt v2), .int (Int32.ofInt v3)] (jz_H J K) (jp_i P)
def l_260_3 (xs : Nat → Int32) (L d : Nat) (v1 : Int) (v2 : Int) (v3 : Int) (v4 : Int) (J K : jZ) (P : Int → jZ → jZ → Prop) : Prop := jm_W xs L d 260 3 [some (.ref 167), some (.int (Int32.ofInt v1)), some (.int (Int32.ofInt v2)), some (.int (Int32.ofInt v3)), some (.int (Int32.ofInt v4))] [] (jz_H J K) (jp_i P)
def q_261 (xs : Nat → Int32) (L d : Nat) (v1 : Int) (v2 : Int) (J K : jZ) (P : Int → jZ → jZ → Prop) : Prop := jm_Q xs L d 261 [.ref 167, .int (Int32.ofInt v1), .int (Int32.ofInt v2)] (jz_H J K) (jp_i P)
def q_262 (xs : Nat → Int32) (L d : Nat) (v1 : Int) (v2 : Int) (J K : jZ) (P : Int → jZ → jZ → Prop) : Prop := jm_Q xs L d 262 [.ref 167, .int (Int32.ofInt v1), .int (Int32.ofInt v2)] (jz_H J K) (jp_i P)
def l_262_2 (xs : Nat → Int32) (L d : Nat) (v1 : Int) (v2 : Int) (v3 : Int) (J K : jZ) (P : Int → jZ → jZ → Prop) : Prop := jm_W xs L d 262 2 [some (.ref 167), some (.int (Int32.ofInt v1)), some (.int (Int32.ofInt v2)), some (.int (Int32.ofInt v3))] [] (jz_H J K) (jp_i P)
def l_262_43 (xs : Nat → Int32) (L d : Nat) (v1 : Int) (v2 : Int) (v3 : Int) (J K : jZ) (P : Int → jZ → jZ → Prop) : Prop := jm_W xs L d 262 43 [some (.ref 167), some (.int (Int32.ofInt v1)), some (.int (Int32.ofInt v2)), some (.int (Int32.ofInt v3))] [] (jz_H J K) (jp_i P)
def l_262_63 (xs : Nat → Int32) (L d : Nat) (v3 : Int) (J K : jZ) (P : Int → jZ → jZ → Prop) : Prop := jm_W xs L d 262 63 [none, none, none, some (.int (Int32.ofInt v3))] [] (jz_H J K) (jp_i P)
def q_263 (xs : Nat → Int32) (L d : Nat) (v1 : Int) (J K : jZ) (P : Int → jZ → jZ → Prop) : Prop := jm_Q xs L d 263 [.ref 167, .int (Int32.ofInt v1)] (jz_H J K) (jp_i P)
def l_263_21 (xs : Nat → Int32) (L d : Nat) (v1 : Int) (v2 : Int) (J K : jZ) (P : Int → jZ → jZ → Prop) : Prop := jm_W xs L d 263 21 [some (.ref 167), some (.int (Int32.ofInt v1)), some (.int (Int32.ofInt v2))] [] (jz_H J K) (jp_i P)
def q_264 (xs : Nat → Int32) (L d : Nat) (v1 : Int) (J K : jZ) (P : Int → jZ → jZ → Prop) : Prop := jm_Q xs L d 264 [.ref 167, .int (Int32.ofInt v1)] (jz_H J K) (jp_i P)
def l_264_23 (xs : Nat → Int32) (L d : Nat) (v1 : Int) (v2 : Int) (v3 : Int) (J K : jZ) (P : Int → jZ → jZ → Prop) : Prop := jm_W xs L d 264 23 [some (.ref 167), some (.int (Int32.ofInt v1)), some (.int (Int32.ofInt v2)), some (.int (Int32.ofInt v3))] [] (jz_H J K) (jp_i P)
def q_265 (xs : Nat → Int32) (L d : Nat) (v1 : Int) (v2 : Int) (J K : jZ) (P : Int → jZ → jZ → Prop) : Prop := jm_Q xs L d 265 [.ref 167, .int (Int32.ofInt v1), .int (Int32.ofInt v2)] (jz_H J K) (jp_i P)
def l_265_2 (xs : Nat → Int32) (L d : Nat) (v1 : Int) (v2 : Int) (v3 : Int) (J K : jZ) (P : Int → jZ → jZ → Prop) : Prop := jm_W xs L d 265 2 [some (.ref 167), some (.int (Int32.ofInt v1)), some (.int (Int32.ofInt v2)), some (.int (Int32.ofInt v3))] [] (jz_H J K) (jp_i P)
def q_266 (xs : Nat → Int32) (L d : Nat) (v1 : Int) (v2 : Int) (J K : jZ) (P : Int → jZ → jZ → Prop) : Prop := jm_Q xs L d 266 [.ref 167, .int (Int32.ofInt v1), .int (Int32.ofInt v2)] (jz_H J K) (jp_i P)
def l_266_44 (xs : Nat → Int32) (L d : Nat) (v1 : Int) (v2 : Int) (v3 : Int) (v4 : Int) (v5 : Int) (J K : jZ) (P : Int → jZ → jZ → Prop) : Prop := jm_W xs L d 266 44 [some (.ref 167), some (.int (Int32.ofInt v1)), some (.int (Int32.ofInt v2)), some (.int (Int32.ofInt v3)), some (.int (Int32.ofInt v4)), some (.int (Int32.ofInt v5)), none, none] [] (jz_H J K) (jp_i P)
def l_266_118 (xs : Nat → Int32) (L d : Nat) (v1 : Int) (v2 : Int) (v3 : Int) (v4 : Int) (v5 : Int) (v7 : Int) (J K : jZ) (P : Int → jZ → jZ → Prop) : Prop := jm_W xs L d 266 118 [some (.ref 167), some (.int (Int32.ofInt v1)), some (.int (Int32.ofInt v2)), some (.int (Int32.ofInt v3)), some (.int (Int32.ofInt v4)), some (.int (Int32.ofInt v5)), none, some (.int (Int32.ofInt v7))] [] (jz_H J K) (jp_i P)
def q_267 (xs : Nat → Int32) (L d : Nat) (v1 : Int) (v2 : Int) (v3 : Int) (J K : jZ) (P : Int → jZ → jZ → Prop) : Prop := jm_Q xs L d 267 [.ref 167, .int (Int32.ofInt v1), .int (Int32.ofInt v2), .int (Int32.ofInt v3)] (jz_H J K) (jp_i P)
def q_268 (xs : Nat → Int32) (L d : Nat) (v1 : Int) (v2 : Int) (v3 : Int) (J K : jZ) (P : Int → jZ → jZ → Prop) : Prop := jm_Q xs L d 268 [.ref 167, .int (Int32.ofInt v1), .int (Int32.ofInt v2), .int (Int32.ofInt v3)] (jz_H J K) (jp_i P)
def q_269 (xs : Nat → Int32) (L d : Nat) (v1 : Int) (v2 : Int) (J K : jZ) (P : Int → jZ → jZ → Prop) : Prop := jm_Q xs L d 269 [.ref 167, .int (Int32.ofInt v1), .int (Int32.ofInt v2)] (jz_H J K) (jp_i P)
def l_269_31 (xs : Nat → Int32) (L d : Nat) (v1 : Int) (v2 : Int) (v3 : Int) (v4 : Int) (v5 : Int) (J K : jZ) (P : Int → jZ → jZ → Prop) : Prop := jm_W xs L d 269 31 [some (.ref 167), some (.int (Int32.ofInt v1)), some (.int (Int32.ofInt v2)), some (.int (Int32.ofInt v3)), some (.int (Int32.ofInt v4)), some (.int (Int32.ofInt v5)), none] [] (jz_H J K) (jp_i P)
def q_270 (xs : Nat → Int32) (L d : Nat) (v1 : Int) (v2 : Int) (v3 : Int) (v4 : Int) (J K : jZ) (P : Int → jZ → jZ → Prop) : Prop := jm_Q xs L d 270 [.ref 167, .int (Int32.ofInt v1), .int (Int32.ofInt v2), .int (Int32.ofInt v3), .int (Int32.ofInt v4)] (jz_H J K) (jp_i P)
def l_270_77 (xs : Nat → Int32) (L d : Nat) (v1 : Int) (v2 : Int) (v3 : Int) (v4 : Int) (v6 : Int) (v7 : Int) (J K : jZ) (P : Int → jZ → jZ → Prop) : Prop := jm_W xs L d 270 77 [some (.ref 167), some (.int (Int32.ofInt v1)), some (.int (Int32.ofInt v2)), some (.int (Int32.ofInt v3)), some (.int (Int32.ofInt v4)), none, some (.int (Int32.ofInt v6)), some (.int (Int32.ofInt v7))] [] (jz_H J K) (jp_i P)
def q_271 (xs : Nat → Int32) (L d : Nat) (v1 : Int) (v2 : Int) (v3 : Int) (J K : jZ) (P : Int → jZ → jZ → Prop) : Prop := jm_Q xs L d 271 [.ref 167, .int (Int32.ofInt v1), .int (Int32.ofInt v2), .int (Int32.ofInt v3)] (jz_H J K) (jp_i P)
def l_271_3 (xs : Nat → Int32) (L d : Nat) (v1 : Int) (v2 : Int) (v3 : Int) (v4 : Int) (J K : jZ) (P : Int → jZ → jZ → Prop) : Prop := jm_W xs L d 271 3 [some (.ref 167), some (.int (Int32.ofInt v1)), some (.int (Int32.ofInt v2)), some (.int (Int32.ofInt v3)), some (.int (Int32.ofInt v4))] [] (jz_H J K) (jp_i P)
def q_272 (xs : Nat → Int32) (L d : Nat) (v1 : Int) (v2 : Int) (v3 : Int) (J K : jZ) (P : Int → jZ → jZ → Prop) : Prop := jm_Q xs L d 272 [.ref 167, .int (Int32.ofInt v1), .int (Int32.ofInt v2), .int (Int32.ofInt v3)] (jz_H J K) (jp_i P)
def q_273 (xs : Nat → Int32) (L d : Nat) (v1 : Int) (v2 : Int) (v3 : Int) (J K : jZ) (P : Int → jZ → jZ → Prop) : Prop := jm_Q xs L d 273 [.ref 167, .int (Int32.ofInt v1), .int (Int32.ofInt v2), .int (Int32.ofInt v3)] (jz_H J K) (jp_i P)
def l_273_65 (xs : Nat → Int32) (L d : Nat) (v1 : Int) (v2 : Int) (v3 : Int) (v5 : Int) (v6 : Int) (J K : jZ) (P : Int → jZ → jZ → Prop) : Prop := jm_W xs L d 273 65 [some (.ref 167), some (.int (Int32.ofInt v1)), some (.int (Int32.ofInt v2)), some (.int (Int32.ofInt v3)), none, some (.int (Int32.ofInt v5)), some (.int (Int32.ofInt v6))] [] (jz_H J K) (jp_i P)
def l_273_71 (xs : Nat → Int32) (L d : Nat) (v1 : Int) (v2 : Int) (v3 : Int) (v5 : Int) (v6 : Int) (J K : jZ) (P : Int → jZ → jZ → Prop) : Prop := jm_W xs L d 273 71 [some (.ref 167), some (.int (Int32.ofInt v1)), some (.int (Int32.ofInt v2)), some (.int (Int32.ofInt v3)), none, some (.int (Int32.ofInt v5)), some (.int (Int32.ofInt v6))] [] (jz_H J K) (jp_i P)
def l_273_109 (xs : Nat → Int32) (L d : Nat) (v1 : Int) (v2 : Int) (v3 : Int) (v5 : Int) (v6 : Int) (J K : jZ) (P : Int → jZ → jZ → Prop) : Prop := jm_W xs L d 273 109 [some (.ref 167), some (.int (Int32.ofInt v1)), some (.int (Int32.ofInt v2)), some (.int (Int32.ofInt v3)), none, some (.int (Int32.ofInt v5)), some (.int (Int32.ofInt v6))] [] (jz_H J K) (jp_i P)
def q_274 (xs : Nat → Int32) (L d : Nat) (v1 : Int) (v2 : Int) (v3 : Int) (v4 : Int) (J K : jZ) (P : Int → jZ → jZ → Prop) : Prop := jm_Q xs L d 274 [.ref 167, .int (Int32.ofInt v1), .int (Int32.ofInt v2), .int (Int32.ofInt v3), .int (Int32.ofInt v4)] (jz_H J K) (jp_i P)
def l_274_70 (xs : Nat → Int32) (L d : Nat) (v1 : Int) (v2 : Int) (v3 : Int) (v4 : Int) (v6 : Int) (J K : jZ) (P : Int → jZ → jZ → Prop) : Prop := jm_W xs L d 274 70 [some (.ref 167), some (.int (Int32.ofInt v1)), some (.int (Int32.ofInt v2)), some (.int (Int32.ofInt v3)), some (.int (Int32.ofInt v4)), none, some (.int (Int32.ofInt v6)), none, none] [] (jz_H J K) (jp_i P)
def l_274_130 (xs : Nat → Int32) (L d : Nat) (v1 : Int) (v2 : Int) (v3 : Int) (v4 : Int) (v6 : Int) (v7 : Int) (J K : jZ) (P : Int → jZ → jZ → Prop) : Prop := jm_W xs L d 274 130 [some (.ref 167), some (.int (Int32.ofInt v1)), some (.int (Int32.ofInt v2)), some (.int (Int32.ofInt v3)), some (.int (Int32.ofInt v4)), none, some (.int (Int32.ofInt v6)), some (.int (Int32.ofInt v7)), none] [] (jz_H J K) (jp_i P)
def q_275 (xs : Nat → Int32) (L d : Nat) (v1 : Int) (J K : jZ) (P : Int → jZ → jZ → Prop) : Prop := jm_Q xs L d 275 [.ref 167, .int (Int32.ofInt v1)] (jz_H J K) (jp_i P)
def l_275_21 (xs : Nat → Int32) (L d : Nat) (v1 : Int) (v2 : Int) (J K : jZ) (P : Int → jZ → jZ → Prop) : Prop := jm_W xs L d 275 21 [some (.ref 167), some (.int (Int32.ofInt v1)), some (.int (Int32.ofInt v2)), none, none] [] (jz_H J K) (jp_i P)
def l_275_62 (xs : Nat → Int32) (L d : Nat) (v1 : Int) (v2 : Int) (J K : jZ) (P : Int → jZ → jZ → Prop) : Prop := jm_W xs L d 275 62 [some (.ref 167), some (.int (Int32.ofInt v1)), some (.int (Int32.ofInt v2)), none, none] [] (jz_H J K) (jp_i P)
def l_275_122 (xs : Nat → Int32) (L d : Nat) (v1 : Int) (v2 : Int) (J K : jZ) (P : Int → jZ → jZ → Prop) : Prop := jm_W xs L d 275 122 [some (.ref 167), some (.int (Int32.ofInt v1)), some (.int (Int32.ofInt v2)), none, none] [] (jz_H J K) (jp_i P)
def q_276 (xs : Nat → Int32) (L d : Nat) (v1 : Int) (J K : jZ) (P : Int → jZ → jZ → Prop) : Prop := jm_Q xs L d 276 [.ref 167, .int (Int32.ofInt v1)] (jz_H J K) (jp_i P)
def q_277 (xs : Nat → Int32) (L d : Nat) (v1 : Int) (J K : jZ) (P : Int → jZ → jZ → Prop) : Prop := jm_Q xs L d 277 [.ref 167, .int (Int32.ofInt v1)] (jz_H J K) (jp_i P)
def q_278 (xs : Nat → Int32) (L d : Nat) (J K : jZ) (P : Int → jZ → jZ → Prop) : Prop := jm_Q xs L d 278 [.ref 167] (jz_H J K) (jp_i P)
def q_279 (xs : Nat → Int32) (L d : Nat) (v0 : Nat) (v1 : Nat) (J K : jZ) (P : jZ → jZ → Prop) : Prop := jm_Q xs L d 279 [.ref v0, .ref v1] (jz_H J K) (jp_v P)
def l_279_2 (xs : Nat → Int32) (L d : Nat) (v0 : Nat) (v1 : Nat) (v2 : Int) (J K : jZ) (P : jZ → jZ → Prop) : Prop := jm_W xs L d 279 2 [some (.ref v0), some (.ref v1), some (.int (Int32.ofInt v2))] [] (jz_H J K) (jp_v P)
def q_280 (xs : Nat → Int32) (L d : Nat) (J K : jZ) (P : Int → jZ → jZ → Prop) : Prop := jm_Q xs L d 280 [.ref 167] (jz_H J K) (jp_i P)
def l_280_100 (xs : Nat → Int32) (L d : Nat) (v1 : Int) (J K : jZ) (P : Int → jZ → jZ → Prop) : Prop := jm_W xs L d 280 100 [some (.ref 167), some (.int (Int32.ofInt v1))] [] (jz_H J K) (jp_i P)
def q_281 (xs : Nat → Int32) (L d : Nat) (v1 : Int) (J K : jZ) (P : Int → jZ → jZ → Prop) : Prop := jm_Q xs L d 281 [.ref 167, .int (Int32.ofInt v1)] (jz_H J K) (jp_i P)
def l_281_94 (xs : Nat → Int32) (L d : Nat) (v2 : Int) (v3 : Int) (J K : jZ) (P : Int → jZ → jZ → Prop) : Prop := jm_W xs L d 281 94 [some (.ref 167), none, some (.int (Int32.ofInt v2)), some (.int (Int32.ofInt v3))] [] (jz_H J K) (jp_i P)
def l_281_126 (xs : Nat → Int32) (L d : Nat) (v2 : Int) (v3 : Int) (J K : jZ) (P : Int → jZ → jZ → Prop) : Prop := jm_W xs L d 281 126 [some (.ref 167), none, some (.int (Int32.ofInt v2)), some (.int (Int32.ofInt v3))] [] (jz_H J K) (jp_i P)
def l_281_164 (xs : Nat → Int32) (L d : Nat) (v2 : Int) (v3 : Int) (J K : jZ) (P : Int → jZ → jZ → Prop) : Prop := jm_W xs L d 281 164 [some (.ref 167), none, some (.int (Int32.ofInt v2)), some (.int (Int32.ofInt v3))] [] (jz_H J K) (jp_i P)
def q_282 (xs : Nat → Int32) (L d : Nat) (v0 : Int) (J K : jZ) (P : Int → jZ → jZ → Prop) : Prop := jm_Q xs L d 282 [.int (Int32.ofInt v0)] (jz_H J K) (jp_i P)
def l_282_4 (xs : Nat → Int32) (L d : Nat) (v1 : Int) (v2 : Int) (J K : jZ) (P : Int → jZ → jZ → Prop) : Prop := jm_W xs L d 282 4 [none, some (.int (Int32.ofInt v1)), some (.int (Int32.ofInt v2))] [] (jz_H J K) (jp_i P)
