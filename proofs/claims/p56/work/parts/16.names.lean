/-! Cells by their kinds; what a local forgets; the methods' names with integers. -/
theorem jz_lt167 {a : Nat} (h : jz_kd a ≠ 0) : a < 167 := by
  by_cases h1 : a < 167
  · exact h1
  · exfalso
    apply h
    unfold jz_kd
    rw [List.getElem?_eq_none (by have : jm_lay0.length = 167 := by decide +kernel
                                  omega)]
def jz_chk (n : Nat) (f : Nat → Bool) : Bool := (List.range 167).all fun a => !(jz_kd a == n) || f a
theorem jz_chk_use {n : Nat} {f : Nat → Bool} (h : jz_chk n f = true) (hn : n ≠ 0) {a : Nat} (ha : jz_kd a = n) : f a = true := by
  have h1 := List.all_eq_true.mp h a (List.mem_range.mpr (jz_lt167 (by omega)))
  rw [ha] at h1
  simpa using h1

theorem jz_m16 : jz_chk 16 (fun a => (jz_rf a 0 == some (a + 1) && jz_kd (a + 1) == 1 && jz_ln (a + 1) == 60) && (jz_rf a 1 == some (a + 2) && jz_kd (a + 2) == 1 && jz_ln (a + 2) == 60)) = true := by decide +kernel
theorem jzr_16_1 {a : Nat} (h : jz_kd a = 16) : jz_rf a 0 = some (a + 1) := by
  have h0 := jz_chk_use jz_m16 (by decide) h
  simp only [Bool.and_eq_true, beq_iff_eq] at h0
  first | exact h0.1.1 | exact h0.1.2 | (rw [h0.2]; rfl) | exact h0.1.1.1 | exact h0.1.1.2 | (rw [h0.1.2]; rfl) | exact h0.2.1.1 | exact h0.2.1.2 | (rw [h0.2.2]; rfl) | exact h0.1.1.1.1 | exact h0.1.1.1.2 | (rw [h0.1.1.2]; rfl) | exact h0.1.2.1.1 | exact h0.1.2.1.2 | (rw [h0.1.2.2]; rfl)
theorem jzk_16_1 {a : Nat} (h : jz_kd a = 16) : jz_kd (a + 1) = 1 := by
  have h0 := jz_chk_use jz_m16 (by decide) h
  simp only [Bool.and_eq_true, beq_iff_eq] at h0
  first | exact h0.1.1 | exact h0.1.2 | (rw [h0.2]; rfl) | exact h0.1.1.1 | exact h0.1.1.2 | (rw [h0.1.2]; rfl) | exact h0.2.1.1 | exact h0.2.1.2 | (rw [h0.2.2]; rfl) | exact h0.1.1.1.1 | exact h0.1.1.1.2 | (rw [h0.1.1.2]; rfl) | exact h0.1.2.1.1 | exact h0.1.2.1.2 | (rw [h0.1.2.2]; rfl)
theorem jzn_16_1 {a : Nat} (h : jz_kd a = 16) : (jz_ln (a + 1) : Int) = 60 := by
  have h0 := jz_chk_use jz_m16 (by decide) h
  simp only [Bool.and_eq_true, beq_iff_eq] at h0
  first | exact h0.1.1 | exact h0.1.2 | (rw [h0.2]; rfl) | exact h0.1.1.1 | exact h0.1.1.2 | (rw [h0.1.2]; rfl) | exact h0.2.1.1 | exact h0.2.1.2 | (rw [h0.2.2]; rfl) | exact h0.1.1.1.1 | exact h0.1.1.1.2 | (rw [h0.1.1.2]; rfl) | exact h0.1.2.1.1 | exact h0.1.2.1.2 | (rw [h0.1.2.2]; rfl)
theorem jzr_16_2 {a : Nat} (h : jz_kd a = 16) : jz_rf a 1 = some (a + 2) := by
  have h0 := jz_chk_use jz_m16 (by decide) h
  simp only [Bool.and_eq_true, beq_iff_eq] at h0
  first | exact h0.1.1 | exact h0.1.2 | (rw [h0.2]; rfl) | exact h0.1.1.1 | exact h0.1.1.2 | (rw [h0.1.2]; rfl) | exact h0.2.1.1 | exact h0.2.1.2 | (rw [h0.2.2]; rfl) | exact h0.1.1.1.1 | exact h0.1.1.1.2 | (rw [h0.1.1.2]; rfl) | exact h0.1.2.1.1 | exact h0.1.2.1.2 | (rw [h0.1.2.2]; rfl)
theorem jzk_16_2 {a : Nat} (h : jz_kd a = 16) : jz_kd (a + 2) = 1 := by
  have h0 := jz_chk_use jz_m16 (by decide) h
  simp only [Bool.and_eq_true, beq_iff_eq] at h0
  first | exact h0.1.1 | exact h0.1.2 | (rw [h0.2]; rfl) | exact h0.1.1.1 | exact h0.1.1.2 | (rw [h0.1.2]; rfl) | exact h0.2.1.1 | exact h0.2.1.2 | (rw [h0.2.2]; rfl) | exact h0.1.1.1.1 | exact h0.1.1.1.2 | (rw [h0.1.1.2]; rfl) | exact h0.1.2.1.1 | exact h0.1.2.1.2 | (rw [h0.1.2.2]; rfl)
theorem jzn_16_2 {a : Nat} (h : jz_kd a = 16) : (jz_ln (a + 2) : Int) = 60 := by
  have h0 := jz_chk_use jz_m16 (by decide) h
  simp only [Bool.and_eq_true, beq_iff_eq] at h0
  first | exact h0.1.1 | exact h0.1.2 | (rw [h0.2]; rfl) | exact h0.1.1.1 | exact h0.1.1.2 | (rw [h0.1.2]; rfl) | exact h0.2.1.1 | exact h0.2.1.2 | (rw [h0.2.2]; rfl) | exact h0.1.1.1.1 | exact h0.1.1.1.2 | (rw [h0.1.1.2]; rfl) | exact h0.1.2.1.1 | exact h0.1.2.1.2 | (rw [h0.1.2.2]; rfl)
theorem jz_m18 : jz_chk 18 (fun a => (jz_rf a 0 == some (a + 1) && jz_kd (a + 1) == 1 && jz_ln (a + 1) == 60) && (jz_rf a 1 == some (a + 2) && jz_kd (a + 2) == 1 && jz_ln (a + 2) == 60) && (jz_rf a 2 == some (a + 3) && jz_kd (a + 3) == 1 && jz_ln (a + 3) == 16)) = true := by decide +kernel
theorem jzr_18_1 {a : Nat} (h : jz_kd a = 18) : jz_rf a 0 = some (a + 1) := by
  have h0 := jz_chk_use jz_m18 (by decide) h
  simp only [Bool.and_eq_true, beq_iff_eq] at h0
  first | exact h0.1.1 | exact h0.1.2 | (rw [h0.2]; rfl) | exact h0.1.1.1 | exact h0.1.1.2 | (rw [h0.1.2]; rfl) | exact h0.2.1.1 | exact h0.2.1.2 | (rw [h0.2.2]; rfl) | exact h0.1.1.1.1 | exact h0.1.1.1.2 | (rw [h0.1.1.2]; rfl) | exact h0.1.2.1.1 | exact h0.1.2.1.2 | (rw [h0.1.2.2]; rfl)
theorem jzk_18_1 {a : Nat} (h : jz_kd a = 18) : jz_kd (a + 1) = 1 := by
  have h0 := jz_chk_use jz_m18 (by decide) h
  simp only [Bool.and_eq_true, beq_iff_eq] at h0
  first | exact h0.1.1 | exact h0.1.2 | (rw [h0.2]; rfl) | exact h0.1.1.1 | exact h0.1.1.2 | (rw [h0.1.2]; rfl) | exact h0.2.1.1 | exact h0.2.1.2 | (rw [h0.2.2]; rfl) | exact h0.1.1.1.1 | exact h0.1.1.1.2 | (rw [h0.1.1.2]; rfl) | exact h0.1.2.1.1 | exact h0.1.2.1.2 | (rw [h0.1.2.2]; rfl)
theorem jzn_18_1 {a : Nat} (h : jz_kd a = 18) : (jz_ln (a + 1) : Int) = 60 := by
  have h0 := jz_chk_use jz_m18 (by decide) h
  simp only [Bool.and_eq_true, beq_iff_eq] at h0
  first | exact h0.1.1 | exact h0.1.2 | (rw [h0.2]; rfl) | exact h0.1.1.1 | exact h0.1.1.2 | (rw [h0.1.2]; rfl) | exact h0.2.1.1 | exact h0.2.1.2 | (rw [h0.2.2]; rfl) | exact h0.1.1.1.1 | exact h0.1.1.1.2 | (rw [h0.1.1.2]; rfl) | exact h0.1.2.1.1 | exact h0.1.2.1.2 | (rw [h0.1.2.2]; rfl)
theorem jzr_18_2 {a : Nat} (h : jz_kd a = 18) : jz_rf a 1 = some (a + 2) := by
  have h0 := jz_chk_use jz_m18 (by decide) h
  simp only [Bool.and_eq_true, beq_iff_eq] at h0
  first | exact h0.1.1 | exact h0.1.2 | (rw [h0.2]; rfl) | exact h0.1.1.1 | exact h0.1.1.2 | (rw [h0.1.2]; rfl) | exact h0.2.1.1 | exact h0.2.1.2 | (rw [h0.2.2]; rfl) | exact h0.1.1.1.1 | exact h0.1.1.1.2 | (rw [h0.1.1.2]; rfl) | exact h0.1.2.1.1 | exact h0.1.2.1.2 | (rw [h0.1.2.2]; rfl)
theorem jzk_18_2 {a : Nat} (h : jz_kd a = 18) : jz_kd (a + 2) = 1 := by
  have h0 := jz_chk_use jz_m18 (by decide) h
  simp only [Bool.and_eq_true, beq_iff_eq] at h0
  first | exact h0.1.1 | exact h0.1.2 | (rw [h0.2]; rfl) | exact h0.1.1.1 | exact h0.1.1.2 | (rw [h0.1.2]; rfl) | exact h0.2.1.1 | exact h0.2.1.2 | (rw [h0.2.2]; rfl) | exact h0.1.1.1.1 | exact h0.1.1.1.2 | (rw [h0.1.1.2]; rfl) | exact h0.1.2.1.1 | exact h0.1.2.1.2 | (rw [h0.1.2.2]; rfl)
theorem jzn_18_2 {a : Nat} (h : jz_kd a = 18) : (jz_ln (a + 2) : Int) = 60 := by
  have h0 := jz_chk_use jz_m18 (by decide) h
  simp only [Bool.and_eq_true, beq_iff_eq] at h0
  first | exact h0.1.1 | exact h0.1.2 | (rw [h0.2]; rfl) | exact h0.1.1.1 | exact h0.1.1.2 | (rw [h0.1.2]; rfl) | exact h0.2.1.1 | exact h0.2.1.2 | (rw [h0.2.2]; rfl) | exact h0.1.1.1.1 | exact h0.1.1.1.2 | (rw [h0.1.1.2]; rfl) | exact h0.1.2.1.1 | exact h0.1.2.1.2 | (rw [h0.1.2.2]; rfl)
theorem jzr_18_3 {a : Nat} (h : jz_kd a = 18) : jz_rf a 2 = some (a + 3) := by
  have h0 := jz_chk_use jz_m18 (by decide) h
  simp only [Bool.and_eq_true, beq_iff_eq] at h0
  first | exact h0.1.1 | exact h0.1.2 | (rw [h0.2]; rfl) | exact h0.1.1.1 | exact h0.1.1.2 | (rw [h0.1.2]; rfl) | exact h0.2.1.1 | exact h0.2.1.2 | (rw [h0.2.2]; rfl) | exact h0.1.1.1.1 | exact h0.1.1.1.2 | (rw [h0.1.1.2]; rfl) | exact h0.1.2.1.1 | exact h0.1.2.1.2 | (rw [h0.1.2.2]; rfl)
theorem jzk_18_3 {a : Nat} (h : jz_kd a = 18) : jz_kd (a + 3) = 1 := by
  have h0 := jz_chk_use jz_m18 (by decide) h
  simp only [Bool.and_eq_true, beq_iff_eq] at h0
  first | exact h0.1.1 | exact h0.1.2 | (rw [h0.2]; rfl) | exact h0.1.1.1 | exact h0.1.1.2 | (rw [h0.1.2]; rfl) | exact h0.2.1.1 | exact h0.2.1.2 | (rw [h0.2.2]; rfl) | exact h0.1.1.1.1 | exact h0.1.1.1.2 | (rw [h0.1.1.2]; rfl) | exact h0.1.2.1.1 | exact h0.1.2.1.2 | (rw [h0.1.2.2]; rfl)
theorem jzn_18_3 {a : Nat} (h : jz_kd a = 18) : (jz_ln (a + 3) : Int) = 16 := by
  have h0 := jz_chk_use jz_m18 (by decide) h
  simp only [Bool.and_eq_true, beq_iff_eq] at h0
  first | exact h0.1.1 | exact h0.1.2 | (rw [h0.2]; rfl) | exact h0.1.1.1 | exact h0.1.1.2 | (rw [h0.1.2]; rfl) | exact h0.2.1.1 | exact h0.2.1.2 | (rw [h0.2.2]; rfl) | exact h0.1.1.1.1 | exact h0.1.1.1.2 | (rw [h0.1.1.2]; rfl) | exact h0.1.2.1.1 | exact h0.1.2.1.2 | (rw [h0.1.2.2]; rfl)
theorem jz_m12 : jz_chk 12 (fun a => (jz_rf a 0 == some (a + 1) && jz_kd (a + 1) == 4 && jz_ln (a + 1) == 24) && ((List.range 24).all fun i => jz_rf (a + 1) i == some (a + 2 + i) && jz_kd (a + 2 + i) == 10)) = true := by decide +kernel
theorem jzr_12_1 {a : Nat} (h : jz_kd a = 12) : jz_rf a 0 = some (a + 1) := by
  have h0 := jz_chk_use jz_m12 (by decide) h
  simp only [Bool.and_eq_true, beq_iff_eq] at h0
  first | exact h0.1.1 | exact h0.1.2 | (rw [h0.2]; rfl) | exact h0.1.1.1 | exact h0.1.1.2 | (rw [h0.1.2]; rfl) | exact h0.2.1.1 | exact h0.2.1.2 | (rw [h0.2.2]; rfl) | exact h0.1.1.1.1 | exact h0.1.1.1.2 | (rw [h0.1.1.2]; rfl) | exact h0.1.2.1.1 | exact h0.1.2.1.2 | (rw [h0.1.2.2]; rfl)
theorem jzk_12_1 {a : Nat} (h : jz_kd a = 12) : jz_kd (a + 1) = 4 := by
  have h0 := jz_chk_use jz_m12 (by decide) h
  simp only [Bool.and_eq_true, beq_iff_eq] at h0
  first | exact h0.1.1 | exact h0.1.2 | (rw [h0.2]; rfl) | exact h0.1.1.1 | exact h0.1.1.2 | (rw [h0.1.2]; rfl) | exact h0.2.1.1 | exact h0.2.1.2 | (rw [h0.2.2]; rfl) | exact h0.1.1.1.1 | exact h0.1.1.1.2 | (rw [h0.1.1.2]; rfl) | exact h0.1.2.1.1 | exact h0.1.2.1.2 | (rw [h0.1.2.2]; rfl)
theorem jzn_12_1 {a : Nat} (h : jz_kd a = 12) : (jz_ln (a + 1) : Int) = 24 := by
  have h0 := jz_chk_use jz_m12 (by decide) h
  simp only [Bool.and_eq_true, beq_iff_eq] at h0
  first | exact h0.1.1 | exact h0.1.2 | (rw [h0.2]; rfl) | exact h0.1.1.1 | exact h0.1.1.2 | (rw [h0.1.2]; rfl) | exact h0.2.1.1 | exact h0.2.1.2 | (rw [h0.2.2]; rfl) | exact h0.1.1.1.1 | exact h0.1.1.1.2 | (rw [h0.1.1.2]; rfl) | exact h0.1.2.1.1 | exact h0.1.2.1.2 | (rw [h0.1.2.2]; rfl)
theorem jzr_12e {a : Nat} (h : jz_kd a = 12) {i : Int} (hi : 0 ≤ i ∧ i < 24) : jz_rf (a + 1) i.toNat = some (a + 2 + i.toNat) := by
  have h0 := jz_chk_use jz_m12 (by decide) h
  simp only [Bool.and_eq_true, beq_iff_eq] at h0
  have h1 := List.all_eq_true.mp h0.2 i.toNat (List.mem_range.mpr (by omega))
  simp only [Bool.and_eq_true, beq_iff_eq] at h1
  first | exact h1.1 | exact h1.2
theorem jze_12e {a : Nat} (h : jz_kd a = 12) {i : Int} (hi : 0 ≤ i ∧ i < 24) : jz_kd (a + 2 + i.toNat) = 10 := by
  have h0 := jz_chk_use jz_m12 (by decide) h
  simp only [Bool.and_eq_true, beq_iff_eq] at h0
  have h1 := List.all_eq_true.mp h0.2 i.toNat (List.mem_range.mpr (by omega))
  simp only [Bool.and_eq_true, beq_iff_eq] at h1
  first | exact h1.1 | exact h1.2
theorem jz_m15 : jz_chk 15 (fun a => (jz_rf a 0 == some (a + 1) && jz_kd (a + 1) == 2 && jz_ln (a + 1) == 40)) = true := by decide +kernel
theorem jzr_15_1 {a : Nat} (h : jz_kd a = 15) : jz_rf a 0 = some (a + 1) := by
  have h0 := jz_chk_use jz_m15 (by decide) h
  simp only [Bool.and_eq_true, beq_iff_eq] at h0
  first | exact h0.1.1 | exact h0.1.2 | (rw [h0.2]; rfl) | exact h0.1.1.1 | exact h0.1.1.2 | (rw [h0.1.2]; rfl) | exact h0.2.1.1 | exact h0.2.1.2 | (rw [h0.2.2]; rfl) | exact h0.1.1.1.1 | exact h0.1.1.1.2 | (rw [h0.1.1.2]; rfl) | exact h0.1.2.1.1 | exact h0.1.2.1.2 | (rw [h0.1.2.2]; rfl)
theorem jzk_15_1 {a : Nat} (h : jz_kd a = 15) : jz_kd (a + 1) = 2 := by
  have h0 := jz_chk_use jz_m15 (by decide) h
  simp only [Bool.and_eq_true, beq_iff_eq] at h0
  first | exact h0.1.1 | exact h0.1.2 | (rw [h0.2]; rfl) | exact h0.1.1.1 | exact h0.1.1.2 | (rw [h0.1.2]; rfl) | exact h0.2.1.1 | exact h0.2.1.2 | (rw [h0.2.2]; rfl) | exact h0.1.1.1.1 | exact h0.1.1.1.2 | (rw [h0.1.1.2]; rfl) | exact h0.1.2.1.1 | exact h0.1.2.1.2 | (rw [h0.1.2.2]; rfl)
theorem jzn_15_1 {a : Nat} (h : jz_kd a = 15) : (jz_ln (a + 1) : Int) = 40 := by
  have h0 := jz_chk_use jz_m15 (by decide) h
  simp only [Bool.and_eq_true, beq_iff_eq] at h0
  first | exact h0.1.1 | exact h0.1.2 | (rw [h0.2]; rfl) | exact h0.1.1.1 | exact h0.1.1.2 | (rw [h0.1.2]; rfl) | exact h0.2.1.1 | exact h0.2.1.2 | (rw [h0.2.2]; rfl) | exact h0.1.1.1.1 | exact h0.1.1.1.2 | (rw [h0.1.1.2]; rfl) | exact h0.1.2.1.1 | exact h0.1.2.1.2 | (rw [h0.1.2.2]; rfl)
theorem jz_l62 : ((List.range 24).all fun i => jz_rf 62 i == some (68 + 3 * i) && jz_kd (68 + 3 * i) == 16) = true := by decide +kernel
theorem jzr_62 {i : Int} (hi : 0 ≤ i ∧ i < 24) : jz_rf 62 i.toNat = some (68 + 3 * i.toNat) := by
  have h1 := List.all_eq_true.mp jz_l62 i.toNat (List.mem_range.mpr (by omega))
  simp only [Bool.and_eq_true, beq_iff_eq] at h1
  first | exact h1.1 | exact h1.2 | exact h1.1.1 | exact h1.1.2 | (rw [h1.2]; rfl)
theorem jze_62 {i : Int} (hi : 0 ≤ i ∧ i < 24) : jz_kd (68 + 3 * i.toNat) = 16 := by
  have h1 := List.all_eq_true.mp jz_l62 i.toNat (List.mem_range.mpr (by omega))
  simp only [Bool.and_eq_true, beq_iff_eq] at h1
  first | exact h1.1 | exact h1.2 | exact h1.1.1 | exact h1.1.2 | (rw [h1.2]; rfl)
theorem jz_l149 : ((List.range 8).all fun i => jz_rf 149 i == some (151 + 2 * i) && jz_kd (151 + 2 * i) == 15) = true := by decide +kernel
theorem jzr_149 {i : Int} (hi : 0 ≤ i ∧ i < 8) : jz_rf 149 i.toNat = some (151 + 2 * i.toNat) := by
  have h1 := List.all_eq_true.mp jz_l149 i.toNat (List.mem_range.mpr (by omega))
  simp only [Bool.and_eq_true, beq_iff_eq] at h1
  first | exact h1.1 | exact h1.2 | exact h1.1.1 | exact h1.1.2 | (rw [h1.2]; rfl)
theorem jze_149 {i : Int} (hi : 0 ≤ i ∧ i < 8) : jz_kd (151 + 2 * i.toNat) = 15 := by
  have h1 := List.all_eq_true.mp jz_l149 i.toNat (List.mem_range.mpr (by omega))
  simp only [Bool.and_eq_true, beq_iff_eq] at h1
  first | exact h1.1 | exact h1.2 | exact h1.1.1 | exact h1.1.2 | (rw [h1.2]; rfl)
theorem jz_l10 : ((List.range 24).all fun i => jz_rf 10 i == some (11 + i) && jz_kd (11 + i) == 10) = true := by decide +kernel
theorem jzr_10 {i : Int} (hi : 0 ≤ i ∧ i < 24) : jz_rf 10 i.toNat = some (11 + i.toNat) := by
  have h1 := List.all_eq_true.mp jz_l10 i.toNat (List.mem_range.mpr (by omega))
  simp only [Bool.and_eq_true, beq_iff_eq] at h1
  first | exact h1.1 | exact h1.2 | exact h1.1.1 | exact h1.1.2 | (rw [h1.2]; rfl)
theorem jze_10 {i : Int} (hi : 0 ≤ i ∧ i < 24) : jz_kd (11 + i.toNat) = 10 := by
  have h1 := List.all_eq_true.mp jz_l10 i.toNat (List.mem_range.mpr (by omega))
  simp only [Bool.and_eq_true, beq_iff_eq] at h1
  first | exact h1.1 | exact h1.2 | exact h1.1.1 | exact h1.1.2 | (rw [h1.2]; rfl)
theorem jz_l36 : ((List.range 24).all fun i => jz_rf 36 i == some (37 + i) && jz_kd (37 + i) == 10) = true := by decide +kernel
theorem jzr_36 {i : Int} (hi : 0 ≤ i ∧ i < 24) : jz_rf 36 i.toNat = some (37 + i.toNat) := by
  have h1 := List.all_eq_true.mp jz_l36 i.toNat (List.mem_range.mpr (by omega))
  simp only [Bool.and_eq_true, beq_iff_eq] at h1
  first | exact h1.1 | exact h1.2 | exact h1.1.1 | exact h1.1.2 | (rw [h1.2]; rfl)
theorem jze_36 {i : Int} (hi : 0 ≤ i ∧ i < 24) : jz_kd (37 + i.toNat) = 10 := by
  have h1 := List.all_eq_true.mp jz_l36 i.toNat (List.mem_range.mpr (by omega))
  simp only [Bool.and_eq_true, beq_iff_eq] at h1
  first | exact h1.1 | exact h1.2 | exact h1.1.1 | exact h1.1.2 | (rw [h1.2]; rfl)
def jz_nd (v : Option Value) : Prop := ∀ x, v ≠ some (.double x)
def jz_R : jm_L → jm_L → Prop
  | [], [] => True
  | none :: l, v :: l' => jz_nd v ∧ jz_R l l'
  | some x :: l, v :: l' => v = some x ∧ jz_R l l'
  | _, _ => False
theorem jz_n0 : jz_nd none := fun _ h => by cases h
theorem jz_ni {x : Int32} : jz_nd (some (.int x)) := fun _ h => by cases h
theorem jz_nl {x : Int64} : jz_nd (some (.long x)) := fun _ h => by cases h
theorem jz_nr {x : Nat} : jz_nd (some (.ref x)) := fun _ h => by cases h
theorem jz_ns {x : Nat} : jz_nd (some (.retAddr x)) := fun _ h => by cases h
/-- pointwise -/
def jz_P (l l' : jm_L) : Prop := l.length = l'.length ∧ ∀ k : Nat, l'[k]? = l[k]? ∨ (l[k]? = some none ∧ ∀ x, l'[k]? ≠ some (some (.double x)))
theorem jz_P_of : ∀ {l l' : jm_L}, jz_R l l' → jz_P l l'
  | [], [], _ => ⟨rfl, fun _ => .inl rfl⟩
  | none :: l, v :: l', h => by
    obtain ⟨h1, h2⟩ := jz_P_of h.2
    refine ⟨by simp [h1], fun k => ?_⟩
    cases k with
    | zero => exact .inr ⟨rfl, fun x hx => h.1 x (by simpa using hx)⟩
    | succ k => simpa using h2 k
  | some x :: l, v :: l', h => by
    obtain ⟨h1, h2⟩ := jz_P_of h.2
    obtain rfl := h.1
    refine ⟨by simp [h1], fun k => ?_⟩
    cases k with
    | zero => exact .inl rfl
    | succ k => simpa using h2 k
  | [], _ :: _, h => h.elim
  | some _ :: _, [], h => h.elim
  | none :: _, [], h => h.elim
theorem jz_P_some {l l' : jm_L} (h : jz_P l l') {k : Nat} {v : Value} (hk : l[k]? = some (some v)) : l'[k]? = some (some v) := by
  rcases h.2 k with h1 | h1
  · rw [h1, hk]
  · rw [h1.1] at hk
    cases hk
theorem jz_P_set {l l' : jm_L} (h : jz_P l l') (k : Nat) (v : Option Value) : jz_P (l.set k v) (l'.set k v) := by
  refine ⟨by simp [h.1], fun j => ?_⟩
  by_cases hj : k = j
  · subst hj
    by_cases hl : k < l.length
    · exact .inl (by rw [List.getElem?_set_self hl, List.getElem?_set_self (by rw [← h.1]; exact hl)])
    · exact .inl (by rw [List.getElem?_eq_none (by rw [List.length_set, ← h.1]; omega), List.getElem?_eq_none (by rw [List.length_set]; omega)])
  · rw [List.getElem?_set_ne hj, List.getElem?_set_ne hj]
    exact h.2 j
theorem jz_P_set0 {l l' : jm_L} (h : jz_P l l') {k : Nat} (hk : l[k]? = some none) : jz_P l (l'.set k none) := by
  refine ⟨by simp [h.1], fun j => ?_⟩
  by_cases hj : k = j
  · subst hj
    have hl : k < l.length := (List.getElem?_eq_some_iff.mp hk).1
    exact .inl (by rw [List.getElem?_set_self (by rw [← h.1]; exact hl), hk])
  · rw [List.getElem?_set_ne hj]
    exact h.2 j
theorem jz_P_st1 {l l' m : jm_L} (h : jz_P l l') {k : Nat} {v : Value} (hs : jm_st1 l k v = some m) : ∃ m', jm_st1 l' k v = some m' ∧ jz_P m m' := by
  unfold jm_st1 at hs ⊢
  rw [← h.1]
  split at hs
  · rename_i hk
    rw [if_pos hk]
    cases k with
    | zero =>
      cases hs
      exact ⟨_, rfl, jz_P_set h 0 _⟩
    | succ j =>
      dsimp only at hs ⊢
      rcases h.2 j with h1 | ⟨h1, h2⟩
      · rw [h1]
        split at hs
        · cases hs
          exact ⟨_, rfl, jz_P_set (jz_P_set h _ _) _ _⟩
        · cases hs
        · cases hs
          exact ⟨_, rfl, jz_P_set h _ _⟩
      · rw [h1] at hs
        dsimp only at hs
        cases hs
        have h6 : (l.set (j + 1) (some v))[j]? = some none := by
          rw [List.getElem?_set_ne (by omega)]
          exact h1
        split
        · exact ⟨_, rfl, jz_P_set0 (jz_P_set h _ _) h6⟩
        · rename_i h5
          exact absurd h5 (h2 _)
        · exact ⟨_, rfl, jz_P_set h _ _⟩
  · cases hs
theorem jz_P_st2 {l l' m : jm_L} (h : jz_P l l') {k : Nat} {v : Value} (hs : jm_st2 l k v = some m) : ∃ m', jm_st2 l' k v = some m' ∧ jz_P m m' := by
  unfold jm_st2 at hs ⊢
  rw [← h.1]
  split at hs
  · rename_i hk
    rw [if_pos hk]
    cases k with
    | zero =>
      cases hs
      exact ⟨_, rfl, jz_P_set (jz_P_set h 0 _) _ _⟩
    | succ j =>
      dsimp only at hs ⊢
      rcases h.2 j with h1 | ⟨h1, h2⟩
      · rw [h1]
        split at hs
        · cases hs
          exact ⟨_, rfl, jz_P_set (jz_P_set (jz_P_set h _ _) _ _) _ _⟩
        · cases hs
        · cases hs
          exact ⟨_, rfl, jz_P_set (jz_P_set h _ _) _ _⟩
      · rw [h1] at hs
        dsimp only at hs
        cases hs
        have h6 : ((l.set (j + 1) (some v)).set (j + 2) none)[j]? = some none := by
          rw [List.getElem?_set_ne (by omega), List.getElem?_set_ne (by omega)]
          exact h1
        split
        · exact ⟨_, rfl, jz_P_set0 (jz_P_set (jz_P_set h _ _) _ _) h6⟩
        · rename_i h5
          exact absurd h5 (h2 _)
        · exact ⟨_, rfl, jz_P_set (jz_P_set h _ _) _ _⟩
  · cases hs
/-- locals put into a step's answer -/
def jz_put (l : jm_L) : jm_C ⊕ jm_O → jm_C ⊕ jm_O
  | .inl c => .inl (c.1, l, c.2.2)
  | .inr o => .inr o
def jz_loc : Instr → Bool
  | .iload _ | .iload_n _ | .lload _ | .lload_n _ | .aload _ | .aload_n _ | .istore _ | .istore_n _ | .lstore _ | .astore _ | .astore_n _ | .iinc _ _ => true
  | _ => false
theorem jz_nxp {pc : Nat} {l : jm_L} {st : List Value} {H : jm_H} : jm_nx pc l st H = (jm_nx pc [] st H).map (jz_put l) := rfl
theorem jz_ifp {p : Prop} {i : Decidable p} {a b : Nat} {l : jm_L} {st : List Value} {H : jm_H} : jm_ifb p i a b l st H = (jm_ifb p i a b [] st H).map (jz_put l) := by
  unfold jm_ifb
  split <;> rfl
theorem jz_jmpp {pc : Nat} {o : Int} {l : jm_L} {st : List Value} {H : jm_H} : jm_jmp pc o l st H = (jm_jmp pc o [] st H).map (jz_put l) := by
  unfold jm_jmp
  split <;> rfl
theorem jz_callp {n : Nat} {l : jm_L} {r : List Value} {o : Option jm_O} : jm_call n l r o = (jm_call n [] r o).map (jz_put l) := by
  unfold jm_call
  split <;> rfl
set_option maxHeartbeats 4000000 in
theorem jz_nat_ls {xs : Nat → Int32} {L : Nat} {E : jm_E} {e : jm_I} {pc : Nat} (l : jm_L) {st : List Value} {H : jm_H} (hl : jz_loc e.1 = false) : jm_stp xs L E e pc l st H = (jm_stp xs L E e pc [] st H).map (jz_put l) := by
  obtain ⟨ins, npc, a0, b0, z0⟩ := e
  cases ins <;> first
    | (exfalso; exact absurd hl (by decide))
    | rfl
    | (exfalso; revert hl; simp [jz_loc]; done)
    | (simp only [jm_stp]; first
      | exact jz_nxp
      | (split <;> first
        | rfl
        | exact jz_ifp
        | exact jz_jmpp
        | (split <;> first | rfl | exact jz_ifp | exact jz_jmpp | exact jz_callp | (split <;> first | rfl | exact jz_ifp | exact jz_jmpp | exact jz_callp | (split <;> first | rfl | exact jz_callp | exact jz_jmpp | (split <;> first | rfl | exact jz_callp | (split <;> first | rfl | exact jz_callp)))))))
/-- a run from locals that know less is a run from those that know more -/
theorem jz_run_fg {xs : Nat → Int32} {L : Nat} {E : jm_E} {mi : Nat} : ∀ (n pc : Nat) (l l' : jm_L) (st : List Value) (H : jm_H) (r : jm_O), jz_P l l' → jm_run xs L E mi n (pc, l, st, H) = some r → jm_run xs L E mi n (pc, l', st, H) = some r
  | 0, _, _, _, _, _, _, _, h => by simp [jm_run] at h
  | n + 1, pc, l, l', st, H, r, hp, h => by
    simp only [jm_run] at h ⊢
    split at h
    · rename_i e he
      have key : ∀ (c : jm_C), jm_stp xs L E e pc l st H = some (.inl c) → ∃ m', jz_P c.2.1 m' ∧ jm_stp xs L E e pc l' st H = some (.inl (c.1, m', c.2.2)) := by
        intro c hc
        by_cases hl : jz_loc e.1 = false
        · rw [jz_nat_ls l hl] at hc
          rw [jz_nat_ls l' hl]
          cases hq : jm_stp xs L E e pc [] st H with
          | none => rw [hq] at hc; cases hc
          | some q =>
            rw [hq] at hc
            cases q with
            | inl q => cases hc; exact ⟨l', hp, rfl⟩
            | inr q => cases hc
        · obtain ⟨ins, npc, a0, b0, z0⟩ := e
          cases ins <;> first
            | exact absurd rfl hl
            | (simp only [jm_stp] at hc ⊢
               split at hc
               · rename_i x hx
                 cases hc
                 rw [jz_P_some hp hx]
                 exact ⟨l', hp, rfl⟩
               · cases hc)
            | (simp only [jm_stp] at hc ⊢
               split at hc
               · rename_i x hx
                 cases hc
                 rw [jz_P_some hp hx]
                 exact ⟨l', hp, rfl⟩
               · rename_i x hx
                 cases hc
                 rw [jz_P_some hp hx]
                 exact ⟨l', hp, rfl⟩
               · cases hc)
            | (simp only [jm_stp] at hc ⊢
               split at hc
               · unfold jm_sto at hc
                 split at hc
                 · rename_i m hm
                   obtain ⟨m', h1, h2⟩ := jz_P_st1 hp hm
                   cases hc
                   rw [h1]
                   exact ⟨m', h2, rfl⟩
                 · cases hc
               · cases hc)
            | (simp only [jm_stp] at hc ⊢
               split at hc
               · unfold jm_sto at hc
                 split at hc
                 · rename_i m hm
                   obtain ⟨m', h1, h2⟩ := jz_P_st2 hp hm
                   cases hc
                   rw [h1]
                   exact ⟨m', h2, rfl⟩
                 · cases hc
               · cases hc)
            | (simp only [jm_stp] at hc ⊢
               split at hc
               · rename_i x hx
                 rw [jz_P_some hp hx]
                 unfold jm_sto at hc
                 split at hc
                 · rename_i m hm
                   obtain ⟨m', h1, h2⟩ := jz_P_st1 hp hm
                   cases hc
                   dsimp only
                   rw [h1]
                   exact ⟨m', h2, rfl⟩
                 · cases hc
               · cases hc)
      have key2 : ∀ (o : jm_O), jm_stp xs L E e pc l st H = some (.inr o) → jm_stp xs L E e pc l' st H = some (.inr o) := by
        intro o hc
        by_cases hl : jz_loc e.1 = false
        · rw [jz_nat_ls l hl] at hc
          rw [jz_nat_ls l' hl]
          cases hq : jm_stp xs L E e pc [] st H with
          | none => rw [hq] at hc; cases hc
          | some q =>
            rw [hq] at hc
            cases q with
            | inl q => cases hc
            | inr q => cases hc; rfl
        · exfalso
          obtain ⟨ins, npc, a0, b0, z0⟩ := e
          cases ins <;> first
            | exact absurd rfl hl
            | (simp only [jm_stp, jm_nx, jm_sto] at hc
               repeat' split at hc
               all_goals cases hc)
      split at h
      · rename_i c hc
        obtain ⟨m', h1, h2⟩ := key c hc
        rw [h2]
        exact jz_run_fg n _ _ _ _ _ r h1 h
      · rename_i o hc
        rw [key2 o hc]
        exact h
      · cases h
    · cases h
theorem jz_fg {xs : Nat → Int32} {L d mi pc : Nat} {l l' : jm_L} {st : List Value} {H : jm_H} {P : Option Value → jm_H → Prop} (hr : jz_R l l') (h : jm_W xs L d mi pc l st H P) : jm_W xs L d mi pc l' st H P := by
  obtain ⟨n, r, h1, h2⟩ := h
  exact ⟨n, r, jz_run_fg n pc l l' st H r (jz_P_of hr) h1, h2⟩

def q_11 (xs : Nat → Int32) (L d : Nat) (v1 : Int) (v2 : Int) (v3 : Int) (J K : jZ) (P : Int → jZ → jZ → Prop) : Prop := jm_Q xs L d 11 [.ref 0, .int (Int32.ofInt v1), .int (Int32.ofInt v2), .int (Int32.ofInt v3)] (jz_H J K) (jp_i P)
def q_12 (xs : Nat → Int32) (L d : Nat) (v0 : Int) (J K : jZ) (P : Int → jZ → jZ → Prop) : Prop := jm_Q xs L d 12 [.int (Int32.ofInt v0)] (jz_H J K) (jp_i P)
def q_13 (xs : Nat → Int32) (L d : Nat) (v1 : Int) (J K : jZ) (P : Int → jZ → jZ → Prop) : Prop := jm_Q xs L d 13 [.ref 0, .int (Int32.ofInt v1)] (jz_H J K) (jp_i P)
def q_14 (xs : Nat → Int32) (L d : Nat) (v0 : Nat) (v1 : Int) (v2 : Int) (J K : jZ) (P : jZ → jZ → Prop) : Prop := jm_Q xs L d 14 [.ref v0, .int (Int32.ofInt v1), .int (Int32.ofInt v2)] (jz_H J K) (jp_v P)
def q_15 (xs : Nat → Int32) (L d : Nat) (v0 : Nat) (v1 : Int) (J K : jZ) (P : jZ → jZ → Prop) : Prop := jm_Q xs L d 15 [.ref v0, .long (Int64.ofInt v1)] (jz_H J K) (jp_v P)
def l_15_6 (xs : Nat → Int32) (L d : Nat) (v0 : Nat) (v1 : Int) (v3 : Int) (v4 : Int) (J K : jZ) (P : jZ → jZ → Prop) : Prop := jm_W xs L d 15 6 [some (.ref v0), some (.long (Int64.ofInt v1)), none, some (.int (Int32.ofInt v3)), some (.int (Int32.ofInt v4))] [] (jz_H J K) (jp_v P)
def q_16 (xs : Nat → Int32) (L d : Nat) (v1 : Int) (v2 : Int) (v3 : Int) (J K : jZ) (P : Int → jZ → jZ → Prop) : Prop := jm_Q xs L d 16 [.ref 0, .int (Int32.ofInt v1), .int (Int32.ofInt v2), .long (Int64.ofInt v3)] (jz_H J K) (jp_i P)
def q_17 (xs : Nat → Int32) (L d : Nat) (v1 : Int) (v2 : Int) (J K : jZ) (P : Int → jZ → jZ → Prop) : Prop := jm_Q xs L d 17 [.ref 0, .int (Int32.ofInt v1), .int (Int32.ofInt v2)] (jz_H J K) (jp_i P)
def q_18 (xs : Nat → Int32) (L d : Nat) (v0 : Nat) (J K : jZ) (P : Int → jZ → jZ → Prop) : Prop := jm_Q xs L d 18 [.ref v0] (jz_H J K) (jp_i P)
def q_19 (xs : Nat → Int32) (L d : Nat) (v0 : Nat) (J K : jZ) (P : Int → jZ → jZ → Prop) : Prop := jm_Q xs L d 19 [.ref v0] (jz_H J K) (jp_i P)
def q_20 (xs : Nat → Int32) (L d : Nat) (v0 : Nat) (v1 : Int) (J K : jZ) (P : Int → jZ → jZ → Prop) : Prop := jm_Q xs L d 20 [.ref v0, .int (Int32.ofInt v1)] (jz_H J K) (jp_i P)
def q_21 (xs : Nat → Int32) (L d : Nat) (v0 : Int) (v1 : Int) (J K : jZ) (P : Int → jZ → jZ → Prop) : Prop := jm_Q xs L d 21 [.int (Int32.ofInt v0), .long (Int64.ofInt v1)] (jz_H J K) (jp_l P)
def q_23 (xs : Nat → Int32) (L d : Nat) (v0 : Nat) (v1 : Int) (v2 : Int) (J K : jZ) (P : Int → jZ → jZ → Prop) : Prop := jm_Q xs L d 23 [.ref v0, .int (Int32.ofInt v1), .int (Int32.ofInt v2)] (jz_H J K) (jp_i P)
def q_27 (xs : Nat → Int32) (L d : Nat) (v0 : Nat) (v1 : Int) (J K : jZ) (P : Int → jZ → jZ → Prop) : Prop := jm_Q xs L d 27 [.ref v0, .int (Int32.ofInt v1)] (jz_H J K) (jp_i P)
def q_30 (xs : Nat → Int32) (L d : Nat) (v0 : Int) (J K : jZ) (P : Int → jZ → jZ → Prop) : Prop := jm_Q xs L d 30 [.int (Int32.ofInt v0)] (jz_H J K) (jp_i P)
def q_32 (xs : Nat → Int32) (L d : Nat) (v1 : Int) (J K : jZ) (P : Nat → jZ → jZ → Prop) : Prop := jm_Q xs L d 32 [.ref 61, .int (Int32.ofInt v1)] (jz_H J K) (jp_r P)
def l_32_38 (xs : Nat → Int32) (L d : Nat) (v1 : Int) (v2 : Int) (v3 : Int) (J K : jZ) (P : Nat → jZ → jZ → Prop) : Prop := jm_W xs L d 32 38 [some (.ref 61), some (.int (Int32.ofInt v1)), some (.int (Int32.ofInt v2)), some (.int (Int32.ofInt v3))] [] (jz_H J K) (jp_r P)
def q_33 (xs : Nat → Int32) (L d : Nat) (v1 : Int) (J K : jZ) (P : jZ → jZ → Prop) : Prop := jm_Q xs L d 33 [.ref 61, .int (Int32.ofInt v1)] (jz_H J K) (jp_v P)
def q_34 (xs : Nat → Int32) (L d : Nat) (v1 : Nat) (v2 : Nat) (J K : jZ) (P : jZ → jZ → Prop) : Prop := jm_Q xs L d 34 [.ref 61, .ref v1, .ref v2] (jz_H J K) (jp_v P)
def l_34_7 (xs : Nat → Int32) (L d : Nat) (v1 : Nat) (v2 : Nat) (v3 : Int) (J K : jZ) (P : jZ → jZ → Prop) : Prop := jm_W xs L d 34 7 [some (.ref 61), some (.ref v1), some (.ref v2), some (.int (Int32.ofInt v3)), none] [] (jz_H J K) (jp_v P)
def l_34_26 (xs : Nat → Int32) (L d : Nat) (v1 : Nat) (v2 : Nat) (v3 : Int) (v4 : Int) (J K : jZ) (P : jZ → jZ → Prop) : Prop := jm_W xs L d 34 26 [some (.ref 61), some (.ref v1), some (.ref v2), some (.int (Int32.ofInt v3)), some (.int (Int32.ofInt v4))] [] (jz_H J K) (jp_v P)
def q_35 (xs : Nat → Int32) (L d : Nat) (v1 : Int) (v2 : Int) (J K : jZ) (P : Int → jZ → jZ → Prop) : Prop := jm_Q xs L d 35 [.ref 61, .int (Int32.ofInt v1), .int (Int32.ofInt v2)] (jz_H J K) (jp_i P)
def q_36 (xs : Nat → Int32) (L d : Nat) (v0 : Nat) (v1 : Int) (J K : jZ) (P : Int → jZ → jZ → Prop) : Prop := jm_Q xs L d 36 [.ref v0, .int (Int32.ofInt v1)] (jz_H J K) (jp_i P)
def q_37 (xs : Nat → Int32) (L d : Nat) (v0 : Nat) (v1 : Int) (v2 : Int) (J K : jZ) (P : jZ → jZ → Prop) : Prop := jm_Q xs L d 37 [.ref v0, .int (Int32.ofInt v1), .int (Int32.ofInt v2)] (jz_H J K) (jp_v P)
def q_38 (xs : Nat → Int32) (L d : Nat) (v0 : Nat) (v1 : Int) (v2 : Nat) (J K : jZ) (P : jZ → jZ → Prop) : Prop := jm_Q xs L d 38 [.ref v0, .int (Int32.ofInt v1), .ref v2] (jz_H J K) (jp_v P)
def l_38_10 (xs : Nat → Int32) (L d : Nat) (v0 : Nat) (v1 : Int) (v2 : Nat) (v3 : Int) (v4 : Int) (J K : jZ) (P : jZ → jZ → Prop) : Prop := jm_W xs L d 38 10 [some (.ref v0), some (.int (Int32.ofInt v1)), some (.ref v2), some (.int (Int32.ofInt v3)), some (.int (Int32.ofInt v4))] [] (jz_H J K) (jp_v P)
def q_39 (xs : Nat → Int32) (L d : Nat) (v1 : Int) (J K : jZ) (P : Nat → jZ → jZ → Prop) : Prop := jm_Q xs L d 39 [.ref 61, .int (Int32.ofInt v1)] (jz_H J K) (jp_r P)
def q_40 (xs : Nat → Int32) (L d : Nat) (v1 : Nat) (v2 : Int) (v3 : Nat) (J K : jZ) (P : jZ → jZ → Prop) : Prop := jm_Q xs L d 40 [.ref 61, .ref v1, .int (Int32.ofInt v2), .ref v3] (jz_H J K) (jp_v P)
def l_40_8 (xs : Nat → Int32) (L d : Nat) (v1 : Nat) (v2 : Int) (v3 : Nat) (v4 : Int) (J K : jZ) (P : jZ → jZ → Prop) : Prop := jm_W xs L d 40 8 [none, some (.ref v1), some (.int (Int32.ofInt v2)), some (.ref v3), some (.int (Int32.ofInt v4))] [] (jz_H J K) (jp_v P)
def q_41 (xs : Nat → Int32) (L d : Nat) (v0 : Nat) (v1 : Int) (J K : jZ) (P : Int → jZ → jZ → Prop) : Prop := jm_Q xs L d 41 [.ref v0, .int (Int32.ofInt v1)] (jz_H J K) (jp_i P)
def q_42 (xs : Nat → Int32) (L d : Nat) (J K : jZ) (P : jZ → jZ → Prop) : Prop := jm_Q xs L d 42 [.ref 66] (jz_H J K) (jp_v P)
def q_43 (xs : Nat → Int32) (L d : Nat) (v0 : Nat) (v1 : Int) (J K : jZ) (P : jZ → jZ → Prop) : Prop := jm_Q xs L d 43 [.ref v0, .int (Int32.ofInt v1)] (jz_H J K) (jp_v P)
def l_43_5 (xs : Nat → Int32) (L d : Nat) (v0 : Nat) (v1 : Int) (v2 : Int) (v3 : Int) (J K : jZ) (P : jZ → jZ → Prop) : Prop := jm_W xs L d 43 5 [some (.ref v0), some (.int (Int32.ofInt v1)), some (.int (Int32.ofInt v2)), some (.int (Int32.ofInt v3))] [] (jz_H J K) (jp_v P)
def q_44 (xs : Nat → Int32) (L d : Nat) (v1 : Int) (v2 : Nat) (v3 : Nat) (v4 : Nat) (J K : jZ) (P : jZ → jZ → Prop) : Prop := jm_Q xs L d 44 [.ref 61, .int (Int32.ofInt v1), .ref v2, .ref v3, .ref v4] (jz_H J K) (jp_v P)
def l_44_12 (xs : Nat → Int32) (L d : Nat) (v1 : Int) (v2 : Nat) (v3 : Nat) (v4 : Nat) (v5 : Int) (v6 : Int) (v7 : Int) (v8 : Int) (J K : jZ) (P : jZ → jZ → Prop) : Prop := jm_W xs L d 44 12 [some (.ref 61), some (.int (Int32.ofInt v1)), some (.ref v2), some (.ref v3), some (.ref v4), some (.int (Int32.ofInt v5)), some (.int (Int32.ofInt v6)), some (.int (Int32.ofInt v7)), some (.int (Int32.ofInt v8))] [] (jz_H J K) (jp_v P)
def q_45 (xs : Nat → Int32) (L d : Nat) (v0 : Nat) (v1 : Int) (v2 : Int) (J K : jZ) (P : Int → jZ → jZ → Prop) : Prop := jm_Q xs L d 45 [.ref v0, .int (Int32.ofInt v1), .long (Int64.ofInt v2)] (jz_H J K) (jp_i P)
def l_45_3 (xs : Nat → Int32) (L d : Nat) (v0 : Nat) (v2 : Int) (v4 : Int) (J K : jZ) (P : Int → jZ → jZ → Prop) : Prop := jm_W xs L d 45 3 [some (.ref v0), none, some (.long (Int64.ofInt v2)), none, some (.int (Int32.ofInt v4))] [] (jz_H J K) (jp_i P)
def q_46 (xs : Nat → Int32) (L d : Nat) (v0 : Nat) (v1 : Int) (J K : jZ) (P : Int → jZ → jZ → Prop) : Prop := jm_Q xs L d 46 [.ref v0, .int (Int32.ofInt v1)] (jz_H J K) (jp_i P)
def q_47 (xs : Nat → Int32) (L d : Nat) (v0 : Nat) (v1 : Int) (J K : jZ) (P : Int → jZ → jZ → Prop) : Prop := jm_Q xs L d 47 [.ref v0, .int (Int32.ofInt v1)] (jz_H J K) (jp_i P)
def q_48 (xs : Nat → Int32) (L d : Nat) (v0 : Int) (v1 : Int) (v2 : Int) (v3 : Int) (J K : jZ) (P : Int → jZ → jZ → Prop) : Prop := jm_Q xs L d 48 [.int (Int32.ofInt v0), .int (Int32.ofInt v1), .int (Int32.ofInt v2), .int (Int32.ofInt v3)] (jz_H J K) (jp_i P)
def q_51 (xs : Nat → Int32) (L d : Nat) (v1 : Int) (v2 : Int) (J K : jZ) (P : jZ → jZ → Prop) : Prop := jm_Q xs L d 51 [.ref 66, .int (Int32.ofInt v1), .int (Int32.ofInt v2)] (jz_H J K) (jp_v P)
def q_52 (xs : Nat → Int32) (L d : Nat) (v1 : Nat) (J K : jZ) (P : jZ → jZ → Prop) : Prop := jm_Q xs L d 52 [.ref 66, .ref v1] (jz_H J K) (jp_v P)
def l_52_6 (xs : Nat → Int32) (L d : Nat) (v1 : Nat) (v2 : Int) (v3 : Int) (J K : jZ) (P : jZ → jZ → Prop) : Prop := jm_W xs L d 52 6 [some (.ref 66), some (.ref v1), some (.int (Int32.ofInt v2)), some (.int (Int32.ofInt v3))] [] (jz_H J K) (jp_v P)
def l_52_51 (xs : Nat → Int32) (L d : Nat) (v1 : Nat) (v3 : Int) (J K : jZ) (P : jZ → jZ → Prop) : Prop := jm_W xs L d 52 51 [some (.ref 66), some (.ref v1), none, some (.int (Int32.ofInt v3))] [] (jz_H J K) (jp_v P)
def q_53 (xs : Nat → Int32) (L d : Nat) (v1 : Int) (v2 : Nat) (v3 : Nat) (v4 : Nat) (J K : jZ) (P : jZ → jZ → Prop) : Prop := jm_Q xs L d 53 [.ref 61, .int (Int32.ofInt v1), .ref v2, .ref v3, .ref v4] (jz_H J K) (jp_v P)
def q_54 (xs : Nat → Int32) (L d : Nat) (v1 : Int) (v2 : Nat) (v3 : Nat) (v4 : Nat) (J K : jZ) (P : jZ → jZ → Prop) : Prop := jm_Q xs L d 54 [.ref 61, .int (Int32.ofInt v1), .ref v2, .ref v3, .ref v4] (jz_H J K) (jp_v P)
def l_54_18 (xs : Nat → Int32) (L d : Nat) (v1 : Int) (v2 : Nat) (v3 : Nat) (v4 : Nat) (v5 : Int) (J K : jZ) (P : jZ → jZ → Prop) : Prop := jm_W xs L d 54 18 [none, some (.int (Int32.ofInt v1)), some (.ref v2), some (.ref v3), some (.ref v4), some (.int (Int32.ofInt v5)), none, none, none, none, none, none, none] [] (jz_H J K) (jp_v P)
def l_54_36 (xs : Nat → Int32) (L d : Nat) (v2 : Nat) (v3 : Nat) (v4 : Nat) (v5 : Int) (v6 : Int) (J K : jZ) (P : jZ → jZ → Prop) : Prop := jm_W xs L d 54 36 [none, none, some (.ref v2), some (.ref v3), some (.ref v4), some (.int (Int32.ofInt v5)), some (.int (Int32.ofInt v6)), none, none, none, none, none, none] [] (jz_H J K) (jp_v P)
def l_54_54 (xs : Nat → Int32) (L d : Nat) (v2 : Nat) (v3 : Nat) (v4 : Nat) (v5 : Int) (v6 : Int) (v7 : Int) (v8 : Int) (v9 : Int) (J K : jZ) (P : jZ → jZ → Prop) : Prop := jm_W xs L d 54 54 [none, none, some (.ref v2), some (.ref v3), some (.ref v4), some (.int (Int32.ofInt v5)), some (.int (Int32.ofInt v6)), some (.int (Int32.ofInt v7)), some (.int (Int32.ofInt v8)), some (.int (Int32.ofInt v9)), none, none, none] [] (jz_H J K) (jp_v P)
def l_54_130 (xs : Nat → Int32) (L d : Nat) (v2 : Nat) (v3 : Nat) (v4 : Nat) (v5 : Int) (v6 : Int) (v7 : Int) (v8 : Int) (v9 : Int) (v10 : Int) (v11 : Int) (J K : jZ) (P : jZ → jZ → Prop) : Prop := jm_W xs L d 54 130 [none, none, some (.ref v2), some (.ref v3), some (.ref v4), some (.int (Int32.ofInt v5)), some (.int (Int32.ofInt v6)), some (.int (Int32.ofInt v7)), some (.int (Int32.ofInt v8)), some (.int (Int32.ofInt v9)), some (.int (Int32.ofInt v10)), some (.int (Int32.ofInt v11)), none] [] (jz_H J K) (jp_v P)
def l_54_152 (xs : Nat → Int32) (L d : Nat) (v2 : Nat) (v3 : Nat) (v4 : Nat) (v5 : Int) (v6 : Int) (v7 : Int) (v8 : Int) (v9 : Int) (v10 : Int) (v11 : Int) (v12 : Int) (J K : jZ) (P : jZ → jZ → Prop) : Prop := jm_W xs L d 54 152 [none, none, some (.ref v2), some (.ref v3), some (.ref v4), some (.int (Int32.ofInt v5)), some (.int (Int32.ofInt v6)), some (.int (Int32.ofInt v7)), some (.int (Int32.ofInt v8)), some (.int (Int32.ofInt v9)), some (.int (Int32.ofInt v10)), some (.int (Int32.ofInt v11)), some (.int (Int32.ofInt v12))] [] (jz_H J K) (jp_v P)
def l_54_168 (xs : Nat → Int32) (L d : Nat) (v2 : Nat) (v3 : Nat) (v4 : Nat) (v5 : Int) (v6 : Int) (v7 : Int) (v8 : Int) (v9 : Int) (J K : jZ) (P : jZ → jZ → Prop) : Prop := jm_W xs L d 54 168 [none, none, some (.ref v2), some (.ref v3), some (.ref v4), some (.int (Int32.ofInt v5)), some (.int (Int32.ofInt v6)), some (.int (Int32.ofInt v7)), some (.int (Int32.ofInt v8)), some (.int (Int32.ofInt v9)), none, none, none] [] (jz_H J K) (jp_v P)
def q_55 (xs : Nat → Int32) (L d : Nat) (v1 : Nat) (v2 : Nat) (J K : jZ) (P : jZ → jZ → Prop) : Prop := jm_Q xs L d 55 [.ref 61, .ref v1, .ref v2] (jz_H J K) (jp_v P)
def l_55_5 (xs : Nat → Int32) (L d : Nat) (v1 : Nat) (v2 : Nat) (v3 : Int) (v4 : Int) (J K : jZ) (P : jZ → jZ → Prop) : Prop := jm_W xs L d 55 5 [some (.ref 61), some (.ref v1), some (.ref v2), some (.int (Int32.ofInt v3)), some (.int (Int32.ofInt v4))] [] (jz_H J K) (jp_v P)
def q_56 (xs : Nat → Int32) (L d : Nat) (v1 : Int) (J K : jZ) (P : Int → jZ → jZ → Prop) : Prop := jm_Q xs L d 56 [.ref 0, .int (Int32.ofInt v1)] (jz_H J K) (jp_i P)
def q_57 (xs : Nat → Int32) (L d : Nat) (v0 : Int) (J K : jZ) (P : Int → jZ → jZ → Prop) : Prop := jm_Q xs L d 57 [.int (Int32.ofInt v0)] (jz_H J K) (jp_i P)
def q_58 (xs : Nat → Int32) (L d : Nat) (v0 : Nat) (v1 : Int) (J K : jZ) (P : jZ → jZ → Prop) : Prop := jm_Q xs L d 58 [.ref v0, .int (Int32.ofInt v1)] (jz_H J K) (jp_v P)
def q_59 (xs : Nat → Int32) (L d : Nat) (J K : jZ) (P : jZ → jZ → Prop) : Prop := jm_Q xs L d 59 [.ref 61] (jz_H J K) (jp_v P)
def q_60 (xs : Nat → Int32) (L d : Nat) (v1 : Int) (J K : jZ) (P : Int → jZ → jZ → Prop) : Prop := jm_Q xs L d 60 [.ref 0, .int (Int32.ofInt v1)] (jz_H J K) (jp_i P)
def q_61 (xs : Nat → Int32) (L d : Nat) (v0 : Nat) (J K : jZ) (P : Int → jZ → jZ → Prop) : Prop := jm_Q xs L d 61 [.ref v0] (jz_H J K) (jp_i P)
def q_62 (xs : Nat → Int32) (L d : Nat) (v0 : Nat) (v1 : Int) (J K : jZ) (P : jZ → jZ → Prop) : Prop := jm_Q xs L d 62 [.ref v0, .int (Int32.ofInt v1)] (jz_H J K) (jp_v P)
def q_63 (xs : Nat → Int32) (L d : Nat) (v1 : Int) (v2 : Int) (J K : jZ) (P : Int → jZ → jZ → Prop) : Prop := jm_Q xs L d 63 [.ref 0, .int (Int32.ofInt v1), .int (Int32.ofInt v2)] (jz_H J K) (jp_i P)
def q_64 (xs : Nat → Int32) (L d : Nat) (v0 : Nat) (v1 : Int) (J K : jZ) (P : Int → jZ → jZ → Prop) : Prop := jm_Q xs L d 64 [.ref v0, .int (Int32.ofInt v1)] (jz_H J K) (jp_i P)
def q_65 (xs : Nat → Int32) (L d : Nat) (v1 : Int) (v2 : Int) (v3 : Int) (J K : jZ) (P : Int → jZ → jZ → Prop) : Prop := jm_Q xs L d 65 [.ref 0, .int (Int32.ofInt v1), .int (Int32.ofInt v2), .int (Int32.ofInt v3)] (jz_H J K) (jp_i P)
def q_66 (xs : Nat → Int32) (L d : Nat) (v1 : Int) (J K : jZ) (P : Int → jZ → jZ → Prop) : Prop := jm_Q xs L d 66 [.ref 0, .int (Int32.ofInt v1)] (jz_H J K) (jp_i P)
def q_67 (xs : Nat → Int32) (L d : Nat) (v1 : Int) (J K : jZ) (P : jZ → jZ → Prop) : Prop := jm_Q xs L d 67 [.ref 144, .int (Int32.ofInt v1)] (jz_H J K) (jp_v P)
def q_71 (xs : Nat → Int32) (L d : Nat) (v0 : Int) (J K : jZ) (P : Int → jZ → jZ → Prop) : Prop := jm_Q xs L d 71 [.int (Int32.ofInt v0)] (jz_H J K) (jp_i P)
def q_74 (xs : Nat → Int32) (L d : Nat) (v1 : Int) (J K : jZ) (P : Int → jZ → jZ → Prop) : Prop := jm_Q xs L d 74 [.ref 0, .int (Int32.ofInt v1)] (jz_H J K) (jp_i P)
def q_76 (xs : Nat → Int32) (L d : Nat) (J K : jZ) (P : Int → jZ → jZ → Prop) : Prop := jm_Q xs L d 76 [.ref 0] (jz_H J K) (jp_i P)
def q_77 (xs : Nat → Int32) (L d : Nat) (J K : jZ) (P : Int → jZ → jZ → Prop) : Prop := jm_Q xs L d 77 [.ref 146] (jz_H J K) (jp_i P)
def l_77_36 (xs : Nat → Int32) (L d : Nat) (J K : jZ) (P : Int → jZ → jZ → Prop) : Prop := jm_W xs L d 77 36 [some (.ref 146), none] [] (jz_H J K) (jp_i P)
def l_77_110 (xs : Nat → Int32) (L d : Nat) (J K : jZ) (P : Int → jZ → jZ → Prop) : Prop := jm_W xs L d 77 110 [some (.ref 146), none] [] (jz_H J K) (jp_i P)
def l_77_113 (xs : Nat → Int32) (L d : Nat) (J K : jZ) (P : Int → jZ → jZ → Prop) : Prop := jm_W xs L d 77 113 [some (.ref 146), none] [] (jz_H J K) (jp_i P)
def l_77_133 (xs : Nat → Int32) (L d : Nat) (J K : jZ) (P : Int → jZ → jZ → Prop) : Prop := jm_W xs L d 77 133 [some (.ref 146), none] [] (jz_H J K) (jp_i P)
def l_77_155 (xs : Nat → Int32) (L d : Nat) (J K : jZ) (P : Int → jZ → jZ → Prop) : Prop := jm_W xs L d 77 155 [some (.ref 146), none] [] (jz_H J K) (jp_i P)
def l_77_166 (xs : Nat → Int32) (L d : Nat) (J K : jZ) (P : Int → jZ → jZ → Prop) : Prop := jm_W xs L d 77 166 [some (.ref 146), none] [] (jz_H J K) (jp_i P)
def q_78 (xs : Nat → Int32) (L d : Nat) (v1 : Int) (J K : jZ) (P : jZ → jZ → Prop) : Prop := jm_Q xs L d 78 [.ref 146, .int (Int32.ofInt v1)] (jz_H J K) (jp_v P)
def q_79 (xs : Nat → Int32) (L d : Nat) (v1 : Int) (v2 : Int) (v3 : Int) (J K : jZ) (P : jZ → jZ → Prop) : Prop := jm_Q xs L d 79 [.ref 146, .int (Int32.ofInt v1), .int (Int32.ofInt v2), .int (Int32.ofInt v3)] (jz_H J K) (jp_v P)
def q_80 (xs : Nat → Int32) (L d : Nat) (v0 : Nat) (v1 : Int) (v2 : Int) (v3 : Int) (v4 : Int) (J K : jZ) (P : jZ → jZ → Prop) : Prop := jm_Q xs L d 80 [.ref v0, .int (Int32.ofInt v1), .int (Int32.ofInt v2), .int (Int32.ofInt v3), .int (Int32.ofInt v4)] (jz_H J K) (jp_v P)
def l_80_46 (xs : Nat → Int32) (L d : Nat) (v3 : Int) (v4 : Int) (v5 : Nat) (v6 : Int) (J K : jZ) (P : jZ → jZ → Prop) : Prop := jm_W xs L d 80 46 [none, none, none, some (.int (Int32.ofInt v3)), some (.int (Int32.ofInt v4)), some (.ref v5), some (.int (Int32.ofInt v6))] [] (jz_H J K) (jp_v P)
def q_81 (xs : Nat → Int32) (L d : Nat) (v0 : Nat) (v1 : Int) (v2 : Int) (v3 : Int) (J K : jZ) (P : jZ → jZ → Prop) : Prop := jm_Q xs L d 81 [.ref v0, .int (Int32.ofInt v1), .int (Int32.ofInt v2), .int (Int32.ofInt v3)] (jz_H J K) (jp_v P)
def q_82 (xs : Nat → Int32) (L d : Nat) (J K : jZ) (P : jZ → jZ → Prop) : Prop := jm_Q xs L d 82 [.ref 146] (jz_H J K) (jp_v P)
def q_83 (xs : Nat → Int32) (L d : Nat) (J K : jZ) (P : jZ → jZ → Prop) : Prop := jm_Q xs L d 83 [.ref 146] (jz_H J K) (jp_v P)
def l_83_4 (xs : Nat → Int32) (L d : Nat) (v1 : Int) (v2 : Int) (J K : jZ) (P : jZ → jZ → Prop) : Prop := jm_W xs L d 83 4 [some (.ref 146), some (.int (Int32.ofInt v1)), some (.int (Int32.ofInt v2)), none] [] (jz_H J K) (jp_v P)
def l_83_60 (xs : Nat → Int32) (L d : Nat) (v1 : Int) (v2 : Int) (v3 : Int) (J K : jZ) (P : jZ → jZ → Prop) : Prop := jm_W xs L d 83 60 [some (.ref 146), some (.int (Int32.ofInt v1)), some (.int (Int32.ofInt v2)), some (.int (Int32.ofInt v3))] [] (jz_H J K) (jp_v P)
def l_83_89 (xs : Nat → Int32) (L d : Nat) (v1 : Int) (v2 : Int) (v3 : Int) (J K : jZ) (P : jZ → jZ → Prop) : Prop := jm_W xs L d 83 89 [some (.ref 146), some (.int (Int32.ofInt v1)), some (.int (Int32.ofInt v2)), some (.int (Int32.ofInt v3))] [] (jz_H J K) (jp_v P)
def l_83_104 (xs : Nat → Int32) (L d : Nat) (v1 : Int) (v2 : Int) (J K : jZ) (P : jZ → jZ → Prop) : Prop := jm_W xs L d 83 104 [some (.ref 146), some (.int (Int32.ofInt v1)), some (.int (Int32.ofInt v2)), none] [] (jz_H J K) (jp_v P)
def q_84 (xs : Nat → Int32) (L d : Nat) (v1 : Int) (J K : jZ) (P : jZ → jZ → Prop) : Prop := jm_Q xs L d 84 [.ref 146, .int (Int32.ofInt v1)] (jz_H J K) (jp_v P)
def q_85 (xs : Nat → Int32) (L d : Nat) (v1 : Int) (J K : jZ) (P : Int → jZ → jZ → Prop) : Prop := jm_Q xs L d 85 [.ref 146, .int (Int32.ofInt v1)] (jz_H J K) (jp_i P)
def l_85_0 (xs : Nat → Int32) (L d : Nat) (v1 : Int) (J K : jZ) (P : Int → jZ → jZ → Prop) : Prop := jm_W xs L d 85 0 [some (.ref 146), some (.int (Int32.ofInt v1)), none, none] [] (jz_H J K) (jp_i P)
def l_85_44 (xs : Nat → Int32) (L d : Nat) (v1 : Int) (J K : jZ) (P : Int → jZ → jZ → Prop) : Prop := jm_W xs L d 85 44 [some (.ref 146), some (.int (Int32.ofInt v1)), none, none] [] (jz_H J K) (jp_i P)
def l_85_51 (xs : Nat → Int32) (L d : Nat) (v1 : Int) (v2 : Int) (v3 : Int) (J K : jZ) (P : Int → jZ → jZ → Prop) : Prop := jm_W xs L d 85 51 [some (.ref 146), some (.int (Int32.ofInt v1)), some (.int (Int32.ofInt v2)), some (.int (Int32.ofInt v3))] [] (jz_H J K) (jp_i P)
def l_85_149 (xs : Nat → Int32) (L d : Nat) (v1 : Int) (v2 : Int) (v3 : Int) (J K : jZ) (P : Int → jZ → jZ → Prop) : Prop := jm_W xs L d 85 149 [some (.ref 146), some (.int (Int32.ofInt v1)), some (.int (Int32.ofInt v2)), some (.int (Int32.ofInt v3))] [] (jz_H J K) (jp_i P)
def l_85_159 (xs : Nat → Int32) (L d : Nat) (v2 : Int) (J K : jZ) (P : Int → jZ → jZ → Prop) : Prop := jm_W xs L d 85 159 [some (.ref 146), none, some (.int (Int32.ofInt v2)), none] [] (jz_H J K) (jp_i P)
def q_86 (xs : Nat → Int32) (L d : Nat) (v1 : Int) (J K : jZ) (P : jZ → jZ → Prop) : Prop := jm_Q xs L d 86 [.ref 146, .int (Int32.ofInt v1)] (jz_H J K) (jp_v P)
def q_87 (xs : Nat → Int32) (L d : Nat) (v0 : Int) (J K : jZ) (P : Int → jZ → jZ → Prop) : Prop := jm_Q xs L d 87 [.int (Int32.ofInt v0)] (jz_H J K) (jp_i P)
def q_88 (xs : Nat → Int32) (L d : Nat) (v1 : Int) (J K : jZ) (P : jZ → jZ → Prop) : Prop := jm_Q xs L d 88 [.ref 146, .int (Int32.ofInt v1)] (jz_H J K) (jp_v P)
def l_88_5 (xs : Nat → Int32) (L d : Nat) (v2 : Int) (J K : jZ) (P : jZ → jZ → Prop) : Prop := jm_W xs L d 88 5 [some (.ref 146), none, some (.int (Int32.ofInt v2)), none, none, none] [] (jz_H J K) (jp_v P)
def q_89 (xs : Nat → Int32) (L d : Nat) (v0 : Int) (J K : jZ) (P : Int → jZ → jZ → Prop) : Prop := jm_Q xs L d 89 [.int (Int32.ofInt v0)] (jz_H J K) (jp_i P)
def q_90 (xs : Nat → Int32) (L d : Nat) (J K : jZ) (P : Int → jZ → jZ → Prop) : Prop := jm_Q xs L d 90 [.ref 146] (jz_H J K) (jp_i P)
def q_91 (xs : Nat → Int32) (L d : Nat) (J K : jZ) (P : Int → jZ → jZ → Prop) : Prop := jm_Q xs L d 91 [.ref 146] (jz_H J K) (jp_i P)
def q_92 (xs : Nat → Int32) (L d : Nat) (v1 : Int) (v2 : Int) (v3 : Int) (v4 : Int) (v5 : Int) (J K : jZ) (P : jZ → jZ → Prop) : Prop := jm_Q xs L d 92 [.ref 146, .int (Int32.ofInt v1), .int (Int32.ofInt v2), .int (Int32.ofInt v3), .int (Int32.ofInt v4), .int (Int32.ofInt v5)] (jz_H J K) (jp_v P)
def q_93 (xs : Nat → Int32) (L d : Nat) (v0 : Nat) (v1 : Int) (v2 : Int) (v3 : Int) (v4 : Int) (v5 : Int) (v6 : Int) (J K : jZ) (P : jZ → jZ → Prop) : Prop := jm_Q xs L d 93 [.ref v0, .int (Int32.ofInt v1), .int (Int32.ofInt v2), .int (Int32.ofInt v3), .int (Int32.ofInt v4), .int (Int32.ofInt v5), .int (Int32.ofInt v6)] (jz_H J K) (jp_v P)
def l_93_10 (xs : Nat → Int32) (L d : Nat) (J K : jZ) (P : jZ → jZ → Prop) : Prop := jm_W xs L d 93 10 [none, none, none, none, none, none, none, none] [] (jz_H J K) (jp_v P)
def l_93_71 (xs : Nat → Int32) (L d : Nat) (v0 : Nat) (v1 : Int) (v5 : Int) (v6 : Int) (v7 : Nat) (J K : jZ) (P : jZ → jZ → Prop) : Prop := jm_W xs L d 93 71 [some (.ref v0), some (.int (Int32.ofInt v1)), none, none, none, some (.int (Int32.ofInt v5)), some (.int (Int32.ofInt v6)), some (.ref v7)] [] (jz_H J K) (jp_v P)
def l_93_94 (xs : Nat → Int32) (L d : Nat) (v0 : Nat) (v1 : Int) (v6 : Int) (v7 : Nat) (J K : jZ) (P : jZ → jZ → Prop) : Prop := jm_W xs L d 93 94 [some (.ref v0), some (.int (Int32.ofInt v1)), none, none, none, none, some (.int (Int32.ofInt v6)), some (.ref v7)] [] (jz_H J K) (jp_v P)
def l_93_117 (xs : Nat → Int32) (L d : Nat) (J K : jZ) (P : jZ → jZ → Prop) : Prop := jm_W xs L d 93 117 [none, none, none, none, none, none, none, none] [] (jz_H J K) (jp_v P)
def q_94 (xs : Nat → Int32) (L d : Nat) (v0 : Nat) (v1 : Nat) (J K : jZ) (P : jZ → jZ → Prop) : Prop := jm_Q xs L d 94 [.ref v0, .ref v1] (jz_H J K) (jp_v P)
def q_95 (xs : Nat → Int32) (L d : Nat) (J K : jZ) (P : jZ → jZ → Prop) : Prop := jm_Q xs L d 95 [.ref 146] (jz_H J K) (jp_v P)
def q_96 (xs : Nat → Int32) (L d : Nat) (v1 : Int) (J K : jZ) (P : Int → jZ → jZ → Prop) : Prop := jm_Q xs L d 96 [.ref 146, .int (Int32.ofInt v1)] (jz_H J K) (jp_i P)
def l_96_41 (xs : Nat → Int32) (L d : Nat) (v1 : Int) (v2 : Int) (v3 : Int) (J K : jZ) (P : Int → jZ → jZ → Prop) : Prop := jm_W xs L d 96 41 [some (.ref 146), some (.int (Int32.ofInt v1)), some (.int (Int32.ofInt v2)), some (.int (Int32.ofInt v3)), none, none, none] [] (jz_H J K) (jp_i P)
def l_96_83 (xs : Nat → Int32) (L d : Nat) (v1 : Int) (v2 : Int) (v3 : Int) (J K : jZ) (P : Int → jZ → jZ → Prop) : Prop := jm_W xs L d 96 83 [some (.ref 146), some (.int (Int32.ofInt v1)), some (.int (Int32.ofInt v2)), some (.int (Int32.ofInt v3)), none, none, none] [] (jz_H J K) (jp_i P)
def l_96_150 (xs : Nat → Int32) (L d : Nat) (J K : jZ) (P : Int → jZ → jZ → Prop) : Prop := jm_W xs L d 96 150 [none, none, none, none, none, none, none] [] (jz_H J K) (jp_i P)
def q_97 (xs : Nat → Int32) (L d : Nat) (v1 : Int) (J K : jZ) (P : Int → jZ → jZ → Prop) : Prop := jm_Q xs L d 97 [.ref 0, .int (Int32.ofInt v1)] (jz_H J K) (jp_i P)
def q_98 (xs : Nat → Int32) (L d : Nat) (v1 : Int) (v2 : Int) (v3 : Int) (J K : jZ) (P : Int → jZ → jZ → Prop) : Prop := jm_Q xs L d 98 [.ref 0, .int (Int32.ofInt v1), .int (Int32.ofInt v2), .int (Int32.ofInt v3)] (jz_H J K) (jp_i P)
def q_99 (xs : Nat → Int32) (L d : Nat) (v0 : Nat) (J K : jZ) (P : Int → jZ → jZ → Prop) : Prop := jm_Q xs L d 99 [.ref v0] (jz_H J K) (jp_i P)
def q_100 (xs : Nat → Int32) (L d : Nat) (v0 : Nat) (J K : jZ) (P : Int → jZ → jZ → Prop) : Prop := jm_Q xs L d 100 [.ref v0] (jz_H J K) (jp_i P)
def q_102 (xs : Nat → Int32) (L d : Nat) (v1 : Int) (v2 : Int) (v3 : Int) (J K : jZ) (P : Int → jZ → jZ → Prop) : Prop := jm_Q xs L d 102 [.ref 0, .int (Int32.ofInt v1), .int (Int32.ofInt v2), .int (Int32.ofInt v3)] (jz_H J K) (jp_i P)
def q_103 (xs : Nat → Int32) (L d : Nat) (v1 : Int) (v2 : Int) (v3 : Int) (v4 : Int) (v5 : Int) (J K : jZ) (P : Int → jZ → jZ → Prop) : Prop := jm_Q xs L d 103 [.ref 0, .int (Int32.ofInt v1), .int (Int32.ofInt v2), .int (Int32.ofInt v3), .int (Int32.ofInt v4), .int (Int32.ofInt v5)] (jz_H J K) (jp_i P)
def q_104 (xs : Nat → Int32) (L d : Nat) (v1 : Int) (J K : jZ) (P : Int → jZ → jZ → Prop) : Prop := jm_Q xs L d 104 [.ref 0, .int (Int32.ofInt v1)] (jz_H J K) (jp_i P)
def q_105 (xs : Nat → Int32) (L d : Nat) (v1 : Int) (v2 : Int) (J K : jZ) (P : Int → jZ → jZ → Prop) : Prop := jm_Q xs L d 105 [.ref 0, .int (Int32.ofInt v1), .int (Int32.ofInt v2)] (jz_H J K) (jp_i P)
def q_106 (xs : Nat → Int32) (L d : Nat) (v1 : Int) (v2 : Int) (v3 : Int) (v4 : Int) (J K : jZ) (P : Int → jZ → jZ → Prop) : Prop := jm_Q xs L d 106 [.ref 0, .int (Int32.ofInt v1), .int (Int32.ofInt v2), .int (Int32.ofInt v3), .int (Int32.ofInt v4)] (jz_H J K) (jp_i P)
def q_107 (xs : Nat → Int32) (L d : Nat) (J K : jZ) (P : Int → jZ → jZ → Prop) : Prop := jm_Q xs L d 107 [.ref 0] (jz_H J K) (jp_i P)
def q_108 (xs : Nat → Int32) (L d : Nat) (v1 : Int) (J K : jZ) (P : jZ → jZ → Prop) : Prop := jm_Q xs L d 108 [.ref 61, .int (Int32.ofInt v1)] (jz_H J K) (jp_v P)
def q_109 (xs : Nat → Int32) (L d : Nat) (J K : jZ) (P : jZ → jZ → Prop) : Prop := jm_Q xs L d 109 [.ref 0] (jz_H J K) (jp_v P)
def l_109_2 (xs : Nat → Int32) (L d : Nat) (v1 : Int) (J K : jZ) (P : jZ → jZ → Prop) : Prop := jm_W xs L d 109 2 [some (.ref 0), some (.int (Int32.ofInt v1))] [] (jz_H J K) (jp_v P)
def q_110 (xs : Nat → Int32) (L d : Nat) (v1 : Int) (v2 : Int) (J K : jZ) (P : Int → jZ → jZ → Prop) : Prop := jm_Q xs L d 110 [.ref 0, .int (Int32.ofInt v1), .int (Int32.ofInt v2)] (jz_H J K) (jp_i P)
def q_111 (xs : Nat → Int32) (L d : Nat) (v1 : Int) (v2 : Int) (J K : jZ) (P : Int → jZ → jZ → Prop) : Prop := jm_Q xs L d 111 [.ref 0, .int (Int32.ofInt v1), .int (Int32.ofInt v2)] (jz_H J K) (jp_i P)
def q_112 (xs : Nat → Int32) (L d : Nat) (v0 : Nat) (v1 : Int) (v2 : Int) (J K : jZ) (P : Int → jZ → jZ → Prop) : Prop := jm_Q xs L d 112 [.ref v0, .int (Int32.ofInt v1), .int (Int32.ofInt v2)] (jz_H J K) (jp_i P)
def l_112_5 (xs : Nat → Int32) (L d : Nat) (v0 : Nat) (v1 : Int) (v2 : Int) (v3 : Int) (v4 : Int) (J K : jZ) (P : Int → jZ → jZ → Prop) : Prop := jm_W xs L d 112 5 [some (.ref v0), some (.int (Int32.ofInt v1)), some (.int (Int32.ofInt v2)), some (.int (Int32.ofInt v3)), some (.int (Int32.ofInt v4))] [] (jz_H J K) (jp_i P)
def q_113 (xs : Nat → Int32) (L d : Nat) (v1 : Int) (J K : jZ) (P : Int → jZ → jZ → Prop) : Prop := jm_Q xs L d 113 [.ref 0, .int (Int32.ofInt v1)] (jz_H J K) (jp_i P)
def q_114 (xs : Nat → Int32) (L d : Nat) (v1 : Int) (v2 : Int) (J K : jZ) (P : Int → jZ → jZ → Prop) : Prop := jm_Q xs L d 114 [.ref 0, .int (Int32.ofInt v1), .int (Int32.ofInt v2)] (jz_H J K) (jp_i P)
def q_115 (xs : Nat → Int32) (L d : Nat) (v0 : Nat) (v1 : Int) (J K : jZ) (P : Int → jZ → jZ → Prop) : Prop := jm_Q xs L d 115 [.ref v0, .int (Int32.ofInt v1)] (jz_H J K) (jp_i P)
def q_116 (xs : Nat → Int32) (L d : Nat) (v1 : Int) (v2 : Int) (v3 : Int) (J K : jZ) (P : Int → jZ → jZ → Prop) : Prop := jm_Q xs L d 116 [.ref 0, .int (Int32.ofInt v1), .int (Int32.ofInt v2), .int (Int32.ofInt v3)] (jz_H J K) (jp_i P)
def q_117 (xs : Nat → Int32) (L d : Nat) (v0 : Nat) (v1 : Int) (J K : jZ) (P : Int → jZ → jZ → Prop) : Prop := jm_Q xs L d 117 [.ref v0, .int (Int32.ofInt v1)] (jz_H J K) (jp_i P)
def q_118 (xs : Nat → Int32) (L d : Nat) (v0 : Nat) (v1 : Int) (J K : jZ) (P : Int → jZ → jZ → Prop) : Prop := jm_Q xs L d 118 [.ref v0, .int (Int32.ofInt v1)] (jz_H J K) (jp_i P)
def l_118_2 (xs : Nat → Int32) (L d : Nat) (v0 : Nat) (v1 : Int) (v2 : Int) (J K : jZ) (P : Int → jZ → jZ → Prop) : Prop := jm_W xs L d 118 2 [some (.ref v0), some (.int (Int32.ofInt v1)), some (.int (Int32.ofInt v2))] [] (jz_H J K) (jp_i P)
def q_123 (xs : Nat → Int32) (L d : Nat) (v1 : Int) (v2 : Int) (J K : jZ) (P : Int → jZ → jZ → Prop) : Prop := jm_Q xs L d 123 [.ref 0, .int (Int32.ofInt v1), .int (Int32.ofInt v2)] (jz_H J K) (jp_i P)
def l_123_60 (xs : Nat → Int32) (L d : Nat) (v2 : Int) (v3 : Nat) (v4 : Int) (v5 : Int) (v6 : Int) (v7 : Int) (J K : jZ) (P : Int → jZ → jZ → Prop) : Prop := jm_W xs L d 123 60 [none, none, some (.int (Int32.ofInt v2)), some (.ref v3), some (.int (Int32.ofInt v4)), some (.int (Int32.ofInt v5)), some (.int (Int32.ofInt v6)), some (.int (Int32.ofInt v7)), none] [] (jz_H J K) (jp_i P)
def q_124 (xs : Nat → Int32) (L d : Nat) (v1 : Int) (v2 : Int) (J K : jZ) (P : Int → jZ → jZ → Prop) : Prop := jm_Q xs L d 124 [.ref 0, .int (Int32.ofInt v1), .int (Int32.ofInt v2)] (jz_H J K) (jp_i P)
def q_125 (xs : Nat → Int32) (L d : Nat) (v0 : Nat) (J K : jZ) (P : Int → jZ → jZ → Prop) : Prop := jm_Q xs L d 125 [.ref v0] (jz_H J K) (jp_i P)
def l_125_6 (xs : Nat → Int32) (L d : Nat) (v0 : Nat) (v1 : Int) (v2 : Int) (v3 : Int) (J K : jZ) (P : Int → jZ → jZ → Prop) : Prop := jm_W xs L d 125 6 [some (.ref v0), some (.int (Int32.ofInt v1)), some (.int (Int32.ofInt v2)), some (.int (Int32.ofInt v3))] [] (jz_H J K) (jp_i P)
def q_126 (xs : Nat → Int32) (L d : Nat) (v0 : Nat) (v1 : Int) (J K : jZ) (P : Int → jZ → jZ → Prop) : Prop := jm_Q xs L d 126 [.ref v0, .int (Int32.ofInt v1)] (jz_H J K) (jp_i P)
def l_126_7 (xs : Nat → Int32) (L d : Nat) (v0 : Nat) (v1 : Int) (v2 : Int) (v3 : Int) (v4 : Int) (J K : jZ) (P : Int → jZ → jZ → Prop) : Prop := jm_W xs L d 126 7 [some (.ref v0), some (.int (Int32.ofInt v1)), some (.int (Int32.ofInt v2)), some (.int (Int32.ofInt v3)), some (.int (Int32.ofInt v4))] [] (jz_H J K) (jp_i P)
def q_127 (xs : Nat → Int32) (L d : Nat) (v1 : Int) (v2 : Int) (J K : jZ) (P : Int → jZ → jZ → Prop) : Prop := jm_Q xs L d 127 [.ref 0, .int (Int32.ofInt v1), .int (Int32.ofInt v2)] (jz_H J K) (jp_i P)
def q_129 (xs : Nat → Int32) (L d : Nat) (v0 : Nat) (v1 : Int) (J K : jZ) (P : Int → jZ → jZ → Prop) : Prop := jm_Q xs L d 129 [.ref v0, .int (Int32.ofInt v1)] (jz_H J K) (jp_i P)
def q_136 (xs : Nat → Int32) (L d : Nat) (v1 : Int) (v2 : Int) (v3 : Int) (J K : jZ) (P : Int → jZ → jZ → Prop) : Prop := jm_Q xs L d 136 [.ref 0, .int (Int32.ofInt v1), .int (Int32.ofInt v2), .int (Int32.ofInt v3)] (jz_H J K) (jp_i P)
def q_137 (xs : Nat → Int32) (L d : Nat) (v0 : Nat) (v1 : Nat) (J K : jZ) (P : Int → jZ → jZ → Prop) : Prop := jm_Q xs L d 137 [.ref v0, .ref v1] (jz_H J K) (jp_i P)
def l_137_7 (xs : Nat → Int32) (L d : Nat) (v0 : Nat) (v1 : Nat) (v2 : Int) (v3 : Int) (v4 : Int) (J K : jZ) (P : Int → jZ → jZ → Prop) : Prop := jm_W xs L d 137 7 [some (.ref v0), some (.ref v1), some (.int (Int32.ofInt v2)), some (.int (Int32.ofInt v3)), some (.int (Int32.ofInt v4))] [] (jz_H J K) (jp_i P)
def q_138 (xs : Nat → Int32) (L d : Nat) (v1 : Int) (v2 : Int) (J K : jZ) (P : Int → jZ → jZ → Prop) : Prop := jm_Q xs L d 138 [.ref 0, .int (Int32.ofInt v1), .int (Int32.ofInt v2)] (jz_H J K) (jp_i P)
def q_139 (xs : Nat → Int32) (L d : Nat) (v0 : Nat) (v1 : Nat) (J K : jZ) (P : Int → jZ → jZ → Prop) : Prop := jm_Q xs L d 139 [.ref v0, .ref v1] (jz_H J K) (jp_i P)
def l_139_14 (xs : Nat → Int32) (L d : Nat) (v0 : Nat) (v1 : Nat) (v2 : Int) (v3 : Int) (J K : jZ) (P : Int → jZ → jZ → Prop) : Prop := jm_W xs L d 139 14 [some (.ref v0), some (.ref v1), some (.int (Int32.ofInt v2)), some (.int (Int32.ofInt v3))] [] (jz_H J K) (jp_i P)
def q_141 (xs : Nat → Int32) (L d : Nat) (v1 : Int) (J K : jZ) (P : Int → jZ → jZ → Prop) : Prop := jm_Q xs L d 141 [.ref 0, .int (Int32.ofInt v1)] (jz_H J K) (jp_i P)
def l_141_32 (xs : Nat → Int32) (L d : Nat) (v2 : Nat) (v3 : Int) (v4 : Int) (J K : jZ) (P : Int → jZ → jZ → Prop) : Prop := jm_W xs L d 141 32 [some (.ref 0), none, some (.ref v2), some (.int (Int32.ofInt v3)), some (.int (Int32.ofInt v4)), none] [] (jz_H J K) (jp_i P)
def q_148 (xs : Nat → Int32) (L d : Nat) (v0 : Nat) (v1 : Nat) (v2 : Int) (J K : jZ) (P : Int → jZ → jZ → Prop) : Prop := jm_Q xs L d 148 [.ref v0, .ref v1, .int (Int32.ofInt v2)] (jz_H J K) (jp_i P)
def l_148_15 (xs : Nat → Int32) (L d : Nat) (v0 : Nat) (v1 : Nat) (v2 : Int) (v3 : Int) (J K : jZ) (P : Int → jZ → jZ → Prop) : Prop := jm_W xs L d 148 15 [some (.ref v0), some (.ref v1), some (.int (Int32.ofInt v2)), some (.int (Int32.ofInt v3)), none] [] (jz_H J K) (jp_i P)
def l_148_72 (xs : Nat → Int32) (L d : Nat) (v0 : Nat) (v1 : Nat) (v2 : Int) (v3 : Int) (J K : jZ) (P : Int → jZ → jZ → Prop) : Prop := jm_W xs L d 148 72 [some (.ref v0), some (.ref v1), some (.int (Int32.ofInt v2)), some (.int (Int32.ofInt v3)), none] [] (jz_H J K) (jp_i P)
def q_149 (xs : Nat → Int32) (L d : Nat) (v1 : Int) (v2 : Int) (v3 : Int) (J K : jZ) (P : Int → jZ → jZ → Prop) : Prop := jm_Q xs L d 149 [.ref 0, .int (Int32.ofInt v1), .int (Int32.ofInt v2), .int (Int32.ofInt v3)] (jz_H J K) (jp_i P)
def q_153 (xs : Nat → Int32) (L d : Nat) (v1 : Int) (J K : jZ) (P : Int → jZ → jZ → Prop) : Prop := jm_Q xs L d 153 [.ref 0, .int (Int32.ofInt v1)] (jz_H J K) (jp_i P)
def l_153_20 (xs : Nat → Int32) (L d : Nat) (v1 : Int) (v2 : Int) (J K : jZ) (P : Int → jZ → jZ → Prop) : Prop := jm_W xs L d 153 20 [some (.ref 0), some (.int (Int32.ofInt v1)), some (.int (Int32.ofInt v2))] [] (jz_H J K) (jp_i P)
def q_154 (xs : Nat → Int32) (L d : Nat) (v0 : Nat) (J K : jZ) (P : jZ → jZ → Prop) : Prop := jm_Q xs L d 154 [.ref v0] (jz_H J K) (jp_v P)
def q_155 (xs : Nat → Int32) (L d : Nat) (v0 : Nat) (v1 : Int) (J K : jZ) (P : Int → jZ → jZ → Prop) : Prop := jm_Q xs L d 155 [.ref v0, .int (Int32.ofInt v1)] (jz_H J K) (jp_i P)
def q_157 (xs : Nat → Int32) (L d : Nat) (J K : jZ) (P : Int → jZ → jZ → Prop) : Prop := jm_Q xs L d 157 [.ref 0] (jz_H J K) (jp_i P)
def q_158 (xs : Nat → Int32) (L d : Nat) (v0 : Nat) (v1 : Nat) (J K : jZ) (P : jZ → jZ → Prop) : Prop := jm_Q xs L d 158 [.ref v0, .ref v1] (jz_H J K) (jp_v P)
def q_159 (xs : Nat → Int32) (L d : Nat) (v0 : Nat) (v1 : Nat) (J K : jZ) (P : jZ → jZ → Prop) : Prop := jm_Q xs L d 159 [.ref v0, .ref v1] (jz_H J K) (jp_v P)
def l_159_10 (xs : Nat → Int32) (L d : Nat) (v0 : Nat) (v1 : Nat) (v2 : Int) (J K : jZ) (P : jZ → jZ → Prop) : Prop := jm_W xs L d 159 10 [some (.ref v0), some (.ref v1), some (.int (Int32.ofInt v2))] [] (jz_H J K) (jp_v P)
def q_160 (xs : Nat → Int32) (L d : Nat) (v0 : Nat) (v1 : Nat) (J K : jZ) (P : jZ → jZ → Prop) : Prop := jm_Q xs L d 160 [.ref v0, .ref v1] (jz_H J K) (jp_v P)
def q_161 (xs : Nat → Int32) (L d : Nat) (J K : jZ) (P : Int → jZ → jZ → Prop) : Prop := jm_Q xs L d 161 [.ref 0] (jz_H J K) (jp_i P)
def q_162 (xs : Nat → Int32) (L d : Nat) (v1 : Int) (J K : jZ) (P : Int → jZ → jZ → Prop) : Prop := jm_Q xs L d 162 [.ref 0, .int (Int32.ofInt v1)] (jz_H J K) (jp_i P)
def q_163 (xs : Nat → Int32) (L d : Nat) (v0 : Nat) (J K : jZ) (P : Int → jZ → jZ → Prop) : Prop := jm_Q xs L d 163 [.ref v0] (jz_H J K) (jp_i P)
def l_163_4 (xs : Nat → Int32) (L d : Nat) (v0 : Nat) (v1 : Int) (v2 : Int) (J K : jZ) (P : Int → jZ → jZ → Prop) : Prop := jm_W xs L d 163 4 [some (.ref v0), some (.int (Int32.ofInt v1)), some (.int (Int32.ofInt v2))] [] (jz_H J K) (jp_i P)
def q_164 (xs : Nat → Int32) (L d : Nat) (v0 : Int) (J K : jZ) (P : Int → jZ → jZ → Prop) : Prop := jm_Q xs L d 164 [.int (Int32.ofInt v0)] (jz_H J K) (jp_i P)
def q_165 (xs : Nat → Int32) (L d : Nat) (v0 : Nat) (J K : jZ) (P : Int → jZ → jZ → Prop) : Prop := jm_Q xs L d 165 [.ref v0] (jz_H J K) (jp_i P)
def l_165_4 (xs : Nat → Int32) (L d : Nat) (v0 : Nat) (v1 : Int) (v2 : Int) (J K : jZ) (P : Int → jZ → jZ → Prop) : Prop := jm_W xs L d 165 4 [some (.ref v0), some (.int (Int32.ofInt v1)), some (.int (Int32.ofInt v2))] [] (jz_H J K) (jp_i P)
def q_166 (xs : Nat → Int32) (L d : Nat) (J K : jZ) (P : Int → jZ → jZ → Prop) : Prop := jm_Q xs L d 166 [.ref 0] (jz_H J K) (jp_i P)
def l_166_4 (xs : Nat → Int32) (L d : Nat) (v1 : Int) (v2 : Int) (J K : jZ) (P : Int → jZ → jZ → Prop) : Prop := jm_W xs L d 166 4 [some (.ref 0), some (.int (Int32.ofInt v1)), some (.int (Int32.ofInt v2))] [] (jz_H J K) (jp_i P)
def q_167 (xs : Nat → Int32) (L d : Nat) (v1 : Int) (J K : jZ) (P : Int → jZ → jZ → Prop) : Prop := jm_Q xs L d 167 [.retAddr 0, .int (Int32.ofInt v1)] (jz_H J K) (jp_i P)
def q_168 (xs : Nat → Int32) (L d : Nat) (v2 : Int) (J K : jZ) (P : jZ → jZ → Prop) : Prop := jm_Q xs L d 168 [.ref 0, .retAddr 0, .int (Int32.ofInt v2)] (jz_H J K) (jp_v P)
def q_169 (xs : Nat → Int32) (L d : Nat) (J K : jZ) (P : Int → jZ → jZ → Prop) : Prop := jm_Q xs L d 169 [.ref 0] (jz_H J K) (jp_i P)
def l_169_5 (xs : Nat → Int32) (L d : Nat) (v1 : Int) (v2 : Int) (J K : jZ) (P : Int → jZ → jZ → Prop) : Prop := jm_W xs L d 169 5 [some (.ref 0), some (.int (Int32.ofInt v1)), some (.int (Int32.ofInt v2))] [] (jz_H J K) (jp_i P)
def q_170 (xs : Nat → Int32) (L d : Nat) (v1 : Int) (J K : jZ) (P : Int → jZ → jZ → Prop) : Prop := jm_Q xs L d 170 [.ref 0, .int (Int32.ofInt v1)] (jz_H J K) (jp_i P)
def l_170_17 (xs : Nat → Int32) (L d : Nat) (v1 : Int) (v2 : Int) (v3 : Int) (v4 : Int) (v6 : Int) (J K : jZ) (P : Int → jZ → jZ → Prop) : Prop := jm_W xs L d 170 17 [some (.ref 0), some (.int (Int32.ofInt v1)), some (.int (Int32.ofInt v2)), some (.int (Int32.ofInt v3)), some (.int (Int32.ofInt v4)), none, some (.int (Int32.ofInt v6)), none] [] (jz_H J K) (jp_i P)
def l_170_225 (xs : Nat → Int32) (L d : Nat) (v1 : Int) (v2 : Int) (v6 : Int) (v7 : Int) (J K : jZ) (P : Int → jZ → jZ → Prop) : Prop := jm_W xs L d 170 225 [some (.ref 0), some (.int (Int32.ofInt v1)), some (.int (Int32.ofInt v2)), none, none, none, some (.int (Int32.ofInt v6)), some (.int (Int32.ofInt v7))] [] (jz_H J K) (jp_i P)
def q_171 (xs : Nat → Int32) (L d : Nat) (v1 : Int) (J K : jZ) (P : Int → jZ → jZ → Prop) : Prop := jm_Q xs L d 171 [.ref 0, .int (Int32.ofInt v1)] (jz_H J K) (jp_i P)
def l_173_8 (xs : Nat → Int32) (L d : Nat) (J K : jZ) (P : Int → jZ → jZ → Prop) : Prop := jm_W xs L d 173 8 [some (.retAddr 0), some (.ref 0), none, none, none, none, none, none, none] [] (jz_H J K) (jp_i P)
def l_173_25 (xs : Nat → Int32) (L d : Nat) (v2 : Int) (v3 : Int) (J K : jZ) (P : Int → jZ → jZ → Prop) : Prop := jm_W xs L d 173 25 [some (.retAddr 0), some (.ref 0), some (.int (Int32.ofInt v2)), some (.int (Int32.ofInt v3)), none, none, none, none, none] [] (jz_H J K) (jp_i P)
def l_173_156 (xs : Nat → Int32) (L d : Nat) (v4 : Int) (v5 : Int) (J K : jZ) (P : Int → jZ → jZ → Prop) : Prop := jm_W xs L d 173 156 [none, some (.ref 0), none, none, some (.int (Int32.ofInt v4)), some (.int (Int32.ofInt v5)), none, none, none] [] (jz_H J K) (jp_i P)
def l_173_220 (xs : Nat → Int32) (L d : Nat) (v4 : Int) (v5 : Int) (v6 : Int) (v7 : Int) (v8 : Int) (J K : jZ) (P : Int → jZ → jZ → Prop) : Prop := jm_W xs L d 173 220 [none, some (.ref 0), none, none, some (.int (Int32.ofInt v4)), some (.int (Int32.ofInt v5)), some (.int (Int32.ofInt v6)), some (.int (Int32.ofInt v7)), some (.int (Int32.ofInt v8))] [] (jz_H J K) (jp_i P)
def l_173_300 (xs : Nat → Int32) (L d : Nat) (v4 : Int) (v7 : Int) (v8 : Int) (J K : jZ) (P : Int → jZ → jZ → Prop) : Prop := jm_W xs L d 173 300 [none, some (.ref 0), none, none, some (.int (Int32.ofInt v4)), none, none, some (.int (Int32.ofInt v7)), some (.int (Int32.ofInt v8))] [] (jz_H J K) (jp_i P)
