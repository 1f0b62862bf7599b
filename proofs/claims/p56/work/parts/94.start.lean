/-! One more zero behind the constructors. -/
set_option maxRecDepth 100000 in
theorem jm_i0g : jm_i0 (fun H => H.2.1 63 2 == 0) = true := by decide +kernel
/-! Where the calls begin. -/
noncomputable def jJ0 : jZ := fun a k => (jm_Hd.2.1 a k).toInt
noncomputable def jK0 : jZ := fun a k => (jm_Hd.2.2 a k).toInt
theorem jHx : ∀ H : jm_H, (H.1, (fun a k => Int32.ofInt (H.2.1 a k).toInt), (fun a k => Int64.ofInt (H.2.2 a k).toInt)) = H
  | (S, I, G) => by
    show (S, (fun a k => Int32.ofInt (I a k).toInt), (fun a k => Int64.ofInt (G a k).toInt)) = (S, I, G)
    simp only [Int32.ofInt_toInt, Int64.ofInt_toInt]
theorem jH0 : jz_H jJ0 jK0 = jm_Hd := jHx jm_Hd
theorem jx_i (H : jm_H) (h : jm_oki H = true) {a k : Nat} {v : Int} (hm : (a, k, v) ∈ ([(0, 11, 0), (1, 3, 0), (9, 1, 0), (61, 5, 0), (144, 1, 0), (1, 4, 1), (5, 4, 1), (61, 6, (-1)), (151, 2, (-1)), (153, 2, (-1)), (155, 2, (-1)), (157, 2, (-1)), (159, 2, (-1)), (161, 2, (-1)), (163, 2, (-1)), (165, 2, (-1))] : List (Nat × Nat × Int))) (hr : -2147483648 ≤ v ∧ v < 2147483648) : (H.2.1 a k).toInt = v := by
  unfold jm_oki at h
  have h2 := eq_of_beq (List.all_eq_true.mp h (a, k, v) hm)
  have h2 : H.2.1 a k = Int32.ofInt v := h2
  rw [h2, jz_i32 hr]
theorem jx_z (H : jm_H) (h : jm_okz H = true) {a n k : Nat} (hm : (a, n) ∈ ([(4, 16), (150, 5)] : List (Nat × Nat))) (hk : k < n) : (H.2.1 a k).toInt = 0 := by
  unfold jm_okz at h
  have h2 := List.all_eq_true.mp h (a, n) hm
  have h3 := eq_of_beq (List.all_eq_true.mp h2 k (List.mem_range.mpr hk))
  have h3 : H.2.1 a k = 0 := h3
  rw [h3]
  rfl
theorem jx_e (H : jm_H) (h : (H.2.1 63 2 == 0) = true) : (H.2.1 63 2).toInt = 0 := by
  rw [eq_of_beq h]
  rfl
theorem jJ_e : jJ0 63 2 = 0 := jx_e jm_Hd (jm_i3 (f := fun H => H.2.1 63 2 == 0) jm_i0g)
theorem jJ_z {a n k : Nat} (hm : (a, n) ∈ ([(4, 16), (150, 5)] : List (Nat × Nat))) (hk : k < n) : jJ0 a k = 0 := jx_z jm_Hd (jm_i3 jm_i0d) hm hk
theorem jJ_i {a k : Nat} {v : Int} (hm : (a, k, v) ∈ ([(0, 11, 0), (1, 3, 0), (9, 1, 0), (61, 5, 0), (144, 1, 0), (1, 4, 1), (5, 4, 1), (61, 6, (-1)), (151, 2, (-1)), (153, 2, (-1)), (155, 2, (-1)), (157, 2, (-1)), (159, 2, (-1)), (161, 2, (-1)), (163, 2, (-1)), (165, 2, (-1))] : List (Nat × Nat × Int))) (hr : -2147483648 ≤ v ∧ v < 2147483648) : jJ0 a k = v := jx_i jm_Hd (jm_i3 jm_i0e) hm hr
