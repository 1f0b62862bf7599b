/-! Bits of ints. -/
def zb (x : Int) (j : Nat) : Prop := (BitVec.ofInt 32 x).getLsbD j = true
theorem zb_t (v : Int32) : BitVec.ofInt 32 v.toInt = v.toBitVec := congrArg Int32.toBitVec (Int32.ofInt_toInt v)
theorem zb_lt {x : Int} {j : Nat} (h : zb x j) : j < 32 := by
  by_cases q : j < 32
  · exact q
  · unfold zb at h
    rw [BitVec.getLsbD_of_ge _ _ (by omega)] at h
    cases h
theorem zb_and {x y : Int} {j : Nat} : zb (jz_and x y) j ↔ zb x j ∧ zb y j := by
  unfold zb jz_and
  rw [zb_t, show (Int32.ofInt x &&& Int32.ofInt y).toBitVec = BitVec.ofInt 32 x &&& BitVec.ofInt 32 y from rfl, BitVec.getLsbD_and, Bool.and_eq_true]
theorem zb_or {x y : Int} {j : Nat} : zb (jz_or x y) j ↔ zb x j ∨ zb y j := by
  unfold zb jz_or
  rw [zb_t, show (Int32.ofInt x ||| Int32.ofInt y).toBitVec = BitVec.ofInt 32 x ||| BitVec.ofInt 32 y from rfl, BitVec.getLsbD_or, Bool.or_eq_true]
theorem zb_xor {x y : Int} {j : Nat} : zb (jz_xor x y) j ↔ ¬ (zb x j ↔ zb y j) := by
  unfold zb jz_xor
  rw [zb_t, show (Int32.ofInt x ^^^ Int32.ofInt y).toBitVec = BitVec.ofInt 32 x ^^^ BitVec.ofInt 32 y from rfl, BitVec.getLsbD_xor]
  cases (BitVec.ofInt 32 x).getLsbD j <;> cases (BitVec.ofInt 32 y).getLsbD j <;> simp
theorem zb_am : ∀ j : Nat, j < 32 → ((Int32.ofInt (j : Int) &&& 31).toBitVec.smod 32).toNat = j := by decide +kernel
theorem zb_shl {x : Int} {j k : Nat} (hj : j < 32) : zb (jz_shl x j) k ↔ k < 32 ∧ j ≤ k ∧ zb x (k - j) := by
  unfold zb jz_shl
  rw [zb_t, show (Int32.ofInt x <<< (Int32.ofInt (j : Int) &&& 31)).toBitVec = BitVec.ofInt 32 x <<< ((Int32.ofInt (j : Int) &&& 31).toBitVec.smod 32) from rfl, BitVec.getLsbD_shiftLeft', zb_am j hj]
  simp [and_assoc]
theorem zb_shr {x : Int} {j k : Nat} (hj : j < 32) (hk : j + k < 32) : zb (jz_shr x j) k ↔ zb x (j + k) := by
  unfold zb jz_shr
  rw [zb_t, show (Int32.ofInt x >>> (Int32.ofInt (j : Int) &&& 31)).toBitVec = (BitVec.ofInt 32 x).sshiftRight ((Int32.ofInt (j : Int) &&& 31).toBitVec.smod 32).toNat from rfl, BitVec.getLsbD_sshiftRight, zb_am j hj, if_pos hk]
  simp only [Bool.and_eq_true, Bool.not_eq_true', decide_eq_false_iff_not]
  exact ⟨fun h => h.2, fun h => ⟨by omega, h⟩⟩
theorem zb_0 {j : Nat} : ¬ zb 0 j := by
  unfold zb
  rw [show BitVec.ofInt 32 0 = 0#32 from rfl]
  simp
theorem zb_1 {j : Nat} : zb 1 j ↔ j = 0 := by
  unfold zb
  rw [show BitVec.ofInt 32 1 = 1#32 from rfl, BitVec.getLsbD_one]
  simp
theorem zb_m1 {j : Nat} : zb (-1) j ↔ j < 32 := by
  constructor
  · exact zb_lt
  · intro h
    unfold zb
    have : ∀ j : Nat, j < 32 → (BitVec.ofInt 32 (-1)).getLsbD j = true := by decide +kernel
    exact this j h
theorem zb_ext {x y : Int} (hx : -2147483648 ≤ x ∧ x < 2147483648) (hy : -2147483648 ≤ y ∧ y < 2147483648) (h : ∀ j, j < 32 → (zb x j ↔ zb y j)) : x = y := by
  have e : BitVec.ofInt 32 x = BitVec.ofInt 32 y := BitVec.eq_of_getLsbD_eq (fun j hj => by
    have := h j hj
    unfold zb at this
    cases q : (BitVec.ofInt 32 x).getLsbD j <;> cases q2 : (BitVec.ofInt 32 y).getLsbD j <;> simp_all)
  have e2 : Int32.ofInt x = Int32.ofInt y := Int32.toBitVec_inj.mp e
  exact (jz_eq hx hy).mp e2
theorem zb_tst {x : Int} {j : Nat} (hj : j < 32) : (jz_and (jz_shr x j) 1 = 0 ↔ ¬ zb x j) ∧ (jz_and (jz_shr x j) 1 = 1 ↔ zb x j) := by
  have hb : ∀ k, k < 32 → (zb (jz_and (jz_shr x j) 1) k ↔ (k = 0 ∧ zb x j)) := fun k hk => by
    rw [zb_and, zb_1]
    constructor
    · rintro ⟨a, rfl⟩
      rw [zb_shr hj (by omega)] at a
      exact ⟨rfl, a⟩
    · rintro ⟨rfl, a⟩
      rw [zb_shr hj (by omega)]
      exact ⟨a, rfl⟩
  by_cases q : zb x j
  · have e : jz_and (jz_shr x j) 1 = 1 := zb_ext jz_and_r (by omega) (fun k hk => by
      rw [hb k hk, zb_1]
      exact ⟨fun h => h.1, fun h => ⟨h, q⟩⟩)
    rw [e]
    exact ⟨⟨fun h => by omega, fun h => absurd q h⟩, ⟨fun _ => q, fun _ => rfl⟩⟩
  · have e : jz_and (jz_shr x j) 1 = 0 := zb_ext jz_and_r (by omega) (fun k hk => by
      rw [hb k hk]
      exact ⟨fun h => absurd h.2 q, fun h => absurd h zb_0⟩)
    rw [e]
    exact ⟨⟨fun _ => q, fun _ => rfl⟩, ⟨fun h => by omega, fun h => absurd h q⟩⟩
theorem zb_bit {w j : Nat} (hw : w < 32) : zb (jz_shl 1 w) j ↔ j = w := by
  rw [zb_shl hw, zb_1]
  omega
theorem zb_shr0 {j : Nat} (hj : j < 32) : jz_and (jz_shr 0 j) 1 = 0 := (zb_tst hj).1.mpr zb_0
theorem zb_a01 {a : Int} (h : a = 0 ∨ a = 1) : jz_and a 0 = 0 ∧ jz_and a 1 = a := by
  rcases h with rfl | rfl <;> decide
