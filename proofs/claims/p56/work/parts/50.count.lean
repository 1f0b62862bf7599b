/-! How many bits: the class's way and the reference's. -/
def zp_1 (v : Nat) : Nat := v - ((v >>> 1) &&& 1431655765)
def zp_2 (v : Nat) : Nat := (v &&& 858993459) + ((v >>> 2) &&& 858993459)
def zp_3 (v : Nat) : Nat := (v + (v >>> 4)) &&& 252645135
def zp_4 (v : Nat) : Nat := v + (v >>> 8)
def zp_5 (v : Nat) : Nat := (v + (v >>> 16)) &&& 63
def zp_c (v : Nat) : Nat := zp_5 (zp_4 (zp_3 (zp_2 (zp_1 v))))
theorem zp_all : ∀ a : Nat, a < 256 → ∀ b : Nat, b < 256 → (256 * a + b = 0 ∨ zp_c (256 * a + b) = zp_c ((256 * a + b) &&& (256 * a + b - 1)) + 1) := by decide +kernel
