/-! Fold. -/
noncomputable def zq_fo (T : zT) (A : zA) (kk : Int) (v : Nat → Int) : Nat → zL
  | 0 => zk_sem (-1) T A (v 0).toNat
  | k + 1 => zl_of (zp_off kk (zq_fo T A kk v k) (zk_sem (-1) T A (v (k + 1)).toNat))
def zq_fa (A : zA) (v : Nat → Int) (n : Nat) : Prop := ∀ e, e < n → 0 ≤ v e ∧ v e < A.1
theorem zq_fo_gd {T : zT} {A : zA} {kk : Int} {v : Nat → Int} (hT : zt_ok T) (hA : zA_ok A) {n : Nat} (h : zq_fa A v n) : ∀ k : Nat, k < n → zs_gd T.1 (zq_fo T A kk v k)
  | 0, hk => zS_gd hT hA (by have := h 0 hk; omega)
  | k + 1, hk => by
    have ih := zq_fo_gd (kk := kk) hT hA h k (by omega)
    have g := zS_gd hT hA (a := (v (k + 1)).toNat) (by have := h (k + 1) hk; omega)
    exact (zl_gd hT.1 (fun x y q => zp_off_b ih g q)).2
def zq_fv (l : zL) (i : Int) : Int := if i = -1 then (l.length : Int) else if 0 ≤ i ∧ i < (l.length : Int) then zs_t l i.toNat else -1
theorem jz_s2 {s : Nat} (h : s < 8) : jz_kd (151 + 2 * s + 1) = 2 ∧ (jz_ln (151 + 2 * s + 1) : Int) = 40 := ⟨jzk_15_1 (jz_e149 h), jzn_15_1 (jz_e149 h)⟩