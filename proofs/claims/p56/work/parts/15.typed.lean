/-! The small machine with integers for its numbers: instructions as rows, goal first. -/
abbrev jZ : Type := Nat → Nat → Int
def jz_kd (a : Nat) : Nat := match jm_lay0[a]? with
  | some q => q.1
  | none => 0
def jz_ln (a : Nat) : Nat := match jm_lay0[a]? with
  | some q => q.2.1
  | none => 0
def jz_rf (a k : Nat) : Option Nat := match jm_lay0[a]? with
  | some q => (match q.2.2[k]? with
    | some r => r
    | none => none)
  | none => none
noncomputable def jz_H (J K : jZ) : jm_H := (jm_S0, fun a k => Int32.ofInt (J a k), fun a k => Int64.ofInt (K a k))
theorem jz_cell {J K : jZ} {a : Nat} {q : Nat × Nat × List (Option Nat)} (h : jm_lay0[a]? = some q) : jm_kd (jz_H J K) a = q.1 ∧ jm_ln (jz_H J K) a = q.2.1 ∧ ∀ k r, q.2.2[k]? = some r → jm_rf (jz_H J K) a k = r := by
  have h0 := jm_i4 a
  unfold jm_okc at h0
  rw [h] at h0
  simp only [Bool.and_eq_true, beq_iff_eq] at h0
  obtain ⟨⟨h6, h7⟩, h8⟩ := h0
  rw [List.all_eq_true] at h8
  refine ⟨h6, h7, fun k r hk => ?_⟩
  have h9 := h8 (r, k) (List.mem_zipIdx_iff_getElem?.mpr hk)
  simp only [beq_iff_eq] at h9
  exact h9
theorem jz_kdH {J K : jZ} {a n : Nat} (h : jz_kd a = n + 1) : jm_kd (jz_H J K) a = n + 1 := by
  unfold jz_kd at h
  split at h
  · rename_i q hq
    rw [(jz_cell hq).1, h]
  · cases h
theorem jz_lnH {J K : jZ} {a n : Nat} (h : jz_kd a = n + 1) : jm_ln (jz_H J K) a = jz_ln a := by
  unfold jz_kd at h
  unfold jz_ln
  split at h
  · rename_i q hq
    rw [(jz_cell hq).2.1]
  · cases h
theorem jz_rfH {J K : jZ} {a k b : Nat} (h : jz_rf a k = some b) : jm_rf (jz_H J K) a k = some b := by
  unfold jz_rf at h
  split at h
  · rename_i q hq
    split at h
    · rename_i r hr
      rw [(jz_cell hq).2.2 k r hr, h]
    · cases h
  · cases h
theorem jz_i32 {x : Int} (h : -2147483648 ≤ x ∧ x < 2147483648) : (Int32.ofInt x).toInt = x := Int32.toInt_ofInt_of_le (by omega) (by omega)
theorem jz_i64 {x : Int} (h : -9223372036854775808 ≤ x ∧ x < 9223372036854775808) : (Int64.ofInt x).toInt = x := Int64.toInt_ofInt_of_le (by omega) (by omega)
theorem jz_lt {x y : Int} (hx : -2147483648 ≤ x ∧ x < 2147483648) (hy : -2147483648 ≤ y ∧ y < 2147483648) : Int32.ofInt x < Int32.ofInt y ↔ x < y := by rw [Int32.lt_iff_toInt_lt, jz_i32 hx, jz_i32 hy]
theorem jz_le {x y : Int} (hx : -2147483648 ≤ x ∧ x < 2147483648) (hy : -2147483648 ≤ y ∧ y < 2147483648) : Int32.ofInt x ≤ Int32.ofInt y ↔ x ≤ y := by rw [Int32.le_iff_toInt_le, jz_i32 hx, jz_i32 hy]
theorem jz_eq {x y : Int} (hx : -2147483648 ≤ x ∧ x < 2147483648) (hy : -2147483648 ≤ y ∧ y < 2147483648) : Int32.ofInt x = Int32.ofInt y ↔ x = y := by rw [← Int32.toInt_inj, jz_i32 hx, jz_i32 hy]
theorem jz_nat {i : Int} {n : Nat} (h : 0 ≤ i ∧ i < (n : Int)) (hn : n ≤ 2147483648) : 0 ≤ Int32.ofInt i ∧ (Int32.ofInt i).toNatClampNeg < n ∧ (Int32.ofInt i).toNatClampNeg = i.toNat := by
  have h1 : (Int32.ofInt i).toInt = i := jz_i32 (by omega)
  refine ⟨?_, ?_, ?_⟩
  · rw [Int32.le_iff_toInt_le, h1]
    exact h.1
  · rw [Int32.toNatClampNeg, h1]
    omega
  · rw [Int32.toNatClampNeg, h1]
theorem jz_up {J : jZ} {a k : Nat} {v : Int} : (jm_up (fun a k => Int32.ofInt (J a k)) a k (Int32.ofInt v)) = fun x y => Int32.ofInt (jm_up J a k v x y) := by
  funext x y
  unfold jm_up
  split <;> rfl
theorem jz_upl {J : jZ} {a k : Nat} {v : Int} : (jm_up (fun a k => Int64.ofInt (J a k)) a k (Int64.ofInt v)) = fun x y => Int64.ofInt (jm_up J a k v x y) := by
  funext x y
  unfold jm_up
  split <;> rfl
/-- n elements of cell s from sp on come into cell d from dp on -/
def jz_cpy (J : jZ) (s sp d dp n : Nat) : jZ := fun x y => if x = d then (if dp ≤ y ∧ y < dp + n then J s (sp + (y - dp)) else J d y) else J x y
theorem jz_cp {J : jZ} {s sp d dp n : Nat} : (jm_row (fun a k => Int32.ofInt (J a k)) d (va_cpy (fun k => Int32.ofInt (J s k)) (fun k => Int32.ofInt (J d k)) sp dp n)) = fun x y => Int32.ofInt (jz_cpy J s sp d dp n x y) := by
  funext x y
  unfold jm_row jz_cpy va_cpy
  split
  · dsimp only
    split <;> rfl
  · rfl
theorem jz_cpl {J : jZ} {s sp d dp n : Nat} : (jm_row (fun a k => Int64.ofInt (J a k)) d (va_cpy (fun k => Int64.ofInt (J s k)) (fun k => Int64.ofInt (J d k)) sp dp n)) = fun x y => Int64.ofInt (jz_cpy J s sp d dp n x y) := by
  funext x y
  unfold jm_row jz_cpy va_cpy
  split
  · dsimp only
    split <;> rfl
  · rfl
def jz_and (x y : Int) : Int := (Int32.ofInt x &&& Int32.ofInt y).toInt
def jz_or (x y : Int) : Int := (Int32.ofInt x ||| Int32.ofInt y).toInt
def jz_xor (x y : Int) : Int := (Int32.ofInt x ^^^ Int32.ofInt y).toInt
def jz_shl (x y : Int) : Int := (Int32.ofInt x <<< (Int32.ofInt y &&& 31)).toInt
def jz_shr (x y : Int) : Int := (Int32.ofInt x >>> (Int32.ofInt y &&& 31)).toInt
def jz_ushr (x y : Int) : Int := ((Int32.ofInt x).toUInt32 >>> ((Int32.ofInt y).toUInt32 &&& Int32.toUInt32 31)).toInt32.toInt
def jz_div (x y : Int) : Int := (Int32.ofInt x / Int32.ofInt y).toInt
def jz_rem (x y : Int) : Int := (Int32.ofInt x - Int32.ofInt x / Int32.ofInt y * Int32.ofInt y).toInt
def jz_b (x : Int) : Int := (Int32.ofInt x).toInt8.toInt32.toInt
def jz_s (x : Int) : Int := (Int32.ofInt x).toInt16.toInt32.toInt
def jz_lor (x y : Int) : Int := (Int64.ofInt x ||| Int64.ofInt y).toInt
def jz_land (x y : Int) : Int := (Int64.ofInt x &&& Int64.ofInt y).toInt
def jz_lshl (x y : Int) : Int := (Int64.ofInt x <<< ((Int32.ofInt y).toInt64 &&& 63)).toInt
theorem jz_and_r {x y : Int} : -2147483648 ≤ jz_and x y ∧ jz_and x y < 2147483648 := ⟨Int32.le_toInt _, Int32.toInt_lt _⟩
theorem jz_or_r {x y : Int} : -2147483648 ≤ jz_or x y ∧ jz_or x y < 2147483648 := ⟨Int32.le_toInt _, Int32.toInt_lt _⟩
theorem jz_shr_r {x y : Int} : -2147483648 ≤ jz_shr x y ∧ jz_shr x y < 2147483648 := ⟨Int32.le_toInt _, Int32.toInt_lt _⟩
theorem jz_ushr_r {x y : Int} : -2147483648 ≤ jz_ushr x y ∧ jz_ushr x y < 2147483648 := ⟨Int32.le_toInt _, Int32.toInt_lt _⟩
theorem jz_b_r {x : Int} : -2147483648 ≤ jz_b x ∧ jz_b x < 2147483648 := ⟨Int32.le_toInt _, Int32.toInt_lt _⟩
theorem jz_s_r {x : Int} : -2147483648 ≤ jz_s x ∧ jz_s x < 2147483648 := ⟨Int32.le_toInt _, Int32.toInt_lt _⟩
/-- what a method answers, by its sort -/
def jp_i (P : Int → jZ → jZ → Prop) : Option Value → jm_H → Prop := fun v H => ∃ r J K, v = some (.int (Int32.ofInt r)) ∧ H = jz_H J K ∧ P r J K
def jp_l (P : Int → jZ → jZ → Prop) : Option Value → jm_H → Prop := fun v H => ∃ r J K, v = some (.long (Int64.ofInt r)) ∧ H = jz_H J K ∧ P r J K
def jp_r (P : Nat → jZ → jZ → Prop) : Option Value → jm_H → Prop := fun v H => ∃ r J K, v = some (.ref r) ∧ H = jz_H J K ∧ P r J K
def jp_v (P : jZ → jZ → Prop) : Option Value → jm_H → Prop := fun v H => ∃ J K, v = none ∧ H = jz_H J K ∧ P J K
theorem jp_i_mono {P Q : Int → jZ → jZ → Prop} (h : ∀ r J K, P r J K → Q r J K) : ∀ v H, jp_i P v H → jp_i Q v H := fun _ _ ⟨r, J, K, h1, h2, h3⟩ => ⟨r, J, K, h1, h2, h _ _ _ h3⟩
theorem jp_l_mono {P Q : Int → jZ → jZ → Prop} (h : ∀ r J K, P r J K → Q r J K) : ∀ v H, jp_l P v H → jp_l Q v H := fun _ _ ⟨r, J, K, h1, h2, h3⟩ => ⟨r, J, K, h1, h2, h _ _ _ h3⟩
theorem jp_r_mono {P Q : Nat → jZ → jZ → Prop} (h : ∀ r J K, P r J K → Q r J K) : ∀ v H, jp_r P v H → jp_r Q v H := fun _ _ ⟨r, J, K, h1, h2, h3⟩ => ⟨r, J, K, h1, h2, h _ _ _ h3⟩
theorem jp_v_mono {P Q : jZ → jZ → Prop} (h : ∀ J K, P J K → Q J K) : ∀ v H, jp_v P v H → jp_v Q v H := fun _ _ ⟨J, K, h1, h2, h3⟩ => ⟨J, K, h1, h2, h _ _ h3⟩
section JZW
variable {xs : Nat → Int32} {L d mi pc n a b : Nat} {z : Int} {ls ls' : jm_L} {st : List Value} {H : jm_H} {J K : jZ} {P : Option Value → jm_H → Prop}
theorem jw_n {e : jm_I} {pc' : Nat} {st' : List Value} {H' : jm_H} (ht : jm_tab mi pc = some e) (hs : jm_stp xs L (jm_ex xs L d) e pc ls st H = jm_nx pc' ls' st' H') (h : jm_W xs L d mi pc' ls' st' H' P) : jm_W xs L d mi pc ls st H P := by
  rw [jm_W.next ht hs]
  exact h
theorem jw_iconst {c : Int} (ht : jm_tab mi pc = some (.iconst c, n, a, b, z)) (h : jm_W xs L d mi n ls (.int (Int32.ofInt c) :: st) H P) : jm_W xs L d mi pc ls st H P := jw_n ht rfl h
theorem jw_bipush {c : Int} (ht : jm_tab mi pc = some (.bipush c, n, a, b, z)) (hc : (Int8.ofInt c).toInt32 = Int32.ofInt c) (h : jm_W xs L d mi n ls (.int (Int32.ofInt c) :: st) H P) : jm_W xs L d mi pc ls st H P := jw_n ht rfl (by rw [hc]; exact h)
theorem jw_sipush {c : Int} (ht : jm_tab mi pc = some (.sipush c, n, a, b, z)) (hc : (Int16.ofInt c).toInt32 = Int32.ofInt c) (h : jm_W xs L d mi n ls (.int (Int32.ofInt c) :: st) H P) : jm_W xs L d mi pc ls st H P := jw_n ht rfl (by rw [hc]; exact h)
theorem jw_ldc {c : Nat} (ht : jm_tab mi pc = some (.ldc c, n, 0, b, z)) (h : jm_W xs L d mi n ls (.int (Int32.ofInt z) :: st) H P) : jm_W xs L d mi pc ls st H P := jw_n ht rfl h
theorem jw_ldc_w {c : Nat} (ht : jm_tab mi pc = some (.ldc_w c, n, a, b, z)) (h : jm_W xs L d mi n ls (.int (Int32.ofInt z) :: st) H P) : jm_W xs L d mi pc ls st H P := jw_n ht rfl h
theorem jw_ldc2_w {c : Nat} (ht : jm_tab mi pc = some (.ldc2_w c, n, a, b, z)) (h : jm_W xs L d mi n ls (.long (Int64.ofInt z) :: st) H P) : jm_W xs L d mi pc ls st H P := jw_n ht rfl h
theorem jw_lconst {c : Fin 2} {x : Int} (ht : jm_tab mi pc = some (.lconst c, n, a, b, z)) (hx : Int64.ofNat (c : Nat) = Int64.ofInt x) (h : jm_W xs L d mi n ls (.long (Int64.ofInt x) :: st) H P) : jm_W xs L d mi pc ls st H P := jw_n ht (by show jm_nx _ _ (.long (Int64.ofNat (c : Nat)) :: st) _ = _; rw [hx]) h
theorem jw_iload_n {k : Fin 4} {x : Int} (ht : jm_tab mi pc = some (.iload_n k, n, a, b, z)) (hl : ls[(k : Nat)]? = some (some (.int (Int32.ofInt x)))) (h : jm_W xs L d mi n ls (.int (Int32.ofInt x) :: st) H P) : jm_W xs L d mi pc ls st H P := jw_n ht (by simp only [jm_stp, hl]) h
theorem jw_iload {k : Nat} {x : Int} (ht : jm_tab mi pc = some (.iload k, n, a, b, z)) (hl : ls[k]? = some (some (.int (Int32.ofInt x)))) (h : jm_W xs L d mi n ls (.int (Int32.ofInt x) :: st) H P) : jm_W xs L d mi pc ls st H P := jw_n ht (by simp only [jm_stp, hl]) h
theorem jw_lload_n {k : Fin 4} {x : Int} (ht : jm_tab mi pc = some (.lload_n k, n, a, b, z)) (hl : ls[(k : Nat)]? = some (some (.long (Int64.ofInt x)))) (h : jm_W xs L d mi n ls (.long (Int64.ofInt x) :: st) H P) : jm_W xs L d mi pc ls st H P := jw_n ht (by simp only [jm_stp, hl]) h
theorem jw_lload {k : Nat} {x : Int} (ht : jm_tab mi pc = some (.lload k, n, a, b, z)) (hl : ls[k]? = some (some (.long (Int64.ofInt x)))) (h : jm_W xs L d mi n ls (.long (Int64.ofInt x) :: st) H P) : jm_W xs L d mi pc ls st H P := jw_n ht (by simp only [jm_stp, hl]) h
theorem jw_aload_n {k : Fin 4} {x : Nat} (ht : jm_tab mi pc = some (.aload_n k, n, a, b, z)) (hl : ls[(k : Nat)]? = some (some (.ref x))) (h : jm_W xs L d mi n ls (.ref x :: st) H P) : jm_W xs L d mi pc ls st H P := jw_n ht (by simp only [jm_stp, hl]) h
theorem jw_aload_s {k : Fin 4} {x : Nat} (ht : jm_tab mi pc = some (.aload_n k, n, a, b, z)) (hl : ls[(k : Nat)]? = some (some (.retAddr x))) (h : jm_W xs L d mi n ls (.retAddr x :: st) H P) : jm_W xs L d mi pc ls st H P := jw_n ht (by simp only [jm_stp, hl]) h
theorem jw_aload {k : Nat} {x : Nat} (ht : jm_tab mi pc = some (.aload k, n, a, b, z)) (hl : ls[k]? = some (some (.ref x))) (h : jm_W xs L d mi n ls (.ref x :: st) H P) : jm_W xs L d mi pc ls st H P := jw_n ht (by simp only [jm_stp, hl]) h
theorem jw_istore_n {k : Fin 4} {x : Int32} (ht : jm_tab mi pc = some (.istore_n k, n, a, b, z)) (hl : jm_st1 ls (k : Nat) (.int x) = some ls') (h : jm_W xs L d mi n ls' st H P) : jm_W xs L d mi pc ls (.int x :: st) H P := jw_n ht (by simp only [jm_stp, hl, jm_sto]) h
theorem jw_istore {k : Nat} {x : Int32} (ht : jm_tab mi pc = some (.istore k, n, a, b, z)) (hl : jm_st1 ls k (.int x) = some ls') (h : jm_W xs L d mi n ls' st H P) : jm_W xs L d mi pc ls (.int x :: st) H P := jw_n ht (by simp only [jm_stp, hl, jm_sto]) h
theorem jw_lstore {k : Nat} {x : Int64} (ht : jm_tab mi pc = some (.lstore k, n, a, b, z)) (hl : jm_st2 ls k (.long x) = some ls') (h : jm_W xs L d mi n ls' st H P) : jm_W xs L d mi pc ls (.long x :: st) H P := jw_n ht (by simp only [jm_stp, hl, jm_sto]) h
theorem jw_astore_n {k : Fin 4} {x : Nat} (ht : jm_tab mi pc = some (.astore_n k, n, a, b, z)) (hl : jm_st1 ls (k : Nat) (.ref x) = some ls') (h : jm_W xs L d mi n ls' st H P) : jm_W xs L d mi pc ls (.ref x :: st) H P := jw_n ht (by simp only [jm_stp, hl, jm_sto]) h
theorem jw_astore {k : Nat} {x : Nat} (ht : jm_tab mi pc = some (.astore k, n, a, b, z)) (hl : jm_st1 ls k (.ref x) = some ls') (h : jm_W xs L d mi n ls' st H P) : jm_W xs L d mi pc ls (.ref x :: st) H P := jw_n ht (by simp only [jm_stp, hl, jm_sto]) h
theorem jw_iinc {k : Nat} {c x : Int} (ht : jm_tab mi pc = some (.iinc k c, n, a, b, z)) (hx : ls[k]? = some (some (.int (Int32.ofInt x)))) (hl : jm_st1 ls k (.int (Int32.ofInt (x + c))) = some ls') (h : jm_W xs L d mi n ls' st H P) : jm_W xs L d mi pc ls st H P := jw_n ht (by simp only [jm_stp, hx, ← Int32.ofInt_add, hl, jm_sto]) h
theorem jw_iadd {x y : Int} (ht : jm_tab mi pc = some (.iadd, n, a, b, z)) (h : jm_W xs L d mi n ls (.int (Int32.ofInt (x + y)) :: st) H P) : jm_W xs L d mi pc ls (.int (Int32.ofInt y) :: .int (Int32.ofInt x) :: st) H P := jw_n ht rfl (by rw [← Int32.ofInt_add]; exact h)
theorem jw_isub {x y : Int} (ht : jm_tab mi pc = some (.isub, n, a, b, z)) (h : jm_W xs L d mi n ls (.int (Int32.ofInt (x - y)) :: st) H P) : jm_W xs L d mi pc ls (.int (Int32.ofInt y) :: .int (Int32.ofInt x) :: st) H P := jw_n ht rfl (by rw [← Int32.ofInt_sub]; exact h)
theorem jw_imul {x y : Int} (ht : jm_tab mi pc = some (.imul, n, a, b, z)) (h : jm_W xs L d mi n ls (.int (Int32.ofInt (x * y)) :: st) H P) : jm_W xs L d mi pc ls (.int (Int32.ofInt y) :: .int (Int32.ofInt x) :: st) H P := jw_n ht rfl (by rw [← Int32.ofInt_mul]; exact h)
theorem jw_ineg {x : Int} (ht : jm_tab mi pc = some (.ineg, n, a, b, z)) (h : jm_W xs L d mi n ls (.int (Int32.ofInt (-x)) :: st) H P) : jm_W xs L d mi pc ls (.int (Int32.ofInt x) :: st) H P := jw_n ht rfl (by rw [← Int32.ofInt_neg]; exact h)
theorem jw_iand {x y : Int} (ht : jm_tab mi pc = some (.iand, n, a, b, z)) (h : jm_W xs L d mi n ls (.int (Int32.ofInt (jz_and x y)) :: st) H P) : jm_W xs L d mi pc ls (.int (Int32.ofInt y) :: .int (Int32.ofInt x) :: st) H P := jw_n ht rfl (by unfold jz_and at h; rw [Int32.ofInt_toInt] at h; exact h)
theorem jw_ior {x y : Int} (ht : jm_tab mi pc = some (.ior, n, a, b, z)) (h : jm_W xs L d mi n ls (.int (Int32.ofInt (jz_or x y)) :: st) H P) : jm_W xs L d mi pc ls (.int (Int32.ofInt y) :: .int (Int32.ofInt x) :: st) H P := jw_n ht rfl (by unfold jz_or at h; rw [Int32.ofInt_toInt] at h; exact h)
theorem jw_ixor {x y : Int} (ht : jm_tab mi pc = some (.ixor, n, a, b, z)) (h : jm_W xs L d mi n ls (.int (Int32.ofInt (jz_xor x y)) :: st) H P) : jm_W xs L d mi pc ls (.int (Int32.ofInt y) :: .int (Int32.ofInt x) :: st) H P := jw_n ht rfl (by unfold jz_xor at h; rw [Int32.ofInt_toInt] at h; exact h)
theorem jw_ishl {x y : Int} (ht : jm_tab mi pc = some (.ishl, n, a, b, z)) (h : jm_W xs L d mi n ls (.int (Int32.ofInt (jz_shl x y)) :: st) H P) : jm_W xs L d mi pc ls (.int (Int32.ofInt y) :: .int (Int32.ofInt x) :: st) H P := jw_n ht rfl (by unfold jz_shl at h; rw [Int32.ofInt_toInt] at h; exact h)
theorem jw_ishr {x y : Int} (ht : jm_tab mi pc = some (.ishr, n, a, b, z)) (h : jm_W xs L d mi n ls (.int (Int32.ofInt (jz_shr x y)) :: st) H P) : jm_W xs L d mi pc ls (.int (Int32.ofInt y) :: .int (Int32.ofInt x) :: st) H P := jw_n ht rfl (by unfold jz_shr at h; rw [Int32.ofInt_toInt] at h; exact h)
theorem jw_iushr {x y : Int} (ht : jm_tab mi pc = some (.iushr, n, a, b, z)) (h : jm_W xs L d mi n ls (.int (Int32.ofInt (jz_ushr x y)) :: st) H P) : jm_W xs L d mi pc ls (.int (Int32.ofInt y) :: .int (Int32.ofInt x) :: st) H P := jw_n ht rfl (by unfold jz_ushr at h; rw [Int32.ofInt_toInt] at h; exact h)
theorem jz_ne0 {y : Int} (hr : -2147483648 ≤ y ∧ y < 2147483648) (hy : ¬ y = 0) : ¬ Int32.ofInt y = 0 := fun h => hy ((jz_eq hr (show -2147483648 ≤ (0 : Int) ∧ (0 : Int) < 2147483648 by omega)).mp h)
theorem jw_idiv {x y : Int} (ht : jm_tab mi pc = some (.idiv, n, a, b, z)) (hr : -2147483648 ≤ y ∧ y < 2147483648) (hy : ¬ y = 0) (h : jm_W xs L d mi n ls (.int (Int32.ofInt (jz_div x y)) :: st) H P) : jm_W xs L d mi pc ls (.int (Int32.ofInt y) :: .int (Int32.ofInt x) :: st) H P := jw_n ht (by simp only [jm_stp]; rw [if_neg (jz_ne0 hr hy)]) (by unfold jz_div at h; rw [Int32.ofInt_toInt] at h; exact h)
theorem jw_irem {x y : Int} (ht : jm_tab mi pc = some (.irem, n, a, b, z)) (hr : -2147483648 ≤ y ∧ y < 2147483648) (hy : ¬ y = 0) (h : jm_W xs L d mi n ls (.int (Int32.ofInt (jz_rem x y)) :: st) H P) : jm_W xs L d mi pc ls (.int (Int32.ofInt y) :: .int (Int32.ofInt x) :: st) H P := jw_n ht (by simp only [jm_stp]; rw [if_neg (jz_ne0 hr hy)]) (by unfold jz_rem at h; rw [Int32.ofInt_toInt] at h; exact h)
theorem jw_i2b {x : Int} (ht : jm_tab mi pc = some (.i2b, n, a, b, z)) (h : jm_W xs L d mi n ls (.int (Int32.ofInt (jz_b x)) :: st) H P) : jm_W xs L d mi pc ls (.int (Int32.ofInt x) :: st) H P := jw_n ht rfl (by unfold jz_b at h; rw [Int32.ofInt_toInt] at h; exact h)
theorem jw_i2s {x : Int} (ht : jm_tab mi pc = some (.i2s, n, a, b, z)) (h : jm_W xs L d mi n ls (.int (Int32.ofInt (jz_s x)) :: st) H P) : jm_W xs L d mi pc ls (.int (Int32.ofInt x) :: st) H P := jw_n ht rfl (by unfold jz_s at h; rw [Int32.ofInt_toInt] at h; exact h)
theorem jw_ladd {x y : Int} (ht : jm_tab mi pc = some (.ladd, n, a, b, z)) (h : jm_W xs L d mi n ls (.long (Int64.ofInt (x + y)) :: st) H P) : jm_W xs L d mi pc ls (.long (Int64.ofInt y) :: .long (Int64.ofInt x) :: st) H P := jw_n ht rfl (by rw [← Int64.ofInt_add]; exact h)
theorem jw_land {x y : Int} (ht : jm_tab mi pc = some (.land, n, a, b, z)) (h : jm_W xs L d mi n ls (.long (Int64.ofInt (jz_land x y)) :: st) H P) : jm_W xs L d mi pc ls (.long (Int64.ofInt y) :: .long (Int64.ofInt x) :: st) H P := jw_n ht rfl (by unfold jz_land at h; rw [Int64.ofInt_toInt] at h; exact h)
theorem jw_lor {x y : Int} (ht : jm_tab mi pc = some (.lor, n, a, b, z)) (h : jm_W xs L d mi n ls (.long (Int64.ofInt (jz_lor x y)) :: st) H P) : jm_W xs L d mi pc ls (.long (Int64.ofInt y) :: .long (Int64.ofInt x) :: st) H P := jw_n ht rfl (by unfold jz_lor at h; rw [Int64.ofInt_toInt] at h; exact h)
theorem jw_lshl {x y : Int} (ht : jm_tab mi pc = some (.lshl, n, a, b, z)) (h : jm_W xs L d mi n ls (.long (Int64.ofInt (jz_lshl x y)) :: st) H P) : jm_W xs L d mi pc ls (.int (Int32.ofInt y) :: .long (Int64.ofInt x) :: st) H P := jw_n ht rfl (by unfold jz_lshl at h; rw [Int64.ofInt_toInt] at h; exact h)
theorem jw_i2l {x : Int} (ht : jm_tab mi pc = some (.i2l, n, a, b, z)) (hx : -2147483648 ≤ x ∧ x < 2147483648) (h : jm_W xs L d mi n ls (.long (Int64.ofInt x) :: st) H P) : jm_W xs L d mi pc ls (.int (Int32.ofInt x) :: st) H P := jw_n ht rfl (by
  have h1 : (Int32.ofInt x).toInt64 = Int64.ofInt x := Int64.toInt_inj.mp (by rw [Int32.toInt_toInt64, jz_i32 hx, jz_i64 (by omega)])
  rw [h1]
  exact h)
theorem jw_l2i {x : Int} (ht : jm_tab mi pc = some (.l2i, n, a, b, z)) (h : jm_W xs L d mi n ls (.int (Int32.ofInt x) :: st) H P) : jm_W xs L d mi pc ls (.long (Int64.ofInt x) :: st) H P := jw_n ht rfl (by rw [Int64.toInt32_ofInt]; exact h)
theorem jw_dup_i {x : Int32} (ht : jm_tab mi pc = some (.dup, n, a, b, z)) (h : jm_W xs L d mi n ls (.int x :: .int x :: st) H P) : jm_W xs L d mi pc ls (.int x :: st) H P := jw_n ht rfl h
theorem jw_dup_r {x : Nat} (ht : jm_tab mi pc = some (.dup, n, a, b, z)) (h : jm_W xs L d mi n ls (.ref x :: .ref x :: st) H P) : jm_W xs L d mi pc ls (.ref x :: st) H P := jw_n ht rfl h
theorem jw_pop_i {x : Int32} (ht : jm_tab mi pc = some (.pop, n, a, b, z)) (h : jm_W xs L d mi n ls st H P) : jm_W xs L d mi pc ls (.int x :: st) H P := jw_n ht rfl h
theorem jw_pop_r {x : Nat} (ht : jm_tab mi pc = some (.pop, n, a, b, z)) (h : jm_W xs L d mi n ls st H P) : jm_W xs L d mi pc ls (.ref x :: st) H P := jw_n ht rfl h
theorem jw_dup_x1 {x : Int32} {y : Nat} (ht : jm_tab mi pc = some (.dup_x1, n, a, b, z)) (h : jm_W xs L d mi n ls (.int x :: .ref y :: .int x :: st) H P) : jm_W xs L d mi pc ls (.int x :: .ref y :: st) H P := jw_n ht rfl h
theorem jw_dup_x1i {x y : Int32} (ht : jm_tab mi pc = some (.dup_x1, n, a, b, z)) (h : jm_W xs L d mi n ls (.int x :: .int y :: .int x :: st) H P) : jm_W xs L d mi pc ls (.int x :: .int y :: st) H P := jw_n ht rfl h
theorem jw_dup2 {x : Int32} {y : Nat} (ht : jm_tab mi pc = some (.dup2, n, a, b, z)) (h : jm_W xs L d mi n ls (.int x :: .ref y :: .int x :: .ref y :: st) H P) : jm_W xs L d mi pc ls (.int x :: .ref y :: st) H P := jw_n ht rfl h
theorem jw_goto {o : Int} (ht : jm_tab mi pc = some (.goto o, n, a, b, z)) (h : jm_W xs L d mi a ls st H P) : jm_W xs L d mi pc ls st H P := jw_n ht rfl h
theorem jw_ifp {p : Prop} {i : Decidable p} {e : jm_I} {c c' : Prop} (ht : jm_tab mi pc = some e) (hs : jm_stp xs L (jm_ex xs L d) e pc ls st H = jm_ifb p i a n ls' st H) (hp : p ↔ c) (hc : ¬ c ↔ c') (h1 : c → jm_W xs L d mi a ls' st H P) (h2 : c' → jm_W xs L d mi n ls' st H P) : jm_W xs L d mi pc ls st H P := by
  by_cases h : p
  · exact jw_n ht (by rw [hs]; unfold jm_ifb; rw [if_pos h]) (h1 (hp.mp h))
  · exact jw_n ht (by rw [hs]; unfold jm_ifb; rw [if_neg h]) (h2 (hc.mp (fun h' => h (hp.mpr h'))))
theorem jz_0r : -2147483648 ≤ (0 : Int) ∧ (0 : Int) < 2147483648 := by omega
theorem jz_b2 {e : jm_I} {pc' : Nat} {st' : List Value} {p : Prop} {i : Decidable p} {c c' : Prop} (ht : jm_tab mi pc = some e) (hs : jm_stp xs L (jm_ex xs L d) e pc ls st H = jm_ifb p i a n ls st' H) (hp : p ↔ c) (hc : ¬ c ↔ c') (h1 : c → jm_W xs L d mi a ls st' H P) (h2 : c' → jm_W xs L d mi n ls st' H P) : jm_W xs L d mi pc ls st H P := by
  by_cases h : p
  · exact jw_n ht (by rw [hs]; unfold jm_ifb; rw [if_pos h]) (h1 (hp.mp h))
  · exact jw_n ht (by rw [hs]; unfold jm_ifb; rw [if_neg h]) (h2 (hc.mp (fun h' => h (hp.mpr h'))))
section CMP
variable {x y o : Int} (hx : -2147483648 ≤ x ∧ x < 2147483648) (hy : -2147483648 ≤ y ∧ y < 2147483648)
theorem jw_if_eq (ht : jm_tab mi pc = some (.ifCond .eq o, n, a, b, z)) (hx : -2147483648 ≤ x ∧ x < 2147483648) (h1 : x = 0 → jm_W xs L d mi a ls st H P) (h2 : ¬ x = 0 → jm_W xs L d mi n ls st H P) : jm_W xs L d mi pc ls (.int (Int32.ofInt x) :: st) H P := jz_b2 (pc' := 0) ht rfl (jz_eq hx jz_0r) Iff.rfl h1 h2
theorem jw_if_ne (ht : jm_tab mi pc = some (.ifCond .ne o, n, a, b, z)) (hx : -2147483648 ≤ x ∧ x < 2147483648) (h1 : ¬ x = 0 → jm_W xs L d mi a ls st H P) (h2 : x = 0 → jm_W xs L d mi n ls st H P) : jm_W xs L d mi pc ls (.int (Int32.ofInt x) :: st) H P := jz_b2 (pc' := 0) ht rfl (not_congr (jz_eq hx jz_0r)) Decidable.not_not h1 h2
theorem jw_if_lt (ht : jm_tab mi pc = some (.ifCond .lt o, n, a, b, z)) (hx : -2147483648 ≤ x ∧ x < 2147483648) (h1 : x < 0 → jm_W xs L d mi a ls st H P) (h2 : 0 ≤ x → jm_W xs L d mi n ls st H P) : jm_W xs L d mi pc ls (.int (Int32.ofInt x) :: st) H P := jz_b2 (pc' := 0) ht rfl (jz_lt hx jz_0r) Int.not_lt h1 h2
theorem jw_if_ge (ht : jm_tab mi pc = some (.ifCond .ge o, n, a, b, z)) (hx : -2147483648 ≤ x ∧ x < 2147483648) (h1 : 0 ≤ x → jm_W xs L d mi a ls st H P) (h2 : x < 0 → jm_W xs L d mi n ls st H P) : jm_W xs L d mi pc ls (.int (Int32.ofInt x) :: st) H P := jz_b2 (pc' := 0) ht rfl (jz_le jz_0r hx) Int.not_le h1 h2
theorem jw_if_gt (ht : jm_tab mi pc = some (.ifCond .gt o, n, a, b, z)) (hx : -2147483648 ≤ x ∧ x < 2147483648) (h1 : 0 < x → jm_W xs L d mi a ls st H P) (h2 : x ≤ 0 → jm_W xs L d mi n ls st H P) : jm_W xs L d mi pc ls (.int (Int32.ofInt x) :: st) H P := jz_b2 (pc' := 0) ht rfl (jz_lt jz_0r hx) Int.not_lt h1 h2
theorem jw_if_le (ht : jm_tab mi pc = some (.ifCond .le o, n, a, b, z)) (hx : -2147483648 ≤ x ∧ x < 2147483648) (h1 : x ≤ 0 → jm_W xs L d mi a ls st H P) (h2 : 0 < x → jm_W xs L d mi n ls st H P) : jm_W xs L d mi pc ls (.int (Int32.ofInt x) :: st) H P := jz_b2 (pc' := 0) ht rfl (jz_le hx jz_0r) Int.not_le h1 h2
theorem jw_ic_eq (ht : jm_tab mi pc = some (.if_icmp .eq o, n, a, b, z)) (hx : -2147483648 ≤ x ∧ x < 2147483648) (hy : -2147483648 ≤ y ∧ y < 2147483648) (h1 : x = y → jm_W xs L d mi a ls st H P) (h2 : ¬ x = y → jm_W xs L d mi n ls st H P) : jm_W xs L d mi pc ls (.int (Int32.ofInt y) :: .int (Int32.ofInt x) :: st) H P := jz_b2 (pc' := 0) ht rfl (jz_eq hx hy) Iff.rfl h1 h2
theorem jw_ic_ne (ht : jm_tab mi pc = some (.if_icmp .ne o, n, a, b, z)) (hx : -2147483648 ≤ x ∧ x < 2147483648) (hy : -2147483648 ≤ y ∧ y < 2147483648) (h1 : ¬ x = y → jm_W xs L d mi a ls st H P) (h2 : x = y → jm_W xs L d mi n ls st H P) : jm_W xs L d mi pc ls (.int (Int32.ofInt y) :: .int (Int32.ofInt x) :: st) H P := jz_b2 (pc' := 0) ht rfl (not_congr (jz_eq hx hy)) Decidable.not_not h1 h2
theorem jw_ic_lt (ht : jm_tab mi pc = some (.if_icmp .lt o, n, a, b, z)) (hx : -2147483648 ≤ x ∧ x < 2147483648) (hy : -2147483648 ≤ y ∧ y < 2147483648) (h1 : x < y → jm_W xs L d mi a ls st H P) (h2 : y ≤ x → jm_W xs L d mi n ls st H P) : jm_W xs L d mi pc ls (.int (Int32.ofInt y) :: .int (Int32.ofInt x) :: st) H P := jz_b2 (pc' := 0) ht rfl (jz_lt hx hy) Int.not_lt h1 h2
theorem jw_ic_ge (ht : jm_tab mi pc = some (.if_icmp .ge o, n, a, b, z)) (hx : -2147483648 ≤ x ∧ x < 2147483648) (hy : -2147483648 ≤ y ∧ y < 2147483648) (h1 : y ≤ x → jm_W xs L d mi a ls st H P) (h2 : x < y → jm_W xs L d mi n ls st H P) : jm_W xs L d mi pc ls (.int (Int32.ofInt y) :: .int (Int32.ofInt x) :: st) H P := jz_b2 (pc' := 0) ht rfl (jz_le hy hx) Int.not_le h1 h2
theorem jw_ic_gt (ht : jm_tab mi pc = some (.if_icmp .gt o, n, a, b, z)) (hx : -2147483648 ≤ x ∧ x < 2147483648) (hy : -2147483648 ≤ y ∧ y < 2147483648) (h1 : y < x → jm_W xs L d mi a ls st H P) (h2 : x ≤ y → jm_W xs L d mi n ls st H P) : jm_W xs L d mi pc ls (.int (Int32.ofInt y) :: .int (Int32.ofInt x) :: st) H P := jz_b2 (pc' := 0) ht rfl (jz_lt hy hx) Int.not_lt h1 h2
theorem jw_ic_le (ht : jm_tab mi pc = some (.if_icmp .le o, n, a, b, z)) (hx : -2147483648 ≤ x ∧ x < 2147483648) (hy : -2147483648 ≤ y ∧ y < 2147483648) (h1 : x ≤ y → jm_W xs L d mi a ls st H P) (h2 : y < x → jm_W xs L d mi n ls st H P) : jm_W xs L d mi pc ls (.int (Int32.ofInt y) :: .int (Int32.ofInt x) :: st) H P := jz_b2 (pc' := 0) ht rfl (jz_le hx hy) Int.not_le h1 h2
end CMP
theorem jz_cmp {x y : Int} (hx : -9223372036854775808 ≤ x ∧ x < 9223372036854775808) (hy : -9223372036854775808 ≤ y ∧ y < 9223372036854775808) : lg_cmp (Int64.ofInt x) (Int64.ofInt y) = if y < x then 1 else if x = y then 0 else -1 := by
  unfold lg_cmp
  simp only [gt_iff_lt, Int64.lt_iff_toInt_lt, ← Int64.toInt_inj, jz_i64 hx, jz_i64 hy]
section LCMP
variable {x y o : Int} {n2 a2 b2 : Nat} {z2 : Int}
theorem jw_lc_lt (ht : jm_tab mi pc = some (.lcmp, n, a, b, z)) (ht2 : jm_tab mi n = some (.ifCond .lt o, n2, a2, b2, z2)) (hx : -9223372036854775808 ≤ x ∧ x < 9223372036854775808) (hy : -9223372036854775808 ≤ y ∧ y < 9223372036854775808) (h1 : x < y → jm_W xs L d mi a2 ls st H P) (h2 : y ≤ x → jm_W xs L d mi n2 ls st H P) : jm_W xs L d mi pc ls (.long (Int64.ofInt y) :: .long (Int64.ofInt x) :: st) H P := by
  refine jw_n ht rfl (jz_b2 (pc' := 0) ht2 rfl (c := x < y) ?_ Int.not_lt h1 h2)
  rw [jz_cmp hx hy]
  repeat' split
  · exact ⟨fun h => absurd h (by decide), fun h => by omega⟩
  · exact ⟨fun h => absurd h (by decide), fun h => by omega⟩
  · exact ⟨fun h => by omega, fun h => by decide⟩
theorem jw_lc_ge (ht : jm_tab mi pc = some (.lcmp, n, a, b, z)) (ht2 : jm_tab mi n = some (.ifCond .ge o, n2, a2, b2, z2)) (hx : -9223372036854775808 ≤ x ∧ x < 9223372036854775808) (hy : -9223372036854775808 ≤ y ∧ y < 9223372036854775808) (h1 : y ≤ x → jm_W xs L d mi a2 ls st H P) (h2 : x < y → jm_W xs L d mi n2 ls st H P) : jm_W xs L d mi pc ls (.long (Int64.ofInt y) :: .long (Int64.ofInt x) :: st) H P := by
  refine jw_n ht rfl (jz_b2 (pc' := 0) ht2 rfl (c := y ≤ x) ?_ Int.not_le h1 h2)
  rw [jz_cmp hx hy]
  repeat' split
  · exact ⟨fun h => by omega, fun h => by decide⟩
  · exact ⟨fun h => by omega, fun h => by decide⟩
  · exact ⟨fun h => absurd h (by decide), fun h => by omega⟩
theorem jw_lc_gt (ht : jm_tab mi pc = some (.lcmp, n, a, b, z)) (ht2 : jm_tab mi n = some (.ifCond .gt o, n2, a2, b2, z2)) (hx : -9223372036854775808 ≤ x ∧ x < 9223372036854775808) (hy : -9223372036854775808 ≤ y ∧ y < 9223372036854775808) (h1 : y < x → jm_W xs L d mi a2 ls st H P) (h2 : x ≤ y → jm_W xs L d mi n2 ls st H P) : jm_W xs L d mi pc ls (.long (Int64.ofInt y) :: .long (Int64.ofInt x) :: st) H P := by
  refine jw_n ht rfl (jz_b2 (pc' := 0) ht2 rfl (c := y < x) ?_ Int.not_lt h1 h2)
  rw [jz_cmp hx hy]
  repeat' split
  · exact ⟨fun h => by omega, fun h => by decide⟩
  · exact ⟨fun h => absurd h (by decide), fun h => by omega⟩
  · exact ⟨fun h => absurd h (by decide), fun h => by omega⟩
theorem jw_lc_le (ht : jm_tab mi pc = some (.lcmp, n, a, b, z)) (ht2 : jm_tab mi n = some (.ifCond .le o, n2, a2, b2, z2)) (hx : -9223372036854775808 ≤ x ∧ x < 9223372036854775808) (hy : -9223372036854775808 ≤ y ∧ y < 9223372036854775808) (h1 : x ≤ y → jm_W xs L d mi a2 ls st H P) (h2 : y < x → jm_W xs L d mi n2 ls st H P) : jm_W xs L d mi pc ls (.long (Int64.ofInt y) :: .long (Int64.ofInt x) :: st) H P := by
  refine jw_n ht rfl (jz_b2 (pc' := 0) ht2 rfl (c := x ≤ y) ?_ Int.not_le h1 h2)
  rw [jz_cmp hx hy]
  repeat' split
  · exact ⟨fun h => absurd h (by decide), fun h => by omega⟩
  · exact ⟨fun h => by omega, fun h => by decide⟩
  · exact ⟨fun h => by omega, fun h => by decide⟩
theorem jw_lc_eq (ht : jm_tab mi pc = some (.lcmp, n, a, b, z)) (ht2 : jm_tab mi n = some (.ifCond .eq o, n2, a2, b2, z2)) (hx : -9223372036854775808 ≤ x ∧ x < 9223372036854775808) (hy : -9223372036854775808 ≤ y ∧ y < 9223372036854775808) (h1 : x = y → jm_W xs L d mi a2 ls st H P) (h2 : ¬ x = y → jm_W xs L d mi n2 ls st H P) : jm_W xs L d mi pc ls (.long (Int64.ofInt y) :: .long (Int64.ofInt x) :: st) H P := by
  refine jw_n ht rfl (jz_b2 (pc' := 0) ht2 rfl (c := x = y) ?_ Iff.rfl h1 h2)
  rw [jz_cmp hx hy]
  repeat' split
  · exact ⟨fun h => absurd h (by decide), fun h => by omega⟩
  · exact ⟨fun h => by omega, fun h => by decide⟩
  · exact ⟨fun h => absurd h (by decide), fun h => by omega⟩
theorem jw_lc_ne (ht : jm_tab mi pc = some (.lcmp, n, a, b, z)) (ht2 : jm_tab mi n = some (.ifCond .ne o, n2, a2, b2, z2)) (hx : -9223372036854775808 ≤ x ∧ x < 9223372036854775808) (hy : -9223372036854775808 ≤ y ∧ y < 9223372036854775808) (h1 : ¬ x = y → jm_W xs L d mi a2 ls st H P) (h2 : x = y → jm_W xs L d mi n2 ls st H P) : jm_W xs L d mi pc ls (.long (Int64.ofInt y) :: .long (Int64.ofInt x) :: st) H P := by
  refine jw_n ht rfl (jz_b2 (pc' := 0) ht2 rfl (c := ¬ x = y) ?_ Decidable.not_not h1 h2)
  rw [jz_cmp hx hy]
  repeat' split
  · exact ⟨fun h => by omega, fun h => by decide⟩
  · exact ⟨fun h => absurd rfl h, fun h => absurd ‹x = y› h⟩
  · exact ⟨fun h => by assumption, fun h => by decide⟩
end LCMP
theorem jw_tab_out {x dd lo hi : Int} {offs : Array Int} {pc2 : Nat} (ht : jm_tab mi pc = some (.tableswitch dd lo hi offs, n, a, b, z)) (hx : -2147483648 ≤ x ∧ x < 2147483648) (ho : x < lo ∨ hi < x) (hp : (pc : Int) + dd = (pc2 : Int)) (h : jm_W xs L d mi pc2 ls st H P) : jm_W xs L d mi pc ls (.int (Int32.ofInt x) :: st) H P := jw_n ht (by
  simp only [jm_stp, jz_i32 hx, if_pos ho, jm_jmp, hp]
  rw [if_pos (by omega)]
  rfl) h
theorem jw_tab_in {x dd lo hi v : Int} {offs : Array Int} {pc2 : Nat} {o : Int} (ht : jm_tab mi pc = some (.tableswitch dd lo hi offs, n, a, b, z)) (hx : -2147483648 ≤ x ∧ x < 2147483648) (hv : x = v) (hl : lo ≤ v ∧ v ≤ hi) (ho : offs[(v - lo).toNat]? = some o) (hp : (pc : Int) + o = (pc2 : Int)) (h : jm_W xs L d mi pc2 ls st H P) : jm_W xs L d mi pc ls (.int (Int32.ofInt x) :: st) H P := jw_n ht (by
  subst hv
  simp only [jm_stp, jz_i32 hx, jm_jmp]
  rw [if_neg (by omega), ho]
  dsimp only
  rw [hp, if_pos (by omega)]
  rfl) h
theorem jw_look {x dd o : Int} {ps : Array (Int × Int)} {pc2 : Nat} (ht : jm_tab mi pc = some (.lookupswitch dd ps, n, a, b, z)) (hx : -2147483648 ≤ x ∧ x < 2147483648) (ho : Op.lookupswitch.offset ps.toList dd x = o) (hp : (pc : Int) + o = (pc2 : Int)) (h : jm_W xs L d mi pc2 ls st H P) : jm_W xs L d mi pc ls (.int (Int32.ofInt x) :: st) H P := jw_n ht (by
  simp only [jm_stp, jz_i32 hx, jm_jmp, ho]
  rw [hp, if_pos (by omega)]
  rfl) h
theorem jw_gf {ix o : Nat} {v : Int} (ht : jm_tab mi pc = some (.getfield ix, n, a, b, z)) (hz : ¬ z = 1) (hk : jz_kd o = 10 + a) (hv : J o b = v) (h : jm_W xs L d mi n ls (.int (Int32.ofInt v) :: st) (jz_H J K) P) : jm_W xs L d mi pc ls (.ref o :: st) (jz_H J K) P := jw_n ht (by
  have h1 : jm_kd (jz_H J K) o = 10 + a := by
    rw [show 10 + a = (9 + a) + 1 by omega] at hk ⊢
    exact jz_kdH hk
  simp only [jm_stp]
  rw [if_pos h1, if_neg hz]) (by rw [← hv] at h; exact h)
theorem jw_gr {ix o q : Nat} (ht : jm_tab mi pc = some (.getfield ix, n, a, b, 1)) (hk : jz_kd o = 10 + a) (hr : jz_rf o b = some q) (h : jm_W xs L d mi n ls (.ref q :: st) (jz_H J K) P) : jm_W xs L d mi pc ls (.ref o :: st) (jz_H J K) P := jw_n ht (by
  have h1 : jm_kd (jz_H J K) o = 10 + a := by
    rw [show 10 + a = (9 + a) + 1 by omega] at hk ⊢
    exact jz_kdH hk
  simp only [jm_stp]
  rw [if_pos h1, if_pos trivial, jz_rfH hr]
  rfl) h
theorem jw_pf {ix o : Nat} {v : Int} (ht : jm_tab mi pc = some (.putfield ix, n, a, b, 0)) (hk : jz_kd o = 10 + a) (h : jm_W xs L d mi n ls st (jz_H (jm_up J o b v) K) P) : jm_W xs L d mi pc ls (.int (Int32.ofInt v) :: .ref o :: st) (jz_H J K) P := jw_n ht (by
  have h1 : jm_kd (jz_H J K) o = 10 + a := by
    rw [show 10 + a = (9 + a) + 1 by omega] at hk ⊢
    exact jz_kdH hk
  simp only [jm_stp]
  rw [if_pos ⟨h1, by decide, fun h => absurd h (by decide)⟩]) (by
  unfold jz_H at h ⊢
  rw [← jz_up] at h
  exact h)
theorem jw_pfz {ix o : Nat} {v : Int} (ht : jm_tab mi pc = some (.putfield ix, n, a, b, 2)) (hk : jz_kd o = 10 + a) (hv : v = 0 ∨ v = 1) (h : jm_W xs L d mi n ls st (jz_H (jm_up J o b v) K) P) : jm_W xs L d mi pc ls (.int (Int32.ofInt v) :: .ref o :: st) (jz_H J K) P := jw_n ht (by
  have h1 : jm_kd (jz_H J K) o = 10 + a := by
    rw [show 10 + a = (9 + a) + 1 by omega] at hk ⊢
    exact jz_kdH hk
  simp only [jm_stp]
  rw [if_pos ⟨h1, by decide, fun _ => by rcases hv with rfl | rfl <;> decide⟩]) (by
  unfold jz_H at h ⊢
  rw [← jz_up] at h
  exact h)
theorem jz_rng {N : Int} {i : Int} {o : Nat} (hl : (jz_ln o : Int) = N) (hN : N ≤ 2147483648) (hi : 0 ≤ i ∧ i < N) : 0 ≤ Int32.ofInt i ∧ (Int32.ofInt i).toNatClampNeg < jz_ln o ∧ (Int32.ofInt i).toNatClampNeg = i.toNat := jz_nat (by omega) (by omega)
theorem jw_iald {o : Nat} {i v N : Int} (ht : jm_tab mi pc = some (.iaload, n, a, b, z)) (hk : jz_kd o = 1) (hl : (jz_ln o : Int) = N) (hN : N ≤ 2147483648) (hi : 0 ≤ i ∧ i < N) (hv : J o i.toNat = v) (h : jm_W xs L d mi n ls (.int (Int32.ofInt v) :: st) (jz_H J K) P) : jm_W xs L d mi pc ls (.int (Int32.ofInt i) :: .ref o :: st) (jz_H J K) P := jw_n ht (by
  obtain ⟨h1, h2, h3⟩ := jz_rng hl hN hi
  simp only [jm_stp]
  rw [if_pos ⟨jz_kdH hk, h1, by rw [jz_lnH hk]; exact h2⟩, h3]) (by rw [← hv] at h; exact h)
theorem jw_lald {o : Nat} {i v N : Int} (ht : jm_tab mi pc = some (.laload, n, a, b, z)) (hk : jz_kd o = 2) (hl : (jz_ln o : Int) = N) (hN : N ≤ 2147483648) (hi : 0 ≤ i ∧ i < N) (hv : K o i.toNat = v) (h : jm_W xs L d mi n ls (.long (Int64.ofInt v) :: st) (jz_H J K) P) : jm_W xs L d mi pc ls (.int (Int32.ofInt i) :: .ref o :: st) (jz_H J K) P := jw_n ht (by
  obtain ⟨h1, h2, h3⟩ := jz_rng hl hN hi
  simp only [jm_stp]
  rw [if_pos ⟨jz_kdH hk, h1, by rw [jz_lnH hk]; exact h2⟩, h3]) (by rw [← hv] at h; exact h)
theorem jw_aald {o q k : Nat} {i N : Int} (ht : jm_tab mi pc = some (.aaload, n, a, b, z)) (hk : jz_kd o = k + 1) (hkk : 3 ≤ k + 1 ∧ k + 1 ≤ 5) (hl : (jz_ln o : Int) = N) (hN : N ≤ 2147483648) (hi : 0 ≤ i ∧ i < N) (hr : jz_rf o i.toNat = some q) (h : jm_W xs L d mi n ls (.ref q :: st) (jz_H J K) P) : jm_W xs L d mi pc ls (.int (Int32.ofInt i) :: .ref o :: st) (jz_H J K) P := jw_n ht (by
  obtain ⟨h1, h2, h3⟩ := jz_rng hl hN hi
  simp only [jm_stp]
  rw [if_pos ⟨by rw [jz_kdH hk]; exact hkk, h1, by rw [jz_lnH hk]; exact h2⟩, h3, jz_rfH hr]
  rfl) h
theorem jw_iast {o : Nat} {i v N : Int} (ht : jm_tab mi pc = some (.iastore, n, a, b, z)) (hk : jz_kd o = 1) (hl : (jz_ln o : Int) = N) (hN : N ≤ 2147483648) (hi : 0 ≤ i ∧ i < N) (h : jm_W xs L d mi n ls st (jz_H (jm_up J o i.toNat v) K) P) : jm_W xs L d mi pc ls (.int (Int32.ofInt v) :: .int (Int32.ofInt i) :: .ref o :: st) (jz_H J K) P := jw_n ht (by
  obtain ⟨h1, h2, h3⟩ := jz_rng hl hN hi
  simp only [jm_stp]
  rw [if_pos ⟨jz_kdH hk, h1, by rw [jz_lnH hk]; exact h2⟩, h3]) (by
  unfold jz_H at h ⊢
  rw [← jz_up] at h
  exact h)
theorem jw_last {o : Nat} {i v N : Int} (ht : jm_tab mi pc = some (.lastore, n, a, b, z)) (hk : jz_kd o = 2) (hl : (jz_ln o : Int) = N) (hN : N ≤ 2147483648) (hi : 0 ≤ i ∧ i < N) (h : jm_W xs L d mi n ls st (jz_H J (jm_up K o i.toNat v)) P) : jm_W xs L d mi pc ls (.long (Int64.ofInt v) :: .int (Int32.ofInt i) :: .ref o :: st) (jz_H J K) P := jw_n ht (by
  obtain ⟨h1, h2, h3⟩ := jz_rng hl hN hi
  simp only [jm_stp]
  rw [if_pos ⟨jz_kdH hk, h1, by rw [jz_lnH hk]; exact h2⟩, h3]) (by
  unfold jz_H at h ⊢
  rw [← jz_upl] at h
  exact h)
theorem jw_alen {o k : Nat} {N : Int} (ht : jm_tab mi pc = some (.arraylength, n, a, b, z)) (hk : jz_kd o = k + 1) (hkk : k + 1 ≤ 5) (hl : (jz_ln o : Int) = N) (h : jm_W xs L d mi n ls (.int (Int32.ofInt N) :: st) (jz_H J K) P) : jm_W xs L d mi pc ls (.ref o :: st) (jz_H J K) P := jw_n ht (by
  simp only [jm_stp]
  rw [if_pos ⟨by rw [jz_kdH hk]; omega, by rw [jz_kdH hk]; exact hkk⟩, jz_lnH hk]) (by rw [← hl] at h; exact h)
theorem jw_slen (ht : jm_tab mi pc = some (.arraylength, n, a, b, z)) (hL : L < 2147483648) (h : jm_W xs L d mi n ls (.int (Int32.ofInt (L : Int)) :: st) H P) : jm_W xs L d mi pc ls (.retAddr 0 :: st) H P := jw_n ht (by
  simp only [jm_stp]
  rw [if_pos hL, Int32.ofInt_eq_ofNat]) h
theorem jw_sld {i : Int} (ht : jm_tab mi pc = some (.iaload, n, a, b, z)) (hL : L < 2147483648) (hi : 0 ≤ i ∧ i < (L : Int)) (h : jm_W xs L d mi n ls (.int (Int32.ofInt (xs i.toNat).toInt) :: st) H P) : jm_W xs L d mi pc ls (.int (Int32.ofInt i) :: .retAddr 0 :: st) H P := jw_n ht (by
  obtain ⟨h1, h2, h3⟩ := jz_nat hi (by omega)
  simp only [jm_stp]
  rw [if_pos ⟨hL, h1, h2⟩, h3]) (by rw [Int32.ofInt_toInt] at h; exact h)
theorem jw_max {ix : Nat} {x y : Int} (ht : jm_tab mi pc = some (.invokestatic ix, n, a, 13, z)) (hx : -2147483648 ≤ x ∧ x < 2147483648) (hy : -2147483648 ≤ y ∧ y < 2147483648) (hc : jm_cat st ≤ 8) (h : jm_W xs L d mi n ls (.int (Int32.ofInt (max x y)) :: st) H P) : jm_W xs L d mi pc ls (.int (Int32.ofInt y) :: .int (Int32.ofInt x) :: st) H P := jw_n (st' := .int (Int32.ofInt (max x y)) :: st) ht (by
  simp only [jm_stp]
  rw [if_neg (by decide), if_pos trivial, if_pos hc]
  congr 3
  by_cases h : x < y
  · rw [if_pos ((jz_lt hx hy).mpr h), show max x y = y by omega]
  · rw [if_neg (fun h' => h ((jz_lt hx hy).mp h')), show max x y = x by omega]) h
theorem jw_min {ix : Nat} {x y : Int} (ht : jm_tab mi pc = some (.invokestatic ix, n, a, 14, z)) (hx : -2147483648 ≤ x ∧ x < 2147483648) (hy : -2147483648 ≤ y ∧ y < 2147483648) (hc : jm_cat st ≤ 8) (h : jm_W xs L d mi n ls (.int (Int32.ofInt (min x y)) :: st) H P) : jm_W xs L d mi pc ls (.int (Int32.ofInt y) :: .int (Int32.ofInt x) :: st) H P := jw_n (st' := .int (Int32.ofInt (min x y)) :: st) ht (by
  simp only [jm_stp]
  rw [if_neg (by decide), if_neg (by decide), if_pos trivial, if_pos hc]
  congr 3
  by_cases h : y < x
  · rw [if_pos ((jz_lt hy hx).mpr h), show min x y = y by omega]
  · rw [if_neg (fun h' => h ((jz_lt hy hx).mp h')), show min x y = x by omega]) h
theorem jw_cpi {ix s t : Nat} {sp tp m N M : Int} (ht : jm_tab mi pc = some (.invokestatic ix, n, a, 12, z)) (hks : jz_kd s = 1) (hkt : jz_kd t = 1) (hls : (jz_ln s : Int) = N) (hlt : (jz_ln t : Int) = M) (hN : N ≤ 100000 ∧ M ≤ 100000) (hs : 0 ≤ sp ∧ 0 ≤ tp ∧ 0 ≤ m ∧ sp + m ≤ N ∧ tp + m ≤ M) (hc : jm_cat st ≤ 8) (h : jm_W xs L d mi n ls st (jz_H (jz_cpy J s sp.toNat t tp.toNat m.toNat) K) P) : jm_W xs L d mi pc ls (.int (Int32.ofInt m) :: .int (Int32.ofInt tp) :: .ref t :: .int (Int32.ofInt sp) :: .ref s :: st) (jz_H J K) P := jw_n (H' := jz_H (jz_cpy J s sp.toNat t tp.toNat m.toNat) K) ht (by
  obtain ⟨a1, -, a3⟩ := jz_nat (i := sp) (n := 200000) (by omega) (by omega)
  obtain ⟨b1, -, b3⟩ := jz_nat (i := tp) (n := 200000) (by omega) (by omega)
  obtain ⟨c1, -, c3⟩ := jz_nat (i := m) (n := 200000) (by omega) (by omega)
  simp only [jm_stp]
  rw [if_pos trivial, if_pos ⟨hc, a1, b1, c1, by rw [a3, c3, jz_lnH hks]; omega, by rw [b3, c3, jz_lnH hkt]; omega⟩, if_pos ⟨jz_kdH hks, jz_kdH hkt⟩, a3, b3, c3]
  unfold jz_H
  dsimp only
  rw [jz_cp]) h
theorem jw_cpl {ix s t : Nat} {sp tp m N M : Int} (ht : jm_tab mi pc = some (.invokestatic ix, n, a, 12, z)) (hks : jz_kd s = 2) (hkt : jz_kd t = 2) (hls : (jz_ln s : Int) = N) (hlt : (jz_ln t : Int) = M) (hN : N ≤ 100000 ∧ M ≤ 100000) (hs : 0 ≤ sp ∧ 0 ≤ tp ∧ 0 ≤ m ∧ sp + m ≤ N ∧ tp + m ≤ M) (hc : jm_cat st ≤ 8) (h : jm_W xs L d mi n ls st (jz_H J (jz_cpy K s sp.toNat t tp.toNat m.toNat)) P) : jm_W xs L d mi pc ls (.int (Int32.ofInt m) :: .int (Int32.ofInt tp) :: .ref t :: .int (Int32.ofInt sp) :: .ref s :: st) (jz_H J K) P := jw_n (H' := jz_H J (jz_cpy K s sp.toNat t tp.toNat m.toNat)) ht (by
  obtain ⟨a1, -, a3⟩ := jz_nat (i := sp) (n := 200000) (by omega) (by omega)
  obtain ⟨b1, -, b3⟩ := jz_nat (i := tp) (n := 200000) (by omega) (by omega)
  obtain ⟨c1, -, c3⟩ := jz_nat (i := m) (n := 200000) (by omega) (by omega)
  simp only [jm_stp]
  rw [if_pos trivial, if_pos ⟨hc, a1, b1, c1, by rw [a3, c3, jz_lnH hks]; omega, by rw [b3, c3, jz_lnH hkt]; omega⟩, if_neg (fun h => by rw [jz_kdH (n := 1) hks] at h; omega), if_pos ⟨jz_kdH hks, jz_kdH hkt⟩, a3, b3, c3]
  unfold jz_H
  dsimp only
  rw [jz_cpl]) h
theorem jw_virt {ix o k c : Nat} {as r : List Value} (ht : jm_tab mi pc = some (.invokevirtual ix, n, a, 1, z)) (hn : jm_np a = k) (hd : st.drop k = .ref o :: r) (hl : k ≤ st.length) (ha : (st.take k).reverse = as) (hc : jm_cat r ≤ 8) (hk : jz_kd o = c + 1) (hz : ((c + 1 : Nat) : Int) = 10 + z) (h : jm_Q xs L d a (.ref o :: as) (jz_H J K) (fun v H' => jm_W xs L d mi n ls (v.toList ++ r) H' P)) : jm_W xs L d mi pc ls st (jz_H J K) P := by
  rw [jm_W.call (e := (.invokevirtual ix, n, a, 1, z)) (pc' := n) (a := a) (ls' := ls) (st' := r) (as := .ref o :: as) ht ?_]
  · exact h
  · subst hn
    simp only [jm_stp]
    rw [hd]
    dsimp only
    rw [if_pos ⟨hl, hc, by rw [jz_kdH hk]; exact hz, by decide⟩, ha]
theorem jw_ldcs {c : Nat} (ht : jm_tab mi pc = some (.ldc c, n, 1, b, z)) (h : jm_W xs L d mi n ls (.retAddr 1 :: st) H P) : jm_W xs L d mi pc ls st H P := jw_n ht rfl h
/-- the letters of the law's String constant -/
def jz_ch (k : Int) : Int := if k = 0 then 124 else if k = 1 then 38 else if k = 2 then 60 else if k = 3 then 64 else if k = 4 then 33 else if k = 5 then 35 else 45
theorem jw_cha {ix : Nat} {i : Int} {r : List Value} (ht : jm_tab mi pc = some (.invokevirtual ix, n, 172, 15, z)) (hd : 5 ≤ d) (hi : 0 ≤ i ∧ i < 7) (hc : jm_cat r ≤ 8) (h : jm_W xs L d mi n ls (.int (Int32.ofInt (jz_ch i)) :: r) H P) : jm_W xs L d mi pc ls (.int (Int32.ofInt i) :: .retAddr 1 :: r) H P := by
  rw [jm_W.call (e := (.invokevirtual ix, n, 172, 15, z)) (pc' := n) (a := 172) (ls' := ls) (st' := r) (as := [.retAddr 1, .int (Int32.ofInt i)]) ht ?_]
  · refine ⟨(some (.int (Int32.ofInt (jz_ch i))), H), ?_, h⟩
    obtain ⟨d', rfl⟩ : ∃ d', d = d' + 1 := ⟨d - 1, by omega⟩
    obtain ⟨h1, h2, h3⟩ := jz_nat (n := 7) hi (by omega)
    simp only [jm_ex, if_true]
    rw [if_pos (by omega)]
    show (if 0 ≤ Int32.ofInt i ∧ (Int32.ofInt i).toNatClampNeg < 7 then some (some (Value.int (jm_ch (Int32.ofInt i).toNatClampNeg)), H) else none) = _
    rw [if_pos ⟨h1, h2⟩, h3]
    obtain ⟨j, rfl⟩ : ∃ j : Nat, i = (j : Int) := ⟨i.toNat, by omega⟩
    have hj : j < 7 := by omega
    rcases (show j = 0 ∨ j = 1 ∨ j = 2 ∨ j = 3 ∨ j = 4 ∨ j = 5 ∨ j = 6 by omega) with e | e | e | e | e | e | e <;> subst e <;> rfl
  · have hn : jm_np 172 = 1 := by rfl
    simp only [jm_stp, hn]
    show (if _ then _ else _) = _
    rw [if_pos ⟨by simp, hc, trivial⟩]
    rfl
theorem jw_spec {ix o k : Nat} {as r : List Value} (ht : jm_tab mi pc = some (.invokespecial ix, n, a, b, z)) (hb : ¬ b = 6) (hn : jm_np a = k) (hd : st.drop k = .ref o :: r) (hl : k ≤ st.length) (ha : (st.take k).reverse = as) (hc : jm_cat r ≤ 8) (h : jm_Q xs L d a (.ref o :: as) H (fun v H' => jm_W xs L d mi n ls (v.toList ++ r) H' P)) : jm_W xs L d mi pc ls st H P := by
  rw [jm_W.call (e := (.invokespecial ix, n, a, b, z)) (pc' := n) (a := a) (ls' := ls) (st' := r) (as := .ref o :: as) ht ?_]
  · exact h
  · subst hn
    simp only [jm_stp]
    rw [hd]
    dsimp only
    rw [if_pos ⟨hl, hc⟩, if_neg hb, ha]
theorem jw_stat {ix k : Nat} {as r : List Value} (ht : jm_tab mi pc = some (.invokestatic ix, n, a, b, z)) (hb : ¬ b = 12 ∧ ¬ b = 13 ∧ ¬ b = 14) (hn : jm_np a = k) (hd : st.drop k = r) (hl : k ≤ st.length) (ha : (st.take k).reverse = as) (hc : jm_cat r ≤ 8) (h : jm_Q xs L d a as H (fun v H' => jm_W xs L d mi n ls (v.toList ++ r) H' P)) : jm_W xs L d mi pc ls st H P := by
  rw [jm_W.call (e := (.invokestatic ix, n, a, b, z)) (pc' := n) (a := a) (ls' := ls) (st' := r) (as := as) ht ?_]
  · exact h
  · subst hn
    simp only [jm_stp]
    rw [if_neg hb.1, if_neg hb.2.1, if_neg hb.2.2, hd, if_pos ⟨hl, hc⟩, ha]
theorem jz_ci {args : List Value} (h : jm_Q xs L d a args H (jp_i (fun r J' K' => jm_W xs L d mi n ls (.int (Int32.ofInt r) :: st) (jz_H J' K') P))) : jm_Q xs L d a args H (fun v H' => jm_W xs L d mi n ls (v.toList ++ st) H' P) := jm_Q.mono h (by
  rintro _ _ ⟨r, J', K', rfl, rfl, h⟩
  exact h)
theorem jz_cl {args : List Value} (h : jm_Q xs L d a args H (jp_l (fun r J' K' => jm_W xs L d mi n ls (.long (Int64.ofInt r) :: st) (jz_H J' K') P))) : jm_Q xs L d a args H (fun v H' => jm_W xs L d mi n ls (v.toList ++ st) H' P) := jm_Q.mono h (by
  rintro _ _ ⟨r, J', K', rfl, rfl, h⟩
  exact h)
theorem jz_cr {args : List Value} (h : jm_Q xs L d a args H (jp_r (fun r J' K' => jm_W xs L d mi n ls (.ref r :: st) (jz_H J' K') P))) : jm_Q xs L d a args H (fun v H' => jm_W xs L d mi n ls (v.toList ++ st) H' P) := jm_Q.mono h (by
  rintro _ _ ⟨r, J', K', rfl, rfl, h⟩
  exact h)
theorem jz_cv {args : List Value} (h : jm_Q xs L d a args H (jp_v (fun J' K' => jm_W xs L d mi n ls st (jz_H J' K') P))) : jm_Q xs L d a args H (fun v H' => jm_W xs L d mi n ls (v.toList ++ st) H' P) := jm_Q.mono h (by
  rintro _ _ ⟨J', K', rfl, rfl, h⟩
  exact h)
theorem jq_in {q : jm_M} {args : List Value} (hm : jm_MT[mi]? = some q) (hl : (lg_sl args).length ≤ q.2.2.1) (he : jm_ent args q.2.2.1 = ls) (h : jm_W xs L d mi 0 ls [] H P) (hne : ¬ mi = 172 := by decide) : jm_Q xs L (d + 1) mi args H P := by
  rw [jm_Q.enter hne hm hl, he]
  exact h
theorem jw_iret {x : Int} {R : Int → jZ → jZ → Prop} (ht : jm_tab mi pc = some (.ireturn, n, 0, b, z)) (h : R x J K) : jm_W xs L d mi pc ls [.int (Int32.ofInt x)] (jz_H J K) (jp_i R) := by
  rw [jm_W.ret (r := (some (.int (Int32.ofInt x)), jz_H J K)) ht (by
    simp only [jm_stp]
    rw [if_pos (fun h => absurd h (by decide))])]
  exact ⟨x, J, K, rfl, rfl, h⟩
theorem jw_zret {x : Int} {R : Int → jZ → jZ → Prop} (ht : jm_tab mi pc = some (.ireturn, n, 1, b, z)) (hx : x = 0 ∨ x = 1) (h : R x J K) : jm_W xs L d mi pc ls [.int (Int32.ofInt x)] (jz_H J K) (jp_i R) := by
  rw [jm_W.ret (r := (some (.int (Int32.ofInt x)), jz_H J K)) ht (by
    simp only [jm_stp]
    rw [if_pos (fun _ => by rcases hx with rfl | rfl <;> decide)])]
  exact ⟨x, J, K, rfl, rfl, h⟩
theorem jw_lret {x : Int} {R : Int → jZ → jZ → Prop} (ht : jm_tab mi pc = some (.lreturn, n, a, b, z)) (h : R x J K) : jm_W xs L d mi pc ls [.long (Int64.ofInt x)] (jz_H J K) (jp_l R) := by
  rw [jm_W.ret (r := (some (.long (Int64.ofInt x)), jz_H J K)) ht rfl]
  exact ⟨x, J, K, rfl, rfl, h⟩
theorem jw_aret {x : Nat} {R : Nat → jZ → jZ → Prop} (ht : jm_tab mi pc = some (.areturn, n, a, b, z)) (h : R x J K) : jm_W xs L d mi pc ls [.ref x] (jz_H J K) (jp_r R) := by
  rw [jm_W.ret (r := (some (.ref x), jz_H J K)) ht rfl]
  exact ⟨x, J, K, rfl, rfl, h⟩
theorem jw_vret {R : jZ → jZ → Prop} (ht : jm_tab mi pc = some (.return_, n, a, b, z)) (h : R J K) : jm_W xs L d mi pc ls [] (jz_H J K) (jp_v R) := by
  rw [jm_W.ret (r := (none, jz_H J K)) ht rfl]
  exact ⟨J, K, rfl, rfl, h⟩
end JZW
