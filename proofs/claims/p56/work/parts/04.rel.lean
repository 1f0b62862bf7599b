/-! The abstract heap and the machine's: cell k stands at base + k. -/
def jm_cv (base : Nat) (b : Nat → Nat) (v : Value) : Value := match v with
  | .ref a => .ref (base + a)
  | .retAddr n => .ref (b n)
  | .int x => .int x
  | .long x => .long x
  | .null => .null
  | v => v
def jm_isr (ci k : Nat) : Bool := match jm_ty ci k with
  | .object _ | .array _ => true
  | _ => false
def jm_fd (base ci : Nat) (rf : Nat → Option Nat) (i : Nat → Int32) (k : Nat) : Value := if jm_isr ci k then va_rf ((rf k).map (base + ·)) else .int (i k)
def jm_cell (dA : Nat → ClassId) (base kd ln : Nat) (rf : Nat → Option Nat) (i : Nat → Int32) (g : Nat → Int64) : va_E :=
  if kd = 1 then .inl (dA 0, ln, .inl i)
  else if kd = 2 then .inl (dA 1, ln, .inr (.inl g))
  else if kd < 10 then .inl (dA (kd - 1), ln, .inr (.inr (.inr (.inr (fun j => (rf j).map (base + ·))))))
  else .inr (kd - 10, (List.range (jm_N (kd - 10))).map (jm_fd base (kd - 10) rf i))
def jm_at (dA : Nat → ClassId) (base : Nat) (H : jm_H) (k : Nat) : Nat × va_E := (base + k, jm_cell dA base (jm_kd H k) (jm_ln H k) (jm_rf H k) (H.2.1 k) (H.2.2 k))
def jm_ws (dA : Nat → ClassId) (base : Nat) (H : jm_H) : va_W := (List.range H.1.length).map (jm_at dA base H)
def jm_tys (dA : Nat → ClassId) : List (ClassId × FieldType) := [(dA 0, .int), (dA 1, .long), (dA 2, .object "LeapingPassages$Shelf"), (dA 3, .object "LeapingPassages$Ask"), (dA 4, .object "LeapingPassages$Spans")]
def jm_sl (H : jm_H) : Nat := (H.1.map (fun s => s.2.1)).sum
def jm_A (base : Nat) : Nat → Prop := fun q => base ≤ q
def jm_Rl (dC : Nat → ClassId) (dI : Nat → Nat → Nat) (dA : Nat → ClassId) (base : Nat) (H : jm_H) (Hc : Heap) : Prop := va_P (dC, dI) jm_cl (jm_ws dA base H) Hc ∧ Hc.size = base + H.1.length
section JMR
variable {dC : Nat → ClassId} {dI : Nat → Nat → Nat} {dA : Nat → ClassId} {base : Nat} {b : Nat → Nat} {H H' : jm_H} {Hc : Heap}
theorem jm_ws_get {k : Nat} (h : k < H.1.length) : (jm_ws dA base H)[k]? = some (jm_at dA base H k) := by
  unfold jm_ws
  rw [List.getElem?_map, List.getElem?_range h]
  rfl
theorem jm_ws_len : (jm_ws dA base H).length = H.1.length := by simp [jm_ws]
theorem jm_ws_inv {k : Nat} {q : Nat × va_E} (h : (jm_ws dA base H)[k]? = some q) : k < H.1.length ∧ q = jm_at dA base H k := by
  have hl : k < H.1.length := by
    have := (List.getElem?_eq_some_iff.mp h).1
    rwa [jm_ws_len] at this
  rw [jm_ws_get hl] at h
  exact ⟨hl, (Option.some.inj h).symm⟩
theorem jm_kd_lt {a : Nat} (h : jm_kd H a ≠ 0) : a < H.1.length := by
  unfold jm_kd at h
  split at h
  · rename_i s hs
    exact (List.getElem?_eq_some_iff.mp hs).1
  · exact absurd rfl h
theorem jm_ws_D (A : Nat → Prop) (hA : ∀ q, base ≤ q → A q) : va_D A (jm_ws dA base H) := by
  refine ⟨fun i j p q hi hj hpq => ?_, fun k q hk => ?_⟩
  · obtain ⟨-, rfl⟩ := jm_ws_inv hi
    obtain ⟨-, rfl⟩ := jm_ws_inv hj
    have : base + i = base + j := hpq
    omega
  · obtain ⟨-, rfl⟩ := jm_ws_inv hk
    exact hA _ (Nat.le_add_right _ _)
/-- one cell has changed -/
theorem jm_ws_set {a : Nat} {e : va_E} (hl : H'.1.length = H.1.length) (hk : ∀ j, j ≠ a → jm_at dA base H' j = jm_at dA base H j) (he : jm_at dA base H' a = (base + a, e)) : jm_ws dA base H' = (jm_ws dA base H).set a (base + a, e) := by
  apply List.ext_getElem?
  intro j
  by_cases hj : j < H.1.length
  · rw [jm_ws_get (by omega)]
    by_cases e1 : j = a
    · subst e1
      rw [List.getElem?_set_self (by rw [jm_ws_len]; exact hj), he]
    · rw [List.getElem?_set_ne (Ne.symm e1), jm_ws_get hj, hk j e1]
  · rw [List.getElem?_eq_none (by rw [jm_ws_len]; omega), List.getElem?_eq_none (by rw [List.length_set, jm_ws_len]; omega)]
theorem jm_at_congr {j : Nat} (h1 : H'.1[j]? = H.1[j]?) (h2 : H'.2.1 j = H.2.1 j) (h3 : H'.2.2 j = H.2.2 j) : jm_at dA base H' j = jm_at dA base H j := by
  unfold jm_at jm_kd jm_ln jm_rf
  rw [h1, h2, h3]
theorem jm_ws_push {s : jm_S} : jm_ws dA base (jm_new H s) = jm_ws dA base H ++ [(base + H.1.length, jm_cell dA base s.1 s.2.1 s.2.2 (fun _ => 0) (fun _ => 0))] := by
  apply List.ext_getElem?
  intro j
  have hlen : (jm_new H s).1.length = H.1.length + 1 := by simp [jm_new]
  by_cases hj : j < H.1.length
  · rw [List.getElem?_append_left (by rw [jm_ws_len]; exact hj), jm_ws_get (by omega), jm_ws_get hj]
    congr 1
    refine jm_at_congr ?_ ?_ ?_
    · simp [jm_new, List.getElem?_append_left hj]
    · simp [jm_new, jm_row, Nat.ne_of_lt hj]
    · simp [jm_new, jm_row, Nat.ne_of_lt hj]
  · by_cases e1 : j = H.1.length
    · subst e1
      rw [jm_ws_get (by omega), List.getElem?_append_right (by rw [jm_ws_len]; exact Nat.le_refl _), jm_ws_len, Nat.sub_self]
      show some _ = some _
      unfold jm_at jm_kd jm_ln jm_rf
      simp [jm_new, jm_row]
    · rw [List.getElem?_eq_none (by rw [jm_ws_len]; omega), List.getElem?_eq_none (by simp [jm_ws_len]; omega)]
theorem jm_obj {a ci : Nat} (h : jm_kd H a = 10 + ci) : (jm_ws dA base H)[a]? = some (base + a, .inr (ci, (List.range (jm_N ci)).map (jm_fd base ci (jm_rf H a) (H.2.1 a)))) := by
  rw [jm_ws_get (jm_kd_lt (by omega))]
  unfold jm_at jm_cell
  rw [h, if_neg (by omega), if_neg (by omega), if_neg (by omega), Nat.add_sub_cancel_left]
theorem jm_iar {a : Nat} (h : jm_kd H a = 1) : (jm_ws dA base H)[a]? = some (base + a, .inl (dA 0, jm_ln H a, .inl (H.2.1 a))) := by
  rw [jm_ws_get (jm_kd_lt (by omega))]
  unfold jm_at jm_cell
  rw [if_pos h]
theorem jm_lar {a : Nat} (h : jm_kd H a = 2) : (jm_ws dA base H)[a]? = some (base + a, .inl (dA 1, jm_ln H a, .inr (.inl (H.2.2 a)))) := by
  rw [jm_ws_get (jm_kd_lt (by omega))]
  unfold jm_at jm_cell
  rw [if_neg (by omega), if_pos h]
theorem jm_rar {a : Nat} (h1 : 3 ≤ jm_kd H a) (h2 : jm_kd H a ≤ 5) : (jm_ws dA base H)[a]? = some (base + a, .inl (dA (jm_kd H a - 1), jm_ln H a, .inr (.inr (.inr (.inr (fun j => (jm_rf H a j).map (base + ·))))))) := by
  rw [jm_ws_get (jm_kd_lt (by omega))]
  unfold jm_at jm_cell
  rw [if_neg (by omega), if_neg (by omega), if_pos (by omega)]
theorem jm_clg {ci : Nat} (h : ci < 10) : jm_cl[ci]? = some (jm_R ci, jm_T ci, jm_N ci) := by
  rcases (show ci = 0 ∨ ci = 1 ∨ ci = 2 ∨ ci = 3 ∨ ci = 4 ∨ ci = 5 ∨ ci = 6 ∨ ci = 7 ∨ ci = 8 ∨ ci = 9 by omega) with h | h | h | h | h | h | h | h | h | h <;> subst h <;> rfl
theorem jm_tok {ci : Nat} (h : ci < 10) : ∀ k, k < jm_N ci → parseFieldDescriptor (jm_T ci k).2.2.1 = some (jm_ty ci k) := by
  rcases (show ci = 0 ∨ ci = 1 ∨ ci = 2 ∨ ci = 3 ∨ ci = 4 ∨ ci = 5 ∨ ci = 6 ∨ ci = 7 ∨ ci = 8 ∨ ci = 9 by omega) with h | h | h | h | h | h | h | h | h | h <;> subst h
  · exact tyX0_ok
  · exact tyX1_ok
  · exact tyX2_ok
  · exact tyX3_ok
  · exact tyX4_ok
  · exact tyX5_ok
  · exact tyX6_ok
  · exact tyX7_ok
  · exact tyX8_ok
  · exact tyX9_ok
theorem jm_nok {ci : Nat} (h : ci < 10) : ∀ a, a < jm_N ci → ∀ b, b < jm_N ci → a ≠ b → (jm_T ci a).2.1 ≠ (jm_T ci b).2.1 := by
  rcases (show ci = 0 ∨ ci = 1 ∨ ci = 2 ∨ ci = 3 ∨ ci = 4 ∨ ci = 5 ∨ ci = 6 ∨ ci = 7 ∨ ci = 8 ∨ ci = 9 by omega) with h | h | h | h | h | h | h | h | h | h <;> subst h
  · exact nmX0
  · exact nmX1
  · exact nmX2
  · exact nmX3
  · exact nmX4
  · exact nmX5
  · exact nmX6
  · exact nmX7
  · exact nmX8
  · exact nmX9
theorem jm_fdg {ci k : Nat} {rf : Nat → Option Nat} {i : Nat → Int32} (h : k < jm_N ci) : ((List.range (jm_N ci)).map (jm_fd base ci rf i))[k]? = some (jm_fd base ci rf i k) := by
  rw [List.getElem?_map, List.getElem?_range h]
  rfl
theorem jm_cvr (r : Option Nat) : jm_cv base b (jm_ref r) = va_rf (r.map (base + ·)) := by cases r <;> rfl
theorem jm_up_ne {α : Type} {f : Nat → Nat → α} {a k j : Nat} {v : α} (h : j ≠ a) : jm_up f a k v j = f j := by
  funext y
  simp [jm_up, h]
theorem jm_up_eq {α : Type} {f : Nat → Nat → α} {a k : Nat} {v : α} : jm_up f a k v a = fun j => if j = k then v else f a j := by
  funext y
  simp [jm_up]
theorem jm_row_ne {α : Type} {f : Nat → Nat → α} {a j : Nat} {g : Nat → α} (h : j ≠ a) : jm_row f a g j = f j := by simp [jm_row, h]
theorem jm_row_eq {α : Type} {f : Nat → Nat → α} {a : Nat} {g : Nat → α} : jm_row f a g a = g := by simp [jm_row]
end JMR
def jm_lr (base : Nat) (b : Nat → Nat) (ls : jm_L) (arr : Array Slot) (nL : Nat) : Prop := arr.size = nL ∧ ls.length = nL ∧ lv_wf arr ∧ ∀ (i : Nat) (v : Value), ls[i]? = some (some v) → arr[i]? = some (.val (jm_cv base b v))
def jm_kl (base : Nat) (b : Nat → Nat) (ls : jm_L) : List (Nat × Value) := (List.range ls.length).filterMap (fun i => match ls[i]? with
  | some (some v) => some (i, jm_cv base b v)
  | _ => none)
section JML
variable {base nL : Nat} {b : Nat → Nat} {ls ls' : jm_L} {arr : Array Slot}
theorem jm_kl_mem {q : Nat × Value} : q ∈ jm_kl base b ls ↔ ∃ v, ls[q.1]? = some (some v) ∧ q.2 = jm_cv base b v := by
  unfold jm_kl
  rw [List.mem_filterMap]
  constructor
  · rintro ⟨i, hi, h⟩
    split at h
    · rename_i v hv
      cases h
      exact ⟨v, hv, rfl⟩
    · cases h
  · rintro ⟨v, hv, hq⟩
    refine ⟨q.1, List.mem_range.mpr (List.getElem?_eq_some_iff.mp hv).1, ?_⟩
    rw [hv]
    show some (q.1, jm_cv base b v) = some q
    rw [← hq]
theorem jm_lr.has (h : jm_lr base b ls arr nL) : lv_has arr nL (jm_kl base b ls) := by
  refine ⟨h.1, h.2.2.1, fun q hq => ?_⟩
  obtain ⟨v, hv, hq⟩ := jm_kl_mem.mp hq
  rw [hq]
  exact h.2.2.2 _ _ hv
theorem jm_st1_len {i : Nat} {v : Value} (h : jm_st1 ls i v = some ls') : ls'.length = ls.length ∧ i < ls.length := by
  unfold jm_st1 at h
  split at h
  · rename_i hi
    split at h
    · cases h
      exact ⟨by simp, hi⟩
    · split at h
      · cases h; exact ⟨by simp, hi⟩
      · cases h
      · cases h; exact ⟨by simp, hi⟩
  · cases h
theorem jm_st1_get {i : Nat} {v : Value} (h : jm_st1 ls i v = some ls') {k : Nat} {w : Value} (hk : ls'[k]? = some (some w)) : (k = i ∧ w = v) ∨ (k ≠ i ∧ ls[k]? = some (some w) ∧ ¬ (k + 1 = i ∧ ((∃ x, w = .long x) ∨ ∃ x, w = .double x))) := by
  unfold jm_st1 at h
  split at h
  · rename_i hi
    split at h
    · cases h
      by_cases e : k = 0
      · subst e
        rw [List.getElem?_set_self hi] at hk
        cases hk
        exact Or.inl ⟨rfl, rfl⟩
      · rw [List.getElem?_set_ne (Ne.symm e)] at hk
        exact Or.inr ⟨e, hk, by omega⟩
    · rename_i j
      split at h
      · cases h
        by_cases e0 : k = j
        · subst e0
          rw [List.getElem?_set_self (by simp; omega)] at hk
          cases hk
        · rw [List.getElem?_set_ne (Ne.symm e0)] at hk
          by_cases e : k = j + 1
          · subst e
            rw [List.getElem?_set_self hi] at hk
            cases hk
            exact Or.inl ⟨rfl, rfl⟩
          · rw [List.getElem?_set_ne (Ne.symm e)] at hk
            exact Or.inr ⟨e, hk, by omega⟩
      · cases h
      · rename_i hn hn2
        cases h
        by_cases e : k = j + 1
        · subst e
          rw [List.getElem?_set_self hi] at hk
          cases hk
          exact Or.inl ⟨rfl, rfl⟩
        · rw [List.getElem?_set_ne (Ne.symm e)] at hk
          refine Or.inr ⟨e, hk, ?_⟩
          rintro ⟨e1, ⟨x, rfl⟩ | ⟨x, rfl⟩⟩
          · have e2 : k = j := by omega
            subst e2
            exact hn x hk
          · have e2 : k = j := by omega
            subst e2
            exact hn2 x hk
  · cases h
theorem jm_cv_cat (v : Value) : (jm_cv base b v).category = 2 → (∃ x, v = .long x) ∨ ∃ x, v = .double x := by
  cases v <;> simp [jm_cv, Value.category]
theorem jm_st2_len {i : Nat} {v : Value} (h : jm_st2 ls i v = some ls') : ls'.length = ls.length ∧ i + 1 < ls.length := by
  unfold jm_st2 at h
  split at h
  · rename_i hi
    split at h
    · cases h
      exact ⟨by simp, hi⟩
    · split at h
      · cases h; exact ⟨by simp, hi⟩
      · cases h
      · cases h; exact ⟨by simp, hi⟩
  · cases h
theorem jm_st2_get {i : Nat} {v : Value} (h : jm_st2 ls i v = some ls') {k : Nat} {w : Value} (hk : ls'[k]? = some (some w)) : (k = i ∧ w = v) ∨ (k ≠ i ∧ k ≠ i + 1 ∧ ls[k]? = some (some w) ∧ ¬ (k + 1 = i ∧ ((∃ x, w = .long x) ∨ ∃ x, w = .double x))) := by
  unfold jm_st2 at h
  split at h
  · rename_i hi
    split at h
    · cases h
      by_cases e1 : k = 1
      · subst e1
        rw [List.getElem?_set_self (by simp; omega)] at hk
        cases hk
      · rw [List.getElem?_set_ne (Ne.symm e1)] at hk
        by_cases e : k = 0
        · subst e
          rw [List.getElem?_set_self (by omega)] at hk
          cases hk
          exact Or.inl ⟨rfl, rfl⟩
        · rw [List.getElem?_set_ne (Ne.symm e)] at hk
          exact Or.inr ⟨e, e1, hk, by omega⟩
    · rename_i j
      split at h
      · cases h
        by_cases e0 : k = j
        · subst e0
          rw [List.getElem?_set_self (by simp; omega)] at hk
          cases hk
        · rw [List.getElem?_set_ne (Ne.symm e0)] at hk
          by_cases e2 : k = j + 2
          · subst e2
            rw [List.getElem?_set_self (by simp; omega)] at hk
            cases hk
          · rw [List.getElem?_set_ne (Ne.symm e2)] at hk
            by_cases e : k = j + 1
            · subst e
              rw [List.getElem?_set_self (by omega)] at hk
              cases hk
              exact Or.inl ⟨rfl, rfl⟩
            · rw [List.getElem?_set_ne (Ne.symm e)] at hk
              exact Or.inr ⟨e, by omega, hk, by omega⟩
      · cases h
      · rename_i hn hn2
        cases h
        by_cases e2 : k = j + 2
        · subst e2
          rw [List.getElem?_set_self (by simp; omega)] at hk
          cases hk
        · rw [List.getElem?_set_ne (Ne.symm e2)] at hk
          by_cases e : k = j + 1
          · subst e
            rw [List.getElem?_set_self (by omega)] at hk
            cases hk
            exact Or.inl ⟨rfl, rfl⟩
          · rw [List.getElem?_set_ne (Ne.symm e)] at hk
            refine Or.inr ⟨e, by omega, hk, ?_⟩
            rintro ⟨e1, ⟨x, rfl⟩ | ⟨x, rfl⟩⟩
            · have e3 : k = j := by omega
              subst e3
              exact hn x hk
            · have e3 : k = j := by omega
              subst e3
              exact hn2 x hk
  · cases h
theorem jm_lr.st1 (h : jm_lr base b ls arr nL) {i : Nat} {v : Value} (hs : jm_st1 ls i v = some ls') {arr' : Array Slot} (h' : lv_has arr' nL ((i, jm_cv base b v) :: (jm_kl base b ls).filter (fun q => !(q.1 == i) && !(q.1 + 1 == i && q.2.category == 2)))) : jm_lr base b ls' arr' nL := by
  refine ⟨h'.1, by rw [(jm_st1_len hs).1]; exact h.2.1, h'.2.1, fun k w hk => ?_⟩
  rcases jm_st1_get hs hk with ⟨rfl, rfl⟩ | ⟨h1, h2, h3⟩
  · exact h'.2.2 _ List.mem_cons_self
  · refine h'.2.2 (k, jm_cv base b w) (List.mem_cons_of_mem _ (List.mem_filter.mpr ⟨jm_kl_mem.mpr ⟨w, h2, rfl⟩, ?_⟩))
    simp only [Bool.and_eq_true, Bool.not_eq_true', beq_eq_false_iff_ne, ne_eq, Bool.and_eq_false_iff]
    refine ⟨h1, ?_⟩
    by_cases e : k + 1 = i
    · right
      intro hc
      exact h3 ⟨e, jm_cv_cat w hc⟩
    · exact Or.inl e
theorem jm_lr.st2 (h : jm_lr base b ls arr nL) {i : Nat} {v : Value} (hs : jm_st2 ls i v = some ls') {arr' : Array Slot} (h' : lv_has arr' nL ((i, jm_cv base b v) :: (jm_kl base b ls).filter (fun q => !(q.1 == i) && (!(q.1 == i + 1) && !(q.1 + 1 == i && q.2.category == 2))))) : jm_lr base b ls' arr' nL := by
  refine ⟨h'.1, by rw [(jm_st2_len hs).1]; exact h.2.1, h'.2.1, fun k w hk => ?_⟩
  rcases jm_st2_get hs hk with ⟨rfl, rfl⟩ | ⟨h1, h1', h2, h3⟩
  · exact h'.2.2 _ List.mem_cons_self
  · refine h'.2.2 (k, jm_cv base b w) (List.mem_cons_of_mem _ (List.mem_filter.mpr ⟨jm_kl_mem.mpr ⟨w, h2, rfl⟩, ?_⟩))
    simp only [Bool.and_eq_true, Bool.not_eq_true', beq_eq_false_iff_ne, ne_eq, Bool.and_eq_false_iff]
    refine ⟨h1, h1', ?_⟩
    by_cases e : k + 1 = i
    · right
      intro hc
      exact h3 ⟨e, jm_cv_cat w hc⟩
    · exact Or.inl e
end JML
