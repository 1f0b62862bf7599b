/-! The small machine by computation: calls with fuel. -/
def jm_le (E E' : jm_E) : Prop := ∀ (a : Nat) (as : List Value) (H : jm_H) (o : jm_O), E a as H = some o → E' a as H = some o
section JMM
variable {xs xs' : Nat → Int32} {L : Nat} {E E' : jm_E}
set_option maxHeartbeats 8000000 in
theorem jm_stp_le (hE : jm_le E E') {e0 : jm_I} {pc : Nat} {ls : jm_L} {st : List Value} {H : jm_H} {r : jm_C ⊕ jm_O} (hs : jm_stp xs 4294967296 E e0 pc ls st H = some r) : jm_stp xs' L E' e0 pc ls st H = some r := by
  have keyC : ∀ {pc' : Nat} {r' : List Value} {a : Nat} {as : List Value}, jm_call pc' ls r' (E a as H) = some r → jm_call pc' ls r' (E' a as H) = some r := fun {pc' r' a as} h => by
    unfold jm_call at h ⊢
    cases hq : E a as H with
    | none => rw [hq] at h; cases h
    | some o =>
      rw [hE _ _ _ _ hq]
      rw [hq] at h
      exact h
  obtain ⟨ins, npc, a0, b0, z0⟩ := e0
  cases ins
  case invokevirtual ix =>
    simp only [jm_stp] at hs ⊢
    split at hs
    · split at hs
      · rename_i h
        rw [if_pos h]
        exact keyC hs
      · cases hs
    · split at hs
      · rename_i h
        rw [if_pos h]
        exact keyC hs
      · cases hs
    · cases hs
  case invokespecial ix =>
    simp only [jm_stp] at hs ⊢
    split at hs
    · split at hs
      · rename_i h
        rw [if_pos h]
        split at hs
        · rename_i h2
          rw [if_pos h2]
          exact hs
        · rename_i h2
          rw [if_neg h2]
          exact keyC hs
      · cases hs
    · cases hs
  case invokestatic ix =>
    simp only [jm_stp] at hs ⊢
    split at hs
    · rename_i h
      rw [if_pos h]
      exact hs
    · rename_i h
      rw [if_neg h]
      split at hs
      · rename_i h1
        rw [if_pos h1]
        exact hs
      · rename_i h1
        rw [if_neg h1]
        split at hs
        · rename_i h2
          rw [if_pos h2]
          exact hs
        · rename_i h2
          rw [if_neg h2]
          split at hs
          · rename_i h3
            rw [if_pos h3]
            exact keyC hs
          · cases hs
  case arraylength =>
    simp only [jm_stp] at hs ⊢
    split at hs
    · exact hs
    · rw [if_neg (by omega)] at hs
      cases hs
    · cases hs
  case iaload =>
    simp only [jm_stp] at hs ⊢
    split at hs
    · exact hs
    · rw [if_neg (by omega)] at hs
      cases hs
    · cases hs
  all_goals exact hs
theorem jm_run_mono (hE : jm_le E E') {mi : Nat} : ∀ (n : Nat) (cf : jm_C) (r : jm_O), jm_run xs 4294967296 E mi n cf = some r → jm_run xs' L E' mi n cf = some r
  | 0, _, _, h => by simp [jm_run] at h
  | n + 1, (pc, ls, st, H), r, h => by
    simp only [jm_run] at h ⊢
    split at h
    · split at h
      · rename_i cf' hs
        rw [jm_stp_le (xs' := xs') (L := L) hE hs]
        exact jm_run_mono hE n cf' r h
      · rename_i r' hs
        rw [jm_stp_le (xs' := xs') (L := L) hE hs]
        exact h
      · cases h
    · cases h
/-- calls with fuel n at every depth, without a script -/
noncomputable def jm_exC (n : Nat) : Nat → jm_E
  | 0 => fun _ _ _ => none
  | d + 1 => fun mi args H => if mi = 172 then none else match jm_MT[mi]? with
    | some q => if (lg_sl args).length ≤ q.2.2.1 then jm_run (fun _ => 0) 4294967296 (jm_exC n d) mi n (0, jm_ent args q.2.2.1, [], H) else none
    | none => none
theorem jm_exC_le (n : Nat) : ∀ d : Nat, jm_le (jm_exC n d) (jm_ex xs' L d)
  | 0 => fun _ _ _ _ h => by simp [jm_exC] at h
  | d + 1 => fun mi args H o h => by
    simp only [jm_exC] at h
    split at h
    · cases h
    · rename_i hne
      simp only [jm_ex, if_neg hne]
      split at h
      · split at h
        · rename_i q0 hq0 hl
          simp only [hq0, if_pos hl]
          have h1 := jm_run_mono (xs' := xs') (L := L) (jm_exC_le n d) n _ _ h
          exact jm_lim_of h1 (fun k r' h' => jm_run_det h' h1)
        · cases h
      · cases h
set_option maxHeartbeats 8000000 in
theorem jm_stp_leS (hE : jm_le E E') {e0 : jm_I} {pc : Nat} {ls : jm_L} {st : List Value} {H : jm_H} {r : jm_C ⊕ jm_O} (hs : jm_stp xs L E e0 pc ls st H = some r) : jm_stp xs L E' e0 pc ls st H = some r := by
  have keyC : ∀ {pc' : Nat} {r' : List Value} {a : Nat} {as : List Value}, jm_call pc' ls r' (E a as H) = some r → jm_call pc' ls r' (E' a as H) = some r := fun {pc' r' a as} h => by
    unfold jm_call at h ⊢
    cases hq : E a as H with
    | none => rw [hq] at h; cases h
    | some o =>
      rw [hE _ _ _ _ hq]
      rw [hq] at h
      exact h
  obtain ⟨ins, npc, a0, b0, z0⟩ := e0
  cases ins
  case invokevirtual ix =>
    simp only [jm_stp] at hs ⊢
    split at hs
    · split at hs
      · rename_i h
        rw [if_pos h]
        exact keyC hs
      · cases hs
    · split at hs
      · rename_i h
        rw [if_pos h]
        exact keyC hs
      · cases hs
    · cases hs
  case invokespecial ix =>
    simp only [jm_stp] at hs ⊢
    split at hs
    · split at hs
      · rename_i h
        rw [if_pos h]
        split at hs
        · rename_i h2
          rw [if_pos h2]
          exact hs
        · rename_i h2
          rw [if_neg h2]
          exact keyC hs
      · cases hs
    · cases hs
  case invokestatic ix =>
    simp only [jm_stp] at hs ⊢
    split at hs
    · rename_i h
      rw [if_pos h]
      exact hs
    · rename_i h
      rw [if_neg h]
      split at hs
      · rename_i h1
        rw [if_pos h1]
        exact hs
      · rename_i h1
        rw [if_neg h1]
        split at hs
        · rename_i h2
          rw [if_pos h2]
          exact hs
        · rename_i h2
          rw [if_neg h2]
          split at hs
          · rename_i h3
            rw [if_pos h3]
            exact keyC hs
          · cases hs
  all_goals exact hs
theorem jm_run_monoS (hE : jm_le E E') {mi : Nat} : ∀ (n : Nat) (cf : jm_C) (r : jm_O), jm_run xs L E mi n cf = some r → jm_run xs L E' mi n cf = some r
  | 0, _, _, h => by simp [jm_run] at h
  | n + 1, (pc, ls, st, H), r, h => by
    simp only [jm_run] at h ⊢
    split at h
    · split at h
      · rename_i cf' hs
        rw [jm_stp_leS hE hs]
        exact jm_run_monoS hE n cf' r h
      · rename_i r' hs
        rw [jm_stp_leS hE hs]
        exact h
      · cases h
    · cases h
theorem jm_ex_mono : ∀ d : Nat, jm_le (jm_ex xs L d) (jm_ex xs L (d + 1))
  | 0 => fun _ _ _ _ h => by simp [jm_ex] at h
  | d + 1 => fun mi args H o h => by
    rw [jm_ex] at h ⊢
    dsimp only at h ⊢
    by_cases hne : mi = 172
    · rw [if_pos hne] at h ⊢
      split at h
      · rw [if_pos (by omega)]
        exact h
      · cases h
    · rw [if_neg hne] at h ⊢
      split at h
      · split at h
        · rename_i q0 hq0 hl
          simp only [hq0, if_pos hl]
          obtain ⟨n, h⟩ := jm_lim_some h
          have h1 := jm_run_monoS (jm_ex_mono d) n _ _ h
          exact jm_lim_of h1 (fun k r' h' => jm_run_det h' h1)
        · cases h
      · cases h
theorem jm_ex_le {d d' : Nat} (h : d ≤ d') : jm_le (jm_ex xs L d) (jm_ex xs L d') := by
  obtain ⟨k, rfl⟩ := Nat.exists_eq_add_of_le h
  induction k with
  | zero => exact fun _ _ _ _ h => h
  | succ k ih => exact fun a as H o h => jm_ex_mono (d + k) _ _ _ _ (ih (Nat.le_add_right _ _) _ _ _ _ h)
end JMM
