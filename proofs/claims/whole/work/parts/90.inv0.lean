/-! What holds at the beginning. -/
theorem Inv_0 : Inv jJ0 jK0 := by
  refine ⟨(0, fun _ => 0, fun _ => 0, fun _ => 0), 1, (0, fun _ _ => 0), fun _ => (-1, 0, fun _ => 0), zB_0, fun _ => 0, none, ⟨fun w _ => ?_, fun t _ => .inl rfl, zB_0_ok, trivial⟩, ⟨⟨⟨?_, fun k hk => absurd hk (Nat.not_lt_zero _), fun k hk => absurd hk (Nat.not_lt_zero _), fun w _ => ?_⟩, ⟨?_, fun k hk => absurd hk (Nat.not_lt_zero _)⟩, ⟨?_, fun k hk => absurd hk (Nat.not_lt_zero _), fun w hw => ?_⟩, ⟨?_, fun k hk => absurd hk (Nat.not_lt_zero _)⟩, fun k hk => absurd hk (Nat.not_lt_zero _), ?_, ⟨?_, fun k hk => absurd hk (Nat.not_lt_zero _)⟩, fun j hj => ?_⟩, fun k hk => absurd hk (Nat.not_lt_zero _), ?_, fun t ht => ⟨?_, fun q => ?_⟩, ⟨?_, fun k hk => absurd hk (Nat.not_lt_zero _)⟩, fun k hk => ?_, ?_⟩, ⟨⟨⟨?_, fun k hk => absurd hk (Nat.not_lt_zero _), fun k hk => absurd hk (Nat.not_lt_zero _), fun w _ => ?_⟩, ⟨?_, fun k hk => absurd hk (Nat.not_lt_zero _)⟩, ⟨?_, fun k hk => absurd hk (Nat.not_lt_zero _), fun w hw => ?_⟩, ⟨?_, fun k hk => absurd hk (Nat.not_lt_zero _)⟩, ?_, ⟨.inl ?_, fun q => ?_⟩⟩, ?_, fun t ht => ⟨fun _ => ?_, fun q => ?_, fun q => ?_⟩, ⟨?_, fun k hk => absurd hk (Nat.not_lt_zero _)⟩, fun k hk => ?_, ?_⟩⟩
  · show (0 : Int) ≤ 0 ∧ (0 : Int) < 65536
    omega
  · show 0 ≤ 60
    omega
  · show (-2147483648 : Int) ≤ 0 ∧ (0 : Int) < 2147483648
    omega
  · show 0 ≤ 24
    omega
  · exact jJ_i (a := 1) (k := 3) (v := 0) (by decide) (by omega)
  · exact jJ_z (a := 4) (n := 16) (by decide) hw
  · exact jJ_i (a := 9) (k := 1) (v := 0) (by decide) (by omega)
  · exact jJ_i (a := 61) (k := 6) (v := -1) (by decide) (by omega)
  · exact jJ_e
  · rw [jJ_i (a := 61) (k := 5) (v := 0) (by decide) (by omega)] at hj
    exact absurd hj zb_0
  · exact jJ_i (a := 1) (k := 4) (v := 1) (by decide) (by omega)
  · show jJ0 (151 + 2 * t) 2 = -1
    have e : t = 0 ∨ t = 1 ∨ t = 2 ∨ t = 3 ∨ t = 4 ∨ t = 5 ∨ t = 6 ∨ t = 7 := by omega
    rcases e with rfl | rfl | rfl | rfl | rfl | rfl | rfl | rfl
    · exact jJ_i (a := 151) (k := 2) (v := -1) (by decide) (by omega)
    · exact jJ_i (a := 153) (k := 2) (v := -1) (by decide) (by omega)
    · exact jJ_i (a := 155) (k := 2) (v := -1) (by decide) (by omega)
    · exact jJ_i (a := 157) (k := 2) (v := -1) (by decide) (by omega)
    · exact jJ_i (a := 159) (k := 2) (v := -1) (by decide) (by omega)
    · exact jJ_i (a := 161) (k := 2) (v := -1) (by decide) (by omega)
    · exact jJ_i (a := 163) (k := 2) (v := -1) (by decide) (by omega)
    · exact jJ_i (a := 165) (k := 2) (v := -1) (by decide) (by omega)
  · have q : (0 : Int) ≤ -1 := q.1
    omega
  · exact jJ_i (a := 144) (k := 1) (v := 0) (by decide) (by omega)
  · exact jJ_z (a := 150) (n := 5) (by decide) hk
  · exact jJ_i (a := 0) (k := 11) (v := 0) (by decide) (by omega)
  · show 0 ≤ 60
    omega
  · show (-2147483648 : Int) ≤ 0 ∧ (0 : Int) < 2147483648
    omega
  · show 0 ≤ 24
    omega
  · exact jJ_i (a := 167) (k := 9) (v := 0) (by decide) (by omega)
  · exact jJ_z (a := 186) (n := 16) (by decide) hw
  · exact jJ_i (a := 167) (k := 10) (v := 0) (by decide) (by omega)
  · exact jJ_i (a := 167) (k := 37) (v := -1) (by decide) (by omega)
  · exact jJ_i (a := 167) (k := 26) (v := 0) (by decide) (by omega)
  · rw [jJ_i (a := 167) (k := 26) (v := 0) (by decide) (by omega)] at q
    omega
  · exact jJ_i (a := 167) (k := 11) (v := 1) (by decide) (by omega)
  · exact jJ_z (a := 168) (n := 8) (by decide) ht
  · have q : (0 : Int) ≤ -1 := q.1
    omega
  · have q : (10 : Int) ≤ -1 := q
    omega
  · exact jJ_i (a := 167) (k := 7) (v := 0) (by decide) (by omega)
  · exact jJ_z (a := 183) (n := 8) (by decide) (by omega)
  · exact jJ_i (a := 167) (k := 17) (v := 0) (by decide) (by omega)
