/-! What holds at the beginning. -/
theorem Iy_0 : Iy 0 none jJ0 jK0 := by
  refine ⟨(0, fun _ => 0, fun _ => 0, fun _ => 0), 1, (0, fun _ _ => 0), fun _ => (-1, 0, fun _ => 0), fun _ => 0, ⟨⟨fun w _ => ?_, fun t _ => .inl rfl, zB_0_ok, trivial⟩, ⟨⟨⟨?_, fun k hk => absurd hk (Nat.not_lt_zero _), fun k hk => absurd hk (Nat.not_lt_zero _), fun w _ => ?_⟩, ⟨?_, fun k hk => absurd hk (Nat.not_lt_zero _)⟩, ⟨?_, fun k hk => absurd hk (Nat.not_lt_zero _), fun w hw => ?_⟩, ⟨?_, fun k hk => absurd hk (Nat.not_lt_zero _)⟩, fun k hk => absurd hk (Nat.not_lt_zero _), ?_, ⟨?_, fun k hk => absurd hk (Nat.not_lt_zero _)⟩, fun j hj => ?_⟩, fun k hk => absurd hk (Nat.not_lt_zero _), ?_, fun t ht => ⟨?_, fun q => ?_⟩, ⟨?_, fun k hk => absurd hk (Nat.not_lt_zero _)⟩, fun k hk => ?_, ?_⟩⟩, fun k hk => ⟨Int.le_refl _, Int.le_refl _⟩⟩
  · show (0 : Int) ≤ 0 ∧ (0 : Int) < 65536
    omega
  · show 0 ≤ 60
    omega
  · show (-2147483648 : Int) ≤ 0 ∧ (0 : Int) < 2147483648
    omega
  · show 0 ≤ 24
    omega
  · exact jJ_i (a := 1) (k := 3) (v := 0) (by decide) (by omega)
  · exact jJ_z (a := 4) (n := 16) (by decide) hw
  · exact jJ_i (a := 9) (k := 1) (v := 0) (by decide) (by omega)
  · exact jJ_i (a := 61) (k := 6) (v := -1) (by decide) (by omega)
  · exact jJ_e
  · rw [jJ_i (a := 61) (k := 5) (v := 0) (by decide) (by omega)] at hj
    exact absurd hj zb_0
  · exact jJ_i (a := 1) (k := 4) (v := 1) (by decide) (by omega)
  · show jJ0 (151 + 2 * t) 2 = -1
    have e : t = 0 ∨ t = 1 ∨ t = 2 ∨ t = 3 ∨ t = 4 ∨ t = 5 ∨ t = 6 ∨ t = 7 := by omega
    rcases e with rfl | rfl | rfl | rfl | rfl | rfl | rfl | rfl
    · exact jJ_i (a := 151) (k := 2) (v := -1) (by decide) (by omega)
    · exact jJ_i (a := 153) (k := 2) (v := -1) (by decide) (by omega)
    · exact jJ_i (a := 155) (k := 2) (v := -1) (by decide) (by omega)
    · exact jJ_i (a := 157) (k := 2) (v := -1) (by decide) (by omega)
    · exact jJ_i (a := 159) (k := 2) (v := -1) (by decide) (by omega)
    · exact jJ_i (a := 161) (k := 2) (v := -1) (by decide) (by omega)
    · exact jJ_i (a := 163) (k := 2) (v := -1) (by decide) (by omega)
    · exact jJ_i (a := 165) (k := 2) (v := -1) (by decide) (by omega)
  · have q : (0 : Int) ≤ -1 := q.1
    omega
  · exact jJ_i (a := 144) (k := 1) (v := 0) (by decide) (by omega)
  · exact jJ_z (a := 150) (n := 5) (by decide) hk
  · exact jJ_i (a := 0) (k := 11) (v := 0) (by decide) (by omega)
/-! The walk of the law, from its entry. -/
theorem whole_start {p : Program} {e : Env} {s : State} {m : MethodId} {below : List Frame} {meth : Method} {c : Code} (l : Launch) (_ : l.flags = flags0) {b L : Nat} {xs : Nat → Int32} (hL : L ≤ 260) (C0 : lw_At p s m meth c b L xs) : W p l e room_1 s m #[Value.ref b] below meth c s.heap [] 0 0 (lw_Z below #[Value.ref b] s) (entryFrame m ([Value.ref b] : List Value).toArray 9) := by
  have w : l_173_8 xs L (0 + 8) jJ0 jK0 (fun r _ _ => r = 1) := s_173 (by omega) (fun _ _ => rfl) Iy_0
  unfold l_173_8 at w
  rw [jH0] at w
  have w0 := jm_law0 (xs := xs) (L := L) (d := 0 + 8) (by omega) w
  obtain ⟨n, ⟨v, H'⟩, h1, r, J', K', h2, h3, h4⟩ := w0
  have h2 : v = some (.int (Int32.ofInt r)) := h2
  have h3 : H' = jz_H J' K' := h3
  subst h4
  subst h2
  subst h3
  have fz := jm_i3 jm_i0f
  rw [Bool.and_eq_true] at fz
  have f1 : jm_Hd.1.length = 167 := eq_of_beq fz.1
  have f2 : jm_sl jm_Hd ≤ 100000 := of_decide_eq_true fz.2
  exact jm_start (d := 0 + 8) l C0 (by omega) h1 (by show jm_Hd.1.length ≤ 600000; omega) (by show jm_sl jm_Hd ≤ 7302250; omega)
