/-! The walk of the law, from its entry. -/
theorem whole_start {p : Program} {e : Env} {s : State} {m : MethodId} {below : List Frame} {meth : Method} {c : Code} (l : Launch) (_ : l.flags = flags0) {b L : Nat} {xs : Nat → Int32} (hL : L ≤ 3072) (C0 : lw_At p s m meth c b L xs) : W p l e room_1 s m #[Value.ref b] below meth c s.heap [] 0 0 (lw_Z below #[Value.ref b] s) (entryFrame m ([Value.ref b] : List Value).toArray 4) := by
  have w := law_loop (xs := xs) (d := 0) hL (L + 1) 0 jJ0 jK0 (by omega) (by omega) Inv_0
  rw [jH0] at w
  have w0 := jm_law0 (xs := xs) (L := L) (d := 0 + 1700) (by omega) w
  obtain ⟨n, ⟨v, H'⟩, h1, r, J', K', h2, h3, h4⟩ := w0
  have h2 : v = some (.int (Int32.ofInt r)) := h2
  have h3 : H' = jz_H J' K' := h3
  subst h4
  subst h2
  subst h3
  have fz := jm_i3 jm_i0f
  rw [Bool.and_eq_true] at fz
  have f1 : jm_Hd.1.length = 205 := eq_of_beq fz.1
  have f2 : jm_sl jm_Hd ≤ 100000 := of_decide_eq_true fz.2
  exact jm_start (d := 0 + 1700) l C0 (by omega) h1 (by show jm_Hd.1.length ≤ 600000; omega) (by show jm_sl jm_Hd ≤ 7302250; omega)
