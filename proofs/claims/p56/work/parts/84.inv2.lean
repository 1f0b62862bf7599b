/-! What holds between the calls, behind those that change something. -/
section IV
variable {J J' J1 J2 K K' K1 K2 : jZ} {T T' : zT} {s s' : Int} {A A' : zA} {H H' : zH} {B B' : zB} {R R' : Nat → Int} {y y' : zY}
-- the text
-- the tape
theorem cI_B (hp : pKp y) (c : cI J K T s A H B R y) (F : cBf J J1) (r : cB_at J1 B') : cI J1 K T s A H B' R y := by
  have h24 := c.1.2.1.1
  obtain ⟨Q, S, hs, hH, hB, hR, hy⟩ := c
  exact ⟨cQ_lo Q (fun x hx => F x (by omega) (by omega)), cst_of S h24 (fun x _ _ => F x (by omega) (by omega)), by rw [F 1 (by omega) (by omega)]; exact hs, cH_of hH (fun x _ _ => F x (by omega) (by omega)) (fun x _ _ => rfl), r, fun k hk => by rw [F 150 (by omega) (by omega)]; exact hR k hk, cKp_of hy hp (by rw [F 0 (by omega) (by omega)]) (fun x hx => F x (by omega) (by omega))⟩
theorem zB_0_ok : zB_ok zB_0 := ⟨Nat.zero_le _, fun i hi => absurd hi (Nat.not_lt_zero _)⟩
-- one more ask
theorem pI_A {r : Nat → Int} (p : pI T A H B y) : pI T (zA_a A r) H B y := ⟨p.1, fun t ht => by
  rcases p.2.1 t ht with c | c | c
  · exact .inl c
  · exact .inr (.inl c)
  · exact .inr (.inr ⟨c.1, by
      show (H t).1 < 10 + ((A.1 + 1 : Nat) : Int)
      omega⟩), p.2.2⟩
-- shelves
theorem zH_k8_ok {m n : Nat} (h : zH_ok n H) : zH_ok m (zH_k m H 8) := fun t ht => by
  have := zH_d_ok (m := m) h t ht
  unfold zH_k
  rw [if_pos ht]
  exact this
end IV
