/-! What the two constructors make: 205 cells. -/
def jm_lay0 : List (Nat × Nat × List (Option Nat)) := [(19, 12, [some 1, some 5, some 9, some 35, some 61, some 140, some 143, some 144, some 146, some 149, some 150]),
  (18, 5, [some 2, some 3, some 4]),
  (1, 60, []),
  (1, 60, []),
  (1, 16, []),
  (18, 5, [some 6, some 7, some 8]),
  (1, 60, []),
  (1, 60, []),
  (1, 16, []),
  (12, 2, [some 10]),
  (4, 24, [some 11, some 12, some 13, some 14, some 15, some 16, some 17, some 18, some 19, some 20, some 21, some 22, some 23, some 24, some 25, some 26, some 27, some 28, some 29, some 30, some 31, some 32, some 33, some 34]),
  (10, 11, []),
  (10, 11, []),
  (10, 11, []),
  (10, 11, []),
  (10, 11, []),
  (10, 11, []),
  (10, 11, []),
  (10, 11, []),
  (10, 11, []),
  (10, 11, []),
  (10, 11, []),
  (10, 11, []),
  (10, 11, []),
  (10, 11, []),
  (10, 11, []),
  (10, 11, []),
  (10, 11, []),
  (10, 11, []),
  (10, 11, []),
  (10, 11, []),
  (10, 11, []),
  (10, 11, []),
  (10, 11, []),
  (10, 11, []),
  (12, 2, [some 36]),
  (4, 24, [some 37, some 38, some 39, some 40, some 41, some 42, some 43, some 44, some 45, some 46, some 47, some 48, some 49, some 50, some 51, some 52, some 53, some 54, some 55, some 56, some 57, some 58, some 59, some 60]),
  (10, 11, []),
  (10, 11, []),
  (10, 11, []),
  (10, 11, []),
  (10, 11, []),
  (10, 11, []),
  (10, 11, []),
  (10, 11, []),
  (10, 11, []),
  (10, 11, []),
  (10, 11, []),
  (10, 11, []),
  (10, 11, []),
  (10, 11, []),
  (10, 11, []),
  (10, 11, []),
  (10, 11, []),
  (10, 11, []),
  (10, 11, []),
  (10, 11, []),
  (10, 11, []),
  (10, 11, []),
  (10, 11, []),
  (10, 11, []),
  (14, 7, [some 1, some 9, some 62, some 63, some 66]),
  (5, 24, [some 68, some 71, some 74, some 77, some 80, some 83, some 86, some 89, some 92, some 95, some 98, some 101, some 104, some 107, some 110, some 113, some 116, some 119, some 122, some 125, some 128, some 131, some 134, some 137]),
  (16, 3, [some 64, some 65]),
  (1, 60, []),
  (1, 60, []),
  (13, 1, [some 67]),
  (1, 60, []),
  (16, 3, [some 69, some 70]),
  (1, 60, []),
  (1, 60, []),
  (16, 3, [some 72, some 73]),
  (1, 60, []),
  (1, 60, []),
  (16, 3, [some 75, some 76]),
  (1, 60, []),
  (1, 60, []),
  (16, 3, [some 78, some 79]),
  (1, 60, []),
  (1, 60, []),
  (16, 3, [some 81, some 82]),
  (1, 60, []),
  (1, 60, []),
  (16, 3, [some 84, some 85]),
  (1, 60, []),
  (1, 60, []),
  (16, 3, [some 87, some 88]),
  (1, 60, []),
  (1, 60, []),
  (16, 3, [some 90, some 91]),
  (1, 60, []),
  (1, 60, []),
  (16, 3, [some 93, some 94]),
  (1, 60, []),
  (1, 60, []),
  (16, 3, [some 96, some 97]),
  (1, 60, []),
  (1, 60, []),
  (16, 3, [some 99, some 100]),
  (1, 60, []),
  (1, 60, []),
  (16, 3, [some 102, some 103]),
  (1, 60, []),
  (1, 60, []),
  (16, 3, [some 105, some 106]),
  (1, 60, []),
  (1, 60, []),
  (16, 3, [some 108, some 109]),
  (1, 60, []),
  (1, 60, []),
  (16, 3, [some 111, some 112]),
  (1, 60, []),
  (1, 60, []),
  (16, 3, [some 114, some 115]),
  (1, 60, []),
  (1, 60, []),
  (16, 3, [some 117, some 118]),
  (1, 60, []),
  (1, 60, []),
  (16, 3, [some 120, some 121]),
  (1, 60, []),
  (1, 60, []),
  (16, 3, [some 123, some 124]),
  (1, 60, []),
  (1, 60, []),
  (16, 3, [some 126, some 127]),
  (1, 60, []),
  (1, 60, []),
  (16, 3, [some 129, some 130]),
  (1, 60, []),
  (1, 60, []),
  (16, 3, [some 132, some 133]),
  (1, 60, []),
  (1, 60, []),
  (16, 3, [some 135, some 136]),
  (1, 60, []),
  (1, 60, []),
  (16, 3, [some 138, some 139]),
  (1, 60, []),
  (1, 60, []),
  (16, 3, [some 141, some 142]),
  (1, 60, []),
  (1, 60, []),
  (1, 60, []),
  (17, 2, [some 145]),
  (1, 250, []),
  (11, 10, [some 144, some 9, some 147, some 148]),
  (1, 250, []),
  (1, 250, []),
  (3, 8, [some 151, some 153, some 155, some 157, some 159, some 161, some 163, some 165]),
  (1, 5, []),
  (15, 3, [some 152]),
  (2, 40, []),
  (15, 3, [some 154]),
  (2, 40, []),
  (15, 3, [some 156]),
  (2, 40, []),
  (15, 3, [some 158]),
  (2, 40, []),
  (15, 3, [some 160]),
  (2, 40, []),
  (15, 3, [some 162]),
  (2, 40, []),
  (15, 3, [some 164]),
  (2, 40, []),
  (15, 3, [some 166]),
  (2, 40, []),
  (20, 42, [some 168, some 169, some 170, some 171, some 180, some 181, some 182, none, some 183, none, none, none, some 184, some 185, some 186, some 187, some 188, none, none, none, none, some 189, some 190, some 191, some 192, some 193, none, some 194, some 195, some 196, some 197, some 198, some 199, some 200, some 201, some 202, some 203, none, none, none, none, some 204]),
  (1, 8, []),
  (1, 8, []),
  (1, 8, []),
  (6, 8, [some 172, some 173, some 174, some 175, some 176, some 177, some 178, some 179]),
  (2, 40, []),
  (2, 40, []),
  (2, 40, []),
  (2, 40, []),
  (2, 40, []),
  (2, 40, []),
  (2, 40, []),
  (2, 40, []),
  (2, 40, []),
  (1, 8, []),
  (1, 250, []),
  (1, 8, []),
  (1, 60, []),
  (1, 60, []),
  (1, 16, []),
  (1, 24, []),
  (1, 96, []),
  (1, 60, []),
  (1, 60, []),
  (1, 16, []),
  (1, 24, []),
  (1, 96, []),
  (1, 60, []),
  (1, 27, []),
  (1, 1620, []),
  (1, 1620, []),
  (1, 60, []),
  (2, 24, []),
  (1, 24, []),
  (1, 24, []),
  (1, 60, []),
  (1, 60, []),
  (1, 4, [])]
noncomputable def jm_Ha : jm_H := jm_new jm_H0 (19, 12, fun _ => none)
/-- what holds of the heap behind the constructors -/
noncomputable def jm_okc (H : jm_H) (a : Nat) : Bool := match jm_lay0[a]? with
  | some q => jm_kd H a == q.1 && jm_ln H a == q.2.1 && (q.2.2.zipIdx.all fun r => jm_rf H a r.2 == r.1)
  | none => true
noncomputable def jm_oks (i n : Nat) (H : jm_H) : Bool := (List.range n).all fun j => jm_okc H (i + j)
noncomputable def jm_okz (H : jm_H) : Bool := ([(4, 16), (150, 5), (186, 16), (183, 8), (168, 8)] : List (Nat × Nat)).all fun q => (List.range q.2).all fun k => H.2.1 q.1 k == 0
noncomputable def jm_oki (H : jm_H) : Bool := ([(0, 11, 0), (1, 3, 0), (9, 1, 0), (61, 5, 0), (144, 1, 0), (167, 7, 0), (167, 9, 0), (167, 10, 0), (167, 17, 0), (167, 26, 0), (1, 4, 1), (5, 4, 1), (61, 6, (-1)), (151, 2, (-1)), (153, 2, (-1)), (155, 2, (-1)), (157, 2, (-1)), (159, 2, (-1)), (161, 2, (-1)), (163, 2, (-1)), (165, 2, (-1)), (167, 11, 1), (167, 37, (-1))] : List (Nat × Nat × Int)).all fun q => H.2.1 q.1 q.2.1 == Int32.ofInt q.2.2
noncomputable def jm_okr (o : Option jm_O) (f : jm_H → Bool) : Bool := match o with
  | some (none, H) => f H
  | _ => false
theorem jm_okr_some {o : Option jm_O} {f : jm_H → Bool} (h : jm_okr o f = true) : ∃ H, o = some (none, H) ∧ f H = true := by
  unfold jm_okr at h
  split at h
  · exact ⟨_, rfl, h⟩
  · cases h
noncomputable def jm_i0 (f : jm_H → Bool) : Bool := jm_okr (jm_exC 2000 6 0 [.ref 0] jm_Ha) (fun Hb => Hb.1.length == 167 && jm_okr (jm_exC 2000 6 167 [.ref 167] (jm_new Hb (20, 42, fun _ => none))) f)
set_option maxRecDepth 100000 in
theorem jm_i0a : jm_i0 (jm_oks 0 70) = true := by decide +kernel
set_option maxRecDepth 100000 in
theorem jm_i0b : jm_i0 (jm_oks 70 70) = true := by decide +kernel
set_option maxRecDepth 100000 in
theorem jm_i0c : jm_i0 (jm_oks 140 70) = true := by decide +kernel
set_option maxRecDepth 100000 in
theorem jm_i0d : jm_i0 jm_okz = true := by decide +kernel
set_option maxRecDepth 100000 in
theorem jm_i0e : jm_i0 jm_oki = true := by decide +kernel
set_option maxRecDepth 100000 in
theorem jm_i0f : jm_i0 (fun H => H.1.length == 205 && decide (jm_sl H ≤ 100000)) = true := by decide +kernel
theorem jm_i2 : ∃ q : jm_H × jm_H, jm_exC 2000 6 0 [.ref 0] jm_Ha = some (none, q.1) ∧ q.1.1.length = 167 ∧ jm_exC 2000 6 167 [.ref 167] (jm_new q.1 (20, 42, fun _ => none)) = some (none, q.2) ∧ ∀ f, jm_i0 f = true → f q.2 = true := by
  obtain ⟨Hb, h1, h2⟩ := jm_okr_some jm_i0f
  rw [Bool.and_eq_true] at h2
  obtain ⟨h2, h3⟩ := h2
  obtain ⟨Hd, h4, h5⟩ := jm_okr_some h3
  refine ⟨(Hb, Hd), h1, eq_of_beq h2, h4, fun f hf => ?_⟩
  obtain ⟨Hb', h1', h2'⟩ := jm_okr_some hf
  rw [Bool.and_eq_true] at h2'
  obtain ⟨h2', h3'⟩ := h2'
  obtain ⟨Hd', h4', h5'⟩ := jm_okr_some h3'
  have e1 : Hb = Hb' := (Prod.mk.inj (Option.some.inj (h1.symm.trans h1'))).2
  subst e1
  have e2 : Hd = Hd' := (Prod.mk.inj (Option.some.inj (h4.symm.trans h4'))).2
  subst e2
  exact h5'
noncomputable def jm_Hb : jm_H := (Classical.choose jm_i2).1
noncomputable def jm_Hd : jm_H := (Classical.choose jm_i2).2
noncomputable def jm_Hc : jm_H := jm_new jm_Hb (20, 42, fun _ => none)
noncomputable def jm_S0 : List jm_S := jm_Hd.1
theorem jm_i1 : jm_exC 2000 6 0 [.ref 0] jm_Ha = some (none, jm_Hb) ∧ jm_Hb.1.length = 167 ∧ jm_exC 2000 6 167 [.ref 167] jm_Hc = some (none, jm_Hd) := ⟨(Classical.choose_spec jm_i2).1, (Classical.choose_spec jm_i2).2.1, (Classical.choose_spec jm_i2).2.2.1⟩
theorem jm_i3 {f : jm_H → Bool} (h : jm_i0 f = true) : f jm_Hd = true := (Classical.choose_spec jm_i2).2.2.2 f h
theorem jm_i4 (a : Nat) : jm_okc jm_Hd a = true := by
  have key : ∀ i n, jm_oks i n jm_Hd = true → i ≤ a → a < i + n → jm_okc jm_Hd a = true := fun i n h h1 h2 => by
    have h3 := List.all_eq_true.mp h (a - i) (List.mem_range.mpr (by omega))
    rwa [show i + (a - i) = a by omega] at h3
  by_cases h1 : a < 70
  · exact key 0 70 (jm_i3 jm_i0a) (by omega) (by omega)
  · by_cases h2 : a < 140
    · exact key 70 70 (jm_i3 jm_i0b) (by omega) (by omega)
    · by_cases h3 : a < 210
      · exact key 140 70 (jm_i3 jm_i0c) (by omega) (by omega)
      · unfold jm_okc
        rw [List.getElem?_eq_none (by have : jm_lay0.length = 205 := by decide +kernel
                                      omega)]
theorem jm_law0 {xs : Nat → Int32} {L d : Nat} {P : Option Value → jm_H → Prop} (hd : 6 ≤ d) (h : jm_W xs L d 283 18 [some (.retAddr 0), some (.ref 0), some (.ref 167), some (.int 0)] [] jm_Hd P) : jm_W xs L d 283 0 [some (.retAddr 0), none, none, none] [] jm_H0 P := by
  obtain ⟨h1, h2, h3⟩ := jm_i1
  have k1 := jm_ex_le (xs := xs) (L := L) hd _ _ _ _ (jm_exC_le (xs' := xs) (L := L) 2000 6 _ _ _ _ h1)
  have k3 := jm_ex_le (xs := xs) (L := L) hd _ _ _ _ (jm_exC_le (xs' := xs) (L := L) 2000 6 _ _ _ _ h3)
  rw [jm_W.next (e := (.new 7, 3, 9, 12, 0)) (pc' := 3) (ls' := [some (.retAddr 0), none, none, none]) (st' := [.ref 0]) (H' := jm_Ha) rfl rfl]
  rw [jm_W.next (e := (.dup, 4, 0, 0, 0)) (pc' := 4) (ls' := [some (.retAddr 0), none, none, none]) (st' := [.ref 0, .ref 0]) (H' := jm_Ha) rfl rfl]
  rw [jm_W.call (e := (.invokespecial 9, 7, 0, 3, 0)) (pc' := 7) (a := 0) (ls' := [some (.retAddr 0), none, none, none]) (st' := [.ref 0]) (as := [.ref 0]) rfl rfl]
  refine ⟨_, k1, ?_⟩
  show jm_W xs L d 283 7 [some (.retAddr 0), none, none, none] [.ref 0] jm_Hb P
  rw [jm_W.next (e := (.astore_n 1, 8, 0, 0, 0)) (pc' := 8) (ls' := [some (.retAddr 0), some (.ref 0), none, none]) (st' := []) (H' := jm_Hb) rfl rfl]
  rw [jm_W.next (e := (.new 10, 11, 10, 42, 0)) (pc' := 11) (ls' := [some (.retAddr 0), some (.ref 0), none, none]) (st' := [.ref jm_Hb.1.length]) (H' := jm_Hc) rfl rfl]
  rw [h2]
  rw [jm_W.next (e := (.dup, 12, 0, 0, 0)) (pc' := 12) (ls' := [some (.retAddr 0), some (.ref 0), none, none]) (st' := [.ref 167, .ref 167]) (H' := jm_Hc) rfl rfl]
  rw [jm_W.call (e := (.invokespecial 12, 15, 167, 3, 0)) (pc' := 15) (a := 167) (ls' := [some (.retAddr 0), some (.ref 0), none, none]) (st' := [.ref 167]) (as := [.ref 167]) rfl rfl]
  refine ⟨_, k3, ?_⟩
  show jm_W xs L d 283 15 [some (.retAddr 0), some (.ref 0), none, none] [.ref 167] jm_Hd P
  rw [jm_W.next (e := (.astore_n 2, 16, 0, 0, 0)) (pc' := 16) (ls' := [some (.retAddr 0), some (.ref 0), some (.ref 167), none]) (st' := []) (H' := jm_Hd) rfl rfl]
  rw [jm_W.next (e := (.iconst 0, 17, 0, 0, 0)) (pc' := 17) (ls' := [some (.retAddr 0), some (.ref 0), some (.ref 167), none]) (st' := [.int 0]) (H' := jm_Hd) rfl rfl]
  rw [jm_W.next (e := (.istore_n 3, 18, 0, 0, 0)) (pc' := 18) (ls' := [some (.retAddr 0), some (.ref 0), some (.ref 167), some (.int 0)]) (st' := []) (H' := jm_Hd) rfl rfl]
  exact h
