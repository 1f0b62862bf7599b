/-! What the constructor makes: 167 cells. -/
def jm_lay0 : List (Nat × Nat × List (Option Nat)) := [(19, 12, [some 1, some 5, some 9, some 35, some 61, some 140, some 143, some 144, some 146, some 149, some 150]),
  (18, 5, [some 2, some 3, some 4]),
  (1, 60, []),
  (1, 60, []),
  (1, 16, []),
  (18, 5, [some 6, some 7, some 8]),
  (1, 60, []),
  (1, 60, []),
  (1, 16, []),
  (12, 2, [some 10]),
  (4, 24, [some 11, some 12, some 13, some 14, some 15, some 16, some 17, some 18, some 19, some 20, some 21, some 22, some 23, some 24, some 25, some 26, some 27, some 28, some 29, some 30, some 31, some 32, some 33, some 34]),
  (10, 11, []),
  (10, 11, []),
  (10, 11, []),
  (10, 11, []),
  (10, 11, []),
  (10, 11, []),
  (10, 11, []),
  (10, 11, []),
  (10, 11, []),
  (10, 11, []),
  (10, 11, []),
  (10, 11, []),
  (10, 11, []),
  (10, 11, []),
  (10, 11, []),
  (10, 11, []),
  (10, 11, []),
  (10, 11, []),
  (10, 11, []),
  (10, 11, []),
  (10, 11, []),
  (10, 11, []),
  (10, 11, []),
  (10, 11, []),
  (12, 2, [some 36]),
  (4, 24, [some 37, some 38, some 39, some 40, some 41, some 42, some 43, some 44, some 45, some 46, some 47, some 48, some 49, some 50, some 51, some 52, some 53, some 54, some 55, some 56, some 57, some 58, some 59, some 60]),
  (10, 11, []),
  (10, 11, []),
  (10, 11, []),
  (10, 11, []),
  (10, 11, []),
  (10, 11, []),
  (10, 11, []),
  (10, 11, []),
  (10, 11, []),
  (10, 11, []),
  (10, 11, []),
  (10, 11, []),
  (10, 11, []),
  (10, 11, []),
  (10, 11, []),
  (10, 11, []),
  (10, 11, []),
  (10, 11, []),
  (10, 11, []),
  (10, 11, []),
  (10, 11, []),
  (10, 11, []),
  (10, 11, []),
  (10, 11, []),
  (14, 7, [some 1, some 9, some 62, some 63, some 66]),
  (5, 24, [some 68, some 71, some 74, some 77, some 80, some 83, some 86, some 89, some 92, some 95, some 98, some 101, some 104, some 107, some 110, some 113, some 116, some 119, some 122, some 125, some 128, some 131, some 134, some 137]),
  (16, 3, [some 64, some 65]),
  (1, 60, []),
  (1, 60, []),
  (13, 1, [some 67]),
  (1, 60, []),
  (16, 3, [some 69, some 70]),
  (1, 60, []),
  (1, 60, []),
  (16, 3, [some 72, some 73]),
  (1, 60, []),
  (1, 60, []),
  (16, 3, [some 75, some 76]),
  (1, 60, []),
  (1, 60, []),
  (16, 3, [some 78, some 79]),
  (1, 60, []),
  (1, 60, []),
  (16, 3, [some 81, some 82]),
  (1, 60, []),
  (1, 60, []),
  (16, 3, [some 84, some 85]),
  (1, 60, []),
  (1, 60, []),
  (16, 3, [some 87, some 88]),
  (1, 60, []),
  (1, 60, []),
  (16, 3, [some 90, some 91]),
  (1, 60, []),
  (1, 60, []),
  (16, 3, [some 93, some 94]),
  (1, 60, []),
  (1, 60, []),
  (16, 3, [some 96, some 97]),
  (1, 60, []),
  (1, 60, []),
  (16, 3, [some 99, some 100]),
  (1, 60, []),
  (1, 60, []),
  (16, 3, [some 102, some 103]),
  (1, 60, []),
  (1, 60, []),
  (16, 3, [some 105, some 106]),
  (1, 60, []),
  (1, 60, []),
  (16, 3, [some 108, some 109]),
  (1, 60, []),
  (1, 60, []),
  (16, 3, [some 111, some 112]),
  (1, 60, []),
  (1, 60, []),
  (16, 3, [some 114, some 115]),
  (1, 60, []),
  (1, 60, []),
  (16, 3, [some 117, some 118]),
  (1, 60, []),
  (1, 60, []),
  (16, 3, [some 120, some 121]),
  (1, 60, []),
  (1, 60, []),
  (16, 3, [some 123, some 124]),
  (1, 60, []),
  (1, 60, []),
  (16, 3, [some 126, some 127]),
  (1, 60, []),
  (1, 60, []),
  (16, 3, [some 129, some 130]),
  (1, 60, []),
  (1, 60, []),
  (16, 3, [some 132, some 133]),
  (1, 60, []),
  (1, 60, []),
  (16, 3, [some 135, some 136]),
  (1, 60, []),
  (1, 60, []),
  (16, 3, [some 138, some 139]),
  (1, 60, []),
  (1, 60, []),
  (16, 3, [some 141, some 142]),
  (1, 60, []),
  (1, 60, []),
  (1, 60, []),
  (17, 2, [some 145]),
  (1, 250, []),
  (11, 10, [some 144, some 9, some 147, some 148]),
  (1, 250, []),
  (1, 250, []),
  (3, 8, [some 151, some 153, some 155, some 157, some 159, some 161, some 163, some 165]),
  (1, 5, []),
  (15, 3, [some 152]),
  (2, 40, []),
  (15, 3, [some 154]),
  (2, 40, []),
  (15, 3, [some 156]),
  (2, 40, []),
  (15, 3, [some 158]),
  (2, 40, []),
  (15, 3, [some 160]),
  (2, 40, []),
  (15, 3, [some 162]),
  (2, 40, []),
  (15, 3, [some 164]),
  (2, 40, []),
  (15, 3, [some 166]),
  (2, 40, [])]
noncomputable def jm_Ha : jm_H := jm_new jm_H0 (19, 12, fun _ => none)
/-- what holds of the heap behind the constructors -/
noncomputable def jm_okc (H : jm_H) (a : Nat) : Bool := match jm_lay0[a]? with
  | some q => jm_kd H a == q.1 && jm_ln H a == q.2.1 && (q.2.2.zipIdx.all fun r => jm_rf H a r.2 == r.1)
  | none => true
noncomputable def jm_oks (i n : Nat) (H : jm_H) : Bool := (List.range n).all fun j => jm_okc H (i + j)
noncomputable def jm_okz (H : jm_H) : Bool := ([(4, 16), (150, 5)] : List (Nat × Nat)).all fun q => (List.range q.2).all fun k => H.2.1 q.1 k == 0
noncomputable def jm_oki (H : jm_H) : Bool := ([(0, 11, 0), (1, 3, 0), (9, 1, 0), (61, 5, 0), (144, 1, 0), (1, 4, 1), (5, 4, 1), (61, 6, (-1)), (151, 2, (-1)), (153, 2, (-1)), (155, 2, (-1)), (157, 2, (-1)), (159, 2, (-1)), (161, 2, (-1)), (163, 2, (-1)), (165, 2, (-1))] : List (Nat × Nat × Int)).all fun q => H.2.1 q.1 q.2.1 == Int32.ofInt q.2.2
noncomputable def jm_okr (o : Option jm_O) (f : jm_H → Bool) : Bool := match o with
  | some (none, H) => f H
  | _ => false
theorem jm_okr_some {o : Option jm_O} {f : jm_H → Bool} (h : jm_okr o f = true) : ∃ H, o = some (none, H) ∧ f H = true := by
  unfold jm_okr at h
  split at h
  · exact ⟨_, rfl, h⟩
  · cases h
noncomputable def jm_i0 (f : jm_H → Bool) : Bool := jm_okr (jm_exC 2000 6 0 [.ref 0] jm_Ha) f
set_option maxRecDepth 100000 in
theorem jm_i0a : jm_i0 (jm_oks 0 70) = true := by decide +kernel
set_option maxRecDepth 100000 in
theorem jm_i0b : jm_i0 (jm_oks 70 70) = true := by decide +kernel
set_option maxRecDepth 100000 in
theorem jm_i0c : jm_i0 (jm_oks 140 70) = true := by decide +kernel
set_option maxRecDepth 100000 in
theorem jm_i0d : jm_i0 jm_okz = true := by decide +kernel
set_option maxRecDepth 100000 in
theorem jm_i0e : jm_i0 jm_oki = true := by decide +kernel
set_option maxRecDepth 100000 in
theorem jm_i0f : jm_i0 (fun H => H.1.length == 167 && decide (jm_sl H ≤ 100000)) = true := by decide +kernel
theorem jm_i2 : ∃ q : jm_H, jm_exC 2000 6 0 [.ref 0] jm_Ha = some (none, q) ∧ ∀ f, jm_i0 f = true → f q = true := by
  obtain ⟨Hb, h1, -⟩ := jm_okr_some jm_i0f
  refine ⟨Hb, h1, fun f hf => ?_⟩
  obtain ⟨Hb', h1', h2'⟩ := jm_okr_some hf
  have e1 : Hb = Hb' := (Prod.mk.inj (Option.some.inj (h1.symm.trans h1'))).2
  subst e1
  exact h2'
noncomputable def jm_Hd : jm_H := Classical.choose jm_i2
noncomputable def jm_S0 : List jm_S := jm_Hd.1
theorem jm_i1 : jm_exC 2000 6 0 [.ref 0] jm_Ha = some (none, jm_Hd) := (Classical.choose_spec jm_i2).1
theorem jm_i3 {f : jm_H → Bool} (h : jm_i0 f = true) : f jm_Hd = true := (Classical.choose_spec jm_i2).2 f h
theorem jm_i4 (a : Nat) : jm_okc jm_Hd a = true := by
  have key : ∀ i n, jm_oks i n jm_Hd = true → i ≤ a → a < i + n → jm_okc jm_Hd a = true := fun i n h h1 h2 => by
    have h3 := List.all_eq_true.mp h (a - i) (List.mem_range.mpr (by omega))
    rwa [show i + (a - i) = a by omega] at h3
  by_cases h1 : a < 70
  · exact key 0 70 (jm_i3 jm_i0a) (by omega) (by omega)
  · by_cases h2 : a < 140
    · exact key 70 70 (jm_i3 jm_i0b) (by omega) (by omega)
    · by_cases h3 : a < 210
      · exact key 140 70 (jm_i3 jm_i0c) (by omega) (by omega)
      · unfold jm_okc
        rw [List.getElem?_eq_none (by have : jm_lay0.length = 167 := by decide +kernel
                                      omega)]
theorem jm_law0 {xs : Nat → Int32} {L d : Nat} {P : Option Value → jm_H → Prop} (hd : 6 ≤ d) (h : jm_W xs L d 173 8 [some (.retAddr 0), some (.ref 0), none, none, none, none, none, none, none] [] jm_Hd P) : jm_W xs L d 173 0 [some (.retAddr 0), none, none, none, none, none, none, none, none] [] jm_H0 P := by
  have k1 := jm_ex_le (xs := xs) (L := L) hd _ _ _ _ (jm_exC_le (xs' := xs) (L := L) 2000 6 _ _ _ _ jm_i1)
  rw [jm_W.next (e := (.new 15, 3, 9, 12, 0)) (pc' := 3) (ls' := [some (.retAddr 0), none, none, none, none, none, none, none, none]) (st' := [.ref 0]) (H' := jm_Ha) rfl rfl]
  rw [jm_W.next (e := (.dup, 4, 0, 0, 0)) (pc' := 4) (ls' := [some (.retAddr 0), none, none, none, none, none, none, none, none]) (st' := [.ref 0, .ref 0]) (H' := jm_Ha) rfl rfl]
  rw [jm_W.call (e := (.invokespecial 117, 7, 0, 3, 0)) (pc' := 7) (a := 0) (ls' := [some (.retAddr 0), none, none, none, none, none, none, none, none]) (st' := [.ref 0]) (as := [.ref 0]) rfl rfl]
  refine ⟨_, k1, ?_⟩
  show jm_W xs L d 173 7 [some (.retAddr 0), none, none, none, none, none, none, none, none] [.ref 0] jm_Hd P
  rw [jm_W.next (e := (.astore_n 1, 8, 0, 0, 0)) (pc' := 8) (ls' := [some (.retAddr 0), some (.ref 0), none, none, none, none, none, none, none]) (st' := []) (H' := jm_Hd) rfl rfl]
  exact h
