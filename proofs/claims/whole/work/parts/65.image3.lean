/-! Image, the reference's. -/
def mK_at (J : jZ) (T : zT) (s : Int) (A : zA) : Prop := J 167 18 = (T.1 : Int) ∧ J 167 19 = (A.1 : Int) ∧ J 167 20 = s ∧ (∀ k, k < T.1 → J 189 k = T.2.1 k ∧ J 190 k = T.2.2.1 k) ∧ (∀ w, w < 16 → J 191 w = T.2.2.2 w) ∧ ∀ i, i < A.1 → J 192 i = A.2 i 0 ∧ ∀ j, j < 4 → J 193 (4 * i + j) = A.2 i (j + 1)
def mIf (J J' : jZ) : Prop := (∀ x, x ≠ 167 → x < 189 ∨ 193 < x → J' x = J x) ∧ ∀ k, k < 17 ∨ 20 < k → J' 167 k = J 167 k
theorem m_278 {xs : Nat → Int32} {L d : Nat} {J K : jZ} {P : Int → jZ → jZ → Prop} {T : zT} {A : zA} (hQ : mQ J T A) {s : Int} (hs : J 167 11 = s) (h : ∀ J', mIf J J' → mQ J' T A → J' 167 17 = 1 → mK_at J' T s A → P 1 J' K) : q_278 xs L (d + 2) J K P := by
  obtain ⟨a1, a2, a3, a4, a5, a6⟩ := hQ
  have h60 := a1.1
  have h24 := a2.1
  refine e_278 (s_279 (N := 60) ⟨rfl, rfl⟩ ⟨rfl, rfl⟩ (by omega) (by omega) (fun J1 f1 z1 => s_279 (N := 60) ⟨rfl, rfl⟩ ⟨rfl, rfl⟩ (by omega) (by omega) (fun J2 f2 z2 => s_279 (N := 16) ⟨rfl, rfl⟩ ⟨rfl, rfl⟩ (by omega) (by omega) (fun J3 f3 z3 => s_279 (N := 24) ⟨rfl, rfl⟩ ⟨rfl, rfl⟩ (by omega) (by omega) (fun J4 f4 z4 => s_279 (N := 96) ⟨rfl, rfl⟩ ⟨rfl, rfl⟩ (by omega) (by omega) (fun J5 f5 z5 => ?_))))))
  have r167 : J5 167 = jm_up (jm_up (jm_up (jm_up J 167 17 1) 167 18 (J 167 9)) 167 19 (J 167 10)) 167 20 (J 167 11) 167 := by rw [f5 167 (by omega), f4 167 (by omega), f3 167 (by omega), f2 167 (by omega), f1 167 (by omega)]
  have F : mIf J J5 := ⟨fun x h1 h2 => by rw [f5 x (by omega), f4 x (by omega), f3 x (by omega), f2 x (by omega), f1 x (by omega), zu_row h1, zu_row h1, zu_row h1, zu_row h1], fun k hk => by rw [r167, zu_key (by omega), zu_key (by omega), zu_key (by omega), zu_key (by omega)]⟩
  have o : ∀ x, x ≠ 167 → jm_up (jm_up (jm_up (jm_up J 167 17 1) 167 18 (J 167 9)) 167 19 (J 167 10)) 167 20 (J 167 11) x = J x := fun x h1 => by rw [zu_row h1, zu_row h1, zu_row h1, zu_row h1]
  refine h J5 F ⟨a1, a2, mT_of a3 (F.2 9 (by omega)) (F.1 _ (by omega) (by omega)) (F.1 _ (by omega) (by omega)) (F.1 _ (by omega) (by omega)), mA_of a4 (F.2 10 (by omega)) (F.1 _ (by omega) (by omega)) (F.1 _ (by omega) (by omega)), by rw [F.2 37 (by omega)]; exact a5, by rw [F.2 26 (by omega)]; exact a6.1, fun w i hi => ?_⟩ (by rw [r167, zu_key (by omega), zu_key (by omega), zu_key (by omega), zu_self]) ⟨?_, ?_, ?_, fun k hk => ⟨?_, ?_⟩, fun w hw => ?_, fun i hi => ⟨?_, fun j hj => ?_⟩⟩
  · rw [F.2 26 (by omega)] at w
    have z := a6.2 w i hi
    exact ⟨by rw [F.1 195 (by omega) (by omega)]; exact z.1, fun k hk => by rw [F.1 196 (by omega) (by omega), F.1 197 (by omega) (by omega)]; exact z.2 k hk⟩
  · rw [r167, zu_key (by omega), zu_key (by omega), zu_self]
    exact a3.1
  · rw [r167, zu_key (by omega), zu_self]
    exact a4.1
  · rw [r167, zu_self]
    exact hs
  · rw [f5 189 (by omega), f4 189 (by omega), f3 189 (by omega), f2 189 (by omega), z1 k (by omega), o 184 (by omega)]
    exact (a3.2.1 k hk).1
  · rw [f5 190 (by omega), f4 190 (by omega), f3 190 (by omega), z2 k (by omega), f1 185 (by omega), o 185 (by omega)]
    exact (a3.2.1 k hk).2
  · rw [f5 191 (by omega), f4 191 (by omega), z3 w (by omega), f2 186 (by omega), f1 186 (by omega), o 186 (by omega)]
    exact a3.2.2 w hw
  · rw [f5 192 (by omega), z4 i (by omega), f3 187 (by omega), f2 187 (by omega), f1 187 (by omega), o 187 (by omega)]
    exact (a4.2 i hi).1
  · rw [z5 _ (by omega), f4 188 (by omega), f3 188 (by omega), f2 188 (by omega), f1 188 (by omega), o 188 (by omega)]
    exact (a4.2 i hi).2 j hj
