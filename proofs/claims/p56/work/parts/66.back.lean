/-! Back, the class's. -/
theorem c_161 {xs : Nat → Int32} {L d : Nat} {J K : jZ} {P : Int → jZ → jZ → Prop} {T : zT} {A : zA} (hQ : cQ J T A) {H : zH} {T' : zT} {A' : zA} {s' : Int} (hT : zt_ok T') (hA : zA_ok A') (hH : zH_ok A.1 H) (hr : cH_at J K H) (hk : J 0 11 = 0 ∨ (J 0 11 = 1 ∧ cK_at J T' s' A')) (hb : J 0 11 = 0 → P (-5) (rC J 3) K) (h : J 0 11 = 1 → ∀ J', (∀ x, x < 1 ∨ 4 < x → x < 9 ∨ 35 ≤ x → x ≠ 61 → x < 151 ∨ 167 ≤ x → J' x = J x) → cQ J' T' A' → zA_st J' 9 A' → J' 1 4 = s' → cH_at J' K (zH_k A'.1 H 8) → P 1 J' K) : q_161 xs L (d + 3) J K P := by
  have n24 := hA.1
  obtain ⟨a1, a2, a3, a4, a5, a6, a7, a8⟩ := hQ
  have h24 := a2.1
  refine e_161 ⟨by omega, fun q => ?_, fun q => s_13 (k := 3) (by omega) (by omega) (hb q)⟩
  have k1 : J 0 11 = 1 ∧ cK_at J T' s' A' := hk.resolve_left q
  obtain ⟨k11, t5, s5, A35, R35, S35⟩ := k1
  refine s_158 (.inr ⟨rfl, rfl⟩) hT t5 s5 (fun J1 f1 t1 s1 => ?_)
  have o1 : ∀ x, 35 ≤ x → x < 61 → J1 x = J x := fun x h1 h2 => f1 x (by omega)
  refine s_159 hA (.inr ⟨rfl, rfl⟩) (zA_at_of A35 n24 (fun x _ _ => o1 x (by omega) (by omega))) (zA_rc_of R35 n24 (fun x _ _ => o1 x (by omega) (by omega))) (fun i hi => by rw [o1 _ (by omega) (by omega)]; exact S35 i hi) (fun J2 f2 z2 => ?_)
  refine e_109 (s_109_2 (H := H) (m := A'.1) (q := A.1) n24 h24 hH 8 0 _ (by omega) (by rw [zu_row (by omega)]; exact z2.1.1) (fun t ht => ?_) (fun J' f r => ?_))
  · have e0 : zH_k A'.1 H 0 t = H t := by
      unfold zH_k
      rw [if_neg (by omega)]
    rw [e0, zu_row (by omega), f2 _ (by omega), f1 _ (by omega)]
    exact hr t ht
  · have F : ∀ x, x < 1 ∨ 4 < x → x < 9 ∨ 35 ≤ x → x ≠ 61 → x < 151 ∨ 167 ≤ x → J' x = J x := fun x h1 h2 h3 h4 => by rw [f x h4, zu_row h3, f2 x (by omega), f1 x (by omega)]
    have T1 : ∀ x, 1 ≤ x → x ≤ 4 → J' x = J1 x := fun x h1 h2 => by rw [f x (by omega), zu_row (by omega), f2 x (by omega)]
    have A9 : ∀ x, 9 ≤ x → x < 35 → J' x = J2 x := fun x h1 h2 => by rw [f x (by omega), zu_row (by omega)]
    have r61 : J' 61 = jm_up J2 61 5 0 61 := f 61 (by omega)
    have j61 : J2 61 = J 61 := by rw [f2 61 (by omega), f1 61 (by omega)]
    refine h k11 J' F ⟨hT, hA, zt_of t1 (by rw [T1 1 (by omega) (by omega)]) (T1 _ (by omega) (by omega)) (T1 _ (by omega) (by omega)) (T1 _ (by omega) (by omega)), zA_at_of z2.1 n24 (fun x _ _ => A9 x (by omega) (by omega)), zA_rc_of z2.2.1 n24 (fun x _ _ => A9 x (by omega) (by omega)), by rw [r61, zu_key (by omega), j61]; exact a6, ⟨by rw [F 63 (by omega) (by omega) (by omega) (by omega)]; exact a7.1, fun k hk => by simp at hk⟩, fun j hj => ?_⟩ (fun i hi => by rw [A9 _ (by omega) (by omega)]; exact z2.2.2 i hi) (by rw [T1 1 (by omega) (by omega)]; exact s1) r
    rw [r61, zu_self] at hj
    exact absurd hj zb_0
