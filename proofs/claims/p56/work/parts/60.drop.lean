/-! Drop. -/
theorem zu_id {J : jZ} {a k : Nat} : jm_up J a k (J a k) = J := by
  funext x y
  by_cases c : x = a ∧ y = k
  · rw [c.1, c.2, zu_self]
  · exact zu_ne (by omega)
def zA_d (A : zA) : zA := (A.1 - 1, A.2)
theorem zA_d_ok {A : zA} (hA : zA_ok A) : zA_ok (zA_d A) := ⟨by have := hA.1; show A.1 - 1 ≤ 24; omega, fun i hi => hA.2 i (by have hi : i < A.1 - 1 := hi; omega)⟩
theorem zk_ls_d {wo : Int} {T : zT} {A : zA} : ∀ n : Nat, zk_ls wo T (zA_d A) n = zk_ls wo T A n
  | 0 => rfl
  | n + 1 => by
    funext j
    rw [zk_ls_s, zk_ls_s, zk_ls_d n]
    rfl
theorem zk_sem_d {wo : Int} {T : zT} {A : zA} {i : Nat} : zk_sem wo T (zA_d A) i = zk_sem wo T A i := by
  unfold zk_sem
  rw [zk_ls_d]
theorem zA_s_d {A : zA} : ∀ n : Nat, zA_s (zA_d A) n = zA_s A n
  | 0 => rfl
  | n + 1 => by
    funext j
    rw [zA_s_s, zA_s_s, zA_s_d n]
    rfl
theorem zA_v_d {A : zA} {i : Nat} : zA_v (zA_d A) i = zA_v A i := by
  unfold zA_v
  rw [zA_s_d]
/-- shelves that show an ask from m on are emptied -/
def zH_d (m : Nat) (H : zH) : zH := fun s => if 10 + (m : Int) ≤ (H s).1 then (-1, 0, fun _ => 0) else H s
def zH_k (m : Nat) (H : zH) (k : Nat) : zH := fun s => if s < k then zH_d m H s else H s
theorem zH_d_ok {m n : Nat} {H : zH} (h : zH_ok n H) : zH_ok m (zH_d m H) := by
  intro s hs
  unfold zH_d
  split
  · exact .inl rfl
  · rcases h s hs with c | c | c
    · exact .inl c
    · exact .inr (.inl c)
    · exact .inr (.inr ⟨c.1, by omega⟩)
theorem s_109_2 {xs : Nat → Int32} {L d : Nat} {K : jZ} {P : jZ → jZ → Prop} {H : zH} {m q : Nat} (hm : m ≤ 24) (hq : q ≤ 24) (hH : zH_ok q H) : ∀ (n k : Nat) (J : jZ), k + n = 8 → J 9 1 = (m : Int) → cH_at J K (zH_k m H k) → (∀ J', (∀ x, x < 151 ∨ 167 ≤ x → J' x = J x) → cH_at J' K (zH_k m H 8) → P J' K) → l_109_2 xs L (d + 0) (k : Int) J K P
  | n, k, J, hn, h9, hr, h => by
    refine e_109_2 ⟨by omega, fun q => ?_, fun q => ⟨by omega, ?_⟩⟩
    · obtain rfl : k = 8 := by omega
      exact h J (fun _ _ => rfl) hr
    · match n, hn with
      | 0, hn => omega
      | n + 1, hn =>
        have rk := hr k (by omega)
        have ek : zH_k m H k k = H k := by
          unfold zH_k
          rw [if_neg (by omega)]
        rw [ek] at rk
        have hk := hH k (by omega)
        have en : ∀ t, ¬ t = k → zH_k m H (k + 1) t = zH_k m H k t := fun t c => by
          unfold zH_k
          by_cases c2 : t < k
          · rw [if_pos c2, if_pos (by omega)]
          · rw [if_neg c2, if_neg (by omega)]
        have es : zH_k m H (k + 1) k = zH_d m H k := by
          unfold zH_k
          rw [if_pos (by omega)]
        rw [Int.toNat_natCast, rk.1, h9]
        refine ⟨by omega, by omega, fun q2 => ?_, fun q2 => ?_⟩
        · refine s_109_2 hm hq hH n (k + 1) J (by omega) h9 (fun t ht => ?_) h
          by_cases c : t = k
          · subst c
            rw [es, zH_d, if_neg (by omega)]
            exact rk
          · rw [en t c]
            exact hr t ht
        · refine s_109_2 hm hq hH n (k + 1) _ (by omega) (by rw [zu_row (by omega)]; exact h9) (fun t ht => ?_) (fun J' f => h J' (fun x hx => by rw [f x hx, zu_row (by omega)]))
          by_cases c : t = k
          · subst c
            rw [es, zH_d, if_pos q2]
            refine ⟨zu_self, fun z => ?_⟩
            have z : (0 : Int) ≤ -1 := z.1
            omega
          · rw [en t c, zu_row (by omega)]
            exact hr t ht
theorem c_107 {xs : Nat → Int32} {L d : Nat} {J K : jZ} {P : Int → jZ → jZ → Prop} {T : zT} {A : zA} (hQ : cQ J T A) {H : zH} (hS : zA_st J 9 A) (hH : zH_ok A.1 H) (hr : cH_at J K H) (hb : A.1 = 0 → P (-5) (rC J 3) K) (h : ¬ A.1 = 0 → ∀ J', (∀ x, x ≠ 9 → x ≠ 61 → x < 151 ∨ 167 ≤ x → J' x = J x) → cQ J' T (zA_d A) → zA_st J' 9 (zA_d A) → cH_at J' K (zH_k (A.1 - 1) H 8) → P ((A.1 - 1 : Nat) : Int) J' K) : q_107 xs L (d + 2) J K P := by
  obtain ⟨a1, a2, a3, a4, a5, a6, a7, a8⟩ := hQ
  have h24 := a2.1
  have h1 := a4.1
  refine e_107 ⟨by omega, fun q => ?_, fun q => s_13 (k := 3) (by omega) (by omega) (hb (by omega))⟩
  rw [show J 9 1 - 1 = ((A.1 - 1 : Nat) : Int) by omega]
  generalize hm : A.1 - 1 = m at h ⊢
  refine e_108 (e_109 (s_109_2 (H := H) (m := m) (q := A.1) (by omega) h24 hH 8 0 _ (by omega) (by rw [zu_row (by omega), zu_self]) (fun t ht => ?_) (fun J' f r => ?_)))
  · have e0 : zH_k m H 0 t = H t := by
      unfold zH_k
      rw [if_neg (by omega)]
    rw [e0, zu_row (by omega), zu_row (by omega)]
    exact hr t ht
  · have b9 : J' 9 1 = (m : Int) := by
      rw [f 9 (by omega), zu_row (by omega), zu_self]
    have F : ∀ x, x ≠ 9 → x ≠ 61 → x < 151 ∨ 167 ≤ x → J' x = J x := fun x h1 h2 h3 => by rw [f x h3, zu_row h2, zu_row h1]
    have old : ∀ i, i < A.1 → J' (9 + 2 + i) = J (9 + 2 + i) := fun i hi => F _ (by omega) (by omega) (by omega)
    have k5 : J' 61 5 = jz_and (J 61 5) (jz_xor (jz_shl 1 (m : Int)) (-1)) := by
      rw [f 61 (by omega), zu_self, zu_row (by omega)]
    rw [b9]
    refine h (by omega) J' F ⟨a1, zA_d_ok a2, zt_of a3 (by rw [F 1 (by omega) (by omega) (by omega)]) (F _ (by omega) (by omega) (by omega)) (F _ (by omega) (by omega) (by omega)) (F _ (by omega) (by omega) (by omega)), ⟨?_, fun i hi => ?_⟩, fun i hi => ?_, ?_, ⟨by rw [F 63 (by omega) (by omega) (by omega)]; exact a7.1, fun k hk => by simp at hk⟩, fun j hj => ?_⟩ (fun i hi => ?_) r
    · rw [b9, ← hm]
      rfl
    · have hi : i < A.1 - 1 := hi
      rw [old i (by omega)]
      exact a4.2 i (by omega)
    · have hi : i < A.1 - 1 := hi
      rw [old i (by omega)]
      exact a5 i (by omega)
    · rw [f 61 (by omega), zu_key (by omega), zu_row (by omega)]
      exact a6
    · have l32 := zb_lt hj
      rw [k5, zb_and, zb_xor, zb_shl (by omega), zb_1] at hj
      have z := a8 j hj.1
      have nm : ¬ j = m := fun e => by
        have m1 : zb (-1) j := zb_m1.mpr l32
        exact hj.2 ⟨fun _ => m1, fun _ => by omega⟩
      refine ⟨by show j < A.1 - 1; omega, ?_⟩
      rw [zk_sem_d]
      exact zs_at_of z.2 (by rw [F _ (by omega) (by omega) (by omega)]) (fun k hk => by rw [F _ (by omega) (by omega) (by omega), F _ (by omega) (by omega) (by omega)]; exact ⟨rfl, rfl⟩)
    · have hi : i < A.1 - 1 := hi
      rw [zA_v_d, old i (by omega)]
      exact hS i (by omega)