/-! Back, the reference's. -/
theorem s_280_100 {xs : Nat → Int32} {L d : Nat} {K : jZ} {P : Int → jZ → jZ → Prop} {H : zH} {m q : Nat} (hm : m ≤ 24) (hq : q ≤ 24) (hH : zH_ok q H) : ∀ (n k : Nat) (J : jZ), k + n = 8 → J 167 10 = (m : Int) → mH_at J K (zH_k m H k) → (∀ J', (∀ x, x ≠ 168 → J' x = J x) → mH_at J' K (zH_k m H 8) → P 1 J' K) → l_280_100 xs L (d + 1) (k : Int) J K P
  | n, k, J, hn, h9, hr, h => by
    refine e_280_100 ⟨by omega, fun q => ?_, fun q => ⟨by omega, ?_⟩⟩
    · obtain rfl : k = 8 := by omega
      exact h J (fun _ _ => rfl) hr
    · match n, hn with
      | 0, hn => omega
      | n + 1, hn =>
        have rk := hr k (by omega)
        have ek : zH_k m H k k = H k := by
          unfold zH_k
          rw [if_neg (by omega)]
        rw [ek] at rk
        have hk := hH k (by omega)
        have en : ∀ t, ¬ t = k → zH_k m H (k + 1) t = zH_k m H k t := fun t c => by
          unfold zH_k
          by_cases c2 : t < k
          · rw [if_pos c2, if_pos (by omega)]
          · rw [if_neg c2, if_neg (by omega)]
        have es : zH_k m H (k + 1) k = zH_d m H k := by
          unfold zH_k
          rw [if_pos (by omega)]
        have kd : (J 168 k = 0 ∧ (H k).1 = -1) ∨ (J 168 k = 1 ∧ (0 ≤ (H k).1 ∧ (H k).1 ≤ 4)) ∨ (J 168 k = 2 ∧ J 181 k = (H k).1 - 10 ∧ (10 ≤ (H k).1 ∧ (H k).1 < 34)) := by
          rcases hk with c | c | c
          · exact .inl ⟨rk.1 c, c⟩
          · exact .inr (.inl ⟨(rk.2.1 ⟨c.1, c.2.1⟩).1, ⟨c.1, c.2.1⟩⟩)
          · exact .inr (.inr ⟨(rk.2.2 c.1).1, (rk.2.2 c.1).2, c.1, by omega⟩)
        have stay : ¬ 10 + (m : Int) ≤ (H k).1 → l_280_100 xs L (d + 1) ((k : Int) + 1) J K P := fun z => by
          refine s_280_100 hm hq hH n (k + 1) J (by omega) h9 (fun t ht => ?_) h
          by_cases c : t = k
          · subst c
            rw [es, zH_d, if_neg z]
            exact rk
          · rw [en t c]
            exact hr t ht
        rw [Int.toNat_natCast, zu_id, h9]
        refine ⟨by omega, fun q2 => stay (by omega), fun q2 => ⟨by omega, by omega, fun q3 => stay (by omega), fun q3 => ?_⟩⟩
        refine s_280_100 hm hq hH n (k + 1) _ (by omega) (by rw [zu_row (by omega)]; exact h9) (fun t ht => ?_) (fun J' f => h J' (fun x hx => by rw [f x hx, zu_row hx]))
        by_cases c : t = k
        · subst c
          rw [es, zH_d, if_pos (by omega)]
          refine ⟨fun _ => zu_self, fun z => ?_, fun z => ?_⟩
          · have z : (0 : Int) ≤ -1 := z.1
            omega
          · have z : (10 : Int) ≤ -1 := z
            omega
        · rw [en t c, zu_key c, zu_row (by omega), zu_row (by omega), zu_row (by omega)]
          exact hr t ht
theorem m_280 {xs : Nat → Int32} {L d : Nat} {J K : jZ} {P : Int → jZ → jZ → Prop} {T : zT} {A : zA} (hQ : mQ J T A) {H : zH} {T' : zT} {A' : zA} {s' : Int} (hT : zt_ok T') (hA : zA_ok A') (hH : zH_ok A.1 H) (hr : mH_at J K H) (hk : J 167 17 = 0 ∨ (J 167 17 = 1 ∧ mK_at J T' s' A')) (hb : J 167 17 = 0 → P (-5) (rM J 5) K) (h : J 167 17 = 1 → ∀ J', (∀ x, x ≠ 167 → x ≠ 168 → x < 184 ∨ 188 < x → J' x = J x) → (∀ k, k ≠ 9 → k ≠ 10 → k ≠ 11 → k ≠ 26 → J' 167 k = J 167 k) → mQ J' T' A' → J' 167 11 = s' → mH_at J' K (zH_k A'.1 H 8) → P 1 J' K) : q_280 xs L (d + 2) J K P := by
  have n24 := hA.1
  have n60 := hT.1
  obtain ⟨a1, a2, a3, a4, a5, a6⟩ := hQ
  have h24 := a2.1
  refine e_280 ⟨by omega, fun q => ?_, fun q => s_170 (k := 5) (by omega) (by omega) (hb q)⟩
  have k1 : J 167 17 = 1 ∧ mK_at J T' s' A' := hk.resolve_left q
  obtain ⟨k11, m1, m2, m3, m4, m5, m6⟩ := k1
  refine s_279 (N := 60) ⟨rfl, rfl⟩ ⟨rfl, rfl⟩ (by omega) (by omega) (fun J1 f1 z1 => s_279 (N := 60) ⟨rfl, rfl⟩ ⟨rfl, rfl⟩ (by omega) (by omega) (fun J2 f2 z2 => s_279 (N := 16) ⟨rfl, rfl⟩ ⟨rfl, rfl⟩ (by omega) (by omega) (fun J3 f3 z3 => s_279 (N := 24) ⟨rfl, rfl⟩ ⟨rfl, rfl⟩ (by omega) (by omega) (fun J4 f4 z4 => s_279 (N := 96) ⟨rfl, rfl⟩ ⟨rfl, rfl⟩ (by omega) (by omega) (fun J5 f5 z5 => ?_)))))
  have r167 : J5 167 = jm_up (jm_up (jm_up J 167 9 (J 167 18)) 167 10 (J 167 19)) 167 11 (J 167 20) 167 := by rw [f5 167 (by omega), f4 167 (by omega), f3 167 (by omega), f2 167 (by omega), f1 167 (by omega)]
  have o : ∀ x, x ≠ 167 → jm_up (jm_up (jm_up J 167 9 (J 167 18)) 167 10 (J 167 19)) 167 11 (J 167 20) x = J x := fun x h1 => by rw [zu_row h1, zu_row h1, zu_row h1]
  have F5 : ∀ x, x ≠ 167 → x < 184 ∨ 188 < x → J5 x = J x := fun x h1 h2 => by rw [f5 x (by omega), f4 x (by omega), f3 x (by omega), f2 x (by omega), f1 x (by omega), o x h1]
  refine s_280_100 (H := H) (m := A'.1) (q := A.1) n24 h24 hH 8 0 _ (by omega) (by rw [zu_key (by omega), r167, zu_key (by omega), zu_self]; exact m2) (fun t ht => ?_) (fun J' f r => ?_)
  · have e0 : zH_k A'.1 H 0 t = H t := by
      unfold zH_k
      rw [if_neg (by omega)]
    rw [e0, zu_row (by omega), zu_row (by omega), zu_row (by omega), zu_row (by omega), F5 168 (by omega) (by omega), F5 169 (by omega) (by omega), F5 170 (by omega) (by omega), F5 181 (by omega) (by omega)]
    exact hr t ht
  · have g : ∀ x, x ≠ 167 → x ≠ 168 → J' x = J5 x := fun x h1 h2 => by rw [f x h2, zu_row h1]
    have g7 : J' 167 = jm_up J5 167 26 0 167 := f 167 (by omega)
    refine h k11 J' (fun x h1 h2 h3 => by rw [g x h1 h2, F5 x h1 h3]) (fun k e1 e2 e3 e4 => by rw [g7, zu_key e4, r167, zu_key e3, zu_key e2, zu_key e1]) ⟨hT, hA, ⟨?_, fun k hk => ⟨?_, ?_⟩, fun w hw => ?_⟩, ⟨?_, fun i hi => ⟨?_, fun j hj => ?_⟩⟩, ?_, .inl (by rw [g7, zu_self]), fun w => by rw [g7, zu_self] at w; omega⟩ ?_ r
    · rw [g7, zu_key (by omega), r167, zu_key (by omega), zu_key (by omega), zu_self]
      exact m1
    · rw [g 184 (by omega) (by omega), f5 184 (by omega), f4 184 (by omega), f3 184 (by omega), f2 184 (by omega), z1 k (by omega), o 189 (by omega)]
      exact (m4 k hk).1
    · rw [g 185 (by omega) (by omega), f5 185 (by omega), f4 185 (by omega), f3 185 (by omega), z2 k (by omega), f1 190 (by omega), o 190 (by omega)]
      exact (m4 k hk).2
    · rw [g 186 (by omega) (by omega), f5 186 (by omega), f4 186 (by omega), z3 w (by omega), f2 191 (by omega), f1 191 (by omega), o 191 (by omega)]
      exact m5 w hw
    · rw [g7, zu_key (by omega), r167, zu_key (by omega), zu_self]
      exact m2
    · rw [g 187 (by omega) (by omega), f5 187 (by omega), z4 i (by omega), f3 192 (by omega), f2 192 (by omega), f1 192 (by omega), o 192 (by omega)]
      exact (m6 i hi).1
    · rw [g 188 (by omega) (by omega), z5 _ (by omega), f4 193 (by omega), f3 193 (by omega), f2 193 (by omega), f1 193 (by omega), o 193 (by omega)]
      exact (m6 i hi).2 j hj
    · rw [g7, zu_key (by omega), r167, zu_key (by omega), zu_key (by omega), zu_key (by omega)]
      exact a5
    · rw [g7, zu_key (by omega), r167, zu_self]
      exact m3
