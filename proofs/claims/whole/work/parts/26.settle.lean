/-! The same of the reference: rows 195 to 198. -/
def zm_at (J : jZ) (i : Nat) (l : zL) : Prop := J 195 i = (l.length : Int) ∧ ∀ k, k < l.length → J 196 (60 * i + k) = zs_f l k ∧ J 197 (60 * i + k) = zs_l l k
/-- only list i and what is gathered have changed -/
def zm_fr (i : Nat) (J J' : jZ) : Prop := (∀ b, b ≠ 195 → b ≠ 196 → b ≠ 197 → b ≠ 198 → J' b = J b) ∧ (∀ j, j ≠ i → J' 195 j = J 195 j) ∧ (∀ m, m < 60 * i ∨ 60 * i + 60 ≤ m → J' 196 m = J 196 m ∧ J' 197 m = J 197 m)
theorem zm_fr_rfl {i : Nat} {J : jZ} : zm_fr i J J := ⟨fun _ _ _ _ _ => rfl, fun _ _ => rfl, fun _ _ => ⟨rfl, rfl⟩⟩
theorem zm_fr_tr {i : Nat} {J J' J'' : jZ} (h : zm_fr i J J') (h' : zm_fr i J' J'') : zm_fr i J J'' :=
  ⟨fun b h1 h2 h3 h4 => by rw [h'.1 b h1 h2 h3 h4, h.1 b h1 h2 h3 h4], fun j hj => by rw [h'.2.1 j hj, h.2.1 j hj], fun m hm => by rw [(h'.2.2 m hm).1, (h'.2.2 m hm).2, (h.2.2 m hm).1, (h.2.2 m hm).2]; exact ⟨rfl, rfl⟩⟩
theorem zm_at_fr {i j : Nat} {J J' : jZ} {l : zL} (h : zm_fr i J J') (hj : j ≠ i) (hl : l.length ≤ 60) (ha : zm_at J j l) : zm_at J' j l :=
  ⟨by rw [h.2.1 j hj]; exact ha.1, fun k hk => by rw [(h.2.2 (60 * j + k) (by omega)).1, (h.2.2 (60 * j + k) (by omega)).2]; exact ha.2 k hk⟩
theorem s_185_2 {xs : Nat → Int32} {L d : Nat} {K : jZ} {P : jZ → jZ → Prop} : ∀ (n k : Nat) (J : jZ), k + n = 60 → (∀ f : Nat, f < k → J 198 f = -1) → (∀ J', (∀ b, b ≠ 198 → J' b = J b) → zl_lo (-1) (fun _ _ => False) (J' 198) → P J' K) → l_185_2 xs L (d + 0) (k : Int) J K P
  | n, k, J, hn, hz, h => by
    refine e_185_2 ⟨by omega, fun hc => ?_, fun hc => ⟨by omega, ?_⟩⟩
    · obtain rfl : k = 60 := by omega
      exact h J (fun _ _ => rfl) (fun f hf => .inl ⟨hz f hf, fun e he => he⟩)
    · match n, hn with
      | 0, hn => omega
      | n + 1, hn =>
        rw [Int.toNat_natCast]
        refine s_185_2 n (k + 1) _ (by omega) (fun f hf => ?_) (fun J' h1 h2 => h J' (fun b hb => by rw [h1 b hb, zu_row hb]) h2)
        by_cases q : f = k
        · subst q
          exact zu_self
        · rw [zu_key q]
          exact hz f (by omega)
theorem s_185 {xs : Nat → Int32} {L d : Nat} {J K : jZ} {P : jZ → jZ → Prop} (h : ∀ J', (∀ b, b ≠ 198 → J' b = J b) → zl_lo (-1) (fun _ _ => False) (J' 198) → P J' K) : q_185 xs L (d + 1) J K P :=
  e_185 (s_185_2 60 0 J (by omega) (fun f hf => by omega) h)
theorem s_186 {xs : Nat → Int32} {L d : Nat} {J K : jZ} {P : jZ → jZ → Prop} {S T : Int → Int → Prop} {f e : Int} (hS : zl_lo (-1) S (J 198)) (hf : 0 ≤ f ∧ f < 60) (he : 0 ≤ e ∧ e < 60) (hT : ∀ x y, T x y ↔ (S x y ∨ (x = f ∧ y = e))) (h : ∀ J', (∀ b, b ≠ 198 → J' b = J b) → zl_lo (-1) T (J' 198) → P J' K) : q_186 xs L (d + 1) f e J K P := by
  have hb : -1 ≤ J 198 f.toNat ∧ J 198 f.toNat < 60 := by
    rcases hS f.toNat (by omega) with ⟨a, -⟩ | ⟨a, b, -⟩ <;> omega
  have key : ∀ v, v = (if J 198 f.toNat = -1 then e else min (J 198 f.toNat) e) → P (jm_up J 198 f.toNat v) K := fun v hv =>
    h _ (fun b hb => zu_row hb) (zl_lo_more (S := S) (f := f.toNat) (e := e) (.inl (by omega)) hS (fun x y => by rw [hT, show ((f.toNat : Nat) : Int) = f by omega]) he (by rw [zu_self]; exact hv) (fun j hj => zu_key hj))
  refine e_186 ⟨hf, by omega, fun hc => key _ (by rw [if_pos hc]), fun hc => ⟨by omega, fun hc2 => key _ ?_, fun hc2 => key _ ?_⟩⟩
  · rw [if_neg hc]
    omega
  · rw [if_neg hc]
    omega
theorem s_187_62 {xs : Nat → Int32} {L d : Nat} {K : jZ} {P : jZ → jZ → Prop} {S : Int → Int → Prop} {i : Nat} (hi : i < 27) (hod : zl_od S) : ∀ (n k : Nat) (l : zL) (J : jZ), k + n = 60 → (∀ f : Nat, f < 60 → (J 198 f = -1 ∧ ∀ e, ¬ zl_mn S f e) ∨ (0 ≤ J 198 f ∧ J 198 f < 60 ∧ zl_mn S f (J 198 f))) → zm_at J i l → zl_pre S k l → (∀ J' l', zm_fr i J J' → zm_at J' i l' → zl_isl S l' → P J' K) → l_187_62 xs L (d + 0) (i : Int) (k : Int) J K P
  | n, k, l, J, hn, hm, hr, hp, h => by
    have hlen := hp.2.1
    refine e_187_62 ⟨by omega, fun hc => ?_, fun hc => ⟨by omega, ?_⟩⟩
    · obtain rfl : k = 60 := by omega
      exact h J l zm_fr_rfl hr (zl_pre_end hp)
    · simp only [Int.toNat_natCast]
      match n, hn with
      | 0, hn => omega
      | n + 1, hn =>
        have hk := hm k (by omega)
        refine ⟨by omega, fun hc2 => ?_, fun hc2 => ?_⟩
        · refine s_187_62 hi hod n (k + 1) l J (by omega) hm hr (zl_pre_none hp ?_) h
          rcases hk with hk | hk
          · exact hk.2
          · omega
        · rcases hk with hk | hk
          · omega
          have h1 := hr.1
          have h2 : ((i : Int) * 60 + J 195 i).toNat = 60 * i + l.length := by omega
          rw [h2]
          refine ⟨by omega, by omega, ?_⟩
          have hfr : zm_fr i J (jm_up (jm_up (jm_up J 196 (60 * i + l.length) (k : Int)) 197 (60 * i + l.length) (J 198 k)) 195 i (J 195 i + 1)) := by
            refine ⟨fun b q1 q2 q3 q4 => by rw [zu_row q1, zu_row q3, zu_row q2], fun j hj => by rw [zu_key hj, zu_row (by omega), zu_row (by omega)], fun m q => ?_⟩
            exact ⟨by rw [zu_ne (by omega), zu_ne (by omega), zu_ne (by omega)], by rw [zu_ne (by omega), zu_ne (by omega), zu_ne (by omega)]⟩
          refine s_187_62 hi hod n (k + 1) (l ++ [((k : Int), J 198 k)]) _ (by omega) ?_ ?_ (zl_pre_some (by omega) hp ⟨hk.1, hk.2.1⟩ (hod _ _ hk.2.2.1) hk.2.2) (fun J' l' q1 q2 q3 => h J' l' (zm_fr_tr hfr q1) q2 q3)
          · rw [zu_row (by omega), zu_row (by omega), zu_row (by omega)]
            exact hm
          · refine ⟨by rw [zu_self, h1]; simp, fun j hj => ?_⟩
            by_cases q : j < l.length
            · rw [(zs_app_lt q).1, (zs_app_lt q).2]
              exact ⟨by rw [zu_ne (by omega), zu_ne (by omega), zu_ne (by omega)]; exact (hr.2 j q).1, by rw [zu_ne (by omega), zu_ne (by omega), zu_ne (by omega)]; exact (hr.2 j q).2⟩
            · have : (l ++ [((k : Int), J 198 k)]).length = l.length + 1 := by simp
              obtain rfl : j = l.length := by omega
              rw [zs_app_eq.1, zs_app_eq.2]
              exact ⟨by rw [zu_ne (by omega), zu_ne (by omega), zu_self], by rw [zu_ne (by omega), zu_self]⟩
theorem s_187_6 {xs : Nat → Int32} {L d : Nat} {K : jZ} {P : jZ → jZ → Prop} {S : Int → Int → Prop} {i : Nat} (hi : i < 27) (hod : zl_od S) : ∀ (k : Nat) (v m : Int) (J : jZ), v = (k : Int) - 1 → k ≤ 60 → zl_ph (-1) S (J 198) k m → (∀ J' l', zm_fr i J J' → zm_at J' i l' → zl_isl S l' → P J' K) → l_187_6 xs L (d + 0) (i : Int) m v J K P
  | 0, v, m, J, hv, hk, hp, h => by
    refine e_187_6 ⟨by omega, fun hc => ⟨by omega, ?_⟩, fun hc => by omega⟩
    rw [Int.toNat_natCast]
    have hfr : zm_fr i J (jm_up J 195 i 0) := ⟨fun b q1 q2 q3 q4 => by rw [zu_row q1], fun j hj => by rw [zu_key hj], fun m q => by rw [zu_row (by omega), zu_row (by omega)]; exact ⟨rfl, rfl⟩⟩
    refine s_187_62 hi hod 60 0 [] _ (by omega) ?_ ⟨zu_self, fun k hk => by simp at hk⟩ zl_pre_0 (fun J' l' h1 h2 h3 => h J' l' (zm_fr_tr hfr h1) h2 h3)
    rw [zu_row (by omega)]
    exact fun f hf => hp.2.1 f (by omega) hf
  | k + 1, v, m, J, hv, hk, hp, h => by
    have h1 : v.toNat = k := by omega
    refine e_187_6 ⟨by omega, fun hc => by omega, fun hc => ?_⟩
    rw [h1]
    have hb : -1 ≤ J 198 k ∧ J 198 k < 60 := by
      rcases hp.1 k (by omega) (by omega) with ⟨q, -⟩ | ⟨q, q2, -⟩ <;> omega
    have hm : 0 ≤ m ∧ m ≤ 60 := by
      refine ⟨hp.2.2.2.2, ?_⟩
      rcases hp.2.2.2.1 with q | ⟨q, -⟩ <;> omega
    have hfr : zm_fr i J (jm_up J 198 k (-1)) := ⟨fun b q1 q2 q3 q4 => by rw [zu_row q4], fun j hj => by rw [zu_row (by omega)], fun m q => by rw [zu_row (by omega), zu_row (by omega)]; exact ⟨rfl, rfl⟩⟩
    have non : (J 198 k = -1 ∨ m ≤ J 198 k) → l_187_6 xs L (d + 0) (i : Int) m (v + -1) (jm_up J 198 k (-1)) K P := fun q =>
      s_187_6 hi hod k (v + -1) m _ (by omega) (by omega) (zl_ph_none (by omega) (.inl (by omega)) hp q zu_self (fun j hj => zu_key hj)) (fun J' l' q1 q2 q3 => h J' l' (zm_fr_tr hfr q1) q2 q3)
    refine ⟨by omega, by omega, fun hc2 => non (.inl hc2), fun hc2 => ⟨by omega, fun hc3 => non (.inr hc3), fun hc3 => ?_⟩⟩
    exact s_187_6 hi hod k (v + -1) _ J (by omega) (by omega) (zl_ph_some (by omega) hp hc2 hc3) h
theorem s_187 {xs : Nat → Int32} {L d : Nat} {J K : jZ} {P : jZ → jZ → Prop} {S : Int → Int → Prop} {i : Nat} (hi : i < 27) (hod : zl_od S) (hS : zl_lo (-1) S (J 198)) (h : ∀ J' l', zm_fr i J J' → zm_at J' i l' → zl_isl S l' → P J' K) : q_187 xs L (d + 1) (i : Int) J K P :=
  e_187 (s_187_6 hi hod 60 59 60 J (by omega) (by omega) (zl_ph_0 hS) h)
