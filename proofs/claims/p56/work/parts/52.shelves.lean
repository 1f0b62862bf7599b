/-! Shelves change: row, set, copy, show. -/
def zH_up (H : zH) (s : Nat) (x : Int × Int × (Nat → Int)) : zH := fun t => if t = s then x else H t
theorem zH_up_s {H : zH} {s : Nat} {x : Int × Int × (Nat → Int)} : zH_up H s x s = x := by
  unfold zH_up
  rw [if_pos rfl]
theorem zH_up_n {H : zH} {s t : Nat} {x : Int × Int × (Nat → Int)} (h : ¬ t = s) : zH_up H s x t = H t := by
  unfold zH_up
  rw [if_neg h]
def cHf (J J' K K' : jZ) : Prop := (∀ x, x < 151 ∨ 167 ≤ x → J' x = J x) ∧ ∀ x, x < 151 ∨ 167 ≤ x → K' x = K x
theorem cHf_rfl {J K : jZ} : cHf J J K K := ⟨fun _ _ => rfl, fun _ _ => rfl⟩
theorem cH_up {J J' K K' : jZ} {H : zH} {s : Nat} {x : Int × Int × (Nat → Int)} (h : cH_at J K H) (hJ : ∀ t, t < 8 → ¬ t = s → J' (151 + 2 * t) = J (151 + 2 * t) ∧ K' (151 + 2 * t + 1) = K (151 + 2 * t + 1)) (hx : J' (151 + 2 * s) 2 = x.1 ∧ (0 ≤ x.1 ∧ x.1 ≤ 4 → J' (151 + 2 * s) 1 = x.2.1 ∧ ∀ i : Nat, (i : Int) < x.2.1 → K' (151 + 2 * s + 1) i = x.2.2 i)) : cH_at J' K' (zH_up H s x) := by
  intro t ht
  by_cases c : t = s
  · subst c
    rw [zH_up_s]
    exact hx
  · rw [zH_up_n c, (hJ t ht c).1, (hJ t ht c).2]
    exact h t ht
theorem zH_ok_up {n s : Nat} {H : zH} {x : Int × Int × (Nat → Int)} (h : zH_ok n H) (hx : x.1 = -1 ∨ (0 ≤ x.1 ∧ x.1 ≤ 4 ∧ 0 ≤ x.2.1 ∧ x.2.1 ≤ 40 ∧ ∀ i : Nat, (i : Int) < x.2.1 → -9223372036854775808 ≤ x.2.2 i ∧ x.2.2 i < 9223372036854775808) ∨ (10 ≤ x.1 ∧ x.1 < 10 + n)) : zH_ok n (zH_up H s x) := by
  intro t ht
  by_cases c : t = s
  · subst c
    rw [zH_up_s]
    exact hx
  · rw [zH_up_n c]
    exact h t ht
-- row
theorem s_15_6 {xs : Nat → Int32} {L d : Nat} {J : jZ} {P : jZ → jZ → Prop} {a : Nat} {v : Int} (ha : jz_kd a = 2 ∧ (jz_ln a : Int) = 40) : ∀ (n k : Nat) (K : jZ), k + n = 40 → (∀ i, i < k → K a i = v) → (∀ K', (∀ x, x ≠ a → K' x = K x) → (∀ i, i < 40 → K' a i = v) → P J K') → l_15_6 xs L d a v (k : Int) 40 J K P
  | n, k, K, hn, hk, h => by
    refine e_15_6 (n0 := 40) ha.1 ha.2 (by omega) ⟨by omega, by omega, fun q => ?_, fun q => ⟨by omega, ?_⟩⟩
    · obtain rfl : k = 40 := by omega
      exact h K (fun _ _ => rfl) hk
    · match n, hn with
      | 0, hn => omega
      | n + 1, hn =>
        rw [Int.toNat_natCast]
        refine s_15_6 ha n (k + 1) _ (by omega) (fun i hi => ?_) (fun K' f h' => h K' (fun x hx => by rw [f x hx, zu_row hx]) h')
        by_cases c : i = k
        · subst c
          exact zu_self
        · rw [zu_key c]
          exact hk i (by omega)
theorem c_11 {xs : Nat → Int32} {L d : Nat} {J K : jZ} {P : Int → jZ → jZ → Prop} {H : zH} {s k n : Int} (hr : cH_at J K H) (hs : -2147483648 ≤ s ∧ s < 2147483648) (hk : -2147483648 ≤ k ∧ k < 2147483648) (hn : -2147483648 ≤ n ∧ n < 2147483648) (hb : ¬ ((0 ≤ s ∧ s < 8) ∧ (0 ≤ k ∧ k ≤ 4) ∧ (0 ≤ n ∧ n ≤ 40)) → P (-2) (rC J 0) K) (h : (0 ≤ s ∧ s < 8) ∧ (0 ≤ k ∧ k ≤ 4) ∧ (0 ≤ n ∧ n ≤ 40) → ∀ J' K', cHf J J' K K' → cH_at J' K' (zH_up H s.toNat (k, n, fun _ => 0)) → P 1 J' K') : q_11 xs L (d + 3) s k n J K P := by
  refine e_11 ⟨hs, fun q => ⟨hk, fun q2 => s_13 (k := 0) (by omega) (by omega) (hb (by omega)), fun q2 => ⟨fun q3 => s_13 (k := 0) (by omega) (by omega) (hb (by omega)), fun q3 => ⟨hn, fun q4 => s_13 (k := 0) (by omega) (by omega) (hb (by omega)), fun q4 => ⟨fun q5 => ?_, fun q5 => s_13 (k := 0) (by omega) (by omega) (hb (by omega))⟩⟩⟩⟩, fun q => s_13 (k := 0) (by omega) (by omega) (hb (by omega))⟩
  obtain ⟨j, rfl⟩ : ∃ j : Nat, s = (j : Int) := ⟨s.toNat, by omega⟩
  rw [Int.toNat_natCast] at h ⊢
  have e := jz_s2 (s := j) (by omega)
  refine e_14 (jz_e149 (by omega)) (e_15 (n0 := 40) e.1 e.2 (by omega) (s_15_6 e 40 0 K (by omega) (fun i hi => by omega) (fun K' f z => ?_)))
  refine h (by omega) _ K' ⟨fun x hx => by rw [zu_row (by omega), zu_row (by omega)], fun x hx => f x (by omega)⟩ (cH_up hr (fun t ht c => ⟨by rw [zu_row (by omega), zu_row (by omega)], f _ (by omega)⟩) ⟨by rw [zu_self], fun _ => ⟨by rw [zu_key (by omega), zu_self], fun i hi => z i ?_⟩⟩)
  have hi : (i : Int) < n := hi
  omega
-- set
def zq_ft (k v : Int) : Int := if k = 0 then jz_b v else if k = 1 then jz_s v else if k = 2 then jz_i v else if k = 3 then v else if v = 0 then 0 else 1
theorem zq_ft_r {k v : Int} (hv : -9223372036854775808 ≤ v ∧ v < 9223372036854775808) : -9223372036854775808 ≤ zq_ft k v ∧ zq_ft k v < 9223372036854775808 := by
  have b1 := Int32.le_toInt (Int32.ofInt v).toInt8.toInt32
  have b2 := Int32.toInt_lt (Int32.ofInt v).toInt8.toInt32
  have s1 := Int32.le_toInt (Int32.ofInt v).toInt16.toInt32
  have s2 := Int32.toInt_lt (Int32.ofInt v).toInt16.toInt32
  have i1 := jz_i_r (x := v)
  unfold zq_ft jz_b jz_s
  repeat' split
  all_goals omega
def zq_sv (H : zH) (s i v : Int) : Int × Int × (Nat → Int) := ((H s.toNat).1, (H s.toNat).2.1, fun e => if e = i.toNat then zq_ft (H s.toNat).1 v else (H s.toNat).2.2 e)
/-- why an element is not set; 0: it is -/
def zq_sn (H : zH) (s i : Int) : Int := if ¬ zH_rf H s 0 = 0 then zH_rf H s 0 else if 0 ≤ i ∧ i < (H s.toNat).2.1 then 0 else -2
theorem c_16 {xs : Nat → Int32} {L d : Nat} {J K : jZ} {P : Int → jZ → jZ → Prop} {H : zH} {s i v : Int} {m : Nat} (hm : m ≤ 24) (hH : zH_ok m H) (hr : cH_at J K H) (hs : -2147483648 ≤ s ∧ s < 2147483648) (hi : -2147483648 ≤ i ∧ i < 2147483648) (hv : -9223372036854775808 ≤ v ∧ v < 9223372036854775808) (hb : ¬ zq_sn H s i = 0 → P (zq_sn H s i) (rC J (-2 - zq_sn H s i).toNat) K) (h : zq_sn H s i = 0 → ∀ K', cHf J J K K' → cH_at J K' (zH_up H s.toNat (zq_sv H s i v)) → P 1 J K') : q_16 xs L (d + 3) s i v J K P := by
  have rr := zH_rf_r (H := H) (s := s) (n := 0)
  refine e_16 (s_17 hm hH hr hs (by omega) ⟨by omega, fun q => ?_, fun q => ?_⟩)
  · have c := zH_rf_0 q
    obtain ⟨j, rfl⟩ : ∃ j : Nat, s = (j : Int) := ⟨s.toNat, by omega⟩
    unfold zq_sn at hb h
    rw [if_neg (fun t => t q)] at hb h
    simp only [Int.toNat_natCast] at c hb h ⊢
    have hk := hH j (by omega)
    have rk := hr j (by omega)
    have z : 0 ≤ (H j).1 ∧ (H j).1 ≤ 4 := by omega
    have e := rk.2 z
    rw [rk.1, e.1]
    refine ⟨by omega, hi, by omega, fun q2 => ?_, fun q2 => ?_⟩
    · rw [if_pos q2] at h
      have fin : ∀ w, w = zq_ft (H j).1 v → (0 ≤ i ∧ i < 40) ∧ P 1 J (jm_up K ((151 + 2 * j) + 1) i.toNat w) := fun w hw => ⟨by omega, by
        refine h rfl _ ⟨fun _ _ => rfl, fun x hx => zu_row (by omega)⟩ (cH_up hr (fun t ht c => ⟨rfl, zu_row (by omega)⟩) ⟨rk.1, fun _ => ⟨e.1, fun a ha => ?_⟩⟩)
        unfold zq_sv
        rw [Int.toNat_natCast]
        dsimp only
        by_cases c : a = i.toNat
        · rw [if_pos c, c, zu_self, hw]
        · rw [if_neg c, zu_key c]
          exact e.2 a ha⟩
      unfold zq_ft at fin
      exact e_21x ⟨by omega, fun k0 => fin _ (by rw [if_pos k0]), fun k0 => ⟨fun k1 => fin _ (by rw [if_neg k0, if_pos k1]), fun k1 => ⟨fun k2 => fin _ (by rw [if_neg k0, if_neg k1, if_pos k2]), fun k2 => ⟨fun k3 => fin _ (by rw [if_neg k0, if_neg k1, if_neg k2, if_pos k3]), fun k3 => ⟨fun k4 => ⟨by omega, fun u => fin _ (by rw [if_neg k0, if_neg k1, if_neg k2, if_neg k3, if_neg u]), fun u => fin _ (by rw [if_neg k0, if_neg k1, if_neg k2, if_neg k3, if_pos u])⟩, fun k4 => by omega⟩⟩⟩⟩⟩
    · rw [if_neg q2] at hb
      exact s_13 (k := 0) (by omega) (by omega) (hb (by omega))
  · have e : zq_sn H s i = zH_rf H s 0 := by
      unfold zq_sn
      rw [if_pos q]
    rw [e] at hb
    exact s_13 (k := (-2 - zH_rf H s 0).toNat) (by omega) (by omega) (hb q)
-- show