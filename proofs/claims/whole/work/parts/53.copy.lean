/-! Copy. -/
def zq_cx (H : zH) (s t i j n : Int) : Int := if ¬ ((0 ≤ s ∧ s < 8) ∧ (0 ≤ t ∧ t < 8)) then -2 else if 10 ≤ (H s.toNat).1 ∨ 10 ≤ (H t.toNat).1 then -3 else if (H s.toNat).1 = -1 ∨ (H t.toNat).1 = -1 then -4 else if ¬ (H s.toNat).1 = (H t.toNat).1 then -3 else if (0 ≤ i ∧ 0 ≤ n ∧ n ≤ (H s.toNat).2.1 ∧ i ≤ (H s.toNat).2.1 - n) ∧ (0 ≤ j ∧ 0 ≤ n ∧ n ≤ (H t.toNat).2.1 ∧ j ≤ (H t.toNat).2.1 - n) then 0 else -2
def zq_cy (H : zH) (s t i j n : Int) : Int × Int × (Nat → Int) := ((H t.toNat).1, (H t.toNat).2.1, fun e => if j.toNat ≤ e ∧ e < j.toNat + n.toNat then (H s.toNat).2.2 (i.toNat + (e - j.toNat)) else (H t.toNat).2.2 e)
theorem c_22 {xs : Nat → Int32} {L d : Nat} {J K : jZ} {P : Int → jZ → jZ → Prop} {H : zH} {s t i j n : Int} {m : Nat} (hm : m ≤ 24) (hH : zH_ok m H) (hr : cH_at J K H) (hs : -2147483648 ≤ s ∧ s < 2147483648) (ht : -2147483648 ≤ t ∧ t < 2147483648) (hi : -2147483648 ≤ i ∧ i < 2147483648) (hj : -2147483648 ≤ j ∧ j < 2147483648) (hn : -2147483648 ≤ n ∧ n < 2147483648) (hb : ¬ zq_cx H s t i j n = 0 → P (zq_cx H s t i j n) (rC J (-2 - zq_cx H s t i j n).toNat) K) (h : zq_cx H s t i j n = 0 → (0 ≤ t ∧ t < 8) ∧ zH_ok m (zH_up H t.toNat (zq_cy H s t i j n)) → ∀ K', cHf J J K K' → cH_at J K' (zH_up H t.toNat (zq_cy H s t i j n)) → P n J K') : q_22 xs L (d + 2) s t i j n J K P := by
  have ref : ∀ w : Int, (w = -2 ∨ w = -3 ∨ w = -4) → zq_cx H s t i j n = w → q_13 xs L (d + 1) w J K (fun r J' K' => P r J' K') := fun w hw e => by
    rw [e] at hb
    exact s_13 (k := (-2 - w).toNat) (by omega) (by omega) (hb (by omega))
  have bad : ¬ ((0 ≤ s ∧ s < 8) ∧ (0 ≤ t ∧ t < 8)) → l_22_14 xs L (d + 1) J K P := fun q => e_22_14 (ref _ (.inl rfl) (by rw [zq_cx, if_pos q]))
  refine e_22 ⟨hs, fun q => ⟨ht, fun q2 => ?_, fun q2 => bad (by omega)⟩, fun q => bad (by omega)⟩
  obtain ⟨a, rfl⟩ : ∃ a : Nat, s = (a : Int) := ⟨s.toNat, by omega⟩
  obtain ⟨b, rfl⟩ : ∃ b : Nat, t = (b : Int) := ⟨t.toNat, by omega⟩
  unfold zq_cx at hb h ref
  simp only [Int.toNat_natCast] at hb h ref ⊢
  rw [if_neg (show ¬ ¬ ((0 ≤ (a : Int) ∧ (a : Int) < 8) ∧ (0 ≤ (b : Int) ∧ (b : Int) < 8)) from fun w => w ⟨q, q2⟩)] at hb h ref
  have ha := hH a (by omega)
  have hb2 := hH b (by omega)
  have ra := hr a (by omega)
  have rb := hr b (by omega)
  have oth : 10 ≤ (H a).1 ∨ 10 ≤ (H b).1 → l_22_96 xs L (d + 1) J K P := fun w => e_22_96 (ref _ (.inr (.inl rfl)) (by rw [if_pos w]))
  have non : (H a).1 = -1 ∨ (H b).1 = -1 → l_22_59 xs L (d + 1) i j n (151 + 2 * a) (151 + 2 * b) J K P := fun w => by
    refine e_22_59 (jz_e149 (by omega)) (jz_e149 (by omega)) ?_
    rw [ra.1, rb.1]
    exact ⟨by omega, fun u => oth (.inl u), fun u => ⟨by omega, fun u2 => oth (.inr u2), fun u2 => e_22_103x (jz_e149 (by omega)) (jz_e149 (by omega)) ⟨by omega, fun x => by omega, fun _ => ref _ (.inr (.inr rfl)) (by rw [if_neg (by omega), if_pos w])⟩⟩⟩
  rw [ra.1, rb.1]
  refine ⟨by omega, fun u => non (.inl u), fun u => ⟨by omega, fun u2 => non (.inr u2), fun u2 => ⟨fun u3 => oth (.inl u3), fun u3 => ⟨fun u4 => oth (.inr u4), fun u4 => ⟨fun u5 => ?_, fun u5 => e_22_96 (ref _ (.inr (.inl rfl)) (by rw [if_neg (by omega), if_neg (by omega), if_pos u5]))⟩⟩⟩⟩⟩
  rw [if_neg (by omega), if_neg (by omega), if_neg (fun w => w u5)] at hb h ref
  have va := ra.2 (by omega)
  have vb := rb.2 (by omega)
  have n138 : ¬ ((0 ≤ i ∧ 0 ≤ n ∧ n ≤ (H a).2.1 ∧ i ≤ (H a).2.1 - n) ∧ (0 ≤ j ∧ 0 ≤ n ∧ n ≤ (H b).2.1 ∧ j ≤ (H b).2.1 - n)) → l_22_138 xs L (d + 1) J K P := fun w => e_22_138 (ref _ (.inl rfl) (by rw [if_neg w]))
  refine e_22_103x (jz_e149 (by omega)) (jz_e149 (by omega)) ⟨by omega, fun _ => ?_, fun x => by omega⟩
  rw [va.1, vb.1]
  refine ⟨hi, hn, by omega, fun w => ⟨hj, by omega, fun w2 => ⟨by omega, ?_⟩, fun w2 => n138 (fun x => w2 x.2)⟩, fun w => n138 (fun x => w x.1)⟩
  rw [if_pos ⟨w, w2⟩] at h
  have vf : ∀ e : Nat, (e : Int) < (H b).2.1 → (if j.toNat ≤ e ∧ e < j.toNat + n.toNat then (H a).2.2 (i.toNat + (e - j.toNat)) else (H b).2.2 e) = (zq_cy H a b i j n).2.2 e := fun e he => by
    unfold zq_cy
    simp only [Int.toNat_natCast]
  have va2 : ∀ e : Nat, (e : Int) < (H a).2.1 → -9223372036854775808 ≤ (H a).2.2 e ∧ (H a).2.2 e < 9223372036854775808 := by
    rcases ha with c | c | c
    · omega
    · exact c.2.2.2.2
    · omega
  have vb2 : (0 ≤ (H b).1 ∧ (H b).1 ≤ 4 ∧ 0 ≤ (H b).2.1 ∧ (H b).2.1 ≤ 40) ∧ ∀ e : Nat, (e : Int) < (H b).2.1 → -9223372036854775808 ≤ (H b).2.2 e ∧ (H b).2.2 e < 9223372036854775808 := by
    rcases hb2 with c | c | c
    · omega
    · exact ⟨⟨c.1, c.2.1, c.2.2.1, c.2.2.2.1⟩, c.2.2.2.2⟩
    · omega
  refine h rfl ⟨q2, zH_ok_up hH (.inr (.inl ⟨vb2.1.1, vb2.1.2.1, vb2.1.2.2.1, vb2.1.2.2.2, fun e he => ?_⟩))⟩ _ ⟨fun _ _ => rfl, fun x hx => zc_row (by omega)⟩ (cH_up hr (fun t ht c => ⟨rfl, zc_row (by omega)⟩) ⟨rb.1, fun _ => ⟨vb.1, fun e he => ?_⟩⟩)
  · have he : (e : Int) < (H b).2.1 := he
    rw [← vf e he]
    split
    · exact va2 _ (by omega)
    · exact vb2.2 e he
  · have he : (e : Int) < (H b).2.1 := he
    rw [← vf e he, zc_self]
    split
    · exact va.2 _ (by omega)
    · exact vb.2 e he
theorem s_174_225 {xs : Nat → Int32} {L d : Nat} {J : jZ} {P : Int → jZ → jZ → Prop} {b j N : Nat} {f g : Nat → Int} (hb : b < 8) (hj : j + N ≤ 40) : ∀ (n k : Nat) (K : jZ), k + n = N → (∀ e, e < N → K 180 e = f e) → (∀ e, e < 40 → K (172 + b) e = if j ≤ e ∧ e < j + k then f (e - j) else g e) → (∀ K', (∀ x, x ≠ 172 + b → K' x = K x) → (∀ e, e < 40 → K' (172 + b) e = if j ≤ e ∧ e < j + N then f (e - j) else g e) → P (N : Int) J K') → l_174_225 xs L (d + 1) (b : Int) (j : Int) (N : Int) (k : Int) J K P
  | n, k, K, hn, hf, hg, h => by
    refine e_174_225 ⟨by omega, by omega, fun q => ?_, fun q => ⟨by omega, by omega, by omega, ?_⟩⟩
    · obtain rfl : k = N := by omega
      exact h K (fun _ _ => rfl) hg
    · match n, hn with
      | 0, hn => omega
      | n + 1, hn =>
        rw [Int.toNat_natCast, Int.toNat_natCast, show ((j : Int) + (k : Int)).toNat = j + k by omega, hf k (by omega)]
        refine s_174_225 hb hj n (k + 1) _ (by omega) (fun e he => by rw [zu_row (by omega)]; exact hf e he) (fun e he => ?_) (fun K' f' h' => h K' (fun x hx => by rw [f' x hx, zu_row hx]) h')
        by_cases c : e = j + k
        · subst c
          rw [zu_self, if_pos (by omega), show j + k - j = k by omega]
        · rw [zu_key c, hg e he]
          by_cases c2 : j ≤ e ∧ e < j + k
          · rw [if_pos c2, if_pos (by omega)]
          · rw [if_neg c2, if_neg (by omega)]
theorem s_174_191 {xs : Nat → Int32} {L d : Nat} {J : jZ} {P : Int → jZ → jZ → Prop} {a b i j N : Nat} {f : Nat → Int} (ha : a < 8) (hi : i + N ≤ 40) : ∀ (n k : Nat) (K : jZ), k + n = N → (∀ e, e < N → K (172 + a) (i + e) = f e) → (∀ e, e < k → K 180 e = f e) → (∀ K', (∀ x, x ≠ 180 → K' x = K x) → (∀ e, e < N → K' 180 e = f e) → l_174_225 xs L (d + 1) (b : Int) (j : Int) (N : Int) 0 J K' P) → l_174_191 xs L (d + 1) (a : Int) (b : Int) (i : Int) (j : Int) (N : Int) (k : Int) J K P
  | n, k, K, hn, hf, hk, h => by
    refine e_174_191 ⟨by omega, by omega, fun q => ?_, fun q => ⟨by omega, by omega, by omega, ?_⟩⟩
    · obtain rfl : k = N := by omega
      exact h K (fun _ _ => rfl) hk
    · match n, hn with
      | 0, hn => omega
      | n + 1, hn =>
        rw [Int.toNat_natCast, Int.toNat_natCast, show ((i : Int) + (k : Int)).toNat = i + k by omega, hf k (by omega)]
        refine s_174_191 ha hi n (k + 1) _ (by omega) (fun e he => by rw [zu_row (by omega)]; exact hf e he) (fun e he => ?_) (fun K' f' h' => h K' (fun x hx => by rw [f' x hx, zu_row hx]) h')
        by_cases c : e = k
        · subst c
          exact zu_self
        · rw [zu_key c]
          exact hk e (by omega)
theorem m_174 {xs : Nat → Int32} {L d : Nat} {J K : jZ} {P : Int → jZ → jZ → Prop} {H : zH} {s t i j n : Int} {m : Nat} (hm : m ≤ 24) (hH : zH_ok m H) (hr : mH_at J K H) (hs : -2147483648 ≤ s ∧ s < 2147483648) (ht : -2147483648 ≤ t ∧ t < 2147483648) (hi : -2147483648 ≤ i ∧ i < 2147483648) (hj : -2147483648 ≤ j ∧ j < 2147483648) (hn : -2147483648 ≤ n ∧ n < 2147483648) (hb : ¬ zq_cx H s t i j n = 0 → P (zq_cx H s t i j n) (rM J (-zq_cx H s t i j n).toNat) K) (h : zq_cx H s t i j n = 0 → ∀ K', mHf J J K K' → mH_at J K' (zH_up H t.toNat (zq_cy H s t i j n)) → P n J K') : q_174 xs L (d + 2) s t i j n J K P := by
  have ref : ∀ w : Int, (w = -2 ∨ w = -3 ∨ w = -4) → zq_cx H s t i j n = w → q_170 xs L (d + 1) w J K (fun r J' K' => P r J' K') := fun w hw e => by
    rw [e] at hb
    exact s_170 (k := (-w).toNat) (by omega) (by omega) (hb (by omega))
  have bad : ¬ ((0 ≤ s ∧ s < 8) ∧ (0 ≤ t ∧ t < 8)) → l_174_24 xs L (d + 1) J K P := fun q => e_174_24 (ref _ (.inl rfl) (by rw [zq_cx, if_pos q]))
  refine e_174 ⟨hs, fun q => ⟨ht, fun q2 => ⟨by omega, ?_⟩, fun q2 => bad (by omega)⟩, fun q => bad (by omega)⟩
  obtain ⟨a, rfl⟩ : ∃ a : Nat, s = (a : Int) := ⟨s.toNat, by omega⟩
  obtain ⟨b, rfl⟩ : ∃ b : Nat, t = (b : Int) := ⟨t.toNat, by omega⟩
  unfold zq_cx at hb h ref
  simp only [Int.toNat_natCast] at hb h ref ⊢
  rw [if_neg (show ¬ ¬ ((0 ≤ (a : Int) ∧ (a : Int) < 8) ∧ (0 ≤ (b : Int) ∧ (b : Int) < 8)) from fun w => w ⟨by omega, by omega⟩)] at hb h ref
  have ha := hH a (by omega)
  have hb2 := hH b (by omega)
  have ra := hr a (by omega)
  have rb := hr b (by omega)
  have kd : ∀ x, ((H x).1 = -1 ∨ (0 ≤ (H x).1 ∧ (H x).1 ≤ 4 ∧ 0 ≤ (H x).2.1 ∧ (H x).2.1 ≤ 40 ∧ ∀ i : Nat, (i : Int) < (H x).2.1 → -9223372036854775808 ≤ (H x).2.2 i ∧ (H x).2.2 i < 9223372036854775808) ∨ (10 ≤ (H x).1 ∧ (H x).1 < 10 + m)) → (((H x).1 = -1 → J 168 x = 0) ∧ (0 ≤ (H x).1 ∧ (H x).1 ≤ 4 → J 168 x = 1 ∧ J 169 x = (H x).1 ∧ J 170 x = (H x).2.1 ∧ ∀ i : Nat, (i : Int) < (H x).2.1 → K (172 + x) i = (H x).2.2 i) ∧ (10 ≤ (H x).1 → J 168 x = 2 ∧ J 181 x = (H x).1 - 10)) → (J 168 x = 0 ∧ (H x).1 = -1) ∨ (J 168 x = 1 ∧ (0 ≤ (H x).1 ∧ (H x).1 ≤ 4) ∧ (0 ≤ (H x).2.1 ∧ (H x).2.1 ≤ 40)) ∨ (J 168 x = 2 ∧ 10 ≤ (H x).1) := fun x c r => by
    rcases c with c | c | c
    · exact .inl ⟨r.1 c, c⟩
    · exact .inr (.inl ⟨(r.2.1 ⟨c.1, c.2.1⟩).1, ⟨c.1, c.2.1⟩, ⟨c.2.2.1, c.2.2.2.1⟩⟩)
    · exact .inr (.inr ⟨(r.2.2 c.1).1, c.1⟩)
  have ka := kd a ha ra
  have kb := kd b hb2 rb
  have oth : 10 ≤ (H a).1 ∨ 10 ≤ (H b).1 → l_174_86 xs L (d + 1) J K P := fun w => e_174_86 (ref _ (.inr (.inl rfl)) (by rw [if_pos w]))
  have non : ¬ (10 ≤ (H a).1 ∨ 10 ≤ (H b).1) → (H a).1 = -1 ∨ (H b).1 = -1 → l_174_93 xs L (d + 1) (a : Int) (b : Int) i j n J K P := fun w2 w => by
    have n111 : l_174_111 xs L (d + 1) J K P := e_174_111 (ref _ (.inr (.inr rfl)) (by rw [if_neg w2, if_pos w]))
    refine e_174_93 ?_
    simp only [Int.toNat_natCast]
    exact ⟨by omega, by omega, fun _ => n111, fun u => ⟨by omega, by omega, fun u2 => by omega, fun _ => n111⟩⟩
  refine ⟨by omega, fun u => oth (.inl (by omega)), fun u => ⟨by omega, by omega, fun u2 => oth (.inr (by omega)), fun u2 => ⟨fun u3 => non (by omega) (.inl (by omega)), fun u3 => ⟨fun u4 => non (by omega) (.inr (by omega)), fun u4 => ?_⟩⟩⟩⟩
  have va := ra.2.1 (by omega)
  have vb := rb.2.1 (by omega)
  rw [va.2.1, vb.2.1]
  refine ⟨by omega, by omega, fun u5 => ?_, fun u5 => e_174_86 (ref _ (.inr (.inl rfl)) (by rw [if_neg (by omega), if_neg (by omega), if_pos u5]))⟩
  rw [if_neg (by omega), if_neg (by omega), if_neg (fun w => w u5)] at hb h ref
  have n181 : ¬ ((0 ≤ i ∧ 0 ≤ n ∧ n ≤ (H a).2.1 ∧ i ≤ (H a).2.1 - n) ∧ (0 ≤ j ∧ 0 ≤ n ∧ n ≤ (H b).2.1 ∧ j ≤ (H b).2.1 - n)) → l_174_181 xs L (d + 1) J K P := fun w => e_174_181 (ref _ (.inl rfl) (by rw [if_neg w]))
  refine e_174_93 ?_
  simp only [Int.toNat_natCast]
  rw [va.2.2.1, vb.2.2.1]
  refine ⟨by omega, by omega, fun x => by omega, fun _ => ⟨by omega, by omega, fun _ => ⟨hn, fun w => n181 (by omega), fun w => ⟨hi, fun w2 => n181 (by omega), fun w2 => ⟨hj, fun w3 => n181 (by omega), fun w3 => ⟨by omega, fun w4 => n181 (by omega), fun w4 => ⟨by omega, fun w5 => n181 (by omega), fun w5 => ⟨by omega, fun w6 => n181 (by omega), fun w6 => ⟨by omega, fun w7 => ?_, fun w7 => n181 (by omega)⟩⟩⟩⟩⟩⟩⟩, fun x => by omega⟩⟩
  rw [if_pos (by omega)] at h
  obtain ⟨i, rfl⟩ : ∃ x : Nat, i = (x : Int) := ⟨i.toNat, by omega⟩
  obtain ⟨j, rfl⟩ : ∃ x : Nat, j = (x : Int) := ⟨j.toNat, by omega⟩
  obtain ⟨n, rfl⟩ : ∃ x : Nat, n = (x : Int) := ⟨n.toNat, by omega⟩
  refine s_174_191 (f := fun e => (H a).2.2 (i + e)) (by omega) (by omega) n 0 K (by omega) (fun e he => va.2.2.2 _ (by omega)) (fun e he => by omega) (fun K1 f1 z1 => ?_)
  refine s_174_225 (f := fun e => (H a).2.2 (i + e)) (g := K (172 + b)) (by omega) (by omega) n 0 K1 (by omega) z1 (fun e he => by rw [if_neg (by omega), f1 _ (by omega)]) (fun K2 f2 z2 => ?_)
  refine h rfl K2 ⟨fun _ _ _ => rfl, fun x hx => ?_⟩ (mH_up hr (fun t ht c => ⟨rfl, rfl, rfl, rfl, by rw [f2 _ (by omega), f1 _ (by omega)]⟩) ⟨fun x => ?_, fun _ => ⟨vb.1, vb.2.1, vb.2.2.1, fun e he => ?_⟩, fun x => ?_⟩)
  · rw [f2 x (by omega), f1 x (by omega)]
  · have x : (H b).1 = -1 := x
    omega
  · have he : (e : Int) < (H b).2.1 := he
    rw [z2 e (by omega)]
    unfold zq_cy
    simp only [Int.toNat_natCast]
    by_cases c : j ≤ e ∧ e < j + n
    · rw [if_pos c, if_pos c]
    · rw [if_neg c, if_neg c]
      exact vb.2.2.2 e he
  · have x : 10 ≤ (H b).1 := x
    omega
