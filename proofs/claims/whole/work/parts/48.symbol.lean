/-! symbol, of both. -/
def sl (kd k : Nat) : Nat := (if kd = 0 then 0 else if kd = 1 then 5 else 11) + k
theorem sl_lt {C : Nat → Nat → Nat} (hM : C 0 1 ≤ 5 ∧ C 0 2 ≤ 6 ∧ C 0 3 ≤ 8) {kd k : Nat} (hd : kd < 3) (hk : k < C 0 (kd + 1)) : sl kd k < 19 := by
  rcases (by omega : kd = 0 ∨ kd = 1 ∨ kd = 2) with rfl | rfl | rfl
  · have hk : k < C 0 1 := hk
    simp [sl]; omega
  · have hk : k < C 0 2 := hk
    simp [sl]; omega
  · have hk : k < C 0 3 := hk
    simp [sl]; omega
/-- the static arrays -/
def Zs (e : xenv) (z : Nat → Nat) (F : Nat → Nat → Int32) : Prop := z 0 = ad e 81 ∧ z 1 = ad e 82 ∧ (F 81 0 = 0 ∧ F 81 1 = 5 ∧ F 81 2 = 11) ∧ ∀ k, k < 5 → ∀ i, i < 32 → bt (F 82 k) i = i.testBit k
theorem v_nameSlot {e : xenv} {w : Bool} {F : Nat → Nat → Int32} {L : Nat → Nat → Int64} {g : xh} {z : Nat → Nat} {Q : Int32 → xh → Prop} {b : Nat} {x y : Int32} {C : Nat → Nat → Nat} (hb : b = 0 ∨ b = 20 ∨ b = 40) (hz : z 0 = ad e 81) (h81 : F 81 0 = 0 ∧ F 81 1 = 5 ∧ F 81 2 = 11) (hC : ∀ j, j < 5 → F b (1 + j) = Int32.ofNat (C 0 j)) (hM : ∀ j, j < 5 → C 0 j ≤ 9999)
    (h0 : (∀ kd k, kd < 3 → x = Int32.ofNat kd → y = Int32.ofNat k → ¬ k < C 0 (kd + 1)) → Q (-1) (mem e w F L g))
    (h1 : ∀ kd k, kd < 3 → x = Int32.ofNat kd → y = Int32.ofNat k → k < C 0 (kd + 1) → Q (Int32.ofNat (sl kd k)) (mem e w F L g)) : wp_Circuit_nameSlot z Q (ad e b) x y (mem e w F L g) := by
  unfold wp_Circuit_nameSlot
  refine ⟨fun hc => h0 (fun kd k q1 q2 q3 q4 => ?_), fun hx => ?_⟩
  · rw [q2] at hc; exact absurd hc (n_pos kd (by omega))
  obtain ⟨kd, hkd, rfl⟩ := nat_of hx
  refine ⟨fun hc => ?_, fun hc => ?_⟩ <;> rw [n_lit, n_lt (by decide) hkd] at hc
  · refine h0 (fun kd' k q1 q2 q3 q4 => ?_)
    have := n_inj (by omega) (by omega) q2
    omega
  have hkd3 : kd < 3 := by omega
  have hsz := hM (kd + 1) (by omega)
  refine ⟨fun hc => h0 (fun kd' k q1 q2 q3 q4 => ?_), fun hy => ?_⟩
  · have hsz' := hM (kd' + 1) (by omega)
    rw [q3] at hc; exact absurd hc (n_pos k (by omega))
  obtain ⟨k, hk, rfl⟩ := nat_of hy
  refine c_cls hb ?_
  rw [n_lit, n_add]
  refine v_size hb (fun hn => absurd rfl (hn (kd + 1) (by omega))) (fun j hj hje => ?_)
  have := n_inj (by omega) (by omega) hje
  subst this
  rw [hC _ hj]
  refine ⟨fun hc => ?_, fun hc => ?_⟩ <;> rw [n_lt (by omega) (by omega)] at hc
  · rw [hz]
    refine s_aI (i := kd) (by rfl) (by rfl) (by rfl) (by rfl) (by omega) (by decide) ?_
    have e1 : F 81 kd + Int32.ofNat k = Int32.ofNat (sl kd k) := by
      rcases (by omega : kd = 0 ∨ kd = 1 ∨ kd = 2) with rfl | rfl | rfl
      · rw [h81.1, n_lit, n_add]; rfl
      · rw [h81.2.1, n_lit, n_add]; rfl
      · rw [h81.2.2, n_lit, n_add]; rfl
    rw [e1]
    exact h1 kd k hkd3 rfl rfl hc
  · refine h0 (fun kd' k' q1 q2 q3 q4 => ?_)
    have e1 := n_inj (by omega) (by omega) q2
    subst e1
    have e2 := n_inj (by omega) (by omega) q3
    subst e2
    exact absurd q4 hc
def isS (D : Nat → Option (Nat → Nat → Nat)) (x y u t : Int32) (c : Nat) (C : Nat → Nat → Nat) (kd k i : Nat) : Prop := c < 2 ∧ x = Int32.ofNat c ∧ D c = some C ∧ kd < 3 ∧ y = Int32.ofNat kd ∧ u = Int32.ofNat k ∧ k < C 0 (kd + 1) ∧ t = Int32.ofNat i ∧ i < C 9 (sl kd k)
theorem WF.sizes {C : Nat → Nat → Nat} (h : WF C) : ∀ j, j < 5 → C 0 j ≤ 9999 := by
  intro j hj
  have := h.1
  rcases (by omega : j = 0 ∨ j = 1 ∨ j = 2 ∨ j = 3 ∨ j = 4) with rfl | rfl | rfl | rfl | rfl <;> omega
theorem v_Judge_symbol {e : xenv} {w : Bool} {F : Nat → Nat → Int32} {L : Nat → Nat → Int64} {g : xh} {z : Nat → Nat} {Q : Int32 → xh → Prop} {x y u t : Int32} {D : Nat → Option (Nat → Nat → Nat)} (hR : RC F D) (hW : WD D) (hZ : Zs e z F)
    (h0 : (∀ c C kd k i, ¬ isS D x y u t c C kd k i) → Q (-1) (mem e w F L g))
    (h1 : ∀ c C kd k i, isS D x y u t c C kd k i → Q (Int32.ofNat (C 10 (40 * sl kd k + i))) (mem e w F L g)) : wp_Judge_symbol z Q (ad e 60) x y u t (mem e w F L g) := by
  unfold wp_Judge_symbol
  repeat (first | ((with_reducible show ∃ _, _ ∧ _); first | refine s_fI (by rfl) (by rfl) (by rfl) ?_ | refine s_fR (by rfl) (by rfl) (by rfl) ?_ | refine s_pV (by rfl) (by rfl) (Nat.le_of_ble_eq_true rfl) (by rfl) ?_) | ((with_reducible show xcls _ _ _ ∧ _); refine s_cls (by rfl) (by rfl) ?_))
  refine v_isThere hR (fun hn => ⟨fun _ => h0 (fun c C kd k i h => hn c C h.1 h.2.1 h.2.2.1), fun h => absurd rfl h⟩) (fun c C hc hx hD => ⟨fun h => absurd h (by decide), fun _ => ?_⟩)
  subst hx
  have hw := hW c C hD
  have hM := hw.1
  have hK := ((hR c hc).2 C hD).2
  have inj : ∀ c' C' kd k i, isS D (Int32.ofNat c) y u t c' C' kd k i → c' = c ∧ C' = C := fun c' C' kd k i h => by
    have hcc := n_inj (by omega) (by have := h.1; omega) h.2.1
    subst hcc
    have := h.2.2.1; rw [hD] at this; cases this; exact ⟨rfl, rfl⟩
  repeat (first | ((with_reducible show ∃ _, _ ∧ _); first | refine s_fI (by rfl) (by rfl) (by rfl) ?_ | refine s_fR (by rfl) (by rfl) (by rfl) ?_ | refine s_pV (by rfl) (by rfl) (Nat.le_of_ble_eq_true rfl) (by rfl) ?_) | ((with_reducible show xcls _ _ _ ∧ _); refine s_cls (by rfl) (by rfl) ?_))
  refine cs_aR hc ?_
  refine c_cls (b_of hc) ?_
  unfold wp_Circuit_nameByte
  refine c_cls (b_of hc) ?_
  refine v_nameSlot (C := C) (b_of hc) hZ.1 hZ.2.2.1 hK.1 hw.sizes (fun hn => ⟨fun _ => h0 (fun c' C' kd k i h => ?_), fun h => absurd rfl h⟩) (fun kd k hd q1 q2 q3 => ⟨fun h => ?_, fun _ => ?_⟩)
  · obtain ⟨rfl, rfl⟩ := inj _ _ _ _ _ h
    exact hn kd k h.2.2.2.1 h.2.2.2.2.1 h.2.2.2.2.2.1 h.2.2.2.2.2.2.1
  · have hs := sl_lt ⟨hM.2.1, hM.2.2.1, hM.2.2.2.1⟩ hd q3
    exact absurd (n_inj (b := 4294967295) (by omega) (by omega) h) (by omega)
  subst q1 q2
  have hs := sl_lt ⟨hM.2.1, hM.2.2.1, hM.2.2.2.1⟩ hd q3
  have h40 := hw.2.2.2.2.2.2 _ hs
  have kk : k < 9 := by
    rcases (by omega : kd = 0 ∨ kd = 1 ∨ kd = 2) with rfl | rfl | rfl
    · have q3 : k < C 0 1 := q3
      omega
    · have q3 : k < C 0 2 := q3
      omega
    · have q3 : k < C 0 3 := q3
      omega
  have inj2 : ∀ c' C' kd' k' i, isS D (Int32.ofNat c) (Int32.ofNat kd) (Int32.ofNat k) t c' C' kd' k' i → kd' = kd ∧ k' = k := fun c' C' kd' k' i h => by
    obtain ⟨rfl, rfl⟩ := inj _ _ _ _ _ h
    obtain ⟨_, _, _, r1, r2, r3, r4, _⟩ := h
    have e1 := n_inj (by omega) (by omega) r2
    subst e1
    have hsz := hw.sizes (kd + 1) (by omega)
    exact ⟨rfl, (n_inj (by omega) (by omega) r3).symm⟩
  refine ⟨fun h => h0 (fun c' C' kd' k' i hS => ?_), fun ht => ?_⟩
  · have hi := hS.2.2.2.2.2.2.2.2
    obtain ⟨rfl, rfl⟩ := inj2 _ _ _ _ _ hS
    obtain ⟨rfl, rfl⟩ := inj _ _ _ _ _ hS
    rw [hS.2.2.2.2.2.2.2.1] at h; exact absurd h (n_pos i (by omega))
  obtain ⟨i, hi, rfl⟩ := nat_of ht
  refine c_fR (j := 10) (b_of hc) (by decide) ?_
  refine c_aI (j := 10) (b_of hc) (by decide) hs ?_
  rw [(hK.2.2.2.2.2.2 _ hs).1]
  refine ⟨fun hc => ?_, fun hc => ?_⟩ <;> rw [n_lt (by omega) (by omega)] at hc
  · refine c_fR (j := 9) (b_of (by assumption)) (by decide) ?_
    rw [show Int32.ofNat (sl kd k) * 40 + Int32.ofNat i = Int32.ofNat (40 * sl kd k + i) by rw [n_lit, n_mul, n_add, Nat.mul_comm]]
    refine c_aI (j := 9) (b_of (by assumption)) (by decide) (show 40 * sl kd k + i < 760 by omega) ?_
    rw [and255, (hK.2.2.2.2.2.2 _ hs).2 i hc]
    exact h1 c C kd k i ⟨by assumption, rfl, hD, hd, rfl, rfl, q3, rfl, hc⟩
  · refine h0 (fun c' C' kd' k' i' hS => ?_)
    have hi' := hS.2.2.2.2.2.2.2.2
    obtain ⟨rfl, rfl⟩ := inj2 _ _ _ _ _ hS
    obtain ⟨rfl, rfl⟩ := inj _ _ _ _ _ hS
    have := n_inj (by omega) (by omega) hS.2.2.2.2.2.2.2.1
    omega
theorem v_Model_symbol {e : xenv} {w : Bool} {F : Nat → Nat → Int32} {L : Nat → Nat → Int64} {g : xh} {z : Nat → Nat} {Q : Int32 → xh → Prop} {x y u t : Int32} {D : Nat → Option (Nat → Nat → Nat)} (hR : RM F D) (hW : WD D)
    (h0 : (∀ c C kd k i, ¬ isS D x y u t c C kd k i) → Q (-1) (mem e w (up F 100 0 0) L g))
    (h1 : ∀ c C kd k i, isS D x y u t c C kd k i → Q (Int32.ofNat (C 10 (40 * sl kd k + i))) (mem e w (up F 100 0 0) L g)) : wp_Model_symbol z Q (ad e 100) x y u t (mem e w F L g) := by
  unfold wp_Model_symbol
  repeat (first | ((with_reducible show ∃ _, _ ∧ _); first | refine s_fI (by rfl) (by rfl) (by rfl) ?_ | refine s_fR (by rfl) (by rfl) (by rfl) ?_ | refine s_pV (by rfl) (by rfl) (Nat.le_of_ble_eq_true rfl) (by rfl) ?_) | ((with_reducible show xcls _ _ _ ∧ _); refine s_cls (by rfl) (by rfl) ?_))
  have hR' : RM (up F 100 0 0) D := RM.kept (fun k q1 q2 => up_k (by omega)) hR
  refine v_mIsThere hR' (fun hn => ⟨fun _ => h0 (fun c C kd k i h => hn c C h.1 h.2.1 h.2.2.1), fun h => absurd rfl h⟩) (fun c C hc hx hD => ⟨fun h => absurd h (by decide), fun _ => ?_⟩)
  subst hx
  have hw := hW c C hD
  have hM := hw.1
  have hK := ((hR' c hc).2 C hD).2
  have inj : ∀ c' C' kd k i, isS D (Int32.ofNat c) y u t c' C' kd k i → c' = c ∧ C' = C := fun c' C' kd k i h => by
    have hcc := n_inj (by omega) (by have := h.1; omega) h.2.1
    subst hcc
    have := h.2.2.1; rw [hD] at this; cases this; exact ⟨rfl, rfl⟩
  refine ⟨fun h => h0 (fun c' C' kd k i hS => ?_), fun hy => ?_⟩
  · rw [hS.2.2.2.2.1] at h; exact absurd h (n_pos kd (by have := hS.2.2.2.1; omega))
  obtain ⟨kd, hkd, rfl⟩ := nat_of hy
  refine ⟨fun h => h0 (fun c' C' kd' k i hS => ?_), fun h => ?_⟩
  · rw [n_lit, n_lt (by decide) hkd] at h
    have := n_inj (by omega) (by have := hS.2.2.2.1; omega) hS.2.2.2.2.1
    have := hS.2.2.2.1
    omega
  rw [n_lit, n_lt (by decide) hkd] at h
  have hd : kd < 3 := by omega
  have hsz := hw.sizes (kd + 1) (by omega)
  refine ⟨fun h => h0 (fun c' C' kd' k i hS => ?_), fun hu => ?_⟩
  · obtain ⟨rfl, rfl⟩ := inj _ _ _ _ _ hS
    have e1 := n_inj (by omega) (by have := hS.2.2.2.1; omega) hS.2.2.2.2.1
    subst e1
    have := hS.2.2.2.2.2.2.1
    rw [hS.2.2.2.2.2.1] at h; exact absurd h (n_pos k (by omega))
  obtain ⟨k, hk, rfl⟩ := nat_of hu
  repeat (first | ((with_reducible show ∃ _, _ ∧ _); first | refine s_fI (by rfl) (by rfl) (by rfl) ?_ | refine s_fR (by rfl) (by rfl) (by rfl) ?_ | refine s_pV (by rfl) (by rfl) (Nat.le_of_ble_eq_true rfl) (by rfl) ?_) | ((with_reducible show xcls _ _ _ ∧ _); refine s_cls (by rfl) (by rfl) ?_))
  refine s_aI (i := 5 * c + (kd + 1)) (by rfl) (by rfl) (by rfl) (by rw [n_lit, n_mul, n_lit, n_add, n_add]; congr 1; omega) (by omega) (by decide) ?_
  rw [hK.1 (kd + 1) (by omega)]
  refine ⟨fun hlt => ?_, fun hlt => h0 (fun c' C' kd' k' i hS => ?_)⟩
  rotate_left
  · rw [n_lt hk (by omega)] at hlt
    obtain ⟨rfl, rfl⟩ := inj _ _ _ _ _ hS
    have e1 := n_inj (by omega) (by have := hS.2.2.2.1; omega) hS.2.2.2.2.1
    subst e1
    have := hS.2.2.2.2.2.2.1
    have e2 := n_inj (by omega) (by omega) hS.2.2.2.2.2.1
    omega
  rw [n_lt hk (by omega)] at hlt
  have hs := sl_lt ⟨hM.2.1, hM.2.2.1, hM.2.2.2.1⟩ hd hlt
  have h40 := hw.2.2.2.2.2.2 _ hs
  have inj2 : ∀ c' C' kd' k' i, isS D (Int32.ofNat c) (Int32.ofNat kd) (Int32.ofNat k) t c' C' kd' k' i → kd' = kd ∧ k' = k := fun c' C' kd' k' i h => by
    obtain ⟨rfl, rfl⟩ := inj _ _ _ _ _ h
    obtain ⟨_, _, _, r1, r2, r3, r4, _⟩ := h
    have e1 := n_inj (by omega) (by omega) r2
    subst e1
    exact ⟨rfl, (n_inj (by omega) (by omega) r3).symm⟩
  have key : ∀ d, d + k = ms (sl kd k) → wp_Model_symbol_68 z Q (ad e 100) (Int32.ofNat k) t (Int32.ofNat d) (22 * Int32.ofNat c) (mem e w (up F 100 0 0) L g) := by
    intro d hd2
    have hms : ms (sl kd k) < 22 := by unfold ms; split; omega; split <;> omega
    unfold wp_Model_symbol_68 wp_Model_symbol_90
    rintro v1 rfl
    rw [show (22 : Int32) * Int32.ofNat c + Int32.ofNat d + Int32.ofNat k = Int32.ofNat (22 * c + ms (sl kd k)) by rw [n_lit, n_mul, n_add, n_add, Nat.add_assoc, hd2]]
    refine ⟨fun hneg => h0 (fun c' C' kd' k' i hS => ?_), fun ht => ?_⟩
    · have hi := hS.2.2.2.2.2.2.2.2
      obtain ⟨rfl, rfl⟩ := inj2 _ _ _ _ _ hS
      obtain ⟨rfl, rfl⟩ := inj _ _ _ _ _ hS
      rw [hS.2.2.2.2.2.2.2.1] at hneg; exact absurd hneg (n_pos i (by omega))
    obtain ⟨i, hi, rfl⟩ := nat_of ht
    repeat (first | ((with_reducible show ∃ _, _ ∧ _); first | refine s_fI (by rfl) (by rfl) (by rfl) ?_ | refine s_fR (by rfl) (by rfl) (by rfl) ?_ | refine s_pV (by rfl) (by rfl) (Nat.le_of_ble_eq_true rfl) (by rfl) ?_) | ((with_reducible show xcls _ _ _ ∧ _); refine s_cls (by rfl) (by rfl) ?_))
    refine s_aI (i := 22 * c + ms (sl kd k)) (by rfl) (by rfl) (by rfl) (by rfl) (by omega) (by decide) ?_
    rw [(hK.2.2.2.2.2.2 _ hs).1]
    refine ⟨fun hc => ?_, fun hc => ?_⟩ <;> rw [n_lt (by omega) (by omega)] at hc
    · repeat (first | ((with_reducible show ∃ _, _ ∧ _); first | refine s_fI (by rfl) (by rfl) (by rfl) ?_ | refine s_fR (by rfl) (by rfl) (by rfl) ?_ | refine s_pV (by rfl) (by rfl) (Nat.le_of_ble_eq_true rfl) (by rfl) ?_) | ((with_reducible show xcls _ _ _ ∧ _); refine s_cls (by rfl) (by rfl) ?_))
      refine s_aI (i := 40 * (22 * c + ms (sl kd k)) + i) (by rfl) (by rfl) (by rfl) (by rw [n_lit, n_mul, n_add]) (by omega) (by decide) ?_
      rw [and255, (hK.2.2.2.2.2.2 _ hs).2 i hc]
      exact h1 c C kd k i ⟨by assumption, rfl, hD, hd, rfl, rfl, hlt, rfl, hc⟩
    · refine h0 (fun c' C' kd' k' i' hS => ?_)
      have hi' := hS.2.2.2.2.2.2.2.2
      obtain ⟨rfl, rfl⟩ := inj2 _ _ _ _ _ hS
      obtain ⟨rfl, rfl⟩ := inj _ _ _ _ _ hS
      have := n_inj (by omega) (by omega) hS.2.2.2.2.2.2.2.1
      omega
  rcases (by omega : kd = 0 ∨ kd = 1 ∨ kd = 2) with rfl | rfl | rfl
  · have hlt' : k < C 0 1 := hlt
    refine ⟨fun h => absurd rfl h, fun _ => key 0 ?_⟩
    simp [ms, sl]; omega
  · have hlt' : k < C 0 2 := hlt
    refine ⟨fun _ => ⟨fun h => absurd rfl h, fun _ => key 6 ?_⟩, fun h => absurd h (by decide)⟩
    show 6 + k = ms (5 + k)
    unfold ms
    rw [if_neg (by omega), if_pos (by omega)]; omega
  · have hlt' : k < C 0 3 := hlt
    refine ⟨fun _ => ⟨fun _ => key 14 ?_, fun h => absurd h (by decide)⟩, fun h => absurd h (by decide)⟩
    show 14 + k = ms (11 + k)
    unfold ms
    rw [if_neg (by omega), if_neg (by omega)]; omega
