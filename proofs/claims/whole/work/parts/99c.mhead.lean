/-! The reference reads the header. -/
section
variable {e : xenv} {w : Bool} {L : Nat → Nat → Int64} {g : xh} {z : Nat → Nat} {b : Nat → Nat} {n : Nat} {F0 F F' : Nat → Nat → Int32} {S S' : RW} {p q s nu : Nat} {Q : xh → Prop} {Qi : Int32 → xh → Prop} {r : RS}
theorem m_fits {x : Int32} (hx : xbl x) (h : MX n F0 F r) (hg : ∀ S p v, r = .ok (S, p, v) → H1 S 5 ∧ x = Int32.ofNat (S 30 0)) (hQ : ∀ F', MX n F0 F' (bi r (fun S p _ => szA S p)) → Qi x (mem e w F' L g)) :
    ∃ o2, fR (mem e w F L g) (ad e 100) 12 10 = some o2 ∧ (∃ v3, aI (mem e w F L g) o2 0 11 = some v3 ∧ (∃ o4, fR (mem e w F L g) (ad e 100) 12 10 = some o4 ∧ (∃ v5, aI (mem e w F L g) o4 0 12 = some v5 ∧ (∃ o6, fR (mem e w F L g) (ad e 100) 12 10 = some o6 ∧ (∃ v7, aI (mem e w F L g) o6 0 14 = some v7 ∧ (∀ v8, v8 = ((v3 + v5) + v7) → ∃ o9, fR (mem e w F L g) (ad e 100) 12 10 = some o9 ∧ (∃ v10, aI (mem e w F L g) o9 0 10 = some v10 ∧ ((200 < v10 → wp_Model_takeHead_202 z Qi (ad e 100) x (mem e w F L g)) ∧ (¬ 200 < v10 → (∃ o11, fR (mem e w F L g) (ad e 100) 12 10 = some o11 ∧ (∃ v12, aI (mem e w F L g) o11 0 11 = some v12 ∧ ((5 < v12 → wp_Model_takeHead_202 z Qi (ad e 100) x (mem e w F L g)) ∧ (¬ 5 < v12 → (∃ o13, fR (mem e w F L g) (ad e 100) 12 10 = some o13 ∧ (∃ v14, aI (mem e w F L g) o13 0 12 = some v14 ∧ ((6 < v14 → wp_Model_takeHead_202 z Qi (ad e 100) x (mem e w F L g)) ∧ (¬ 6 < v14 → (∃ o15, fR (mem e w F L g) (ad e 100) 12 10 = some o15 ∧ (∃ v16, aI (mem e w F L g) o15 0 13 = some v16 ∧ ((8 < v16 → wp_Model_takeHead_202 z Qi (ad e 100) x (mem e w F L g)) ∧ (¬ 8 < v16 → (∃ o17, fR (mem e w F L g) (ad e 100) 12 10 = some o17 ∧ (∃ v18, aI (mem e w F L g) o17 0 14 = some v18 ∧ ((150 < v18 → wp_Model_takeHead_202 z Qi (ad e 100) x (mem e w F L g)) ∧ (¬ 150 < v18 → ((x = 0 → (∃ o19, fR (mem e w F L g) (ad e 100) 12 10 = some o19 ∧ (∃ v20, aI (mem e w F L g) o19 0 10 = some v20 ∧ ((v20 < v8 → wp_Model_takeHead_202 z Qi (ad e 100) x (mem e w F L g)) ∧ (¬ v20 < v8 → wp_Model_takeHead_198 z Qi (ad e 100) x (mem e w F L g)))))) ∧ (¬ x = 0 → (∃ o21, fR (mem e w F L g) (ad e 100) 12 10 = some o21 ∧ (∃ v22, aI (mem e w F L g) o21 0 10 = some v22 ∧ ((¬ v22 = v8 → wp_Model_takeHead_202 z Qi (ad e 100) x (mem e w F L g)) ∧ (v22 = v8 → wp_Model_takeHead_198 z Qi (ad e 100) x (mem e w F L g)))))))))))))))))))))))))))))))) := by
  have main : ∀ fits : Prop, (fits → wp_Model_takeHead_198 z Qi (ad e 100) x (mem e w F L g)) → (¬ fits → wp_Model_takeHead_202 z Qi (ad e 100) x (mem e w F L g)) → ((∃ c q, r = .error (c, q)) → (wp_Model_takeHead_198 z Qi (ad e 100) x (mem e w F L g) ∧ wp_Model_takeHead_202 z Qi (ad e 100) x (mem e w F L g))) → True := fun _ _ _ _ => trivial
  rcases EM_or h with ⟨c, q, rfl, hE⟩ | ⟨S9, p9, v9, rfl, h9⟩
  · have a203 : ∀ s0 : Int32, wp_Model_takeHead_203 z Qi (ad e 100) x s0 (mem e w F L g) := by
      intro s0
      unfold wp_Model_takeHead_203 wp_Model_takeHead_224
      repeat (first | ((with_reducible show ∃ _, _ ∧ _); first | refine s_fI (by rfl) (by rfl) (by rfl) ?_ | refine s_fR (by rfl) (by rfl) (by rfl) ?_ | refine s_pV (by rfl) (by rfl) (Nat.le_of_ble_eq_true rfl) (by rfl) ?_) | ((with_reducible show xcls _ _ _ ∧ _); refine s_cls (by rfl) (by rfl) ?_))
      exact ⟨fun _ => ⟨hx, hQ F hE⟩, fun hh => absurd hh hE.ne.2⟩
    have a202 : wp_Model_takeHead_202 z Qi (ad e 100) x (mem e w F L g) := by unfold wp_Model_takeHead_202; exact a203 0
    have a198 : wp_Model_takeHead_198 z Qi (ad e 100) x (mem e w F L g) := by unfold wp_Model_takeHead_198; exact a203 1
    repeat (first | ((with_reducible show ∃ _, _ ∧ _); first | refine s_fI (by rfl) (by rfl) (by rfl) ?_ | refine s_fR (by rfl) (by rfl) (by rfl) ?_ | refine s_pV (by rfl) (by rfl) (Nat.le_of_ble_eq_true rfl) (by rfl) ?_) | ((with_reducible show xcls _ _ _ ∧ _); refine s_cls (by rfl) (by rfl) ?_))
    refine s_aI (i := 11) (by rfl) (by rfl) (by rfl) (by rfl) (by decide) (by decide) ?_
    repeat (first | ((with_reducible show ∃ _, _ ∧ _); first | refine s_fI (by rfl) (by rfl) (by rfl) ?_ | refine s_fR (by rfl) (by rfl) (by rfl) ?_ | refine s_pV (by rfl) (by rfl) (Nat.le_of_ble_eq_true rfl) (by rfl) ?_) | ((with_reducible show xcls _ _ _ ∧ _); refine s_cls (by rfl) (by rfl) ?_))
    refine s_aI (i := 12) (by rfl) (by rfl) (by rfl) (by rfl) (by decide) (by decide) ?_
    repeat (first | ((with_reducible show ∃ _, _ ∧ _); first | refine s_fI (by rfl) (by rfl) (by rfl) ?_ | refine s_fR (by rfl) (by rfl) (by rfl) ?_ | refine s_pV (by rfl) (by rfl) (Nat.le_of_ble_eq_true rfl) (by rfl) ?_) | ((with_reducible show xcls _ _ _ ∧ _); refine s_cls (by rfl) (by rfl) ?_))
    refine s_aI (i := 14) (by rfl) (by rfl) (by rfl) (by rfl) (by decide) (by decide) ?_
    rintro v8 rfl
    repeat (first | ((with_reducible show ∃ _, _ ∧ _); first | refine s_fI (by rfl) (by rfl) (by rfl) ?_ | refine s_fR (by rfl) (by rfl) (by rfl) ?_ | refine s_pV (by rfl) (by rfl) (Nat.le_of_ble_eq_true rfl) (by rfl) ?_) | ((with_reducible show xcls _ _ _ ∧ _); refine s_cls (by rfl) (by rfl) ?_))
    refine s_aI (i := 10) (by rfl) (by rfl) (by rfl) (by rfl) (by decide) (by decide) ?_
    refine ⟨fun _ => a202, fun _ => ?_⟩
    repeat (first | ((with_reducible show ∃ _, _ ∧ _); first | refine s_fI (by rfl) (by rfl) (by rfl) ?_ | refine s_fR (by rfl) (by rfl) (by rfl) ?_ | refine s_pV (by rfl) (by rfl) (Nat.le_of_ble_eq_true rfl) (by rfl) ?_) | ((with_reducible show xcls _ _ _ ∧ _); refine s_cls (by rfl) (by rfl) ?_))
    refine s_aI (i := 11) (by rfl) (by rfl) (by rfl) (by rfl) (by decide) (by decide) ?_
    refine ⟨fun _ => a202, fun _ => ?_⟩
    repeat (first | ((with_reducible show ∃ _, _ ∧ _); first | refine s_fI (by rfl) (by rfl) (by rfl) ?_ | refine s_fR (by rfl) (by rfl) (by rfl) ?_ | refine s_pV (by rfl) (by rfl) (Nat.le_of_ble_eq_true rfl) (by rfl) ?_) | ((with_reducible show xcls _ _ _ ∧ _); refine s_cls (by rfl) (by rfl) ?_))
    refine s_aI (i := 12) (by rfl) (by rfl) (by rfl) (by rfl) (by decide) (by decide) ?_
    refine ⟨fun _ => a202, fun _ => ?_⟩
    repeat (first | ((with_reducible show ∃ _, _ ∧ _); first | refine s_fI (by rfl) (by rfl) (by rfl) ?_ | refine s_fR (by rfl) (by rfl) (by rfl) ?_ | refine s_pV (by rfl) (by rfl) (Nat.le_of_ble_eq_true rfl) (by rfl) ?_) | ((with_reducible show xcls _ _ _ ∧ _); refine s_cls (by rfl) (by rfl) ?_))
    refine s_aI (i := 13) (by rfl) (by rfl) (by rfl) (by rfl) (by decide) (by decide) ?_
    refine ⟨fun _ => a202, fun _ => ?_⟩
    repeat (first | ((with_reducible show ∃ _, _ ∧ _); first | refine s_fI (by rfl) (by rfl) (by rfl) ?_ | refine s_fR (by rfl) (by rfl) (by rfl) ?_ | refine s_pV (by rfl) (by rfl) (Nat.le_of_ble_eq_true rfl) (by rfl) ?_) | ((with_reducible show xcls _ _ _ ∧ _); refine s_cls (by rfl) (by rfl) ?_))
    refine s_aI (i := 14) (by rfl) (by rfl) (by rfl) (by rfl) (by decide) (by decide) ?_
    refine ⟨fun _ => a202, fun _ => ⟨fun _ => ?_, fun _ => ?_⟩⟩
    · repeat (first | ((with_reducible show ∃ _, _ ∧ _); first | refine s_fI (by rfl) (by rfl) (by rfl) ?_ | refine s_fR (by rfl) (by rfl) (by rfl) ?_ | refine s_pV (by rfl) (by rfl) (Nat.le_of_ble_eq_true rfl) (by rfl) ?_) | ((with_reducible show xcls _ _ _ ∧ _); refine s_cls (by rfl) (by rfl) ?_))
      refine s_aI (i := 10) (by rfl) (by rfl) (by rfl) (by rfl) (by decide) (by decide) ?_
      exact ⟨fun _ => a202, fun _ => a198⟩
    · repeat (first | ((with_reducible show ∃ _, _ ∧ _); first | refine s_fI (by rfl) (by rfl) (by rfl) ?_ | refine s_fR (by rfl) (by rfl) (by rfl) ?_ | refine s_pV (by rfl) (by rfl) (Nat.le_of_ble_eq_true rfl) (by rfl) ?_) | ((with_reducible show xcls _ _ _ ∧ _); refine s_cls (by rfl) (by rfl) ?_))
      refine s_aI (i := 10) (by rfl) (by rfl) (by rfl) (by rfl) (by decide) (by decide) ?_
      exact ⟨fun _ => a202, fun _ => a198⟩
  · obtain ⟨hH, hxf⟩ := hg _ _ _ rfl
    have hv : ∀ j, j < 5 → F 110 (10 + j) = Int32.ofNat (S9 0 j) ∧ S9 0 j < 10000 := fun j hj => ⟨h9.at (r := 0) (j := j) (by decide) rfl hj (hH.2.2 j hj).1 rfl, (hH.2.2 j hj).2⟩
    have h30 := hH.2.1.2
    rw [bi_ok] at hQ
    unfold szA at hQ
    have no : ¬ fit S9 → wp_Model_takeHead_202 z Qi (ad e 100) x (mem e w F L g) := by
      intro hf
      rw [if_neg hf] at hQ
      unfold wp_Model_takeHead_202 wp_Model_takeHead_203 wp_Model_takeHead_224
      repeat (first | ((with_reducible show ∃ _, _ ∧ _); first | refine s_fI (by rfl) (by rfl) (by rfl) ?_ | refine s_fR (by rfl) (by rfl) (by rfl) ?_ | refine s_pV (by rfl) (by rfl) (Nat.le_of_ble_eq_true rfl) (by rfl) ?_) | ((with_reducible show xcls _ _ _ ∧ _); refine s_cls (by rfl) (by rfl) ?_))
      rw [h9.2.2.2.1.1]
      refine ⟨fun hh => absurd rfl hh, fun _ => ⟨fun hh => absurd rfl hh, fun _ => ?_⟩⟩
      repeat (first | ((with_reducible show ∃ _, _ ∧ _); first | refine s_fI (by rfl) (by rfl) (by rfl) ?_ | refine s_fR (by rfl) (by rfl) (by rfl) ?_ | refine s_pV (by rfl) (by rfl) (Nat.le_of_ble_eq_true rfl) (by rfl) ?_) | ((with_reducible show xcls _ _ _ ∧ _); refine s_cls (by rfl) (by rfl) ?_))
      rw [h9.2.1]
      repeat (first | ((with_reducible show ∃ _, _ ∧ _); first | refine s_fI (by rfl) (by rfl) (by rfl) ?_ | refine s_fR (by rfl) (by rfl) (by rfl) ?_ | refine s_pV (by rfl) (by rfl) (Nat.le_of_ble_eq_true rfl) (by rfl) ?_) | ((with_reducible show xcls _ _ _ ∧ _); refine s_cls (by rfl) (by rfl) ?_))
      exact m_wrong h9.1 ⟨p9, h9.2.2.1, h9.2.1⟩ h9.2.2.2.1.1 (by decide) (fun F2 hE => ⟨hx, hQ F2 hE⟩)
    have yes : fit S9 → wp_Model_takeHead_198 z Qi (ad e 100) x (mem e w F L g) := by
      intro hf
      rw [if_pos hf] at hQ
      unfold wp_Model_takeHead_198 wp_Model_takeHead_203 wp_Model_takeHead_224
      repeat (first | ((with_reducible show ∃ _, _ ∧ _); first | refine s_fI (by rfl) (by rfl) (by rfl) ?_ | refine s_fR (by rfl) (by rfl) (by rfl) ?_ | refine s_pV (by rfl) (by rfl) (Nat.le_of_ble_eq_true rfl) (by rfl) ?_) | ((with_reducible show xcls _ _ _ ∧ _); refine s_cls (by rfl) (by rfl) ?_))
      rw [h9.2.2.2.1.1]
      refine ⟨fun hh => absurd rfl hh, fun _ => ⟨fun _ => ⟨hx, hQ F ?_⟩, fun hh => absurd hh (by decide)⟩⟩
      exact ((((h9.skip (by decide) rfl).skip (by decide) rfl).skip (by decide) rfl).skip (by decide) rfl).skip (by decide) rfl
    have b0 := hv 0 (by decide)
    have b1 := hv 1 (by decide)
    have b2 := hv 2 (by decide)
    have b3 := hv 3 (by decide)
    have b4 := hv 4 (by decide)
    repeat (first | ((with_reducible show ∃ _, _ ∧ _); first | refine s_fI (by rfl) (by rfl) (by rfl) ?_ | refine s_fR (by rfl) (by rfl) (by rfl) ?_ | refine s_pV (by rfl) (by rfl) (Nat.le_of_ble_eq_true rfl) (by rfl) ?_) | ((with_reducible show xcls _ _ _ ∧ _); refine s_cls (by rfl) (by rfl) ?_))
    refine s_aI (i := 11) (by rfl) (by rfl) (by rfl) (by rfl) (by decide) (by decide) ?_
    rw [b1.1]
    repeat (first | ((with_reducible show ∃ _, _ ∧ _); first | refine s_fI (by rfl) (by rfl) (by rfl) ?_ | refine s_fR (by rfl) (by rfl) (by rfl) ?_ | refine s_pV (by rfl) (by rfl) (Nat.le_of_ble_eq_true rfl) (by rfl) ?_) | ((with_reducible show xcls _ _ _ ∧ _); refine s_cls (by rfl) (by rfl) ?_))
    refine s_aI (i := 12) (by rfl) (by rfl) (by rfl) (by rfl) (by decide) (by decide) ?_
    rw [b2.1]
    repeat (first | ((with_reducible show ∃ _, _ ∧ _); first | refine s_fI (by rfl) (by rfl) (by rfl) ?_ | refine s_fR (by rfl) (by rfl) (by rfl) ?_ | refine s_pV (by rfl) (by rfl) (Nat.le_of_ble_eq_true rfl) (by rfl) ?_) | ((with_reducible show xcls _ _ _ ∧ _); refine s_cls (by rfl) (by rfl) ?_))
    refine s_aI (i := 14) (by rfl) (by rfl) (by rfl) (by rfl) (by decide) (by decide) ?_
    rw [b4.1, n_add, n_add]
    rintro v8 rfl
    repeat (first | ((with_reducible show ∃ _, _ ∧ _); first | refine s_fI (by rfl) (by rfl) (by rfl) ?_ | refine s_fR (by rfl) (by rfl) (by rfl) ?_ | refine s_pV (by rfl) (by rfl) (Nat.le_of_ble_eq_true rfl) (by rfl) ?_) | ((with_reducible show xcls _ _ _ ∧ _); refine s_cls (by rfl) (by rfl) ?_))
    refine s_aI (i := 10) (by rfl) (by rfl) (by rfl) (by rfl) (by decide) (by decide) ?_
    rw [b0.1, show (200 : Int32) = Int32.ofNat 200 from rfl]
    refine ⟨fun hc => ?_, fun hc => ?_⟩ <;> rw [n_lt (by decide) (by omega)] at hc
    · exact no (fun hf => by have := hf.1; omega)
    have c0 := hc
    repeat (first | ((with_reducible show ∃ _, _ ∧ _); first | refine s_fI (by rfl) (by rfl) (by rfl) ?_ | refine s_fR (by rfl) (by rfl) (by rfl) ?_ | refine s_pV (by rfl) (by rfl) (Nat.le_of_ble_eq_true rfl) (by rfl) ?_) | ((with_reducible show xcls _ _ _ ∧ _); refine s_cls (by rfl) (by rfl) ?_))
    refine s_aI (i := 11) (by rfl) (by rfl) (by rfl) (by rfl) (by decide) (by decide) ?_
    rw [b1.1, show (5 : Int32) = Int32.ofNat 5 from rfl]
    refine ⟨fun hc => ?_, fun hc => ?_⟩ <;> rw [n_lt (by decide) (by omega)] at hc
    · exact no (fun hf => by have := hf.2.1; omega)
    have c1 := hc
    repeat (first | ((with_reducible show ∃ _, _ ∧ _); first | refine s_fI (by rfl) (by rfl) (by rfl) ?_ | refine s_fR (by rfl) (by rfl) (by rfl) ?_ | refine s_pV (by rfl) (by rfl) (Nat.le_of_ble_eq_true rfl) (by rfl) ?_) | ((with_reducible show xcls _ _ _ ∧ _); refine s_cls (by rfl) (by rfl) ?_))
    refine s_aI (i := 12) (by rfl) (by rfl) (by rfl) (by rfl) (by decide) (by decide) ?_
    rw [b2.1, show (6 : Int32) = Int32.ofNat 6 from rfl]
    refine ⟨fun hc => ?_, fun hc => ?_⟩ <;> rw [n_lt (by decide) (by omega)] at hc
    · exact no (fun hf => by have := hf.2.2.1; omega)
    have c2 := hc
    repeat (first | ((with_reducible show ∃ _, _ ∧ _); first | refine s_fI (by rfl) (by rfl) (by rfl) ?_ | refine s_fR (by rfl) (by rfl) (by rfl) ?_ | refine s_pV (by rfl) (by rfl) (Nat.le_of_ble_eq_true rfl) (by rfl) ?_) | ((with_reducible show xcls _ _ _ ∧ _); refine s_cls (by rfl) (by rfl) ?_))
    refine s_aI (i := 13) (by rfl) (by rfl) (by rfl) (by rfl) (by decide) (by decide) ?_
    rw [b3.1, show (8 : Int32) = Int32.ofNat 8 from rfl]
    refine ⟨fun hc => ?_, fun hc => ?_⟩ <;> rw [n_lt (by decide) (by omega)] at hc
    · exact no (fun hf => by have := hf.2.2.2.1; omega)
    have c3 := hc
    repeat (first | ((with_reducible show ∃ _, _ ∧ _); first | refine s_fI (by rfl) (by rfl) (by rfl) ?_ | refine s_fR (by rfl) (by rfl) (by rfl) ?_ | refine s_pV (by rfl) (by rfl) (Nat.le_of_ble_eq_true rfl) (by rfl) ?_) | ((with_reducible show xcls _ _ _ ∧ _); refine s_cls (by rfl) (by rfl) ?_))
    refine s_aI (i := 14) (by rfl) (by rfl) (by rfl) (by rfl) (by decide) (by decide) ?_
    rw [b4.1, show (150 : Int32) = Int32.ofNat 150 from rfl]
    refine ⟨fun hc => ?_, fun hc => ?_⟩ <;> rw [n_lt (by decide) (by omega)] at hc
    · exact no (fun hf => by have := hf.2.2.2.2.1; omega)
    have c4 := hc
    refine ⟨fun hb => ?_, fun hb => ?_⟩
    · have hb : S9 30 0 = 0 := n_inj (b := 0) (by omega) (by decide) (by rw [← hxf]; exact hb)
      repeat (first | ((with_reducible show ∃ _, _ ∧ _); first | refine s_fI (by rfl) (by rfl) (by rfl) ?_ | refine s_fR (by rfl) (by rfl) (by rfl) ?_ | refine s_pV (by rfl) (by rfl) (Nat.le_of_ble_eq_true rfl) (by rfl) ?_) | ((with_reducible show xcls _ _ _ ∧ _); refine s_cls (by rfl) (by rfl) ?_))
      refine s_aI (i := 10) (by rfl) (by rfl) (by rfl) (by rfl) (by decide) (by decide) ?_
      rw [b0.1]
      refine ⟨fun hc => ?_, fun hc => ?_⟩ <;> rw [n_lt (by omega) (by omega)] at hc
      · exact no (fun hf => by have := hf.2.2.2.2.2; omega)
      · exact yes ⟨by omega, by omega, by omega, by omega, by omega, Or.inl ⟨hb, by omega⟩⟩
    · have hb : S9 30 0 ≠ 0 := fun hh => hb (by rw [hxf, hh]; rfl)
      repeat (first | ((with_reducible show ∃ _, _ ∧ _); first | refine s_fI (by rfl) (by rfl) (by rfl) ?_ | refine s_fR (by rfl) (by rfl) (by rfl) ?_ | refine s_pV (by rfl) (by rfl) (Nat.le_of_ble_eq_true rfl) (by rfl) ?_) | ((with_reducible show xcls _ _ _ ∧ _); refine s_cls (by rfl) (by rfl) ?_))
      refine s_aI (i := 10) (by rfl) (by rfl) (by rfl) (by rfl) (by decide) (by decide) ?_
      rw [b0.1, n_eq (by omega) (by omega)]
      exact ⟨fun hne => no (fun hf => by have := hf.2.2.2.2.2; omega), fun heq => yes ⟨by omega, by omega, by omega, by omega, by omega, Or.inr ⟨hb, by omega⟩⟩⟩
theorem hdA_30 {k : Nat} {T T' : RW} {q v : Nat} (h : hdA b k T p = .ok (T', q, v)) : T' 30 = T 30 := by
  obtain ⟨S1, p1, v1, h1, h2⟩ := bi_split h
  obtain ⟨S2, p2, v2, h3, h4⟩ := bi_split h2
  obtain ⟨rfl, _⟩ := psA_ok h1
  obtain ⟨rfl, _⟩ := nuA_ok h3
  obtain ⟨rfl, _⟩ := ok_inj h4
  rw [st_o (by decide) (by decide)]
theorem m_head (hT : TM F0 b n) (h : MS n F0 F S p) (hH : H0 S) (hQ : ∀ F' y, xbl y → MX n F0 F' (bi (heA b S p) (fun S p _ => szA S p)) → (∀ S' p' v', bi (heA b S p) (fun S p _ => szA S p) = .ok (S', p', v') → y = Int32.ofNat (S' 30 0)) → Qi y (mem e w F' L g)) : wp_Model_takeHead z Qi (ad e 100) (mem e w F L g) := by
  unfold wp_Model_takeHead
  repeat (first | ((with_reducible show ∃ _, _ ∧ _); first | refine s_fI (by rfl) (by rfl) (by rfl) ?_ | refine s_fR (by rfl) (by rfl) (by rfl) ?_ | refine s_pV (by rfl) (by rfl) (Nat.le_of_ble_eq_true rfl) (by rfl) ?_) | ((with_reducible show xcls _ _ _ ∧ _); refine s_cls (by rfl) (by rfl) ?_))
  refine m_take (c := 97) (r := .ok (S, p, 0)) hT h (by decide) (fun F1 h1 => ?_)
  rw [bi_ok] at h1
  obtain ⟨hf1, p1, hp1, h61⟩ := h1.fm
  -- behind the second letter
  have rest : ∀ (x : Int32) (r2 : RS) F2, xbl x → MX n F0 F2 r2 → (∀ S p v, r2 = .ok (S, p, v) → x = Int32.ofNat (S 30 0)) → bi (bi r2 (fun S q _ => lp (hdA b) 0 5 S q)) (fun S q _ => psA b 10 S q) = heA b S p → wp_Model_takeHead_44 z Qi (ad e 100) x 0 (mem e w F2 L g) := by
    intro x r2 F2 hx h2 hg2 heq
    unfold wp_Model_takeHead_44
    refine xloop_dn (fun m a => ∃ k r3 F3, m = 5 - k ∧ k ≤ 5 ∧ a = (ad e 100, x, Int32.ofNat k, mem e w F3 L g) ∧ MX n F0 F3 r3 ∧ (∀ S p v, r3 = .ok (S, p, v) → x = Int32.ofNat (S 30 0)) ∧ bi (bi r3 (fun S q _ => lp (hdA b) k (5 - k) S q)) (fun S q _ => psA b 10 S q) = heA b S p) ?_ 5 _ ⟨0, r2, F2, rfl, by decide, rfl, h2, hg2, heq⟩
    rintro m a cc ⟨k, r3, F3, rfl, hk5, rfl, h3, hg3, heq3⟩ hk
    unfold wp_Model_takeHead_44_b; dsimp only
    refine ⟨fun hc => ?_, fun hc => ?_⟩ <;> rw [show (5 : Int32) = Int32.ofNat 5 from rfl, n_le (by decide) (by omega)] at hc
    · rw [show 5 - k = 0 by omega] at heq3
      repeat (first | ((with_reducible show ∃ _, _ ∧ _); first | refine s_fI (by rfl) (by rfl) (by rfl) ?_ | refine s_fR (by rfl) (by rfl) (by rfl) ?_ | refine s_pV (by rfl) (by rfl) (Nat.le_of_ble_eq_true rfl) (by rfl) ?_) | ((with_reducible show xcls _ _ _ ∧ _); refine s_cls (by rfl) (by rfl) ?_))
      refine m_take (c := 10) hT h3 (by decide) (fun F4 h4 => ?_)
      have e4 : bi r3 (fun S p _ => psA b 10 S p) = heA b S p := by
        rw [← heq3]
        match r3 with
        | .error e => rfl
        | .ok (S3, p3, v3) => rfl
      refine m_fits hx h4 (fun S9 p9 v9 hh => ?_) (fun F5 h5 => hQ F5 x hx (by rw [← e4]; exact h5) (fun S' p' v' hh => ?_))
      · refine ⟨heA_H hH (by rw [← e4]; exact hh), ?_⟩
        obtain ⟨S8, p8, v8, hh1, hh2⟩ := bi_split hh
        obtain ⟨rfl, _⟩ := psA_ok hh2
        exact hg3 _ _ _ hh1
      · rw [← e4] at hh
        obtain ⟨S8, p8, v8, hh1, hh2⟩ := bi_split hh
        obtain ⟨S7, p7, v7, hh3, hh4⟩ := bi_split hh1
        obtain ⟨rfl, _⟩ := psA_ok hh4
        unfold szA at hh2
        by_cases hf : fit S8
        · rw [if_pos hf] at hh2
          obtain ⟨rfl, _⟩ := ok_inj hh2
          rw [szS_0.2.1]
          exact hg3 _ _ _ hh3
        · rw [if_neg hf] at hh2; cases hh2
    rw [show 5 - k = (5 - (k + 1)) + 1 by omega] at heq3
    repeat (first | ((with_reducible show ∃ _, _ ∧ _); first | refine s_fI (by rfl) (by rfl) (by rfl) ?_ | refine s_fR (by rfl) (by rfl) (by rfl) ?_ | refine s_pV (by rfl) (by rfl) (Nat.le_of_ble_eq_true rfl) (by rfl) ?_) | ((with_reducible show xcls _ _ _ ∧ _); refine s_cls (by rfl) (by rfl) ?_))
    refine m_take (c := 32) hT h3 (by decide) (fun F4 h4 => ?_)
    repeat (first | ((with_reducible show ∃ _, _ ∧ _); first | refine s_fI (by rfl) (by rfl) (by rfl) ?_ | refine s_fR (by rfl) (by rfl) (by rfl) ?_ | refine s_pV (by rfl) (by rfl) (Nat.le_of_ble_eq_true rfl) (by rfl) ?_) | ((with_reducible show xcls _ _ _ ∧ _); refine s_cls (by rfl) (by rfl) ?_))
    refine m_number hT h4 (fun F5 h5 => ?_)
    repeat (first | ((with_reducible show ∃ _, _ ∧ _); first | refine s_fI (by rfl) (by rfl) (by rfl) ?_ | refine s_fR (by rfl) (by rfl) (by rfl) ?_ | refine s_pV (by rfl) (by rfl) (Nat.le_of_ble_eq_true rfl) (by rfl) ?_) | ((with_reducible show xcls _ _ _ ∧ _); refine s_cls (by rfl) (by rfl) ?_))
    refine s_sI (i := 10 + k) (by rfl) (by rfl) (by rfl) (by rfl) (by exact n_add 10 k) (by omega) (by decide) ?_
    -- this number
    refine hk (5 - (k + 1)) _ (by omega) ⟨k + 1, bi r3 (fun S q _ => hdA b k S q), _, rfl, by omega, by rw [n_inc], ?_, fun S' p' v' hh => ?_, ?_⟩
    · rw [bi_bi] at h5
      have e5 : bi r3 (fun S q _ => hdA b k S q) = bi (bi r3 (fun S p v => bi (psA b 32 S p) (fun S p _ => nuA b S p))) (fun S q v => .ok (st S 0 k v, q, 0)) := by
        rw [bi_bi]
        unfold hdA
        match r3 with
        | .error e => rfl
        | .ok (S3, p3, v3) => rw [bi_ok, bi_ok, bi_bi]
      rw [e5]
      generalize bi r3 (fun S p v => bi (psA b 32 S p) (fun S p _ => nuA b S p)) = r5 at *
      match r5, h5 with
      | .error (c, q), h5 => exact EM.row h5 (Or.inl ⟨by decide, by decide, by show 10 ≤ 10 + k; omega⟩)
      | .ok (S5, p5, v5), h5 =>
        obtain ⟨h5, h9⟩ := h5
        rw [h9, bi_ok]
        exact h5.put (r := 0) (i := k) (c := 10 + k) (x := v5) (by decide) rfl (by omega) rfl rfl (by decide)
    · obtain ⟨S8, p8, v8, hh1, hh2⟩ := bi_split hh
      rw [hdA_30 hh2]
      exact hg3 _ _ _ hh1
    · rw [← heq3]
      match r3 with
      | .error e => rfl
      | .ok (S3, p3, v3) => rfl
  repeat (first | ((with_reducible show ∃ _, _ ∧ _); first | refine s_fI (by rfl) (by rfl) (by rfl) ?_ | refine s_fR (by rfl) (by rfl) (by rfl) ?_ | refine s_pV (by rfl) (by rfl) (Nat.le_of_ble_eq_true rfl) (by rfl) ?_) | ((with_reducible show xcls _ _ _ ∧ _); refine s_cls (by rfl) (by rfl) ?_))
  refine m_here hT hf1 hp1 h61 ?_
  rw [show (105 : Int32) = Int32.ofNat 105 from rfl, iv_eq (hT.le p1) (by decide)]
  have two : ∀ (f c : Nat), (f = 0 ∧ c = 97 ∧ b p1 ≠ 105) ∨ (f = 1 ∧ c = 105 ∧ b p1 = 105) → wp_Model_takeHead_33 z Qi (ad e 100) (Int32.ofNat f) (Int32.ofNat c) (ad e 100) (mem e w F1 L g) := by
    intro f c hfc
    unfold wp_Model_takeHead_33
    have hx : xbl (Int32.ofNat f) := by rcases hfc with hh | hh; exact Or.inl (by rw [hh.1]; rfl); exact Or.inr (by rw [hh.1]; rfl)
    have h1' : MX n F0 F1 (bi (psA b 97 S p) (fun S q v => .ok (st S 30 0 f, q, v))) := by
      match hr : psA b 97 S p, h1 with
      | .error (c, q), h1 => exact h1
      | .ok (S1, p1', v1), h1 => exact MS.skip h1 (by decide) rfl
    repeat (first | ((with_reducible show ∃ _, _ ∧ _); first | refine s_fI (by rfl) (by rfl) (by rfl) ?_ | refine s_fR (by rfl) (by rfl) (by rfl) ?_ | refine s_pV (by rfl) (by rfl) (Nat.le_of_ble_eq_true rfl) (by rfl) ?_) | ((with_reducible show xcls _ _ _ ∧ _); refine s_cls (by rfl) (by rfl) ?_))
    refine m_take hT h1' (by omega) (fun F2 h2 => ?_)
    repeat (first | ((with_reducible show ∃ _, _ ∧ _); first | refine s_fI (by rfl) (by rfl) (by rfl) ?_ | refine s_fR (by rfl) (by rfl) (by rfl) ?_ | refine s_pV (by rfl) (by rfl) (Nat.le_of_ble_eq_true rfl) (by rfl) ?_) | ((with_reducible show xcls _ _ _ ∧ _); refine s_cls (by rfl) (by rfl) ?_))
    refine m_take (c := 103) hT h2 (by decide) (fun F3 h3 => ?_)
    refine rest (Int32.ofNat f) _ F3 hx h3 (fun S' p' v' hh => ?_) ?_
    · obtain ⟨S8, p8, v8, hh1, hh2⟩ := bi_split hh
      obtain ⟨S7, p7, v7, hh3, hh4⟩ := bi_split hh1
      obtain ⟨S6, p6, v6, hh5, hh6⟩ := bi_split hh3
      obtain ⟨rfl, _⟩ := psA_ok hh2
      obtain ⟨rfl, _⟩ := psA_ok hh4
      obtain ⟨rfl, _⟩ := ok_inj hh6
      rw [st_r, if_pos rfl]
    · unfold heA
      match hr : psA b 97 S p with
      | .error e => rfl
      | .ok (S1, p1', v1) =>
        rw [hr] at h1
        have h1 : MS n F0 F1 S1 p1' := h1
        have hpp : p1' = p1 := n_inj (by have := hT.2.1; have := h1.2.2.1; omega) (by have := hT.2.1; omega) (by rw [← h1.2.1, h61])
        rw [bi_ok, bi_ok, bi_ok, hpp]
        have e1 : (if b p1 = 105 then 105 else 97) = c ∧ (if b p1 = 105 then 1 else 0) = f := by
          rcases hfc with ⟨rfl, rfl, hne⟩ | ⟨rfl, rfl, he⟩
          · rw [if_neg hne, if_neg hne]; exact ⟨rfl, rfl⟩
          · rw [if_pos he, if_pos he]; exact ⟨rfl, rfl⟩
        rw [e1.1, e1.2, bi_bi, bi_bi]
  unfold wp_Model_takeHead_20
  refine ⟨fun hne => ⟨fun _ => two 0 97 (Or.inl ⟨rfl, rfl, hne⟩), fun hh => absurd rfl hh⟩, fun he => ⟨fun hh => absurd hh (by decide), fun _ => two 1 105 (Or.inr ⟨rfl, rfl, he⟩)⟩⟩
end
