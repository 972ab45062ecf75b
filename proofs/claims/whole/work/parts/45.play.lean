/-! value and step, of the class and of the reference. D: the circuits; st: the states. -/
def RC (F : Nat → Nat → Int32) (D : Nat → Option (Nat → Nat → Nat)) : Prop := ∀ c, c < 2 → (D c = none → F (20 * c) 0 = 0) ∧ (∀ C, D c = some C → F (20 * c) 0 = 1 ∧ KC (20 * c) F C)
def RM (F : Nat → Nat → Int32) (D : Nat → Option (Nat → Nat → Nat)) : Prop := ∀ c, c < 2 → (D c = none → F 130 c = 0) ∧ (∀ C, D c = some C → F 130 c = 1 ∧ KM c F C)
def WD (D : Nat → Option (Nat → Nat → Nat)) : Prop := ∀ c C, D c = some C → WF C
theorem KC.kept {b : Nat} {F F' : Nat → Nat → Int32} {C : Nat → Nat → Nat} (h : ∀ k, b ≤ k → k ≤ b + 10 → F' k = F k) (hK : KC b F C) : KC b F' C := by
  unfold KC
  rw [h b (by omega) (by omega), h (b + 1) (by omega) (by omega), h (b + 2) (by omega) (by omega), h (b + 3) (by omega) (by omega), h (b + 4) (by omega) (by omega), h (b + 5) (by omega) (by omega), h (b + 6) (by omega) (by omega), h (b + 7) (by omega) (by omega), h (b + 8) (by omega) (by omega), h (b + 9) (by omega) (by omega), h (b + 10) (by omega) (by omega)]
  exact hK
theorem RC.kept {F F' : Nat → Nat → Int32} {D : Nat → Option (Nat → Nat → Nat)} (h : ∀ k, k ≤ 30 → F' k = F k) (hR : RC F D) : RC F' D := fun c hc => by
  rw [h (20 * c) (by omega)]
  exact ⟨(hR c hc).1, fun C hC => ⟨((hR c hc).2 C hC).1, KC.kept (fun k h1 h2 => h k (by omega)) ((hR c hc).2 C hC).2⟩⟩
theorem KM.kept {c : Nat} {F F' : Nat → Nat → Int32} {C : Nat → Nat → Nat} (h : ∀ k, 110 ≤ k → k ≤ 127 → F' k = F k) (hK : KM c F C) : KM c F' C := by
  unfold KM
  rw [h 110 (by omega) (by omega), h 118 (by omega) (by omega), h 127 (by omega) (by omega), h 115 (by omega) (by omega), h 116 (by omega) (by omega), h 117 (by omega) (by omega), h 111 (by omega) (by omega), h 112 (by omega) (by omega), h 113 (by omega) (by omega), h 114 (by omega) (by omega), h 125 (by omega) (by omega), h 124 (by omega) (by omega)]
  exact hK
theorem RM.kept {F F' : Nat → Nat → Int32} {D : Nat → Option (Nat → Nat → Nat)} (h : ∀ k, 110 ≤ k → k ≤ 130 → F' k = F k) (hR : RM F D) : RM F' D := fun c hc => by
  rw [h 130 (by omega) (by omega)]
  exact ⟨(hR c hc).1, fun C hC => ⟨((hR c hc).2 C hC).1, KM.kept (fun k h1 h2 => h k h1 (by omega)) ((hR c hc).2 C hC).2⟩⟩
def isL (D : Nat → Option (Nat → Nat → Nat)) (x y : Int32) (c : Nat) (C : Nat → Nat → Nat) (l : Nat) : Prop := c < 2 ∧ x = Int32.ofNat c ∧ D c = some C ∧ y = Int32.ofNat l ∧ dl C l
theorem c_cases {c : Nat} (h : c < 2) : c = 0 ∨ c = 1 := by omega
theorem v_isCircuit {e : xenv} {w : Bool} {F : Nat → Nat → Int32} {L : Nat → Nat → Int64} {g : xh} {z : Nat → Nat} {Q : Int32 → xh → Prop} {x : Int32} (h0 : (∀ c, c < 2 → x ≠ Int32.ofNat c) → Q 0 (mem e w F L g)) (h1 : ∀ c, c < 2 → x = Int32.ofNat c → Q 1 (mem e w F L g)) : wp_Judge_isCircuit z Q x (mem e w F L g) := by
  unfold wp_Judge_isCircuit
  refine ⟨fun hc => h0 ?_, fun hc => ?_⟩
  · intro m hm hx; rw [hx] at hc; exact absurd hc (n_pos m (by omega))
  obtain ⟨m, hm, rfl⟩ := nat_of hc
  refine ⟨fun hc => ?_, fun hc => ?_⟩ <;> rw [n_lit, n_le (by decide) hm] at hc
  · refine h0 (fun c hc1 hx => ?_)
    have := n_inj (by omega) (by omega) hx
    omega
  · exact h1 m (by omega) rfl
theorem v_isThere {e : xenv} {w : Bool} {F : Nat → Nat → Int32} {L : Nat → Nat → Int64} {g : xh} {z : Nat → Nat} {Q : Int32 → xh → Prop} {x : Int32} {D : Nat → Option (Nat → Nat → Nat)} (hR : RC F D) (h0 : (∀ c C, c < 2 → x = Int32.ofNat c → D c ≠ some C) → Q 0 (mem e w F L g)) (h1 : ∀ c C, c < 2 → x = Int32.ofNat c → D c = some C → Q 1 (mem e w F L g)) : wp_Judge_isThere z Q (ad e 60) x (mem e w F L g) := by
  unfold wp_Judge_isThere
  refine v_isCircuit (fun hn => ?_) (fun c hc hx => ?_)
  · exact ⟨fun _ => h0 (fun c C h1 h2 => absurd h2 (hn c h1)), fun h => absurd rfl h⟩
  · subst hx
    refine ⟨fun h => absurd h (by decide), fun _ => ?_⟩
    repeat (first | ((with_reducible show ∃ _, _ ∧ _); first | refine s_fI (by rfl) (by rfl) (by rfl) ?_ | refine s_fR (by rfl) (by rfl) (by rfl) ?_ | refine s_pV (by rfl) (by rfl) (Nat.le_of_ble_eq_true rfl) (by rfl) ?_) | ((with_reducible show xcls _ _ _ ∧ _); refine s_cls (by rfl) (by rfl) ?_))
    have key : ∀ b, b = 20 * c → (F b 0 = 0 → Q 0 (mem e w F L g)) ∧ (¬ F b 0 = 0 → Q 1 (mem e w F L g)) := by
      rintro b rfl
      cases hD : D c with
      | none => 
        rw [(hR c hc).1 hD]
        refine ⟨fun _ => h0 (fun c' C h1 h2 h3 => ?_), fun h => absurd rfl h⟩
        have := n_inj (by omega) (by omega) h2
        subst this
        rw [hD] at h3; cases h3
      | some C =>
        rw [((hR c hc).2 C hD).1]
        exact ⟨fun h => absurd h (by decide), fun _ => h1 c C hc rfl hD⟩
    rcases c_cases hc with rfl | rfl
    · refine s_aR (i := 0) (by rfl) (by rfl) (by rfl) (by rfl) (by decide) (by decide) (by rfl) ?_
      repeat (first | ((with_reducible show ∃ _, _ ∧ _); first | refine s_fI (by rfl) (by rfl) (by rfl) ?_ | refine s_fR (by rfl) (by rfl) (by rfl) ?_ | refine s_pV (by rfl) (by rfl) (Nat.le_of_ble_eq_true rfl) (by rfl) ?_) | ((with_reducible show xcls _ _ _ ∧ _); refine s_cls (by rfl) (by rfl) ?_))
      exact key 0 rfl
    · refine s_aR (i := 1) (by rfl) (by rfl) (by rfl) (by rfl) (by decide) (by decide) (by rfl) ?_
      repeat (first | ((with_reducible show ∃ _, _ ∧ _); first | refine s_fI (by rfl) (by rfl) (by rfl) ?_ | refine s_fR (by rfl) (by rfl) (by rfl) ?_ | refine s_pV (by rfl) (by rfl) (Nat.le_of_ble_eq_true rfl) (by rfl) ?_) | ((with_reducible show xcls _ _ _ ∧ _); refine s_cls (by rfl) (by rfl) ?_))
      exact key 20 rfl
theorem v_isDefined {e : xenv} {w : Bool} {F : Nat → Nat → Int32} {L : Nat → Nat → Int64} {g : xh} {z : Nat → Nat} {Q : Int32 → xh → Prop} {y : Int32} {C : Nat → Nat → Nat} {b : Nat} (hb : b = 0 ∨ b = 20 ∨ b = 40) (h0' : F b 1 = Int32.ofNat (C 0 0)) (h8' : ∀ v, v < 201 → F (b + 1) v = Int32.ofNat (C 8 v)) (hM : C 0 0 ≤ 200) (hk3 : ∀ v, C 8 v ≤ 3) (h0 : (∀ l, y = Int32.ofNat l → ¬ dl C l) → Q 0 (mem e w F L g)) (h1 : ∀ l, y = Int32.ofNat l → dl C l → Q 1 (mem e w F L g)) : wp_Circuit_isDefined z Q (ad e b) y (mem e w F L g) := by
  unfold wp_Circuit_isDefined
  refine ⟨fun hc => h0 ?_, fun hc => ?_⟩
  · intro m hm hx
    have := hx.1
    rw [hm] at hc; exact absurd hc (n_pos m (by omega))
  obtain ⟨m, hm, rfl⟩ := nat_of hc
  have inj : ∀ l, Int32.ofNat m = Int32.ofNat l → dl C l → l = m := fun l h1 h2 => by
    have := h2.1
    exact (n_inj (by omega) (by omega) h1).symm
  have stp : ∀ {P : Int32 → Prop}, P (F b 1) → ∃ v, fI (mem e w F L g) (ad e b) 0 1 = some v ∧ P v := by
    rcases hb with rfl | rfl | rfl <;> intro P hP <;> exact s_fI (by rfl) (by rfl) (by rfl) hP
  refine stp ?_
  rw [h0', show (2 : Int32) * Int32.ofNat (C 0 0) + 1 = Int32.ofNat (2 * C 0 0 + 1) by rw [n_lit, n_mul, n_lit, n_add]]
  refine ⟨fun hc => ?_, fun hc => ?_⟩ <;> rw [n_lt (by omega) hm] at hc
  · refine h0 (fun l h1 h2 => ?_)
    have := inj l h1 h2
    have := h2.1
    omega
  refine ⟨fun hc2 => ?_, fun hc2 => ?_⟩
  · rw [n_lit, n_lt hm (by decide)] at hc2
    exact h1 m rfl ⟨by omega, Or.inl hc2⟩
  rw [n_lit, n_lt hm (by decide)] at hc2
  have stR : ∀ {P : Nat → Prop}, P (ad e (b + 1)) → ∃ v, fR (mem e w F L g) (ad e b) 0 6 = some v ∧ P v := by
    rcases hb with rfl | rfl | rfl <;> intro P hP <;> exact s_fR (by rfl) (by rfl) (by rfl) hP
  refine stR ?_
  rw [show (1 : Int32) = Int32.ofNat 1 from rfl, show (31 : Int32) = 31 from rfl, n_shr hm (by decide), Nat.pow_one]
  have stA : ∀ {P : Int32 → Prop}, P (F (b + 1) (m / 2)) → ∃ v, aI (mem e w F L g) (ad e (b + 1)) 1 (Int32.ofNat (m / 2)) = some v ∧ P v := by
    rcases hb with rfl | rfl | rfl <;> intro P hP <;> exact s_aI (by rfl) (by rfl) (by rfl) rfl (by omega) (by decide) hP
  refine stA ?_
  rw [h8' _ (by omega)]
  have := hk3 (m / 2)
  refine ⟨fun h => h0 (fun l h1 h2 => ?_), fun h => h1 m rfl ⟨by omega, Or.inr (fun e0 => h (by rw [e0]; rfl))⟩⟩
  have h4 := n_inj (b := 0) (by omega) (by decide) h
  have := inj l h1 h2
  subst this
  rcases h2.2 with h5 | h5
  · omega
  · exact h5 h4
theorem v_isLiteral {e : xenv} {w : Bool} {F : Nat → Nat → Int32} {L : Nat → Nat → Int64} {g : xh} {z : Nat → Nat} {Q : Int32 → xh → Prop} {x y : Int32} {D : Nat → Option (Nat → Nat → Nat)} (hR : RC F D) (hW : WD D) (h0 : (∀ c C l, ¬ isL D x y c C l) → Q 0 (mem e w F L g)) (h1 : ∀ c C l, isL D x y c C l → Q 1 (mem e w F L g)) : wp_Judge_isLiteral z Q (ad e 60) x y (mem e w F L g) := by
  unfold wp_Judge_isLiteral
  repeat (first | ((with_reducible show ∃ _, _ ∧ _); first | refine s_fI (by rfl) (by rfl) (by rfl) ?_ | refine s_fR (by rfl) (by rfl) (by rfl) ?_ | refine s_pV (by rfl) (by rfl) (Nat.le_of_ble_eq_true rfl) (by rfl) ?_) | ((with_reducible show xcls _ _ _ ∧ _); refine s_cls (by rfl) (by rfl) ?_))
  refine v_isThere hR (fun hn => ?_) (fun c C hc hx hD => ?_)
  · exact ⟨fun _ => h0 (fun c C l h => hn c C h.1 h.2.1 h.2.2.1), fun h => absurd rfl h⟩
  · subst hx
    refine ⟨fun h => absurd h (by decide), fun _ => ?_⟩
    repeat (first | ((with_reducible show ∃ _, _ ∧ _); first | refine s_fI (by rfl) (by rfl) (by rfl) ?_ | refine s_fR (by rfl) (by rfl) (by rfl) ?_ | refine s_pV (by rfl) (by rfl) (Nat.le_of_ble_eq_true rfl) (by rfl) ?_) | ((with_reducible show xcls _ _ _ ∧ _); refine s_cls (by rfl) (by rfl) ?_))
    have hKC := ((hR c hc).2 C hD).2
    have hw := hW c C hD
    have key : ∀ b, b = 20 * c → wp_Circuit_isDefined z (fun v7 h6 => (v7 = 0 → Q 0 h6) ∧ (¬ v7 = 0 → Q 1 h6)) (ad e b) y (mem e w F L g) := by
      rintro b rfl
      refine v_isDefined (C := C) (by omega) (hKC.1 0 (by decide)) hKC.2.1 hw.1.1 hw.2.1.1 (fun hn => ?_) (fun l h2 h3 => ?_)
      · refine ⟨fun _ => h0 (fun c' C' l h => ?_), fun h => absurd rfl h⟩
        have hcc := n_inj (by omega) (by have := h.1; omega) h.2.1
        subst hcc
        have : C' = C := by have := h.2.2.1; rw [hD] at this; cases this; rfl
        subst this
        exact hn l h.2.2.2.1 h.2.2.2.2
      · exact ⟨fun h => absurd h (by decide), fun _ => h1 c C l ⟨hc, rfl, hD, h2, h3⟩⟩
    rcases c_cases hc with rfl | rfl
    · refine s_aR (i := 0) (by rfl) (by rfl) (by rfl) (by rfl) (by decide) (by decide) (by rfl) ?_
      repeat (first | ((with_reducible show ∃ _, _ ∧ _); first | refine s_fI (by rfl) (by rfl) (by rfl) ?_ | refine s_fR (by rfl) (by rfl) (by rfl) ?_ | refine s_pV (by rfl) (by rfl) (Nat.le_of_ble_eq_true rfl) (by rfl) ?_) | ((with_reducible show xcls _ _ _ ∧ _); refine s_cls (by rfl) (by rfl) ?_))
      exact key 0 rfl
    · refine s_aR (i := 1) (by rfl) (by rfl) (by rfl) (by rfl) (by decide) (by decide) (by rfl) ?_
      repeat (first | ((with_reducible show ∃ _, _ ∧ _); first | refine s_fI (by rfl) (by rfl) (by rfl) ?_ | refine s_fR (by rfl) (by rfl) (by rfl) ?_ | refine s_pV (by rfl) (by rfl) (Nat.le_of_ble_eq_true rfl) (by rfl) ?_) | ((with_reducible show xcls _ _ _ ∧ _); refine s_cls (by rfl) (by rfl) ?_))
      exact key 20 rfl
theorem v_mIsCircuit {e : xenv} {w : Bool} {F : Nat → Nat → Int32} {L : Nat → Nat → Int64} {g : xh} {z : Nat → Nat} {Q : Int32 → xh → Prop} {x : Int32} (h0 : (∀ c, c < 2 → x ≠ Int32.ofNat c) → Q 0 (mem e w F L g)) (h1 : ∀ c, c < 2 → x = Int32.ofNat c → Q 1 (mem e w F L g)) : wp_Model_isCircuit z Q x (mem e w F L g) := by
  unfold wp_Model_isCircuit wp_Model_isCircuit_9
  refine ⟨fun hx => h1 0 (by decide) hx, fun hx => ⟨fun hy => h0 (fun c hc h => ?_), fun hy => h1 1 (by decide) hy⟩⟩
  rcases c_cases hc with rfl | rfl
  · exact hx h
  · exact hy h
theorem v_mIsThere {e : xenv} {w : Bool} {F : Nat → Nat → Int32} {L : Nat → Nat → Int64} {g : xh} {z : Nat → Nat} {Q : Int32 → xh → Prop} {x : Int32} {D : Nat → Option (Nat → Nat → Nat)} (hR : RM F D) (h0 : (∀ c C, c < 2 → x = Int32.ofNat c → D c ≠ some C) → Q 0 (mem e w F L g)) (h1 : ∀ c C, c < 2 → x = Int32.ofNat c → D c = some C → Q 1 (mem e w F L g)) : wp_Model_isThere z Q (ad e 100) x (mem e w F L g) := by
  unfold wp_Model_isThere
  refine v_mIsCircuit (fun hn => ?_) (fun c hc hx => ?_)
  · exact ⟨fun _ => h0 (fun c C h1 h2 => absurd h2 (hn c h1)), fun h => absurd rfl h⟩
  · subst hx
    refine ⟨fun h => absurd h (by decide), fun _ => ?_⟩
    repeat (first | ((with_reducible show ∃ _, _ ∧ _); first | refine s_fI (by rfl) (by rfl) (by rfl) ?_ | refine s_fR (by rfl) (by rfl) (by rfl) ?_ | refine s_pV (by rfl) (by rfl) (Nat.le_of_ble_eq_true rfl) (by rfl) ?_) | ((with_reducible show xcls _ _ _ ∧ _); refine s_cls (by rfl) (by rfl) ?_))
    refine s_aI (i := c) (by rfl) (by rfl) (by rfl) (by rfl) (by omega) (by decide) ?_
    cases hD : D c with
    | none => 
      rw [(hR c hc).1 hD]
      refine ⟨fun _ => h0 (fun c' C h1 h2 h3 => ?_), fun h => absurd rfl h⟩
      have := n_inj (by omega) (by omega) h2
      subst this
      rw [hD] at h3; cases h3
    | some C =>
      rw [((hR c hc).2 C hD).1]
      exact ⟨fun h => absurd h (by decide), fun _ => h1 c C hc rfl hD⟩
theorem v_mIsLiteral {e : xenv} {w : Bool} {F : Nat → Nat → Int32} {L : Nat → Nat → Int64} {g : xh} {z : Nat → Nat} {Q : Int32 → xh → Prop} {x y : Int32} {D : Nat → Option (Nat → Nat → Nat)} (hR : RM F D) (hW : WD D) (h0 : (∀ c C l, ¬ isL D x y c C l) → Q 0 (mem e w F L g)) (h1 : ∀ c C l, isL D x y c C l → Q 1 (mem e w F L g)) : wp_Model_isLiteral z Q (ad e 100) x y (mem e w F L g) := by
  unfold wp_Model_isLiteral
  repeat (first | ((with_reducible show ∃ _, _ ∧ _); first | refine s_fI (by rfl) (by rfl) (by rfl) ?_ | refine s_fR (by rfl) (by rfl) (by rfl) ?_ | refine s_pV (by rfl) (by rfl) (Nat.le_of_ble_eq_true rfl) (by rfl) ?_) | ((with_reducible show xcls _ _ _ ∧ _); refine s_cls (by rfl) (by rfl) ?_))
  refine v_mIsThere hR (fun hn => ?_) (fun c C hc hx hD => ?_)
  · exact ⟨fun _ => h0 (fun c C l h => hn c C h.1 h.2.1 h.2.2.1), fun h => absurd rfl h⟩
  · subst hx
    refine ⟨fun h => absurd h (by decide), fun _ => ?_⟩
    have hK := ((hR c hc).2 C hD).2
    have hw := hW c C hD
    have hM := hw.1.1
    have inj : ∀ c' C' l, isL D (Int32.ofNat c) y c' C' l → c' = c ∧ C' = C := fun c' C' l h => by
      have hcc := n_inj (by omega) (by have := h.1; omega) h.2.1
      subst hcc
      have := h.2.2.1; rw [hD] at this; cases this; exact ⟨rfl, rfl⟩
    refine ⟨fun h => h0 (fun c' C' l h2 => ?_), fun h => ?_⟩
    · have h3 := h2.2.2.2.2.1
      obtain ⟨rfl, rfl⟩ := inj _ _ _ h2
      rw [h2.2.2.2.1] at h; exact absurd h (n_pos l (by omega))
    obtain ⟨m, hm, rfl⟩ := nat_of h
    repeat (first | ((with_reducible show ∃ _, _ ∧ _); first | refine s_fI (by rfl) (by rfl) (by rfl) ?_ | refine s_fR (by rfl) (by rfl) (by rfl) ?_ | refine s_pV (by rfl) (by rfl) (Nat.le_of_ble_eq_true rfl) (by rfl) ?_) | ((with_reducible show xcls _ _ _ ∧ _); refine s_cls (by rfl) (by rfl) ?_))
    refine s_aI (i := 5 * c) (by rfl) (by rfl) (by rfl) (by rw [n_lit, n_mul]) (by omega) (by decide) ?_
    rw [show F 110 (5 * c) = Int32.ofNat (C 0 0) from hK.1 0 (by decide), show (2 : Int32) * Int32.ofNat (C 0 0) + 1 = Int32.ofNat (2 * C 0 0 + 1) by rw [n_lit, n_mul, n_lit, n_add]]
    refine ⟨fun hc => ?_, fun hc => ?_⟩ <;> rw [n_lt (by omega) hm] at hc
    · refine h0 (fun c' C' l h2 => ?_)
      obtain ⟨rfl, rfl⟩ := inj _ _ _ h2
      have h3 := h2.2.2.2.2.1
      have := n_inj (by omega) (by omega) h2.2.2.2.1
      omega
    refine ⟨fun hc => ?_, fun hc => ?_⟩ <;> rw [n_lit, n_lt hm (by decide)] at hc
    · unfold wp_Model_isLiteral_50
      exact h1 c C m ⟨by omega, rfl, hD, rfl, by omega, Or.inl hc⟩
    · repeat (first | ((with_reducible show ∃ _, _ ∧ _); first | refine s_fI (by rfl) (by rfl) (by rfl) ?_ | refine s_fR (by rfl) (by rfl) (by rfl) ?_ | refine s_pV (by rfl) (by rfl) (Nat.le_of_ble_eq_true rfl) (by rfl) ?_) | ((with_reducible show xcls _ _ _ ∧ _); refine s_cls (by rfl) (by rfl) ?_))
      refine s_aI (i := 201 * c + m / 2) (by rfl) (by rfl) (by rfl) (by rw [n_half hm, n_lit, n_mul, n_add]) (by omega) (by decide) ?_
      rw [hK.2.1 _ (by omega)]
      have := hw.2.1.1 (m / 2)
      unfold wp_Model_isLiteral_50
      refine ⟨fun h => h0 (fun c' C' l h2 => ?_), fun h => h1 c C m ⟨by omega, rfl, hD, rfl, by omega, Or.inr (fun e0 => h (by rw [e0]; rfl))⟩⟩
      have h4 := n_inj (b := 0) (by omega) (by decide) h
      obtain ⟨rfl, rfl⟩ := inj _ _ _ h2
      have h3 := h2.2.2.2.2.1
      have := n_inj (by omega) (by omega) h2.2.2.2.1
      subst this
      rcases h2.2.2.2.2.2 with h5 | h5
      · omega
      · exact h5 h4
