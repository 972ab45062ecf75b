/-! The reference's next, value, step; small answers of both. -/
theorem v_mnext {e : xenv} {w : Bool} {F : Nat → Nat → Int32} {L : Nat → Nat → Int64} {g : xh} {z : Nat → Nat} {Q : Int32 → xh → Prop} {C : Nat → Nat → Nat} {c x : Nat} (hc : c < 2) (hK : KM c F C) (hW : WF C) (hx : x < 64) (h : Q (Int32.ofNat (gat (fun k => bl (wl (L 132) (201 * c) (C 3 k)) x) (C 0 2))) (mem e w F L g)) : wp_Model_next z Q (ad e 100) (Int32.ofNat c) (Int32.ofNat x) (mem e w F L g) := by
  have hM := hW.1
  unfold wp_Model_next wp_Model_next_5
  refine xloop_dn (fun d a => ∃ k, d = C 0 2 - k ∧ k ≤ C 0 2 ∧ a = (ad e 100, Int32.ofNat c, Int32.ofNat x, Int32.ofNat (gat (fun k => bl (wl (L 132) (201 * c) (C 3 k)) x) k), Int32.ofNat k, mem e w F L g)) ?_ (C 0 2) _ ⟨0, rfl, by omega, rfl⟩
  rintro d a cc ⟨k, rfl, hk1, rfl⟩ hk
  unfold wp_Model_next_5_b; dsimp only
  repeat (first | ((with_reducible show ∃ _, _ ∧ _); first | refine s_fI (by rfl) (by rfl) (by rfl) ?_ | refine s_fR (by rfl) (by rfl) (by rfl) ?_ | refine s_pV (by rfl) (by rfl) (Nat.le_of_ble_eq_true rfl) (by rfl) ?_) | ((with_reducible show xcls _ _ _ ∧ _); refine s_cls (by rfl) (by rfl) ?_))
  refine s_aI (i := 5 * c + 2) (by rfl) (by rfl) (by rfl) (by rw [n_lit, n_mul, n_lit, n_add]) (by omega) (by decide) ?_
  rw [hK.1 2 (by decide)]
  refine ⟨fun hc => ?_, fun hc => ?_⟩ <;> rw [n_le (by omega) (by omega)] at hc
  · have : k = C 0 2 := by omega
    subst this
    exact h
  · repeat (first | ((with_reducible show ∃ _, _ ∧ _); first | refine s_fI (by rfl) (by rfl) (by rfl) ?_ | refine s_fR (by rfl) (by rfl) (by rfl) ?_ | refine s_pV (by rfl) (by rfl) (Nat.le_of_ble_eq_true rfl) (by rfl) ?_) | ((with_reducible show xcls _ _ _ ∧ _); refine s_cls (by rfl) (by rfl) ?_))
    refine s_aI (i := 7 * c + k) (by rfl) (by rfl) (by rfl) (by rw [n_lit, n_mul, n_add]) (by omega) (by decide) ?_
    rw [(hK.2.2.2.2.1 k (by omega)).2]
    repeat (first | ((with_reducible show ∃ _, _ ∧ _); first | refine s_fI (by rfl) (by rfl) (by rfl) ?_ | refine s_fR (by rfl) (by rfl) (by rfl) ?_ | refine s_pV (by rfl) (by rfl) (Nat.le_of_ble_eq_true rfl) (by rfl) ?_) | ((with_reducible show xcls _ _ _ ∧ _); refine s_cls (by rfl) (by rfl) ?_))
    have h2 := hW.lit (hW.2.2.2.2.1.1 k (by omega))
    refine v_of (by omega) (by omega) ?_
    rintro v7 rfl
    refine hk (C 0 2 - (k + 1)) _ (by omega) ⟨k + 1, rfl, by omega, ?_⟩
    rw [bl_shr32 _ hx, n_shl (by omega), n_or, n_lit, n_add]
    rfl
theorem va_xm {C : Nat → Nat → Nat} (hW : WF C) (S : Nat → Bool) (x : Int32) : va C S (fun k => (xm x).testBit k) = va C S (fun k => bt x k) :=
  va_ext (fun k hk => xm_bit x (by have := hW.1; omega)) (fun _ _ => rfl)
theorem dl_var {C : Nat → Nat → Nat} {l : Nat} (h : dl C l) : l / 2 = 0 ∨ C 8 (l / 2) ≠ 0 := by
  rcases h.2 with h1 | h1
  · left; omega
  · right; exact h1
theorem v_Model_value {e : xenv} {w : Bool} {F : Nat → Nat → Int32} {L : Nat → Nat → Int64} {g : xh} {z : Nat → Nat} {Q : Int32 → xh → Prop} {x y q : Int32} {D : Nat → Option (Nat → Nat → Nat)} {st : Nat → Nat} (hR : RM F D) (hW : WD D) (hs : ∀ c, c < 2 → F 131 c = Int32.ofNat (st c))
    (h0 : (∀ c C l, ¬ isL D x y c C l) → Q (-1) (mem e w (up F 100 0 0) L g))
    (h1 : ∀ c C l L', isL D x y c C l → (∀ k, k ≠ 132 → L' k = L k) → Q (Int32.ofNat (lv (va C (fun k => bt (Int32.ofNat (st c)) k) (fun k => bt q k)) l).toNat) (mem e w (up F 100 0 0) L' g)) : wp_Model_value z Q (ad e 100) x y q (mem e w F L g) := by
  unfold wp_Model_value
  repeat (first | ((with_reducible show ∃ _, _ ∧ _); first | refine s_fI (by rfl) (by rfl) (by rfl) ?_ | refine s_fR (by rfl) (by rfl) (by rfl) ?_ | refine s_pV (by rfl) (by rfl) (Nat.le_of_ble_eq_true rfl) (by rfl) ?_) | ((with_reducible show xcls _ _ _ ∧ _); refine s_cls (by rfl) (by rfl) ?_))
  have hR' : RM (up F 100 0 0) D := RM.kept (fun k q1 q2 => up_k (by omega)) hR
  refine v_mIsLiteral hR' hW (fun hn => ?_) (fun c C l hL => ?_)
  · exact ⟨fun h => absurd rfl h, fun _ => h0 hn⟩
  · refine ⟨fun _ => ?_, fun h => absurd h (by decide)⟩
    obtain ⟨hc, rfl, hD, rfl, hl⟩ := hL
    have hw := hW c C hD
    have hl1 := hw.lit hl
    repeat (first | ((with_reducible show ∃ _, _ ∧ _); first | refine s_fI (by rfl) (by rfl) (by rfl) ?_ | refine s_fR (by rfl) (by rfl) (by rfl) ?_ | refine s_pV (by rfl) (by rfl) (Nat.le_of_ble_eq_true rfl) (by rfl) ?_) | ((with_reducible show xcls _ _ _ ∧ _); refine s_cls (by rfl) (by rfl) ?_))
    refine s_aI (i := c) (by rfl) (by rfl) (by rfl) (by rfl) (by omega) (by decide) ?_
    rw [up_k (by decide), hs c hc]
    repeat (first | ((with_reducible show ∃ _, _ ∧ _); first | refine s_fI (by rfl) (by rfl) (by rfl) ?_ | refine s_fR (by rfl) (by rfl) (by rfl) ?_ | refine s_pV (by rfl) (by rfl) (Nat.le_of_ble_eq_true rfl) (by rfl) ?_) | ((with_reducible show xcls _ _ _ ∧ _); refine s_cls (by rfl) (by rfl) ?_))
    refine v_reckon hc ((hR' c hc).2 C hD).2 hw (fun L1 k1 _ b1 => ?_)
    repeat (first | ((with_reducible show ∃ _, _ ∧ _); first | refine s_fI (by rfl) (by rfl) (by rfl) ?_ | refine s_fR (by rfl) (by rfl) (by rfl) ?_ | refine s_pV (by rfl) (by rfl) (Nat.le_of_ble_eq_true rfl) (by rfl) ?_) | ((with_reducible show xcls _ _ _ ∧ _); refine s_cls (by rfl) (by rfl) ?_))
    refine v_of hc (by omega) ?_
    rw [and63, bl_shr32 _ (xm_lt q), bl_wl (xm_lt q), b1 _ (dl_var hl) _ (xm_lt q), va_xm hw]
    exact h1 c C l L1 ⟨hc, rfl, hD, rfl, hl⟩ k1
theorem v_Judge_value {e : xenv} {w : Bool} {F : Nat → Nat → Int32} {L : Nat → Nat → Int64} {g : xh} {z : Nat → Nat} {Q : Int32 → xh → Prop} {x y q : Int32} {D : Nat → Option (Nat → Nat → Nat)} {st : Nat → Nat} (hR : RC F D) (hW : WD D) (hs : ∀ c, c < 2 → F 77 c = Int32.ofNat (st c))
    (h0 : (∀ c C l, ¬ isL D x y c C l) → Q (-1) (mem e w F L g))
    (h1 : ∀ c C l F', isL D x y c C l → (∀ k, k ≠ 78 → k ≠ 79 → F' k = F k) → Q (Int32.ofNat (lv (va C (fun k => bt (Int32.ofNat (st c)) k) (fun k => bt q k)) l).toNat) (mem e w F' L g)) : wp_Judge_value z Q (ad e 60) x y q (mem e w F L g) := by
  unfold wp_Judge_value
  repeat (first | ((with_reducible show ∃ _, _ ∧ _); first | refine s_fI (by rfl) (by rfl) (by rfl) ?_ | refine s_fR (by rfl) (by rfl) (by rfl) ?_ | refine s_pV (by rfl) (by rfl) (Nat.le_of_ble_eq_true rfl) (by rfl) ?_) | ((with_reducible show xcls _ _ _ ∧ _); refine s_cls (by rfl) (by rfl) ?_))
  refine v_isLiteral hR hW (fun hn => ?_) (fun c C l hL => ?_)
  · exact ⟨fun _ => h0 hn, fun h => absurd rfl h⟩
  · refine ⟨fun h => absurd h (by decide), fun _ => ?_⟩
    obtain ⟨hc, rfl, hD, rfl, hl⟩ := hL
    repeat (first | ((with_reducible show ∃ _, _ ∧ _); first | refine s_fI (by rfl) (by rfl) (by rfl) ?_ | refine s_fR (by rfl) (by rfl) (by rfl) ?_ | refine s_pV (by rfl) (by rfl) (Nat.le_of_ble_eq_true rfl) (by rfl) ?_) | ((with_reducible show xcls _ _ _ ∧ _); refine s_cls (by rfl) (by rfl) ?_))
    exact v_look hc ((hR c hc).2 C hD).2 (hW c C hD) hl (hs c hc) (fun F' k1 => h1 c C l F' ⟨hc, rfl, hD, rfl, hl⟩ k1)
theorem or_shl (a b n : Nat) : (a ||| b) * 2 ^ n = a * 2 ^ n ||| b * 2 ^ n := by
  rw [← Nat.shiftLeft_eq, ← Nat.shiftLeft_eq, ← Nat.shiftLeft_eq, Nat.shiftLeft_or_distrib]
theorem v_Model_step {e : xenv} {w : Bool} {F : Nat → Nat → Int32} {L : Nat → Nat → Int64} {g : xh} {z : Nat → Nat} {Q : Int32 → xh → Prop} {D : Nat → Option (Nat → Nat → Nat)} {st : Nat → Nat} {x : Int32} (hR : RM F D) (hW : WD D) (hs : ∀ c, c < 2 → F 131 c = Int32.ofNat (st c))
    (h : ∀ F' L', (∀ k, k ≠ 100 → k ≠ 131 → F' k = F k) → (∀ j, F' 100 j = if j = 0 then 0 else F 100 j) → (∀ k, k ≠ 132 → L' k = L k) → (∀ c, c < 2 → F' 131 c = Int32.ofNat (nD D st (fun k => bt x k) c)) → Q (Int32.ofNat (oD D st (fun k => bt x k) 0 ||| oD D st (fun k => bt x k) 1 * 256)) (mem e w F' L' g)) : wp_Model_step z Q (ad e 100) x (mem e w F L g) := by
  unfold wp_Model_step
  repeat (first | ((with_reducible show ∃ _, _ ∧ _); first | refine s_fI (by rfl) (by rfl) (by rfl) ?_ | refine s_fR (by rfl) (by rfl) (by rfl) ?_ | refine s_pV (by rfl) (by rfl) (Nat.le_of_ble_eq_true rfl) (by rfl) ?_) | ((with_reducible show xcls _ _ _ ∧ _); refine s_cls (by rfl) (by rfl) ?_))
  unfold wp_Model_step_9
  refine xloop_dn (fun d a => ∃ c F' L' o, d = 2 - c ∧ c ≤ 2 ∧ a = (ad e 100, x, Int32.ofNat o, Int32.ofNat c, mem e w F' L' g) ∧ (∀ k, k ≠ 100 → k ≠ 131 → F' k = F k) ∧ (∀ j, F' 100 j = if j = 0 then 0 else F 100 j) ∧ (∀ k, k ≠ 132 → L' k = L k) ∧ (∀ c', c' < 2 → F' 131 c' = Int32.ofNat (if c' < c then nD D st (fun k => bt x k) c' else st c')) ∧ o = (if 0 < c then oD D st (fun k => bt x k) 0 else 0) ||| (if 1 < c then oD D st (fun k => bt x k) 1 * 256 else 0)) ?_ 2 _ ⟨0, _, L, 0, rfl, by omega, rfl, fun _ q1 _ => up_k q1, fun j => up_i, fun _ _ => rfl, fun c' hc' => by rw [up_k (by decide), hs c' hc']; rfl, by simp⟩
  rintro d a cc ⟨c, F', L', o, rfl, hc1, rfl, g1, g2, g3, g4, go⟩ hk
  unfold wp_Model_step_9_b; dsimp only
  refine ⟨fun hc => ?_, fun hc => ?_⟩ <;> rw [n_lit, n_le (by decide) (by omega)] at hc
  · have : c = 2 := by omega
    subst this
    rw [go]
    refine h F' L' g1 g2 g3 (fun c' hc' => ?_)
    rw [g4 c' hc', if_pos hc']
  have hc2 : c < 2 := by omega
  repeat (first | ((with_reducible show ∃ _, _ ∧ _); first | refine s_fI (by rfl) (by rfl) (by rfl) ?_ | refine s_fR (by rfl) (by rfl) (by rfl) ?_ | refine s_pV (by rfl) (by rfl) (Nat.le_of_ble_eq_true rfl) (by rfl) ?_) | ((with_reducible show xcls _ _ _ ∧ _); refine s_cls (by rfl) (by rfl) ?_))
  refine s_aI (i := c) (by rfl) (by rfl) (by rfl) (by rfl) (by omega) (by decide) ?_
  have hR' : RM F' D := RM.kept (fun k q1 q2 => g1 k (by omega) (by omega)) hR
  cases hD : D c with
  | none =>
    rw [(hR' c hc2).1 hD]
    refine ⟨fun h => absurd rfl h, fun _ => ?_⟩
    unfold wp_Model_step_112
    refine hk (2 - (c + 1)) _ (by omega) ⟨c + 1, F', L', o, rfl, by omega, by rw [n_lit, n_add], g1, g2, g3, fun c' hc' => ?_, ?_⟩
    · rw [g4 c' hc']
      by_cases h1 : c' = c
      · subst h1; rw [if_neg (by omega), if_pos (by omega), nD, hD]
      · by_cases h2 : c' < c
        · rw [if_pos h2, if_pos (by omega)]
        · rw [if_neg h2, if_neg (by omega)]
    · rw [go]
      rcases c_cases hc2 with rfl | rfl
      · simp [oD, hD]
      · simp [oD, hD]
  | some C =>
    obtain ⟨hpr, hKM⟩ := (hR' c hc2).2 C hD
    have hw := hW c C hD
    have hM := hw.1
    rw [hpr]
    refine ⟨fun _ => ?_, fun h => absurd h (by decide)⟩
    repeat (first | ((with_reducible show ∃ _, _ ∧ _); first | refine s_fI (by rfl) (by rfl) (by rfl) ?_ | refine s_fR (by rfl) (by rfl) (by rfl) ?_ | refine s_pV (by rfl) (by rfl) (Nat.le_of_ble_eq_true rfl) (by rfl) ?_) | ((with_reducible show xcls _ _ _ ∧ _); refine s_cls (by rfl) (by rfl) ?_))
    refine s_aI (i := c) (by rfl) (by rfl) (by rfl) (by rfl) (by omega) (by decide) ?_
    rw [g4 c hc2, if_neg (by omega)]
    repeat (first | ((with_reducible show ∃ _, _ ∧ _); first | refine s_fI (by rfl) (by rfl) (by rfl) ?_ | refine s_fR (by rfl) (by rfl) (by rfl) ?_ | refine s_pV (by rfl) (by rfl) (Nat.le_of_ble_eq_true rfl) (by rfl) ?_) | ((with_reducible show xcls _ _ _ ∧ _); refine s_cls (by rfl) (by rfl) ?_))
    refine v_reckon hc2 hKM hw (fun L2 k2 _ b2 => ?_)
    have hva : ∀ l, dl C l → bl (wl (L2 132) (201 * c) l) (xm x) = lv (va C (fun k => (st c).testBit k) (fun k => bt x k)) l := by
      intro l hl
      rw [bl_wl (xm_lt x), b2 _ (dl_var hl) _ (xm_lt x), va_xm hw, va_nat hw]
      rfl
    unfold wp_Model_step_40
    refine xloop_dn (fun d a => ∃ k, d = C 0 3 - k ∧ k ≤ C 0 3 ∧ a = (ad e 100, x, Int32.ofNat (o ||| gat (fun k => lv (va C (fun k => (st c).testBit k) (fun k => bt x k)) (C 4 k)) k * 2 ^ (8 * c)), Int32.ofNat c, Int32.ofNat k, mem e w F' L2 g)) ?_ (C 0 3) _ ⟨0, rfl, by omega, by simp [gat]⟩
    rintro d a cc2 ⟨k, rfl, hk1, rfl⟩ hk2
    unfold wp_Model_step_40_b; dsimp only
    repeat (first | ((with_reducible show ∃ _, _ ∧ _); first | refine s_fI (by rfl) (by rfl) (by rfl) ?_ | refine s_fR (by rfl) (by rfl) (by rfl) ?_ | refine s_pV (by rfl) (by rfl) (Nat.le_of_ble_eq_true rfl) (by rfl) ?_) | ((with_reducible show xcls _ _ _ ∧ _); refine s_cls (by rfl) (by rfl) ?_))
    refine s_aI (i := 5 * c + 3) (by rfl) (by rfl) (by rfl) (by rw [n_lit, n_mul, n_lit, n_add]) (by omega) (by decide) ?_
    rw [hKM.1 3 (by decide)]
    refine ⟨fun hc => ?_, fun hc => ?_⟩ <;> rw [n_le (by omega) (by omega)] at hc
    · have : k = C 0 3 := by omega
      subst this
      repeat (first | ((with_reducible show ∃ _, _ ∧ _); first | refine s_fI (by rfl) (by rfl) (by rfl) ?_ | refine s_fR (by rfl) (by rfl) (by rfl) ?_ | refine s_pV (by rfl) (by rfl) (Nat.le_of_ble_eq_true rfl) (by rfl) ?_) | ((with_reducible show xcls _ _ _ ∧ _); refine s_cls (by rfl) (by rfl) ?_))
      rw [and63]
      refine v_mnext hc2 hKM hw (xm_lt x) ?_
      refine s_sI (i := c) (by rfl) (by rfl) (by rfl) (by rfl) (by rfl) (by omega) (by decide) ?_
      unfold wp_Model_step_112
      have eN : gat (fun k => bl (wl (L2 132) (201 * c) (C 3 k)) (xm x)) (C 0 2) = nD D st (fun k => bt x k) c := by
        rw [nD, hD]; exact gat_ext _ (fun j hj => hva _ (hw.2.2.2.2.1.1 j hj))
      rw [eN]
      refine hk (2 - (c + 1)) _ (by omega) ⟨c + 1, _, L2, o ||| oD D st (fun k => bt x k) c * 2 ^ (8 * c), rfl, by omega, by rw [n_lit, n_add, oD, hD]; rfl, fun k q1 q2 => by rw [up_k q2, g1 k q1 q2], fun j => by rw [up_k (by decide), g2], fun k q1 => by rw [k2 k q1, g3 k q1], fun c' hc' => ?_, ?_⟩
      · rw [up_i]
        by_cases h1 : c' = c
        · subst h1; rw [if_pos rfl, if_pos (by omega)]
        · rw [if_neg h1, g4 c' hc']
          by_cases h2 : c' < c
          · rw [if_pos h2, if_pos (by omega)]
          · rw [if_neg h2, if_neg (by omega)]
      · rw [go]
        rcases c_cases hc2 with rfl | rfl
        · simp
        · simp
    · repeat (first | ((with_reducible show ∃ _, _ ∧ _); first | refine s_fI (by rfl) (by rfl) (by rfl) ?_ | refine s_fR (by rfl) (by rfl) (by rfl) ?_ | refine s_pV (by rfl) (by rfl) (Nat.le_of_ble_eq_true rfl) (by rfl) ?_) | ((with_reducible show xcls _ _ _ ∧ _); refine s_cls (by rfl) (by rfl) ?_))
      refine s_aI (i := 8 * c + k) (by rfl) (by rfl) (by rfl) (by rw [n_lit, n_mul, n_add]) (by omega) (by decide) ?_
      have hdl := hw.2.2.2.2.1.2.1 k (by omega)
      have h2 := hw.lit hdl
      rw [hKM.2.2.2.2.2.1 k (by omega)]
      repeat (first | ((with_reducible show ∃ _, _ ∧ _); first | refine s_fI (by rfl) (by rfl) (by rfl) ?_ | refine s_fR (by rfl) (by rfl) (by rfl) ?_ | refine s_pV (by rfl) (by rfl) (Nat.le_of_ble_eq_true rfl) (by rfl) ?_) | ((with_reducible show xcls _ _ _ ∧ _); refine s_cls (by rfl) (by rfl) ?_))
      refine v_of (by omega) (by omega) ?_
      rintro v11 rfl
      refine hk2 (C 0 3 - (k + 1)) _ (by omega) ⟨k + 1, rfl, by omega, ?_⟩
      rw [and63, bl_shr32 _ (xm_lt x), hva _ hdl, show (8 : Int32) * Int32.ofNat c + Int32.ofNat k = Int32.ofNat (8 * c + k) by rw [n_lit, n_mul, n_add], n_shl (by omega), n_or, n_lit, n_add, gat, or_shl, ← Nat.or_assoc, Nat.mul_assoc, ← Nat.pow_add, Nat.add_comm k (8 * c)]
theorem v_Judge_step {e : xenv} {w : Bool} {F : Nat → Nat → Int32} {L : Nat → Nat → Int64} {g : xh} {z : Nat → Nat} {Q : Int32 → xh → Prop} {D : Nat → Option (Nat → Nat → Nat)} {st : Nat → Nat} {x : Int32} (hR : RC F D) (hW : WD D) (hs : ∀ c, c < 2 → F 77 c = Int32.ofNat (st c))
    (h : ∀ F', (∀ k, k ≠ 77 → k ≠ 78 → k ≠ 79 → F' k = F k) → (∀ c, c < 2 → F' 77 c = Int32.ofNat (nD D st (fun k => bt x k) c)) → Q (Int32.ofNat (oD D st (fun k => bt x k) 0 ||| oD D st (fun k => bt x k) 1 * 256)) (mem e w F' L g)) : wp_Judge_step z Q (ad e 60) x (mem e w F L g) := by
  unfold wp_Judge_step
  repeat (first | ((with_reducible show ∃ _, _ ∧ _); first | refine s_fI (by rfl) (by rfl) (by rfl) ?_ | refine s_fR (by rfl) (by rfl) (by rfl) ?_ | refine s_pV (by rfl) (by rfl) (Nat.le_of_ble_eq_true rfl) (by rfl) ?_) | ((with_reducible show xcls _ _ _ ∧ _); refine s_cls (by rfl) (by rfl) ?_))
  exact v_play (p := 76) (Or.inl rfl) hR hW hs h
theorem v_Judge_reset {e : xenv} {w : Bool} {F : Nat → Nat → Int32} {L : Nat → Nat → Int64} {g : xh} {z : Nat → Nat} {Q : xh → Prop} (h : ∀ F', (∀ k, k ≠ 77 → F' k = F k) → (∀ c, c < 2 → F' 77 c = 0) → Q (mem e w F' L g)) : wp_Judge_reset z Q (ad e 60) (mem e w F L g) := by
  unfold wp_Judge_reset
  repeat (first | ((with_reducible show ∃ _, _ ∧ _); first | refine s_fI (by rfl) (by rfl) (by rfl) ?_ | refine s_fR (by rfl) (by rfl) (by rfl) ?_ | refine s_pV (by rfl) (by rfl) (Nat.le_of_ble_eq_true rfl) (by rfl) ?_) | ((with_reducible show xcls _ _ _ ∧ _); refine s_cls (by rfl) (by rfl) ?_))
  unfold wp_Player_rest
  repeat (first | ((with_reducible show ∃ _, _ ∧ _); first | refine s_fI (by rfl) (by rfl) (by rfl) ?_ | refine s_fR (by rfl) (by rfl) (by rfl) ?_ | refine s_pV (by rfl) (by rfl) (Nat.le_of_ble_eq_true rfl) (by rfl) ?_) | ((with_reducible show xcls _ _ _ ∧ _); refine s_cls (by rfl) (by rfl) ?_))
  exact v_fill1 (n := 2) (by rfl) (fun _ => rfl) (by decide) h
theorem v_Model_reset {e : xenv} {w : Bool} {F : Nat → Nat → Int32} {L : Nat → Nat → Int64} {g : xh} {z : Nat → Nat} {Q : xh → Prop} (h : ∀ F', (∀ k, k ≠ 100 → k ≠ 131 → F' k = F k) → (∀ j, F' 100 j = if j = 0 then 0 else F 100 j) → (∀ c, c < 2 → F' 131 c = 0) → Q (mem e w F' L g)) : wp_Model_reset z Q (ad e 100) (mem e w F L g) := by
  unfold wp_Model_reset
  repeat (first | ((with_reducible show ∃ _, _ ∧ _); first | refine s_fI (by rfl) (by rfl) (by rfl) ?_ | refine s_fR (by rfl) (by rfl) (by rfl) ?_ | refine s_pV (by rfl) (by rfl) (Nat.le_of_ble_eq_true rfl) (by rfl) ?_) | ((with_reducible show xcls _ _ _ ∧ _); refine s_cls (by rfl) (by rfl) ?_))
  refine s_sI (i := 0) (by rfl) (by rfl) (by rfl) (by rfl) (by rfl) (by decide) (by decide) ?_
  repeat (first | ((with_reducible show ∃ _, _ ∧ _); first | refine s_fI (by rfl) (by rfl) (by rfl) ?_ | refine s_fR (by rfl) (by rfl) (by rfl) ?_ | refine s_pV (by rfl) (by rfl) (Nat.le_of_ble_eq_true rfl) (by rfl) ?_) | ((with_reducible show xcls _ _ _ ∧ _); refine s_cls (by rfl) (by rfl) ?_))
  refine s_sI (i := 1) (by rfl) (by rfl) (by rfl) (by rfl) (by rfl) (by decide) (by decide) ?_
  refine h _ (fun k q1 q2 => by rw [up_k q2, up_k q2, up_k q1]) (fun j => by rw [up_k (by decide), up_k (by decide), up_i]) (fun c hc => ?_)
  rw [up_i, up_i]
  rcases c_cases hc with rfl | rfl <;> simp
theorem v_Judge_fault {e : xenv} {w : Bool} {F : Nat → Nat → Int32} {L : Nat → Nat → Int64} {g : xh} {z : Nat → Nat} {Q : Int32 → xh → Prop} {x : Int32} (h : Q (if x = 0 then F 64 11 else if x = 1 then F 64 12 else -1) (mem e w F L g)) : wp_Judge_fault z Q (ad e 60) x (mem e w F L g) := by
  unfold wp_Judge_fault
  refine ⟨fun hx => ?_, fun hx => ⟨fun hy => ?_, fun hy => ?_⟩⟩
  · repeat (first | ((with_reducible show ∃ _, _ ∧ _); first | refine s_fI (by rfl) (by rfl) (by rfl) ?_ | refine s_fR (by rfl) (by rfl) (by rfl) ?_ | refine s_pV (by rfl) (by rfl) (Nat.le_of_ble_eq_true rfl) (by rfl) ?_) | ((with_reducible show xcls _ _ _ ∧ _); refine s_cls (by rfl) (by rfl) ?_))
    rw [if_pos hx] at h; exact h
  · repeat (first | ((with_reducible show ∃ _, _ ∧ _); first | refine s_fI (by rfl) (by rfl) (by rfl) ?_ | refine s_fR (by rfl) (by rfl) (by rfl) ?_ | refine s_pV (by rfl) (by rfl) (Nat.le_of_ble_eq_true rfl) (by rfl) ?_) | ((with_reducible show xcls _ _ _ ∧ _); refine s_cls (by rfl) (by rfl) ?_))
    rw [if_neg hx, if_pos hy] at h; exact h
  · rw [if_neg hx, if_neg hy] at h; exact h
theorem v_Model_fault {e : xenv} {w : Bool} {F : Nat → Nat → Int32} {L : Nat → Nat → Int64} {g : xh} {z : Nat → Nat} {Q : Int32 → xh → Prop} {x : Int32} (h : Q (if x = 0 then F 100 4 else if x = 1 then F 100 5 else -1) (mem e w (up F 100 0 0) L g)) : wp_Model_fault z Q (ad e 100) x (mem e w F L g) := by
  unfold wp_Model_fault
  repeat (first | ((with_reducible show ∃ _, _ ∧ _); first | refine s_fI (by rfl) (by rfl) (by rfl) ?_ | refine s_fR (by rfl) (by rfl) (by rfl) ?_ | refine s_pV (by rfl) (by rfl) (Nat.le_of_ble_eq_true rfl) (by rfl) ?_) | ((with_reducible show xcls _ _ _ ∧ _); refine s_cls (by rfl) (by rfl) ?_))
  refine ⟨fun hx => ⟨fun hy => ?_, fun hy => ?_⟩, fun hx => ?_⟩
  · rw [if_neg hx, if_neg hy] at h; exact h
  · repeat (first | ((with_reducible show ∃ _, _ ∧ _); first | refine s_fI (by rfl) (by rfl) (by rfl) ?_ | refine s_fR (by rfl) (by rfl) (by rfl) ?_ | refine s_pV (by rfl) (by rfl) (Nat.le_of_ble_eq_true rfl) (by rfl) ?_) | ((with_reducible show xcls _ _ _ ∧ _); refine s_cls (by rfl) (by rfl) ?_))
    rw [if_neg hx, if_pos hy] at h; rw [up_i, if_neg (by decide)]; exact h
  · repeat (first | ((with_reducible show ∃ _, _ ∧ _); first | refine s_fI (by rfl) (by rfl) (by rfl) ?_ | refine s_fR (by rfl) (by rfl) (by rfl) ?_ | refine s_pV (by rfl) (by rfl) (Nat.le_of_ble_eq_true rfl) (by rfl) ?_) | ((with_reducible show xcls _ _ _ ∧ _); refine s_cls (by rfl) (by rfl) ?_))
    rw [if_pos hx] at h; rw [up_i, if_neg (by decide)]; exact h
theorem v_Judge_state {e : xenv} {w : Bool} {F : Nat → Nat → Int32} {L : Nat → Nat → Int64} {g : xh} {z : Nat → Nat} {Q : Int32 → xh → Prop} {x : Int32} {D : Nat → Option (Nat → Nat → Nat)} {st : Nat → Nat} (hR : RC F D) (hs : ∀ c, c < 2 → F 77 c = Int32.ofNat (st c)) (h0 : (∀ c C, c < 2 → x = Int32.ofNat c → D c ≠ some C) → Q (-1) (mem e w F L g)) (h1 : ∀ c C, c < 2 → x = Int32.ofNat c → D c = some C → Q (Int32.ofNat (st c)) (mem e w F L g)) : wp_Judge_state z Q (ad e 60) x (mem e w F L g) := by
  unfold wp_Judge_state
  repeat (first | ((with_reducible show ∃ _, _ ∧ _); first | refine s_fI (by rfl) (by rfl) (by rfl) ?_ | refine s_fR (by rfl) (by rfl) (by rfl) ?_ | refine s_pV (by rfl) (by rfl) (Nat.le_of_ble_eq_true rfl) (by rfl) ?_) | ((with_reducible show xcls _ _ _ ∧ _); refine s_cls (by rfl) (by rfl) ?_))
  refine v_isThere hR (fun hn => ⟨fun _ => h0 hn, fun h => absurd rfl h⟩) (fun c C hc hx hD => ⟨fun h => absurd h (by decide), fun _ => ?_⟩)
  subst hx
  repeat (first | ((with_reducible show ∃ _, _ ∧ _); first | refine s_fI (by rfl) (by rfl) (by rfl) ?_ | refine s_fR (by rfl) (by rfl) (by rfl) ?_ | refine s_pV (by rfl) (by rfl) (Nat.le_of_ble_eq_true rfl) (by rfl) ?_) | ((with_reducible show xcls _ _ _ ∧ _); refine s_cls (by rfl) (by rfl) ?_))
  refine s_aI (i := c) (by rfl) (by rfl) (by rfl) (by rfl) (by omega) (by decide) ?_
  rw [hs c hc]
  exact h1 c C hc rfl hD
theorem v_Model_state {e : xenv} {w : Bool} {F : Nat → Nat → Int32} {L : Nat → Nat → Int64} {g : xh} {z : Nat → Nat} {Q : Int32 → xh → Prop} {x : Int32} {D : Nat → Option (Nat → Nat → Nat)} {st : Nat → Nat} (hR : RM F D) (hs : ∀ c, c < 2 → F 131 c = Int32.ofNat (st c)) (h0 : (∀ c C, c < 2 → x = Int32.ofNat c → D c ≠ some C) → Q (-1) (mem e w (up F 100 0 0) L g)) (h1 : ∀ c C, c < 2 → x = Int32.ofNat c → D c = some C → Q (Int32.ofNat (st c)) (mem e w (up F 100 0 0) L g)) : wp_Model_state z Q (ad e 100) x (mem e w F L g) := by
  unfold wp_Model_state
  repeat (first | ((with_reducible show ∃ _, _ ∧ _); first | refine s_fI (by rfl) (by rfl) (by rfl) ?_ | refine s_fR (by rfl) (by rfl) (by rfl) ?_ | refine s_pV (by rfl) (by rfl) (Nat.le_of_ble_eq_true rfl) (by rfl) ?_) | ((with_reducible show xcls _ _ _ ∧ _); refine s_cls (by rfl) (by rfl) ?_))
  refine v_mIsThere (RM.kept (fun k q1 q2 => up_k (by omega)) hR) (fun hn => ⟨fun _ => h0 hn, fun h => absurd rfl h⟩) (fun c C hc hx hD => ⟨fun h => absurd h (by decide), fun _ => ?_⟩)
  subst hx
  repeat (first | ((with_reducible show ∃ _, _ ∧ _); first | refine s_fI (by rfl) (by rfl) (by rfl) ?_ | refine s_fR (by rfl) (by rfl) (by rfl) ?_ | refine s_pV (by rfl) (by rfl) (Nat.le_of_ble_eq_true rfl) (by rfl) ?_) | ((with_reducible show xcls _ _ _ ∧ _); refine s_cls (by rfl) (by rfl) ?_))
  refine s_aI (i := c) (by rfl) (by rfl) (by rfl) (by rfl) (by omega) (by decide) ?_
  rw [up_k (by decide), hs c hc]
  exact h1 c C hc rfl hD
theorem v_size {e : xenv} {w : Bool} {F : Nat → Nat → Int32} {L : Nat → Nat → Int64} {g : xh} {z : Nat → Nat} {Q : Int32 → xh → Prop} {b : Nat} {y : Int32} (hb : b = 0 ∨ b = 20 ∨ b = 40) (h0 : (∀ j, j < 5 → y ≠ Int32.ofNat j) → Q (-1) (mem e w F L g)) (h1 : ∀ j, j < 5 → y = Int32.ofNat j → Q (F b (1 + j)) (mem e w F L g)) : wp_Circuit_size z Q (ad e b) y (mem e w F L g) := by
  unfold wp_Circuit_size
  refine ⟨fun hy => ?_, fun n0 => ⟨fun hy => ?_, fun n1 => ⟨fun hy => ?_, fun n2 => ⟨fun hy => ?_, fun n3 => ⟨fun hy => ?_, fun n4 => h0 ?_⟩⟩⟩⟩⟩
  · exact c_fI hb (by decide) (h1 0 (by decide) hy)
  · exact c_fI hb (by decide) (h1 1 (by decide) hy)
  · exact c_fI hb (by decide) (h1 2 (by decide) hy)
  · exact c_fI hb (by decide) (h1 3 (by decide) hy)
  · exact c_fI hb (by decide) (h1 4 (by decide) hy)
  · intro j hj
    rcases (by omega : j = 0 ∨ j = 1 ∨ j = 2 ∨ j = 3 ∨ j = 4) with rfl | rfl | rfl | rfl | rfl
    · exact n0
    · exact n1
    · exact n2
    · exact n3
    · exact n4
theorem v_Judge_many {e : xenv} {w : Bool} {F : Nat → Nat → Int32} {L : Nat → Nat → Int64} {g : xh} {z : Nat → Nat} {Q : Int32 → xh → Prop} {x y : Int32} {D : Nat → Option (Nat → Nat → Nat)} (hR : RC F D) (h0 : (∀ c C j, c < 2 → x = Int32.ofNat c → D c = some C → j < 5 → y ≠ Int32.ofNat j) → Q (-1) (mem e w F L g)) (h1 : ∀ c C j, c < 2 → x = Int32.ofNat c → D c = some C → j < 5 → y = Int32.ofNat j → Q (Int32.ofNat (C 0 j)) (mem e w F L g)) : wp_Judge_many z Q (ad e 60) x y (mem e w F L g) := by
  unfold wp_Judge_many
  repeat (first | ((with_reducible show ∃ _, _ ∧ _); first | refine s_fI (by rfl) (by rfl) (by rfl) ?_ | refine s_fR (by rfl) (by rfl) (by rfl) ?_ | refine s_pV (by rfl) (by rfl) (Nat.le_of_ble_eq_true rfl) (by rfl) ?_) | ((with_reducible show xcls _ _ _ ∧ _); refine s_cls (by rfl) (by rfl) ?_))
  refine v_isThere hR (fun hn => ⟨fun _ => h0 (fun c C j q1 q2 q3 => absurd q3 (hn c C q1 q2)), fun h => absurd rfl h⟩) (fun c C hc hx hD => ⟨fun h => absurd h (by decide), fun _ => ?_⟩)
  subst hx
  repeat (first | ((with_reducible show ∃ _, _ ∧ _); first | refine s_fI (by rfl) (by rfl) (by rfl) ?_ | refine s_fR (by rfl) (by rfl) (by rfl) ?_ | refine s_pV (by rfl) (by rfl) (Nat.le_of_ble_eq_true rfl) (by rfl) ?_) | ((with_reducible show xcls _ _ _ ∧ _); refine s_cls (by rfl) (by rfl) ?_))
  refine cs_aR hc ?_
  refine c_cls (b_of hc) ?_
  refine v_size (b_of hc) (fun hn => h0 (fun c' C' j q1 q2 q3 q4 => hn j q4)) (fun j hj hy => ?_)
  rw [((hR c hc).2 C hD).2.1 j hj]
  exact h1 c C j hc rfl hD hj hy
theorem v_Model_many {e : xenv} {w : Bool} {F : Nat → Nat → Int32} {L : Nat → Nat → Int64} {g : xh} {z : Nat → Nat} {Q : Int32 → xh → Prop} {x y : Int32} {D : Nat → Option (Nat → Nat → Nat)} (hR : RM F D) (h0 : (∀ c C j, c < 2 → x = Int32.ofNat c → D c = some C → j < 5 → y ≠ Int32.ofNat j) → Q (-1) (mem e w (up F 100 0 0) L g)) (h1 : ∀ c C j, c < 2 → x = Int32.ofNat c → D c = some C → j < 5 → y = Int32.ofNat j → Q (Int32.ofNat (C 0 j)) (mem e w (up F 100 0 0) L g)) : wp_Model_many z Q (ad e 100) x y (mem e w F L g) := by
  unfold wp_Model_many wp_Model_many_22
  repeat (first | ((with_reducible show ∃ _, _ ∧ _); first | refine s_fI (by rfl) (by rfl) (by rfl) ?_ | refine s_fR (by rfl) (by rfl) (by rfl) ?_ | refine s_pV (by rfl) (by rfl) (Nat.le_of_ble_eq_true rfl) (by rfl) ?_) | ((with_reducible show xcls _ _ _ ∧ _); refine s_cls (by rfl) (by rfl) ?_))
  refine v_mIsThere (RM.kept (fun k q1 q2 => up_k (by omega)) hR) (fun hn => ⟨fun _ => h0 (fun c C j q1 q2 q3 => absurd q3 (hn c C q1 q2)), fun h => absurd rfl h⟩) (fun c C hc hx hD => ⟨fun h => absurd h (by decide), fun _ => ?_⟩)
  subst hx
  refine ⟨fun hy => h0 (fun c' C' j q1 q2 q3 q4 q5 => ?_), fun hy => ?_⟩
  · rw [q5] at hy; exact absurd hy (n_pos j (by omega))
  obtain ⟨m, hm, rfl⟩ := nat_of hy
  refine ⟨fun hc => ?_, fun hc => ?_⟩ <;> rw [n_lit, n_le hm (by decide)] at hc
  · repeat (first | ((with_reducible show ∃ _, _ ∧ _); first | refine s_fI (by rfl) (by rfl) (by rfl) ?_ | refine s_fR (by rfl) (by rfl) (by rfl) ?_ | refine s_pV (by rfl) (by rfl) (Nat.le_of_ble_eq_true rfl) (by rfl) ?_) | ((with_reducible show xcls _ _ _ ∧ _); refine s_cls (by rfl) (by rfl) ?_))
    refine s_aI (i := 5 * c + m) (by rfl) (by rfl) (by rfl) (by rw [n_lit, n_mul, n_add]) (by omega) (by decide) ?_
    rw [up_k (by decide), ((hR c (by assumption)).2 C hD).2.1 m (by omega)]
    exact h1 c C m (by assumption) rfl hD (by omega) rfl
  · refine h0 (fun c' C' j q1 q2 q3 q4 q5 => ?_)
    have := n_inj (by omega) (by omega) q5
    omega
