/-! The reference's reckoning: words of 64 bits. -/
def bl (x : Int64) (i : Nat) : Bool := x.toBitVec.getLsbD i
theorem bl_and (x y : Int64) (i : Nat) : bl (x &&& y) i = (bl x i && bl y i) := BitVec.getLsbD_and
theorem bl_or (x y : Int64) (i : Nat) : bl (x ||| y) i = (bl x i || bl y i) := BitVec.getLsbD_or
theorem bl_xor (x y : Int64) (i : Nat) : bl (x ^^^ y) i = (bl x i ^^ bl y i) := BitVec.getLsbD_xor
theorem bl_zero (i : Nat) : bl 0 i = false := BitVec.getLsbD_zero
theorem bl_ones {i : Nat} (hi : i < 64) : bl (-1) i = true := by
  have h : ∀ i : Fin 64, bl (-1) i.1 = true := by decide +kernel
  exact h ⟨i, hi⟩
theorem bl_ext {x y : Int64} (h : ∀ i, i < 64 → bl x i = bl y i) : x = y := Int64.toBitVec.inj (BitVec.eq_of_getLsbD_eq (fun i hi => h i hi))
theorem bl_shift {s : Nat} (hs : s < 64) : (((Int32.ofNat s).toInt64 &&& 63).toBitVec.smod 64).toNat = s := by
  have h : ∀ s : Fin 64, (((Int32.ofNat s.1).toInt64 &&& 63).toBitVec.smod 64).toNat = s.1 := by decide +kernel
  exact h ⟨s, hs⟩
theorem bl_one (i : Nat) (hi : i < 64) : bl 1 i = decide (i = 0) := by
  have h : ∀ i : Fin 64, bl 1 i.1 = decide (i.1 = 0) := by decide +kernel
  exact h ⟨i, hi⟩
theorem bl_shr1 (x : Int64) {s : Nat} (hs : s < 64) : (x >>> ((Int32.ofNat s).toInt64 &&& 63)) &&& 1 = bif bl x s then 1 else 0 := by
  apply bl_ext
  intro i hi
  rw [bl_and, bl_one i hi]
  by_cases h0 : i = 0
  · subst h0
    show ((x.toBitVec.sshiftRight (((Int32.ofNat s).toInt64 &&& 63).toBitVec.smod 64).toNat).getLsbD 0 && _) = _
    rw [bl_shift hs, BitVec.getLsbD_sshiftRight]
    show _ = bl (bif x.toBitVec.getLsbD s then 1 else 0) 0
    cases hb : x.toBitVec.getLsbD s <;> rw [BitVec.getLsbD_eq_getElem hs] at hb <;> simp [hb, hs, bl_zero, bl_one]
  · cases bl x s <;> simp [h0, bl_zero, bl_one, hi]
theorem bl_shr32 (x : Int64) {s : Nat} (hs : s < 64) : ((x >>> ((Int32.ofNat s).toInt64 &&& 63)) &&& 1).toInt32 = Int32.ofNat (bl x s).toNat := by
  rw [bl_shr1 x hs]; cases bl x s <;> rfl
/-- the lowest six bits -/
def xm (x : Int32) : Nat := x.toBitVec.toNat % 64
theorem xm_lt (x : Int32) : xm x < 64 := Nat.mod_lt _ (by decide)
theorem and63 (x : Int32) : x &&& 63 = Int32.ofNat (xm x) := by
  apply Int32.toBitVec.inj
  apply BitVec.eq_of_toNat_eq
  show (x.toBitVec &&& 63#32).toNat = (BitVec.ofNat 32 (xm x)).toNat
  rw [BitVec.toNat_and, BitVec.toNat_ofNat, BitVec.toNat_ofNat, Nat.mod_eq_of_lt (show xm x < 2 ^ 32 by have := xm_lt x; omega)]
  show x.toBitVec.toNat &&& (2 ^ 6 - 1) = _
  rw [Nat.and_two_pow_sub_one_eq_mod]
  rfl
theorem xm_bit (x : Int32) {k : Nat} (hk : k < 6) : (xm x).testBit k = bt x k := by
  unfold xm bt
  rw [show (64 : Nat) = 2 ^ 6 from rfl, Nat.testBit_mod_two_pow]
  simp [hk, BitVec.getLsbD]
def ms (s : Nat) : Nat := if s < 5 then s else if s < 11 then s + 1 else s + 3
def KM (c : Nat) (F : Nat → Nat → Int32) (C : Nat → Nat → Nat) : Prop :=
  (∀ j, j < 5 → F 110 (5 * c + j) = Int32.ofNat (C 0 j)) ∧
  (∀ v, v < 201 → F 118 (201 * c + v) = Int32.ofNat (C 8 v)) ∧
  (∀ y, y < C 0 4 → C 11 y < 150 ∧ F 127 (150 * c + y) = Int32.ofNat (C 11 y) ∧ F 115 (150 * c + C 11 y) = Int32.ofNat (2 * C 5 y) ∧ F 116 (150 * c + C 11 y) = Int32.ofNat (C 6 y) ∧ F 117 (150 * c + C 11 y) = Int32.ofNat (C 7 y)) ∧
  (∀ k, k < C 0 1 → F 111 (5 * c + k) = Int32.ofNat (2 * C 1 k)) ∧
  (∀ k, k < C 0 2 → F 112 (7 * c + k) = Int32.ofNat (2 * C 2 k) ∧ F 113 (7 * c + k) = Int32.ofNat (C 3 k)) ∧
  (∀ k, k < C 0 3 → F 114 (8 * c + k) = Int32.ofNat (C 4 k)) ∧
  (∀ s, s < 19 → F 125 (22 * c + ms s) = Int32.ofNat (C 9 s) ∧ ∀ i, i < C 9 s → bv (F 124 (40 * (22 * c + ms s) + i)) = C 10 (40 * s + i))
def wl (f : Nat → Int64) (base l : Nat) : Int64 := if l % 2 = 1 then f (base + l / 2) ^^^ (-1) else f (base + l / 2)
theorem bl_wl {f : Nat → Int64} {base l i : Nat} (hi : i < 64) : bl (wl f base l) i = (bl (f (base + l / 2)) i ^^ decide (l % 2 = 1)) := by
  unfold wl
  by_cases h : l % 2 = 1
  · rw [if_pos h, bl_xor, bl_ones hi, decide_eq_true h]
  · rw [if_neg h, decide_eq_false h, Bool.xor_false]
theorem n_rem {l : Nat} (h : l < 2147483648) : Int32.ofNat l - Int32.ofNat l / 2 * 2 = Int32.ofNat (l % 2) := by
  rw [n_lit, n_div h (by decide), n_mul, n_sub (by omega), show l - l / 2 * 2 = l % 2 by omega]
theorem n_half {l : Nat} (h : l < 2147483648) : Int32.ofNat l / 2 = Int32.ofNat (l / 2) := by rw [n_lit, n_div h (by decide)]
theorem v_of {e : xenv} {w : Bool} {F : Nat → Nat → Int32} {L : Nat → Nat → Int64} {g : xh} {z : Nat → Nat} {Q : Int64 → xh → Prop} {c l : Nat} (hc : c < 2) (hl : l < 402) (h : Q (wl (L 132) (201 * c) l) (mem e w F L g)) : wp_Model_of z Q (ad e 100) (Int32.ofNat c) (Int32.ofNat l) (mem e w F L g) := by
  unfold wp_Model_of
  rw [n_rem (by omega), n_half (by omega)]
  refine ⟨fun hc1 => ?_, fun hc1 => ?_⟩
  · repeat (first | ((with_reducible show ∃ _, _ ∧ _); first | refine s_fI (by rfl) (by rfl) (by rfl) ?_ | refine s_fR (by rfl) (by rfl) (by rfl) ?_ | refine s_pV (by rfl) (by rfl) (Nat.le_of_ble_eq_true rfl) (by rfl) ?_) | ((with_reducible show xcls _ _ _ ∧ _); refine s_cls (by rfl) (by rfl) ?_))
    refine s_aL (i := 201 * c + l / 2) (by rfl) (by rfl) (by rfl) (by rw [n_lit, n_mul, n_add]) (by omega) (by decide) ?_
    rw [wl, if_neg] at h
    · exact h
    · exact fun e1 => hc1 (by rw [e1]; rfl)
  · repeat (first | ((with_reducible show ∃ _, _ ∧ _); first | refine s_fI (by rfl) (by rfl) (by rfl) ?_ | refine s_fR (by rfl) (by rfl) (by rfl) ?_ | refine s_pV (by rfl) (by rfl) (Nat.le_of_ble_eq_true rfl) (by rfl) ?_) | ((with_reducible show xcls _ _ _ ∧ _); refine s_cls (by rfl) (by rfl) ?_))
    refine s_aL (i := 201 * c + l / 2) (by rfl) (by rfl) (by rfl) (by rw [n_lit, n_mul, n_add]) (by omega) (by decide) ?_
    rw [wl, if_pos] at h
    · exact h
    · exact n_inj (by omega) (by decide) hc1
def mvec (k : Nat) : Int64 := match k with
  | 0 => -6148914691236517206
  | 1 => -3689348814741910324
  | 2 => -1085102592571150096
  | 3 => -71777214294589696
  | _ => -281470681808896
theorem mvec_bit {k i : Nat} (hk : k < 5) (hi : i < 64) : bl (mvec k) i = i.testBit k := by
  have h : ∀ k : Fin 5, ∀ i : Fin 64, bl (mvec k.1) i.1 = i.1.testBit k.1 := by decide +kernel
  exact h ⟨k, hk⟩ ⟨i, hi⟩
theorem v_vectors {e : xenv} {w : Bool} {F : Nat → Nat → Int32} {L : Nat → Nat → Int64} {g : xh} {z : Nat → Nat} {Q : Int64 → xh → Prop} {k : Nat} (hk : k < 5) (h : Q (mvec k) (mem e w F L g)) : wp_Model_vectors z Q (Int32.ofNat k) (mem e w F L g) := by
  unfold wp_Model_vectors
  have ne : ∀ j, k ≠ j → j < 5 → ¬ Int32.ofNat k = Int32.ofNat j := fun j h1 h2 h3 => h1 (n_inj (by omega) (by omega) h3)
  rcases (by omega : k = 0 ∨ k = 1 ∨ k = 2 ∨ k = 3 ∨ k = 4) with rfl | rfl | rfl | rfl | rfl
  · exact ⟨fun _ => h, fun h1 => absurd rfl h1⟩
  · exact ⟨fun h1 => absurd h1 (by decide), fun _ => ⟨fun _ => h, fun h1 => absurd rfl h1⟩⟩
  · exact ⟨fun h1 => absurd h1 (by decide), fun _ => ⟨fun h1 => absurd h1 (by decide), fun _ => ⟨fun _ => h, fun h1 => absurd rfl h1⟩⟩⟩
  · exact ⟨fun h1 => absurd h1 (by decide), fun _ => ⟨fun h1 => absurd h1 (by decide), fun _ => ⟨fun h1 => absurd h1 (by decide), fun _ => ⟨fun _ => h, fun h1 => absurd rfl h1⟩⟩⟩⟩
  · exact ⟨fun h1 => absurd h1 (by decide), fun _ => ⟨fun h1 => absurd h1 (by decide), fun _ => ⟨fun h1 => absurd h1 (by decide), fun _ => ⟨fun h1 => absurd h1 (by decide), fun _ => h⟩⟩⟩⟩
theorem upL_k {F : Nat → Nat → Int64} {k i k' : Nat} {x : Int64} (h : k' ≠ k) : upL F k i x k' = F k' := if_neg h
theorem upL_i {F : Nat → Nat → Int64} {k i i' : Nat} {x : Int64} : upL F k i x k i' = if i' = i then x else F k i' := by rw [upL, if_pos rfl]; rfl
theorem v_reckon {e : xenv} {w : Bool} {F : Nat → Nat → Int32} {L : Nat → Nat → Int64} {g : xh} {z : Nat → Nat} {Q : xh → Prop} {C : Nat → Nat → Nat} {c : Nat} {s : Int32} (hc : c < 2) (hK : KM c F C) (hW : WF C)
    (h : ∀ L', (∀ k, k ≠ 132 → L' k = L k) → (∀ j, j < 201 * c ∨ 201 * c + 201 ≤ j → L' 132 j = L 132 j) → (∀ v, v = 0 ∨ C 8 v ≠ 0 → ∀ i, i < 64 → bl (L' 132 (201 * c + v)) i = va C (fun k => bt s k) (fun k => i.testBit k) v) → Q (mem e w F L' g)) :
    wp_Model_reckon z Q (ad e 100) (Int32.ofNat c) s (mem e w F L g) := by
  obtain ⟨q0, q8, q5, q1, q2, q4, q9⟩ := hK
  have hM := hW.1
  unfold wp_Model_reckon
  repeat (first | ((with_reducible show ∃ _, _ ∧ _); first | refine s_fI (by rfl) (by rfl) (by rfl) ?_ | refine s_fR (by rfl) (by rfl) (by rfl) ?_ | refine s_pV (by rfl) (by rfl) (Nat.le_of_ble_eq_true rfl) (by rfl) ?_) | ((with_reducible show xcls _ _ _ ∧ _); refine s_cls (by rfl) (by rfl) ?_))
  refine s_sL (i := 201 * c) (by rfl) (by rfl) (by rfl) (by rfl) (by rw [n_lit, n_mul]) (by omega) (by decide) ?_
  unfold wp_Model_reckon_13
  refine xloop_dn (fun m a => ∃ k L', m = C 0 1 - k ∧ k ≤ C 0 1 ∧ a = (ad e 100, Int32.ofNat c, s, Int32.ofNat k, mem e w F L' g) ∧ (∀ q, q ≠ 132 → L' q = L q) ∧ (∀ j, j < 201 * c ∨ 201 * c + 201 ≤ j → L' 132 j = L 132 j) ∧ (∀ v, v < 201 → ∀ i, i < 64 → bl (L' 132 (201 * c + v)) i = vI C (fun k => i.testBit k) (fun v => bif v == 0 then false else bl (L 132 (201 * c + v)) i) k v)) ?_ (C 0 1) _ ⟨0, _, rfl, by omega, rfl, fun q hq => upL_k hq, fun j hj => by rw [upL_i, if_neg (by omega)], fun v hv i hi => ?_⟩
  rotate_left
  · rw [upL_i]
    by_cases e0 : v = 0
    · rw [if_pos (by omega), e0]; exact bl_zero i
    · rw [if_neg (by omega)]; show _ = (bif v == 0 then false else _); rw [beq_false_of_ne e0]; rfl
  rintro m a cc ⟨k, L', rfl, hk1, rfl, g1, g2, g3⟩ hk
  unfold wp_Model_reckon_13_b; dsimp only
  repeat (first | ((with_reducible show ∃ _, _ ∧ _); first | refine s_fI (by rfl) (by rfl) (by rfl) ?_ | refine s_fR (by rfl) (by rfl) (by rfl) ?_ | refine s_pV (by rfl) (by rfl) (Nat.le_of_ble_eq_true rfl) (by rfl) ?_) | ((with_reducible show xcls _ _ _ ∧ _); refine s_cls (by rfl) (by rfl) ?_))
  refine s_aI (i := 5 * c + 1) (by rfl) (by rfl) (by rfl) (by rw [n_lit, n_mul, n_lit, n_add]) (by omega) (by decide) ?_
  rw [q0 1 (by decide)]
  refine ⟨fun hc => ?_, fun hc => ?_⟩ <;> rw [n_le (by omega) (by omega)] at hc
  rotate_left
  · repeat (first | ((with_reducible show ∃ _, _ ∧ _); first | refine s_fI (by rfl) (by rfl) (by rfl) ?_ | refine s_fR (by rfl) (by rfl) (by rfl) ?_ | refine s_pV (by rfl) (by rfl) (Nat.le_of_ble_eq_true rfl) (by rfl) ?_) | ((with_reducible show xcls _ _ _ ∧ _); refine s_cls (by rfl) (by rfl) ?_))
    refine s_aI (i := 5 * c + k) (by rfl) (by rfl) (by rfl) (by rw [n_lit, n_mul, n_add]) (by omega) (by decide) ?_
    have hv1 := hW.var (v := C 1 k) (by have := hW.2.2.1.1 k (by omega); omega)
    rw [q1 k (by omega), n_half (by omega), show 2 * C 1 k / 2 = C 1 k by omega]
    refine v_vectors (by omega) ?_
    refine s_sL (i := 201 * c + C 1 k) (by rfl) (by rfl) (by rfl) (by rfl) (by rw [n_lit, n_mul, n_add]) (by omega) (by decide) ?_
    refine hk (C 0 1 - (k + 1)) _ (by omega) ⟨k + 1, _, rfl, by omega, by rw [n_lit, n_add], fun q hq => (upL_k hq).trans (g1 q hq), fun j hj => by rw [upL_i, if_neg (by omega)]; exact g2 j hj, fun v hv i hi => ?_⟩
    show _ = upB _ _ _ v
    rw [upL_i, upB]
    by_cases e0 : v = C 1 k
    · rw [if_pos (by omega), if_pos e0]; exact mvec_bit (by omega) hi
    · rw [if_neg (by omega), if_neg e0]; exact g3 v hv i hi
  have : k = C 0 1 := by omega
  subst this
  unfold wp_Model_reckon_62
  refine xloop_dn (fun m a => ∃ k L', m = C 0 2 - k ∧ k ≤ C 0 2 ∧ a = (ad e 100, Int32.ofNat c, s, Int32.ofNat k, mem e w F L' g) ∧ (∀ q, q ≠ 132 → L' q = L q) ∧ (∀ j, j < 201 * c ∨ 201 * c + 201 ≤ j → L' 132 j = L 132 j) ∧ (∀ v, v < 201 → ∀ i, i < 64 → bl (L' 132 (201 * c + v)) i = vL C (fun k => bt s k) (vI C (fun k => i.testBit k) (fun v => bif v == 0 then false else bl (L 132 (201 * c + v)) i) (C 0 1)) k v)) ?_ (C 0 2) _ ⟨0, L', rfl, by omega, rfl, g1, g2, g3⟩
  clear hk g1 g2 g3 L'
  rintro m a cc ⟨k, L', rfl, hk1, rfl, g1, g2, g3⟩ hk
  unfold wp_Model_reckon_62_b; dsimp only
  repeat (first | ((with_reducible show ∃ _, _ ∧ _); first | refine s_fI (by rfl) (by rfl) (by rfl) ?_ | refine s_fR (by rfl) (by rfl) (by rfl) ?_ | refine s_pV (by rfl) (by rfl) (Nat.le_of_ble_eq_true rfl) (by rfl) ?_) | ((with_reducible show xcls _ _ _ ∧ _); refine s_cls (by rfl) (by rfl) ?_))
  refine s_aI (i := 5 * c + 2) (by rfl) (by rfl) (by rfl) (by rw [n_lit, n_mul, n_lit, n_add]) (by omega) (by decide) ?_
  rw [q0 2 (by decide)]
  refine ⟨fun hc => ?_, fun hc => ?_⟩ <;> rw [n_le (by omega) (by omega)] at hc
  rotate_left
  · repeat (first | ((with_reducible show ∃ _, _ ∧ _); first | refine s_fI (by rfl) (by rfl) (by rfl) ?_ | refine s_fR (by rfl) (by rfl) (by rfl) ?_ | refine s_pV (by rfl) (by rfl) (Nat.le_of_ble_eq_true rfl) (by rfl) ?_) | ((with_reducible show xcls _ _ _ ∧ _); refine s_cls (by rfl) (by rfl) ?_))
    refine s_aI (i := 7 * c + k) (by rfl) (by rfl) (by rfl) (by rw [n_lit, n_mul, n_add]) (by omega) (by decide) ?_
    have hv1 := hW.var (v := C 2 k) (by have := hW.2.2.1.2.1 k (by omega); omega)
    rw [(q2 k (by omega)).1, n_half (by omega), show 2 * C 2 k / 2 = C 2 k by omega, bt_shr1 s (by omega)]
    have key : ∀ y : Int64, (∀ i, i < 64 → bl y i = bt s k) → wp_Model_reckon_115 z Q cc (ad e 100) (Int32.ofNat c) s (Int32.ofNat k) y (201 * Int32.ofNat c + Int32.ofNat (C 2 k)) (ad e 132) (mem e w F L' g) := by
      intro y hy
      unfold wp_Model_reckon_115
      refine s_sL (i := 201 * c + C 2 k) (by rfl) (by rfl) (by rfl) (by rfl) (by rw [n_lit, n_mul, n_add]) (by omega) (by decide) ?_
      refine hk (C 0 2 - (k + 1)) _ (by omega) ⟨k + 1, _, rfl, by omega, by rw [n_lit, n_add], fun q hq => (upL_k hq).trans (g1 q hq), fun j hj => by rw [upL_i, if_neg (by omega)]; exact g2 j hj, fun v hv i hi => ?_⟩
      show _ = upB _ _ _ v
      rw [upL_i, upB]
      by_cases e0 : v = C 2 k
      · rw [if_pos (by omega), if_pos e0]; exact hy i hi
      · rw [if_neg (by omega), if_neg e0]; exact g3 v hv i hi
    refine ⟨fun hc1 => key 0 (fun i hi => ?_), fun hc1 => key (-1) (fun i hi => ?_)⟩
    · rw [bl_zero]
      cases hb : bt s k
      · rfl
      · rw [hb] at hc1; exact absurd rfl hc1
    · rw [bl_ones hi]
      cases hb : bt s k
      · rw [hb] at hc1; exact absurd hc1 (by decide)
      · rfl
  have : k = C 0 2 := by omega
  subst this
  unfold wp_Model_reckon_124
  refine xloop_dn (fun m a => ∃ k L', m = C 0 4 - k ∧ k ≤ C 0 4 ∧ a = (ad e 100, Int32.ofNat c, Int32.ofNat k, mem e w F L' g) ∧ (∀ q, q ≠ 132 → L' q = L q) ∧ (∀ j, j < 201 * c ∨ 201 * c + 201 ≤ j → L' 132 j = L 132 j) ∧ (∀ v, v < 201 → ∀ i, i < 64 → bl (L' 132 (201 * c + v)) i = vA C (vL C (fun k => bt s k) (vI C (fun k => i.testBit k) (fun v => bif v == 0 then false else bl (L 132 (201 * c + v)) i) (C 0 1)) (C 0 2)) k v)) ?_ (C 0 4) _ ⟨0, L', rfl, by omega, rfl, g1, g2, g3⟩
  clear hk g1 g2 g3 L'
  rintro m a cc ⟨k, L', rfl, hk1, rfl, g1, g2, g3⟩ hk
  unfold wp_Model_reckon_124_b; dsimp only
  repeat (first | ((with_reducible show ∃ _, _ ∧ _); first | refine s_fI (by rfl) (by rfl) (by rfl) ?_ | refine s_fR (by rfl) (by rfl) (by rfl) ?_ | refine s_pV (by rfl) (by rfl) (Nat.le_of_ble_eq_true rfl) (by rfl) ?_) | ((with_reducible show xcls _ _ _ ∧ _); refine s_cls (by rfl) (by rfl) ?_))
  refine s_aI (i := 5 * c + 4) (by rfl) (by rfl) (by rfl) (by rw [n_lit, n_mul, n_lit, n_add]) (by omega) (by decide) ?_
  rw [q0 4 (by decide)]
  refine ⟨fun hc => ?_, fun hc => ?_⟩ <;> rw [n_le (by omega) (by omega)] at hc
  rotate_left
  · have hy : k < C 0 4 := by omega
    have hv1 := hW.var (v := C 5 k) (by have := hW.2.2.1.2.2 k hy; omega)
    have hd := hW.2.2.2.2.1.2.2 k hy
    have hd1 := hW.lit hd.1
    have hd2 := hW.lit hd.2
    obtain ⟨p1, p2, p3, p4, p5⟩ := q5 k hy
    repeat (first | ((with_reducible show ∃ _, _ ∧ _); first | refine s_fI (by rfl) (by rfl) (by rfl) ?_ | refine s_fR (by rfl) (by rfl) (by rfl) ?_ | refine s_pV (by rfl) (by rfl) (Nat.le_of_ble_eq_true rfl) (by rfl) ?_) | ((with_reducible show xcls _ _ _ ∧ _); refine s_cls (by rfl) (by rfl) ?_))
    refine s_aI (i := 150 * c + k) (by rfl) (by rfl) (by rfl) (by rw [n_lit, n_mul, n_add]) (by omega) (by decide) ?_
    rw [p2]
    rintro v5 rfl
    repeat (first | ((with_reducible show ∃ _, _ ∧ _); first | refine s_fI (by rfl) (by rfl) (by rfl) ?_ | refine s_fR (by rfl) (by rfl) (by rfl) ?_ | refine s_pV (by rfl) (by rfl) (Nat.le_of_ble_eq_true rfl) (by rfl) ?_) | ((with_reducible show xcls _ _ _ ∧ _); refine s_cls (by rfl) (by rfl) ?_))
    refine s_aI (i := 150 * c + C 11 k) (by rfl) (by rfl) (by rfl) (by rw [n_lit, n_mul, n_add]) (by omega) (by decide) ?_
    rw [p3, n_half (by omega), show 2 * C 5 k / 2 = C 5 k by omega]
    repeat (first | ((with_reducible show ∃ _, _ ∧ _); first | refine s_fI (by rfl) (by rfl) (by rfl) ?_ | refine s_fR (by rfl) (by rfl) (by rfl) ?_ | refine s_pV (by rfl) (by rfl) (Nat.le_of_ble_eq_true rfl) (by rfl) ?_) | ((with_reducible show xcls _ _ _ ∧ _); refine s_cls (by rfl) (by rfl) ?_))
    refine s_aI (i := 150 * c + C 11 k) (by rfl) (by rfl) (by rfl) (by rw [n_lit, n_mul, n_add]) (by omega) (by decide) ?_
    rw [p4]
    repeat (first | ((with_reducible show ∃ _, _ ∧ _); first | refine s_fI (by rfl) (by rfl) (by rfl) ?_ | refine s_fR (by rfl) (by rfl) (by rfl) ?_ | refine s_pV (by rfl) (by rfl) (Nat.le_of_ble_eq_true rfl) (by rfl) ?_) | ((with_reducible show xcls _ _ _ ∧ _); refine s_cls (by rfl) (by rfl) ?_))
    refine v_of (by omega) (by omega) ?_
    repeat (first | ((with_reducible show ∃ _, _ ∧ _); first | refine s_fI (by rfl) (by rfl) (by rfl) ?_ | refine s_fR (by rfl) (by rfl) (by rfl) ?_ | refine s_pV (by rfl) (by rfl) (Nat.le_of_ble_eq_true rfl) (by rfl) ?_) | ((with_reducible show xcls _ _ _ ∧ _); refine s_cls (by rfl) (by rfl) ?_))
    refine s_aI (i := 150 * c + C 11 k) (by rfl) (by rfl) (by rfl) (by rw [n_lit, n_mul, n_add]) (by omega) (by decide) ?_
    rw [p5]
    repeat (first | ((with_reducible show ∃ _, _ ∧ _); first | refine s_fI (by rfl) (by rfl) (by rfl) ?_ | refine s_fR (by rfl) (by rfl) (by rfl) ?_ | refine s_pV (by rfl) (by rfl) (Nat.le_of_ble_eq_true rfl) (by rfl) ?_) | ((with_reducible show xcls _ _ _ ∧ _); refine s_cls (by rfl) (by rfl) ?_))
    refine v_of (by omega) (by omega) ?_
    refine s_sL (i := 201 * c + C 5 k) (by rfl) (by rfl) (by rfl) (by rfl) (by rw [n_lit, n_mul, n_add]) (by omega) (by decide) ?_
    refine hk (C 0 4 - (k + 1)) _ (by omega) ⟨k + 1, _, rfl, by omega, by rw [n_lit, n_add], fun q hq => (upL_k hq).trans (g1 q hq), fun j hj => by rw [upL_i, if_neg (by omega)]; exact g2 j hj, fun v hv i hi => ?_⟩
    show _ = upB _ _ _ v
    rw [upL_i, upB]
    by_cases e0 : v = C 5 k
    · rw [if_pos (by omega), if_pos e0, bl_and, bl_wl hi, bl_wl hi, g3 _ (by omega) i hi, g3 _ (by omega) i hi]
      rfl
    · rw [if_neg (by omega), if_neg e0]; exact g3 v hv i hi
  have : k = C 0 4 := by omega
  subst this
  refine h L' g1 g2 (fun v hv i hi => ?_)
  rw [g3 v (by rcases hv with hv | hv; omega; have := hW.var hv; omega) i hi]
  exact vF_dep hW (by rfl) hv
