/-! The tape: feed and end, of the class and of the reference. -/
def isB (x : Int32) : Prop := x.toInt8.toInt32 = x
theorem isB_nar (x : Int32) : isB x.toInt8.toInt32 := by unfold isB; simp
theorem isB_fits {x : Int32} (h : isB x) : fits .byte (.int x) = true := by
  have h1 : x.toInt = x.toInt8.toInt := by rw [← Int8.toInt_toInt32, h]
  have h2 := x.toInt8.toInt_lt
  have h3 := x.toInt8.le_toInt
  show (decide (-128 ≤ x) && decide (x ≤ 127)) = true
  rw [Bool.and_eq_true, decide_eq_true_eq, decide_eq_true_eq, Int32.le_iff_toInt_le, Int32.le_iff_toInt_le]
  have e1 : (-128 : Int32).toInt = -128 := rfl
  have e2 : (127 : Int32).toInt = 127 := rfl
  omega
/-- a byte as a number -/
def bv (x : Int32) : Nat := x.toBitVec.toNat % 256
theorem bv_lt (x : Int32) : bv x < 256 := Nat.mod_lt _ (by decide)
theorem and255 (x : Int32) : x &&& 255 = Int32.ofNat (bv x) := by
  apply Int32.toBitVec.inj
  apply BitVec.eq_of_toNat_eq
  show (x.toBitVec &&& 255#32).toNat = (BitVec.ofNat 32 (bv x)).toNat
  rw [BitVec.toNat_and, BitVec.toNat_ofNat, BitVec.toNat_ofNat, Nat.mod_eq_of_lt (show bv x < 2 ^ 32 by have := bv_lt x; omega)]
  show x.toBitVec.toNat &&& (2 ^ 8 - 1) = _
  rw [Nat.and_two_pow_sub_one_eq_mod]
  rfl
theorem bv_nat {b : Nat} (h : b < 256) : bv (Int32.ofNat b).toInt8.toInt32 = b := by
  have hh : ∀ b : Fin 256, bv (Int32.ofNat b.1).toInt8.toInt32 = b.1 := by decide +kernel
  exact hh ⟨b, h⟩
/-- byte k of an int, the highest first -/
def rb (x : Int32) (k : Nat) : Int32 := (x >>> ((24 - (8 * Int32.ofNat k)) &&& 31)).toInt8.toInt32
theorem rb_isB (x : Int32) (k : Nat) : isB (rb x k) := isB_nar _
theorem nar_byte (x : Int32) : vp_nar .byte x = x.toInt8.toInt32 := rfl
theorem up_k {F : Nat → Nat → Int32} {k i k' : Nat} {x : Int32} (h : k' ≠ k) : up F k i x k' = F k' := if_neg h
theorem up_i {F : Nat → Nat → Int32} {k i i' : Nat} {x : Int32} : up F k i x k i' = if i' = i then x else F k i' := by rw [up, if_pos rfl]; rfl
theorem upR_k {F : Nat → Nat → Int32} {k k' : Nat} {x : Nat → Int32} (h : k' ≠ k) : upR F k x k' = F k' := if_neg h
theorem upR_i {F : Nat → Nat → Int32} {k : Nat} {x : Nat → Int32} : upR F k x k = x := by rw [upR, if_pos rfl]
theorem n_pos (a : Nat) (ha : a < 2147483648) : ¬ Int32.ofNat a < 0 := by
  rw [show (0 : Int32) = Int32.ofNat 0 from rfl, n_lt ha (by decide)]; omega
theorem v_Tape_prepare {e : xenv} {w : Bool} {F : Nat → Nat → Int32} {L : Nat → Nat → Int64} {g : xh} {z : Nat → Nat} {Q : xh → Prop} {x : Int32} (f : Nat) (hf : f + 4 ≤ 20) (h : ∀ F', (∀ k, k ≠ 62 → F' k = F k) → (∀ i, F' 62 i = if f ≤ i ∧ i < f + 4 then rb x (i - f) else F 62 i) → Q (mem e w F' L g)) : wp_Tape_prepare z Q (ad e 61) (Int32.ofNat f) x (mem e w F L g) := by
  unfold wp_Tape_prepare wp_Tape_prepare_2
  refine xloop_dn (fun n a => ∃ i F', n = 4 - i ∧ i ≤ 4 ∧ a = (ad e 61, Int32.ofNat f, x, Int32.ofNat i, mem e w F' L g) ∧ (∀ k, k ≠ 62 → F' k = F k) ∧ (∀ j, F' 62 j = if f ≤ j ∧ j < f + i then rb x (j - f) else F 62 j)) ?_ 4 _ ⟨0, F, rfl, by omega, rfl, fun _ _ => rfl, fun j => by rw [if_neg (by omega)]⟩
  rintro n a k ⟨i, F', rfl, hi, rfl, h1, h2⟩ hk
  unfold wp_Tape_prepare_2_b; dsimp only
  refine ⟨fun hc => ?_, fun hc => ?_⟩ <;> rw [n_lit, n_le (by decide) (by omega)] at hc
  · have : i = 4 := by omega
    subst this
    exact h F' h1 h2
  · repeat (first | ((with_reducible show ∃ _, _ ∧ _); first | refine s_fI (by rfl) (by rfl) (by rfl) ?_ | refine s_fR (by rfl) (by rfl) (by rfl) ?_ | refine s_pV (by rfl) (by rfl) (Nat.le_of_ble_eq_true rfl) (by rfl) ?_) | ((with_reducible show xcls _ _ _ ∧ _); refine s_cls (by rfl) (by rfl) ?_))
    refine s_sI (i := f + i) (by rfl) (by rfl) (by rfl) (by rfl) (by rw [n_add]) (by omega) (by decide) ?_
    refine hk (4 - (i + 1)) _ (by omega) ⟨i + 1, _, rfl, by omega, by rw [n_lit, n_add], fun k hk => (up_k hk).trans (h1 k hk), fun j => ?_⟩
    rw [up_i, h2]
    by_cases hj : j = f + i
    · subst hj
      rw [if_pos rfl, if_pos (by omega), show f + i - f = i by omega, nar_byte]
      exact rb_isB x i
    · rw [if_neg hj]
      by_cases hj2 : f ≤ j ∧ j < f + i
      · rw [if_pos hj2, if_pos (by omega)]
      · rw [if_neg hj2, if_neg (by omega)]
/-- the bytes of feed -/
def fb (a b c d x : Int32) (i : Nat) : Int32 := rb (if i < 4 then a else if i < 8 then b else if i < 12 then c else if i < 16 then d else x) (i % 4)
theorem v_Judge_feed {e : xenv} {w : Bool} {F : Nat → Nat → Int32} {L : Nat → Nat → Int64} {g : xh} {z : Nat → Nat} {Q : xh → Prop} {a b c d x : Int32} (h : ∀ F', (∀ k, k ≠ 62 → F' k = F k) → (∀ i, i < 20 → F' 62 i = fb a b c d x i) → Q (mem e w F' L g)) : wp_Judge_feed z Q (ad e 60) a b c d x (mem e w F L g) := by
  unfold wp_Judge_feed
  repeat (first | ((with_reducible show ∃ _, _ ∧ _); first | refine s_fI (by rfl) (by rfl) (by rfl) ?_ | refine s_fR (by rfl) (by rfl) (by rfl) ?_ | refine s_pV (by rfl) (by rfl) (Nat.le_of_ble_eq_true rfl) (by rfl) ?_) | ((with_reducible show xcls _ _ _ ∧ _); refine s_cls (by rfl) (by rfl) ?_))
  refine v_Tape_prepare 0 (by omega) (fun F1 k1 i1 => ?_)
  repeat (first | ((with_reducible show ∃ _, _ ∧ _); first | refine s_fI (by rfl) (by rfl) (by rfl) ?_ | refine s_fR (by rfl) (by rfl) (by rfl) ?_ | refine s_pV (by rfl) (by rfl) (Nat.le_of_ble_eq_true rfl) (by rfl) ?_) | ((with_reducible show xcls _ _ _ ∧ _); refine s_cls (by rfl) (by rfl) ?_))
  refine v_Tape_prepare 4 (by omega) (fun F2 k2 i2 => ?_)
  repeat (first | ((with_reducible show ∃ _, _ ∧ _); first | refine s_fI (by rfl) (by rfl) (by rfl) ?_ | refine s_fR (by rfl) (by rfl) (by rfl) ?_ | refine s_pV (by rfl) (by rfl) (Nat.le_of_ble_eq_true rfl) (by rfl) ?_) | ((with_reducible show xcls _ _ _ ∧ _); refine s_cls (by rfl) (by rfl) ?_))
  refine v_Tape_prepare 8 (by omega) (fun F3 k3 i3 => ?_)
  repeat (first | ((with_reducible show ∃ _, _ ∧ _); first | refine s_fI (by rfl) (by rfl) (by rfl) ?_ | refine s_fR (by rfl) (by rfl) (by rfl) ?_ | refine s_pV (by rfl) (by rfl) (Nat.le_of_ble_eq_true rfl) (by rfl) ?_) | ((with_reducible show xcls _ _ _ ∧ _); refine s_cls (by rfl) (by rfl) ?_))
  refine v_Tape_prepare 12 (by omega) (fun F4 k4 i4 => ?_)
  repeat (first | ((with_reducible show ∃ _, _ ∧ _); first | refine s_fI (by rfl) (by rfl) (by rfl) ?_ | refine s_fR (by rfl) (by rfl) (by rfl) ?_ | refine s_pV (by rfl) (by rfl) (Nat.le_of_ble_eq_true rfl) (by rfl) ?_) | ((with_reducible show xcls _ _ _ ∧ _); refine s_cls (by rfl) (by rfl) ?_))
  refine v_Tape_prepare 16 (by omega) (fun F5 k5 i5 => ?_)
  refine h F5 (fun k hk => ?_) (fun i hi => ?_)
  · rw [k5 k hk, k4 k hk, k3 k hk, k2 k hk, k1 k hk]
  · rw [i5, i4, i3, i2, i1, fb]
    rcases (by omega : i < 4 ∨ (4 ≤ i ∧ i < 8) ∨ (8 ≤ i ∧ i < 12) ∨ (12 ≤ i ∧ i < 16) ∨ 16 ≤ i) with h | h | h | h | h
    · rw [if_neg (by omega), if_neg (by omega), if_neg (by omega), if_neg (by omega), if_pos (by omega), if_pos (by omega), show i - 0 = i % 4 by omega]
    · rw [if_neg (by omega), if_neg (by omega), if_neg (by omega), if_pos (by omega), if_neg (by omega), if_pos (by omega), show i - 4 = i % 4 by omega]
    · rw [if_neg (by omega), if_neg (by omega), if_pos (by omega), if_neg (by omega), if_neg (by omega), if_pos (by omega), show i - 8 = i % 4 by omega]
    · rw [if_neg (by omega), if_pos (by omega), if_neg (by omega), if_neg (by omega), if_neg (by omega), if_pos (by omega), show i - 12 = i % 4 by omega]
    · rw [if_pos (by omega), if_neg (by omega), if_neg (by omega), if_neg (by omega), if_neg (by omega), show i - 16 = i % 4 by omega]
theorem v_Model_feed {e : xenv} {w : Bool} {F : Nat → Nat → Int32} {L : Nat → Nat → Int64} {g : xh} {z : Nat → Nat} {Q : xh → Prop} {a b c d x : Int32} (h : ∀ F', (∀ k, k ≠ 102 → k ≠ 100 → F' k = F k) → (∀ j, F' 100 j = if j = 0 then 0 else F 100 j) → (∀ i, i < 20 → F' 102 i = fb a b c d x i) → Q (mem e w F' L g)) : wp_Model_feed z Q (ad e 100) a b c d x (mem e w F L g) := by
  unfold wp_Model_feed
  repeat (first | ((with_reducible show ∃ _, _ ∧ _); first | refine s_fI (by rfl) (by rfl) (by rfl) ?_ | refine s_fR (by rfl) (by rfl) (by rfl) ?_ | refine s_pV (by rfl) (by rfl) (Nat.le_of_ble_eq_true rfl) (by rfl) ?_) | ((with_reducible show xcls _ _ _ ∧ _); refine s_cls (by rfl) (by rfl) ?_))
  unfold wp_Model_feed_8
  refine xloop_dn (fun n q => ∃ i F', n = 20 - i ∧ i ≤ 20 ∧ q = (ad e 100, a, b, c, d, x, Int32.ofNat i, mem e w F' L g) ∧ (∀ k, k ≠ 102 → k ≠ 100 → F' k = F k) ∧ (∀ j, F' 100 j = if j = 0 then 0 else F 100 j) ∧ (∀ j, j < i → F' 102 j = fb a b c d x j)) ?_ 20 _ ⟨0, _, rfl, by omega, rfl, fun k h1 h2 => up_k h2, fun j => up_i, fun j hj => by omega⟩
  rintro n q k ⟨i, F', rfl, hi, rfl, h1, h2, h3⟩ hk
  unfold wp_Model_feed_8_b; dsimp only
  have key : ∀ y, y = (if i < 4 then a else if i < 8 then b else if i < 12 then c else if i < 16 then d else x) → i < 20 → wp_Model_feed_61 z Q k (ad e 100) a b c d x (Int32.ofNat i) y (mem e w F' L g) := by
    intro y hy hi2
    unfold wp_Model_feed_61
    repeat (first | ((with_reducible show ∃ _, _ ∧ _); first | refine s_fI (by rfl) (by rfl) (by rfl) ?_ | refine s_fR (by rfl) (by rfl) (by rfl) ?_ | refine s_pV (by rfl) (by rfl) (Nat.le_of_ble_eq_true rfl) (by rfl) ?_) | ((with_reducible show xcls _ _ _ ∧ _); refine s_cls (by rfl) (by rfl) ?_))
    refine s_sI (i := i) (by rfl) (by rfl) (by rfl) (by rfl) (by rfl) (by omega) (by decide) ?_
    refine hk (20 - (i + 1)) _ (by omega) ⟨i + 1, _, rfl, by omega, by rw [n_lit, n_add], fun k h4 h5 => (up_k h4).trans (h1 k h4 h5), fun j => (congrFun (up_k (by decide)) j).trans (h2 j), fun j hj => ?_⟩
    rw [up_i]
    by_cases hj2 : j = i
    · subst hj2
      rw [if_pos rfl, nar_byte, show (4 : Int32) = Int32.ofNat 4 from rfl, n_div (by omega) (by decide), n_mul, n_sub (by omega), show j - j / 4 * 4 = j % 4 by omega, fb, hy]
      exact rb_isB _ _
    · rw [if_neg hj2]; exact h3 j (by omega)
  refine ⟨fun hc => ?_, fun hc => ?_⟩ <;> rw [n_lit, n_le (by decide) (by omega)] at hc
  · have : i = 20 := by omega
    subst this
    exact h F' h1 h2 h3
  · refine ⟨fun hc => ?_, fun hc => ?_⟩ <;> rw [n_lit, n_le (by decide) (by omega)] at hc
    · refine ⟨fun hc => ?_, fun hc => ?_⟩ <;> rw [n_lit, n_le (by decide) (by omega)] at hc
      · refine ⟨fun hc => ?_, fun hc => ?_⟩ <;> rw [n_lit, n_le (by decide) (by omega)] at hc
        · refine ⟨fun hc => ?_, fun hc => ?_⟩ <;> rw [n_lit, n_le (by decide) (by omega)] at hc
          · exact key _ (by rw [if_neg (by omega), if_neg (by omega), if_neg (by omega), if_neg (by omega)]) (by omega)
          · exact key _ (by rw [if_neg (by omega), if_neg (by omega), if_neg (by omega), if_pos (by omega)]) (by omega)
        · exact key _ (by rw [if_neg (by omega), if_neg (by omega), if_pos (by omega)]) (by omega)
      · exact key _ (by rw [if_neg (by omega), if_pos (by omega)]) (by omega)
    · exact key _ (by rw [if_pos (by omega)]) (by omega)
theorem s_sI2 {e : xenv} {w : Bool} {F : Nat → Nat → Int32} {L : Nat → Nat → Int64} {g : xh} {P : xh → Prop} {k t n i : Nat} {x v : Int32} (hl : li w k = true) (ho : ∀ f, ob e w f (L k) k = .inl (t, n, .inl f)) (hx : x = Int32.ofNat i) (hi : i < n) (hn : n < 2 ^ 31) (h : P (mem e w (up F k i v) L g)) : ∃ h, sI (mem e w F L g) (ad e k) t x v = some h ∧ P h := s_sI hl (ho _) rfl (ho _) hx hi hn h
theorem v_fill {e : xenv} {w : Bool} {F : Nat → Nat → Int32} {L : Nat → Nat → Int64} {g : xh} {z : Nat → Nat} {Q : xh → Prop} {k n : Nat} {x : Int32} (hl : li w k = true) (ho : ∀ f, ob e w f (L k) k = .inl (1, n, .inl f)) (hn : n < 2 ^ 31) (hx : isB x) (h : ∀ F', (∀ k', k' ≠ k → F' k' = F k') → (∀ i, i < n → F' k i = x) → Q (mem e w F' L g)) : wp_Arrays_fill z Q (ad e k) x (mem e w F L g) := by
  unfold wp_Arrays_fill
  refine s_aN hl (ho _) rfl rfl ?_
  rintro v rfl
  unfold wp_Arrays_fill_5
  refine xloop_dn (fun m a => ∃ i F', m = n - i ∧ i ≤ n ∧ a = (ad e k, x, Int32.ofNat i, Int32.ofNat n, mem e w F' L g) ∧ (∀ k', k' ≠ k → F' k' = F k') ∧ (∀ j, j < i → F' k j = x)) ?_ n _ ⟨0, F, rfl, by omega, rfl, fun _ _ => rfl, fun j hj => by omega⟩
  rintro m a c ⟨i, F', rfl, hi, rfl, h1, h2⟩ hk
  unfold wp_Arrays_fill_5_b; dsimp only
  refine ⟨fun hc => ?_, fun hc => ?_⟩ <;> rw [n_le (by omega) (by omega)] at hc
  · have : i = n := by omega
    subst this
    exact h F' h1 h2
  · refine s_sI2 (i := i) hl ho rfl (by omega) hn ?_
    refine hk (n - (i + 1)) _ (by omega) ⟨i + 1, _, rfl, by omega, by rw [n_lit, n_add], fun k' hk => (up_k hk).trans (h1 k' hk), fun j hj => ?_⟩
    rw [up_i]
    by_cases hj2 : j = i
    · rw [if_pos hj2, nar_byte]; exact hx
    · rw [if_neg hj2]; exact h2 j (by omega)
theorem v_fill1 {e : xenv} {w : Bool} {F : Nat → Nat → Int32} {L : Nat → Nat → Int64} {g : xh} {z : Nat → Nat} {Q : xh → Prop} {k n : Nat} {x : Int32} (hl : li w k = true) (ho : ∀ f, ob e w f (L k) k = .inl (0, n, .inl f)) (hn : n < 2 ^ 31) (h : ∀ F', (∀ k', k' ≠ k → F' k' = F k') → (∀ i, i < n → F' k i = x) → Q (mem e w F' L g)) : wp_Arrays_fill1 z Q (ad e k) x (mem e w F L g) := by
  unfold wp_Arrays_fill1
  refine s_aN hl (ho _) rfl rfl ?_
  rintro v rfl
  unfold wp_Arrays_fill1_5
  refine xloop_dn (fun m a => ∃ i F', m = n - i ∧ i ≤ n ∧ a = (ad e k, x, Int32.ofNat i, Int32.ofNat n, mem e w F' L g) ∧ (∀ k', k' ≠ k → F' k' = F k') ∧ (∀ j, j < i → F' k j = x)) ?_ n _ ⟨0, F, rfl, by omega, rfl, fun _ _ => rfl, fun j hj => by omega⟩
  rintro m a c ⟨i, F', rfl, hi, rfl, h1, h2⟩ hk
  unfold wp_Arrays_fill1_5_b; dsimp only
  refine ⟨fun hc => ?_, fun hc => ?_⟩ <;> rw [n_le (by omega) (by omega)] at hc
  · have : i = n := by omega
    subst this
    exact h F' h1 h2
  · refine s_sI2 (i := i) hl ho rfl (by omega) hn ?_
    refine hk (n - (i + 1)) _ (by omega) ⟨i + 1, _, rfl, by omega, by rw [n_lit, n_add], fun k' hk => (up_k hk).trans (h1 k' hk), fun j hj => ?_⟩
    rw [up_i]
    by_cases hj2 : j = i
    · rw [if_pos hj2]
    · rw [if_neg hj2]; exact h2 j (by omega)
theorem toNC {a : Nat} (ha : a < 2147483648) : (Int32.ofNat a).toNatClampNeg = a := by
  rw [Int32.toNatClampNeg, Int32.toInt_ofNat_of_lt ha]; rfl
/-- an int that is not below 0 is a number -/
theorem nat_of {x : Int32} (h : ¬ x < 0) : ∃ n : Nat, n < 2147483648 ∧ x = Int32.ofNat n := by
  have h1 : 0 ≤ x := by
    rw [Int32.le_iff_toInt_le]; rw [Int32.lt_iff_toInt_lt] at h; omega
  refine ⟨x.toNatClampNeg, ?_, (Int32.ofNat_toNatClampNeg x h1).symm⟩
  have h2 := x.toInt_lt
  rw [Int32.toNatClampNeg]; omega
theorem v_Tape_append {e : xenv} {w : Bool} {F : Nat → Nat → Int32} {L : Nat → Nat → Int64} {g : xh} {z : Nat → Nat} {Q : Int32 → xh → Prop} {x : Int32} {n : Nat} (hn : F 61 2 = Int32.ofNat n) (h6 : n ≤ 6000) (hb : ∀ i, i < 20 → isB (F 62 i))
    (h0 : (∀ m, m ≤ 20 → n + m ≤ 6000 → x ≠ Int32.ofNat m) → Q (-1) (mem e w F L g))
    (h1 : ∀ m F', m ≤ 20 → n + m ≤ 6000 → x = Int32.ofNat m → (∀ k, k ≠ 61 → k ≠ 62 → k ≠ 63 → F' k = F k) → F' 61 2 = Int32.ofNat (n + m) → (∀ i, i < 20 → F' 62 i = 0) → (∀ i, F' 63 i = if n ≤ i ∧ i < n + m then F 62 (i - n) else F 63 i) → Q (Int32.ofNat (n + m)) (mem e w F' L g)) : wp_Tape_append z Q (ad e 61) x (mem e w F L g) := by
  unfold wp_Tape_append
  refine ⟨fun hc => h0 ?_, fun hc => ?_⟩
  · intro m hm _ hx; rw [hx] at hc; exact absurd hc (n_pos m (by omega))
  obtain ⟨m, hm, rfl⟩ := nat_of hc
  refine ⟨fun hc => ?_, fun hc => ?_⟩ <;> rw [n_lit, n_lt (by decide) hm] at hc
  · refine h0 (fun m' h1 h2 h3 => ?_)
    have := n_inj (by omega) (by omega) h3
    omega
  repeat (first | ((with_reducible show ∃ _, _ ∧ _); first | refine s_fI (by rfl) (by rfl) (by rfl) ?_ | refine s_fR (by rfl) (by rfl) (by rfl) ?_ | refine s_pV (by rfl) (by rfl) (Nat.le_of_ble_eq_true rfl) (by rfl) ?_) | ((with_reducible show xcls _ _ _ ∧ _); refine s_cls (by rfl) (by rfl) ?_))
  rw [hn]
  refine ⟨fun hc => ?_, fun hc => ?_⟩ <;> rw [n_lit, n_sub h6, n_le hm (by omega)] at hc
  rotate_left
  · refine h0 (fun m' h1 h2 h3 => ?_)
    have := n_inj (by omega) (by omega) h3
    omega
  repeat (first | ((with_reducible show ∃ _, _ ∧ _); first | refine s_fI (by rfl) (by rfl) (by rfl) ?_ | refine s_fR (by rfl) (by rfl) (by rfl) ?_ | refine s_pV (by rfl) (by rfl) (Nat.le_of_ble_eq_true rfl) (by rfl) ?_) | ((with_reducible show xcls _ _ _ ∧ _); refine s_cls (by rfl) (by rfl) ?_))
  rw [hn]
  have hcp : xcpB (mem e w F L g) (ad e 62) 0 (ad e 63) (Int32.ofNat n) (Int32.ofNat m) = some (mem e w (upR F 63 (va_cpy (F 62) (F 63) 0 n m)) L g) := by
    have a1 : mem e w F L g (ad e 62) = some (.inl (1, 20, .inl (F 62))) := mem_at (by rfl)
    have a2 : mem e w F L g (ad e 63) = some (.inl (1, 6000, .inl (F 63))) := mem_at (by rfl)
    simp only [xcpB, a1, a2]
    rw [show (0 : Int32) = Int32.ofNat 0 from rfl, toNC (a := 0) (by decide), toNC (a := n) (by omega), toNC (a := m) hm, if_pos ⟨trivial, trivial, n_pos 0 (by decide), n_pos n (by omega), n_pos m hm, by omega, by omega, fun i hi => isB_fits (hb _ (by omega))⟩]
    rw [mem_set (k := 63) (F' := upR F 63 (va_cpy (F 62) (F 63) 0 n m)) (L' := L) (by rfl) (by rw [upR_i]; rfl) (fun k' hk => upR_k hk) (fun k' hk => rfl)]
  refine ⟨_, hcp, ?_⟩
  repeat (first | ((with_reducible show ∃ _, _ ∧ _); first | refine s_fI (by rfl) (by rfl) (by rfl) ?_ | refine s_fR (by rfl) (by rfl) (by rfl) ?_ | refine s_pV (by rfl) (by rfl) (Nat.le_of_ble_eq_true rfl) (by rfl) ?_) | ((with_reducible show xcls _ _ _ ∧ _); refine s_cls (by rfl) (by rfl) ?_))
  rw [upR_k (by decide), hn, n_add]
  refine v_fill (k := 62) (n := 20) (by rfl) (fun _ => rfl) (by decide) (show isB 0 from rfl) (fun F' k1 i1 => ?_)
  repeat (first | ((with_reducible show ∃ _, _ ∧ _); first | refine s_fI (by rfl) (by rfl) (by rfl) ?_ | refine s_fR (by rfl) (by rfl) (by rfl) ?_ | refine s_pV (by rfl) (by rfl) (Nat.le_of_ble_eq_true rfl) (by rfl) ?_) | ((with_reducible show xcls _ _ _ ∧ _); refine s_cls (by rfl) (by rfl) ?_))
  have e1 : F' 61 2 = Int32.ofNat (n + m) := by rw [k1 61 (by decide), up_i, if_pos rfl]
  rw [e1]
  refine h1 m F' (by omega) (by omega) rfl (fun k q1 q2 q3 => ?_) e1 i1 (fun i => ?_)
  · rw [k1 k q2, up_k q1, upR_k q3]
  · rw [k1 63 (by decide), up_k (by decide), upR_i, va_cpy, Nat.zero_add]
theorem v_Judge_end {e : xenv} {w : Bool} {F : Nat → Nat → Int32} {L : Nat → Nat → Int64} {g : xh} {z : Nat → Nat} {Q : Int32 → xh → Prop} {x : Int32} {n : Nat} (hn : F 61 2 = Int32.ofNat n) (h6 : n ≤ 6000) (hb : ∀ i, i < 20 → isB (F 62 i))
    (h0 : (∀ m, m ≤ 20 → n + m ≤ 6000 → x ≠ Int32.ofNat m) → Q (-1) (mem e w F L g))
    (h1 : ∀ m F', m ≤ 20 → n + m ≤ 6000 → x = Int32.ofNat m → (∀ k, k ≠ 61 → k ≠ 62 → k ≠ 63 → F' k = F k) → F' 61 2 = Int32.ofNat (n + m) → (∀ i, i < 20 → F' 62 i = 0) → (∀ i, F' 63 i = if n ≤ i ∧ i < n + m then F 62 (i - n) else F 63 i) → Q (Int32.ofNat (n + m)) (mem e w F' L g)) : wp_Judge_end z Q (ad e 60) x (mem e w F L g) := by
  unfold wp_Judge_end
  repeat (first | ((with_reducible show ∃ _, _ ∧ _); first | refine s_fI (by rfl) (by rfl) (by rfl) ?_ | refine s_fR (by rfl) (by rfl) (by rfl) ?_ | refine s_pV (by rfl) (by rfl) (Nat.le_of_ble_eq_true rfl) (by rfl) ?_) | ((with_reducible show xcls _ _ _ ∧ _); refine s_cls (by rfl) (by rfl) ?_))
  exact v_Tape_append hn h6 hb h0 h1
theorem v_Tape_at {e : xenv} {w : Bool} {F : Nat → Nat → Int32} {L : Nat → Nat → Int64} {g : xh} {z : Nat → Nat} {Q : Int32 → xh → Prop} {i n : Nat} (hn : F 61 2 = Int32.ofNat n) (h6 : n ≤ 6000) (hi : i < 2147483648) (h : Q (if i < n then Int32.ofNat (bv (F 63 i)) else -1) (mem e w F L g)) : wp_Tape_at z Q (ad e 61) (Int32.ofNat i) (mem e w F L g) := by
  unfold wp_Tape_at
  refine ⟨fun hc => absurd hc (n_pos i hi), fun _ => ?_⟩
  repeat (first | ((with_reducible show ∃ _, _ ∧ _); first | refine s_fI (by rfl) (by rfl) (by rfl) ?_ | refine s_fR (by rfl) (by rfl) (by rfl) ?_ | refine s_pV (by rfl) (by rfl) (Nat.le_of_ble_eq_true rfl) (by rfl) ?_) | ((with_reducible show xcls _ _ _ ∧ _); refine s_cls (by rfl) (by rfl) ?_))
  rw [hn]
  refine ⟨fun hc => ?_, fun hc => ?_⟩ <;> rw [n_le (by omega) hi] at hc
  · rw [if_neg (by omega)] at h; exact h
  · repeat (first | ((with_reducible show ∃ _, _ ∧ _); first | refine s_fI (by rfl) (by rfl) (by rfl) ?_ | refine s_fR (by rfl) (by rfl) (by rfl) ?_ | refine s_pV (by rfl) (by rfl) (Nat.le_of_ble_eq_true rfl) (by rfl) ?_) | ((with_reducible show xcls _ _ _ ∧ _); refine s_cls (by rfl) (by rfl) ?_))
    refine s_aI (i := i) (by rfl) (by rfl) (by rfl) (by rfl) (by omega) (by decide) ?_
    rw [if_pos (by omega)] at h
    rw [and255]; exact h
theorem v_Model_end {e : xenv} {w : Bool} {F : Nat → Nat → Int32} {L : Nat → Nat → Int64} {g : xh} {z : Nat → Nat} {Q : Int32 → xh → Prop} {x : Int32} {n : Nat} (hn : F 100 3 = Int32.ofNat n) (h6 : n ≤ 6000) (hb : ∀ i, i < 20 → isB (F 102 i))
    (h0 : (∀ m, m ≤ 20 → n + m ≤ 6000 → x ≠ Int32.ofNat m) → Q (-1) (mem e w (up F 100 0 0) L g))
    (h1 : ∀ m F', m ≤ 20 → n + m ≤ 6000 → x = Int32.ofNat m → (∀ k, k ≠ 100 → k ≠ 101 → k ≠ 102 → F' k = F k) → (∀ j, F' 100 j = if j = 3 then Int32.ofNat (n + m) else if j = 0 then 0 else F 100 j) → (∀ i, i < 20 → F' 102 i = 0) → (∀ i, F' 101 i = if n ≤ i ∧ i < n + m then F 102 (i - n) else F 101 i) → Q (Int32.ofNat (n + m)) (mem e w F' L g)) : wp_Model_end z Q (ad e 100) x (mem e w F L g) := by
  unfold wp_Model_end
  repeat (first | ((with_reducible show ∃ _, _ ∧ _); first | refine s_fI (by rfl) (by rfl) (by rfl) ?_ | refine s_fR (by rfl) (by rfl) (by rfl) ?_ | refine s_pV (by rfl) (by rfl) (Nat.le_of_ble_eq_true rfl) (by rfl) ?_) | ((with_reducible show xcls _ _ _ ∧ _); refine s_cls (by rfl) (by rfl) ?_))
  refine ⟨fun hc => h0 ?_, fun hc => ?_⟩
  · intro m hm _ hx; rw [hx] at hc; exact absurd hc (n_pos m (by omega))
  obtain ⟨m, hm, rfl⟩ := nat_of hc
  refine ⟨fun hc => ?_, fun hc => ?_⟩ <;> rw [n_lit, n_lt (by decide) hm] at hc
  · refine h0 (fun m' h1 h2 h3 => ?_)
    have := n_inj (by omega) (by omega) h3
    omega
  repeat (first | ((with_reducible show ∃ _, _ ∧ _); first | refine s_fI (by rfl) (by rfl) (by rfl) ?_ | refine s_fR (by rfl) (by rfl) (by rfl) ?_ | refine s_pV (by rfl) (by rfl) (Nat.le_of_ble_eq_true rfl) (by rfl) ?_) | ((with_reducible show xcls _ _ _ ∧ _); refine s_cls (by rfl) (by rfl) ?_))
  have hn' : up F 100 0 0 100 3 = Int32.ofNat n := by rw [up_i, if_neg (by decide), hn]
  rw [hn', n_add]
  refine ⟨fun hc => ?_, fun hc => ?_⟩ <;> rw [n_lit, n_le (by omega) (by decide)] at hc
  rotate_left
  · refine h0 (fun m' h1 h2 h3 => ?_)
    have := n_inj (by omega) (by omega) h3
    omega
  unfold wp_Model_end_31
  refine xloop_dn (fun q a => ∃ i F', q = m - i ∧ i ≤ m ∧ a = (ad e 100, Int32.ofNat m, Int32.ofNat i, mem e w F' L g) ∧ (∀ k, k ≠ 100 → k ≠ 101 → F' k = F k) ∧ (∀ j, F' 100 j = if j = 0 then 0 else F 100 j) ∧ (∀ j, F' 101 j = if n ≤ j ∧ j < n + i then F 102 (j - n) else F 101 j)) ?_ m _ ⟨0, _, rfl, by omega, rfl, fun k q1 q2 => up_k q1, fun j => up_i, fun j => by rw [up_k (by decide), if_neg (by omega)]⟩
  rintro q a c ⟨i, F', rfl, hi, rfl, g1, g2, g3⟩ hk
  unfold wp_Model_end_31_b; dsimp only
  refine ⟨fun hc => ?_, fun hc => ?_⟩ <;> rw [n_le (by omega) (by omega)] at hc
  · have : i = m := by omega
    subst this
    unfold wp_Model_end_61
    refine xloop_dn (fun q a => ∃ j F2, q = 20 - j ∧ j ≤ 20 ∧ a = (ad e 100, Int32.ofNat i, Int32.ofNat j, mem e w F2 L g) ∧ (∀ k, k ≠ 102 → F2 k = F' k) ∧ (∀ t, t < j → F2 102 t = 0)) ?_ 20 _ ⟨0, F', rfl, by omega, rfl, fun k q1 => rfl, fun j hj => by omega⟩
    rintro q a c ⟨j, F2, rfl, hj, rfl, p1, p2⟩ hk2
    unfold wp_Model_end_61_b; dsimp only
    refine ⟨fun hc => ?_, fun hc => ?_⟩ <;> rw [n_lit, n_le (by decide) (by omega)] at hc
    · have : j = 20 := by omega
      subst this
      repeat (first | ((with_reducible show ∃ _, _ ∧ _); first | refine s_fI (by rfl) (by rfl) (by rfl) ?_ | refine s_fR (by rfl) (by rfl) (by rfl) ?_ | refine s_pV (by rfl) (by rfl) (Nat.le_of_ble_eq_true rfl) (by rfl) ?_) | ((with_reducible show xcls _ _ _ ∧ _); refine s_cls (by rfl) (by rfl) ?_))
      have e1 : F2 100 3 = Int32.ofNat n := by rw [p1 100 (by decide), g2, if_neg (by decide), hn]
      rw [up_i, if_pos rfl, e1, n_add]
      refine h1 i _ (by omega) (by omega) rfl (fun k q1 q2 q3 => ?_) (fun j => ?_) (fun t ht => ?_) (fun t => ?_)
      · rw [up_k q1, p1 k q3, g1 k q1 q2]
      · rw [up_i, p1 100 (by decide), g2]
      · rw [up_k (by decide), p2 t ht]
      · rw [up_k (by decide), p1 101 (by decide), g3]
    · repeat (first | ((with_reducible show ∃ _, _ ∧ _); first | refine s_fI (by rfl) (by rfl) (by rfl) ?_ | refine s_fR (by rfl) (by rfl) (by rfl) ?_ | refine s_pV (by rfl) (by rfl) (Nat.le_of_ble_eq_true rfl) (by rfl) ?_) | ((with_reducible show xcls _ _ _ ∧ _); refine s_cls (by rfl) (by rfl) ?_))
      refine s_sI (i := j) (by rfl) (by rfl) (by rfl) (by rfl) (by rfl) (by omega) (by decide) ?_
      refine hk2 (20 - (j + 1)) _ (by omega) ⟨j + 1, _, rfl, by omega, by rw [n_lit, n_add], fun k q1 => (up_k q1).trans (p1 k q1), fun t ht => ?_⟩
      rw [up_i]
      by_cases ht2 : t = j
      · rw [if_pos ht2]; rfl
      · rw [if_neg ht2]; exact p2 t (by omega)
  · repeat (first | ((with_reducible show ∃ _, _ ∧ _); first | refine s_fI (by rfl) (by rfl) (by rfl) ?_ | refine s_fR (by rfl) (by rfl) (by rfl) ?_ | refine s_pV (by rfl) (by rfl) (Nat.le_of_ble_eq_true rfl) (by rfl) ?_) | ((with_reducible show xcls _ _ _ ∧ _); refine s_cls (by rfl) (by rfl) ?_))
    rw [g2, if_neg (by decide), hn]
    refine s_aI (i := i) (by rfl) (by rfl) (by rfl) (by rfl) (by omega) (by decide) ?_
    refine s_sI (i := n + i) (by rfl) (by rfl) (by rfl) (by rfl) (by rw [n_add]) (by omega) (by decide) ?_
    refine hk (m - (i + 1)) _ (by omega) ⟨i + 1, _, rfl, by omega, by rw [n_lit, n_add], fun k q1 q2 => (up_k q2).trans (g1 k q1 q2), fun j => (congrFun (up_k (by decide)) j).trans (g2 j), fun j => ?_⟩
    rw [up_i, g3]
    by_cases hj : j = n + i
    · subst hj
      rw [if_pos rfl, if_pos (by omega), nar_byte, g1 102 (by decide) (by decide), show n + i - n = i by omega]
      exact hb i (by omega)
    · rw [if_neg hj]
      by_cases hj2 : n ≤ j ∧ j < n + i
      · rw [if_pos hj2, if_pos (by omega)]
      · rw [if_neg hj2, if_neg (by omega)]
