/-! The reference looks at all pairs: its numbers of pairs are md K p. -/
def md (K : Nat → Nat → Nat → Nat) (p : Nat) : Nat := p / 64 + p % 64 * 2 ^ (K 0 0 2)
def um (K : Nat → Nat → Nat → Nat) (m : Nat) : Nat := 64 * (m % 2 ^ (K 0 0 2)) + m / 2 ^ (K 0 0 2)
def pN (K : Nat → Nat → Nat → Nat) : Nat := 2 ^ (K 0 0 2 + K 1 0 2)
theorem pN_le {K : Nat → Nat → Nat → Nat} (hM : MK K) : 0 < pN K ∧ pN K ≤ 4096 := by
  refine ⟨Nat.two_pow_pos _, ?_⟩
  show 2 ^ (K 0 0 2 + K 1 0 2) ≤ 2 ^ 12
  have := hM.1.1.2.2.1; have := hM.2.1.1.2.2.1
  exact Nat.pow_le_pow_right (by decide) (by omega)
theorem md_lt {K : Nat → Nat → Nat → Nat} {p : Nat} (hp : isPr K p) : md K p < pN K := by
  unfold md pN
  rw [Nat.pow_add]
  have h1 := hp.1
  have h2 : (p % 64 + 1) * 2 ^ (K 0 0 2) ≤ 2 ^ (K 1 0 2) * 2 ^ (K 0 0 2) := Nat.mul_le_mul_right _ hp.2
  rw [Nat.succ_mul] at h2
  rw [Nat.mul_comm (2 ^ (K 0 0 2))]
  omega
theorem um_md {K : Nat → Nat → Nat → Nat} {p : Nat} (hp : isPr K p) : um K (md K p) = p := by
  unfold um md
  have h0 : 0 < 2 ^ (K 0 0 2) := Nat.two_pow_pos _
  rw [Nat.add_mul_mod_self_right, Nat.mod_eq_of_lt hp.1, Nat.add_mul_div_right _ _ h0, Nat.div_eq_of_lt hp.1]
  omega
theorem um_pr {K : Nat → Nat → Nat → Nat} (hM : MK K) {m : Nat} (hm : m < pN K) : isPr K (um K m) ∧ um K m / 64 = m % 2 ^ (K 0 0 2) ∧ um K m % 64 = m / 2 ^ (K 0 0 2) ∧ md K (um K m) = m := by
  have h0 : 0 < 2 ^ (K 0 0 2) := Nat.two_pow_pos _
  have hs := Nat.mod_lt m h0
  have ht : m / 2 ^ (K 0 0 2) < 2 ^ (K 1 0 2) := by
    rw [Nat.div_lt_iff_lt_mul h0, Nat.mul_comm, ← Nat.pow_add]; exact hm
  have h6 := pw6 hM.2.1
  have ht64 : m / 2 ^ (K 0 0 2) < 64 := Nat.lt_of_lt_of_le ht h6
  have e1 : um K m / 64 = m % 2 ^ (K 0 0 2) := by
    unfold um
    generalize m % 2 ^ (K 0 0 2) = s
    generalize m / 2 ^ (K 0 0 2) = t at ht64
    clear ht
    omega
  have e2 : um K m % 64 = m / 2 ^ (K 0 0 2) := by
    unfold um
    generalize m % 2 ^ (K 0 0 2) = s
    generalize m / 2 ^ (K 0 0 2) = t at ht64
    clear ht
    omega
  refine ⟨⟨by rw [e1]; exact hs, by rw [e2]; exact ht⟩, e1, e2, ?_⟩
  unfold md
  rw [e1, e2, Nat.mul_comm, Nat.mod_add_div]
theorem md_inj {K : Nat → Nat → Nat → Nat} {p p' : Nat} (hp : isPr K p) (hp' : isPr K p') (h : md K p = md K p') : p = p' := by
  rw [← um_md hp, ← um_md hp', h]
theorem char_id {a : Nat} (h : a < 4096) : vp_nar .char (((Int32.ofNat a).toUInt32 % 65536).toInt32) = Int32.ofNat a := by
  have hh : ∀ a b : Fin 64, vp_nar .char (((Int32.ofNat (64 * a.1 + b.1)).toUInt32 % 65536).toInt32) = Int32.ofNat (64 * a.1 + b.1) := by decide +kernel
  have := hh ⟨a / 64, by omega⟩ ⟨a % 64, by omega⟩
  rw [show 64 * (a / 64) + a % 64 = a by omega] at this
  exact this
theorem mask_bits {W i : Nat} (hW : W ≤ 32) (hi : i < 64) : bl ((1 <<< ((Int32.ofNat W).toInt64 &&& 63)) - 1) i = decide (i < W) := by
  have h : ∀ W : Fin 33, ∀ i : Fin 64, bl ((1 <<< ((Int32.ofNat W.1).toInt64 &&& 63)) - 1) i.1 = decide (i.1 < W.1) := by decide +kernel
  exact h ⟨W, by omega⟩ ⟨i, hi⟩
/-- the values of both circuits at pair p -/
def VB (L : Nat → Nat → Int64) (K : Nat → Nat → Nat → Nat) (p : Nat) : Prop := ∀ c, c < 2 → ∀ v, v = 0 ∨ K c 8 v ≠ 0 → ∀ i, i < 64 → bl (L 132 (201 * c + v)) i = va (K c) (bts (if c = 0 then p / 64 else p % 64)) (bts i) v
theorem VB.lit {L : Nat → Nat → Int64} {K : Nat → Nat → Nat → Nat} {p c l i : Nat} (h : VB L K p) (hc : c < 2) (hl : dl (K c) l) (hi : i < 64) : bl (wl (L 132) (201 * c) l) i = lval K p c l i := by
  rw [bl_wl hi, h c hc _ (dl_var hl) i hi]; rfl
section
variable {e : xenv} {w : Bool} {F : Nat → Nat → Int32} {L : Nat → Nat → Int64} {g : xh} {z : Nat → Nat} {K : Nat → Nat → Nat → Nat}
theorem v_reckonBoth {Q : xh → Prop} {p : Nat} (hM : MK K) (hK : ∀ c, c < 2 → KM c F (K c)) (hp : isPr K p) (h : ∀ L', (∀ k, k ≠ 132 → L' k = L k) → VB L' K p → Q (mem e w F L' g)) : wp_Model_reckonBoth z Q (ad e 100) (Int32.ofNat (md K p)) (mem e w F L g) := by
  have hpn := pN_le hM
  have hmd := md_lt hp
  obtain ⟨_, u1, u2, _⟩ := um_pr hM hmd
  rw [um_md hp] at u1 u2
  have hL6 := hM.1.1.2.2.1
  have h64 := pw6 hM.1
  have hpos : 0 < 2 ^ (K 0 0 2) := Nat.two_pow_pos _
  have hK2 : F 110 2 = Int32.ofNat (K 0 0 2) := (hK 0 (by decide)).1 2 (by decide)
  unfold wp_Model_reckonBoth
  repeat (first | ((with_reducible show ∃ _, _ ∧ _); first | refine s_fI (by rfl) (by rfl) (by rfl) ?_ | refine s_fR (by rfl) (by rfl) (by rfl) ?_ | refine s_pV (by rfl) (by rfl) (Nat.le_of_ble_eq_true rfl) (by rfl) ?_) | ((with_reducible show xcls _ _ _ ∧ _); refine s_cls (by rfl) (by rfl) ?_))
  unfold wp_Model_stateOf
  refine ⟨fun hh => absurd rfl hh, fun _ => ?_⟩
  repeat (first | ((with_reducible show ∃ _, _ ∧ _); first | refine s_fI (by rfl) (by rfl) (by rfl) ?_ | refine s_fR (by rfl) (by rfl) (by rfl) ?_ | refine s_pV (by rfl) (by rfl) (Nat.le_of_ble_eq_true rfl) (by rfl) ?_) | ((with_reducible show xcls _ _ _ ∧ _); refine s_cls (by rfl) (by rfl) ?_))
  refine s_aI (i := 2) (by rfl) (by rfl) (by rfl) (by rfl) (by decide) (by decide) ?_
  rw [hK2, n_one_shl (by omega), show Int32.ofNat (2 ^ (K 0 0 2)) - 1 = Int32.ofNat (2 ^ (K 0 0 2) - 1) by rw [n_lit, n_sub (by omega)], n_and, Nat.and_two_pow_sub_one_eq_mod, ← u1]
  repeat (first | ((with_reducible show ∃ _, _ ∧ _); first | refine s_fI (by rfl) (by rfl) (by rfl) ?_ | refine s_fR (by rfl) (by rfl) (by rfl) ?_ | refine s_pV (by rfl) (by rfl) (Nat.le_of_ble_eq_true rfl) (by rfl) ?_) | ((with_reducible show xcls _ _ _ ∧ _); refine s_cls (by rfl) (by rfl) ?_))
  refine v_reckon (c := 0) (by decide) (hK 0 (by decide)) hM.1 (fun L1 k1 o1 b1 => ?_)
  repeat (first | ((with_reducible show ∃ _, _ ∧ _); first | refine s_fI (by rfl) (by rfl) (by rfl) ?_ | refine s_fR (by rfl) (by rfl) (by rfl) ?_ | refine s_pV (by rfl) (by rfl) (Nat.le_of_ble_eq_true rfl) (by rfl) ?_) | ((with_reducible show xcls _ _ _ ∧ _); refine s_cls (by rfl) (by rfl) ?_))
  refine ⟨fun _ => ?_, fun hh => absurd hh (by decide)⟩
  repeat (first | ((with_reducible show ∃ _, _ ∧ _); first | refine s_fI (by rfl) (by rfl) (by rfl) ?_ | refine s_fR (by rfl) (by rfl) (by rfl) ?_ | refine s_pV (by rfl) (by rfl) (Nat.le_of_ble_eq_true rfl) (by rfl) ?_) | ((with_reducible show xcls _ _ _ ∧ _); refine s_cls (by rfl) (by rfl) ?_))
  refine s_aI (i := 2) (by rfl) (by rfl) (by rfl) (by rfl) (by decide) (by decide) ?_
  rw [hK2, n_shr (by omega) (by omega), ← u2]
  repeat (first | ((with_reducible show ∃ _, _ ∧ _); first | refine s_fI (by rfl) (by rfl) (by rfl) ?_ | refine s_fR (by rfl) (by rfl) (by rfl) ?_ | refine s_pV (by rfl) (by rfl) (Nat.le_of_ble_eq_true rfl) (by rfl) ?_) | ((with_reducible show xcls _ _ _ ∧ _); refine s_cls (by rfl) (by rfl) ?_))
  refine v_reckon (c := 1) (by decide) (hK 1 (by decide)) hM.2.1 (fun L2 k2 o2 b2 => ?_)
  refine h L2 (fun k hk => by rw [k2 k hk, k1 k hk]) (fun c hc v hv i hi => ?_)
  rcases c_cases hc with rfl | rfl
  · have hv2 : v < 201 := by
      rcases hv with hv | hv
      · omega
      · have := hM.1.var hv; omega
    rw [o2 _ (by omega), b1 v hv i hi, va_nat hM.1]; rfl
  · rw [b2 v hv i hi, va_nat hM.2.1]; rfl
theorem v_mask {Q : Int64 → xh → Prop} (hM : MK K) (h39 : F 100 39 = Int32.ofNat (Wn K)) (h : ∀ y, (∀ i, i < 64 → bl y i = decide (i < Wn K)) → Q y (mem e w F L g)) : wp_Model_mask z Q (ad e 100) (mem e w F L g) := by
  have hWn := Wn_le hM
  unfold wp_Model_mask
  repeat (first | ((with_reducible show ∃ _, _ ∧ _); first | refine s_fI (by rfl) (by rfl) (by rfl) ?_ | refine s_fR (by rfl) (by rfl) (by rfl) ?_ | refine s_pV (by rfl) (by rfl) (Nat.le_of_ble_eq_true rfl) (by rfl) ?_) | ((with_reducible show xcls _ _ _ ∧ _); refine s_cls (by rfl) (by rfl) ?_))
  rw [h39]
  refine ⟨fun _ => ?_, fun hh => absurd (n_inj (b := 64) (by omega) (by decide) hh) (by omega)⟩
  repeat (first | ((with_reducible show ∃ _, _ ∧ _); first | refine s_fI (by rfl) (by rfl) (by rfl) ?_ | refine s_fR (by rfl) (by rfl) (by rfl) ?_ | refine s_pV (by rfl) (by rfl) (Nat.le_of_ble_eq_true rfl) (by rfl) ?_) | ((with_reducible show xcls _ _ _ ∧ _); refine s_cls (by rfl) (by rfl) ?_))
  rw [h39]
  exact h _ (fun i hi => mask_bits hWn.2 hi)
theorem v_tellsBy {Q : Int64 → xh → Prop} {p k : Nat} (hM : MK K) (hK : ∀ c, c < 2 → KM c F (K c)) (h39 : F 100 39 = Int32.ofNat (Wn K)) (hV : VB L K p) (hk : k < K 0 0 3) (h : ∀ y, (∀ i, i < 64 → bl y i = (Ul K p i k && decide (i < Wn K))) → Q y (mem e w F L g)) : wp_Model_tellsBy z Q (ad e 100) (Int32.ofNat k) (mem e w F L g) := by
  have hO := hM.1.1.2.2.2.1
  have hk1 : k < K 1 0 3 := by rw [← hM.2.2.2]; exact hk
  have d0 := hM.1.2.2.2.2.1.2.1 k hk
  have d1 := hM.2.1.2.2.2.2.1.2.1 k hk1
  have l0 := hM.1.lit d0
  have l1 := hM.2.1.lit d1
  unfold wp_Model_tellsBy
  repeat (first | ((with_reducible show ∃ _, _ ∧ _); first | refine s_fI (by rfl) (by rfl) (by rfl) ?_ | refine s_fR (by rfl) (by rfl) (by rfl) ?_ | refine s_pV (by rfl) (by rfl) (Nat.le_of_ble_eq_true rfl) (by rfl) ?_) | ((with_reducible show xcls _ _ _ ∧ _); refine s_cls (by rfl) (by rfl) ?_))
  refine s_aI (i := k) (by rfl) (by rfl) (by rfl) (by rfl) (by omega) (by decide) ?_
  rw [show F 114 k = Int32.ofNat (K 0 4 k) by have := (hK 0 (by decide)).2.2.2.2.2.1 k hk; rw [show 8 * 0 + k = k by omega] at this; exact this]
  repeat (first | ((with_reducible show ∃ _, _ ∧ _); first | refine s_fI (by rfl) (by rfl) (by rfl) ?_ | refine s_fR (by rfl) (by rfl) (by rfl) ?_ | refine s_pV (by rfl) (by rfl) (Nat.le_of_ble_eq_true rfl) (by rfl) ?_) | ((with_reducible show xcls _ _ _ ∧ _); refine s_cls (by rfl) (by rfl) ?_))
  refine v_of (c := 0) (by decide) (by omega) ?_
  repeat (first | ((with_reducible show ∃ _, _ ∧ _); first | refine s_fI (by rfl) (by rfl) (by rfl) ?_ | refine s_fR (by rfl) (by rfl) (by rfl) ?_ | refine s_pV (by rfl) (by rfl) (Nat.le_of_ble_eq_true rfl) (by rfl) ?_) | ((with_reducible show xcls _ _ _ ∧ _); refine s_cls (by rfl) (by rfl) ?_))
  refine s_aI (i := 8 + k) (by rfl) (by rfl) (by rfl) (by rw [n_lit, n_add]) (by omega) (by decide) ?_
  rw [show F 114 (8 + k) = Int32.ofNat (K 1 4 k) from (hK 1 (by decide)).2.2.2.2.2.1 k hk1]
  repeat (first | ((with_reducible show ∃ _, _ ∧ _); first | refine s_fI (by rfl) (by rfl) (by rfl) ?_ | refine s_fR (by rfl) (by rfl) (by rfl) ?_ | refine s_pV (by rfl) (by rfl) (Nat.le_of_ble_eq_true rfl) (by rfl) ?_) | ((with_reducible show xcls _ _ _ ∧ _); refine s_cls (by rfl) (by rfl) ?_))
  refine v_of (c := 1) (by decide) (by omega) ?_
  repeat (first | ((with_reducible show ∃ _, _ ∧ _); first | refine s_fI (by rfl) (by rfl) (by rfl) ?_ | refine s_fR (by rfl) (by rfl) (by rfl) ?_ | refine s_pV (by rfl) (by rfl) (Nat.le_of_ble_eq_true rfl) (by rfl) ?_) | ((with_reducible show xcls _ _ _ ∧ _); refine s_cls (by rfl) (by rfl) ?_))
  refine v_mask hM h39 (fun y hy => ?_)
  refine h _ (fun i hi => ?_)
  rw [bl_and, bl_xor, hy i hi, hV.lit (by decide) d0 hi, hV.lit (by decide) d1 hi]
  rfl
theorem gat_next {p c x : Nat} (hM : MK K) (hc : c < 2) (hV : VB L K p) (hx : x < 64) : gat (fun k => bl (wl (L 132) (201 * c) (K c 3 k)) x) (K c 0 2) = nS (K c) (if c = 0 then p / 64 else p % 64) (bts x) := by
  unfold nS
  exact gat_ext _ (fun j hj => hV.lit hc ((hM.wf hc).2.2.2.2.1.1 j hj) hx)
/-- what the reference knows of every pair -/
def MT (F : Nat → Nat → Int32) (L : Nat → Nat → Int64) (K : Nat → Nat → Nat → Nat) : Prop :=
  F 100 39 = Int32.ofNat (Wn K) ∧ F 100 40 = Int32.ofNat (pN K) ∧ (∀ p, isPr K p → ∀ i, i < 64 → bl (L 134 (md K p)) i = (Tp K p i && decide (i < Wn K))) ∧ (∀ p x, isPr K p → x < Wn K → F 135 (32 * md K p + x) = Int32.ofNat (md K (Nx K p x)))
theorem md_or {s t n : Nat} (hs : s < 2 ^ n) : s ||| t * 2 ^ n = s + t * 2 ^ n := by
  have h := Nat.two_pow_add_eq_or_of_lt hs t
  rw [Nat.or_comm, Nat.mul_comm, ← h]; omega
theorem v_mtable {Q : xh → Prop} (hM : MK K) (hK : ∀ c, c < 2 → KM c F (K c)) (h33 : F 100 33 = 0)
    (h : ∀ F' L', (∀ k, k ≠ 100 → k ≠ 135 → k ≠ 137 → F' k = F k) → (∀ j, j < 33 ∨ 40 < j → F' 100 j = F 100 j) → F' 100 33 = 1 → (∀ k, k ≠ 132 → k ≠ 134 → L' k = L k) → MT F' L' K → (∀ m, m < pN K → F' 137 m = 0) → ∃ h2, pV (mem e w F' L' g) (ad e 100) 12 38 (.int 1) = some h2 ∧ (∃ o3, fR h2 (ad e 100) 12 36 = some o3 ∧ (∃ h4, sI h2 o3 0 0 0 = some h4 ∧ (∃ o5, fR h4 (ad e 100) 12 37 = some o5 ∧ (∃ h6, sI h4 o5 0 0 1 = some h6 ∧ (∃ h7, pV h6 (ad e 100) 12 41 (.int 0) = some h7 ∧ wp_Model_look_190 z Q (ad e 100) 0 h7)))))) : wp_Model_look z Q (ad e 100) (mem e w F L g) := by
  have hWn := Wn_le hM
  have hpn := pN_le hM
  have hI5 := hM.1.1.2.1
  have hO8 := hM.1.1.2.2.2.1
  have hL0 := hM.1.1.2.2.1
  have hL1 := hM.2.1.1.2.2.1
  unfold wp_Model_look
  repeat (first | ((with_reducible show ∃ _, _ ∧ _); first | refine s_fI (by rfl) (by rfl) (by rfl) ?_ | refine s_fR (by rfl) (by rfl) (by rfl) ?_ | refine s_pV (by rfl) (by rfl) (Nat.le_of_ble_eq_true rfl) (by rfl) ?_) | ((with_reducible show xcls _ _ _ ∧ _); refine s_cls (by rfl) (by rfl) ?_))
  rw [h33]
  refine ⟨fun _ => ?_, fun hh => absurd rfl hh⟩
  repeat (first | ((with_reducible show ∃ _, _ ∧ _); first | refine s_fI (by rfl) (by rfl) (by rfl) ?_ | refine s_fR (by rfl) (by rfl) (by rfl) ?_ | refine s_pV (by rfl) (by rfl) (Nat.le_of_ble_eq_true rfl) (by rfl) ?_) | ((with_reducible show xcls _ _ _ ∧ _); refine s_cls (by rfl) (by rfl) ?_))
  refine s_aI (i := 1) (by rfl) (by rfl) (by rfl) (by rfl) (by decide) (by decide) ?_
  rw [up_k (by decide), show F 110 1 = Int32.ofNat (K 0 0 1) from (hK 0 (by decide)).1 1 (by decide), n_one_shl (by omega)]
  repeat (first | ((with_reducible show ∃ _, _ ∧ _); first | refine s_fI (by rfl) (by rfl) (by rfl) ?_ | refine s_fR (by rfl) (by rfl) (by rfl) ?_ | refine s_pV (by rfl) (by rfl) (Nat.le_of_ble_eq_true rfl) (by rfl) ?_) | ((with_reducible show xcls _ _ _ ∧ _); refine s_cls (by rfl) (by rfl) ?_))
  refine s_aI (i := 2) (by rfl) (by rfl) (by rfl) (by rfl) (by decide) (by decide) ?_
  rw [up_k (by decide), up_k (by decide), show F 110 2 = Int32.ofNat (K 0 0 2) from (hK 0 (by decide)).1 2 (by decide)]
  repeat (first | ((with_reducible show ∃ _, _ ∧ _); first | refine s_fI (by rfl) (by rfl) (by rfl) ?_ | refine s_fR (by rfl) (by rfl) (by rfl) ?_ | refine s_pV (by rfl) (by rfl) (Nat.le_of_ble_eq_true rfl) (by rfl) ?_) | ((with_reducible show xcls _ _ _ ∧ _); refine s_cls (by rfl) (by rfl) ?_))
  refine s_aI (i := 7) (by rfl) (by rfl) (by rfl) (by rfl) (by decide) (by decide) ?_
  rw [up_k (by decide), up_k (by decide), show F 110 7 = Int32.ofNat (K 1 0 2) from (hK 1 (by decide)).1 2 (by decide), n_add, n_one_shl (by omega)]
  repeat (first | ((with_reducible show ∃ _, _ ∧ _); first | refine s_fI (by rfl) (by rfl) (by rfl) ?_ | refine s_fR (by rfl) (by rfl) (by rfl) ?_ | refine s_pV (by rfl) (by rfl) (Nat.le_of_ble_eq_true rfl) (by rfl) ?_) | ((with_reducible show xcls _ _ _ ∧ _); refine s_cls (by rfl) (by rfl) ?_))
  generalize hF0 : up (up (up F 100 33 1) 100 39 (Int32.ofNat (2 ^ K 0 0 1))) 100 40 (Int32.ofNat (2 ^ (K 0 0 2 + K 1 0 2))) = F0
  have k0 : ∀ k, k ≠ 100 → F0 k = F k := fun k hk => by rw [← hF0, up_k hk, up_k hk, up_k hk]
  have z0 : ∀ j, F0 100 j = if j = 40 then Int32.ofNat (pN K) else if j = 39 then Int32.ofNat (Wn K) else if j = 33 then 1 else F 100 j := fun j => by rw [← hF0, up_i, up_i, up_i]; rfl
  unfold wp_Model_look_47
  refine xloop_dn (fun mm a => ∃ (m : Nat) (F' : Nat → Nat → Int32) (L' : Nat → Nat → Int64), mm = pN K - m ∧ m ≤ pN K ∧ a = (ad e 100, Int32.ofNat m, mem e w F' L' g) ∧ (∀ k, k ≠ 135 → k ≠ 137 → F' k = F0 k) ∧ (∀ k, k ≠ 132 → k ≠ 134 → L' k = L k) ∧ (∀ m', m' < m → F' 137 m' = 0 ∧ (∀ i, i < 64 → bl (L' 134 m') i = (Tp K (um K m') i && decide (i < Wn K))) ∧ ∀ x, x < Wn K → F' 135 (32 * m' + x) = Int32.ofNat (md K (Nx K (um K m') x)))) ?_ (pN K) _ ⟨0, F0, L, rfl, Nat.zero_le _, rfl, fun _ _ _ => rfl, fun _ _ _ => rfl, fun m' hm' => by omega⟩
  rintro mm a cc ⟨m, F', L', rfl, hm1, rfl, g1, g2, g3⟩ hk
  unfold wp_Model_look_47_b; dsimp only
  repeat (first | ((with_reducible show ∃ _, _ ∧ _); first | refine s_fI (by rfl) (by rfl) (by rfl) ?_ | refine s_fR (by rfl) (by rfl) (by rfl) ?_ | refine s_pV (by rfl) (by rfl) (Nat.le_of_ble_eq_true rfl) (by rfl) ?_) | ((with_reducible show xcls _ _ _ ∧ _); refine s_cls (by rfl) (by rfl) ?_))
  rw [g1 100 (by decide) (by decide), z0, if_pos rfl]
  refine ⟨fun hc => ?_, fun hc => ?_⟩ <;> rw [n_le (by omega) (by omega)] at hc
  · have : m = pN K := by omega
    subst this
    refine h F' L' (fun k q1 q2 q3 => by rw [g1 k q2 q3, k0 k q1]) (fun j hj => by rw [g1 100 (by decide) (by decide), z0, if_neg (by omega), if_neg (by omega), if_neg (by omega)]) (by rw [g1 100 (by decide) (by decide), z0]; rfl) g2 ⟨?_, ?_, fun p hp i hi => ?_, fun p x hp hx => ?_⟩ (fun m hm => (g3 m hm).1)
    · rw [g1 100 (by decide) (by decide), z0]; rfl
    · rw [g1 100 (by decide) (by decide), z0]; rfl
    · have := (g3 _ (md_lt hp)).2.1 i hi
      rw [um_md hp] at this; exact this
    · have := (g3 _ (md_lt hp)).2.2 x hx
      rw [um_md hp] at this; exact this
  have hm : m < pN K := by omega
  obtain ⟨hpr, u1, u2, u3⟩ := um_pr hM hm
  have hK' : ∀ c, c < 2 → KM c F' (K c) := fun c hc => KM.kept (fun k q1 q2 => by rw [g1 k (by omega) (by omega), k0 k (by omega)]) (hK c hc)
  repeat (first | ((with_reducible show ∃ _, _ ∧ _); first | refine s_fI (by rfl) (by rfl) (by rfl) ?_ | refine s_fR (by rfl) (by rfl) (by rfl) ?_ | refine s_pV (by rfl) (by rfl) (Nat.le_of_ble_eq_true rfl) (by rfl) ?_) | ((with_reducible show xcls _ _ _ ∧ _); refine s_cls (by rfl) (by rfl) ?_))
  rw [show Int32.ofNat m = Int32.ofNat (md K (um K m)) by rw [u3]]
  refine v_reckonBoth hM hK' hpr (fun L1 k1 hV => ?_)
  rw [u3]
  repeat (first | ((with_reducible show ∃ _, _ ∧ _); first | refine s_fI (by rfl) (by rfl) (by rfl) ?_ | refine s_fR (by rfl) (by rfl) (by rfl) ?_ | refine s_pV (by rfl) (by rfl) (Nat.le_of_ble_eq_true rfl) (by rfl) ?_) | ((with_reducible show xcls _ _ _ ∧ _); refine s_cls (by rfl) (by rfl) ?_))
  refine s_sL (i := m) (by rfl) (by rfl) (by rfl) (by rfl) (by rfl) (by omega) (by decide) ?_
  have h39 : F' 100 39 = Int32.ofNat (Wn K) := by rw [g1 100 (by decide) (by decide), z0]; rfl
  unfold wp_Model_look_69
  refine xloop_dn (fun mm a => ∃ (k : Nat) (L2 : Nat → Nat → Int64), mm = K 0 0 3 - k ∧ k ≤ K 0 0 3 ∧ a = (ad e 100, Int32.ofNat m, Int32.ofNat k, mem e w F' L2 g) ∧ (∀ q, q ≠ 134 → L2 q = L1 q) ∧ (∀ j, j ≠ m → L2 134 j = L1 134 j) ∧ (∀ i, i < 64 → bl (L2 134 m) i = ((List.range k).any (fun k => Ul K (um K m) i k) && decide (i < Wn K)))) ?_ (K 0 0 3) _ ⟨0, _, rfl, Nat.zero_le _, rfl, fun q hq => upL_k hq, fun j hj => by rw [upL_i, if_neg hj], fun i hi => by rw [upL_i, if_pos rfl, bl_zero]; rfl⟩
  rintro mm a cc2 ⟨k, L2, rfl, hk1, rfl, p1, p2, p3⟩ hk2
  unfold wp_Model_look_69_b; dsimp only
  have hV2 : VB L2 K (um K m) := by unfold VB; rw [p1 132 (by decide)]; exact hV
  repeat (first | ((with_reducible show ∃ _, _ ∧ _); first | refine s_fI (by rfl) (by rfl) (by rfl) ?_ | refine s_fR (by rfl) (by rfl) (by rfl) ?_ | refine s_pV (by rfl) (by rfl) (Nat.le_of_ble_eq_true rfl) (by rfl) ?_) | ((with_reducible show xcls _ _ _ ∧ _); refine s_cls (by rfl) (by rfl) ?_))
  refine s_aI (i := 3) (by rfl) (by rfl) (by rfl) (by rfl) (by decide) (by decide) ?_
  rw [show F' 110 3 = Int32.ofNat (K 0 0 3) from (hK' 0 (by decide)).1 3 (by decide)]
  refine ⟨fun hc => ?_, fun hc => ?_⟩ <;> rw [n_le (by omega) (by omega)] at hc
  rotate_left
  · repeat (first | ((with_reducible show ∃ _, _ ∧ _); first | refine s_fI (by rfl) (by rfl) (by rfl) ?_ | refine s_fR (by rfl) (by rfl) (by rfl) ?_ | refine s_pV (by rfl) (by rfl) (Nat.le_of_ble_eq_true rfl) (by rfl) ?_) | ((with_reducible show xcls _ _ _ ∧ _); refine s_cls (by rfl) (by rfl) ?_))
    refine s_aL (i := m) (by rfl) (by rfl) (by rfl) (by rfl) (by omega) (by decide) ?_
    repeat (first | ((with_reducible show ∃ _, _ ∧ _); first | refine s_fI (by rfl) (by rfl) (by rfl) ?_ | refine s_fR (by rfl) (by rfl) (by rfl) ?_ | refine s_pV (by rfl) (by rfl) (Nat.le_of_ble_eq_true rfl) (by rfl) ?_) | ((with_reducible show xcls _ _ _ ∧ _); refine s_cls (by rfl) (by rfl) ?_))
    refine v_tellsBy hM hK' h39 hV2 (by omega) (fun y hy => ?_)
    refine s_sL (i := m) (by rfl) (by rfl) (by rfl) (by rfl) (by rfl) (by omega) (by decide) ?_
    refine hk2 (K 0 0 3 - (k + 1)) _ (by omega) ⟨k + 1, _, rfl, by omega, by rw [n_lit, n_add], fun q hq => by rw [upL_k hq, p1 q hq], fun j hj => by rw [upL_i, if_neg hj, p2 j hj], fun i hi => ?_⟩
    rw [upL_i, if_pos rfl, bl_or, p3 i hi, hy i hi, any_succ]
    cases (List.range k).any (fun k => Ul K (um K m) i k) <;> cases Ul K (um K m) i k <;> cases decide (i < Wn K) <;> rfl
  have : k = K 0 0 3 := by omega
  subst this
  clear hk2
  unfold wp_Model_look_105
  refine xloop_dn (fun mm a => ∃ (x : Nat) (F2 : Nat → Nat → Int32), mm = Wn K - x ∧ x ≤ Wn K ∧ a = (ad e 100, Int32.ofNat m, Int32.ofNat x, mem e w F2 L2 g) ∧ (∀ q, q ≠ 135 → F2 q = F' q) ∧ (∀ j, j < 32 * m → F2 135 j = F' 135 j) ∧ (∀ x', x' < x → F2 135 (32 * m + x') = Int32.ofNat (md K (Nx K (um K m) x')))) ?_ (Wn K) _ ⟨0, F', rfl, Nat.zero_le _, rfl, fun _ _ => rfl, fun _ _ => rfl, fun x' hx' => by omega⟩
  rintro mm a cc2 ⟨x, F2, rfl, hx1, rfl, r1, r2, r3⟩ hk2
  unfold wp_Model_look_105_b; dsimp only
  have hK2 : ∀ c, c < 2 → KM c F2 (K c) := fun c hc => KM.kept (fun k q1 q2 => r1 k (by omega)) (hK' c hc)
  repeat (first | ((with_reducible show ∃ _, _ ∧ _); first | refine s_fI (by rfl) (by rfl) (by rfl) ?_ | refine s_fR (by rfl) (by rfl) (by rfl) ?_ | refine s_pV (by rfl) (by rfl) (Nat.le_of_ble_eq_true rfl) (by rfl) ?_) | ((with_reducible show xcls _ _ _ ∧ _); refine s_cls (by rfl) (by rfl) ?_))
  rw [r1 100 (by decide), h39]
  refine ⟨fun hc => ?_, fun hc => ?_⟩ <;> rw [n_le (by omega) (by omega)] at hc
  · have : x = Wn K := by omega
    subst this
    repeat (first | ((with_reducible show ∃ _, _ ∧ _); first | refine s_fI (by rfl) (by rfl) (by rfl) ?_ | refine s_fR (by rfl) (by rfl) (by rfl) ?_ | refine s_pV (by rfl) (by rfl) (Nat.le_of_ble_eq_true rfl) (by rfl) ?_) | ((with_reducible show xcls _ _ _ ∧ _); refine s_cls (by rfl) (by rfl) ?_))
    refine s_sI (i := m) (by rfl) (by rfl) (by rfl) (by rfl) (by rfl) (by omega) (by decide) ?_
    refine hk (pN K - (m + 1)) _ (by omega) ⟨m + 1, _, L2, rfl, by omega, by rw [n_lit, n_add], fun k q1 q2 => by rw [up_k q2, r1 k q1, g1 k q1 q2], fun k q1 q2 => by rw [p1 k q2, k1 k q1, g2 k q1 q2], fun m' hm' => ?_⟩
    rw [up_i, up_k (by decide)]
    by_cases e0 : m' = m
    · subst e0
      rw [if_pos rfl]
      exact ⟨rfl, p3, r3⟩
    · rw [if_neg e0, r1 137 (by decide), p2 m' e0, k1 134 (by decide)]
      obtain ⟨a1, a2, a3⟩ := g3 m' (by omega)
      exact ⟨a1, a2, fun x' hx' => by rw [r2 _ (by omega)]; exact a3 x' hx'⟩
  have hxW : x < Wn K := by omega
  repeat (first | ((with_reducible show ∃ _, _ ∧ _); first | refine s_fI (by rfl) (by rfl) (by rfl) ?_ | refine s_fR (by rfl) (by rfl) (by rfl) ?_ | refine s_pV (by rfl) (by rfl) (Nat.le_of_ble_eq_true rfl) (by rfl) ?_) | ((with_reducible show xcls _ _ _ ∧ _); refine s_cls (by rfl) (by rfl) ?_))
  refine v_mnext (c := 0) (by decide) (hK2 0 (by decide)) hM.1 (by omega) ?_
  repeat (first | ((with_reducible show ∃ _, _ ∧ _); first | refine s_fI (by rfl) (by rfl) (by rfl) ?_ | refine s_fR (by rfl) (by rfl) (by rfl) ?_ | refine s_pV (by rfl) (by rfl) (Nat.le_of_ble_eq_true rfl) (by rfl) ?_) | ((with_reducible show xcls _ _ _ ∧ _); refine s_cls (by rfl) (by rfl) ?_))
  refine v_mnext (c := 1) (by decide) (hK2 1 (by decide)) hM.2.1 (by omega) ?_
  repeat (first | ((with_reducible show ∃ _, _ ∧ _); first | refine s_fI (by rfl) (by rfl) (by rfl) ?_ | refine s_fR (by rfl) (by rfl) (by rfl) ?_ | refine s_pV (by rfl) (by rfl) (Nat.le_of_ble_eq_true rfl) (by rfl) ?_) | ((with_reducible show xcls _ _ _ ∧ _); refine s_cls (by rfl) (by rfl) ?_))
  refine s_aI (i := 2) (by rfl) (by rfl) (by rfl) (by rfl) (by decide) (by decide) ?_
  rw [gat_next hM (by decide) hV2 (by omega), gat_next hM (by decide) hV2 (by omega), show F2 110 2 = Int32.ofNat (K 0 0 2) from (hK2 0 (by decide)).1 2 (by decide), n_shl (by omega), n_or]
  have hns := nS_lt hM.1 (um K m / 64) (bts x)
  have hnt := nS_lt hM.2.1 (um K m % 64) (bts x)
  rw [show nS (K 0) (if 0 = 0 then um K m / 64 else um K m % 64) (bts x) = nS (K 0) (um K m / 64) (bts x) from rfl, show nS (K 1) (if 1 = 0 then um K m / 64 else um K m % 64) (bts x) = nS (K 1) (um K m % 64) (bts x) from rfl, md_or hns.1]
  have emd : nS (K 0) (um K m / 64) (bts x) + nS (K 1) (um K m % 64) (bts x) * 2 ^ (K 0 0 2) = md K (Nx K (um K m) x) := by
    unfold md Nx
    rw [show (64 * nS (K 0) (um K m / 64) (bts x) + nS (K 1) (um K m % 64) (bts x)) / 64 = nS (K 0) (um K m / 64) (bts x) by omega, show (64 * nS (K 0) (um K m / 64) (bts x) + nS (K 1) (um K m % 64) (bts x)) % 64 = nS (K 1) (um K m % 64) (bts x) by omega]
  rw [emd, char_id (Nat.lt_of_lt_of_le (md_lt (Nx_pr hM _ _)) hpn.2)]
  refine s_sI (i := 32 * m + x) (by rfl) (by rfl) (by rfl) (by rfl) (by rw [n_lit, n_mul, n_add]) (by omega) (by decide) ?_
  refine hk2 (Wn K - (x + 1)) _ (by omega) ⟨x + 1, _, rfl, by omega, by rw [n_lit, n_add], fun q hq => by rw [up_k hq, r1 q hq], fun j hj => by rw [up_i, if_neg (by omega)]; exact r2 j hj, fun x' hx' => ?_⟩
  rw [up_i]
  by_cases e0 : x' = x
  · rw [if_pos (by omega), e0]
  · rw [if_neg (by omega)]; exact r3 x' (by omega)
end
