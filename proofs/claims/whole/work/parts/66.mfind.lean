/-! The reference finds the WITNESS. -/
def MWV (F : Nat → Nat → Int32) (K : Nat → Nat → Nat → Nat) (d a : Nat → Nat) (p x b : Nat) : Prop :=
  (x < Wn K ∧ Tp K p x = true ∧ (∀ x', x' < x → Tp K p x' = false)) ∧ (b < K 0 0 3 ∧ Ul K p x b = true ∧ (∀ k, k < b → Ul K p x k = false)) ∧ F 100 41 = Int32.ofNat (d p) ∧ F 100 46 = Int32.ofNat b ∧ (d p ≤ 256 → F 145 (d p - 1) = Int32.ofNat x) ∧ (∀ k, k + 1 < d p → d p - 2 - k < 256 → F 145 (d p - 2 - k) = Int32.ofNat (a (back a p k) % 32))
/-- what the reference knows when it has looked -/
def ML (F : Nat → Nat → Int32) (L : Nat → Nat → Int64) (K : Nat → Nat → Nat → Nat) : Prop :=
  MT F L K ∧ ∃ t, bn (Nx K) (Wn K) t * Wn K = t ∧ MB F K t ∧ ((F 100 41 = 0 ∧ ∀ j, j < bn (Nx K) (Wn K) t → ¬ tls K (bq (Nx K) (Wn K) t j)) ∨ ∃ f x b, f < bn (Nx K) (Wn K) t ∧ (∀ j, j < f → ¬ tls K (bq (Nx K) (Wn K) t j)) ∧ tls K (bq (Nx K) (Wn K) t f) ∧ MWV F K (bd (Nx K) (Wn K) t) (ba (Nx K) (Wn K) t) (bq (Nx K) (Wn K) t f) x b)
theorem cmp_bit (y : Int64) {x : Nat} (hx : x < 64) : lg_cmp ((y >>> ((Int32.ofNat x).toInt64 &&& 63)) &&& 1) 0 = 0 ↔ bl y x = false := by
  rw [cmp0, bl_shr1 y hx]
  cases bl y x
  · exact ⟨fun _ => rfl, fun _ => rfl⟩
  · exact ⟨fun h => absurd h (by decide), fun h => by cases h⟩
theorem nar01 (x : Bool) : vp_nar .boolean (Int32.ofNat x.toNat) = Int32.ofNat x.toNat := by cases x <;> rfl
section
variable {e : xenv} {w : Bool} {F : Nat → Nat → Int32} {L : Nat → Nat → Int64} {g : xh} {z : Nat → Nat} {K : Nat → Nat → Nat → Nat}
theorem v_mfind {Q : xh → Prop} {t f : Nat} (hM : MK K) (hK : ∀ c, c < 2 → KM c F (K c)) (hT : MT F L K) (ht : bn (Nx K) (Wn K) t * Wn K = t) (hB : MB F K t) (hf : f < bn (Nx K) (Wn K) t) (hq : ∀ j, j < f → ¬ tls K (bq (Nx K) (Wn K) t j)) (htl : tls K (bq (Nx K) (Wn K) t f)) (h41 : F 100 41 = Int32.ofNat (bd (Nx K) (Wn K) t (bq (Nx K) (Wn K) t f)))
    (h : ∀ F' L', (∀ k, k ≠ 100 → k ≠ 142 → k ≠ 145 → F' k = F k) → (∀ j, j ≠ 46 → F' 100 j = F 100 j) → (∀ k, k ≠ 132 → L' k = L k) → (∃ x b, MWV F' K (bd (Nx K) (Wn K) t) (ba (Nx K) (Wn K) t) (bq (Nx K) (Wn K) t f) x b) → Q (mem e w F' L' g)) : wp_Model_find z Q (ad e 100) (mem e w F L g) := by
  have hWn := Wn_le hM
  have hN := Nx_lt hM
  have hpn := pN_le hM
  have hFW := WK.fw (F := F) ht
  have inv := b_inv (Nx K) (Wn K) hN t
  have hn4 := bn_le (Nx K) (Wn K) hN t
  have hdf0 := (inv.2.1 f hf).1
  have hdf4 := b_d4 hN (t := t) (W := Wn K) f hf
  have hway : ∀ k, k + 1 < bd (Nx K) (Wn K) t (bq (Nx K) (Wn K) t f) → _ := fun k hk => way_step hN hWn.1 hWn.2 hFW (tl := tls K) hf hq hk
  have hgood := way_good hN hWn.1 hWn.2 hFW hf htl hq
  have hend := fun k => way_end hN hWn.1 hWn.2 hFW hf (k := k)
  have hidx := fun k => back_idx hN hWn.1 hWn.2 hFW hf k
  have hmono : ∀ i j, i ≤ j → j < bn (Nx K) (Wn K) t → _ := fun i j h1 h2 => fw_mono hN hWn.1 hFW (i := i) (j := j) h1 h2
  have hprq : ∀ i, i < bn (Nx K) (Wn K) t → isPr K (bq (Nx K) (Wn K) t i) := fun i hi => bq_pr hM t hi
  have hdle : ∀ p, bd (Nx K) (Wn K) t p ≤ 4096 := fun p => by
    by_cases hz : bd (Nx K) (Wn K) t p = 0
    · omega
    · obtain ⟨j, hj, hqj⟩ := inv.2.2.1 _ hz
      rw [← hqj]
      have := b_d4 hN (W := Wn K) (t := t) j hj
      omega
  have hqq := hprq f hf
  generalize hP : bq (Nx K) (Wn K) t f = P at *
  generalize hDD : bd (Nx K) (Wn K) t P = dd at *
  unfold wp_Model_find wp_Model_find_2
  refine xloop_dn (fun mm a => ∃ m F', mm = pN K - m ∧ m ≤ pN K ∧ a = (ad e 100, Int32.ofNat m, mem e w F' L g) ∧ (∀ k, k ≠ 142 → F' k = F k) ∧ (∀ j, j < m → F' 142 j = 0)) ?_ (pN K) _ ⟨0, F, rfl, Nat.zero_le _, rfl, fun _ _ => rfl, fun j hj => by omega⟩
  rintro mm a cc ⟨m, F', rfl, hm1, rfl, g1, g2⟩ hk
  unfold wp_Model_find_2_b; dsimp only
  repeat (first | ((with_reducible show ∃ _, _ ∧ _); first | refine s_fI (by rfl) (by rfl) (by rfl) ?_ | refine s_fR (by rfl) (by rfl) (by rfl) ?_ | refine s_pV (by rfl) (by rfl) (Nat.le_of_ble_eq_true rfl) (by rfl) ?_) | ((with_reducible show xcls _ _ _ ∧ _); refine s_cls (by rfl) (by rfl) ?_))
  rw [g1 100 (by decide), hT.2.1]
  refine ⟨fun hc => ?_, fun hc => ?_⟩ <;> rw [n_le (by omega) (by omega)] at hc
  rotate_left
  · repeat (first | ((with_reducible show ∃ _, _ ∧ _); first | refine s_fI (by rfl) (by rfl) (by rfl) ?_ | refine s_fR (by rfl) (by rfl) (by rfl) ?_ | refine s_pV (by rfl) (by rfl) (Nat.le_of_ble_eq_true rfl) (by rfl) ?_) | ((with_reducible show xcls _ _ _ ∧ _); refine s_cls (by rfl) (by rfl) ?_))
    refine s_sI (i := m) (by rfl) (by rfl) (by rfl) (by rfl) (by rfl) (by omega) (by decide) ?_
    refine hk (pN K - (m + 1)) _ (by omega) ⟨m + 1, _, rfl, by omega, by rw [n_lit, n_add], fun k hk => by rw [up_k hk]; exact g1 k hk, fun j hj => ?_⟩
    rw [up_i]
    by_cases e0 : j = m
    · rw [if_pos e0]; rfl
    · rw [if_neg e0]; exact g2 j (by omega)
  clear hk
  repeat (first | ((with_reducible show ∃ _, _ ∧ _); first | refine s_fI (by rfl) (by rfl) (by rfl) ?_ | refine s_fR (by rfl) (by rfl) (by rfl) ?_ | refine s_pV (by rfl) (by rfl) (Nat.le_of_ble_eq_true rfl) (by rfl) ?_) | ((with_reducible show xcls _ _ _ ∧ _); refine s_cls (by rfl) (by rfl) ?_))
  rw [g1 100 (by decide), hB.1, show Int32.ofNat (bn (Nx K) (Wn K) t) - 1 = Int32.ofNat (bn (Nx K) (Wn K) t - 1) by rw [n_lit, n_sub inv.1.1]]
  rintro v rfl
  -- the good pairs, from the end of the queue
  unfold wp_Model_find_30
  have hn1 := inv.1.1
  refine xloop_dn (fun mm a => ∃ (i : Nat) (x : Int32) (F2 : Nat → Nat → Int32), i = mm ∧ i ≤ bn (Nx K) (Wn K) t ∧ (x = if i = 0 then -1 else Int32.ofNat (i - 1)) ∧ a = (ad e 100, x, mem e w F2 L g) ∧ (∀ k, k ≠ 142 → F2 k = F k) ∧ (∀ j, j < bn (Nx K) (Wn K) t → (F2 142 (md K (bq (Nx K) (Wn K) t j)) = 0 ∨ F2 142 (md K (bq (Nx K) (Wn K) t j)) = 1) ∧ (F2 142 (md K (bq (Nx K) (Wn K) t j)) = 1 ↔ i ≤ j ∧ bd (Nx K) (Wn K) t (bq (Nx K) (Wn K) t j) ≤ dd ∧ Gd (Nx K) (Wn K) (bd (Nx K) (Wn K) t) (tls K) (dd - bd (Nx K) (Wn K) t (bq (Nx K) (Wn K) t j)) (bq (Nx K) (Wn K) t j)))) ?_ (bn (Nx K) (Wn K) t) _ ⟨bn (Nx K) (Wn K) t, _, F', rfl, Nat.le_refl _, by rw [if_neg (by omega)], rfl, g1, fun j hj => ?_⟩
  rotate_left
  · rw [g2 _ (by have := md_lt (hprq j hj); omega)]
    exact ⟨Or.inl rfl, ⟨fun h => absurd h (by decide), fun h => by omega⟩⟩
  rintro mm a cc ⟨i, xi, F2, rfl, hi1, rfl, rfl, p1, p2⟩ hk
  unfold wp_Model_find_30_b; dsimp only
  by_cases hi0 : i = 0
  · -- the way
    subst hi0
    clear hk
    rw [if_pos rfl]
    refine ⟨fun _ => ?_, fun hh => absurd (show (-1 : Int32) < 0 by decide) hh⟩
    have hF2 : ∀ k, k ≠ 100 → k ≠ 142 → k ≠ 145 → F2 k = F k := fun k _ q2 _ => p1 k q2
    unfold wp_Model_find_182
    refine xloop_dn (fun mm a => ∃ (k : Nat) (F3 : Nat → Nat → Int32), mm = dd - k ∧ 1 ≤ k ∧ k ≤ dd ∧ a = (ad e 100, Int32.ofNat (md K (back (ba (Nx K) (Wn K) t) P (dd - k))), Int32.ofNat k, mem e w F3 L g) ∧ (∀ k, k ≠ 145 → F3 k = F2 k) ∧ (∀ k', k' + 1 < k → k' < 256 → F3 145 k' = Int32.ofNat (ba (Nx K) (Wn K) t (back (ba (Nx K) (Wn K) t) P (dd - 2 - k')) % 32))) ?_ (dd - 1) _ ⟨1, F2, rfl, Nat.le_refl _, by omega, ?_, fun _ _ => rfl, fun k' hk' => by omega⟩
    rotate_left
    · rw [hend (dd - 1) (by omega)]
      have : md K 0 = 0 := by unfold md; simp
      rw [this]; rfl
    rintro mm a cc ⟨k, F3, rfl, hk1, hkd, rfl, r1, r2⟩ hk
    obtain ⟨i, hi, _, hbi, hdi⟩ := hidx (dd - k) (by omega)
    have hpr := hprq i hi
    have hmd := md_lt hpr
    rw [← hbi] at hpr hmd hdi
    unfold wp_Model_find_182_b; dsimp only
    repeat (first | ((with_reducible show ∃ _, _ ∧ _); first | refine s_fI (by rfl) (by rfl) (by rfl) ?_ | refine s_fR (by rfl) (by rfl) (by rfl) ?_ | refine s_pV (by rfl) (by rfl) (Nat.le_of_ble_eq_true rfl) (by rfl) ?_) | ((with_reducible show xcls _ _ _ ∧ _); refine s_cls (by rfl) (by rfl) ?_))
    rw [r1 100 (by decide), p1 100 (by decide), h41]
    have hT3 : ∀ F3 : Nat → Nat → Int32, (∀ k, k ≠ 145 → F3 k = F2 k) → MT F3 L K := fun F3 r1 => MT.kept (by rw [r1 100 (by decide), p1 100 (by decide)]) (by rw [r1 100 (by decide), p1 100 (by decide)]) (by rw [r1 135 (by decide), p1 135 (by decide)]) rfl hT
    refine ⟨fun hc => ?_, fun hc => ?_⟩ <;> rw [n_le (by omega) (by omega)] at hc
    · -- the end
      have : k = dd := by omega
      subst this
      rw [Nat.sub_self]
      show wp_Model_find_275 z Q (ad e 100) (Int32.ofNat (md K P)) 0 (mem e w F3 L g)
      clear hk
      obtain ⟨x1, hx1, ht1⟩ := htl
      have hmdP := md_lt hqq
      unfold wp_Model_find_275
      refine xloop_dn (fun mm a => ∃ x, mm = x1 - x ∧ x ≤ x1 ∧ a = (ad e 100, Int32.ofNat (md K P), Int32.ofNat x, mem e w F3 L g) ∧ (∀ x', x' < x → Tp K P x' = false)) ?_ x1 _ ⟨0, rfl, Nat.zero_le _, rfl, fun x' hx' => by omega⟩
      rintro mm a cc ⟨x, rfl, hxx, rfl, s1⟩ hk
      unfold wp_Model_find_275_b; dsimp only
      repeat (first | ((with_reducible show ∃ _, _ ∧ _); first | refine s_fI (by rfl) (by rfl) (by rfl) ?_ | refine s_fR (by rfl) (by rfl) (by rfl) ?_ | refine s_pV (by rfl) (by rfl) (Nat.le_of_ble_eq_true rfl) (by rfl) ?_) | ((with_reducible show xcls _ _ _ ∧ _); refine s_cls (by rfl) (by rfl) ?_))
      refine s_aL (i := md K P) (by rfl) (by rfl) (by rfl) (by rfl) (by omega) (by decide) ?_
      have hbit : bl (L 134 (md K P)) x = Tp K P x := by
        rw [(hT3 F3 r1).2.2.1 P hqq x (by omega)]
        simp [show x < Wn K by omega]
      rw [cmp_bit _ (by omega), hbit]
      refine ⟨fun hb => ?_, fun hb => ?_⟩
      rotate_left
      · have hne : x ≠ x1 := fun ee => by rw [ee, ht1] at hb; cases hb
        refine hk (x1 - (x + 1)) _ (by omega) ⟨x + 1, rfl, by omega, by rw [n_lit, n_add], fun x' hx' => ?_⟩
        by_cases e0 : x' = x
        · rw [e0]; exact hb
        · exact s1 x' (by omega)
      have hb : Tp K P x = true := by
        cases hh : Tp K P x
        · exact absurd hh hb
        · rfl
      clear hk
      have fin : ∀ F4 : Nat → Nat → Int32, (∀ k, k ≠ 145 → F4 k = F2 k) → (k ≤ 256 → F4 145 (k - 1) = Int32.ofNat x) → (∀ k', k' + 1 < k → k' < 256 → F4 145 k' = Int32.ofNat (ba (Nx K) (Wn K) t (back (ba (Nx K) (Wn K) t) P (k - 2 - k')) % 32)) → wp_Model_find_318 z Q (ad e 100) (Int32.ofNat (md K P)) (Int32.ofNat x) (mem e w F4 L g) := by
        intro F4 y1 y2 y3
        unfold wp_Model_find_318
        have hK4 : ∀ c, c < 2 → KM c F4 (K c) := fun c hc => KM.kept (fun k q1 q2 => by rw [y1 k (by omega), p1 k (by omega)]) (hK c hc)
        repeat (first | ((with_reducible show ∃ _, _ ∧ _); first | refine s_fI (by rfl) (by rfl) (by rfl) ?_ | refine s_fR (by rfl) (by rfl) (by rfl) ?_ | refine s_pV (by rfl) (by rfl) (Nat.le_of_ble_eq_true rfl) (by rfl) ?_) | ((with_reducible show xcls _ _ _ ∧ _); refine s_cls (by rfl) (by rfl) ?_))
        refine v_reckonBoth hM hK4 hqq (fun L1 k1 hV => ?_)
        repeat (first | ((with_reducible show ∃ _, _ ∧ _); first | refine s_fI (by rfl) (by rfl) (by rfl) ?_ | refine s_fR (by rfl) (by rfl) (by rfl) ?_ | refine s_pV (by rfl) (by rfl) (Nat.le_of_ble_eq_true rfl) (by rfl) ?_) | ((with_reducible show xcls _ _ _ ∧ _); refine s_cls (by rfl) (by rfl) ?_))
        obtain ⟨b1, hb1, hu1⟩ : ∃ b, b < K 0 0 3 ∧ Ul K P x b = true := by
          unfold Tp at hb
          rw [List.any_eq_true] at hb
          obtain ⟨b, hb1, hb2⟩ := hb
          exact ⟨b, List.mem_range.mp hb1, hb2⟩
        have hO8 := hM.1.1.2.2.2.1
        unfold wp_Model_find_328
        refine xloop_dn (fun mm a => ∃ b F5, mm = b1 - b ∧ b ≤ b1 ∧ a = (ad e 100, Int32.ofNat x, mem e w F5 L1 g) ∧ (∀ k, k ≠ 100 → F5 k = F4 k) ∧ (∀ j, F5 100 j = if j = 46 then Int32.ofNat b else F4 100 j) ∧ (∀ k, k < b → Ul K P x k = false)) ?_ b1 _ ⟨0, _, rfl, Nat.zero_le _, rfl, fun k hk => up_k hk, fun j => up_i, fun k hk => by omega⟩
        rintro mm a cc ⟨b, F5, rfl, hbb, rfl, u1, u2, u3⟩ hk
        unfold wp_Model_find_328_b; dsimp only
        have hK5 : ∀ c, c < 2 → KM c F5 (K c) := fun c hc => KM.kept (fun k q1 q2 => u1 k (by omega)) (hK4 c hc)
        repeat (first | ((with_reducible show ∃ _, _ ∧ _); first | refine s_fI (by rfl) (by rfl) (by rfl) ?_ | refine s_fR (by rfl) (by rfl) (by rfl) ?_ | refine s_pV (by rfl) (by rfl) (Nat.le_of_ble_eq_true rfl) (by rfl) ?_) | ((with_reducible show xcls _ _ _ ∧ _); refine s_cls (by rfl) (by rfl) ?_))
        rw [u2, if_pos rfl]
        repeat (first | ((with_reducible show ∃ _, _ ∧ _); first | refine s_fI (by rfl) (by rfl) (by rfl) ?_ | refine s_fR (by rfl) (by rfl) (by rfl) ?_ | refine s_pV (by rfl) (by rfl) (Nat.le_of_ble_eq_true rfl) (by rfl) ?_) | ((with_reducible show xcls _ _ _ ∧ _); refine s_cls (by rfl) (by rfl) ?_))
        refine v_tellsBy hM hK5 (by rw [u2, if_neg (by decide), y1 100 (by decide), p1 100 (by decide)]; exact hT.1) hV (by omega) (fun y hy => ?_)
        rw [cmp_bit _ (by omega), hy x (by omega)]
        have hxW : x < Wn K := by omega
        simp only [hxW, decide_true, Bool.and_true]
        refine ⟨fun hu => ?_, fun hu => ?_⟩
        · have hu : Ul K P x b = true := by
            cases hh : Ul K P x b
            · exact absurd hh hu
            · rfl
          have e100 : ∀ j, j ≠ 46 → F5 100 j = F 100 j := fun j hj => by rw [u2, if_neg hj, y1 100 (by decide), p1 100 (by decide)]
          refine h F5 L1 (fun k q1 q2 q3 => by rw [u1 k q1, y1 k q3, p1 k q2]) e100 k1 ⟨x, b, ⟨hxW, hb, s1⟩, ⟨by omega, hu, u3⟩, by rw [e100 41 (by decide), hDD]; exact h41, by rw [u2, if_pos rfl], fun hle => ?_, fun k' hk' hle => ?_⟩
          · rw [hDD] at hle ⊢
            rw [u1 145 (by decide)]; exact y2 hle
          · rw [hDD] at hle hk' ⊢
            rw [u1 145 (by decide), y3 (k - 2 - k') (by omega) hle, show k - 2 - (k - 2 - k') = k' by omega]
        · repeat (first | ((with_reducible show ∃ _, _ ∧ _); first | refine s_fI (by rfl) (by rfl) (by rfl) ?_ | refine s_fR (by rfl) (by rfl) (by rfl) ?_ | refine s_pV (by rfl) (by rfl) (Nat.le_of_ble_eq_true rfl) (by rfl) ?_) | ((with_reducible show xcls _ _ _ ∧ _); refine s_cls (by rfl) (by rfl) ?_))
          rw [u2, if_pos rfl]
          repeat (first | ((with_reducible show ∃ _, _ ∧ _); first | refine s_fI (by rfl) (by rfl) (by rfl) ?_ | refine s_fR (by rfl) (by rfl) (by rfl) ?_ | refine s_pV (by rfl) (by rfl) (Nat.le_of_ble_eq_true rfl) (by rfl) ?_) | ((with_reducible show xcls _ _ _ ∧ _); refine s_cls (by rfl) (by rfl) ?_))
          have hne : b ≠ b1 := fun ee => by rw [ee, hu1] at hu; cases hu
          refine hk (b1 - (b + 1)) _ (by omega) ⟨b + 1, _, rfl, by omega, rfl, fun k hk => by rw [up_k hk]; exact u1 k hk, fun j => ?_, fun k hk => ?_⟩
          · rw [up_i]
            by_cases e0 : j = 46
            · rw [if_pos e0, if_pos e0, n_lit, n_add]
            · rw [if_neg e0, if_neg e0, u2, if_neg e0]
          · by_cases e0 : k = b
            · rw [e0]; exact hu
            · exact u3 k (by omega)
      repeat (first | ((with_reducible show ∃ _, _ ∧ _); first | refine s_fI (by rfl) (by rfl) (by rfl) ?_ | refine s_fR (by rfl) (by rfl) (by rfl) ?_ | refine s_pV (by rfl) (by rfl) (Nat.le_of_ble_eq_true rfl) (by rfl) ?_) | ((with_reducible show xcls _ _ _ ∧ _); refine s_cls (by rfl) (by rfl) ?_))
      rw [r1 100 (by decide), p1 100 (by decide), h41]
      refine ⟨fun hc => ?_, fun hc => ?_⟩ <;> rw [n_lit, n_lt (by decide) (by omega)] at hc
      · exact fin F3 r1 (fun hh => by omega) r2
      · repeat (first | ((with_reducible show ∃ _, _ ∧ _); first | refine s_fI (by rfl) (by rfl) (by rfl) ?_ | refine s_fR (by rfl) (by rfl) (by rfl) ?_ | refine s_pV (by rfl) (by rfl) (Nat.le_of_ble_eq_true rfl) (by rfl) ?_) | ((with_reducible show xcls _ _ _ ∧ _); refine s_cls (by rfl) (by rfl) ?_))
        rw [r1 100 (by decide), p1 100 (by decide), h41, show Int32.ofNat k - 1 = Int32.ofNat (k - 1) by rw [n_lit, n_sub (by omega)]]
        refine s_sI (i := k - 1) (by rfl) (by rfl) (by rfl) (by rfl) (by rfl) (by omega) (by decide) ?_
        refine fin _ (fun q hq => by rw [up_k hq]; exact r1 q hq) (fun _ => by rw [up_i, if_pos rfl]) (fun k' h1 h2 => by rw [up_i, if_neg (by omega)]; exact r2 k' h1 h2)
    · -- one step of the way
      have hkd' : k < dd := by omega
      obtain ⟨w1, w2, w3, w4, w5⟩ := hway (dd - 1 - k) (by omega)
      rw [show dd - 1 - k + 1 = dd - k by omega] at w2 w3 w4 w5
      have hgd := hgood (dd - 1 - k) (by omega)
      obtain ⟨i', hi', _, hbi', hdi'⟩ := hidx (dd - 1 - k) (by omega)
      have hdk : bd (Nx K) (Wn K) t (back (ba (Nx K) (Wn K) t) P (dd - k)) = k := by omega
      have hrow : F3 142 = F2 142 ∧ F3 137 = F 137 ∧ F3 135 = F 135 := ⟨r1 142 (by decide), by rw [r1 137 (by decide), p1 137 (by decide)], by rw [r1 135 (by decide), p1 135 (by decide)]⟩
      have hstep := fun x (hx : x < Wn K) => fw_step hN hWn.1 hFW hi hx
      rw [← hbi] at hstep
      generalize hp : back (ba (Nx K) (Wn K) t) P (dd - k) = p at *
      generalize hx0 : ba (Nx K) (Wn K) t (back (ba (Nx K) (Wn K) t) P (dd - 1 - k)) % 32 = x0 at *
      unfold wp_Model_find_192
      refine xloop_dn (fun mm a => ∃ x, mm = x0 - x ∧ x ≤ x0 ∧ a = (ad e 100, Int32.ofNat (md K p), Int32.ofNat k, Int32.ofNat x, mem e w F3 L g)) ?_ x0 _ ⟨0, rfl, Nat.zero_le _, rfl⟩
      rintro mm a cc2 ⟨x, rfl, hxx, rfl⟩ hk2
      unfold wp_Model_find_192_b; dsimp only
      have hxW : x < Wn K := by omega
      have hnp := Nx_pr hM p x
      have hnm := md_lt hnp
      obtain ⟨jn, hjn, hqn⟩ := inv.2.2.1 _ (hstep x hxW).1
      have hg142 := p2 jn hjn
      rw [hqn] at hg142
      have hdn4 := hdle (Nx K p x)
      repeat (first | ((with_reducible show ∃ _, _ ∧ _); first | refine s_fI (by rfl) (by rfl) (by rfl) ?_ | refine s_fR (by rfl) (by rfl) (by rfl) ?_ | refine s_pV (by rfl) (by rfl) (Nat.le_of_ble_eq_true rfl) (by rfl) ?_) | ((with_reducible show xcls _ _ _ ∧ _); refine s_cls (by rfl) (by rfl) ?_))
      refine s_aI (i := 32 * md K p + x) (by rfl) (by rfl) (by rfl) (by rw [n_lit, n_mul, n_add]) (by omega) (by decide) ?_
      rw [hrow.2.2, hT.2.2.2 p x hpr hxW]
      repeat (first | ((with_reducible show ∃ _, _ ∧ _); first | refine s_fI (by rfl) (by rfl) (by rfl) ?_ | refine s_fR (by rfl) (by rfl) (by rfl) ?_ | refine s_pV (by rfl) (by rfl) (Nat.le_of_ble_eq_true rfl) (by rfl) ?_) | ((with_reducible show xcls _ _ _ ∧ _); refine s_cls (by rfl) (by rfl) ?_))
      refine s_aI (i := md K (Nx K p x)) (by rfl) (by rfl) (by rfl) (by rfl) (by omega) (by decide) ?_
      rw [hrow.1]
      have nextx : x ≠ x0 → wp_Model_find_233 z Q cc cc2 (ad e 100) (Int32.ofNat (md K p)) (Int32.ofNat k) (Int32.ofNat x) (mem e w F3 L g) := fun hne => by
        unfold wp_Model_find_233
        exact hk2 (x0 - (x + 1)) _ (by omega) ⟨x + 1, rfl, by omega, by rw [n_lit, n_add]⟩
      have hisx0 : x = x0 ↔ F2 142 (md K (Nx K p x)) = 1 ∧ bd (Nx K) (Wn K) t (Nx K p x) = k + 1 := by
        rw [hg142.2]
        constructor
        · intro ee
          rw [ee, w2, show bd (Nx K) (Wn K) t (back (ba (Nx K) (Wn K) t) P (dd - 1 - k)) = k + 1 by omega]
          exact ⟨⟨Nat.zero_le _, by omega, by rw [show dd - (k + 1) = dd - 1 - k by omega]; exact hgd⟩, rfl⟩
        · rintro ⟨⟨_, _, gg⟩, dn⟩
          apply Classical.byContradiction
          intro hne
          refine w5 x (by omega) ⟨by omega, ?_⟩
          rw [dn, show dd - (k + 1) = dd - 1 - k by omega] at gg
          exact gg
      refine ⟨fun hz => nextx (fun ee => ?_), fun hz => ?_⟩
      · have := (hisx0.mp ee).1
        rw [hz] at this
        exact absurd this (by decide)
      repeat (first | ((with_reducible show ∃ _, _ ∧ _); first | refine s_fI (by rfl) (by rfl) (by rfl) ?_ | refine s_fR (by rfl) (by rfl) (by rfl) ?_ | refine s_pV (by rfl) (by rfl) (Nat.le_of_ble_eq_true rfl) (by rfl) ?_) | ((with_reducible show xcls _ _ _ ∧ _); refine s_cls (by rfl) (by rfl) ?_))
      refine s_aI (i := 32 * md K p + x) (by rfl) (by rfl) (by rfl) (by rw [n_lit, n_mul, n_add]) (by omega) (by decide) ?_
      rw [hrow.2.2, hT.2.2.2 p x hpr hxW]
      repeat (first | ((with_reducible show ∃ _, _ ∧ _); first | refine s_fI (by rfl) (by rfl) (by rfl) ?_ | refine s_fR (by rfl) (by rfl) (by rfl) ?_ | refine s_pV (by rfl) (by rfl) (Nat.le_of_ble_eq_true rfl) (by rfl) ?_) | ((with_reducible show xcls _ _ _ ∧ _); refine s_cls (by rfl) (by rfl) ?_))
      refine s_aI (i := md K (Nx K p x)) (by rfl) (by rfl) (by rfl) (by rfl) (by omega) (by decide) ?_
      rw [hrow.2.1, hB.2.2 _ hnp, n_lit, n_add]
      refine ⟨fun hd => ?_, fun hd => nextx (fun ee => hd (by rw [(hisx0.mp ee).2]))⟩
      have hd := n_inj (by omega) (by omega) hd
      have ee : x = x0 := hisx0.mpr ⟨by
        rcases hg142.1 with hh | hh
        · exact absurd hh hz
        · exact hh, hd⟩
      have go : ∀ F4 : Nat → Nat → Int32, (∀ k, k ≠ 145 → F4 k = F2 k) → (∀ k', k' + 1 < k + 1 → k' < 256 → F4 145 k' = Int32.ofNat (ba (Nx K) (Wn K) t (back (ba (Nx K) (Wn K) t) P (dd - 2 - k')) % 32)) → wp_Model_find_255 z Q cc (ad e 100) (Int32.ofNat (md K p)) (Int32.ofNat k) (Int32.ofNat x) (mem e w F4 L g) := by
        intro F4 y1 y2
        unfold wp_Model_find_255
        repeat (first | ((with_reducible show ∃ _, _ ∧ _); first | refine s_fI (by rfl) (by rfl) (by rfl) ?_ | refine s_fR (by rfl) (by rfl) (by rfl) ?_ | refine s_pV (by rfl) (by rfl) (Nat.le_of_ble_eq_true rfl) (by rfl) ?_) | ((with_reducible show xcls _ _ _ ∧ _); refine s_cls (by rfl) (by rfl) ?_))
        refine s_aI (i := 32 * md K p + x) (by rfl) (by rfl) (by rfl) (by rw [n_lit, n_mul, n_add]) (by omega) (by decide) ?_
        rw [y1 135 (by decide), p1 135 (by decide), hT.2.2.2 p x hpr hxW, ee, w2]
        exact hk (dd - (k + 1)) _ (by omega) ⟨k + 1, F4, rfl, by omega, by omega, by rw [n_lit, n_add, show dd - 1 - k = dd - (k + 1) by omega], y1, y2⟩
      refine ⟨fun hc => ?_, fun hc => ?_⟩ <;> rw [n_lit, n_lt (by decide) (by omega)] at hc
      · exact go F3 r1 (fun k' h1 h2 => r2 k' (by omega) h2)
      · repeat (first | ((with_reducible show ∃ _, _ ∧ _); first | refine s_fI (by rfl) (by rfl) (by rfl) ?_ | refine s_fR (by rfl) (by rfl) (by rfl) ?_ | refine s_pV (by rfl) (by rfl) (Nat.le_of_ble_eq_true rfl) (by rfl) ?_) | ((with_reducible show xcls _ _ _ ∧ _); refine s_cls (by rfl) (by rfl) ?_))
        rw [show Int32.ofNat k - Int32.ofNat 1 = Int32.ofNat (k - 1) by rw [n_sub (by omega)]]
        refine s_sI (i := k - 1) (by rfl) (by rfl) (by rfl) (by rfl) (by rfl) (by omega) (by decide) ?_
        refine go _ (fun q hq => by rw [up_k hq]; exact r1 q hq) (fun k' h1 h2 => ?_)
        rw [up_i]
        by_cases e0 : k' = k - 1
        · rw [if_pos e0, e0, show dd - 2 - (k - 1) = dd - 1 - k by omega, hx0, ee]
        · rw [if_neg e0]; exact r2 k' (by omega) h2
  -- one pair of the queue
  rw [if_neg hi0]
  have hij : i - 1 < bn (Nx K) (Wn K) t := by omega
  have hpr := hprq (i - 1) hij
  have hmd := md_lt hpr
  have hd := hdle (bq (Nx K) (Wn K) t (i - 1))
  refine ⟨fun hh => absurd hh (n_pos _ (by omega)), fun _ => ?_⟩
  repeat (first | ((with_reducible show ∃ _, _ ∧ _); first | refine s_fI (by rfl) (by rfl) (by rfl) ?_ | refine s_fR (by rfl) (by rfl) (by rfl) ?_ | refine s_pV (by rfl) (by rfl) (Nat.le_of_ble_eq_true rfl) (by rfl) ?_) | ((with_reducible show xcls _ _ _ ∧ _); refine s_cls (by rfl) (by rfl) ?_))
  refine s_aI (i := i - 1) (by rfl) (by rfl) (by rfl) (by rfl) (by omega) (by decide) ?_
  rw [p1 136 (by decide), hB.2.1 _ hij]
  repeat (first | ((with_reducible show ∃ _, _ ∧ _); first | refine s_fI (by rfl) (by rfl) (by rfl) ?_ | refine s_fR (by rfl) (by rfl) (by rfl) ?_ | refine s_pV (by rfl) (by rfl) (Nat.le_of_ble_eq_true rfl) (by rfl) ?_) | ((with_reducible show xcls _ _ _ ∧ _); refine s_cls (by rfl) (by rfl) ?_))
  refine s_aI (i := md K (bq (Nx K) (Wn K) t (i - 1))) (by rfl) (by rfl) (by rfl) (by rfl) (by omega) (by decide) ?_
  rw [p1 137 (by decide), hB.2.2 _ hpr]
  repeat (first | ((with_reducible show ∃ _, _ ∧ _); first | refine s_fI (by rfl) (by rfl) (by rfl) ?_ | refine s_fR (by rfl) (by rfl) (by rfl) ?_ | refine s_pV (by rfl) (by rfl) (Nat.le_of_ble_eq_true rfl) (by rfl) ?_) | ((with_reducible show xcls _ _ _ ∧ _); refine s_cls (by rfl) (by rfl) ?_))
  rw [p1 100 (by decide), h41]
  have hqinj : ∀ j, j < bn (Nx K) (Wn K) t → md K (bq (Nx K) (Wn K) t j) = md K (bq (Nx K) (Wn K) t (i - 1)) → j = i - 1 := fun j hj hh => inv.2.2.2 _ _ hj hij (md_inj (hprq j hj) hpr hh)
  have next : ∀ F3 : Nat → Nat → Int32, (∀ k, k ≠ 142 → F3 k = F k) → (∀ m, m ≠ md K (bq (Nx K) (Wn K) t (i - 1)) → F3 142 m = F2 142 m) → (F3 142 (md K (bq (Nx K) (Wn K) t (i - 1))) = 0 ∨ F3 142 (md K (bq (Nx K) (Wn K) t (i - 1))) = 1) → (F3 142 (md K (bq (Nx K) (Wn K) t (i - 1))) = 1 ↔ bd (Nx K) (Wn K) t (bq (Nx K) (Wn K) t (i - 1)) ≤ dd ∧ Gd (Nx K) (Wn K) (bd (Nx K) (Wn K) t) (tls K) (dd - bd (Nx K) (Wn K) t (bq (Nx K) (Wn K) t (i - 1))) (bq (Nx K) (Wn K) t (i - 1))) → wp_Model_find_172 z Q cc (ad e 100) (Int32.ofNat (i - 1)) (mem e w F3 L g) := by
    intro F3 y1 y2 y3 y4
    unfold wp_Model_find_172
    refine hk (i - 1) _ (by omega) ⟨i - 1, _, F3, rfl, by omega, rfl, ?_, y1, fun j hj => ?_⟩
    · by_cases e0 : i - 1 = 0
      · rw [if_pos e0, e0]; rfl
      · rw [if_neg e0, n_dec (by omega)]
    · by_cases e0 : j = i - 1
      · rw [e0]
        exact ⟨y3, ⟨fun hh => ⟨Nat.le_refl _, y4.mp hh⟩, fun hh => y4.mpr hh.2⟩⟩
      · rw [y2 _ (fun hh => e0 (hqinj j hj hh))]
        refine ⟨(p2 j hj).1, ?_⟩
        rw [(p2 j hj).2]
        exact ⟨fun hh => ⟨by omega, hh.2⟩, fun hh => ⟨by omega, hh.2⟩⟩
  have hzero : F2 142 (md K (bq (Nx K) (Wn K) t (i - 1))) = 0 := by
    rcases (p2 _ hij).1 with hh | hh
    · exact hh
    · have := ((p2 _ hij).2.mp hh).1
      omega
  refine ⟨fun hc => ?_, fun hc => ?_⟩ <;> rw [n_le (by omega) (by omega)] at hc
  rotate_left
  · refine next F2 p1 (fun _ _ => rfl) (Or.inl hzero) ?_
    rw [hzero]
    exact ⟨fun hh => absurd hh (by decide), fun hh => absurd hh.1 hc⟩
  repeat (first | ((with_reducible show ∃ _, _ ∧ _); first | refine s_fI (by rfl) (by rfl) (by rfl) ?_ | refine s_fR (by rfl) (by rfl) (by rfl) ?_ | refine s_pV (by rfl) (by rfl) (Nat.le_of_ble_eq_true rfl) (by rfl) ?_) | ((with_reducible show xcls _ _ _ ∧ _); refine s_cls (by rfl) (by rfl) ?_))
  refine s_aI (i := md K (bq (Nx K) (Wn K) t (i - 1))) (by rfl) (by rfl) (by rfl) (by rfl) (by omega) (by decide) ?_
  rw [p1 137 (by decide), hB.2.2 _ hpr]
  repeat (first | ((with_reducible show ∃ _, _ ∧ _); first | refine s_fI (by rfl) (by rfl) (by rfl) ?_ | refine s_fR (by rfl) (by rfl) (by rfl) ?_ | refine s_pV (by rfl) (by rfl) (Nat.le_of_ble_eq_true rfl) (by rfl) ?_) | ((with_reducible show xcls _ _ _ ∧ _); refine s_cls (by rfl) (by rfl) ?_))
  rw [p1 100 (by decide), h41]
  refine ⟨fun hne => ?_, fun heq => ?_⟩
  rotate_left
  · have heq := n_inj (by omega) (by omega) heq
    repeat (first | ((with_reducible show ∃ _, _ ∧ _); first | refine s_fI (by rfl) (by rfl) (by rfl) ?_ | refine s_fR (by rfl) (by rfl) (by rfl) ?_ | refine s_pV (by rfl) (by rfl) (Nat.le_of_ble_eq_true rfl) (by rfl) ?_) | ((with_reducible show xcls _ _ _ ∧ _); refine s_cls (by rfl) (by rfl) ?_))
    refine s_aL (i := md K (bq (Nx K) (Wn K) t (i - 1))) (by rfl) (by rfl) (by rfl) (by rfl) (by omega) (by decide) ?_
    rw [cmp0, hT.tells hM hpr]
    unfold wp_Model_find_91
    refine ⟨fun hno => ?_, fun hno => ?_⟩
    · refine s_sI (i := md K (bq (Nx K) (Wn K) t (i - 1))) (by rfl) (by rfl) (by rfl) (by rfl) (by rfl) (by omega) (by decide) ?_
      refine next _ (fun k hk => by rw [up_k hk]; exact p1 k hk) (fun m hm => by rw [up_i, if_neg hm]) (Or.inl (by rw [up_i, if_pos rfl]; rfl)) ?_
      rw [up_i, if_pos rfl, heq, Nat.sub_self]
      exact ⟨fun hh => absurd hh (by decide), fun hh => absurd hh.2 hno⟩
    · refine s_sI (i := md K (bq (Nx K) (Wn K) t (i - 1))) (by rfl) (by rfl) (by rfl) (by rfl) (by rfl) (by omega) (by decide) ?_
      refine next _ (fun k hk => by rw [up_k hk]; exact p1 k hk) (fun m hm => by rw [up_i, if_neg hm]) (Or.inr (by rw [up_i, if_pos rfl]; rfl)) ?_
      rw [up_i, if_pos rfl, heq, Nat.sub_self]
      exact ⟨fun _ => ⟨Nat.le_refl _, Classical.not_not.mp hno⟩, fun _ => rfl⟩
  have hlt : bd (Nx K) (Wn K) t (bq (Nx K) (Wn K) t (i - 1)) < dd := by
    have : bd (Nx K) (Wn K) t (bq (Nx K) (Wn K) t (i - 1)) ≠ dd := fun ee => hne (by rw [ee])
    omega
  obtain ⟨kk, hkk⟩ : ∃ kk, dd - bd (Nx K) (Wn K) t (bq (Nx K) (Wn K) t (i - 1)) = kk + 1 := ⟨dd - bd (Nx K) (Wn K) t (bq (Nx K) (Wn K) t (i - 1)) - 1, by omega⟩
  have hstep := fun x (hx : x < Wn K) => fw_step hN hWn.1 hFW hij hx
  have hmon : ∀ j, j < bn (Nx K) (Wn K) t → bd (Nx K) (Wn K) t (bq (Nx K) (Wn K) t j) = bd (Nx K) (Wn K) t (bq (Nx K) (Wn K) t (i - 1)) + 1 → i ≤ j := fun j hj hh => by
    apply Nat.le_of_not_lt
    intro hjl
    have := hmono j (i - 1) (by omega) hij
    omega
  generalize hp : bq (Nx K) (Wn K) t (i - 1) = p at *
  unfold wp_Model_find_97
  refine xloop_dn (fun mm a => ∃ x F3, mm = Wn K - x ∧ x ≤ Wn K ∧ a = (ad e 100, Int32.ofNat (i - 1), Int32.ofNat (md K p), Int32.ofNat x, mem e w F3 L g) ∧ (∀ k, k ≠ 142 → F3 k = F k) ∧ (∀ m, m ≠ md K p → F3 142 m = F2 142 m) ∧ (F3 142 (md K p) = 0 ∨ F3 142 (md K p) = 1) ∧ (F3 142 (md K p) = 1 ↔ ∃ x', x' < x ∧ bd (Nx K) (Wn K) t (Nx K p x') = bd (Nx K) (Wn K) t p + 1 ∧ Gd (Nx K) (Wn K) (bd (Nx K) (Wn K) t) (tls K) kk (Nx K p x'))) ?_ (Wn K) _ ⟨0, F2, rfl, Nat.zero_le _, rfl, p1, fun _ _ => rfl, Or.inl hzero, ?_⟩
  rotate_left
  · rw [hzero]
    exact ⟨fun hh => absurd hh (by decide), fun ⟨x', hx', _⟩ => by omega⟩
  rintro mm a cc2 ⟨x, F3, rfl, hx1, rfl, y1, y2, y3, y4⟩ hk2
  unfold wp_Model_find_97_b; dsimp only
  repeat (first | ((with_reducible show ∃ _, _ ∧ _); first | refine s_fI (by rfl) (by rfl) (by rfl) ?_ | refine s_fR (by rfl) (by rfl) (by rfl) ?_ | refine s_pV (by rfl) (by rfl) (Nat.le_of_ble_eq_true rfl) (by rfl) ?_) | ((with_reducible show xcls _ _ _ ∧ _); refine s_cls (by rfl) (by rfl) ?_))
  rw [y1 100 (by decide), hT.1]
  refine ⟨fun hc => ?_, fun hc => ?_⟩ <;> rw [n_le (by omega) (by omega)] at hc
  · have : x = Wn K := by omega
    subst this
    refine next F3 y1 y2 y3 ?_
    rw [y4, hkk]
    exact ⟨fun hh => ⟨by omega, hh⟩, fun hh => hh.2⟩
  have hxW : x < Wn K := by omega
  have hnp := Nx_pr hM p x
  have hnm := md_lt hnp
  obtain ⟨jn, hjn, hqn⟩ := inv.2.2.1 _ (hstep x hxW).1
  have hdn4 := hdle (Nx K p x)
  repeat (first | ((with_reducible show ∃ _, _ ∧ _); first | refine s_fI (by rfl) (by rfl) (by rfl) ?_ | refine s_fR (by rfl) (by rfl) (by rfl) ?_ | refine s_pV (by rfl) (by rfl) (Nat.le_of_ble_eq_true rfl) (by rfl) ?_) | ((with_reducible show xcls _ _ _ ∧ _); refine s_cls (by rfl) (by rfl) ?_))
  refine s_aI (i := 32 * md K p + x) (by rfl) (by rfl) (by rfl) (by rw [n_lit, n_mul, n_add]) (by omega) (by decide) ?_
  rw [y1 135 (by decide), hT.2.2.2 p x hpr hxW]
  repeat (first | ((with_reducible show ∃ _, _ ∧ _); first | refine s_fI (by rfl) (by rfl) (by rfl) ?_ | refine s_fR (by rfl) (by rfl) (by rfl) ?_ | refine s_pV (by rfl) (by rfl) (Nat.le_of_ble_eq_true rfl) (by rfl) ?_) | ((with_reducible show xcls _ _ _ ∧ _); refine s_cls (by rfl) (by rfl) ?_))
  refine s_aI (i := md K p) (by rfl) (by rfl) (by rfl) (by rfl) (by omega) (by decide) ?_
  have one : ∀ (c : Bool), (c = true ↔ F3 142 (md K p) = 1 ∨ (bd (Nx K) (Wn K) t (Nx K p x) = bd (Nx K) (Wn K) t p + 1 ∧ Gd (Nx K) (Wn K) (bd (Nx K) (Wn K) t) (tls K) kk (Nx K p x))) → wp_Model_find_165 z Q cc cc2 (ad e 100) (Int32.ofNat (i - 1)) (Int32.ofNat (md K p)) (Int32.ofNat x) (Int32.ofNat c.toNat) (Int32.ofNat (md K p)) (ad e 142) (mem e w F3 L g) := by
    intro c hcc
    unfold wp_Model_find_165
    rw [nar01]
    refine s_sI (i := md K p) (by rfl) (by rfl) (by rfl) (by rfl) (by rfl) (by omega) (by decide) ?_
    refine hk2 (Wn K - (x + 1)) _ (by omega) ⟨x + 1, _, rfl, by omega, by rw [n_lit, n_add], fun k hk => by rw [up_k hk]; exact y1 k hk, fun m hm => by rw [up_i, if_neg hm]; exact y2 m hm, ?_, ?_⟩
    · rw [up_i, if_pos rfl]; cases c
      · exact Or.inl rfl
      · exact Or.inr rfl
    · rw [up_i, if_pos rfl]
      have : Int32.ofNat c.toNat = 1 ↔ c = true := by cases c <;> decide
      rw [this, hcc, y4]
      constructor
      · rintro (⟨x', h1, h2⟩ | h2)
        · exact ⟨x', by omega, h2⟩
        · exact ⟨x, by omega, h2⟩
      · rintro ⟨x', h1, h2⟩
        by_cases e0 : x' = x
        · rw [e0] at h2; exact Or.inr h2
        · exact Or.inl ⟨x', by omega, h2⟩
  refine ⟨fun hz => ?_, fun hz => ?_⟩
  · unfold wp_Model_find_160
    refine one true ⟨fun _ => Or.inl ?_, fun _ => rfl⟩
    rcases y3 with hh | hh
    · exact absurd hh hz
    · exact hh
  have hno1 : ¬ F3 142 (md K p) = 1 := fun hh => by rw [hz] at hh; exact absurd hh (by decide)
  repeat (first | ((with_reducible show ∃ _, _ ∧ _); first | refine s_fI (by rfl) (by rfl) (by rfl) ?_ | refine s_fR (by rfl) (by rfl) (by rfl) ?_ | refine s_pV (by rfl) (by rfl) (Nat.le_of_ble_eq_true rfl) (by rfl) ?_) | ((with_reducible show xcls _ _ _ ∧ _); refine s_cls (by rfl) (by rfl) ?_))
  refine s_aI (i := md K (Nx K p x)) (by rfl) (by rfl) (by rfl) (by rfl) (by omega) (by decide) ?_
  rw [y1 137 (by decide), hB.2.2 _ hnp]
  repeat (first | ((with_reducible show ∃ _, _ ∧ _); first | refine s_fI (by rfl) (by rfl) (by rfl) ?_ | refine s_fR (by rfl) (by rfl) (by rfl) ?_ | refine s_pV (by rfl) (by rfl) (Nat.le_of_ble_eq_true rfl) (by rfl) ?_) | ((with_reducible show xcls _ _ _ ∧ _); refine s_cls (by rfl) (by rfl) ?_))
  refine s_aI (i := md K p) (by rfl) (by rfl) (by rfl) (by rfl) (by omega) (by decide) ?_
  rw [y1 137 (by decide), hB.2.2 _ hpr, n_lit, n_add]
  refine ⟨fun hd => ?_, fun hd => ?_⟩
  · unfold wp_Model_find_164
    refine one false ⟨fun hh => (by cases hh), fun hh => ?_⟩
    rcases hh with hh | hh
    · exact absurd hh hno1
    · exact absurd (by rw [hh.1]) hd
  have hd := n_inj (by omega) (by omega) hd
  have hji := hmon jn hjn (by rw [hqn]; exact hd)
  have hgn := p2 jn hjn
  rw [hqn, ← y2 _ (fun ee => by have := md_inj hnp hpr ee; rw [this] at hd; omega), hd, show dd - (bd (Nx K) (Wn K) t p + 1) = kk by rw [Nat.sub_add_eq, hkk]; rfl] at hgn
  repeat (first | ((with_reducible show ∃ _, _ ∧ _); first | refine s_fI (by rfl) (by rfl) (by rfl) ?_ | refine s_fR (by rfl) (by rfl) (by rfl) ?_ | refine s_pV (by rfl) (by rfl) (Nat.le_of_ble_eq_true rfl) (by rfl) ?_) | ((with_reducible show xcls _ _ _ ∧ _); refine s_cls (by rfl) (by rfl) ?_))
  refine s_aI (i := md K (Nx K p x)) (by rfl) (by rfl) (by rfl) (by rfl) (by omega) (by decide) ?_
  refine ⟨fun hg => ?_, fun hg => ?_⟩
  · unfold wp_Model_find_164
    refine one false ⟨fun hh => (by cases hh), fun hh => ?_⟩
    rcases hh with hh | hh
    · exact absurd hh hno1
    · have := hgn.2.mpr ⟨hji, by omega, hh.2⟩
      rw [hg] at this
      exact absurd this (by decide)
  · unfold wp_Model_find_160
    refine one true ⟨fun _ => Or.inr ⟨hd, ?_⟩, fun _ => rfl⟩
    rcases hgn.1 with hh | hh
    · exact absurd hh hg
    · exact (hgn.2.mp hh).2.2
theorem v_look0 {Q : xh → Prop} (hM : MK K) (hK : ∀ c, c < 2 → KM c F (K c)) (h33 : F 100 33 = 0)
    (h : ∀ F' L', (∀ k, k ≠ 100 → k < 135 ∨ 137 < k → k ≠ 142 → k ≠ 145 → F' k = F k) → (∀ j, j < 33 ∨ 41 < j → j ≠ 46 → F' 100 j = F 100 j) → F' 100 33 = 1 → (∀ k, k ≠ 132 → k ≠ 134 → L' k = L k) → ML F' L' K → Q (mem e w F' L' g)) : wp_Model_look z Q (ad e 100) (mem e w F L g) := by
  refine v_mtable hM hK h33 (fun F1 L1 k1 z1 h33' l1 t1 d1 => ?_)
  refine v_mbfs hM t1 d1 (fun F2 t k2 z2 ht hB hLn => ?_)
  have hN := Nx_lt hM
  have hT2 : MT F2 L1 K := MT.kept (z2 39 (by decide) (by decide)) (z2 40 (by decide) (by decide)) (k2 135 (by decide) (by decide) (by decide)) rfl t1
  have hlow : ∀ k, k ≠ 100 → k < 135 ∨ 137 < k → F2 k = F k := fun k q1 q2 => by rw [k2 k q1 (by omega) (by omega), k1 k q1 (by omega) (by omega)]
  rcases hLn with ⟨a1, a2⟩ | ⟨f, f1, f2, f3, f4⟩
  · rw [a1]
    refine ⟨fun _ => ?_, fun hh => absurd (show (0 : Int32) ≤ 0 by decide) hh⟩
    exact h F2 L1 (fun k q1 q2 _ _ => hlow k q1 q2) (fun j hj _ => by rw [z2 j (by omega) (by omega), z1 j (by omega)]) (by rw [z2 33 (by decide) (by decide)]; exact h33') l1 ⟨hT2, t, ht, hB, Or.inl ⟨a1, a2⟩⟩
  · have hd := ((b_inv (Nx K) (Wn K) hN t).2.1 f f1).1
    have hd4 := b_d4 hN (t := t) (W := Wn K) f f1
    have hn4 := bn_le (Nx K) (Wn K) hN t
    rw [f4, n_lit, n_le (by omega) (by decide)]
    refine ⟨fun hh => by omega, fun _ => ?_⟩
    refine v_mfind hM (fun c hc => KM.kept (fun k q1 q2 => hlow k (by omega) (by omega)) (hK c hc)) hT2 ht hB f1 f2 f3 f4 (fun F3 L3 k3 z3 l3 ⟨x, b, hw⟩ => ?_)
    refine h F3 L3 (fun k q1 q2 q3 q4 => by rw [k3 k q1 q3 q4]; exact hlow k q1 q2) (fun j hj hj2 => by rw [z3 j hj2, z2 j (by omega) (by omega), z1 j (by omega)]) (by rw [z3 33 (by decide), z2 33 (by decide) (by decide)]; exact h33') (fun k q1 q2 => by rw [l3 k q1]; exact l1 k q1 q2) ⟨MT.kept (z3 39 (by decide)) (z3 40 (by decide)) (k3 135 (by decide) (by decide) (by decide)) (l3 134 (by decide)) hT2, t, ht, ⟨?_, ?_, ?_⟩, Or.inr ⟨f, x, b, f1, f2, f3, hw⟩⟩
    · rw [z3 38 (by decide)]; exact hB.1
    · rw [k3 136 (by decide) (by decide) (by decide)]; exact hB.2.1
    · rw [k3 137 (by decide) (by decide) (by decide)]; exact hB.2.2
end
