/-! The walk of the class. -/
def ntz0 (i : Int32) : Int32 :=
  if 0 < i then
    let p16 : Int32 × Int32 := if i ≤ 65536 then (i, 1) else ((i.toUInt32 >>> ((16 : Int32).toUInt32 &&& Int32.toUInt32 31)).toInt32, 1 + 16)
    let p8 : Int32 × Int32 := if p16.1 ≤ 256 then p16 else ((p16.1.toUInt32 >>> ((8 : Int32).toUInt32 &&& Int32.toUInt32 31)).toInt32, p16.2 + 8)
    let p4 : Int32 × Int32 := if p8.1 ≤ 16 then p8 else ((p8.1.toUInt32 >>> ((4 : Int32).toUInt32 &&& Int32.toUInt32 31)).toInt32, p8.2 + 4)
    let p2 : Int32 × Int32 := if p4.1 ≤ 4 then p4 else ((p4.1.toUInt32 >>> ((2 : Int32).toUInt32 &&& Int32.toUInt32 31)).toInt32, p4.2 + 2)
    p2.2 + (p2.1.toUInt32 >>> ((1 : Int32).toUInt32 &&& Int32.toUInt32 31)).toInt32
  else i &&& 32
theorem v_ntz0 {z : Nat → Nat} {Q : Int32 → xh → Prop} {x : Int32} {hp : xh} (h : Q (ntz0 ((x ^^^ (-1)) &&& (x - 1))) hp) : wp_Integer_numberOfTrailingZeros z Q x hp := by
  unfold wp_Integer_numberOfTrailingZeros
  rintro v1 rfl
  unfold ntz0 at h
  refine ⟨fun h0 => ?_, fun h0 => ?_⟩
  · rw [if_pos h0] at h
    have k2 : ∀ a b : Int32, Q ((if a ≤ 4 then (a, b) else ((a.toUInt32 >>> ((2 : Int32).toUInt32 &&& Int32.toUInt32 31)).toInt32, b + 2)).2 + ((if a ≤ 4 then (a, b) else ((a.toUInt32 >>> ((2 : Int32).toUInt32 &&& Int32.toUInt32 31)).toInt32, b + 2)).1.toUInt32 >>> ((1 : Int32).toUInt32 &&& Int32.toUInt32 31)).toInt32) hp → wp_Integer_numberOfTrailingZeros_62 z Q a b hp := by
      intro a b hq
      unfold wp_Integer_numberOfTrailingZeros_62 wp_Integer_numberOfTrailingZeros_74
      refine ⟨fun hc => ?_, fun hc => ?_⟩
      · rw [if_pos hc] at hq; exact hq
      · rw [if_neg hc] at hq; rintro v rfl; exact hq
    have k4 : ∀ a b : Int32, (∀ p : Int32 × Int32, p = (if a ≤ 16 then (a, b) else ((a.toUInt32 >>> ((4 : Int32).toUInt32 &&& Int32.toUInt32 31)).toInt32, b + 4)) → wp_Integer_numberOfTrailingZeros_62 z Q p.1 p.2 hp) → wp_Integer_numberOfTrailingZeros_49 z Q a b hp := by
      intro a b hq
      unfold wp_Integer_numberOfTrailingZeros_49
      refine ⟨fun hc => ?_, fun hc => ?_⟩
      · exact hq (a, b) (if_pos hc).symm
      · rintro v rfl; exact hq (_, _) (if_neg hc).symm
    have k8 : ∀ a b : Int32, (∀ p : Int32 × Int32, p = (if a ≤ 256 then (a, b) else ((a.toUInt32 >>> ((8 : Int32).toUInt32 &&& Int32.toUInt32 31)).toInt32, b + 8)) → wp_Integer_numberOfTrailingZeros_49 z Q p.1 p.2 hp) → wp_Integer_numberOfTrailingZeros_34 z Q a b hp := by
      intro a b hq
      unfold wp_Integer_numberOfTrailingZeros_34
      refine ⟨fun hc => ?_, fun hc => ?_⟩
      · exact hq (a, b) (if_pos hc).symm
      · rintro v rfl; exact hq (_, _) (if_neg hc).symm
    refine ⟨fun hc => ?_, fun hc => ?_⟩
    · rw [if_pos hc] at h
      exact k8 _ _ (fun p hp8 => k4 _ _ (fun p' hp4 => k2 _ _ (by rw [hp4, hp8]; exact h)))
    · rw [if_neg hc] at h
      rintro v rfl
      exact k8 _ _ (fun p hp8 => k4 _ _ (fun p' hp4 => k2 _ _ (by rw [hp4, hp8]; exact h)))
  · rw [if_neg h0] at h; exact h
theorem ntz0_pow {k : Nat} (hk : k < 32) : ntz0 (Int32.ofNat (2 ^ k - 1)) = Int32.ofNat k := by
  have h : ∀ k : Fin 32, ntz0 (Int32.ofNat (2 ^ k.1 - 1)) = Int32.ofNat k.1 := by decide +kernel
  exact h ⟨k, hk⟩
theorem low_bits {n k : Nat} (h0 : ∀ j, j < k → n.testBit j = false) : n % 2 ^ k = 0 := by
  apply Nat.eq_of_testBit_eq
  intro i
  rw [Nat.testBit_mod_two_pow, Nat.zero_testBit]
  by_cases h : i < k
  · simp [h0 i h]
  · simp [h]
theorem pred_bits {n k : Nat} (hk : n.testBit k = true) (h0 : ∀ j, j < k → n.testBit j = false) (i : Nat) : (n - 1).testBit i = if i < k then true else if i = k then false else n.testBit i := by
  have hm := low_bits h0
  have hp : 0 < 2 ^ k := Nat.two_pow_pos k
  obtain ⟨a, ha⟩ : ∃ a, n = 2 ^ k * a := ⟨n / 2 ^ k, by have := Nat.div_add_mod n (2 ^ k); omega⟩
  have ha1 : a.testBit 0 = true := by
    rw [ha, Nat.testBit_two_pow_mul] at hk
    simpa using hk
  have hodd : a % 2 = 1 := by
    rw [Nat.testBit_zero] at ha1
    simpa using ha1
  obtain ⟨m, rfl⟩ : ∃ m, a = 2 * m + 1 := ⟨a / 2, by omega⟩
  have e1 : n - 1 = 2 ^ k * (2 * m) + (2 ^ k - 1) := by
    rw [ha, Nat.mul_add, Nat.mul_one]; omega
  rw [e1, Nat.testBit_two_pow_mul_add _ (by omega)]
  by_cases h1 : i < k
  · rw [if_pos h1, if_pos h1, Nat.testBit_two_pow_sub_one]; simp [h1]
  · rw [if_neg h1, if_neg h1]
    by_cases h2 : i = k
    · subst h2; rw [if_pos rfl, Nat.sub_self, Nat.testBit_zero]; simp
    · rw [if_neg h2, ha, Nat.testBit_two_pow_mul]
      obtain ⟨j, hj⟩ : ∃ j, i - k = j + 1 := ⟨i - k - 1, by omega⟩
      rw [hj, Nat.testBit_succ, Nat.testBit_succ, show (2 * m) / 2 = m by omega, show (2 * m + 1) / 2 = m by omega]
      simp; omega
theorem ntz_word {y : Int32} {k : Nat} (hk : k < 32) (h1 : bt y k = true) (h0 : ∀ j, j < k → bt y j = false) : ntz0 ((y ^^^ (-1)) &&& (y - 1)) = Int32.ofNat k := by
  rw [← ntz0_pow hk]
  congr 1
  apply bt_ext
  intro i hi
  have hy : ∀ j, bt y j = y.toBitVec.toNat.testBit j := fun j => rfl
  have hn1 : y.toBitVec.toNat ≠ 0 := fun e => by rw [hy, e, Nat.zero_testBit] at h1; cases h1
  have e1 : bt (y - 1) i = (y.toBitVec.toNat - 1).testBit i := by
    show ((y - 1).toBitVec).getLsbD i = _
    rw [show (y - 1).toBitVec = y.toBitVec - 1#32 from rfl, BitVec.getLsbD, BitVec.toNat_sub]
    congr 1
    have := y.toBitVec.isLt
    rw [show (1#32).toNat = 1 from rfl]
    omega
  have e2 : bt (-1 : Int32) i = true := by
    have := bt_neg1 (b := 1) (by decide) hi
    exact this
  rw [bt_and, bt_xor, e2, e1, bt_nat _ _ hi, pred_bits (by rw [← hy]; exact h1) (fun j hj => by rw [← hy]; exact h0 j hj), Nat.testBit_two_pow_sub_one]
  by_cases h2 : i < k
  · rw [if_pos h2, h0 i h2]; simp [h2]
  · rw [if_neg h2]
    by_cases h3 : i = k
    · subst h3; rw [if_pos rfl]; simp
    · rw [if_neg h3, ← hy]; cases bt y i <;> simp [h2]
/-- the class's walk holds step t -/
def WB (F : Nat → Nat → Int32) (K : Nat → Nat → Nat → Nat) (t : Nat) : Prop :=
  F 170 5 = Int32.ofNat (bn (Nx K) (Wn K) t) ∧ (∀ i, i < bn (Nx K) (Wn K) t → F 171 i = Int32.ofNat (bq (Nx K) (Wn K) t i)) ∧ (∀ p, p < 4096 → F 172 p = if bd (Nx K) (Wn K) t p = 0 then -1 else Int32.ofNat (bd (Nx K) (Wn K) t p - 1)) ∧ (∀ p, p < 4096 → bd (Nx K) (Wn K) t p ≠ 0 → p ≠ 0 → F 173 p = Int32.ofNat (ba (Nx K) (Wn K) t p))
theorem bq_pr {K : Nat → Nat → Nat → Nat} (h : MK K) (t : Nat) {i : Nat} (hi : i < bn (Nx K) (Wn K) t) : isPr K (bq (Nx K) (Wn K) t i) := by
  by_cases h0 : i = 0
  · rw [h0, (b_inv (Nx K) (Wn K) (Nx_lt h) t).1.2.1]
    exact ⟨by rw [Nat.zero_div]; exact Nat.two_pow_pos _, by rw [Nat.zero_mod]; exact Nat.two_pow_pos _⟩
  · obtain ⟨u, _, _, _, u4, _, _⟩ := b_from (Nx K) (Wn K) (Nx_lt h) t i (by omega) hi
    rw [u4]; exact Nx_pr h _ _
section
variable {e : xenv} {F : Nat → Nat → Int32} {L : Nat → Nat → Int64} {g : xh} {z : Nat → Nat} {K : Nat → Nat → Nat → Nat}
theorem v_expand {Q : xh → Prop} {i : Nat} (hM : MK K) (hT : TB F K) (hi : i < bn (Nx K) (Wn K) (i * Wn K)) (hB : WB F K (i * Wn K)) (h : ∀ F', (∀ k, k < 170 ∨ 173 < k → F' k = F k) → (∀ j, j ≠ 5 → F' 170 j = F 170 j) → WB F' K ((i + 1) * Wn K) → Q (mem e true F' L g)) : wp_Walk_expand z Q (ad e 170) (Int32.ofNat (bq (Nx K) (Wn K) (i * Wn K) i)) (mem e true F L g) := by
  have hWn := Wn_le hM
  have hN := Nx_lt hM
  unfold wp_Walk_expand wp_Walk_expand_2
  refine xloop_dn (fun m a => ∃ x F', m = Wn K - x ∧ x ≤ Wn K ∧ a = (ad e 170, Int32.ofNat (bq (Nx K) (Wn K) (i * Wn K) i), Int32.ofNat x, mem e true F' L g) ∧ (∀ k, k < 170 ∨ 173 < k → F' k = F k) ∧ (∀ j, j ≠ 5 → F' 170 j = F 170 j) ∧ WB F' K (i * Wn K + x)) ?_ (Wn K) _ ⟨0, F, rfl, Nat.zero_le _, rfl, fun _ _ => rfl, fun _ _ => rfl, hB⟩
  rintro m a cc ⟨x, F', rfl, hx1, rfl, g1, g2, g3⟩ hk
  unfold wp_Walk_expand_2_b; dsimp only
  have hT' : TB F' K := TB.kept (fun k q1 q2 => g1 k (by omega)) hT
  repeat (first | ((with_reducible show ∃ _, _ ∧ _); first | refine s_fI (by rfl) (by rfl) (by rfl) ?_ | refine s_fR (by rfl) (by rfl) (by rfl) ?_ | refine s_pV (by rfl) (by rfl) (Nat.le_of_ble_eq_true rfl) (by rfl) ?_) | ((with_reducible show xcls _ _ _ ∧ _); refine s_cls (by rfl) (by rfl) ?_))
  rw [hT'.1]
  refine ⟨fun hc => ?_, fun hc => ?_⟩ <;> rw [n_le (by omega) (by omega)] at hc
  · have : x = Wn K := by omega
    subst this
    rw [show i * Wn K + Wn K = (i + 1) * Wn K by rw [Nat.succ_mul]] at g3
    exact h F' g1 g2 g3
  have hxW : x < Wn K := by omega
  generalize hu : i * Wn K + x = u at g3
  obtain ⟨d1, d2⟩ := dm (i := i) hxW
  rw [hu] at d1 d2
  have hiu : i < bn (Nx K) (Wn K) u := Nat.lt_of_lt_of_le hi (bn_mono (Nx K) (Wn K) (by omega))
  have hqi : bq (Nx K) (Wn K) (i * Wn K) i = bq (Nx K) (Wn K) u i := (bq_keep (Nx K) (Wn K) (by omega) hi).symm
  have hpr := bq_pr hM u hiu
  have hto : bto (Nx K) (Wn K) u = Nx K (bq (Nx K) (Wn K) u i) x := by unfold bto; rw [d1, d2]
  repeat (first | ((with_reducible show ∃ _, _ ∧ _); first | refine s_fI (by rfl) (by rfl) (by rfl) ?_ | refine s_fR (by rfl) (by rfl) (by rfl) ?_ | refine s_pV (by rfl) (by rfl) (Nat.le_of_ble_eq_true rfl) (by rfl) ?_) | ((with_reducible show xcls _ _ _ ∧ _); refine s_cls (by rfl) (by rfl) ?_))
  rw [hqi]
  refine v_next hM hT' hpr hxW ?_
  rw [← hto]
  have hto4 : bto (Nx K) (Wn K) u < 4096 := by rw [hto]; exact hN _ _
  repeat (first | ((with_reducible show ∃ _, _ ∧ _); first | refine s_fI (by rfl) (by rfl) (by rfl) ?_ | refine s_fR (by rfl) (by rfl) (by rfl) ?_ | refine s_pV (by rfl) (by rfl) (Nat.le_of_ble_eq_true rfl) (by rfl) ?_) | ((with_reducible show xcls _ _ _ ∧ _); refine s_cls (by rfl) (by rfl) ?_))
  refine s_aI (i := bto (Nx K) (Wn K) u) (by rfl) (by rfl) (by rfl) (by rfl) (by exact hto4) (by decide) ?_
  rw [g3.2.2.1 _ hto4]
  have inv := b_inv (Nx K) (Wn K) hN u
  unfold wp_Walk_expand_79
  have hd4 : bd (Nx K) (Wn K) u (bto (Nx K) (Wn K) u) ≤ 4096 ∧ ∀ j, j < bn (Nx K) (Wn K) u → bd (Nx K) (Wn K) u (bq (Nx K) (Wn K) u j) ≤ j + 1 := by
    have key : ∀ j, j < bn (Nx K) (Wn K) u → bd (Nx K) (Wn K) u (bq (Nx K) (Wn K) u j) ≤ j + 1 := by
      intro j
      induction j using Nat.strongRecOn with
      | ind j ih =>
        intro hj
        by_cases h0 : j = 0
        · rw [h0, inv.1.2.1, inv.1.2.2.1]; omega
        · obtain ⟨v, _, v2, _, _, _, v6, _⟩ := b_from (Nx K) (Wn K) hN u j (by omega) hj
          have := ih _ v2 (by omega)
          omega
    refine ⟨?_, key⟩
    by_cases h0 : bd (Nx K) (Wn K) u (bto (Nx K) (Wn K) u) = 0
    · omega
    · obtain ⟨j, hj, hq⟩ := inv.2.2.1 _ h0
      rw [← hq]
      have := key j hj
      have := bn_le (Nx K) (Wn K) hN u
      omega
  refine ⟨fun hc1 => ?_, fun hc1 => ?_⟩
  · have hno : ¬ bnew (Nx K) (Wn K) u := fun hb => hc1 (by rw [if_pos hb.2])
    refine hk (Wn K - (x + 1)) _ (by omega) ⟨x + 1, F', rfl, by omega, by rw [n_lit, n_add, hqi], g1, g2, ?_⟩
    rw [show i * Wn K + (x + 1) = u + 1 by omega]
    unfold WB
    have e2 : bq (Nx K) (Wn K) (u + 1) = bq (Nx K) (Wn K) u := by funext i; exact bq_no (Nx K) (Wn K) hno
    have e3 : bd (Nx K) (Wn K) (u + 1) = bd (Nx K) (Wn K) u := by funext i; exact bd_no (Nx K) (Wn K) hno
    have e4 : ba (Nx K) (Wn K) (u + 1) = ba (Nx K) (Wn K) u := by funext i; exact ba_no (Nx K) (Wn K) hno
    rw [bn_no (Nx K) (Wn K) hno, e2, e3, e4]
    exact g3
  · have hyes : bnew (Nx K) (Wn K) u := by
      refine ⟨by rw [d1]; exact hiu, ?_⟩
      by_cases h0 : bd (Nx K) (Wn K) u (bto (Nx K) (Wn K) u) = 0
      · exact h0
      · rw [if_neg h0] at hc1
        have := n_inj (b := 4294967295) (by omega) (by decide) hc1
        omega
    have hp4 := hpr.lt hM
    have hlt := bn_lt (Nx K) (Wn K) hN hyes
    have hdi := hd4.2 i hiu
    have hdi0 := (inv.2.1 i hiu).1
    repeat (first | ((with_reducible show ∃ _, _ ∧ _); first | refine s_fI (by rfl) (by rfl) (by rfl) ?_ | refine s_fR (by rfl) (by rfl) (by rfl) ?_ | refine s_pV (by rfl) (by rfl) (Nat.le_of_ble_eq_true rfl) (by rfl) ?_) | ((with_reducible show xcls _ _ _ ∧ _); refine s_cls (by rfl) (by rfl) ?_))
    refine s_aI (i := bq (Nx K) (Wn K) u i) (by rfl) (by rfl) (by rfl) (by rfl) (by exact hp4) (by decide) ?_
    rw [g3.2.2.1 _ hp4, if_neg hdi0, n_lit, n_add, show bd (Nx K) (Wn K) u (bq (Nx K) (Wn K) u i) - 1 + 1 = bd (Nx K) (Wn K) u (bq (Nx K) (Wn K) u i) by omega]
    refine s_sI (i := bto (Nx K) (Wn K) u) (by rfl) (by rfl) (by rfl) (by rfl) (by rfl) (by exact hto4) (by decide) ?_
    repeat (first | ((with_reducible show ∃ _, _ ∧ _); first | refine s_fI (by rfl) (by rfl) (by rfl) ?_ | refine s_fR (by rfl) (by rfl) (by rfl) ?_ | refine s_pV (by rfl) (by rfl) (Nat.le_of_ble_eq_true rfl) (by rfl) ?_) | ((with_reducible show xcls _ _ _ ∧ _); refine s_cls (by rfl) (by rfl) ?_))
    refine s_sI (i := bto (Nx K) (Wn K) u) (by rfl) (by rfl) (by rfl) (by rfl) (by rfl) (by exact hto4) (by decide) ?_
    repeat (first | ((with_reducible show ∃ _, _ ∧ _); first | refine s_fI (by rfl) (by rfl) (by rfl) ?_ | refine s_fR (by rfl) (by rfl) (by rfl) ?_ | refine s_pV (by rfl) (by rfl) (Nat.le_of_ble_eq_true rfl) (by rfl) ?_) | ((with_reducible show xcls _ _ _ ∧ _); refine s_cls (by rfl) (by rfl) ?_))
    rw [up_k (by decide), up_k (by decide), g3.1]
    refine s_sI (i := bn (Nx K) (Wn K) u) (by rfl) (by rfl) (by rfl) (by rfl) (by rfl) (by exact hlt) (by decide) ?_
    repeat (first | ((with_reducible show ∃ _, _ ∧ _); first | refine s_fI (by rfl) (by rfl) (by rfl) ?_ | refine s_fR (by rfl) (by rfl) (by rfl) ?_ | refine s_pV (by rfl) (by rfl) (Nat.le_of_ble_eq_true rfl) (by rfl) ?_) | ((with_reducible show xcls _ _ _ ∧ _); refine s_cls (by rfl) (by rfl) ?_))
    rw [up_k (by decide), up_k (by decide), up_k (by decide), g3.1]
    refine hk (Wn K - (x + 1)) _ (by omega) ⟨x + 1, _, rfl, by omega, by rw [n_add, hqi], fun k hk => ?_, fun j hj => ?_, ?_⟩
    · rw [up_k (by omega), up_k (by omega), up_k (by omega), up_k (by omega)]; exact g1 k hk
    · rw [up_i, if_neg hj, up_k (by decide), up_k (by decide), up_k (by decide)]; exact g2 j hj
    rw [show i * Wn K + (x + 1) = u + 1 by omega]
    refine ⟨?_, fun j hj => ?_, fun p hp => ?_, fun p hp hd0 hp0 => ?_⟩
    · rw [up_i, if_pos rfl, bn_yes (Nx K) (Wn K) hyes, n_add]
    · rw [bn_yes (Nx K) (Wn K) hyes] at hj
      rw [up_k (by decide), up_i, bq_yes (Nx K) (Wn K) hyes]
      by_cases e0 : j = bn (Nx K) (Wn K) u
      · rw [if_pos e0, if_pos e0]
      · rw [if_neg e0, if_neg e0, up_k (by decide), up_k (by decide)]; exact g3.2.1 j (by omega)
    · rw [up_k (by decide), up_k (by decide), up_k (by decide), up_i, bd_yes (Nx K) (Wn K) hyes]
      by_cases e0 : p = bto (Nx K) (Wn K) u
      · rw [if_pos e0, if_pos e0, if_neg (by omega), d1]; rfl
      · rw [if_neg e0, if_neg e0]; exact g3.2.2.1 p hp
    · rw [up_k (by decide), up_k (by decide), up_i, ba_yes (Nx K) (Wn K) hyes]
      by_cases e0 : p = bto (Nx K) (Wn K) u
      · rw [if_pos e0, if_pos e0, d1, d2, n_lit, n_mul, n_add, Nat.mul_comm]
      · rw [if_neg e0, if_neg e0, up_k (by decide)]
        rw [bd_yes (Nx K) (Wn K) hyes, if_neg e0] at hd0
        exact g3.2.2.2 p hp hd0 hp0
end
