/-! The class reads: deltas, binary definitions, the header, the sizes. -/
section
variable {e : xenv} {w : Bool} {L : Nat → Nat → Int64} {g : xh} {z : Nat → Nat} {b : Nat → Nat} {n : Nat} {F0 F F' : Nat → Nat → Int32} {S S' : RW} {p q s nu : Nat} {Q Q' : Int32 → xh → Prop}
theorem n_127 (x : Nat) : Int32.ofNat x &&& 127 = Int32.ofNat (x % 128) := by
  rw [show (127 : Int32) = Int32.ofNat 127 from rfl, n_and, show (127 : Nat) = 2 ^ 7 - 1 from rfl, Nat.and_two_pow_sub_one_eq_mod]
theorem p128 (k : Nat) : 128 ^ k = 2 ^ (7 * k) := by rw [Nat.pow_mul]
theorem or_sum {d x k : Nat} (h : d < 128 ^ k) : d ||| x * 2 ^ (7 * k) = d + x * 128 ^ k := by
  rw [p128] at h ⊢
  have := Nat.two_pow_add_eq_or_of_lt h x
  rw [Nat.or_comm, Nat.mul_comm, ← this, Nat.add_comm]
theorem c_delta (hT : TP F0 b n) (h : CS n F0 F S p) (hQ : rN e w L g n F0 p Q (dbA b S 3 p 0 0)) : wp_Reader_readDelta z Q (ad e 64) (mem e w F L g) := by
  have hn := hT.2.1
  have hp := h.2.2.1
  unfold wp_Reader_readDelta
  repeat (first | ((with_reducible show ∃ _, _ ∧ _); first | refine s_fI (by rfl) (by rfl) (by rfl) ?_ | refine s_fR (by rfl) (by rfl) (by rfl) ?_ | refine s_pV (by rfl) (by rfl) (Nat.le_of_ble_eq_true rfl) (by rfl) ?_) | ((with_reducible show xcls _ _ _ ∧ _); refine s_cls (by rfl) (by rfl) ?_))
  rw [h.2.1]
  repeat (first | ((with_reducible show ∃ _, _ ∧ _); first | refine s_fI (by rfl) (by rfl) (by rfl) ?_ | refine s_fR (by rfl) (by rfl) (by rfl) ?_ | refine s_pV (by rfl) (by rfl) (Nat.le_of_ble_eq_true rfl) (by rfl) ?_) | ((with_reducible show xcls _ _ _ ∧ _); refine s_cls (by rfl) (by rfl) ?_))
  generalize hF1 : up (up F 64 10 (Int32.ofNat p)) 64 9 0 = F1
  have h1 : CS n F0 F1 S p := h.move (fun k hk => by rw [← hF1, up_k hk, up_k hk]) (fun j hj => by rw [← hF1, up_i, if_neg (by omega), up_i, if_neg (by omega)]) (by rw [← hF1, up_i, if_neg (by decide), up_i, if_neg (by decide)]; exact h.2.1) hp
  have h9 : F1 64 9 = Int32.ofNat 0 := by rw [← hF1, up_i, if_pos rfl]; rfl
  have h10 : F1 64 10 = Int32.ofNat p := by rw [← hF1, up_i, if_neg (by decide), up_i, if_pos rfl]
  unfold wp_Reader_readDelta_15
  refine xloop_dn (fun m a => ∃ k d q F2, m = 3 - k ∧ k ≤ 3 ∧ a = (ad e 64, Int32.ofNat k, mem e w F2 L g) ∧ CS n F0 F2 S q ∧ F2 64 9 = Int32.ofNat d ∧ d < 128 ^ k ∧ F2 64 10 = Int32.ofNat p ∧ rN e w L g n F0 p Q (dbA b S (3 - k) q k d)) ?_ 3 _ ⟨0, 0, p, F1, rfl, by decide, rfl, h1, h9, by decide, h10, hQ⟩
  rintro m a cc ⟨k, d, q, F2, rfl, hk3, rfl, h2, g9, hd, g10, hQ2⟩ hk
  have hq := h2.2.2.1
  unfold wp_Reader_readDelta_15_b; dsimp only
  refine ⟨fun hc => ?_, fun hc => ?_⟩ <;> rw [show (3 : Int32) = Int32.ofNat 3 from rfl, n_le (by decide) (by omega)] at hc
  · rw [show 3 - k = 0 by omega] at hQ2
    repeat (first | ((with_reducible show ∃ _, _ ∧ _); first | refine s_fI (by rfl) (by rfl) (by rfl) ?_ | refine s_fR (by rfl) (by rfl) (by rfl) ?_ | refine s_pV (by rfl) (by rfl) (Nat.le_of_ble_eq_true rfl) (by rfl) ?_) | ((with_reducible show xcls _ _ _ ∧ _); refine s_cls (by rfl) (by rfl) ?_))
    rw [h2.2.1]
    repeat (first | ((with_reducible show ∃ _, _ ∧ _); first | refine s_fI (by rfl) (by rfl) (by rfl) ?_ | refine s_fR (by rfl) (by rfl) (by rfl) ?_ | refine s_pV (by rfl) (by rfl) (Nat.le_of_ble_eq_true rfl) (by rfl) ?_) | ((with_reducible show xcls _ _ _ ∧ _); refine s_cls (by rfl) (by rfl) ?_))
    exact c_fail h2.1 hQ2
  rw [show 3 - k = (3 - (k + 1)) + 1 by omega] at hQ2
  unfold dbA at hQ2
  repeat (first | ((with_reducible show ∃ _, _ ∧ _); first | refine s_fI (by rfl) (by rfl) (by rfl) ?_ | refine s_fR (by rfl) (by rfl) (by rfl) ?_ | refine s_pV (by rfl) (by rfl) (Nat.le_of_ble_eq_true rfl) (by rfl) ?_) | ((with_reducible show xcls _ _ _ ∧ _); refine s_cls (by rfl) (by rfl) ?_))
  rw [h2.2.1]
  repeat (first | ((with_reducible show ∃ _, _ ∧ _); first | refine s_fI (by rfl) (by rfl) (by rfl) ?_ | refine s_fR (by rfl) (by rfl) (by rfl) ?_ | refine s_pV (by rfl) (by rfl) (Nat.le_of_ble_eq_true rfl) (by rfl) ?_) | ((with_reducible show xcls _ _ _ ∧ _); refine s_cls (by rfl) (by rfl) ?_))
  refine c_at (h2.tp hT) (by omega) ?_
  rw [iv_none (hT.le q)]
  refine ⟨fun hb => ?_, fun hb => ?_⟩
  rotate_left
  · rw [if_pos hb] at hQ2
    repeat (first | ((with_reducible show ∃ _, _ ∧ _); first | refine s_fI (by rfl) (by rfl) (by rfl) ?_ | refine s_fR (by rfl) (by rfl) (by rfl) ?_ | refine s_pV (by rfl) (by rfl) (Nat.le_of_ble_eq_true rfl) (by rfl) ?_) | ((with_reducible show xcls _ _ _ ∧ _); refine s_cls (by rfl) (by rfl) ?_))
    rw [h2.2.1]
    repeat (first | ((with_reducible show ∃ _, _ ∧ _); first | refine s_fI (by rfl) (by rfl) (by rfl) ?_ | refine s_fR (by rfl) (by rfl) (by rfl) ?_ | refine s_pV (by rfl) (by rfl) (Nat.le_of_ble_eq_true rfl) (by rfl) ?_) | ((with_reducible show xcls _ _ _ ∧ _); refine s_cls (by rfl) (by rfl) ?_))
    exact c_fail h2.1 hQ2
  rw [if_neg hb] at hQ2
  have hql := hT.lt hb
  have hb256 := hT.le q
  rw [iv_nat hb]
  repeat (first | ((with_reducible show ∃ _, _ ∧ _); first | refine s_fI (by rfl) (by rfl) (by rfl) ?_ | refine s_fR (by rfl) (by rfl) (by rfl) ?_ | refine s_pV (by rfl) (by rfl) (Nat.le_of_ble_eq_true rfl) (by rfl) ?_) | ((with_reducible show xcls _ _ _ ∧ _); refine s_cls (by rfl) (by rfl) ?_))
  rw [h2.2.1, n_inc q]
  repeat (first | ((with_reducible show ∃ _, _ ∧ _); first | refine s_fI (by rfl) (by rfl) (by rfl) ?_ | refine s_fR (by rfl) (by rfl) (by rfl) ?_ | refine s_pV (by rfl) (by rfl) (Nat.le_of_ble_eq_true rfl) (by rfl) ?_) | ((with_reducible show xcls _ _ _ ∧ _); refine s_cls (by rfl) (by rfl) ?_))
  rw [up_i, if_neg (by decide), g9, n_127, show (7 : Int32) * Int32.ofNat k = Int32.ofNat (7 * k) from n_mul 7 k, n_shl (by omega), n_or, or_sum hd]
  generalize hF3 : up (up F2 64 8 (Int32.ofNat (q + 1))) 64 9 (Int32.ofNat (d + b q % 128 * 128 ^ k)) = F3
  have h3 : CS n F0 F3 S (q + 1) := h2.move (fun k hk => by rw [← hF3, up_k hk, up_k hk]) (fun j hj => by rw [← hF3, up_i, if_neg (by omega), up_i, if_neg (by omega)]) (by rw [← hF3, up_i, if_neg (by decide), up_i, if_pos rfl]) (by omega)
  have g93 : F3 64 9 = Int32.ofNat (d + b q % 128 * 128 ^ k) := by rw [← hF3, up_i, if_pos rfl]
  have g103 : F3 64 10 = Int32.ofNat p := by rw [← hF3, up_i, if_neg (by decide), up_i, if_neg (by decide)]; exact g10
  rw [show (128 : Int32) = Int32.ofNat 128 from rfl, n_le (by decide) (by omega)]
  refine ⟨fun hc2 => ?_, fun hc2 => ?_⟩
  · rw [if_neg (by omega)] at hQ2
    have hlt : d + b q % 128 * 128 ^ k < 128 ^ (k + 1) := by
      have h127 : b q % 128 ≤ 127 := by omega
      have := Nat.mul_le_mul_right (128 ^ k) h127
      rw [Nat.pow_succ]
      omega
    exact hk (3 - (k + 1)) _ (by omega) ⟨k + 1, _, q + 1, F3, rfl, by omega, by rw [n_inc], h3, g93, hlt, g103, hQ2⟩
  · rw [if_pos (by omega)] at hQ2
    exact hQ2 F3 h3 g93 g103
theorem dbA_ok {S' : RW} {v' q' : Nat} : ∀ m p k d, k + m = 3 → d < 128 ^ k → dbA b S m p k d = .ok (S', q', v') → S' = S ∧ v' < 2097152
  | 0, p, k, d, _, _, h => by cases h
  | m + 1, p, k, d, hk, hd, h => by
    unfold dbA at h
    have hlt : d + b p % 128 * 128 ^ k < 128 ^ (k + 1) := by
      have h127 : b p % 128 ≤ 127 := by omega
      have := Nat.mul_le_mul_right (128 ^ k) h127
      rw [Nat.pow_succ]
      omega
    by_cases h1 : b p = 256
    · rw [if_pos h1] at h; cases h
    · rw [if_neg h1] at h
      by_cases h2 : b p < 128
      · rw [if_pos h2] at h
        obtain ⟨rfl, rfl, rfl⟩ := ok_inj h
        have : 128 ^ (k + 1) ≤ 128 ^ 3 := Nat.pow_le_pow_right (by decide) (by omega)
        exact ⟨rfl, by omega⟩
      · rw [if_neg h2] at h
        exact dbA_ok m (p + 1) (k + 1) _ (by omega) hlt h
theorem c_deltas (hT : TP F0 b n) (h : CS n F0 F S p) (hB : BI S nu) (h12 : ∀ k, k < S 0 4 → S 112 k = 1 ∧ S 12 k ≤ 200) (hQ : rC e w L g n F0 Q (lp (dnA b) 0 (S 0 4) S p)) : wp_Reader_readDeltas z Q (ad e 64) (mem e w F L g) := by
  have hI := hB.1.1.2.2.2.2.1
  generalize hN : S 0 4 = N at *
  unfold wp_Reader_readDeltas wp_Reader_readDeltas_2
  refine xloop_dn (fun m a => ∃ k S2 p2 F2, m = N - k ∧ k ≤ N ∧ a = (ad e 64, Int32.ofNat k, mem e w F2 L g) ∧ CS n F0 F2 S2 p2 ∧ BI S2 nu ∧ S2 0 4 = N ∧ (∀ k, k < N → S2 112 k = 1 ∧ S2 12 k ≤ 200) ∧ rC e w L g n F0 Q (lp (dnA b) k (N - k) S2 p2)) ?_ N _ ⟨0, S, p, F, rfl, Nat.zero_le _, rfl, h, hB, hN, h12, hQ⟩
  rintro m a cc ⟨k, S2, p2, F2, rfl, hk1, rfl, h2, hB2, hN2, h122, hQ2⟩ hk
  unfold wp_Reader_readDeltas_2_b; dsimp only
  repeat (first | ((with_reducible show ∃ _, _ ∧ _); first | refine s_fI (by rfl) (by rfl) (by rfl) ?_ | refine s_fR (by rfl) (by rfl) (by rfl) ?_ | refine s_pV (by rfl) (by rfl) (Nat.le_of_ble_eq_true rfl) (by rfl) ?_) | ((with_reducible show xcls _ _ _ ∧ _); refine s_cls (by rfl) (by rfl) ?_))
  rw [show F2 40 5 = Int32.ofNat (S2 0 4) from h2.size hB2.1 (by decide : 4 < 5), hN2]
  refine ⟨fun hc => ?_, fun hc => ?_⟩ <;> rw [n_le (by omega) (by omega)] at hc
  · rw [show N - k = 0 by omega] at hQ2
    exact hQ2 F2 h2
  rw [show N - k = (N - (k + 1)) + 1 by omega] at hQ2
  unfold lp dnA at hQ2
  obtain ⟨m12, v12⟩ := h122 k (by omega)
  rw [bi_bi] at hQ2
  unfold dlA at hQ2
  rw [bi_bi] at hQ2
  repeat (first | ((with_reducible show ∃ _, _ ∧ _); first | refine s_fI (by rfl) (by rfl) (by rfl) ?_ | refine s_fR (by rfl) (by rfl) (by rfl) ?_ | refine s_pV (by rfl) (by rfl) (Nat.le_of_ble_eq_true rfl) (by rfl) ?_) | ((with_reducible show xcls _ _ _ ∧ _); refine s_cls (by rfl) (by rfl) ?_))
  refine s_aI (i := k) (by rfl) (by rfl) (by rfl) (by rfl) (by omega) (by decide) ?_
  rw [show F2 69 k = Int32.ofNat (S2 12 k) from h2.at (r := 12) (j := k) (by decide) rfl (by omega) m12 (by omega)]
  generalize hV : S2 12 k = V at *
  repeat (first | ((with_reducible show ∃ _, _ ∧ _); first | refine s_fI (by rfl) (by rfl) (by rfl) ?_ | refine s_fR (by rfl) (by rfl) (by rfl) ?_ | refine s_pV (by rfl) (by rfl) (Nat.le_of_ble_eq_true rfl) (by rfl) ?_) | ((with_reducible show xcls _ _ _ ∧ _); refine s_cls (by rfl) (by rfl) ?_))
  refine c_delta hT h2 (rN_then hQ2 (fun h hq => ⟨fun hh => absurd rfl hh, fun _ => hq⟩) (fun S3 p3 d hr hq F3 h3 h9 h10 => ⟨fun _ => ?_, fun hh => absurd hh (by decide)⟩))
  obtain ⟨rfl, hd⟩ := dbA_ok 3 p2 0 0 (by decide) (by decide) hr
  have e2V : (2 : Int32) * Int32.ofNat V = Int32.ofNat (2 * V) := n_mul 2 V
  have bad : (d < 1 ∨ 2 * V < d) → wp_Reader_readDeltas_49 z Q (ad e 64) (mem e w F3 L g) := by
    intro hb
    rw [if_pos hb] at hq
    unfold wp_Reader_readDeltas_49
    repeat (first | ((with_reducible show ∃ _, _ ∧ _); first | refine s_fI (by rfl) (by rfl) (by rfl) ?_ | refine s_fR (by rfl) (by rfl) (by rfl) ?_ | refine s_pV (by rfl) (by rfl) (Nat.le_of_ble_eq_true rfl) (by rfl) ?_) | ((with_reducible show xcls _ _ _ ∧ _); refine s_cls (by rfl) (by rfl) ?_))
    rw [h10]
    repeat (first | ((with_reducible show ∃ _, _ ∧ _); first | refine s_fI (by rfl) (by rfl) (by rfl) ?_ | refine s_fR (by rfl) (by rfl) (by rfl) ?_ | refine s_pV (by rfl) (by rfl) (Nat.le_of_ble_eq_true rfl) (by rfl) ?_) | ((with_reducible show xcls _ _ _ ∧ _); refine s_cls (by rfl) (by rfl) ?_))
    exact c_fail h3.1 hq
  repeat (first | ((with_reducible show ∃ _, _ ∧ _); first | refine s_fI (by rfl) (by rfl) (by rfl) ?_ | refine s_fR (by rfl) (by rfl) (by rfl) ?_ | refine s_pV (by rfl) (by rfl) (Nat.le_of_ble_eq_true rfl) (by rfl) ?_) | ((with_reducible show xcls _ _ _ ∧ _); refine s_cls (by rfl) (by rfl) ?_))
  rw [h9]
  refine ⟨fun h0 => bad (Or.inl (by have := n_inj (b := 0) (by omega) (by decide) h0; omega)), fun h0 => ?_⟩
  have hd0 : d ≠ 0 := fun ee => h0 (by rw [ee]; rfl)
  repeat (first | ((with_reducible show ∃ _, _ ∧ _); first | refine s_fI (by rfl) (by rfl) (by rfl) ?_ | refine s_fR (by rfl) (by rfl) (by rfl) ?_ | refine s_pV (by rfl) (by rfl) (Nat.le_of_ble_eq_true rfl) (by rfl) ?_) | ((with_reducible show xcls _ _ _ ∧ _); refine s_cls (by rfl) (by rfl) ?_))
  rw [h9, e2V]
  refine ⟨fun hle => ?_, fun hle => bad (Or.inr (by rw [n_le (by omega) (by omega)] at hle; omega))⟩
  rw [n_le (by omega) (by omega)] at hle
  rw [if_neg (by omega)] at hq
  repeat (first | ((with_reducible show ∃ _, _ ∧ _); first | refine s_fI (by rfl) (by rfl) (by rfl) ?_ | refine s_fR (by rfl) (by rfl) (by rfl) ?_ | refine s_pV (by rfl) (by rfl) (Nat.le_of_ble_eq_true rfl) (by rfl) ?_) | ((with_reducible show xcls _ _ _ ∧ _); refine s_cls (by rfl) (by rfl) ?_))
  rw [h9, n_sub hle]
  refine s_sI (i := V) (by rfl) (by rfl) (by rfl) (by rfl) (by rfl) (by omega) (by decide) ?_
  have h4 := (h3.put (r := 6) (i := V) (c := V) (x := 2 * V - d) (by decide) rfl (by omega) (by omega) rfl).skip (r := 13) (i := k) (x := 2 * V - d) (by decide) rfl
  have hB4 : BI (st (st S3 6 V (2 * V - d)) 13 k (2 * V - d)) nu := (hB2.st (by decide)).st (by decide)
  have e4 : st (st S3 6 V (2 * V - d)) 13 k (2 * V - d) 12 = S3 12 ∧ st (st S3 6 V (2 * V - d)) 13 k (2 * V - d) 112 = S3 112 ∧ st (st S3 6 V (2 * V - d)) 13 k (2 * V - d) 0 = S3 0 ∧ st (st S3 6 V (2 * V - d)) 13 k (2 * V - d) 6 V = 2 * V - d ∧ st (st S3 6 V (2 * V - d)) 13 k (2 * V - d) 106 V = 1 := by
    refine ⟨by rw [st_o (by decide) (by decide), st_o (by decide) (by decide)], by rw [st_o (by decide) (by decide), st_o (by decide) (by decide)], by rw [st_o (by decide) (by decide), st_o (by decide) (by decide)], by rw [st_o (by decide) (by decide), st_r, if_pos rfl], ?_⟩
    rw [st_o (by decide) (by decide), show (106 : Nat) = 6 + 100 from rfl, st_m, if_pos rfl]
  generalize hS4 : st (st S3 6 V (2 * V - d)) 13 k (2 * V - d) = S4 at *
  rw [bi_ok, bi_bi] at hq
  rw [e4.1, hV] at hq
  repeat (first | ((with_reducible show ∃ _, _ ∧ _); first | refine s_fI (by rfl) (by rfl) (by rfl) ?_ | refine s_fR (by rfl) (by rfl) (by rfl) ?_ | refine s_pV (by rfl) (by rfl) (Nat.le_of_ble_eq_true rfl) (by rfl) ?_) | ((with_reducible show xcls _ _ _ ∧ _); refine s_cls (by rfl) (by rfl) ?_))
  refine c_delta hT h4 (rN_then hq (fun h hq => ⟨fun hh => absurd rfl hh, fun _ => hq⟩) (fun S5 p5 d5 hr5 hq5 F5 h5 h95 h105 => ⟨fun _ => ?_, fun hh => absurd hh (by decide)⟩))
  obtain ⟨rfl, hd5⟩ := dbA_ok 3 p3 0 0 (by decide) (by decide) hr5
  have h42 : F5 42 V = Int32.ofNat (2 * V - d) := by rw [h5.at (r := 6) (j := V) (by decide) rfl (by omega) e4.2.2.2.2 (by omega), e4.2.2.2.1]; rfl
  repeat (first | ((with_reducible show ∃ _, _ ∧ _); first | refine s_fI (by rfl) (by rfl) (by rfl) ?_ | refine s_fR (by rfl) (by rfl) (by rfl) ?_ | refine s_pV (by rfl) (by rfl) (Nat.le_of_ble_eq_true rfl) (by rfl) ?_) | ((with_reducible show xcls _ _ _ ∧ _); refine s_cls (by rfl) (by rfl) ?_))
  refine s_aI (i := V) (by rfl) (by rfl) (by rfl) (by rfl) (by omega) (by decide) ?_
  rw [h95, h42]
  refine ⟨fun hle5 => ?_, fun hle5 => ?_⟩
  · rw [n_le (by omega) (by omega)] at hle5
    rw [if_neg (by omega)] at hq5
    repeat (first | ((with_reducible show ∃ _, _ ∧ _); first | refine s_fI (by rfl) (by rfl) (by rfl) ?_ | refine s_fR (by rfl) (by rfl) (by rfl) ?_ | refine s_pV (by rfl) (by rfl) (Nat.le_of_ble_eq_true rfl) (by rfl) ?_) | ((with_reducible show xcls _ _ _ ∧ _); refine s_cls (by rfl) (by rfl) ?_))
    refine s_aI (i := V) (by rfl) (by rfl) (by rfl) (by rfl) (by omega) (by decide) ?_
    rw [h42]
    repeat (first | ((with_reducible show ∃ _, _ ∧ _); first | refine s_fI (by rfl) (by rfl) (by rfl) ?_ | refine s_fR (by rfl) (by rfl) (by rfl) ?_ | refine s_pV (by rfl) (by rfl) (Nat.le_of_ble_eq_true rfl) (by rfl) ?_) | ((with_reducible show xcls _ _ _ ∧ _); refine s_cls (by rfl) (by rfl) ?_))
    rw [h95, n_sub hle5]
    refine s_sI (i := V) (by rfl) (by rfl) (by rfl) (by rfl) (by rfl) (by omega) (by decide) ?_
    have h6 := (h5.put (r := 7) (i := V) (c := V) (x := 2 * V - d - d5) (y := Int32.ofNat (2 * V - d - d5)) (by decide) rfl (by omega) (by omega) rfl).skip (r := 14) (i := k) (x := 2 * V - d - d5) (by decide) rfl
    refine hk (N - (k + 1)) _ (by omega) ⟨k + 1, _, p5, _, rfl, by omega, by rw [n_inc], h6, (hB4.st (by decide)).st (by decide), ?_, ?_, hq5⟩
    · rw [st_o (by decide) (by decide), st_o (by decide) (by decide), e4.2.2.1]; exact hN2
    · intro k' hk'
      rw [st_o (by decide) (by decide), st_o (by decide) (by decide), st_o (by decide) (by decide), st_o (by decide) (by decide), e4.1, e4.2.1]
      exact h122 k' hk'
  · rw [n_le (by omega) (by omega)] at hle5
    rw [if_pos (by omega)] at hq5
    repeat (first | ((with_reducible show ∃ _, _ ∧ _); first | refine s_fI (by rfl) (by rfl) (by rfl) ?_ | refine s_fR (by rfl) (by rfl) (by rfl) ?_ | refine s_pV (by rfl) (by rfl) (Nat.le_of_ble_eq_true rfl) (by rfl) ?_) | ((with_reducible show xcls _ _ _ ∧ _); refine s_cls (by rfl) (by rfl) ?_))
    rw [h105]
    repeat (first | ((with_reducible show ∃ _, _ ∧ _); first | refine s_fI (by rfl) (by rfl) (by rfl) ?_ | refine s_fR (by rfl) (by rfl) (by rfl) ?_ | refine s_pV (by rfl) (by rfl) (Nat.le_of_ble_eq_true rfl) (by rfl) ?_) | ((with_reducible show xcls _ _ _ ∧ _); refine s_cls (by rfl) (by rfl) ?_))
    exact c_fail h5.1 hq5
/-- after k definitions in order the sizes are the same -/
theorem it_size {f : Nat → RW → RW} (hf : ∀ k S, f k S 0 = S 0) : ∀ m k S, itS f k m S 0 = S 0
  | 0, _, _ => rfl
  | m + 1, k, S => by
    show itS f (k + 1) m (f k S) 0 = S 0
    rw [it_size hf m (k + 1) (f k S), hf]
theorem boI_0 (k : Nat) (S : RW) : boI k S 0 = S 0 := by unfold boI; rw [st_o (by decide) (by decide), st_o (by decide) (by decide)]
theorem boL_0 (k : Nat) (S : RW) : boL k S 0 = S 0 := by unfold boL; rw [st_o (by decide) (by decide), st_o (by decide) (by decide)]
theorem boA_0 (k : Nat) (S : RW) : boA k S 0 = S 0 := by unfold boA; rw [st_o (by decide) (by decide), st_o (by decide) (by decide)]
theorem BI_bo {r i x v c : Nat} (hB : BI S nu) (hr : r ≠ 0 ∧ r ≠ 31 ∧ r ≠ 30 ∧ r ≠ 8 ∧ r ≠ 32 ∧ r < 100 ∧ (r < 40 ∨ 43 ≤ r)) (hc : c ≤ 3) : BI (st (st S 8 v c) r i x) nu := by
  refine BI.st ?_ hr
  obtain ⟨h1, h2, h3, h4, h5⟩ := hB
  refine ⟨SZ_st h1 ⟨by decide, by decide, by decide, by decide⟩, fun u hu => ?_, fun u => ?_, by rw [st_o (by decide) (by decide)]; exact h4, fun kd k q1 q2 => by rw [st_o (by omega) (by omega), st_o (by omega) (by omega)]; exact h5 kd k q1 q2⟩
  · rw [show (108 : Nat) = 8 + 100 from rfl, st_m]
    split
    · rfl
    · exact h2 u hu
  · rw [st_r]
    split
    · exact hc
    · exact h3 u
theorem c_order (h : CS n F0 F S p) (hB : BI S nu) (h30 : S 30 0 ≠ 0) (hQ : rC e w L g n F0 Q (.ok (bdA S, p, 0))) : wp_Reader_defineInOrder z Q (ad e 64) (mem e w F L g) := by
  obtain ⟨f0, f1, f2, f3, f4, f5⟩ := hB.1.1
  have f5 : S 0 0 = S 0 1 + S 0 2 + S 0 4 := by omega
  unfold wp_Reader_defineInOrder
  repeat (first | ((with_reducible show ∃ _, _ ∧ _); first | refine s_fI (by rfl) (by rfl) (by rfl) ?_ | refine s_fR (by rfl) (by rfl) (by rfl) ?_ | refine s_pV (by rfl) (by rfl) (Nat.le_of_ble_eq_true rfl) (by rfl) ?_) | ((with_reducible show xcls _ _ _ ∧ _); refine s_cls (by rfl) (by rfl) ?_))
  rw [show F 40 2 = Int32.ofNat (S 0 1) from h.size hB.1 (by decide : 1 < 5), show (1 : Int32) + Int32.ofNat (S 0 1) = Int32.ofNat (1 + S 0 1) from n_add 1 _]
  rintro v3 rfl
  repeat (first | ((with_reducible show ∃ _, _ ∧ _); first | refine s_fI (by rfl) (by rfl) (by rfl) ?_ | refine s_fR (by rfl) (by rfl) (by rfl) ?_ | refine s_pV (by rfl) (by rfl) (Nat.le_of_ble_eq_true rfl) (by rfl) ?_) | ((with_reducible show xcls _ _ _ ∧ _); refine s_cls (by rfl) (by rfl) ?_))
  rw [show F 40 3 = Int32.ofNat (S 0 2) from h.size hB.1 (by decide : 2 < 5), n_add]
  rintro v6 rfl
  generalize hbd : bdA S = T at hQ
  unfold bdA at hbd
  generalize hI : S 0 1 = I at *
  generalize hl : S 0 2 = l at *
  generalize hA : S 0 4 = A at *
  unfold wp_Reader_defineInOrder_22
  refine xloop_dn (fun m a => ∃ k S2 F2, m = I - k ∧ k ≤ I ∧ a = (ad e 64, Int32.ofNat (1 + I), Int32.ofNat (1 + I + l), Int32.ofNat k, mem e w F2 L g) ∧ CS n F0 F2 S2 p ∧ BI S2 nu ∧ S2 0 = S 0 ∧ itS boA 0 A (itS boL 0 l (itS boI k (I - k) S2)) = T) ?_ I _ ⟨0, S, F, rfl, Nat.zero_le _, rfl, h, hB, rfl, hbd⟩
  rintro m a cc ⟨k, S2, F2, rfl, hk1, rfl, h2, hB2, hz2, hT2⟩ hk
  unfold wp_Reader_defineInOrder_22_b; dsimp only
  repeat (first | ((with_reducible show ∃ _, _ ∧ _); first | refine s_fI (by rfl) (by rfl) (by rfl) ?_ | refine s_fR (by rfl) (by rfl) (by rfl) ?_ | refine s_pV (by rfl) (by rfl) (Nat.le_of_ble_eq_true rfl) (by rfl) ?_) | ((with_reducible show xcls _ _ _ ∧ _); refine s_cls (by rfl) (by rfl) ?_))
  rw [show F2 40 2 = Int32.ofNat (S2 0 1) from h2.size hB2.1 (by decide : 1 < 5), hz2, hI]
  refine ⟨fun hc => ?_, fun hc => ?_⟩ <;> rw [n_le (by omega) (by omega)] at hc
  rotate_left
  · rw [show I - k = (I - (k + 1)) + 1 by omega] at hT2
    repeat (first | ((with_reducible show ∃ _, _ ∧ _); first | refine s_fI (by rfl) (by rfl) (by rfl) ?_ | refine s_fR (by rfl) (by rfl) (by rfl) ?_ | refine s_pV (by rfl) (by rfl) (Nat.le_of_ble_eq_true rfl) (by rfl) ?_) | ((with_reducible show xcls _ _ _ ∧ _); refine s_cls (by rfl) (by rfl) ?_))
    refine s_sI (i := 1 + k) (by rfl) (by rfl) (by rfl) (by rfl) (by exact n_add 1 k) (by omega) (by decide) ?_
    repeat (first | ((with_reducible show ∃ _, _ ∧ _); first | refine s_fI (by rfl) (by rfl) (by rfl) ?_ | refine s_fR (by rfl) (by rfl) (by rfl) ?_ | refine s_pV (by rfl) (by rfl) (Nat.le_of_ble_eq_true rfl) (by rfl) ?_) | ((with_reducible show xcls _ _ _ ∧ _); refine s_cls (by rfl) (by rfl) ?_))
    refine s_sI (i := k) (by rfl) (by rfl) (by rfl) (by rfl) (by rfl) (by omega) (by decide) ?_
    rw [show (1 : Int32) + Int32.ofNat k = Int32.ofNat (1 + k) from n_add 1 k]
    have h3 := (h2.put (r := 8) (i := 1 + k) (c := 1 + k) (x := 1) (y := vp_nar .byte 1) (by decide) rfl (by omega) (by omega) rfl).put (r := 1) (i := k) (c := k) (x := 1 + k) (y := Int32.ofNat (1 + k)) (by decide) rfl (by omega) (by omega) rfl
    exact hk (I - (k + 1)) _ (by omega) ⟨k + 1, _, _, rfl, by omega, by rw [n_inc], h3, BI_bo hB2 (by decide) (by decide), by rw [st_o (by decide) (by decide), st_o (by decide) (by decide)]; exact hz2, hT2⟩
  clear hk
  rw [show I - k = 0 by omega] at hT2
  unfold wp_Reader_defineInOrder_65
  refine xloop_dn (fun m a => ∃ k S3 F3, m = l - k ∧ k ≤ l ∧ a = (ad e 64, Int32.ofNat (1 + I), Int32.ofNat (1 + I + l), Int32.ofNat k, mem e w F3 L g) ∧ CS n F0 F3 S3 p ∧ BI S3 nu ∧ S3 0 = S 0 ∧ itS boA 0 A (itS boL k (l - k) S3) = T) ?_ l _ ⟨0, S2, F2, rfl, Nat.zero_le _, rfl, h2, hB2, hz2, hT2⟩
  rintro m a cc ⟨k, S3, F3, rfl, hk1', rfl, h3, hB3, hz3, hT3⟩ hk
  unfold wp_Reader_defineInOrder_65_b; dsimp only
  repeat (first | ((with_reducible show ∃ _, _ ∧ _); first | refine s_fI (by rfl) (by rfl) (by rfl) ?_ | refine s_fR (by rfl) (by rfl) (by rfl) ?_ | refine s_pV (by rfl) (by rfl) (Nat.le_of_ble_eq_true rfl) (by rfl) ?_) | ((with_reducible show xcls _ _ _ ∧ _); refine s_cls (by rfl) (by rfl) ?_))
  rw [show F3 40 3 = Int32.ofNat (S3 0 2) from h3.size hB3.1 (by decide : 2 < 5), hz3, hl]
  refine ⟨fun hc => ?_, fun hc => ?_⟩ <;> rw [n_le (by omega) (by omega)] at hc
  rotate_left
  · rw [show l - k = (l - (k + 1)) + 1 by omega] at hT3
    repeat (first | ((with_reducible show ∃ _, _ ∧ _); first | refine s_fI (by rfl) (by rfl) (by rfl) ?_ | refine s_fR (by rfl) (by rfl) (by rfl) ?_ | refine s_pV (by rfl) (by rfl) (Nat.le_of_ble_eq_true rfl) (by rfl) ?_) | ((with_reducible show xcls _ _ _ ∧ _); refine s_cls (by rfl) (by rfl) ?_))
    refine s_sI (i := 1 + I + k) (by rfl) (by rfl) (by rfl) (by rfl) (by exact n_add (1 + I) k) (by omega) (by decide) ?_
    repeat (first | ((with_reducible show ∃ _, _ ∧ _); first | refine s_fI (by rfl) (by rfl) (by rfl) ?_ | refine s_fR (by rfl) (by rfl) (by rfl) ?_ | refine s_pV (by rfl) (by rfl) (Nat.le_of_ble_eq_true rfl) (by rfl) ?_) | ((with_reducible show xcls _ _ _ ∧ _); refine s_cls (by rfl) (by rfl) ?_))
    refine s_sI (i := k) (by rfl) (by rfl) (by rfl) (by rfl) (by rfl) (by omega) (by decide) ?_
    rw [n_add]
    have h4 := (h3.put (r := 8) (i := 1 + I + k) (c := 1 + I + k) (x := 2) (y := vp_nar .byte 2) (by decide) rfl (by omega) (by omega) rfl).put (r := 2) (i := k) (c := k) (x := 1 + I + k) (y := Int32.ofNat (1 + I + k)) (by decide) rfl (by omega) (by omega) rfl
    refine hk (l - (k + 1)) _ (by omega) ⟨k + 1, _, _, rfl, by omega, by rw [n_inc], h4, BI_bo hB3 (by decide) (by decide), by rw [st_o (by decide) (by decide), st_o (by decide) (by decide)]; exact hz3, ?_⟩
    have eb : st (st S3 8 (1 + I + k) 2) 2 k (1 + I + k) = boL k S3 := by unfold boL; rw [hz3, hI]
    rw [eb]; exact hT3
  clear hk
  rw [show l - k = 0 by omega] at hT3
  unfold wp_Reader_defineInOrder_108
  refine xloop_dn (fun m a => ∃ k S4 F4, m = A - k ∧ k ≤ A ∧ a = (ad e 64, Int32.ofNat (1 + I + l), Int32.ofNat k, mem e w F4 L g) ∧ CS n F0 F4 S4 p ∧ BI S4 nu ∧ S4 0 = S 0 ∧ itS boA k (A - k) S4 = T) ?_ A _ ⟨0, S3, F3, rfl, Nat.zero_le _, rfl, h3, hB3, hz3, hT3⟩
  rintro m a cc ⟨k, S4, F4, rfl, hk1'', rfl, h4, hB4, hz4, hT4⟩ hk
  unfold wp_Reader_defineInOrder_108_b; dsimp only
  repeat (first | ((with_reducible show ∃ _, _ ∧ _); first | refine s_fI (by rfl) (by rfl) (by rfl) ?_ | refine s_fR (by rfl) (by rfl) (by rfl) ?_ | refine s_pV (by rfl) (by rfl) (Nat.le_of_ble_eq_true rfl) (by rfl) ?_) | ((with_reducible show xcls _ _ _ ∧ _); refine s_cls (by rfl) (by rfl) ?_))
  rw [show F4 40 5 = Int32.ofNat (S4 0 4) from h4.size hB4.1 (by decide : 4 < 5), hz4, hA]
  refine ⟨fun hc => ?_, fun hc => ?_⟩ <;> rw [n_le (by omega) (by omega)] at hc
  rotate_left
  · rw [show A - k = (A - (k + 1)) + 1 by omega] at hT4
    repeat (first | ((with_reducible show ∃ _, _ ∧ _); first | refine s_fI (by rfl) (by rfl) (by rfl) ?_ | refine s_fR (by rfl) (by rfl) (by rfl) ?_ | refine s_pV (by rfl) (by rfl) (Nat.le_of_ble_eq_true rfl) (by rfl) ?_) | ((with_reducible show xcls _ _ _ ∧ _); refine s_cls (by rfl) (by rfl) ?_))
    refine s_sI (i := 1 + I + l + k) (by rfl) (by rfl) (by rfl) (by rfl) (by exact n_add (1 + I + l) k) (by omega) (by decide) ?_
    repeat (first | ((with_reducible show ∃ _, _ ∧ _); first | refine s_fI (by rfl) (by rfl) (by rfl) ?_ | refine s_fR (by rfl) (by rfl) (by rfl) ?_ | refine s_pV (by rfl) (by rfl) (Nat.le_of_ble_eq_true rfl) (by rfl) ?_) | ((with_reducible show xcls _ _ _ ∧ _); refine s_cls (by rfl) (by rfl) ?_))
    refine s_sI (i := k) (by rfl) (by rfl) (by rfl) (by rfl) (by rfl) (by omega) (by decide) ?_
    rw [n_add]
    have h5 := (h4.put (r := 8) (i := 1 + I + l + k) (c := 1 + I + l + k) (x := 3) (y := vp_nar .byte 3) (by decide) rfl (by omega) (by omega) rfl).put (r := 12) (i := k) (c := k) (x := 1 + I + l + k) (y := Int32.ofNat (1 + I + l + k)) (by decide) rfl (by omega) (by omega) rfl
    refine hk (A - (k + 1)) _ (by omega) ⟨k + 1, _, _, rfl, by omega, by rw [n_inc], h5, BI_bo hB4 (by decide) (by decide), by rw [st_o (by decide) (by decide), st_o (by decide) (by decide)]; exact hz4, ?_⟩
    have eb : st (st S4 8 (1 + I + l + k) 3) 12 k (1 + I + l + k) = boA k S4 := by unfold boA; rw [hz4, hI, hl]
    rw [eb]; exact hT4
  rw [show A - k = 0 by omega] at hT4
  have hT4 : S4 = T := hT4
  rw [hT4] at h4
  exact hQ F4 h4
end
