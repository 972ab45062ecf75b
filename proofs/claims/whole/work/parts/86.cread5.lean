/-! The class reads: symbols, what is defined nowhere. -/
def so (kd : Nat) : Nat := if kd = 0 then 0 else if kd = 1 then 5 else 11
def sz3 (kd : Nat) : Nat := if kd = 0 then 5 else if kd = 1 then 6 else 8
theorem sl_so (kd k : Nat) : sl kd k = so kd + k := rfl
theorem kd3 {kd : Nat} (h : kd < 3) : kd = 0 ∨ kd = 1 ∨ kd = 2 := by omega
theorem lyC_nm {kd : Nat} (h : kd < 3) : lyC (50 + kd) = (49, 40 * so kd, 40 * sz3 kd) ∧ lyC (40 + kd) = (50, so kd, sz3 kd) := by
  rcases kd3 h with rfl | rfl | rfl <;> exact ⟨rfl, rfl⟩
theorem VC_nm {kd : Nat} (x : Nat) : VC (50 + kd) x = nb x := if_neg (by omega)
theorem VC_ln {kd : Nat} (h : kd < 3) (x : Nat) : VC (40 + kd) x = Int32.ofNat x := if_pos (by omega)
theorem fit_sz {S : RW} (h : fit S) {kd : Nat} (hk : kd < 3) : S 0 (1 + kd) ≤ sz3 kd ∧ so kd + sz3 kd ≤ 19 := by
  rcases kd3 hk with rfl | rfl | rfl
  · exact ⟨h.2.1, by decide⟩
  · exact ⟨h.2.2.1, by decide⟩
  · exact ⟨h.2.2.2.1, by decide⟩
theorem nb_nar (x : Nat) : vp_nar .byte (Int32.ofNat x).toInt8.toInt32 = nb x := by
  rw [nar_byte]; exact isB_nar _
section
variable {b : Nat → Nat} {S S' : RW} {p q v nu k m : Nat}
theorem nmA_BI {kd s : Nat} (hkd : kd < 3) : ∀ m S p i, BI S nu → nmA b kd s m S p i = .ok (S', q, v) → BI S' nu ∧ i ≤ v ∧ v ≤ i + m ∧ S' 0 = S 0 ∧ (∀ r, r < 50 ∨ (53 ≤ r ∧ r < 150) ∨ 153 ≤ r → S' r = S r)
  | 0, S, p, i, hB, h => by
    unfold nmA at h
    obtain ⟨rfl, rfl, rfl⟩ := ok_inj h
    exact ⟨hB, Nat.le_refl _, Nat.le_refl _, rfl, fun _ _ => rfl⟩
  | m + 1, S, p, i, hB, h => by
    unfold nmA at h
    by_cases hb : b p = 256 ∨ b p = 10
    · rw [if_pos hb] at h
      obtain ⟨rfl, rfl, rfl⟩ := ok_inj h
      exact ⟨hB, Nat.le_refl _, by omega, rfl, fun _ _ => rfl⟩
    · rw [if_neg hb] at h
      obtain ⟨h1, h2, h3, h4, h5⟩ := nmA_BI hkd m _ _ _ (hB.st (by omega)) h
      exact ⟨h1, by omega, by omega, by rw [h4, st_o (by omega) (by omega)], fun r hr => by rw [h5 r hr, st_o (by omega) (by omega)]⟩
theorem naA_BI {kd s : Nat} (hkd : kd < 3) (hB : BI S nu) (h : naA b kd s S p = .ok (S', q, v)) : BI S' nu ∧ S' 0 = S 0 := by
  obtain ⟨S1, p1, v1, h1, h2⟩ := bi_split h
  obtain ⟨a1, a2, a3, a4, a5⟩ := nmA_BI hkd 40 S p 0 hB h1
  by_cases h0 : v1 = 0
  · rw [if_pos h0] at h2; cases h2
  · rw [if_neg h0] at h2
    obtain ⟨rfl, _⟩ := psA_ok h2
    exact ⟨BI_len a1 hkd (by omega), by rw [st_o (by omega) (by omega)]; exact a4⟩
theorem s1A_BI {kd : Nat} (hkd : kd < 3) (hB : BI S nu) (h : s1A b kd S p = .ok (S', q, v)) : BI S' nu ∧ S' 0 = S 0 := by
  obtain ⟨S1, p1, v1, h1, h2⟩ := bi_split h
  obtain ⟨rfl, _, _⟩ := nuA_ok h1
  by_cases h0 : S1 0 (1 + kd) ≤ v1 ∨ S1 (40 + kd) v1 ≠ 0
  · rw [if_pos h0] at h2; cases h2
  · rw [if_neg h0] at h2
    obtain ⟨S3, p3, v3, h3, h4⟩ := bi_split h2
    obtain ⟨rfl, _⟩ := psA_ok h3
    exact naA_BI hkd hB h4
theorem smA_BI (hB : BI S nu) (h : smA b S p = .ok (S', q, v)) : BI S' nu ∧ S' 0 = S 0 := by
  unfold smA at h
  split at h
  · exact s1A_BI (by decide) hB h
  · split at h
    · exact s1A_BI (by decide) hB h
    · split at h
      · exact s1A_BI (by decide) hB h
      · cases h
/-- places grow -/
theorem nmA_pos {kd s : Nat} : ∀ m S p i, nmA b kd s m S p i = .ok (S', q, v) → p ≤ q
  | 0, S, p, i, h => by
    unfold nmA at h
    obtain ⟨rfl, rfl, rfl⟩ := ok_inj h
    exact Nat.le_refl _
  | m + 1, S, p, i, h => by
    unfold nmA at h
    by_cases hb : b p = 256 ∨ b p = 10
    · rw [if_pos hb] at h
      obtain ⟨rfl, rfl, rfl⟩ := ok_inj h
      exact Nat.le_refl _
    · rw [if_neg hb] at h
      have := nmA_pos m _ _ _ h
      omega
theorem s1A_pos {kd : Nat} (h : s1A b kd S p = .ok (S', q, v)) : p < q := by
  obtain ⟨S1, p1, v1, h1, h2⟩ := bi_split h
  obtain ⟨rfl, _, hp⟩ := nuA_ok h1
  by_cases h0 : S1 0 (1 + kd) ≤ v1 ∨ S1 (40 + kd) v1 ≠ 0
  · rw [if_pos h0] at h2; cases h2
  · rw [if_neg h0] at h2
    obtain ⟨S3, p3, v3, h3, h4⟩ := bi_split h2
    obtain ⟨rfl, h5, _⟩ := psA_ok h3
    obtain ⟨S6, p6, v6, h6, h7⟩ := bi_split h4
    have := nmA_pos 40 _ _ _ h6
    by_cases h8 : v6 = 0
    · rw [if_pos h8] at h7; cases h7
    · rw [if_neg h8] at h7
      obtain ⟨_, h9, _⟩ := psA_ok h7
      omega
theorem smA_pos (h : smA b S p = .ok (S', q, v)) : p < q := by
  unfold smA at h
  split at h
  · have := s1A_pos h; omega
  · split at h
    · have := s1A_pos h; omega
    · split at h
      · have := s1A_pos h; omega
      · cases h
end
section
variable {e : xenv} {w : Bool} {L : Nat → Nat → Int64} {g : xh} {z : Nat → Nat} {b : Nat → Nat} {n : Nat} {F0 F F' : Nat → Nat → Int32} {S S' : RW} {p q s nu : Nat} {Q Q' : Int32 → xh → Prop}
theorem c_name {kd s : Nat} (hT : TP F0 b n) (h : CS n F0 F S p) (hB : BI S nu) (hkd : kd < 3) (hs : s < sz3 kd) (hQ : rC e w L g n F0 Q (naA b kd s S p)) : wp_Reader_readName z Q (ad e 64) (Int32.ofNat (sl kd s)) (mem e w F L g) := by
  have hn := hT.2.1
  have h19 := (fit_sz hB.1.1 hkd).2
  have hslot : sl kd s < 19 := by rw [sl_so]; omega
  have hslv : sl kd s = so kd + s := sl_so kd s
  generalize hsl : sl kd s = slot at *
  unfold wp_Reader_readName wp_Reader_readName_2
  unfold naA at hQ
  refine xloop_dn (fun m a => ∃ i S2 p2 F2, m = 40 - i ∧ i ≤ 40 ∧ a = (ad e 64, Int32.ofNat slot, Int32.ofNat i, mem e w F2 L g) ∧ CS n F0 F2 S2 p2 ∧ rC e w L g n F0 Q (bi (nmA b kd s (40 - i) S2 p2 i) (fun S q i => if i = 0 then .error (1, q) else psA b 10 (st S (40 + kd) s i) q))) ?_ 40 _ ⟨0, S, p, F, rfl, by decide, rfl, h, hQ⟩
  rintro m a cc ⟨i, S2, p2, F2, rfl, hi, rfl, h2, hq2⟩ hk
  have hp2 := h2.2.2.1
  -- the end of a name
  have stop : rC e w L g n F0 Q (if i = 0 then .error (1, p2) else psA b 10 (st S2 (40 + kd) s i) p2) → wp_Reader_readName_66 z Q (ad e 64) (Int32.ofNat slot) (Int32.ofNat i) (mem e w F2 L g) := by
    intro hq3
    unfold wp_Reader_readName_66
    repeat (first | ((with_reducible show ∃ _, _ ∧ _); first | refine s_fI (by rfl) (by rfl) (by rfl) ?_ | refine s_fR (by rfl) (by rfl) (by rfl) ?_ | refine s_pV (by rfl) (by rfl) (Nat.le_of_ble_eq_true rfl) (by rfl) ?_) | ((with_reducible show xcls _ _ _ ∧ _); refine s_cls (by rfl) (by rfl) ?_))
    refine s_sI (i := slot) (by rfl) (by rfl) (by rfl) (by rfl) (by rfl) (by omega) (by decide) ?_
    have h3 := h2.put (r := 40 + kd) (i := s) (c := slot) (x := i) (y := Int32.ofNat i) (by omega) (lyC_nm hkd).2 hs hslv (VC_ln hkd i).symm
    refine ⟨fun hz => ?_, fun hz => ?_⟩
    · rw [show (0 : Int32) = Int32.ofNat 0 from rfl, n_le (by omega) (by decide)] at hz
      rw [if_pos (by omega)] at hq3
      repeat (first | ((with_reducible show ∃ _, _ ∧ _); first | refine s_fI (by rfl) (by rfl) (by rfl) ?_ | refine s_fR (by rfl) (by rfl) (by rfl) ?_ | refine s_pV (by rfl) (by rfl) (Nat.le_of_ble_eq_true rfl) (by rfl) ?_) | ((with_reducible show xcls _ _ _ ∧ _); refine s_cls (by rfl) (by rfl) ?_))
      rw [h3.2.1]
      repeat (first | ((with_reducible show ∃ _, _ ∧ _); first | refine s_fI (by rfl) (by rfl) (by rfl) ?_ | refine s_fR (by rfl) (by rfl) (by rfl) ?_ | refine s_pV (by rfl) (by rfl) (Nat.le_of_ble_eq_true rfl) (by rfl) ?_) | ((with_reducible show xcls _ _ _ ∧ _); refine s_cls (by rfl) (by rfl) ?_))
      exact c_fail h3.1 hq3
    · rw [show (0 : Int32) = Int32.ofNat 0 from rfl, n_le (by omega) (by decide)] at hz
      rw [if_neg (by omega)] at hq3
      repeat (first | ((with_reducible show ∃ _, _ ∧ _); first | refine s_fI (by rfl) (by rfl) (by rfl) ?_ | refine s_fR (by rfl) (by rfl) (by rfl) ?_ | refine s_pV (by rfl) (by rfl) (Nat.le_of_ble_eq_true rfl) (by rfl) ?_) | ((with_reducible show xcls _ _ _ ∧ _); refine s_cls (by rfl) (by rfl) ?_))
      exact c_pass (c := 10) hT h3 (by decide) hq3
  unfold wp_Reader_readName_2_b; dsimp only
  refine ⟨fun hc => ?_, fun hc => ?_⟩ <;> rw [show (40 : Int32) = Int32.ofNat 40 from rfl, n_le (by decide) (by omega)] at hc
  · rw [show 40 - i = 0 by omega] at hq2
    exact stop hq2
  rw [show 40 - i = (40 - (i + 1)) + 1 by omega] at hq2
  unfold nmA at hq2
  repeat (first | ((with_reducible show ∃ _, _ ∧ _); first | refine s_fI (by rfl) (by rfl) (by rfl) ?_ | refine s_fR (by rfl) (by rfl) (by rfl) ?_ | refine s_pV (by rfl) (by rfl) (Nat.le_of_ble_eq_true rfl) (by rfl) ?_) | ((with_reducible show xcls _ _ _ ∧ _); refine s_cls (by rfl) (by rfl) ?_))
  rw [h2.2.1]
  repeat (first | ((with_reducible show ∃ _, _ ∧ _); first | refine s_fI (by rfl) (by rfl) (by rfl) ?_ | refine s_fR (by rfl) (by rfl) (by rfl) ?_ | refine s_pV (by rfl) (by rfl) (Nat.le_of_ble_eq_true rfl) (by rfl) ?_) | ((with_reducible show xcls _ _ _ ∧ _); refine s_cls (by rfl) (by rfl) ?_))
  refine c_at (h2.tp hT) (by omega) ?_
  rw [iv_none (hT.le p2)]
  refine ⟨fun hb => ?_, fun hb => ?_⟩
  · rw [if_pos (Or.inl hb)] at hq2
    exact stop hq2
  rw [iv_nat hb]
  have hb256 := hT.le p2
  rw [show (10 : Int32) = Int32.ofNat 10 from rfl, n_eq (by omega) (by decide)]
  refine ⟨fun hb2 => ?_, fun hb2 => ?_⟩
  rotate_left
  · rw [if_pos (Or.inr hb2)] at hq2
    exact stop hq2
  rw [if_neg (fun hh => hh.elim hb hb2)] at hq2
  have hpl := hT.lt hb
  have hz3 : 40 * s + i < 40 * sz3 kd := by omega
  repeat (first | ((with_reducible show ∃ _, _ ∧ _); first | refine s_fI (by rfl) (by rfl) (by rfl) ?_ | refine s_fR (by rfl) (by rfl) (by rfl) ?_ | refine s_pV (by rfl) (by rfl) (Nat.le_of_ble_eq_true rfl) (by rfl) ?_) | ((with_reducible show xcls _ _ _ ∧ _); refine s_cls (by rfl) (by rfl) ?_))
  refine s_sI (i := slot * 40 + i) (by rfl) (by rfl) (by rfl) (by rfl) (by rw [show (40 : Int32) = Int32.ofNat 40 from rfl, n_mul, n_add]) (by omega) (by decide) ?_
  repeat (first | ((with_reducible show ∃ _, _ ∧ _); first | refine s_fI (by rfl) (by rfl) (by rfl) ?_ | refine s_fR (by rfl) (by rfl) (by rfl) ?_ | refine s_pV (by rfl) (by rfl) (Nat.le_of_ble_eq_true rfl) (by rfl) ?_) | ((with_reducible show xcls _ _ _ ∧ _); refine s_cls (by rfl) (by rfl) ?_))
  rw [up_k (by decide), h2.2.1, n_inc p2, nb_nar]
  have h3 := h2.put (r := 50 + kd) (i := 40 * s + i) (c := slot * 40 + i) (x := b p2) (y := nb (b p2)) (by omega) (lyC_nm hkd).1 hz3 (by omega) (VC_nm _).symm
  refine hk (40 - (i + 1)) _ (by omega) ⟨i + 1, _, p2 + 1, _, rfl, by omega, by rw [n_inc], h3.move (fun k hk => up_k hk) (fun j hj => by rw [up_i, if_neg (by omega)]) (by rw [up_i, if_pos rfl]) (by omega), hq2⟩
theorem c_sym1 {kd : Nat} (hT : TP F0 b n) (h : CS n F0 F S p) (hB : BI S nu) (hkd : kd < 3) (hz : z 0 = ad e 81) (h81 : F0 81 0 = 0 ∧ F0 81 1 = 5 ∧ F0 81 2 = 11) (hQ : rC e w L g n F0 Q (s1A b kd S p)) : wp_Reader_readNumber z (fun v10 h9 => (¬ v10 = 0 → (∃ o12, fR h9 (ad e 64) 5 2 = some o12 ∧ (∃ v13, fI h9 (ad e 64) 5 9 = some v13 ∧ (xcls h9 o12 0 ∧ wp_Circuit_nameSlot z (fun v15 h14 => (v15 = (-1) → wp_Reader_readSymbol_79 z Q (ad e 64) h14) ∧ (¬ v15 = (-1) → (∃ o16, fR h14 (ad e 64) 5 2 = some o16 ∧ (∃ o17, fR h14 o16 0 15 = some o17 ∧ (∃ v18, aI h14 o17 0 v15 = some v18 ∧ ((v18 ≤ 0 → (xcls h14 (ad e 64) 5 ∧ wp_Reader_pass z (fun v20 h19 => (v20 = 0 → Q 0 h19) ∧ (¬ v20 = 0 → (xcls h19 (ad e 64) 5 ∧ wp_Reader_readName z (fun v23 h22 => (v23 = 0 → Q 0 h22) ∧ (¬ v23 = 0 → Q 1 h22)) (ad e 64) v15 h19))) (ad e 64) 32 h14)) ∧ (¬ v18 ≤ 0 → wp_Reader_readSymbol_79 z Q (ad e 64) h14))))))) o12 (Int32.ofNat kd) v13 h9)))) ∧ (v10 = 0 → Q 0 h9)) (ad e 64) (mem e w F L g) := by
  unfold s1A at hQ
  refine c_number hT h (rN_then hQ (fun h hq => ⟨fun hh => absurd rfl hh, fun _ => hq⟩) (fun S1 p1 v hr hq F1 h1 h9 h10 => ⟨fun _ => ?_, fun hh => absurd hh (by decide)⟩))
  obtain ⟨rfl, hv, _⟩ := nuA_ok hr
  have bad : (S1 0 (1 + kd) ≤ v ∨ S1 (40 + kd) v ≠ 0) → wp_Reader_readSymbol_79 z Q (ad e 64) (mem e w F1 L g) := by
    intro hb
    rw [if_pos hb] at hq
    unfold wp_Reader_readSymbol_79
    repeat (first | ((with_reducible show ∃ _, _ ∧ _); first | refine s_fI (by rfl) (by rfl) (by rfl) ?_ | refine s_fR (by rfl) (by rfl) (by rfl) ?_ | refine s_pV (by rfl) (by rfl) (Nat.le_of_ble_eq_true rfl) (by rfl) ?_) | ((with_reducible show xcls _ _ _ ∧ _); refine s_cls (by rfl) (by rfl) ?_))
    rw [h1.2.1]
    repeat (first | ((with_reducible show ∃ _, _ ∧ _); first | refine s_fI (by rfl) (by rfl) (by rfl) ?_ | refine s_fR (by rfl) (by rfl) (by rfl) ?_ | refine s_pV (by rfl) (by rfl) (Nat.le_of_ble_eq_true rfl) (by rfl) ?_) | ((with_reducible show xcls _ _ _ ∧ _); refine s_cls (by rfl) (by rfl) ?_))
    exact c_fail h1.1 hq
  have hfs := fit_sz hB.1.1 hkd
  repeat (first | ((with_reducible show ∃ _, _ ∧ _); first | refine s_fI (by rfl) (by rfl) (by rfl) ?_ | refine s_fR (by rfl) (by rfl) (by rfl) ?_ | refine s_pV (by rfl) (by rfl) (Nat.le_of_ble_eq_true rfl) (by rfl) ?_) | ((with_reducible show xcls _ _ _ ∧ _); refine s_cls (by rfl) (by rfl) ?_))
  rw [h9]
  repeat (first | ((with_reducible show ∃ _, _ ∧ _); first | refine s_fI (by rfl) (by rfl) (by rfl) ?_ | refine s_fR (by rfl) (by rfl) (by rfl) ?_ | refine s_pV (by rfl) (by rfl) (Nat.le_of_ble_eq_true rfl) (by rfl) ?_) | ((with_reducible show xcls _ _ _ ∧ _); refine s_cls (by rfl) (by rfl) ?_))
  refine v_nameSlot (b := 40) (C := S1) (Or.inr (Or.inr rfl)) hz (by rw [h1.1 81 (by decide)]; exact h81) (fun j hj => h1.size hB.1 hj) (fun j hj => ?_) (fun hno => ⟨fun _ => bad (Or.inl ?_), fun hh => absurd rfl hh⟩) (fun kd' k' q1 q2 q3 q4 => ?_)
  · have hf := hB.1.1
    have : j = 0 ∨ j = 1 ∨ j = 2 ∨ j = 3 ∨ j = 4 := by omega
    rcases this with rfl | rfl | rfl | rfl | rfl <;> omega
  · have := hno kd v hkd rfl rfl
    rw [Nat.add_comm]; omega
  · have e1 := n_inj (by omega) (by omega) q2
    subst e1
    have hk'9 : k' < 9999 := by
      have hh := hfs.1
      rw [Nat.add_comm] at q4
      unfold sz3 at hh
      split at hh
      · omega
      · split at hh <;> omega
    have e2 := n_inj (by omega) (by omega) q3
    subst e2
    rw [Nat.add_comm] at q4
    have hvs : v < sz3 kd := by omega
    have hslot : sl kd v < 19 := by rw [sl_so]; omega
    refine ⟨fun hh => ?_, fun _ => ?_⟩
    · have : Int32.ofNat (sl kd v) = Int32.ofNat 4294967295 := hh
      have := n_inj (by omega) (by decide) this
      omega
    repeat (first | ((with_reducible show ∃ _, _ ∧ _); first | refine s_fI (by rfl) (by rfl) (by rfl) ?_ | refine s_fR (by rfl) (by rfl) (by rfl) ?_ | refine s_pV (by rfl) (by rfl) (Nat.le_of_ble_eq_true rfl) (by rfl) ?_) | ((with_reducible show xcls _ _ _ ∧ _); refine s_cls (by rfl) (by rfl) ?_))
    refine s_aI (i := sl kd v) (by rfl) (by rfl) (by rfl) (by rfl) (by exact hslot) (by decide) ?_
    have hl50 : F1 50 (sl kd v) = Int32.ofNat (S1 (40 + kd) v) := by
      rw [h1.at (r := 40 + kd) (j := v) (by omega) (lyC_nm hkd).2 hvs (by rw [show 40 + kd + 100 = 140 + kd by omega]; exact (hB.2.2.2.2 kd v hkd (by have : sz3 kd ≤ 8 := by { unfold sz3; split; decide; split <;> decide }; omega)).1) (sl_so kd v), VC_ln hkd]
    have hlen : S1 (40 + kd) v < 2147483648 := by have := (hB.2.2.2.2 kd v hkd (by have : sz3 kd ≤ 8 := by { unfold sz3; split; decide; split <;> decide }; omega)).2; omega
    rw [hl50, show (0 : Int32) = Int32.ofNat 0 from rfl, n_le hlen (by decide)]
    refine ⟨fun hle => ?_, fun hle => bad (Or.inr (by omega))⟩
    rw [if_neg (by omega)] at hq
    repeat (first | ((with_reducible show ∃ _, _ ∧ _); first | refine s_fI (by rfl) (by rfl) (by rfl) ?_ | refine s_fR (by rfl) (by rfl) (by rfl) ?_ | refine s_pV (by rfl) (by rfl) (Nat.le_of_ble_eq_true rfl) (by rfl) ?_) | ((with_reducible show xcls _ _ _ ∧ _); refine s_cls (by rfl) (by rfl) ?_))
    refine c_pass (c := 32) hT h1 (by decide) (rC_then hq (fun h hq => ⟨fun _ => hq, fun hh => absurd rfl hh⟩) (fun S3 p3 v3 hr3 hq3 F3 h3 => ⟨fun hh => absurd hh (by decide), fun _ => ?_⟩))
    obtain ⟨rfl, _⟩ := psA_ok hr3
    repeat (first | ((with_reducible show ∃ _, _ ∧ _); first | refine s_fI (by rfl) (by rfl) (by rfl) ?_ | refine s_fR (by rfl) (by rfl) (by rfl) ?_ | refine s_pV (by rfl) (by rfl) (Nat.le_of_ble_eq_true rfl) (by rfl) ?_) | ((with_reducible show xcls _ _ _ ∧ _); refine s_cls (by rfl) (by rfl) ?_))
    exact c_name hT h3 hB hkd hvs (rC_imp hq3 (fun h hq => ⟨fun _ => hq, fun hh => absurd rfl hh⟩) (fun h hq => ⟨fun hh => absurd hh (by decide), fun _ => hq⟩))
theorem c_symbol (hT : TP F0 b n) (h : CS n F0 F S p) (hB : BI S nu) (hz : z 0 = ad e 81) (h81 : F0 81 0 = 0 ∧ F0 81 1 = 5 ∧ F0 81 2 = 11) (hne : b p ≠ 256) (hQ : rC e w L g n F0 Q (smA b S p)) : wp_Reader_readSymbol z Q (ad e 64) (mem e w F L g) := by
  have hn := hT.2.1
  have hp := h.2.2.1
  have hpl := hT.lt hne
  have hb256 := hT.le p
  unfold wp_Reader_readSymbol
  repeat (first | ((with_reducible show ∃ _, _ ∧ _); first | refine s_fI (by rfl) (by rfl) (by rfl) ?_ | refine s_fR (by rfl) (by rfl) (by rfl) ?_ | refine s_pV (by rfl) (by rfl) (Nat.le_of_ble_eq_true rfl) (by rfl) ?_) | ((with_reducible show xcls _ _ _ ∧ _); refine s_cls (by rfl) (by rfl) ?_))
  rw [h.2.1]
  repeat (first | ((with_reducible show ∃ _, _ ∧ _); first | refine s_fI (by rfl) (by rfl) (by rfl) ?_ | refine s_fR (by rfl) (by rfl) (by rfl) ?_ | refine s_pV (by rfl) (by rfl) (Nat.le_of_ble_eq_true rfl) (by rfl) ?_) | ((with_reducible show xcls _ _ _ ∧ _); refine s_cls (by rfl) (by rfl) ?_))
  refine c_at (h.tp hT) (by omega) ?_
  unfold smA at hQ
  have one : ∀ kd, kd < 3 → ∀ y : Int32, y = Int32.ofNat kd → rC e w L g n F0 Q (s1A b kd S (p + 1)) → (¬ y = (-1) → (∃ v7, fI (mem e w F L g) (ad e 64) 5 8 = some v7 ∧ (∃ h8, pV (mem e w F L g) (ad e 64) 5 8 (.int (v7 + 1)) = some h8 ∧ (xcls h8 (ad e 64) 5 ∧ wp_Reader_readNumber z (fun v10 h9 => (¬ v10 = 0 → (∃ o12, fR h9 (ad e 64) 5 2 = some o12 ∧ (∃ v13, fI h9 (ad e 64) 5 9 = some v13 ∧ (xcls h9 o12 0 ∧ wp_Circuit_nameSlot z (fun v15 h14 => (v15 = (-1) → wp_Reader_readSymbol_79 z Q (ad e 64) h14) ∧ (¬ v15 = (-1) → (∃ o16, fR h14 (ad e 64) 5 2 = some o16 ∧ (∃ o17, fR h14 o16 0 15 = some o17 ∧ (∃ v18, aI h14 o17 0 v15 = some v18 ∧ ((v18 ≤ 0 → (xcls h14 (ad e 64) 5 ∧ wp_Reader_pass z (fun v20 h19 => (v20 = 0 → Q 0 h19) ∧ (¬ v20 = 0 → (xcls h19 (ad e 64) 5 ∧ wp_Reader_readName z (fun v23 h22 => (v23 = 0 → Q 0 h22) ∧ (¬ v23 = 0 → Q 1 h22)) (ad e 64) v15 h19))) (ad e 64) 32 h14)) ∧ (¬ v18 ≤ 0 → wp_Reader_readSymbol_79 z Q (ad e 64) h14))))))) o12 y v13 h9)))) ∧ (v10 = 0 → Q 0 h9)) (ad e 64) h8)))) ∧ (y = (-1) → (∃ v25, fI (mem e w F L g) (ad e 64) 5 8 = some v25 ∧ (xcls (mem e w F L g) (ad e 64) 5 ∧ wp_Reader_fail z (fun v27 h26 => Q v27 h26) (ad e 64) 1 v25 (mem e w F L g)))) := by
    rintro kd hkd y rfl hq
    refine ⟨fun _ => ?_, fun hh => ?_⟩
    · repeat (first | ((with_reducible show ∃ _, _ ∧ _); first | refine s_fI (by rfl) (by rfl) (by rfl) ?_ | refine s_fR (by rfl) (by rfl) (by rfl) ?_ | refine s_pV (by rfl) (by rfl) (Nat.le_of_ble_eq_true rfl) (by rfl) ?_) | ((with_reducible show xcls _ _ _ ∧ _); refine s_cls (by rfl) (by rfl) ?_))
      rw [h.2.1, n_inc]
      repeat (first | ((with_reducible show ∃ _, _ ∧ _); first | refine s_fI (by rfl) (by rfl) (by rfl) ?_ | refine s_fR (by rfl) (by rfl) (by rfl) ?_ | refine s_pV (by rfl) (by rfl) (Nat.le_of_ble_eq_true rfl) (by rfl) ?_) | ((with_reducible show xcls _ _ _ ∧ _); refine s_cls (by rfl) (by rfl) ?_))
      exact c_sym1 hT (h.move (fun k hk => up_k hk) (fun j hj => by rw [up_i, if_neg (by omega)]) (by rw [up_i, if_pos rfl]) (by omega)) hB hkd hz h81 hq
    · have : Int32.ofNat kd = Int32.ofNat 4294967295 := hh
      have := n_inj (by omega) (by decide) this
      omega
  unfold wp_Reader_kindOf
  rw [show (105 : Int32) = Int32.ofNat 105 from rfl, iv_eq hb256 (by decide), show (108 : Int32) = Int32.ofNat 108 from rfl, iv_eq hb256 (by decide), show (111 : Int32) = Int32.ofNat 111 from rfl, iv_eq hb256 (by decide)]
  refine ⟨fun h1 => ?_, fun h1 => ⟨fun h2 => ?_, fun h2 => ⟨fun h3 => ?_, fun h3 => ?_⟩⟩⟩
  · rw [if_pos h1] at hQ; exact one 0 (by decide) 0 rfl hQ
  · rw [if_neg h1, if_pos h2] at hQ; exact one 1 (by decide) 1 rfl hQ
  · rw [if_neg h1, if_neg h2, if_pos h3] at hQ; exact one 2 (by decide) 2 rfl hQ
  · rw [if_neg h1, if_neg h2, if_neg h3] at hQ
    refine ⟨fun hh => absurd rfl hh, fun _ => ?_⟩
    repeat (first | ((with_reducible show ∃ _, _ ∧ _); first | refine s_fI (by rfl) (by rfl) (by rfl) ?_ | refine s_fR (by rfl) (by rfl) (by rfl) ?_ | refine s_pV (by rfl) (by rfl) (Nat.le_of_ble_eq_true rfl) (by rfl) ?_) | ((with_reducible show xcls _ _ _ ∧ _); refine s_cls (by rfl) (by rfl) ?_))
    rw [h.2.1]
    repeat (first | ((with_reducible show ∃ _, _ ∧ _); first | refine s_fI (by rfl) (by rfl) (by rfl) ?_ | refine s_fR (by rfl) (by rfl) (by rfl) ?_ | refine s_pV (by rfl) (by rfl) (Nat.le_of_ble_eq_true rfl) (by rfl) ?_) | ((with_reducible show xcls _ _ _ ∧ _); refine s_cls (by rfl) (by rfl) ?_))
    exact c_fail h.1 hQ
theorem c_symbols {f : Nat} (hT : TP F0 b n) (h : CS n F0 F S p) (hB : BI S nu) (hz : z 0 = ad e 81) (h81 : F0 81 0 = 0 ∧ F0 81 1 = 5 ∧ F0 81 2 = 11) (hf : n ≤ p + f) (hQ : rC e w L g n F0 Q (syA b f S p)) : wp_Reader_readSymbols z Q (ad e 64) (mem e w F L g) := by
  have hn := hT.2.1
  unfold wp_Reader_readSymbols wp_Reader_readSymbols_2
  refine xloop_dn (fun m a => ∃ i f S2 p2 F2, m = 6000 - i ∧ i ≤ p2 ∧ i ≤ 6000 ∧ n ≤ p2 + f ∧ a = (ad e 64, Int32.ofNat i, mem e w F2 L g) ∧ CS n F0 F2 S2 p2 ∧ BI S2 nu ∧ rC e w L g n F0 Q (syA b f S2 p2)) ?_ 6000 _ ⟨0, f, S, p, F, rfl, Nat.zero_le _, by decide, hf, rfl, h, hB, hQ⟩
  rintro m a cc ⟨i, f, S2, p2, F2, rfl, hi, hi6, hf2, rfl, h2, hB2, hq2⟩ hk
  have hp2 := h2.2.2.1
  have stop : n ≤ p2 → Q 1 (mem e w F2 L g) := by
    intro hle
    have hb : b p2 = 256 := by rw [hT.2.2 p2, if_neg (by omega)]
    cases f with
    | zero => exact hq2 F2 h2
    | succ f =>
      unfold syA at hq2
      rw [if_pos hb] at hq2
      exact hq2 F2 h2
  unfold wp_Reader_readSymbols_2_b; dsimp only
  refine ⟨fun hc => ?_, fun hc => ?_⟩ <;> rw [show (6000 : Int32) = Int32.ofNat 6000 from rfl, n_le (by decide) (by omega)] at hc
  · exact stop (by omega)
  repeat (first | ((with_reducible show ∃ _, _ ∧ _); first | refine s_fI (by rfl) (by rfl) (by rfl) ?_ | refine s_fR (by rfl) (by rfl) (by rfl) ?_ | refine s_pV (by rfl) (by rfl) (Nat.le_of_ble_eq_true rfl) (by rfl) ?_) | ((with_reducible show xcls _ _ _ ∧ _); refine s_cls (by rfl) (by rfl) ?_))
  rw [h2.2.1, (h2.tp hT).1]
  refine ⟨fun hle => stop (by rw [n_le (by omega) (by omega)] at hle; exact hle), fun hle => ?_⟩
  rw [n_le (by omega) (by omega)] at hle
  obtain ⟨f', rfl⟩ : ∃ f', f = f' + 1 := ⟨f - 1, by omega⟩
  have hb : b p2 ≠ 256 := fun hb => hle (hT.end' hb)
  have hb256 := hT.le p2
  unfold syA at hq2
  rw [if_neg hb] at hq2
  repeat (first | ((with_reducible show ∃ _, _ ∧ _); first | refine s_fI (by rfl) (by rfl) (by rfl) ?_ | refine s_fR (by rfl) (by rfl) (by rfl) ?_ | refine s_pV (by rfl) (by rfl) (Nat.le_of_ble_eq_true rfl) (by rfl) ?_) | ((with_reducible show xcls _ _ _ ∧ _); refine s_cls (by rfl) (by rfl) ?_))
  rw [h2.2.1]
  repeat (first | ((with_reducible show ∃ _, _ ∧ _); first | refine s_fI (by rfl) (by rfl) (by rfl) ?_ | refine s_fR (by rfl) (by rfl) (by rfl) ?_ | refine s_pV (by rfl) (by rfl) (Nat.le_of_ble_eq_true rfl) (by rfl) ?_) | ((with_reducible show xcls _ _ _ ∧ _); refine s_cls (by rfl) (by rfl) ?_))
  refine c_at (h2.tp hT) (by omega) ?_
  rw [show (99 : Int32) = Int32.ofNat 99 from rfl, iv_eq hb256 (by decide)]
  refine ⟨fun hc => ?_, fun hc => ?_⟩
  · rw [if_neg hc] at hq2
    repeat (first | ((with_reducible show ∃ _, _ ∧ _); first | refine s_fI (by rfl) (by rfl) (by rfl) ?_ | refine s_fR (by rfl) (by rfl) (by rfl) ?_ | refine s_pV (by rfl) (by rfl) (Nat.le_of_ble_eq_true rfl) (by rfl) ?_) | ((with_reducible show xcls _ _ _ ∧ _); refine s_cls (by rfl) (by rfl) ?_))
    refine c_symbol hT h2 hB2 hz h81 hb (rC_then hq2 (fun h hq => ⟨fun hh => absurd rfl hh, fun _ => hq⟩) (fun S3 p3 v3 hr3 hq3 F3 h3 => ⟨fun _ => ?_, fun hh => absurd hh (by decide)⟩))
    have hpos := smA_pos hr3
    exact hk (6000 - (i + 1)) _ (by omega) ⟨i + 1, f', S3, p3, F3, rfl, by omega, by omega, by omega, by rw [n_inc], h3, (smA_BI hB2 hr3).1, hq3⟩
  · rw [if_pos hc] at hq2
    repeat (first | ((with_reducible show ∃ _, _ ∧ _); first | refine s_fI (by rfl) (by rfl) (by rfl) ?_ | refine s_fR (by rfl) (by rfl) (by rfl) ?_ | refine s_pV (by rfl) (by rfl) (Nat.le_of_ble_eq_true rfl) (by rfl) ?_) | ((with_reducible show xcls _ _ _ ∧ _); refine s_cls (by rfl) (by rfl) ?_))
    rw [h2.2.1, n_inc]
    repeat (first | ((with_reducible show ∃ _, _ ∧ _); first | refine s_fI (by rfl) (by rfl) (by rfl) ?_ | refine s_fR (by rfl) (by rfl) (by rfl) ?_ | refine s_pV (by rfl) (by rfl) (Nat.le_of_ble_eq_true rfl) (by rfl) ?_) | ((with_reducible show xcls _ _ _ ∧ _); refine s_cls (by rfl) (by rfl) ?_))
    exact c_pass (c := 10) hT (h2.move (fun k hk => up_k hk) (fun j hj => by rw [up_i, if_neg (by omega)]) (by rw [up_i, if_pos rfl]) (by omega)) (by decide) hq2
theorem c_undefined (h : CS n F0 F S p) (hB : BI S nu) (hnu : nu ≤ 314) (hl : ∀ i, i < nu → S 119 i = 1 ∧ S 120 i = 1 ∧ S 19 i ≤ 2 * S 0 0 + 1) (hQ : rC e w L g n F0 Q (fuA S p nu 0)) : wp_Reader_findUndefined z Q (ad e 64) (mem e w F L g) := by
  have hM := hB.1.1.1
  unfold wp_Reader_findUndefined wp_Reader_findUndefined_2
  refine xloop_dn (fun m a => ∃ i, m = nu - i ∧ i ≤ nu ∧ a = (ad e 64, Int32.ofNat i, mem e w F L g) ∧ rC e w L g n F0 Q (fuA S p (nu - i) i)) ?_ nu _ ⟨0, rfl, Nat.zero_le _, rfl, hQ⟩
  rintro m a cc ⟨i, rfl, hi, rfl, hq⟩ hk
  unfold wp_Reader_findUndefined_2_b; dsimp only
  repeat (first | ((with_reducible show ∃ _, _ ∧ _); first | refine s_fI (by rfl) (by rfl) (by rfl) ?_ | refine s_fR (by rfl) (by rfl) (by rfl) ?_ | refine s_pV (by rfl) (by rfl) (Nat.le_of_ble_eq_true rfl) (by rfl) ?_) | ((with_reducible show xcls _ _ _ ∧ _); refine s_cls (by rfl) (by rfl) ?_))
  rw [show F 64 6 = Int32.ofNat nu by rw [h.at (r := 32) (j := 0) (by decide) rfl (by decide) hB.1.2.2.2 rfl, hB.2.2.2.1]; rfl]
  refine ⟨fun hc => ?_, fun hc => ?_⟩ <;> rw [n_le (by omega) (by omega)] at hc
  · rw [show nu - i = 0 by omega] at hq
    exact hq F h
  rw [show nu - i = (nu - (i + 1)) + 1 by omega] at hq
  unfold fuA at hq
  obtain ⟨m1, m2, hle⟩ := hl i (by omega)
  repeat (first | ((with_reducible show ∃ _, _ ∧ _); first | refine s_fI (by rfl) (by rfl) (by rfl) ?_ | refine s_fR (by rfl) (by rfl) (by rfl) ?_ | refine s_pV (by rfl) (by rfl) (Nat.le_of_ble_eq_true rfl) (by rfl) ?_) | ((with_reducible show xcls _ _ _ ∧ _); refine s_cls (by rfl) (by rfl) ?_))
  refine s_aI (i := i) (by rfl) (by rfl) (by rfl) (by rfl) (by omega) (by decide) ?_
  rw [show F 66 i = Int32.ofNat (S 19 i) from h.at (r := 19) (j := i) (by decide) rfl (by omega) m1 (by omega)]
  repeat (first | ((with_reducible show ∃ _, _ ∧ _); first | refine s_fI (by rfl) (by rfl) (by rfl) ?_ | refine s_fR (by rfl) (by rfl) (by rfl) ?_ | refine s_pV (by rfl) (by rfl) (Nat.le_of_ble_eq_true rfl) (by rfl) ?_) | ((with_reducible show xcls _ _ _ ∧ _); refine s_cls (by rfl) (by rfl) ?_))
  refine v_isDefined (b := 40) (C := S) (Or.inr (Or.inr rfl)) (h.size hB.1 (by decide : 0 < 5)) (fun v hv => h.at (r := 8) (j := v) (by decide) rfl hv (hB.2.1 v hv) (by omega)) hM hB.2.2.1 (fun hno => ⟨fun hh => absurd rfl hh, fun _ => ?_⟩) (fun l hl1 hl2 => ⟨fun _ => ?_, fun hh => absurd hh (by decide)⟩)
  · have hnd : ¬ (S 19 i < 2 ∨ S 8 (S 19 i / 2) ≠ 0) := fun hd => hno (S 19 i) rfl ⟨hle, hd⟩
    rw [if_neg hnd] at hq
    repeat (first | ((with_reducible show ∃ _, _ ∧ _); first | refine s_fI (by rfl) (by rfl) (by rfl) ?_ | refine s_fR (by rfl) (by rfl) (by rfl) ?_ | refine s_pV (by rfl) (by rfl) (Nat.le_of_ble_eq_true rfl) (by rfl) ?_) | ((with_reducible show xcls _ _ _ ∧ _); refine s_cls (by rfl) (by rfl) ?_))
    refine s_aI (i := i) (by rfl) (by rfl) (by rfl) (by rfl) (by omega) (by decide) ?_
    rw [show F 67 i = Int32.ofNat (S 20 i) from h.at (r := 20) (j := i) (by decide) rfl (by omega) m2 (by omega)]
    repeat (first | ((with_reducible show ∃ _, _ ∧ _); first | refine s_fI (by rfl) (by rfl) (by rfl) ?_ | refine s_fR (by rfl) (by rfl) (by rfl) ?_ | refine s_pV (by rfl) (by rfl) (Nat.le_of_ble_eq_true rfl) (by rfl) ?_) | ((with_reducible show xcls _ _ _ ∧ _); refine s_cls (by rfl) (by rfl) ?_))
    exact c_fail h.1 hq
  · have e1 := n_inj (by omega) (by have := hl2.1; omega) hl1
    rw [← e1] at hl2
    rw [if_pos hl2.2] at hq
    exact hk (nu - (i + 1)) _ (by omega) ⟨i + 1, rfl, by omega, by rw [n_inc], hq⟩
end
