/-! The class reads: header, sizes, symbols, what is defined nowhere. -/
def H0 (S : RW) : Prop := (∀ v, v < 201 → S 108 v = 1) ∧ (∀ v, S 8 v = 0) ∧ (S 132 0 = 1 ∧ S 32 0 = 0) ∧ (∀ kd k, kd < 3 → k < 8 → S (140 + kd) k = 1 ∧ S (40 + kd) k = 0)
def H1 (S : RW) (k : Nat) : Prop := H0 S ∧ (S 130 0 = 1 ∧ S 30 0 ≤ 1) ∧ (∀ j, j < k → S 100 j = 1 ∧ S 0 j < 10000)
theorem H0_st {S : RW} {r i x : Nat} (h : H0 S) (hr : r ≠ 8 ∧ r ≠ 32 ∧ r < 40) : H0 (st S r i x) := by
  obtain ⟨h1, h2, h3, h4⟩ := h
  refine ⟨by rw [st_o (by omega) (by omega)]; exact h1, by rw [st_o (by omega) (by omega)]; exact h2, by rw [st_o (by omega) (by omega), st_o (by omega) (by omega)]; exact h3, fun kd k q1 q2 => by rw [st_o (by omega) (by omega), st_o (by omega) (by omega)]; exact h4 kd k q1 q2⟩
section
variable {b : Nat → Nat} {S S' : RW} {p q v nu k m : Nat}
theorem hdA_H (h : H1 S k) (hr : hdA b k S p = .ok (S', q, v)) : H1 S' (k + 1) := by
  obtain ⟨S1, p1, v1, h1, h2⟩ := bi_split hr
  obtain ⟨S2, p2, v2, h3, h4⟩ := bi_split h2
  obtain ⟨rfl, _⟩ := psA_ok h1
  obtain ⟨rfl, hv, _⟩ := nuA_ok h3
  obtain ⟨rfl, _⟩ := ok_inj h4
  refine ⟨H0_st h.1 (by decide), by rw [st_o (by decide) (by decide), st_o (by decide) (by decide)]; exact h.2.1, fun j hj => ?_⟩
  rw [show (100 : Nat) = 0 + 100 from rfl, st_m, st_r]
  by_cases e0 : j = k
  · rw [if_pos e0, if_pos e0]; exact ⟨rfl, hv⟩
  · rw [if_neg e0, if_neg e0]; exact h.2.2 j (by omega)
theorem heA_H (h : H0 S) (hr : heA b S p = .ok (S', q, v)) : H1 S' 5 := by
  obtain ⟨S1, p1, v1, h1, h2⟩ := bi_split hr
  obtain ⟨S2, p2, v2, h3, h4⟩ := bi_split h2
  obtain ⟨S3, p3, v3, h5, h6⟩ := bi_split h4
  obtain ⟨S4, p4, v4, h7, h8⟩ := bi_split h6
  obtain ⟨rfl, _⟩ := psA_ok h1
  obtain ⟨rfl, _⟩ := psA_ok h3
  obtain ⟨rfl, _⟩ := psA_ok h5
  obtain ⟨rfl, _⟩ := psA_ok h8
  refine lp_inv (fun k S => H1 S k) (fun k S p S' q v hP hf => hdA_H hP hf) 5 0 _ _ ⟨H0_st h (by decide), ⟨?_, ?_⟩, fun j hj => by omega⟩ h7
  · rw [show (130 : Nat) = 30 + 100 from rfl, st_m, if_pos rfl]
  · rw [st_r, if_pos rfl]; split <;> decide
theorem szS_0 {S : RW} : szS S 0 = S 0 ∧ szS S 30 = S 30 ∧ szS S 8 = S 8 ∧ szS S 108 = S 108 ∧ szS S 130 = S 130 := by
  unfold szS
  refine ⟨?_, ?_, ?_, ?_, ?_⟩ <;> rw [st_o (by decide) (by decide), st_o (by decide) (by decide), st_o (by decide) (by decide), st_o (by decide) (by decide), st_o (by decide) (by decide)]
theorem szA_B (h : H1 S 5) (hr : szA S p = .ok (S', q, v)) : BI S' 0 ∧ S' = szS S ∧ fit S := by
  unfold szA at hr
  by_cases hf : fit S
  · rw [if_pos hf] at hr
    obtain ⟨rfl, _⟩ := ok_inj hr
    obtain ⟨⟨a1, a2, a3, a4⟩, a5, a6⟩ := h
    have H := H0_st (r := 31) (i := 4) (x := S 0 4) (H0_st (r := 31) (i := 3) (x := S 0 3) (H0_st (r := 31) (i := 2) (x := S 0 2) (H0_st (r := 31) (i := 1) (x := S 0 1) (H0_st (r := 31) (i := 0) (x := S 0 0) ⟨a1, a2, a3, a4⟩ (by decide)) (by decide)) (by decide)) (by decide)) (by decide)
    refine ⟨⟨⟨?_, fun j hj => ?_, ?_, H.2.2.1.1⟩, H.1, fun v => Nat.le_trans (Nat.le_of_eq (H.2.1 v)) (by decide), H.2.2.1.2, fun kd k q1 q2 => ⟨(H.2.2.2 kd k q1 q2).1, Nat.le_trans (Nat.le_of_eq (H.2.2.2 kd k q1 q2).2) (by decide)⟩⟩, rfl, hf⟩
    · unfold fit; rw [szS_0.1, szS_0.2.1]; exact hf
    · rw [szS_0.1]
      refine ⟨?_, ?_, ?_⟩
      · unfold szS
        rw [st_o (by decide) (by decide), st_o (by decide) (by decide), st_o (by decide) (by decide), st_o (by decide) (by decide), st_o (by decide) (by decide)]; exact (a6 j hj).1
      · unfold szS
        rw [show (131 : Nat) = 31 + 100 from rfl, st_m, st_m, st_m, st_m, st_m]
        have : j = 0 ∨ j = 1 ∨ j = 2 ∨ j = 3 ∨ j = 4 := by omega
        rcases this with rfl | rfl | rfl | rfl | rfl <;> rfl
      · unfold szS
        rw [st_r, st_r, st_r, st_r, st_r]
        have : j = 0 ∨ j = 1 ∨ j = 2 ∨ j = 3 ∨ j = 4 := by omega
        rcases this with rfl | rfl | rfl | rfl | rfl <;> rfl
    · rw [szS_0.2.2.2.2, szS_0.2.1]; exact a5
  · rw [if_neg hf] at hr; cases hr
end
section
variable {e : xenv} {w : Bool} {L : Nat → Nat → Int64} {g : xh} {z : Nat → Nat} {b : Nat → Nat} {n : Nat} {F0 F F' : Nat → Nat → Int32} {S S' : RW} {p q s nu : Nat} {Q Q' : Int32 → xh → Prop}
theorem c_header (hT : TP F0 b n) (h : CS n F0 F S p) (hQ : rC e w L g n F0 Q (heA b S p)) : wp_Reader_readHeader z Q (ad e 64) (mem e w F L g) := by
  have hn := hT.2.1
  unfold heA at hQ
  unfold wp_Reader_readHeader
  repeat (first | ((with_reducible show ∃ _, _ ∧ _); first | refine s_fI (by rfl) (by rfl) (by rfl) ?_ | refine s_fR (by rfl) (by rfl) (by rfl) ?_ | refine s_pV (by rfl) (by rfl) (Nat.le_of_ble_eq_true rfl) (by rfl) ?_) | ((with_reducible show xcls _ _ _ ∧ _); refine s_cls (by rfl) (by rfl) ?_))
  refine c_pass (c := 97) hT h (by decide) (rC_then hQ (fun h hq => ⟨fun hh => absurd rfl hh, fun _ => hq⟩) (fun S1 p1 v1 hr1 hq1 F1 h1 => ⟨fun _ => ?_, fun hh => absurd hh (by decide)⟩))
  obtain ⟨rfl, _⟩ := psA_ok hr1
  have hp1 := h1.2.2.1
  -- behind the letter
  have rest : ∀ (f c : Nat) (F2 : Nat → Nat → Int32), CS n F0 F2 (st S1 30 0 f) p1 → c < 256 → rC e w L g n F0 Q (bi (psA b c (st S1 30 0 f) p1) (fun S q _ => bi (psA b 103 S q) (fun S q _ => bi (lp (hdA b) 0 5 S q) (fun S q _ => psA b 10 S q)))) → wp_Reader_readHeader_51 z Q (ad e 64) (Int32.ofNat c) (ad e 64) (mem e w F2 L g) := by
    intro f c F2 h2 hc hq2
    unfold wp_Reader_readHeader_51
    repeat (first | ((with_reducible show ∃ _, _ ∧ _); first | refine s_fI (by rfl) (by rfl) (by rfl) ?_ | refine s_fR (by rfl) (by rfl) (by rfl) ?_ | refine s_pV (by rfl) (by rfl) (Nat.le_of_ble_eq_true rfl) (by rfl) ?_) | ((with_reducible show xcls _ _ _ ∧ _); refine s_cls (by rfl) (by rfl) ?_))
    refine c_pass hT h2 hc (rC_then hq2 (fun h hq => ⟨fun _ => hq, fun hh => absurd rfl hh⟩) (fun S3 p3 v3 hr3 hq3 F3 h3 => ⟨fun hh => absurd hh (by decide), fun _ => ?_⟩))
    repeat (first | ((with_reducible show ∃ _, _ ∧ _); first | refine s_fI (by rfl) (by rfl) (by rfl) ?_ | refine s_fR (by rfl) (by rfl) (by rfl) ?_ | refine s_pV (by rfl) (by rfl) (Nat.le_of_ble_eq_true rfl) (by rfl) ?_) | ((with_reducible show xcls _ _ _ ∧ _); refine s_cls (by rfl) (by rfl) ?_))
    refine c_pass (c := 103) hT h3 (by decide) (rC_then hq3 (fun h hq => ⟨fun hh => absurd rfl hh, fun _ => hq⟩) (fun S4 p4 v4 hr4 hq4 F4 h4 => ⟨fun _ => ?_, fun hh => absurd hh (by decide)⟩))
    unfold wp_Reader_readHeader_70
    refine xloop_dn (fun m a => ∃ k S5 p5 F5, m = 5 - k ∧ k ≤ 5 ∧ a = (ad e 64, Int32.ofNat k, mem e w F5 L g) ∧ CS n F0 F5 S5 p5 ∧ rC e w L g n F0 Q (bi (lp (hdA b) k (5 - k) S5 p5) (fun S q _ => psA b 10 S q))) ?_ 5 _ ⟨0, S4, p4, F4, rfl, by decide, rfl, h4, hq4⟩
    rintro m a cc ⟨k, S5, p5, F5, rfl, hk5, rfl, h5, hq5⟩ hk
    unfold wp_Reader_readHeader_70_b; dsimp only
    repeat (first | ((with_reducible show ∃ _, _ ∧ _); first | refine s_fI (by rfl) (by rfl) (by rfl) ?_ | refine s_fR (by rfl) (by rfl) (by rfl) ?_ | refine s_pV (by rfl) (by rfl) (Nat.le_of_ble_eq_true rfl) (by rfl) ?_) | ((with_reducible show xcls _ _ _ ∧ _); refine s_cls (by rfl) (by rfl) ?_))
    refine s_aN (n := 5) (by rfl) (by rfl) (by rfl) (by rfl) ?_
    rintro v2 rfl
    refine ⟨fun hc => ?_, fun hc => ?_⟩ <;> rw [n_le (by decide) (by omega)] at hc
    · rw [show 5 - k = 0 by omega] at hq5
      repeat (first | ((with_reducible show ∃ _, _ ∧ _); first | refine s_fI (by rfl) (by rfl) (by rfl) ?_ | refine s_fR (by rfl) (by rfl) (by rfl) ?_ | refine s_pV (by rfl) (by rfl) (Nat.le_of_ble_eq_true rfl) (by rfl) ?_) | ((with_reducible show xcls _ _ _ ∧ _); refine s_cls (by rfl) (by rfl) ?_))
      exact c_pass (c := 10) hT h5 (by decide) hq5
    rw [show 5 - k = (5 - (k + 1)) + 1 by omega] at hq5
    unfold lp hdA at hq5
    rw [bi_bi, bi_bi] at hq5
    repeat (first | ((with_reducible show ∃ _, _ ∧ _); first | refine s_fI (by rfl) (by rfl) (by rfl) ?_ | refine s_fR (by rfl) (by rfl) (by rfl) ?_ | refine s_pV (by rfl) (by rfl) (Nat.le_of_ble_eq_true rfl) (by rfl) ?_) | ((with_reducible show xcls _ _ _ ∧ _); refine s_cls (by rfl) (by rfl) ?_))
    refine c_pass (c := 32) hT h5 (by decide) (rC_then hq5 (fun h hq => ⟨fun _ => hq, fun hh => absurd rfl hh⟩) (fun S6 p6 v6 hr6 hq6 F6 h6 => ⟨fun hh => absurd hh (by decide), fun _ => ?_⟩))
    rw [bi_bi] at hq6
    repeat (first | ((with_reducible show ∃ _, _ ∧ _); first | refine s_fI (by rfl) (by rfl) (by rfl) ?_ | refine s_fR (by rfl) (by rfl) (by rfl) ?_ | refine s_pV (by rfl) (by rfl) (Nat.le_of_ble_eq_true rfl) (by rfl) ?_) | ((with_reducible show xcls _ _ _ ∧ _); refine s_cls (by rfl) (by rfl) ?_))
    refine c_number hT h6 (rN_then hq6 (fun h hq => ⟨fun hh => absurd rfl hh, fun _ => hq⟩) (fun S7 p7 v7 hr7 hq7 F7 h7 h9 h10 => ⟨fun _ => ?_, fun hh => absurd hh (by decide)⟩))
    repeat (first | ((with_reducible show ∃ _, _ ∧ _); first | refine s_fI (by rfl) (by rfl) (by rfl) ?_ | refine s_fR (by rfl) (by rfl) (by rfl) ?_ | refine s_pV (by rfl) (by rfl) (Nat.le_of_ble_eq_true rfl) (by rfl) ?_) | ((with_reducible show xcls _ _ _ ∧ _); refine s_cls (by rfl) (by rfl) ?_))
    rw [h9]
    refine s_sI (i := k) (by rfl) (by rfl) (by rfl) (by rfl) (by rfl) (by omega) (by decide) ?_
    rw [bi_ok] at hq7
    exact hk (5 - (k + 1)) _ (by omega) ⟨k + 1, _, p7, _, rfl, by omega, by rw [n_inc], h7.put (r := 0) (i := k) (c := k) (x := v7) (y := Int32.ofNat v7) (by decide) rfl (by omega) (by omega) rfl, hq7⟩
  repeat (first | ((with_reducible show ∃ _, _ ∧ _); first | refine s_fI (by rfl) (by rfl) (by rfl) ?_ | refine s_fR (by rfl) (by rfl) (by rfl) ?_ | refine s_pV (by rfl) (by rfl) (Nat.le_of_ble_eq_true rfl) (by rfl) ?_) | ((with_reducible show xcls _ _ _ ∧ _); refine s_cls (by rfl) (by rfl) ?_))
  rw [h1.2.1]
  repeat (first | ((with_reducible show ∃ _, _ ∧ _); first | refine s_fI (by rfl) (by rfl) (by rfl) ?_ | refine s_fR (by rfl) (by rfl) (by rfl) ?_ | refine s_pV (by rfl) (by rfl) (Nat.le_of_ble_eq_true rfl) (by rfl) ?_) | ((with_reducible show xcls _ _ _ ∧ _); refine s_cls (by rfl) (by rfl) ?_))
  refine c_at (h1.tp hT) (by omega) ?_
  rw [show (105 : Int32) = Int32.ofNat 105 from rfl, iv_eq (hT.le p1) (by decide)]
  unfold wp_Reader_readHeader_33
  refine ⟨fun hne => ⟨Or.inl rfl, ?_⟩, fun heq => ⟨Or.inr rfl, ?_⟩⟩
  · repeat (first | ((with_reducible show ∃ _, _ ∧ _); first | refine s_fI (by rfl) (by rfl) (by rfl) ?_ | refine s_fR (by rfl) (by rfl) (by rfl) ?_ | refine s_pV (by rfl) (by rfl) (Nat.le_of_ble_eq_true rfl) (by rfl) ?_) | ((with_reducible show xcls _ _ _ ∧ _); refine s_cls (by rfl) (by rfl) ?_))
    rw [up_i, if_pos rfl]
    rw [if_neg hne, if_neg hne] at hq1
    exact ⟨fun _ => rest 0 97 _ (h1.put (r := 30) (i := 0) (c := 7) (x := 0) (by decide) rfl (by decide) (by decide) rfl) (by decide) hq1, fun hh => absurd rfl hh⟩
  · repeat (first | ((with_reducible show ∃ _, _ ∧ _); first | refine s_fI (by rfl) (by rfl) (by rfl) ?_ | refine s_fR (by rfl) (by rfl) (by rfl) ?_ | refine s_pV (by rfl) (by rfl) (Nat.le_of_ble_eq_true rfl) (by rfl) ?_) | ((with_reducible show xcls _ _ _ ∧ _); refine s_cls (by rfl) (by rfl) ?_))
    rw [up_i, if_pos rfl]
    rw [if_pos heq, if_pos heq] at hq1
    exact ⟨fun hh => absurd hh (by decide), fun _ => rest 1 105 _ (h1.put (r := 30) (i := 0) (c := 7) (x := 1) (by decide) rfl (by decide) (by decide) rfl) (by decide) hq1⟩
theorem c_sizes (h : CS n F0 F S p) (hH : H1 S 5) (hQ : rC e w L g n F0 Q (szA S p)) : wp_Reader_keepSizes z Q (ad e 64) (mem e w F L g) := by
  have hv : ∀ j, j < 5 → F 65 j = Int32.ofNat (S 0 j) ∧ S 0 j < 10000 := fun j hj => ⟨h.at (r := 0) (j := j) (by decide) rfl hj (hH.2.2 j hj).1 (by omega), (hH.2.2 j hj).2⟩
  have h7 : F 64 7 = Int32.ofNat (S 30 0) := h.at (r := 30) (j := 0) (by decide) rfl (by decide) hH.2.1.1 (by omega)
  have h30 := hH.2.1.2
  unfold szA at hQ
  have no : ¬ fit S → wp_Reader_keepSizes_111 z Q (ad e 64) (mem e w F L g) := by
    intro hf
    rw [if_neg hf] at hQ
    unfold wp_Reader_keepSizes_111 wp_Reader_keepSizes_112
    refine ⟨fun hh => absurd rfl hh, fun _ => ?_⟩
    repeat (first | ((with_reducible show ∃ _, _ ∧ _); first | refine s_fI (by rfl) (by rfl) (by rfl) ?_ | refine s_fR (by rfl) (by rfl) (by rfl) ?_ | refine s_pV (by rfl) (by rfl) (Nat.le_of_ble_eq_true rfl) (by rfl) ?_) | ((with_reducible show xcls _ _ _ ∧ _); refine s_cls (by rfl) (by rfl) ?_))
    rw [h.2.1]
    repeat (first | ((with_reducible show ∃ _, _ ∧ _); first | refine s_fI (by rfl) (by rfl) (by rfl) ?_ | refine s_fR (by rfl) (by rfl) (by rfl) ?_ | refine s_pV (by rfl) (by rfl) (Nat.le_of_ble_eq_true rfl) (by rfl) ?_) | ((with_reducible show xcls _ _ _ ∧ _); refine s_cls (by rfl) (by rfl) ?_))
    exact c_fail h.1 hQ
  have yes : fit S → wp_Reader_keepSizes_107 z Q (ad e 64) (mem e w F L g) := by
    intro hf
    rw [if_pos hf] at hQ
    unfold wp_Reader_keepSizes_107 wp_Reader_keepSizes_112
    refine ⟨fun _ => ?_, fun hh => absurd hh (by decide)⟩
    repeat (first | ((with_reducible show ∃ _, _ ∧ _); first | refine s_fI (by rfl) (by rfl) (by rfl) ?_ | refine s_fR (by rfl) (by rfl) (by rfl) ?_ | refine s_pV (by rfl) (by rfl) (Nat.le_of_ble_eq_true rfl) (by rfl) ?_) | ((with_reducible show xcls _ _ _ ∧ _); refine s_cls (by rfl) (by rfl) ?_))
    refine s_aI (i := 0) (by rfl) (by rfl) (by rfl) (by rfl) (by decide) (by decide) ?_
    rw [(hv 0 (by decide)).1]
    repeat (first | ((with_reducible show ∃ _, _ ∧ _); first | refine s_fI (by rfl) (by rfl) (by rfl) ?_ | refine s_fR (by rfl) (by rfl) (by rfl) ?_ | refine s_pV (by rfl) (by rfl) (Nat.le_of_ble_eq_true rfl) (by rfl) ?_) | ((with_reducible show xcls _ _ _ ∧ _); refine s_cls (by rfl) (by rfl) ?_))
    refine s_aI (i := 1) (by rfl) (by rfl) (by rfl) (by rfl) (by decide) (by decide) ?_
    rw [up_k (by decide), (hv 1 (by decide)).1]
    repeat (first | ((with_reducible show ∃ _, _ ∧ _); first | refine s_fI (by rfl) (by rfl) (by rfl) ?_ | refine s_fR (by rfl) (by rfl) (by rfl) ?_ | refine s_pV (by rfl) (by rfl) (Nat.le_of_ble_eq_true rfl) (by rfl) ?_) | ((with_reducible show xcls _ _ _ ∧ _); refine s_cls (by rfl) (by rfl) ?_))
    refine s_aI (i := 2) (by rfl) (by rfl) (by rfl) (by rfl) (by decide) (by decide) ?_
    rw [up_k (by decide), up_k (by decide), (hv 2 (by decide)).1]
    repeat (first | ((with_reducible show ∃ _, _ ∧ _); first | refine s_fI (by rfl) (by rfl) (by rfl) ?_ | refine s_fR (by rfl) (by rfl) (by rfl) ?_ | refine s_pV (by rfl) (by rfl) (Nat.le_of_ble_eq_true rfl) (by rfl) ?_) | ((with_reducible show xcls _ _ _ ∧ _); refine s_cls (by rfl) (by rfl) ?_))
    refine s_aI (i := 3) (by rfl) (by rfl) (by rfl) (by rfl) (by decide) (by decide) ?_
    rw [up_k (by decide), up_k (by decide), up_k (by decide), (hv 3 (by decide)).1]
    repeat (first | ((with_reducible show ∃ _, _ ∧ _); first | refine s_fI (by rfl) (by rfl) (by rfl) ?_ | refine s_fR (by rfl) (by rfl) (by rfl) ?_ | refine s_pV (by rfl) (by rfl) (Nat.le_of_ble_eq_true rfl) (by rfl) ?_) | ((with_reducible show xcls _ _ _ ∧ _); refine s_cls (by rfl) (by rfl) ?_))
    refine s_aI (i := 4) (by rfl) (by rfl) (by rfl) (by rfl) (by decide) (by decide) ?_
    rw [up_k (by decide), up_k (by decide), up_k (by decide), up_k (by decide), (hv 4 (by decide)).1]
    repeat (first | ((with_reducible show ∃ _, _ ∧ _); first | refine s_fI (by rfl) (by rfl) (by rfl) ?_ | refine s_fR (by rfl) (by rfl) (by rfl) ?_ | refine s_pV (by rfl) (by rfl) (Nat.le_of_ble_eq_true rfl) (by rfl) ?_) | ((with_reducible show xcls _ _ _ ∧ _); refine s_cls (by rfl) (by rfl) ?_))
    refine hQ _ ?_
    unfold szS
    refine CS.put (r := 31) (i := 4) (CS.put (r := 31) (i := 3) (CS.put (r := 31) (i := 2) (CS.put (r := 31) (i := 1) (CS.put (r := 31) (i := 0) h (by decide) rfl (by decide) rfl rfl) (by decide) rfl (by decide) rfl rfl) (by decide) rfl (by decide) rfl rfl) (by decide) rfl (by decide) rfl rfl) (by decide) rfl (by decide) rfl rfl
  have b0 := (hv 0 (by decide)).2
  have b1 := (hv 1 (by decide)).2
  have b2 := (hv 2 (by decide)).2
  have b3 := (hv 3 (by decide)).2
  have b4 := (hv 4 (by decide)).2
  unfold wp_Reader_keepSizes
  repeat (first | ((with_reducible show ∃ _, _ ∧ _); first | refine s_fI (by rfl) (by rfl) (by rfl) ?_ | refine s_fR (by rfl) (by rfl) (by rfl) ?_ | refine s_pV (by rfl) (by rfl) (Nat.le_of_ble_eq_true rfl) (by rfl) ?_) | ((with_reducible show xcls _ _ _ ∧ _); refine s_cls (by rfl) (by rfl) ?_))
  refine s_aI (i := 1) (by rfl) (by rfl) (by rfl) (by rfl) (by decide) (by decide) ?_
  rw [(hv 1 (by decide)).1]
  repeat (first | ((with_reducible show ∃ _, _ ∧ _); first | refine s_fI (by rfl) (by rfl) (by rfl) ?_ | refine s_fR (by rfl) (by rfl) (by rfl) ?_ | refine s_pV (by rfl) (by rfl) (Nat.le_of_ble_eq_true rfl) (by rfl) ?_) | ((with_reducible show xcls _ _ _ ∧ _); refine s_cls (by rfl) (by rfl) ?_))
  refine s_aI (i := 2) (by rfl) (by rfl) (by rfl) (by rfl) (by decide) (by decide) ?_
  rw [(hv 2 (by decide)).1]
  repeat (first | ((with_reducible show ∃ _, _ ∧ _); first | refine s_fI (by rfl) (by rfl) (by rfl) ?_ | refine s_fR (by rfl) (by rfl) (by rfl) ?_ | refine s_pV (by rfl) (by rfl) (Nat.le_of_ble_eq_true rfl) (by rfl) ?_) | ((with_reducible show xcls _ _ _ ∧ _); refine s_cls (by rfl) (by rfl) ?_))
  refine s_aI (i := 4) (by rfl) (by rfl) (by rfl) (by rfl) (by decide) (by decide) ?_
  rw [(hv 4 (by decide)).1, n_add, n_add]
  rintro v7 rfl
  repeat (first | ((with_reducible show ∃ _, _ ∧ _); first | refine s_fI (by rfl) (by rfl) (by rfl) ?_ | refine s_fR (by rfl) (by rfl) (by rfl) ?_ | refine s_pV (by rfl) (by rfl) (Nat.le_of_ble_eq_true rfl) (by rfl) ?_) | ((with_reducible show xcls _ _ _ ∧ _); refine s_cls (by rfl) (by rfl) ?_))
  refine s_aI (i := 0) (by rfl) (by rfl) (by rfl) (by rfl) (by decide) (by decide) ?_
  rw [(hv 0 (by decide)).1, show (200 : Int32) = Int32.ofNat 200 from rfl]
  refine ⟨fun hc => ?_, fun hc => ?_⟩ <;> rw [n_lt (by decide) (by omega)] at hc
  · exact no (fun hf => by have := hf.1; omega)
  have c0 := hc
  repeat (first | ((with_reducible show ∃ _, _ ∧ _); first | refine s_fI (by rfl) (by rfl) (by rfl) ?_ | refine s_fR (by rfl) (by rfl) (by rfl) ?_ | refine s_pV (by rfl) (by rfl) (Nat.le_of_ble_eq_true rfl) (by rfl) ?_) | ((with_reducible show xcls _ _ _ ∧ _); refine s_cls (by rfl) (by rfl) ?_))
  refine s_aI (i := 1) (by rfl) (by rfl) (by rfl) (by rfl) (by decide) (by decide) ?_
  rw [(hv 1 (by decide)).1, show (5 : Int32) = Int32.ofNat 5 from rfl]
  refine ⟨fun hc => ?_, fun hc => ?_⟩ <;> rw [n_lt (by decide) (by omega)] at hc
  · exact no (fun hf => by have := hf.2.1; omega)
  have c1 := hc
  repeat (first | ((with_reducible show ∃ _, _ ∧ _); first | refine s_fI (by rfl) (by rfl) (by rfl) ?_ | refine s_fR (by rfl) (by rfl) (by rfl) ?_ | refine s_pV (by rfl) (by rfl) (Nat.le_of_ble_eq_true rfl) (by rfl) ?_) | ((with_reducible show xcls _ _ _ ∧ _); refine s_cls (by rfl) (by rfl) ?_))
  refine s_aI (i := 2) (by rfl) (by rfl) (by rfl) (by rfl) (by decide) (by decide) ?_
  rw [(hv 2 (by decide)).1, show (6 : Int32) = Int32.ofNat 6 from rfl]
  refine ⟨fun hc => ?_, fun hc => ?_⟩ <;> rw [n_lt (by decide) (by omega)] at hc
  · exact no (fun hf => by have := hf.2.2.1; omega)
  have c2 := hc
  repeat (first | ((with_reducible show ∃ _, _ ∧ _); first | refine s_fI (by rfl) (by rfl) (by rfl) ?_ | refine s_fR (by rfl) (by rfl) (by rfl) ?_ | refine s_pV (by rfl) (by rfl) (Nat.le_of_ble_eq_true rfl) (by rfl) ?_) | ((with_reducible show xcls _ _ _ ∧ _); refine s_cls (by rfl) (by rfl) ?_))
  refine s_aI (i := 3) (by rfl) (by rfl) (by rfl) (by rfl) (by decide) (by decide) ?_
  rw [(hv 3 (by decide)).1, show (8 : Int32) = Int32.ofNat 8 from rfl]
  refine ⟨fun hc => ?_, fun hc => ?_⟩ <;> rw [n_lt (by decide) (by omega)] at hc
  · exact no (fun hf => by have := hf.2.2.2.1; omega)
  have c3 := hc
  repeat (first | ((with_reducible show ∃ _, _ ∧ _); first | refine s_fI (by rfl) (by rfl) (by rfl) ?_ | refine s_fR (by rfl) (by rfl) (by rfl) ?_ | refine s_pV (by rfl) (by rfl) (Nat.le_of_ble_eq_true rfl) (by rfl) ?_) | ((with_reducible show xcls _ _ _ ∧ _); refine s_cls (by rfl) (by rfl) ?_))
  refine s_aI (i := 4) (by rfl) (by rfl) (by rfl) (by rfl) (by decide) (by decide) ?_
  rw [(hv 4 (by decide)).1, show (150 : Int32) = Int32.ofNat 150 from rfl]
  refine ⟨fun hc => ?_, fun hc => ?_⟩ <;> rw [n_lt (by decide) (by omega)] at hc
  · exact no (fun hf => by have := hf.2.2.2.2.1; omega)
  have c4 := hc
  repeat (first | ((with_reducible show ∃ _, _ ∧ _); first | refine s_fI (by rfl) (by rfl) (by rfl) ?_ | refine s_fR (by rfl) (by rfl) (by rfl) ?_ | refine s_pV (by rfl) (by rfl) (Nat.le_of_ble_eq_true rfl) (by rfl) ?_) | ((with_reducible show xcls _ _ _ ∧ _); refine s_cls (by rfl) (by rfl) ?_))
  rw [h7, show (0 : Int32) = Int32.ofNat 0 from rfl, n_eq (by omega) (by decide)]
  refine ⟨fun hb => ?_, fun hb => ?_⟩
  · repeat (first | ((with_reducible show ∃ _, _ ∧ _); first | refine s_fI (by rfl) (by rfl) (by rfl) ?_ | refine s_fR (by rfl) (by rfl) (by rfl) ?_ | refine s_pV (by rfl) (by rfl) (Nat.le_of_ble_eq_true rfl) (by rfl) ?_) | ((with_reducible show xcls _ _ _ ∧ _); refine s_cls (by rfl) (by rfl) ?_))
    refine s_aI (i := 0) (by rfl) (by rfl) (by rfl) (by rfl) (by decide) (by decide) ?_
    rw [(hv 0 (by decide)).1]
    refine ⟨fun hc => ?_, fun hc => ?_⟩ <;> rw [n_lt (by omega) (by omega)] at hc
    · exact no (fun hf => by have := hf.2.2.2.2.2; omega)
    · exact yes ⟨by omega, by omega, by omega, by omega, by omega, Or.inl ⟨hb, by omega⟩⟩
  · repeat (first | ((with_reducible show ∃ _, _ ∧ _); first | refine s_fI (by rfl) (by rfl) (by rfl) ?_ | refine s_fR (by rfl) (by rfl) (by rfl) ?_ | refine s_pV (by rfl) (by rfl) (Nat.le_of_ble_eq_true rfl) (by rfl) ?_) | ((with_reducible show xcls _ _ _ ∧ _); refine s_cls (by rfl) (by rfl) ?_))
    refine s_aI (i := 0) (by rfl) (by rfl) (by rfl) (by rfl) (by decide) (by decide) ?_
    rw [(hv 0 (by decide)).1, n_eq (by omega) (by omega)]
    exact ⟨fun hne => no (fun hf => by have := hf.2.2.2.2.2; omega), fun heq => yes ⟨by omega, by omega, by omega, by omega, by omega, Or.inr ⟨hb, by omega⟩⟩⟩
end
