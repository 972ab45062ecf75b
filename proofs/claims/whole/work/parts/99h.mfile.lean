/-! The reference reads a file, and keeps it. -/
section
variable {e : xenv} {w : Bool} {L : Nat → Nat → Int64} {g : xh} {z : Nat → Nat} {b : Nat → Nat} {n : Nat} {F0 F F' F2 : Nat → Nat → Int32} {S S' : RW} {p q s nu f : Nat} {Q : xh → Prop} {Qi : Int32 → xh → Prop} {r : RS}
theorem m_file (hT : TM F0 b n) (h6 : F0 100 6 = 0) (h78 : F0 100 7 = 0 ∧ F0 100 8 = -1) (hf : n ≤ f) (hQ : ∀ F', MX n F0 F' (rfA b f S00 0) → Q (mem e w F' L g)) : wp_Model_read z Q (ad e 100) (mem e w F0 L g) := by
  have hb := hT.le
  unfold wp_Model_read wp_Model_read_2
  refine xloop_dn (fun m a => ∃ v F1, m = 201 - v ∧ v ≤ 201 ∧ a = (ad e 100, Int32.ofNat v, mem e w F1 L g) ∧ (∀ k, k ≠ 118 → F1 k = F0 k) ∧ (∀ j, j < 402 → F1 118 j = F0 118 j) ∧ ∀ u, u < v → F1 118 (402 + u) = 0) ?_ 201 _ ⟨0, F0, rfl, by decide, rfl, fun _ _ => rfl, fun _ _ => rfl, fun u hu => by omega⟩
  rintro m a cc ⟨v, F1, rfl, hv, rfl, g1, g2, g3⟩ hk
  unfold wp_Model_read_2_b; dsimp only
  refine ⟨fun hc => ?_, fun hc => ?_⟩ <;> rw [show (201 : Int32) = Int32.ofNat 201 from rfl, n_le (by decide) (by omega)] at hc
  rotate_left
  · repeat (first | ((with_reducible show ∃ _, _ ∧ _); first | refine s_fI (by rfl) (by rfl) (by rfl) ?_ | refine s_fR (by rfl) (by rfl) (by rfl) ?_ | refine s_pV (by rfl) (by rfl) (Nat.le_of_ble_eq_true rfl) (by rfl) ?_) | ((with_reducible show xcls _ _ _ ∧ _); refine s_cls (by rfl) (by rfl) ?_))
    refine s_sI (i := 402 + v) (by rfl) (by rfl) (by rfl) (by rfl) (by exact n_add 402 v) (by omega) (by decide) ?_
    refine hk (201 - (v + 1)) _ (by omega) ⟨v + 1, _, rfl, by omega, by rw [n_inc], fun k hk => by rw [up_k hk]; exact g1 k hk, fun j hj => by rw [up_i, if_neg (by omega)]; exact g2 j hj, fun u hu => ?_⟩
    rw [up_i]
    by_cases e0 : u = v
    · rw [if_pos (by omega)]
    · rw [if_neg (by omega)]; exact g3 u (by omega)
  clear hk
  have hv' : v = 201 := by omega
  subst hv'
  unfold wp_Model_read_29
  refine xloop_dn (fun m a => ∃ v F2, m = 66 - v ∧ 44 ≤ v ∧ v ≤ 66 ∧ a = (ad e 100, Int32.ofNat v, mem e w F2 L g) ∧ (∀ k, k ≠ 125 → F2 k = F1 k) ∧ (∀ j, j < 44 → F2 125 j = F1 125 j) ∧ ∀ u, 44 ≤ u → u < v → F2 125 u = 0) ?_ 22 _ ⟨44, F1, rfl, by decide, by decide, rfl, fun _ _ => rfl, fun _ _ => rfl, fun u _ hu => by omega⟩
  rintro m a cc ⟨v, F2, rfl, hv44, hv66, rfl, k1, k2, k3⟩ hk
  unfold wp_Model_read_29_b; dsimp only
  refine ⟨fun hc => ?_, fun hc => ?_⟩ <;> rw [show (66 : Int32) = Int32.ofNat 66 from rfl, n_le (by decide) (by omega)] at hc
  rotate_left
  · repeat (first | ((with_reducible show ∃ _, _ ∧ _); first | refine s_fI (by rfl) (by rfl) (by rfl) ?_ | refine s_fR (by rfl) (by rfl) (by rfl) ?_ | refine s_pV (by rfl) (by rfl) (Nat.le_of_ble_eq_true rfl) (by rfl) ?_) | ((with_reducible show xcls _ _ _ ∧ _); refine s_cls (by rfl) (by rfl) ?_))
    refine s_sI (i := v) (by rfl) (by rfl) (by rfl) (by rfl) (by rfl) (by omega) (by decide) ?_
    refine hk (66 - (v + 1)) _ (by omega) ⟨v + 1, _, rfl, by omega, by omega, by rw [n_inc], fun k hk => by rw [up_k hk]; exact k1 k hk, fun j hj => by rw [up_i, if_neg (by omega)]; exact k2 j hj, fun u hu1 hu => ?_⟩
    rw [up_i]
    by_cases e0 : u = v
    · rw [if_pos e0]
    · rw [if_neg e0]; exact k3 u hu1 (by omega)
  clear hk
  have hv' : v = 66 := by omega
  subst hv'
  -- the beginning
  have h0 : MS n F0 F2 S00 0 := by
    have e100 : F2 100 = F0 100 := by rw [k1 100 (by decide), g1 100 (by decide)]
    refine ⟨⟨fun k hk => by rw [k1 k (by omega), g1 k (by omega)], fun k j q1 q2 q3 => ?_, fun j _ _ => by rw [e100]⟩, by rw [e100]; exact h6, Nat.zero_le _, by rw [e100]; exact h78, fun r j hr hj hm => ?_⟩
    · by_cases e1 : k = 125
      · subst e1
        have q3 : j < 44 := q3
        rw [k2 j q3, g1 125 (by decide)]
      · rw [k1 k e1]
        by_cases e2 : k = 118
        · subst e2; exact g2 j q3
        · rw [g1 k e2]
    have hm' : (if r + 100 = 108 ∨ r + 100 = 132 ∨ r + 100 = 140 ∨ r + 100 = 141 ∨ r + 100 = 142 then 1 else 0) = 1 := hm
    have hrr : r = 8 ∨ r = 32 ∨ r = 40 ∨ r = 41 ∨ r = 42 := by
      apply Classical.byContradiction
      intro hn
      rw [if_neg (by omega)] at hm'
      cases hm'
    rcases hrr with rfl | rfl | rfl | rfl | rfl
    · show F2 118 (402 + j) = 0
      have hj : j < 201 := hj
      rw [k1 118 (by decide)]; exact g3 j hj
    · exact absurd hj (Nat.not_lt_zero _)
    · show F2 125 (44 + j) = 0
      have hj : j < 5 := hj
      exact k3 _ (by omega) (by omega)
    · show F2 125 (50 + j) = 0
      have hj : j < 6 := hj
      exact k3 _ (by omega) (by omega)
    · show F2 125 (58 + j) = 0
      have hj : j < 8 := hj
      exact k3 _ (by omega) (by omega)
  obtain ⟨hH, hN⟩ := S00_H
  unfold rfA at hQ
  repeat (first | ((with_reducible show ∃ _, _ ∧ _); first | refine s_fI (by rfl) (by rfl) (by rfl) ?_ | refine s_fR (by rfl) (by rfl) (by rfl) ?_ | refine s_pV (by rfl) (by rfl) (Nat.le_of_ble_eq_true rfl) (by rfl) ?_) | ((with_reducible show xcls _ _ _ ∧ _); refine s_cls (by rfl) (by rfl) ?_))
  refine m_head hT h0 hH (fun F3 y hy h3 hfl => ?_)
  -- what comes behind
  have skip : ∀ c q F4, EM n F0 F4 c q → (∀ F', EM n F0 F' c q → Q (mem e w F' L g)) → wp_Model_read_82 z Q (ad e 100) (mem e w F4 L g) := by
    intro c q F4 hE hq
    unfold wp_Model_read_82
    repeat (first | ((with_reducible show ∃ _, _ ∧ _); first | refine s_fI (by rfl) (by rfl) (by rfl) ?_ | refine s_fR (by rfl) (by rfl) (by rfl) ?_ | refine s_pV (by rfl) (by rfl) (Nat.le_of_ble_eq_true rfl) (by rfl) ?_) | ((with_reducible show xcls _ _ _ ∧ _); refine s_cls (by rfl) (by rfl) ?_))
    refine ⟨fun _ => ?_, fun hh => absurd hh hE.ne.2⟩
    unfold wp_Model_read_93
    repeat (first | ((with_reducible show ∃ _, _ ∧ _); first | refine s_fI (by rfl) (by rfl) (by rfl) ?_ | refine s_fR (by rfl) (by rfl) (by rfl) ?_ | refine s_pV (by rfl) (by rfl) (Nat.le_of_ble_eq_true rfl) (by rfl) ?_) | ((with_reducible show xcls _ _ _ ∧ _); refine s_cls (by rfl) (by rfl) ?_))
    refine ⟨fun _ => ?_, fun hh => absurd hh hE.ne.2⟩
    unfold wp_Model_read_104
    repeat (first | ((with_reducible show ∃ _, _ ∧ _); first | refine s_fI (by rfl) (by rfl) (by rfl) ?_ | refine s_fR (by rfl) (by rfl) (by rfl) ?_ | refine s_pV (by rfl) (by rfl) (Nat.le_of_ble_eq_true rfl) (by rfl) ?_) | ((with_reducible show xcls _ _ _ ∧ _); refine s_cls (by rfl) (by rfl) ?_))
    exact ⟨fun _ => hq F4 hE, fun hh => absurd hh hE.ne.2⟩
  rw [← bi_bi] at hQ
  match hr3 : bi (heA b S00 0) (fun S p _ => szA S p), h3, hfl, hQ with
  | .error (c, q), h3, hfl, hQ =>
    have hE : EM n F0 F3 c q := h3
    repeat (first | ((with_reducible show ∃ _, _ ∧ _); first | refine s_fI (by rfl) (by rfl) (by rfl) ?_ | refine s_fR (by rfl) (by rfl) (by rfl) ?_ | refine s_pV (by rfl) (by rfl) (Nat.le_of_ble_eq_true rfl) (by rfl) ?_) | ((with_reducible show xcls _ _ _ ∧ _); refine s_cls (by rfl) (by rfl) ?_))
    refine ⟨fun _ => ?_, fun hh => absurd hh hE.ne.2⟩
    unfold wp_Model_read_71
    repeat (first | ((with_reducible show ∃ _, _ ∧ _); first | refine s_fI (by rfl) (by rfl) (by rfl) ?_ | refine s_fR (by rfl) (by rfl) (by rfl) ?_ | refine s_pV (by rfl) (by rfl) (Nat.le_of_ble_eq_true rfl) (by rfl) ?_) | ((with_reducible show xcls _ _ _ ∧ _); refine s_cls (by rfl) (by rfl) ?_))
    exact ⟨fun _ => skip c q F3 hE (fun F' hE' => hQ F' hE'), fun hh => absurd hh hE.ne.2⟩
  | .ok (S3, p3, v3), h3, hfl, hQ =>
    have h3 : MS n F0 F3 S3 p3 := h3
    have hfl := hfl _ _ _ rfl
    rw [bi_ok] at hQ
    obtain ⟨S1, p1, v1, hh1, hh2⟩ := bi_split hr3
    have a1 := heA_H hH hh1
    obtain ⟨b3, hS3, _⟩ := szA_B a1 hh2
    have n3 : NM S3 := by
      intro kd k i q1 q2 q3
      have : szS S1 (40 + kd) = S1 (40 + kd) := by unfold szS; rw [st_o (by omega) (by omega), st_o (by omega) (by omega), st_o (by omega) (by omega), st_o (by omega) (by omega), st_o (by omega) (by omega)]
      rw [hS3, this, (a1.1.2.2.2 kd k q1 q2).2] at q3
      omega
    have h8 : ∀ v, S3 8 v = 0 := fun v => by rw [hS3, szS_0.2.2.1]; exact a1.1.2.1 v
    have h112 : ∀ j, S3 112 j = 0 ∧ S3 133 j = 0 ∧ S3 134 j = 0 := by
      have key : ∀ t, (t = 112 ∨ t = 133 ∨ t = 134) → S3 t = S00 t := by
        intro t ht
        rw [hS3]
        unfold szS
        rw [st_o (by omega) (by omega), st_o (by omega) (by omega), st_o (by omega) (by omega), st_o (by omega) (by omega), st_o (by omega) (by omega)]
        obtain ⟨T1, q1, w1, e1, e2⟩ := bi_split hh1
        obtain ⟨T2, q2, w2, e3, e4⟩ := bi_split e2
        obtain ⟨T3, q3, w3, e5, e6⟩ := bi_split e4
        obtain ⟨T4, q4, w4, e7, e8⟩ := bi_split e6
        obtain ⟨rfl, _⟩ := psA_ok e1
        obtain ⟨rfl, _⟩ := psA_ok e3
        obtain ⟨rfl, _⟩ := psA_ok e5
        obtain ⟨rfl, _⟩ := psA_ok e8
        have := lp_inv (fun _ T => T t = S00 t) (fun k T p T' q v hP hr => by
          obtain ⟨U1, u1, x1, i1, i2⟩ := bi_split hr
          obtain ⟨U2, u2, x2, i3, i4⟩ := bi_split i2
          obtain ⟨rfl, _⟩ := psA_ok i1
          obtain ⟨rfl, _⟩ := nuA_ok i3
          obtain ⟨rfl, _⟩ := ok_inj i4
          rw [st_o (by omega) (by omega)]; exact hP) 5 0 _ _ (by rw [st_o (by omega) (by omega)]) e7
        exact this
      intro j
      rw [key 112 (by decide), key 133 (by decide), key 134 (by decide)]
      exact ⟨rfl, rfl, rfl⟩
    have e4 : ∀ X : RW → Nat → Nat → RS, bi (i0A b S3 p3) (fun S p _ => bi (l0A b S p) (fun S p _ => bi (o0A b S p) (fun S p _ => bi (a0A b S p) X))) = bi (bi (i0A b S3 p3) (fun S p _ => bi (l0A b S p) (fun S p _ => bi (o0A b S p) (fun S p _ => a0A b S p)))) X := by
      intro X
      rw [bi_bi]
      congr 1
      funext S p v
      rw [bi_bi]
      congr 1
      funext S p v
      rw [bi_bi]
    rw [e4] at hQ
    -- behind the lines
    have rest : ∀ F5, MX n F0 F5 (bi (i0A b S3 p3) (fun S p _ => bi (l0A b S p) (fun S p _ => bi (o0A b S p) (fun S p _ => a0A b S p)))) → wp_Model_read_82 z Q (ad e 100) (mem e w F5 L g) := by
      intro F5 h5
      match hr5 : bi (i0A b S3 p3) (fun S p _ => bi (l0A b S p) (fun S p _ => bi (o0A b S p) (fun S p _ => a0A b S p))), h5, hQ with
      | .error (c, q), h5, hQ => exact skip c q F5 h5 (fun F' hE' => hQ F' hE')
      | .ok (S5, p5, v5), h5, hQ =>
        have h5 : MS n F0 F5 S5 p5 := h5
        rw [bi_ok] at hQ
        obtain ⟨T1, q1, w1, e1, e2⟩ := bi_split hr5
        obtain ⟨T2, q2, w2, e3, e4⟩ := bi_split e2
        obtain ⟨T3, q3, w3, e5, e6⟩ := bi_split e4
        have f5 := a0A_T (o0A_T (l0A_T (i0A_T b3 h8 n3 e1) e3).1 e5).1 e6
        unfold wp_Model_read_82
        repeat (first | ((with_reducible show ∃ _, _ ∧ _); first | refine s_fI (by rfl) (by rfl) (by rfl) ?_ | refine s_fR (by rfl) (by rfl) (by rfl) ?_ | refine s_pV (by rfl) (by rfl) (Nat.le_of_ble_eq_true rfl) (by rfl) ?_) | ((with_reducible show xcls _ _ _ ∧ _); refine s_cls (by rfl) (by rfl) ?_))
        rw [h5.2.2.2.1.1]
        refine ⟨fun hh => absurd rfl hh, fun _ => ?_⟩
        repeat (first | ((with_reducible show ∃ _, _ ∧ _); first | refine s_fI (by rfl) (by rfl) (by rfl) ?_ | refine s_fR (by rfl) (by rfl) (by rfl) ?_ | refine s_pV (by rfl) (by rfl) (Nat.le_of_ble_eq_true rfl) (by rfl) ?_) | ((with_reducible show xcls _ _ _ ∧ _); refine s_cls (by rfl) (by rfl) ?_))
        refine m_symbols (nu := S5 32 0) (f := f) hT h5 f5.1.1 (by omega) (fun F6 h6 => ?_)
        unfold wp_Model_read_93
        match hr6 : syA b f S5 p5, h6, hQ with
        | .error (c, q), h6, hQ =>
          have hE : EM n F0 F6 c q := h6
          repeat (first | ((with_reducible show ∃ _, _ ∧ _); first | refine s_fI (by rfl) (by rfl) (by rfl) ?_ | refine s_fR (by rfl) (by rfl) (by rfl) ?_ | refine s_pV (by rfl) (by rfl) (Nat.le_of_ble_eq_true rfl) (by rfl) ?_) | ((with_reducible show xcls _ _ _ ∧ _); refine s_cls (by rfl) (by rfl) ?_))
          refine ⟨fun _ => ?_, fun hh => absurd hh hE.ne.2⟩
          unfold wp_Model_read_104
          repeat (first | ((with_reducible show ∃ _, _ ∧ _); first | refine s_fI (by rfl) (by rfl) (by rfl) ?_ | refine s_fR (by rfl) (by rfl) (by rfl) ?_ | refine s_pV (by rfl) (by rfl) (Nat.le_of_ble_eq_true rfl) (by rfl) ?_) | ((with_reducible show xcls _ _ _ ∧ _); refine s_cls (by rfl) (by rfl) ?_))
          exact ⟨fun _ => hQ F6 hE, fun hh => absurd hh hE.ne.2⟩
        | .ok (S6, p6, v6), h6, hQ =>
          have h6 : MS n F0 F6 S6 p6 := h6
          rw [bi_ok] at hQ
          obtain ⟨f6, m6, _⟩ := syA_T hb f S5 p5 f5.1 f5.2 hr6
          repeat (first | ((with_reducible show ∃ _, _ ∧ _); first | refine s_fI (by rfl) (by rfl) (by rfl) ?_ | refine s_fR (by rfl) (by rfl) (by rfl) ?_ | refine s_pV (by rfl) (by rfl) (Nat.le_of_ble_eq_true rfl) (by rfl) ?_) | ((with_reducible show xcls _ _ _ ∧ _); refine s_cls (by rfl) (by rfl) ?_))
          rw [h6.2.2.2.1.1]
          refine ⟨fun hh => absurd rfl hh, fun _ => ?_⟩
          repeat (first | ((with_reducible show ∃ _, _ ∧ _); first | refine s_fI (by rfl) (by rfl) (by rfl) ?_ | refine s_fR (by rfl) (by rfl) (by rfl) ?_ | refine s_pV (by rfl) (by rfl) (Nat.le_of_ble_eq_true rfl) (by rfl) ?_) | ((with_reducible show xcls _ _ _ ∧ _); refine s_cls (by rfl) (by rfl) ?_))
          refine m_nowhere h6 f6 (fun F7 h7 => ?_)
          unfold wp_Model_read_104
          match hr7 : fuA S6 p6 (S6 32 0) 0, h7, hQ with
          | .error (c, q), h7, hQ =>
            have hE : EM n F0 F7 c q := h7
            repeat (first | ((with_reducible show ∃ _, _ ∧ _); first | refine s_fI (by rfl) (by rfl) (by rfl) ?_ | refine s_fR (by rfl) (by rfl) (by rfl) ?_ | refine s_pV (by rfl) (by rfl) (Nat.le_of_ble_eq_true rfl) (by rfl) ?_) | ((with_reducible show xcls _ _ _ ∧ _); refine s_cls (by rfl) (by rfl) ?_))
            exact ⟨fun _ => hQ F7 hE, fun hh => absurd hh hE.ne.2⟩
          | .ok (S7, p7, v7), h7, hQ =>
            have h7 : MS n F0 F7 S7 p7 := h7
            rw [bi_ok] at hQ
            obtain ⟨hSS, hpp, hd⟩ := fuA_ok _ _ hr7
            repeat (first | ((with_reducible show ∃ _, _ ∧ _); first | refine s_fI (by rfl) (by rfl) (by rfl) ?_ | refine s_fR (by rfl) (by rfl) (by rfl) ?_ | refine s_pV (by rfl) (by rfl) (Nat.le_of_ble_eq_true rfl) (by rfl) ?_) | ((with_reducible show xcls _ _ _ ∧ _); refine s_cls (by rfl) (by rfl) ?_))
            rw [h7.2.2.2.1.1]
            refine ⟨fun hh => absurd rfl hh, fun _ => ?_⟩
            repeat (first | ((with_reducible show ∃ _, _ ∧ _); first | refine s_fI (by rfl) (by rfl) (by rfl) ?_ | refine s_fR (by rfl) (by rfl) (by rfl) ?_ | refine s_pV (by rfl) (by rfl) (Nat.le_of_ble_eq_true rfl) (by rfl) ?_) | ((with_reducible show xcls _ _ _ ∧ _); refine s_cls (by rfl) (by rfl) ?_))
            rw [hSS] at h7 hQ
            exact m_ring h7 f6 (DF_of f6 (fun j hj => hd j (Nat.zero_le _) (by omega))) hQ
    have h301 := b3.1.2.2.1.2
    repeat (first | ((with_reducible show ∃ _, _ ∧ _); first | refine s_fI (by rfl) (by rfl) (by rfl) ?_ | refine s_fR (by rfl) (by rfl) (by rfl) ?_ | refine s_pV (by rfl) (by rfl) (Nat.le_of_ble_eq_true rfl) (by rfl) ?_) | ((with_reducible show xcls _ _ _ ∧ _); refine s_cls (by rfl) (by rfl) ?_))
    rw [h3.2.2.2.1.1]
    refine ⟨fun hh => absurd rfl hh, fun _ => ?_⟩
    rw [hfl, show (0 : Int32) = Int32.ofNat 0 from rfl, n_eq (by omega) (by decide)]
    refine ⟨fun hb0 => ?_, fun hb0 => ?_⟩
    · unfold wp_Model_read_71
      repeat (first | ((with_reducible show ∃ _, _ ∧ _); first | refine s_fI (by rfl) (by rfl) (by rfl) ?_ | refine s_fR (by rfl) (by rfl) (by rfl) ?_ | refine s_pV (by rfl) (by rfl) (Nat.le_of_ble_eq_true rfl) (by rfl) ?_) | ((with_reducible show xcls _ _ _ ∧ _); refine s_cls (by rfl) (by rfl) ?_))
      rw [h3.2.2.2.1.1]
      refine ⟨fun hh => absurd rfl hh, fun _ => ?_⟩
      repeat (first | ((with_reducible show ∃ _, _ ∧ _); first | refine s_fI (by rfl) (by rfl) (by rfl) ?_ | refine s_fR (by rfl) (by rfl) (by rfl) ?_ | refine s_pV (by rfl) (by rfl) (Nat.le_of_ble_eq_true rfl) (by rfl) ?_) | ((with_reducible show xcls _ _ _ ∧ _); refine s_cls (by rfl) (by rfl) ?_))
      exact m_text hT h3 b3 hb0 rest
    · repeat (first | ((with_reducible show ∃ _, _ ∧ _); first | refine s_fI (by rfl) (by rfl) (by rfl) ?_ | refine s_fR (by rfl) (by rfl) (by rfl) ?_ | refine s_pV (by rfl) (by rfl) (Nat.le_of_ble_eq_true rfl) (by rfl) ?_) | ((with_reducible show xcls _ _ _ ∧ _); refine s_cls (by rfl) (by rfl) ?_))
      exact m_binary hT h3 b3 hb0 h8 h112 rest
end
