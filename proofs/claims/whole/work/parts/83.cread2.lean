/-! The class reads: header, sizes, lines. -/
def BI (S : RW) (nu : Nat) : Prop := SZ S ∧ (∀ v, v < 201 → S 108 v = 1) ∧ (∀ v, S 8 v ≤ 3) ∧ S 32 0 = nu ∧ (∀ kd k, kd < 3 → k < 8 → S (140 + kd) k = 1 ∧ S (40 + kd) k ≤ 40)
theorem BI.st {S : RW} {nu r i x : Nat} (h : BI S nu) (hr : r ≠ 0 ∧ r ≠ 31 ∧ r ≠ 30 ∧ r ≠ 8 ∧ r ≠ 32 ∧ r < 100 ∧ (r < 40 ∨ 43 ≤ r)) : BI (st S r i x) nu := by
  obtain ⟨h1, h2, h3, h4, h5⟩ := h
  refine ⟨SZ_st h1 ⟨hr.1, hr.2.1, hr.2.2.1, hr.2.2.2.2.2.1⟩, by rw [st_o (by omega) (by omega)]; exact h2, by rw [st_o (by omega) (by omega)]; exact h3, by rw [st_o (by omega) (by omega)]; exact h4, fun kd k q1 q2 => ?_⟩
  rw [st_o (by omega) (by omega), st_o (by omega) (by omega)]; exact h5 kd k q1 q2
theorem BI_len {S : RW} {nu kd i x : Nat} (h : BI S nu) (hk : kd < 3) (hx : x ≤ 40) : BI (st S (40 + kd) i x) nu := by
  obtain ⟨h1, h2, h3, h4, h5⟩ := h
  refine ⟨SZ_st h1 ⟨by omega, by omega, by omega, by omega⟩, by rw [st_o (by omega) (by omega)]; exact h2, by rw [st_o (by omega) (by omega)]; exact h3, by rw [st_o (by omega) (by omega)]; exact h4, fun kd' k q1 q2 => ?_⟩
  by_cases e0 : kd' = kd
  · subst e0
    rw [show 140 + kd' = 40 + kd' + 100 by omega, st_m, st_r]
    by_cases e1 : k = i
    · rw [if_pos e1, if_pos e1]; exact ⟨rfl, hx⟩
    · rw [if_neg e1, if_neg e1, show 40 + kd' + 100 = 140 + kd' by omega]; exact h5 kd' k q1 q2
  · rw [st_o (by omega) (by omega), st_o (by omega) (by omega)]; exact h5 kd' k q1 q2
section
variable {b : Nat → Nat} {S S' : RW} {p q v nu k m : Nat}
theorem psA_ok {c : Nat} (h : psA b c S p = .ok (S', q, v)) : S' = S ∧ q = p + 1 ∧ b p = c := by
  unfold psA at h
  by_cases hh : b p = c
  · rw [if_pos hh] at h
    obtain ⟨rfl, rfl, rfl⟩ := ok_inj h
    exact ⟨rfl, rfl, hh⟩
  · rw [if_neg hh] at h; cases h
theorem deA_ok {kind : Nat} (h : deA b kind S p = .ok (S', q, v)) : S' = st S 8 (v / 2) kind ∧ v ≤ 2 * S 0 0 + 1 ∧ 2 ≤ v ∧ v % 2 = 0 ∧ S 8 (v / 2) = 0 := by
  obtain ⟨S1, p1, v1, h1, h2⟩ := bi_split h
  obtain ⟨rfl, h3, h4, h5⟩ := liA_ok h1
  by_cases hh : v1 < 2 ∨ v1 % 2 = 1 ∨ S1 8 (v1 / 2) ≠ 0
  · rw [if_pos hh] at h2; cases h2
  · rw [if_neg hh] at h2
    obtain ⟨rfl, rfl, rfl⟩ := ok_inj h2
    refine ⟨rfl, h5, by omega, by omega, ?_⟩
    exact Classical.byContradiction (fun hn => hh (Or.inr (Or.inr hn)))
theorem deA_BI {kind : Nat} (hk : kind ≤ 3) (hB : BI S nu) (h : deA b kind S p = .ok (S', q, v)) : BI S' nu := by
  obtain ⟨rfl, _⟩ := deA_ok h
  obtain ⟨h1, h2, h3, h4, h5⟩ := hB
  refine ⟨SZ_st h1 ⟨by decide, by decide, by decide, by decide⟩, fun u hu => ?_, fun u => ?_, by rw [st_o (by decide) (by decide)]; exact h4, fun kd k q1 q2 => by rw [st_o (by omega) (by omega), st_o (by omega) (by omega)]; exact h5 kd k q1 q2⟩
  · rw [show (108 : Nat) = 8 + 100 from rfl, st_m]
    split
    · rfl
    · exact h2 u hu
  · rw [st_r]
    split
    · exact hk
    · exact h3 u
theorem usA_ok (h : usA b S p = .ok (S', q, v)) : S' = st (st (st S 19 (S 32 0) v) 20 (S 32 0) p) 32 0 (S 32 0 + 1) ∧ v ≤ 2 * S 0 0 + 1 := by
  obtain ⟨S1, p1, v1, h1, h2⟩ := bi_split h
  obtain ⟨rfl, h3, h4, h5⟩ := liA_ok h1
  obtain ⟨rfl, rfl, rfl⟩ := ok_inj h2
  exact ⟨rfl, h5⟩
theorem usA_BI (hB : BI S nu) (h : usA b S p = .ok (S', q, v)) : BI S' (nu + 1) := by
  obtain ⟨rfl, _⟩ := usA_ok h
  have h1 : BI (st (st S 19 (S 32 0) v) 20 (S 32 0) p) nu := (hB.st (by decide)).st (by decide)
  have e32 : st (st S 19 (S 32 0) v) 20 (S 32 0) p 32 0 = nu := h1.2.2.2.1
  obtain ⟨a1, a2, a3, a4, a5⟩ := h1
  refine ⟨SZ_st a1 (by decide), by rw [st_o (by decide) (by decide)]; exact a2, by rw [st_o (by decide) (by decide)]; exact a3, ?_, fun kd k q1 q2 => by rw [st_o (r := 32) (r' := 140 + kd) (by omega) (by omega), st_o (r := 32) (r' := 40 + kd) (by omega) (by omega)]; exact a5 kd k q1 q2⟩
  rw [st_r, if_pos rfl, hB.2.2.2.1]
theorem lp_inv {f : Nat → RW → Nat → RS} (P : Nat → RW → Prop) (hf : ∀ k S p S' q v, P k S → f k S p = .ok (S', q, v) → P (k + 1) S') : ∀ m k S p, P k S → lp f k m S p = .ok (S', q, v) → P (k + m) S'
  | 0, k, S, p, hP, h => by
    unfold lp at h
    obtain ⟨rfl, rfl, rfl⟩ := ok_inj h
    exact hP
  | m + 1, k, S, p, hP, h => by
    unfold lp at h
    obtain ⟨S1, p1, v1, h1, h2⟩ := bi_split h
    have := lp_inv P hf m (k + 1) S1 p1 (hf k S p S1 p1 v1 hP h1) h2
    rw [show k + (m + 1) = k + 1 + m by omega]; exact this
theorem inA_BI (hB : BI S nu) (h : inA b k S p = .ok (S', q, v)) : BI S' nu := by
  obtain ⟨S1, p1, v1, h1, h2⟩ := bi_split h
  obtain ⟨rfl, _⟩ := psA_ok h2
  exact (deA_BI (by decide) hB h1).st (by decide)
theorem nxA_BI (hB : BI S nu) (h : nxA b k S p = .ok (S', q, v)) : BI S' (nu + 1) := by
  obtain ⟨S1, p1, v1, h1, h2⟩ := bi_split h
  obtain ⟨rfl, _⟩ := psA_ok h2
  exact ((usA_BI hB h1).st (by decide)).st (by decide)
theorem lvA_BI (hB : BI S nu) (h : lvA b k S p = .ok (S', q, v)) : BI S' nu := by
  obtain ⟨S1, p1, v1, h1, h2⟩ := bi_split h
  obtain ⟨rfl, _⟩ := psA_ok h2
  exact (deA_BI (by decide) hB h1).st (by decide)
theorem ouA_BI (hB : BI S nu) (h : ouA b k S p = .ok (S', q, v)) : BI S' (nu + 1) := by
  obtain ⟨S1, p1, v1, h1, h2⟩ := bi_split h
  obtain ⟨rfl, _⟩ := psA_ok h2
  exact ((usA_BI hB h1).st (by decide)).st (by decide)
theorem opA_BI {r r' r'' u : Nat} (hB : BI S nu) (hr : (r = 6 ∧ r' = 13 ∧ r'' = 33) ∨ (r = 7 ∧ r' = 14 ∧ r'' = 34)) (h : opA b r r' r'' u k S p = .ok (S', q, v)) : BI S' (nu + 1) := by
  obtain ⟨S1, p1, v1, h1, h2⟩ := bi_split h
  obtain ⟨rfl, _⟩ := ok_inj h2
  rcases hr with ⟨rfl, rfl, rfl⟩ | ⟨rfl, rfl, rfl⟩
  · exact (((usA_BI hB h1).st (by decide)).st (by decide)).st (by decide)
  · exact (((usA_BI hB h1).st (by decide)).st (by decide)).st (by decide)
theorem laA_BI (hB : BI S nu) (h : laA b k S p = .ok (S', q, v)) : BI S' (nu + 1) := by
  obtain ⟨S1, p1, v1, h1, h2⟩ := bi_split h
  exact nxA_BI (lvA_BI hB h1) h2
theorem anA_BI (hB : BI S nu) (h : anA b k S p = .ok (S', q, v)) : BI S' (nu + 2) := by
  obtain ⟨S1, p1, v1, h1, h2⟩ := bi_split h
  obtain ⟨S2, p2, v2, h3, h4⟩ := bi_split h2
  obtain ⟨S3, p3, v3, h5, h6⟩ := bi_split h4
  obtain ⟨S4, p4, v4, h7, h8⟩ := bi_split h6
  obtain ⟨S5, p5, v5, h9, h10⟩ := bi_split h8
  obtain ⟨rfl, _⟩ := psA_ok h3
  obtain ⟨rfl, _⟩ := psA_ok h7
  obtain ⟨rfl, _⟩ := psA_ok h10
  exact opA_BI (opA_BI ((deA_BI (by decide) hB h1).st (by decide)) (Or.inl ⟨rfl, rfl, rfl⟩) h5) (Or.inr ⟨rfl, rfl, rfl⟩) h9
theorem dlA_BI {fr least r r' u : Nat} (hB : BI S nu) (hr : (r = 6 ∧ r' = 13) ∨ (r = 7 ∧ r' = 14)) (h : dlA b fr least r r' u k S p = .ok (S', q, v)) : BI S' nu ∧ v ≤ fr := by
  obtain ⟨S1, p1, v1, h1, h2⟩ := bi_split h
  have hS : ∀ m p kk d S1 p1 v1, dbA b S m p kk d = .ok (S1, p1, v1) → S1 = S := by
    intro m
    induction m with
    | zero => intro p kk d S1 p1 v1 h; cases h
    | succ m ih =>
      intro p kk d S1 p1 v1 h
      unfold dbA at h
      split at h
      · cases h
      · split at h
        · exact (ok_inj h).1.symm
        · exact ih _ _ _ _ _ _ h
  have := hS 3 p 0 0 S1 p1 v1 h1
  subst this
  by_cases hh : v1 < least ∨ fr < v1
  · rw [if_pos hh] at h2; cases h2
  · rw [if_neg hh] at h2
    obtain ⟨rfl, rfl, rfl⟩ := ok_inj h2
    refine ⟨?_, Nat.sub_le _ _⟩
    rcases hr with ⟨rfl, rfl⟩ | ⟨rfl, rfl⟩
    · exact (hB.st (by decide)).st (by decide)
    · exact (hB.st (by decide)).st (by decide)
theorem dnA_BI (hB : BI S nu) (h : dnA b k S p = .ok (S', q, v)) : BI S' nu := by
  obtain ⟨S1, p1, v1, h1, h2⟩ := bi_split h
  exact (dlA_BI (dlA_BI hB (Or.inl ⟨rfl, rfl⟩) h1).1 (Or.inr ⟨rfl, rfl⟩) h2).1
end
section
variable {e : xenv} {w : Bool} {L : Nat → Nat → Int64} {g : xh} {z : Nat → Nat} {b : Nat → Nat} {n : Nat} {F0 F F' : Nat → Nat → Int32} {S : RW} {p q s nu : Nat} {Q Q' : Int32 → xh → Prop}
theorem c_inputs (hT : TP F0 b n) (h : CS n F0 F S p) (hB : BI S nu) (hQ : rC e w L g n F0 Q (lp (inA b) 0 (S 0 1) S p)) : wp_Reader_readInputs z Q (ad e 64) (mem e w F L g) := by
  have hI := hB.1.1.2.1
  generalize hN : S 0 1 = N at *
  unfold wp_Reader_readInputs wp_Reader_readInputs_2
  refine xloop_dn (fun m a => ∃ k S2 p2 F2, m = N - k ∧ k ≤ N ∧ a = (ad e 64, Int32.ofNat k, mem e w F2 L g) ∧ CS n F0 F2 S2 p2 ∧ BI S2 nu ∧ S2 0 1 = N ∧ rC e w L g n F0 Q (lp (inA b) k (N - k) S2 p2)) ?_ N _ ⟨0, S, p, F, rfl, Nat.zero_le _, rfl, h, hB, hN, hQ⟩
  rintro m a cc ⟨k, S2, p2, F2, rfl, hk1, rfl, h2, hB2, hN2, hQ2⟩ hk
  unfold wp_Reader_readInputs_2_b; dsimp only
  repeat (first | ((with_reducible show ∃ _, _ ∧ _); first | refine s_fI (by rfl) (by rfl) (by rfl) ?_ | refine s_fR (by rfl) (by rfl) (by rfl) ?_ | refine s_pV (by rfl) (by rfl) (Nat.le_of_ble_eq_true rfl) (by rfl) ?_) | ((with_reducible show xcls _ _ _ ∧ _); refine s_cls (by rfl) (by rfl) ?_))
  rw [show F2 40 2 = Int32.ofNat (S2 0 1) from h2.size hB2.1 (by decide : 1 < 5), hN2]
  refine ⟨fun hc => ?_, fun hc => ?_⟩ <;> rw [n_le (by omega) (by omega)] at hc
  · rw [show N - k = 0 by omega] at hQ2
    exact hQ2 F2 h2
  rw [show N - k = (N - (k + 1)) + 1 by omega] at hQ2
  unfold lp inA at hQ2
  rw [bi_bi] at hQ2
  repeat (first | ((with_reducible show ∃ _, _ ∧ _); first | refine s_fI (by rfl) (by rfl) (by rfl) ?_ | refine s_fR (by rfl) (by rfl) (by rfl) ?_ | refine s_pV (by rfl) (by rfl) (Nat.le_of_ble_eq_true rfl) (by rfl) ?_) | ((with_reducible show xcls _ _ _ ∧ _); refine s_cls (by rfl) (by rfl) ?_))
  refine c_def (kind := 1) hT h2 hB2.1 hB2.2.1 (by decide) hB2.2.2.1 (rN_then hQ2 (fun h hq => ⟨fun hh => absurd rfl hh, fun _ => hq⟩) (fun S3 p3 v hr hq F3 h3 h9 h10 => ⟨fun _ => ?_, fun hh => absurd hh (by decide)⟩))
  have hB3 := deA_BI (by decide) hB2 hr
  have hd := deA_ok hr
  have hM := hB2.1.1.1
  repeat (first | ((with_reducible show ∃ _, _ ∧ _); first | refine s_fI (by rfl) (by rfl) (by rfl) ?_ | refine s_fR (by rfl) (by rfl) (by rfl) ?_ | refine s_pV (by rfl) (by rfl) (Nat.le_of_ble_eq_true rfl) (by rfl) ?_) | ((with_reducible show xcls _ _ _ ∧ _); refine s_cls (by rfl) (by rfl) ?_))
  rw [h9, show (1 : Int32) = Int32.ofNat 1 from rfl, n_shr (by omega) (by decide), show v / 2 ^ 1 = v / 2 from rfl]
  refine s_sI (i := k) (by rfl) (by rfl) (by rfl) (by rfl) (by rfl) (by omega) (by decide) ?_
  have h4 := h3.put (r := 1) (i := k) (c := k) (x := v / 2) (by decide) rfl (by omega) (by omega) rfl
  repeat (first | ((with_reducible show ∃ _, _ ∧ _); first | refine s_fI (by rfl) (by rfl) (by rfl) ?_ | refine s_fR (by rfl) (by rfl) (by rfl) ?_ | refine s_pV (by rfl) (by rfl) (Nat.le_of_ble_eq_true rfl) (by rfl) ?_) | ((with_reducible show xcls _ _ _ ∧ _); refine s_cls (by rfl) (by rfl) ?_))
  refine c_pass (c := 10) hT h4 (by decide) (rC_then hq (fun h hq => ⟨fun hh => absurd rfl hh, fun _ => hq⟩) (fun S5 p5 v5 hr5 hq5 F5 h5 => ⟨fun _ => ?_, fun hh => absurd hh (by decide)⟩))
  obtain ⟨rfl, _⟩ := psA_ok hr5
  refine hk (N - (k + 1)) _ (by omega) ⟨k + 1, _, p5, F5, rfl, by omega, by rw [n_add], h5, hB3.st (by decide), ?_, hq5⟩
  rw [st_o (by decide) (by decide), hd.1, st_o (by decide) (by decide)]; exact hN2
theorem c_next {k : Nat} (hT : TP F0 b n) (h : CS n F0 F S p) (hB : BI S nu) (hk : k < 6) (hnu : nu < 314) (hQ : rC e w L g n F0 Q (nxA b k S p)) : wp_Reader_readNext z Q (ad e 64) (Int32.ofNat k) (mem e w F L g) := by
  unfold wp_Reader_readNext
  repeat (first | ((with_reducible show ∃ _, _ ∧ _); first | refine s_fI (by rfl) (by rfl) (by rfl) ?_ | refine s_fR (by rfl) (by rfl) (by rfl) ?_ | refine s_pV (by rfl) (by rfl) (Nat.le_of_ble_eq_true rfl) (by rfl) ?_) | ((with_reducible show xcls _ _ _ ∧ _); refine s_cls (by rfl) (by rfl) ?_))
  unfold nxA at hQ
  refine c_use hT h hB.1 (by rw [hB.2.2.2.1]; exact hnu) (rN_then hQ (fun h hq => ⟨fun hh => absurd rfl hh, fun _ => hq⟩) (fun S3 p3 v hr hq F3 h3 h9 h10 => ⟨fun _ => ?_, fun hh => absurd hh (by decide)⟩))
  repeat (first | ((with_reducible show ∃ _, _ ∧ _); first | refine s_fI (by rfl) (by rfl) (by rfl) ?_ | refine s_fR (by rfl) (by rfl) (by rfl) ?_ | refine s_pV (by rfl) (by rfl) (Nat.le_of_ble_eq_true rfl) (by rfl) ?_) | ((with_reducible show xcls _ _ _ ∧ _); refine s_cls (by rfl) (by rfl) ?_))
  rw [h9]
  refine s_sI (i := k) (by rfl) (by rfl) (by rfl) (by rfl) (by rfl) (by omega) (by decide) ?_
  have h4 := (h3.put (r := 3) (i := k) (c := k) (x := v) (by decide) rfl hk (by omega) rfl).skip (r := 23) (i := k) (x := p) (by decide) rfl
  repeat (first | ((with_reducible show ∃ _, _ ∧ _); first | refine s_fI (by rfl) (by rfl) (by rfl) ?_ | refine s_fR (by rfl) (by rfl) (by rfl) ?_ | refine s_pV (by rfl) (by rfl) (Nat.le_of_ble_eq_true rfl) (by rfl) ?_) | ((with_reducible show xcls _ _ _ ∧ _); refine s_cls (by rfl) (by rfl) ?_))
  exact c_pass (c := 10) hT h4 (by decide) hq
theorem c_latches (hT : TP F0 b n) (h : CS n F0 F S p) (hB : BI S 0) (hQ : rC e w L g n F0 Q (l0A b S p)) : wp_Reader_readLatches z Q (ad e 64) (mem e w F L g) := by
  have hI := hB.1.1.2.2.1
  unfold l0A at hQ
  have h30 : S 30 0 = S 30 0 := rfl
  generalize hN : S 0 2 = N at *
  unfold wp_Reader_readLatches wp_Reader_readLatches_2
  refine xloop_dn (fun m a => ∃ k S2 p2 F2, m = N - k ∧ k ≤ N ∧ a = (ad e 64, Int32.ofNat k, mem e w F2 L g) ∧ CS n F0 F2 S2 p2 ∧ BI S2 k ∧ S2 0 2 = N ∧ S2 30 0 ≤ 1 ∧ rC e w L g n F0 Q (lp (fun k S p => if S 30 0 = 0 then laA b k S p else nxA b k S p) k (N - k) S2 p2)) ?_ N _ ⟨0, S, p, F, rfl, Nat.zero_le _, rfl, h, hB, hN, ?_, hQ⟩
  rotate_left
  · exact hB.1.2.2.1.2
  rintro m a cc ⟨k, S2, p2, F2, rfl, hk1, rfl, h2, hB2, hN2, h302, hQ2⟩ hk
  unfold wp_Reader_readLatches_2_b; dsimp only
  repeat (first | ((with_reducible show ∃ _, _ ∧ _); first | refine s_fI (by rfl) (by rfl) (by rfl) ?_ | refine s_fR (by rfl) (by rfl) (by rfl) ?_ | refine s_pV (by rfl) (by rfl) (Nat.le_of_ble_eq_true rfl) (by rfl) ?_) | ((with_reducible show xcls _ _ _ ∧ _); refine s_cls (by rfl) (by rfl) ?_))
  rw [show F2 40 3 = Int32.ofNat (S2 0 2) from h2.size hB2.1 (by decide : 2 < 5), hN2]
  refine ⟨fun hc => ?_, fun hc => ?_⟩ <;> rw [n_le (by omega) (by omega)] at hc
  · rw [show N - k = 0 by omega] at hQ2
    exact hQ2 F2 h2
  rw [show N - k = (N - (k + 1)) + 1 by omega] at hQ2
  unfold lp at hQ2
  repeat (first | ((with_reducible show ∃ _, _ ∧ _); first | refine s_fI (by rfl) (by rfl) (by rfl) ?_ | refine s_fR (by rfl) (by rfl) (by rfl) ?_ | refine s_pV (by rfl) (by rfl) (Nat.le_of_ble_eq_true rfl) (by rfl) ?_) | ((with_reducible show xcls _ _ _ ∧ _); refine s_cls (by rfl) (by rfl) ?_))
  rw [show F2 64 7 = Int32.ofNat (S2 30 0) from h2.at (r := 30) (j := 0) (by decide) rfl (by decide) hB2.1.2.2.1.1 rfl, show (0 : Int32) = Int32.ofNat 0 from rfl, n_eq (by omega) (by decide)]
  have last : ∀ S3 p3 F3, CS n F0 F3 S3 p3 → BI S3 k → S3 0 2 = N → S3 30 0 ≤ 1 → rC e w L g n F0 Q (bi (nxA b k S3 p3) (fun S p _ => lp (fun k S p => if S 30 0 = 0 then laA b k S p else nxA b k S p) (k + 1) (N - (k + 1)) S p)) → wp_Reader_readLatches_28 z Q cc (ad e 64) (Int32.ofNat k) (mem e w F3 L g) := by
    intro S3 p3 F3 h3 hB3 hN3 h303 hQ3
    unfold wp_Reader_readLatches_28
    repeat (first | ((with_reducible show ∃ _, _ ∧ _); first | refine s_fI (by rfl) (by rfl) (by rfl) ?_ | refine s_fR (by rfl) (by rfl) (by rfl) ?_ | refine s_pV (by rfl) (by rfl) (Nat.le_of_ble_eq_true rfl) (by rfl) ?_) | ((with_reducible show xcls _ _ _ ∧ _); refine s_cls (by rfl) (by rfl) ?_))
    refine c_next hT h3 hB3 (by omega) (by omega) (rC_then hQ3 (fun h hq => ⟨fun hh => absurd rfl hh, fun _ => hq⟩) (fun S5 p5 v5 hr5 hq5 F5 h5 => ⟨fun _ => ?_, fun hh => absurd hh (by decide)⟩))
    have hB5 := nxA_BI hB3 hr5
    have e5 : S5 0 = S3 0 ∧ S5 30 = S3 30 := by
      obtain ⟨S1, p1, v1, h1, h2⟩ := bi_split hr5
      obtain ⟨rfl, _⟩ := psA_ok h2
      obtain ⟨rfl, _⟩ := usA_ok h1
      exact ⟨by rw [st_o (by decide) (by decide), st_o (by decide) (by decide), st_o (by decide) (by decide), st_o (by decide) (by decide), st_o (by decide) (by decide)], by rw [st_o (by decide) (by decide), st_o (by decide) (by decide), st_o (by decide) (by decide), st_o (by decide) (by decide), st_o (by decide) (by decide)]⟩
    exact hk (N - (k + 1)) _ (by omega) ⟨k + 1, S5, p5, F5, rfl, by omega, by rw [n_inc], h5, hB5, by rw [e5.1]; exact hN3, by rw [e5.2]; exact h303, hq5⟩
  refine ⟨fun hb => ?_, fun hb => ?_⟩
  · rw [if_neg hb] at hQ2
    exact last S2 p2 F2 h2 hB2 hN2 h302 hQ2
  · rw [if_pos hb] at hQ2
    unfold laA at hQ2
    rw [bi_bi] at hQ2
    repeat (first | ((with_reducible show ∃ _, _ ∧ _); first | refine s_fI (by rfl) (by rfl) (by rfl) ?_ | refine s_fR (by rfl) (by rfl) (by rfl) ?_ | refine s_pV (by rfl) (by rfl) (Nat.le_of_ble_eq_true rfl) (by rfl) ?_) | ((with_reducible show xcls _ _ _ ∧ _); refine s_cls (by rfl) (by rfl) ?_))
    unfold wp_Reader_readLatchVariable
    unfold lvA at hQ2
    rw [bi_bi] at hQ2
    repeat (first | ((with_reducible show ∃ _, _ ∧ _); first | refine s_fI (by rfl) (by rfl) (by rfl) ?_ | refine s_fR (by rfl) (by rfl) (by rfl) ?_ | refine s_pV (by rfl) (by rfl) (Nat.le_of_ble_eq_true rfl) (by rfl) ?_) | ((with_reducible show xcls _ _ _ ∧ _); refine s_cls (by rfl) (by rfl) ?_))
    refine c_def (kind := 2) hT h2 hB2.1 hB2.2.1 (by decide) hB2.2.2.1 (rN_then hQ2 (fun h hq => ⟨fun hh => absurd rfl hh, fun _ => ⟨fun _ => hq, fun hh => absurd rfl hh⟩⟩) (fun S3 p3 v hr hq F3 h3 h9 h10 => ⟨fun _ => ?_, fun hh => absurd hh (by decide)⟩))
    have hB3 := deA_BI (by decide) hB2 hr
    have hd := deA_ok hr
    have hM := hB2.1.1.1
    repeat (first | ((with_reducible show ∃ _, _ ∧ _); first | refine s_fI (by rfl) (by rfl) (by rfl) ?_ | refine s_fR (by rfl) (by rfl) (by rfl) ?_ | refine s_pV (by rfl) (by rfl) (Nat.le_of_ble_eq_true rfl) (by rfl) ?_) | ((with_reducible show xcls _ _ _ ∧ _); refine s_cls (by rfl) (by rfl) ?_))
    rw [h9, show (1 : Int32) = Int32.ofNat 1 from rfl, n_shr (by omega) (by decide), show v / 2 ^ 1 = v / 2 from rfl]
    refine s_sI (i := k) (by rfl) (by rfl) (by rfl) (by rfl) (by rfl) (by omega) (by decide) ?_
    have h4 := h3.put (r := 2) (i := k) (c := k) (x := v / 2) (by decide) rfl (by omega) (by omega) rfl
    repeat (first | ((with_reducible show ∃ _, _ ∧ _); first | refine s_fI (by rfl) (by rfl) (by rfl) ?_ | refine s_fR (by rfl) (by rfl) (by rfl) ?_ | refine s_pV (by rfl) (by rfl) (Nat.le_of_ble_eq_true rfl) (by rfl) ?_) | ((with_reducible show xcls _ _ _ ∧ _); refine s_cls (by rfl) (by rfl) ?_))
    refine c_pass (c := 32) hT h4 (by decide) (rC_then hq (fun h hq => ⟨fun _ => hq, fun hh => absurd rfl hh⟩) (fun S5 p5 v5 hr5 hq5 F5 h5 => ⟨fun hh => absurd hh (by decide), fun _ => ?_⟩))
    obtain ⟨rfl, _⟩ := psA_ok hr5
    refine last _ p5 F5 h5 (hB3.st (by decide)) ?_ ?_ hq5
    · rw [st_o (by decide) (by decide), hd.1, st_o (by decide) (by decide)]; exact hN2
    · rw [st_o (by decide) (by decide), hd.1, st_o (by decide) (by decide)]; exact h302
theorem c_outputs {l : Nat} (hT : TP F0 b n) (h : CS n F0 F S p) (hB : BI S l) (hl : l ≤ 6) (hQ : rC e w L g n F0 Q (o0A b S p)) : wp_Reader_readOutputs z Q (ad e 64) (mem e w F L g) := by
  have hI := hB.1.1.2.2.2.1
  unfold o0A at hQ
  generalize hN : S 0 3 = N at *
  unfold wp_Reader_readOutputs wp_Reader_readOutputs_2
  refine xloop_dn (fun m a => ∃ k S2 p2 F2, m = N - k ∧ k ≤ N ∧ a = (ad e 64, Int32.ofNat k, mem e w F2 L g) ∧ CS n F0 F2 S2 p2 ∧ BI S2 (l + k) ∧ S2 0 3 = N ∧ rC e w L g n F0 Q (lp (ouA b) k (N - k) S2 p2)) ?_ N _ ⟨0, S, p, F, rfl, Nat.zero_le _, rfl, h, hB, hN, hQ⟩
  rintro m a cc ⟨k, S2, p2, F2, rfl, hk1, rfl, h2, hB2, hN2, hQ2⟩ hk
  unfold wp_Reader_readOutputs_2_b; dsimp only
  repeat (first | ((with_reducible show ∃ _, _ ∧ _); first | refine s_fI (by rfl) (by rfl) (by rfl) ?_ | refine s_fR (by rfl) (by rfl) (by rfl) ?_ | refine s_pV (by rfl) (by rfl) (Nat.le_of_ble_eq_true rfl) (by rfl) ?_) | ((with_reducible show xcls _ _ _ ∧ _); refine s_cls (by rfl) (by rfl) ?_))
  rw [show F2 40 4 = Int32.ofNat (S2 0 3) from h2.size hB2.1 (by decide : 3 < 5), hN2]
  refine ⟨fun hc => ?_, fun hc => ?_⟩ <;> rw [n_le (by omega) (by omega)] at hc
  · rw [show N - k = 0 by omega] at hQ2
    exact hQ2 F2 h2
  rw [show N - k = (N - (k + 1)) + 1 by omega] at hQ2
  unfold lp ouA at hQ2
  rw [bi_bi] at hQ2
  repeat (first | ((with_reducible show ∃ _, _ ∧ _); first | refine s_fI (by rfl) (by rfl) (by rfl) ?_ | refine s_fR (by rfl) (by rfl) (by rfl) ?_ | refine s_pV (by rfl) (by rfl) (Nat.le_of_ble_eq_true rfl) (by rfl) ?_) | ((with_reducible show xcls _ _ _ ∧ _); refine s_cls (by rfl) (by rfl) ?_))
  refine c_use hT h2 hB2.1 (by rw [hB2.2.2.2.1]; omega) (rN_then hQ2 (fun h hq => ⟨fun hh => absurd rfl hh, fun _ => hq⟩) (fun S3 p3 v hr hq F3 h3 h9 h10 => ⟨fun _ => ?_, fun hh => absurd hh (by decide)⟩))
  have hB3 := usA_BI hB2 hr
  have hd := usA_ok hr
  repeat (first | ((with_reducible show ∃ _, _ ∧ _); first | refine s_fI (by rfl) (by rfl) (by rfl) ?_ | refine s_fR (by rfl) (by rfl) (by rfl) ?_ | refine s_pV (by rfl) (by rfl) (Nat.le_of_ble_eq_true rfl) (by rfl) ?_) | ((with_reducible show xcls _ _ _ ∧ _); refine s_cls (by rfl) (by rfl) ?_))
  rw [h9]
  refine s_sI (i := k) (by rfl) (by rfl) (by rfl) (by rfl) (by rfl) (by omega) (by decide) ?_
  have h4 := (h3.put (r := 4) (i := k) (c := k) (x := v) (by decide) rfl (by omega) (by omega) rfl).skip (r := 24) (i := k) (x := p2) (by decide) rfl
  repeat (first | ((with_reducible show ∃ _, _ ∧ _); first | refine s_fI (by rfl) (by rfl) (by rfl) ?_ | refine s_fR (by rfl) (by rfl) (by rfl) ?_ | refine s_pV (by rfl) (by rfl) (Nat.le_of_ble_eq_true rfl) (by rfl) ?_) | ((with_reducible show xcls _ _ _ ∧ _); refine s_cls (by rfl) (by rfl) ?_))
  refine c_pass (c := 10) hT h4 (by decide) (rC_then hq (fun h hq => ⟨fun hh => absurd rfl hh, fun _ => hq⟩) (fun S5 p5 v5 hr5 hq5 F5 h5 => ⟨fun _ => ?_, fun hh => absurd hh (by decide)⟩))
  obtain ⟨rfl, _⟩ := psA_ok hr5
  refine hk (N - (k + 1)) _ (by omega) ⟨k + 1, _, p5, F5, rfl, by omega, by rw [n_inc], h5, (hB3.st (by decide)).st (by decide), ?_, hq5⟩
  rw [st_o (by decide) (by decide), st_o (by decide) (by decide), hd.1, st_o (by decide) (by decide), st_o (by decide) (by decide), st_o (by decide) (by decide)]; exact hN2
theorem c_ands {l : Nat} (hT : TP F0 b n) (h : CS n F0 F S p) (hB : BI S l) (hl : l ≤ 14) (hQ : rC e w L g n F0 Q (lp (anA b) 0 (S 0 4) S p)) : wp_Reader_readAnds z Q (ad e 64) (mem e w F L g) := by
  have hI := hB.1.1.2.2.2.2.1
  generalize hN : S 0 4 = N at *
  unfold wp_Reader_readAnds wp_Reader_readAnds_2
  refine xloop_dn (fun m a => ∃ k S2 p2 F2, m = N - k ∧ k ≤ N ∧ a = (ad e 64, Int32.ofNat k, mem e w F2 L g) ∧ CS n F0 F2 S2 p2 ∧ BI S2 (l + 2 * k) ∧ S2 0 4 = N ∧ rC e w L g n F0 Q (lp (anA b) k (N - k) S2 p2)) ?_ N _ ⟨0, S, p, F, rfl, Nat.zero_le _, rfl, h, hB, hN, hQ⟩
  rintro m a cc ⟨k, S2, p2, F2, rfl, hk1, rfl, h2, hB2, hN2, hQ2⟩ hk
  unfold wp_Reader_readAnds_2_b; dsimp only
  repeat (first | ((with_reducible show ∃ _, _ ∧ _); first | refine s_fI (by rfl) (by rfl) (by rfl) ?_ | refine s_fR (by rfl) (by rfl) (by rfl) ?_ | refine s_pV (by rfl) (by rfl) (Nat.le_of_ble_eq_true rfl) (by rfl) ?_) | ((with_reducible show xcls _ _ _ ∧ _); refine s_cls (by rfl) (by rfl) ?_))
  rw [show F2 40 5 = Int32.ofNat (S2 0 4) from h2.size hB2.1 (by decide : 4 < 5), hN2]
  refine ⟨fun hc => ?_, fun hc => ?_⟩ <;> rw [n_le (by omega) (by omega)] at hc
  · rw [show N - k = 0 by omega] at hQ2
    exact hQ2 F2 h2
  rw [show N - k = (N - (k + 1)) + 1 by omega] at hQ2
  unfold lp anA at hQ2
  rw [bi_bi] at hQ2
  repeat (first | ((with_reducible show ∃ _, _ ∧ _); first | refine s_fI (by rfl) (by rfl) (by rfl) ?_ | refine s_fR (by rfl) (by rfl) (by rfl) ?_ | refine s_pV (by rfl) (by rfl) (Nat.le_of_ble_eq_true rfl) (by rfl) ?_) | ((with_reducible show xcls _ _ _ ∧ _); refine s_cls (by rfl) (by rfl) ?_))
  refine c_def (kind := 3) hT h2 hB2.1 hB2.2.1 (by decide) hB2.2.2.1 (rN_then hQ2 (fun h hq => ⟨fun hh => absurd rfl hh, fun _ => hq⟩) (fun S3 p3 v hr hq F3 h3 h9 h10 => ⟨fun _ => ?_, fun hh => absurd hh (by decide)⟩))
  have hB3 := deA_BI (by decide) hB2 hr
  have hd := deA_ok hr
  have hM := hB2.1.1.1
  have hv : v / 2 < 201 := by omega
  repeat (first | ((with_reducible show ∃ _, _ ∧ _); first | refine s_fI (by rfl) (by rfl) (by rfl) ?_ | refine s_fR (by rfl) (by rfl) (by rfl) ?_ | refine s_pV (by rfl) (by rfl) (Nat.le_of_ble_eq_true rfl) (by rfl) ?_) | ((with_reducible show xcls _ _ _ ∧ _); refine s_cls (by rfl) (by rfl) ?_))
  rw [h9, show (1 : Int32) = Int32.ofNat 1 from rfl, n_shr (by omega) (by decide), show v / 2 ^ 1 = v / 2 from rfl]
  rintro v7 rfl
  repeat (first | ((with_reducible show ∃ _, _ ∧ _); first | refine s_fI (by rfl) (by rfl) (by rfl) ?_ | refine s_fR (by rfl) (by rfl) (by rfl) ?_ | refine s_pV (by rfl) (by rfl) (Nat.le_of_ble_eq_true rfl) (by rfl) ?_) | ((with_reducible show xcls _ _ _ ∧ _); refine s_cls (by rfl) (by rfl) ?_))
  refine s_sI (i := k) (by rfl) (by rfl) (by rfl) (by rfl) (by rfl) (by omega) (by decide) ?_
  have h4 := h3.put (r := 12) (i := k) (c := k) (x := v / 2) (by decide) rfl (by omega) (by omega) rfl
  rw [bi_bi] at hq
  repeat (first | ((with_reducible show ∃ _, _ ∧ _); first | refine s_fI (by rfl) (by rfl) (by rfl) ?_ | refine s_fR (by rfl) (by rfl) (by rfl) ?_ | refine s_pV (by rfl) (by rfl) (Nat.le_of_ble_eq_true rfl) (by rfl) ?_) | ((with_reducible show xcls _ _ _ ∧ _); refine s_cls (by rfl) (by rfl) ?_))
  refine c_pass (c := 32) hT h4 (by decide) (rC_then hq (fun h hq => ⟨fun _ => hq, fun hh => absurd rfl hh⟩) (fun S5 p5 v5 hr5 hq5 F5 h5 => ⟨fun hh => absurd hh (by decide), fun _ => ?_⟩))
  obtain ⟨rfl, _⟩ := psA_ok hr5
  have hB5 : BI (st S3 12 k (v / 2)) (l + 2 * k) := hB3.st (by decide)
  have hN5 : st S3 12 k (v / 2) 0 = S2 0 := by rw [st_o (by decide) (by decide), hd.1, st_o (by decide) (by decide)]
  generalize hS5 : st S3 12 k (v / 2) = S5 at *
  rw [bi_bi] at hq5
  unfold opA at hq5
  rw [bi_bi] at hq5
  repeat (first | ((with_reducible show ∃ _, _ ∧ _); first | refine s_fI (by rfl) (by rfl) (by rfl) ?_ | refine s_fR (by rfl) (by rfl) (by rfl) ?_ | refine s_pV (by rfl) (by rfl) (Nat.le_of_ble_eq_true rfl) (by rfl) ?_) | ((with_reducible show xcls _ _ _ ∧ _); refine s_cls (by rfl) (by rfl) ?_))
  refine c_use hT h5 hB5.1 (by rw [hB5.2.2.2.1]; omega) (rN_then hq5 (fun h hq => ⟨fun hh => absurd rfl hh, fun _ => hq⟩) (fun S6 p6 l6 hr6 hq6 F6 h6 h96 h106 => ⟨fun _ => ?_, fun hh => absurd hh (by decide)⟩))
  have hB6 := usA_BI hB5 hr6
  have hd6 := usA_ok hr6
  repeat (first | ((with_reducible show ∃ _, _ ∧ _); first | refine s_fI (by rfl) (by rfl) (by rfl) ?_ | refine s_fR (by rfl) (by rfl) (by rfl) ?_ | refine s_pV (by rfl) (by rfl) (Nat.le_of_ble_eq_true rfl) (by rfl) ?_) | ((with_reducible show xcls _ _ _ ∧ _); refine s_cls (by rfl) (by rfl) ?_))
  rw [h96]
  refine s_sI (i := v / 2) (by rfl) (by rfl) (by rfl) (by rfl) (by rfl) (by omega) (by decide) ?_
  have h7 := ((h6.put (r := 6) (i := v / 2) (c := v / 2) (x := l6) (by decide) rfl hv (by omega) rfl).skip (r := 13) (i := k) (x := l6) (by decide) rfl).skip (r := 33) (i := k) (x := p5) (by decide) rfl
  rw [bi_ok, bi_bi] at hq6
  have hB7 : BI (st (st (st S6 6 (v / 2) l6) 13 k l6) 33 k p5) (l + 2 * k + 1) := ((hB6.st (by decide)).st (by decide)).st (by decide)
  have hN7 : st (st (st S6 6 (v / 2) l6) 13 k l6) 33 k p5 0 = S2 0 := by rw [st_o (by decide) (by decide), st_o (by decide) (by decide), st_o (by decide) (by decide), hd6.1, st_o (by decide) (by decide), st_o (by decide) (by decide), st_o (by decide) (by decide)]; exact hN5
  generalize hS7 : st (st (st S6 6 (v / 2) l6) 13 k l6) 33 k p5 = S7 at *
  repeat (first | ((with_reducible show ∃ _, _ ∧ _); first | refine s_fI (by rfl) (by rfl) (by rfl) ?_ | refine s_fR (by rfl) (by rfl) (by rfl) ?_ | refine s_pV (by rfl) (by rfl) (Nat.le_of_ble_eq_true rfl) (by rfl) ?_) | ((with_reducible show xcls _ _ _ ∧ _); refine s_cls (by rfl) (by rfl) ?_))
  refine c_pass (c := 32) hT h7 (by decide) (rC_then hq6 (fun h hq => ⟨fun _ => hq, fun hh => absurd rfl hh⟩) (fun S8 p8 v8 hr8 hq8 F8 h8 => ⟨fun hh => absurd hh (by decide), fun _ => ?_⟩))
  obtain ⟨rfl, _⟩ := psA_ok hr8
  rw [bi_bi, bi_bi] at hq8
  repeat (first | ((with_reducible show ∃ _, _ ∧ _); first | refine s_fI (by rfl) (by rfl) (by rfl) ?_ | refine s_fR (by rfl) (by rfl) (by rfl) ?_ | refine s_pV (by rfl) (by rfl) (Nat.le_of_ble_eq_true rfl) (by rfl) ?_) | ((with_reducible show xcls _ _ _ ∧ _); refine s_cls (by rfl) (by rfl) ?_))
  refine c_use hT h8 hB7.1 (by rw [hB7.2.2.2.1]; omega) (rN_then hq8 (fun h hq => ⟨fun hh => absurd rfl hh, fun _ => hq⟩) (fun S9 p9 l9 hr9 hq9 F9 h9' h99 h109 => ⟨fun _ => ?_, fun hh => absurd hh (by decide)⟩))
  have hB9 := usA_BI hB7 hr9
  have hd9 := usA_ok hr9
  repeat (first | ((with_reducible show ∃ _, _ ∧ _); first | refine s_fI (by rfl) (by rfl) (by rfl) ?_ | refine s_fR (by rfl) (by rfl) (by rfl) ?_ | refine s_pV (by rfl) (by rfl) (Nat.le_of_ble_eq_true rfl) (by rfl) ?_) | ((with_reducible show xcls _ _ _ ∧ _); refine s_cls (by rfl) (by rfl) ?_))
  rw [h99]
  refine s_sI (i := v / 2) (by rfl) (by rfl) (by rfl) (by rfl) (by rfl) (by omega) (by decide) ?_
  have h10' := ((h9'.put (r := 7) (i := v / 2) (c := v / 2) (x := l9) (by decide) rfl hv (by omega) rfl).skip (r := 14) (i := k) (x := l9) (by decide) rfl).skip (r := 34) (i := k) (x := p8) (by decide) rfl
  rw [bi_ok] at hq9
  repeat (first | ((with_reducible show ∃ _, _ ∧ _); first | refine s_fI (by rfl) (by rfl) (by rfl) ?_ | refine s_fR (by rfl) (by rfl) (by rfl) ?_ | refine s_pV (by rfl) (by rfl) (Nat.le_of_ble_eq_true rfl) (by rfl) ?_) | ((with_reducible show xcls _ _ _ ∧ _); refine s_cls (by rfl) (by rfl) ?_))
  refine c_pass (c := 10) hT h10' (by decide) (rC_then hq9 (fun h hq => ⟨fun hh => absurd rfl hh, fun _ => hq⟩) (fun SA pA vA hrA hqA FA hA => ⟨fun _ => ?_, fun hh => absurd hh (by decide)⟩))
  obtain ⟨rfl, _⟩ := psA_ok hrA
  refine hk (N - (k + 1)) _ (by omega) ⟨k + 1, _, pA, FA, rfl, by omega, by rw [n_add], hA, ((hB9.st (by decide)).st (by decide)).st (by decide), ?_, hqA⟩
  rw [st_o (by decide) (by decide), st_o (by decide) (by decide), st_o (by decide) (by decide), hd9.1, st_o (by decide) (by decide), st_o (by decide) (by decide), st_o (by decide) (by decide), hN7]; exact hN2
end
