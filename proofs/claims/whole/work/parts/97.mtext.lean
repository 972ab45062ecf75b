/-! The reference reads a text file's lines, and a binary file's. -/
section
variable {e : xenv} {w : Bool} {L : Nat → Nat → Int64} {g : xh} {z : Nat → Nat} {b : Nat → Nat} {n : Nat} {F0 F F' : Nat → Nat → Int32} {S S' : RW} {p q s nu : Nat} {Q : xh → Prop} {Qi : Int32 → xh → Prop} {r : RS}
theorem cap_of {r : RS} {j M : Nat} (h : MX n F0 F r) (hb : ∀ S p v, r = .ok (S, p, v) → S 0 j ≤ M) : ∃ N, N ≤ M ∧ ∀ S p v, r = .ok (S, p, v) → S 0 j = N := by
  rcases EM_or h with ⟨c, q, hr, _⟩ | ⟨S, p, v, hr, _⟩
  · exact ⟨0, Nat.zero_le _, fun S p v hh => by rw [hr] at hh; cases hh⟩
  · exact ⟨S 0 j, hb S p v hr, fun S' p' v' hh => by rw [hr] at hh; obtain ⟨rfl, _⟩ := ok_inj hh; rfl⟩
theorem VM_even {rr v : Nat} (hr : rr = 1 ∨ rr = 2 ∨ rr = 12) (hv : v % 2 = 0) : Int32.ofNat v = VM rr (v / 2) := by
  unfold VM; rw [if_pos hr, show 2 * (v / 2) = v by omega]
theorem anA_0 {k : Nat} {T T' : RW} {q v : Nat} (h : anA b k T p = .ok (T', q, v)) : T' 0 = T 0 ∧ T' 30 = T 30 := by
  obtain ⟨S1, p1, v1, h1, h2⟩ := bi_split h
  obtain ⟨S2, p2, v2, h3, h4⟩ := bi_split h2
  obtain ⟨S3, p3, v3, h5, h6⟩ := bi_split h4
  obtain ⟨S4, p4, v4, h7, h8⟩ := bi_split h6
  obtain ⟨S5, p5, v5, h9, h10⟩ := bi_split h8
  obtain ⟨rfl, _⟩ := psA_ok h3
  obtain ⟨rfl, _⟩ := psA_ok h7
  obtain ⟨rfl, _⟩ := psA_ok h10
  obtain ⟨rfl, _⟩ := deA_ok h1
  obtain ⟨rfl, _⟩ := opA_ok h5
  obtain ⟨rfl, _⟩ := opA_ok h9
  have e : ∀ rr, rr = 0 ∨ rr = 30 → opS (opS (st (st T 8 (v1 / 2) 3) 12 k (v1 / 2)) 6 13 33 (v1 / 2) k v3 p2) 7 14 34 (v1 / 2) k v5 p4 rr = T rr := by
    intro rr hr
    rw [op_o (by omega), us_o (by omega), op_o (by omega), us_o (by omega), st_o (by omega) (by omega), st_o (by omega) (by omega)]
  exact ⟨e 0 (Or.inl rfl), e 30 (Or.inr rfl)⟩
theorem nxA_0 {k : Nat} {T T' : RW} {q v : Nat} (h : nxA b k T p = .ok (T', q, v)) : T' 0 = T 0 ∧ T' 30 = T 30 := by
  obtain ⟨S1, p1, v1, h1, h2⟩ := bi_split h
  obtain ⟨rfl, _⟩ := psA_ok h2
  obtain ⟨rfl, _⟩ := usA_ok h1
  constructor <;> rw [st_o (by decide) (by decide), st_o (by decide) (by decide), st_o (by decide) (by decide), st_o (by decide) (by decide), st_o (by decide) (by decide)]
theorem lvA_0 {k : Nat} {T T' : RW} {q v : Nat} (h : lvA b k T p = .ok (T', q, v)) : T' 0 = T 0 ∧ T' 30 = T 30 := by
  obtain ⟨S1, p1, v1, h1, h2⟩ := bi_split h
  obtain ⟨rfl, _⟩ := psA_ok h2
  obtain ⟨rfl, _⟩ := deA_ok h1
  constructor <;> rw [st_o (by decide) (by decide), st_o (by decide) (by decide)]
theorem m_text (hT : TM F0 b n) (h : MS n F0 F S p) (hB : BI S 0) (h30 : S 30 0 = 0) (hQ : ∀ F', MX n F0 F' (bi (i0A b S p) (fun S p _ => bi (l0A b S p) (fun S p _ => bi (o0A b S p) (fun S p _ => a0A b S p)))) → Q (mem e w F' L g)) : wp_Model_takeText z Q (ad e 100) (mem e w F L g) := by
  have hI := hB.1.1.2.1
  have hL := hB.1.1.2.2.1
  have hA := hB.1.1.2.2.2.2.1
  unfold wp_Model_takeText wp_Model_takeText_2
  refine m_lines (r := .ok (S, p, 0)) (f := inA b) (N := S 0 1) (G := fun k T => BI T 0 ∧ T 0 = S 0 ∧ T 30 = S 30) (X := fun h => wp_Model_takeText_47 z Q (ad e 100) h) (by omega) (fun k r2 F2 cc hk1 h2 hg hx hc => ?_) (fun k T p T' q v hP hr => ?_) h (fun S' p' v' hh => by obtain ⟨rfl, _⟩ := ok_inj hh; exact ⟨hB, rfl, rfl⟩) (fun F1 h1 => ?_)
  · unfold wp_Model_takeText_2_b; dsimp only
    repeat (first | ((with_reducible show ∃ _, _ ∧ _); first | refine s_fI (by rfl) (by rfl) (by rfl) ?_ | refine s_fR (by rfl) (by rfl) (by rfl) ?_ | refine s_pV (by rfl) (by rfl) (Nat.le_of_ble_eq_true rfl) (by rfl) ?_) | ((with_reducible show xcls _ _ _ ∧ _); refine s_cls (by rfl) (by rfl) ?_))
    refine s_aI (i := 11) (by rfl) (by rfl) (by rfl) (by rfl) (by decide) (by decide) ?_
    rcases EM_or h2 with ⟨c, q, rfl, hE⟩ | ⟨S2, p2, v2, rfl, h2⟩
    · refine ⟨fun _ => hx (Or.inl ⟨c, q, rfl⟩), fun _ => ?_⟩
      repeat (first | ((with_reducible show ∃ _, _ ∧ _); first | refine s_fI (by rfl) (by rfl) (by rfl) ?_ | refine s_fR (by rfl) (by rfl) (by rfl) ?_ | refine s_pV (by rfl) (by rfl) (Nat.le_of_ble_eq_true rfl) (by rfl) ?_) | ((with_reducible show xcls _ _ _ ∧ _); refine s_cls (by rfl) (by rfl) ?_))
      exact ⟨fun _ => hx (Or.inl ⟨c, q, rfl⟩), fun hh => absurd hh hE.ne.2⟩
    obtain ⟨hB2, hz2, _⟩ := hg _ _ _ rfl
    rw [show F2 110 11 = Int32.ofNat (S2 0 1) from h2.size hB2.1 (by decide : 1 < 5), hz2]
    refine ⟨fun hh => hx (Or.inr ?_), fun hh => ?_⟩
    · rw [n_le (by omega) (by omega)] at hh; omega
    rw [n_le (by omega) (by omega)] at hh
    repeat (first | ((with_reducible show ∃ _, _ ∧ _); first | refine s_fI (by rfl) (by rfl) (by rfl) ?_ | refine s_fR (by rfl) (by rfl) (by rfl) ?_ | refine s_pV (by rfl) (by rfl) (Nat.le_of_ble_eq_true rfl) (by rfl) ?_) | ((with_reducible show xcls _ _ _ ∧ _); refine s_cls (by rfl) (by rfl) ?_))
    rw [h2.2.2.2.1.1]
    refine ⟨fun hh => absurd rfl hh, fun _ => ?_⟩
    repeat (first | ((with_reducible show ∃ _, _ ∧ _); first | refine s_fI (by rfl) (by rfl) (by rfl) ?_ | refine s_fR (by rfl) (by rfl) (by rfl) ?_ | refine s_pV (by rfl) (by rfl) (Nat.le_of_ble_eq_true rfl) (by rfl) ?_) | ((with_reducible show xcls _ _ _ ∧ _); refine s_cls (by rfl) (by rfl) ?_))
    refine m_defines (r := .ok (S2, p2, v2)) (kind := 1) hT h2 (fun S' p' v' hh => by obtain ⟨rfl, _⟩ := ok_inj hh; exact ⟨hB2.1, hB2.2.1, hB2.2.2.1⟩) (fun F3 y h3 hy => ?_)
    rw [bi_ok] at h3 hy
    refine s_sI (i := 10 + k) (by rfl) (by rfl) (by rfl) (by rfl) (by exact n_add 10 k) (by omega) (by decide) ?_
    have h4 := MX_put (rr := 1) (i := k) (c := 10 + k) (x := fun v => v / 2) (y := y) h3 (by decide) rfl (by omega) rfl (by decide) (fun S' p' v' hh => by rw [hy S' p' v' hh]; exact VM_even (Or.inl rfl) (deA_ok hh).2.2.2.1)
    repeat (first | ((with_reducible show ∃ _, _ ∧ _); first | refine s_fI (by rfl) (by rfl) (by rfl) ?_ | refine s_fR (by rfl) (by rfl) (by rfl) ?_ | refine s_pV (by rfl) (by rfl) (Nat.le_of_ble_eq_true rfl) (by rfl) ?_) | ((with_reducible show xcls _ _ _ ∧ _); refine s_cls (by rfl) (by rfl) ?_))
    refine m_take (c := 10) hT h4 (by decide) (fun F4 h5 => ?_)
    rw [n_inc]
    refine hc S2 p2 v2 (by omega) rfl F4 ?_
    rw [bi_bi] at h5
    exact h5
  · have a1 := inA_BI hP.1 hr
    obtain ⟨S1, p1, v1, h1, h2⟩ := bi_split hr
    obtain ⟨rfl, _⟩ := psA_ok h2
    obtain ⟨rfl, _⟩ := deA_ok h1
    exact ⟨a1, by rw [st_o (by decide) (by decide), st_o (by decide) (by decide)]; exact hP.2.1, by rw [st_o (by decide) (by decide), st_o (by decide) (by decide)]; exact hP.2.2⟩
  -- the latches
  have ei : i0A b S p = lp (inA b) 0 (S 0 1) S p := by unfold i0A; rw [if_pos h30]
  rw [bi_ok, ← ei] at h1
  have g1 : ∀ S1 p1 v1, i0A b S p = .ok (S1, p1, v1) → BI S1 0 ∧ S1 0 = S 0 ∧ S1 30 = S 30 := by
    intro S1 p1 v1 hr
    rw [ei] at hr
    exact lp_inv (fun k T => BI T 0 ∧ T 0 = S 0 ∧ T 30 = S 30) (fun k T p T' q v hP hr => by
      have a1 := inA_BI hP.1 hr
      obtain ⟨S1, p1, v1, h1, h2⟩ := bi_split hr
      obtain ⟨rfl, _⟩ := psA_ok h2
      obtain ⟨rfl, _⟩ := deA_ok h1
      exact ⟨a1, by rw [st_o (by decide) (by decide), st_o (by decide) (by decide)]; exact hP.2.1, by rw [st_o (by decide) (by decide), st_o (by decide) (by decide)]; exact hP.2.2⟩) (S 0 1) 0 S p ⟨hB, rfl, rfl⟩ hr
  generalize hr1 : i0A b S p = r1 at *
  show wp_Model_takeText_47 z Q (ad e 100) (mem e w F1 L g)
  unfold wp_Model_takeText_47 wp_Model_takeText_49
  refine m_lines (r := r1) (f := laA b) (N := S 0 2) (G := fun k T => BI T k ∧ T 0 = S 0 ∧ T 30 = S 30) (X := fun h => wp_Model_takeText_99 z Q (ad e 100) h) (by omega) (fun k r2 F2 cc hk1 h2 hg hx hc => ?_) (fun k T p T' q v hP hr => ?_) h1 (fun S' p' v' hh => g1 S' p' v' hh) (fun F2 h2 => ?_)
  · unfold wp_Model_takeText_49_b; dsimp only
    repeat (first | ((with_reducible show ∃ _, _ ∧ _); first | refine s_fI (by rfl) (by rfl) (by rfl) ?_ | refine s_fR (by rfl) (by rfl) (by rfl) ?_ | refine s_pV (by rfl) (by rfl) (Nat.le_of_ble_eq_true rfl) (by rfl) ?_) | ((with_reducible show xcls _ _ _ ∧ _); refine s_cls (by rfl) (by rfl) ?_))
    refine s_aI (i := 12) (by rfl) (by rfl) (by rfl) (by rfl) (by decide) (by decide) ?_
    rcases EM_or h2 with ⟨c, q, rfl, hE⟩ | ⟨S2, p2, v2, rfl, h2⟩
    · refine ⟨fun _ => hx (Or.inl ⟨c, q, rfl⟩), fun _ => ?_⟩
      repeat (first | ((with_reducible show ∃ _, _ ∧ _); first | refine s_fI (by rfl) (by rfl) (by rfl) ?_ | refine s_fR (by rfl) (by rfl) (by rfl) ?_ | refine s_pV (by rfl) (by rfl) (Nat.le_of_ble_eq_true rfl) (by rfl) ?_) | ((with_reducible show xcls _ _ _ ∧ _); refine s_cls (by rfl) (by rfl) ?_))
      exact ⟨fun _ => hx (Or.inl ⟨c, q, rfl⟩), fun hh => absurd hh hE.ne.2⟩
    obtain ⟨hB2, hz2, _⟩ := hg _ _ _ rfl
    rw [show F2 110 12 = Int32.ofNat (S2 0 2) from h2.size hB2.1 (by decide : 2 < 5), hz2]
    refine ⟨fun hh => hx (Or.inr ?_), fun hh => ?_⟩
    · rw [n_le (by omega) (by omega)] at hh; omega
    rw [n_le (by omega) (by omega)] at hh
    repeat (first | ((with_reducible show ∃ _, _ ∧ _); first | refine s_fI (by rfl) (by rfl) (by rfl) ?_ | refine s_fR (by rfl) (by rfl) (by rfl) ?_ | refine s_pV (by rfl) (by rfl) (Nat.le_of_ble_eq_true rfl) (by rfl) ?_) | ((with_reducible show xcls _ _ _ ∧ _); refine s_cls (by rfl) (by rfl) ?_))
    rw [h2.2.2.2.1.1]
    refine ⟨fun hh => absurd rfl hh, fun _ => ?_⟩
    repeat (first | ((with_reducible show ∃ _, _ ∧ _); first | refine s_fI (by rfl) (by rfl) (by rfl) ?_ | refine s_fR (by rfl) (by rfl) (by rfl) ?_ | refine s_pV (by rfl) (by rfl) (Nat.le_of_ble_eq_true rfl) (by rfl) ?_) | ((with_reducible show xcls _ _ _ ∧ _); refine s_cls (by rfl) (by rfl) ?_))
    refine m_defines (r := .ok (S2, p2, v2)) (kind := 2) hT h2 (fun S' p' v' hh => by obtain ⟨rfl, _⟩ := ok_inj hh; exact ⟨hB2.1, hB2.2.1, hB2.2.2.1⟩) (fun F3 y h3 hy => ?_)
    rw [bi_ok] at h3 hy
    refine s_sI (i := 14 + k) (by rfl) (by rfl) (by rfl) (by rfl) (by exact n_add 14 k) (by omega) (by decide) ?_
    have h4 := MX_put (rr := 2) (i := k) (c := 14 + k) (x := fun v => v / 2) (y := y) h3 (by decide) rfl (by omega) rfl (by decide) (fun S' p' v' hh => by rw [hy S' p' v' hh]; exact VM_even (Or.inr (Or.inl rfl)) (deA_ok hh).2.2.2.1)
    repeat (first | ((with_reducible show ∃ _, _ ∧ _); first | refine s_fI (by rfl) (by rfl) (by rfl) ?_ | refine s_fR (by rfl) (by rfl) (by rfl) ?_ | refine s_pV (by rfl) (by rfl) (Nat.le_of_ble_eq_true rfl) (by rfl) ?_) | ((with_reducible show xcls _ _ _ ∧ _); refine s_cls (by rfl) (by rfl) ?_))
    refine m_take (c := 32) hT h4 (by decide) (fun F4 h5 => ?_)
    rw [bi_bi] at h5
    have h5 : MX n F0 F4 (lvA b k S2 p2) := h5
    rw [n_inc]
    have fin : ∀ F5, MX n F0 F5 (laA b k S2 p2) → cc (ad e 100, Int32.ofNat (k + 1), mem e w F5 L g) := fun F5 h6 => hc S2 p2 v2 (by omega) rfl F5 h6
    unfold laA at fin
    repeat (first | ((with_reducible show ∃ _, _ ∧ _); first | refine s_fI (by rfl) (by rfl) (by rfl) ?_ | refine s_fR (by rfl) (by rfl) (by rfl) ?_ | refine s_pV (by rfl) (by rfl) (Nat.le_of_ble_eq_true rfl) (by rfl) ?_) | ((with_reducible show xcls _ _ _ ∧ _); refine s_cls (by rfl) (by rfl) ?_))
    rcases EM_or h5 with ⟨c, q, hr5, hE⟩ | ⟨S5, p5, v5, hr5, h5⟩
    · rw [hr5] at fin
      -- the line is skipped
      unfold wp_Model_takeNext
      obtain ⟨pp, hpp, h6⟩ := hE.2.1
      repeat (first | ((with_reducible show ∃ _, _ ∧ _); first | refine s_fI (by rfl) (by rfl) (by rfl) ?_ | refine s_fR (by rfl) (by rfl) (by rfl) ?_ | refine s_pV (by rfl) (by rfl) (Nat.le_of_ble_eq_true rfl) (by rfl) ?_) | ((with_reducible show xcls _ _ _ ∧ _); refine s_cls (by rfl) (by rfl) ?_))
      rw [h6]
      refine s_sI (i := k) (by rfl) (by rfl) (by rfl) (by rfl) (by rfl) (by omega) (by decide) ?_
      repeat (first | ((with_reducible show ∃ _, _ ∧ _); first | refine s_fI (by rfl) (by rfl) (by rfl) ?_ | refine s_fR (by rfl) (by rfl) (by rfl) ?_ | refine s_pV (by rfl) (by rfl) (Nat.le_of_ble_eq_true rfl) (by rfl) ?_) | ((with_reducible show xcls _ _ _ ∧ _); refine s_cls (by rfl) (by rfl) ?_))
      refine m_literal (r := .error (c, q)) hT (hE.row (Or.inl ⟨by decide, by decide, Nat.zero_le _⟩)) (fun _ _ _ hh => by cases hh) (fun F6 y6 h7 _ => ?_)
      have h7 : EM n F0 F6 c q := h7
      refine s_sI (i := 14 + k) (by rfl) (by rfl) (by rfl) (by rfl) (by exact n_add 14 k) (by omega) (by decide) ?_
      repeat (first | ((with_reducible show ∃ _, _ ∧ _); first | refine s_fI (by rfl) (by rfl) (by rfl) ?_ | refine s_fR (by rfl) (by rfl) (by rfl) ?_ | refine s_pV (by rfl) (by rfl) (Nat.le_of_ble_eq_true rfl) (by rfl) ?_) | ((with_reducible show xcls _ _ _ ∧ _); refine s_cls (by rfl) (by rfl) ?_))
      exact m_take (c := 10) (r := .error (c, q)) hT (h7.row (Or.inl ⟨by decide, by decide, by show 14 ≤ 14 + k; omega⟩)) (by decide) (fun F8 h8 => fin F8 h8)
    · rw [hr5] at fin
      have hB5 := lvA_BI hB2 hr5
      exact m_next hT h5 hB5.1 (by omega) (fun F6 h6 => fin F6 h6)
  · obtain ⟨S1, p1, v1, h1, h2⟩ := bi_split hr
    have a1 := lvA_0 h1
    have a2 := nxA_0 h2
    exact ⟨laA_BI hP.1 hr, by rw [a2.1, a1.1]; exact hP.2.1, by rw [a2.2, a1.2]; exact hP.2.2⟩
  have e2 : bi r1 (fun S p _ => l0A b S p) = bi r1 (fun S1 p _ => lp (laA b) 0 (S 0 2) S1 p) := by
    match r1, g1 with
    | .error e, g1 => rfl
    | .ok (S1, p1, v1), g1 =>
      obtain ⟨_, b2, b3⟩ := g1 _ _ _ rfl
      rw [bi_ok, bi_ok]
      unfold l0A
      rw [show S1 0 2 = S 0 2 by rw [b2]]
      -- the flag stays
      have key : ∀ m k T p, T 30 = S 30 → lp (fun k S p => if S 30 0 = 0 then laA b k S p else nxA b k S p) k m T p = lp (laA b) k m T p := by
        intro m
        induction m with
        | zero => intro k T p _; rfl
        | succ m ih =>
          intro k T p hT30
          unfold lp
          rw [if_pos (by rw [hT30]; exact h30)]
          match hr : laA b k T p with
          | .error e => rfl
          | .ok (T', p', v') =>
            rw [bi_ok, bi_ok]
            obtain ⟨S1, p1, v1, h1, h2⟩ := bi_split hr
            exact ih (k + 1) T' p' (by rw [(nxA_0 h2).2, (lvA_0 h1).2]; exact hT30)
      exact key _ _ _ _ b3
  rw [← e2] at h2
  have g2 : ∀ S2 p2 v2, bi r1 (fun S p _ => l0A b S p) = .ok (S2, p2, v2) → BI S2 (S 0 2) ∧ S2 0 = S 0 ∧ S2 30 = S 30 := by
    intro S2 p2 v2 hr
    rw [e2] at hr
    obtain ⟨S1, p1, v1, h1, h2⟩ := bi_split hr
    have := lp_inv (fun k T => BI T k ∧ T 0 = S 0 ∧ T 30 = S 30) (fun k T p T' q v hP hr => by
      obtain ⟨S1, p1, v1, h1, h2⟩ := bi_split hr
      have a1 := lvA_0 h1
      have a2 := nxA_0 h2
      exact ⟨laA_BI hP.1 hr, by rw [a2.1, a1.1]; exact hP.2.1, by rw [a2.2, a1.2]; exact hP.2.2⟩) (S 0 2) 0 S1 p1 (g1 _ _ _ h1) h2
    rw [Nat.zero_add] at this
    exact this
  rw [← bi_bi] at hQ
  generalize hr2 : bi r1 (fun S p _ => l0A b S p) = r2 at *
  show wp_Model_takeText_99 z Q (ad e 100) (mem e w F2 L g)
  unfold wp_Model_takeText_99
  repeat (first | ((with_reducible show ∃ _, _ ∧ _); first | refine s_fI (by rfl) (by rfl) (by rfl) ?_ | refine s_fR (by rfl) (by rfl) (by rfl) ?_ | refine s_pV (by rfl) (by rfl) (Nat.le_of_ble_eq_true rfl) (by rfl) ?_) | ((with_reducible show xcls _ _ _ ∧ _); refine s_cls (by rfl) (by rfl) ?_))
  refine m_outputs (l := S 0 2) hT h2 (fun S' p' v' hh => (g2 S' p' v' hh).1) (fun F3 h3 => ?_)
  rw [← bi_bi] at hQ
  have g3 : ∀ S3 p3 v3, bi r2 (fun S p _ => o0A b S p) = .ok (S3, p3, v3) → BI S3 (S 0 2 + S 0 3) ∧ S3 0 = S 0 ∧ S3 30 = S 30 := by
    intro S3 p3 v3 hr
    obtain ⟨S2, p2, v2, h1, h2⟩ := bi_split hr
    obtain ⟨c1, c2, c3⟩ := g2 _ _ _ h1
    unfold o0A at h2
    have := lp_inv (fun k T => BI T (S 0 2 + k) ∧ T 0 = S 0 ∧ T 30 = S 30) (fun k T p T' q v hP hr => by
      have a1 := ouA_BI hP.1 hr
      obtain ⟨S1, p1, v1, h1, h2⟩ := bi_split hr
      obtain ⟨rfl, _⟩ := psA_ok h2
      obtain ⟨rfl, _⟩ := usA_ok h1
      exact ⟨a1, by rw [st_o (by decide) (by decide), st_o (by decide) (by decide), st_o (by decide) (by decide), st_o (by decide) (by decide), st_o (by decide) (by decide)]; exact hP.2.1, by rw [st_o (by decide) (by decide), st_o (by decide) (by decide), st_o (by decide) (by decide), st_o (by decide) (by decide), st_o (by decide) (by decide)]; exact hP.2.2⟩) (S2 0 3) 0 S2 p2 ⟨c1, c2, c3⟩ h2
    rw [Nat.zero_add, c2] at this
    exact this
  generalize hr3 : bi r2 (fun S p _ => o0A b S p) = r3 at *
  unfold wp_Model_takeText_105
  refine m_lines (r := r3) (f := anA b) (N := S 0 4) (G := fun k T => BI T (S 0 2 + S 0 3 + 2 * k) ∧ T 0 = S 0 ∧ T 30 = S 30) (X := Q) (by omega) (fun k r4 F4 cc hk1 h4 hg hx hc => ?_) (fun k T p T' q v hP hr => ?_) h3 (fun S' p' v' hh => g3 S' p' v' hh) (fun F4 h4 => hQ F4 ?_)
  · unfold wp_Model_takeText_105_b; dsimp only
    repeat (first | ((with_reducible show ∃ _, _ ∧ _); first | refine s_fI (by rfl) (by rfl) (by rfl) ?_ | refine s_fR (by rfl) (by rfl) (by rfl) ?_ | refine s_pV (by rfl) (by rfl) (Nat.le_of_ble_eq_true rfl) (by rfl) ?_) | ((with_reducible show xcls _ _ _ ∧ _); refine s_cls (by rfl) (by rfl) ?_))
    refine s_aI (i := 14) (by rfl) (by rfl) (by rfl) (by rfl) (by decide) (by decide) ?_
    rcases EM_or h4 with ⟨c, q, rfl, hE⟩ | ⟨S4, p4, v4, rfl, h4⟩
    · refine ⟨fun _ => hx (Or.inl ⟨c, q, rfl⟩), fun _ => ?_⟩
      repeat (first | ((with_reducible show ∃ _, _ ∧ _); first | refine s_fI (by rfl) (by rfl) (by rfl) ?_ | refine s_fR (by rfl) (by rfl) (by rfl) ?_ | refine s_pV (by rfl) (by rfl) (Nat.le_of_ble_eq_true rfl) (by rfl) ?_) | ((with_reducible show xcls _ _ _ ∧ _); refine s_cls (by rfl) (by rfl) ?_))
      exact ⟨fun _ => hx (Or.inl ⟨c, q, rfl⟩), fun hh => absurd hh hE.ne.2⟩
    obtain ⟨hB4, hz4, _⟩ := hg _ _ _ rfl
    rw [show F4 110 14 = Int32.ofNat (S4 0 4) from h4.size hB4.1 (by decide : 4 < 5), hz4]
    refine ⟨fun hh => hx (Or.inr ?_), fun hh => ?_⟩
    · rw [n_le (by omega) (by omega)] at hh; omega
    rw [n_le (by omega) (by omega)] at hh
    have hk150 : k < 150 := by omega
    repeat (first | ((with_reducible show ∃ _, _ ∧ _); first | refine s_fI (by rfl) (by rfl) (by rfl) ?_ | refine s_fR (by rfl) (by rfl) (by rfl) ?_ | refine s_pV (by rfl) (by rfl) (Nat.le_of_ble_eq_true rfl) (by rfl) ?_) | ((with_reducible show xcls _ _ _ ∧ _); refine s_cls (by rfl) (by rfl) ?_))
    rw [h4.2.2.2.1.1]
    refine ⟨fun hh => absurd rfl hh, fun _ => ?_⟩
    rw [n_inc]
    have fin : ∀ F5, MX n F0 F5 (anA b k S4 p4) → cc (ad e 100, Int32.ofNat (k + 1), mem e w F5 L g) := fun F5 h6 => hc S4 p4 v4 (by omega) rfl F5 h6
    -- what is left of a line with a fault
    have last : ∀ c q F5, EM n F0 F5 c q → anA b k S4 p4 = .error (c, q) → xcls (mem e w F5 L g) (ad e 100) 12 ∧ wp_Model_take z (fun h24 => cc (ad e 100, Int32.ofNat (k + 1), h24)) (ad e 100) 10 (mem e w F5 L g) := by
      intro c q F5 hE hr
      repeat (first | ((with_reducible show ∃ _, _ ∧ _); first | refine s_fI (by rfl) (by rfl) (by rfl) ?_ | refine s_fR (by rfl) (by rfl) (by rfl) ?_ | refine s_pV (by rfl) (by rfl) (Nat.le_of_ble_eq_true rfl) (by rfl) ?_) | ((with_reducible show xcls _ _ _ ∧ _); refine s_cls (by rfl) (by rfl) ?_))
      exact m_take (c := 10) (r := .error (c, q)) hT hE (by decide) (fun F6 h6 => fin F6 (by rw [hr]; exact h6))
    have right : ∀ c q F5, EM n F0 F5 c q → anA b k S4 p4 = .error (c, q) → ∃ o17, fR (mem e w F5 L g) (ad e 100) 12 23 = some o17 ∧ (∃ v18, fI (mem e w F5 L g) (ad e 100) 12 6 = some v18 ∧ (∃ h19, sI (mem e w F5 L g) o17 0 (Int32.ofNat k) v18 = some h19 ∧ (∃ o20, fR h19 (ad e 100) 12 17 = some o20 ∧ (xcls h19 (ad e 100) 12 ∧ wp_Model_literal z (fun v22 h21 => ∃ h23, sI h21 o20 0 (300 + Int32.ofNat k) v22 = some h23 ∧ (xcls h23 (ad e 100) 12 ∧ wp_Model_take z (fun h24 => cc (ad e 100, Int32.ofNat (k + 1), h24)) (ad e 100) 10 h23)) (ad e 100) h19)))) := by
      intro c q F5 hE hr
      repeat (first | ((with_reducible show ∃ _, _ ∧ _); first | refine s_fI (by rfl) (by rfl) (by rfl) ?_ | refine s_fR (by rfl) (by rfl) (by rfl) ?_ | refine s_pV (by rfl) (by rfl) (Nat.le_of_ble_eq_true rfl) (by rfl) ?_) | ((with_reducible show xcls _ _ _ ∧ _); refine s_cls (by rfl) (by rfl) ?_))
      refine s_sI (i := k) (by rfl) (by rfl) (by rfl) (by rfl) (by rfl) (by omega) (by decide) ?_
      repeat (first | ((with_reducible show ∃ _, _ ∧ _); first | refine s_fI (by rfl) (by rfl) (by rfl) ?_ | refine s_fR (by rfl) (by rfl) (by rfl) ?_ | refine s_pV (by rfl) (by rfl) (Nat.le_of_ble_eq_true rfl) (by rfl) ?_) | ((with_reducible show xcls _ _ _ ∧ _); refine s_cls (by rfl) (by rfl) ?_))
      refine m_literal (r := .error (c, q)) hT (hE.row (Or.inl ⟨by decide, by decide, Nat.zero_le _⟩)) (fun _ _ _ hh => by cases hh) (fun F6 y6 h7 _ => ?_)
      have h7 : EM n F0 F6 c q := h7
      refine s_sI (i := 300 + k) (by rfl) (by rfl) (by rfl) (by rfl) (by exact n_add 300 k) (by omega) (by decide) ?_
      exact last c q _ (h7.row (Or.inl ⟨by decide, by decide, by show 300 ≤ 300 + k; omega⟩)) hr
    repeat (first | ((with_reducible show ∃ _, _ ∧ _); first | refine s_fI (by rfl) (by rfl) (by rfl) ?_ | refine s_fR (by rfl) (by rfl) (by rfl) ?_ | refine s_pV (by rfl) (by rfl) (Nat.le_of_ble_eq_true rfl) (by rfl) ?_) | ((with_reducible show xcls _ _ _ ∧ _); refine s_cls (by rfl) (by rfl) ?_))
    refine m_defines (r := .ok (S4, p4, v4)) (kind := 3) hT h4 (fun S' p' v' hh => by obtain ⟨rfl, _⟩ := ok_inj hh; exact ⟨hB4.1, hB4.2.1, hB4.2.2.1⟩) (fun F5 y h5 hy => ?_)
    rw [bi_ok] at h5 hy
    refine s_sI (i := 300 + k) (by rfl) (by rfl) (by rfl) (by rfl) (by exact n_add 300 k) (by omega) (by decide) ?_
    have h6 := MX_put (rr := 12) (i := k) (c := 300 + k) (x := fun v => v / 2) (y := y) h5 (by decide) rfl (by omega) rfl (by decide) (fun S' p' v' hh => by rw [hy S' p' v' hh]; exact VM_even (Or.inr (Or.inr rfl)) (deA_ok hh).2.2.2.1)
    repeat (first | ((with_reducible show ∃ _, _ ∧ _); first | refine s_fI (by rfl) (by rfl) (by rfl) ?_ | refine s_fR (by rfl) (by rfl) (by rfl) ?_ | refine s_pV (by rfl) (by rfl) (Nat.le_of_ble_eq_true rfl) (by rfl) ?_) | ((with_reducible show xcls _ _ _ ∧ _); refine s_cls (by rfl) (by rfl) ?_))
    refine m_take (c := 32) hT h6 (by decide) (fun F6 h7 => ?_)
    rw [bi_bi] at h7
    -- the left operand
    unfold anA at fin last right
    match hr5 : deA b 3 S4 p4, h7, fin, last, right with
    | .error (c, q), h7, fin, last, right =>
      have hE : EM n F0 F6 c q := h7
      obtain ⟨pp, hpp, hh6⟩ := hE.2.1
      repeat (first | ((with_reducible show ∃ _, _ ∧ _); first | refine s_fI (by rfl) (by rfl) (by rfl) ?_ | refine s_fR (by rfl) (by rfl) (by rfl) ?_ | refine s_pV (by rfl) (by rfl) (Nat.le_of_ble_eq_true rfl) (by rfl) ?_) | ((with_reducible show xcls _ _ _ ∧ _); refine s_cls (by rfl) (by rfl) ?_))
      refine s_sI (i := k) (by rfl) (by rfl) (by rfl) (by rfl) (by rfl) (by omega) (by decide) ?_
      repeat (first | ((with_reducible show ∃ _, _ ∧ _); first | refine s_fI (by rfl) (by rfl) (by rfl) ?_ | refine s_fR (by rfl) (by rfl) (by rfl) ?_ | refine s_pV (by rfl) (by rfl) (Nat.le_of_ble_eq_true rfl) (by rfl) ?_) | ((with_reducible show xcls _ _ _ ∧ _); refine s_cls (by rfl) (by rfl) ?_))
      refine m_literal (r := .error (c, q)) hT (hE.row (Or.inl ⟨by decide, by decide, Nat.zero_le _⟩)) (fun _ _ _ hh => by cases hh) (fun F7 y7 h8 _ => ?_)
      have h8 : EM n F0 F7 c q := h8
      refine s_sI (i := 300 + k) (by rfl) (by rfl) (by rfl) (by rfl) (by exact n_add 300 k) (by omega) (by decide) ?_
      repeat (first | ((with_reducible show ∃ _, _ ∧ _); first | refine s_fI (by rfl) (by rfl) (by rfl) ?_ | refine s_fR (by rfl) (by rfl) (by rfl) ?_ | refine s_pV (by rfl) (by rfl) (Nat.le_of_ble_eq_true rfl) (by rfl) ?_) | ((with_reducible show xcls _ _ _ ∧ _); refine s_cls (by rfl) (by rfl) ?_))
      refine m_take (c := 32) (r := .error (c, q)) hT (h8.row (Or.inl ⟨by decide, by decide, by show 300 ≤ 300 + k; omega⟩)) (by decide) (fun F8 h9 => ?_)
      exact right c q F8 h9 rfl
    | .ok (S5, p5, v5), h7, fin, last, right =>
      have hB5 := deA_BI (by decide) hB4 hr5
      rw [bi_ok] at h7 fin last right
      rw [bi_ok] at h7
      match hr6 : psA b 32 (st S5 12 k (v5 / 2)) p5, h7, fin, last, right with
      | .error (c, q), h7, fin, last, right =>
        have hE : EM n F0 F6 c q := h7
        repeat (first | ((with_reducible show ∃ _, _ ∧ _); first | refine s_fI (by rfl) (by rfl) (by rfl) ?_ | refine s_fR (by rfl) (by rfl) (by rfl) ?_ | refine s_pV (by rfl) (by rfl) (Nat.le_of_ble_eq_true rfl) (by rfl) ?_) | ((with_reducible show xcls _ _ _ ∧ _); refine s_cls (by rfl) (by rfl) ?_))
        refine s_sI (i := k) (by rfl) (by rfl) (by rfl) (by rfl) (by rfl) (by omega) (by decide) ?_
        repeat (first | ((with_reducible show ∃ _, _ ∧ _); first | refine s_fI (by rfl) (by rfl) (by rfl) ?_ | refine s_fR (by rfl) (by rfl) (by rfl) ?_ | refine s_pV (by rfl) (by rfl) (Nat.le_of_ble_eq_true rfl) (by rfl) ?_) | ((with_reducible show xcls _ _ _ ∧ _); refine s_cls (by rfl) (by rfl) ?_))
        refine m_literal (r := .error (c, q)) hT (hE.row (Or.inl ⟨by decide, by decide, Nat.zero_le _⟩)) (fun _ _ _ hh => by cases hh) (fun F7 y7 h8 _ => ?_)
        have h8 : EM n F0 F7 c q := h8
        refine s_sI (i := 300 + k) (by rfl) (by rfl) (by rfl) (by rfl) (by exact n_add 300 k) (by omega) (by decide) ?_
        repeat (first | ((with_reducible show ∃ _, _ ∧ _); first | refine s_fI (by rfl) (by rfl) (by rfl) ?_ | refine s_fR (by rfl) (by rfl) (by rfl) ?_ | refine s_pV (by rfl) (by rfl) (Nat.le_of_ble_eq_true rfl) (by rfl) ?_) | ((with_reducible show xcls _ _ _ ∧ _); refine s_cls (by rfl) (by rfl) ?_))
        refine m_take (c := 32) (r := .error (c, q)) hT (h8.row (Or.inl ⟨by decide, by decide, by show 300 ≤ 300 + k; omega⟩)) (by decide) (fun F8 h9 => ?_)
        exact right c q F8 h9 rfl
      | .ok (S6, p6, v6), h7, fin, last, right =>
        have hS6 := (psA_ok hr6).1
        have hB6 : BI S6 (S 0 2 + S 0 3 + 2 * k) := by rw [hS6]; exact hB5.st (by decide)
        have h7 : MS n F0 F6 S6 p6 := h7
        rw [bi_ok] at fin last right
        repeat (first | ((with_reducible show ∃ _, _ ∧ _); first | refine s_fI (by rfl) (by rfl) (by rfl) ?_ | refine s_fR (by rfl) (by rfl) (by rfl) ?_ | refine s_pV (by rfl) (by rfl) (Nat.le_of_ble_eq_true rfl) (by rfl) ?_) | ((with_reducible show xcls _ _ _ ∧ _); refine s_cls (by rfl) (by rfl) ?_))
        rw [h7.2.1]
        refine s_sI (i := k) (by rfl) (by rfl) (by rfl) (by rfl) (by rfl) (by omega) (by decide) ?_
        repeat (first | ((with_reducible show ∃ _, _ ∧ _); first | refine s_fI (by rfl) (by rfl) (by rfl) ?_ | refine s_fR (by rfl) (by rfl) (by rfl) ?_ | refine s_pV (by rfl) (by rfl) (Nat.le_of_ble_eq_true rfl) (by rfl) ?_) | ((with_reducible show xcls _ _ _ ∧ _); refine s_cls (by rfl) (by rfl) ?_))
        refine m_useAt (rp := 33) (r3 := 13) hT h7 hB6.1 rfl (by decide) rfl rfl (by decide) (by decide) hk150 (fun F7 y7 h8 h9 => ?_)
        refine s_sI (i := 300 + k) (by rfl) (by rfl) (by rfl) (by rfl) (by exact n_add 300 k) (by omega) (by decide) ?_
        have h10 := h9 _ rfl
        generalize up F7 116 (300 + k) y7 = F8 at h10
        have h11 : MX n F0 F8 (opA b 6 13 33 (v5 / 2) k S6 p6) := by
          unfold opA
          match hr7 : usA b S6 p6, h10 with
          | .error (c, q), h10 => exact h10
          | .ok (S7, p7, v7), h10 =>
            rw [bi_ok] at h10 ⊢
            have h10 : MS n F0 F8 (st (st S7 13 k v7) 33 k p6) p7 := h10
            have := h10.skip (r := 6) (i := v5 / 2) (x := v7) (by decide) rfl
            rw [← st_comm (r := 6) (r' := 33) (by decide) (by decide) (by decide), ← st_comm (r := 6) (r' := 13) (by decide) (by decide) (by decide)] at this
            exact this
        repeat (first | ((with_reducible show ∃ _, _ ∧ _); first | refine s_fI (by rfl) (by rfl) (by rfl) ?_ | refine s_fR (by rfl) (by rfl) (by rfl) ?_ | refine s_pV (by rfl) (by rfl) (Nat.le_of_ble_eq_true rfl) (by rfl) ?_) | ((with_reducible show xcls _ _ _ ∧ _); refine s_cls (by rfl) (by rfl) ?_))
        refine m_take (c := 32) hT h11 (by decide) (fun F9 h12 => ?_)
        match hr8 : opA b 6 13 33 (v5 / 2) k S6 p6, h12, fin, last, right with
        | .error (c, q), h12, fin, last, right => exact right c q F9 h12 rfl
        | .ok (S8, p8, v8), h12, fin, last, right =>
          have hB8 := opA_BI hB6 (Or.inl ⟨rfl, rfl, rfl⟩) hr8
          rw [bi_ok] at h12 fin last right
          match hr9 : psA b 32 S8 p8, h12, fin, last, right with
          | .error (c, q), h12, fin, last, right => exact right c q F9 h12 rfl
          | .ok (S9, p9, v9), h12, fin, last, right =>
            have hS9 := (psA_ok hr9).1
            have hB9 : BI S9 (S 0 2 + S 0 3 + 2 * k + 1) := by rw [hS9]; exact hB8
            have h12 : MS n F0 F9 S9 p9 := h12
            rw [bi_ok] at fin last
            repeat (first | ((with_reducible show ∃ _, _ ∧ _); first | refine s_fI (by rfl) (by rfl) (by rfl) ?_ | refine s_fR (by rfl) (by rfl) (by rfl) ?_ | refine s_pV (by rfl) (by rfl) (Nat.le_of_ble_eq_true rfl) (by rfl) ?_) | ((with_reducible show xcls _ _ _ ∧ _); refine s_cls (by rfl) (by rfl) ?_))
            rw [h12.2.1]
            refine s_sI (i := k) (by rfl) (by rfl) (by rfl) (by rfl) (by rfl) (by omega) (by decide) ?_
            repeat (first | ((with_reducible show ∃ _, _ ∧ _); first | refine s_fI (by rfl) (by rfl) (by rfl) ?_ | refine s_fR (by rfl) (by rfl) (by rfl) ?_ | refine s_pV (by rfl) (by rfl) (Nat.le_of_ble_eq_true rfl) (by rfl) ?_) | ((with_reducible show xcls _ _ _ ∧ _); refine s_cls (by rfl) (by rfl) ?_))
            refine m_useAt (rp := 34) (r3 := 14) hT h12 hB9.1 rfl (by decide) rfl rfl (by decide) (by decide) hk150 (fun FA yA hA1 hA2 => ?_)
            refine s_sI (i := 300 + k) (by rfl) (by rfl) (by rfl) (by rfl) (by exact n_add 300 k) (by omega) (by decide) ?_
            have hA3 := hA2 _ rfl
            generalize up FA 117 (300 + k) yA = FB at hA3
            have hA4 : MX n F0 FB (opA b 7 14 34 (v5 / 2) k S9 p9) := by
              unfold opA
              match hr7 : usA b S9 p9, hA3 with
              | .error (c, q), hA3 => exact hA3
              | .ok (S7, p7, v7), hA3 =>
                rw [bi_ok] at hA3 ⊢
                have hA3 : MS n F0 FB (st (st S7 14 k v7) 34 k p9) p7 := hA3
                have := hA3.skip (r := 7) (i := v5 / 2) (x := v7) (by decide) rfl
                rw [← st_comm (r := 7) (r' := 34) (by decide) (by decide) (by decide), ← st_comm (r := 7) (r' := 14) (by decide) (by decide) (by decide)] at this
                exact this
            repeat (first | ((with_reducible show ∃ _, _ ∧ _); first | refine s_fI (by rfl) (by rfl) (by rfl) ?_ | refine s_fR (by rfl) (by rfl) (by rfl) ?_ | refine s_pV (by rfl) (by rfl) (Nat.le_of_ble_eq_true rfl) (by rfl) ?_) | ((with_reducible show xcls _ _ _ ∧ _); refine s_cls (by rfl) (by rfl) ?_))
            exact m_take (c := 10) hT hA4 (by decide) (fun FC hC => fin FC hC)
  · have a0 := anA_0 hr
    exact ⟨anA_BI hP.1 hr, by rw [a0.1]; exact hP.2.1, by rw [a0.2]; exact hP.2.2⟩
  · match r3, g3, h4 with
    | .error e, g3, h4 => exact h4
    | .ok (S3, p3, v3), g3, h4 =>
      obtain ⟨c1, c2, c3⟩ := g3 _ _ _ rfl
      rw [bi_ok] at h4 ⊢
      unfold a0A
      rw [if_pos (by rw [c3]; exact h30), show S3 0 4 = S 0 4 by rw [c2]]
      exact h4
end
