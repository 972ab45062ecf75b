/-! The reference: what is defined nowhere; ORDER; rings. -/
def NW (F F2 : Nat → Nat → Int32) (r : RS) : Prop := (∀ k, k ≠ 100 → F2 k = F k) ∧ (∀ j, j ≠ 7 → j ≠ 8 → F2 100 j = F 100 j) ∧ match r with
  | .error (c, q) => F2 100 7 = Int32.ofNat c ∧ F2 100 8 = Int32.ofNat q ∧ 1 ≤ c ∧ c ≤ 6
  | .ok _ => F2 100 7 = 0 ∧ F2 100 8 = -1
section
variable {e : xenv} {w : Bool} {L : Nat → Nat → Int64} {g : xh} {z : Nat → Nat} {b : Nat → Nat} {n : Nat} {F0 F F' F2 : Nat → Nat → Int32} {S S' : RW} {p q s nu : Nat} {Q : xh → Prop} {Qi : Int32 → xh → Prop} {r : RS}
theorem fuA_snoc : ∀ m i, fuA S p (m + 1) i = bi (fuA S p m i) (fun _ _ _ => if S 19 (i + m) < 2 ∨ S 8 (S 19 (i + m) / 2) ≠ 0 then .ok (S, p, 0) else .error (5, S 20 (i + m)))
  | 0, i => rfl
  | m + 1, i => by
    have ih := fuA_snoc m (i + 1)
    show (if S 19 i < 2 ∨ S 8 (S 19 i / 2) ≠ 0 then fuA S p (m + 1) (i + 1) else Except.error (5, S 20 i)) = bi (if S 19 i < 2 ∨ S 8 (S 19 i / 2) ≠ 0 then fuA S p m (i + 1) else Except.error (5, S 20 i)) _
    by_cases hd : S 19 i < 2 ∨ S 8 (S 19 i / 2) ≠ 0
    · rw [if_pos hd, if_pos hd, ih, show i + 1 + m = i + (m + 1) by omega]
    · rw [if_neg hd, if_neg hd]; rfl
theorem NW.mx (h : MS n F0 F S p) (hw : NW F F2 r) (hr : ∀ S' p' v', r = .ok (S', p', v') → S' = S ∧ p' = p) : MX n F0 F2 r := by
  obtain ⟨h1, h2, h3⟩ := hw
  have hf : fM F0 F2 := ⟨fun k hk => by rw [h1 k (by omega)]; exact h.1.1 k hk, fun k j q1 q2 q3 => by rw [h1 k (by omega)]; exact h.1.2.1 k j q1 q2 q3, fun j q1 q2 => by rw [h2 j (by omega) (by omega)]; exact h.1.2.2 j q1 q2⟩
  match r, h3, hr with
  | .error (c, q), h3, hr => exact ⟨hf, ⟨p, h.2.2.1, by rw [h2 6 (by decide) (by decide)]; exact h.2.1⟩, ⟨h3.1, h3.2.2⟩, h3.2.1⟩
  | .ok (S', p', v'), h3, hr =>
    obtain ⟨rfl, rfl⟩ := hr _ _ _ rfl
    refine ⟨hf, by rw [h2 6 (by decide) (by decide)]; exact h.2.1, h.2.2.1, h3, RE.kept h.2.2.2.2 (fun r j hr hj => ?_)⟩
    rcases lyM_own r hr with hh | hh
    · omega
    · rw [h1 _ (by omega)]
/-- one literal is looked at -/
theorem m_nowhere1 {l pl : Nat} {P : xh → Prop} {o : Nat} {x : Int32} (h : MS n F0 F S p) (hB : BI S nu) (hw : NW F F2 r) (hl : l ≤ 2 * S 0 0 + 1) (hpl : ¬ (l < 2 ∨ S 8 (l / 2) ≠ 0) → ∀ F3, NW F F3 r → ∃ o8, fR (mem e w F3 L g) (ad e 100) 12 o = some o8 ∧ ∀ P : Int32 → Prop, P (Int32.ofNat pl) → ∃ v9, aI (mem e w F3 L g) o8 0 x = some v9 ∧ P v9) (hP : ∀ F3, NW F F3 (bi r (fun S' p' v' => if l < 2 ∨ S 8 (l / 2) ≠ 0 then .ok (S', p', v') else .error (5, pl))) → P (mem e w F3 L g)) :
    wp_Model_isNowhere z (fun v6 h5 => (v6 = 0 → P h5) ∧ (¬ v6 = 0 → (∃ o8, fR h5 (ad e 100) 12 o = some o8 ∧ (∃ v9, aI h5 o8 0 x = some v9 ∧ (xcls h5 (ad e 100) 12 ∧ wp_Model_wrong z (fun h10 => P h10) (ad e 100) 5 v9 h5))))) (ad e 100) (Int32.ofNat l) (mem e w F2 L g) := by
  have hM := hB.1.1.1
  unfold wp_Model_isNowhere
  have fine : (l < 2 ∨ S 8 (l / 2) ≠ 0) → P (mem e w F2 L g) := fun hd => hP F2 (by
    match r, hw with
    | .error e, hw => exact hw
    | .ok (S', p', v'), hw => rw [bi_ok, if_pos hd]; exact hw)
  refine ⟨fun h1 => ⟨fun _ => fine (Or.inl ?_), fun hh => absurd rfl hh⟩, fun h1 => ?_⟩
  · rw [show (1 : Int32) = Int32.ofNat 1 from rfl, n_le (by omega) (by decide)] at h1
    omega
  rw [show (1 : Int32) = Int32.ofNat 1 from rfl, n_le (by omega) (by decide)] at h1
  repeat (first | ((with_reducible show ∃ _, _ ∧ _); first | refine s_fI (by rfl) (by rfl) (by rfl) ?_ | refine s_fR (by rfl) (by rfl) (by rfl) ?_ | refine s_pV (by rfl) (by rfl) (Nat.le_of_ble_eq_true rfl) (by rfl) ?_) | ((with_reducible show xcls _ _ _ ∧ _); refine s_cls (by rfl) (by rfl) ?_))
  rw [n_half (by omega)]
  refine s_aI (i := 402 + l / 2) (by rfl) (by rfl) (by rfl) (by exact n_add 402 _) (by omega) (by decide) ?_
  rw [hw.1 118 (by decide), show F 118 (402 + l / 2) = Int32.ofNat (S 8 (l / 2)) from h.at (r := 8) (j := l / 2) (by decide) rfl (by omega) (hB.2.1 _ (by omega)) rfl]
  have h83 := hB.2.2.1 (l / 2)
  rw [show (0 : Int32) = Int32.ofNat 0 from rfl, n_eq (by omega) (by decide)]
  refine ⟨fun hne => ⟨fun _ => fine (Or.inr hne), fun hh => absurd rfl hh⟩, fun h0 => ⟨fun hh => absurd hh (by decide), fun _ => ?_⟩⟩
  have hnd : ¬ (l < 2 ∨ S 8 (l / 2) ≠ 0) := by omega
  obtain ⟨o8, ho8, hv9⟩ := hpl hnd F2 hw
  refine ⟨o8, ho8, hv9 _ ?_⟩
  repeat (first | ((with_reducible show ∃ _, _ ∧ _); first | refine s_fI (by rfl) (by rfl) (by rfl) ?_ | refine s_fR (by rfl) (by rfl) (by rfl) ?_ | refine s_pV (by rfl) (by rfl) (Nat.le_of_ble_eq_true rfl) (by rfl) ?_) | ((with_reducible show xcls _ _ _ ∧ _); refine s_cls (by rfl) (by rfl) ?_))
  unfold wp_Model_wrong
  repeat (first | ((with_reducible show ∃ _, _ ∧ _); first | refine s_fI (by rfl) (by rfl) (by rfl) ?_ | refine s_fR (by rfl) (by rfl) (by rfl) ?_ | refine s_pV (by rfl) (by rfl) (Nat.le_of_ble_eq_true rfl) (by rfl) ?_) | ((with_reducible show xcls _ _ _ ∧ _); refine s_cls (by rfl) (by rfl) ?_))
  match r, hw, hP with
  | .error (c, q), hw, hP =>
    obtain ⟨w1, w2, w3, w4, w5, w6⟩ := hw
    rw [w3, show (0 : Int32) = Int32.ofNat 0 from rfl, n_le (by omega) (by decide)]
    exact ⟨fun hh => by omega, fun _ => hP F2 ⟨w1, w2, w3, w4, w5, w6⟩⟩
  | .ok (S', p', v'), hw, hP =>
    obtain ⟨w1, w2, w3, w4⟩ := hw
    rw [w3]
    refine ⟨fun _ => ?_, fun hh => absurd (show (0 : Int32) ≤ 0 by decide) hh⟩
    repeat (first | ((with_reducible show ∃ _, _ ∧ _); first | refine s_fI (by rfl) (by rfl) (by rfl) ?_ | refine s_fR (by rfl) (by rfl) (by rfl) ?_ | refine s_pV (by rfl) (by rfl) (Nat.le_of_ble_eq_true rfl) (by rfl) ?_) | ((with_reducible show xcls _ _ _ ∧ _); refine s_cls (by rfl) (by rfl) ?_))
    refine hP _ ⟨fun k hk => by rw [up_k hk, up_k hk]; exact w1 k hk, fun j q1 q2 => by rw [up_i, if_neg q2, up_i, if_neg q1]; exact w2 j q1 q2, ?_⟩
    rw [bi_ok, if_neg hnd]
    exact ⟨by rw [up_i, if_neg (by decide), up_i, if_pos rfl]; rfl, by rw [up_i, if_pos rfl], by decide, by decide⟩
theorem m_nowhere (h : MS n F0 F S p) (hF : FG S) (hQ : ∀ F', MX n F0 F' (fuA S p (S 32 0) 0) → Q (mem e w F' L g)) : wp_Model_findNowhere z Q (ad e 100) (mem e w F L g) := by
  obtain ⟨hB, hK, hN, hLI, hA1, hor⟩ := hF
  obtain ⟨f0, f1, f2, f3, f4, f5⟩ := hB.1.1
  have hlo : S 0 2 + S 0 3 ≤ S 32 0 := by rcases hor with ⟨_, _, hh⟩ | ⟨_, hh, _⟩ <;> omega
  have sz : ∀ F2 r, NW F F2 r → ∀ j, j < 5 → F2 110 (10 + j) = Int32.ofNat (S 0 j) := fun F2 r hw j hj => by rw [hw.1 110 (by decide)]; exact h.size hB.1 hj
  have fu_ok : ∀ m S' p' v', fuA S p m 0 = .ok (S', p', v') → S' = S ∧ p' = p := fun m S' p' v' hh => by
    obtain ⟨h1, h2, _⟩ := fuA_ok m 0 hh
    exact ⟨h1, h2⟩
  have fin : ∀ F2, NW F F2 (fuA S p (S 32 0) 0) → Q (mem e w F2 L g) := fun F2 hw => hQ F2 (NW.mx h hw (fun S' p' v' hh => fu_ok _ S' p' v' hh))
  unfold wp_Model_findNowhere wp_Model_findNowhere_2
  refine xloop_dn (fun m a => ∃ k F2, m = S 0 2 - k ∧ k ≤ S 0 2 ∧ a = (ad e 100, Int32.ofNat k, mem e w F2 L g) ∧ NW F F2 (fuA S p k 0)) ?_ (S 0 2) _ ⟨0, F, rfl, Nat.zero_le _, rfl, fun _ _ => rfl, fun _ _ _ => rfl, h.2.2.2.1⟩
  rintro m a cc ⟨k, F2, rfl, hk1, rfl, hw⟩ hk
  unfold wp_Model_findNowhere_2_b; dsimp only
  repeat (first | ((with_reducible show ∃ _, _ ∧ _); first | refine s_fI (by rfl) (by rfl) (by rfl) ?_ | refine s_fR (by rfl) (by rfl) (by rfl) ?_ | refine s_pV (by rfl) (by rfl) (Nat.le_of_ble_eq_true rfl) (by rfl) ?_) | ((with_reducible show xcls _ _ _ ∧ _); refine s_cls (by rfl) (by rfl) ?_))
  refine s_aI (i := 12) (by rfl) (by rfl) (by rfl) (by rfl) (by decide) (by decide) ?_
  rw [show F2 110 12 = Int32.ofNat (S 0 2) from sz F2 _ hw 2 (by decide)]
  refine ⟨fun hc => ?_, fun hc => ?_⟩ <;> rw [n_le (by omega) (by omega)] at hc
  rotate_left
  · have hkL : k < S 0 2 := by omega
    obtain ⟨m1, m2, e1, e2⟩ := hN.1 k hkL
    repeat (first | ((with_reducible show ∃ _, _ ∧ _); first | refine s_fI (by rfl) (by rfl) (by rfl) ?_ | refine s_fR (by rfl) (by rfl) (by rfl) ?_ | refine s_pV (by rfl) (by rfl) (Nat.le_of_ble_eq_true rfl) (by rfl) ?_) | ((with_reducible show xcls _ _ _ ∧ _); refine s_cls (by rfl) (by rfl) ?_))
    refine s_aI (i := 14 + k) (by rfl) (by rfl) (by rfl) (by exact n_add 14 k) (by omega) (by decide) ?_
    rw [hw.1 113 (by decide), show F 113 (14 + k) = Int32.ofNat (S 3 k) from h.at (r := 3) (j := k) (by decide) rfl (by omega) m1 rfl]
    repeat (first | ((with_reducible show ∃ _, _ ∧ _); first | refine s_fI (by rfl) (by rfl) (by rfl) ?_ | refine s_fR (by rfl) (by rfl) (by rfl) ?_ | refine s_pV (by rfl) (by rfl) (Nat.le_of_ble_eq_true rfl) (by rfl) ?_) | ((with_reducible show xcls _ _ _ ∧ _); refine s_cls (by rfl) (by rfl) ?_))
    refine m_nowhere1 (l := S 3 k) (pl := S 23 k) h hB hw (by rw [e1]; exact (hLI k (by omega)).2.2) (fun _ F3 hw3 => ?_) (fun F3 hw3 => ?_)
    · (first | ((with_reducible show ∃ _, _ ∧ _); first | refine s_fI (by rfl) (by rfl) (by rfl) ?_ | refine s_fR (by rfl) (by rfl) (by rfl) ?_ | refine s_pV (by rfl) (by rfl) (Nat.le_of_ble_eq_true rfl) (by rfl) ?_) | ((with_reducible show xcls _ _ _ ∧ _); refine s_cls (by rfl) (by rfl) ?_))
      intro P hP
      refine s_aI (i := k) (by rfl) (by rfl) (by rfl) (by rfl) (by omega) (by decide) ?_
      rw [hw3.1 120 (by decide), show F 120 k = Int32.ofNat (S 23 k) from h.at (r := 23) (j := k) (by decide) rfl (by omega) m2 (by omega)]
      exact hP
    · unfold wp_Model_findNowhere_40
      refine hk (S 0 2 - (k + 1)) _ (by omega) ⟨k + 1, F3, rfl, by omega, by rw [n_inc], ?_⟩
      rw [fuA_snoc, Nat.zero_add]
      rw [e1, e2] at hw3
      match hr : fuA S p k 0, hw3 with
      | .error e, hw3 => exact hw3
      | .ok (S', p', v'), hw3 =>
        rw [bi_ok] at hw3 ⊢
        by_cases hd : S 19 k < 2 ∨ S 8 (S 19 k / 2) ≠ 0
        · rw [if_pos hd] at hw3 ⊢; exact hw3
        · rw [if_neg hd] at hw3 ⊢; exact hw3
  clear hk
  have hk2 : k = S 0 2 := by omega
  subst hk2
  unfold wp_Model_findNowhere_48
  refine xloop_dn (fun m a => ∃ k F2, m = S 0 3 - k ∧ k ≤ S 0 3 ∧ a = (ad e 100, Int32.ofNat k, mem e w F2 L g) ∧ NW F F2 (fuA S p (S 0 2 + k) 0)) ?_ (S 0 3) _ ⟨0, F2, rfl, Nat.zero_le _, rfl, hw⟩
  rintro m a cc ⟨k, F3, rfl, hk1', rfl, hw3⟩ hk
  unfold wp_Model_findNowhere_48_b; dsimp only
  repeat (first | ((with_reducible show ∃ _, _ ∧ _); first | refine s_fI (by rfl) (by rfl) (by rfl) ?_ | refine s_fR (by rfl) (by rfl) (by rfl) ?_ | refine s_pV (by rfl) (by rfl) (Nat.le_of_ble_eq_true rfl) (by rfl) ?_) | ((with_reducible show xcls _ _ _ ∧ _); refine s_cls (by rfl) (by rfl) ?_))
  refine s_aI (i := 13) (by rfl) (by rfl) (by rfl) (by rfl) (by decide) (by decide) ?_
  rw [show F3 110 13 = Int32.ofNat (S 0 3) from sz F3 _ hw3 3 (by decide)]
  refine ⟨fun hc => ?_, fun hc => ?_⟩ <;> rw [n_le (by omega) (by omega)] at hc
  rotate_left
  · have hkL : k < S 0 3 := by omega
    obtain ⟨m1, m2, e1, e2⟩ := hN.2 k hkL
    repeat (first | ((with_reducible show ∃ _, _ ∧ _); first | refine s_fI (by rfl) (by rfl) (by rfl) ?_ | refine s_fR (by rfl) (by rfl) (by rfl) ?_ | refine s_pV (by rfl) (by rfl) (Nat.le_of_ble_eq_true rfl) (by rfl) ?_) | ((with_reducible show xcls _ _ _ ∧ _); refine s_cls (by rfl) (by rfl) ?_))
    refine s_aI (i := 16 + k) (by rfl) (by rfl) (by rfl) (by exact n_add 16 k) (by omega) (by decide) ?_
    rw [hw3.1 114 (by decide), show F 114 (16 + k) = Int32.ofNat (S 4 k) from h.at (r := 4) (j := k) (by decide) rfl (by omega) m1 rfl]
    repeat (first | ((with_reducible show ∃ _, _ ∧ _); first | refine s_fI (by rfl) (by rfl) (by rfl) ?_ | refine s_fR (by rfl) (by rfl) (by rfl) ?_ | refine s_pV (by rfl) (by rfl) (Nat.le_of_ble_eq_true rfl) (by rfl) ?_) | ((with_reducible show xcls _ _ _ ∧ _); refine s_cls (by rfl) (by rfl) ?_))
    refine m_nowhere1 (l := S 4 k) (pl := S 24 k) h hB hw3 (by rw [e1]; exact (hLI _ (by omega)).2.2) (fun _ F4 hw4 => ?_) (fun F4 hw4 => ?_)
    · (first | ((with_reducible show ∃ _, _ ∧ _); first | refine s_fI (by rfl) (by rfl) (by rfl) ?_ | refine s_fR (by rfl) (by rfl) (by rfl) ?_ | refine s_pV (by rfl) (by rfl) (Nat.le_of_ble_eq_true rfl) (by rfl) ?_) | ((with_reducible show xcls _ _ _ ∧ _); refine s_cls (by rfl) (by rfl) ?_))
      intro P hP
      refine s_aI (i := k) (by rfl) (by rfl) (by rfl) (by rfl) (by omega) (by decide) ?_
      rw [hw4.1 121 (by decide), show F 121 k = Int32.ofNat (S 24 k) from h.at (r := 24) (j := k) (by decide) rfl (by omega) m2 (by omega)]
      exact hP
    · unfold wp_Model_findNowhere_86
      refine hk (S 0 3 - (k + 1)) _ (by omega) ⟨k + 1, F4, rfl, by omega, by rw [n_inc], ?_⟩
      rw [show S 0 2 + (k + 1) = S 0 2 + k + 1 by omega, fuA_snoc, Nat.zero_add]
      rw [e1, e2] at hw4
      match hr : fuA S p (S 0 2 + k) 0, hw4 with
      | .error e, hw4 => exact hw4
      | .ok (S', p', v'), hw4 =>
        rw [bi_ok] at hw4 ⊢
        by_cases hd : S 19 (S 0 2 + k) < 2 ∨ S 8 (S 19 (S 0 2 + k) / 2) ≠ 0
        · rw [if_pos hd] at hw4 ⊢; exact hw4
        · rw [if_neg hd] at hw4 ⊢; exact hw4
  clear hk
  have hk3 : k = S 0 3 := by omega
  subst hk3
  -- the ands: dk of their literals have been looked at
  obtain ⟨dk, hdk0, hdkA, hstep⟩ : ∃ dk : Nat → Nat, dk 0 = S 0 2 + S 0 3 ∧ dk (S 0 4) = S 32 0 ∧ ∀ k, k < S 0 4 → (dk (k + 1) = dk k + 2 ∧ S 13 k = S 19 (dk k) ∧ S 14 k = S 19 (dk k + 1) ∧ S 33 k = S 20 (dk k) ∧ S 34 k = S 20 (dk k + 1) ∧ S 133 k = 1 ∧ S 134 k = 1) ∨ (dk (k + 1) = dk k ∧ (S 13 k < 2 ∨ S 8 (S 13 k / 2) ≠ 0) ∧ (S 14 k < 2 ∨ S 8 (S 14 k / 2) ≠ 0)) := by
    rcases hor with ⟨_, h2, h3⟩ | ⟨_, h2, h3⟩
    · refine ⟨fun k => S 0 2 + S 0 3 + 2 * k, by show S 0 2 + S 0 3 + 2 * 0 = _; omega, by show S 0 2 + S 0 3 + 2 * S 0 4 = _; omega, fun k hk => Or.inl ?_⟩
      obtain ⟨a1, a2, a3, a4, a5, a6⟩ := h2 k hk
      exact ⟨by show S 0 2 + S 0 3 + 2 * (k + 1) = S 0 2 + S 0 3 + 2 * k + 2; omega, a3, a4, a5, a6, a1, a2⟩
    · refine ⟨fun _ => S 0 2 + S 0 3, rfl, h2.symm, fun k hk => Or.inr ⟨rfl, ?_, ?_⟩⟩
      · obtain ⟨_, _, _, _, _, _, l1, l2⟩ := hA1 k hk
        by_cases hh : S 13 k < 2
        · exact Or.inl hh
        · exact Or.inr (h3 _ (by omega) (by omega))
      · obtain ⟨_, _, _, _, _, _, l1, l2⟩ := hA1 k hk
        by_cases hh : S 14 k < 2
        · exact Or.inl hh
        · exact Or.inr (h3 _ (by omega) (by omega))
  rw [← hdk0] at hw3
  unfold wp_Model_findNowhere_94
  refine xloop_dn (fun m a => ∃ k F2, m = S 0 4 - k ∧ k ≤ S 0 4 ∧ a = (ad e 100, Int32.ofNat k, mem e w F2 L g) ∧ NW F F2 (fuA S p (dk k) 0)) ?_ (S 0 4) _ ⟨0, F3, rfl, Nat.zero_le _, rfl, hw3⟩
  rintro m a cc ⟨k, F4, rfl, hk1'', rfl, hw4⟩ hk
  unfold wp_Model_findNowhere_94_b; dsimp only
  repeat (first | ((with_reducible show ∃ _, _ ∧ _); first | refine s_fI (by rfl) (by rfl) (by rfl) ?_ | refine s_fR (by rfl) (by rfl) (by rfl) ?_ | refine s_pV (by rfl) (by rfl) (Nat.le_of_ble_eq_true rfl) (by rfl) ?_) | ((with_reducible show xcls _ _ _ ∧ _); refine s_cls (by rfl) (by rfl) ?_))
  refine s_aI (i := 14) (by rfl) (by rfl) (by rfl) (by rfl) (by decide) (by decide) ?_
  rw [show F4 110 14 = Int32.ofNat (S 0 4) from sz F4 _ hw4 4 (by decide)]
  refine ⟨fun hc => ?_, fun hc => ?_⟩ <;> rw [n_le (by omega) (by omega)] at hc
  · have : k = S 0 4 := by omega
    subst this
    rw [hdkA] at hw4
    exact fin F4 hw4
  have hkA : k < S 0 4 := by omega
  obtain ⟨_, _, m13, m14, _, _, l13, l14⟩ := hA1 k hkA
  -- the right literal
  have right : ∀ F5 r5, NW F F5 r5 → (∀ F6, NW F F6 (bi r5 (fun S' p' v' => if S 14 k < 2 ∨ S 8 (S 14 k / 2) ≠ 0 then .ok (S', p', v') else .error (5, S 34 k))) → cc (ad e 100, Int32.ofNat (k + 1), mem e w F6 L g)) → (¬ (S 14 k < 2 ∨ S 8 (S 14 k / 2) ≠ 0) → S 134 k = 1) → wp_Model_findNowhere_133 z Q cc (ad e 100) (Int32.ofNat k) (mem e w F5 L g) := by
    intro F5 r5 hw5 hgo hmk
    unfold wp_Model_findNowhere_133
    repeat (first | ((with_reducible show ∃ _, _ ∧ _); first | refine s_fI (by rfl) (by rfl) (by rfl) ?_ | refine s_fR (by rfl) (by rfl) (by rfl) ?_ | refine s_pV (by rfl) (by rfl) (Nat.le_of_ble_eq_true rfl) (by rfl) ?_) | ((with_reducible show xcls _ _ _ ∧ _); refine s_cls (by rfl) (by rfl) ?_))
    refine s_aI (i := 300 + k) (by rfl) (by rfl) (by rfl) (by exact n_add 300 k) (by omega) (by decide) ?_
    rw [hw5.1 117 (by decide), show F 117 (300 + k) = Int32.ofNat (S 14 k) from h.at (r := 14) (j := k) (by decide) rfl (by omega) m14 rfl]
    repeat (first | ((with_reducible show ∃ _, _ ∧ _); first | refine s_fI (by rfl) (by rfl) (by rfl) ?_ | refine s_fR (by rfl) (by rfl) (by rfl) ?_ | refine s_pV (by rfl) (by rfl) (Nat.le_of_ble_eq_true rfl) (by rfl) ?_) | ((with_reducible show xcls _ _ _ ∧ _); refine s_cls (by rfl) (by rfl) ?_))
    refine m_nowhere1 (l := S 14 k) (pl := S 34 k) h hB hw5 l14 (fun hnd F6 hw6 => ?_) (fun F6 hw6 => ?_)
    · (first | ((with_reducible show ∃ _, _ ∧ _); first | refine s_fI (by rfl) (by rfl) (by rfl) ?_ | refine s_fR (by rfl) (by rfl) (by rfl) ?_ | refine s_pV (by rfl) (by rfl) (Nat.le_of_ble_eq_true rfl) (by rfl) ?_) | ((with_reducible show xcls _ _ _ ∧ _); refine s_cls (by rfl) (by rfl) ?_))
      intro P hP
      refine s_aI (i := k) (by rfl) (by rfl) (by rfl) (by rfl) (by omega) (by decide) ?_
      rw [hw6.1 123 (by decide), show F 123 k = Int32.ofNat (S 34 k) from h.at (r := 34) (j := k) (by decide) rfl (by omega) (hmk hnd) (by omega)]
      exact hP
    · unfold wp_Model_findNowhere_161
      rw [n_inc]
      exact hgo F6 hw6
  repeat (first | ((with_reducible show ∃ _, _ ∧ _); first | refine s_fI (by rfl) (by rfl) (by rfl) ?_ | refine s_fR (by rfl) (by rfl) (by rfl) ?_ | refine s_pV (by rfl) (by rfl) (Nat.le_of_ble_eq_true rfl) (by rfl) ?_) | ((with_reducible show xcls _ _ _ ∧ _); refine s_cls (by rfl) (by rfl) ?_))
  refine s_aI (i := 300 + k) (by rfl) (by rfl) (by rfl) (by exact n_add 300 k) (by omega) (by decide) ?_
  rw [hw4.1 116 (by decide), show F 116 (300 + k) = Int32.ofNat (S 13 k) from h.at (r := 13) (j := k) (by decide) rfl (by omega) m13 rfl]
  repeat (first | ((with_reducible show ∃ _, _ ∧ _); first | refine s_fI (by rfl) (by rfl) (by rfl) ?_ | refine s_fR (by rfl) (by rfl) (by rfl) ?_ | refine s_pV (by rfl) (by rfl) (Nat.le_of_ble_eq_true rfl) (by rfl) ?_) | ((with_reducible show xcls _ _ _ ∧ _); refine s_cls (by rfl) (by rfl) ?_))
  refine m_nowhere1 (l := S 13 k) (pl := S 33 k) h hB hw4 l13 (fun hnd F5 hw5 => ?_) (fun F5 hw5 => ?_)
  · have m33 : S 133 k = 1 := by
      rcases hstep k hkA with hh | hh
      · exact hh.2.2.2.2.2.1
      · exact absurd hh.2.1 hnd
    (first | ((with_reducible show ∃ _, _ ∧ _); first | refine s_fI (by rfl) (by rfl) (by rfl) ?_ | refine s_fR (by rfl) (by rfl) (by rfl) ?_ | refine s_pV (by rfl) (by rfl) (Nat.le_of_ble_eq_true rfl) (by rfl) ?_) | ((with_reducible show xcls _ _ _ ∧ _); refine s_cls (by rfl) (by rfl) ?_))
    intro P hP
    refine s_aI (i := k) (by rfl) (by rfl) (by rfl) (by rfl) (by omega) (by decide) ?_
    rw [hw5.1 122 (by decide), show F 122 k = Int32.ofNat (S 33 k) from h.at (r := 33) (j := k) (by decide) rfl (by omega) m33 (by omega)]
    exact hP
  · refine right F5 _ hw5 (fun F6 hw6 => hk (S 0 4 - (k + 1)) _ (by omega) ⟨k + 1, F6, rfl, by omega, rfl, ?_⟩) (fun hnd => ?_)
    · rcases hstep k hkA with ⟨a1, a2, a3, a4, a5, a6, a7⟩ | ⟨a1, a2, a3⟩
      · rw [a1, show dk k + 2 = dk k + 1 + 1 by omega, fuA_snoc, fuA_snoc, Nat.zero_add, Nat.zero_add]
        rw [a2, a3, a4, a5] at hw6
        match hr : fuA S p (dk k) 0, hw6 with
        | .error e, hw6 => exact hw6
        | .ok (S', p', v'), hw6 =>
          rw [bi_ok] at hw6 ⊢
          by_cases hd : S 19 (dk k) < 2 ∨ S 8 (S 19 (dk k) / 2) ≠ 0
          · rw [if_pos hd, bi_ok] at hw6 ⊢
            by_cases hd2 : S 19 (dk k + 1) < 2 ∨ S 8 (S 19 (dk k + 1) / 2) ≠ 0
            · rw [if_pos hd2] at hw6 ⊢; exact hw6
            · rw [if_neg hd2] at hw6 ⊢; exact hw6
          · rw [if_neg hd] at hw6 ⊢; exact hw6
      · rw [a1]
        match hr : fuA S p (dk k) 0, hw6 with
        | .error e, hw6 => exact hw6
        | .ok (S', p', v'), hw6 =>
          rw [bi_ok, if_pos a2, bi_ok, if_pos a3] at hw6
          exact hw6
    · rcases hstep k hkA with hh | hh
      · exact hh.2.2.2.2.2.2
      · exact absurd hh.2.2 hnd
end
