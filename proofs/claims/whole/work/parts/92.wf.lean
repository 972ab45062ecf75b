/-! A file without a fault gives a circuit. -/
section
variable {b : Nat → Nat} {S S' : RW} {p q v nu k m i l c l' o a : Nat}
theorem nmA_rows {kd s : Nat} (hb : ∀ i, b i ≤ 256) : ∀ m S p i, nmA b kd s m S p i = .ok (S', q, v) → (∀ r, r ≠ 50 + kd → r ≠ 150 + kd → S' r = S r) ∧ (∀ x, x < 40 * s + i ∨ 40 * s + i + m ≤ x → S' (50 + kd) x = S (50 + kd) x ∧ S' (150 + kd) x = S (150 + kd) x) ∧ (∀ j, i ≤ j → j < v → S' (150 + kd) (40 * s + j) = 1 ∧ S' (50 + kd) (40 * s + j) < 256) ∧ i ≤ v ∧ v ≤ i + m
  | 0, S, p, i, h => by
    unfold nmA at h
    obtain ⟨rfl, rfl, rfl⟩ := ok_inj h
    exact ⟨fun _ _ _ => rfl, fun _ _ => ⟨rfl, rfl⟩, fun j h1 h2 => by omega, Nat.le_refl _, by omega⟩
  | m + 1, S, p, i, h => by
    unfold nmA at h
    by_cases hbb : b p = 256 ∨ b p = 10
    · rw [if_pos hbb] at h
      obtain ⟨rfl, rfl, rfl⟩ := ok_inj h
      exact ⟨fun _ _ _ => rfl, fun _ _ => ⟨rfl, rfl⟩, fun j h1 h2 => by omega, Nat.le_refl _, by omega⟩
    · rw [if_neg hbb] at h
      obtain ⟨h1, h2, h3, h4, h5⟩ := nmA_rows hb m _ _ _ h
      refine ⟨fun r q1 q2 => by rw [h1 r q1 q2, st_o q1 (by omega)], fun x hx => ?_, fun j q1 q2 => ?_, by omega, by omega⟩
      · rw [(h2 x (by omega)).1, (h2 x (by omega)).2, st_r, show 150 + kd = 50 + kd + 100 by omega, st_m, if_neg (by omega), if_neg (by omega)]; exact ⟨rfl, rfl⟩
      · by_cases e0 : j = i
        · rw [(h2 _ (by omega)).1, (h2 _ (by omega)).2, st_r, show 150 + kd = 50 + kd + 100 by omega, st_m, if_pos (by omega), if_pos (by omega)]
          have := hb p
          exact ⟨rfl, by omega⟩
        · exact h3 j (by omega) q2
theorem naA_T {kd s : Nat} (hb : ∀ i, b i ≤ 256) (hkd : kd < 3) (hs : s < 8) (hF : FG S) (hN : NM S) (h : naA b kd s S p = .ok (S', q, v)) : FG S' ∧ NM S' ∧ ∀ r, ¬ nmr r → S' r = S r := by
  have hBB := naA_BI hkd hF.1 h
  obtain ⟨S1, p1, v1, h1, h2⟩ := bi_split h
  obtain ⟨a1, a2, a3, a4, a5⟩ := nmA_rows hb 40 S p 0 h1
  by_cases h0 : v1 = 0
  · rw [if_pos h0] at h2; cases h2
  rw [if_neg h0] at h2
  obtain ⟨rfl, _⟩ := psA_ok h2
  have hrow : ∀ r, ¬ nmr r → st S1 (40 + kd) s v1 r = S r := fun r hr => by
    unfold nmr at hr
    rw [st_o (by omega) (by omega), a1 r (by omega) (by omega)]
  refine ⟨FG_rows hrow hBB.1 hF, fun kd' k' i' q1 q2 q3 => ?_, hrow⟩
  rw [st_o (r' := 150 + kd') (by omega) (by omega), st_o (r' := 50 + kd') (by omega) (by omega)]
  by_cases e0 : kd' = kd
  · subst e0
    rw [st_r] at q3
    by_cases e1 : k' = s
    · rw [if_pos e1] at q3
      rw [e1]; exact a3 i' (Nat.zero_le _) q3
    · rw [if_neg e1, a1 (40 + kd') (by omega) (by omega)] at q3
      have h40 := (hF.1.2.2.2.2 kd' k' hkd q2).2
      rw [(a2 (40 * k' + i') (by omega)).1, (a2 (40 * k' + i') (by omega)).2]
      exact hN kd' k' i' q1 q2 q3
  · rw [st_o (by omega) (by omega), a1 (40 + kd') (by omega) (by omega)] at q3
    rw [a1 (150 + kd') (by omega) (by omega), a1 (50 + kd') (by omega) (by omega)]
    exact hN kd' k' i' q1 q2 q3
theorem s1A_T {kd : Nat} (hb : ∀ i, b i ≤ 256) (hkd : kd < 3) (hF : FG S) (hN : NM S) (h : s1A b kd S p = .ok (S', q, v)) : FG S' ∧ NM S' ∧ ∀ r, ¬ nmr r → S' r = S r := by
  obtain ⟨S1, p1, v1, h1, h2⟩ := bi_split h
  obtain ⟨rfl, _, _⟩ := nuA_ok h1
  by_cases h0 : S1 0 (1 + kd) ≤ v1 ∨ S1 (40 + kd) v1 ≠ 0
  · rw [if_pos h0] at h2; cases h2
  · rw [if_neg h0] at h2
    obtain ⟨S3, p3, v3, h3, h4⟩ := bi_split h2
    obtain ⟨rfl, _⟩ := psA_ok h3
    have hf := (fit_sz hF.1.1.1 hkd).1
    have h8 : sz3 kd ≤ 8 := by unfold sz3; split; decide; split <;> decide
    exact naA_T hb hkd (by omega) hF hN h4
theorem smA_T (hb : ∀ i, b i ≤ 256) (hF : FG S) (hN : NM S) (h : smA b S p = .ok (S', q, v)) : FG S' ∧ NM S' ∧ ∀ r, ¬ nmr r → S' r = S r := by
  unfold smA at h
  split at h
  · exact s1A_T hb (by decide) hF hN h
  · split at h
    · exact s1A_T hb (by decide) hF hN h
    · split at h
      · exact s1A_T hb (by decide) hF hN h
      · cases h
theorem syA_T (hb : ∀ i, b i ≤ 256) : ∀ f S p, FG S → NM S → syA b f S p = .ok (S', q, v) → FG S' ∧ NM S' ∧ ∀ r, ¬ nmr r → S' r = S r
  | 0, S, p, hF, hN, h => by
    unfold syA at h
    obtain ⟨rfl, rfl, rfl⟩ := ok_inj h
    exact ⟨hF, hN, fun _ _ => rfl⟩
  | f + 1, S, p, hF, hN, h => by
    unfold syA at h
    by_cases h1 : b p = 256
    · rw [if_pos h1] at h
      obtain ⟨rfl, rfl, rfl⟩ := ok_inj h
      exact ⟨hF, hN, fun _ _ => rfl⟩
    · rw [if_neg h1] at h
      by_cases h2 : b p = 99
      · rw [if_pos h2] at h
        obtain ⟨rfl, _⟩ := psA_ok h
        exact ⟨hF, hN, fun _ _ => rfl⟩
      · rw [if_neg h2] at h
        obtain ⟨S1, p1, v1, h3, h4⟩ := bi_split h
        obtain ⟨a1, a2, a3⟩ := smA_T hb hF hN h3
        obtain ⟨b1, b2, b3⟩ := syA_T hb f S1 p1 a1 a2 h4
        exact ⟨b1, b2, fun r hr => by rw [b3 r hr, a3 r hr]⟩
theorem fuA_ok : ∀ m i, fuA S p m i = .ok (S', q, v) → S' = S ∧ q = p ∧ ∀ j, i ≤ j → j < i + m → S 19 j < 2 ∨ S 8 (S 19 j / 2) ≠ 0
  | 0, i, h => by
    unfold fuA at h
    obtain ⟨rfl, rfl, rfl⟩ := ok_inj h
    exact ⟨rfl, rfl, fun j h1 h2 => by omega⟩
  | m + 1, i, h => by
    unfold fuA at h
    by_cases hd : S 19 i < 2 ∨ S 8 (S 19 i / 2) ≠ 0
    · rw [if_pos hd] at h
      obtain ⟨h1, h2, h3⟩ := fuA_ok m (i + 1) h
      refine ⟨h1, h2, fun j q1 q2 => ?_⟩
      by_cases e0 : j = i
      · rw [e0]; exact hd
      · exact h3 j (by omega) (by omega)
    · rw [if_neg hd] at h; cases h
/-- all operands are defined -/
def DF (S : RW) : Prop := (∀ k, k < S 0 2 → S 3 k < 2 ∨ S 8 (S 3 k / 2) ≠ 0) ∧ (∀ k, k < S 0 3 → S 4 k < 2 ∨ S 8 (S 4 k / 2) ≠ 0) ∧ (∀ k, k < S 0 4 → (S 13 k < 2 ∨ S 8 (S 13 k / 2) ≠ 0) ∧ (S 14 k < 2 ∨ S 8 (S 14 k / 2) ≠ 0))
theorem DF_of (hF : FG S) (h : ∀ j, j < S 32 0 → S 19 j < 2 ∨ S 8 (S 19 j / 2) ≠ 0) : DF S := by
  have hlo : S 0 2 + S 0 3 ≤ S 32 0 := by rcases hF.2.2.2.2.2 with ⟨_, _, h⟩ | ⟨_, h, _⟩ <;> omega
  refine ⟨fun k hk => ?_, fun k hk => ?_, fun k hk => ?_⟩
  · rw [(hF.2.2.1.1 k hk).2.2.1]; exact h k (by omega)
  · rw [(hF.2.2.1.2 k hk).2.2.1]; exact h _ (by omega)
  · rcases hF.2.2.2.2.2 with ⟨_, h2, h3⟩ | ⟨_, h2, h3⟩
    · obtain ⟨_, _, e1, e2, _, _⟩ := h2 k hk
      rw [e1, e2]
      exact ⟨h _ (by omega), h _ (by omega)⟩
    · obtain ⟨_, _, _, _, _, _, l1, l2⟩ := hF.2.2.2.2.1 k hk
      constructor
      · by_cases hh : S 13 k < 2
        · exact Or.inl hh
        · exact Or.inr (h3 _ (by omega) (by omega))
      · by_cases hh : S 14 k < 2
        · exact Or.inl hh
        · exact Or.inr (h3 _ (by omega) (by omega))
theorem GA_of (hF : FG S) (hD : DF S) : GA S := by
  obtain ⟨h1, h2, h3, h4, h5, h6⟩ := hF
  refine ⟨⟨h1.1.1.1, h1.1.1.2.2.2.2.1⟩, fun k hk => ?_, h2.2.2.2.2.2, h2.2.2.2.2.1, h2.1.1, h1.2.2.1, h1.2.1⟩
  obtain ⟨a1, a2⟩ := h2.2.2.2.1 k hk
  obtain ⟨b1, b2, b3, b4, b5, b6, b7, b8⟩ := h5 k hk
  have hne : S 12 k ≠ 0 := fun ee => by rw [ee, h2.1.1] at a2; omega
  exact ⟨⟨a1, b1, b2, b3, b4⟩, ⟨a2, h2.1.2 _ (by omega), by omega⟩, ⟨b5, b6⟩, ⟨b7, b8⟩, (hD.2.2 k hk).1, (hD.2.2 k hk).2⟩
/-- the circuit of a file -/
def ciC (S : RW) : Nat → Nat → Nat := fun r i => match r with
  | 0 => S 0 i | 1 => S 1 i | 2 => S 2 i | 3 => S 3 i | 4 => S 4 i
  | 5 => S 12 ((sg2 S (S 0 4)).1 i) | 6 => S 13 ((sg2 S (S 0 4)).1 i) | 7 => S 14 ((sg2 S (S 0 4)).1 i)
  | 8 => S 8 i
  | 9 => if i < 5 then S 40 i else if i < 11 then S 41 (i - 5) else S 42 (i - 11)
  | 10 => if i < 200 then S 50 i else if i < 440 then S 51 (i - 200) else S 52 (i - 440)
  | 11 => (sg2 S (S 0 4)).1 i
  | _ => 0
theorem ciC_WF (hF : FG S) (hD : DF S) (hs : (sg2 S (S 0 4)).2 = S 0 4) : WF (ciC S) := by
  have hG := GA_of hF hD
  have hO := (sg2_ODR S (S 0 4)).1
  rw [hs] at hO
  obtain ⟨h1, h2, h3, h4, h5, h6⟩ := hF
  obtain ⟨f0, f1, f2, f3, f4, f5⟩ := h1.1.1
  have hlo : S 0 2 + S 0 3 ≤ S 32 0 := by rcases h6 with ⟨_, _, h⟩ | ⟨_, h, _⟩ <;> omega
  refine ⟨⟨f0, f1, f2, f3, f4⟩, ⟨h1.2.2.1, h2.1.1, h2.1.2⟩, ⟨fun k hk => (h2.2.1.1 k hk).2, fun k hk => (h2.2.2.1.1 k hk).2, fun y hy => (hG.2.1 _ (hO y hy).1).2.1.1⟩, ⟨h2.2.1.2.1, h2.2.2.1.2.1, fun v hv => ?_⟩, ⟨fun k hk => ?_, fun k hk => ?_, fun y hy => ?_⟩, fun y hy l hl h3' => ?_, fun s hs => ?_⟩
  · obtain ⟨k, hk, he⟩ := h2.2.2.2.2.1 v hv
    obtain ⟨i, hi, hoi⟩ := ODR_all hG hO hk
    exact ⟨i, hi, by show S 12 _ = v; rw [hoi]; exact he⟩
  · refine ⟨?_, hD.1 k hk⟩
    show S 3 k ≤ _
    rw [(h3.1 k hk).2.2.1]; exact (h4 k (by have : k < S 0 2 := hk; omega)).2.2
  · refine ⟨?_, hD.2.1 k hk⟩
    show S 4 k ≤ _
    rw [(h3.2 k hk).2.2.1]; exact (h4 _ (by have : k < S 0 3 := hk; omega)).2.2
  · have hg := hG.2.1 _ (hO y hy).1
    exact ⟨⟨hg.2.2.2.1.1, hg.2.2.2.2.1⟩, ⟨hg.2.2.2.1.2, hg.2.2.2.2.2⟩⟩
  · obtain ⟨a1, a2, a3, a4⟩ := hO y hy
    have h3' : S 8 (l / 2) = 3 := h3'
    have : cmv S (sg2 S (S 0 4)).1 y (l / 2) = true := by
      rcases hl with hl | hl
      · rw [hl]; exact a3
      · rw [hl]; exact a4
    rcases cmv_iff.mp this with h | ⟨i, hi, he⟩
    · exact absurd h3' h
    · exact ⟨i, hi, he⟩
  · show (if s < 5 then S 40 s else if s < 11 then S 41 (s - 5) else S 42 (s - 11)) ≤ 40
    split
    · exact (h1.2.2.2.2 0 s (by decide) (by omega)).2
    · split
      · exact (h1.2.2.2.2 1 (s - 5) (by decide) (by omega)).2
      · exact (h1.2.2.2.2 2 (s - 11) (by decide) (by omega)).2
end
