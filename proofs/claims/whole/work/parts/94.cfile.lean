/-! The class reads a file. -/
/-- the rows at the beginning -/
def S00 : RW := fun r _ => if r = 108 ∨ r = 132 ∨ r = 140 ∨ r = 141 ∨ r = 142 then 1 else 0
theorem S00_H : H0 S00 ∧ NM S00 := by
  refine ⟨⟨fun v _ => rfl, fun v => rfl, ⟨rfl, rfl⟩, fun kd k h1 _ => ?_⟩, fun kd k i h1 _ h3 => ?_⟩
  · rcases kd3 h1 with rfl | rfl | rfl <;> exact ⟨rfl, rfl⟩
  · rcases kd3 h1 with rfl | rfl | rfl <;> exact absurd h3 (Nat.not_lt_zero _)
theorem orS_RE {ly : Nat → Nat × Nat × Nat} {V : Nat → Nat → Int32} {F F' : Nat → Nat → Int32} {S : RW} {r0 R o zz : Nat} (h0 : (r0 = 5 ∧ (ly 11).2.2 = 0) ∨ (r0 = 11 ∧ (ly 5).2.2 = 0)) (hl : ly r0 = (R, o, zz)) (hd : ∀ r, r < 100 → r ≠ r0 → 0 < (ly r).2.2 → (ly r).1 ≠ R) (h : RE ly V F S) (hF : ∀ k, k ≠ R → (∀ r, r < 100 → 0 < (ly r).2.2 → (ly r).1 ≠ k) ∨ F' k = F k) (hv : ∀ y, y < S 0 4 → F' R (o + y) = V r0 (orS S r0 y)) : RE ly V F' (orS S) := by
  intro r j hr hj hm
  by_cases e0 : r = r0
  · subst e0
    have hjA : j < S 0 4 := by
      apply Classical.byContradiction
      intro hn
      unfold orS at hm
      rcases h0 with ⟨rfl, _⟩ | ⟨rfl, _⟩
      · rw [if_neg (by decide), if_neg (by decide), if_pos (Or.inl rfl), if_neg hn] at hm; cases hm
      · rw [if_neg (by decide), if_neg (by decide), if_pos (Or.inr rfl), if_neg hn] at hm; cases hm
    rw [hl]; exact hv j hjA
  · have hz : 0 < (ly r).2.2 := by omega
    have hr5 : r ≠ 5 ∧ r ≠ 11 := by
      rcases h0 with ⟨e1, e2⟩ | ⟨e1, e2⟩
      · exact ⟨by omega, fun ee => by rw [ee, e2] at hz; omega⟩
      · exact ⟨fun ee => by rw [ee, e2] at hz; omega, by omega⟩
    rw [orS_o ⟨by omega, by omega, by omega, by omega⟩] at hm
    rw [orS_o ⟨hr5.1, hr5.2, by omega, by omega⟩]
    rcases hF (ly r).1 (hd r hr e0 hz) with h1 | h1
    · exact absurd rfl (h1 r hr hz)
    · rw [h1]; exact h r j hr hj hm
theorem lyC_48 : ∀ r, r < 100 → r ≠ 5 → 0 < (lyC r).2.2 → (lyC r).1 ≠ 48 := by decide +kernel
theorem lyC_70 : ∀ r, r < 100 → 0 < (lyC r).2.2 → (lyC r).1 ≠ 68 ∧ (lyC r).1 ≠ 70 ∧ (lyC r).1 ≠ 71 ∧ (lyC r).1 ≠ 72 := by decide +kernel
section
variable {e : xenv} {w : Bool} {L : Nat → Nat → Int64} {g : xh} {z : Nat → Nat} {b : Nat → Nat} {n : Nat} {F0 F F' : Nat → Nat → Int32} {S S' : RW} {p q s nu f : Nat} {Q Q' : Int32 → xh → Prop}
theorem CS.sc0 (h : CS n F0 F S p) (hF : FG S) : SC0 F S := by
  have hG := hF.2.2.2.2.1
  refine ⟨h.size hF.1.1 (by decide : 0 < 5), h.size hF.1.1 (by decide : 4 < 5), fun v hv => h.at (r := 8) (j := v) (by decide) rfl hv (hF.1.2.1 v hv) (by omega), fun k hk => ?_⟩
  have hA := hF.1.1.1.2.2.2.2.1
  have hM := hF.1.1.1.1
  obtain ⟨a1, a2⟩ := hF.2.1.2.2.2.1 k hk
  obtain ⟨b1, b2, b3, b4, b5, b6, b7, b8⟩ := hG k hk
  have hv : S 12 k ≤ S 0 0 := hF.2.1.1.2 _ (by omega)
  refine ⟨h.at (r := 12) (j := k) (by decide) rfl (by omega) a1 (by omega), ?_, ?_⟩
  · rw [h.at (r := 6) (j := S 12 k) (by decide) rfl (by omega) b1 (by omega), b5]; rfl
  · rw [h.at (r := 7) (j := S 12 k) (by decide) rfl (by omega) b2 (by omega), b6]; rfl
theorem c_sortAnds (h : CS n F0 F S p) (hF : FG S) (hD : DF S) (hQ : rC e w L g n F0 Q (srA S p)) : wp_Reader_sortAnds z Q (ad e 64) (mem e w F L g) := by
  have hG := GA_of hF hD
  have hS := h.sc0 hF
  unfold wp_Reader_sortAnds wp_Reader_sortAnds_34
  repeat (first | ((with_reducible show ∃ _, _ ∧ _); first | refine s_fI (by rfl) (by rfl) (by rfl) ?_ | refine s_fR (by rfl) (by rfl) (by rfl) ?_ | refine s_pV (by rfl) (by rfl) (Nat.le_of_ble_eq_true rfl) (by rfl) ?_) | ((with_reducible show xcls _ _ _ ∧ _); refine s_cls (by rfl) (by rfl) ?_))
  unfold srA at hQ
  refine c_sort hG hS (fun hs F1 k1 o1 => ⟨fun _ => ?_, fun hh => absurd hh (by decide)⟩) (fun hs F1 k1 c1 => ⟨fun hh => absurd rfl hh, fun _ => ?_⟩)
  · rw [if_pos hs] at hQ
    refine hQ F1 ⟨fun k hk => by rw [k1 k (by omega) (by omega)]; exact h.1 k hk, by rw [k1 64 (by decide) (by decide)]; exact h.2.1, h.2.2.1, by rw [k1 64 (by decide) (by decide)]; exact h.2.2.2.1, orS_RE (r0 := 5) (Or.inl ⟨rfl, rfl⟩) rfl (fun r hr hne hz => lyC_48 r hr hne hz) h.2.2.2.2 (fun k hk => ?_) (fun y hy => ?_)⟩
    · by_cases e0 : k = 70
      · exact Or.inl (fun r hr hz => by rw [e0]; exact (lyC_70 r hr hz).2.1)
      · exact Or.inr (k1 k hk e0)
    · rw [Nat.zero_add, o1 y hy]; rfl
  · rw [if_neg (by omega)] at hQ
    have hO := (sg2_ODR S (S 0 4)).1
    have hst := sg2_stuck S hs
    repeat (first | ((with_reducible show ∃ _, _ ∧ _); first | refine s_fI (by rfl) (by rfl) (by rfl) ?_ | refine s_fR (by rfl) (by rfl) (by rfl) ?_ | refine s_pV (by rfl) (by rfl) (Nat.le_of_ble_eq_true rfl) (by rfl) ?_) | ((with_reducible show xcls _ _ _ ∧ _); refine s_cls (by rfl) (by rfl) ?_))
    refine c_lowest hG (hS.kept (fun k q1 q2 q3 => k1 k q1 (by omega))) hO hs hst c1 (fun F2 k2 => ?_)
    repeat (first | ((with_reducible show ∃ _, _ ∧ _); first | refine s_fI (by rfl) (by rfl) (by rfl) ?_ | refine s_fR (by rfl) (by rfl) (by rfl) ?_ | refine s_pV (by rfl) (by rfl) (Nat.le_of_ble_eq_true rfl) (by rfl) ?_) | ((with_reducible show xcls _ _ _ ∧ _); refine s_cls (by rfl) (by rfl) ?_))
    refine c_fail (fun k hk => by rw [k2 k (by omega) (by omega) (by omega), k1 k (by omega) (by omega)]; exact h.1 k hk) (fun F3 a1 a2 a3 => ⟨fun _ => hQ F3 a1 a2 a3, fun hh => absurd rfl hh⟩)
/-- the end of readFile -/
def rF (e : xenv) (w : Bool) (L : Nat → Nat → Int64) (g : xh) (n : Nat) (F0 : Nat → Nat → Int32) (Q : Int32 → xh → Prop) (r : RS) : Prop := match r with
  | .error (c, q) => ∀ F', fC F0 F' → F' 64 11 = Int32.ofNat c → F' 64 12 = Int32.ofNat q → Q 0 (mem e w F' L g)
  | .ok (S, p, _) => ∀ F', CS n F0 F' S p → F' 40 0 = 1 → Q 1 (mem e w F' L g)
theorem CS.present (h : CS n F0 F S p) (x : Int32) : CS n F0 (up F 40 0 x) S p := by
  refine ⟨fun k hk => by rw [up_k (by omega)]; exact h.1 k hk, by rw [up_k (by decide)]; exact h.2.1, h.2.2.1, by rw [up_k (by decide)]; exact h.2.2.2.1, RE.kept h.2.2.2.2 (fun r j hr hj => ?_)⟩
  by_cases e0 : (lyC r).1 = 40
  · rcases lyC_own r hr with hh | hh | hh | hh
    · omega
    · rw [e0, up_i, if_neg (by omega)]
    · omega
    · omega
  · rw [up_k e0]
theorem c_file (hT : TP F0 b n) (hc : F0 64 11 = 0 ∧ F0 64 12 = -1) (hz : z 0 = ad e 81) (h81 : F0 81 0 = 0 ∧ F0 81 1 = 5 ∧ F0 81 2 = 11) (hf : n ≤ f) (hQ : rF e w L g n F0 Q (rfA b f S00 0)) : wp_Reader_readFile z Q (ad e 64) (mem e w F0 L g) := by
  have hb := hT.le
  unfold wp_Reader_readFile
  repeat (first | ((with_reducible show ∃ _, _ ∧ _); first | refine s_fI (by rfl) (by rfl) (by rfl) ?_ | refine s_fR (by rfl) (by rfl) (by rfl) ?_ | refine s_pV (by rfl) (by rfl) (Nat.le_of_ble_eq_true rfl) (by rfl) ?_) | ((with_reducible show xcls _ _ _ ∧ _); refine s_cls (by rfl) (by rfl) ?_))
  unfold wp_Circuit_clear
  repeat (first | ((with_reducible show ∃ _, _ ∧ _); first | refine s_fI (by rfl) (by rfl) (by rfl) ?_ | refine s_fR (by rfl) (by rfl) (by rfl) ?_ | refine s_pV (by rfl) (by rfl) (Nat.le_of_ble_eq_true rfl) (by rfl) ?_) | ((with_reducible show xcls _ _ _ ∧ _); refine s_cls (by rfl) (by rfl) ?_))
  refine v_fill (n := 201) (by rfl) (fun _ => rfl) (by decide) (by rfl) (fun F1 k1 z1 => ?_)
  repeat (first | ((with_reducible show ∃ _, _ ∧ _); first | refine s_fI (by rfl) (by rfl) (by rfl) ?_ | refine s_fR (by rfl) (by rfl) (by rfl) ?_ | refine s_pV (by rfl) (by rfl) (Nat.le_of_ble_eq_true rfl) (by rfl) ?_) | ((with_reducible show xcls _ _ _ ∧ _); refine s_cls (by rfl) (by rfl) ?_))
  refine v_fill1 (n := 19) (by rfl) (fun _ => rfl) (by decide) (fun F2 k2 z2 => ?_)
  have h0 : CS n F0 F2 S00 0 := by
    have e64 : ∀ j, F2 64 j = if j = 6 then 0 else if j = 8 then 0 else F0 64 j := fun j => by
      rw [k2 64 (by decide), k1 64 (by decide), up_i, up_i]
    refine ⟨fun k hk => by rw [k2 k (by omega), k1 k (by omega), up_k (by omega), up_k (by omega)], by rw [e64]; rfl, Nat.zero_le _, ⟨by rw [e64]; exact hc.1, by rw [e64]; exact hc.2⟩, fun r j hr hj hm => ?_⟩
    have hm' : (if r + 100 = 108 ∨ r + 100 = 132 ∨ r + 100 = 140 ∨ r + 100 = 141 ∨ r + 100 = 142 then 1 else 0) = 1 := hm
    have hrr : r = 8 ∨ r = 32 ∨ r = 40 ∨ r = 41 ∨ r = 42 := by
      apply Classical.byContradiction
      intro hn
      rw [if_neg (by omega)] at hm'
      cases hm'
    rcases hrr with rfl | rfl | rfl | rfl | rfl
    · show F2 41 (0 + j) = 0
      have hj : j < 201 := hj
      rw [k2 41 (by decide), z1 _ (by omega)]
    · show F2 64 (6 + j) = 0
      have hj : j < 1 := hj
      rw [show j = 0 by omega, e64]; rfl
    · show F2 50 (0 + j) = 0
      have hj : j < 5 := hj
      exact z2 _ (by omega)
    · show F2 50 (5 + j) = 0
      have hj : j < 6 := hj
      exact z2 _ (by omega)
    · show F2 50 (11 + j) = 0
      have hj : j < 8 := hj
      exact z2 _ (by omega)
  -- the end
  have hQ' : rC e w L g n F0 (fun y h => wp_Reader_readFile_119 z Q (ad e 64) y h) (rfA b f S00 0) := by
    match hr : rfA b f S00 0, hQ with
    | .error (c, q), hQ =>
      intro F' a1 a2 a3
      show wp_Reader_readFile_119 z Q (ad e 64) 0 (mem e w F' L g)
      unfold wp_Reader_readFile_119
      repeat (first | ((with_reducible show ∃ _, _ ∧ _); first | refine s_fI (by rfl) (by rfl) (by rfl) ?_ | refine s_fR (by rfl) (by rfl) (by rfl) ?_ | refine s_pV (by rfl) (by rfl) (Nat.le_of_ble_eq_true rfl) (by rfl) ?_) | ((with_reducible show xcls _ _ _ ∧ _); refine s_cls (by rfl) (by rfl) ?_))
      refine ⟨Or.inl rfl, ?_⟩
      repeat (first | ((with_reducible show ∃ _, _ ∧ _); first | refine s_fI (by rfl) (by rfl) (by rfl) ?_ | refine s_fR (by rfl) (by rfl) (by rfl) ?_ | refine s_pV (by rfl) (by rfl) (Nat.le_of_ble_eq_true rfl) (by rfl) ?_) | ((with_reducible show xcls _ _ _ ∧ _); refine s_cls (by rfl) (by rfl) ?_))
      exact ⟨Or.inl rfl, hQ _ (fun k hk => by rw [up_k (by omega)]; exact a1 k hk) (by rw [up_k (by decide)]; exact a2) (by rw [up_k (by decide)]; exact a3)⟩
    | .ok (S', p', v'), hQ =>
      intro F' a1
      show wp_Reader_readFile_119 z Q (ad e 64) 1 (mem e w F' L g)
      unfold wp_Reader_readFile_119
      repeat (first | ((with_reducible show ∃ _, _ ∧ _); first | refine s_fI (by rfl) (by rfl) (by rfl) ?_ | refine s_fR (by rfl) (by rfl) (by rfl) ?_ | refine s_pV (by rfl) (by rfl) (Nat.le_of_ble_eq_true rfl) (by rfl) ?_) | ((with_reducible show xcls _ _ _ ∧ _); refine s_cls (by rfl) (by rfl) ?_))
      refine ⟨Or.inr rfl, ?_⟩
      repeat (first | ((with_reducible show ∃ _, _ ∧ _); first | refine s_fI (by rfl) (by rfl) (by rfl) ?_ | refine s_fR (by rfl) (by rfl) (by rfl) ?_ | refine s_pV (by rfl) (by rfl) (Nat.le_of_ble_eq_true rfl) (by rfl) ?_) | ((with_reducible show xcls _ _ _ ∧ _); refine s_cls (by rfl) (by rfl) ?_))
      exact ⟨Or.inr rfl, hQ _ (a1.present 1) (by rw [up_i, if_pos rfl])⟩
  clear hQ
  have no : ∀ h, wp_Reader_readFile_119 z Q (ad e 64) 0 h → wp_Reader_readFile_118 z Q (ad e 64) h := fun h hh => by unfold wp_Reader_readFile_118; exact hh
  unfold rfA at hQ'
  obtain ⟨hH, hN⟩ := S00_H
  repeat (first | ((with_reducible show ∃ _, _ ∧ _); first | refine s_fI (by rfl) (by rfl) (by rfl) ?_ | refine s_fR (by rfl) (by rfl) (by rfl) ?_ | refine s_pV (by rfl) (by rfl) (Nat.le_of_ble_eq_true rfl) (by rfl) ?_) | ((with_reducible show xcls _ _ _ ∧ _); refine s_cls (by rfl) (by rfl) ?_))
  refine c_header hT h0 (rC_then hQ' (fun h hq => ⟨fun _ => no h hq, fun hh => absurd rfl hh⟩) (fun S1 p1 v1 hr1 hq1 G1 h1 => ⟨fun hh => absurd hh (by decide), fun _ => ?_⟩))
  have a1 := heA_H hH hr1
  repeat (first | ((with_reducible show ∃ _, _ ∧ _); first | refine s_fI (by rfl) (by rfl) (by rfl) ?_ | refine s_fR (by rfl) (by rfl) (by rfl) ?_ | refine s_pV (by rfl) (by rfl) (Nat.le_of_ble_eq_true rfl) (by rfl) ?_) | ((with_reducible show xcls _ _ _ ∧ _); refine s_cls (by rfl) (by rfl) ?_))
  refine c_sizes h1 a1 (rC_then hq1 (fun h hq => ⟨fun _ => no h hq, fun hh => absurd rfl hh⟩) (fun S2 p2 v2 hr2 hq2 G2 h2 => ⟨fun hh => absurd hh (by decide), fun _ => ?_⟩))
  obtain ⟨b2, hS2, _⟩ := szA_B a1 hr2
  have n2 : NM S2 := by
    intro kd k i q1 q2 q3
    have : szS S1 (40 + kd) = S1 (40 + kd) := by unfold szS; rw [st_o (by omega) (by omega), st_o (by omega) (by omega), st_o (by omega) (by omega), st_o (by omega) (by omega), st_o (by omega) (by omega)]
    rw [hS2, this, (a1.1.2.2.2 kd k q1 q2).2] at q3
    omega
  have h8 : ∀ v, S2 8 v = 0 := fun v => by rw [hS2, szS_0.2.2.1]; exact a1.1.2.1 v
  -- behind the definitions
  have rest6 : ∀ S6 p6 G6, CS n F0 G6 S6 p6 → FG S6 → NM S6 → rC e w L g n F0 (fun y h => wp_Reader_readFile_119 z Q (ad e 64) y h) (bi (syA b f S6 p6) (fun S p _ => bi (fuA S p (S 32 0) 0) (fun S p _ => srA S p))) → wp_Reader_readFile_93 z Q (ad e 64) (mem e w G6 L g) := by
    intro S6 p6 G6 h6 f6 m6 hq6
    unfold wp_Reader_readFile_93
    repeat (first | ((with_reducible show ∃ _, _ ∧ _); first | refine s_fI (by rfl) (by rfl) (by rfl) ?_ | refine s_fR (by rfl) (by rfl) (by rfl) ?_ | refine s_pV (by rfl) (by rfl) (Nat.le_of_ble_eq_true rfl) (by rfl) ?_) | ((with_reducible show xcls _ _ _ ∧ _); refine s_cls (by rfl) (by rfl) ?_))
    refine c_symbols (nu := S6 32 0) hT h6 f6.1 hz h81 (by omega) (rC_then hq6 (fun h hq => ⟨fun _ => no h hq, fun hh => absurd rfl hh⟩) (fun S7 p7 v7 hr7 hq7 G7 h7 => ⟨fun hh => absurd hh (by decide), fun _ => ?_⟩))
    obtain ⟨f7, m7, r7⟩ := syA_T hb f S6 p6 f6 m6 hr7
    have hnu : S7 32 0 ≤ 314 := by
      have := f7.1.1.1
      rcases f7.2.2.2.2.2 with ⟨_, _, hh⟩ | ⟨_, hh, _⟩ <;> omega
    repeat (first | ((with_reducible show ∃ _, _ ∧ _); first | refine s_fI (by rfl) (by rfl) (by rfl) ?_ | refine s_fR (by rfl) (by rfl) (by rfl) ?_ | refine s_pV (by rfl) (by rfl) (Nat.le_of_ble_eq_true rfl) (by rfl) ?_) | ((with_reducible show xcls _ _ _ ∧ _); refine s_cls (by rfl) (by rfl) ?_))
    refine c_undefined h7 f7.1 hnu f7.2.2.2.1 (rC_then hq7 (fun h hq => ⟨fun _ => no h hq, fun hh => absurd rfl hh⟩) (fun S8 p8 v8 hr8 hq8 G8 h8 => ⟨fun hh => absurd hh (by decide), fun _ => ?_⟩))
    obtain ⟨rfl, _, hd⟩ := fuA_ok _ _ hr8
    repeat (first | ((with_reducible show ∃ _, _ ∧ _); first | refine s_fI (by rfl) (by rfl) (by rfl) ?_ | refine s_fR (by rfl) (by rfl) (by rfl) ?_ | refine s_pV (by rfl) (by rfl) (Nat.le_of_ble_eq_true rfl) (by rfl) ?_) | ((with_reducible show xcls _ _ _ ∧ _); refine s_cls (by rfl) (by rfl) ?_))
    exact c_sortAnds h8 f7 (DF_of f7 (fun j hj => hd j (Nat.zero_le _) (by omega))) (rC_imp hq8 (fun h hq => ⟨fun _ => no h hq, fun hh => absurd rfl hh⟩) (fun h hq => ⟨fun hh => absurd hh (by decide), fun _ => hq⟩))
  have rest3 : ∀ S3 p3 G3, CS n F0 G3 S3 p3 → PH3 S3 0 0 → rC e w L g n F0 (fun y h => wp_Reader_readFile_119 z Q (ad e 64) y h) (bi (l0A b S3 p3) (fun S p _ => bi (o0A b S p) (fun S p _ => bi (a0A b S p) (fun S p _ => bi (syA b f S p) (fun S p _ => bi (fuA S p (S 32 0) 0) (fun S p _ => srA S p)))))) → wp_Reader_readFile_55 z Q (ad e 64) (mem e w G3 L g) := by
    intro S3 p3 G3 h3 ph3 hq3
    unfold wp_Reader_readFile_55
    have bi3 : ∀ {T : RW} {l' o : Nat}, PH3 T l' o → BI T (l' + o) := fun {T l' o} hp => by
      rcases hp.2 with hh | hh
      · exact hh.2.1
      · exact hh.2.1
    repeat (first | ((with_reducible show ∃ _, _ ∧ _); first | refine s_fI (by rfl) (by rfl) (by rfl) ?_ | refine s_fR (by rfl) (by rfl) (by rfl) ?_ | refine s_pV (by rfl) (by rfl) (Nat.le_of_ble_eq_true rfl) (by rfl) ?_) | ((with_reducible show xcls _ _ _ ∧ _); refine s_cls (by rfl) (by rfl) ?_))
    refine c_latches hT h3 (bi3 ph3) (rC_then hq3 (fun h hq => ⟨fun _ => no h hq, fun hh => absurd rfl hh⟩) (fun S4 p4 v4 hr4 hq4 G4 h4 => ⟨fun hh => absurd hh (by decide), fun _ => ?_⟩))
    have ph4 := (l0A_T ph3 hr4).1
    have bi4 := bi3 ph4
    have hl4 := bi4.1.1.2.2.1
    repeat (first | ((with_reducible show ∃ _, _ ∧ _); first | refine s_fI (by rfl) (by rfl) (by rfl) ?_ | refine s_fR (by rfl) (by rfl) (by rfl) ?_ | refine s_pV (by rfl) (by rfl) (Nat.le_of_ble_eq_true rfl) (by rfl) ?_) | ((with_reducible show xcls _ _ _ ∧ _); refine s_cls (by rfl) (by rfl) ?_))
    refine c_outputs (l := S4 0 2 + 0) hT h4 bi4 (by omega) (rC_then hq4 (fun h hq => ⟨fun _ => no h hq, fun hh => absurd rfl hh⟩) (fun S5 p5 v5 hr5 hq5 G5 h5 => ⟨fun hh => absurd hh (by decide), fun _ => ?_⟩))
    have ph5 := (o0A_T ph4 hr5).1
    have bi5 := bi3 ph5
    have hl5 := bi5.1.1
    repeat (first | ((with_reducible show ∃ _, _ ∧ _); first | refine s_fI (by rfl) (by rfl) (by rfl) ?_ | refine s_fR (by rfl) (by rfl) (by rfl) ?_ | refine s_pV (by rfl) (by rfl) (Nat.le_of_ble_eq_true rfl) (by rfl) ?_) | ((with_reducible show xcls _ _ _ ∧ _); refine s_cls (by rfl) (by rfl) ?_))
    rw [show G5 64 7 = Int32.ofNat (S5 30 0) from h5.at (r := 30) (j := 0) (by decide) rfl (by decide) bi5.1.2.2.1.1 rfl, show (0 : Int32) = Int32.ofNat 0 from rfl, n_eq (by have := bi5.1.2.2.1.2; omega) (by decide)]
    have after : ∀ S6 p6 v6 G6, a0A b S5 p5 = .ok (S6, p6, v6) → CS n F0 G6 S6 p6 → rC e w L g n F0 (fun y h => wp_Reader_readFile_119 z Q (ad e 64) y h) (bi (syA b f S6 p6) (fun S p _ => bi (fuA S p (S 32 0) 0) (fun S p _ => srA S p))) → wp_Reader_readFile_93 z Q (ad e 64) (mem e w G6 L g) := by
      intro S6 p6 v6 G6 hr6 h6 hq6
      have a6 := a0A_T ph5 hr6
      exact rest6 S6 p6 G6 h6 a6.1 a6.2 hq6
    refine ⟨fun hb0 => ?_, fun hb0 => ?_⟩
    · have ea : a0A b S5 p5 = lp (anA b) 0 (S5 0 4) S5 p5 := by unfold a0A; rw [if_pos hb0]
      rw [ea] at hq5
      repeat (first | ((with_reducible show ∃ _, _ ∧ _); first | refine s_fI (by rfl) (by rfl) (by rfl) ?_ | refine s_fR (by rfl) (by rfl) (by rfl) ?_ | refine s_pV (by rfl) (by rfl) (Nat.le_of_ble_eq_true rfl) (by rfl) ?_) | ((with_reducible show xcls _ _ _ ∧ _); refine s_cls (by rfl) (by rfl) ?_))
      refine c_ands (l := S5 0 2 + S5 0 3) hT h5 bi5 (by omega) (rC_then hq5 (fun h hq => ⟨fun _ => no h hq, fun hh => absurd rfl hh⟩) (fun S6 p6 v6 hr6 hq6 G6 h6 => ⟨fun hh => absurd hh (by decide), fun _ => ?_⟩))
      exact after S6 p6 v6 G6 (by rw [ea]; exact hr6) h6 hq6
    · have ea : a0A b S5 p5 = lp (dnA b) 0 (S5 0 4) S5 p5 := by unfold a0A; rw [if_neg hb0]
      rw [ea] at hq5
      have hki : KI S5 (S5 0 1) (S5 0 2) (S5 0 4) := by
        rcases ph5.2 with hh | hh
        · exact absurd hh.1 hb0
        · exact hh.2.2.1
      repeat (first | ((with_reducible show ∃ _, _ ∧ _); first | refine s_fI (by rfl) (by rfl) (by rfl) ?_ | refine s_fR (by rfl) (by rfl) (by rfl) ?_ | refine s_pV (by rfl) (by rfl) (Nat.le_of_ble_eq_true rfl) (by rfl) ?_) | ((with_reducible show xcls _ _ _ ∧ _); refine s_cls (by rfl) (by rfl) ?_))
      refine c_deltas (nu := S5 0 2 + S5 0 3) hT h5 bi5 (fun k hk => ?_) (rC_then hq5 (fun h hq => ⟨fun _ => no h hq, fun hh => absurd rfl hh⟩) (fun S6 p6 v6 hr6 hq6 G6 h6 => ⟨fun hh => absurd hh (by decide), fun _ => ?_⟩))
      · obtain ⟨m1, m2⟩ := hki.2.2.2.1 k hk
        have := hki.1.2 _ (show S5 8 (S5 12 k) ≠ 0 by omega)
        exact ⟨m1, by omega⟩
      · exact after S6 p6 v6 G6 (by rw [ea]; exact hr6) h6 hq6
  repeat (first | ((with_reducible show ∃ _, _ ∧ _); first | refine s_fI (by rfl) (by rfl) (by rfl) ?_ | refine s_fR (by rfl) (by rfl) (by rfl) ?_ | refine s_pV (by rfl) (by rfl) (Nat.le_of_ble_eq_true rfl) (by rfl) ?_) | ((with_reducible show xcls _ _ _ ∧ _); refine s_cls (by rfl) (by rfl) ?_))
  rw [show G2 64 7 = Int32.ofNat (S2 30 0) from h2.at (r := 30) (j := 0) (by decide) rfl (by decide) b2.1.2.2.1.1 rfl, show (0 : Int32) = Int32.ofNat 0 from rfl, n_eq (by have := b2.1.2.2.1.2; omega) (by decide)]
  refine ⟨fun hb0 => ?_, fun hb0 => ?_⟩
  · have ea : i0A b S2 p2 = lp (inA b) 0 (S2 0 1) S2 p2 := by unfold i0A; rw [if_pos hb0]
    rw [ea] at hq2
    repeat (first | ((with_reducible show ∃ _, _ ∧ _); first | refine s_fI (by rfl) (by rfl) (by rfl) ?_ | refine s_fR (by rfl) (by rfl) (by rfl) ?_ | refine s_pV (by rfl) (by rfl) (Nat.le_of_ble_eq_true rfl) (by rfl) ?_) | ((with_reducible show xcls _ _ _ ∧ _); refine s_cls (by rfl) (by rfl) ?_))
    refine c_inputs hT h2 b2 (rC_then hq2 (fun h hq => ⟨fun _ => no h hq, fun hh => absurd rfl hh⟩) (fun S3 p3 v3 hr3 hq3 G3 h3 => ⟨fun hh => absurd hh (by decide), fun _ => ?_⟩))
    exact rest3 S3 p3 G3 h3 (i0A_T (b := b) b2 h8 n2 (by rw [ea]; exact hr3)) hq3
  · have ea : i0A b S2 p2 = .ok (bdA S2, p2, 0) := by unfold i0A; rw [if_neg hb0]
    rw [ea] at hq2
    repeat (first | ((with_reducible show ∃ _, _ ∧ _); first | refine s_fI (by rfl) (by rfl) (by rfl) ?_ | refine s_fR (by rfl) (by rfl) (by rfl) ?_ | refine s_pV (by rfl) (by rfl) (Nat.le_of_ble_eq_true rfl) (by rfl) ?_) | ((with_reducible show xcls _ _ _ ∧ _); refine s_cls (by rfl) (by rfl) ?_))
    refine c_order h2 b2 hb0 (rC_then hq2 (fun h hq => ⟨fun _ => no h hq, fun hh => absurd rfl hh⟩) (fun S3 p3 v3 hr3 hq3 G3 h3 => ⟨fun hh => absurd hh (by decide), fun _ => ?_⟩))
    exact rest3 S3 p3 G3 h3 (i0A_T (b := b) b2 h8 n2 (by rw [ea]; exact hr3)) hq3
theorem bv_nb {x : Nat} (h : x < 256) : bv (nb x) = x := bv_nat h
theorem kc_of (h : CS n F0 F (orS S) p) (hF : FG S) (hN : NM S) (hs : (sg2 S (S 0 4)).2 = S 0 4) : KC 40 F (ciC S) := by
  have hO := (sg2_ODR S (S 0 4)).1
  rw [hs] at hO
  obtain ⟨f0, f1, f2, f3, f4, f5⟩ := hF.1.1.1
  have e : ∀ r, r ≠ 5 ∧ r ≠ 11 ∧ r ≠ 105 ∧ r ≠ 111 → orS S r = S r := fun r hr => orS_o hr
  have at' : ∀ {r R o zz j i : Nat}, r < 100 → lyC r = (R, o, zz) → r ≠ 5 ∧ r ≠ 11 → j < zz → S (r + 100) j = 1 → i = o + j → F R i = VC r (S r j) := fun {r R o zz j i} hr hl hne hj hm hi => by
    have := h.at hr hl hj (by rw [e _ ⟨by omega, by omega, by omega, by omega⟩]; exact hm) hi
    rw [e r ⟨by omega, by omega, by omega, by omega⟩] at this
    exact this
  have k9 : ∀ kd k, kd < 3 → k < sz3 kd → F 50 (so kd + k) = Int32.ofNat (S (40 + kd) k) ∧ ∀ i, i < S (40 + kd) k → bv (F 49 (40 * so kd + (40 * k + i))) = S (50 + kd) (40 * k + i) := by
    intro kd k hkd hk
    have h8 : sz3 kd ≤ 8 := by unfold sz3; split; decide; split <;> decide
    obtain ⟨m1, l1⟩ := hF.1.2.2.2.2 kd k hkd (by omega)
    refine ⟨?_, fun i hi => ?_⟩
    · rw [at' (r := 40 + kd) (by omega) (lyC_nm hkd).2 (by omega) hk (by rw [show 40 + kd + 100 = 140 + kd by omega]; exact m1) rfl, VC_ln hkd]
    · obtain ⟨m2, l2⟩ := hN kd k i hkd (by omega) hi
      rw [at' (r := 50 + kd) (j := 40 * k + i) (by omega) (lyC_nm hkd).1 (by omega) (by omega) (by rw [show 50 + kd + 100 = 150 + kd by omega]; exact m2) rfl, VC_nm]
      exact bv_nb l2
  refine ⟨fun j hj => ?_, fun v hv => at' (r := 8) (by decide) rfl (by decide) hv (hF.1.2.1 v hv) (by omega), fun y hy => ?_, fun k hk => ?_, fun k hk => ?_, fun k hk => ?_, fun s hs => ?_⟩
  · obtain ⟨m1, m2, m3⟩ := hF.1.1.2.1 j hj
    rw [at' (r := 31) (by decide) rfl (by decide) hj m2 rfl, m3]; rfl
  · have hy : y < S 0 4 := hy
    obtain ⟨o1, _⟩ := hO y hy
    obtain ⟨b1, b2, b3, b4, b5, b6, b7, b8⟩ := hF.2.2.2.2.1 _ o1
    have hv := hF.2.1.1.2 _ (show S 8 (S 12 ((sg2 S (S 0 4)).1 y)) ≠ 0 by have := (hF.2.1.2.2.2.1 _ o1).2; omega)
    refine ⟨?_, ?_, ?_⟩
    · have := h.at (r := 5) (j := y) (i := y) (by decide) rfl (by omega) (by show (if y < S 0 4 then 1 else 0) = 1; rw [if_pos hy]) (by omega)
      exact this
    · rw [show (40 : Nat) + 2 = 42 from rfl]
      show F 42 (S 12 ((sg2 S (S 0 4)).1 y)) = Int32.ofNat (S 13 ((sg2 S (S 0 4)).1 y))
      rw [at' (r := 6) (j := S 12 ((sg2 S (S 0 4)).1 y)) (by decide) rfl (by decide) (by omega) b1 (by omega), b5]; rfl
    · rw [show (40 : Nat) + 3 = 43 from rfl]
      show F 43 (S 12 ((sg2 S (S 0 4)).1 y)) = Int32.ofNat (S 14 ((sg2 S (S 0 4)).1 y))
      rw [at' (r := 7) (j := S 12 ((sg2 S (S 0 4)).1 y)) (by decide) rfl (by decide) (by omega) b2 (by omega), b6]; rfl
  · have hk : k < S 0 1 := hk
    exact at' (r := 1) (j := k) (by decide) rfl (by decide) (by omega) (hF.2.1.2.1.1 k hk).1 (by omega)
  · have hk : k < S 0 2 := hk
    exact ⟨at' (r := 2) (j := k) (by decide) rfl (by decide) (by omega) (hF.2.1.2.2.1.1 k hk).1 (by omega), at' (r := 3) (j := k) (by decide) rfl (by decide) (by omega) (hF.2.2.1.1 k hk).1 (by omega)⟩
  · have hk : k < S 0 3 := hk
    exact at' (r := 4) (j := k) (by decide) rfl (by decide) (by omega) (hF.2.2.1.2 k hk).1 (by omega)
  · show F 50 s = Int32.ofNat (if s < 5 then S 40 s else if s < 11 then S 41 (s - 5) else S 42 (s - 11)) ∧ ∀ i, i < (if s < 5 then S 40 s else if s < 11 then S 41 (s - 5) else S 42 (s - 11)) → bv (F 49 (40 * s + i)) = (if 40 * s + i < 200 then S 50 (40 * s + i) else if 40 * s + i < 440 then S 51 (40 * s + i - 200) else S 52 (40 * s + i - 440))
    by_cases h5 : s < 5
    · obtain ⟨a1, a2⟩ := k9 0 s (by decide) h5
      have l40 := (hF.1.2.2.2.2 0 s (by decide) (by omega)).2
      rw [if_pos h5]
      refine ⟨by rw [show so 0 + s = s by unfold so; rw [if_pos rfl]; omega] at a1; exact a1, fun i hi => ?_⟩
      have := a2 i hi
      rw [show 40 * so 0 + (40 * s + i) = 40 * s + i by unfold so; rw [if_pos rfl]; omega] at this
      have hl : i < 40 := Nat.lt_of_lt_of_le hi l40
      rw [if_pos (by omega)]; exact this
    · by_cases h11 : s < 11
      · obtain ⟨a1, a2⟩ := k9 1 (s - 5) (by decide) (by show s - 5 < 6; omega)
        have l40 := (hF.1.2.2.2.2 1 (s - 5) (by decide) (by omega)).2
        rw [if_neg h5, if_pos h11]
        have e1 : so 1 = 5 := rfl
        refine ⟨by rw [e1, show 5 + (s - 5) = s by omega] at a1; exact a1, fun i hi => ?_⟩
        have := a2 i hi
        have hl : i < 40 := Nat.lt_of_lt_of_le hi l40
        rw [e1, show 40 * 5 + (40 * (s - 5) + i) = 40 * s + i by omega] at this
        rw [if_neg (by omega), if_pos (by omega), show 40 * s + i - 200 = 40 * (s - 5) + i by omega]; exact this
      · obtain ⟨a1, a2⟩ := k9 2 (s - 11) (by decide) (by show s - 11 < 8; omega)
        have l40 := (hF.1.2.2.2.2 2 (s - 11) (by decide) (by omega)).2
        rw [if_neg h5, if_neg h11]
        have e1 : so 2 = 11 := rfl
        refine ⟨by rw [e1, show 11 + (s - 11) = s by omega] at a1; exact a1, fun i hi => ?_⟩
        have := a2 i hi
        have hl : i < 40 := Nat.lt_of_lt_of_le hi l40
        rw [e1, show 40 * 11 + (40 * (s - 11) + i) = 40 * s + i by omega] at this
        rw [if_neg (by omega), if_neg (by omega), show 40 * s + i - 440 = 40 * (s - 11) + i by omega]; exact this
end
