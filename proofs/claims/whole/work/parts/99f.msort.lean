/-! The reference's ORDER and rings; it reads a file. -/
def SM0 (F : Nat → Nat → Int32) (S : RW) : Prop := F 110 10 = Int32.ofNat (S 0 0) ∧ F 110 14 = Int32.ofNat (S 0 4) ∧ (∀ v, v < 201 → F 118 (402 + v) = Int32.ofNat (S 8 v)) ∧ (∀ k, k < S 0 4 → F 115 (300 + k) = Int32.ofNat (2 * S 12 k) ∧ F 116 (300 + k) = Int32.ofNat (S 13 k) ∧ F 117 (300 + k) = Int32.ofNat (S 14 k))
theorem SM0.kept {F F' : Nat → Nat → Int32} {S : RW} (h : SM0 F S) (hk : ∀ k, k = 110 ∨ (115 ≤ k ∧ k ≤ 118) → F' k = F k) : SM0 F' S := by
  unfold SM0
  rw [hk 110 (by decide), hk 115 (by decide), hk 116 (by decide), hk 117 (by decide), hk 118 (by decide)]
  exact h
/-- the reference's come -/
def mcm (S : RW) (o : Nat → Nat) (y v : Nat) : Prop := S 8 v = 1 ∨ S 8 v = 2 ∨ ∃ i, i < y ∧ S 12 (o i) = v
theorem mcm_cmv {S : RW} {o : Nat → Nat} {y v : Nat} (h83 : S 8 v ≤ 3) (h0 : S 8 v ≠ 0) : mcm S o y v ↔ cmv S o y v = true := by
  rw [cmv_iff]
  unfold mcm
  constructor
  · rintro (h | h | h)
    · exact Or.inl (by omega)
    · exact Or.inl (by omega)
    · exact Or.inr h
  · rintro (h | h)
    · have : S 8 v = 1 ∨ S 8 v = 2 := by omega
      rcases this with h | h
      · exact Or.inl h
      · exact Or.inr (Or.inl h)
    · exact Or.inr (Or.inr h)
section
variable {e : xenv} {w : Bool} {L : Nat → Nat → Int64} {g : xh} {z : Nat → Nat} {b : Nat → Nat} {n : Nat} {F0 F F' F2 : Nat → Nat → Int32} {S S' : RW} {p q s nu : Nat} {Q : xh → Prop} {Qi : Int32 → xh → Prop} {r : RS}
theorem m_hasCome {o : Nat → Nat} {y l : Nat} (hG : GA S) (hl : l < 402) (hd : l < 2 ∨ S 8 (l / 2) ≠ 0) (hC : ∀ v, v < 201 → (mcm S o y v → F 128 v = 1) ∧ (¬ mcm S o y v → F 128 v = 0)) (h1 : cmv S o y (l / 2) = true → Qi 1 (mem e w F L g)) (h0 : cmv S o y (l / 2) = false → Qi 0 (mem e w F L g)) : wp_Model_hasCome z Qi (ad e 100) (Int32.ofNat l) (mem e w F L g) := by
  unfold wp_Model_hasCome wp_Model_hasCome_16
  refine ⟨fun hh => h1 ?_, fun hh => ?_⟩
  · rw [show (2 : Int32) = Int32.ofNat 2 from rfl, n_lt (by omega) (by decide)] at hh
    rw [show l / 2 = 0 by omega]
    exact cmv_iff.mpr (Or.inl (by rw [hG.2.2.2.2.1]; decide))
  rw [show (2 : Int32) = Int32.ofNat 2 from rfl, n_lt (by omega) (by decide)] at hh
  have hne : S 8 (l / 2) ≠ 0 := by
    rcases hd with hd | hd
    · omega
    · exact hd
  have hiff := mcm_cmv (o := o) (y := y) (hG.2.2.2.2.2.1 (l / 2)) hne
  repeat (first | ((with_reducible show ∃ _, _ ∧ _); first | refine s_fI (by rfl) (by rfl) (by rfl) ?_ | refine s_fR (by rfl) (by rfl) (by rfl) ?_ | refine s_pV (by rfl) (by rfl) (Nat.le_of_ble_eq_true rfl) (by rfl) ?_) | ((with_reducible show xcls _ _ _ ∧ _); refine s_cls (by rfl) (by rfl) ?_))
  rw [n_half (by omega)]
  refine s_aI (i := l / 2) (by rfl) (by rfl) (by rfl) (by rfl) (by omega) (by decide) ?_
  cases hc : cmv S o y (l / 2)
  · have hn : ¬ mcm S o y (l / 2) := fun hm => by have := hiff.mp hm; rw [hc] at this; cases this
    rw [(hC _ (by omega)).2 hn]
    exact ⟨fun _ => h0 hc, fun hh => absurd rfl hh⟩
  · rw [(hC _ (by omega)).1 (hiff.mpr hc)]
    exact ⟨fun hh => absurd hh (by decide), fun _ => h1 hc⟩
theorem m_sort (hG : GA S) (hS : SM0 F S)
    (hQ : ∀ F', (∀ k, k ≠ 100 → k ≠ 126 → k ≠ 128 → F' k = F k) → (∀ j, j ≠ 29 → F' 100 j = F 100 j) → F' 100 29 = Int32.ofNat (sg2 S (S 0 4)).2 → (∀ i, i < (sg2 S (S 0 4)).2 → F' 126 i = Int32.ofNat ((sg2 S (S 0 4)).1 i)) → Q (mem e w F' L g)) : wp_Model_sort z Q (ad e 100) (mem e w F L g) := by
  have hA := hG.1.2
  unfold wp_Model_sort wp_Model_sort_2
  refine xloop_dn (fun m a => ∃ v F1, m = 201 - v ∧ v ≤ 201 ∧ a = (ad e 100, Int32.ofNat v, mem e w F1 L g) ∧ (∀ k, k ≠ 128 → F1 k = F k) ∧ ∀ u, u < v → (mcm S (fun _ => 0) 0 u → F1 128 u = 1) ∧ (¬ mcm S (fun _ => 0) 0 u → F1 128 u = 0)) ?_ 201 _ ⟨0, F, rfl, by decide, rfl, fun _ _ => rfl, fun u hu => by omega⟩
  rintro m a cc ⟨v, F1, rfl, hv, rfl, g1, g2⟩ hk
  unfold wp_Model_sort_2_b; dsimp only
  refine ⟨fun hc => ?_, fun hc => ?_⟩ <;> rw [show (201 : Int32) = Int32.ofNat 201 from rfl, n_le (by decide) (by omega)] at hc
  rotate_left
  · have hvl : v < 201 := by omega
    have h83 := hG.2.2.2.2.2.1 v
    have put : ∀ c : Bool, (c = true ↔ mcm S (fun _ => 0) 0 v) → wp_Model_sort_47 z Q cc (ad e 100) (Int32.ofNat v) (Int32.ofNat c.toNat) (Int32.ofNat v) (ad e 128) (mem e w F1 L g) := by
      intro c hcc
      unfold wp_Model_sort_47
      rw [nar01]
      refine s_sI (i := v) (by rfl) (by rfl) (by rfl) (by rfl) (by rfl) (by omega) (by decide) ?_
      refine hk (201 - (v + 1)) _ (by omega) ⟨v + 1, _, rfl, by omega, by rw [n_inc], fun k q1 => by rw [up_k q1]; exact g1 k q1, fun u hu => ?_⟩
      rw [up_i]
      by_cases e0 : u = v
      · rw [if_pos e0, e0]
        refine ⟨fun hm => by rw [hcc.mpr hm]; rfl, fun hm => ?_⟩
        cases c
        · rfl
        · exact absurd (hcc.mp rfl) hm
      · rw [if_neg e0]; exact g2 u (by omega)
    have hno : S 8 v ≠ 1 → S 8 v ≠ 2 → ¬ mcm S (fun _ => 0) 0 v := by
      rintro a1 a2 (h | h | ⟨i, hi, _⟩)
      · exact a1 h
      · exact a2 h
      · omega
    repeat (first | ((with_reducible show ∃ _, _ ∧ _); first | refine s_fI (by rfl) (by rfl) (by rfl) ?_ | refine s_fR (by rfl) (by rfl) (by rfl) ?_ | refine s_pV (by rfl) (by rfl) (Nat.le_of_ble_eq_true rfl) (by rfl) ?_) | ((with_reducible show xcls _ _ _ ∧ _); refine s_cls (by rfl) (by rfl) ?_))
    refine s_aI (i := 402 + v) (by rfl) (by rfl) (by rfl) (by exact n_add 402 v) (by omega) (by decide) ?_
    rw [g1 118 (by decide), hS.2.2.1 v hvl, show (1 : Int32) = Int32.ofNat 1 from rfl, n_eq (by omega) (by decide)]
    unfold wp_Model_sort_42
    refine ⟨fun h1 => put true ⟨fun _ => Or.inl h1, fun _ => rfl⟩, fun h1 => ?_⟩
    repeat (first | ((with_reducible show ∃ _, _ ∧ _); first | refine s_fI (by rfl) (by rfl) (by rfl) ?_ | refine s_fR (by rfl) (by rfl) (by rfl) ?_ | refine s_pV (by rfl) (by rfl) (Nat.le_of_ble_eq_true rfl) (by rfl) ?_) | ((with_reducible show xcls _ _ _ ∧ _); refine s_cls (by rfl) (by rfl) ?_))
    refine s_aI (i := 402 + v) (by rfl) (by rfl) (by rfl) (by exact n_add 402 v) (by omega) (by decide) ?_
    rw [g1 118 (by decide), hS.2.2.1 v hvl, show (2 : Int32) = Int32.ofNat 2 from rfl, n_eq (by omega) (by decide)]
    exact ⟨fun h2 => put false ⟨fun hh => (by cases hh), fun hh => absurd hh (hno h1 h2)⟩, fun h2 => put true ⟨fun _ => Or.inr (Or.inl h2), fun _ => rfl⟩⟩
  clear hk
  have hv' : v = 201 := by omega
  subst hv'
  repeat (first | ((with_reducible show ∃ _, _ ∧ _); first | refine s_fI (by rfl) (by rfl) (by rfl) ?_ | refine s_fR (by rfl) (by rfl) (by rfl) ?_ | refine s_pV (by rfl) (by rfl) (Nat.le_of_ble_eq_true rfl) (by rfl) ?_) | ((with_reducible show xcls _ _ _ ∧ _); refine s_cls (by rfl) (by rfl) ?_))
  have hS1 : SM0 (up F1 100 29 0) S := hS.kept (fun k hk => by rw [up_k (by omega)]; exact g1 k (by omega))
  unfold wp_Model_sort_61
  refine xloop_dn (fun m a => ∃ y k F2, m = (S 0 4 - y) * (S 0 4 + 1) + (S 0 4 - k) ∧ y ≤ S 0 4 ∧ k ≤ S 0 4 ∧ (sg2 S y).2 = y ∧ a = (ad e 100, Int32.ofNat k, mem e w F2 L g) ∧ (∀ k, k ≠ 100 → k ≠ 126 → k ≠ 128 → F2 k = F k) ∧ (∀ j, j ≠ 29 → F2 100 j = F 100 j) ∧ F2 100 29 = Int32.ofNat y ∧ (∀ v, v < 201 → (mcm S (sg2 S y).1 y v → F2 128 v = 1) ∧ (¬ mcm S (sg2 S y).1 y v → F2 128 v = 0)) ∧ (∀ i, i < y → F2 126 i = Int32.ofNat ((sg2 S y).1 i)) ∧ (∀ j, j < k → rdy S (sg2 S y).1 y j = false)) ?_ (S 0 4 * (S 0 4 + 1) + S 0 4) _ ⟨0, 0, _, rfl, Nat.zero_le _, Nat.zero_le _, rfl, rfl, fun k q1 q2 q3 => by rw [up_k q1]; exact g1 k q3, fun j hj => by rw [up_i, if_neg hj, g1 100 (by decide)], by rw [up_i, if_pos rfl]; rfl, fun v hv => by rw [up_k (by decide)]; exact g2 v hv, fun i hi => by omega, fun j hj => by omega⟩
  rintro m a cc ⟨y, k, F2, rfl, hy, hkk, hsy, rfl, r1, r2, r3, r4, r5, r6⟩ hk
  have hS2 : SM0 F2 S := hS.kept (fun k hk => r1 k (by omega) (by omega) (by omega))
  have hO := (sg2_ODR S y).1
  rw [hsy] at hO
  unfold wp_Model_sort_61_b; dsimp only
  repeat (first | ((with_reducible show ∃ _, _ ∧ _); first | refine s_fI (by rfl) (by rfl) (by rfl) ?_ | refine s_fR (by rfl) (by rfl) (by rfl) ?_ | refine s_pV (by rfl) (by rfl) (Nat.le_of_ble_eq_true rfl) (by rfl) ?_) | ((with_reducible show xcls _ _ _ ∧ _); refine s_cls (by rfl) (by rfl) ?_))
  refine s_aI (i := 14) (by rfl) (by rfl) (by rfl) (by rfl) (by decide) (by decide) ?_
  rw [hS2.2.1]
  refine ⟨fun hc => ?_, fun hc => ?_⟩ <;> rw [n_le (by omega) (by omega)] at hc
  · have hkA : k = S 0 4 := by omega
    have hnf : ¬ fst S (sg2 S y).1 y < S 0 4 := fun hf => by
      have hr := (fd_spec (rdy S (sg2 S y).1 y) (S 0 4)).2.1 hf
      rw [r6 _ (by rw [hkA]; exact hf)] at hr; cases hr
    have hfin : sg2 S (S 0 4) = sg2 S y := by
      by_cases hyA : y = S 0 4
      · rw [hyA]
      · have e1 : sg2 S (y + 1) = sg2 S y := by
          show (if _ then _ else _) = _
          rw [hsy, if_neg hnf]
        rw [sg2_same S (m := y + 1) (by rw [e1, hsy]; omega) (S 0 4) (by omega), e1]
    refine hQ F2 r1 r2 (by rw [hfin, hsy]; exact r3) (fun i hi => ?_)
    rw [hfin, hsy] at hi
    rw [hfin]; exact r5 i hi
  have hkl : k < S 0 4 := by omega
  obtain ⟨v1, v2, v3⟩ := hG.v12 hkl
  obtain ⟨f115, f116, f117⟩ := hS2.2.2.2 k hkl
  obtain ⟨_, h3k, _, _, d13, d14⟩ := hG.2.1 k hkl
  have next : rdy S (sg2 S y).1 y k = false → wp_Model_sort_160 z Q cc (ad e 100) (Int32.ofNat k) (mem e w F2 L g) := by
    intro hr
    unfold wp_Model_sort_160 wp_Model_sort_163
    refine hk ((S 0 4 - y) * (S 0 4 + 1) + (S 0 4 - (k + 1))) _ (by omega) ⟨y, k + 1, F2, rfl, hy, by omega, hsy, by rw [n_inc], r1, r2, r3, r4, r5, fun j hj => ?_⟩
    by_cases e0 : j = k
    · rw [e0]; exact hr
    · exact r6 j (by omega)
  repeat (first | ((with_reducible show ∃ _, _ ∧ _); first | refine s_fI (by rfl) (by rfl) (by rfl) ?_ | refine s_fR (by rfl) (by rfl) (by rfl) ?_ | refine s_pV (by rfl) (by rfl) (Nat.le_of_ble_eq_true rfl) (by rfl) ?_) | ((with_reducible show xcls _ _ _ ∧ _); refine s_cls (by rfl) (by rfl) ?_))
  refine s_aI (i := 300 + k) (by rfl) (by rfl) (by rfl) (by exact n_add 300 k) (by omega) (by decide) ?_
  rw [f115, n_half (by omega), show 2 * S 12 k / 2 = S 12 k by omega]
  rintro v5 rfl
  repeat (first | ((with_reducible show ∃ _, _ ∧ _); first | refine s_fI (by rfl) (by rfl) (by rfl) ?_ | refine s_fR (by rfl) (by rfl) (by rfl) ?_ | refine s_pV (by rfl) (by rfl) (Nat.le_of_ble_eq_true rfl) (by rfl) ?_) | ((with_reducible show xcls _ _ _ ∧ _); refine s_cls (by rfl) (by rfl) ?_))
  refine s_aI (i := S 12 k) (by rfl) (by rfl) (by rfl) (by rfl) (by exact v1) (by decide) ?_
  have hiff := mcm_cmv (o := (sg2 S y).1) (y := y) (hG.2.2.2.2.2.1 (S 12 k)) (by omega)
  cases hcv : cmv S (sg2 S y).1 y (S 12 k)
  rotate_left
  · rw [(r4 _ v1).1 (hiff.mpr hcv)]
    refine ⟨fun _ => next ?_, fun hh => absurd hh (by decide)⟩
    cases hh : rdy S (sg2 S y).1 y k
    · rfl
    · rw [(rdy_iff.mp hh).1] at hcv; cases hcv
  rw [(r4 _ v1).2 (fun hm => by have := hiff.mp hm; rw [hcv] at this; cases this)]
  refine ⟨fun hh => absurd rfl hh, fun _ => ?_⟩
  repeat (first | ((with_reducible show ∃ _, _ ∧ _); first | refine s_fI (by rfl) (by rfl) (by rfl) ?_ | refine s_fR (by rfl) (by rfl) (by rfl) ?_ | refine s_pV (by rfl) (by rfl) (Nat.le_of_ble_eq_true rfl) (by rfl) ?_) | ((with_reducible show xcls _ _ _ ∧ _); refine s_cls (by rfl) (by rfl) ?_))
  refine s_aI (i := 300 + k) (by rfl) (by rfl) (by rfl) (by exact n_add 300 k) (by omega) (by decide) ?_
  rw [f116]
  repeat (first | ((with_reducible show ∃ _, _ ∧ _); first | refine s_fI (by rfl) (by rfl) (by rfl) ?_ | refine s_fR (by rfl) (by rfl) (by rfl) ?_ | refine s_pV (by rfl) (by rfl) (Nat.le_of_ble_eq_true rfl) (by rfl) ?_) | ((with_reducible show xcls _ _ _ ∧ _); refine s_cls (by rfl) (by rfl) ?_))
  refine m_hasCome (o := (sg2 S y).1) (y := y) hG (by omega) d13 r4 (fun hl => ⟨fun hh => absurd hh (by decide), fun _ => ?_⟩) (fun hl => ⟨fun _ => next ?_, fun hh => absurd rfl hh⟩)
  rotate_left
  · cases hh : rdy S (sg2 S y).1 y k
    · rfl
    · rw [(rdy_iff.mp hh).2.1] at hl; cases hl
  repeat (first | ((with_reducible show ∃ _, _ ∧ _); first | refine s_fI (by rfl) (by rfl) (by rfl) ?_ | refine s_fR (by rfl) (by rfl) (by rfl) ?_ | refine s_pV (by rfl) (by rfl) (Nat.le_of_ble_eq_true rfl) (by rfl) ?_) | ((with_reducible show xcls _ _ _ ∧ _); refine s_cls (by rfl) (by rfl) ?_))
  refine s_aI (i := 300 + k) (by rfl) (by rfl) (by rfl) (by exact n_add 300 k) (by omega) (by decide) ?_
  rw [f117]
  repeat (first | ((with_reducible show ∃ _, _ ∧ _); first | refine s_fI (by rfl) (by rfl) (by rfl) ?_ | refine s_fR (by rfl) (by rfl) (by rfl) ?_ | refine s_pV (by rfl) (by rfl) (Nat.le_of_ble_eq_true rfl) (by rfl) ?_) | ((with_reducible show xcls _ _ _ ∧ _); refine s_cls (by rfl) (by rfl) ?_))
  refine m_hasCome (o := (sg2 S y).1) (y := y) hG (by omega) d14 r4 (fun hl2 => ⟨fun hh => absurd hh (by decide), fun _ => ?_⟩) (fun hl2 => ⟨fun _ => next ?_, fun hh => absurd rfl hh⟩)
  rotate_left
  · cases hh : rdy S (sg2 S y).1 y k
    · rfl
    · rw [(rdy_iff.mp hh).2.2] at hl2; cases hl2
  have hr : rdy S (sg2 S y).1 y k = true := rdy_iff.mpr ⟨hcv, hl, hl2⟩
  have hfk : fst S (sg2 S y).1 y = k := fd_eq (by omega) (fun _ => hr) r6
  have hyA : y < S 0 4 := by
    apply Classical.byContradiction
    intro hn
    have hyy : y = S 0 4 := by omega
    rw [hyy] at hO
    obtain ⟨i, hi, hoi⟩ := ODR_all hG hO hkl
    have : cmv S (sg2 S y).1 y (S 12 k) = true := by
      refine cmv_iff.mpr (Or.inr ⟨i, by omega, ?_⟩)
      rw [hyy, hoi]
    rw [hcv] at this; cases this
  have e1 : sg2 S (y + 1) = (upN (sg2 S y).1 y k, y + 1) := by
    show (if _ then _ else _) = _
    rw [hsy, hfk, if_pos hkl]
  repeat (first | ((with_reducible show ∃ _, _ ∧ _); first | refine s_fI (by rfl) (by rfl) (by rfl) ?_ | refine s_fR (by rfl) (by rfl) (by rfl) ?_ | refine s_pV (by rfl) (by rfl) (Nat.le_of_ble_eq_true rfl) (by rfl) ?_) | ((with_reducible show xcls _ _ _ ∧ _); refine s_cls (by rfl) (by rfl) ?_))
  refine s_sI (i := S 12 k) (by rfl) (by rfl) (by rfl) (by rfl) (by rfl) (by exact v1) (by decide) ?_
  repeat (first | ((with_reducible show ∃ _, _ ∧ _); first | refine s_fI (by rfl) (by rfl) (by rfl) ?_ | refine s_fR (by rfl) (by rfl) (by rfl) ?_ | refine s_pV (by rfl) (by rfl) (Nat.le_of_ble_eq_true rfl) (by rfl) ?_) | ((with_reducible show xcls _ _ _ ∧ _); refine s_cls (by rfl) (by rfl) ?_))
  rw [up_k (by decide), r3]
  refine s_sI (i := y) (by rfl) (by rfl) (by rfl) (by rfl) (by rfl) (by omega) (by decide) ?_
  repeat (first | ((with_reducible show ∃ _, _ ∧ _); first | refine s_fI (by rfl) (by rfl) (by rfl) ?_ | refine s_fR (by rfl) (by rfl) (by rfl) ?_ | refine s_pV (by rfl) (by rfl) (Nat.le_of_ble_eq_true rfl) (by rfl) ?_) | ((with_reducible show xcls _ _ _ ∧ _); refine s_cls (by rfl) (by rfl) ?_))
  rw [up_k (by decide), up_k (by decide), r3, n_inc]
  unfold wp_Model_sort_163
  have hmeas : (S 0 4 - (y + 1)) * (S 0 4 + 1) + (S 0 4 - 0) < (S 0 4 - y) * (S 0 4 + 1) + (S 0 4 - k) := by
    rw [show S 0 4 - y = (S 0 4 - (y + 1)) + 1 by omega, Nat.succ_mul]
    omega
  refine hk _ _ hmeas ⟨y + 1, 0, _, rfl, by omega, Nat.zero_le _, by rw [e1], rfl, fun q q1 q2 q3 => by rw [up_k q1, up_k q2, up_k q3]; exact r1 q q1 q2 q3, fun j hj => by rw [up_i, if_neg hj, up_k (by decide), up_k (by decide)]; exact r2 j hj, by rw [up_i, if_pos rfl], fun v hv => ?_, fun i hi => ?_, fun j hj => by omega⟩
  · rw [e1, up_k (by decide), up_k (by decide), up_i]
    have hm : mcm S (upN (sg2 S y).1 y k) (y + 1) v ↔ v = S 12 k ∨ mcm S (sg2 S y).1 y v := by
      unfold mcm
      constructor
      · rintro (h | h | ⟨i, hi, he⟩)
        · exact Or.inr (Or.inl h)
        · exact Or.inr (Or.inr (Or.inl h))
        · by_cases e2 : i = y
          · rw [e2, upN_eq] at he; exact Or.inl he.symm
          · rw [upN_ne e2] at he; exact Or.inr (Or.inr (Or.inr ⟨i, by omega, he⟩))
      · rintro (h | h | h | ⟨i, hi, he⟩)
        · exact Or.inr (Or.inr ⟨y, by omega, by rw [upN_eq, h]⟩)
        · exact Or.inl h
        · exact Or.inr (Or.inl h)
        · exact Or.inr (Or.inr ⟨i, by omega, by rw [upN_ne (by omega)]; exact he⟩)
    by_cases e2 : v = S 12 k
    · rw [if_pos e2]
      exact ⟨fun _ => rfl, fun hn => absurd (hm.mpr (Or.inl e2)) hn⟩
    · rw [if_neg e2]
      refine ⟨fun hh => (r4 v hv).1 ?_, fun hh => (r4 v hv).2 (fun h2 => hh (hm.mpr (Or.inr h2)))⟩
      rcases hm.mp hh with h3 | h3
      · exact absurd h3 e2
      · exact h3
  · rw [e1, up_k (by decide), up_i]
    dsimp only
    by_cases e2 : i = y
    · rw [if_pos e2, e2, upN_eq]
    · rw [if_neg e2, upN_ne e2, up_k (by decide)]; exact r5 i (by omega)
end
