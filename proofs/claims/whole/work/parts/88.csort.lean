/-! The class's sorter. -/
/-- what the sorter reads of the circuit -/
def SC0 (F : Nat → Nat → Int32) (S : RW) : Prop := F 40 1 = Int32.ofNat (S 0 0) ∧ F 40 5 = Int32.ofNat (S 0 4) ∧ (∀ v, v < 201 → F 41 v = Int32.ofNat (S 8 v)) ∧ (∀ k, k < S 0 4 → F 69 k = Int32.ofNat (S 12 k) ∧ F 42 (S 12 k) = Int32.ofNat (S 13 k) ∧ F 43 (S 12 k) = Int32.ofNat (S 14 k))
theorem SC0.kept {F F' : Nat → Nat → Int32} {S : RW} (h : SC0 F S) (hk : ∀ k, k ≠ 48 → k ≠ 68 → k < 70 ∨ 72 < k → F' k = F k) : SC0 F' S := by
  unfold SC0
  rw [hk 40 (by decide) (by decide) (by decide), hk 41 (by decide) (by decide) (by decide), hk 42 (by decide) (by decide) (by decide), hk 43 (by decide) (by decide) (by decide), hk 69 (by decide) (by decide) (by decide)]
  exact h
section
variable {e : xenv} {w : Bool} {L : Nat → Nat → Int64} {g : xh} {z : Nat → Nat} {b : Nat → Nat} {n : Nat} {F0 F F' : Nat → Nat → Int32} {S S' : RW} {p q s nu : Nat} {Q Q' : Int32 → xh → Prop}
theorem GA.v12 (hG : GA S) {k : Nat} (hk : k < S 0 4) : S 12 k < 201 ∧ S 13 k < 402 ∧ S 14 k < 402 := by
  have h1 := hG.1.1
  have h2 := (hG.2.1 k hk).2.1.2.1
  have h3 := (hG.2.1 k hk).2.2.2.1
  omega
theorem n_hlf {x : Nat} (h : x < 2147483648) : Int32.ofNat x >>> ((1 : Int32) &&& 31) = Int32.ofNat (x / 2) := by
  rw [show (1 : Int32) = Int32.ofNat 1 from rfl, n_shr h (by decide)]
theorem b01 (c : Bool) : Int32.ofNat c.toNat = 0 ↔ c = false := by cases c <;> decide
theorem c_ready {o : Nat → Nat} {y : Nat} (hG : GA S) (hS : SC0 F S) (hC : ∀ v, v < 201 → F 70 v = Int32.ofNat (cmv S o y v).toNat)
    (h0 : ¬ fst S o y < S 0 4 → Q (-1) (mem e w F L g)) (h1 : fst S o y < S 0 4 → Q (Int32.ofNat (fst S o y)) (mem e w F L g)) : wp_Sorter_firstReady z Q (ad e 68) (ad e 40) (mem e w F L g) := by
  have hA := hG.1.2
  unfold wp_Sorter_firstReady wp_Sorter_firstReady_2
  refine xloop_dn (fun m a => ∃ k, m = S 0 4 - k ∧ k ≤ S 0 4 ∧ a = (ad e 68, ad e 40, Int32.ofNat k, mem e w F L g) ∧ ∀ j, j < k → rdy S o y j = false) ?_ (S 0 4) _ ⟨0, rfl, Nat.zero_le _, rfl, fun j hj => by omega⟩
  rintro m a cc ⟨k, rfl, hk1, rfl, hno⟩ hk
  unfold wp_Sorter_firstReady_2_b; dsimp only
  repeat (first | ((with_reducible show ∃ _, _ ∧ _); first | refine s_fI (by rfl) (by rfl) (by rfl) ?_ | refine s_fR (by rfl) (by rfl) (by rfl) ?_ | refine s_pV (by rfl) (by rfl) (Nat.le_of_ble_eq_true rfl) (by rfl) ?_) | ((with_reducible show xcls _ _ _ ∧ _); refine s_cls (by rfl) (by rfl) ?_))
  rw [hS.2.1]
  refine ⟨fun hc => ?_, fun hc => ?_⟩ <;> rw [n_le (by omega) (by omega)] at hc
  · refine h0 (fun hf => ?_)
    have hr := (fd_spec (rdy S o y) (S 0 4)).2.1 hf
    have := hno (fst S o y) (by omega)
    unfold fst at this
    rw [hr] at this; cases this
  have hkl : k < S 0 4 := by omega
  obtain ⟨v1, v2, v3⟩ := hG.v12 hkl
  obtain ⟨f69, f42, f43⟩ := hS.2.2.2 k hkl
  have next : rdy S o y k = false → wp_Sorter_firstReady_60 z Q cc (ad e 68) (ad e 40) (Int32.ofNat k) (mem e w F L g) := by
    intro hr
    unfold wp_Sorter_firstReady_60
    refine hk (S 0 4 - (k + 1)) _ (by omega) ⟨k + 1, rfl, by omega, by rw [n_inc], fun j hj => ?_⟩
    by_cases e0 : j = k
    · rw [e0]; exact hr
    · exact hno j (by omega)
  repeat (first | ((with_reducible show ∃ _, _ ∧ _); first | refine s_fI (by rfl) (by rfl) (by rfl) ?_ | refine s_fR (by rfl) (by rfl) (by rfl) ?_ | refine s_pV (by rfl) (by rfl) (Nat.le_of_ble_eq_true rfl) (by rfl) ?_) | ((with_reducible show xcls _ _ _ ∧ _); refine s_cls (by rfl) (by rfl) ?_))
  refine s_aI (i := k) (by rfl) (by rfl) (by rfl) (by rfl) (by omega) (by decide) ?_
  rw [f69]
  repeat (first | ((with_reducible show ∃ _, _ ∧ _); first | refine s_fI (by rfl) (by rfl) (by rfl) ?_ | refine s_fR (by rfl) (by rfl) (by rfl) ?_ | refine s_pV (by rfl) (by rfl) (Nat.le_of_ble_eq_true rfl) (by rfl) ?_) | ((with_reducible show xcls _ _ _ ∧ _); refine s_cls (by rfl) (by rfl) ?_))
  refine s_aI (i := S 12 k) (by rfl) (by rfl) (by rfl) (by rfl) (by exact v1) (by decide) ?_
  rw [hC _ v1, b01]
  refine ⟨fun hc1 => next ?_, fun hc1 => ?_⟩
  · cases hh : rdy S o y k
    · rfl
    · exact absurd (rdy_iff.mp hh).1 hc1
  repeat (first | ((with_reducible show ∃ _, _ ∧ _); first | refine s_fI (by rfl) (by rfl) (by rfl) ?_ | refine s_fR (by rfl) (by rfl) (by rfl) ?_ | refine s_pV (by rfl) (by rfl) (Nat.le_of_ble_eq_true rfl) (by rfl) ?_) | ((with_reducible show xcls _ _ _ ∧ _); refine s_cls (by rfl) (by rfl) ?_))
  refine s_aI (i := S 12 k) (by rfl) (by rfl) (by rfl) (by rfl) (by exact v1) (by decide) ?_
  rw [f42, n_hlf (by omega)]
  refine s_aI (i := S 13 k / 2) (by rfl) (by rfl) (by rfl) (by rfl) (by omega) (by decide) ?_
  rw [hC _ (by omega), b01]
  refine ⟨fun hc2 => next ?_, fun hc2 => ?_⟩
  · cases hh : rdy S o y k
    · rfl
    · rw [(rdy_iff.mp hh).2.1] at hc2; cases hc2
  repeat (first | ((with_reducible show ∃ _, _ ∧ _); first | refine s_fI (by rfl) (by rfl) (by rfl) ?_ | refine s_fR (by rfl) (by rfl) (by rfl) ?_ | refine s_pV (by rfl) (by rfl) (Nat.le_of_ble_eq_true rfl) (by rfl) ?_) | ((with_reducible show xcls _ _ _ ∧ _); refine s_cls (by rfl) (by rfl) ?_))
  refine s_aI (i := S 12 k) (by rfl) (by rfl) (by rfl) (by rfl) (by exact v1) (by decide) ?_
  rw [f43, n_hlf (by omega)]
  refine s_aI (i := S 14 k / 2) (by rfl) (by rfl) (by rfl) (by rfl) (by omega) (by decide) ?_
  rw [hC _ (by omega), b01]
  refine ⟨fun hc3 => next ?_, fun hc3 => ?_⟩
  · cases hh : rdy S o y k
    · rfl
    · rw [(rdy_iff.mp hh).2.2] at hc3; cases hc3
  have hr : rdy S o y k = true := rdy_iff.mpr ⟨hc1, by cases hh : cmv S o y (S 13 k / 2); exact absurd hh hc2; rfl, by cases hh : cmv S o y (S 14 k / 2); exact absurd hh hc3; rfl⟩
  have hfk : fst S o y = k := fd_eq (by omega) (fun _ => hr) hno
  have := h1 (by rw [hfk]; exact hkl)
  rw [hfk] at this; exact this
theorem c_sort (hG : GA S) (hS : SC0 F S)
    (h1 : (sg2 S (S 0 4)).2 = S 0 4 → ∀ F', (∀ k, k ≠ 48 → k ≠ 70 → F' k = F k) → (∀ y, y < S 0 4 → F' 48 y = Int32.ofNat (S 12 ((sg2 S (S 0 4)).1 y))) → Q 1 (mem e w F' L g))
    (h0 : (sg2 S (S 0 4)).2 < S 0 4 → ∀ F', (∀ k, k ≠ 48 → k ≠ 70 → F' k = F k) → (∀ v, v < 201 → F' 70 v = Int32.ofNat (cmv S (sg2 S (S 0 4)).1 (sg2 S (S 0 4)).2 v).toNat) → Q 0 (mem e w F' L g)) : wp_Sorter_sort z Q (ad e 68) (ad e 40) (mem e w F L g) := by
  have hA := hG.1.2
  unfold wp_Sorter_sort wp_Sorter_sort_2
  refine xloop_dn (fun m a => ∃ v F1, m = 201 - v ∧ v ≤ 201 ∧ a = (ad e 68, ad e 40, Int32.ofNat v, mem e w F1 L g) ∧ (∀ k, k ≠ 48 → k ≠ 70 → F1 k = F k) ∧ ∀ u, u < v → F1 70 u = Int32.ofNat (cmv S (fun _ => 0) 0 u).toNat) ?_ 201 _ ⟨0, F, rfl, by decide, rfl, fun _ _ _ => rfl, fun u hu => by omega⟩
  rintro m a cc ⟨v, F1, rfl, hv, rfl, g1, g2⟩ hk
  unfold wp_Sorter_sort_2_b; dsimp only
  refine ⟨fun hc => ?_, fun hc => ?_⟩ <;> rw [show (201 : Int32) = Int32.ofNat 201 from rfl, n_le (by decide) (by omega)] at hc
  rotate_left
  · repeat (first | ((with_reducible show ∃ _, _ ∧ _); first | refine s_fI (by rfl) (by rfl) (by rfl) ?_ | refine s_fR (by rfl) (by rfl) (by rfl) ?_ | refine s_pV (by rfl) (by rfl) (Nat.le_of_ble_eq_true rfl) (by rfl) ?_) | ((with_reducible show xcls _ _ _ ∧ _); refine s_cls (by rfl) (by rfl) ?_))
    refine s_aI (i := v) (by rfl) (by rfl) (by rfl) (by rfl) (by omega) (by decide) ?_
    have h83 := hG.2.2.2.2.2.1 v
    rw [g1 41 (by decide) (by decide), hS.2.2.1 v (by omega), show (3 : Int32) = Int32.ofNat 3 from rfl, n_eq (by omega) (by decide)]
    have put : ∀ c : Bool, c = cmv S (fun _ => 0) 0 v → wp_Sorter_sort_29 z Q cc (ad e 68) (ad e 40) (Int32.ofNat v) (Int32.ofNat c.toNat) (Int32.ofNat v) (ad e 70) (mem e w F1 L g) := by
      intro c hc'
      unfold wp_Sorter_sort_29
      rw [nar01]
      refine s_sI (i := v) (by rfl) (by rfl) (by rfl) (by rfl) (by rfl) (by omega) (by decide) ?_
      refine hk (201 - (v + 1)) _ (by omega) ⟨v + 1, _, rfl, by omega, by rw [n_inc], fun k q1 q2 => by rw [up_k q2]; exact g1 k q1 q2, fun u hu => ?_⟩
      rw [up_i]
      by_cases e0 : u = v
      · rw [if_pos e0, e0, hc']
      · rw [if_neg e0]; exact g2 u (by omega)
    refine ⟨fun h3 => put false ?_, fun h3 => put true ?_⟩
    · cases hh : cmv S (fun _ => 0) 0 v
      · rfl
      · rcases cmv_iff.mp hh with h4 | ⟨i, hi, _⟩
        · exact absurd h3 h4
        · omega
    · exact (cmv_iff.mpr (Or.inl h3)).symm
  clear hk
  have hv' : v = 201 := by omega
  subst hv'
  unfold wp_Sorter_sort_38
  refine xloop_dn (fun m a => ∃ y F2, m = S 0 4 - y ∧ y ≤ S 0 4 ∧ (sg2 S y).2 = y ∧ a = (ad e 68, ad e 40, Int32.ofNat y, mem e w F2 L g) ∧ (∀ k, k ≠ 48 → k ≠ 70 → F2 k = F k) ∧ (∀ u, u < 201 → F2 70 u = Int32.ofNat (cmv S (sg2 S y).1 y u).toNat) ∧ (∀ i, i < y → F2 48 i = Int32.ofNat (S 12 ((sg2 S y).1 i)))) ?_ (S 0 4) _ ⟨0, F1, rfl, Nat.zero_le _, rfl, rfl, g1, g2, fun i hi => by omega⟩
  rintro m a cc ⟨y, F2, rfl, hy, hsy, rfl, r1, r2, r3⟩ hk
  unfold wp_Sorter_sort_38_b; dsimp only
  repeat (first | ((with_reducible show ∃ _, _ ∧ _); first | refine s_fI (by rfl) (by rfl) (by rfl) ?_ | refine s_fR (by rfl) (by rfl) (by rfl) ?_ | refine s_pV (by rfl) (by rfl) (Nat.le_of_ble_eq_true rfl) (by rfl) ?_) | ((with_reducible show xcls _ _ _ ∧ _); refine s_cls (by rfl) (by rfl) ?_))
  have hS2 : SC0 F2 S := hS.kept (fun k q1 q2 q3 => r1 k q1 (by omega))
  rw [hS2.2.1]
  refine ⟨fun hc => ?_, fun hc => ?_⟩ <;> rw [n_le (by omega) (by omega)] at hc
  · have : y = S 0 4 := by omega
    subst this
    exact h1 hsy F2 r1 r3
  repeat (first | ((with_reducible show ∃ _, _ ∧ _); first | refine s_fI (by rfl) (by rfl) (by rfl) ?_ | refine s_fR (by rfl) (by rfl) (by rfl) ?_ | refine s_pV (by rfl) (by rfl) (Nat.le_of_ble_eq_true rfl) (by rfl) ?_) | ((with_reducible show xcls _ _ _ ∧ _); refine s_cls (by rfl) (by rfl) ?_))
  have hst : ¬ fst S (sg2 S y).1 y < S 0 4 → (sg2 S (y + 1)).2 = y := fun hf => by
    unfold sg2; rw [hsy, if_neg hf]; exact hsy
  refine c_ready hG hS2 r2 (fun hf => ⟨fun hh => absurd rfl hh, fun _ => ?_⟩) (fun hf => ⟨fun _ => ?_, fun hh => ?_⟩)
  · have hsame := sg2_same S (m := y + 1) (by rw [hst hf]; omega) (S 0 4) (by omega)
    have e1 : sg2 S (y + 1) = sg2 S y := by
      show (if _ then _ else _) = _
      rw [hsy, if_neg hf]
    refine h0 (by rw [hsame, hst hf]; omega) F2 r1 (fun u hu => ?_)
    rw [hsame, e1, hsy]; exact r2 u hu
  · generalize hkk : fst S (sg2 S y).1 y = kk at *
    obtain ⟨v1, v2, v3⟩ := hG.v12 hf
    obtain ⟨f69, f42, f43⟩ := hS2.2.2.2 kk hf
    repeat (first | ((with_reducible show ∃ _, _ ∧ _); first | refine s_fI (by rfl) (by rfl) (by rfl) ?_ | refine s_fR (by rfl) (by rfl) (by rfl) ?_ | refine s_pV (by rfl) (by rfl) (Nat.le_of_ble_eq_true rfl) (by rfl) ?_) | ((with_reducible show xcls _ _ _ ∧ _); refine s_cls (by rfl) (by rfl) ?_))
    refine s_aI (i := kk) (by rfl) (by rfl) (by rfl) (by rfl) (by omega) (by decide) ?_
    rw [f69]
    refine s_sI (i := y) (by rfl) (by rfl) (by rfl) (by rfl) (by rfl) (by omega) (by decide) ?_
    repeat (first | ((with_reducible show ∃ _, _ ∧ _); first | refine s_fI (by rfl) (by rfl) (by rfl) ?_ | refine s_fR (by rfl) (by rfl) (by rfl) ?_ | refine s_pV (by rfl) (by rfl) (Nat.le_of_ble_eq_true rfl) (by rfl) ?_) | ((with_reducible show xcls _ _ _ ∧ _); refine s_cls (by rfl) (by rfl) ?_))
    refine s_aI (i := kk) (by rfl) (by rfl) (by rfl) (by rfl) (by omega) (by decide) ?_
    rw [up_k (by decide), f69]
    refine s_sI (i := S 12 kk) (by rfl) (by rfl) (by rfl) (by rfl) (by rfl) (by exact v1) (by decide) ?_
    have e1 : sg2 S (y + 1) = (upN (sg2 S y).1 y kk, y + 1) := by
      show (if _ then _ else _) = _
      rw [hsy, hkk, if_pos hf]
    refine hk (S 0 4 - (y + 1)) _ (by omega) ⟨y + 1, _, rfl, by omega, by rw [e1], by rw [n_inc], fun k q1 q2 => by rw [up_k q2, up_k q1]; exact r1 k q1 q2, fun u hu => ?_, fun i hi => ?_⟩
    · rw [e1, up_i, up_k (by decide)]
      have hcu : cmv S (upN (sg2 S y).1 y kk) (y + 1) u = true ↔ u = S 12 kk ∨ cmv S (sg2 S y).1 y u = true := by
        rw [cmv_iff, cmv_iff]
        constructor
        · rintro (h | ⟨i, hi, he⟩)
          · exact Or.inr (Or.inl h)
          · by_cases e2 : i = y
            · rw [e2, upN_eq] at he; exact Or.inl he.symm
            · rw [upN_ne e2] at he; exact Or.inr (Or.inr ⟨i, by omega, he⟩)
        · rintro (h | h | ⟨i, hi, he⟩)
          · exact Or.inr ⟨y, by omega, by rw [upN_eq, h]⟩
          · exact Or.inl h
          · exact Or.inr ⟨i, by omega, by rw [upN_ne (by omega)]; exact he⟩
      by_cases e2 : u = S 12 kk
      · rw [if_pos e2, hcu.mpr (Or.inl e2)]; rfl
      · rw [if_neg e2, r2 u hu]
        cases hh : cmv S (sg2 S y).1 y u
        · cases hh2 : cmv S (upN (sg2 S y).1 y kk) (y + 1) u
          · rfl
          · rcases hcu.mp hh2 with h3 | h3
            · exact absurd h3 e2
            · rw [hh] at h3; cases h3
        · rw [hcu.mpr (Or.inr hh)]
    · rw [e1, up_k (by decide), up_i]
      dsimp only
      by_cases e2 : i = y
      · rw [if_pos e2, e2, upN_eq]
      · rw [if_neg e2, upN_ne e2]; exact r3 i (by omega)
  · have : Int32.ofNat (fst S (sg2 S y).1 y) = Int32.ofNat 4294967295 := hh
    have := n_inj (by omega) (by decide) this
    omega
/-- what comesBack has seen -/
def SE (F : Nat → Nat → Int32) (sn ls : Nat → Nat) (cnt : Nat) : Prop := F 68 4 = Int32.ofNat cnt ∧ (∀ x, x < 201 → F 71 x = Int32.ofNat (sn x)) ∧ (∀ x, sn x ≤ 1) ∧ (∀ i, i < cnt → F 72 i = Int32.ofNat (ls i) ∧ ls i < 201 ∧ sn (ls i) = 1) ∧ nz sn 201 = cnt ∧ (∀ x, x < 201 → sn x = 1 → ∃ i, i < cnt ∧ ls i = x)
theorem c_reach {Q : xh → Prop} {sn ls : Nat → Nat} {cnt x : Nat} (hE : SE F sn ls cnt) (hx : x < 201)
    (h : ∀ F' sn' ls' cnt', (∀ k, k ≠ 68 → k ≠ 71 → k ≠ 72 → F' k = F k) → SE F' sn' ls' cnt' → cnt ≤ cnt' → (∀ i, i < cnt → ls' i = ls i) → (∀ u, u < 201 → (sn' u = 1 ↔ sn u = 1 ∨ u = x)) → (∀ i, cnt ≤ i → i < cnt' → ls' i = x) → Q (mem e w F' L g)) : wp_Sorter_reach z Q (ad e 68) (Int32.ofNat x) (mem e w F L g) := by
  obtain ⟨a1, a2, a3, a4, a5, a6⟩ := hE
  have hc := nz_le sn 201
  unfold wp_Sorter_reach
  repeat (first | ((with_reducible show ∃ _, _ ∧ _); first | refine s_fI (by rfl) (by rfl) (by rfl) ?_ | refine s_fR (by rfl) (by rfl) (by rfl) ?_ | refine s_pV (by rfl) (by rfl) (Nat.le_of_ble_eq_true rfl) (by rfl) ?_) | ((with_reducible show xcls _ _ _ ∧ _); refine s_cls (by rfl) (by rfl) ?_))
  refine s_aI (i := x) (by rfl) (by rfl) (by rfl) (by rfl) (by exact hx) (by decide) ?_
  have hx1 := a3 x
  rw [a2 x hx, show (0 : Int32) = Int32.ofNat 0 from rfl, n_eq (by omega) (by decide)]
  refine ⟨fun hs => ?_, fun hs => ?_⟩
  · exact h F sn ls cnt (fun _ _ _ _ => rfl) ⟨a1, a2, a3, a4, a5, a6⟩ (Nat.le_refl _) (fun _ _ => rfl) (fun u hu => ⟨Or.inl, fun hh => hh.elim id (fun hh => by rw [hh]; omega)⟩) (fun i h1 h2 => by omega)
  have hlt : nz sn 201 < 201 := nz_lt hs 201 hx
  repeat (first | ((with_reducible show ∃ _, _ ∧ _); first | refine s_fI (by rfl) (by rfl) (by rfl) ?_ | refine s_fR (by rfl) (by rfl) (by rfl) ?_ | refine s_pV (by rfl) (by rfl) (Nat.le_of_ble_eq_true rfl) (by rfl) ?_) | ((with_reducible show xcls _ _ _ ∧ _); refine s_cls (by rfl) (by rfl) ?_))
  refine s_sI (i := x) (by rfl) (by rfl) (by rfl) (by rfl) (by rfl) (by exact hx) (by decide) ?_
  repeat (first | ((with_reducible show ∃ _, _ ∧ _); first | refine s_fI (by rfl) (by rfl) (by rfl) ?_ | refine s_fR (by rfl) (by rfl) (by rfl) ?_ | refine s_pV (by rfl) (by rfl) (Nat.le_of_ble_eq_true rfl) (by rfl) ?_) | ((with_reducible show xcls _ _ _ ∧ _); refine s_cls (by rfl) (by rfl) ?_))
  rw [up_k (by decide), a1]
  refine s_sI (i := cnt) (by rfl) (by rfl) (by rfl) (by rfl) (by rfl) (by omega) (by decide) ?_
  repeat (first | ((with_reducible show ∃ _, _ ∧ _); first | refine s_fI (by rfl) (by rfl) (by rfl) ?_ | refine s_fR (by rfl) (by rfl) (by rfl) ?_ | refine s_pV (by rfl) (by rfl) (Nat.le_of_ble_eq_true rfl) (by rfl) ?_) | ((with_reducible show xcls _ _ _ ∧ _); refine s_cls (by rfl) (by rfl) ?_))
  rw [up_k (by decide), up_k (by decide), a1, n_inc]
  refine h _ (upN sn x 1) (upN ls cnt x) (cnt + 1) (fun k q1 q2 q3 => by rw [up_k q1, up_k q3, up_k q2]) ⟨by rw [up_i, if_pos rfl], fun u hu => ?_, fun u => ?_, fun i hi => ?_, ?_, fun u hu hsu => ?_⟩ (by omega) (fun i hi => upN_ne (by omega)) (fun u hu => ?_) (fun i h1 h2 => ?_)
  · rw [up_k (by decide), up_k (by decide), up_i]
    by_cases e0 : u = x
    · rw [if_pos e0, e0, upN_eq]; rfl
    · rw [if_neg e0, upN_ne e0]; exact a2 u hu
  · by_cases e0 : u = x
    · rw [e0, upN_eq]; omega
    · rw [upN_ne e0]; exact a3 u
  · rw [up_k (by decide), up_i]
    by_cases e0 : i = cnt
    · rw [if_pos e0, e0, upN_eq, upN_eq]; exact ⟨rfl, hx, rfl⟩
    · rw [if_neg e0, upN_ne e0, up_k (by decide)]
      obtain ⟨b1, b2, b3⟩ := a4 i (by omega)
      refine ⟨b1, b2, ?_⟩
      rw [upN_ne (fun ee => by rw [ee] at b3; omega)]; exact b3
  · rw [nz_up hs (by decide), a5, if_pos hx]
  · by_cases e0 : u = x
    · exact ⟨cnt, by omega, by rw [upN_eq, e0]⟩
    · rw [upN_ne e0] at hsu
      obtain ⟨i, hi, he⟩ := a6 u hu hsu
      exact ⟨i, by omega, by rw [upN_ne (by omega)]; exact he⟩
  · by_cases e0 : u = x
    · rw [e0, upN_eq]; exact ⟨fun _ => Or.inr rfl, fun _ => rfl⟩
    · rw [upN_ne e0]; exact ⟨Or.inl, fun hh => hh.elim id (fun hh => absurd hh e0)⟩
  · rw [show i = cnt by omega, upN_eq]
theorem c_operands {Q : xh → Prop} {sn ls : Nat → Nat} {cnt x : Nat} (hG : GA S) (hS : SC0 F S) (hE : SE F sn ls cnt) (hx : x < 201)
    (h : ∀ F' sn' ls' cnt', (∀ k, k ≠ 68 → k ≠ 71 → k ≠ 72 → F' k = F k) → SE F' sn' ls' cnt' → cnt ≤ cnt' → (∀ i, i < cnt → ls' i = ls i) → (∀ u, u < 201 → (sn' u = 1 ↔ sn u = 1 ∨ Eg S x u)) → (∀ i, cnt ≤ i → i < cnt' → Eg S x (ls' i)) → Q (mem e w F' L g)) : wp_Sorter_reachOperands z Q (ad e 68) (ad e 40) (Int32.ofNat x) (mem e w F L g) := by
  unfold wp_Sorter_reachOperands
  repeat (first | ((with_reducible show ∃ _, _ ∧ _); first | refine s_fI (by rfl) (by rfl) (by rfl) ?_ | refine s_fR (by rfl) (by rfl) (by rfl) ?_ | refine s_pV (by rfl) (by rfl) (Nat.le_of_ble_eq_true rfl) (by rfl) ?_) | ((with_reducible show xcls _ _ _ ∧ _); refine s_cls (by rfl) (by rfl) ?_))
  refine s_aI (i := x) (by rfl) (by rfl) (by rfl) (by rfl) (by exact hx) (by decide) ?_
  have h83 := hG.2.2.2.2.2.1 x
  rw [hS.2.2.1 x hx, show (3 : Int32) = Int32.ofNat 3 from rfl, n_eq (by omega) (by decide)]
  refine ⟨fun h3 => ?_, fun h3 => ?_⟩
  · have hno : ∀ u, ¬ Eg S x u := by
      rintro u ⟨k, hk, he, _⟩
      have := (hG.2.1 k hk).2.1.1
      rw [he] at this; exact h3 this
    exact h F sn ls cnt (fun _ _ _ _ => rfl) hE (Nat.le_refl _) (fun _ _ => rfl) (fun u hu => ⟨Or.inl, fun hh => hh.elim id (fun hh => absurd hh (hno u))⟩) (fun i h1 h2 => by omega)
  obtain ⟨k, hk, he⟩ := hG.2.2.2.1 x h3
  obtain ⟨v1, v2, v3⟩ := hG.v12 hk
  obtain ⟨f69, f42, f43⟩ := hS.2.2.2 k hk
  have hEg : ∀ u, Eg S x u ↔ u = S 13 k / 2 ∨ u = S 14 k / 2 := by
    intro u
    constructor
    · rintro ⟨k', hk', he', hu⟩
      have := hG.2.2.1 k k' hk hk' (by rw [he, he'])
      rw [← this] at hu; exact hu
    · intro hu; exact ⟨k, hk, he, hu⟩
  repeat (first | ((with_reducible show ∃ _, _ ∧ _); first | refine s_fI (by rfl) (by rfl) (by rfl) ?_ | refine s_fR (by rfl) (by rfl) (by rfl) ?_ | refine s_pV (by rfl) (by rfl) (Nat.le_of_ble_eq_true rfl) (by rfl) ?_) | ((with_reducible show xcls _ _ _ ∧ _); refine s_cls (by rfl) (by rfl) ?_))
  refine s_aI (i := x) (by rfl) (by rfl) (by rfl) (by rfl) (by exact hx) (by decide) ?_
  rw [← he, f42, n_hlf (by omega)]
  repeat (first | ((with_reducible show ∃ _, _ ∧ _); first | refine s_fI (by rfl) (by rfl) (by rfl) ?_ | refine s_fR (by rfl) (by rfl) (by rfl) ?_ | refine s_pV (by rfl) (by rfl) (Nat.le_of_ble_eq_true rfl) (by rfl) ?_) | ((with_reducible show xcls _ _ _ ∧ _); refine s_cls (by rfl) (by rfl) ?_))
  refine c_reach hE (by omega) (fun F1 sn1 ls1 c1 k1 e1 l1 q1 s1 t1 => ?_)
  repeat (first | ((with_reducible show ∃ _, _ ∧ _); first | refine s_fI (by rfl) (by rfl) (by rfl) ?_ | refine s_fR (by rfl) (by rfl) (by rfl) ?_ | refine s_pV (by rfl) (by rfl) (Nat.le_of_ble_eq_true rfl) (by rfl) ?_) | ((with_reducible show xcls _ _ _ ∧ _); refine s_cls (by rfl) (by rfl) ?_))
  refine s_aI (i := S 12 k) (by rfl) (by rfl) (by rfl) (by rfl) (by exact v1) (by decide) ?_
  rw [k1 43 (by decide) (by decide) (by decide), f43, n_hlf (by omega)]
  repeat (first | ((with_reducible show ∃ _, _ ∧ _); first | refine s_fI (by rfl) (by rfl) (by rfl) ?_ | refine s_fR (by rfl) (by rfl) (by rfl) ?_ | refine s_pV (by rfl) (by rfl) (Nat.le_of_ble_eq_true rfl) (by rfl) ?_) | ((with_reducible show xcls _ _ _ ∧ _); refine s_cls (by rfl) (by rfl) ?_))
  refine c_reach e1 (by omega) (fun F2 sn2 ls2 c2 k2 e2 l2 q2 s2 t2 => ?_)
  refine h F2 sn2 ls2 c2 (fun q a1 a2 a3 => by rw [k2 q a1 a2 a3, k1 q a1 a2 a3]) e2 (by omega) (fun i hi => by rw [q2 i (by omega), q1 i hi]) (fun u hu => ?_) (fun i h1 h2 => ?_)
  · rw [s2 u hu, s1 u hu, hEg u]
    constructor
    · rintro ((h | h) | h)
      · exact Or.inl h
      · exact Or.inr (Or.inl h)
      · exact Or.inr (Or.inr h)
    · rintro (h | h | h)
      · exact Or.inl (Or.inl h)
      · exact Or.inl (Or.inr h)
      · exact Or.inr h
  · rw [hEg]
    by_cases hh : i < c1
    · rw [q2 i hh]; exact Or.inl (t1 i h1 hh)
    · exact Or.inr (t2 i (by omega) h2)
theorem Eg_lt (hG : GA S) {x u : Nat} (h : Eg S x u) : u < 201 := by
  obtain ⟨k, hk, _, hu⟩ := h
  have := hG.v12 hk
  rcases hu with rfl | rfl <;> omega
theorem Rc_lt (hG : GA S) {x u : Nat} (h : Rc S x u) : u < 201 := h (fun u => u < 201) (fun u hu => Eg_lt hG hu) (fun _ u _ hu => Eg_lt hG hu)
theorem c_comesBack {x : Nat} (hG : GA S) (hS : SC0 F S) (hx : x < 201)
    (h1 : Rc S x x → ∀ F', (∀ k, k ≠ 68 → k ≠ 71 → k ≠ 72 → F' k = F k) → Q 1 (mem e w F' L g))
    (h0 : ¬ Rc S x x → ∀ F', (∀ k, k ≠ 68 → k ≠ 71 → k ≠ 72 → F' k = F k) → Q 0 (mem e w F' L g)) : wp_Sorter_comesBack z Q (ad e 68) (ad e 40) (Int32.ofNat x) (mem e w F L g) := by
  unfold wp_Sorter_comesBack wp_Sorter_comesBack_2
  refine xloop_dn (fun m a => ∃ v F1, m = 201 - v ∧ v ≤ 201 ∧ a = (ad e 68, ad e 40, Int32.ofNat x, Int32.ofNat v, mem e w F1 L g) ∧ (∀ k, k ≠ 68 → k ≠ 71 → k ≠ 72 → F1 k = F k) ∧ ∀ u, u < v → F1 71 u = 0) ?_ 201 _ ⟨0, F, rfl, by decide, rfl, fun _ _ _ _ => rfl, fun u hu => by omega⟩
  rintro m a cc ⟨v, F1, rfl, hv, rfl, g1, g2⟩ hk
  unfold wp_Sorter_comesBack_2_b; dsimp only
  refine ⟨fun hc => ?_, fun hc => ?_⟩ <;> rw [show (201 : Int32) = Int32.ofNat 201 from rfl, n_le (by decide) (by omega)] at hc
  rotate_left
  · repeat (first | ((with_reducible show ∃ _, _ ∧ _); first | refine s_fI (by rfl) (by rfl) (by rfl) ?_ | refine s_fR (by rfl) (by rfl) (by rfl) ?_ | refine s_pV (by rfl) (by rfl) (Nat.le_of_ble_eq_true rfl) (by rfl) ?_) | ((with_reducible show xcls _ _ _ ∧ _); refine s_cls (by rfl) (by rfl) ?_))
    refine s_sI (i := v) (by rfl) (by rfl) (by rfl) (by rfl) (by rfl) (by omega) (by decide) ?_
    refine hk (201 - (v + 1)) _ (by omega) ⟨v + 1, _, rfl, by omega, by rw [n_inc], fun k q1 q2 q3 => by rw [up_k q2]; exact g1 k q1 q2 q3, fun u hu => ?_⟩
    rw [up_i]
    by_cases e0 : u = v
    · rw [if_pos e0]; rfl
    · rw [if_neg e0]; exact g2 u (by omega)
  clear hk
  have hv' : v = 201 := by omega
  subst hv'
  repeat (first | ((with_reducible show ∃ _, _ ∧ _); first | refine s_fI (by rfl) (by rfl) (by rfl) ?_ | refine s_fR (by rfl) (by rfl) (by rfl) ?_ | refine s_pV (by rfl) (by rfl) (Nat.le_of_ble_eq_true rfl) (by rfl) ?_) | ((with_reducible show xcls _ _ _ ∧ _); refine s_cls (by rfl) (by rfl) ?_))
  have hz : ∀ m, nz (fun _ => 0) m = 0 := by
    intro m
    induction m with
    | zero => rfl
    | succ m ih => rw [nz, ih]; rfl
  have hE0 : SE (up F1 68 4 0) (fun _ => 0) (fun _ => 0) 0 := ⟨by rw [up_i, if_pos rfl]; rfl, fun u hu => by rw [up_k (by decide)]; exact g2 u hu, fun _ => Nat.zero_le _, fun i hi => by omega, hz 201, fun u hu hh => by cases hh⟩
  have hS1 : SC0 (up F1 68 4 0) S := hS.kept (fun k q1 q2 q3 => by rw [up_k q2]; exact g1 k q2 (by omega) (by omega))
  refine c_operands hG hS1 hE0 hx (fun F2 sn2 ls2 c2 k2 e2 l2 q2 s2 t2 => ?_)
  have hF2 : ∀ k, k ≠ 68 → k ≠ 71 → k ≠ 72 → F2 k = F k := fun k a1 a2 a3 => by rw [k2 k a1 a2 a3, up_k a1, g1 k a1 a2 a3]
  have hS2 : SC0 F2 S := hS.kept (fun k q1 q2 q3 => hF2 k q2 (by omega) (by omega))
  -- the end
  have fin : ∀ F3 sn ls cnt, (∀ k, k ≠ 68 → k ≠ 71 → k ≠ 72 → F3 k = F k) → SE F3 sn ls cnt → (∀ u, u < 201 → sn u = 1 → Rc S x u) → (∀ u, Eg S x u → sn u = 1) → (∀ i, i < cnt → ∀ u, Eg S (ls i) u → sn u = 1) → wp_Sorter_comesBack_67 z Q (ad e 68) (Int32.ofNat x) (mem e w F3 L g) := by
    intro F3 sn ls cnt k3 e3 hsd hb hcl
    unfold wp_Sorter_comesBack_67
    have hiff : sn x = 1 ↔ Rc S x x := by
      refine ⟨hsd x hx, fun hr => ?_⟩
      exact (hr (fun u => u < 201 ∧ sn u = 1) (fun u hu => ⟨Eg_lt hG hu, hb u hu⟩) (fun y u hy hu => by
        obtain ⟨i, hi, he⟩ := e3.2.2.2.2.2 y hy.1 hy.2
        exact ⟨Eg_lt hG hu, hcl i hi u (by rw [he]; exact hu)⟩)).2
    repeat (first | ((with_reducible show ∃ _, _ ∧ _); first | refine s_fI (by rfl) (by rfl) (by rfl) ?_ | refine s_fR (by rfl) (by rfl) (by rfl) ?_ | refine s_pV (by rfl) (by rfl) (Nat.le_of_ble_eq_true rfl) (by rfl) ?_) | ((with_reducible show xcls _ _ _ ∧ _); refine s_cls (by rfl) (by rfl) ?_))
    refine s_aI (i := x) (by rfl) (by rfl) (by rfl) (by rfl) (by exact hx) (by decide) ?_
    have hx1 := e3.2.2.1 x
    rw [e3.2.1 x hx]
    by_cases hh : sn x = 1
    · rw [hh]; exact ⟨Or.inr rfl, h1 (hiff.mp hh) F3 k3⟩
    · rw [show sn x = 0 by omega]; exact ⟨Or.inl rfl, h0 (fun hr => hh (hiff.mpr hr)) F3 k3⟩
  unfold wp_Sorter_comesBack_35
  refine xloop_dn (fun m a => ∃ i sn ls cnt F3, m = 201 - i ∧ i ≤ cnt ∧ a = (ad e 68, ad e 40, Int32.ofNat x, Int32.ofNat i, mem e w F3 L g) ∧ (∀ k, k ≠ 68 → k ≠ 71 → k ≠ 72 → F3 k = F k) ∧ SE F3 sn ls cnt ∧ (∀ u, u < 201 → sn u = 1 → Rc S x u) ∧ (∀ u, Eg S x u → sn u = 1) ∧ (∀ j, j < i → ∀ u, Eg S (ls j) u → sn u = 1)) ?_ 201 _ ⟨0, sn2, ls2, c2, F2, rfl, Nat.zero_le _, rfl, hF2, e2, fun u hu hs => ?_, fun u hu => (s2 u (Eg_lt hG hu)).mpr (Or.inr hu), fun j hj => by omega⟩
  rotate_left
  · rcases (s2 u hu).mp hs with hh | hh
    · cases hh
    · exact Rc.base hh
  rintro m a cc ⟨i, sn, ls, cnt, F3, rfl, hi, rfl, k3, e3, hsd, hb, hcl⟩ hk
  unfold wp_Sorter_comesBack_35_b; dsimp only
  have hcn : cnt ≤ 201 := by have := nz_le sn 201; have := e3.2.2.2.2.1; omega
  repeat (first | ((with_reducible show ∃ _, _ ∧ _); first | refine s_fI (by rfl) (by rfl) (by rfl) ?_ | refine s_fR (by rfl) (by rfl) (by rfl) ?_ | refine s_pV (by rfl) (by rfl) (Nat.le_of_ble_eq_true rfl) (by rfl) ?_) | ((with_reducible show xcls _ _ _ ∧ _); refine s_cls (by rfl) (by rfl) ?_))
  rw [e3.1]
  refine ⟨fun hle => ?_, fun hle => ⟨fun h201 => ?_, fun h201 => ?_⟩⟩
  · rw [n_le (by omega) (by omega)] at hle
    exact fin F3 sn ls cnt k3 e3 hsd hb (fun j hj => hcl j (by omega))
  · rw [n_le (by omega) (by omega)] at hle
    rw [show (201 : Int32) = Int32.ofNat 201 from rfl, n_le (by decide) (by omega)] at h201
    omega
  rw [n_le (by omega) (by omega)] at hle
  have hil : i < cnt := by omega
  obtain ⟨f72, hl201, hsl⟩ := e3.2.2.2.1 i hil
  repeat (first | ((with_reducible show ∃ _, _ ∧ _); first | refine s_fI (by rfl) (by rfl) (by rfl) ?_ | refine s_fR (by rfl) (by rfl) (by rfl) ?_ | refine s_pV (by rfl) (by rfl) (Nat.le_of_ble_eq_true rfl) (by rfl) ?_) | ((with_reducible show xcls _ _ _ ∧ _); refine s_cls (by rfl) (by rfl) ?_))
  refine s_aI (i := i) (by rfl) (by rfl) (by rfl) (by rfl) (by omega) (by decide) ?_
  rw [f72]
  repeat (first | ((with_reducible show ∃ _, _ ∧ _); first | refine s_fI (by rfl) (by rfl) (by rfl) ?_ | refine s_fR (by rfl) (by rfl) (by rfl) ?_ | refine s_pV (by rfl) (by rfl) (Nat.le_of_ble_eq_true rfl) (by rfl) ?_) | ((with_reducible show xcls _ _ _ ∧ _); refine s_cls (by rfl) (by rfl) ?_))
  refine c_operands hG (hS.kept (fun k q1 q2 q3 => k3 k q2 (by omega) (by omega))) e3 hl201 (fun F4 sn4 ls4 c4 k4 e4 l4 q4 s4 t4 => ?_)
  refine hk (201 - (i + 1)) _ (by omega) ⟨i + 1, sn4, ls4, c4, F4, rfl, by omega, by rw [n_inc], fun k a1 a2 a3 => by rw [k4 k a1 a2 a3]; exact k3 k a1 a2 a3, e4, fun u hu hs => ?_, fun u hu => (s4 u (Eg_lt hG hu)).mpr (Or.inl (hb u hu)), fun j hj u hu => ?_⟩
  · rcases (s4 u hu).mp hs with hh | hh
    · exact hsd u hu hh
    · exact Rc.step (hsd _ hl201 hsl) hh
  · rw [q4 j (by omega)] at hu
    rw [s4 u (Eg_lt hG hu)]
    by_cases e0 : j = i
    · rw [e0] at hu; exact Or.inr hu
    · exact Or.inl (hcl j (by omega) u hu)
theorem c_lowest {o : Nat → Nat} {y : Nat} (hG : GA S) (hS : SC0 F S) (hO : ODR S o y) (hy : y < S 0 4) (hf : ¬ fst S o y < S 0 4) (hC : ∀ v, v < 201 → F 70 v = Int32.ofNat (cmv S o y v).toNat)
    (h : ∀ F', (∀ k, k ≠ 68 → k ≠ 71 → k ≠ 72 → F' k = F k) → Q (Int32.ofNat (lowS S)) (mem e w F' L g)) : wp_Sorter_lowestInLoop z Q (ad e 68) (ad e 40) (mem e w F L g) := by
  have hM := hG.1.1
  obtain ⟨v0, hv1, hv2, hv3, hv4, hv5⟩ := Rc_ex hG hO hy hf
  unfold wp_Sorter_lowestInLoop wp_Sorter_lowestInLoop_2
  refine xloop_dn (fun m a => ∃ v F1, m = 201 - v ∧ 1 ≤ v ∧ v ≤ v0 ∧ a = (ad e 68, ad e 40, Int32.ofNat v, mem e w F1 L g) ∧ (∀ k, k ≠ 68 → k ≠ 71 → k ≠ 72 → F1 k = F k) ∧ ∀ u, u < v → ¬ (S 8 u = 3 ∧ Rc S u u)) ?_ 200 _ ⟨1, F, rfl, Nat.le_refl _, hv1, rfl, fun _ _ _ _ => rfl, fun u hu hh => ?_⟩
  rotate_left
  · have : u = 0 := by omega
    rw [this, hG.2.2.2.2.1] at hh
    exact absurd hh.1 (by decide)
  rintro m a cc ⟨v, F1, rfl, hv, hvv, rfl, g1, g2⟩ hk
  unfold wp_Sorter_lowestInLoop_2_b; dsimp only
  have hS1 : SC0 F1 S := hS.kept (fun k q1 q2 q3 => g1 k q2 (by omega) (by omega))
  repeat (first | ((with_reducible show ∃ _, _ ∧ _); first | refine s_fI (by rfl) (by rfl) (by rfl) ?_ | refine s_fR (by rfl) (by rfl) (by rfl) ?_ | refine s_pV (by rfl) (by rfl) (Nat.le_of_ble_eq_true rfl) (by rfl) ?_) | ((with_reducible show xcls _ _ _ ∧ _); refine s_cls (by rfl) (by rfl) ?_))
  rw [hS1.1]
  refine ⟨fun hc => ?_, fun hc => ?_⟩ <;> rw [n_lt (by omega) (by omega)] at hc
  · exact absurd hc (by omega)
  have next : ∀ F2, (∀ k, k ≠ 68 → k ≠ 71 → k ≠ 72 → F2 k = F k) → ¬ (S 8 v = 3 ∧ Rc S v v) → wp_Sorter_lowestInLoop_30 z Q cc (ad e 68) (ad e 40) (Int32.ofNat v) (mem e w F2 L g) := by
    intro F2 k2 hno
    unfold wp_Sorter_lowestInLoop_30
    have hne : v ≠ v0 := fun ee => hno (by rw [ee]; exact ⟨hv3, hv5⟩)
    refine hk (201 - (v + 1)) _ (by omega) ⟨v + 1, F2, rfl, by omega, by omega, by rw [n_inc], k2, fun u hu => ?_⟩
    by_cases e0 : u = v
    · rw [e0]; exact hno
    · exact g2 u (by omega)
  repeat (first | ((with_reducible show ∃ _, _ ∧ _); first | refine s_fI (by rfl) (by rfl) (by rfl) ?_ | refine s_fR (by rfl) (by rfl) (by rfl) ?_ | refine s_pV (by rfl) (by rfl) (Nat.le_of_ble_eq_true rfl) (by rfl) ?_) | ((with_reducible show xcls _ _ _ ∧ _); refine s_cls (by rfl) (by rfl) ?_))
  refine s_aI (i := v) (by rfl) (by rfl) (by rfl) (by rfl) (by omega) (by decide) ?_
  rw [g1 70 (by decide) (by decide) (by decide), hC v (by omega), b01]
  refine ⟨fun hcm => next F1 g1 (fun hh => ?_), fun hcm => ?_⟩
  · have hct : cmv S o y v = true := by
      cases hx : cmv S o y v
      · exact absurd hx hcm
      · rfl
    rcases cmv_iff.mp hct with h3 | ⟨i, hi, he⟩
    · exact h3 hh.1
    · have := Rc_come hG hO hi
      rw [he] at this
      exact this hh.2
  have h3 : S 8 v = 3 := Classical.byContradiction (fun hn => by have := cmv_iff.mpr (Or.inl hn : S 8 v ≠ 3 ∨ ∃ i, i < y ∧ S 12 (o i) = v); rw [hcm] at this; cases this)
  repeat (first | ((with_reducible show ∃ _, _ ∧ _); first | refine s_fI (by rfl) (by rfl) (by rfl) ?_ | refine s_fR (by rfl) (by rfl) (by rfl) ?_ | refine s_pV (by rfl) (by rfl) (Nat.le_of_ble_eq_true rfl) (by rfl) ?_) | ((with_reducible show xcls _ _ _ ∧ _); refine s_cls (by rfl) (by rfl) ?_))
  refine c_comesBack hG hS1 (by omega) (fun hr F2 k2 => ⟨fun hh => absurd hh (by decide), fun _ => ?_⟩) (fun hr F2 k2 => ⟨fun _ => next F2 (fun k a1 a2 a3 => by rw [k2 k a1 a2 a3]; exact g1 k a1 a2 a3) (fun hh => hr hh.2), fun hh => absurd rfl hh⟩)
  have := h F2 (fun k a1 a2 a3 => by rw [k2 k a1 a2 a3]; exact g1 k a1 a2 a3)
  rw [lowS_eq ⟨⟨h3, hr⟩, g2⟩] at this
  exact this
end
