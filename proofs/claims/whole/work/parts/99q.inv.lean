/-! What holds of the class and of the reference between two calls. -/
def stE (F : Nat → Nat → Int32) : Prop := ∃ st : Nat → Nat, ∀ c, c < 2 → F 77 c = Int32.ofNat (st c) ∧ F 131 c = Int32.ofNat (st c)
def tpE (F : Nat → Nat → Int32) : Prop := ∃ n, n ≤ 6000 ∧ F 61 2 = Int32.ofNat n ∧ F 100 3 = Int32.ofNat n ∧ ∀ i, i < n → F 63 i = F 101 i
def rdE (F : Nat → Nat → Int32) : Prop := ∀ i, i < 20 → isB (F 62 i) ∧ F 102 i = F 62 i
def ftE (F : Nat → Nat → Int32) : Prop := F 64 11 = F 100 4 ∧ F 64 12 = F 100 5
def INV (z : Nat → Nat) (sc : Nat → Int32) (e : xenv) (w : Bool) (F : Nat → Nat → Int32) (L : Nat → Nat → Int64) (D : Nat → Option (Nat → Nat → Nat)) : Prop :=
  Zs e z F ∧ WD D ∧ RC F D ∧ RM F D ∧ stE F ∧ tpE F ∧ rdE F ∧ ftE F ∧ SM F L D ∧ SC w F D ∧ F 80 = sc
theorem SM.kept {F F' : Nat → Nat → Int32} {L L' : Nat → Nat → Int64} {D : Nat → Option (Nat → Nat → Nat)} (h0 : ∀ j, 33 ≤ j → F' 100 j = F 100 j) (h1 : ∀ k, 134 < k → k < 160 → F' k = F k) (hL : L' 134 = L 134) (h : SM F L D) : SM F' L' D := by
  unfold SM
  rw [h0 33 (by decide)]
  rcases h with hh | ⟨a1, a2, a3⟩
  · exact Or.inl hh
  · exact Or.inr ⟨a1, a2, MF.kept (fun j hj _ => h0 j hj) (fun k a1 a2 => h1 k a1 (by omega)) hL a3⟩
theorem XP.kept {F F' : Nat → Nat → Int32} {K : Nat → Nat → Nat → Nat} (h : ∀ k, 160 ≤ k → F' k = F k) (hx : XP F K) : XP F' K := by
  obtain ⟨y7, yt, yw, kn, yl⟩ := hx
  exact ⟨by rw [h 160 (by decide)]; exact y7, TB.kept (fun k a1 a2 => h k (by omega)) yt, WK.kept (fun k a1 a2 => h k (by omega)) yw, kn, LY.kept (fun k a1 a2 => h k (by omega)) yl⟩
theorem SC.kept {w : Bool} {F F' : Nat → Nat → Int32} {D : Nat → Option (Nat → Nat → Nat)} (h : ∀ k, 160 ≤ k → F' k = F k) (hS : SC w F D) : SC w F' D := by
  rcases hS with hh | ⟨⟨s1, s2, s3⟩, hx⟩
  · exact Or.inl hh
  · refine Or.inr ⟨⟨by rw [h 160 (by decide)]; exact s1, ?_, ?_⟩, ?_⟩
    · rw [h 160 (by decide)]
      rcases s2 with hh | hh
      · exact Or.inl hh
      · exact Or.inr ⟨hh.1, hh.2.1, LK.kept (fun k a1 a2 => h k (by omega)) hh.2.2⟩
    · rw [h 160 (by decide), h 190 (by decide)]; exact s3
    · rw [h 160 (by decide)]
      rcases hx with hh | hh
      · exact Or.inl hh
      · exact Or.inr ⟨hh.1, XP.kept h hh.2⟩
section
variable {e e' : xenv} {w : Bool} {F F' : Nat → Nat → Int32} {L L' : Nat → Nat → Int64} {g : xh} {z : Nat → Nat} {D : Nat → Option (Nat → Nat → Nat)} {sc : Nat → Int32}
theorem INV.upd (hI : INV z sc e w F L D) (hk : ∀ k, k ≠ 61 → k ≠ 62 → k ≠ 63 → k ≠ 77 → k ≠ 78 → k ≠ 79 → k ≠ 100 → k ≠ 101 → k ≠ 102 → k ≠ 131 → F' k = F k) (h100 : ∀ j, 33 ≤ j → F' 100 j = F 100 j) (hL : L' 134 = L 134) (a : stE F') (b : tpE F') (c : rdE F') (d : ftE F') : INV z sc e w F' L' D := by
  obtain ⟨i1, i2, i3, i4, i5, i6, i7, i8, i9, i10, i11⟩ := hI
  refine ⟨?_, i2, RC.kept (fun k hh => hk k (by omega) (by omega) (by omega) (by omega) (by omega) (by omega) (by omega) (by omega) (by omega) (by omega)) i3, RM.kept (fun k q1 q2 => hk k (by omega) (by omega) (by omega) (by omega) (by omega) (by omega) (by omega) (by omega) (by omega) (by omega)) i4, a, b, c, d, SM.kept h100 (fun k q1 q2 => hk k (by omega) (by omega) (by omega) (by omega) (by omega) (by omega) (by omega) (by omega) (by omega) (by omega)) hL i9, SC.kept (fun k q1 => hk k (by omega) (by omega) (by omega) (by omega) (by omega) (by omega) (by omega) (by omega) (by omega) (by omega)) i10, ?_⟩
  · unfold Zs
    rw [hk 81 (by decide) (by decide) (by decide) (by decide) (by decide) (by decide) (by decide) (by decide) (by decide) (by decide), hk 82 (by decide) (by decide) (by decide) (by decide) (by decide) (by decide) (by decide) (by decide) (by decide) (by decide)]
    exact i1
  · rw [hk 80 (by decide) (by decide) (by decide) (by decide) (by decide) (by decide) (by decide) (by decide) (by decide) (by decide)]; exact i11
/-- the thrown flag of the reference, and rows that hold nothing between calls -/
theorem INV.thr (hI : INV z sc e w F L D) (hk : ∀ k, k ≠ 78 → k ≠ 79 → k ≠ 100 → F' k = F k) (h100 : ∀ j, j ≠ 0 → F' 100 j = F 100 j) (hL : L' 134 = L 134) : INV z sc e w F' L' D := by
  have hI' := hI
  obtain ⟨i1, i2, i3, i4, i5, i6, i7, i8, i9, i10, i11⟩ := hI'
  refine hI.upd (fun k q1 q2 q3 q4 q5 q6 q7 q8 q9 q10 => hk k q5 q6 q7) (fun j hj => h100 j (by omega)) hL ?_ ?_ ?_ ?_
  · unfold stE; rw [hk 77 (by decide) (by decide) (by decide), hk 131 (by decide) (by decide) (by decide)]; exact i5
  · unfold tpE; rw [hk 61 (by decide) (by decide) (by decide), hk 63 (by decide) (by decide) (by decide), hk 101 (by decide) (by decide) (by decide), h100 3 (by decide)]; exact i6
  · unfold rdE; rw [hk 62 (by decide) (by decide) (by decide), hk 102 (by decide) (by decide) (by decide)]; exact i7
  · unfold ftE; rw [hk 64 (by decide) (by decide) (by decide), h100 4 (by decide), h100 5 (by decide)]; exact i8
theorem INV.thr0 (hI : INV z sc e w F L D) {x : Int32} : INV z sc e w (up F 100 0 x) L D := hI.thr (fun k _ _ hk => up_k hk) (fun j hj => by rw [up_i, if_neg hj]) rfl
theorem INV.long (hI : INV z sc e w F L D) (hL : L' 134 = L 134) : INV z sc e w F L' D := hI.thr (fun _ _ _ _ => rfl) (fun _ _ => rfl) hL
/-- after a question to the class -/
theorem INV.cls (hI : INV z sc e w F L D) (h : eC e F D e' F') (hL : L' 134 = L 134) : INV z sc e' true F' L' D := by
  obtain ⟨i1, i2, i3, i4, i5, i6, i7, i8, i9, i10, i11⟩ := hI
  obtain ⟨q, k, s⟩ := h
  refine ⟨?_, i2, RC.kept (fun j hj => k j (by omega)) i3, RM.kept (fun j a1 a2 => k j (by omega)) i4, ?_, ?_, ?_, ?_, SM.kept (fun j _ => by rw [k 100 (by decide)]) (fun j a1 a2 => k j (by omega)) hL i9, s, by rw [k 80 (by decide)]; exact i11⟩
  · unfold Zs; rw [q.2.2.2.1, q.2.2.2.2.1, k 81 (by decide), k 82 (by decide)]; exact i1
  · unfold stE; rw [k 77 (by decide), k 131 (by decide)]; exact i5
  · unfold tpE; rw [k 61 (by decide), k 63 (by decide), k 101 (by decide), k 100 (by decide)]; exact i6
  · unfold rdE; rw [k 62 (by decide), k 102 (by decide)]; exact i7
  · unfold ftE; rw [k 64 (by decide), k 100 (by decide)]; exact i8
/-- after a question to the reference -/
theorem INV.mod (hI : INV z sc e w F L D) (h : eM F L D F' L') : INV z sc e w F' L' D := by
  obtain ⟨i1, i2, i3, i4, i5, i6, i7, i8, i9, i10, i11⟩ := hI
  obtain ⟨⟨k, r⟩, l, s⟩ := h
  refine ⟨?_, i2, RC.kept (fun j hj => k j (by omega)) i3, RM.kept (fun j a1 a2 => k j (by omega)) i4, ?_, ?_, ?_, ?_, s, SC.kept (fun j hj => k j (by omega)) i10, by rw [k 80 (by decide)]; exact i11⟩
  · unfold Zs; rw [k 81 (by decide), k 82 (by decide)]; exact i1
  · unfold stE; rw [k 77 (by decide), k 131 (by decide)]; exact i5
  · unfold tpE; rw [k 61 (by decide), k 63 (by decide), k 101 (by decide), r 3 (by decide) (by decide)]; exact i6
  · unfold rdE; rw [k 62 (by decide), k 102 (by decide)]; exact i7
  · unfold ftE; rw [k 64 (by decide), r 4 (by decide) (by decide), r 5 (by decide) (by decide)]; exact i8
/-- a cell of the script -/
theorem INV.rd {P : Int32 → Prop} {x : Int32} {i : Nat} (hI : INV z sc e w F L D) (hx : x = Int32.ofNat i) (hi : i < e.1.2) (hn : e.1.2 < 2 ^ 31) (h : P (sc i)) : ∃ v, aI (mem e w F L g) (ad e 80) 0 x = some v ∧ P v := by
  refine s_aI (k := 80) (i := i) (by rfl) (by rfl) (by rfl) hx hi hn ?_
  rw [hI.2.2.2.2.2.2.2.2.2.2]; exact h
theorem lg_self (y : Int64) : lg_cmp y y = 0 := by
  unfold lg_cmp
  simp
/-- what the law asks of a call that may throw -/
theorem t_num {X : xh → Prop} {Q : Int32 → xh → Prop} {t : Int32} {y : Int64} (h0 : F 100 0 = t) (hy : t = 0 → L 83 0 = y) (h : X (mem e w F L g)) : wp_Model_thrown z (fun v h => (v = t → ((¬ t = 0 → X h) ∧ (t = 0 → (∃ v', aL h (ad e 83) 3 0 = some v' ∧ ((lg_cmp v' y = 0 → X h) ∧ (¬ lg_cmp v' y = 0 → Q 0 h)))))) ∧ (¬ v = t → Q 0 h)) (ad e 100) (mem e w F L g) := by
  unfold wp_Model_thrown
  repeat (first | ((with_reducible show ∃ _, _ ∧ _); first | refine s_fI (by rfl) (by rfl) (by rfl) ?_ | refine s_fR (by rfl) (by rfl) (by rfl) ?_ | refine s_pV (by rfl) (by rfl) (Nat.le_of_ble_eq_true rfl) (by rfl) ?_) | ((with_reducible show xcls _ _ _ ∧ _); refine s_cls (by rfl) (by rfl) ?_))
  rw [h0]
  refine ⟨fun _ => ⟨fun _ => h, fun ht => ?_⟩, fun hh => absurd rfl hh⟩
  refine s_aL (k := 83) (i := 0) (by rfl) (by rfl) (by rfl) (by rfl) (by decide) (by decide) ?_
  rw [hy ht]
  exact ⟨fun _ => h, fun hh => absurd (lg_self y) hh⟩
theorem t_bool {X : xh → Prop} {Q : Int32 → xh → Prop} {t v2 : Int32} (h0 : F 100 0 = t) (hv : v2 = 0 ∨ v2 = 1) (hy : t = 0 → L 83 0 = v2.toInt64) (h : X (mem e w F L g)) : wp_Model_thrown z (fun v h => (v = t → ((¬ t = 0 → X h) ∧ (t = 0 → (∃ v', aL h (ad e 83) 3 0 = some v' ∧ ((v2 = 0 → ((lg_cmp v' 0 = 0 → X h) ∧ (¬ lg_cmp v' 0 = 0 → Q 0 h))) ∧ (¬ v2 = 0 → ((lg_cmp v' 1 = 0 → X h) ∧ (¬ lg_cmp v' 1 = 0 → Q 0 h)))))))) ∧ (¬ v = t → Q 0 h)) (ad e 100) (mem e w F L g) := by
  unfold wp_Model_thrown
  repeat (first | ((with_reducible show ∃ _, _ ∧ _); first | refine s_fI (by rfl) (by rfl) (by rfl) ?_ | refine s_fR (by rfl) (by rfl) (by rfl) ?_ | refine s_pV (by rfl) (by rfl) (Nat.le_of_ble_eq_true rfl) (by rfl) ?_) | ((with_reducible show xcls _ _ _ ∧ _); refine s_cls (by rfl) (by rfl) ?_))
  rw [h0]
  refine ⟨fun _ => ⟨fun _ => h, fun ht => ?_⟩, fun hh => absurd rfl hh⟩
  refine s_aL (k := 83) (i := 0) (by rfl) (by rfl) (by rfl) (by rfl) (by decide) (by decide) ?_
  rw [hy ht]
  rcases hv with rfl | rfl
  · exact ⟨fun _ => ⟨fun _ => h, fun hh => absurd (lg_self _) hh⟩, fun hh => absurd rfl hh⟩
  · exact ⟨fun hh => absurd hh (by decide), fun _ => ⟨fun _ => h, fun hh => absurd (lg_self _) hh⟩⟩
end
/-- what a call costs -/
theorem budget (P : Prop) (w : Bool) : ∃ a b : Nat, a ≤ 29 ∧ b ≤ 58894 ∧ (¬ P → a = 1 ∧ b = 6) ∧ (P → w = false → a = 29 ∧ b = 58894) ∧ (P → w = true → a = 0 ∧ b = 0) := by
  by_cases hP : P
  · cases w
    · exact ⟨29, 58894, by decide, by decide, fun hh => absurd hP hh, fun _ _ => ⟨rfl, rfl⟩, fun _ hh => (by cases hh)⟩
    · exact ⟨0, 0, by decide, by decide, fun hh => absurd hP hh, fun _ hh => (by cases hh), fun _ _ => ⟨rfl, rfl⟩⟩
  · exact ⟨1, 6, by decide, by decide, fun _ => ⟨rfl, rfl⟩, fun hh => absurd hh hP, fun hh => absurd hh hP⟩
def bud (w w' : Bool) (kk nn kk' nn' : Nat) : Prop := (w' = w ∧ kk' ≤ kk + 1 ∧ nn' ≤ nn + 6) ∨ (w = false ∧ w' = true ∧ kk' ≤ kk + 29 ∧ nn' ≤ nn + 58894)
theorem bud_0 {w : Bool} {kk nn : Nat} : bud w w kk nn kk nn := Or.inl ⟨rfl, by omega, by omega⟩
theorem bud_1 {P : Prop} {w : Bool} {a b kk nn : Nat} (hP : P) (h1 : P → w = false → a = 29 ∧ b = 58894) (h2 : P → w = true → a = 0 ∧ b = 0) : bud w true kk nn (kk + a) (nn + b) := by
  cases w
  · obtain ⟨rfl, rfl⟩ := h1 hP rfl
    exact Or.inr ⟨rfl, rfl, by omega, by omega⟩
  · obtain ⟨rfl, rfl⟩ := h2 hP rfl
    exact Or.inl ⟨rfl, by omega, by omega⟩
theorem bud_2 {P : Prop} {w : Bool} {a b kk nn : Nat} (hP : ¬ P) (h1 : ¬ P → a = 1 ∧ b = 6) : bud w w kk nn (kk + a) (nn + b) := by
  obtain ⟨rfl, rfl⟩ := h1 hP
  exact Or.inl ⟨rfl, by omega, by omega⟩
