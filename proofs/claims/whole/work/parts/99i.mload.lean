/-! The reference keeps a circuit; its load. -/
def wdM (k : Nat) : Nat := match k with
  | 110 => 5 | 111 => 5 | 112 => 7 | 113 => 7 | 114 => 8 | 115 => 150 | 116 => 150 | 117 => 150 | 118 => 201 | 124 => 880 | 125 => 22 | 127 => 150 | _ => 0
theorem KM.same {c c' : Nat} {F F' : Nat → Nat → Int32} {C : Nat → Nat → Nat} (hW : WF C) (h : ∀ R j, R ≠ 124 → j < wdM R → F' R (wdM R * c' + j) = F R (wdM R * c + j)) (hn : ∀ j, j < 880 → bv (F' 124 (880 * c' + j)) = bv (F 124 (880 * c + j))) (hK : KM c F C) : KM c' F' C := by
  obtain ⟨a1, a2, a3, a4, a5, a6, a7⟩ := hK
  obtain ⟨f0, f1, f2, f3, f4⟩ := hW.1
  have hms : ∀ s, s < 19 → ms s < 22 := fun s hs => by unfold ms; split <;> (try split) <;> omega
  refine ⟨fun j hj => by rw [← a1 j hj]; exact h 110 j (by decide) hj, fun v hv => by rw [← a2 v hv]; exact h 118 v (by decide) hv, fun y hy => ?_, fun k hk => by rw [← a4 k hk]; exact h 111 k (by decide) (show k < 5 by omega), fun k hk => ?_, fun k hk => by rw [← a6 k hk]; exact h 114 k (by decide) (show k < 8 by omega), fun s hs => ?_⟩
  · obtain ⟨b1, b2, b3, b4, b5⟩ := a3 y hy
    exact ⟨b1, by rw [← b2]; exact h 127 y (by decide) (show y < 150 by omega), by rw [← b3]; exact h 115 _ (by decide) b1, by rw [← b4]; exact h 116 _ (by decide) b1, by rw [← b5]; exact h 117 _ (by decide) b1⟩
  · obtain ⟨b1, b2⟩ := a5 k hk
    exact ⟨by rw [← b1]; exact h 112 k (by decide) (show k < 7 by omega), by rw [← b2]; exact h 113 k (by decide) (show k < 7 by omega)⟩
  · obtain ⟨b1, b2⟩ := a7 s hs
    have h22 := hms s hs
    refine ⟨by rw [← b1]; exact h 125 _ (by decide) h22, fun i hi => ?_⟩
    have h40 := hW.2.2.2.2.2.2 s hs
    rw [← b2 i hi, show 40 * (22 * c' + ms s) + i = 880 * c' + (40 * ms s + i) by omega, show 40 * (22 * c + ms s) + i = 880 * c + (40 * ms s + i) by omega]
    exact hn _ (by omega)
theorem loM_wd : ∀ k, 110 ≤ k → k ≤ 127 → wdM k ≠ 0 → k ≠ 127 → loM k = 2 * wdM k := by
  have : ∀ k, k < 128 → 110 ≤ k → wdM k ≠ 0 → k ≠ 127 → loM k = 2 * wdM k := by decide +kernel
  exact fun k h1 h2 h3 h4 => this k (by omega) h1 h3 h4
theorem wd_row {R j : Nat} (h : j < wdM R) : 110 ≤ R ∧ R ≤ 127 := by
  unfold wdM at h
  split at h <;> first | exact ⟨by decide, by decide⟩ | exact absurd h (Nat.not_lt_zero _)
theorem KM_fM {c : Nat} {F F' : Nat → Nat → Int32} {C : Nat → Nat → Nat} (hc : c < 2) (hW : WF C) (hf : fM F F') (hK : KM c F C) : KM c F' C := by
  have key : ∀ R j, j < wdM R → F' R (wdM R * c + j) = F R (wdM R * c + j) := by
    intro R j hj
    obtain ⟨h1, h2⟩ := wd_row hj
    by_cases e0 : R = 127
    · rw [e0, hf.1 127 (by omega)]
    · have := loM_wd R h1 h2 (by omega) e0
      refine hf.2.1 R _ h1 (by omega) ?_
      have : wdM R * c ≤ wdM R := by
        have := Nat.mul_le_mul_left (wdM R) (show c ≤ 1 by omega)
        omega
      omega
  exact KM.same hW (fun R j _ hj => key R j hj) (fun j hj => by rw [show F' 124 (880 * c + j) = F 124 (880 * c + j) from key 124 j hj]) hK
def cpy (w c k : Nat) (f f' : Nat → Int32) : Prop := ∀ j, f' j = if w * c ≤ j ∧ j < w * c + k then f (2 * w + (j - w * c)) else f j
theorem cpy0 {w c : Nat} {f : Nat → Int32} : cpy w c 0 f f := fun j => by rw [if_neg (by omega)]
theorem cpy_rd {w c k : Nat} {f f' : Nat → Int32} (hc : c < 2) (h : cpy w c k f f') : f' (2 * w + k) = f (2 * w + k) := by
  have : w * c ≤ w := by
    have := Nat.mul_le_mul_left w (show c ≤ 1 by omega)
    omega
  rw [h, if_neg (by omega)]
theorem cpy_st {w c k R : Nat} {F F' : Nat → Nat → Int32} (h : cpy w c k (F R) (F' R)) : cpy w c (k + 1) (F R) (up F' R (w * c + k) (F R (2 * w + k)) R) := by
  intro j
  rw [up_i]
  by_cases e0 : j = w * c + k
  · rw [if_pos e0, if_pos (by omega), e0, show w * c + k - w * c = k by omega]
  · rw [if_neg e0, h j]
    by_cases e1 : w * c ≤ j ∧ j < w * c + k
    · rw [if_pos e1, if_pos (by omega)]
    · rw [if_neg e1, if_neg (by omega)]
theorem cpy_in {w c k j : Nat} {f f' : Nat → Int32} (h : cpy w c k f f') (hj : j < k) : f' (w * c + j) = f (2 * w + j) := by
  rw [h, if_pos (by omega), show w * c + j - w * c = j by omega]
theorem cpy_out {w c c' j : Nat} {f f' : Nat → Int32} (h : cpy w c w f f') (hc : c' ≠ c) (hj : j < w) : f' (w * c' + j) = f (w * c' + j) := by
  rw [h, if_neg]
  rintro ⟨h1, h2⟩
  rcases Nat.lt_or_gt_of_ne hc with hh | hh
  · have := Nat.mul_le_mul_left w (show c' + 1 ≤ c by omega)
    rw [Nat.mul_succ] at this
    omega
  · have := Nat.mul_le_mul_left w (show c + 1 ≤ c' by omega)
    rw [Nat.mul_succ] at this
    omega
section
variable {e : xenv} {w : Bool} {L : Nat → Nat → Int64} {g : xh} {z : Nat → Nat} {b : Nat → Nat} {n : Nat} {F0 F F' F2 : Nat → Nat → Int32} {S S' : RW} {p q s nu f : Nat} {Q : xh → Prop} {Qi : Int32 → xh → Prop} {r : RS}
theorem bv_nar (x : Int32) : bv x.toInt8.toInt32 = bv x := by
  have h : x.toInt8.toInt32 &&& 255 = x &&& 255 := by
    apply bt_ext
    intro i hi
    rw [bt_and, bt_and]
    have h255 : bt 255 i = decide (i < 8) := by
      have : ∀ i : Fin 32, bt 255 i.1 = decide (i.1 < 8) := by decide +kernel
      exact this ⟨i, hi⟩
    rw [h255]
    by_cases h8 : i < 8
    · have : bt x.toInt8.toInt32 i = bt x i := by
        unfold bt
        show ((x.toBitVec.signExtend 8).signExtend 32).getLsbD i = x.toBitVec.getLsbD i
        rw [BitVec.getLsbD_signExtend, BitVec.getLsbD_signExtend]
        simp [hi, h8, show i < 32 by omega]
      rw [this]
    · simp [h8]
  have h2 := h
  rw [and255, and255] at h2
  exact n_inj (by have := bv_lt x.toInt8.toInt32; omega) (by have := bv_lt x; omega) h2
theorem v_keep {c : Nat} (hcl : c < 2)
    (hQ : ∀ F', (∀ k, k < 100 ∨ (100 < k ∧ k < 110) ∨ (118 < k ∧ k < 124) ∨ k = 126 ∨ (127 < k ∧ k < 130) ∨ 131 < k → F' k = F k) → (∀ R, R = 110 ∨ R = 111 ∨ R = 112 ∨ R = 113 ∨ R = 114 ∨ R = 115 ∨ R = 116 ∨ R = 117 ∨ R = 118 ∨ R = 125 → cpy (wdM R) c (wdM R) (F R) (F' R)) → (∀ j, F' 127 j = if 150 * c ≤ j ∧ j < 150 * c + 150 then F 126 (j - 150 * c) else F 127 j) → (∀ j, F' 124 j = if 880 * c ≤ j ∧ j < 880 * c + 880 then (F 124 (1760 + (j - 880 * c))).toInt8.toInt32 else F 124 j) → (∀ j, j ≠ 33 → F' 100 j = F 100 j) → F' 100 33 = 0 → (∀ j, F' 130 j = if j = c then 1 else F 130 j) → (∀ j, j < 2 → F' 131 j = 0) → Q (mem e w F' L g)) : wp_Model_keep z Q (ad e 100) (Int32.ofNat c) (mem e w F L g) := by
  have hcc : ∀ w, w * c ≤ w := fun w => by
    have := Nat.mul_le_mul_left w (show c ≤ 1 by omega)
    omega
  unfold wp_Model_keep wp_Model_keep_2
  refine xloop_dn (fun m a => ∃ k F1, m = 5 - k ∧ k ≤ 5 ∧ a = (ad e 100, Int32.ofNat c, Int32.ofNat k, mem e w F1 L g) ∧ (∀ R, R ≠ 110 → F1 R = F R) ∧ cpy 5 c k (F 110) (F1 110)) ?_ 5 _ ⟨0, F, rfl, by decide, rfl, fun _ _ => rfl, cpy0⟩
  rintro m a cc ⟨k, F1, rfl, hk5, rfl, o1, c1⟩ hk
  unfold wp_Model_keep_2_b; dsimp only
  refine ⟨fun hc => ?_, fun hc => ?_⟩ <;> rw [show (5 : Int32) = Int32.ofNat 5 from rfl, n_le (by decide) (by omega)] at hc
  rotate_left
  · repeat (first | ((with_reducible show ∃ _, _ ∧ _); first | refine s_fI (by rfl) (by rfl) (by rfl) ?_ | refine s_fR (by rfl) (by rfl) (by rfl) ?_ | refine s_pV (by rfl) (by rfl) (Nat.le_of_ble_eq_true rfl) (by rfl) ?_) | ((with_reducible show xcls _ _ _ ∧ _); refine s_cls (by rfl) (by rfl) ?_))
    refine s_aI (i := 10 + k) (by rfl) (by rfl) (by rfl) (by exact n_add 10 k) (by omega) (by decide) ?_
    rw [show F1 110 (10 + k) = F 110 (2 * 5 + k) from cpy_rd hcl c1]
    refine s_sI (i := 5 * c + k) (by rfl) (by rfl) (by rfl) (by rfl) (by rw [show (5 : Int32) = Int32.ofNat 5 from rfl, n_mul, n_add]) (by omega) (by decide) ?_
    exact hk (5 - (k + 1)) _ (by omega) ⟨k + 1, _, rfl, by omega, by rw [n_inc], fun R hR => by rw [up_k hR]; exact o1 R hR, cpy_st c1⟩
  clear hk
  have : k = 5 := by omega
  subst this
  unfold wp_Model_keep_34
  refine xloop_dn (fun m a => ∃ k F2, m = 5 - k ∧ k ≤ 5 ∧ a = (ad e 100, Int32.ofNat c, Int32.ofNat k, mem e w F2 L g) ∧ (∀ R, R ≠ 111 → F2 R = F1 R) ∧ cpy 5 c k (F 111) (F2 111)) ?_ 5 _ ⟨0, F1, rfl, by decide, rfl, fun _ _ => rfl, by rw [o1 111 (by decide)]; exact cpy0⟩
  rintro m a cc ⟨k, F2, rfl, hk5', rfl, o2, c2⟩ hk
  unfold wp_Model_keep_34_b; dsimp only
  refine ⟨fun hc => ?_, fun hc => ?_⟩ <;> rw [show (5 : Int32) = Int32.ofNat 5 from rfl, n_le (by decide) (by omega)] at hc
  rotate_left
  · repeat (first | ((with_reducible show ∃ _, _ ∧ _); first | refine s_fI (by rfl) (by rfl) (by rfl) ?_ | refine s_fR (by rfl) (by rfl) (by rfl) ?_ | refine s_pV (by rfl) (by rfl) (Nat.le_of_ble_eq_true rfl) (by rfl) ?_) | ((with_reducible show xcls _ _ _ ∧ _); refine s_cls (by rfl) (by rfl) ?_))
    refine s_aI (i := 10 + k) (by rfl) (by rfl) (by rfl) (by exact n_add 10 k) (by omega) (by decide) ?_
    rw [show F2 111 (10 + k) = F 111 (2 * 5 + k) from cpy_rd hcl c2]
    refine s_sI (i := 5 * c + k) (by rfl) (by rfl) (by rfl) (by rfl) (by rw [show (5 : Int32) = Int32.ofNat 5 from rfl, n_mul, n_add]) (by omega) (by decide) ?_
    exact hk (5 - (k + 1)) _ (by omega) ⟨k + 1, _, rfl, by omega, by rw [n_inc], fun R hR => by rw [up_k hR]; exact o2 R hR, cpy_st c2⟩
  clear hk
  have : k = 5 := by omega
  subst this
  unfold wp_Model_keep_66
  refine xloop_dn (fun m a => ∃ k F3, m = 7 - k ∧ k ≤ 7 ∧ a = (ad e 100, Int32.ofNat c, Int32.ofNat k, mem e w F3 L g) ∧ (∀ R, R ≠ 112 → R ≠ 113 → F3 R = F2 R) ∧ cpy 7 c k (F 112) (F3 112) ∧ cpy 7 c k (F 113) (F3 113)) ?_ 7 _ ⟨0, F2, rfl, by decide, rfl, fun _ _ _ => rfl, by rw [o2 112 (by decide), o1 112 (by decide)]; exact cpy0, by rw [o2 113 (by decide), o1 113 (by decide)]; exact cpy0⟩
  rintro m a cc ⟨k, F3, rfl, hk7, rfl, o3, c3, d3⟩ hk
  unfold wp_Model_keep_66_b; dsimp only
  refine ⟨fun hc => ?_, fun hc => ?_⟩ <;> rw [show (7 : Int32) = Int32.ofNat 7 from rfl, n_le (by decide) (by omega)] at hc
  rotate_left
  · repeat (first | ((with_reducible show ∃ _, _ ∧ _); first | refine s_fI (by rfl) (by rfl) (by rfl) ?_ | refine s_fR (by rfl) (by rfl) (by rfl) ?_ | refine s_pV (by rfl) (by rfl) (Nat.le_of_ble_eq_true rfl) (by rfl) ?_) | ((with_reducible show xcls _ _ _ ∧ _); refine s_cls (by rfl) (by rfl) ?_))
    refine s_aI (i := 14 + k) (by rfl) (by rfl) (by rfl) (by exact n_add 14 k) (by omega) (by decide) ?_
    rw [show F3 112 (14 + k) = F 112 (2 * 7 + k) from cpy_rd hcl c3]
    refine s_sI (i := 7 * c + k) (by rfl) (by rfl) (by rfl) (by rfl) (by rw [show (7 : Int32) = Int32.ofNat 7 from rfl, n_mul, n_add]) (by omega) (by decide) ?_
    repeat (first | ((with_reducible show ∃ _, _ ∧ _); first | refine s_fI (by rfl) (by rfl) (by rfl) ?_ | refine s_fR (by rfl) (by rfl) (by rfl) ?_ | refine s_pV (by rfl) (by rfl) (Nat.le_of_ble_eq_true rfl) (by rfl) ?_) | ((with_reducible show xcls _ _ _ ∧ _); refine s_cls (by rfl) (by rfl) ?_))
    refine s_aI (i := 14 + k) (by rfl) (by rfl) (by rfl) (by exact n_add 14 k) (by omega) (by decide) ?_
    rw [up_k (by decide), show F3 113 (14 + k) = F 113 (2 * 7 + k) from cpy_rd hcl d3]
    refine s_sI (i := 7 * c + k) (by rfl) (by rfl) (by rfl) (by rfl) (by rw [show (7 : Int32) = Int32.ofNat 7 from rfl, n_mul, n_add]) (by omega) (by decide) ?_
    refine hk (7 - (k + 1)) _ (by omega) ⟨k + 1, _, rfl, by omega, by rw [n_inc], fun R h1 h2 => by rw [up_k h2, up_k h1]; exact o3 R h1 h2, by rw [up_k (by decide)]; exact cpy_st c3, ?_⟩
    exact cpy_st (F' := up F3 112 (7 * c + k) (F 112 (2 * 7 + k))) (by rw [up_k (by decide)]; exact d3)
  clear hk
  have : k = 7 := by omega
  subst this
  unfold wp_Model_keep_120
  refine xloop_dn (fun m a => ∃ k F4, m = 8 - k ∧ k ≤ 8 ∧ a = (ad e 100, Int32.ofNat c, Int32.ofNat k, mem e w F4 L g) ∧ (∀ R, R ≠ 114 → F4 R = F3 R) ∧ cpy 8 c k (F 114) (F4 114)) ?_ 8 _ ⟨0, F3, rfl, by decide, rfl, fun _ _ => rfl, by rw [o3 114 (by decide) (by decide), o2 114 (by decide), o1 114 (by decide)]; exact cpy0⟩
  rintro m a cc ⟨k, F4, rfl, hk8, rfl, o4, c4⟩ hk
  unfold wp_Model_keep_120_b; dsimp only
  refine ⟨fun hc => ?_, fun hc => ?_⟩ <;> rw [show (8 : Int32) = Int32.ofNat 8 from rfl, n_le (by decide) (by omega)] at hc
  rotate_left
  · repeat (first | ((with_reducible show ∃ _, _ ∧ _); first | refine s_fI (by rfl) (by rfl) (by rfl) ?_ | refine s_fR (by rfl) (by rfl) (by rfl) ?_ | refine s_pV (by rfl) (by rfl) (Nat.le_of_ble_eq_true rfl) (by rfl) ?_) | ((with_reducible show xcls _ _ _ ∧ _); refine s_cls (by rfl) (by rfl) ?_))
    refine s_aI (i := 16 + k) (by rfl) (by rfl) (by rfl) (by exact n_add 16 k) (by omega) (by decide) ?_
    rw [show F4 114 (16 + k) = F 114 (2 * 8 + k) from cpy_rd hcl c4]
    refine s_sI (i := 8 * c + k) (by rfl) (by rfl) (by rfl) (by rfl) (by rw [show (8 : Int32) = Int32.ofNat 8 from rfl, n_mul, n_add]) (by omega) (by decide) ?_
    exact hk (8 - (k + 1)) _ (by omega) ⟨k + 1, _, rfl, by omega, by rw [n_inc], fun R hR => by rw [up_k hR]; exact o4 R hR, cpy_st c4⟩
  clear hk
  have : k = 8 := by omega
  subst this
  have r4 : ∀ R, R ≠ 110 → R ≠ 111 → R ≠ 112 → R ≠ 113 → R ≠ 114 → F4 R = F R := fun R a1 a2 a3 a4 a5 => by rw [o4 R a5, o3 R a3 a4, o2 R a2, o1 R a1]
  unfold wp_Model_keep_154
  refine xloop_dn (fun m a => ∃ k F5, m = 150 - k ∧ k ≤ 150 ∧ a = (ad e 100, Int32.ofNat c, Int32.ofNat k, mem e w F5 L g) ∧ (∀ R, R ≠ 115 → R ≠ 116 → R ≠ 117 → R ≠ 127 → F5 R = F4 R) ∧ cpy 150 c k (F 115) (F5 115) ∧ cpy 150 c k (F 116) (F5 116) ∧ cpy 150 c k (F 117) (F5 117) ∧ (∀ j, F5 127 j = if 150 * c ≤ j ∧ j < 150 * c + k then F 126 (j - 150 * c) else F 127 j)) ?_ 150 _ ⟨0, F4, rfl, by decide, rfl, fun _ _ _ _ _ => rfl, by rw [r4 115 (by decide) (by decide) (by decide) (by decide) (by decide)]; exact cpy0, by rw [r4 116 (by decide) (by decide) (by decide) (by decide) (by decide)]; exact cpy0, by rw [r4 117 (by decide) (by decide) (by decide) (by decide) (by decide)]; exact cpy0, fun j => by rw [r4 127 (by decide) (by decide) (by decide) (by decide) (by decide), if_neg (by omega)]⟩
  rintro m a cc ⟨k, F5, rfl, hk150, rfl, o5, c5, d5, e5, g5⟩ hk
  unfold wp_Model_keep_154_b; dsimp only
  refine ⟨fun hc => ?_, fun hc => ?_⟩ <;> rw [show (150 : Int32) = Int32.ofNat 150 from rfl, n_le (by decide) (by omega)] at hc
  rotate_left
  · repeat (first | ((with_reducible show ∃ _, _ ∧ _); first | refine s_fI (by rfl) (by rfl) (by rfl) ?_ | refine s_fR (by rfl) (by rfl) (by rfl) ?_ | refine s_pV (by rfl) (by rfl) (Nat.le_of_ble_eq_true rfl) (by rfl) ?_) | ((with_reducible show xcls _ _ _ ∧ _); refine s_cls (by rfl) (by rfl) ?_))
    refine s_aI (i := 300 + k) (by rfl) (by rfl) (by rfl) (by exact n_add 300 k) (by omega) (by decide) ?_
    rw [show F5 115 (300 + k) = F 115 (2 * 150 + k) from cpy_rd hcl c5]
    refine s_sI (i := 150 * c + k) (by rfl) (by rfl) (by rfl) (by rfl) (by rw [show (150 : Int32) = Int32.ofNat 150 from rfl, n_mul, n_add]) (by omega) (by decide) ?_
    repeat (first | ((with_reducible show ∃ _, _ ∧ _); first | refine s_fI (by rfl) (by rfl) (by rfl) ?_ | refine s_fR (by rfl) (by rfl) (by rfl) ?_ | refine s_pV (by rfl) (by rfl) (Nat.le_of_ble_eq_true rfl) (by rfl) ?_) | ((with_reducible show xcls _ _ _ ∧ _); refine s_cls (by rfl) (by rfl) ?_))
    refine s_aI (i := 300 + k) (by rfl) (by rfl) (by rfl) (by exact n_add 300 k) (by omega) (by decide) ?_
    rw [up_k (by decide), show F5 116 (300 + k) = F 116 (2 * 150 + k) from cpy_rd hcl d5]
    refine s_sI (i := 150 * c + k) (by rfl) (by rfl) (by rfl) (by rfl) (by rw [show (150 : Int32) = Int32.ofNat 150 from rfl, n_mul, n_add]) (by omega) (by decide) ?_
    repeat (first | ((with_reducible show ∃ _, _ ∧ _); first | refine s_fI (by rfl) (by rfl) (by rfl) ?_ | refine s_fR (by rfl) (by rfl) (by rfl) ?_ | refine s_pV (by rfl) (by rfl) (Nat.le_of_ble_eq_true rfl) (by rfl) ?_) | ((with_reducible show xcls _ _ _ ∧ _); refine s_cls (by rfl) (by rfl) ?_))
    refine s_aI (i := 300 + k) (by rfl) (by rfl) (by rfl) (by exact n_add 300 k) (by omega) (by decide) ?_
    rw [up_k (by decide), up_k (by decide), show F5 117 (300 + k) = F 117 (2 * 150 + k) from cpy_rd hcl e5]
    refine s_sI (i := 150 * c + k) (by rfl) (by rfl) (by rfl) (by rfl) (by rw [show (150 : Int32) = Int32.ofNat 150 from rfl, n_mul, n_add]) (by omega) (by decide) ?_
    repeat (first | ((with_reducible show ∃ _, _ ∧ _); first | refine s_fI (by rfl) (by rfl) (by rfl) ?_ | refine s_fR (by rfl) (by rfl) (by rfl) ?_ | refine s_pV (by rfl) (by rfl) (Nat.le_of_ble_eq_true rfl) (by rfl) ?_) | ((with_reducible show xcls _ _ _ ∧ _); refine s_cls (by rfl) (by rfl) ?_))
    refine s_aI (i := k) (by rfl) (by rfl) (by rfl) (by rfl) (by omega) (by decide) ?_
    rw [up_k (by decide), up_k (by decide), up_k (by decide), show F5 126 = F 126 by rw [o5 126 (by decide) (by decide) (by decide) (by decide), r4 126 (by decide) (by decide) (by decide) (by decide) (by decide)]]
    refine s_sI (i := 150 * c + k) (by rfl) (by rfl) (by rfl) (by rfl) (by rw [show (150 : Int32) = Int32.ofNat 150 from rfl, n_mul, n_add]) (by omega) (by decide) ?_
    refine hk (150 - (k + 1)) _ (by omega) ⟨k + 1, _, rfl, by omega, by rw [n_inc], fun R h1 h2 h3 h4 => by rw [up_k h4, up_k h3, up_k h2, up_k h1]; exact o5 R h1 h2 h3 h4, ?_, ?_, ?_, fun j => ?_⟩
    · rw [up_k (by decide), up_k (by decide), up_k (by decide)]; exact cpy_st c5
    · rw [up_k (by decide), up_k (by decide)]
      exact cpy_st (F' := up F5 115 (150 * c + k) (F 115 (2 * 150 + k))) (by rw [up_k (by decide)]; exact d5)
    · rw [up_k (by decide)]
      exact cpy_st (F' := up (up F5 115 (150 * c + k) (F 115 (2 * 150 + k))) 116 (150 * c + k) (F 116 (2 * 150 + k))) (by rw [up_k (by decide), up_k (by decide)]; exact e5)
    · rw [up_i]
      by_cases e0 : j = 150 * c + k
      · rw [if_pos e0, if_pos (by omega), e0, show 150 * c + k - 150 * c = k by omega]
      · rw [if_neg e0, up_k (by decide), up_k (by decide), up_k (by decide), g5 j]
        by_cases e1 : 150 * c ≤ j ∧ j < 150 * c + k
        · rw [if_pos e1, if_pos (by omega)]
        · rw [if_neg e1, if_neg (by omega)]
  clear hk
  have : k = 150 := by omega
  subst this
  unfold wp_Model_keep_253
  refine xloop_dn (fun m a => ∃ k F6, m = 201 - k ∧ k ≤ 201 ∧ a = (ad e 100, Int32.ofNat c, Int32.ofNat k, mem e w F6 L g) ∧ (∀ R, R ≠ 118 → F6 R = F5 R) ∧ cpy 201 c k (F 118) (F6 118)) ?_ 201 _ ⟨0, F5, rfl, by decide, rfl, fun _ _ => rfl, by rw [o5 118 (by decide) (by decide) (by decide) (by decide), r4 118 (by decide) (by decide) (by decide) (by decide) (by decide)]; exact cpy0⟩
  rintro m a cc ⟨k, F6, rfl, hk201, rfl, o6, c6⟩ hk
  unfold wp_Model_keep_253_b; dsimp only
  refine ⟨fun hc => ?_, fun hc => ?_⟩ <;> rw [show (201 : Int32) = Int32.ofNat 201 from rfl, n_le (by decide) (by omega)] at hc
  rotate_left
  · repeat (first | ((with_reducible show ∃ _, _ ∧ _); first | refine s_fI (by rfl) (by rfl) (by rfl) ?_ | refine s_fR (by rfl) (by rfl) (by rfl) ?_ | refine s_pV (by rfl) (by rfl) (Nat.le_of_ble_eq_true rfl) (by rfl) ?_) | ((with_reducible show xcls _ _ _ ∧ _); refine s_cls (by rfl) (by rfl) ?_))
    refine s_aI (i := 402 + k) (by rfl) (by rfl) (by rfl) (by exact n_add 402 k) (by omega) (by decide) ?_
    rw [show F6 118 (402 + k) = F 118 (2 * 201 + k) from cpy_rd hcl c6]
    refine s_sI (i := 201 * c + k) (by rfl) (by rfl) (by rfl) (by rfl) (by rw [show (201 : Int32) = Int32.ofNat 201 from rfl, n_mul, n_add]) (by omega) (by decide) ?_
    exact hk (201 - (k + 1)) _ (by omega) ⟨k + 1, _, rfl, by omega, by rw [n_inc], fun R hR => by rw [up_k hR]; exact o6 R hR, cpy_st c6⟩
  clear hk
  have : k = 201 := by omega
  subst this
  unfold wp_Model_keep_290
  refine xloop_dn (fun m a => ∃ k F7, m = 22 - k ∧ k ≤ 22 ∧ a = (ad e 100, Int32.ofNat c, Int32.ofNat k, mem e w F7 L g) ∧ (∀ R, R ≠ 125 → F7 R = F6 R) ∧ cpy 22 c k (F 125) (F7 125)) ?_ 22 _ ⟨0, F6, rfl, by decide, rfl, fun _ _ => rfl, by rw [o6 125 (by decide), o5 125 (by decide) (by decide) (by decide) (by decide), r4 125 (by decide) (by decide) (by decide) (by decide) (by decide)]; exact cpy0⟩
  rintro m a cc ⟨k, F7, rfl, hk22, rfl, o7, c7⟩ hk
  unfold wp_Model_keep_290_b; dsimp only
  refine ⟨fun hc => ?_, fun hc => ?_⟩ <;> rw [show (22 : Int32) = Int32.ofNat 22 from rfl, n_le (by decide) (by omega)] at hc
  rotate_left
  · repeat (first | ((with_reducible show ∃ _, _ ∧ _); first | refine s_fI (by rfl) (by rfl) (by rfl) ?_ | refine s_fR (by rfl) (by rfl) (by rfl) ?_ | refine s_pV (by rfl) (by rfl) (Nat.le_of_ble_eq_true rfl) (by rfl) ?_) | ((with_reducible show xcls _ _ _ ∧ _); refine s_cls (by rfl) (by rfl) ?_))
    refine s_aI (i := 44 + k) (by rfl) (by rfl) (by rfl) (by exact n_add 44 k) (by omega) (by decide) ?_
    rw [show F7 125 (44 + k) = F 125 (2 * 22 + k) from cpy_rd hcl c7]
    refine s_sI (i := 22 * c + k) (by rfl) (by rfl) (by rfl) (by rfl) (by rw [show (22 : Int32) = Int32.ofNat 22 from rfl, n_mul, n_add]) (by omega) (by decide) ?_
    exact hk (22 - (k + 1)) _ (by omega) ⟨k + 1, _, rfl, by omega, by rw [n_inc], fun R hR => by rw [up_k hR]; exact o7 R hR, cpy_st c7⟩
  clear hk
  have : k = 22 := by omega
  subst this
  have r7 : ∀ R, ¬ (110 ≤ R ∧ R ≤ 118) → R ≠ 125 → R ≠ 127 → F7 R = F R := fun R a1 a2 a3 => by rw [o7 R a2, o6 R (by omega), o5 R (by omega) (by omega) (by omega) a3, r4 R (by omega) (by omega) (by omega) (by omega) (by omega)]
  unfold wp_Model_keep_324
  refine xloop_dn (fun m a => ∃ k F8, m = 880 - k ∧ k ≤ 880 ∧ a = (ad e 100, Int32.ofNat c, Int32.ofNat k, mem e w F8 L g) ∧ (∀ R, R ≠ 124 → F8 R = F7 R) ∧ (∀ j, F8 124 j = if 880 * c ≤ j ∧ j < 880 * c + k then (F 124 (1760 + (j - 880 * c))).toInt8.toInt32 else F 124 j)) ?_ 880 _ ⟨0, F7, rfl, by decide, rfl, fun _ _ => rfl, fun j => by rw [r7 124 (by decide) (by decide) (by decide), if_neg (by omega)]⟩
  rintro m a cc ⟨k, F8, rfl, hk880, rfl, o8, c8⟩ hk
  unfold wp_Model_keep_324_b; dsimp only
  refine ⟨fun hc => ?_, fun hc => ?_⟩ <;> rw [show (880 : Int32) = Int32.ofNat 880 from rfl, n_le (by decide) (by omega)] at hc
  rotate_left
  · repeat (first | ((with_reducible show ∃ _, _ ∧ _); first | refine s_fI (by rfl) (by rfl) (by rfl) ?_ | refine s_fR (by rfl) (by rfl) (by rfl) ?_ | refine s_pV (by rfl) (by rfl) (Nat.le_of_ble_eq_true rfl) (by rfl) ?_) | ((with_reducible show xcls _ _ _ ∧ _); refine s_cls (by rfl) (by rfl) ?_))
    refine s_aI (i := 1760 + k) (by rfl) (by rfl) (by rfl) (by exact n_add 1760 k) (by omega) (by decide) ?_
    rw [c8, if_neg (by omega), nar_byte]
    refine s_sI (i := 880 * c + k) (by rfl) (by rfl) (by rfl) (by rfl) (by rw [show (880 : Int32) = Int32.ofNat 880 from rfl, n_mul, n_add]) (by omega) (by decide) ?_
    refine hk (880 - (k + 1)) _ (by omega) ⟨k + 1, _, rfl, by omega, by rw [n_inc], fun R hR => by rw [up_k hR]; exact o8 R hR, fun j => ?_⟩
    rw [up_i]
    by_cases e0 : j = 880 * c + k
    · rw [if_pos e0, if_pos (by omega), e0, show 880 * c + k - 880 * c = k by omega]
    · rw [if_neg e0, c8 j]
      by_cases e1 : 880 * c ≤ j ∧ j < 880 * c + k
      · rw [if_pos e1, if_pos (by omega)]
      · rw [if_neg e1, if_neg (by omega)]
  have : k = 880 := by omega
  subst this
  repeat (first | ((with_reducible show ∃ _, _ ∧ _); first | refine s_fI (by rfl) (by rfl) (by rfl) ?_ | refine s_fR (by rfl) (by rfl) (by rfl) ?_ | refine s_pV (by rfl) (by rfl) (Nat.le_of_ble_eq_true rfl) (by rfl) ?_) | ((with_reducible show xcls _ _ _ ∧ _); refine s_cls (by rfl) (by rfl) ?_))
  refine s_sI (i := c) (by rfl) (by rfl) (by rfl) (by rfl) (by rfl) (by exact hcl) (by decide) ?_
  repeat (first | ((with_reducible show ∃ _, _ ∧ _); first | refine s_fI (by rfl) (by rfl) (by rfl) ?_ | refine s_fR (by rfl) (by rfl) (by rfl) ?_ | refine s_pV (by rfl) (by rfl) (Nat.le_of_ble_eq_true rfl) (by rfl) ?_) | ((with_reducible show xcls _ _ _ ∧ _); refine s_cls (by rfl) (by rfl) ?_))
  refine s_sI (i := 0) (by rfl) (by rfl) (by rfl) (by rfl) (by rfl) (by decide) (by decide) ?_
  repeat (first | ((with_reducible show ∃ _, _ ∧ _); first | refine s_fI (by rfl) (by rfl) (by rfl) ?_ | refine s_fR (by rfl) (by rfl) (by rfl) ?_ | refine s_pV (by rfl) (by rfl) (Nat.le_of_ble_eq_true rfl) (by rfl) ?_) | ((with_reducible show xcls _ _ _ ∧ _); refine s_cls (by rfl) (by rfl) ?_))
  refine s_sI (i := 1) (by rfl) (by rfl) (by rfl) (by rfl) (by rfl) (by decide) (by decide) ?_
  repeat (first | ((with_reducible show ∃ _, _ ∧ _); first | refine s_fI (by rfl) (by rfl) (by rfl) ?_ | refine s_fR (by rfl) (by rfl) (by rfl) ?_ | refine s_pV (by rfl) (by rfl) (Nat.le_of_ble_eq_true rfl) (by rfl) ?_) | ((with_reducible show xcls _ _ _ ∧ _); refine s_cls (by rfl) (by rfl) ?_))
  have r8 : ∀ R, ¬ (110 ≤ R ∧ R ≤ 118) → R ≠ 124 → R ≠ 125 → R ≠ 127 → F8 R = F R := fun R a1 a2 a3 a4 => by rw [o8 R a2]; exact r7 R a1 a3 a4
  have fin : ∀ R, R ≠ 100 → R ≠ 130 → R ≠ 131 → up (up (up (up F8 130 c (vp_nar .boolean 1)) 131 0 0) 131 1 0) 100 33 0 R = F8 R := fun R a1 a2 a3 => by rw [up_k a1, up_k a3, up_k a3, up_k a2]
  refine hQ _ (fun k hk => ?_) (fun R hR => ?_) (fun j => ?_) (fun j => ?_) (fun j hj => ?_) (by rw [up_i, if_pos rfl]) (fun j => ?_) (fun j hj => ?_)
  · rw [fin k (by omega) (by omega) (by omega)]; exact r8 k (by omega) (by omega) (by omega) (by omega)
  · rw [fin R (by omega) (by omega) (by omega)]
    rcases hR with rfl | rfl | rfl | rfl | rfl | rfl | rfl | rfl | rfl | rfl
    · rw [o8 110 (by decide), o7 110 (by decide), o6 110 (by decide), o5 110 (by decide) (by decide) (by decide) (by decide), o4 110 (by decide), o3 110 (by decide) (by decide), o2 110 (by decide)]; exact c1
    · rw [o8 111 (by decide), o7 111 (by decide), o6 111 (by decide), o5 111 (by decide) (by decide) (by decide) (by decide), o4 111 (by decide), o3 111 (by decide) (by decide)]; exact c2
    · rw [o8 112 (by decide), o7 112 (by decide), o6 112 (by decide), o5 112 (by decide) (by decide) (by decide) (by decide), o4 112 (by decide)]; exact c3
    · rw [o8 113 (by decide), o7 113 (by decide), o6 113 (by decide), o5 113 (by decide) (by decide) (by decide) (by decide), o4 113 (by decide)]; exact d3
    · rw [o8 114 (by decide), o7 114 (by decide), o6 114 (by decide), o5 114 (by decide) (by decide) (by decide) (by decide)]; exact c4
    · rw [o8 115 (by decide), o7 115 (by decide), o6 115 (by decide)]; exact c5
    · rw [o8 116 (by decide), o7 116 (by decide), o6 116 (by decide)]; exact d5
    · rw [o8 117 (by decide), o7 117 (by decide), o6 117 (by decide)]; exact e5
    · rw [o8 118 (by decide), o7 118 (by decide)]; exact c6
    · rw [o8 125 (by decide)]; exact c7
  · rw [fin 127 (by decide) (by decide) (by decide), o8 127 (by decide), o7 127 (by decide), o6 127 (by decide)]; exact g5 j
  · rw [fin 124 (by decide) (by decide) (by decide)]; exact c8 j
  · rw [up_i, if_neg hj, up_k (by decide), up_k (by decide), up_k (by decide), r8 100 (by decide) (by decide) (by decide) (by decide)]
  · rw [up_k (by decide), up_k (by decide), up_k (by decide), up_i, r8 130 (by decide) (by decide) (by decide) (by decide)]; rfl
  · rw [up_k (by decide), up_i]
    by_cases e1 : j = 1
    · rw [if_pos e1]
    · rw [if_neg e1, up_i, if_pos (by omega)]
end
