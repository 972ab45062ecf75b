/-! The law's questions. -/
section
variable {e : xenv} {w : Bool} {F : Nat → Nat → Int32} {L : Nat → Nat → Int64} {g : xh} {z : Nat → Nat} {D : Nat → Option (Nat → Nat → Nat)} {sc : Nat → Int32} {mc ms kk nn i : Nat} {Q : Int32 → xh → Prop} {X : xh → Nat → Nat → Prop}
theorem st_10 (hI : INV z sc e w F L D) (hi : i + 5 < e.1.2) (hn : e.1.2 < 2 ^ 31) (hX : NXT z sc e w g kk nn X) (hmc : kk + 29 ≤ mc) (hms : nn + 58894 ≤ ms) : (∃ mc87 ms88, kk + mc87 ≤ mc ∧ nn + ms88 ≤ ms ∧ wp_Law_gates z mc87 ms88 (fun v86 h85 => xcls h85 (ad e 100) 12 ∧ wp_Model_gates z (fun v92 h91 => xcls h91 (ad e 100) 12 ∧ wp_Model_thrown z (fun v94 h93 => (v94 = v86 → ((¬ v86 = 0 → (X h93 (kk + mc87) (nn + ms88))) ∧ (v86 = 0 → (∃ v95, aL h93 (ad e 83) 3 0 = some v95 ∧ (((lg_cmp v95 (v92.toInt64)) = 0 → (X h93 (kk + mc87) (nn + ms88))) ∧ (¬ (lg_cmp v95 (v92.toInt64)) = 0 → Q 0 h93)))))) ∧ (¬ v94 = v86 → Q 0 h93)) (ad e 100) h91) (ad e 100) h85) (ad e 60) (ad e 83) (mem e w F L g)) := by
  have hI' := hI
  obtain ⟨i1, i2, i3, i4, i5, i6, i7, i8, i9, i10, h80⟩ := hI'
  obtain ⟨a, b, ha, hb, c0, c1, c2⟩ := budget (mt D) w
  refine ⟨a, b, by omega, by omega, ?_⟩
  unfold wp_Law_gates
  refine ⟨a, b, by omega, by omega, ?_⟩
  repeat (first | ((with_reducible show ∃ _, _ ∧ _); first | refine s_fI (by rfl) (by rfl) (by rfl) ?_ | refine s_fR (by rfl) (by rfl) (by rfl) ?_ | refine s_pV (by rfl) (by rfl) (Nat.le_of_ble_eq_true rfl) (by rfl) ?_) | ((with_reducible show xcls _ _ _ ∧ _); refine s_cls (by rfl) (by rfl) ?_))
  refine v_Judge_gates i1 i3 i2 i10 (fun hh => by have := c0 hh; omega) (fun hh hw => by have := c1 hh hw; omega) (fun hm => ?_) (fun hm e' F1 hE => ?_)
  · refine ⟨rfl, ?_⟩
    repeat (first | ((with_reducible show ∃ _, _ ∧ _); first | refine s_fI (by rfl) (by rfl) (by rfl) ?_ | refine s_fR (by rfl) (by rfl) (by rfl) ?_ | refine s_pV (by rfl) (by rfl) (Nat.le_of_ble_eq_true rfl) (by rfl) ?_) | ((with_reducible show xcls _ _ _ ∧ _); refine s_cls (by rfl) (by rfl) ?_))
    refine v_Model_gates i4 i2 i9 (fun _ F2 L2 hM h0 => ?_) (fun hh => absurd hh hm)
    repeat (first | ((with_reducible show ∃ _, _ ∧ _); first | refine s_fI (by rfl) (by rfl) (by rfl) ?_ | refine s_fR (by rfl) (by rfl) (by rfl) ?_ | refine s_pV (by rfl) (by rfl) (Nat.le_of_ble_eq_true rfl) (by rfl) ?_) | ((with_reducible show xcls _ _ _ ∧ _); refine s_cls (by rfl) (by rfl) ?_))
    exact t_num (X := fun h => X h (kk + a) (nn + b)) h0 (fun hh => absurd hh (by decide)) (hX e w F2 L2 D _ _ (eQ.refl e) (hI.mod hM) (bud_2 hm c0))
  · have hq := hE.1
    have hi' : i + 5 < e'.1.2 := by rw [hq.1]; exact hi
    have hn' : e'.1.2 < 2 ^ 31 := by rw [hq.1]; exact hn
    rw [← hq.2.2.2.2.2.1]
    refine s_sL (k := 83) (i := 0) (by rfl) (by rfl) (by rfl) (by rfl) (by rfl) (by decide) (by decide) ?_
    have J1 := hI.cls hE (L' := upL L 83 0 (Int32.ofNat (gN (kd D))).toInt64) (upL_k (by decide))
    have J2 := J1
    obtain ⟨j1, j2, j3, j4, j5, j6, j7, j8, j9, j10, j80⟩ := J2
    rw [← hq.2.2.2.2.2.2]
    repeat (first | ((with_reducible show ∃ _, _ ∧ _); first | refine s_fI (by rfl) (by rfl) (by rfl) ?_ | refine s_fR (by rfl) (by rfl) (by rfl) ?_ | refine s_pV (by rfl) (by rfl) (Nat.le_of_ble_eq_true rfl) (by rfl) ?_) | ((with_reducible show xcls _ _ _ ∧ _); refine s_cls (by rfl) (by rfl) ?_))
    refine v_Model_gates j4 j2 j9 (fun hh => absurd hm hh) (fun _ F2 L2 hM h0 => ?_)
    repeat (first | ((with_reducible show ∃ _, _ ∧ _); first | refine s_fI (by rfl) (by rfl) (by rfl) ?_ | refine s_fR (by rfl) (by rfl) (by rfl) ?_ | refine s_pV (by rfl) (by rfl) (Nat.le_of_ble_eq_true rfl) (by rfl) ?_) | ((with_reducible show xcls _ _ _ ∧ _); refine s_cls (by rfl) (by rfl) ?_))
    exact t_num (X := fun h => X h (kk + a) (nn + b)) h0 (fun _ => by rw [hM.2.1 83 (Or.inl (by decide)), upL_i, if_pos rfl]) (hX e' true F2 L2 D _ _ hq (J1.mod hM) (bud_1 hm c1 c2))
theorem st_11 (hI : INV z sc e w F L D) (hi : i + 5 < e.1.2) (hn : e.1.2 < 2 ^ 31) (hX : NXT z sc e w g kk nn X) (hmc : kk + 29 ≤ mc) (hms : nn + 58894 ≤ ms) : (∃ mc98 ms99, kk + mc98 ≤ mc ∧ nn + ms99 ≤ ms ∧ wp_Law_judge z mc98 ms99 (fun v97 h96 => xcls h96 (ad e 100) 12 ∧ wp_Model_judge z (fun v103 h102 => xcls h102 (ad e 100) 12 ∧ wp_Model_thrown z (fun v105 h104 => (v105 = v97 → ((¬ v97 = 0 → (X h104 (kk + mc98) (nn + ms99))) ∧ (v97 = 0 → (∃ v106, aL h104 (ad e 83) 3 0 = some v106 ∧ (((lg_cmp v106 (v103.toInt64)) = 0 → (X h104 (kk + mc98) (nn + ms99))) ∧ (¬ (lg_cmp v106 (v103.toInt64)) = 0 → Q 0 h104)))))) ∧ (¬ v105 = v97 → Q 0 h104)) (ad e 100) h102) (ad e 100) h96) (ad e 60) (ad e 83) (mem e w F L g)) := by
  have hI' := hI
  obtain ⟨i1, i2, i3, i4, i5, i6, i7, i8, i9, i10, h80⟩ := hI'
  obtain ⟨a, b, ha, hb, c0, c1, c2⟩ := budget (mt D) w
  refine ⟨a, b, by omega, by omega, ?_⟩
  unfold wp_Law_judge
  refine ⟨a, b, by omega, by omega, ?_⟩
  repeat (first | ((with_reducible show ∃ _, _ ∧ _); first | refine s_fI (by rfl) (by rfl) (by rfl) ?_ | refine s_fR (by rfl) (by rfl) (by rfl) ?_ | refine s_pV (by rfl) (by rfl) (Nat.le_of_ble_eq_true rfl) (by rfl) ?_) | ((with_reducible show xcls _ _ _ ∧ _); refine s_cls (by rfl) (by rfl) ?_))
  refine v_Judge_judge i1 i3 i2 i10 (fun hh => by have := c0 hh; omega) (fun hh hw => by have := c1 hh hw; omega) (fun hm => ?_) (fun hm e' F1 hE => ?_)
  · refine ⟨rfl, ?_⟩
    repeat (first | ((with_reducible show ∃ _, _ ∧ _); first | refine s_fI (by rfl) (by rfl) (by rfl) ?_ | refine s_fR (by rfl) (by rfl) (by rfl) ?_ | refine s_pV (by rfl) (by rfl) (Nat.le_of_ble_eq_true rfl) (by rfl) ?_) | ((with_reducible show xcls _ _ _ ∧ _); refine s_cls (by rfl) (by rfl) ?_))
    refine v_Model_judge i4 i2 i9 (fun _ F2 L2 hM h0 => ?_) (fun hh => absurd hh hm)
    repeat (first | ((with_reducible show ∃ _, _ ∧ _); first | refine s_fI (by rfl) (by rfl) (by rfl) ?_ | refine s_fR (by rfl) (by rfl) (by rfl) ?_ | refine s_pV (by rfl) (by rfl) (Nat.le_of_ble_eq_true rfl) (by rfl) ?_) | ((with_reducible show xcls _ _ _ ∧ _); refine s_cls (by rfl) (by rfl) ?_))
    exact t_num (X := fun h => X h (kk + a) (nn + b)) h0 (fun hh => absurd hh (by decide)) (hX e w F2 L2 D _ _ (eQ.refl e) (hI.mod hM) (bud_2 hm c0))
  · have hq := hE.1
    have hi' : i + 5 < e'.1.2 := by rw [hq.1]; exact hi
    have hn' : e'.1.2 < 2 ^ 31 := by rw [hq.1]; exact hn
    rw [← hq.2.2.2.2.2.1]
    refine s_sL (k := 83) (i := 0) (by rfl) (by rfl) (by rfl) (by rfl) (by rfl) (by decide) (by decide) ?_
    have J1 := hI.cls hE (L' := upL L 83 0 (Int32.ofNat (len (kd D))).toInt64) (upL_k (by decide))
    have J2 := J1
    obtain ⟨j1, j2, j3, j4, j5, j6, j7, j8, j9, j10, j80⟩ := J2
    rw [← hq.2.2.2.2.2.2]
    repeat (first | ((with_reducible show ∃ _, _ ∧ _); first | refine s_fI (by rfl) (by rfl) (by rfl) ?_ | refine s_fR (by rfl) (by rfl) (by rfl) ?_ | refine s_pV (by rfl) (by rfl) (Nat.le_of_ble_eq_true rfl) (by rfl) ?_) | ((with_reducible show xcls _ _ _ ∧ _); refine s_cls (by rfl) (by rfl) ?_))
    refine v_Model_judge j4 j2 j9 (fun hh => absurd hm hh) (fun _ F2 L2 hM h0 => ?_)
    repeat (first | ((with_reducible show ∃ _, _ ∧ _); first | refine s_fI (by rfl) (by rfl) (by rfl) ?_ | refine s_fR (by rfl) (by rfl) (by rfl) ?_ | refine s_pV (by rfl) (by rfl) (Nat.le_of_ble_eq_true rfl) (by rfl) ?_) | ((with_reducible show xcls _ _ _ ∧ _); refine s_cls (by rfl) (by rfl) ?_))
    exact t_num (X := fun h => X h (kk + a) (nn + b)) h0 (fun _ => by rw [hM.2.1 83 (Or.inl (by decide)), upL_i, if_pos rfl]) (hX e' true F2 L2 D _ _ hq (J1.mod hM) (bud_1 hm c1 c2))
theorem st_12 (hI : INV z sc e w F L D) (hi : i + 5 < e.1.2) (hn : e.1.2 < 2 ^ 31) (hX : NXT z sc e w g kk nn X) (hmc : kk + 29 ≤ mc) (hms : nn + 58894 ≤ ms) : (∃ v107, aI (mem e w F L g) (ad e 80) 0 ((Int32.ofNat i) + 1) = some v107 ∧ (∃ mc110 ms111, kk + mc110 ≤ mc ∧ nn + ms111 ≤ ms ∧ xcls (mem e w F L g) (ad e 60) 11 ∧ wp_Judge_witness z mc110 ms111 (fun v109 h108 => ∃ v114, aI h108 (ad e 80) 0 ((Int32.ofNat i) + 1) = some v114 ∧ (xcls h108 (ad e 100) 12 ∧ wp_Model_witness z (fun v116 h115 => (v109 = v116 → (X h115 (kk + mc110) (nn + ms111))) ∧ (¬ v109 = v116 → Q 0 h115)) (ad e 100) v114 h108)) (ad e 60) v107 (mem e w F L g))) := by
  have hI' := hI
  obtain ⟨i1, i2, i3, i4, i5, i6, i7, i8, i9, i10, h80⟩ := hI'
  refine rd8 (sc := sc) (i := i + 1) (h80) (by rw [show (1 : Int32) = Int32.ofNat 1 from rfl, n_add]) (by omega) hn ?_
  obtain ⟨a, b, ha, hb, c0, c1, c2⟩ := budget (mt D ∧ ∃ k, sc (i + 1) = Int32.ofNat k ∧ k < 256) w
  refine ⟨a, b, by omega, by omega, ?_⟩
  repeat (first | ((with_reducible show ∃ _, _ ∧ _); first | refine s_fI (by rfl) (by rfl) (by rfl) ?_ | refine s_fR (by rfl) (by rfl) (by rfl) ?_ | refine s_pV (by rfl) (by rfl) (Nat.le_of_ble_eq_true rfl) (by rfl) ?_) | ((with_reducible show xcls _ _ _ ∧ _); refine s_cls (by rfl) (by rfl) ?_))
  refine v_Judge_witness i1 i3 i2 i10 (fun k hx hk hm hw => by have := c1 ⟨hm, k, hx, hk⟩ hw; omega) (fun hno => ?_) (fun k hm hx hk hl e' F1 hE => ?_) (fun k hm hx hk hl e' F1 hE => ?_)
  · refine rd8 (sc := sc) (i := i + 1) (h80) (by rw [show (1 : Int32) = Int32.ofNat 1 from rfl, n_add]) (by omega) hn ?_
    repeat (first | ((with_reducible show ∃ _, _ ∧ _); first | refine s_fI (by rfl) (by rfl) (by rfl) ?_ | refine s_fR (by rfl) (by rfl) (by rfl) ?_ | refine s_pV (by rfl) (by rfl) (Nat.le_of_ble_eq_true rfl) (by rfl) ?_) | ((with_reducible show xcls _ _ _ ∧ _); refine s_cls (by rfl) (by rfl) ?_))
    refine v_Model_witness i4 i2 i9 (fun _ F2 L2 hM => ?_) (fun k hm hx hk _ => absurd hm (hno k hx hk))
    exact ⟨fun _ => hX e w F2 L2 D _ _ (eQ.refl e) (hI.mod hM) (bud_2 (fun ⟨hm, k, hx, hk⟩ => hno k hx hk hm) c0), fun hh => absurd rfl hh⟩
  · have hq := hE.1
    have hi' : i + 5 < e'.1.2 := by rw [hq.1]; exact hi
    have hn' : e'.1.2 < 2 ^ 31 := by rw [hq.1]; exact hn
    have J1 := hI.cls hE (L' := L) rfl
    have J2 := J1
    obtain ⟨j1, j2, j3, j4, j5, j6, j7, j8, j9, j10, j80⟩ := J2
    rw [← hq.2.2.1]
    refine rd8 (sc := sc) (i := i + 1) j80 (by rw [show (1 : Int32) = Int32.ofNat 1 from rfl, n_add]) (by omega) hn' ?_
    rw [← hq.2.2.2.2.2.2]
    repeat (first | ((with_reducible show ∃ _, _ ∧ _); first | refine s_fI (by rfl) (by rfl) (by rfl) ?_ | refine s_fR (by rfl) (by rfl) (by rfl) ?_ | refine s_pV (by rfl) (by rfl) (Nat.le_of_ble_eq_true rfl) (by rfl) ?_) | ((with_reducible show xcls _ _ _ ∧ _); refine s_cls (by rfl) (by rfl) ?_))
    refine v_Model_witness j4 j2 j9 (fun _ F2 L2 hM => ?_) (fun k' _ hx' hk' hl' => absurd (n_inj (by omega) (by omega) (hx'.symm.trans hx) ▸ hl') hl)
    exact ⟨fun _ => hX e' true F2 L2 D _ _ hq (J1.mod hM) (bud_1 ⟨hm, k, hx, hk⟩ c1 c2), fun hh => absurd rfl hh⟩
  · have hq := hE.1
    have hi' : i + 5 < e'.1.2 := by rw [hq.1]; exact hi
    have hn' : e'.1.2 < 2 ^ 31 := by rw [hq.1]; exact hn
    have J1 := hI.cls hE (L' := L) rfl
    have J2 := J1
    obtain ⟨j1, j2, j3, j4, j5, j6, j7, j8, j9, j10, j80⟩ := J2
    rw [← hq.2.2.1]
    refine rd8 (sc := sc) (i := i + 1) j80 (by rw [show (1 : Int32) = Int32.ofNat 1 from rfl, n_add]) (by omega) hn' ?_
    rw [← hq.2.2.2.2.2.2]
    repeat (first | ((with_reducible show ∃ _, _ ∧ _); first | refine s_fI (by rfl) (by rfl) (by rfl) ?_ | refine s_fR (by rfl) (by rfl) (by rfl) ?_ | refine s_pV (by rfl) (by rfl) (Nat.le_of_ble_eq_true rfl) (by rfl) ?_) | ((with_reducible show xcls _ _ _ ∧ _); refine s_cls (by rfl) (by rfl) ?_))
    refine v_Model_witness j4 j2 j9 (fun hno => absurd hl (hno k hm hx hk)) (fun k' _ hx' hk' hl' F2 L2 hM => ?_)
    rw [show k' = k from n_inj (by omega) (by omega) (hx'.symm.trans hx)]
    exact ⟨fun _ => hX e' true F2 L2 D _ _ hq (J1.mod hM) (bud_1 ⟨hm, k, hx, hk⟩ c1 c2), fun hh => absurd rfl hh⟩
theorem st_13 (hI : INV z sc e w F L D) (hi : i + 5 < e.1.2) (hn : e.1.2 < 2 ^ 31) (hX : NXT z sc e w g kk nn X) (hmc : kk + 29 ≤ mc) (hms : nn + 58894 ≤ ms) : (∃ mc119 ms120, kk + mc119 ≤ mc ∧ nn + ms120 ≤ ms ∧ xcls (mem e w F L g) (ad e 60) 11 ∧ wp_Judge_blame z mc119 ms120 (fun v118 h117 => xcls h117 (ad e 100) 12 ∧ wp_Model_blame z (fun v124 h123 => (v118 = v124 → (X h123 (kk + mc119) (nn + ms120))) ∧ (¬ v118 = v124 → Q 0 h123)) (ad e 100) h117) (ad e 60) (mem e w F L g)) := by
  have hI' := hI
  obtain ⟨i1, i2, i3, i4, i5, i6, i7, i8, i9, i10, h80⟩ := hI'
  obtain ⟨a, b, ha, hb, c0, c1, c2⟩ := budget (mt D) w
  refine ⟨a, b, by omega, by omega, ?_⟩
  repeat (first | ((with_reducible show ∃ _, _ ∧ _); first | refine s_fI (by rfl) (by rfl) (by rfl) ?_ | refine s_fR (by rfl) (by rfl) (by rfl) ?_ | refine s_pV (by rfl) (by rfl) (Nat.le_of_ble_eq_true rfl) (by rfl) ?_) | ((with_reducible show xcls _ _ _ ∧ _); refine s_cls (by rfl) (by rfl) ?_))
  refine v_Judge_blame i1 i3 i2 i10 (fun hm hw => by have := c1 hm hw; omega) (fun hm => ?_) (fun hm e' F1 hE => ?_)
  · repeat (first | ((with_reducible show ∃ _, _ ∧ _); first | refine s_fI (by rfl) (by rfl) (by rfl) ?_ | refine s_fR (by rfl) (by rfl) (by rfl) ?_ | refine s_pV (by rfl) (by rfl) (Nat.le_of_ble_eq_true rfl) (by rfl) ?_) | ((with_reducible show xcls _ _ _ ∧ _); refine s_cls (by rfl) (by rfl) ?_))
    refine v_Model_blame i4 i2 i9 (fun _ F2 L2 hM => ?_) (fun hh => absurd hh hm)
    exact ⟨fun _ => hX e w F2 L2 D _ _ (eQ.refl e) (hI.mod hM) (bud_2 hm c0), fun hh => absurd rfl hh⟩
  · have hq := hE.1
    have hi' : i + 5 < e'.1.2 := by rw [hq.1]; exact hi
    have hn' : e'.1.2 < 2 ^ 31 := by rw [hq.1]; exact hn
    have J1 := hI.cls hE (L' := L) rfl
    have J2 := J1
    obtain ⟨j1, j2, j3, j4, j5, j6, j7, j8, j9, j10, j80⟩ := J2
    rw [← hq.2.2.2.2.2.2]
    repeat (first | ((with_reducible show ∃ _, _ ∧ _); first | refine s_fI (by rfl) (by rfl) (by rfl) ?_ | refine s_fR (by rfl) (by rfl) (by rfl) ?_ | refine s_pV (by rfl) (by rfl) (Nat.le_of_ble_eq_true rfl) (by rfl) ?_) | ((with_reducible show xcls _ _ _ ∧ _); refine s_cls (by rfl) (by rfl) ?_))
    refine v_Model_blame j4 j2 j9 (fun hno F2 L2 hM => ?_) (fun _ l1 l2 F2 L2 hM => ?_)
    · rw [if_neg (fun hh => hno ⟨hm, hh⟩)]
      exact ⟨fun _ => hX e' true F2 L2 D _ _ hq (J1.mod hM) (bud_1 hm c1 c2), fun hh => absurd rfl hh⟩
    · rw [if_pos ⟨l1, l2⟩]
      exact ⟨fun _ => hX e' true F2 L2 D _ _ hq (J1.mod hM) (bud_1 hm c1 c2), fun hh => absurd rfl hh⟩
theorem st_14 (hI : INV z sc e w F L D) (hi : i + 5 < e.1.2) (hn : e.1.2 < 2 ^ 31) (hX : NXT z sc e w g kk nn X) (hmc : kk + 29 ≤ mc) (hms : nn + 58894 ≤ ms) : (∃ v125, aI (mem e w F L g) (ad e 80) 0 ((Int32.ofNat i) + 1) = some v125 ∧ (∃ mc128 ms129, kk + mc128 ≤ mc ∧ nn + ms129 ≤ ms ∧ wp_Law_differs z mc128 ms129 (fun v127 h126 => ∃ v132, aI h126 (ad e 80) 0 ((Int32.ofNat i) + 1) = some v132 ∧ (xcls h126 (ad e 100) 12 ∧ wp_Model_differs z (fun v134 h133 => xcls h133 (ad e 100) 12 ∧ wp_Model_thrown z (fun v136 h135 => (v136 = v127 → ((¬ v127 = 0 → (X h135 (kk + mc128) (nn + ms129))) ∧ (v127 = 0 → (∃ v137, aL h135 (ad e 83) 3 0 = some v137 ∧ (((lg_cmp v137 (v134.toInt64)) = 0 → (X h135 (kk + mc128) (nn + ms129))) ∧ (¬ (lg_cmp v137 (v134.toInt64)) = 0 → Q 0 h135)))))) ∧ (¬ v136 = v127 → Q 0 h135)) (ad e 100) h133) (ad e 100) v132 h126)) (ad e 60) v125 (ad e 83) (mem e w F L g))) := by
  have hI' := hI
  obtain ⟨i1, i2, i3, i4, i5, i6, i7, i8, i9, i10, h80⟩ := hI'
  refine rd8 (sc := sc) (i := i + 1) (h80) (by rw [show (1 : Int32) = Int32.ofNat 1 from rfl, n_add]) (by omega) hn ?_
  obtain ⟨a, b, ha, hb, c0, c1, c2⟩ := budget (mt D ∧ ¬ sc (i + 1) < 1 ∧ ¬ 16 < sc (i + 1)) w
  refine ⟨a, b, by omega, by omega, ?_⟩
  unfold wp_Law_differs
  refine ⟨a, b, by omega, by omega, ?_⟩
  repeat (first | ((with_reducible show ∃ _, _ ∧ _); first | refine s_fI (by rfl) (by rfl) (by rfl) ?_ | refine s_fR (by rfl) (by rfl) (by rfl) ?_ | refine s_pV (by rfl) (by rfl) (Nat.le_of_ble_eq_true rfl) (by rfl) ?_) | ((with_reducible show xcls _ _ _ ∧ _); refine s_cls (by rfl) (by rfl) ?_))
  refine v_Judge_differs i1 i3 i2 i10 (fun hh => by have := c0 hh; omega) (fun h1 h2 h3 hw => by have := c1 ⟨h1, h2, h3⟩ hw; omega) (fun hm => ?_) (fun hm hx => ?_) (fun hm hx hx2 e' F1 hE => ?_)
  · refine Or.inl ⟨rfl, ?_⟩
    refine rd8 (sc := sc) (i := i + 1) (h80) (by rw [show (1 : Int32) = Int32.ofNat 1 from rfl, n_add]) (by omega) hn ?_
    repeat (first | ((with_reducible show ∃ _, _ ∧ _); first | refine s_fI (by rfl) (by rfl) (by rfl) ?_ | refine s_fR (by rfl) (by rfl) (by rfl) ?_ | refine s_pV (by rfl) (by rfl) (Nat.le_of_ble_eq_true rfl) (by rfl) ?_) | ((with_reducible show xcls _ _ _ ∧ _); refine s_cls (by rfl) (by rfl) ?_))
    refine v_Model_differs i4 i2 i9 (fun _ F2 L2 hM h0 => ?_) (fun hh => absurd hh hm) (fun hh => absurd hh hm)
    repeat (first | ((with_reducible show ∃ _, _ ∧ _); first | refine s_fI (by rfl) (by rfl) (by rfl) ?_ | refine s_fR (by rfl) (by rfl) (by rfl) ?_ | refine s_pV (by rfl) (by rfl) (Nat.le_of_ble_eq_true rfl) (by rfl) ?_) | ((with_reducible show xcls _ _ _ ∧ _); refine s_cls (by rfl) (by rfl) ?_))
    exact t_num (X := fun h => X h (kk + a) (nn + b)) h0 (fun hh => absurd hh (by decide)) (hX e w F2 L2 D _ _ (eQ.refl e) (hI.mod hM) (bud_2 (fun hh => hm hh.1) c0))
  · refine Or.inr ⟨rfl, ?_⟩
    refine rd8 (sc := sc) (i := i + 1) (h80) (by rw [show (1 : Int32) = Int32.ofNat 1 from rfl, n_add]) (by omega) hn ?_
    repeat (first | ((with_reducible show ∃ _, _ ∧ _); first | refine s_fI (by rfl) (by rfl) (by rfl) ?_ | refine s_fR (by rfl) (by rfl) (by rfl) ?_ | refine s_pV (by rfl) (by rfl) (Nat.le_of_ble_eq_true rfl) (by rfl) ?_) | ((with_reducible show xcls _ _ _ ∧ _); refine s_cls (by rfl) (by rfl) ?_))
    refine v_Model_differs i4 i2 i9 (fun hh => absurd hm hh) (fun _ _ F2 L2 hM h0 => ?_) (fun _ a1 a2 => absurd hx (fun hh => hh.elim a1 (Int32.not_lt.mpr a2)))
    repeat (first | ((with_reducible show ∃ _, _ ∧ _); first | refine s_fI (by rfl) (by rfl) (by rfl) ?_ | refine s_fR (by rfl) (by rfl) (by rfl) ?_ | refine s_pV (by rfl) (by rfl) (Nat.le_of_ble_eq_true rfl) (by rfl) ?_) | ((with_reducible show xcls _ _ _ ∧ _); refine s_cls (by rfl) (by rfl) ?_))
    exact t_num (X := fun h => X h (kk + a) (nn + b)) h0 (fun hh => absurd hh (by decide)) (hX e w F2 L2 D _ _ (eQ.refl e) (hI.mod hM) (bud_2 (fun hh => hx.elim hh.2.1 hh.2.2) c0))
  · have hq := hE.1
    have hi' : i + 5 < e'.1.2 := by rw [hq.1]; exact hi
    have hn' : e'.1.2 < 2 ^ 31 := by rw [hq.1]; exact hn
    rw [← hq.2.2.2.2.2.1]
    refine s_sL (k := 83) (i := 0) (by rfl) (by rfl) (by rfl) (by rfl) (by rfl) (by decide) (by decide) ?_
    have J1 := hI.cls hE (L' := upL L 83 0 (if sc (i + 1) < Int32.ofNat (len (kd D)) then 0 else Int32.ofNat (len (kd D))).toInt64) (upL_k (by decide))
    have J2 := J1
    obtain ⟨j1, j2, j3, j4, j5, j6, j7, j8, j9, j10, j80⟩ := J2
    rw [← hq.2.2.1]
    refine rd8 (sc := sc) (i := i + 1) j80 (by rw [show (1 : Int32) = Int32.ofNat 1 from rfl, n_add]) (by omega) hn' ?_
    rw [← hq.2.2.2.2.2.2]
    repeat (first | ((with_reducible show ∃ _, _ ∧ _); first | refine s_fI (by rfl) (by rfl) (by rfl) ?_ | refine s_fR (by rfl) (by rfl) (by rfl) ?_ | refine s_pV (by rfl) (by rfl) (Nat.le_of_ble_eq_true rfl) (by rfl) ?_) | ((with_reducible show xcls _ _ _ ∧ _); refine s_cls (by rfl) (by rfl) ?_))
    refine v_Model_differs j4 j2 j9 (fun hh => absurd hm hh) (fun _ a1 => absurd a1 (fun hh => hh.elim hx (fun h3 => h3 (Int32.not_lt.mp hx2)))) (fun _ _ _ F2 L2 hM h0 => ?_)
    repeat (first | ((with_reducible show ∃ _, _ ∧ _); first | refine s_fI (by rfl) (by rfl) (by rfl) ?_ | refine s_fR (by rfl) (by rfl) (by rfl) ?_ | refine s_pV (by rfl) (by rfl) (Nat.le_of_ble_eq_true rfl) (by rfl) ?_) | ((with_reducible show xcls _ _ _ ∧ _); refine s_cls (by rfl) (by rfl) ?_))
    exact t_num (X := fun h => X h (kk + a) (nn + b)) h0 (fun _ => by rw [hM.2.1 83 (Or.inl (by decide)), upL_i, if_pos rfl]) (hX e' true F2 L2 D _ _ hq (J1.mod hM) (bud_1 ⟨hm, hx, hx2⟩ c1 c2))
theorem st_15 (hI : INV z sc e w F L D) (hi : i + 5 < e.1.2) (hn : e.1.2 < 2 ^ 31) (hX : NXT z sc e w g kk nn X) (hmc : kk + 29 ≤ mc) (hms : nn + 58894 ≤ ms) : (∃ v138, aI (mem e w F L g) (ad e 80) 0 ((Int32.ofNat i) + 1) = some v138 ∧ (∃ mc141 ms142, kk + mc141 ≤ mc ∧ nn + ms142 ≤ ms ∧ wp_Law_inductive z mc141 ms142 (fun v140 h139 => ∃ v145, aI h139 (ad e 80) 0 ((Int32.ofNat i) + 1) = some v145 ∧ (xcls h139 (ad e 100) 12 ∧ wp_Model_inductive z (fun v147 h146 => xcls h146 (ad e 100) 12 ∧ wp_Model_thrown z (fun v150 h149 => (v150 = v140 → ((¬ v140 = 0 → (X h149 (kk + mc141) (nn + ms142))) ∧ (v140 = 0 → (∃ v151, aL h149 (ad e 83) 3 0 = some v151 ∧ ((v147 = 0 → (((lg_cmp v151 0 = 0 → X h149 (kk + mc141) (nn + ms142)) ∧ (¬ lg_cmp v151 0 = 0 → Q 0 h149)))) ∧ (¬ v147 = 0 → (((lg_cmp v151 1 = 0 → X h149 (kk + mc141) (nn + ms142)) ∧ (¬ lg_cmp v151 1 = 0 → Q 0 h149))))))))) ∧ (¬ v150 = v140 → Q 0 h149)) (ad e 100) h146) (ad e 100) v145 h139)) (ad e 60) v138 (ad e 83) (mem e w F L g))) := by
  have hI' := hI
  obtain ⟨i1, i2, i3, i4, i5, i6, i7, i8, i9, i10, h80⟩ := hI'
  refine rd8 (sc := sc) (i := i + 1) (h80) (by rw [show (1 : Int32) = Int32.ofNat 1 from rfl, n_add]) (by omega) hn ?_
  obtain ⟨a, b, ha, hb, c0, c1, c2⟩ := budget (mt D ∧ ∃ k, sc (i + 1) = Int32.ofNat k ∧ k ≤ 8) w
  refine ⟨a, b, by omega, by omega, ?_⟩
  unfold wp_Law_inductive
  generalize hQQ : (fun v h => _ : Int32 → xh → Prop) = QQ
  refine ⟨a, b, by omega, by omega, ?_⟩
  repeat (first | ((with_reducible show ∃ _, _ ∧ _); first | refine s_fI (by rfl) (by rfl) (by rfl) ?_ | refine s_fR (by rfl) (by rfl) (by rfl) ?_ | refine s_pV (by rfl) (by rfl) (Nat.le_of_ble_eq_true rfl) (by rfl) ?_) | ((with_reducible show xcls _ _ _ ∧ _); refine s_cls (by rfl) (by rfl) ?_))
  refine v_Judge_inductive i1 i3 i2 i10 (fun hh => by have := c0 hh; omega) (fun h1 h2 hw => by have := c1 ⟨h1, h2⟩ hw; omega) (fun hm => ?_) (fun hm hx => ?_) (fun k hm hx hk e' F1 y hE ya yb => ?_)
  · refine Or.inl ⟨rfl, ?_⟩
    rw [← hQQ]
    refine rd8 (sc := sc) (i := i + 1) (h80) (by rw [show (1 : Int32) = Int32.ofNat 1 from rfl, n_add]) (by omega) hn ?_
    repeat (first | ((with_reducible show ∃ _, _ ∧ _); first | refine s_fI (by rfl) (by rfl) (by rfl) ?_ | refine s_fR (by rfl) (by rfl) (by rfl) ?_ | refine s_pV (by rfl) (by rfl) (Nat.le_of_ble_eq_true rfl) (by rfl) ?_) | ((with_reducible show xcls _ _ _ ∧ _); refine s_cls (by rfl) (by rfl) ?_))
    refine v_Model_inductive i4 i2 i9 (fun _ F2 L2 hM h0 => ?_) (fun hh => absurd hh hm) (fun _ hh => absurd hh hm)
    repeat (first | ((with_reducible show ∃ _, _ ∧ _); first | refine s_fI (by rfl) (by rfl) (by rfl) ?_ | refine s_fR (by rfl) (by rfl) (by rfl) ?_ | refine s_pV (by rfl) (by rfl) (Nat.le_of_ble_eq_true rfl) (by rfl) ?_) | ((with_reducible show xcls _ _ _ ∧ _); refine s_cls (by rfl) (by rfl) ?_))
    exact t_bool (X := fun h => X h (kk + a) (nn + b)) h0 (Or.inl rfl) (fun hh => absurd hh (by decide)) (hX e w F2 L2 D _ _ (eQ.refl e) (hI.mod hM) (bud_2 (fun hh => hm hh.1) c0))
  · refine Or.inr ⟨rfl, ?_⟩
    rw [← hQQ]
    refine rd8 (sc := sc) (i := i + 1) (h80) (by rw [show (1 : Int32) = Int32.ofNat 1 from rfl, n_add]) (by omega) hn ?_
    repeat (first | ((with_reducible show ∃ _, _ ∧ _); first | refine s_fI (by rfl) (by rfl) (by rfl) ?_ | refine s_fR (by rfl) (by rfl) (by rfl) ?_ | refine s_pV (by rfl) (by rfl) (Nat.le_of_ble_eq_true rfl) (by rfl) ?_) | ((with_reducible show xcls _ _ _ ∧ _); refine s_cls (by rfl) (by rfl) ?_))
    refine v_Model_inductive i4 i2 i9 (fun hh => absurd hm hh) (fun _ _ F2 L2 hM h0 => ?_) (fun k _ a1 a2 => absurd ⟨k, a1, a2⟩ hx)
    repeat (first | ((with_reducible show ∃ _, _ ∧ _); first | refine s_fI (by rfl) (by rfl) (by rfl) ?_ | refine s_fR (by rfl) (by rfl) (by rfl) ?_ | refine s_pV (by rfl) (by rfl) (Nat.le_of_ble_eq_true rfl) (by rfl) ?_) | ((with_reducible show xcls _ _ _ ∧ _); refine s_cls (by rfl) (by rfl) ?_))
    exact t_bool (X := fun h => X h (kk + a) (nn + b)) h0 (Or.inl rfl) (fun hh => absurd hh (by decide)) (hX e w F2 L2 D _ _ (eQ.refl e) (hI.mod hM) (bud_2 (fun hh => hx hh.2) c0))
  · have hq := hE.1
    have hi' : i + 5 < e'.1.2 := by rw [hq.1]; exact hi
    have hn' : e'.1.2 < 2 ^ 31 := by rw [hq.1]; exact hn
    have fin : ∀ (s : Int64) (v : Int32), s = v.toInt64 → (v = 0 ∨ v = 1) → (indK (kd D) k → v = 1) → (¬ indK (kd D) k → v = 0) → wp_Law_inductive_15 z a b QQ s 0 (ad e 83) (mem e' true F1 L g) (0 + a) (0 + b) := by
      intro s v hs hv va vb
      rw [← hQQ]
      unfold wp_Law_inductive_15
      rw [← hq.2.2.2.2.2.1]
      refine s_sL (k := 83) (i := 0) (by rfl) (by rfl) (by rfl) (by rfl) (by rfl) (by decide) (by decide) ?_
      have J1 := hI.cls hE (L' := upL L 83 0 s) (upL_k (by decide))
      have J2 := J1
      obtain ⟨j1, j2, j3, j4, j5, j6, j7, j8, j9, j10, j80⟩ := J2
      rw [← hq.2.2.1]
      refine rd8 (sc := sc) (i := i + 1) j80 (by rw [show (1 : Int32) = Int32.ofNat 1 from rfl, n_add]) (by omega) hn' ?_
      rw [← hq.2.2.2.2.2.2]
      repeat (first | ((with_reducible show ∃ _, _ ∧ _); first | refine s_fI (by rfl) (by rfl) (by rfl) ?_ | refine s_fR (by rfl) (by rfl) (by rfl) ?_ | refine s_pV (by rfl) (by rfl) (Nat.le_of_ble_eq_true rfl) (by rfl) ?_) | ((with_reducible show xcls _ _ _ ∧ _); refine s_cls (by rfl) (by rfl) ?_))
      refine v_Model_inductive j4 j2 j9 (fun hh => absurd hm hh) (fun _ a1 => absurd hk (a1 k hx)) (fun k' _ hx' hk' F2 L2 y2 hM h0 ya2 yb2 => ?_)
      have ek : k' = k := n_inj (by omega) (by omega) (hx'.symm.trans hx)
      rw [ek] at ya2 yb2
      have hyv : y2 = v := by
        by_cases hc0 : indK (kd D) k
        · rw [va hc0, ya2 hc0]
        · rw [vb hc0, yb2 hc0]
      rw [hyv]
      repeat (first | ((with_reducible show ∃ _, _ ∧ _); first | refine s_fI (by rfl) (by rfl) (by rfl) ?_ | refine s_fR (by rfl) (by rfl) (by rfl) ?_ | refine s_pV (by rfl) (by rfl) (Nat.le_of_ble_eq_true rfl) (by rfl) ?_) | ((with_reducible show xcls _ _ _ ∧ _); refine s_cls (by rfl) (by rfl) ?_))
      exact t_bool (X := fun h => X h (kk + a) (nn + b)) h0 hv (fun _ => by rw [hM.2.1 83 (Or.inl (by decide)), upL_i, if_pos rfl, hs]) (hX e' true F2 L2 D _ _ hq (J1.mod hM) (bud_1 ⟨hm, k, hx, hk⟩ c1 c2))
    by_cases hc0 : indK (kd D) k
    · rw [ya hc0]
      exact ⟨fun hh => absurd hh (by decide), fun _ => fin 1 1 rfl (Or.inr rfl) (fun _ => rfl) (fun hh => absurd hc0 hh)⟩
    · rw [yb hc0]
      exact ⟨fun _ => fin 0 0 rfl (Or.inl rfl) (fun hh => absurd hh hc0) (fun _ => rfl), fun hh => absurd rfl hh⟩
theorem st_16 (hI : INV z sc e w F L D) (hi : i + 5 < e.1.2) (hn : e.1.2 < 2 ^ 31) (hX : NXT z sc e w g kk nn X) (hmc : kk + 29 ≤ mc) (hms : nn + 58894 ≤ ms) : (∃ v152, aI (mem e w F L g) (ad e 80) 0 ((Int32.ofNat i) + 1) = some v152 ∧ (∃ mc155 ms156, kk + mc155 ≤ mc ∧ nn + ms156 ≤ ms ∧ wp_Law_pairs z mc155 ms156 (fun v154 h153 => ∃ v159, aI h153 (ad e 80) 0 ((Int32.ofNat i) + 1) = some v159 ∧ (xcls h153 (ad e 100) 12 ∧ wp_Model_pairs z (fun v161 h160 => xcls h160 (ad e 100) 12 ∧ wp_Model_thrown z (fun v163 h162 => (v163 = v154 → ((¬ v154 = 0 → (X h162 (kk + mc155) (nn + ms156))) ∧ (v154 = 0 → (∃ v164, aL h162 (ad e 83) 3 0 = some v164 ∧ (((lg_cmp v164 (v161.toInt64)) = 0 → (X h162 (kk + mc155) (nn + ms156))) ∧ (¬ (lg_cmp v164 (v161.toInt64)) = 0 → Q 0 h162)))))) ∧ (¬ v163 = v154 → Q 0 h162)) (ad e 100) h160) (ad e 100) v159 h153)) (ad e 60) v152 (ad e 83) (mem e w F L g))) := by
  have hI' := hI
  obtain ⟨i1, i2, i3, i4, i5, i6, i7, i8, i9, i10, h80⟩ := hI'
  refine rd8 (sc := sc) (i := i + 1) (h80) (by rw [show (1 : Int32) = Int32.ofNat 1 from rfl, n_add]) (by omega) hn ?_
  obtain ⟨a, b, ha, hb, c0, c1, c2⟩ := budget (mt D ∧ (sc (i + 1) = 0 ∨ sc (i + 1) = 1)) w
  refine ⟨a, b, by omega, by omega, ?_⟩
  unfold wp_Law_pairs
  refine ⟨a, b, by omega, by omega, ?_⟩
  repeat (first | ((with_reducible show ∃ _, _ ∧ _); first | refine s_fI (by rfl) (by rfl) (by rfl) ?_ | refine s_fR (by rfl) (by rfl) (by rfl) ?_ | refine s_pV (by rfl) (by rfl) (Nat.le_of_ble_eq_true rfl) (by rfl) ?_) | ((with_reducible show xcls _ _ _ ∧ _); refine s_cls (by rfl) (by rfl) ?_))
  refine v_Judge_pairs i1 i3 i2 i10 (fun hh => by have := c0 hh; omega) (fun h1 h2 hw => by have := c1 ⟨h1, h2⟩ hw; omega) (fun hm => ?_) (fun hm hx => ?_) (fun hm hx e' F1 hE => ?_)
  · refine Or.inl ⟨rfl, ?_⟩
    refine rd8 (sc := sc) (i := i + 1) (h80) (by rw [show (1 : Int32) = Int32.ofNat 1 from rfl, n_add]) (by omega) hn ?_
    repeat (first | ((with_reducible show ∃ _, _ ∧ _); first | refine s_fI (by rfl) (by rfl) (by rfl) ?_ | refine s_fR (by rfl) (by rfl) (by rfl) ?_ | refine s_pV (by rfl) (by rfl) (Nat.le_of_ble_eq_true rfl) (by rfl) ?_) | ((with_reducible show xcls _ _ _ ∧ _); refine s_cls (by rfl) (by rfl) ?_))
    refine v_Model_pairs i4 i2 i9 (fun _ F2 L2 hM h0 => ?_) (fun hh => absurd hh hm) (fun hh => absurd hh hm)
    repeat (first | ((with_reducible show ∃ _, _ ∧ _); first | refine s_fI (by rfl) (by rfl) (by rfl) ?_ | refine s_fR (by rfl) (by rfl) (by rfl) ?_ | refine s_pV (by rfl) (by rfl) (Nat.le_of_ble_eq_true rfl) (by rfl) ?_) | ((with_reducible show xcls _ _ _ ∧ _); refine s_cls (by rfl) (by rfl) ?_))
    exact t_num (X := fun h => X h (kk + a) (nn + b)) h0 (fun hh => absurd hh (by decide)) (hX e w F2 L2 D _ _ (eQ.refl e) (hI.mod hM) (bud_2 (fun hh => hm hh.1) c0))
  · refine Or.inr ⟨rfl, ?_⟩
    refine rd8 (sc := sc) (i := i + 1) (h80) (by rw [show (1 : Int32) = Int32.ofNat 1 from rfl, n_add]) (by omega) hn ?_
    repeat (first | ((with_reducible show ∃ _, _ ∧ _); first | refine s_fI (by rfl) (by rfl) (by rfl) ?_ | refine s_fR (by rfl) (by rfl) (by rfl) ?_ | refine s_pV (by rfl) (by rfl) (Nat.le_of_ble_eq_true rfl) (by rfl) ?_) | ((with_reducible show xcls _ _ _ ∧ _); refine s_cls (by rfl) (by rfl) ?_))
    refine v_Model_pairs i4 i2 i9 (fun hh => absurd hm hh) (fun _ _ _ F2 L2 hM h0 => ?_) (fun _ a1 => absurd a1 hx)
    repeat (first | ((with_reducible show ∃ _, _ ∧ _); first | refine s_fI (by rfl) (by rfl) (by rfl) ?_ | refine s_fR (by rfl) (by rfl) (by rfl) ?_ | refine s_pV (by rfl) (by rfl) (Nat.le_of_ble_eq_true rfl) (by rfl) ?_) | ((with_reducible show xcls _ _ _ ∧ _); refine s_cls (by rfl) (by rfl) ?_))
    exact t_num (X := fun h => X h (kk + a) (nn + b)) h0 (fun hh => absurd hh (by decide)) (hX e w F2 L2 D _ _ (eQ.refl e) (hI.mod hM) (bud_2 (fun hh => hx hh.2) c0))
  · have hq := hE.1
    have hi' : i + 5 < e'.1.2 := by rw [hq.1]; exact hi
    have hn' : e'.1.2 < 2 ^ 31 := by rw [hq.1]; exact hn
    rw [← hq.2.2.2.2.2.1]
    refine s_sL (k := 83) (i := 0) (by rfl) (by rfl) (by rfl) (by rfl) (by rfl) (by decide) (by decide) ?_
    have J1 := hI.cls hE (L' := upL L 83 0 (if sc (i + 1) = 0 then Int32.ofNat (pz (kd D)) else Int32.ofNat (pd (kd D) (pq (kd D) (pz (kd D) - 1)) - 1)).toInt64) (upL_k (by decide))
    have J2 := J1
    obtain ⟨j1, j2, j3, j4, j5, j6, j7, j8, j9, j10, j80⟩ := J2
    rw [← hq.2.2.1]
    refine rd8 (sc := sc) (i := i + 1) j80 (by rw [show (1 : Int32) = Int32.ofNat 1 from rfl, n_add]) (by omega) hn' ?_
    rw [← hq.2.2.2.2.2.2]
    repeat (first | ((with_reducible show ∃ _, _ ∧ _); first | refine s_fI (by rfl) (by rfl) (by rfl) ?_ | refine s_fR (by rfl) (by rfl) (by rfl) ?_ | refine s_pV (by rfl) (by rfl) (Nat.le_of_ble_eq_true rfl) (by rfl) ?_) | ((with_reducible show xcls _ _ _ ∧ _); refine s_cls (by rfl) (by rfl) ?_))
    refine v_Model_pairs j4 j2 j9 (fun hh => absurd hm hh) (fun _ a1 a2 => absurd hx (fun hh => hh.elim a1 a2)) (fun _ _ F2 L2 hM h0 => ?_)
    repeat (first | ((with_reducible show ∃ _, _ ∧ _); first | refine s_fI (by rfl) (by rfl) (by rfl) ?_ | refine s_fR (by rfl) (by rfl) (by rfl) ?_ | refine s_pV (by rfl) (by rfl) (Nat.le_of_ble_eq_true rfl) (by rfl) ?_) | ((with_reducible show xcls _ _ _ ∧ _); refine s_cls (by rfl) (by rfl) ?_))
    exact t_num (X := fun h => X h (kk + a) (nn + b)) h0 (fun _ => by rw [hM.2.1 83 (Or.inl (by decide)), upL_i, if_pos rfl]) (hX e' true F2 L2 D _ _ hq (J1.mod hM) (bud_1 ⟨hm, hx⟩ c1 c2))
theorem st_17 (hI : INV z sc e w F L D) (hi : i + 5 < e.1.2) (hn : e.1.2 < 2 ^ 31) (hX : NXT z sc e w g kk nn X) (hmc : kk + 29 ≤ mc) (hms : nn + 58894 ≤ ms) : (∃ v165, aI (mem e w F L g) (ad e 80) 0 ((Int32.ofNat i) + 1) = some v165 ∧ (∃ v166, aI (mem e w F L g) (ad e 80) 0 ((Int32.ofNat i) + 2) = some v166 ∧ (∃ mc169 ms170, kk + mc169 ≤ mc ∧ nn + ms170 ≤ ms ∧ wp_Law_depth z mc169 ms170 (fun v168 h167 => ∃ v173, aI h167 (ad e 80) 0 ((Int32.ofNat i) + 1) = some v173 ∧ (∃ v174, aI h167 (ad e 80) 0 ((Int32.ofNat i) + 2) = some v174 ∧ (xcls h167 (ad e 100) 12 ∧ wp_Model_depth z (fun v176 h175 => xcls h175 (ad e 100) 12 ∧ wp_Model_thrown z (fun v178 h177 => (v178 = v168 → ((¬ v168 = 0 → (X h177 (kk + mc169) (nn + ms170))) ∧ (v168 = 0 → (∃ v179, aL h177 (ad e 83) 3 0 = some v179 ∧ (((lg_cmp v179 (v176.toInt64)) = 0 → (X h177 (kk + mc169) (nn + ms170))) ∧ (¬ (lg_cmp v179 (v176.toInt64)) = 0 → Q 0 h177)))))) ∧ (¬ v178 = v168 → Q 0 h177)) (ad e 100) h175) (ad e 100) v173 v174 h167))) (ad e 60) v165 v166 (ad e 83) (mem e w F L g)))) := by
  have hI' := hI
  obtain ⟨i1, i2, i3, i4, i5, i6, i7, i8, i9, i10, h80⟩ := hI'
  refine rd8 (sc := sc) (i := i + 1) (h80) (by rw [show (1 : Int32) = Int32.ofNat 1 from rfl, n_add]) (by omega) hn ?_
  refine rd8 (sc := sc) (i := i + 2) (h80) (by rw [show (2 : Int32) = Int32.ofNat 2 from rfl, n_add]) (by omega) hn ?_
  obtain ⟨a, b, ha, hb, c0, c1, c2⟩ := budget (mt D ∧ ∃ s t, sc (i + 1) = Int32.ofNat s ∧ sc (i + 2) = Int32.ofNat t ∧ s < 2 ^ (kd D 0 0 2) ∧ t < 2 ^ (kd D 1 0 2)) w
  refine ⟨a, b, by omega, by omega, ?_⟩
  unfold wp_Law_depth
  refine ⟨a, b, by omega, by omega, ?_⟩
  repeat (first | ((with_reducible show ∃ _, _ ∧ _); first | refine s_fI (by rfl) (by rfl) (by rfl) ?_ | refine s_fR (by rfl) (by rfl) (by rfl) ?_ | refine s_pV (by rfl) (by rfl) (Nat.le_of_ble_eq_true rfl) (by rfl) ?_) | ((with_reducible show xcls _ _ _ ∧ _); refine s_cls (by rfl) (by rfl) ?_))
  refine v_Judge_depth i1 i3 i2 i10 (fun hh => by have := c0 hh; omega) (fun h1 h2 hw => by have := c1 ⟨h1, h2⟩ hw; omega) (fun hm => ?_) (fun hm hx => ?_) (fun s t hm hx hy hs ht e' F1 hE => ?_)
  · refine Or.inl ⟨rfl, ?_⟩
    refine rd8 (sc := sc) (i := i + 1) (h80) (by rw [show (1 : Int32) = Int32.ofNat 1 from rfl, n_add]) (by omega) hn ?_
    refine rd8 (sc := sc) (i := i + 2) (h80) (by rw [show (2 : Int32) = Int32.ofNat 2 from rfl, n_add]) (by omega) hn ?_
    repeat (first | ((with_reducible show ∃ _, _ ∧ _); first | refine s_fI (by rfl) (by rfl) (by rfl) ?_ | refine s_fR (by rfl) (by rfl) (by rfl) ?_ | refine s_pV (by rfl) (by rfl) (Nat.le_of_ble_eq_true rfl) (by rfl) ?_) | ((with_reducible show xcls _ _ _ ∧ _); refine s_cls (by rfl) (by rfl) ?_))
    refine v_Model_depth i4 i2 i9 (fun _ F2 L2 hM h0 => ?_) (fun hh => absurd hh hm) (fun _ _ hh => absurd hh hm)
    repeat (first | ((with_reducible show ∃ _, _ ∧ _); first | refine s_fI (by rfl) (by rfl) (by rfl) ?_ | refine s_fR (by rfl) (by rfl) (by rfl) ?_ | refine s_pV (by rfl) (by rfl) (Nat.le_of_ble_eq_true rfl) (by rfl) ?_) | ((with_reducible show xcls _ _ _ ∧ _); refine s_cls (by rfl) (by rfl) ?_))
    exact t_num (X := fun h => X h (kk + a) (nn + b)) h0 (fun hh => absurd hh (by decide)) (hX e w F2 L2 D _ _ (eQ.refl e) (hI.mod hM) (bud_2 (fun hh => hm hh.1) c0))
  · refine Or.inr ⟨rfl, ?_⟩
    refine rd8 (sc := sc) (i := i + 1) (h80) (by rw [show (1 : Int32) = Int32.ofNat 1 from rfl, n_add]) (by omega) hn ?_
    refine rd8 (sc := sc) (i := i + 2) (h80) (by rw [show (2 : Int32) = Int32.ofNat 2 from rfl, n_add]) (by omega) hn ?_
    repeat (first | ((with_reducible show ∃ _, _ ∧ _); first | refine s_fI (by rfl) (by rfl) (by rfl) ?_ | refine s_fR (by rfl) (by rfl) (by rfl) ?_ | refine s_pV (by rfl) (by rfl) (Nat.le_of_ble_eq_true rfl) (by rfl) ?_) | ((with_reducible show xcls _ _ _ ∧ _); refine s_cls (by rfl) (by rfl) ?_))
    refine v_Model_depth i4 i2 i9 (fun hh => absurd hm hh) (fun _ _ F2 L2 hM h0 => ?_) (fun s t _ a1 a2 a3 a4 => absurd ⟨s, t, a1, a2, a3, a4⟩ hx)
    repeat (first | ((with_reducible show ∃ _, _ ∧ _); first | refine s_fI (by rfl) (by rfl) (by rfl) ?_ | refine s_fR (by rfl) (by rfl) (by rfl) ?_ | refine s_pV (by rfl) (by rfl) (Nat.le_of_ble_eq_true rfl) (by rfl) ?_) | ((with_reducible show xcls _ _ _ ∧ _); refine s_cls (by rfl) (by rfl) ?_))
    exact t_num (X := fun h => X h (kk + a) (nn + b)) h0 (fun hh => absurd hh (by decide)) (hX e w F2 L2 D _ _ (eQ.refl e) (hI.mod hM) (bud_2 (fun hh => hx hh.2) c0))
  · have hq := hE.1
    have hi' : i + 5 < e'.1.2 := by rw [hq.1]; exact hi
    have hn' : e'.1.2 < 2 ^ 31 := by rw [hq.1]; exact hn
    rw [← hq.2.2.2.2.2.1]
    refine s_sL (k := 83) (i := 0) (by rfl) (by rfl) (by rfl) (by rfl) (by rfl) (by decide) (by decide) ?_
    have J1 := hI.cls hE (L' := upL L 83 0 (Int32.ofNat (pd (kd D) (64 * s + t)) - 1).toInt64) (upL_k (by decide))
    have J2 := J1
    obtain ⟨j1, j2, j3, j4, j5, j6, j7, j8, j9, j10, j80⟩ := J2
    rw [← hq.2.2.1]
    refine rd8 (sc := sc) (i := i + 1) j80 (by rw [show (1 : Int32) = Int32.ofNat 1 from rfl, n_add]) (by omega) hn' ?_
    refine rd8 (sc := sc) (i := i + 2) j80 (by rw [show (2 : Int32) = Int32.ofNat 2 from rfl, n_add]) (by omega) hn' ?_
    rw [← hq.2.2.2.2.2.2]
    repeat (first | ((with_reducible show ∃ _, _ ∧ _); first | refine s_fI (by rfl) (by rfl) (by rfl) ?_ | refine s_fR (by rfl) (by rfl) (by rfl) ?_ | refine s_pV (by rfl) (by rfl) (Nat.le_of_ble_eq_true rfl) (by rfl) ?_) | ((with_reducible show xcls _ _ _ ∧ _); refine s_cls (by rfl) (by rfl) ?_))
    have p0 := pw6 (hm.MK i2).1
    have p1 := pw6 (hm.MK i2).2.1
    refine v_Model_depth j4 j2 j9 (fun hh => absurd hm hh) (fun _ a1 => absurd ht (a1 s t hx hy hs)) (fun s' t' _ hx' hy' hs' ht' F2 L2 hM h0 => ?_)
    rw [show s' = s from n_inj (by omega) (by omega) (hx'.symm.trans hx), show t' = t from n_inj (by omega) (by omega) (hy'.symm.trans hy)]
    repeat (first | ((with_reducible show ∃ _, _ ∧ _); first | refine s_fI (by rfl) (by rfl) (by rfl) ?_ | refine s_fR (by rfl) (by rfl) (by rfl) ?_ | refine s_pV (by rfl) (by rfl) (Nat.le_of_ble_eq_true rfl) (by rfl) ?_) | ((with_reducible show xcls _ _ _ ∧ _); refine s_cls (by rfl) (by rfl) ?_))
    exact t_num (X := fun h => X h (kk + a) (nn + b)) h0 (fun _ => by rw [hM.2.1 83 (Or.inl (by decide)), upL_i, if_pos rfl]) (hX e' true F2 L2 D _ _ hq (J1.mod hM) (bud_1 ⟨hm, s, t, hx, hy, hs, ht⟩ c1 c2))
theorem st_18 (hI : INV z sc e w F L D) (hi : i + 5 < e.1.2) (hn : e.1.2 < 2 ^ 31) (hX : NXT z sc e w g kk nn X) (hmc : kk + 29 ≤ mc) (hms : nn + 58894 ≤ ms) : (∃ v180, aI (mem e w F L g) (ad e 80) 0 ((Int32.ofNat i) + 1) = some v180 ∧ (∃ v181, aI (mem e w F L g) (ad e 80) 0 ((Int32.ofNat i) + 2) = some v181 ∧ (∃ v182, aI (mem e w F L g) (ad e 80) 0 ((Int32.ofNat i) + 3) = some v182 ∧ (∃ v183, aI (mem e w F L g) (ad e 80) 0 ((Int32.ofNat i) + 4) = some v183 ∧ (∃ mc186 ms187, kk + mc186 ≤ mc ∧ nn + ms187 ≤ ms ∧ wp_Law_same z mc186 ms187 (fun v185 h184 => ∃ v190, aI h184 (ad e 80) 0 ((Int32.ofNat i) + 1) = some v190 ∧ (∃ v191, aI h184 (ad e 80) 0 ((Int32.ofNat i) + 2) = some v191 ∧ (∃ v192, aI h184 (ad e 80) 0 ((Int32.ofNat i) + 3) = some v192 ∧ (∃ v193, aI h184 (ad e 80) 0 ((Int32.ofNat i) + 4) = some v193 ∧ (xcls h184 (ad e 100) 12 ∧ wp_Model_same z (fun v195 h194 => xcls h194 (ad e 100) 12 ∧ wp_Model_thrown z (fun v198 h197 => (v198 = v185 → ((¬ v185 = 0 → (X h197 (kk + mc186) (nn + ms187))) ∧ (v185 = 0 → (∃ v199, aL h197 (ad e 83) 3 0 = some v199 ∧ ((v195 = 0 → (((lg_cmp v199 0 = 0 → X h197 (kk + mc186) (nn + ms187)) ∧ (¬ lg_cmp v199 0 = 0 → Q 0 h197)))) ∧ (¬ v195 = 0 → (((lg_cmp v199 1 = 0 → X h197 (kk + mc186) (nn + ms187)) ∧ (¬ lg_cmp v199 1 = 0 → Q 0 h197))))))))) ∧ (¬ v198 = v185 → Q 0 h197)) (ad e 100) h194) (ad e 100) v190 v191 v192 v193 h184))))) (ad e 60) v180 v181 v182 v183 (ad e 83) (mem e w F L g)))))) := by
  have hI' := hI
  obtain ⟨i1, i2, i3, i4, i5, i6, i7, i8, i9, i10, h80⟩ := hI'
  refine rd8 (sc := sc) (i := i + 1) (h80) (by rw [show (1 : Int32) = Int32.ofNat 1 from rfl, n_add]) (by omega) hn ?_
  refine rd8 (sc := sc) (i := i + 2) (h80) (by rw [show (2 : Int32) = Int32.ofNat 2 from rfl, n_add]) (by omega) hn ?_
  refine rd8 (sc := sc) (i := i + 3) (h80) (by rw [show (3 : Int32) = Int32.ofNat 3 from rfl, n_add]) (by omega) hn ?_
  refine rd8 (sc := sc) (i := i + 4) (h80) (by rw [show (4 : Int32) = Int32.ofNat 4 from rfl, n_add]) (by omega) hn ?_
  obtain ⟨a, b, ha, hb, c0, c1, c2⟩ := budget (mt D ∧ ∃ c C l d C' o, isL D (sc (i + 1)) (sc (i + 2)) c C l ∧ isL D (sc (i + 3)) (sc (i + 4)) d C' o) w
  refine ⟨a, b, by omega, by omega, ?_⟩
  unfold wp_Law_same
  generalize hQQ : (fun v h => _ : Int32 → xh → Prop) = QQ
  refine ⟨a, b, by omega, by omega, ?_⟩
  repeat (first | ((with_reducible show ∃ _, _ ∧ _); first | refine s_fI (by rfl) (by rfl) (by rfl) ?_ | refine s_fR (by rfl) (by rfl) (by rfl) ?_ | refine s_pV (by rfl) (by rfl) (Nat.le_of_ble_eq_true rfl) (by rfl) ?_) | ((with_reducible show xcls _ _ _ ∧ _); refine s_cls (by rfl) (by rfl) ?_))
  refine v_Judge_same i1 i3 i2 i10 (fun hh => by have := c0 hh; omega) (fun h1 h2 hw => by have := c1 ⟨h1, h2⟩ hw; omega) (fun hm => ?_) (fun hm hx => ?_) (fun c l d o hm hl ho e' F1 y hE ya yb => ?_)
  · refine Or.inl ⟨rfl, ?_⟩
    rw [← hQQ]
    refine rd8 (sc := sc) (i := i + 1) (h80) (by rw [show (1 : Int32) = Int32.ofNat 1 from rfl, n_add]) (by omega) hn ?_
    refine rd8 (sc := sc) (i := i + 2) (h80) (by rw [show (2 : Int32) = Int32.ofNat 2 from rfl, n_add]) (by omega) hn ?_
    refine rd8 (sc := sc) (i := i + 3) (h80) (by rw [show (3 : Int32) = Int32.ofNat 3 from rfl, n_add]) (by omega) hn ?_
    refine rd8 (sc := sc) (i := i + 4) (h80) (by rw [show (4 : Int32) = Int32.ofNat 4 from rfl, n_add]) (by omega) hn ?_
    repeat (first | ((with_reducible show ∃ _, _ ∧ _); first | refine s_fI (by rfl) (by rfl) (by rfl) ?_ | refine s_fR (by rfl) (by rfl) (by rfl) ?_ | refine s_pV (by rfl) (by rfl) (Nat.le_of_ble_eq_true rfl) (by rfl) ?_) | ((with_reducible show xcls _ _ _ ∧ _); refine s_cls (by rfl) (by rfl) ?_))
    refine v_Model_same i4 i2 i9 (fun _ F2 L2 hM h0 => ?_) (fun hh => absurd hh hm) (fun _ _ _ _ hh => absurd hh hm)
    repeat (first | ((with_reducible show ∃ _, _ ∧ _); first | refine s_fI (by rfl) (by rfl) (by rfl) ?_ | refine s_fR (by rfl) (by rfl) (by rfl) ?_ | refine s_pV (by rfl) (by rfl) (Nat.le_of_ble_eq_true rfl) (by rfl) ?_) | ((with_reducible show xcls _ _ _ ∧ _); refine s_cls (by rfl) (by rfl) ?_))
    exact t_bool (X := fun h => X h (kk + a) (nn + b)) h0 (Or.inl rfl) (fun hh => absurd hh (by decide)) (hX e w F2 L2 D _ _ (eQ.refl e) (hI.mod hM) (bud_2 (fun hh => hm hh.1) c0))
  · refine Or.inr ⟨rfl, ?_⟩
    rw [← hQQ]
    refine rd8 (sc := sc) (i := i + 1) (h80) (by rw [show (1 : Int32) = Int32.ofNat 1 from rfl, n_add]) (by omega) hn ?_
    refine rd8 (sc := sc) (i := i + 2) (h80) (by rw [show (2 : Int32) = Int32.ofNat 2 from rfl, n_add]) (by omega) hn ?_
    refine rd8 (sc := sc) (i := i + 3) (h80) (by rw [show (3 : Int32) = Int32.ofNat 3 from rfl, n_add]) (by omega) hn ?_
    refine rd8 (sc := sc) (i := i + 4) (h80) (by rw [show (4 : Int32) = Int32.ofNat 4 from rfl, n_add]) (by omega) hn ?_
    repeat (first | ((with_reducible show ∃ _, _ ∧ _); first | refine s_fI (by rfl) (by rfl) (by rfl) ?_ | refine s_fR (by rfl) (by rfl) (by rfl) ?_ | refine s_pV (by rfl) (by rfl) (Nat.le_of_ble_eq_true rfl) (by rfl) ?_) | ((with_reducible show xcls _ _ _ ∧ _); refine s_cls (by rfl) (by rfl) ?_))
    refine v_Model_same i4 i2 i9 (fun hh => absurd hm hh) (fun _ _ F2 L2 hM h0 => ?_) (fun c l d o _ a1 a2 => absurd ⟨c, _, l, d, _, o, a1, a2⟩ hx)
    repeat (first | ((with_reducible show ∃ _, _ ∧ _); first | refine s_fI (by rfl) (by rfl) (by rfl) ?_ | refine s_fR (by rfl) (by rfl) (by rfl) ?_ | refine s_pV (by rfl) (by rfl) (Nat.le_of_ble_eq_true rfl) (by rfl) ?_) | ((with_reducible show xcls _ _ _ ∧ _); refine s_cls (by rfl) (by rfl) ?_))
    exact t_bool (X := fun h => X h (kk + a) (nn + b)) h0 (Or.inl rfl) (fun hh => absurd hh (by decide)) (hX e w F2 L2 D _ _ (eQ.refl e) (hI.mod hM) (bud_2 (fun hh => hx hh.2) c0))
  · have hq := hE.1
    have hi' : i + 5 < e'.1.2 := by rw [hq.1]; exact hi
    have hn' : e'.1.2 < 2 ^ 31 := by rw [hq.1]; exact hn
    have fin : ∀ (s : Int64) (v : Int32), s = v.toInt64 → (v = 0 ∨ v = 1) → (smV (kd D) (pq (kd D)) (pz (kd D)) c l d o → v = 1) → (¬ smV (kd D) (pq (kd D)) (pz (kd D)) c l d o → v = 0) → wp_Law_same_20 z a b QQ s 0 (ad e 83) (mem e' true F1 L g) (0 + a) (0 + b) := by
      intro s v hs hv va vb
      rw [← hQQ]
      unfold wp_Law_same_20
      rw [← hq.2.2.2.2.2.1]
      refine s_sL (k := 83) (i := 0) (by rfl) (by rfl) (by rfl) (by rfl) (by rfl) (by decide) (by decide) ?_
      have J1 := hI.cls hE (L' := upL L 83 0 s) (upL_k (by decide))
      have J2 := J1
      obtain ⟨j1, j2, j3, j4, j5, j6, j7, j8, j9, j10, j80⟩ := J2
      rw [← hq.2.2.1]
      refine rd8 (sc := sc) (i := i + 1) j80 (by rw [show (1 : Int32) = Int32.ofNat 1 from rfl, n_add]) (by omega) hn' ?_
      refine rd8 (sc := sc) (i := i + 2) j80 (by rw [show (2 : Int32) = Int32.ofNat 2 from rfl, n_add]) (by omega) hn' ?_
      refine rd8 (sc := sc) (i := i + 3) j80 (by rw [show (3 : Int32) = Int32.ofNat 3 from rfl, n_add]) (by omega) hn' ?_
      refine rd8 (sc := sc) (i := i + 4) j80 (by rw [show (4 : Int32) = Int32.ofNat 4 from rfl, n_add]) (by omega) hn' ?_
      rw [← hq.2.2.2.2.2.2]
      repeat (first | ((with_reducible show ∃ _, _ ∧ _); first | refine s_fI (by rfl) (by rfl) (by rfl) ?_ | refine s_fR (by rfl) (by rfl) (by rfl) ?_ | refine s_pV (by rfl) (by rfl) (Nat.le_of_ble_eq_true rfl) (by rfl) ?_) | ((with_reducible show xcls _ _ _ ∧ _); refine s_cls (by rfl) (by rfl) ?_))
      refine v_Model_same j4 j2 j9 (fun hh => absurd hm hh) (fun _ a1 => absurd ho (a1 c _ l d _ o hl)) (fun c' l' d' o' _ hl' ho' F2 L2 y2 hM h0 ya2 yb2 => ?_)
      obtain ⟨u1, _, u2⟩ := isL_uniq i2 hl' hl
      obtain ⟨u3, _, u4⟩ := isL_uniq i2 ho' ho
      rw [u1, u2, u3, u4] at ya2 yb2
      have hyv : y2 = v := by
        by_cases hc0 : smV (kd D) (pq (kd D)) (pz (kd D)) c l d o
        · rw [va hc0, ya2 hc0]
        · rw [vb hc0, yb2 hc0]
      rw [hyv]
      repeat (first | ((with_reducible show ∃ _, _ ∧ _); first | refine s_fI (by rfl) (by rfl) (by rfl) ?_ | refine s_fR (by rfl) (by rfl) (by rfl) ?_ | refine s_pV (by rfl) (by rfl) (Nat.le_of_ble_eq_true rfl) (by rfl) ?_) | ((with_reducible show xcls _ _ _ ∧ _); refine s_cls (by rfl) (by rfl) ?_))
      exact t_bool (X := fun h => X h (kk + a) (nn + b)) h0 hv (fun _ => by rw [hM.2.1 83 (Or.inl (by decide)), upL_i, if_pos rfl, hs]) (hX e' true F2 L2 D _ _ hq (J1.mod hM) (bud_1 ⟨hm, c, _, l, d, _, o, hl, ho⟩ c1 c2))
    by_cases hc0 : smV (kd D) (pq (kd D)) (pz (kd D)) c l d o
    · rw [ya hc0]
      exact ⟨fun hh => absurd hh (by decide), fun _ => fin 1 1 rfl (Or.inr rfl) (fun _ => rfl) (fun hh => absurd hc0 hh)⟩
    · rw [yb hc0]
      exact ⟨fun _ => fin 0 0 rfl (Or.inl rfl) (fun hh => absurd hh hc0) (fun _ => rfl), fun hh => absurd rfl hh⟩
theorem st_19 (hI : INV z sc e w F L D) (hi : i + 5 < e.1.2) (hn : e.1.2 < 2 ^ 31) (hX : NXT z sc e w g kk nn X) (hmc : kk + 29 ≤ mc) (hms : nn + 58894 ≤ ms) : (∃ v200, aI (mem e w F L g) (ad e 80) 0 ((Int32.ofNat i) + 1) = some v200 ∧ (∃ v201, aI (mem e w F L g) (ad e 80) 0 ((Int32.ofNat i) + 2) = some v201 ∧ (∃ mc204 ms205, kk + mc204 ≤ mc ∧ nn + ms205 ≤ ms ∧ wp_Law_twin z mc204 ms205 (fun v203 h202 => ∃ v208, aI h202 (ad e 80) 0 ((Int32.ofNat i) + 1) = some v208 ∧ (∃ v209, aI h202 (ad e 80) 0 ((Int32.ofNat i) + 2) = some v209 ∧ (xcls h202 (ad e 100) 12 ∧ wp_Model_twin z (fun v211 h210 => xcls h210 (ad e 100) 12 ∧ wp_Model_thrown z (fun v213 h212 => (v213 = v203 → ((¬ v203 = 0 → (X h212 (kk + mc204) (nn + ms205))) ∧ (v203 = 0 → (∃ v214, aL h212 (ad e 83) 3 0 = some v214 ∧ (((lg_cmp v214 (v211.toInt64)) = 0 → (X h212 (kk + mc204) (nn + ms205))) ∧ (¬ (lg_cmp v214 (v211.toInt64)) = 0 → Q 0 h212)))))) ∧ (¬ v213 = v203 → Q 0 h212)) (ad e 100) h210) (ad e 100) v208 v209 h202))) (ad e 60) v200 v201 (ad e 83) (mem e w F L g)))) := by
  have hI' := hI
  obtain ⟨i1, i2, i3, i4, i5, i6, i7, i8, i9, i10, h80⟩ := hI'
  refine rd8 (sc := sc) (i := i + 1) (h80) (by rw [show (1 : Int32) = Int32.ofNat 1 from rfl, n_add]) (by omega) hn ?_
  refine rd8 (sc := sc) (i := i + 2) (h80) (by rw [show (2 : Int32) = Int32.ofNat 2 from rfl, n_add]) (by omega) hn ?_
  obtain ⟨a, b, ha, hb, c0, c1, c2⟩ := budget (mt D ∧ ∃ c C l, isL D (sc (i + 1)) (sc (i + 2)) c C l) w
  refine ⟨a, b, by omega, by omega, ?_⟩
  unfold wp_Law_twin
  refine ⟨a, b, by omega, by omega, ?_⟩
  repeat (first | ((with_reducible show ∃ _, _ ∧ _); first | refine s_fI (by rfl) (by rfl) (by rfl) ?_ | refine s_fR (by rfl) (by rfl) (by rfl) ?_ | refine s_pV (by rfl) (by rfl) (Nat.le_of_ble_eq_true rfl) (by rfl) ?_) | ((with_reducible show xcls _ _ _ ∧ _); refine s_cls (by rfl) (by rfl) ?_))
  refine v_Judge_twin i1 i3 i2 i10 (fun hh => by have := c0 hh; omega) (fun h1 h2 hw => by have := c1 ⟨h1, h2⟩ hw; omega) (fun hm => ?_) (fun hm hx => ?_) (fun c l u hm hl hu e' F1 hE => ?_)
  · refine Or.inl ⟨rfl, ?_⟩
    refine rd8 (sc := sc) (i := i + 1) (h80) (by rw [show (1 : Int32) = Int32.ofNat 1 from rfl, n_add]) (by omega) hn ?_
    refine rd8 (sc := sc) (i := i + 2) (h80) (by rw [show (2 : Int32) = Int32.ofNat 2 from rfl, n_add]) (by omega) hn ?_
    repeat (first | ((with_reducible show ∃ _, _ ∧ _); first | refine s_fI (by rfl) (by rfl) (by rfl) ?_ | refine s_fR (by rfl) (by rfl) (by rfl) ?_ | refine s_pV (by rfl) (by rfl) (Nat.le_of_ble_eq_true rfl) (by rfl) ?_) | ((with_reducible show xcls _ _ _ ∧ _); refine s_cls (by rfl) (by rfl) ?_))
    refine v_Model_twin i4 i2 i9 (fun _ F2 L2 hM h0 => ?_) (fun hh => absurd hh hm) (fun _ _ _ hh => absurd hh hm)
    repeat (first | ((with_reducible show ∃ _, _ ∧ _); first | refine s_fI (by rfl) (by rfl) (by rfl) ?_ | refine s_fR (by rfl) (by rfl) (by rfl) ?_ | refine s_pV (by rfl) (by rfl) (Nat.le_of_ble_eq_true rfl) (by rfl) ?_) | ((with_reducible show xcls _ _ _ ∧ _); refine s_cls (by rfl) (by rfl) ?_))
    exact t_num (X := fun h => X h (kk + a) (nn + b)) h0 (fun hh => absurd hh (by decide)) (hX e w F2 L2 D _ _ (eQ.refl e) (hI.mod hM) (bud_2 (fun hh => hm hh.1) c0))
  · refine Or.inr ⟨rfl, ?_⟩
    refine rd8 (sc := sc) (i := i + 1) (h80) (by rw [show (1 : Int32) = Int32.ofNat 1 from rfl, n_add]) (by omega) hn ?_
    refine rd8 (sc := sc) (i := i + 2) (h80) (by rw [show (2 : Int32) = Int32.ofNat 2 from rfl, n_add]) (by omega) hn ?_
    repeat (first | ((with_reducible show ∃ _, _ ∧ _); first | refine s_fI (by rfl) (by rfl) (by rfl) ?_ | refine s_fR (by rfl) (by rfl) (by rfl) ?_ | refine s_pV (by rfl) (by rfl) (Nat.le_of_ble_eq_true rfl) (by rfl) ?_) | ((with_reducible show xcls _ _ _ ∧ _); refine s_cls (by rfl) (by rfl) ?_))
    refine v_Model_twin i4 i2 i9 (fun hh => absurd hm hh) (fun _ _ F2 L2 hM h0 => ?_) (fun c l u _ a1 _ => absurd ⟨c, _, l, a1⟩ hx)
    repeat (first | ((with_reducible show ∃ _, _ ∧ _); first | refine s_fI (by rfl) (by rfl) (by rfl) ?_ | refine s_fR (by rfl) (by rfl) (by rfl) ?_ | refine s_pV (by rfl) (by rfl) (Nat.le_of_ble_eq_true rfl) (by rfl) ?_) | ((with_reducible show xcls _ _ _ ∧ _); refine s_cls (by rfl) (by rfl) ?_))
    exact t_num (X := fun h => X h (kk + a) (nn + b)) h0 (fun hh => absurd hh (by decide)) (hX e w F2 L2 D _ _ (eQ.refl e) (hI.mod hM) (bud_2 (fun hh => hx hh.2) c0))
  · have hq := hE.1
    have hi' : i + 5 < e'.1.2 := by rw [hq.1]; exact hi
    have hn' : e'.1.2 < 2 ^ 31 := by rw [hq.1]; exact hn
    rw [← hq.2.2.2.2.2.1]
    refine s_sL (k := 83) (i := 0) (by rfl) (by rfl) (by rfl) (by rfl) (by rfl) (by decide) (by decide) ?_
    have J1 := hI.cls hE (L' := upL L 83 0 (Int32.ofNat (anT u)).toInt64) (upL_k (by decide))
    have J2 := J1
    obtain ⟨j1, j2, j3, j4, j5, j6, j7, j8, j9, j10, j80⟩ := J2
    rw [← hq.2.2.1]
    refine rd8 (sc := sc) (i := i + 1) j80 (by rw [show (1 : Int32) = Int32.ofNat 1 from rfl, n_add]) (by omega) hn' ?_
    refine rd8 (sc := sc) (i := i + 2) j80 (by rw [show (2 : Int32) = Int32.ofNat 2 from rfl, n_add]) (by omega) hn' ?_
    rw [← hq.2.2.2.2.2.2]
    repeat (first | ((with_reducible show ∃ _, _ ∧ _); first | refine s_fI (by rfl) (by rfl) (by rfl) ?_ | refine s_fR (by rfl) (by rfl) (by rfl) ?_ | refine s_pV (by rfl) (by rfl) (Nat.le_of_ble_eq_true rfl) (by rfl) ?_) | ((with_reducible show xcls _ _ _ ∧ _); refine s_cls (by rfl) (by rfl) ?_))
    refine v_Model_twin j4 j2 j9 (fun hh => absurd hm hh) (fun _ a1 => absurd hl (a1 c _ l)) (fun c' l' u' _ hl' hu' F2 L2 hM h0 => ?_)
    obtain ⟨u1, _, u2⟩ := isL_uniq i2 hl' hl
    rw [u1, u2] at hu'
    rw [isTw_uniq hu' hu]
    repeat (first | ((with_reducible show ∃ _, _ ∧ _); first | refine s_fI (by rfl) (by rfl) (by rfl) ?_ | refine s_fR (by rfl) (by rfl) (by rfl) ?_ | refine s_pV (by rfl) (by rfl) (Nat.le_of_ble_eq_true rfl) (by rfl) ?_) | ((with_reducible show xcls _ _ _ ∧ _); refine s_cls (by rfl) (by rfl) ?_))
    exact t_num (X := fun h => X h (kk + a) (nn + b)) h0 (fun _ => by rw [hM.2.1 83 (Or.inl (by decide)), upL_i, if_pos rfl]) (hX e' true F2 L2 D _ _ hq (J1.mod hM) (bud_1 ⟨hm, c, _, l, hl⟩ c1 c2))
theorem st_20 (hI : INV z sc e w F L D) (hi : i + 5 < e.1.2) (hn : e.1.2 < 2 ^ 31) (hX : NXT z sc e w g kk nn X) (hmc : kk + 29 ≤ mc) (hms : nn + 58894 ≤ ms) : (xcls (mem e w F L g) (ad e 60) 11 ∧ wp_Judge_doubts z (fun v216 h215 => xcls h215 (ad e 100) 12 ∧ wp_Model_doubts z (fun v218 h217 => (v216 = v218 → X h217 kk nn) ∧ (¬ v216 = v218 → Q 0 h217)) (ad e 100) h215) (ad e 60) (mem e w F L g)) := by
  have hI' := hI
  obtain ⟨i1, i2, i3, i4, i5, i6, i7, i8, i9, i10, h80⟩ := hI'
  repeat (first | ((with_reducible show ∃ _, _ ∧ _); first | refine s_fI (by rfl) (by rfl) (by rfl) ?_ | refine s_fR (by rfl) (by rfl) (by rfl) ?_ | refine s_pV (by rfl) (by rfl) (Nat.le_of_ble_eq_true rfl) (by rfl) ?_) | ((with_reducible show xcls _ _ _ ∧ _); refine s_cls (by rfl) (by rfl) ?_))
  refine v_Judge_doubts i10 ?_
  repeat (first | ((with_reducible show ∃ _, _ ∧ _); first | refine s_fI (by rfl) (by rfl) (by rfl) ?_ | refine s_fR (by rfl) (by rfl) (by rfl) ?_ | refine s_pV (by rfl) (by rfl) (Nat.le_of_ble_eq_true rfl) (by rfl) ?_) | ((with_reducible show xcls _ _ _ ∧ _); refine s_cls (by rfl) (by rfl) ?_))
  refine v_Model_doubts i4 i9 (fun F2 L2 hM => ?_)
  exact ⟨fun _ => hX e w F2 L2 D kk nn (eQ.refl e) (hI.mod hM) bud_0, fun hh => absurd rfl hh⟩
end
