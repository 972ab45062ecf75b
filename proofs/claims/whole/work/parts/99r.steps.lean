/-! The law's calls, one after the other. -/
def NXT (z : Nat → Nat) (sc : Nat → Int32) (e : xenv) (w : Bool) (g : xh) (kk nn : Nat) (X : xh → Nat → Nat → Prop) : Prop := ∀ e' w' F' L' D' kk' nn', eQ e e' → INV z sc e' w' F' L' D' → bud w w' kk nn kk' nn' → X (mem e' w' F' L' g) kk' nn'
theorem isL_uniq {D : Nat → Option (Nat → Nat → Nat)} {x y : Int32} {c l c' l' : Nat} {C C' : Nat → Nat → Nat} (hW : WD D) (h : isL D x y c C l) (h' : isL D x y c' C' l') : c = c' ∧ C = C' ∧ l = l' := by
  obtain ⟨a1, a2, a3, a4, a5⟩ := h
  obtain ⟨b1, b2, b3, b4, b5⟩ := h'
  have e1 : c = c' := n_inj (by omega) (by omega) (a2.symm.trans b2)
  subst e1
  have e2 : C = C' := by rw [a3] at b3; cases b3; rfl
  subst e2
  have u1 := (hW c C a3).lit a5
  have u2 := (hW c C a3).lit b5
  exact ⟨rfl, rfl, n_inj (by omega) (by omega) (a4.symm.trans b4)⟩
theorem isS_uniq {D : Nat → Option (Nat → Nat → Nat)} {x y u t : Int32} {c kd k i c' kd' k' i' : Nat} {C C' : Nat → Nat → Nat} (hW : WD D) (h : isS D x y u t c C kd k i) (h' : isS D x y u t c' C' kd' k' i') : C (10) (40 * sl kd k + i) = C' 10 (40 * sl kd' k' + i') := by
  obtain ⟨a1, a2, a3, a4, a5, a6, a7, a8, a9⟩ := h
  obtain ⟨b1, b2, b3, b4, b5, b6, b7, b8, b9⟩ := h'
  have e1 : c = c' := n_inj (by omega) (by omega) (a2.symm.trans b2)
  subst e1
  have e2 : C = C' := by rw [a3] at b3; cases b3; rfl
  subst e2
  have e3 : kd = kd' := n_inj (by omega) (by omega) (a5.symm.trans b5)
  subst e3
  have hs := (hW c C a3).sizes (kd + 1) (by omega)
  have e4 : k = k' := n_inj (by omega) (by omega) (a6.symm.trans b6)
  subst e4
  have h1 := (hW c C a3).1
  have h9 := (hW c C a3).2.2.2.2.2.2 (sl kd k) (sl_lt ⟨h1.2.1, h1.2.2.1, h1.2.2.2.1⟩ a4 a7)
  have e5 : i = i' := n_inj (by omega) (by omega) (a8.symm.trans b8)
  rw [e5]
section
variable {e : xenv} {w : Bool} {F : Nat → Nat → Int32} {L : Nat → Nat → Int64} {g : xh} {z : Nat → Nat} {D : Nat → Option (Nat → Nat → Nat)} {sc : Nat → Int32} {mc ms kk nn i : Nat} {Q : Int32 → xh → Prop} {X : xh → Nat → Nat → Prop}
theorem rd8 {P : Int32 → Prop} {x : Int32} (h80 : F 80 = sc) (hx : x = Int32.ofNat i) (hi : i < e.1.2) (hn : e.1.2 < 2 ^ 31) (h : P (sc i)) : ∃ v, aI (mem e w F L g) (ad e 80) 0 x = some v ∧ P v := by
  refine s_aI (k := 80) (i := i) (by rfl) (by rfl) (by rfl) hx hi hn ?_
  rw [h80]; exact h
theorem st_0 (hI : INV z sc e w F L D) (hi : i + 5 < e.1.2) (hn : e.1.2 < 2 ^ 31) (hX : NXT z sc e w g kk nn X) : (∃ v4, aI (mem e w F L g) (ad e 80) 0 ((Int32.ofNat i) + 1) = some v4 ∧ (∃ v5, aI (mem e w F L g) (ad e 80) 0 ((Int32.ofNat i) + 2) = some v5 ∧ (∃ v6, aI (mem e w F L g) (ad e 80) 0 ((Int32.ofNat i) + 3) = some v6 ∧ (∃ v7, aI (mem e w F L g) (ad e 80) 0 ((Int32.ofNat i) + 4) = some v7 ∧ (∃ v8, aI (mem e w F L g) (ad e 80) 0 ((Int32.ofNat i) + 5) = some v8 ∧ (xcls (mem e w F L g) (ad e 60) 11 ∧ wp_Judge_feed z (fun h9 => ∃ v10, aI h9 (ad e 80) 0 ((Int32.ofNat i) + 1) = some v10 ∧ (∃ v11, aI h9 (ad e 80) 0 ((Int32.ofNat i) + 2) = some v11 ∧ (∃ v12, aI h9 (ad e 80) 0 ((Int32.ofNat i) + 3) = some v12 ∧ (∃ v13, aI h9 (ad e 80) 0 ((Int32.ofNat i) + 4) = some v13 ∧ (∃ v14, aI h9 (ad e 80) 0 ((Int32.ofNat i) + 5) = some v14 ∧ (xcls h9 (ad e 100) 12 ∧ wp_Model_feed z (fun h15 => X h15 kk nn) (ad e 100) v10 v11 v12 v13 v14 h9)))))) (ad e 60) v4 v5 v6 v7 v8 (mem e w F L g))))))) := by
  have hI' := hI
  obtain ⟨i1, i2, i3, i4, i5, i6, i7, i8, i9, i10, h80⟩ := hI'
  refine rd8 (sc := sc) (i := i + 1) (h80) (by rw [show (1 : Int32) = Int32.ofNat 1 from rfl, n_add]) (by omega) hn ?_
  refine rd8 (sc := sc) (i := i + 2) (h80) (by rw [show (2 : Int32) = Int32.ofNat 2 from rfl, n_add]) (by omega) hn ?_
  refine rd8 (sc := sc) (i := i + 3) (h80) (by rw [show (3 : Int32) = Int32.ofNat 3 from rfl, n_add]) (by omega) hn ?_
  refine rd8 (sc := sc) (i := i + 4) (h80) (by rw [show (4 : Int32) = Int32.ofNat 4 from rfl, n_add]) (by omega) hn ?_
  refine rd8 (sc := sc) (i := i + 5) (h80) (by rw [show (5 : Int32) = Int32.ofNat 5 from rfl, n_add]) (by omega) hn ?_
  repeat (first | ((with_reducible show ∃ _, _ ∧ _); first | refine s_fI (by rfl) (by rfl) (by rfl) ?_ | refine s_fR (by rfl) (by rfl) (by rfl) ?_ | refine s_pV (by rfl) (by rfl) (Nat.le_of_ble_eq_true rfl) (by rfl) ?_) | ((with_reducible show xcls _ _ _ ∧ _); refine s_cls (by rfl) (by rfl) ?_))
  refine v_Judge_feed (fun F1 k1 q1 => ?_)
  refine rd8 (sc := sc) (i := i + 1) (by rw [k1 80 (by decide)]; exact h80) (by rw [show (1 : Int32) = Int32.ofNat 1 from rfl, n_add]) (by omega) hn ?_
  refine rd8 (sc := sc) (i := i + 2) (by rw [k1 80 (by decide)]; exact h80) (by rw [show (2 : Int32) = Int32.ofNat 2 from rfl, n_add]) (by omega) hn ?_
  refine rd8 (sc := sc) (i := i + 3) (by rw [k1 80 (by decide)]; exact h80) (by rw [show (3 : Int32) = Int32.ofNat 3 from rfl, n_add]) (by omega) hn ?_
  refine rd8 (sc := sc) (i := i + 4) (by rw [k1 80 (by decide)]; exact h80) (by rw [show (4 : Int32) = Int32.ofNat 4 from rfl, n_add]) (by omega) hn ?_
  refine rd8 (sc := sc) (i := i + 5) (by rw [k1 80 (by decide)]; exact h80) (by rw [show (5 : Int32) = Int32.ofNat 5 from rfl, n_add]) (by omega) hn ?_
  repeat (first | ((with_reducible show ∃ _, _ ∧ _); first | refine s_fI (by rfl) (by rfl) (by rfl) ?_ | refine s_fR (by rfl) (by rfl) (by rfl) ?_ | refine s_pV (by rfl) (by rfl) (Nat.le_of_ble_eq_true rfl) (by rfl) ?_) | ((with_reducible show xcls _ _ _ ∧ _); refine s_cls (by rfl) (by rfl) ?_))
  refine v_Model_feed (fun F2 k2 z2 q2 => ?_)
  refine hX e w F2 L D kk nn (eQ.refl e) (hI.upd (fun k a1 a2 a3 a4 a5 a6 a7 a8 a9 a10 => by rw [k2 k a9 a7, k1 k a2]) (fun j hj => by rw [z2, if_neg (by omega), k1 100 (by decide)]) rfl ?_ ?_ ?_ ?_) bud_0
  · unfold stE; rw [k2 77 (by decide) (by decide), k1 77 (by decide), k2 131 (by decide) (by decide), k1 131 (by decide)]; exact i5
  · unfold tpE; rw [k2 61 (by decide) (by decide), k1 61 (by decide), k2 63 (by decide) (by decide), k1 63 (by decide), k2 101 (by decide) (by decide), k1 101 (by decide), z2, if_neg (by decide), k1 100 (by decide)]; exact i6
  · intro j hj
    rw [k2 62 (by decide) (by decide), q1 j hj, q2 j hj]
    exact ⟨rb_isB _ _, rfl⟩
  · unfold ftE; rw [k2 64 (by decide) (by decide), k1 64 (by decide), z2, if_neg (by decide), z2, if_neg (by decide), k1 100 (by decide)]; exact i8
theorem st_1 (hI : INV z sc e w F L D) (hi : i + 5 < e.1.2) (hn : e.1.2 < 2 ^ 31) (hX : NXT z sc e w g kk nn X) : (∃ v16, aI (mem e w F L g) (ad e 80) 0 ((Int32.ofNat i) + 1) = some v16 ∧ (xcls (mem e w F L g) (ad e 60) 11 ∧ wp_Judge_end z (fun v18 h17 => ∃ v19, aI h17 (ad e 80) 0 ((Int32.ofNat i) + 1) = some v19 ∧ (xcls h17 (ad e 100) 12 ∧ wp_Model_end z (fun v21 h20 => (v18 = v21 → X h20 kk nn) ∧ (¬ v18 = v21 → Q 0 h20)) (ad e 100) v19 h17)) (ad e 60) v16 (mem e w F L g))) := by
  have hI' := hI
  obtain ⟨i1, i2, i3, i4, i5, i6, i7, i8, i9, i10, h80⟩ := hI'
  obtain ⟨n, n6, t1, t2, t3⟩ := i6
  refine rd8 (sc := sc) (i := i + 1) (h80) (by rw [show (1 : Int32) = Int32.ofNat 1 from rfl, n_add]) (by omega) hn ?_
  repeat (first | ((with_reducible show ∃ _, _ ∧ _); first | refine s_fI (by rfl) (by rfl) (by rfl) ?_ | refine s_fR (by rfl) (by rfl) (by rfl) ?_ | refine s_pV (by rfl) (by rfl) (Nat.le_of_ble_eq_true rfl) (by rfl) ?_) | ((with_reducible show xcls _ _ _ ∧ _); refine s_cls (by rfl) (by rfl) ?_))
  refine v_Judge_end t1 n6 (fun j hj => (i7 j hj).1) (fun hno => ?_) (fun m F1 m20 mn hx k1 a1 b1 c1 => ?_)
  · refine rd8 (sc := sc) (i := i + 1) (h80) (by rw [show (1 : Int32) = Int32.ofNat 1 from rfl, n_add]) (by omega) hn ?_
    repeat (first | ((with_reducible show ∃ _, _ ∧ _); first | refine s_fI (by rfl) (by rfl) (by rfl) ?_ | refine s_fR (by rfl) (by rfl) (by rfl) ?_ | refine s_pV (by rfl) (by rfl) (Nat.le_of_ble_eq_true rfl) (by rfl) ?_) | ((with_reducible show xcls _ _ _ ∧ _); refine s_cls (by rfl) (by rfl) ?_))
    refine v_Model_end t2 n6 (fun j hj => by rw [(i7 j hj).2]; exact (i7 j hj).1) (fun _ => ?_) (fun m F2 m20 mn hx => absurd hx (hno m m20 mn))
    exact ⟨fun _ => hX e w _ L D kk nn (eQ.refl e) hI.thr0 bud_0, fun hh => absurd rfl hh⟩
  · refine rd8 (sc := sc) (i := i + 1) (by rw [k1 80 (by decide) (by decide) (by decide)]; exact h80) (by rw [show (1 : Int32) = Int32.ofNat 1 from rfl, n_add]) (by omega) hn ?_
    repeat (first | ((with_reducible show ∃ _, _ ∧ _); first | refine s_fI (by rfl) (by rfl) (by rfl) ?_ | refine s_fR (by rfl) (by rfl) (by rfl) ?_ | refine s_pV (by rfl) (by rfl) (Nat.le_of_ble_eq_true rfl) (by rfl) ?_) | ((with_reducible show xcls _ _ _ ∧ _); refine s_cls (by rfl) (by rfl) ?_))
    refine v_Model_end (n := n) (by rw [k1 100 (by decide) (by decide) (by decide)]; exact t2) n6 (fun j hj => by rw [k1 102 (by decide) (by decide) (by decide), (i7 j hj).2]; exact (i7 j hj).1) (fun hno => absurd hx (hno m m20 mn)) (fun m' F2 m20' mn' hx' k2 z2 b2 c2 => ?_)
    have hmm : m' = m := n_inj (by omega) (by omega) (hx'.symm.trans hx)
    subst hmm
    refine ⟨fun _ => ?_, fun hh => absurd rfl hh⟩
    refine hX e w F2 L D kk nn (eQ.refl e) (hI.upd (fun k q1 q2 q3 q4 q5 q6 q7 q8 q9 q10 => by rw [k2 k q7 q8 q9, k1 k q1 q2 q3]) (fun j hj => by rw [z2, if_neg (by omega), if_neg (by omega), k1 100 (by decide) (by decide) (by decide)]) rfl ?_ ?_ ?_ ?_) bud_0
    · unfold stE; rw [k2 77 (by decide) (by decide) (by decide), k1 77 (by decide) (by decide) (by decide), k2 131 (by decide) (by decide) (by decide), k1 131 (by decide) (by decide) (by decide)]; exact i5
    · refine ⟨n + m', mn, by rw [k2 61 (by decide) (by decide) (by decide)]; exact a1, by rw [z2, if_pos rfl], fun j hj => ?_⟩
      rw [k2 63 (by decide) (by decide) (by decide), c1, c2, k1 102 (by decide) (by decide) (by decide), k1 101 (by decide) (by decide) (by decide)]
      by_cases hj2 : n ≤ j ∧ j < n + m'
      · rw [if_pos hj2, if_pos hj2, (i7 (j - n) (by omega)).2]
      · rw [if_neg hj2, if_neg hj2]; exact t3 j (by omega)
    · intro j hj
      rw [k2 62 (by decide) (by decide) (by decide), b1 j hj, b2 j hj]
      exact ⟨rfl, rfl⟩
    · unfold ftE; rw [k2 64 (by decide) (by decide) (by decide), k1 64 (by decide) (by decide) (by decide), z2, if_neg (by decide), if_neg (by decide), z2, if_neg (by decide), if_neg (by decide), k1 100 (by decide) (by decide) (by decide)]; exact i8
theorem st_3 (hI : INV z sc e w F L D) (hi : i + 5 < e.1.2) (hn : e.1.2 < 2 ^ 31) (hX : NXT z sc e w g kk nn X) : (∃ v35, aI (mem e w F L g) (ad e 80) 0 ((Int32.ofNat i) + 1) = some v35 ∧ (xcls (mem e w F L g) (ad e 60) 11 ∧ wp_Judge_fault z (fun v37 h36 => ∃ v38, aI h36 (ad e 80) 0 ((Int32.ofNat i) + 1) = some v38 ∧ (xcls h36 (ad e 100) 12 ∧ wp_Model_fault z (fun v40 h39 => (v37 = v40 → X h39 kk nn) ∧ (¬ v37 = v40 → Q 0 h39)) (ad e 100) v38 h36)) (ad e 60) v35 (mem e w F L g))) := by
  have hI' := hI
  obtain ⟨i1, i2, i3, i4, i5, i6, i7, i8, i9, i10, h80⟩ := hI'
  refine rd8 (sc := sc) (i := i + 1) (h80) (by rw [show (1 : Int32) = Int32.ofNat 1 from rfl, n_add]) (by omega) hn ?_
  repeat (first | ((with_reducible show ∃ _, _ ∧ _); first | refine s_fI (by rfl) (by rfl) (by rfl) ?_ | refine s_fR (by rfl) (by rfl) (by rfl) ?_ | refine s_pV (by rfl) (by rfl) (Nat.le_of_ble_eq_true rfl) (by rfl) ?_) | ((with_reducible show xcls _ _ _ ∧ _); refine s_cls (by rfl) (by rfl) ?_))
  refine v_Judge_fault ?_
  refine rd8 (sc := sc) (i := i + 1) (h80) (by rw [show (1 : Int32) = Int32.ofNat 1 from rfl, n_add]) (by omega) hn ?_
  repeat (first | ((with_reducible show ∃ _, _ ∧ _); first | refine s_fI (by rfl) (by rfl) (by rfl) ?_ | refine s_fR (by rfl) (by rfl) (by rfl) ?_ | refine s_pV (by rfl) (by rfl) (Nat.le_of_ble_eq_true rfl) (by rfl) ?_) | ((with_reducible show xcls _ _ _ ∧ _); refine s_cls (by rfl) (by rfl) ?_))
  refine v_Model_fault ?_
  rw [i8.1, i8.2]
  exact ⟨fun _ => hX e w _ L D kk nn (eQ.refl e) hI.thr0 bud_0, fun hh => absurd rfl hh⟩
theorem st_4 (hI : INV z sc e w F L D) (hi : i + 5 < e.1.2) (hn : e.1.2 < 2 ^ 31) (hX : NXT z sc e w g kk nn X) : (∃ v41, aI (mem e w F L g) (ad e 80) 0 ((Int32.ofNat i) + 1) = some v41 ∧ (∃ v42, aI (mem e w F L g) (ad e 80) 0 ((Int32.ofNat i) + 2) = some v42 ∧ (xcls (mem e w F L g) (ad e 60) 11 ∧ wp_Judge_many z (fun v44 h43 => ∃ v45, aI h43 (ad e 80) 0 ((Int32.ofNat i) + 1) = some v45 ∧ (∃ v46, aI h43 (ad e 80) 0 ((Int32.ofNat i) + 2) = some v46 ∧ (xcls h43 (ad e 100) 12 ∧ wp_Model_many z (fun v48 h47 => (v44 = v48 → X h47 kk nn) ∧ (¬ v44 = v48 → Q 0 h47)) (ad e 100) v45 v46 h43))) (ad e 60) v41 v42 (mem e w F L g)))) := by
  have hI' := hI
  obtain ⟨i1, i2, i3, i4, i5, i6, i7, i8, i9, i10, h80⟩ := hI'
  refine rd8 (sc := sc) (i := i + 1) (h80) (by rw [show (1 : Int32) = Int32.ofNat 1 from rfl, n_add]) (by omega) hn ?_
  refine rd8 (sc := sc) (i := i + 2) (h80) (by rw [show (2 : Int32) = Int32.ofNat 2 from rfl, n_add]) (by omega) hn ?_
  repeat (first | ((with_reducible show ∃ _, _ ∧ _); first | refine s_fI (by rfl) (by rfl) (by rfl) ?_ | refine s_fR (by rfl) (by rfl) (by rfl) ?_ | refine s_pV (by rfl) (by rfl) (Nat.le_of_ble_eq_true rfl) (by rfl) ?_) | ((with_reducible show xcls _ _ _ ∧ _); refine s_cls (by rfl) (by rfl) ?_))
  refine v_Judge_many i3 (fun hno => ?_) (fun c C j hc hx hD hj hy => ?_)
  · refine rd8 (sc := sc) (i := i + 1) (h80) (by rw [show (1 : Int32) = Int32.ofNat 1 from rfl, n_add]) (by omega) hn ?_
    refine rd8 (sc := sc) (i := i + 2) (h80) (by rw [show (2 : Int32) = Int32.ofNat 2 from rfl, n_add]) (by omega) hn ?_
    repeat (first | ((with_reducible show ∃ _, _ ∧ _); first | refine s_fI (by rfl) (by rfl) (by rfl) ?_ | refine s_fR (by rfl) (by rfl) (by rfl) ?_ | refine s_pV (by rfl) (by rfl) (Nat.le_of_ble_eq_true rfl) (by rfl) ?_) | ((with_reducible show xcls _ _ _ ∧ _); refine s_cls (by rfl) (by rfl) ?_))
    refine v_Model_many i4 (fun _ => ?_) (fun c C j hc hx hD hj hy => absurd hy (hno c C j hc hx hD hj))
    exact ⟨fun _ => hX e w _ L D kk nn (eQ.refl e) hI.thr0 bud_0, fun hh => absurd rfl hh⟩
  · refine rd8 (sc := sc) (i := i + 1) (h80) (by rw [show (1 : Int32) = Int32.ofNat 1 from rfl, n_add]) (by omega) hn ?_
    refine rd8 (sc := sc) (i := i + 2) (h80) (by rw [show (2 : Int32) = Int32.ofNat 2 from rfl, n_add]) (by omega) hn ?_
    repeat (first | ((with_reducible show ∃ _, _ ∧ _); first | refine s_fI (by rfl) (by rfl) (by rfl) ?_ | refine s_fR (by rfl) (by rfl) (by rfl) ?_ | refine s_pV (by rfl) (by rfl) (Nat.le_of_ble_eq_true rfl) (by rfl) ?_) | ((with_reducible show xcls _ _ _ ∧ _); refine s_cls (by rfl) (by rfl) ?_))
    refine v_Model_many i4 (fun hno => absurd hy (hno c C j hc hx hD hj)) (fun c' C' j' hc' hx' hD' hj' hy' => ?_)
    have e1 : c' = c := n_inj (by omega) (by omega) (hx'.symm.trans hx)
    have e2 : j' = j := n_inj (by omega) (by omega) (hy'.symm.trans hy)
    subst e1; subst e2
    rw [hD] at hD'; cases hD'
    exact ⟨fun _ => hX e w _ L D kk nn (eQ.refl e) hI.thr0 bud_0, fun hh => absurd rfl hh⟩
theorem st_5 (hI : INV z sc e w F L D) (hi : i + 5 < e.1.2) (hn : e.1.2 < 2 ^ 31) (hX : NXT z sc e w g kk nn X) : (∃ v49, aI (mem e w F L g) (ad e 80) 0 ((Int32.ofNat i) + 1) = some v49 ∧ (∃ v50, aI (mem e w F L g) (ad e 80) 0 ((Int32.ofNat i) + 2) = some v50 ∧ (∃ v51, aI (mem e w F L g) (ad e 80) 0 ((Int32.ofNat i) + 3) = some v51 ∧ (∃ v52, aI (mem e w F L g) (ad e 80) 0 ((Int32.ofNat i) + 4) = some v52 ∧ (xcls (mem e w F L g) (ad e 60) 11 ∧ wp_Judge_symbol z (fun v54 h53 => ∃ v55, aI h53 (ad e 80) 0 ((Int32.ofNat i) + 1) = some v55 ∧ (∃ v56, aI h53 (ad e 80) 0 ((Int32.ofNat i) + 2) = some v56 ∧ (∃ v57, aI h53 (ad e 80) 0 ((Int32.ofNat i) + 3) = some v57 ∧ (∃ v58, aI h53 (ad e 80) 0 ((Int32.ofNat i) + 4) = some v58 ∧ (xcls h53 (ad e 100) 12 ∧ wp_Model_symbol z (fun v60 h59 => (v54 = v60 → X h59 kk nn) ∧ (¬ v54 = v60 → Q 0 h59)) (ad e 100) v55 v56 v57 v58 h53))))) (ad e 60) v49 v50 v51 v52 (mem e w F L g)))))) := by
  have hI' := hI
  obtain ⟨i1, i2, i3, i4, i5, i6, i7, i8, i9, i10, h80⟩ := hI'
  refine rd8 (sc := sc) (i := i + 1) (h80) (by rw [show (1 : Int32) = Int32.ofNat 1 from rfl, n_add]) (by omega) hn ?_
  refine rd8 (sc := sc) (i := i + 2) (h80) (by rw [show (2 : Int32) = Int32.ofNat 2 from rfl, n_add]) (by omega) hn ?_
  refine rd8 (sc := sc) (i := i + 3) (h80) (by rw [show (3 : Int32) = Int32.ofNat 3 from rfl, n_add]) (by omega) hn ?_
  refine rd8 (sc := sc) (i := i + 4) (h80) (by rw [show (4 : Int32) = Int32.ofNat 4 from rfl, n_add]) (by omega) hn ?_
  repeat (first | ((with_reducible show ∃ _, _ ∧ _); first | refine s_fI (by rfl) (by rfl) (by rfl) ?_ | refine s_fR (by rfl) (by rfl) (by rfl) ?_ | refine s_pV (by rfl) (by rfl) (Nat.le_of_ble_eq_true rfl) (by rfl) ?_) | ((with_reducible show xcls _ _ _ ∧ _); refine s_cls (by rfl) (by rfl) ?_))
  refine v_Judge_symbol i3 i2 i1 (fun hno => ?_) (fun c C kd k j hs => ?_)
  · refine rd8 (sc := sc) (i := i + 1) (h80) (by rw [show (1 : Int32) = Int32.ofNat 1 from rfl, n_add]) (by omega) hn ?_
    refine rd8 (sc := sc) (i := i + 2) (h80) (by rw [show (2 : Int32) = Int32.ofNat 2 from rfl, n_add]) (by omega) hn ?_
    refine rd8 (sc := sc) (i := i + 3) (h80) (by rw [show (3 : Int32) = Int32.ofNat 3 from rfl, n_add]) (by omega) hn ?_
    refine rd8 (sc := sc) (i := i + 4) (h80) (by rw [show (4 : Int32) = Int32.ofNat 4 from rfl, n_add]) (by omega) hn ?_
    repeat (first | ((with_reducible show ∃ _, _ ∧ _); first | refine s_fI (by rfl) (by rfl) (by rfl) ?_ | refine s_fR (by rfl) (by rfl) (by rfl) ?_ | refine s_pV (by rfl) (by rfl) (Nat.le_of_ble_eq_true rfl) (by rfl) ?_) | ((with_reducible show xcls _ _ _ ∧ _); refine s_cls (by rfl) (by rfl) ?_))
    refine v_Model_symbol i4 i2 (fun _ => ?_) (fun c C kd k j hs => absurd hs (hno c C kd k j))
    exact ⟨fun _ => hX e w _ L D kk nn (eQ.refl e) hI.thr0 bud_0, fun hh => absurd rfl hh⟩
  · refine rd8 (sc := sc) (i := i + 1) (h80) (by rw [show (1 : Int32) = Int32.ofNat 1 from rfl, n_add]) (by omega) hn ?_
    refine rd8 (sc := sc) (i := i + 2) (h80) (by rw [show (2 : Int32) = Int32.ofNat 2 from rfl, n_add]) (by omega) hn ?_
    refine rd8 (sc := sc) (i := i + 3) (h80) (by rw [show (3 : Int32) = Int32.ofNat 3 from rfl, n_add]) (by omega) hn ?_
    refine rd8 (sc := sc) (i := i + 4) (h80) (by rw [show (4 : Int32) = Int32.ofNat 4 from rfl, n_add]) (by omega) hn ?_
    repeat (first | ((with_reducible show ∃ _, _ ∧ _); first | refine s_fI (by rfl) (by rfl) (by rfl) ?_ | refine s_fR (by rfl) (by rfl) (by rfl) ?_ | refine s_pV (by rfl) (by rfl) (Nat.le_of_ble_eq_true rfl) (by rfl) ?_) | ((with_reducible show xcls _ _ _ ∧ _); refine s_cls (by rfl) (by rfl) ?_))
    refine v_Model_symbol i4 i2 (fun hno => absurd hs (hno c C kd k j)) (fun c' C' kd' k' j' hs' => ?_)
    rw [isS_uniq i2 hs' hs]
    exact ⟨fun _ => hX e w _ L D kk nn (eQ.refl e) hI.thr0 bud_0, fun hh => absurd rfl hh⟩
theorem st_6 (hI : INV z sc e w F L D) (hi : i + 5 < e.1.2) (hn : e.1.2 < 2 ^ 31) (hX : NXT z sc e w g kk nn X) : (xcls (mem e w F L g) (ad e 60) 11 ∧ wp_Judge_reset z (fun h61 => xcls h61 (ad e 100) 12 ∧ wp_Model_reset z (fun h62 => X h62 kk nn) (ad e 100) h61) (ad e 60) (mem e w F L g)) := by
  have hI' := hI
  obtain ⟨i1, i2, i3, i4, i5, i6, i7, i8, i9, i10, h80⟩ := hI'
  repeat (first | ((with_reducible show ∃ _, _ ∧ _); first | refine s_fI (by rfl) (by rfl) (by rfl) ?_ | refine s_fR (by rfl) (by rfl) (by rfl) ?_ | refine s_pV (by rfl) (by rfl) (Nat.le_of_ble_eq_true rfl) (by rfl) ?_) | ((with_reducible show xcls _ _ _ ∧ _); refine s_cls (by rfl) (by rfl) ?_))
  refine v_Judge_reset (fun F1 k1 q1 => ?_)
  repeat (first | ((with_reducible show ∃ _, _ ∧ _); first | refine s_fI (by rfl) (by rfl) (by rfl) ?_ | refine s_fR (by rfl) (by rfl) (by rfl) ?_ | refine s_pV (by rfl) (by rfl) (Nat.le_of_ble_eq_true rfl) (by rfl) ?_) | ((with_reducible show xcls _ _ _ ∧ _); refine s_cls (by rfl) (by rfl) ?_))
  refine v_Model_reset (fun F2 k2 z2 q2 => ?_)
  refine hX e w F2 L D kk nn (eQ.refl e) (hI.upd (fun k a1 a2 a3 a4 a5 a6 a7 a8 a9 a10 => by rw [k2 k a7 a10, k1 k a4]) (fun j hj => by rw [z2, if_neg (by omega), k1 100 (by decide)]) rfl ?_ ?_ ?_ ?_) bud_0
  · exact ⟨fun _ => 0, fun c hc => ⟨by rw [k2 77 (by decide) (by decide), q1 c hc]; rfl, by rw [q2 c hc]; rfl⟩⟩
  · unfold tpE; rw [k2 61 (by decide) (by decide), k1 61 (by decide), k2 63 (by decide) (by decide), k1 63 (by decide), k2 101 (by decide) (by decide), k1 101 (by decide), z2, if_neg (by decide), k1 100 (by decide)]; exact i6
  · unfold rdE; rw [k2 62 (by decide) (by decide), k1 62 (by decide), k2 102 (by decide) (by decide), k1 102 (by decide)]; exact i7
  · unfold ftE; rw [k2 64 (by decide) (by decide), k1 64 (by decide), z2, if_neg (by decide), z2, if_neg (by decide), k1 100 (by decide)]; exact i8
theorem st_7 (hI : INV z sc e w F L D) (hi : i + 5 < e.1.2) (hn : e.1.2 < 2 ^ 31) (hX : NXT z sc e w g kk nn X) : (∃ v63, aI (mem e w F L g) (ad e 80) 0 ((Int32.ofNat i) + 1) = some v63 ∧ (xcls (mem e w F L g) (ad e 60) 11 ∧ wp_Judge_state z (fun v65 h64 => ∃ v66, aI h64 (ad e 80) 0 ((Int32.ofNat i) + 1) = some v66 ∧ (xcls h64 (ad e 100) 12 ∧ wp_Model_state z (fun v68 h67 => (v65 = v68 → X h67 kk nn) ∧ (¬ v65 = v68 → Q 0 h67)) (ad e 100) v66 h64)) (ad e 60) v63 (mem e w F L g))) := by
  have hI' := hI
  obtain ⟨i1, i2, i3, i4, i5, i6, i7, i8, i9, i10, h80⟩ := hI'
  obtain ⟨st, hst⟩ := i5
  refine rd8 (sc := sc) (i := i + 1) (h80) (by rw [show (1 : Int32) = Int32.ofNat 1 from rfl, n_add]) (by omega) hn ?_
  repeat (first | ((with_reducible show ∃ _, _ ∧ _); first | refine s_fI (by rfl) (by rfl) (by rfl) ?_ | refine s_fR (by rfl) (by rfl) (by rfl) ?_ | refine s_pV (by rfl) (by rfl) (Nat.le_of_ble_eq_true rfl) (by rfl) ?_) | ((with_reducible show xcls _ _ _ ∧ _); refine s_cls (by rfl) (by rfl) ?_))
  refine v_Judge_state (st := st) i3 (fun c hc => (hst c hc).1) (fun hno => ?_) (fun c C hc hx hD => ?_)
  · refine rd8 (sc := sc) (i := i + 1) (h80) (by rw [show (1 : Int32) = Int32.ofNat 1 from rfl, n_add]) (by omega) hn ?_
    repeat (first | ((with_reducible show ∃ _, _ ∧ _); first | refine s_fI (by rfl) (by rfl) (by rfl) ?_ | refine s_fR (by rfl) (by rfl) (by rfl) ?_ | refine s_pV (by rfl) (by rfl) (Nat.le_of_ble_eq_true rfl) (by rfl) ?_) | ((with_reducible show xcls _ _ _ ∧ _); refine s_cls (by rfl) (by rfl) ?_))
    refine v_Model_state (st := st) i4 (fun c hc => (hst c hc).2) (fun _ => ?_) (fun c C hc hx hD => absurd hD (hno c C hc hx))
    exact ⟨fun _ => hX e w _ L D kk nn (eQ.refl e) hI.thr0 bud_0, fun hh => absurd rfl hh⟩
  · refine rd8 (sc := sc) (i := i + 1) (h80) (by rw [show (1 : Int32) = Int32.ofNat 1 from rfl, n_add]) (by omega) hn ?_
    repeat (first | ((with_reducible show ∃ _, _ ∧ _); first | refine s_fI (by rfl) (by rfl) (by rfl) ?_ | refine s_fR (by rfl) (by rfl) (by rfl) ?_ | refine s_pV (by rfl) (by rfl) (Nat.le_of_ble_eq_true rfl) (by rfl) ?_) | ((with_reducible show xcls _ _ _ ∧ _); refine s_cls (by rfl) (by rfl) ?_))
    refine v_Model_state (st := st) i4 (fun c hc => (hst c hc).2) (fun hno => absurd hD (hno c C hc hx)) (fun c' C' hc' hx' hD' => ?_)
    have e1 : c' = c := n_inj (by omega) (by omega) (hx'.symm.trans hx)
    subst e1
    exact ⟨fun _ => hX e w _ L D kk nn (eQ.refl e) hI.thr0 bud_0, fun hh => absurd rfl hh⟩
theorem st_8 (hI : INV z sc e w F L D) (hi : i + 5 < e.1.2) (hn : e.1.2 < 2 ^ 31) (hX : NXT z sc e w g kk nn X) : (∃ v69, aI (mem e w F L g) (ad e 80) 0 ((Int32.ofNat i) + 1) = some v69 ∧ (∃ v70, aI (mem e w F L g) (ad e 80) 0 ((Int32.ofNat i) + 2) = some v70 ∧ (∃ v71, aI (mem e w F L g) (ad e 80) 0 ((Int32.ofNat i) + 3) = some v71 ∧ (xcls (mem e w F L g) (ad e 60) 11 ∧ wp_Judge_value z (fun v73 h72 => ∃ v74, aI h72 (ad e 80) 0 ((Int32.ofNat i) + 1) = some v74 ∧ (∃ v75, aI h72 (ad e 80) 0 ((Int32.ofNat i) + 2) = some v75 ∧ (∃ v76, aI h72 (ad e 80) 0 ((Int32.ofNat i) + 3) = some v76 ∧ (xcls h72 (ad e 100) 12 ∧ wp_Model_value z (fun v78 h77 => (v73 = v78 → X h77 kk nn) ∧ (¬ v73 = v78 → Q 0 h77)) (ad e 100) v74 v75 v76 h72)))) (ad e 60) v69 v70 v71 (mem e w F L g))))) := by
  have hI' := hI
  obtain ⟨i1, i2, i3, i4, i5, i6, i7, i8, i9, i10, h80⟩ := hI'
  obtain ⟨st, hst⟩ := i5
  refine rd8 (sc := sc) (i := i + 1) (h80) (by rw [show (1 : Int32) = Int32.ofNat 1 from rfl, n_add]) (by omega) hn ?_
  refine rd8 (sc := sc) (i := i + 2) (h80) (by rw [show (2 : Int32) = Int32.ofNat 2 from rfl, n_add]) (by omega) hn ?_
  refine rd8 (sc := sc) (i := i + 3) (h80) (by rw [show (3 : Int32) = Int32.ofNat 3 from rfl, n_add]) (by omega) hn ?_
  repeat (first | ((with_reducible show ∃ _, _ ∧ _); first | refine s_fI (by rfl) (by rfl) (by rfl) ?_ | refine s_fR (by rfl) (by rfl) (by rfl) ?_ | refine s_pV (by rfl) (by rfl) (Nat.le_of_ble_eq_true rfl) (by rfl) ?_) | ((with_reducible show xcls _ _ _ ∧ _); refine s_cls (by rfl) (by rfl) ?_))
  refine v_Judge_value (st := st) i3 i2 (fun c hc => (hst c hc).1) (fun hno => ?_) (fun c C l F1 hl k1 => ?_)
  · refine rd8 (sc := sc) (i := i + 1) (h80) (by rw [show (1 : Int32) = Int32.ofNat 1 from rfl, n_add]) (by omega) hn ?_
    refine rd8 (sc := sc) (i := i + 2) (h80) (by rw [show (2 : Int32) = Int32.ofNat 2 from rfl, n_add]) (by omega) hn ?_
    refine rd8 (sc := sc) (i := i + 3) (h80) (by rw [show (3 : Int32) = Int32.ofNat 3 from rfl, n_add]) (by omega) hn ?_
    repeat (first | ((with_reducible show ∃ _, _ ∧ _); first | refine s_fI (by rfl) (by rfl) (by rfl) ?_ | refine s_fR (by rfl) (by rfl) (by rfl) ?_ | refine s_pV (by rfl) (by rfl) (Nat.le_of_ble_eq_true rfl) (by rfl) ?_) | ((with_reducible show xcls _ _ _ ∧ _); refine s_cls (by rfl) (by rfl) ?_))
    refine v_Model_value (st := st) i4 i2 (fun c hc => (hst c hc).2) (fun _ => ?_) (fun c C l L' hl => absurd hl (hno c C l))
    exact ⟨fun _ => hX e w _ L D kk nn (eQ.refl e) hI.thr0 bud_0, fun hh => absurd rfl hh⟩
  · refine rd8 (sc := sc) (i := i + 1) (by rw [k1 80 (by decide) (by decide)]; exact h80) (by rw [show (1 : Int32) = Int32.ofNat 1 from rfl, n_add]) (by omega) hn ?_
    refine rd8 (sc := sc) (i := i + 2) (by rw [k1 80 (by decide) (by decide)]; exact h80) (by rw [show (2 : Int32) = Int32.ofNat 2 from rfl, n_add]) (by omega) hn ?_
    refine rd8 (sc := sc) (i := i + 3) (by rw [k1 80 (by decide) (by decide)]; exact h80) (by rw [show (3 : Int32) = Int32.ofNat 3 from rfl, n_add]) (by omega) hn ?_
    repeat (first | ((with_reducible show ∃ _, _ ∧ _); first | refine s_fI (by rfl) (by rfl) (by rfl) ?_ | refine s_fR (by rfl) (by rfl) (by rfl) ?_ | refine s_pV (by rfl) (by rfl) (Nat.le_of_ble_eq_true rfl) (by rfl) ?_) | ((with_reducible show xcls _ _ _ ∧ _); refine s_cls (by rfl) (by rfl) ?_))
    refine v_Model_value (st := st) (RM.kept (fun k a1 a2 => k1 k (by omega) (by omega)) i4) i2 (fun c hc => by rw [k1 131 (by decide) (by decide)]; exact (hst c hc).2) (fun hno => absurd hl (hno c C l)) (fun c' C' l' L2 hl' k2 => ?_)
    obtain ⟨rfl, rfl, rfl⟩ := isL_uniq i2 hl' hl
    exact ⟨fun _ => hX e w _ L2 D kk nn (eQ.refl e) (hI.thr (fun k q1 q2 q3 => by rw [up_k q3, k1 k q1 q2]) (fun j hj => by rw [up_i, if_neg hj, k1 100 (by decide) (by decide)]) (k2 134 (by decide))) bud_0, fun hh => absurd rfl hh⟩
theorem st_9 (hI : INV z sc e w F L D) (hi : i + 5 < e.1.2) (hn : e.1.2 < 2 ^ 31) (hX : NXT z sc e w g kk nn X) : (∃ v79, aI (mem e w F L g) (ad e 80) 0 ((Int32.ofNat i) + 1) = some v79 ∧ (xcls (mem e w F L g) (ad e 60) 11 ∧ wp_Judge_step z (fun v81 h80 => ∃ v82, aI h80 (ad e 80) 0 ((Int32.ofNat i) + 1) = some v82 ∧ (xcls h80 (ad e 100) 12 ∧ wp_Model_step z (fun v84 h83 => (v81 = v84 → X h83 kk nn) ∧ (¬ v81 = v84 → Q 0 h83)) (ad e 100) v82 h80)) (ad e 60) v79 (mem e w F L g))) := by
  have hI' := hI
  obtain ⟨i1, i2, i3, i4, i5, i6, i7, i8, i9, i10, h80⟩ := hI'
  obtain ⟨st, hst⟩ := i5
  refine rd8 (sc := sc) (i := i + 1) (h80) (by rw [show (1 : Int32) = Int32.ofNat 1 from rfl, n_add]) (by omega) hn ?_
  repeat (first | ((with_reducible show ∃ _, _ ∧ _); first | refine s_fI (by rfl) (by rfl) (by rfl) ?_ | refine s_fR (by rfl) (by rfl) (by rfl) ?_ | refine s_pV (by rfl) (by rfl) (Nat.le_of_ble_eq_true rfl) (by rfl) ?_) | ((with_reducible show xcls _ _ _ ∧ _); refine s_cls (by rfl) (by rfl) ?_))
  refine v_Judge_step (st := st) i3 i2 (fun c hc => (hst c hc).1) (fun F1 k1 q1 => ?_)
  refine rd8 (sc := sc) (i := i + 1) (by rw [k1 80 (by decide) (by decide) (by decide)]; exact h80) (by rw [show (1 : Int32) = Int32.ofNat 1 from rfl, n_add]) (by omega) hn ?_
  repeat (first | ((with_reducible show ∃ _, _ ∧ _); first | refine s_fI (by rfl) (by rfl) (by rfl) ?_ | refine s_fR (by rfl) (by rfl) (by rfl) ?_ | refine s_pV (by rfl) (by rfl) (Nat.le_of_ble_eq_true rfl) (by rfl) ?_) | ((with_reducible show xcls _ _ _ ∧ _); refine s_cls (by rfl) (by rfl) ?_))
  refine v_Model_step (st := st) (RM.kept (fun k a1 a2 => k1 k (by omega) (by omega) (by omega)) i4) i2 (fun c hc => by rw [k1 131 (by decide) (by decide) (by decide)]; exact (hst c hc).2) (fun F2 L2 k2 z2 l2 q2 => ?_)
  refine ⟨fun _ => ?_, fun hh => absurd rfl hh⟩
  refine hX e w F2 L2 D kk nn (eQ.refl e) (hI.upd (fun k a1 a2 a3 a4 a5 a6 a7 a8 a9 a10 => by rw [k2 k a7 a10, k1 k a4 a5 a6]) (fun j hj => by rw [z2, if_neg (by omega), k1 100 (by decide) (by decide) (by decide)]) (l2 134 (by decide)) ?_ ?_ ?_ ?_) bud_0
  · exact ⟨_, fun c hc => ⟨by rw [k2 77 (by decide) (by decide)]; exact q1 c hc, q2 c hc⟩⟩
  · unfold tpE; rw [k2 61 (by decide) (by decide), k1 61 (by decide) (by decide) (by decide), k2 63 (by decide) (by decide), k1 63 (by decide) (by decide) (by decide), k2 101 (by decide) (by decide), k1 101 (by decide) (by decide) (by decide), z2, if_neg (by decide), k1 100 (by decide) (by decide) (by decide)]; exact i6
  · unfold rdE; rw [k2 62 (by decide) (by decide), k1 62 (by decide) (by decide) (by decide), k2 102 (by decide) (by decide), k1 102 (by decide) (by decide) (by decide)]; exact i7
  · unfold ftE; rw [k2 64 (by decide) (by decide), k1 64 (by decide) (by decide) (by decide), z2, if_neg (by decide), z2, if_neg (by decide), k1 100 (by decide) (by decide) (by decide)]; exact i8
end
