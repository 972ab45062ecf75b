/-! The law's load, and the loop. -/
theorem sg2_rows {S T : RW} (h : ∀ r, r = 0 ∨ r = 8 ∨ r = 12 ∨ r = 13 ∨ r = 14 → S r = T r) : ∀ m, sg2 S m = sg2 T m
  | 0 => rfl
  | m + 1 => by
    have hc : ∀ o y v, cmv S o y v = cmv T o y v := fun o y v => by unfold cmv; rw [h 8 (by omega), h 12 (by omega)]
    have hr : ∀ o y, rdy S o y = rdy T o y := fun o y => by
      funext k
      unfold rdy
      rw [hc, hc, hc, h 12 (by omega), h 13 (by omega), h 14 (by omega)]
    have hf : ∀ o y, fst S o y = fst T o y := fun o y => by unfold fst; rw [hr, h 0 (by omega)]
    unfold sg2
    rw [sg2_rows h m, hf, h 0 (by omega)]
theorem ciC_orS {S T : RW} (h : orS S = orS T) : ciC S = ciC T ∧ S 0 4 = T 0 4 := by
  have hr : ∀ r, r ≠ 5 → r ≠ 11 → r ≠ 105 → r ≠ 111 → S r = T r := fun r a1 a2 a3 a4 => by
    rw [← orS_o (S := S) ⟨a1, a2, a3, a4⟩, h, orS_o ⟨a1, a2, a3, a4⟩]
  have hs := fun m => sg2_rows (S := S) (T := T) (fun r hh => hr r (by omega) (by omega) (by omega) (by omega)) m
  refine ⟨?_, by rw [hr 0 (by decide) (by decide) (by decide) (by decide)]⟩
  funext r i
  unfold ciC
  simp only [hs, hr 0 (by decide) (by decide) (by decide) (by decide), hr 1 (by decide) (by decide) (by decide) (by decide), hr 2 (by decide) (by decide) (by decide) (by decide), hr 3 (by decide) (by decide) (by decide) (by decide), hr 4 (by decide) (by decide) (by decide) (by decide), hr 8 (by decide) (by decide) (by decide) (by decide), hr 12 (by decide) (by decide) (by decide) (by decide), hr 13 (by decide) (by decide) (by decide) (by decide), hr 14 (by decide) (by decide) (by decide) (by decide), hr 40 (by decide) (by decide) (by decide) (by decide), hr 41 (by decide) (by decide) (by decide) (by decide), hr 42 (by decide) (by decide) (by decide) (by decide), hr 50 (by decide) (by decide) (by decide) (by decide), hr 51 (by decide) (by decide) (by decide) (by decide), hr 52 (by decide) (by decide) (by decide) (by decide)]
section
variable {e : xenv} {w : Bool} {F : Nat → Nat → Int32} {L : Nat → Nat → Int64} {g : xh} {z : Nat → Nat} {D : Nat → Option (Nat → Nat → Nat)} {sc : Nat → Int32} {mc ms kk nn i : Nat} {Q : Int32 → xh → Prop} {X : xh → Nat → Nat → Prop}
theorem st_2 (hI : INV z sc e w F L D) (hi : i + 5 < e.1.2) (hn : e.1.2 < 2 ^ 31) (hX : NXT z sc e w g kk nn X) (hmc : kk + 29 ≤ mc) (hms : nn + 58894 ≤ ms) : (∃ v22, aI (mem e w F L g) (ad e 80) 0 ((Int32.ofNat i) + 1) = some v22 ∧ (∃ mc25 ms26, kk + mc25 ≤ mc ∧ nn + ms26 ≤ ms ∧ wp_Law_load z mc25 ms26 (fun v24 h23 => ∃ v29, aI h23 (ad e 80) 0 ((Int32.ofNat i) + 1) = some v29 ∧ (xcls h23 (ad e 100) 12 ∧ wp_Model_load z (fun v31 h30 => xcls h30 (ad e 100) 12 ∧ wp_Model_thrown z (fun v33 h32 => (v33 = v24 → ((¬ v24 = 0 → (X h32 (kk + mc25) (nn + ms26))) ∧ (v24 = 0 → (∃ v34, aL h32 (ad e 83) 3 0 = some v34 ∧ (((lg_cmp v34 (v31.toInt64)) = 0 → (X h32 (kk + mc25) (nn + ms26))) ∧ (¬ (lg_cmp v34 (v31.toInt64)) = 0 → Q 0 h32)))))) ∧ (¬ v33 = v24 → Q 0 h32)) (ad e 100) h30) (ad e 100) v29 h23)) (ad e 60) v22 (ad e 83) (mem e w F L g))) := by
  have hI' := hI
  obtain ⟨i1, i2, i3, i4, i5, i6, i7, i8, i9, i10, h80⟩ := hI'
  obtain ⟨n, n6, t1, t2, t3⟩ := i6
  have hT : TP F (fun j => if j < n then bv (F 63 j) else 256) n := ⟨t1, n6, fun _ => rfl⟩
  refine rd8 (sc := sc) (i := i + 1) (h80) (by rw [show (1 : Int32) = Int32.ofNat 1 from rfl, n_add]) (by omega) hn ?_
  refine ⟨1, 6, by omega, by omega, ?_⟩
  unfold wp_Law_load
  refine ⟨1, 6, by omega, by omega, ?_⟩
  repeat (first | ((with_reducible show ∃ _, _ ∧ _); first | refine s_fI (by rfl) (by rfl) (by rfl) ?_ | refine s_fR (by rfl) (by rfl) (by rfl) ?_ | refine s_pV (by rfl) (by rfl) (Nat.le_of_ble_eq_true rfl) (by rfl) ?_) | ((with_reducible show xcls _ _ _ ∧ _); refine s_cls (by rfl) (by rfl) ?_))
  have tm : ∀ F1, cfr F F1 → TM F1 (fun j => if j < n then bv (F 63 j) else 256) n := by
    intro F1 h1
    refine ⟨by rw [h1.1 100 (by decide) (by decide) (by decide)]; exact t2, n6, fun j => ?_⟩
    rw [h1.1 101 (by decide) (by decide) (by decide)]
    dsimp only
    by_cases hj : j < n
    · rw [if_pos hj, if_pos hj, t3 j hj]
    · rw [if_neg hj, if_neg hj]
  -- when it is refused
  have inv1 : ∀ F1 F2, cfr F F1 → F1 160 = F 160 → F1 77 = F 77 → RC F1 D → F1 61 2 = 0 → mfr F1 F2 → F2 100 3 = 0 → F1 64 11 = F2 100 4 → F1 64 12 = F2 100 5 → F2 100 33 = F1 100 33 → RM F2 D → F2 131 = F1 131 → INV z sc e w F2 L D := by
    intro F1 F2 h1 r160 r77 rc r61 h2 q3 q4 q5 q33 rm r131
    have kk1 : ∀ k, 72 < k → k ≠ 77 → F1 k = F k := fun k a1 a2 => by
      by_cases e0 : k = 160
      · rw [e0]; exact r160
      · exact h1.1 k a1 a2 e0
    refine ⟨?_, i2, RC.kept (fun k hk => h2.1 k (by omega)) rc, rm, ?_, ⟨0, by decide, by rw [h2.1 61 (by decide), r61]; rfl, by rw [q3]; rfl, fun j hj => absurd hj (Nat.not_lt_zero _)⟩, ?_, ⟨by rw [h2.1 64 (by decide)]; exact q4, by rw [h2.1 64 (by decide)]; exact q5⟩, SM.kept (F := F) (fun j hj => ?_) (fun k a1 a2 => by rw [h2.1 k (by omega), kk1 k (by omega) (by omega)]) rfl i9, SC.kept (fun k hk => by rw [h2.1 k (by omega), kk1 k (by omega) (by omega)]) i10, by rw [h2.1 80 (by decide), kk1 80 (by decide) (by decide)]; exact h80⟩
    · unfold Zs; rw [h2.1 81 (by decide), kk1 81 (by decide) (by decide), h2.1 82 (by decide), kk1 82 (by decide) (by decide)]; exact i1
    · unfold stE; rw [h2.1 77 (by decide), r77, r131, kk1 131 (by decide) (by decide)]; exact i5
    · unfold rdE; rw [h2.1 62 (by decide), h1.2.1, h2.1 102 (by decide), kk1 102 (by decide) (by decide)]; exact i7
    · by_cases e0 : j = 33
      · rw [e0, q33, kk1 100 (by decide) (by decide)]
      · rw [h2.2 j (by omega), kk1 100 (by decide) (by decide)]
  have bd : bud w w kk nn (kk + 1) (nn + 6) := Or.inl ⟨rfl, Nat.le_refl _, Nat.le_refl _⟩
  refine v_Judge_load (f := n) hT (Nat.le_refl _) i1 i3 (by decide) (by decide) (fun hno F1 h1 r160 r77 rc r61 f1 f2 => ?_) (fun c k q hc hx hr F1 h1 r160 r77 rc r61 f1 f2 => ?_) (fun c T p' v' hc hx hr g1 g2 g3 g4 e' F1 hn1 ha1 h1 w1 s1 rc r61 f1 f2 => ?_)
  · refine ⟨rfl, ?_⟩
    refine rd8 (sc := sc) (i := i + 1) (by rw [h1.1 80 (by decide) (by decide) (by decide)]; exact h80) (by rw [show (1 : Int32) = Int32.ofNat 1 from rfl, n_add]) (by omega) hn ?_
    repeat (first | ((with_reducible show ∃ _, _ ∧ _); first | refine s_fI (by rfl) (by rfl) (by rfl) ?_ | refine s_fR (by rfl) (by rfl) (by rfl) ?_ | refine s_pV (by rfl) (by rfl) (Nat.le_of_ble_eq_true rfl) (by rfl) ?_) | ((with_reducible show xcls _ _ _ ∧ _); refine s_cls (by rfl) (by rfl) ?_))
    refine v_Model_load (f := n) (tm F1 h1) (Nat.le_refl _) (RM.kept (fun k a1 a2 => h1.1 k (by omega) (by omega) (by omega)) i4) i2 (fun _ F2 h2 q0 q3 q4 q5 q33 rm r131 => ?_) (fun c k q hc hx => absurd hx (hno c hc)) (fun c T p' v' hc hx => absurd hx (hno c hc))
    repeat (first | ((with_reducible show ∃ _, _ ∧ _); first | refine s_fI (by rfl) (by rfl) (by rfl) ?_ | refine s_fR (by rfl) (by rfl) (by rfl) ?_ | refine s_pV (by rfl) (by rfl) (Nat.le_of_ble_eq_true rfl) (by rfl) ?_) | ((with_reducible show xcls _ _ _ ∧ _); refine s_cls (by rfl) (by rfl) ?_))
    exact t_num (X := fun h => X h (kk + 1) (nn + 6)) q0 (fun hh => absurd hh (by decide)) (hX e w F2 L D _ _ (eQ.refl e) (inv1 F1 F2 h1 r160 r77 rc r61 h2 q3 (by rw [f1, q4]) (by rw [f2, q5]) q33 rm r131) bd)
  · refine ⟨rfl, ?_⟩
    refine rd8 (sc := sc) (i := i + 1) (by rw [h1.1 80 (by decide) (by decide) (by decide)]; exact h80) (by rw [show (1 : Int32) = Int32.ofNat 1 from rfl, n_add]) (by omega) hn ?_
    repeat (first | ((with_reducible show ∃ _, _ ∧ _); first | refine s_fI (by rfl) (by rfl) (by rfl) ?_ | refine s_fR (by rfl) (by rfl) (by rfl) ?_ | refine s_pV (by rfl) (by rfl) (Nat.le_of_ble_eq_true rfl) (by rfl) ?_) | ((with_reducible show xcls _ _ _ ∧ _); refine s_cls (by rfl) (by rfl) ?_))
    refine v_Model_load (f := n) (tm F1 h1) (Nat.le_refl _) (RM.kept (fun k a1 a2 => h1.1 k (by omega) (by omega) (by omega)) i4) i2 (fun hno => absurd hx (hno c hc)) (fun c' k' q' hc' hx' hr' F2 h2 q0 q3 q4 q5 q33 rm r131 => ?_) (fun c' T p' v' hc' hx' hr' => by rw [hr] at hr'; cases hr')
    rw [hr] at hr'
    cases hr'
    repeat (first | ((with_reducible show ∃ _, _ ∧ _); first | refine s_fI (by rfl) (by rfl) (by rfl) ?_ | refine s_fR (by rfl) (by rfl) (by rfl) ?_ | refine s_pV (by rfl) (by rfl) (Nat.le_of_ble_eq_true rfl) (by rfl) ?_) | ((with_reducible show xcls _ _ _ ∧ _); refine s_cls (by rfl) (by rfl) ?_))
    exact t_num (X := fun h => X h (kk + 1) (nn + 6)) q0 (fun hh => absurd hh (by decide)) (hX e w F2 L D _ _ (eQ.refl e) (inv1 F1 F2 h1 r160 r77 rc r61 h2 q3 (by rw [f1, q4]) (by rw [f2, q5]) q33 rm r131) bd)
  · have hq : eQ e e' := ⟨hn1, ha1 60 (by decide), ha1 80 (by decide), ha1 81 (by decide), ha1 82 (by decide), ha1 83 (by decide), ha1 100 (by decide)⟩
    have hi' : i + 5 < e'.1.2 := by rw [hn1]; exact hi
    have hn' : e'.1.2 < 2 ^ 31 := by rw [hn1]; exact hn
    have j80 : F1 80 = sc := by rw [h1.1 80 (by decide) (by decide) (by decide)]; exact h80
    rw [← hq.2.2.2.2.2.1]
    refine s_sL (k := 83) (i := 0) (by rfl) (by rfl) (by rfl) (by rfl) (by rfl) (by decide) (by decide) ?_
    rw [← hq.2.2.1]
    refine rd8 (sc := sc) (i := i + 1) j80 (by rw [show (1 : Int32) = Int32.ofNat 1 from rfl, n_add]) (by omega) hn' ?_
    rw [← hq.2.2.2.2.2.2]
    repeat (first | ((with_reducible show ∃ _, _ ∧ _); first | refine s_fI (by rfl) (by rfl) (by rfl) ?_ | refine s_fR (by rfl) (by rfl) (by rfl) ?_ | refine s_pV (by rfl) (by rfl) (Nat.le_of_ble_eq_true rfl) (by rfl) ?_) | ((with_reducible show xcls _ _ _ ∧ _); refine s_cls (by rfl) (by rfl) ?_))
    refine v_Model_load (f := n) (tm F1 h1) (Nat.le_refl _) (RM.kept (fun k a1 a2 => h1.1 k (by omega) (by omega) (by omega)) i4) i2 (fun hno => absurd hx (hno c hc)) (fun c' k' q' hc' hx' hr' => by rw [hr] at hr'; cases hr') (fun c' T' p2 v2 hc' hx' hr' g1' g2' g3' g4' F2 h2 q0 q3 q4 q5 q33 rm s2 => ?_)
    have ec : c' = c := n_inj (by omega) (by omega) (hx'.symm.trans hx)
    rw [ec] at rm
    rw [hr] at hr'
    have hTT : orS T = orS T' := by injection hr' with h3; injection h3
    obtain ⟨u1, u2⟩ := ciC_orS hTT
    rw [← u1] at rm
    rw [← u2]
    repeat (first | ((with_reducible show ∃ _, _ ∧ _); first | refine s_fI (by rfl) (by rfl) (by rfl) ?_ | refine s_fR (by rfl) (by rfl) (by rfl) ?_ | refine s_pV (by rfl) (by rfl) (Nat.le_of_ble_eq_true rfl) (by rfl) ?_) | ((with_reducible show xcls _ _ _ ∧ _); refine s_cls (by rfl) (by rfl) ?_))
    refine t_num (X := fun h => X h (kk + 1) (nn + 6)) q0 (fun _ => by rw [upL_i, if_pos rfl]) (hX e' w F2 _ (updD D c (ciC T)) _ _ hq ?_ bd)
    refine ⟨?_, ?_, RC.kept (fun k hk => h2.1 k (by omega)) rc, rm, ⟨fun _ => 0, fun j hj => ⟨by rw [h2.1 77 (by decide), s1 j hj]; rfl, by rw [s2 j hj]; rfl⟩⟩, ⟨0, by decide, by rw [h2.1 61 (by decide), r61]; rfl, by rw [q3]; rfl, fun j hj => absurd hj (Nat.not_lt_zero _)⟩, ?_, ⟨by rw [h2.1 64 (by decide), f1, q4], by rw [h2.1 64 (by decide), f2, q5]⟩, Or.inl q33, ?_, by rw [h2.1 80 (by decide)]; exact j80⟩
    · unfold Zs; rw [hq.2.2.2.1, hq.2.2.2.2.1, h2.1 81 (by decide), h1.1 81 (by decide) (by decide) (by decide), h2.1 82 (by decide), h1.1 82 (by decide) (by decide) (by decide)]; exact i1
    · intro c0 C0 hC0
      unfold updD at hC0
      by_cases e0 : c0 = c
      · rw [if_pos e0] at hC0; cases hC0; exact ciC_WF g1 g3 g4
      · rw [if_neg e0] at hC0; exact i2 c0 C0 hC0
    · unfold rdE; rw [h2.1 62 (by decide), h1.2.1, h2.1 102 (by decide), h1.1 102 (by decide) (by decide) (by decide)]; exact i7
    · cases w
      · exact Or.inl rfl
      · obtain ⟨a7, a8, a9⟩ := w1 rfl
        have r160 : F2 160 = F1 160 := h2.1 160 (by decide)
        refine Or.inr ⟨⟨?_, Or.inl (by rw [r160]; exact a8), Or.inl (by rw [r160]; exact a9)⟩, Or.inl (by rw [r160]; exact a7)⟩
        rw [r160, h1.2.2]
        rcases i10 with hh | hh
        · cases hh
        · exact hh.1.1
end
