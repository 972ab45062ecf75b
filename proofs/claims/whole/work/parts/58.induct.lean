/-! isEmpty, fits, holdsByInduction. -/
/-- INDUCTIVE for k: layer k is empty -/
def indK (K : Nat → Nat → Nat → Nat) (k : Nat) : Prop := ∀ p, ¬ lay K k p
section
variable {e : xenv} {F : Nat → Nat → Int32} {L : Nat → Nat → Int64} {g : xh} {z : Nat → Nat} {K : Nat → Nat → Nat → Nat}
theorem LY.kept {F' : Nat → Nat → Int32} {kn : Nat} (h : ∀ k, 175 ≤ k → k ≤ 177 → F' k = F k) (hL : LY F K kn) : LY F' K kn := by
  have e1 := h 175 (by decide) (by decide)
  have e2 : lt F' = lt F := (lt_eq e1).1
  unfold LY
  rw [e1, e2, h (lt F) (by rcases lt_or F with q | q <;> rw [q] <;> decide) (by rcases lt_or F with q | q <;> rw [q] <;> decide)]
  exact hL
theorem v_isEmpty {Q : Int32 → xh → Prop} {kn k : Nat} (hM : MK K) (hT : TB F K) (hL : LY F K kn) (hk : k ≤ 8)
    (h1 : ∀ F' kn', (∀ k, k < 175 ∨ 177 < k → F' k = F k) → LY F' K kn' → indK K k → Q 1 (mem e true F' L g)) (h0 : ∀ F' kn', (∀ k, k < 175 ∨ 177 < k → F' k = F k) → LY F' K kn' → ¬ indK K k → Q 0 (mem e true F' L g)) : wp_Layers_isEmpty z Q (ad e 175) (Int32.ofNat k) (mem e true F L g) := by
  unfold wp_Layers_isEmpty wp_Layers_isEmpty_0
  refine xloop_dn (fun m a => ∃ kn F', m = 9 - kn ∧ a = (ad e 175, Int32.ofNat k, mem e true F' L g) ∧ (∀ k, k < 175 ∨ 177 < k → F' k = F k) ∧ LY F' K kn) ?_ (9 - kn) _ ⟨kn, F, rfl, rfl, fun _ _ => rfl, hL⟩
  rintro m a cc ⟨kn, F', rfl, rfl, g1, g2⟩ hlp
  obtain ⟨l1, l2, l3, l4, l5, l6⟩ := g2
  unfold wp_Layers_isEmpty_0_b; dsimp only
  have done : (k < kn ∨ F' 175 6 = 1) → wp_Layers_isEmpty_32 z Q (ad e 175) (Int32.ofNat k) (mem e true F' L g) := by
    intro hd
    unfold wp_Layers_isEmpty_32
    repeat (first | ((with_reducible show ∃ _, _ ∧ _); first | refine s_fI (by rfl) (by rfl) (by rfl) ?_ | refine s_fR (by rfl) (by rfl) (by rfl) ?_ | refine s_pV (by rfl) (by rfl) (Nat.le_of_ble_eq_true rfl) (by rfl) ?_) | ((with_reducible show xcls _ _ _ ∧ _); refine s_cls (by rfl) (by rfl) ?_))
    rcases l4 with ⟨a1, a2⟩ | ⟨fe, a1, a2, a3, a4, a5⟩
    · rw [a1]
      refine ⟨fun _ => h0 F' kn g1 ⟨l1, l2, l3, Or.inl ⟨a1, a2⟩, l5, l6⟩ (fun hi => ?_), fun hh => absurd rfl hh⟩
      by_cases hlt : k < kn
      · obtain ⟨p, hp⟩ := a2 k hlt
        exact hi p hp
      · rcases l6 with hh | ⟨_, b2, b3⟩
        · rcases hd with hd | hd
          · omega
          · rw [hh] at hd; exact absurd hd (by decide)
        · obtain ⟨p, hp⟩ := a2 (kn - 1) (by omega)
          exact hi p ((b3 k (by omega) p).mpr hp)
    · rw [a2]
      refine ⟨fun hh => absurd (n_inj (b := 4294967295) (by omega) (by decide) hh) (by omega), fun _ => ?_⟩
      repeat (first | ((with_reducible show ∃ _, _ ∧ _); first | refine s_fI (by rfl) (by rfl) (by rfl) ?_ | refine s_fR (by rfl) (by rfl) (by rfl) ?_ | refine s_pV (by rfl) (by rfl) (Nat.le_of_ble_eq_true rfl) (by rfl) ?_) | ((with_reducible show xcls _ _ _ ∧ _); refine s_cls (by rfl) (by rfl) ?_))
      rw [a2]
      refine ⟨fun hc => ?_, fun hc => ?_⟩ <;> rw [n_lt (by omega) (by omega)] at hc
      · refine h0 F' kn g1 ⟨l1, l2, l3, Or.inr ⟨fe, a1, a2, a3, a4, a5⟩, l5, l6⟩ (fun hi => ?_)
        obtain ⟨p, hp⟩ := a5 k hc
        exact hi p hp
      · refine h1 F' kn g1 ⟨l1, l2, l3, Or.inr ⟨fe, a1, a2, a3, a4, a5⟩, l5, l6⟩ (fun p hp => ?_)
        obtain ⟨q, hq⟩ := lay_down hM (show fe ≤ k by omega) ⟨p, hp⟩
        exact a3 q hq
  repeat (first | ((with_reducible show ∃ _, _ ∧ _); first | refine s_fI (by rfl) (by rfl) (by rfl) ?_ | refine s_fR (by rfl) (by rfl) (by rfl) ?_ | refine s_pV (by rfl) (by rfl) (Nat.le_of_ble_eq_true rfl) (by rfl) ?_) | ((with_reducible show xcls _ _ _ ∧ _); refine s_cls (by rfl) (by rfl) ?_))
  rw [l1]
  refine ⟨fun hc => ?_, fun hc => ?_⟩ <;> rw [n_lt (by omega) (by omega)] at hc
  · exact done (Or.inl hc)
  repeat (first | ((with_reducible show ∃ _, _ ∧ _); first | refine s_fI (by rfl) (by rfl) (by rfl) ?_ | refine s_fR (by rfl) (by rfl) (by rfl) ?_ | refine s_pV (by rfl) (by rfl) (Nat.le_of_ble_eq_true rfl) (by rfl) ?_) | ((with_reducible show xcls _ _ _ ∧ _); refine s_cls (by rfl) (by rfl) ?_))
  refine ⟨fun hs => done (Or.inr ?_), fun hs => ?_⟩
  · rcases l6 with hh | hh
    · exact absurd hh hs
    · exact hh.1
  repeat (first | ((with_reducible show ∃ _, _ ∧ _); first | refine s_fI (by rfl) (by rfl) (by rfl) ?_ | refine s_fR (by rfl) (by rfl) (by rfl) ?_ | refine s_pV (by rfl) (by rfl) (Nat.le_of_ble_eq_true rfl) (by rfl) ?_) | ((with_reducible show xcls _ _ _ ∧ _); refine s_cls (by rfl) (by rfl) ?_))
  refine v_addLayer (kn := kn) hM (TB.kept (fun k q1 q2 => g1 k (by omega)) hT) ⟨l1, l2, l3, l4, l5, l6⟩ (by omega) hs (fun F2 r1 r2 r3 => ?_)
  repeat (first | ((with_reducible show ∃ _, _ ∧ _); first | refine s_fI (by rfl) (by rfl) (by rfl) ?_ | refine s_fR (by rfl) (by rfl) (by rfl) ?_ | refine s_pV (by rfl) (by rfl) (Nat.le_of_ble_eq_true rfl) (by rfl) ?_) | ((with_reducible show xcls _ _ _ ∧ _); refine s_cls (by rfl) (by rfl) ?_))
  rw [r2, n_lit, n_add]
  exact hlp (9 - (kn + 1)) _ (by omega) ⟨kn + 1, _, rfl, rfl, fun k hk => by rw [up_k (by omega), r1 k (by omega)]; exact g1 k hk, r3⟩
/-- the LENGTH and the layers -/
theorem len_layers (hM : MK K) (hK : WK F K) : ∃ len, F 170 6 = Int32.ofNat len ∧ len ≤ 4096 ∧ (∀ j, lay K j 0 → len ≠ 0 ∧ len ≤ j + 1) ∧ (len ≠ 0 → lay K (len - 1) 0) ∧ (∀ j, j < len → ∃ p, lay K j p) := by
  have hWn := Wn_le hM
  have hN := Nx_lt hM
  obtain ⟨t, ht, hB, hTL⟩ := hK
  have hFW := WK.fw (F := F) ht
  have inv := b_inv (Nx K) (Wn K) hN t
  have hn4 := bn_le (Nx K) (Wn K) hN t
  have pr0 : isPr K 0 := ⟨by rw [Nat.zero_div]; exact Nat.two_pow_pos _, by rw [Nat.zero_mod]; exact Nat.two_pow_pos _⟩
  rcases hTL with ⟨q1, q2, q3⟩ | ⟨f, x, b, hf, q2, q3, q4⟩
  · refine ⟨0, q1, by decide, fun j hj => ?_, fun h => absurd rfl h, fun j hj => by omega⟩
    have hl : Ly (Nx K) (Wn K) (Tp K) j (bq (Nx K) (Wn K) t 0) := by rw [inv.1.2.1]; exact hj.2
    obtain ⟨i, hi, htl, _⟩ := ly_tells hN hWn.1 hFW j 0 inv.1.1 hl
    exact absurd htl (q3 i hi)
  · have hd0 := (inv.2.1 f hf).1
    have hd4 := b_d4 hN (W := Wn K) f hf
    have hway := ly_way hN hWn.1 hWn.2 hFW hf q3 q2
    have hprb : ∀ k, k < bd (Nx K) (Wn K) t (bq (Nx K) (Wn K) t f) → isPr K (back (ba (Nx K) (Wn K) t) (bq (Nx K) (Wn K) t f) k) := fun k hk => by
      obtain ⟨i, hi, hb, _⟩ := b_back hN hWn.1 hWn.2 hf k hk
      rw [hb]; exact bq_pr hM t hi
    refine ⟨_, q4.2.2.1, by omega, fun j hj => ⟨hd0, ?_⟩, fun _ => ?_, fun j hj => ⟨_, hprb j hj, hway j hj⟩⟩
    · have hl : Ly (Nx K) (Wn K) (Tp K) j (bq (Nx K) (Wn K) t 0) := by rw [inv.1.2.1]; exact hj.2
      obtain ⟨i, hi, htl, hd⟩ := ly_tells hN hWn.1 hFW j 0 inv.1.1 hl
      rw [inv.1.2.1, inv.1.2.2.1] at hd
      have hfi : f ≤ i := Nat.le_of_not_lt (fun hlt => q2 i hlt htl)
      have := fw_mono hN hWn.1 hFW hfi hi
      omega
    · have hw := hway (bd (Nx K) (Wn K) t (bq (Nx K) (Wn K) t f) - 1) (by omega)
      rw [way_end hN hWn.1 hWn.2 hFW hf (by omega)] at hw
      exact ⟨pr0, hw⟩
theorem WK.kept {F' : Nat → Nat → Int32} (h : ∀ k, 170 ≤ k → k ≤ 174 → F' k = F k) (hK : WK F K) : WK F' K := by
  obtain ⟨t, ht, hB, hTL⟩ := hK
  refine ⟨t, ht, WB.kept (by rw [h 170 (by decide) (by decide)]) (h 171 (by decide) (by decide)) (h 172 (by decide) (by decide)) (h 173 (by decide) (by decide)) hB, ?_⟩
  unfold TL WV at hTL ⊢
  rw [h 170 (by decide) (by decide), h 174 (by decide) (by decide)]
  exact hTL
theorem v_holds {Q : Int32 → xh → Prop} {kn k : Nat} (hM : MK K) (hT : TB F K) (hK : WK F K) (hL : LY F K kn) (hk : k ≤ 8)
    (h : ∀ F' kn' (y : Int32), (∀ k, k < 175 ∨ 177 < k → F' k = F k) → LY F' K kn' → (indK K k → y = 1) → (¬ indK K k → y = 0) → Q y (mem e true F' L g)) : wp_Works_holdsByInduction z Q (ad e 160) (Int32.ofNat k) (mem e true F L g) := by
  have main : ∀ F' kn' (y : Int32), (∀ k, k < 175 ∨ 177 < k → F' k = F k) → LY F' K kn' → (indK K k → y = 1) → (¬ indK K k → y = 0) → ∃ o5, fR (mem e true F' L g) (ad e 160) 10 4 = some o5 ∧ (∃ o6, fR (mem e true F' L g) (ad e 160) 10 3 = some o6 ∧ (∃ v7, fI (mem e true F' L g) o6 9 6 = some v7 ∧ (xcls (mem e true F' L g) o5 1 ∧ wp_Layers_fits z (fun v9 h8 => xcls h8 (ad e 160) 10 ∧ wp_Works_doubtUnless z (fun h11 => (y = 0 → wp_Works_holdsByInduction_43 z Q y (ad e 160) h11) ∧ (¬ y = 0 → (∃ o12, fR h11 (ad e 160) 10 3 = some o12 ∧ (∃ v13, fI h11 o12 9 6 = some v13 ∧ ((Int32.ofNat k < v13 → wp_Works_holdsByInduction_48 z Q y 0 (ad e 160) h11) ∧ (¬ Int32.ofNat k < v13 → wp_Works_holdsByInduction_43 z Q y (ad e 160) h11)))))) (ad e 160) v9 h8) o5 v7 (mem e true F' L g)))) := by
    intro F' kn' y k1 hL' hy1 hy0
    obtain ⟨len, w1, w2, w3, w4, w5⟩ := len_layers hM hK
    have w1' : F' 170 6 = Int32.ofNat len := by rw [k1 170 (by decide)]; exact w1
    obtain ⟨l1, l2, l3, l4, l5, l6⟩ := hL'
    have hy01 : y = 0 ∨ y = 1 := by
      by_cases hi : indK K k
      · exact Or.inr (hy1 hi)
      · exact Or.inl (hy0 hi)
    have fin43 : wp_Works_holdsByInduction_43 z Q y (ad e 160) (mem e true F' L g) := by
      unfold wp_Works_holdsByInduction_43 wp_Works_holdsByInduction_48
      repeat (first | ((with_reducible show ∃ _, _ ∧ _); first | refine s_fI (by rfl) (by rfl) (by rfl) ?_ | refine s_fR (by rfl) (by rfl) (by rfl) ?_ | refine s_pV (by rfl) (by rfl) (Nat.le_of_ble_eq_true rfl) (by rfl) ?_) | ((with_reducible show xcls _ _ _ ∧ _); refine s_cls (by rfl) (by rfl) ?_))
      unfold wp_Works_doubtUnless
      refine ⟨fun _ => ⟨by unfold xbl; rcases hy01 with rfl | rfl <;> simp, h F' kn' y k1 ⟨l1, l2, l3, l4, l5, l6⟩ hy1 hy0⟩, fun hh => absurd hh (by decide)⟩
    have ok : xcls (mem e true F' L g) (ad e 160) 10 ∧ wp_Works_doubtUnless z (fun h11 => (y = 0 → wp_Works_holdsByInduction_43 z Q y (ad e 160) h11) ∧ (¬ y = 0 → (∃ o12, fR h11 (ad e 160) 10 3 = some o12 ∧ (∃ v13, fI h11 o12 9 6 = some v13 ∧ ((Int32.ofNat k < v13 → wp_Works_holdsByInduction_48 z Q y 0 (ad e 160) h11) ∧ (¬ Int32.ofNat k < v13 → wp_Works_holdsByInduction_43 z Q y (ad e 160) h11)))))) (ad e 160) 1 (mem e true F' L g) := by
      repeat (first | ((with_reducible show ∃ _, _ ∧ _); first | refine s_fI (by rfl) (by rfl) (by rfl) ?_ | refine s_fR (by rfl) (by rfl) (by rfl) ?_ | refine s_pV (by rfl) (by rfl) (Nat.le_of_ble_eq_true rfl) (by rfl) ?_) | ((with_reducible show xcls _ _ _ ∧ _); refine s_cls (by rfl) (by rfl) ?_))
      unfold wp_Works_doubtUnless
      refine ⟨fun _ => ⟨fun _ => fin43, fun hy => ?_⟩, fun hh => absurd hh (by decide)⟩
      repeat (first | ((with_reducible show ∃ _, _ ∧ _); first | refine s_fI (by rfl) (by rfl) (by rfl) ?_ | refine s_fR (by rfl) (by rfl) (by rfl) ?_ | refine s_pV (by rfl) (by rfl) (Nat.le_of_ble_eq_true rfl) (by rfl) ?_) | ((with_reducible show xcls _ _ _ ∧ _); refine s_cls (by rfl) (by rfl) ?_))
      rw [w1']
      refine ⟨fun hlt => ?_, fun _ => fin43⟩
      rw [n_lt (by omega) (by omega)] at hlt
      have hi : indK K k := by
        apply Classical.byContradiction
        intro hn
        exact hy (hy0 hn)
      obtain ⟨p, hp⟩ := w5 k hlt
      exact absurd hp (hi p)
    repeat (first | ((with_reducible show ∃ _, _ ∧ _); first | refine s_fI (by rfl) (by rfl) (by rfl) ?_ | refine s_fR (by rfl) (by rfl) (by rfl) ?_ | refine s_pV (by rfl) (by rfl) (Nat.le_of_ble_eq_true rfl) (by rfl) ?_) | ((with_reducible show xcls _ _ _ ∧ _); refine s_cls (by rfl) (by rfl) ?_))
    rw [w1']
    unfold wp_Layers_fits wp_Layers_fits_19 wp_Layers_fits_20
    refine ⟨fun hc => ?_, fun hc => ?_⟩
    · rw [n_lit, n_lt (by omega) (by decide)] at hc
      repeat (first | ((with_reducible show ∃ _, _ ∧ _); first | refine s_fI (by rfl) (by rfl) (by rfl) ?_ | refine s_fR (by rfl) (by rfl) (by rfl) ?_ | refine s_pV (by rfl) (by rfl) (Nat.le_of_ble_eq_true rfl) (by rfl) ?_) | ((with_reducible show xcls _ _ _ ∧ _); refine s_cls (by rfl) (by rfl) ?_))
      rcases l5 with ⟨a1, a2⟩ | ⟨fr, a1, a2, a3, a4⟩
      · rw [a1]; exact ⟨fun hh => absurd rfl hh, fun _ => ok⟩
      · exact absurd (w3 fr a3).1 (by omega)
    · rw [n_lit, n_lt (by omega) (by decide)] at hc
      repeat (first | ((with_reducible show ∃ _, _ ∧ _); first | refine s_fI (by rfl) (by rfl) (by rfl) ?_ | refine s_fR (by rfl) (by rfl) (by rfl) ?_ | refine s_pV (by rfl) (by rfl) (Nat.le_of_ble_eq_true rfl) (by rfl) ?_) | ((with_reducible show xcls _ _ _ ∧ _); refine s_cls (by rfl) (by rfl) ?_))
      rw [l1]
      refine ⟨fun hc2 => ?_, fun hc2 => ?_⟩
      · rw [n_lt (by omega) (by omega)] at hc2
        repeat (first | ((with_reducible show ∃ _, _ ∧ _); first | refine s_fI (by rfl) (by rfl) (by rfl) ?_ | refine s_fR (by rfl) (by rfl) (by rfl) ?_ | refine s_pV (by rfl) (by rfl) (Nat.le_of_ble_eq_true rfl) (by rfl) ?_) | ((with_reducible show xcls _ _ _ ∧ _); refine s_cls (by rfl) (by rfl) ?_))
        rcases l5 with ⟨a1, a2⟩ | ⟨fr, a1, a2, a3, a4⟩
        · rw [a1]; exact ⟨fun hh => absurd rfl hh, fun _ => ok⟩
        · have := (w3 fr a3).2
          omega
      · rw [n_lt (by omega) (by omega)] at hc2
        repeat (first | ((with_reducible show ∃ _, _ ∧ _); first | refine s_fI (by rfl) (by rfl) (by rfl) ?_ | refine s_fR (by rfl) (by rfl) (by rfl) ?_ | refine s_pV (by rfl) (by rfl) (Nat.le_of_ble_eq_true rfl) (by rfl) ?_) | ((with_reducible show xcls _ _ _ ∧ _); refine s_cls (by rfl) (by rfl) ?_))
        rw [n_lit, n_sub (by omega)]
        have hl := w4 (by omega)
        rcases l5 with ⟨a1, a2⟩ | ⟨fr, a1, a2, a3, a4⟩
        · exact absurd hl (a2 (len - 1) (by omega))
        · rw [a2]
          have e1 := (w3 fr a3).2
          have e2 : ¬ len - 1 < fr := fun hlt => a4 _ hlt hl
          have : fr = len - 1 := by omega
          rw [this]; exact ⟨fun hh => absurd rfl hh, fun _ => ok⟩
  unfold wp_Works_holdsByInduction
  repeat (first | ((with_reducible show ∃ _, _ ∧ _); first | refine s_fI (by rfl) (by rfl) (by rfl) ?_ | refine s_fR (by rfl) (by rfl) (by rfl) ?_ | refine s_pV (by rfl) (by rfl) (Nat.le_of_ble_eq_true rfl) (by rfl) ?_) | ((with_reducible show xcls _ _ _ ∧ _); refine s_cls (by rfl) (by rfl) ?_))
  exact v_isEmpty hM hT hL hk (fun F' kn' k1 l1 hi => main F' kn' 1 k1 l1 (fun _ => rfl) (fun hn => absurd hi hn)) (fun F' kn' k1 l1 hi => main F' kn' 0 k1 l1 (fun hn => absurd hn hi) (fun _ => rfl))
end
