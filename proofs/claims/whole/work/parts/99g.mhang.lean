/-! The reference's rings; it reads a file. -/
theorem nz_set {d : Nat → Nat} {p : Nat} (hd : ∀ x, d x ≤ 1) (hp : p < 201) : nz d 201 ≤ nz (upN d p 1) 201 ∧ (d p = 0 → nz d 201 < nz (upN d p 1) 201) ∧ ∀ x, upN d p 1 x ≤ 1 := by
  refine ⟨?_, fun h0 => ?_, fun x => ?_⟩
  · by_cases h0 : d p = 0
    · rw [nz_up h0 (by decide)]; omega
    · have : upN d p 1 = d := by
        funext x
        by_cases e0 : x = p
        · rw [e0, upN_eq]; have := hd p; omega
        · rw [upN_ne e0]
      rw [this]; exact Nat.le_refl _
  · rw [nz_up h0 (by decide), if_pos hp]; omega
  · by_cases e0 : x = p
    · rw [e0, upN_eq]; exact Nat.le_refl _
    · rw [upN_ne e0]; exact hd x
section
variable {e : xenv} {w : Bool} {L : Nat → Nat → Int64} {g : xh} {z : Nat → Nat} {b : Nat → Nat} {n : Nat} {F0 F F' F2 : Nat → Nat → Int32} {S S' : RW} {p q s nu : Nat} {Q : xh → Prop} {Qi : Int32 → xh → Prop} {r : RS}
theorem m_hangs {v : Nat} (hG : GA S) (hS : SM0 F S) (hv : v < 201)
    (h1 : Rc S v v → ∀ F', (∀ k, k ≠ 128 → F' k = F k) → Qi 1 (mem e w F' L g))
    (h0 : ¬ Rc S v v → ∀ F', (∀ k, k ≠ 128 → F' k = F k) → Qi 0 (mem e w F' L g)) : wp_Model_hangs z Qi (ad e 100) (Int32.ofNat v) (mem e w F L g) := by
  have hA := hG.1.2
  unfold wp_Model_hangs
  repeat (first | ((with_reducible show ∃ _, _ ∧ _); first | refine s_fI (by rfl) (by rfl) (by rfl) ?_ | refine s_fR (by rfl) (by rfl) (by rfl) ?_ | refine s_pV (by rfl) (by rfl) (Nat.le_of_ble_eq_true rfl) (by rfl) ?_) | ((with_reducible show xcls _ _ _ ∧ _); refine s_cls (by rfl) (by rfl) ?_))
  unfold wp_Model_hangs_7
  refine xloop_dn (fun m a => ∃ u F1, m = 201 - u ∧ u ≤ 201 ∧ a = (ad e 100, Int32.ofNat v, ad e 128, Int32.ofNat u, mem e w F1 L g) ∧ (∀ k, k ≠ 128 → F1 k = F k) ∧ ∀ x, x < u → F1 128 x = 0) ?_ 201 _ ⟨0, F, rfl, by decide, rfl, fun _ _ => rfl, fun u hu => by omega⟩
  rintro m a cc ⟨u, F1, rfl, hu, rfl, g1, g2⟩ hk
  unfold wp_Model_hangs_7_b; dsimp only
  refine ⟨fun hc => ?_, fun hc => ?_⟩ <;> rw [show (201 : Int32) = Int32.ofNat 201 from rfl, n_le (by decide) (by omega)] at hc
  rotate_left
  · refine s_sI (i := u) (by rfl) (by rfl) (by rfl) (by rfl) (by rfl) (by omega) (by decide) ?_
    refine hk (201 - (u + 1)) _ (by omega) ⟨u + 1, _, rfl, by omega, by rw [n_inc], fun k q1 => by rw [up_k q1]; exact g1 k q1, fun x hx => ?_⟩
    rw [up_i]
    by_cases e0 : x = u
    · rw [if_pos e0]; rfl
    · rw [if_neg e0]; exact g2 x (by omega)
  clear hk
  have hu' : u = 201 := by omega
  subst hu'
  unfold wp_Model_hangs_29
  refine xloop_dn (fun m a => ∃ (x3 x4 : Nat) (mt : Nat → Nat) (F2 : Nat → Nat → Int32), m = (if x3 = 0 then 0 else if x4 = 0 then 300 else 1 + (201 - nz mt 201)) ∧ x3 ≤ 1 ∧ x4 ≤ 1 ∧ a = (ad e 100, Int32.ofNat v, ad e 128, Int32.ofNat x3, Int32.ofNat x4, mem e w F2 L g) ∧ (∀ k, k ≠ 128 → F2 k = F k) ∧ (∀ x, x < 201 → F2 128 x = Int32.ofNat (mt x)) ∧ (∀ x, mt x ≤ 1) ∧ (∀ x, x < 201 → mt x = 1 → Rc S v x) ∧ (x4 = 1 → ∀ x, Eg S v x → mt x = 1) ∧ (x3 = 0 → x4 = 1 ∧ ∀ x y, x < 201 → mt x = 1 → Eg S x y → mt y = 1)) ?_ 300 _ ⟨1, 0, fun _ => 0, F1, rfl, by decide, by decide, rfl, g1, fun x hx => g2 x hx, fun _ => Nat.zero_le _, fun x _ hx => absurd (show (0 : Nat) = 1 from hx) (by decide), fun hh => absurd hh (by decide), fun hh => absurd hh (by decide)⟩
  rintro m a cc ⟨x3, x4, mt, F2, rfl, hx3, hx4, rfl, r1, r2, r3, r4, r5, r6⟩ hk
  unfold wp_Model_hangs_29_b; dsimp only
  refine ⟨fun hz => ?_, fun hz => ?_⟩
  · have hz : x3 = 0 := n_inj (b := 0) (by omega) (by decide) hz
    obtain ⟨hx41, hcl⟩ := r6 hz
    have hiff : mt v = 1 ↔ Rc S v v := by
      refine ⟨r4 v hv, fun hr => ?_⟩
      exact (hr (fun x => x < 201 ∧ mt x = 1) (fun x hx => ⟨Eg_lt hG hx, r5 hx41 x hx⟩) (fun x y hx hy => ⟨Eg_lt hG hy, hcl x y hx.1 hx.2 hy⟩)).2
    refine s_aI (i := v) (by rfl) (by rfl) (by rfl) (by rfl) (by exact hv) (by decide) ?_
    rw [r2 v hv]
    have := r3 v
    by_cases hh : mt v = 1
    · rw [hh]; exact ⟨Or.inr rfl, h1 (hiff.mp hh) F2 r1⟩
    · rw [show mt v = 0 by omega]; exact ⟨Or.inl rfl, h0 (fun hr => hh (hiff.mpr hr)) F2 r1⟩
  have hx31 : x3 = 1 := by
    have : x3 ≠ 0 := fun ee => hz (by rw [ee]; rfl)
    omega
  subst hx31
  unfold wp_Model_hangs_38
  refine xloop_dn (fun m a => ∃ (k y3 : Nat) (m2 : Nat → Nat) (F3 : Nat → Nat → Int32), m = S 0 4 - k ∧ k ≤ S 0 4 ∧ y3 ≤ 1 ∧ a = (ad e 100, Int32.ofNat v, ad e 128, Int32.ofNat y3, Int32.ofNat x4, Int32.ofNat k, mem e w F3 L g) ∧ (∀ k, k ≠ 128 → F3 k = F k) ∧ (∀ x, x < 201 → F3 128 x = Int32.ofNat (m2 x)) ∧ (∀ x, m2 x ≤ 1) ∧ (∀ x, x < 201 → m2 x = 1 → Rc S v x) ∧ nz mt 201 ≤ nz m2 201 ∧ (y3 = 1 → nz mt 201 < nz m2 201) ∧ (∀ x, mt x = 1 → m2 x = 1) ∧ (x4 = 0 → ∀ j, j < k → S 12 j = v → m2 (S 13 j / 2) = 1 ∧ m2 (S 14 j / 2) = 1) ∧ (y3 = 0 → ∀ j, j < k → m2 (S 12 j) = 1 → m2 (S 13 j / 2) = 1 ∧ m2 (S 14 j / 2) = 1)) ?_ (S 0 4) _ ⟨0, 0, mt, F2, rfl, Nat.zero_le _, by decide, rfl, r1, r2, r3, r4, Nat.le_refl _, fun hh => absurd hh (by decide), fun _ hx => hx, fun _ j hj => by omega, fun _ j hj => by omega⟩
  rintro m a cc2 ⟨k, y3, m2, F3, rfl, hk1, hy3, rfl, t1, t2, t3, t4, t5, t6, t7, t8, t9⟩ hk2
  have hS3 : SM0 F3 S := hS.kept (fun k hk => t1 k (by omega))
  unfold wp_Model_hangs_38_b; dsimp only
  repeat (first | ((with_reducible show ∃ _, _ ∧ _); first | refine s_fI (by rfl) (by rfl) (by rfl) ?_ | refine s_fR (by rfl) (by rfl) (by rfl) ?_ | refine s_pV (by rfl) (by rfl) (Nat.le_of_ble_eq_true rfl) (by rfl) ?_) | ((with_reducible show xcls _ _ _ ∧ _); refine s_cls (by rfl) (by rfl) ?_))
  refine s_aI (i := 14) (by rfl) (by rfl) (by rfl) (by rfl) (by decide) (by decide) ?_
  rw [hS3.2.1]
  refine ⟨fun hc => ?_, fun hc => ?_⟩ <;> rw [n_le (by omega) (by omega)] at hc
  · have hkA : k = S 0 4 := by omega
    have hnz : nz m2 201 ≤ 201 := nz_le m2 201
    have hbase : ∀ x, Eg S v x → m2 x = 1 := by
      intro x hx
      by_cases h40 : x4 = 0
      · obtain ⟨j, hj, he, hor⟩ := hx
        have := t8 h40 j (by omega) he
        rcases hor with rfl | rfl
        · exact this.1
        · exact this.2
      · exact t7 x (r5 (by omega) x hx)
    refine hk (if y3 = 0 then 0 else 1 + (201 - nz m2 201)) _ ?_ ⟨y3, 1, m2, F3, ?_, hy3, by decide, rfl, t1, t2, t3, t4, fun _ => hbase, fun hh => ⟨rfl, fun x y hx hmx hxy => ?_⟩⟩
    · rw [if_neg (show ¬ (1 : Nat) = 0 by decide)]
      by_cases hy0 : y3 = 0
      · rw [if_pos hy0]
        split
        · decide
        · omega
      · rw [if_neg hy0]
        have := t6 (by omega)
        split
        · omega
        · omega
    · by_cases hy0 : y3 = 0
      · rw [if_pos hy0, if_pos hy0]
      · rw [if_neg hy0, if_neg hy0, if_neg (by decide)]
    · obtain ⟨j, hj, he, hor⟩ := hxy
      have := t9 hh j (by omega) (by rw [he]; exact hmx)
      rcases hor with rfl | rfl
      · exact this.1
      · exact this.2
  have hkl : k < S 0 4 := by omega
  obtain ⟨v1, v2, v3⟩ := hG.v12 hkl
  obtain ⟨f115, f116, f117⟩ := hS3.2.2.2 k hkl
  -- it is passed over
  have skip : m2 (S 12 k) ≠ 1 → (x4 = 0 → S 12 k ≠ v) → wp_Model_hangs_155 z Qi cc cc2 (ad e 100) (Int32.ofNat v) (ad e 128) (Int32.ofNat y3) (Int32.ofNat x4) (Int32.ofNat k) (mem e w F3 L g) := by
    intro hn hnv
    unfold wp_Model_hangs_155
    refine hk2 (S 0 4 - (k + 1)) _ (by omega) ⟨k + 1, y3, m2, F3, rfl, by omega, hy3, by rw [n_inc], t1, t2, t3, t4, t5, t6, t7, fun h4 j hj he => ?_, fun h3 j hj hm => ?_⟩
    · by_cases e0 : j = k
      · rw [e0] at he; exact absurd he (hnv h4)
      · exact t8 h4 j (by omega) he
    · by_cases e0 : j = k
      · rw [e0] at hm; exact absurd hm hn
      · exact t9 h3 j (by omega) hm
  -- its operands are met
  have take : (m2 (S 12 k) = 1 ∨ S 12 k = v) → wp_Model_hangs_99 z Qi cc cc2 (ad e 100) (Int32.ofNat v) (ad e 128) (Int32.ofNat y3) (Int32.ofNat x4) (Int32.ofNat k) (mem e w F3 L g) := by
    intro hyes
    have hR : ∀ x, (x = S 13 k / 2 ∨ x = S 14 k / 2) → Rc S v x := by
      intro x hx
      have hE : Eg S (S 12 k) x := ⟨k, hkl, rfl, hx⟩
      rcases hyes with hh | hh
      · exact Rc.step (t4 _ v1 hh) hE
      · rw [hh] at hE; exact Rc.base hE
    obtain ⟨n1, n2, n3⟩ := nz_set (p := S 13 k / 2) t3 (by omega)
    obtain ⟨n4, n5, n6⟩ := nz_set (p := S 14 k / 2) n3 (by omega)
    have both : ∀ (y3' : Nat), y3' ≤ 1 → (y3' = 1 → nz mt 201 < nz (upN (upN m2 (S 13 k / 2) 1) (S 14 k / 2) 1) 201) → (y3' = 0 → y3 = 0 ∧ m2 (S 13 k / 2) = 1 ∧ m2 (S 14 k / 2) = 1) → wp_Model_hangs_145 z Qi cc cc2 (ad e 100) (Int32.ofNat v) (ad e 128) (Int32.ofNat y3') (Int32.ofNat x4) (Int32.ofNat k) (Int32.ofNat (S 13 k / 2)) (Int32.ofNat (S 14 k / 2)) (mem e w F3 L g) := by
      intro y3' hy' hgr hst
      unfold wp_Model_hangs_145
      refine s_sI (i := S 13 k / 2) (by rfl) (by rfl) (by rfl) (by rfl) (by rfl) (by omega) (by decide) ?_
      refine s_sI (i := S 14 k / 2) (by rfl) (by rfl) (by rfl) (by rfl) (by rfl) (by omega) (by decide) ?_
      unfold wp_Model_hangs_155
      have keep1 : ∀ x, m2 x = 1 → upN (upN m2 (S 13 k / 2) 1) (S 14 k / 2) 1 x = 1 := fun x hx => by
        unfold upN
        split
        · rfl
        · split
          · rfl
          · exact hx
      have hl1 : upN (upN m2 (S 13 k / 2) 1) (S 14 k / 2) 1 (S 13 k / 2) = 1 := by
        unfold upN
        split
        · rfl
        · rw [if_pos rfl]
      have hr1 : upN (upN m2 (S 13 k / 2) 1) (S 14 k / 2) 1 (S 14 k / 2) = 1 := upN_eq _ _ _
      refine hk2 (S 0 4 - (k + 1)) _ (by omega) ⟨k + 1, y3', upN (upN m2 (S 13 k / 2) 1) (S 14 k / 2) 1, _, rfl, by omega, hy', by rw [n_inc], fun q hq => by rw [up_k hq, up_k hq]; exact t1 q hq, fun x hx => ?_, n6, fun x hx hm => ?_, by omega, hgr, fun x hx => keep1 x (t7 x hx), fun h4 j hj he => ?_, fun h3 j hj hm => ?_⟩
      · rw [up_i, up_i]
        by_cases e1 : x = S 14 k / 2
        · rw [if_pos e1, e1, upN_eq]; rfl
        · rw [if_neg e1, upN_ne e1]
          by_cases e2 : x = S 13 k / 2
          · rw [if_pos e2, e2, upN_eq]; rfl
          · rw [if_neg e2, upN_ne e2]; exact t2 x hx
      · by_cases e1 : x = S 14 k / 2
        · exact hR x (Or.inr e1)
        · rw [upN_ne e1] at hm
          by_cases e2 : x = S 13 k / 2
          · exact hR x (Or.inl e2)
          · rw [upN_ne e2] at hm; exact t4 x hx hm
      · by_cases e0 : j = k
        · rw [e0]; exact ⟨hl1, hr1⟩
        · have := t8 h4 j (by omega) he
          exact ⟨keep1 _ this.1, keep1 _ this.2⟩
      · obtain ⟨q1, q2, q3⟩ := hst h3
        have same : upN (upN m2 (S 13 k / 2) 1) (S 14 k / 2) 1 = m2 := by
          funext x
          by_cases e1 : x = S 14 k / 2
          · rw [e1, upN_eq, q3]
          · rw [upN_ne e1]
            by_cases e2 : x = S 13 k / 2
            · rw [e2, upN_eq, q2]
            · rw [upN_ne e2]
        by_cases e0 : j = k
        · rw [e0]; exact ⟨hl1, hr1⟩
        · rw [same] at hm ⊢
          exact t9 q1 j (by omega) hm
    unfold wp_Model_hangs_99 wp_Model_hangs_143
    repeat (first | ((with_reducible show ∃ _, _ ∧ _); first | refine s_fI (by rfl) (by rfl) (by rfl) ?_ | refine s_fR (by rfl) (by rfl) (by rfl) ?_ | refine s_pV (by rfl) (by rfl) (Nat.le_of_ble_eq_true rfl) (by rfl) ?_) | ((with_reducible show xcls _ _ _ ∧ _); refine s_cls (by rfl) (by rfl) ?_))
    refine s_aI (i := 300 + k) (by rfl) (by rfl) (by rfl) (by exact n_add 300 k) (by omega) (by decide) ?_
    rw [f116, n_half (by omega)]
    rintro va rfl
    repeat (first | ((with_reducible show ∃ _, _ ∧ _); first | refine s_fI (by rfl) (by rfl) (by rfl) ?_ | refine s_fR (by rfl) (by rfl) (by rfl) ?_ | refine s_pV (by rfl) (by rfl) (Nat.le_of_ble_eq_true rfl) (by rfl) ?_) | ((with_reducible show xcls _ _ _ ∧ _); refine s_cls (by rfl) (by rfl) ?_))
    refine s_aI (i := 300 + k) (by rfl) (by rfl) (by rfl) (by exact n_add 300 k) (by omega) (by decide) ?_
    rw [f117, n_half (by omega)]
    rintro vb rfl
    refine s_aI (i := S 13 k / 2) (by rfl) (by rfl) (by rfl) (by rfl) (by omega) (by decide) ?_
    have ha := t3 (S 13 k / 2)
    have hb := t3 (S 14 k / 2)
    rw [t2 _ (by omega), show (0 : Int32) = Int32.ofNat 0 from rfl, n_eq (by omega) (by decide)]
    refine ⟨fun hz1 => both 1 (by decide) (fun _ => by have := n2 hz1; omega) (fun hh => absurd hh (by decide)), fun hz1 => ?_⟩
    refine s_aI (i := S 14 k / 2) (by rfl) (by rfl) (by rfl) (by rfl) (by omega) (by decide) ?_
    rw [t2 _ (by omega), n_eq (by omega) (by decide)]
    refine ⟨fun hz2 => both y3 hy3 (fun hh => by have := t6 hh; omega) (fun hh => ⟨hh, by omega, by omega⟩), fun hz2 => both 1 (by decide) (fun _ => ?_) (fun hh => absurd hh (by decide))⟩
    by_cases e1 : S 14 k / 2 = S 13 k / 2
    · rw [e1] at hz2; omega
    · have := n5 (by rw [upN_ne e1]; exact hz2)
      omega
  repeat (first | ((with_reducible show ∃ _, _ ∧ _); first | refine s_fI (by rfl) (by rfl) (by rfl) ?_ | refine s_fR (by rfl) (by rfl) (by rfl) ?_ | refine s_pV (by rfl) (by rfl) (Nat.le_of_ble_eq_true rfl) (by rfl) ?_) | ((with_reducible show xcls _ _ _ ∧ _); refine s_cls (by rfl) (by rfl) ?_))
  refine s_aI (i := 300 + k) (by rfl) (by rfl) (by rfl) (by exact n_add 300 k) (by omega) (by decide) ?_
  rw [f115, n_half (by omega), show 2 * S 12 k / 2 = S 12 k by omega]
  rintro v5 rfl
  have hown := t3 (S 12 k)
  have n78 : (S 12 k ≠ v → m2 (S 12 k) = 1) → wp_Model_hangs_78 z Qi cc cc2 (ad e 100) (Int32.ofNat v) (ad e 128) (Int32.ofNat y3) (Int32.ofNat x4) (Int32.ofNat k) (Int32.ofNat (S 12 k)) (mem e w F3 L g) := by
    intro hh
    unfold wp_Model_hangs_78
    rw [n_eq (by omega) (by omega)]
    refine ⟨fun hne => take (Or.inl (hh hne)), fun heq => ⟨fun _ => take (Or.inr heq), fun hx40 => ?_⟩⟩
    have hx41 : x4 ≠ 0 := fun ee => hx40 (by rw [ee]; rfl)
    refine s_aI (i := S 12 k) (by rfl) (by rfl) (by rfl) (by rfl) (by exact v1) (by decide) ?_
    rw [t2 _ v1, show (0 : Int32) = Int32.ofNat 0 from rfl, n_eq (by omega) (by decide)]
    exact ⟨fun _ => take (Or.inr heq), fun hz0 => skip (by omega) (fun ee => absurd ee hx41)⟩
  rw [n_eq (by omega) (by omega)]
  refine ⟨fun heq => n78 (fun hne => absurd heq hne), fun hne => ?_⟩
  refine s_aI (i := S 12 k) (by rfl) (by rfl) (by rfl) (by rfl) (by exact v1) (by decide) ?_
  rw [t2 _ v1, show (0 : Int32) = Int32.ofNat 0 from rfl, n_eq (by omega) (by decide)]
  exact ⟨fun hz0 => skip (by omega) (fun _ => hne), fun hz0 => n78 (fun _ => by omega)⟩
theorem MS.sm0 (h : MS n F0 F S p) (hF : FG S) : SM0 F S := by
  refine ⟨h.size hF.1.1 (by decide : 0 < 5), h.size hF.1.1 (by decide : 4 < 5), fun v hv => h.at (r := 8) (j := v) (by decide) rfl hv (hF.1.2.1 v hv) rfl, fun k hk => ?_⟩
  have hA := hF.1.1.1.2.2.2.2.1
  obtain ⟨a1, a2⟩ := hF.2.1.2.2.2.1 k hk
  obtain ⟨b1, b2, b3, b4, b5, b6, b7, b8⟩ := hF.2.2.2.2.1 k hk
  exact ⟨h.at (r := 12) (j := k) (by decide) rfl (by omega) a1 rfl, h.at (r := 13) (j := k) (by decide) rfl (by omega) b3 rfl, h.at (r := 14) (j := k) (by decide) rfl (by omega) b4 rfl⟩
theorem lyM_126 : ∀ r, r < 100 → r ≠ 11 → 0 < (lyM r).2.2 → (lyM r).1 ≠ 126 := by decide +kernel
theorem lyM_128 : ∀ r, r < 100 → 0 < (lyM r).2.2 → (lyM r).1 ≠ 128 ∧ (lyM r).1 ≠ 100 := by decide +kernel
theorem m_ring (h : MS n F0 F S p) (hF : FG S) (hD : DF S) (hQ : ∀ F', MX n F0 F' (srA S p) → Q (mem e w F' L g)) : wp_Model_findRing z Q (ad e 100) (mem e w F L g) := by
  have hG := GA_of hF hD
  have hS := h.sm0 hF
  have hA := hG.1.2
  have hM := hG.1.1
  unfold wp_Model_findRing
  repeat (first | ((with_reducible show ∃ _, _ ∧ _); first | refine s_fI (by rfl) (by rfl) (by rfl) ?_ | refine s_fR (by rfl) (by rfl) (by rfl) ?_ | refine s_pV (by rfl) (by rfl) (Nat.le_of_ble_eq_true rfl) (by rfl) ?_) | ((with_reducible show xcls _ _ _ ∧ _); refine s_cls (by rfl) (by rfl) ?_))
  refine m_sort hG hS (fun F1 k1 z1 y1 o1 => ?_)
  have hle := (sg2_ODR S (S 0 4)).2
  have hf1 : fM F0 F1 := ⟨fun k hk => by rw [k1 k (by omega) (by omega) (by omega)]; exact h.1.1 k hk, fun k j q1 q2 q3 => by
    have : k ≠ 126 := fun ee => by rw [ee] at q3; exact absurd q3 (Nat.not_lt_zero _)
    rw [k1 k (by omega) this (by omega)]; exact h.1.2.1 k j q1 q2 q3, fun j q1 q2 => by rw [z1 j q2]; exact h.1.2.2 j q1 q2⟩
  unfold srA at hQ
  repeat (first | ((with_reducible show ∃ _, _ ∧ _); first | refine s_fI (by rfl) (by rfl) (by rfl) ?_ | refine s_fR (by rfl) (by rfl) (by rfl) ?_ | refine s_pV (by rfl) (by rfl) (Nat.le_of_ble_eq_true rfl) (by rfl) ?_) | ((with_reducible show xcls _ _ _ ∧ _); refine s_cls (by rfl) (by rfl) ?_))
  refine s_aI (i := 14) (by rfl) (by rfl) (by rfl) (by rfl) (by decide) (by decide) ?_
  rw [y1, k1 110 (by decide) (by decide) (by decide), hS.2.1, n_eq (by omega) (by omega)]
  refine ⟨fun hne => ?_, fun heq => ?_⟩
  rotate_left
  · rw [if_pos heq] at hQ
    refine hQ F1 ⟨hf1, by rw [z1 6 (by decide)]; exact h.2.1, h.2.2.1, by rw [z1 7 (by decide), z1 8 (by decide)]; exact h.2.2.2.1, orS_RE (r0 := 11) (Or.inr ⟨rfl, rfl⟩) rfl (fun r hr hne hz => lyM_126 r hr hne hz) h.2.2.2.2 (fun k hk => ?_) (fun y hy => ?_)⟩
    · by_cases e0 : k = 128 ∨ k = 100
      · refine Or.inl (fun r hr hz => ?_)
        have := lyM_128 r hr hz
        rcases e0 with e0 | e0
        · rw [e0]; exact this.1
        · rw [e0]; exact this.2
      · exact Or.inr (k1 k (by omega) hk (by omega))
    · rw [Nat.zero_add, o1 y (by rw [heq]; exact hy)]; rfl
  rw [if_neg hne] at hQ
  have hlt : (sg2 S (S 0 4)).2 < S 0 4 := by omega
  obtain ⟨v0, hv1, hv2, hv3, hv4, hv5⟩ := Rc_ex hG (sg2_ODR S (S 0 4)).1 hlt (sg2_stuck S hlt)
  unfold wp_Model_findRing_21
  refine xloop_dn (fun m a => (∃ v F2, m = 300 - v ∧ 1 ≤ v ∧ v ≤ v0 ∧ a = (ad e 100, Int32.ofNat v, mem e w F2 L g) ∧ (∀ k, k ≠ 128 → F2 k = F1 k) ∧ ∀ u, u < v → ¬ (S 8 u = 3 ∧ Rc S u u)) ∨ (∃ (x : Int32) (F2 : Nat → Nat → Int32), a = (ad e 100, x, mem e w F2 L g) ∧ EM n F0 F2 6 (lowS S))) ?_ 299 _ (Or.inl ⟨1, F1, rfl, Nat.le_refl _, hv1, rfl, fun _ _ => rfl, fun u hu hh => ?_⟩)
  rotate_left
  · have : u = 0 := by omega
    rw [this, hG.2.2.2.2.1] at hh
    exact absurd hh.1 (by decide)
  rintro m a cc (⟨v, F2, rfl, hv, hvv, rfl, g1, g2⟩ | ⟨x, F2, rfl, hE⟩) hk
  rotate_left
  · unfold wp_Model_findRing_21_b; dsimp only
    repeat (first | ((with_reducible show ∃ _, _ ∧ _); first | refine s_fI (by rfl) (by rfl) (by rfl) ?_ | refine s_fR (by rfl) (by rfl) (by rfl) ?_ | refine s_pV (by rfl) (by rfl) (Nat.le_of_ble_eq_true rfl) (by rfl) ?_) | ((with_reducible show xcls _ _ _ ∧ _); refine s_cls (by rfl) (by rfl) ?_))
    refine s_aI (i := 10) (by rfl) (by rfl) (by rfl) (by rfl) (by decide) (by decide) ?_
    refine ⟨fun _ => hQ F2 hE, fun _ => ?_⟩
    repeat (first | ((with_reducible show ∃ _, _ ∧ _); first | refine s_fI (by rfl) (by rfl) (by rfl) ?_ | refine s_fR (by rfl) (by rfl) (by rfl) ?_ | refine s_pV (by rfl) (by rfl) (Nat.le_of_ble_eq_true rfl) (by rfl) ?_) | ((with_reducible show xcls _ _ _ ∧ _); refine s_cls (by rfl) (by rfl) ?_))
    exact ⟨fun _ => hQ F2 hE, fun hh => absurd hh hE.ne.2⟩
  have hS2 : SM0 F2 S := hS.kept (fun k hk => by rw [g1 k (by omega), k1 k (by omega) (by omega) (by omega)])
  have h100 : ∀ j, j ≠ 29 → F2 100 j = F 100 j := fun j hj => by rw [g1 100 (by decide), z1 j hj]
  unfold wp_Model_findRing_21_b; dsimp only
  repeat (first | ((with_reducible show ∃ _, _ ∧ _); first | refine s_fI (by rfl) (by rfl) (by rfl) ?_ | refine s_fR (by rfl) (by rfl) (by rfl) ?_ | refine s_pV (by rfl) (by rfl) (Nat.le_of_ble_eq_true rfl) (by rfl) ?_) | ((with_reducible show xcls _ _ _ ∧ _); refine s_cls (by rfl) (by rfl) ?_))
  refine s_aI (i := 10) (by rfl) (by rfl) (by rfl) (by rfl) (by decide) (by decide) ?_
  rw [hS2.1]
  refine ⟨fun hc => ?_, fun hc => ?_⟩ <;> rw [n_lt (by omega) (by omega)] at hc
  · omega
  repeat (first | ((with_reducible show ∃ _, _ ∧ _); first | refine s_fI (by rfl) (by rfl) (by rfl) ?_ | refine s_fR (by rfl) (by rfl) (by rfl) ?_ | refine s_pV (by rfl) (by rfl) (Nat.le_of_ble_eq_true rfl) (by rfl) ?_) | ((with_reducible show xcls _ _ _ ∧ _); refine s_cls (by rfl) (by rfl) ?_))
  rw [h100 7 (by decide), h.2.2.2.1.1]
  refine ⟨fun hh => absurd rfl hh, fun _ => ?_⟩
  have next : ∀ F3, (∀ k, k ≠ 128 → F3 k = F1 k) → ¬ (S 8 v = 3 ∧ Rc S v v) → wp_Model_findRing_68 z Q cc (ad e 100) (Int32.ofNat v) (mem e w F3 L g) := by
    intro F3 k3 hno
    unfold wp_Model_findRing_68
    have hne : v ≠ v0 := fun ee => hno (by rw [ee]; exact ⟨hv3, hv5⟩)
    refine hk (300 - (v + 1)) _ (by omega) (Or.inl ⟨v + 1, F3, rfl, by omega, by omega, by rw [n_inc], k3, fun u hu => ?_⟩)
    by_cases e0 : u = v
    · rw [e0]; exact hno
    · exact g2 u (by omega)
  have h83 := hG.2.2.2.2.2.1 v
  repeat (first | ((with_reducible show ∃ _, _ ∧ _); first | refine s_fI (by rfl) (by rfl) (by rfl) ?_ | refine s_fR (by rfl) (by rfl) (by rfl) ?_ | refine s_pV (by rfl) (by rfl) (Nat.le_of_ble_eq_true rfl) (by rfl) ?_) | ((with_reducible show xcls _ _ _ ∧ _); refine s_cls (by rfl) (by rfl) ?_))
  refine s_aI (i := 402 + v) (by rfl) (by rfl) (by rfl) (by exact n_add 402 v) (by omega) (by decide) ?_
  rw [hS2.2.2.1 v (by omega), show (3 : Int32) = Int32.ofNat 3 from rfl, n_eq (by omega) (by decide)]
  refine ⟨fun h3 => next F2 g1 (fun hh => h3 hh.1), fun h3 => ?_⟩
  repeat (first | ((with_reducible show ∃ _, _ ∧ _); first | refine s_fI (by rfl) (by rfl) (by rfl) ?_ | refine s_fR (by rfl) (by rfl) (by rfl) ?_ | refine s_pV (by rfl) (by rfl) (Nat.le_of_ble_eq_true rfl) (by rfl) ?_) | ((with_reducible show xcls _ _ _ ∧ _); refine s_cls (by rfl) (by rfl) ?_))
  refine m_hangs hG hS2 (by omega) (fun hr F3 k3 => ⟨fun hh => absurd hh (by decide), fun _ => ?_⟩) (fun hr F3 k3 => ⟨fun _ => next F3 (fun k hk => by rw [k3 k hk]; exact g1 k hk) (fun hh => hr hh.2), fun hh => absurd rfl hh⟩)
  have hlow := lowS_eq (S := S) (v := v) ⟨⟨h3, hr⟩, g2⟩
  have hf3 : fM F0 F3 := ⟨fun k hk => by rw [k3 k (by omega), g1 k (by omega)]; exact hf1.1 k hk, fun k j q1 q2 q3 => by rw [k3 k (by omega), g1 k (by omega)]; exact hf1.2.1 k j q1 q2 q3, fun j q1 q2 => by rw [k3 100 (by decide), g1 100 (by decide)]; exact hf1.2.2 j q1 q2⟩
  repeat (first | ((with_reducible show ∃ _, _ ∧ _); first | refine s_fI (by rfl) (by rfl) (by rfl) ?_ | refine s_fR (by rfl) (by rfl) (by rfl) ?_ | refine s_pV (by rfl) (by rfl) (Nat.le_of_ble_eq_true rfl) (by rfl) ?_) | ((with_reducible show xcls _ _ _ ∧ _); refine s_cls (by rfl) (by rfl) ?_))
  refine m_wrong hf3 ⟨p, h.2.2.1, by rw [k3 100 (by decide), h100 6 (by decide)]; exact h.2.1⟩ (by rw [k3 100 (by decide), h100 7 (by decide)]; exact h.2.2.2.1.1) (by decide) (fun F4 hE => ?_)
  unfold wp_Model_findRing_68
  rw [← hlow] at hE
  exact hk 0 _ (by omega) (Or.inr ⟨_, F4, rfl, hE⟩)
end
