/-! The reference: inductive. -/
section
variable {e : xenv} {w : Bool} {F : Nat → Nat → Int32} {L : Nat → Nat → Int64} {g : xh} {z : Nat → Nat} {D : Nat → Option (Nat → Nat → Nat)}
theorem Model_any {K : Nat → Nat → Nat → Nat} (hM : MK K) (k : Nat) : (∃ m, m < pN K ∧ lay K k (um K m)) ↔ ∃ p, lay K k p := by
  constructor
  · rintro ⟨m, _, h⟩; exact ⟨_, h⟩
  · rintro ⟨p, h⟩; exact ⟨md K p, md_lt h.1, by rw [um_md h.1]; exact h⟩
theorem v_Model_inductive {Q : Int32 → xh → Prop} {x : Int32} (hR : RM F D) (hW : WD D) (hS : SM F L D)
    (h0 : ¬ mt D → ∀ F' L', eM F L D F' L' → F' 100 0 = 1 → Q 0 (mem e w F' L' g))
    (h2 : mt D → (∀ k, x = Int32.ofNat k → ¬ k ≤ 8) → ∀ F' L', eM F L D F' L' → F' 100 0 = 2 → Q 0 (mem e w F' L' g))
    (h1 : ∀ k, mt D → x = Int32.ofNat k → k ≤ 8 → ∀ F' L' y, eM F L D F' L' → F' 100 0 = 0 → (indK (kd D) k → y = 1) → (¬ indK (kd D) k → y = 0) → Q y (mem e w F' L' g)) : wp_Model_inductive z Q (ad e 100) x (mem e w F L g) := by
  unfold wp_Model_inductive wp_Model_inductive_18 wp_Model_inductive_23
  repeat (first | ((with_reducible show ∃ _, _ ∧ _); first | refine s_fI (by rfl) (by rfl) (by rfl) ?_ | refine s_fR (by rfl) (by rfl) (by rfl) ?_ | refine s_pV (by rfl) (by rfl) (Nat.le_of_ble_eq_true rfl) (by rfl) ?_) | ((with_reducible show xcls _ _ _ ∧ _); refine s_cls (by rfl) (by rfl) ?_))
  refine v_none hR hW hS (fun hno F' f1 f2 f3 => ?_) (fun hm F' L' f1 f2 f3 f4 f5 => ?_)
  · exact ⟨fun _ => h0 hno F' L ⟨f1, fun _ _ => rfl, f2⟩ f3, fun hh => absurd hh (by decide)⟩
  have hE : eM F L D F' L' := ⟨f1, f2, Or.inr ⟨hm, f4, f5⟩⟩
  have hp := f5.1
  have hM := hm.MK hW
  have hpn := pN_le hM
  have hWn := Wn_le hM
  have hT := f5.2.1
  refine ⟨fun hh => absurd rfl hh, fun _ => ⟨fun hx => ?_, fun hx => ?_⟩⟩
  · repeat (first | ((with_reducible show ∃ _, _ ∧ _); first | refine s_fI (by rfl) (by rfl) (by rfl) ?_ | refine s_fR (by rfl) (by rfl) (by rfl) ?_ | refine s_pV (by rfl) (by rfl) (Nat.le_of_ble_eq_true rfl) (by rfl) ?_) | ((with_reducible show xcls _ _ _ ∧ _); refine s_cls (by rfl) (by rfl) ?_))
    exact v_fails1 f3 (by decide) ⟨fun hh => absurd hh (by decide), fun _ => h2 hm (fun k hk hk8 => absurd (hk ▸ hx) (n_pos k (by omega))) _ _ hE.bad (by rw [up_i, if_pos rfl])⟩
  obtain ⟨kk, hkk, rfl⟩ := nat_of hx
  refine ⟨fun hc => ?_, fun hc => ?_⟩ <;> rw [n_lit, n_le hkk (by decide)] at hc
  rotate_left
  · repeat (first | ((with_reducible show ∃ _, _ ∧ _); first | refine s_fI (by rfl) (by rfl) (by rfl) ?_ | refine s_fR (by rfl) (by rfl) (by rfl) ?_ | refine s_pV (by rfl) (by rfl) (Nat.le_of_ble_eq_true rfl) (by rfl) ?_) | ((with_reducible show xcls _ _ _ ∧ _); refine s_cls (by rfl) (by rfl) ?_))
    exact v_fails1 f3 (by decide) ⟨fun hh => absurd hh (by decide), fun _ => h2 hm (fun k hk hk8 => by have := n_inj (by omega) (by omega) hk; exact hc (by show kk ≤ 8; omega)) _ _ hE.bad (by rw [up_i, if_pos rfl])⟩
  have hk8 : kk ≤ 8 := hc
  repeat (first | ((with_reducible show ∃ _, _ ∧ _); first | refine s_fI (by rfl) (by rfl) (by rfl) ?_ | refine s_fR (by rfl) (by rfl) (by rfl) ?_ | refine s_pV (by rfl) (by rfl) (Nat.le_of_ble_eq_true rfl) (by rfl) ?_) | ((with_reducible show xcls _ _ _ ∧ _); refine s_cls (by rfl) (by rfl) ?_))
  refine v_fails0 f3 ⟨fun _ => ?_, fun hh => absurd rfl hh⟩
  have hfin := h1 kk hm rfl hk8
  generalize hK : kd D = K at *
  have keepE : ∀ F2 : Nat → Nat → Int32, (∀ k, k ≠ 143 → k ≠ 144 → F2 k = F' k) → eM F L D F2 L' ∧ MT F2 L' K ∧ F2 100 0 = 0 := fun F2 hk => by
    refine ⟨⟨fS.row f1 (fun k h => hk k (by omega) (by omega)), f2, Or.inr ⟨hm, by rw [hk 100 (by decide) (by decide)]; exact f4, ?_⟩⟩, MT.kept (by rw [hk 100 (by decide) (by decide)]) (by rw [hk 100 (by decide) (by decide)]) (hk 135 (by decide) (by decide)) rfl hT, by rw [hk 100 (by decide) (by decide)]; exact f3⟩
    rw [hK]
    exact MF.kept (fun j _ _ => by rw [hk 100 (by decide) (by decide)]) (fun k q1 q2 => hk k (by omega) (by omega)) rfl f5
  have lay0 : ∀ m, m < pN K → (lay K 0 (um K m) ↔ tls K (um K m)) := fun m hm => ⟨fun h => h.2, fun h => ⟨(um_pr hM hm).1, h⟩⟩
  -- the first layer
  unfold wp_Model_inductive_36
  refine xloop_dn (fun mm a => ∃ m y F2, mm = pN K - m ∧ m ≤ pN K ∧ a = (ad e 100, Int32.ofNat kk, y, Int32.ofNat m, mem e w F2 L' g) ∧ (∀ k, k ≠ 143 → k ≠ 144 → F2 k = F' k) ∧ (∀ i, i < m → (lay K 0 (um K i) → F2 143 i = 1) ∧ (¬ lay K 0 (um K i) → F2 143 i = 0)) ∧ ((∃ i, i < m ∧ lay K 0 (um K i)) → y = 1) ∧ ((¬ ∃ i, i < m ∧ lay K 0 (um K i)) → y = 0)) ?_ (pN K) _ ⟨0, 0, F', rfl, Nat.zero_le _, rfl, fun _ _ _ => rfl, fun i hi => by omega, fun ⟨i, hi, _⟩ => by omega, fun _ => rfl⟩
  rintro mm a cc ⟨m, y, F2, rfl, hm1, rfl, r1, r2, r3, r4⟩ hk
  unfold wp_Model_inductive_36_b; dsimp only
  obtain ⟨hE2, hT2, _⟩ := keepE F2 r1
  repeat (first | ((with_reducible show ∃ _, _ ∧ _); first | refine s_fI (by rfl) (by rfl) (by rfl) ?_ | refine s_fR (by rfl) (by rfl) (by rfl) ?_ | refine s_pV (by rfl) (by rfl) (Nat.le_of_ble_eq_true rfl) (by rfl) ?_) | ((with_reducible show xcls _ _ _ ∧ _); refine s_cls (by rfl) (by rfl) ?_))
  rw [hT2.2.1]
  refine ⟨fun hc => ?_, fun hc => ?_⟩ <;> rw [n_le (by omega) (by omega)] at hc
  rotate_left
  · have hml : m < pN K := by omega
    obtain ⟨hpr, _, _, u3⟩ := um_pr hM hml
    have tell : ∀ b : Bool, (b = true ↔ lay K 0 (um K m)) → wp_Model_inductive_65 z Q cc (ad e 100) (Int32.ofNat kk) y (Int32.ofNat m) (Int32.ofNat b.toNat) (Int32.ofNat m) (ad e 143) (mem e w F2 L' g) := by
      intro b hb
      unfold wp_Model_inductive_65
      rw [nar01]
      refine s_sI (i := m) (by rfl) (by rfl) (by rfl) (by rfl) (by rfl) (by omega) (by decide) ?_
      have nxt : ∀ y', ((∃ i, i < m + 1 ∧ lay K 0 (um K i)) → y' = 1) → ((¬ ∃ i, i < m + 1 ∧ lay K 0 (um K i)) → y' = 0) → wp_Model_inductive_84 z Q cc (ad e 100) (Int32.ofNat kk) (Int32.ofNat m) y' (mem e w (up F2 143 m (Int32.ofNat b.toNat)) L' g) := by
        intro y' h1 h0
        unfold wp_Model_inductive_84
        refine hk (pN K - (m + 1)) _ (by omega) ⟨m + 1, y', _, rfl, by omega, by rw [n_lit, n_add], fun k q1 q2 => by rw [up_k q1]; exact r1 k q1 q2, fun i hi => ?_, h1, h0⟩
        rw [up_i]
        by_cases e0 : i = m
        · rw [if_pos e0, e0]
          refine ⟨fun hl => by rw [hb.mpr hl]; rfl, fun hl => ?_⟩
          have : b = false := by
            cases hbb : b
            · rfl
            · exact absurd (hb.mp hbb) hl
          rw [this]; rfl
        · rw [if_neg e0]; exact r2 i (by omega)
      unfold wp_Model_inductive_79
      refine ⟨fun hy => ?_, fun hy => ?_⟩
      · have hex : ∃ i, i < m ∧ lay K 0 (um K i) := Classical.byContradiction (fun hn => hy (r4 hn))
        obtain ⟨i, hi, hl⟩ := hex
        exact nxt 1 (fun _ => rfl) (fun hn => absurd ⟨i, by omega, hl⟩ hn)
      · have hnone : ¬ ∃ i, i < m ∧ lay K 0 (um K i) := fun hh => by rw [r3 hh] at hy; exact absurd hy (by decide)
        repeat (first | ((with_reducible show ∃ _, _ ∧ _); first | refine s_fI (by rfl) (by rfl) (by rfl) ?_ | refine s_fR (by rfl) (by rfl) (by rfl) ?_ | refine s_pV (by rfl) (by rfl) (Nat.le_of_ble_eq_true rfl) (by rfl) ?_) | ((with_reducible show xcls _ _ _ ∧ _); refine s_cls (by rfl) (by rfl) ?_))
        refine s_aI (i := m) (by rfl) (by rfl) (by rfl) (by rfl) (by omega) (by decide) ?_
        rw [up_i, if_pos rfl]
        generalize hbx : Int32.ofNat b.toNat = bx at nxt ⊢
        cases hbb : b <;> rw [hbb] at hbx <;> subst hbx
        · refine ⟨fun _ => nxt 0 (fun ⟨i, hi, hl⟩ => ?_) (fun _ => rfl), fun hh => absurd rfl hh⟩
          by_cases e0 : i = m
          · rw [e0] at hl; have := hb.mpr hl; rw [hbb] at this; cases this
          · exact absurd ⟨i, by omega, hl⟩ hnone
        · refine ⟨fun hh => absurd hh (by decide), fun _ => nxt 1 (fun _ => rfl) (fun hn => absurd ⟨m, by omega, hb.mp hbb⟩ hn)⟩
    repeat (first | ((with_reducible show ∃ _, _ ∧ _); first | refine s_fI (by rfl) (by rfl) (by rfl) ?_ | refine s_fR (by rfl) (by rfl) (by rfl) ?_ | refine s_pV (by rfl) (by rfl) (Nat.le_of_ble_eq_true rfl) (by rfl) ?_) | ((with_reducible show xcls _ _ _ ∧ _); refine s_cls (by rfl) (by rfl) ?_))
    refine s_aL (i := m) (by rfl) (by rfl) (by rfl) (by rfl) (by omega) (by decide) ?_
    have htl := hT2.tells hM hpr
    rw [u3] at htl
    rw [cmp0, htl]
    refine ⟨fun hno => tell false ⟨fun h => (by cases h), fun h => absurd ((lay0 m hml).mp h) hno⟩, fun hno => tell true ⟨fun _ => (lay0 m hml).mpr (Classical.not_not.mp hno), fun _ => rfl⟩⟩
  clear hk
  have : m = pN K := by omega
  subst this
  -- further layers
  have done : ∀ (j : Nat) (y : Int32) (F3 : Nat → Nat → Int32), (∀ k, k ≠ 143 → k ≠ 144 → F3 k = F' k) → (indK K kk ↔ indK K j) → ((∃ i, i < pN K ∧ lay K j (um K i)) → y = 1) → ((¬ ∃ i, i < pN K ∧ lay K j (um K i)) → y = 0) → wp_Model_inductive_266 z Q y (mem e w F3 L' g) := by
    intro j y F3 s1 s2 s3 s4
    unfold wp_Model_inductive_266
    obtain ⟨hE3, hT3, h30⟩ := keepE F3 s1
    by_cases hex : ∃ p, lay K j p
    · have hn : ¬ indK K kk := fun hi => by obtain ⟨p, hp⟩ := hex; exact (s2.mp hi) p hp
      rw [s3 ((Model_any hM j).mpr hex)]
      exact ⟨fun _ => hfin F3 L' 0 hE3 h30 (fun hi => absurd hi hn) (fun _ => rfl), fun hh => absurd hh (by decide)⟩
    · have hi : indK K kk := s2.mpr (fun p hp => hex ⟨p, hp⟩)
      rw [s4 (fun hh => hex ((Model_any hM j).mp hh))]
      exact ⟨fun hh => absurd rfl hh, fun _ => hfin F3 L' 1 hE3 h30 (fun _ => rfl) (fun hn => absurd hi hn)⟩
  unfold wp_Model_inductive_93
  refine xloop_dn (fun mm a => ∃ j y F3, mm = kk - j ∧ j ≤ kk ∧ a = (ad e 100, Int32.ofNat kk, y, Int32.ofNat j, mem e w F3 L' g) ∧ (∀ k, k ≠ 143 → k ≠ 144 → F3 k = F' k) ∧ (∀ i, i < pN K → (lay K j (um K i) → F3 143 i = 1) ∧ (¬ lay K j (um K i) → F3 143 i = 0)) ∧ ((∃ i, i < pN K ∧ lay K j (um K i)) → y = 1) ∧ ((¬ ∃ i, i < pN K ∧ lay K j (um K i)) → y = 0)) ?_ kk _ ⟨0, y, F2, rfl, Nat.zero_le _, rfl, r1, r2, r3, r4⟩
  rintro mm a cc ⟨j, y, F3, rfl, hj, rfl, s1, s2, s3, s4⟩ hk
  unfold wp_Model_inductive_93_b; dsimp only
  refine ⟨fun hc => ?_, fun hc => ?_⟩ <;> rw [n_le (by omega) (by omega)] at hc
  · have : j = kk := by omega
    subst this
    exact done j y F3 s1 Iff.rfl s3 s4
  refine ⟨fun hy => ?_, fun hy => ?_⟩
  · have hnone : ¬ ∃ i, i < pN K ∧ lay K j (um K i) := fun hh => by rw [s3 hh] at hy; exact absurd hy (by decide)
    have hj0 : indK K j := fun p hp => hnone ((Model_any hM j).mpr ⟨p, hp⟩)
    refine done j y F3 s1 ⟨fun _ => hj0, fun _ p hp => ?_⟩ s3 s4
    obtain ⟨p', hp'⟩ := lay_down hM (by omega : j ≤ kk) ⟨p, hp⟩
    exact hj0 p' hp'
  clear s3 s4 hy
  unfold wp_Model_inductive_107
  refine xloop_dn (fun mm a => ∃ m y F4, mm = pN K - m ∧ m ≤ pN K ∧ a = (ad e 100, Int32.ofNat kk, y, Int32.ofNat j, Int32.ofNat m, mem e w F4 L' g) ∧ (∀ k, k ≠ 143 → k ≠ 144 → F4 k = F' k) ∧ F4 143 = F3 143 ∧ (∀ i, i < m → (lay K (j + 1) (um K i) → F4 144 i = 1) ∧ (¬ lay K (j + 1) (um K i) → F4 144 i = 0)) ∧ ((∃ i, i < m ∧ lay K (j + 1) (um K i)) → y = 1) ∧ ((¬ ∃ i, i < m ∧ lay K (j + 1) (um K i)) → y = 0)) ?_ (pN K) _ ⟨0, 0, F3, rfl, Nat.zero_le _, rfl, s1, rfl, fun i hi => by omega, fun ⟨i, hi, _⟩ => by omega, fun _ => rfl⟩
  rintro mm a cc2 ⟨m, y2, F4, rfl, hm1, rfl, t1, t2, t3, t4, t5⟩ hk2
  unfold wp_Model_inductive_107_b; dsimp only
  obtain ⟨hE4, hT4, _⟩ := keepE F4 t1
  repeat (first | ((with_reducible show ∃ _, _ ∧ _); first | refine s_fI (by rfl) (by rfl) (by rfl) ?_ | refine s_fR (by rfl) (by rfl) (by rfl) ?_ | refine s_pV (by rfl) (by rfl) (Nat.le_of_ble_eq_true rfl) (by rfl) ?_) | ((with_reducible show xcls _ _ _ ∧ _); refine s_cls (by rfl) (by rfl) ?_))
  rw [hT4.2.1]
  refine ⟨fun hc => ?_, fun hc => ?_⟩ <;> rw [n_le (by omega) (by omega)] at hc
  · -- more becomes some
    have : m = pN K := by omega
    subst this
    clear hk2
    unfold wp_Model_inductive_231
    refine xloop_dn (fun mm a => ∃ m F5, mm = pN K - m ∧ m ≤ pN K ∧ a = (ad e 100, Int32.ofNat kk, y2, Int32.ofNat j, Int32.ofNat m, mem e w F5 L' g) ∧ (∀ k, k ≠ 143 → F5 k = F4 k) ∧ (∀ i, i < m → F5 143 i = F4 144 i)) ?_ (pN K) _ ⟨0, F4, rfl, Nat.zero_le _, rfl, fun _ _ => rfl, fun i hi => by omega⟩
    rintro mm a cc3 ⟨m, F5, rfl, hm2, rfl, v1, v2⟩ hk3
    unfold wp_Model_inductive_231_b; dsimp only
    repeat (first | ((with_reducible show ∃ _, _ ∧ _); first | refine s_fI (by rfl) (by rfl) (by rfl) ?_ | refine s_fR (by rfl) (by rfl) (by rfl) ?_ | refine s_pV (by rfl) (by rfl) (Nat.le_of_ble_eq_true rfl) (by rfl) ?_) | ((with_reducible show xcls _ _ _ ∧ _); refine s_cls (by rfl) (by rfl) ?_))
    rw [v1 100 (by decide), hT4.2.1]
    refine ⟨fun hc => ?_, fun hc => ?_⟩ <;> rw [n_le (by omega) (by omega)] at hc
    · have : m = pN K := by omega
      subst this
      refine hk (kk - (j + 1)) _ (by omega) ⟨j + 1, y2, F5, rfl, by omega, by rw [n_lit, n_add], fun k q1 q2 => by rw [v1 k q1]; exact t1 k q1 q2, fun i hi => by rw [v2 i hi]; exact t3 i hi, t4, t5⟩
    · repeat (first | ((with_reducible show ∃ _, _ ∧ _); first | refine s_fI (by rfl) (by rfl) (by rfl) ?_ | refine s_fR (by rfl) (by rfl) (by rfl) ?_ | refine s_pV (by rfl) (by rfl) (Nat.le_of_ble_eq_true rfl) (by rfl) ?_) | ((with_reducible show xcls _ _ _ ∧ _); refine s_cls (by rfl) (by rfl) ?_))
      refine s_aI (i := m) (by rfl) (by rfl) (by rfl) (by rfl) (by omega) (by decide) ?_
      rw [v1 144 (by decide)]
      have hv : vp_nar .boolean (F4 144 m) = F4 144 m := by
        by_cases hl : lay K (j + 1) (um K m)
        · rw [(t3 m (by omega)).1 hl]; rfl
        · rw [(t3 m (by omega)).2 hl]; rfl
      rw [hv]
      refine s_sI (i := m) (by rfl) (by rfl) (by rfl) (by rfl) (by rfl) (by omega) (by decide) ?_
      refine hk3 (pN K - (m + 1)) _ (by omega) ⟨m + 1, _, rfl, by omega, by rw [n_lit, n_add], fun k hk => by rw [up_k hk]; exact v1 k hk, fun i hi => ?_⟩
      rw [up_i]
      by_cases e0 : i = m
      · rw [if_pos e0, e0]
      · rw [if_neg e0]; exact v2 i (by omega)
  have hml : m < pN K := by omega
  obtain ⟨hpr, _, _, u3⟩ := um_pr hM hml
  have hls := lay_succ hM j (um K m)
  repeat (first | ((with_reducible show ∃ _, _ ∧ _); first | refine s_fI (by rfl) (by rfl) (by rfl) ?_ | refine s_fR (by rfl) (by rfl) (by rfl) ?_ | refine s_pV (by rfl) (by rfl) (Nat.le_of_ble_eq_true rfl) (by rfl) ?_) | ((with_reducible show xcls _ _ _ ∧ _); refine s_cls (by rfl) (by rfl) ?_))
  refine s_sI (i := m) (by rfl) (by rfl) (by rfl) (by rfl) (by rfl) (by omega) (by decide) ?_
  -- one pair is through
  have thru : ∀ (b : Bool) (F5 : Nat → Nat → Int32), (∀ k, k ≠ 144 → F5 k = F4 k) → (∀ i, i ≠ m → F5 144 i = F4 144 i) → F5 144 m = Int32.ofNat b.toNat → (b = true ↔ lay K (j + 1) (um K m)) → wp_Model_inductive_202 z Q cc cc2 (ad e 100) (Int32.ofNat kk) y2 (Int32.ofNat j) (Int32.ofNat m) (mem e w F5 L' g) := by
    intro b F5 v1 v2 v3 hb
    have nxt : ∀ y', ((∃ i, i < m + 1 ∧ lay K (j + 1) (um K i)) → y' = 1) → ((¬ ∃ i, i < m + 1 ∧ lay K (j + 1) (um K i)) → y' = 0) → wp_Model_inductive_221 z Q cc cc2 (ad e 100) (Int32.ofNat kk) (Int32.ofNat j) (Int32.ofNat m) y' (mem e w F5 L' g) := by
      intro y' h1 h0
      unfold wp_Model_inductive_221
      refine hk2 (pN K - (m + 1)) _ (by omega) ⟨m + 1, y', F5, rfl, by omega, by rw [n_lit, n_add], fun k q1 q2 => by rw [v1 k q2]; exact t1 k q1 q2, by rw [v1 143 (by decide)]; exact t2, fun i hi => ?_, h1, h0⟩
      by_cases e0 : i = m
      · rw [e0, v3]
        refine ⟨fun hl => by rw [hb.mpr hl]; rfl, fun hl => ?_⟩
        have : b = false := by
          cases hbb : b
          · rfl
          · exact absurd (hb.mp hbb) hl
        rw [this]; rfl
      · rw [v2 i e0]; exact t3 i (by omega)
    unfold wp_Model_inductive_202 wp_Model_inductive_216
    refine ⟨fun hy => ?_, fun hy => ?_⟩
    · have hex : ∃ i, i < m ∧ lay K (j + 1) (um K i) := Classical.byContradiction (fun hn => hy (t5 hn))
      obtain ⟨i, hi, hl⟩ := hex
      exact nxt 1 (fun _ => rfl) (fun hn => absurd ⟨i, by omega, hl⟩ hn)
    · have hnone : ¬ ∃ i, i < m ∧ lay K (j + 1) (um K i) := fun hh => by rw [t4 hh] at hy; exact absurd hy (by decide)
      repeat (first | ((with_reducible show ∃ _, _ ∧ _); first | refine s_fI (by rfl) (by rfl) (by rfl) ?_ | refine s_fR (by rfl) (by rfl) (by rfl) ?_ | refine s_pV (by rfl) (by rfl) (Nat.le_of_ble_eq_true rfl) (by rfl) ?_) | ((with_reducible show xcls _ _ _ ∧ _); refine s_cls (by rfl) (by rfl) ?_))
      refine s_aI (i := m) (by rfl) (by rfl) (by rfl) (by rfl) (by omega) (by decide) ?_
      rw [v3]
      cases hbb : b
      · refine ⟨fun _ => nxt 0 (fun ⟨i, hi, hl⟩ => ?_) (fun _ => rfl), fun hh => absurd rfl hh⟩
        by_cases e0 : i = m
        · rw [e0] at hl; have := hb.mpr hl; rw [hbb] at this; cases this
        · exact absurd ⟨i, by omega, hl⟩ hnone
      · refine ⟨fun hh => absurd hh (by decide), fun _ => nxt 1 (fun _ => rfl) (fun hn => absurd ⟨m, by omega, hb.mp hbb⟩ hn)⟩
  unfold wp_Model_inductive_127
  refine xloop_dn (fun mm a => ∃ xx b F5, mm = Wn K - xx ∧ xx ≤ Wn K ∧ a = (ad e 100, Int32.ofNat kk, y2, Int32.ofNat j, Int32.ofNat m, Int32.ofNat xx, mem e w F5 L' g) ∧ (∀ k, k ≠ 144 → F5 k = F4 k) ∧ (∀ i, i ≠ m → F5 144 i = F4 144 i) ∧ F5 144 m = Int32.ofNat (Bool.toNat b) ∧ (b = true ↔ ∃ x', x' < xx ∧ Tp K (um K m) x' = false ∧ lay K j (Nx K (um K m) x'))) ?_ (Wn K) _ ⟨0, false, _, rfl, Nat.zero_le _, rfl, fun k hk => up_k hk, fun i hi => by rw [up_i, if_neg hi], by rw [up_i, if_pos rfl]; rfl, ⟨fun h => (by cases h), fun ⟨x', hx', _⟩ => by omega⟩⟩
  rintro mm a cc3 ⟨xx, b, F5, rfl, hxx, rfl, v1, v2, v3, v4⟩ hk3
  unfold wp_Model_inductive_127_b; dsimp only
  repeat (first | ((with_reducible show ∃ _, _ ∧ _); first | refine s_fI (by rfl) (by rfl) (by rfl) ?_ | refine s_fR (by rfl) (by rfl) (by rfl) ?_ | refine s_pV (by rfl) (by rfl) (Nat.le_of_ble_eq_true rfl) (by rfl) ?_) | ((with_reducible show xcls _ _ _ ∧ _); refine s_cls (by rfl) (by rfl) ?_))
  rw [v1 100 (by decide), hT4.1]
  refine ⟨fun hc => ?_, fun hc => ?_⟩ <;> rw [n_le (by omega) (by omega)] at hc
  · have : xx = Wn K := by omega
    subst this
    refine thru b F5 v1 v2 v3 ?_
    rw [v4, hls]
    exact ⟨fun hh => ⟨hpr, hh⟩, fun hh => hh.2⟩
  have hxW : xx < Wn K := by omega
  repeat (first | ((with_reducible show ∃ _, _ ∧ _); first | refine s_fI (by rfl) (by rfl) (by rfl) ?_ | refine s_fR (by rfl) (by rfl) (by rfl) ?_ | refine s_pV (by rfl) (by rfl) (Nat.le_of_ble_eq_true rfl) (by rfl) ?_) | ((with_reducible show xcls _ _ _ ∧ _); refine s_cls (by rfl) (by rfl) ?_))
  refine s_aI (i := m) (by rfl) (by rfl) (by rfl) (by rfl) (by omega) (by decide) ?_
  rw [v3]
  refine ⟨fun hb => ?_, fun hb => ?_⟩
  · have hb : b = true := by
      cases hbb : b
      · rw [hbb] at hb; exact absurd rfl hb
      · rfl
    refine thru b F5 v1 v2 v3 ⟨fun _ => ?_, fun _ => hb⟩
    obtain ⟨x', hx', hh⟩ := v4.mp hb
    exact hls.mpr ⟨hpr, x', by omega, hh⟩
  have hbf : b = false := by
    cases hbb : b
    · rfl
    · rw [hbb] at hb; exact absurd hb (by decide)
  have hnone : ¬ ∃ x', x' < xx ∧ Tp K (um K m) x' = false ∧ lay K j (Nx K (um K m) x') := fun hh => by have := v4.mpr hh; rw [hbf] at this; cases this
  have put : ∀ b' : Bool, (b' = true ↔ Tp K (um K m) xx = false ∧ lay K j (Nx K (um K m) xx)) → wp_Model_inductive_195 z Q cc cc2 cc3 (ad e 100) (Int32.ofNat kk) y2 (Int32.ofNat j) (Int32.ofNat m) (Int32.ofNat xx) (Int32.ofNat b'.toNat) (Int32.ofNat m) (ad e 144) (mem e w F5 L' g) := by
    intro b' hb'
    unfold wp_Model_inductive_195
    rw [nar01]
    refine s_sI (i := m) (by rfl) (by rfl) (by rfl) (by rfl) (by rfl) (by omega) (by decide) ?_
    refine hk3 (Wn K - (xx + 1)) _ (by omega) ⟨xx + 1, b', _, rfl, by omega, by rw [n_lit, n_add], fun k hk => by rw [up_k hk]; exact v1 k hk, fun i hi => by rw [up_i, if_neg hi]; exact v2 i hi, by rw [up_i, if_pos rfl], ?_⟩
    rw [hb']
    constructor
    · intro hh; exact ⟨xx, by omega, hh⟩
    · rintro ⟨x', hx', hh⟩
      by_cases e0 : x' = xx
      · rw [e0] at hh; exact hh
      · exact absurd ⟨x', by omega, hh⟩ hnone
  have hbit : bl (L' 134 m) xx = Tp K (um K m) xx := by
    have := hT4.2.2.1 _ hpr xx (by omega)
    rw [u3] at this
    rw [this]; simp [hxW]
  repeat (first | ((with_reducible show ∃ _, _ ∧ _); first | refine s_fI (by rfl) (by rfl) (by rfl) ?_ | refine s_fR (by rfl) (by rfl) (by rfl) ?_ | refine s_pV (by rfl) (by rfl) (Nat.le_of_ble_eq_true rfl) (by rfl) ?_) | ((with_reducible show xcls _ _ _ ∧ _); refine s_cls (by rfl) (by rfl) ?_))
  refine s_aL (i := m) (by rfl) (by rfl) (by rfl) (by rfl) (by omega) (by decide) ?_
  rw [cmp_bit _ (by omega), hbit]
  unfold wp_Model_inductive_194
  refine ⟨fun ht => put false ⟨fun h => (by cases h), fun hh => absurd hh.1 ht⟩, fun ht => ?_⟩
  have hnp := Nx_pr hM (um K m) xx
  have hnm := md_lt hnp
  repeat (first | ((with_reducible show ∃ _, _ ∧ _); first | refine s_fI (by rfl) (by rfl) (by rfl) ?_ | refine s_fR (by rfl) (by rfl) (by rfl) ?_ | refine s_pV (by rfl) (by rfl) (Nat.le_of_ble_eq_true rfl) (by rfl) ?_) | ((with_reducible show xcls _ _ _ ∧ _); refine s_cls (by rfl) (by rfl) ?_))
  refine s_aI (i := 32 * m + xx) (by rfl) (by rfl) (by rfl) (by rw [n_lit, n_mul, n_add]) (by omega) (by decide) ?_
  have hld := hT4.2.2.2 _ xx hpr hxW
  rw [u3] at hld
  rw [v1 135 (by decide), hld]
  refine s_aI (i := md K (Nx K (um K m) xx)) (by rfl) (by rfl) (by rfl) (by rfl) (by omega) (by decide) ?_
  rw [v1 143 (by decide), t2]
  have hs2 := s2 _ hnm
  rw [um_md hnp] at hs2
  by_cases hl : lay K j (Nx K (um K m) xx)
  · rw [hs2.1 hl]
    exact ⟨fun hh => absurd hh (by decide), fun _ => put true ⟨fun _ => ⟨ht, hl⟩, fun _ => rfl⟩⟩
  · rw [hs2.2 hl]
    exact ⟨fun _ => put false ⟨fun h => (by cases h), fun hh => absurd hh.2 hl⟩, fun hh => absurd rfl hh⟩
end
