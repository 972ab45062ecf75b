/-! layOver, build, countGates. -/
section
variable {e : xenv} {F : Nat → Nat → Int32} {L : Nat → Nat → Int64} {g : xh} {z : Nat → Nat} {K : Nat → Nat → Nat → Nat}
theorem v_signalOf {Q : Int32 → xh → Prop} {s l : Nat} (hl : l < 402) (hs : F 193 (l / 2) = Int32.ofNat s) (h : Q (Int32.ofNat (s ^^^ (l % 2))) (mem e true F L g)) : wp_Overlay_signalOf z Q (ad e 190) (Int32.ofNat l) (mem e true F L g) := by
  unfold wp_Overlay_signalOf
  repeat (first | ((with_reducible show ∃ _, _ ∧ _); first | refine s_fI (by rfl) (by rfl) (by rfl) ?_ | refine s_fR (by rfl) (by rfl) (by rfl) ?_ | refine s_pV (by rfl) (by rfl) (Nat.le_of_ble_eq_true rfl) (by rfl) ?_) | ((with_reducible show xcls _ _ _ ∧ _); refine s_cls (by rfl) (by rfl) ?_))
  refine s_aI (i := l / 2) (by rfl) (by rfl) (by rfl) (by rw [show (1 : Int32) = Int32.ofNat 1 from rfl, n_shr (by omega) (by decide), Nat.pow_one]) (by omega) (by decide) ?_
  rw [hs, show (1 : Int32) = Int32.ofNat 1 from rfl, n_and, Nat.and_one_is_mod, n_xor]
  exact h
theorem v_layOver {Q : xh → Prop} {lo hi : Nat → Nat} {n c base : Nat} (hc : c < 2) (hw : WF (K c)) (hK : KC (20 * c) F (K c)) (hG : GT F lo hi n) (hn : n + K c 0 4 ≤ 300) (hb : base < 100)
    (h : ∀ F', (∀ k, k < 190 ∨ 193 < k → F' k = F k) → GT F' (gC (K c) base lo hi n).2.1 (gC (K c) base lo hi n).2.2.1 (gC (K c) base lo hi n).2.2.2 → Q (mem e true F' L g)) : wp_Overlay_layOver z Q (ad e 190) (ad e (20 * c)) (Int32.ofNat base) (mem e true F L g) := by
  have hM := hw.1
  have hbq := b_of hc
  unfold wp_Overlay_layOver
  repeat (first | ((with_reducible show ∃ _, _ ∧ _); first | refine s_fI (by rfl) (by rfl) (by rfl) ?_ | refine s_fR (by rfl) (by rfl) (by rfl) ?_ | refine s_pV (by rfl) (by rfl) (Nat.le_of_ble_eq_true rfl) (by rfl) ?_) | ((with_reducible show xcls _ _ _ ∧ _); refine s_cls (by rfl) (by rfl) ?_))
  refine s_sI (i := 0) (by rfl) (by rfl) (by rfl) (by rfl) (by rfl) (by decide) (by decide) ?_
  unfold wp_Overlay_layOver_9
  refine xloop_dn (fun m a => ∃ (k : Nat) (F' : Nat → Nat → Int32), m = K c 0 1 - k ∧ k ≤ K c 0 1 ∧ a = (ad e 190, ad e (20 * c), Int32.ofNat base, Int32.ofNat k, mem e true F' L g) ∧ (∀ q, q ≠ 193 → F' q = F q) ∧ (∀ v, v = 0 ∨ (∃ k', k' < k ∧ K c 1 k' = v) → F' 193 v = Int32.ofNat (zI (K c) k v))) ?_ (K c 0 1) _ ⟨0, _, rfl, Nat.zero_le _, rfl, fun q hq => up_k hq, fun v hv => ?_⟩
  rotate_left
  · rcases hv with hv | ⟨k', hk', _⟩
    · rw [up_i, if_pos hv]; rfl
    · omega
  rintro m a cc ⟨k, F', rfl, hk1, rfl, p1, p2⟩ hk
  unfold wp_Overlay_layOver_9_b; dsimp only
  have hK' : KC (20 * c) F' (K c) := KC.kept (fun q q1 q2 => p1 q (by omega)) hK
  refine c_fI hbq (by decide) ?_
  rw [show F' (20 * c) 2 = Int32.ofNat (K c 0 1) from hK'.1 1 (by decide)]
  refine ⟨fun hc => ?_, fun hc => ?_⟩ <;> rw [n_le (by omega) (by omega)] at hc
  rotate_left
  · repeat (first | ((with_reducible show ∃ _, _ ∧ _); first | refine s_fI (by rfl) (by rfl) (by rfl) ?_ | refine s_fR (by rfl) (by rfl) (by rfl) ?_ | refine s_pV (by rfl) (by rfl) (Nat.le_of_ble_eq_true rfl) (by rfl) ?_) | ((with_reducible show xcls _ _ _ ∧ _); refine s_cls (by rfl) (by rfl) ?_))
    refine c_fR (j := 4) hbq (by decide) ?_
    refine c_aI (j := 4) hbq (by decide) (show k < 5 by omega) ?_
    rw [hK'.2.2.2.1 k (by omega)]
    have hv1 := hw.var (v := K c 1 k) (by have := hw.2.2.1.1 k (by omega); omega)
    refine s_sI (i := K c 1 k) (by rfl) (by rfl) (by rfl) (by rfl) (by rfl) (by omega) (by decide) ?_
    rw [show (2 : Int32) * (1 + Int32.ofNat k) = Int32.ofNat (2 * (1 + k)) by rw [show (1 : Int32) = Int32.ofNat 1 from rfl, n_add, n_lit, n_mul]]
    refine hk (K c 0 1 - (k + 1)) _ (by omega) ⟨k + 1, _, rfl, by omega, by rw [n_lit, n_add], fun q hq => by rw [up_k hq, p1 q hq], fun v hv => ?_⟩
    show _ = Int32.ofNat (upN _ _ _ v)
    rw [up_i, upN]
    by_cases e0 : v = K c 1 k
    · rw [if_pos e0, if_pos e0]
    · rw [if_neg e0, if_neg e0]
      refine p2 v ?_
      rcases hv with hv | ⟨k', h1, h2⟩
      · exact Or.inl hv
      · exact Or.inr ⟨k', by rcases Nat.lt_succ_iff_lt_or_eq.mp h1 with h3 | h3; exact h3; subst h3; exact absurd h2.symm e0, h2⟩
  have : k = K c 0 1 := by omega
  subst this
  clear hk
  unfold wp_Overlay_layOver_41
  refine xloop_dn (fun m a => ∃ (k : Nat) (F2 : Nat → Nat → Int32), m = K c 0 2 - k ∧ k ≤ K c 0 2 ∧ a = (ad e 190, ad e (20 * c), Int32.ofNat base, Int32.ofNat k, mem e true F2 L g) ∧ (∀ q, q ≠ 193 → F2 q = F q) ∧ (∀ v, v = 0 ∨ (∃ k', k' < K c 0 1 ∧ K c 1 k' = v) ∨ (∃ k', k' < k ∧ K c 2 k' = v) → F2 193 v = Int32.ofNat (zL (K c) base (zI (K c) (K c 0 1)) k v))) ?_ (K c 0 2) _ ⟨0, F', rfl, Nat.zero_le _, rfl, p1, fun v hv => p2 v (by rcases hv with hv | hv | ⟨k', hk', _⟩; exact Or.inl hv; exact Or.inr hv; omega)⟩
  rintro m a cc ⟨k, F2, rfl, hk1, rfl, r1, r2⟩ hk
  unfold wp_Overlay_layOver_41_b; dsimp only
  have hK2 : KC (20 * c) F2 (K c) := KC.kept (fun q q1 q2 => r1 q (by omega)) hK
  refine c_fI hbq (by decide) ?_
  rw [show F2 (20 * c) 3 = Int32.ofNat (K c 0 2) from hK2.1 2 (by decide)]
  refine ⟨fun hc => ?_, fun hc => ?_⟩ <;> rw [n_le (by omega) (by omega)] at hc
  rotate_left
  · repeat (first | ((with_reducible show ∃ _, _ ∧ _); first | refine s_fI (by rfl) (by rfl) (by rfl) ?_ | refine s_fR (by rfl) (by rfl) (by rfl) ?_ | refine s_pV (by rfl) (by rfl) (Nat.le_of_ble_eq_true rfl) (by rfl) ?_) | ((with_reducible show xcls _ _ _ ∧ _); refine s_cls (by rfl) (by rfl) ?_))
    refine c_fR (j := 5) hbq (by decide) ?_
    refine c_aI (j := 5) hbq (by decide) (show k < 6 by omega) ?_
    rw [(hK2.2.2.2.2.1 k (by omega)).1]
    have hv1 := hw.var (v := K c 2 k) (by have := hw.2.2.1.2.1 k (by omega); omega)
    refine s_sI (i := K c 2 k) (by rfl) (by rfl) (by rfl) (by rfl) (by rfl) (by omega) (by decide) ?_
    rw [show (2 : Int32) * (Int32.ofNat base + Int32.ofNat k) = Int32.ofNat (2 * (base + k)) by rw [n_add, n_lit, n_mul]]
    refine hk (K c 0 2 - (k + 1)) _ (by omega) ⟨k + 1, _, rfl, by omega, by rw [n_lit, n_add], fun q hq => by rw [up_k hq, r1 q hq], fun v hv => ?_⟩
    show _ = Int32.ofNat (upN _ _ _ v)
    rw [up_i, upN]
    by_cases e0 : v = K c 2 k
    · rw [if_pos e0, if_pos e0]
    · rw [if_neg e0, if_neg e0]
      refine r2 v ?_
      rcases hv with hv | hv | ⟨k', h1, h2⟩
      · exact Or.inl hv
      · exact Or.inr (Or.inl hv)
      · exact Or.inr (Or.inr ⟨k', by rcases Nat.lt_succ_iff_lt_or_eq.mp h1 with h3 | h3; exact h3; subst h3; exact absurd h2.symm e0, h2⟩)
  have : k = K c 0 2 := by omega
  subst this
  clear hk
  have hS : ∀ v, zL (K c) base (zI (K c) (K c 0 1)) (K c 0 2) v < 4096 := zL_lt (zI_lt (K c) _ (by omega)) hb _ (by omega)
  generalize hSg : zL (K c) base (zI (K c) (K c 0 1)) (K c 0 2) = S at *
  unfold wp_Overlay_layOver_73
  refine xloop_dn (fun m a => ∃ (y : Nat) (F3 : Nat → Nat → Int32), m = K c 0 4 - y ∧ y ≤ K c 0 4 ∧ a = (ad e 190, ad e (20 * c), Int32.ofNat y, mem e true F3 L g) ∧ (∀ q, q < 190 ∨ 193 < q → F3 q = F q) ∧ GT F3 (gA (K c) S lo hi n y).2.1 (gA (K c) S lo hi n y).2.2.1 (gA (K c) S lo hi n y).2.2.2 ∧ (∀ v, asg (K c) y v → F3 193 v = Int32.ofNat ((gA (K c) S lo hi n y).1 v))) ?_ (K c 0 4) _ ⟨0, F2, rfl, Nat.zero_le _, rfl, fun q hq => r1 q (by omega), ?_, fun v hv => r2 v (by rcases hv with hv | hv | hv | ⟨y', hy', _⟩; exact Or.inl hv; exact Or.inr (Or.inl hv); exact Or.inr (Or.inr hv); omega)⟩
  rotate_left
  · show GT F2 lo hi n
    unfold GT
    rw [r1 190 (by decide), r1 191 (by decide), r1 192 (by decide)]
    exact hG
  rintro m a cc ⟨y, F3, rfl, hy1, rfl, u1, u2, u3⟩ hk
  unfold wp_Overlay_layOver_73_b; dsimp only
  have hK3 : KC (20 * c) F3 (K c) := KC.kept (fun q q1 q2 => u1 q (by omega)) hK
  refine c_fI hbq (by decide) ?_
  rw [show F3 (20 * c) 5 = Int32.ofNat (K c 0 4) from hK3.1 4 (by decide)]
  refine ⟨fun hc => ?_, fun hc => ?_⟩ <;> rw [n_le (by omega) (by omega)] at hc
  · have : y = K c 0 4 := by omega
    subst this
    refine h F3 u1 ?_
    unfold gC
    rw [hSg]
    exact u2
  have hy : y < K c 0 4 := by omega
  have hv1 := hw.var (v := K c 5 y) (by have := hw.2.2.1.2.2 y hy; omega)
  have hd := hw.2.2.2.2.1.2.2 y hy
  have hd1 := hw.lit hd.1
  have hd2 := hw.lit hd.2
  have hcnt := gA_cnt (K c) S lo hi n y
  have hsm := gA_lt (C := K c) (lo := lo) (hi := hi) (n := n) hS y (by omega)
  refine c_fR (j := 8) hbq (by decide) ?_
  refine c_aI (j := 8) hbq (by decide) (show y < 150 by omega) ?_
  rw [(hK3.2.2.1 y hy).1]
  repeat (first | ((with_reducible show ∃ _, _ ∧ _); first | refine s_fI (by rfl) (by rfl) (by rfl) ?_ | refine s_fR (by rfl) (by rfl) (by rfl) ?_ | refine s_pV (by rfl) (by rfl) (Nat.le_of_ble_eq_true rfl) (by rfl) ?_) | ((with_reducible show xcls _ _ _ ∧ _); refine s_cls (by rfl) (by rfl) ?_))
  refine c_fR (j := 2) hbq (by decide) ?_
  refine c_aI (j := 2) hbq (by decide) (show K c 5 y < 201 by omega) ?_
  rw [(hK3.2.2.1 y hy).2.1]
  repeat (first | ((with_reducible show ∃ _, _ ∧ _); first | refine s_fI (by rfl) (by rfl) (by rfl) ?_ | refine s_fR (by rfl) (by rfl) (by rfl) ?_ | refine s_pV (by rfl) (by rfl) (Nat.le_of_ble_eq_true rfl) (by rfl) ?_) | ((with_reducible show xcls _ _ _ ∧ _); refine s_cls (by rfl) (by rfl) ?_))
  refine v_signalOf (by omega) (u3 _ (hw.asg hy (Or.inl rfl))) ?_
  refine c_fR (j := 3) hbq (by decide) ?_
  refine c_aI (j := 3) hbq (by decide) (show K c 5 y < 201 by omega) ?_
  rw [(hK3.2.2.1 y hy).2.2]
  repeat (first | ((with_reducible show ∃ _, _ ∧ _); first | refine s_fI (by rfl) (by rfl) (by rfl) ?_ | refine s_fR (by rfl) (by rfl) (by rfl) ?_ | refine s_pV (by rfl) (by rfl) (Nat.le_of_ble_eq_true rfl) (by rfl) ?_) | ((with_reducible show xcls _ _ _ ∧ _); refine s_cls (by rfl) (by rfl) ?_))
  refine v_signalOf (by omega) (u3 _ (hw.asg hy (Or.inr rfl))) ?_
  repeat (first | ((with_reducible show ∃ _, _ ∧ _); first | refine s_fI (by rfl) (by rfl) (by rfl) ?_ | refine s_fR (by rfl) (by rfl) (by rfl) ?_ | refine s_pV (by rfl) (by rfl) (Nat.le_of_ble_eq_true rfl) (by rfl) ?_) | ((with_reducible show xcls _ _ _ ∧ _); refine s_cls (by rfl) (by rfl) ?_))
  refine v_join u2 (by omega) (xor_lt (hsm _) (Nat.mod_lt _ (by decide))) (xor_lt (hsm _) (Nat.mod_lt _ (by decide))) (fun F4 w1 w2 => ?_)
  refine s_sI (i := K c 5 y) (by rfl) (by rfl) (by rfl) (by rfl) (by rfl) (by omega) (by decide) ?_
  refine hk (K c 0 4 - (y + 1)) _ (by omega) ⟨y + 1, _, rfl, by omega, by rw [n_lit, n_add], fun q hq => by rw [up_k (by omega), w1 q (by omega) (by omega) (by omega)]; exact u1 q hq, ?_, fun v hv => ?_⟩
  · unfold GT
    rw [up_k (by decide), up_k (by decide), up_k (by decide)]
    exact w2
  · show _ = Int32.ofNat (upN _ _ _ v)
    rw [up_i, upN]
    by_cases e0 : v = K c 5 y
    · rw [if_pos e0, if_pos e0]; rfl
    · rw [if_neg e0, if_neg e0, w1 193 (by decide) (by decide) (by decide)]
      refine u3 v ?_
      rcases hv with hv | hv | hv | ⟨y', h1, h2⟩
      · exact Or.inl hv
      · exact Or.inr (Or.inl hv)
      · exact Or.inr (Or.inr (Or.inl hv))
      · exact Or.inr (Or.inr (Or.inr ⟨y', by rcases Nat.lt_succ_iff_lt_or_eq.mp h1 with h3 | h3; exact h3; subst h3; exact absurd h2.symm e0, h2⟩))
theorem v_build {Q : xh → Prop} (hM : MK K) (hK : ∀ c, c < 2 → KC (20 * c) F (K c)) (h : ∀ F', (∀ k, k < 190 ∨ 193 < k → F' k = F k) → F' 190 3 = Int32.ofNat (gN K) → Q (mem e true F' L g)) : wp_Overlay_build z Q (ad e 190) (ad e 75) (mem e true F L g) := by
  have h0 := hM.1.1
  have h1 := hM.2.1.1
  unfold wp_Overlay_build
  repeat (first | ((with_reducible show ∃ _, _ ∧ _); first | refine s_fI (by rfl) (by rfl) (by rfl) ?_ | refine s_fR (by rfl) (by rfl) (by rfl) ?_ | refine s_pV (by rfl) (by rfl) (Nat.le_of_ble_eq_true rfl) (by rfl) ?_) | ((with_reducible show xcls _ _ _ ∧ _); refine s_cls (by rfl) (by rfl) ?_))
  unfold wp_Overlay_build_7
  refine ⟨3, ?_⟩
  show wp_Overlay_build_7_b z Q _ _ _ _ _
  unfold wp_Overlay_build_7_b
  refine ⟨fun hh => absurd hh (show ¬ (2 : Int32) ≤ 0 by decide), fun _ => ?_⟩
  refine cs_aR (c := 0) (by decide) ?_
  repeat (first | ((with_reducible show ∃ _, _ ∧ _); first | refine s_fI (by rfl) (by rfl) (by rfl) ?_ | refine s_fR (by rfl) (by rfl) (by rfl) ?_ | refine s_pV (by rfl) (by rfl) (Nat.le_of_ble_eq_true rfl) (by rfl) ?_) | ((with_reducible show xcls _ _ _ ∧ _); refine s_cls (by rfl) (by rfl) ?_))
  have c0 : (gg0 K).2.2.2 ≤ 150 := by
    have := gA_cnt (K 0) (zL (K 0) 6 (zI (K 0) (K 0 0 1)) (K 0 0 2)) (fun _ => 0) (fun _ => 0) 0 (K 0 0 4)
    show (gA _ _ _ _ _ _).2.2.2 ≤ 150
    omega
  refine v_layOver (K := K) (c := 0) (base := 6) (lo := fun _ => 0) (hi := fun _ => 0) (n := 0) (by decide) hM.1 (KC.kept (fun k q1 q2 => up_k (by omega)) (hK 0 (by decide))) ⟨by rw [up_i, if_pos rfl]; rfl, fun k hk => by omega, fun k hk => by omega⟩ (by omega) (by decide) (fun F1 k1 t1 => ?_)
  show wp_Overlay_build_7_b z Q _ _ _ _ _
  unfold wp_Overlay_build_7_b
  refine ⟨fun hh => absurd hh (show ¬ (2 : Int32) ≤ 0 + 1 by decide), fun _ => ?_⟩
  refine cs_aR (c := 1) (by decide) ?_
  repeat (first | ((with_reducible show ∃ _, _ ∧ _); first | refine s_fI (by rfl) (by rfl) (by rfl) ?_ | refine s_fR (by rfl) (by rfl) (by rfl) ?_ | refine s_pV (by rfl) (by rfl) (Nat.le_of_ble_eq_true rfl) (by rfl) ?_) | ((with_reducible show xcls _ _ _ ∧ _); refine s_cls (by rfl) (by rfl) ?_))
  refine v_layOver (K := K) (c := 1) (base := 12) (lo := (gg0 K).2.1) (hi := (gg0 K).2.2.1) (n := (gg0 K).2.2.2) (by decide) hM.2.1 (KC.kept (fun k q1 q2 => by rw [k1 k (by omega), up_k (by omega)]) (hK 1 (by decide))) t1 (by omega) (by decide) (fun F2 k2 t2 => ?_)
  show wp_Overlay_build_7_b z Q _ _ _ _ _
  unfold wp_Overlay_build_7_b
  refine ⟨fun _ => ?_, fun hh => absurd (show (2 : Int32) ≤ 0 + 1 + 1 by decide) hh⟩
  exact h F2 (fun k hk => by rw [k2 k hk, k1 k hk, up_k (by omega)]) t2.1
theorem v_countGates {Q : Int32 → xh → Prop} (hM : MK K) (hK : ∀ c, c < 2 → KC (20 * c) F (K c)) (hS : F 160 9 = 0 ∨ F 160 9 = 1 ∧ F 190 3 = Int32.ofNat (gN K))
    (h : ∀ F', (∀ k, k < 160 ∨ 160 < k ∧ k < 190 ∨ 193 < k → F' k = F k) → (∀ j, j ≠ 9 → F' 160 j = F 160 j) → F' 160 9 = 1 → F' 190 3 = Int32.ofNat (gN K) → Q (Int32.ofNat (gN K)) (mem e true F' L g)) : wp_Works_countGates z Q (ad e 160) (mem e true F L g) := by
  unfold wp_Works_countGates wp_Works_countGates_23
  repeat (first | ((with_reducible show ∃ _, _ ∧ _); first | refine s_fI (by rfl) (by rfl) (by rfl) ?_ | refine s_fR (by rfl) (by rfl) (by rfl) ?_ | refine s_pV (by rfl) (by rfl) (Nat.le_of_ble_eq_true rfl) (by rfl) ?_) | ((with_reducible show xcls _ _ _ ∧ _); refine s_cls (by rfl) (by rfl) ?_))
  rcases hS with h9 | ⟨h9, hN⟩
  · rw [h9]
    refine ⟨fun hh => absurd rfl hh, fun _ => ?_⟩
    repeat (first | ((with_reducible show ∃ _, _ ∧ _); first | refine s_fI (by rfl) (by rfl) (by rfl) ?_ | refine s_fR (by rfl) (by rfl) (by rfl) ?_ | refine s_pV (by rfl) (by rfl) (Nat.le_of_ble_eq_true rfl) (by rfl) ?_) | ((with_reducible show xcls _ _ _ ∧ _); refine s_cls (by rfl) (by rfl) ?_))
    refine v_build hM hK (fun F1 k1 t1 => ?_)
    repeat (first | ((with_reducible show ∃ _, _ ∧ _); first | refine s_fI (by rfl) (by rfl) (by rfl) ?_ | refine s_fR (by rfl) (by rfl) (by rfl) ?_ | refine s_pV (by rfl) (by rfl) (Nat.le_of_ble_eq_true rfl) (by rfl) ?_) | ((with_reducible show xcls _ _ _ ∧ _); refine s_cls (by rfl) (by rfl) ?_))
    rw [up_k (by decide), t1]
    exact h _ (fun k hk => by rw [up_k (by omega)]; exact k1 k (by omega)) (fun j hj => by rw [up_i, if_neg hj, k1 160 (by decide)]) (by rw [up_i, if_pos rfl]) (by rw [up_k (by decide)]; exact t1)
  · rw [h9]
    refine ⟨fun _ => ?_, fun hh => absurd hh (by decide)⟩
    repeat (first | ((with_reducible show ∃ _, _ ∧ _); first | refine s_fI (by rfl) (by rfl) (by rfl) ?_ | refine s_fR (by rfl) (by rfl) (by rfl) ?_ | refine s_pV (by rfl) (by rfl) (Nat.le_of_ble_eq_true rfl) (by rfl) ?_) | ((with_reducible show xcls _ _ _ ∧ _); refine s_cls (by rfl) (by rfl) ?_))
    rw [hN]
    exact h F (fun _ _ => rfl) (fun _ _ => rfl) h9 hN
end
