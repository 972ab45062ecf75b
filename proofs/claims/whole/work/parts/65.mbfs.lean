/-! The reference's walk over the pairs. -/
theorem n_inc (x : Nat) : Int32.ofNat x + 1 = Int32.ofNat (x + 1) := n_add x 1
theorem cmp0 (v : Int64) : lg_cmp v 0 = 0 ↔ v = 0 := by
  unfold lg_cmp
  by_cases h1 : v > 0
  · rw [if_pos h1]
    exact ⟨fun h => absurd h (by decide), fun h => by subst h; exact absurd h1 (by decide)⟩
  · rw [if_neg h1]
    by_cases h2 : v = 0
    · rw [if_pos h2]; exact ⟨fun _ => h2, fun _ => rfl⟩
    · rw [if_neg h2]; exact ⟨fun h => absurd h (by decide), fun h => absurd h h2⟩
theorem MT.tells {F : Nat → Nat → Int32} {L : Nat → Nat → Int64} {K : Nat → Nat → Nat → Nat} (hM : MK K) (h : MT F L K) {p : Nat} (hp : isPr K p) : L 134 (md K p) = 0 ↔ ¬ tls K p := by
  have hWn := Wn_le hM
  constructor
  · rintro h0 ⟨x, hx, ht⟩
    have := h.2.2.1 p hp x (by omega)
    rw [h0, bl_zero, ht] at this
    simp [hx] at this
  · intro hno
    apply bl_ext
    intro i hi
    rw [h.2.2.1 p hp i hi, bl_zero]
    by_cases hx : i < Wn K
    · cases ht : Tp K p i
      · rfl
      · exact absurd ⟨i, hx, ht⟩ hno
    · simp [hx]
/-- the reference's walk holds step t -/
def MB (F : Nat → Nat → Int32) (K : Nat → Nat → Nat → Nat) (t : Nat) : Prop :=
  F 100 38 = Int32.ofNat (bn (Nx K) (Wn K) t) ∧ (∀ i, i < bn (Nx K) (Wn K) t → F 136 i = Int32.ofNat (md K (bq (Nx K) (Wn K) t i))) ∧ (∀ p, isPr K p → F 137 (md K p) = Int32.ofNat (bd (Nx K) (Wn K) t p))
def MLn (F : Nat → Nat → Int32) (K : Nat → Nat → Nat → Nat) (t i : Nat) : Prop :=
  (F 100 41 = 0 ∧ ∀ j, j < i → ¬ tls K (bq (Nx K) (Wn K) t j)) ∨ ∃ f, f < i ∧ (∀ j, j < f → ¬ tls K (bq (Nx K) (Wn K) t j)) ∧ tls K (bq (Nx K) (Wn K) t f) ∧ F 100 41 = Int32.ofNat (bd (Nx K) (Wn K) t (bq (Nx K) (Wn K) t f))
theorem MLn.on {F F' : Nat → Nat → Int32} {K : Nat → Nat → Nat → Nat} (hM : MK K) {t u i : Nat} (htu : t ≤ u) (hi : i ≤ bn (Nx K) (Wn K) t) (hF : F' 100 41 = F 100 41) (h : MLn F K t i) : MLn F' K u i := by
  unfold MLn
  rw [hF]
  have hq : ∀ j, j < i → bq (Nx K) (Wn K) u j = bq (Nx K) (Wn K) t j := fun j hj => bq_keep (Nx K) (Wn K) htu (by omega)
  rcases h with ⟨h1, h2⟩ | ⟨f, hf, h1, h2, h3⟩
  · exact Or.inl ⟨h1, fun j hj => by rw [hq j hj]; exact h2 j hj⟩
  · refine Or.inr ⟨f, hf, fun j hj => by rw [hq j (by omega)]; exact h1 j hj, by rw [hq f hf]; exact h2, ?_⟩
    rw [hq f hf, h3, bd_keep (Nx K) (Wn K) htu ((b_inv (Nx K) (Wn K) (Nx_lt hM) t).2.1 f (by omega)).1]
section
variable {e : xenv} {w : Bool} {F : Nat → Nat → Int32} {L : Nat → Nat → Int64} {g : xh} {z : Nat → Nat} {K : Nat → Nat → Nat → Nat}
theorem MT.kept {F' : Nat → Nat → Int32} {L' : Nat → Nat → Int64} (h39 : F' 100 39 = F 100 39) (h40 : F' 100 40 = F 100 40) (h135 : F' 135 = F 135) (hL : L' 134 = L 134) (h : MT F L K) : MT F' L' K := by
  unfold MT
  rw [h39, h40, h135, hL]
  exact h
theorem v_mbfs {Q : xh → Prop} (hM : MK K) (hT : MT F L K) (h0 : ∀ m, m < pN K → F 137 m = 0)
    (h : ∀ F' t, (∀ k, k ≠ 100 → k ≠ 136 → k ≠ 137 → F' k = F k) → (∀ j, j ≠ 38 → j ≠ 41 → F' 100 j = F 100 j) → bn (Nx K) (Wn K) t * Wn K = t → MB F' K t → MLn F' K t (bn (Nx K) (Wn K) t) → (F' 100 41 ≤ 0 → Q (mem e w F' L g)) ∧ (¬ F' 100 41 ≤ 0 → wp_Model_find z (fun h3 => Q h3) (ad e 100) (mem e w F' L g))) :
    ∃ h2, pV (mem e w F L g) (ad e 100) 12 38 (.int 1) = some h2 ∧ (∃ o3, fR h2 (ad e 100) 12 36 = some o3 ∧ (∃ h4, sI h2 o3 0 0 0 = some h4 ∧ (∃ o5, fR h4 (ad e 100) 12 37 = some o5 ∧ (∃ h6, sI h4 o5 0 0 1 = some h6 ∧ (∃ h7, pV h6 (ad e 100) 12 41 (.int 0) = some h7 ∧ wp_Model_look_190 z Q (ad e 100) 0 h7))))) := by
  have hWn := Wn_le hM
  have hN := Nx_lt hM
  have hpn := pN_le hM
  repeat (first | ((with_reducible show ∃ _, _ ∧ _); first | refine s_fI (by rfl) (by rfl) (by rfl) ?_ | refine s_fR (by rfl) (by rfl) (by rfl) ?_ | refine s_pV (by rfl) (by rfl) (Nat.le_of_ble_eq_true rfl) (by rfl) ?_) | ((with_reducible show xcls _ _ _ ∧ _); refine s_cls (by rfl) (by rfl) ?_))
  refine s_sI (i := 0) (by rfl) (by rfl) (by rfl) (by rfl) (by rfl) (by decide) (by decide) ?_
  repeat (first | ((with_reducible show ∃ _, _ ∧ _); first | refine s_fI (by rfl) (by rfl) (by rfl) ?_ | refine s_fR (by rfl) (by rfl) (by rfl) ?_ | refine s_pV (by rfl) (by rfl) (Nat.le_of_ble_eq_true rfl) (by rfl) ?_) | ((with_reducible show xcls _ _ _ ∧ _); refine s_cls (by rfl) (by rfl) ?_))
  refine s_sI (i := 0) (by rfl) (by rfl) (by rfl) (by rfl) (by rfl) (by decide) (by decide) ?_
  repeat (first | ((with_reducible show ∃ _, _ ∧ _); first | refine s_fI (by rfl) (by rfl) (by rfl) ?_ | refine s_fR (by rfl) (by rfl) (by rfl) ?_ | refine s_pV (by rfl) (by rfl) (Nat.le_of_ble_eq_true rfl) (by rfl) ?_) | ((with_reducible show xcls _ _ _ ∧ _); refine s_cls (by rfl) (by rfl) ?_))
  generalize hF0 : up (up (up (up F 100 38 1) 136 0 0) 137 0 1) 100 41 0 = F0
  have k0 : ∀ k, k ≠ 100 → k ≠ 136 → k ≠ 137 → F0 k = F k := fun k q1 q2 q3 => by rw [← hF0, up_k q1, up_k q3, up_k q2, up_k q1]
  have z0 : ∀ j, F0 100 j = if j = 41 then 0 else if j = 38 then 1 else F 100 j := fun j => by rw [← hF0, up_i, up_k (by decide), up_k (by decide), up_i]
  have q0 : F0 136 0 = 0 := by rw [← hF0, up_k (by decide), up_k (by decide), up_i, if_pos rfl]
  have d0 : ∀ m, F0 137 m = if m = 0 then 1 else F 137 m := fun m => by rw [← hF0, up_k (by decide), up_i, up_k (by decide), up_k (by decide)]
  have pr0 : isPr K 0 := ⟨by rw [Nat.zero_div]; exact Nat.two_pow_pos _, by rw [Nat.zero_mod]; exact Nat.two_pow_pos _⟩
  have md0 : md K 0 = 0 := by unfold md; simp
  unfold wp_Model_look_190
  refine xloop_dn (fun m a => ∃ i F', m = 4096 - i ∧ i ≤ bn (Nx K) (Wn K) (i * Wn K) ∧ a = (ad e 100, Int32.ofNat i, mem e w F' L g) ∧ (∀ k, k ≠ 100 → k ≠ 136 → k ≠ 137 → F' k = F k) ∧ (∀ j, j ≠ 38 → j ≠ 41 → F' 100 j = F 100 j) ∧ MB F' K (i * Wn K) ∧ MLn F' K (i * Wn K) i) ?_ 4096 _ ⟨0, F0, rfl, Nat.zero_le _, rfl, k0, fun j q1 q2 => by rw [z0, if_neg q2, if_neg q1], ?_, ?_⟩
  rotate_left
  · rw [Nat.zero_mul]
    refine ⟨?_, fun i hi => ?_, fun p hp => ?_⟩
    · rw [z0]; rfl
    · have hi : i < 1 := hi
      rw [show i = 0 by omega, q0]
      show (0 : Int32) = Int32.ofNat (md K 0)
      rw [md0]; rfl
    · rw [d0]
      show _ = Int32.ofNat (if p = 0 then 1 else 0)
      by_cases hp0 : p = 0
      · subst hp0; rw [md0, if_pos rfl, if_pos rfl]; rfl
      · have : md K p ≠ 0 := fun ee => hp0 (md_inj hp pr0 (by rw [ee, md0]))
        rw [if_neg this, if_neg hp0, h0 _ (md_lt hp)]; rfl
  · exact Or.inl ⟨by rw [z0]; rfl, fun j hj => by omega⟩
  rintro m a cc ⟨i, F', rfl, hi1, rfl, g1, g2, g3, g4⟩ hk
  have hn4 := bn_le (Nx K) (Wn K) hN (i * Wn K)
  unfold wp_Model_look_190_b; dsimp only
  repeat (first | ((with_reducible show ∃ _, _ ∧ _); first | refine s_fI (by rfl) (by rfl) (by rfl) ?_ | refine s_fR (by rfl) (by rfl) (by rfl) ?_ | refine s_pV (by rfl) (by rfl) (Nat.le_of_ble_eq_true rfl) (by rfl) ?_) | ((with_reducible show xcls _ _ _ ∧ _); refine s_cls (by rfl) (by rfl) ?_))
  rw [g3.1]
  refine ⟨fun hc => ?_, fun hc => ?_⟩ <;> rw [n_le (by omega) (by omega)] at hc
  · have : i = bn (Nx K) (Wn K) (i * Wn K) := by omega
    obtain ⟨y1, y2⟩ := h F' (i * Wn K) g1 g2 (by rw [← this]) g3 (by rw [← this]; exact g4)
    repeat (first | ((with_reducible show ∃ _, _ ∧ _); first | refine s_fI (by rfl) (by rfl) (by rfl) ?_ | refine s_fR (by rfl) (by rfl) (by rfl) ?_ | refine s_pV (by rfl) (by rfl) (Nat.le_of_ble_eq_true rfl) (by rfl) ?_) | ((with_reducible show xcls _ _ _ ∧ _); refine s_cls (by rfl) (by rfl) ?_))
    refine ⟨y1, fun hh => ?_⟩
    repeat (first | ((with_reducible show ∃ _, _ ∧ _); first | refine s_fI (by rfl) (by rfl) (by rfl) ?_ | refine s_fR (by rfl) (by rfl) (by rfl) ?_ | refine s_pV (by rfl) (by rfl) (Nat.le_of_ble_eq_true rfl) (by rfl) ?_) | ((with_reducible show xcls _ _ _ ∧ _); refine s_cls (by rfl) (by rfl) ?_))
    exact y2 hh
  have hin : i < bn (Nx K) (Wn K) (i * Wn K) := by omega
  have hpr := bq_pr hM (i * Wn K) hin
  have hmd := md_lt hpr
  have key : ∀ F2, (∀ k, k ≠ 100 → k ≠ 136 → k ≠ 137 → F2 k = F k) → (∀ j, j ≠ 38 → j ≠ 41 → F2 100 j = F 100 j) → MB F2 K (i * Wn K) → MLn F2 K (i * Wn K) (i + 1) → wp_Model_look_233 z Q cc (ad e 100) (Int32.ofNat i) (Int32.ofNat (md K (bq (Nx K) (Wn K) (i * Wn K) i))) (mem e w F2 L g) := by
    intro F2 p1 p2 p3 p4
    unfold wp_Model_look_233 wp_Model_look_235
    refine xloop_dn (fun m a => ∃ x F3, m = Wn K - x ∧ x ≤ Wn K ∧ a = (ad e 100, Int32.ofNat i, Int32.ofNat (md K (bq (Nx K) (Wn K) (i * Wn K) i)), Int32.ofNat x, mem e w F3 L g) ∧ (∀ k, k ≠ 100 → k ≠ 136 → k ≠ 137 → F3 k = F k) ∧ (∀ j, j ≠ 38 → j ≠ 41 → F3 100 j = F 100 j) ∧ MB F3 K (i * Wn K + x) ∧ MLn F3 K (i * Wn K + x) (i + 1)) ?_ (Wn K) _ ⟨0, F2, rfl, Nat.zero_le _, rfl, p1, p2, p3, p4⟩
    rintro m a cc2 ⟨x, F3, rfl, hx1, rfl, r1, r2, r3, r4⟩ hk2
    unfold wp_Model_look_235_b; dsimp only
    repeat (first | ((with_reducible show ∃ _, _ ∧ _); first | refine s_fI (by rfl) (by rfl) (by rfl) ?_ | refine s_fR (by rfl) (by rfl) (by rfl) ?_ | refine s_pV (by rfl) (by rfl) (Nat.le_of_ble_eq_true rfl) (by rfl) ?_) | ((with_reducible show xcls _ _ _ ∧ _); refine s_cls (by rfl) (by rfl) ?_))
    rw [r2 39 (by decide) (by decide), hT.1]
    refine ⟨fun hc => ?_, fun hc => ?_⟩ <;> rw [n_le (by omega) (by omega)] at hc
    · have : x = Wn K := by omega
      subst this
      have hee : i * Wn K + Wn K = (i + 1) * Wn K := by rw [Nat.succ_mul]
      rw [hee] at r3 r4
      have hstep : i * Wn K ≤ (i + 1) * Wn K := Nat.mul_le_mul_right _ (by omega)
      exact hk (4096 - (i + 1)) _ (by omega) ⟨i + 1, F3, rfl, Nat.le_trans hin (bn_mono (Nx K) (Wn K) hstep), by rw [n_lit, n_add], r1, r2, r3, r4⟩
    have hxW : x < Wn K := by omega
    generalize hu : i * Wn K + x = u at r3 r4
    obtain ⟨d1, d2⟩ := dm (i := i) hxW
    rw [hu] at d1 d2
    have hiu : i < bn (Nx K) (Wn K) u := Nat.lt_of_lt_of_le hin (bn_mono (Nx K) (Wn K) (by omega))
    have hqi : bq (Nx K) (Wn K) (i * Wn K) i = bq (Nx K) (Wn K) u i := (bq_keep (Nx K) (Wn K) (by omega) hin).symm
    have hpru := bq_pr hM u hiu
    have hto : bto (Nx K) (Wn K) u = Nx K (bq (Nx K) (Wn K) u i) x := by unfold bto; rw [d1, d2]
    have htp : isPr K (bto (Nx K) (Wn K) u) := by rw [hto]; exact Nx_pr hM _ _
    have htm := md_lt htp
    have inv := b_inv (Nx K) (Wn K) hN u
    have hmdu := md_lt hpru
    rw [hqi]
    repeat (first | ((with_reducible show ∃ _, _ ∧ _); first | refine s_fI (by rfl) (by rfl) (by rfl) ?_ | refine s_fR (by rfl) (by rfl) (by rfl) ?_ | refine s_pV (by rfl) (by rfl) (Nat.le_of_ble_eq_true rfl) (by rfl) ?_) | ((with_reducible show xcls _ _ _ ∧ _); refine s_cls (by rfl) (by rfl) ?_))
    refine s_aI (i := 32 * md K (bq (Nx K) (Wn K) u i) + x) (by rfl) (by rfl) (by rfl) (by rw [n_lit, n_mul, n_add]) (by omega) (by decide) ?_
    rw [r1 135 (by decide) (by decide) (by decide), hT.2.2.2 _ x hpru hxW, ← hto]
    repeat (first | ((with_reducible show ∃ _, _ ∧ _); first | refine s_fI (by rfl) (by rfl) (by rfl) ?_ | refine s_fR (by rfl) (by rfl) (by rfl) ?_ | refine s_pV (by rfl) (by rfl) (Nat.le_of_ble_eq_true rfl) (by rfl) ?_) | ((with_reducible show xcls _ _ _ ∧ _); refine s_cls (by rfl) (by rfl) ?_))
    refine s_aI (i := md K (bto (Nx K) (Wn K) u)) (by rfl) (by rfl) (by rfl) (by rfl) (by omega) (by decide) ?_
    rw [r3.2.2 _ htp]
    have hd4 : bd (Nx K) (Wn K) u (bto (Nx K) (Wn K) u) ≤ 4096 := by
      by_cases hz : bd (Nx K) (Wn K) u (bto (Nx K) (Wn K) u) = 0
      · omega
      · obtain ⟨j, hj, hq⟩ := inv.2.2.1 _ hz
        rw [← hq]
        have := b_d4 hN (W := Wn K) (t := u) j hj
        have := bn_le (Nx K) (Wn K) hN u
        omega
    refine ⟨fun hc => ?_, fun hc => ?_⟩ <;> rw [n_lit, n_le (by omega) (by decide)] at hc
    · have hyes : bnew (Nx K) (Wn K) u := ⟨by rw [d1]; exact hiu, by omega⟩
      have hlt := bn_lt (Nx K) (Wn K) hN hyes
      repeat (first | ((with_reducible show ∃ _, _ ∧ _); first | refine s_fI (by rfl) (by rfl) (by rfl) ?_ | refine s_fR (by rfl) (by rfl) (by rfl) ?_ | refine s_pV (by rfl) (by rfl) (Nat.le_of_ble_eq_true rfl) (by rfl) ?_) | ((with_reducible show xcls _ _ _ ∧ _); refine s_cls (by rfl) (by rfl) ?_))
      refine s_aI (i := md K (bq (Nx K) (Wn K) u i)) (by rfl) (by rfl) (by rfl) (by rfl) (by omega) (by decide) ?_
      rw [r3.2.2 _ hpru, n_lit, n_add]
      refine s_sI (i := md K (bto (Nx K) (Wn K) u)) (by rfl) (by rfl) (by rfl) (by rfl) (by rfl) (by omega) (by decide) ?_
      repeat (first | ((with_reducible show ∃ _, _ ∧ _); first | refine s_fI (by rfl) (by rfl) (by rfl) ?_ | refine s_fR (by rfl) (by rfl) (by rfl) ?_ | refine s_pV (by rfl) (by rfl) (Nat.le_of_ble_eq_true rfl) (by rfl) ?_) | ((with_reducible show xcls _ _ _ ∧ _); refine s_cls (by rfl) (by rfl) ?_))
      rw [up_k (by decide), r3.1]
      refine s_sI (i := bn (Nx K) (Wn K) u) (by rfl) (by rfl) (by rfl) (by rfl) (by rfl) (by exact hlt) (by decide) ?_
      repeat (first | ((with_reducible show ∃ _, _ ∧ _); first | refine s_fI (by rfl) (by rfl) (by rfl) ?_ | refine s_fR (by rfl) (by rfl) (by rfl) ?_ | refine s_pV (by rfl) (by rfl) (Nat.le_of_ble_eq_true rfl) (by rfl) ?_) | ((with_reducible show xcls _ _ _ ∧ _); refine s_cls (by rfl) (by rfl) ?_))
      rw [up_k (by decide), up_k (by decide), r3.1]
      unfold wp_Model_look_305
      refine hk2 (Wn K - (x + 1)) _ (by omega) ⟨x + 1, _, rfl, by omega, by rw [n_inc, hqi], fun k q1 q2 q3 => ?_, fun j q1 q2 => ?_, ?_, ?_⟩
      · rw [up_k q1, up_k q2, up_k q3]; exact r1 k q1 q2 q3
      · rw [up_i, if_neg q1, up_k (by decide), up_k (by decide)]; exact r2 j q1 q2
      · rw [show i * Wn K + (x + 1) = u + 1 by omega]
        refine ⟨?_, fun j hj => ?_, fun p hp => ?_⟩
        · rw [up_i, if_pos rfl, bn_yes (Nx K) (Wn K) hyes, n_add]
        · rw [bn_yes (Nx K) (Wn K) hyes] at hj
          rw [up_k (by decide), up_i, bq_yes (Nx K) (Wn K) hyes]
          by_cases e0 : j = bn (Nx K) (Wn K) u
          · rw [if_pos e0, if_pos e0]
          · rw [if_neg e0, if_neg e0, up_k (by decide)]; exact r3.2.1 j (by omega)
        · rw [up_k (by decide), up_k (by decide), up_i, bd_yes (Nx K) (Wn K) hyes]
          by_cases e0 : p = bto (Nx K) (Wn K) u
          · rw [if_pos (by rw [e0]), if_pos e0, d1]
          · rw [if_neg (fun ee => e0 (md_inj hp htp ee)), if_neg e0]; exact r3.2.2 p hp
      · rw [show i * Wn K + (x + 1) = u + 1 by omega]
        exact MLn.on hM (by omega) (by omega) (by rw [up_i, if_neg (by decide), up_k (by decide), up_k (by decide)]) r4
    · have hno : ¬ bnew (Nx K) (Wn K) u := fun hb => hc (by rw [hb.2]; exact Nat.le_refl _)
      unfold wp_Model_look_305
      refine hk2 (Wn K - (x + 1)) _ (by omega) ⟨x + 1, F3, rfl, by omega, by rw [n_lit, n_add, hqi], r1, r2, ?_, ?_⟩
      · rw [show i * Wn K + (x + 1) = u + 1 by omega]
        unfold MB
        have e2 : bq (Nx K) (Wn K) (u + 1) = bq (Nx K) (Wn K) u := by funext i; exact bq_no (Nx K) (Wn K) hno
        have e3 : bd (Nx K) (Wn K) (u + 1) = bd (Nx K) (Wn K) u := by funext i; exact bd_no (Nx K) (Wn K) hno
        rw [bn_no (Nx K) (Wn K) hno, e2, e3]
        exact r3
      · rw [show i * Wn K + (x + 1) = u + 1 by omega]
        exact MLn.on hM (by omega) (by omega) rfl r4
  repeat (first | ((with_reducible show ∃ _, _ ∧ _); first | refine s_fI (by rfl) (by rfl) (by rfl) ?_ | refine s_fR (by rfl) (by rfl) (by rfl) ?_ | refine s_pV (by rfl) (by rfl) (Nat.le_of_ble_eq_true rfl) (by rfl) ?_) | ((with_reducible show xcls _ _ _ ∧ _); refine s_cls (by rfl) (by rfl) ?_))
  refine s_aI (i := i) (by rfl) (by rfl) (by rfl) (by rfl) (by omega) (by decide) ?_
  rw [g3.2.1 i hin]
  repeat (first | ((with_reducible show ∃ _, _ ∧ _); first | refine s_fI (by rfl) (by rfl) (by rfl) ?_ | refine s_fR (by rfl) (by rfl) (by rfl) ?_ | refine s_pV (by rfl) (by rfl) (Nat.le_of_ble_eq_true rfl) (by rfl) ?_) | ((with_reducible show xcls _ _ _ ∧ _); refine s_cls (by rfl) (by rfl) ?_))
  have hT' : MT F' L K := MT.kept (g2 39 (by decide) (by decide)) (g2 40 (by decide) (by decide)) (g1 135 (by decide) (by decide) (by decide)) rfl hT
  rcases g4 with ⟨q1, q2⟩ | ⟨f, f1, f2, f3, f4⟩
  · rw [q1]
    refine ⟨fun hh => absurd rfl hh, fun _ => ?_⟩
    repeat (first | ((with_reducible show ∃ _, _ ∧ _); first | refine s_fI (by rfl) (by rfl) (by rfl) ?_ | refine s_fR (by rfl) (by rfl) (by rfl) ?_ | refine s_pV (by rfl) (by rfl) (Nat.le_of_ble_eq_true rfl) (by rfl) ?_) | ((with_reducible show xcls _ _ _ ∧ _); refine s_cls (by rfl) (by rfl) ?_))
    refine s_aL (i := md K (bq (Nx K) (Wn K) (i * Wn K) i)) (by rfl) (by rfl) (by rfl) (by rfl) (by omega) (by decide) ?_
    refine ⟨fun hz => ?_, fun hz => ?_⟩
    · have hno := (hT'.tells hM hpr).mp ((cmp0 _).mp hz)
      refine key F' g1 g2 g3 (Or.inl ⟨q1, fun j hj => ?_⟩)
      by_cases e0 : j = i
      · rw [e0]; exact hno
      · exact q2 j (by omega)
    · have hyes : tls K (bq (Nx K) (Wn K) (i * Wn K) i) := Classical.byContradiction (fun hno => hz ((cmp0 _).mpr ((hT'.tells hM hpr).mpr hno)))
      repeat (first | ((with_reducible show ∃ _, _ ∧ _); first | refine s_fI (by rfl) (by rfl) (by rfl) ?_ | refine s_fR (by rfl) (by rfl) (by rfl) ?_ | refine s_pV (by rfl) (by rfl) (Nat.le_of_ble_eq_true rfl) (by rfl) ?_) | ((with_reducible show xcls _ _ _ ∧ _); refine s_cls (by rfl) (by rfl) ?_))
      refine s_aI (i := md K (bq (Nx K) (Wn K) (i * Wn K) i)) (by rfl) (by rfl) (by rfl) (by rfl) (by omega) (by decide) ?_
      rw [g3.2.2 _ hpr]
      repeat (first | ((with_reducible show ∃ _, _ ∧ _); first | refine s_fI (by rfl) (by rfl) (by rfl) ?_ | refine s_fR (by rfl) (by rfl) (by rfl) ?_ | refine s_pV (by rfl) (by rfl) (Nat.le_of_ble_eq_true rfl) (by rfl) ?_) | ((with_reducible show xcls _ _ _ ∧ _); refine s_cls (by rfl) (by rfl) ?_))
      refine key _ (fun k q1 q2 q3 => by rw [up_k q1]; exact g1 k q1 q2 q3) (fun j q1 q2 => by rw [up_i, if_neg q2]; exact g2 j q1 q2) ⟨?_, ?_, ?_⟩ (Or.inr ⟨i, by omega, q2, hyes, by rw [up_i, if_pos rfl]⟩)
      · rw [up_i, if_neg (by decide)]; exact g3.1
      · rw [up_k (by decide)]; exact g3.2.1
      · rw [up_k (by decide)]; exact g3.2.2
  · have inv := b_inv (Nx K) (Wn K) hN (i * Wn K)
    have hd := (inv.2.1 f (by omega)).1
    have hd4 := b_d4 hN (t := i * Wn K) (W := Wn K) f (by omega)
    refine ⟨fun _ => key F' g1 g2 g3 (Or.inr ⟨f, by omega, f2, f3, f4⟩), fun hh => ?_⟩
    rw [f4] at hh
    exact absurd (n_inj (b := 0) (by omega) (by decide) hh) hd
end
