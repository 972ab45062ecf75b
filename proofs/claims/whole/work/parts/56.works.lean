/-! The works: exploring; the WITNESS is played again. -/
theorem nS_ext {C : Nat → Nat → Nat} {s : Nat} {X Y : Nat → Bool} (h : ∀ k, k < C 0 1 → X k = Y k) : nS C s X = nS C s Y := by
  unfold nS; rw [va_ext h (fun _ _ => rfl)]
theorem oS_ext {C : Nat → Nat → Nat} {s : Nat} {X Y : Nat → Bool} (h : ∀ k, k < C 0 1 → X k = Y k) : oS C s X = oS C s Y := by
  unfold oS; rw [va_ext h (fun _ _ => rfl)]
theorem oS_lt {C : Nat → Nat → Nat} (h : WF C) (s : Nat) (X : Nat → Bool) : oS C s X < 256 :=
  Nat.lt_of_lt_of_le (gat_lt _ _) (show 2 ^ (C 0 3) ≤ 2 ^ 8 from Nat.pow_le_pow_right (by decide) h.1.2.2.2.1)
theorem Tp_iff {K : Nat → Nat → Nat → Nat} (hM : MK K) (p x : Nat) : Tp K p x = true ↔ oS (K 0) (p / 64) (bts x) ≠ oS (K 1) (p % 64) (bts x) := by
  unfold Tp
  rw [List.any_eq_true]
  constructor
  · rintro ⟨k, hk, hu⟩ he
    have hk := List.mem_range.mp hk
    have hb : (oS (K 0) (p / 64) (bts x)).testBit k = (oS (K 1) (p % 64) (bts x)).testBit k := by rw [he]
    unfold oS at hb
    rw [gat_bit, gat_bit] at hb
    have hk2 : k < K 1 0 3 := by rw [← hM.2.2.2]; exact hk
    simp only [hk, hk2, decide_true, Bool.true_and] at hb
    have hu : (lv (va (K 0) (bts (p / 64)) (bts x)) (K 0 4 k) ^^ lv (va (K 1) (bts (p % 64)) (bts x)) (K 1 4 k)) = true := hu
    have hb : lv (va (K 0) (bts (p / 64)) (bts x)) (K 0 4 k) = lv (va (K 1) (bts (p % 64)) (bts x)) (K 1 4 k) := hb
    rw [hb] at hu
    simp at hu
  · intro hne
    apply Classical.byContradiction
    intro hno
    apply hne
    unfold oS
    rw [← hM.2.2.2]
    refine gat_ext _ (fun j hj => ?_)
    have hu : ¬ Ul K p x j = true := fun hu => hno ⟨j, List.mem_range.mpr hj, hu⟩
    have hu : ¬ (lv (va (K 0) (bts (p / 64)) (bts x)) (K 0 4 j) ^^ lv (va (K 1) (bts (p % 64)) (bts x)) (K 1 4 j)) = true := hu
    show lv (va (K 0) (bts (p / 64)) (bts x)) (K 0 4 j) = lv (va (K 1) (bts (p % 64)) (bts x)) (K 1 4 j)
    revert hu
    cases lv (va (K 0) (bts (p / 64)) (bts x)) (K 0 4 j) <;> cases lv (va (K 1) (bts (p % 64)) (bts x)) (K 1 4 j) <;> simp
theorem WK.fw {F : Nat → Nat → Int32} {K : Nat → Nat → Nat → Nat} {t : Nat} (ht : bn (Nx K) (Wn K) t * Wn K = t) : FW (Nx K) (Wn K) (bq (Nx K) (Wn K) t) (bn (Nx K) (Wn K) t) (bd (Nx K) (Wn K) t) (ba (Nx K) (Wn K) t) := ⟨t, ht, rfl, rfl, rfl, rfl⟩
theorem or256 {a b : Nat} (ha : a < 256) : a ||| b * 256 = a + b * 256 := by
  have h := Nat.two_pow_add_eq_or_of_lt (i := 8) ha b
  rw [Nat.or_comm, Nat.mul_comm]
  rw [show (256 : Nat) = 2 ^ 8 from rfl, ← h]; omega
section
variable {e : xenv} {F : Nat → Nat → Int32} {L : Nat → Nat → Int64} {g : xh} {z : Nat → Nat} {K : Nat → Nat → Nat → Nat}
theorem v_witnessTells {Q : Int32 → xh → Prop} {D : Nat → Option (Nat → Nat → Nat)} (hM : MK K) (hD : ∀ c, c < 2 → D c = some (K c)) (hR : RC F D) (hWD : WD D) (hK : WK F K) (h : ∀ F', (∀ k, k < 162 ∨ 164 < k → F' k = F k) → Q 1 (mem e true F' L g)) : wp_Works_witnessTells z Q (ad e 160) (mem e true F L g) := by
  have hWn := Wn_le hM
  have hN := Nx_lt hM
  obtain ⟨t, ht, hB, hTL⟩ := hK
  have hFW := WK.fw (F := F) ht
  have inv := b_inv (Nx K) (Wn K) hN t
  have hn4 := bn_le (Nx K) (Wn K) hN t
  have hI5 := hM.1.1.2.1
  unfold wp_Works_witnessTells
  repeat (first | ((with_reducible show ∃ _, _ ∧ _); first | refine s_fI (by rfl) (by rfl) (by rfl) ?_ | refine s_fR (by rfl) (by rfl) (by rfl) ?_ | refine s_pV (by rfl) (by rfl) (Nat.le_of_ble_eq_true rfl) (by rfl) ?_) | ((with_reducible show xcls _ _ _ ∧ _); refine s_cls (by rfl) (by rfl) ?_))
  unfold wp_Player_rest
  repeat (first | ((with_reducible show ∃ _, _ ∧ _); first | refine s_fI (by rfl) (by rfl) (by rfl) ?_ | refine s_fR (by rfl) (by rfl) (by rfl) ?_ | refine s_pV (by rfl) (by rfl) (Nat.le_of_ble_eq_true rfl) (by rfl) ?_) | ((with_reducible show xcls _ _ _ ∧ _); refine s_cls (by rfl) (by rfl) ?_))
  refine v_fill1 (n := 2) (by rfl) (fun _ => rfl) (by decide) (fun F0 k0 z0 => ?_)
  unfold wp_Works_witnessTells_9
  rcases hTL with ⟨q1, q2, q3⟩ | ⟨f, x, b, hf, q2, q3, q4⟩
  · refine ⟨1, ?_⟩
    show wp_Works_witnessTells_9_b z Q _ _ _ _
    unfold wp_Works_witnessTells_9_b
    repeat (first | ((with_reducible show ∃ _, _ ∧ _); first | refine s_fI (by rfl) (by rfl) (by rfl) ?_ | refine s_fR (by rfl) (by rfl) (by rfl) ?_ | refine s_pV (by rfl) (by rfl) (Nat.le_of_ble_eq_true rfl) (by rfl) ?_) | ((with_reducible show xcls _ _ _ ∧ _); refine s_cls (by rfl) (by rfl) ?_))
    rw [k0 170 (by decide), q1]
    exact ⟨fun _ => h F0 (fun k hk => k0 k (by omega)), fun hc => absurd (show (0 : Int32) ≤ 0 by decide) hc⟩
  obtain ⟨⟨x1, x2, x3⟩, ⟨b1, b2, b3⟩, w1, w2, w3, w4⟩ := q4
  have hd0 := (inv.2.1 f hf).1
  have hd4 := b_d4 hN (W := Wn K) f hf
  have hway : ∀ k, k + 1 < bd (Nx K) (Wn K) t (bq (Nx K) (Wn K) t f) → _ := fun k hk => way_step hN hWn.1 hWn.2 hFW (tl := tls K) hf q2 hk
  have hquiet : ∀ k, k + 1 < bd (Nx K) (Wn K) t (bq (Nx K) (Wn K) t f) → ¬ tls K (back (ba (Nx K) (Wn K) t) (bq (Nx K) (Wn K) t f) (k + 1)) := fun k hk => way_quiet hN hWn.1 hWn.2 hFW hf q2 hk
  have hend := fun k => way_end hN hWn.1 hWn.2 hFW hf (k := k)
  generalize hP : bq (Nx K) (Wn K) t f = P at *
  generalize hDD : bd (Nx K) (Wn K) t P = dd at *
  refine xloop_dn (fun m a => ∃ k F', m = dd - k ∧ k ≤ dd ∧ a = (ad e 160, Int32.ofNat k, mem e true F' L g) ∧ (∀ q, q < 162 ∨ 164 < q → F' q = F q) ∧ (k < dd → F' 162 0 = Int32.ofNat (back (ba (Nx K) (Wn K) t) P (dd - 1 - k) / 64) ∧ F' 162 1 = Int32.ofNat (back (ba (Nx K) (Wn K) t) P (dd - 1 - k) % 64))) ?_ dd _ ⟨0, F0, rfl, by omega, rfl, fun q hq => k0 q (by omega), fun _ => ?_⟩
  rotate_left
  · rw [hend (dd - 1 - 0) (by omega), z0 0 (by decide), z0 1 (by decide)]
    exact ⟨rfl, rfl⟩
  rintro m a cc ⟨k, F', rfl, hk1, rfl, g1, g2⟩ hk
  unfold wp_Works_witnessTells_9_b; dsimp only
  repeat (first | ((with_reducible show ∃ _, _ ∧ _); first | refine s_fI (by rfl) (by rfl) (by rfl) ?_ | refine s_fR (by rfl) (by rfl) (by rfl) ?_ | refine s_pV (by rfl) (by rfl) (Nat.le_of_ble_eq_true rfl) (by rfl) ?_) | ((with_reducible show xcls _ _ _ ∧ _); refine s_cls (by rfl) (by rfl) ?_))
  rw [g1 170 (by decide), w1]
  refine ⟨fun hc => ?_, fun hc => ?_⟩ <;> rw [n_le (by omega) (by omega)] at hc
  · exact h F' g1
  have hkd : k < dd := by omega
  obtain ⟨s0, s1⟩ := g2 hkd
  -- the pair that is reached, and the vector
  generalize hp : back (ba (Nx K) (Wn K) t) P (dd - 1 - k) = p at *
  obtain ⟨xx, hxx, hv, htell, hnext⟩ : ∃ xx, xx < Wn K ∧ F 174 k = Int32.ofNat xx ∧ (Tp K p xx = true ↔ k = dd - 1) ∧ (k + 1 < dd → Nx K p xx = back (ba (Nx K) (Wn K) t) P (dd - 1 - (k + 1))) := by
    by_cases hl : k = dd - 1
    · refine ⟨x, x1, by rw [hl]; exact w3, ⟨fun _ => hl, fun _ => ?_⟩, fun hh => by omega⟩
      rw [← hp, hl, Nat.sub_self]
      exact x2
    · have hk2 : dd - 2 - k + 1 < dd := by omega
      obtain ⟨y1, y2, _, _, _⟩ := hway (dd - 2 - k) hk2
      have hq := hquiet (dd - 2 - k) hk2
      rw [show dd - 2 - k + 1 = dd - 1 - k by omega, hp] at y2 hq
      refine ⟨_, y1, ?_, ⟨fun htp => absurd ⟨_, y1, htp⟩ hq, fun hh => absurd hh hl⟩, fun _ => ?_⟩
      · have := w4 (dd - 2 - k) hk2
        rw [show dd - 2 - (dd - 2 - k) = k by omega] at this
        exact this
      · rw [y2, show dd - 1 - (k + 1) = dd - 2 - k by omega]
  repeat (first | ((with_reducible show ∃ _, _ ∧ _); first | refine s_fI (by rfl) (by rfl) (by rfl) ?_ | refine s_fR (by rfl) (by rfl) (by rfl) ?_ | refine s_pV (by rfl) (by rfl) (Nat.le_of_ble_eq_true rfl) (by rfl) ?_) | ((with_reducible show xcls _ _ _ ∧ _); refine s_cls (by rfl) (by rfl) ?_))
  refine s_aI (i := k) (by rfl) (by rfl) (by rfl) (by rfl) (by omega) (by decide) ?_
  rw [g1 174 (by decide), hv]
  repeat (first | ((with_reducible show ∃ _, _ ∧ _); first | refine s_fI (by rfl) (by rfl) (by rfl) ?_ | refine s_fR (by rfl) (by rfl) (by rfl) ?_ | refine s_pV (by rfl) (by rfl) (Nat.le_of_ble_eq_true rfl) (by rfl) ?_) | ((with_reducible show xcls _ _ _ ∧ _); refine s_cls (by rfl) (by rfl) ?_))
  have hR' : RC F' D := RC.kept (fun k hk => g1 k (by omega)) hR
  refine v_play (p := 161) (st := fun c => if c = 0 then p / 64 else p % 64) (Or.inr ⟨rfl, rfl⟩) hR' hWD (fun c hc => ?_) (fun F2 r1 r2 => ?_)
  · rcases c_cases hc with rfl | rfl
    · exact s0
    · exact s1
  have hX : ∀ k, k < 5 → bt (Int32.ofNat xx) k = bts xx k := fun k hk => bt_nat _ _ (by omega)
  have eo0 : oD D (fun c => if c = 0 then p / 64 else p % 64) (fun k => bt (Int32.ofNat xx) k) 0 = oS (K 0) (p / 64) (bts xx) := by
    rw [oD, hD 0 (by decide)]
    exact oS_ext (fun k hk => hX k (by omega))
  have eo1 : oD D (fun c => if c = 0 then p / 64 else p % 64) (fun k => bt (Int32.ofNat xx) k) 1 = oS (K 1) (p % 64) (bts xx) := by
    rw [oD, hD 1 (by decide)]
    exact oS_ext (fun k hk => hX k (by have := hM.2.2.1; omega))
  have en0 : nD D (fun c => if c = 0 then p / 64 else p % 64) (fun k => bt (Int32.ofNat xx) k) 0 = nS (K 0) (p / 64) (bts xx) := by
    rw [nD, hD 0 (by decide)]
    exact nS_ext (fun k hk => hX k (by omega))
  have en1 : nD D (fun c => if c = 0 then p / 64 else p % 64) (fun k => bt (Int32.ofNat xx) k) 1 = nS (K 1) (p % 64) (bts xx) := by
    rw [nD, hD 1 (by decide)]
    exact nS_ext (fun k hk => hX k (by have := hM.2.2.1; omega))
  have l0 := oS_lt hM.1 (p / 64) (bts xx)
  have l1 := oS_lt hM.2.1 (p % 64) (bts xx)
  have htp := Tp_iff hM p xx
  rw [eo0, eo1, or256 l0, and255, show (8 : Int32) = Int32.ofNat 8 from rfl, n_shr (by omega) (by decide)]
  have ebv : bv (Int32.ofNat (oS (K 0) (p / 64) (bts xx) + oS (K 1) (p % 64) (bts xx) * 256)) = oS (K 0) (p / 64) (bts xx) := by
    unfold bv; rw [n_toNat]; omega
  have ediv : (oS (K 0) (p / 64) (bts xx) + oS (K 1) (p % 64) (bts xx) * 256) / 2 ^ 8 = oS (K 1) (p % 64) (bts xx) := by
    rw [show (2 : Nat) ^ 8 = 256 from rfl]; omega
  rw [ebv, ediv]
  have hF2 : ∀ q, q < 162 ∨ 164 < q → F2 q = F q := fun q hq => by rw [r1 q (by omega) (by omega) (by omega)]; exact g1 q hq
  have key : ∀ s : Int32, (s = if k = dd - 1 then 1 else 0) → wp_Works_witnessTells_54 z Q cc (ad e 160) (Int32.ofNat k) s (mem e true F2 L g) := by
    intro s hs
    unfold wp_Works_witnessTells_54 wp_Works_witnessTells_74
    have goon : cc (ad e 160, Int32.ofNat k + 1, mem e true F2 L g) := by
      refine hk (dd - (k + 1)) _ (by omega) ⟨k + 1, F2, rfl, by omega, by rw [n_lit, n_add], hF2, fun hlt => ?_⟩
      have hnx := hnext hlt
      rw [r2 0 (by decide), r2 1 (by decide), en0, en1, ← hnx]
      have m0 := (nS_lt hM.1 (p / 64) (bts xx)).2
      have m1 := (nS_lt hM.2.1 (p % 64) (bts xx)).2
      unfold Nx
      exact ⟨by congr 1; omega, by congr 1; omega⟩
    repeat (first | ((with_reducible show ∃ _, _ ∧ _); first | refine s_fI (by rfl) (by rfl) (by rfl) ?_ | refine s_fR (by rfl) (by rfl) (by rfl) ?_ | refine s_pV (by rfl) (by rfl) (Nat.le_of_ble_eq_true rfl) (by rfl) ?_) | ((with_reducible show xcls _ _ _ ∧ _); refine s_cls (by rfl) (by rfl) ?_))
    rw [hF2 170 (by decide), w1, show Int32.ofNat dd - 1 = Int32.ofNat (dd - 1) by rw [n_lit, n_sub (by omega)]]
    refine ⟨fun hne => ?_, fun heq => ?_⟩
    · have : k ≠ dd - 1 := fun ee => hne (by rw [ee])
      rw [hs, if_neg this]
      exact ⟨fun _ => goon, fun hh => absurd rfl hh⟩
    · have := n_inj (by omega) (by omega) heq
      rw [hs, if_pos this]
      exact ⟨fun _ => goon, fun hh => absurd rfl hh⟩
  refine ⟨fun heq => key 0 ?_, fun hne => key 1 ?_⟩
  · have he := n_inj (by omega) (by omega) heq
    rw [if_neg]
    intro hl
    exact (htp.mp (htell.mpr hl)) he
  · rw [if_pos]
    exact htell.mp (htp.mpr (fun he => hne (by rw [he])))
/-- the layers when they are cleared -/
def LY0 (F : Nat → Nat → Int32) : Prop := F 175 3 = 0 ∧ F 175 4 = -1 ∧ F 175 5 = -1 ∧ F 175 6 = 0
theorem v_explore0 {Q : xh → Prop} {D : Nat → Option (Nat → Nat → Nat)} (hM : MK K) (hD : ∀ c, c < 2 → D c = some (K c)) (hR : RC F D) (hWD : WD D) (hZ : Zs e z F) (h0 : F 160 7 = 0)
    (h : ∀ F', (∀ k, k < 160 ∨ 175 < k → F' k = F k) → (∀ j, j ≠ 7 → F' 160 j = F 160 j) → F' 160 7 = 1 → TB F' K → WK F' K → LY0 F' → Q (mem e true F' L g)) : wp_Works_explore z Q (ad e 160) (mem e true F L g) := by
  unfold wp_Works_explore
  repeat (first | ((with_reducible show ∃ _, _ ∧ _); first | refine s_fI (by rfl) (by rfl) (by rfl) ?_ | refine s_fR (by rfl) (by rfl) (by rfl) ?_ | refine s_pV (by rfl) (by rfl) (Nat.le_of_ble_eq_true rfl) (by rfl) ?_) | ((with_reducible show xcls _ _ _ ∧ _); refine s_cls (by rfl) (by rfl) ?_))
  rw [h0]
  refine ⟨fun hc => absurd rfl hc, fun _ => ?_⟩
  repeat (first | ((with_reducible show ∃ _, _ ∧ _); first | refine s_fI (by rfl) (by rfl) (by rfl) ?_ | refine s_fR (by rfl) (by rfl) (by rfl) ?_ | refine s_pV (by rfl) (by rfl) (Nat.le_of_ble_eq_true rfl) (by rfl) ?_) | ((with_reducible show xcls _ _ _ ∧ _); refine s_cls (by rfl) (by rfl) ?_))
  refine v_Table_fill hM (fun c hc => ((hR c hc).2 _ (hD c hc)).2) hZ (fun F1 k1 t1 => ?_)
  repeat (first | ((with_reducible show ∃ _, _ ∧ _); first | refine s_fI (by rfl) (by rfl) (by rfl) ?_ | refine s_fR (by rfl) (by rfl) (by rfl) ?_ | refine s_pV (by rfl) (by rfl) (Nat.le_of_ble_eq_true rfl) (by rfl) ?_) | ((with_reducible show xcls _ _ _ ∧ _); refine s_cls (by rfl) (by rfl) ?_))
  refine v_wexplore hM t1 (fun F2 k2 w2 => ?_)
  repeat (first | ((with_reducible show ∃ _, _ ∧ _); first | refine s_fI (by rfl) (by rfl) (by rfl) ?_ | refine s_fR (by rfl) (by rfl) (by rfl) ?_ | refine s_pV (by rfl) (by rfl) (Nat.le_of_ble_eq_true rfl) (by rfl) ?_) | ((with_reducible show xcls _ _ _ ∧ _); refine s_cls (by rfl) (by rfl) ?_))
  unfold wp_Layers_clear
  repeat (first | ((with_reducible show ∃ _, _ ∧ _); first | refine s_fI (by rfl) (by rfl) (by rfl) ?_ | refine s_fR (by rfl) (by rfl) (by rfl) ?_ | refine s_pV (by rfl) (by rfl) (Nat.le_of_ble_eq_true rfl) (by rfl) ?_) | ((with_reducible show xcls _ _ _ ∧ _); refine s_cls (by rfl) (by rfl) ?_))
  have hk : ∀ F3, F3 = up (up (up (up (up F2 175 3 0) 175 4 (-1)) 175 5 (-1)) 175 6 0) 160 7 1 → wp_Works_witnessTells z (fun v11 h10 => xcls h10 (ad e 160) 10 ∧ wp_Works_doubtUnless z (fun h13 => Q h13) (ad e 160) v11 h10) (ad e 160) (mem e true F3 L g) := by
    intro F3 hF3
    have f175 : ∀ j, F3 175 j = if j = 6 then 0 else if j = 5 then -1 else if j = 4 then -1 else if j = 3 then 0 else F2 175 j := fun j => by
      rw [hF3, up_k (by decide), up_i, up_i, up_i, up_i]
    have f160 : ∀ j, F3 160 j = if j = 7 then 1 else F 160 j := fun j => by
      rw [hF3, up_i, up_k (by decide), up_k (by decide), up_k (by decide), up_k (by decide), k2 160 (by decide), k1 160 (by decide)]
    have foth : ∀ k, k ≠ 175 → k ≠ 160 → F3 k = F2 k := fun k q1 q2 => by
      rw [hF3, up_k q2, up_k q1, up_k q1, up_k q1, up_k q1]
    have hlow : ∀ k, k < 160 ∨ 175 < k → F3 k = F k := fun k hk => by
      rw [foth k (by omega) (by omega), k2 k (by omega), k1 k (by omega)]
    have hWK3 : WK F3 K := by
      obtain ⟨t, ht, hB, hTL⟩ := w2
      refine ⟨t, ht, WB.kept (by rw [foth 170 (by decide) (by decide)]) (foth 171 (by decide) (by decide)) (foth 172 (by decide) (by decide)) (foth 173 (by decide) (by decide)) hB, ?_⟩
      unfold TL WV at hTL ⊢
      rw [foth 170 (by decide) (by decide), foth 174 (by decide) (by decide)]
      exact hTL
    refine v_witnessTells hM hD (RC.kept (fun k hk => hlow k (by omega)) hR) hWD hWK3 (fun F4 k4 => ?_)
    repeat (first | ((with_reducible show ∃ _, _ ∧ _); first | refine s_fI (by rfl) (by rfl) (by rfl) ?_ | refine s_fR (by rfl) (by rfl) (by rfl) ?_ | refine s_pV (by rfl) (by rfl) (Nat.le_of_ble_eq_true rfl) (by rfl) ?_) | ((with_reducible show xcls _ _ _ ∧ _); refine s_cls (by rfl) (by rfl) ?_))
    unfold wp_Works_doubtUnless
    refine ⟨fun _ => ?_, fun hc => absurd hc (by decide)⟩
    refine h F4 (fun k hk => by rw [k4 k (by omega)]; exact hlow k hk) (fun j hj => by rw [k4 160 (by decide), f160, if_neg hj]) (by rw [k4 160 (by decide), f160]; rfl) (TB.kept (fun k q1 q2 => by rw [k4 k (by omega), foth k (by omega) (by omega), k2 k (by omega)]) t1) ?_ ⟨?_, ?_, ?_, ?_⟩
    · obtain ⟨t, ht, hB, hTL⟩ := hWK3
      refine ⟨t, ht, WB.kept (by rw [k4 170 (by decide)]) (k4 171 (by decide)) (k4 172 (by decide)) (k4 173 (by decide)) hB, ?_⟩
      unfold TL WV at hTL ⊢
      rw [k4 170 (by decide), k4 174 (by decide)]
      exact hTL
    · rw [k4 175 (by decide), f175]; rfl
    · rw [k4 175 (by decide), f175]; rfl
    · rw [k4 175 (by decide), f175]; rfl
    · rw [k4 175 (by decide), f175]; rfl
  exact hk _ rfl
end
