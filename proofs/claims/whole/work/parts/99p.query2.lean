/-! The class's questions, of pairs and literals. -/
section
variable {e : xenv} {w : Bool} {F : Nat → Nat → Int32} {L : Nat → Nat → Int64} {g : xh} {z : Nat → Nat} {D : Nat → Option (Nat → Nat → Nat)} {mc ms : Nat}
theorem v_isState {Q : Int32 → xh → Prop} {x : Int32} {c : Nat} (hm : mt D) (hW : WD D) (hR : RC F D) (hcl : c < 2) (h0 : (∀ s, x = Int32.ofNat s → ¬ s < 2 ^ (kd D c 0 2)) → Q 0 (mem e w F L g)) (h1 : ∀ s, x = Int32.ofNat s → s < 2 ^ (kd D c 0 2) → Q 1 (mem e w F L g)) : wp_Circuit_isState z Q (ad e (20 * c)) x (mem e w F L g) := by
  have hWF := (hm.MK hW).wf hcl
  have h6 := hWF.1.2.2.1
  have hp := pw6 hWF
  unfold wp_Circuit_isState
  refine ⟨fun hx => h0 (fun s hs hl => absurd (hs ▸ hx) (n_pos s (by omega))), fun hx => ?_⟩
  obtain ⟨s, hs, rfl⟩ := nat_of hx
  refine c_fI (b_of hcl) (by decide) ?_
  rw [show F (20 * c) 3 = Int32.ofNat (kd D c 0 2) from (hm.KC hR c hcl).1 2 (by decide), n_one_shl (by omega)]
  refine ⟨fun hc => ?_, fun hc => ?_⟩ <;> rw [n_le (by omega) hs] at hc
  · exact h0 (fun s' h1 h2 => absurd (n_inj (by omega) (by omega) h1) (by omega))
  · exact h1 s rfl (by omega)
theorem v_Judge_depth {Q : Int32 → xh → Prop} {QX : Nat → xh → Prop} {x y : Int32} (hZ : Zs e z F) (hR : RC F D) (hW : WD D) (hS : SC w F D) (b0 : ¬ (mt D ∧ ∃ s t, x = Int32.ofNat s ∧ y = Int32.ofNat t ∧ s < 2 ^ (kd D 0 0 2) ∧ t < 2 ^ (kd D 1 0 2)) → 1 ≤ mc ∧ 6 ≤ ms) (b1 : mt D → (∃ s t, x = Int32.ofNat s ∧ y = Int32.ofNat t ∧ s < 2 ^ (kd D 0 0 2) ∧ t < 2 ^ (kd D 1 0 2)) → w = false → 29 ≤ mc ∧ 58894 ≤ ms)
    (h0 : ¬ mt D → QX 0 (mem e w F L g)) (h2 : mt D → ¬ (∃ s t, x = Int32.ofNat s ∧ y = Int32.ofNat t ∧ s < 2 ^ (kd D 0 0 2) ∧ t < 2 ^ (kd D 1 0 2)) → QX 1 (mem e w F L g))
    (h1 : ∀ s t, mt D → x = Int32.ofNat s → y = Int32.ofNat t → s < 2 ^ (kd D 0 0 2) → t < 2 ^ (kd D 1 0 2) → ∀ e' F', eC e F D e' F' → Q (Int32.ofNat (pd (kd D) (64 * s + t)) - 1) (mem e' true F' L g)) : wp_Judge_depth z mc ms Q QX (ad e 60) x y (mem e w F L g) := by
  unfold wp_Judge_depth
  by_cases hm : mt D
  · refine ⟨0, 0, by omega, by omega, ?_⟩
    repeat (first | ((with_reducible show ∃ _, _ ∧ _); first | refine s_fI (by rfl) (by rfl) (by rfl) ?_ | refine s_fR (by rfl) (by rfl) (by rfl) ?_ | refine s_pV (by rfl) (by rfl) (Nat.le_of_ble_eq_true rfl) (by rfl) ?_) | ((with_reducible show xcls _ _ _ ∧ _); refine s_cls (by rfl) (by rfl) ?_))
    refine v_mustMatch hR hW (fun hh => absurd hm hh) h0 (fun _ => ?_)
    have bad : ¬ (∃ s t, x = Int32.ofNat s ∧ y = Int32.ofNat t ∧ s < 2 ^ (kd D 0 0 2) ∧ t < 2 ^ (kd D 1 0 2)) → wp_Judge_depth_34 z mc ms Q QX (ad e 60) x y (mem e w F L g) (0 + 0) (0 + 0) := by
      intro hx
      unfold wp_Judge_depth_34 wp_Judge_depth_35
      exact ⟨mc, ms, by omega, by omega, v_must0 (b0 (fun hh => hx hh.2)) (h2 hm hx)⟩
    repeat (first | ((with_reducible show ∃ _, _ ∧ _); first | refine s_fI (by rfl) (by rfl) (by rfl) ?_ | refine s_fR (by rfl) (by rfl) (by rfl) ?_ | refine s_pV (by rfl) (by rfl) (Nat.le_of_ble_eq_true rfl) (by rfl) ?_) | ((with_reducible show xcls _ _ _ ∧ _); refine s_cls (by rfl) (by rfl) ?_))
    refine cs_aR (c := 0) (by decide) ?_
    refine c_cls (b_of (by decide)) ?_
    refine v_isState hm hW hR (by decide) (fun hn => ⟨fun _ => bad (fun ⟨s, t, a1, a2, a3, a4⟩ => hn s a1 a3), fun hh => absurd rfl hh⟩) (fun s hx hs => ⟨fun hh => absurd hh (by decide), fun _ => ?_⟩)
    repeat (first | ((with_reducible show ∃ _, _ ∧ _); first | refine s_fI (by rfl) (by rfl) (by rfl) ?_ | refine s_fR (by rfl) (by rfl) (by rfl) ?_ | refine s_pV (by rfl) (by rfl) (Nat.le_of_ble_eq_true rfl) (by rfl) ?_) | ((with_reducible show xcls _ _ _ ∧ _); refine s_cls (by rfl) (by rfl) ?_))
    refine cs_aR (c := 1) (by decide) ?_
    refine c_cls (b_of (by decide)) ?_
    refine v_isState hm hW hR (by decide) (fun hn => ⟨fun _ => bad (fun ⟨s, t, a1, a2, a3, a4⟩ => hn t a2 a4), fun hh => absurd rfl hh⟩) (fun t hy ht => ⟨fun hh => absurd hh (by decide), fun _ => ?_⟩)
    unfold wp_Judge_depth_35
    refine ⟨0, 0, by omega, by omega, v_must1 ⟨mc, ms, by omega, by omega, ?_⟩⟩
    repeat (first | ((with_reducible show ∃ _, _ ∧ _); first | refine s_fI (by rfl) (by rfl) (by rfl) ?_ | refine s_fR (by rfl) (by rfl) (by rfl) ?_ | refine s_pV (by rfl) (by rfl) (Nat.le_of_ble_eq_true rfl) (by rfl) ?_) | ((with_reducible show xcls _ _ _ ∧ _); refine s_cls (by rfl) (by rfl) ?_))
    refine v_explored hm hZ hR hW hS (b1 hm ⟨s, t, hx, hy, hs, ht⟩) (fun e' F' q k r sk xp => ?_)
    have hC := xp.CF hm hW
    have p0 := pw6 (hm.MK hW).1
    have p1 := pw6 (hm.MK hW).2.1
    have hpd := hC.1.2.2.1 (64 * s + t)
    repeat (first | ((with_reducible show ∃ _, _ ∧ _); first | refine s_fI (by rfl) (by rfl) (by rfl) ?_ | refine s_fR (by rfl) (by rfl) (by rfl) ?_ | refine s_pV (by rfl) (by rfl) (Nat.le_of_ble_eq_true rfl) (by rfl) ?_) | ((with_reducible show xcls _ _ _ ∧ _); refine s_cls (by rfl) (by rfl) ?_))
    refine s_aI (i := 64 * s + t) (by rfl) (by rfl) (by rfl) (by rw [hx, hy, show (64 : Int32) = Int32.ofNat 64 from rfl, n_mul, n_add, Nat.mul_comm]) (by omega) (by decide) ?_
    rw [hC.2.2.2.1 _ (by omega)]
    have hq := h1 s t hm hx hy hs ht e' F' ⟨q, k, SC.of hm sk xp⟩
    by_cases e0 : pd (kd D) (64 * s + t) = 0
    · rw [if_pos e0]
      rw [e0] at hq
      exact hq
    · rw [if_neg e0]
      rw [show (1 : Int32) = Int32.ofNat 1 from rfl, n_sub (by omega)] at hq
      exact hq
  · refine ⟨mc, ms, by omega, by omega, ?_⟩
    repeat (first | ((with_reducible show ∃ _, _ ∧ _); first | refine s_fI (by rfl) (by rfl) (by rfl) ?_ | refine s_fR (by rfl) (by rfl) (by rfl) ?_ | refine s_pV (by rfl) (by rfl) (Nat.le_of_ble_eq_true rfl) (by rfl) ?_) | ((with_reducible show xcls _ _ _ ∧ _); refine s_cls (by rfl) (by rfl) ?_))
    exact v_mustMatch hR hW (fun hh => b0 (fun h3 => hh h3.1)) h0 (fun hh => absurd hh hm)
theorem CF.wq (hm : mt D) (hC : CF F (kd D)) : WQ F (kd D) (pq (kd D)) (pz (kd D)) := by
  obtain ⟨⟨p1, p2, p3⟩, p4, _⟩ := hC.1
  exact ⟨hC.2.1, p1, p2, p3, fun i hi => ⟨hC.2.2.1 i hi, (p4 i hi).1⟩⟩
theorem v_Judge_same {Q : Int32 → xh → Prop} {QX : Nat → xh → Prop} {x1 x2 x3 x4 : Int32} (hZ : Zs e z F) (hR : RC F D) (hW : WD D) (hS : SC w F D) (b0 : ¬ (mt D ∧ ∃ c C l d C' o, isL D x1 x2 c C l ∧ isL D x3 x4 d C' o) → 1 ≤ mc ∧ 6 ≤ ms) (b1 : mt D → (∃ c C l d C' o, isL D x1 x2 c C l ∧ isL D x3 x4 d C' o) → w = false → 29 ≤ mc ∧ 58894 ≤ ms)
    (h0 : ¬ mt D → QX 0 (mem e w F L g)) (h2 : mt D → ¬ (∃ c C l d C' o, isL D x1 x2 c C l ∧ isL D x3 x4 d C' o) → QX 1 (mem e w F L g))
    (h1 : ∀ c l d o, mt D → isL D x1 x2 c (kd D c) l → isL D x3 x4 d (kd D d) o → ∀ e' F' y, eC e F D e' F' → (smV (kd D) (pq (kd D)) (pz (kd D)) c l d o → y = 1) → (¬ smV (kd D) (pq (kd D)) (pz (kd D)) c l d o → y = 0) → Q y (mem e' true F' L g)) : wp_Judge_same z mc ms Q QX (ad e 60) x1 x2 x3 x4 (mem e w F L g) := by
  unfold wp_Judge_same
  by_cases hm : mt D
  · refine ⟨0, 0, by omega, by omega, ?_⟩
    repeat (first | ((with_reducible show ∃ _, _ ∧ _); first | refine s_fI (by rfl) (by rfl) (by rfl) ?_ | refine s_fR (by rfl) (by rfl) (by rfl) ?_ | refine s_pV (by rfl) (by rfl) (Nat.le_of_ble_eq_true rfl) (by rfl) ?_) | ((with_reducible show xcls _ _ _ ∧ _); refine s_cls (by rfl) (by rfl) ?_))
    refine v_mustMatch hR hW (fun hh => absurd hm hh) h0 (fun _ => ?_)
    have bad : ¬ (∃ c C l d C' o, isL D x1 x2 c C l ∧ isL D x3 x4 d C' o) → wp_Judge_same_27 z mc ms Q QX (ad e 60) x1 x2 x3 x4 (mem e w F L g) (0 + 0) (0 + 0) := by
      intro hx
      unfold wp_Judge_same_27 wp_Judge_same_28
      exact ⟨mc, ms, by omega, by omega, v_must0 (b0 (fun hh => hx hh.2)) (h2 hm hx)⟩
    repeat (first | ((with_reducible show ∃ _, _ ∧ _); first | refine s_fI (by rfl) (by rfl) (by rfl) ?_ | refine s_fR (by rfl) (by rfl) (by rfl) ?_ | refine s_pV (by rfl) (by rfl) (Nat.le_of_ble_eq_true rfl) (by rfl) ?_) | ((with_reducible show xcls _ _ _ ∧ _); refine s_cls (by rfl) (by rfl) ?_))
    refine v_isLiteral hR hW (fun hn => ⟨fun _ => bad (fun ⟨c, C, l, d, C', o, a1, a2⟩ => hn c C l a1), fun hh => absurd rfl hh⟩) (fun c C l hl => ⟨fun hh => absurd hh (by decide), fun _ => ?_⟩)
    repeat (first | ((with_reducible show ∃ _, _ ∧ _); first | refine s_fI (by rfl) (by rfl) (by rfl) ?_ | refine s_fR (by rfl) (by rfl) (by rfl) ?_ | refine s_pV (by rfl) (by rfl) (Nat.le_of_ble_eq_true rfl) (by rfl) ?_) | ((with_reducible show xcls _ _ _ ∧ _); refine s_cls (by rfl) (by rfl) ?_))
    refine v_isLiteral hR hW (fun hn => ⟨fun _ => bad (fun ⟨c, C, l, d, C', o, a1, a2⟩ => hn d C' o a2), fun hh => absurd rfl hh⟩) (fun d C' o ho => ⟨fun hh => absurd hh (by decide), fun _ => ?_⟩)
    unfold wp_Judge_same_28
    refine ⟨0, 0, by omega, by omega, v_must1 ⟨mc, ms, by omega, by omega, ?_⟩⟩
    repeat (first | ((with_reducible show ∃ _, _ ∧ _); first | refine s_fI (by rfl) (by rfl) (by rfl) ?_ | refine s_fR (by rfl) (by rfl) (by rfl) ?_ | refine s_pV (by rfl) (by rfl) (Nat.le_of_ble_eq_true rfl) (by rfl) ?_) | ((with_reducible show xcls _ _ _ ∧ _); refine s_cls (by rfl) (by rfl) ?_))
    refine v_explored hm hZ hR hW hS (b1 hm ⟨c, C, l, d, C', o, hl, ho⟩) (fun e' F' q k r sk xp => ?_)
    have hl' := isL_kd hl
    have ho' := isL_kd ho
    have hQ := CF.wq hm (xp.CF hm hW)
    repeat (first | ((with_reducible show ∃ _, _ ∧ _); first | refine s_fI (by rfl) (by rfl) (by rfl) ?_ | refine s_fR (by rfl) (by rfl) (by rfl) ?_ | refine s_pV (by rfl) (by rfl) (Nat.le_of_ble_eq_true rfl) (by rfl) ?_) | ((with_reducible show xcls _ _ _ ∧ _); refine s_cls (by rfl) (by rfl) ?_))
    rw [hl'.2.1, hl'.2.2.2.1, ho'.2.1, ho'.2.2.2.1]
    refine v_agree (hm.MK hW) xp.2.1 hQ.1 hQ.2.2.1 hQ.2.2.2.2 hl'.1 hl'.2.2.2.2 ho'.1 ho'.2.2.2.2 (fun hh => ?_) (fun hh => ?_)
    · exact h1 c l d o hm hl' ho' e' F' 1 ⟨q, k, SC.of hm sk xp⟩ (fun _ => rfl) (fun h3 => absurd hh h3)
    · exact h1 c l d o hm hl' ho' e' F' 0 ⟨q, k, SC.of hm sk xp⟩ (fun h3 => absurd h3 hh) (fun _ => rfl)
  · refine ⟨mc, ms, by omega, by omega, ?_⟩
    repeat (first | ((with_reducible show ∃ _, _ ∧ _); first | refine s_fI (by rfl) (by rfl) (by rfl) ?_ | refine s_fR (by rfl) (by rfl) (by rfl) ?_ | refine s_pV (by rfl) (by rfl) (Nat.le_of_ble_eq_true rfl) (by rfl) ?_) | ((with_reducible show xcls _ _ _ ∧ _); refine s_cls (by rfl) (by rfl) ?_))
    exact v_mustMatch hR hW (fun hh => b0 (fun h3 => hh h3.1)) h0 (fun hh => absurd hh hm)
theorem v_Judge_twin {Q : Int32 → xh → Prop} {QX : Nat → xh → Prop} {x1 x2 : Int32} (hZ : Zs e z F) (hR : RC F D) (hW : WD D) (hS : SC w F D) (b0 : ¬ (mt D ∧ ∃ c C l, isL D x1 x2 c C l) → 1 ≤ mc ∧ 6 ≤ ms) (b1 : mt D → (∃ c C l, isL D x1 x2 c C l) → w = false → 29 ≤ mc ∧ 58894 ≤ ms)
    (h0 : ¬ mt D → QX 0 (mem e w F L g)) (h2 : mt D → ¬ (∃ c C l, isL D x1 x2 c C l) → QX 1 (mem e w F L g))
    (h1 : ∀ c l u, mt D → isL D x1 x2 c (kd D c) l → isTw (kd D) (pq (kd D)) (pz (kd D)) c l u → ∀ e' F', eC e F D e' F' → Q (Int32.ofNat (anT u)) (mem e' true F' L g)) : wp_Judge_twin z mc ms Q QX (ad e 60) x1 x2 (mem e w F L g) := by
  unfold wp_Judge_twin
  by_cases hm : mt D
  · refine ⟨0, 0, by omega, by omega, ?_⟩
    repeat (first | ((with_reducible show ∃ _, _ ∧ _); first | refine s_fI (by rfl) (by rfl) (by rfl) ?_ | refine s_fR (by rfl) (by rfl) (by rfl) ?_ | refine s_pV (by rfl) (by rfl) (Nat.le_of_ble_eq_true rfl) (by rfl) ?_) | ((with_reducible show xcls _ _ _ ∧ _); refine s_cls (by rfl) (by rfl) ?_))
    refine v_mustMatch hR hW (fun hh => absurd hm hh) h0 (fun _ => ?_)
    repeat (first | ((with_reducible show ∃ _, _ ∧ _); first | refine s_fI (by rfl) (by rfl) (by rfl) ?_ | refine s_fR (by rfl) (by rfl) (by rfl) ?_ | refine s_pV (by rfl) (by rfl) (Nat.le_of_ble_eq_true rfl) (by rfl) ?_) | ((with_reducible show xcls _ _ _ ∧ _); refine s_cls (by rfl) (by rfl) ?_))
    refine v_isLiteral hR hW (fun hn => ?_) (fun c C l hl => ?_)
    · have hx : ¬ (∃ c C l, isL D x1 x2 c C l) := fun ⟨c, C, l, a1⟩ => hn c C l a1
      exact ⟨mc, ms, by omega, by omega, v_must0 (b0 (fun hh => hx hh.2)) (h2 hm hx)⟩
    refine ⟨0, 0, by omega, by omega, v_must1 ⟨mc, ms, by omega, by omega, ?_⟩⟩
    repeat (first | ((with_reducible show ∃ _, _ ∧ _); first | refine s_fI (by rfl) (by rfl) (by rfl) ?_ | refine s_fR (by rfl) (by rfl) (by rfl) ?_ | refine s_pV (by rfl) (by rfl) (Nat.le_of_ble_eq_true rfl) (by rfl) ?_) | ((with_reducible show xcls _ _ _ ∧ _); refine s_cls (by rfl) (by rfl) ?_))
    refine v_explored hm hZ hR hW hS (b1 hm ⟨c, C, l, hl⟩) (fun e' F1 q1 k1 r1 s1 xp => ?_)
    have hl' := isL_kd hl
    have hQ := CF.wq hm (xp.CF hm hW)
    obtain ⟨y7, yt, yw, kn, yl⟩ := xp
    repeat (first | ((with_reducible show ∃ _, _ ∧ _); first | refine s_fI (by rfl) (by rfl) (by rfl) ?_ | refine s_fR (by rfl) (by rfl) (by rfl) ?_ | refine s_pV (by rfl) (by rfl) (Nat.le_of_ble_eq_true rfl) (by rfl) ?_) | ((with_reducible show xcls _ _ _ ∧ _); refine s_cls (by rfl) (by rfl) ?_))
    rw [hl'.2.1, hl'.2.2.2.1]
    refine v_wfirst (hm.MK hW) (hm.KC r1) yt hQ hl'.1 hl'.2.2.2.2 (by rcases s1.2.1 with hh | hh; exact Or.inl hh; exact Or.inr ⟨hh.1, hh.2.2⟩) (fun F2 u k2 j2 q8 lk tw => ?_)
    refine h1 c l u hm hl' tw e' F2 ⟨q1, fun k hk => by rw [k2 k (by omega), k1 k hk], SC.of hm ⟨by rw [j2 10 (by decide)]; exact s1.1, Or.inr ⟨q8, hm, lk⟩, ?_⟩ ⟨by rw [j2 7 (by decide)]; exact y7, TB.kept (fun k a1 a2 => k2 k (by omega)) yt, WK.kept (fun k a1 a2 => k2 k (by omega)) yw, kn, LY.kept (fun k a1 a2 => k2 k (by omega)) yl⟩⟩
    rw [j2 9 (by decide), k2 190 (by omega)]
    exact s1.2.2
  · refine ⟨mc, ms, by omega, by omega, ?_⟩
    repeat (first | ((with_reducible show ∃ _, _ ∧ _); first | refine s_fI (by rfl) (by rfl) (by rfl) ?_ | refine s_fR (by rfl) (by rfl) (by rfl) ?_ | refine s_pV (by rfl) (by rfl) (Nat.le_of_ble_eq_true rfl) (by rfl) ?_) | ((with_reducible show xcls _ _ _ ∧ _); refine s_cls (by rfl) (by rfl) ?_))
    exact v_mustMatch hR hW (fun hh => b0 (fun h3 => hh h3.1)) h0 (fun hh => absurd hh hm)
theorem v_Judge_doubts {Q : Int32 → xh → Prop} (hS : SC w F D) (h : Q 0 (mem e w F L g)) : wp_Judge_doubts z Q (ad e 60) (mem e w F L g) := by
  unfold wp_Judge_doubts
  cases w
  · refine ⟨none, ?_, fun _ => h, fun r hh => (by cases hh)⟩
    simp only [fN, fV, mem_at (show li false 60 = true by rfl)]
    rfl
  · refine ⟨some (ad e 160), ?_, fun hh => (by cases hh), fun r _ => ?_⟩
    · simp only [fN, fV, mem_at (show li true 60 = true by rfl)]
      rfl
    · rcases hS with hh | hh
      · cases hh
      · repeat (first | ((with_reducible show ∃ _, _ ∧ _); first | refine s_fI (by rfl) (by rfl) (by rfl) ?_ | refine s_fR (by rfl) (by rfl) (by rfl) ?_ | refine s_pV (by rfl) (by rfl) (Nat.le_of_ble_eq_true rfl) (by rfl) ?_) | ((with_reducible show xcls _ _ _ ∧ _); refine s_cls (by rfl) (by rfl) ?_))
        rw [hh.1.1]
        exact h
theorem isTw_uniq {K : Nat → Nat → Nat → Nat} {q : Nat → Nat} {n c l u u' : Nat} (h : isTw K q n c l u) (h' : isTw K q n c l u') : u = u' := by
  rcases Nat.lt_trichotomy u u' with hh | hh | hh
  · exact absurd h.2.2.1 (h'.2.2.2 u hh h.2.1)
  · exact hh
  · exact absurd h'.2.2.1 (h.2.2.2 u' hh h'.2.1)
end
