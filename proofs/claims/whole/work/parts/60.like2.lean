/-! The rest of the likeness; same and twin of the class. -/
theorem PS_LK {F F' : Nat → Nat → Int32} {K : Nat → Nat → Nat → Nat} {q : Nat → Nat} {j oc : Nat} {o : Nat → Nat} (h182 : ∀ s, dsp K s → F' 182 s = -(Int32.ofNat (fl K s).toNat)) (h1 : F' 180 6 = Int32.ofNat oc) (h2 : oc ≤ 402) (h3 : ∀ i, i < oc → F' 186 i = Int32.ofNat (o i) ∧ dsp K (o i)) (h4 : ∀ i i', i < i' → i' < oc → o i < o i') (h5 : ∀ s, dsp K s → (∃ i, i < oc ∧ o i = s) ∨ (∀ s', dsp K s' → agr K q j s s' → s' = s)) (hP : PS F' K q j o oc) : LK F' K q (j + 1) := by
  obtain ⟨PA, PB, PC⟩ := hP
  refine ⟨fun s hs => ⟨?_, h182 s hs⟩, oc, o, h1, h2, h3, h4, fun s hs => ?_⟩
  · by_cases hin : ∃ i, i < oc ∧ o i = s
    · obtain ⟨i, hi, rfl⟩ := hin
      exact (PA i hi).2
    · obtain ⟨m, hm, hN⟩ := PB s hs (fun i hi he => hin ⟨i, hi, he⟩)
      refine ⟨m, hm, ?_⟩
      rcases h5 s hs with hh | hal
      · exact absurd hh hin
      · have := hal m hN.1 hN.2.1
        subst this
        exact ⟨hN.1, agr_refl _ _, fun m' q1 q2 q3 => hN.2.2 m' q1 q2 (agr_succ.mp q3).1⟩
  · rcases h5 s hs with hh | hal
    · exact Or.inl hh
    · exact Or.inr (fun s' hs' ha => hal s' hs' (agr_succ.mp ha).1)
def ct (f : Nat → Nat) (l : Nat) : Nat → Nat
  | 0 => 0
  | n + 1 => ct f l n + (if f n = l then 1 else 0)
theorem ct_le (f : Nat → Nat) (l : Nat) : ∀ n, ct f l n ≤ n
  | 0 => Nat.le_refl _
  | n + 1 => by have := ct_le f l n; unfold ct; split <;> omega
theorem ct_one {f : Nat → Nat} {l : Nat} : ∀ {n i}, i < n → f i = l → 1 ≤ ct f l n
  | 0, i, hi, _ => by omega
  | n + 1, i, hi, he => by
    unfold ct
    by_cases e0 : i = n
    · subst e0; rw [if_pos he]; omega
    · have := ct_one (n := n) (i := i) (by omega) he; omega
theorem ct_two {f : Nat → Nat} {l : Nat} : ∀ {n i i'}, i < i' → i' < n → f i = l → f i' = l → 2 ≤ ct f l n
  | 0, i, i', _, hi, _, _ => by omega
  | n + 1, i, i', hii, hi, he, he' => by
    unfold ct
    by_cases e0 : i' = n
    · subst e0
      have := ct_one (n := i') hii he
      rw [if_pos he']; omega
    · have := ct_two (n := n) hii (by omega) he he'; omega
section
variable {e : xenv} {F : Nat → Nat → Int32} {L : Nat → Nat → Int64} {g : xh} {z : Nat → Nat} {K : Nat → Nat → Nat → Nat} {q : Nat → Nat}
theorem v_isSplitBy {Q : Int32 → xh → Prop} {j : Nat} (hM : MK K) (hT : TB F K) (hp : isPr K (q j)) (hL : LK F K q j) (h : ∀ F' y, (∀ k, k ≠ 181 → k ≠ 183 → k ≠ 184 → F' k = F k) → LK F' K q (j + 1) → Q y (mem e true F' L g)) : wp_Likeness_isSplitBy z Q (ad e 180) (ad e 165) (Int32.ofNat (q j)) (mem e true F L g) := by
  obtain ⟨hl, oc, o, o1, o2, o3, o4, o5⟩ := hL
  unfold wp_Likeness_isSplitBy wp_Likeness_isSplitBy_5
  refine xloop_dn (fun m a => ∃ (i : Nat) (F' : Nat → Nat → Int32) (y : Int32), m = oc - i ∧ i ≤ oc ∧ a = (ad e 180, ad e 165, Int32.ofNat (q j), y, Int32.ofNat i, mem e true F' L g) ∧ (y = 0 ∨ y = 1) ∧ (∀ k, k ≠ 181 → k ≠ 183 → k ≠ 184 → F' k = F k) ∧ PS F' K q j o i) ?_ oc _ ⟨0, F, 0, rfl, Nat.zero_le _, rfl, Or.inl rfl, fun _ _ _ _ => rfl, fun i hi => by omega, fun s hs _ => (hl s hs).1, fun i hi => by omega⟩
  rintro m a cc ⟨i, F', y, rfl, hi1, rfl, hy, g1, g2⟩ hk
  unfold wp_Likeness_isSplitBy_5_b; dsimp only
  repeat (first | ((with_reducible show ∃ _, _ ∧ _); first | refine s_fI (by rfl) (by rfl) (by rfl) ?_ | refine s_fR (by rfl) (by rfl) (by rfl) ?_ | refine s_pV (by rfl) (by rfl) (Nat.le_of_ble_eq_true rfl) (by rfl) ?_) | ((with_reducible show xcls _ _ _ ∧ _); refine s_cls (by rfl) (by rfl) ?_))
  rw [g1 180 (by decide) (by decide) (by decide), o1]
  refine ⟨fun hc => ?_, fun hc => ?_⟩ <;> rw [n_le (by omega) (by omega)] at hc
  · have : i = oc := by omega
    subst this
    refine ⟨by unfold xbl; rcases hy with rfl | rfl <;> simp, h F' y g1 ?_⟩
    exact PS_LK (F := F) (fun s hs => by rw [g1 182 (by decide) (by decide) (by decide)]; exact (hl s hs).2) (by rw [g1 180 (by decide) (by decide) (by decide)]; exact o1) o2 (fun i hi => by rw [g1 186 (by decide) (by decide) (by decide)]; exact o3 i hi) o4 o5 g2
  have hio : i < oc := by omega
  have hd := (o3 i hio).2
  have hs4 := hd.1
  repeat (first | ((with_reducible show ∃ _, _ ∧ _); first | refine s_fI (by rfl) (by rfl) (by rfl) ?_ | refine s_fR (by rfl) (by rfl) (by rfl) ?_ | refine s_pV (by rfl) (by rfl) (Nat.le_of_ble_eq_true rfl) (by rfl) ?_) | ((with_reducible show xcls _ _ _ ∧ _); refine s_cls (by rfl) (by rfl) ?_))
  refine s_aI (i := i) (by rfl) (by rfl) (by rfl) (by rfl) (by omega) (by decide) ?_
  rw [g1 186 (by decide) (by decide) (by decide), (o3 i hio).1]
  repeat (first | ((with_reducible show ∃ _, _ ∧ _); first | refine s_fI (by rfl) (by rfl) (by rfl) ?_ | refine s_fR (by rfl) (by rfl) (by rfl) ?_ | refine s_pV (by rfl) (by rfl) (Nat.le_of_ble_eq_true rfl) (by rfl) ?_) | ((with_reducible show xcls _ _ _ ∧ _); refine s_cls (by rfl) (by rfl) ?_))
  refine s_aI (i := o i) (by rfl) (by rfl) (by rfl) (by rfl) (by exact hs4) (by decide) ?_
  repeat (first | ((with_reducible show ∃ _, _ ∧ _); first | refine s_fI (by rfl) (by rfl) (by rfl) ?_ | refine s_fR (by rfl) (by rfl) (by rfl) ?_ | refine s_pV (by rfl) (by rfl) (Nat.le_of_ble_eq_true rfl) (by rfl) ?_) | ((with_reducible show xcls _ _ _ ∧ _); refine s_cls (by rfl) (by rfl) ?_))
  rw [(n_spot hs4).2, (n_spot hs4).1]
  refine dsp_word hM (TB.kept (fun k q1 q2 => g1 k (by omega) (by omega) (by omega)) hT) hp hd (fun u hu => ?_)
  repeat (first | ((with_reducible show ∃ _, _ ∧ _); first | refine s_fI (by rfl) (by rfl) (by rfl) ?_ | refine s_fR (by rfl) (by rfl) (by rfl) ?_ | refine s_pV (by rfl) (by rfl) (Nat.le_of_ble_eq_true rfl) (by rfl) ?_) | ((with_reducible show xcls _ _ _ ∧ _); refine s_cls (by rfl) (by rfl) ?_))
  refine s_aI (i := o i) (by rfl) (by rfl) (by rfl) (by rfl) (by exact hs4) (by decide) ?_
  rw [g1 182 (by decide) (by decide) (by decide), (hl _ hd).2]
  refine s_sI (i := o i) (by rfl) (by rfl) (by rfl) (by rfl) (by rfl) (by exact hs4) (by decide) ?_
  repeat (first | ((with_reducible show ∃ _, _ ∧ _); first | refine s_fI (by rfl) (by rfl) (by rfl) ?_ | refine s_fR (by rfl) (by rfl) (by rfl) ?_ | refine s_pV (by rfl) (by rfl) (Nat.le_of_ble_eq_true rfl) (by rfl) ?_) | ((with_reducible show xcls _ _ _ ∧ _); refine s_cls (by rfl) (by rfl) ?_))
  have hPS2 : PS (up F' 183 (o i) (u ^^^ -(Int32.ofNat (fl K (o i)).toNat))) K q j o i := by
    obtain ⟨PA, PB, PC⟩ := g2
    refine ⟨fun i' hi' => ?_, fun s hs hno => ?_, fun i' hi' hself => ?_⟩
    · have hne : o i' ≠ o i := Nat.ne_of_lt (o4 i' i hi' hio)
      rw [up_i, if_neg hne, up_k (by decide)]; exact PA i' hi'
    · rw [up_k (by decide)]; exact PB s hs hno
    · rw [up_k (by decide)]; exact PC i' hi' hself
  refine v_findLeader (oc := oc) hio (fun i hi => (o3 i hi).2) o4 o5 hPS2 (fun x hx => ?_) (fun F2 r1 r2 => ?_)
  · rw [up_i, if_pos rfl, bt_xor, hu x hx, bt_neg1 (by cases fl K (o i) <;> decide) hx]
    unfold sg
    cases fl K (o i) <;> rfl
  have hF2 : ∀ k, k ≠ 181 → k ≠ 183 → k ≠ 184 → F2 k = F k := fun k q1 q2 q3 => by rw [r1 k q1 q3, up_k q2, g1 k q1 q2 q3]
  have go : ∀ y, (y = 0 ∨ y = 1) → cc (ad e 180, ad e 165, Int32.ofNat (q j), y, Int32.ofNat i + 1, mem e true F2 L g) := fun y hy => hk (oc - (i + 1)) _ (by omega) ⟨i + 1, F2, y, rfl, by omega, by rw [n_lit, n_add], hy, hF2, r2⟩
  unfold wp_Likeness_isSplitBy_88 wp_Likeness_isSplitBy_93
  refine ⟨fun _ => go 1 (Or.inr rfl), fun _ => ?_⟩
  repeat (first | ((with_reducible show ∃ _, _ ∧ _); first | refine s_fI (by rfl) (by rfl) (by rfl) ?_ | refine s_fR (by rfl) (by rfl) (by rfl) ?_ | refine s_pV (by rfl) (by rfl) (Nat.le_of_ble_eq_true rfl) (by rfl) ?_) | ((with_reducible show xcls _ _ _ ∧ _); refine s_cls (by rfl) (by rfl) ?_))
  refine s_aI (i := o i) (by rfl) (by rfl) (by rfl) (by rfl) (by exact hs4) (by decide) ?_
  exact ⟨fun _ => go 0 (Or.inl rfl), fun _ => go 1 (Or.inr rfl)⟩
theorem v_leaveLone {Q : xh → Prop} {j : Nat} (hL : LK F K q j) (h : ∀ F', (∀ k, k ≠ 180 → k ≠ 185 → k ≠ 186 → F' k = F k) → LK F' K q j → Q (mem e true F' L g)) : wp_Likeness_leaveLone z Q (ad e 180) (mem e true F L g) := by
  obtain ⟨hl, oc, o, o1, o2, o3, o4, o5⟩ := hL
  obtain ⟨ld, hld⟩ : ∃ ld : Nat → Nat, ∀ i, i < oc → F 181 (o i) = Int32.ofNat (ld i) ∧ isN K q j (o i) (ld i) := by
    refine ⟨fun i => if hi : i < oc then (hl (o i) (o3 i hi).2).1.choose else 0, fun i hi => ?_⟩
    dsimp only; rw [dif_pos hi]; exact (hl (o i) (o3 i hi).2).1.choose_spec
  unfold wp_Likeness_leaveLone
  repeat (first | ((with_reducible show ∃ _, _ ∧ _); first | refine s_fI (by rfl) (by rfl) (by rfl) ?_ | refine s_fR (by rfl) (by rfl) (by rfl) ?_ | refine s_pV (by rfl) (by rfl) (Nat.le_of_ble_eq_true rfl) (by rfl) ?_) | ((with_reducible show xcls _ _ _ ∧ _); refine s_cls (by rfl) (by rfl) ?_))
  refine v_fill1 (n := 402) (by rfl) (fun _ => rfl) (by decide) (fun F0 k0 z0 => ?_)
  unfold wp_Likeness_leaveLone_10
  refine xloop_dn (fun m a => ∃ (i : Nat) (F' : Nat → Nat → Int32), m = oc - i ∧ i ≤ oc ∧ a = (ad e 180, Int32.ofNat i, mem e true F' L g) ∧ (∀ k, k ≠ 185 → F' k = F k) ∧ (∀ l, l < 402 → F' 185 l = Int32.ofNat (ct ld l i))) ?_ oc _ ⟨0, F0, rfl, Nat.zero_le _, rfl, k0, z0⟩
  rintro m a cc ⟨i, F', rfl, hi1, rfl, g1, g2⟩ hk
  unfold wp_Likeness_leaveLone_10_b; dsimp only
  repeat (first | ((with_reducible show ∃ _, _ ∧ _); first | refine s_fI (by rfl) (by rfl) (by rfl) ?_ | refine s_fR (by rfl) (by rfl) (by rfl) ?_ | refine s_pV (by rfl) (by rfl) (Nat.le_of_ble_eq_true rfl) (by rfl) ?_) | ((with_reducible show xcls _ _ _ ∧ _); refine s_cls (by rfl) (by rfl) ?_))
  rw [g1 180 (by decide), o1]
  refine ⟨fun hc => ?_, fun hc => ?_⟩ <;> rw [n_le (by omega) (by omega)] at hc
  rotate_left
  · have hio : i < oc := by omega
    have hs4 := (o3 i hio).2.1
    have hl4 := (hld i hio).2.1.1
    have hcl := ct_le ld (ld i) i
    repeat (first | ((with_reducible show ∃ _, _ ∧ _); first | refine s_fI (by rfl) (by rfl) (by rfl) ?_ | refine s_fR (by rfl) (by rfl) (by rfl) ?_ | refine s_pV (by rfl) (by rfl) (Nat.le_of_ble_eq_true rfl) (by rfl) ?_) | ((with_reducible show xcls _ _ _ ∧ _); refine s_cls (by rfl) (by rfl) ?_))
    refine s_aI (i := i) (by rfl) (by rfl) (by rfl) (by rfl) (by omega) (by decide) ?_
    rw [g1 186 (by decide), (o3 i hio).1]
    refine s_aI (i := o i) (by rfl) (by rfl) (by rfl) (by rfl) (by exact hs4) (by decide) ?_
    rw [g1 181 (by decide), (hld i hio).1]
    refine s_aI (i := ld i) (by rfl) (by rfl) (by rfl) (by rfl) (by exact hl4) (by decide) ?_
    rw [g2 _ hl4, n_lit, n_add]
    refine s_sI (i := ld i) (by rfl) (by rfl) (by rfl) (by rfl) (by rfl) (by exact hl4) (by decide) ?_
    refine hk (oc - (i + 1)) _ (by omega) ⟨i + 1, _, rfl, by omega, by rw [n_add], fun k hk => by rw [up_k hk, g1 k hk], fun l hl => ?_⟩
    rw [up_i, ct]
    by_cases e0 : l = ld i
    · subst e0; rw [if_pos rfl, if_pos rfl]
    · rw [if_neg e0, if_neg (fun e1 => e0 e1.symm), g2 l hl]; rfl
  have : i = oc := by omega
  subst this
  clear hk
  unfold wp_Likeness_leaveLone_48
  refine xloop_dn (fun m a => ∃ (t kp : Nat) (F2 : Nat → Nat → Int32) (ix : Nat → Nat), m = i - t ∧ t ≤ i ∧ kp ≤ t ∧ a = (ad e 180, Int32.ofNat kp, Int32.ofNat t, mem e true F2 L g) ∧ (∀ k, k ≠ 186 → F2 k = F' k) ∧ (∀ u, kp ≤ u → F2 186 u = F 186 u) ∧ (∀ u, u < kp → ix u < t ∧ F2 186 u = Int32.ofNat (o (ix u))) ∧ (∀ u u', u < u' → u' < kp → ix u < ix u') ∧ (∀ v, v < t → 1 < ct ld (ld v) i → ∃ u, u < kp ∧ ix u = v)) ?_ i _ ⟨0, 0, F', fun _ => 0, rfl, Nat.zero_le _, Nat.le_refl _, rfl, fun _ _ => rfl, fun u _ => by rw [g1 186 (by decide)], fun u hu => by omega, fun u u' _ hu => by omega, fun v hv => by omega⟩
  rintro m a cc ⟨t, kp, F2, ix, rfl, ht, hkp, rfl, p1, p2, p3, p4, p5⟩ hk
  unfold wp_Likeness_leaveLone_48_b; dsimp only
  repeat (first | ((with_reducible show ∃ _, _ ∧ _); first | refine s_fI (by rfl) (by rfl) (by rfl) ?_ | refine s_fR (by rfl) (by rfl) (by rfl) ?_ | refine s_pV (by rfl) (by rfl) (Nat.le_of_ble_eq_true rfl) (by rfl) ?_) | ((with_reducible show xcls _ _ _ ∧ _); refine s_cls (by rfl) (by rfl) ?_))
  rw [p1 180 (by decide), g1 180 (by decide), o1]
  refine ⟨fun hc => ?_, fun hc => ?_⟩ <;> rw [n_le (by omega) (by omega)] at hc
  · have : t = i := by omega
    subst this
    repeat (first | ((with_reducible show ∃ _, _ ∧ _); first | refine s_fI (by rfl) (by rfl) (by rfl) ?_ | refine s_fR (by rfl) (by rfl) (by rfl) ?_ | refine s_pV (by rfl) (by rfl) (Nat.le_of_ble_eq_true rfl) (by rfl) ?_) | ((with_reducible show xcls _ _ _ ∧ _); refine s_cls (by rfl) (by rfl) ?_))
    refine h _ (fun k q1 q2 q3 => by rw [up_k q1, p1 k q3, g1 k q2]) ⟨fun s hs => ?_, kp, fun u => o (ix u), by rw [up_i, if_pos rfl], by omega, fun u hu => ?_, fun u u' huu hu' => ?_, fun s hs => ?_⟩
    · rw [up_k (by decide), up_k (by decide), p1 181 (by decide), p1 182 (by decide), g1 181 (by decide), g1 182 (by decide)]
      exact hl s hs
    · rw [up_k (by decide)]
      exact ⟨(p3 u hu).2, (o3 _ (p3 u hu).1).2⟩
    · exact o4 _ _ (p4 u u' huu hu') (p3 u' hu').1
    · rcases o5 s hs with ⟨v, hv, rfl⟩ | hal
      · by_cases hone : 1 < ct ld (ld v) t
        · obtain ⟨u, hu, hiu⟩ := p5 v hv hone
          exact Or.inl ⟨u, hu, by show o (ix u) = _; rw [hiu]⟩
        · right
          intro s' hs' ha
          apply Classical.byContradiction
          intro hne
          apply hone
          rcases o5 s' hs' with ⟨v', hv', rfl⟩ | hal
          · have hll : ld v' = ld v := isN_uniq (hld v' hv').2 (isN_agr (hld v hv).2 (agr_symm ha))
            rcases Nat.lt_trichotomy v v' with h1 | h1 | h1
            · exact ct_two h1 hv' rfl hll
            · subst h1; exact absurd rfl hne
            · exact ct_two h1 hv hll rfl
          · exact absurd (hal _ hs (agr_symm ha)).symm hne
      · exact Or.inr hal
  have hti : t < i := by omega
  have hs4 := (o3 t hti).2.1
  have hl4 := (hld t hti).2.1.1
  have hcl := ct_le ld (ld t) i
  repeat (first | ((with_reducible show ∃ _, _ ∧ _); first | refine s_fI (by rfl) (by rfl) (by rfl) ?_ | refine s_fR (by rfl) (by rfl) (by rfl) ?_ | refine s_pV (by rfl) (by rfl) (Nat.le_of_ble_eq_true rfl) (by rfl) ?_) | ((with_reducible show xcls _ _ _ ∧ _); refine s_cls (by rfl) (by rfl) ?_))
  refine s_aI (i := t) (by rfl) (by rfl) (by rfl) (by rfl) (by omega) (by decide) ?_
  rw [p2 t hkp, (o3 t hti).1]
  refine s_aI (i := o t) (by rfl) (by rfl) (by rfl) (by rfl) (by exact hs4) (by decide) ?_
  rw [p1 181 (by decide), g1 181 (by decide), (hld t hti).1]
  refine s_aI (i := ld t) (by rfl) (by rfl) (by rfl) (by rfl) (by exact hl4) (by decide) ?_
  rw [p1 185 (by decide), g2 _ hl4]
  unfold wp_Likeness_leaveLone_91
  refine ⟨fun hc => ?_, fun hc => ?_⟩ <;> rw [n_lit, n_le (by omega) (by decide)] at hc
  · refine hk (i - (t + 1)) _ (by omega) ⟨t + 1, kp, F2, ix, rfl, by omega, by omega, by rw [n_lit, n_add], p1, p2, fun u hu => ⟨by have := (p3 u hu).1; omega, (p3 u hu).2⟩, p4, fun v hv hone => ?_⟩
    by_cases e0 : v = t
    · subst e0; omega
    · exact p5 v (by omega) hone
  · repeat (first | ((with_reducible show ∃ _, _ ∧ _); first | refine s_fI (by rfl) (by rfl) (by rfl) ?_ | refine s_fR (by rfl) (by rfl) (by rfl) ?_ | refine s_pV (by rfl) (by rfl) (Nat.le_of_ble_eq_true rfl) (by rfl) ?_) | ((with_reducible show xcls _ _ _ ∧ _); refine s_cls (by rfl) (by rfl) ?_))
    refine s_aI (i := t) (by rfl) (by rfl) (by rfl) (by rfl) (by omega) (by decide) ?_
    rw [p2 t hkp, (o3 t hti).1]
    refine s_sI (i := kp) (by rfl) (by rfl) (by rfl) (by rfl) (by rfl) (by omega) (by decide) ?_
    refine hk (i - (t + 1)) _ (by omega) ⟨t + 1, kp + 1, _, fun u => if u = kp then t else ix u, rfl, by omega, by omega, by rw [n_lit, n_add, n_add], fun k hk => by rw [up_k hk, p1 k hk], fun u hu => by rw [up_i, if_neg (by omega)]; exact p2 u (by omega), fun u hu => ?_, fun u u' huu hu' => ?_, fun v hv hone => ?_⟩
    · rw [up_i]
      dsimp only
      by_cases e0 : u = kp
      · rw [if_pos e0, if_pos e0]; exact ⟨by omega, rfl⟩
      · rw [if_neg e0, if_neg e0]
        have := p3 u (by omega)
        exact ⟨by omega, this.2⟩
    · show (if u = kp then t else ix u) < (if u' = kp then t else ix u')
      rw [if_neg (by omega)]
      by_cases e0 : u' = kp
      · rw [if_pos e0]; exact (p3 u (by omega)).1
      · rw [if_neg e0]; exact p4 u u' huu (by omega)
    · by_cases e0 : v = t
      · exact ⟨kp, by omega, by show (if kp = kp then t else ix kp) = v; rw [if_pos rfl, e0]⟩
      · obtain ⟨u, hu, hiu⟩ := p5 v (by omega) hone
        exact ⟨u, by omega, by show (if u = kp then t else ix u) = v; rw [if_neg (by omega)]; exact hiu⟩
theorem dsp0 : dsp K 0 := ⟨by decide, Nat.zero_le _, Or.inl (by decide)⟩
theorem v_lsort {Q : xh → Prop} {n : Nat} (hM : MK K) (hK : ∀ c, c < 2 → KC (20 * c) F (K c)) (hT : TB F K) (h5 : F 170 5 = Int32.ofNat n) (hn : n ≤ 4096) (hq : ∀ i, i < n → F 171 i = Int32.ofNat (q i) ∧ isPr K (q i)) (h : ∀ F', (∀ k, k < 180 ∨ 186 < k → F' k = F k) → LK F' K q n → Q (mem e true F' L g)) : wp_Likeness_sort z Q (ad e 180) (ad e 75) (ad e 165) (ad e 170) (mem e true F L g) := by
  have pr0 : isPr K 0 := ⟨by rw [Nat.zero_div]; exact Nat.two_pow_pos _, by rw [Nat.zero_mod]; exact Nat.two_pow_pos _⟩
  unfold wp_Likeness_sort
  repeat (first | ((with_reducible show ∃ _, _ ∧ _); first | refine s_fI (by rfl) (by rfl) (by rfl) ?_ | refine s_fR (by rfl) (by rfl) (by rfl) ?_ | refine s_pV (by rfl) (by rfl) (Nat.le_of_ble_eq_true rfl) (by rfl) ?_) | ((with_reducible show xcls _ _ _ ∧ _); refine s_cls (by rfl) (by rfl) ?_))
  unfold wp_Likeness_sort_8
  refine xloop_dn (fun m a => ∃ (s oc : Nat) (F' : Nat → Nat → Int32) (o : Nat → Nat), m = 402 - s ∧ s ≤ 402 ∧ oc ≤ s ∧ a = (ad e 180, ad e 75, ad e 165, ad e 170, Int32.ofNat s, mem e true F' L g) ∧ (∀ k, k < 180 ∨ 186 < k → F' k = F k) ∧ (∀ s', s' < s → dsp K s' → F' 181 s' = 0 ∧ F' 182 s' = -(Int32.ofNat (fl K s').toNat)) ∧ F' 180 6 = Int32.ofNat oc ∧ (∀ i, i < oc → F' 186 i = Int32.ofNat (o i) ∧ dsp K (o i) ∧ o i < s) ∧ (∀ i i', i < i' → i' < oc → o i < o i') ∧ (∀ s', s' < s → dsp K s' → ∃ i, i < oc ∧ o i = s')) ?_ 402 _ ⟨0, 0, _, fun _ => 0, rfl, by omega, by omega, rfl, fun k hk => up_k (by omega), fun s' hs' => by omega, by rw [up_i, if_pos rfl]; rfl, fun i hi => by omega, fun i i' _ hi => by omega, fun s' hs' => by omega⟩
  rintro m a cc ⟨s, oc, F', o, rfl, hs1, hoc, rfl, g1, g2, g3, g4, g5, g6⟩ hk
  unfold wp_Likeness_sort_8_b; dsimp only
  refine ⟨fun hc => ?_, fun hc => ?_⟩ <;> rw [n_lit, n_le (by decide) (by omega)] at hc
  · have : s = 402 := by omega
    subst this
    have hL0 : LK F' K q 0 := by
      refine ⟨fun s hs => ⟨⟨0, by rw [(g2 s hs.1 hs).1]; rfl, dsp0, fun i hi => by omega, fun m' hm' => by omega⟩, (g2 s hs.1 hs).2⟩, oc, o, g3, by omega, fun i hi => ⟨(g4 i hi).1, (g4 i hi).2.1⟩, g5, fun s hs => Or.inl (g6 s hs.1 hs)⟩
    unfold wp_Likeness_sort_113
    clear hk
    refine xloop_dn (fun m a => ∃ (i : Nat) (F2 : Nat → Nat → Int32), m = n - i ∧ i ≤ n ∧ a = (ad e 180, ad e 165, ad e 170, Int32.ofNat i, mem e true F2 L g) ∧ (∀ k, k < 180 ∨ 186 < k → F2 k = F k) ∧ LK F2 K q i) ?_ n _ ⟨0, F', rfl, Nat.zero_le _, rfl, g1, hL0⟩
    rintro m a cc ⟨i, F2, rfl, hi1, rfl, p1, p2⟩ hk
    unfold wp_Likeness_sort_113_b; dsimp only
    unfold wp_Likeness_sort_141
    repeat (first | ((with_reducible show ∃ _, _ ∧ _); first | refine s_fI (by rfl) (by rfl) (by rfl) ?_ | refine s_fR (by rfl) (by rfl) (by rfl) ?_ | refine s_pV (by rfl) (by rfl) (Nat.le_of_ble_eq_true rfl) (by rfl) ?_) | ((with_reducible show xcls _ _ _ ∧ _); refine s_cls (by rfl) (by rfl) ?_))
    rw [p1 170 (by decide), h5]
    refine ⟨fun hc => ?_, fun hc => ?_⟩ <;> rw [n_le (by omega) (by omega)] at hc
    · have : i = n := by omega
      subst this
      exact h F2 p1 p2
    · repeat (first | ((with_reducible show ∃ _, _ ∧ _); first | refine s_fI (by rfl) (by rfl) (by rfl) ?_ | refine s_fR (by rfl) (by rfl) (by rfl) ?_ | refine s_pV (by rfl) (by rfl) (Nat.le_of_ble_eq_true rfl) (by rfl) ?_) | ((with_reducible show xcls _ _ _ ∧ _); refine s_cls (by rfl) (by rfl) ?_))
      refine s_aI (i := i) (by rfl) (by rfl) (by rfl) (by rfl) (by omega) (by decide) ?_
      rw [p1 171 (by decide), (hq i (by omega)).1]
      repeat (first | ((with_reducible show ∃ _, _ ∧ _); first | refine s_fI (by rfl) (by rfl) (by rfl) ?_ | refine s_fR (by rfl) (by rfl) (by rfl) ?_ | refine s_pV (by rfl) (by rfl) (Nat.le_of_ble_eq_true rfl) (by rfl) ?_) | ((with_reducible show xcls _ _ _ ∧ _); refine s_cls (by rfl) (by rfl) ?_))
      refine v_isSplitBy hM (TB.kept (fun k q1 q2 => p1 k (by omega)) hT) (hq i (by omega)).2 p2 (fun F3 y r1 r2 => ⟨fun _ => ?_, fun _ => ?_⟩)
      · exact hk (n - (i + 1)) _ (by omega) ⟨i + 1, F3, rfl, by omega, by rw [n_lit, n_add], fun k hk => by rw [r1 k (by omega) (by omega) (by omega)]; exact p1 k hk, r2⟩
      · repeat (first | ((with_reducible show ∃ _, _ ∧ _); first | refine s_fI (by rfl) (by rfl) (by rfl) ?_ | refine s_fR (by rfl) (by rfl) (by rfl) ?_ | refine s_pV (by rfl) (by rfl) (Nat.le_of_ble_eq_true rfl) (by rfl) ?_) | ((with_reducible show xcls _ _ _ ∧ _); refine s_cls (by rfl) (by rfl) ?_))
        refine v_leaveLone r2 (fun F4 u1 u2 => ?_)
        exact hk (n - (i + 1)) _ (by omega) ⟨i + 1, F4, rfl, by omega, by rw [n_lit, n_add], fun k hk => by rw [u1 k (by omega) (by omega) (by omega), r1 k (by omega) (by omega) (by omega)]; exact p1 k hk, u2⟩
  have hs4 : s < 402 := by omega
  have hc2 : s / 201 < 2 := by omega
  have hw := hM.wf hc2
  repeat (first | ((with_reducible show ∃ _, _ ∧ _); first | refine s_fI (by rfl) (by rfl) (by rfl) ?_ | refine s_fR (by rfl) (by rfl) (by rfl) ?_ | refine s_pV (by rfl) (by rfl) (Nat.le_of_ble_eq_true rfl) (by rfl) ?_) | ((with_reducible show xcls _ _ _ ∧ _); refine s_cls (by rfl) (by rfl) ?_))
  refine s_sI (i := s) (by rfl) (by rfl) (by rfl) (by rfl) (by rfl) (by exact hs4) (by decide) ?_
  repeat (first | ((with_reducible show ∃ _, _ ∧ _); first | refine s_fI (by rfl) (by rfl) (by rfl) ?_ | refine s_fR (by rfl) (by rfl) (by rfl) ?_ | refine s_pV (by rfl) (by rfl) (Nat.le_of_ble_eq_true rfl) (by rfl) ?_) | ((with_reducible show xcls _ _ _ ∧ _); refine s_cls (by rfl) (by rfl) ?_))
  refine s_sI (i := s) (by rfl) (by rfl) (by rfl) (by rfl) (by rfl) (by exact hs4) (by decide) ?_
  generalize hF1 : up (up F' 181 s 0) 182 s 0 = F1
  have k1 : ∀ k, k ≠ 181 → k ≠ 182 → F1 k = F' k := fun k q1 q2 => by rw [← hF1, up_k q2, up_k q1]
  have e181 : ∀ t, F1 181 t = if t = s then 0 else F' 181 t := fun t => by rw [← hF1, up_k (by decide), up_i]
  have e182 : ∀ t, F1 182 t = if t = s then 0 else F' 182 t := fun t => by rw [← hF1, up_i, up_k (by decide)]
  rw [(n_spot hs4).2, (n_spot hs4).1]
  refine cs_aR hc2 ?_
  refine c_cls (b_of hc2) ?_
  have hKC1 : KC (20 * (s / 201)) F1 (K (s / 201)) := KC.kept (fun k q1 q2 => by rw [k1 k (by omega) (by omega), g1 k (by omega)]) (hK _ hc2)
  unfold wp_Likeness_sort_104
  refine v_isDefined (C := K (s / 201)) (b_of hc2) (hKC1.1 0 (by decide)) hKC1.2.1 hw.1.1 hw.2.1.1 (fun hno => ⟨fun _ => ?_, fun hh => absurd rfl hh⟩) (fun l hl hdl => ⟨fun hh => absurd hh (by decide), fun _ => ?_⟩)
  · have hnd : ¬ dsp K s := fun hd => hno _ rfl hd.2
    refine hk (402 - (s + 1)) _ (by omega) ⟨s + 1, oc, F1, o, rfl, by omega, by omega, by rw [n_lit, n_add], fun k hk => by rw [k1 k (by omega) (by omega)]; exact g1 k hk, fun s' hs' hd => ?_, by rw [k1 180 (by decide) (by decide)]; exact g3, fun i hi => ?_, g5, fun s' hs' hd => ?_⟩
    · have hne : s' ≠ s := fun e0 => hnd (e0 ▸ hd)
      rw [e181, e182, if_neg hne, if_neg hne]; exact g2 s' (by omega) hd
    · rw [k1 186 (by decide) (by decide)]
      have := g4 i hi
      exact ⟨this.1, this.2.1, by omega⟩
    · have hne : s' ≠ s := fun e0 => hnd (e0 ▸ hd)
      exact g6 s' (by omega) hd
  · have hl1 := hw.lit hdl
    have hll := n_inj (by omega) (by omega) hl
    have hd : dsp K s := ⟨hs4, by rw [hll]; exact hdl⟩
    repeat (first | ((with_reducible show ∃ _, _ ∧ _); first | refine s_fI (by rfl) (by rfl) (by rfl) ?_ | refine s_fR (by rfl) (by rfl) (by rfl) ?_ | refine s_pV (by rfl) (by rfl) (Nat.le_of_ble_eq_true rfl) (by rfl) ?_) | ((with_reducible show xcls _ _ _ ∧ _); refine s_cls (by rfl) (by rfl) ?_))
    have hT1 : TB F1 K := TB.kept (fun k q1 q2 => by rw [k1 k (by omega) (by omega), g1 k (by omega)]) hT
    refine dsp_word (p := 0) hM hT1 pr0 hd (fun u hu => ?_)
    rw [bt_and1, hu 0 (by decide)]
    refine s_sI (i := s) (by rfl) (by rfl) (by rfl) (by rfl) (by rfl) (by exact hs4) (by decide) ?_
    repeat (first | ((with_reducible show ∃ _, _ ∧ _); first | refine s_fI (by rfl) (by rfl) (by rfl) ?_ | refine s_fR (by rfl) (by rfl) (by rfl) ?_ | refine s_pV (by rfl) (by rfl) (Nat.le_of_ble_eq_true rfl) (by rfl) ?_) | ((with_reducible show xcls _ _ _ ∧ _); refine s_cls (by rfl) (by rfl) ?_))
    rw [up_k (by decide), k1 180 (by decide) (by decide), g3]
    refine s_sI (i := oc) (by rfl) (by rfl) (by rfl) (by rfl) (by rfl) (by omega) (by decide) ?_
    repeat (first | ((with_reducible show ∃ _, _ ∧ _); first | refine s_fI (by rfl) (by rfl) (by rfl) ?_ | refine s_fR (by rfl) (by rfl) (by rfl) ?_ | refine s_pV (by rfl) (by rfl) (Nat.le_of_ble_eq_true rfl) (by rfl) ?_) | ((with_reducible show xcls _ _ _ ∧ _); refine s_cls (by rfl) (by rfl) ?_))
    rw [up_k (by decide), up_k (by decide), k1 180 (by decide) (by decide), g3, n_lit, n_add]
    refine hk (402 - (s + 1)) _ (by omega) ⟨s + 1, oc + 1, _, fun i => if i = oc then s else o i, rfl, by omega, by omega, by rw [n_add], fun k hk => by rw [up_k (by omega), up_k (by omega), up_k (by omega), k1 k (by omega) (by omega)]; exact g1 k hk, fun s' hs' hd' => ?_, by rw [up_i, if_pos rfl], fun i hi => ?_, fun i i' hii hi' => ?_, fun s' hs' hd' => ?_⟩
    · rw [up_k (by decide), up_k (by decide), up_k (by decide), up_k (by decide), up_k (by decide), up_i, e181, e182]
      by_cases e0 : s' = s
      · subst e0; rw [if_pos rfl, if_pos rfl]; exact ⟨rfl, rfl⟩
      · rw [if_neg e0, if_neg e0, if_neg e0]; exact g2 s' (by omega) hd'
    · rw [up_k (by decide), up_i]
      dsimp only
      by_cases e0 : i = oc
      · rw [if_pos e0, if_pos e0]; exact ⟨rfl, hd, by omega⟩
      · rw [if_neg e0, if_neg e0, up_k (by decide), k1 186 (by decide) (by decide)]
        have := g4 i (by omega)
        exact ⟨this.1, this.2.1, by omega⟩
    · show (if i = oc then s else o i) < (if i' = oc then s else o i')
      rw [if_neg (by omega)]
      by_cases e0 : i' = oc
      · rw [if_pos e0]; exact (g4 i (by omega)).2.2
      · rw [if_neg e0]; exact g5 i i' hii (by omega)
    · by_cases e0 : s' = s
      · exact ⟨oc, by omega, by show (if oc = oc then s else o oc) = s'; rw [if_pos rfl, e0]⟩
      · obtain ⟨i, hi, hio⟩ := g6 s' (by omega) hd'
        exact ⟨i, by omega, by show (if i = oc then s else o i) = s'; rw [if_neg (by omega)]; exact hio⟩
end
