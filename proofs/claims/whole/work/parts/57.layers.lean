/-! The layers. -/
def lt (F : Nat → Nat → Int32) : Nat := bif F 175 50 == 0 then 176 else 177
def sp (F : Nat → Nat → Int32) : Nat := bif F 175 50 == 0 then 177 else 176
theorem lt_cases (F : Nat → Nat → Int32) : (lt F = 176 ∧ sp F = 177 ∧ (F 175 50 == 0) = true) ∨ (lt F = 177 ∧ sp F = 176 ∧ (F 175 50 == 0) = false) := by
  unfold lt sp
  cases F 175 50 == 0
  · exact Or.inr ⟨rfl, rfl, rfl⟩
  · exact Or.inl ⟨rfl, rfl, rfl⟩
def lay (K : Nat → Nat → Nat → Nat) (k p : Nat) : Prop := isPr K p ∧ Ly (Nx K) (Wn K) (Tp K) k p
/-- what the layers know: kn of them -/
def LY (F : Nat → Nat → Int32) (K : Nat → Nat → Nat → Nat) (kn : Nat) : Prop :=
  F 175 3 = Int32.ofNat kn ∧ kn ≤ 9 ∧
  (0 < kn → ∀ p, p < 4096 → (lay K (kn - 1) p → F (lt F) p = 1) ∧ (¬ lay K (kn - 1) p → F (lt F) p = 0)) ∧
  ((F 175 4 = -1 ∧ ∀ j, j < kn → ∃ p, lay K j p) ∨ (∃ fe, fe < kn ∧ F 175 4 = Int32.ofNat fe ∧ (∀ p, ¬ lay K fe p) ∧ F 175 6 = 1 ∧ ∀ j, j < fe → ∃ p, lay K j p)) ∧
  ((F 175 5 = -1 ∧ ∀ j, j < kn → ¬ lay K j 0) ∨ (∃ fr, fr < kn ∧ F 175 5 = Int32.ofNat fr ∧ lay K fr 0 ∧ ∀ j, j < fr → ¬ lay K j 0)) ∧
  (F 175 6 = 0 ∨ (F 175 6 = 1 ∧ 0 < kn ∧ ∀ j, kn ≤ j + 1 → ∀ p, lay K j p ↔ lay K (kn - 1) p))
theorem LY.of0 {F : Nat → Nat → Int32} {K : Nat → Nat → Nat → Nat} (h : LY0 F) : LY F K 0 :=
  ⟨h.1, by decide, fun h => absurd h (by decide), Or.inl ⟨h.2.1, fun j hj => absurd hj (by omega)⟩, Or.inl ⟨h.2.2.1, fun j hj => absurd hj (by omega)⟩, Or.inl h.2.2.2⟩
theorem lay_succ {K : Nat → Nat → Nat → Nat} (hM : MK K) (k p : Nat) : lay K (k + 1) p ↔ isPr K p ∧ ∃ x, x < Wn K ∧ Tp K p x = false ∧ lay K k (Nx K p x) :=
  ⟨fun ⟨h1, x, h2, h3, h4⟩ => ⟨h1, x, h2, h3, Nx_pr hM p x, h4⟩, fun ⟨h1, x, h2, h3, _, h4⟩ => ⟨h1, x, h2, h3, h4⟩⟩
theorem lay_down {K : Nat → Nat → Nat → Nat} (hM : MK K) {k j : Nat} (h : k ≤ j) (he : ∃ p, lay K j p) : ∃ p, lay K k p := by
  induction h with
  | refl => exact he
  | @step j h ih =>
    obtain ⟨p, hp⟩ := he
    obtain ⟨_, x, _, _, h3⟩ := (lay_succ hM j p).mp hp
    exact ih ⟨_, h3⟩
section
variable {e : xenv} {F : Nat → Nat → Int32} {L : Nat → Nat → Int64} {g : xh} {z : Nat → Nat} {K : Nat → Nat → Nat → Nat}
theorem l_fR1 {P : Nat → Prop} (h : P (ad e (lt F))) : ∃ v, fR (mem e true F L g) (ad e 175) 1 1 = some v ∧ P v := s_fR (by rfl) (by rfl) (by rfl) h
theorem l_fR2 {P : Nat → Prop} (h : P (ad e (sp F))) : ∃ v, fR (mem e true F L g) (ad e 175) 1 2 = some v ∧ P v := s_fR (by rfl) (by rfl) (by rfl) h
theorem l_li {k : Nat} (h : k = 176 ∨ k = 177) : li true k = true := by rcases h with rfl | rfl <;> rfl
theorem l_ob {k : Nat} (h : k = 176 ∨ k = 177) (f : Nat → Int32) (l : Nat → Int64) : ob e true f l k = .inl (2, 4096, .inl f) := by rcases h with rfl | rfl <;> rfl
theorem lt_or (F : Nat → Nat → Int32) : lt F = 176 ∨ lt F = 177 := by rcases lt_cases F with h | h; exact Or.inl h.1; exact Or.inr h.1
theorem sp_or (F : Nat → Nat → Int32) : sp F = 176 ∨ sp F = 177 := by rcases lt_cases F with h | h; exact Or.inr h.2.1; exact Or.inl h.2.1
theorem lt_sp (F : Nat → Nat → Int32) : lt F ≠ sp F := by rcases lt_cases F with h | h <;> rw [h.1, h.2.1] <;> decide
theorem lt_eq {F F' : Nat → Nat → Int32} (h : F' 175 = F 175) : lt F' = lt F ∧ sp F' = sp F := by unfold lt sp; rw [h]; exact ⟨rfl, rfl⟩
theorem s_swap {P : xh → Prop} (h : ∀ F', (∀ k, k ≠ 175 → F' k = F k) → (∀ j, j ≠ 50 → F' 175 j = F 175 j) → lt F' = sp F → sp F' = lt F → P (mem e true F' L g)) : ∃ h3, pV (mem e true F L g) (ad e 175) 1 2 (.ref (ad e (lt F))) = some h3 ∧ ∃ h4, pV h3 (ad e 175) 1 1 (.ref (ad e (sp F))) = some h4 ∧ P h4 := by
  have ho : mem e true F L g (ad e 175) = some (.inr (1, [.ref (ad e 165), .ref (ad e (lt F)), .ref (ad e (sp F)), .int (F 175 3), .int (F 175 4), .int (F 175 5), .int (F 175 6)])) := mem_at (by rfl)
  refine ⟨xset (mem e true F L g) (ad e 175) (.inr (1, [.ref (ad e 165), .ref (ad e (lt F)), .ref (ad e (lt F)), .int (F 175 3), .int (F 175 4), .int (F 175 5), .int (F 175 6)])), ?_, ?_⟩
  · simp only [pV, ho]; rfl
  · refine ⟨mem e true (up F 175 50 (bif F 175 50 == 0 then 1 else 0)) L g, ?_, ?_⟩
    · simp only [pV, xset_eq]
      rw [if_pos ⟨trivial, Nat.le_of_ble_eq_true rfl⟩]
      congr 1
      have hx : ∀ (h : xh) (a : Nat) (o o' : xo), xset (xset h a o) a o' = xset h a o' := fun h a o o' => by
        funext q
        by_cases e0 : q = a
        · subst e0; rw [xset_eq, xset_eq]
        · rw [xset_ne e0, xset_ne e0, xset_ne e0]
      rw [hx]
      refine mem_set (by rfl) ?_ (fun k' hk => up_k hk) (fun k' hk => rfl)
      have e1 : up F 175 50 (bif F 175 50 == 0 then 1 else 0) 175 = upd (F 175) 50 (bif F 175 50 == 0 then 1 else 0) := by rw [up, if_pos rfl]
      rw [e1]
      rcases lt_cases F with ⟨h1, h2, h3⟩ | ⟨h1, h2, h3⟩ <;> rw [h3, h1, h2] <;> rfl
    · refine h _ (fun k hk => up_k hk) (fun j hj => by rw [up_i, if_neg hj]) ?_ ?_
      · unfold lt sp; rw [up_i, if_pos rfl]; cases F 175 50 == 0 <;> rfl
      · unfold lt sp; rw [up_i, if_pos rfl]; cases F 175 50 == 0 <;> rfl
theorem v_isInLayer {Q : Int32 → xh → Prop} {kn p : Nat} (hM : MK K) (hT : TB F K) (hp : isPr K p) (hk3 : F 175 3 = Int32.ofNat kn) (hk9 : kn ≤ 9) (hl : 0 < kn → ∀ p, p < 4096 → (lay K (kn - 1) p → F (lt F) p = 1) ∧ (¬ lay K (kn - 1) p → F (lt F) p = 0)) (h1 : lay K kn p → Q 1 (mem e true F L g)) (h0 : ¬ lay K kn p → Q 0 (mem e true F L g)) : wp_Layers_isInLayer z Q (ad e 175) (Int32.ofNat p) (mem e true F L g) := by
  have hWn := Wn_le hM
  unfold wp_Layers_isInLayer
  repeat (first | ((with_reducible show ∃ _, _ ∧ _); first | refine s_fI (by rfl) (by rfl) (by rfl) ?_ | refine s_fR (by rfl) (by rfl) (by rfl) ?_ | refine s_pV (by rfl) (by rfl) (Nat.le_of_ble_eq_true rfl) (by rfl) ?_) | ((with_reducible show xcls _ _ _ ∧ _); refine s_cls (by rfl) (by rfl) ?_))
  refine v_telling hM hT hp (fun y hy => ?_)
  repeat (first | ((with_reducible show ∃ _, _ ∧ _); first | refine s_fI (by rfl) (by rfl) (by rfl) ?_ | refine s_fR (by rfl) (by rfl) (by rfl) ?_ | refine s_pV (by rfl) (by rfl) (Nat.le_of_ble_eq_true rfl) (by rfl) ?_) | ((with_reducible show xcls _ _ _ ∧ _); refine s_cls (by rfl) (by rfl) ?_))
  rw [hk3]
  refine ⟨fun hc => ?_, fun hc => ?_⟩
  rotate_left
  · have hkn : kn = 0 := n_inj (b := 0) (by omega) (by decide) hc
    subst hkn
    refine ⟨fun hy0 => h0 ?_, fun hy0 => h1 ⟨hp, ?_⟩⟩
    · rintro ⟨_, x, hx, ht⟩
      rw [← hy x (by omega), hy0, bt_zero] at ht; cases ht
    · apply Classical.byContradiction
      intro hno
      apply hy0
      apply bt_ext
      intro i hi
      rw [bt_zero, hy i hi]
      cases hb : Tp K p i
      · rfl
      · refine absurd ⟨i % Wn K, Nat.mod_lt _ hWn.1, ?_⟩ hno
        rw [← hb]
        unfold Tp Ul ou
        rw [va_per hM (c := 0) (by decide) _ i, va_per hM (c := 1) (by decide) _ i]
  · have hkn : 0 < kn := by
      rcases Nat.eq_zero_or_pos kn with e0 | e0
      · rw [e0] at hc; exact absurd rfl hc
      · exact e0
    obtain ⟨k, rfl⟩ : ∃ k, kn = k + 1 := ⟨kn - 1, by omega⟩
    unfold wp_Layers_isInLayer_28
    refine xloop_dn (fun m a => ∃ x, m = Wn K - x ∧ x ≤ Wn K ∧ a = (ad e 175, Int32.ofNat p, y, Int32.ofNat x, mem e true F L g) ∧ ∀ x', x' < x → ¬ (Tp K p x' = false ∧ lay K k (Nx K p x'))) ?_ (Wn K) _ ⟨0, rfl, Nat.zero_le _, rfl, fun x' hx' => by omega⟩
    rintro m a cc ⟨x, rfl, hx1, rfl, g1⟩ hk
    unfold wp_Layers_isInLayer_28_b; dsimp only
    unfold wp_Layers_isInLayer_66
    repeat (first | ((with_reducible show ∃ _, _ ∧ _); first | refine s_fI (by rfl) (by rfl) (by rfl) ?_ | refine s_fR (by rfl) (by rfl) (by rfl) ?_ | refine s_pV (by rfl) (by rfl) (Nat.le_of_ble_eq_true rfl) (by rfl) ?_) | ((with_reducible show xcls _ _ _ ∧ _); refine s_cls (by rfl) (by rfl) ?_))
    rw [hT.1]
    refine ⟨fun hc2 => ?_, fun hc2 => ?_⟩
    · rw [n_le (by omega) (by omega)] at hc2
      refine h0 (fun hlay => ?_)
      obtain ⟨_, x', hx', ht, hl'⟩ := (lay_succ hM k p).mp hlay
      exact g1 x' (by omega) ⟨ht, hl'⟩
    rw [n_le (by omega) (by omega)] at hc2
    have hnext : ¬ (Tp K p x = false ∧ lay K k (Nx K p x)) → cc (ad e 175, Int32.ofNat p, y, Int32.ofNat x + 1, mem e true F L g) := by
      intro hno
      refine hk (Wn K - (x + 1)) _ (by omega) ⟨x + 1, rfl, by omega, by rw [n_lit, n_add], fun x' hx' => ?_⟩
      by_cases e0 : x' = x
      · rw [e0]; exact hno
      · exact g1 x' (by omega)
    rw [bt_shr1 y (by omega), hy x (by omega)]
    refine ⟨fun hb => hnext (fun hh => ?_), fun hb => ?_⟩
    · rw [hh.1] at hb; exact hb rfl
    · have htf : Tp K p x = false := by
        cases hq : Tp K p x
        · rfl
        · rw [hq] at hb; exact absurd hb (by decide)
      refine l_fR1 ?_
      repeat (first | ((with_reducible show ∃ _, _ ∧ _); first | refine s_fI (by rfl) (by rfl) (by rfl) ?_ | refine s_fR (by rfl) (by rfl) (by rfl) ?_ | refine s_pV (by rfl) (by rfl) (Nat.le_of_ble_eq_true rfl) (by rfl) ?_) | ((with_reducible show xcls _ _ _ ∧ _); refine s_cls (by rfl) (by rfl) ?_))
      refine v_next hM hT hp (by omega) ?_
      refine s_aI (i := Nx K p x) (l_li (lt_or F)) (l_ob (lt_or F) _ _) rfl rfl (Nx_lt hM _ _) (by decide) ?_
      have := hl (by omega) (Nx K p x) (Nx_lt hM _ _)
      rw [Nat.add_sub_cancel] at this
      by_cases hly : lay K k (Nx K p x)
      · rw [this.1 hly]
        exact ⟨fun h => absurd h (by decide), fun _ => h1 ((lay_succ hM k p).mpr ⟨hp, x, by omega, htf, hly⟩)⟩
      · rw [this.2 hly]
        exact ⟨fun _ => hnext (fun hh => hly hh.2), fun h => absurd rfl h⟩
/-- a layer that is as the one ahead: so are all behind -/
theorem lay_steady (hM : MK K) {k : Nat} (h : ∀ p, lay K (k + 1) p ↔ lay K k p) : ∀ j, k ≤ j → ∀ p, lay K j p ↔ lay K k p := by
  intro j hj
  induction hj with
  | refl => intro p; exact Iff.rfl
  | @step j hj ih =>
    intro p
    rw [← h p, lay_succ hM, lay_succ hM]
    constructor
    · rintro ⟨h1, x, h2, h3, h4⟩
      exact ⟨h1, x, h2, h3, (ih _).mp h4⟩
    · rintro ⟨h1, x, h2, h3, h4⟩
      exact ⟨h1, x, h2, h3, (ih _).mpr h4⟩
theorem v_addLayer {Q : xh → Prop} {kn : Nat} (hM : MK K) (hT : TB F K) (hL : LY F K kn) (h9 : kn < 9) (h6 : F 175 6 = 0) (h : ∀ F', (∀ k, k < 175 ∨ 177 < k → F' k = F k) → F' 175 3 = Int32.ofNat kn → LY (up F' 175 3 (Int32.ofNat (kn + 1))) K (kn + 1) → Q (mem e true F' L g)) : wp_Layers_addLayer z Q (ad e 175) (mem e true F L g) := by
  obtain ⟨l1, l2, l3, l4, l5, l6⟩ := hL
  have hlt := lt_or F
  have hsp := sp_or F
  have hls := lt_sp F
  have h4' : F 175 4 = -1 ∧ ∀ j, j < kn → ∃ p, lay K j p := by
    rcases l4 with l4 | ⟨fe, _, _, _, hh, _⟩
    · exact l4
    · rw [h6] at hh; exact absurd hh (by decide)
  unfold wp_Layers_addLayer wp_Layers_addLayer_14
  repeat (first | ((with_reducible show ∃ _, _ ∧ _); first | refine s_fI (by rfl) (by rfl) (by rfl) ?_ | refine s_fR (by rfl) (by rfl) (by rfl) ?_ | refine s_pV (by rfl) (by rfl) (Nat.le_of_ble_eq_true rfl) (by rfl) ?_) | ((with_reducible show xcls _ _ _ ∧ _); refine s_cls (by rfl) (by rfl) ?_))
  rw [l1]
  have main : wp_Layers_addLayer_17 z Q (ad e 175) 1 (if kn = 0 then 1 else 0) 0 (mem e true F L g) := by
    unfold wp_Layers_addLayer_17
    refine xloop_dn (fun m a => ∃ p F' em ch, m = 4096 - p ∧ p ≤ 4096 ∧ a = (ad e 175, em, ch, Int32.ofNat p, mem e true F' L g) ∧ (∀ k, k ≠ sp F → F' k = F k) ∧ (∀ p', p' < p → (lay K kn p' → F' (sp F) p' = 1) ∧ (¬ lay K kn p' → F' (sp F) p' = 0)) ∧ ((em = 1 ∧ ∀ p', p' < p → ¬ lay K kn p') ∨ (em = 0 ∧ ∃ p', lay K kn p')) ∧ ((ch = 0 ∧ 0 < kn ∧ ∀ p', p' < p → (lay K kn p' ↔ lay K (kn - 1) p')) ∨ ch = 1)) ?_ 4096 _ ⟨0, F, 1, _, rfl, by omega, rfl, fun _ _ => rfl, fun p' hp' => by omega, Or.inl ⟨rfl, fun p' hp' => by omega⟩, ?_⟩
    rotate_left
    · by_cases e0 : kn = 0
      · rw [if_pos e0]; exact Or.inr rfl
      · rw [if_neg e0]; exact Or.inl ⟨rfl, by omega, fun p' hp' => by omega⟩
    rintro m a cc ⟨p, F', em, ch, rfl, hp1, rfl, g1, g2, g3, g4⟩ hk
    have f175 : F' 175 = F 175 := g1 175 (by rcases hsp with h1 | h1 <;> rw [h1] <;> decide)
    obtain ⟨elt, esp⟩ := lt_eq f175
    have hT' : TB F' K := TB.kept (fun k q1 q2 => g1 k (by rcases hsp with h1 | h1 <;> rw [h1] <;> omega)) hT
    unfold wp_Layers_addLayer_17_b; dsimp only
    refine ⟨fun hc => ?_, fun hc => ?_⟩ <;> rw [n_lit, n_le (by decide) (by omega)] at hc
    · have : p = 4096 := by omega
      subst this
      refine l_fR2 ?_
      refine l_fR1 ?_
      refine s_swap (fun F2 r1 r2 r3 r4 => ?_)
      -- all pairs have been looked at
      have allp : ∀ p', ¬ p' < 4096 → ¬ lay K kn p' := fun p' hp' hl => hp' (hl.1.lt hM)
      have e3 : F2 175 3 = Int32.ofNat kn := by rw [r2 3 (by decide), f175]; exact l1
      have e4 : F2 175 4 = -1 := by rw [r2 4 (by decide), f175]; exact h4'.1
      have e5 : F2 175 5 = F 175 5 := by rw [r2 5 (by decide), f175]
      have r3' : lt F2 = sp F := by rw [r3, esp]
      have hnew : ∀ p', p' < 4096 → (lay K kn p' → F2 (sp F) p' = 1) ∧ (¬ lay K kn p' → F2 (sp F) p' = 0) := fun p' hp' => by
        rw [r1 (sp F) (by rcases hsp with h1 | h1 <;> rw [h1] <;> decide)]; exact g2 p' hp'
      have hFk : ∀ k, k < 175 ∨ 177 < k → F2 k = F k := fun k hk => by
        rw [r1 k (by omega), g1 k (by rcases hsp with h1 | h1 <;> rw [h1] <;> omega)]
      -- the end of it, whatever was written into the fields
      have fin : ∀ (s1 : Int32), ((em = 1 ∧ s1 = 1) ∨ (em = 0 ∧ ch = 0 ∧ s1 = 1) ∨ (em = 0 ∧ ch = 1 ∧ s1 = 0)) → wp_Layers_addLayer_136 z Q (ad e 175) em s1 (ad e 175) (mem e true F2 L g) := by
        intro s1 hs1
        unfold wp_Layers_addLayer_136
        refine ⟨by unfold xbl; rcases hs1 with hh | hh | hh <;> simp [hh], ?_⟩
        repeat (first | ((with_reducible show ∃ _, _ ∧ _); first | refine s_fI (by rfl) (by rfl) (by rfl) ?_ | refine s_fR (by rfl) (by rfl) (by rfl) ?_ | refine s_pV (by rfl) (by rfl) (Nat.le_of_ble_eq_true rfl) (by rfl) ?_) | ((with_reducible show xcls _ _ _ ∧ _); refine s_cls (by rfl) (by rfl) ?_))
        have emp : em = 1 ↔ ∀ p', ¬ lay K kn p' := by
          constructor
          · intro he
            rcases g3 with ⟨_, hh⟩ | ⟨hh, _⟩
            · intro p'
              by_cases hp' : p' < 4096
              · exact hh p' hp'
              · exact allp p' hp'
            · rw [he] at hh; exact absurd hh (by decide)
          · intro he
            rcases g3 with ⟨hh, _⟩ | ⟨_, p', hh⟩
            · exact hh
            · exact absurd hh (he p')
        have last : ∀ F3, (∀ k, k ≠ 175 → F3 k = F2 k) → (∀ j, j ≠ 4 → j ≠ 6 → F3 175 j = F2 175 j) → F3 175 6 = s1 → ((em = 0 ∧ F3 175 4 = -1) ∨ (em = 1 ∧ F3 175 4 = Int32.ofNat kn)) → wp_Layers_addLayer_151 z Q (ad e 175) (mem e true F3 L g) := by
          intro F3 u1 u2 u3 u4
          have elt3 : lt F3 = sp F := by
            rw [← r3']; unfold lt; rw [u2 50 (by decide) (by decide)]
          have emne : em = 0 ∨ em = 1 := by
            rcases g3 with hh | hh
            · exact Or.inr hh.1
            · exact Or.inl hh.1
          have concl : ∀ F4, (∀ k, k ≠ 175 → F4 k = F3 k) → (∀ j, j ≠ 5 → F4 175 j = F3 175 j) → ((F4 175 5 = -1 ∧ ∀ j, j < kn + 1 → ¬ lay K j 0) ∨ (∃ fr, fr < kn + 1 ∧ F4 175 5 = Int32.ofNat fr ∧ lay K fr 0 ∧ ∀ j, j < fr → ¬ lay K j 0)) → Q (mem e true F4 L g) := by
            intro F4 v1 v2 v3
            have ltF : lt (up F4 175 3 (Int32.ofNat (kn + 1))) = sp F := by
              rw [← elt3]; unfold lt; rw [up_i, if_neg (by decide), v2 50 (by decide)]
            refine h F4 (fun k hk => by rw [v1 k (by omega), u1 k (by omega)]; exact hFk k hk) (by rw [v2 3 (by decide), u2 3 (by decide) (by decide)]; exact e3) ⟨by rw [up_i, if_pos rfl], by omega, fun _ p' hp' => ?_, ?_, ?_, ?_⟩
            · rw [ltF, up_k (by rcases hsp with h1 | h1 <;> rw [h1] <;> decide), v1 (sp F) (by rcases hsp with h1 | h1 <;> rw [h1] <;> decide), u1 (sp F) (by rcases hsp with h1 | h1 <;> rw [h1] <;> decide)]
              exact hnew p' hp'
            · rcases u4 with ⟨hm, hu⟩ | ⟨hm, hu⟩
              · left
                refine ⟨by rw [up_i, if_neg (by decide), v2 4 (by decide)]; exact hu, fun j hj => ?_⟩
                by_cases ej : j = kn
                · subst ej
                  apply Classical.byContradiction
                  intro hno
                  have := emp.mpr (fun p' hp' => hno ⟨p', hp'⟩)
                  rw [hm] at this; exact absurd this (by decide)
                · exact h4'.2 j (by omega)
              · right
                refine ⟨kn, by omega, by rw [up_i, if_neg (by decide), v2 4 (by decide)]; exact hu, emp.mp hm, ?_, h4'.2⟩
                rw [up_i, if_neg (by decide), v2 6 (by decide), u3]
                rcases hs1 with hh | hh | hh
                · exact hh.2
                · exact hh.2.2
                · rw [hm] at hh; exact absurd hh.1 (by decide)
            · rw [up_i, if_neg (by decide)]; exact v3
            · rw [up_i, if_neg (by decide), v2 6 (by decide), u3]
              rcases hs1 with hh | hh | hh
              · right
                refine ⟨hh.2, by omega, fun j hj p' => ?_⟩
                have hem := emp.mp hh.1
                have hno : ∀ j, kn ≤ j → ∀ p', ¬ lay K j p' := fun j hj p' hp' => by
                  obtain ⟨q, hq⟩ := lay_down hM hj ⟨p', hp'⟩
                  exact hem q hq
                exact ⟨fun hp' => absurd hp' (hno j (by omega) p'), fun hp' => absurd hp' (hno kn (Nat.le_refl _) p')⟩
              · right
                refine ⟨hh.2.2, by omega, ?_⟩
                rcases g4 with ⟨_, hk0, hiff⟩ | hc1
                · obtain ⟨k', rfl⟩ : ∃ k', kn = k' + 1 := ⟨kn - 1, by omega⟩
                  have hall : ∀ p', lay K (k' + 1) p' ↔ lay K k' p' := fun p' => by
                    by_cases hp' : p' < 4096
                    · exact hiff p' hp'
                    · exact ⟨fun hl => absurd (hl.1.lt hM) hp', fun hl => absurd (hl.1.lt hM) hp'⟩
                  intro j hj p'
                  have s1 := lay_steady hM hall j (by omega) p'
                  have s2 := lay_steady hM hall (k' + 1) (by omega) p'
                  rw [s1, ← s2]; rfl
                · rw [hh.2.1] at hc1; exact absurd hc1 (by decide)
              · left; exact hh.2.2
          unfold wp_Layers_addLayer_151
          refine l_fR1 ?_
          refine s_aI (i := 0) (l_li (lt_or F3)) (l_ob (lt_or F3) _ _) rfl rfl (by decide) (by decide) ?_
          rw [elt3, u1 (sp F) (by rcases hsp with h1 | h1 <;> rw [h1] <;> decide)]
          have h50 : F3 175 5 = F 175 5 := by rw [u2 5 (by decide) (by decide)]; exact e5
          by_cases hl0 : lay K kn 0
          · rw [(hnew 0 (by decide)).1 hl0]
            refine ⟨fun hh => absurd hh (by decide), fun _ => ?_⟩
            repeat (first | ((with_reducible show ∃ _, _ ∧ _); first | refine s_fI (by rfl) (by rfl) (by rfl) ?_ | refine s_fR (by rfl) (by rfl) (by rfl) ?_ | refine s_pV (by rfl) (by rfl) (Nat.le_of_ble_eq_true rfl) (by rfl) ?_) | ((with_reducible show xcls _ _ _ ∧ _); refine s_cls (by rfl) (by rfl) ?_))
            rw [h50]
            rcases l5 with ⟨w1, w2⟩ | ⟨fr, w1, w2, w3, w4⟩
            · rw [w1]
              refine ⟨fun hh => absurd rfl hh, fun _ => ?_⟩
              repeat (first | ((with_reducible show ∃ _, _ ∧ _); first | refine s_fI (by rfl) (by rfl) (by rfl) ?_ | refine s_fR (by rfl) (by rfl) (by rfl) ?_ | refine s_pV (by rfl) (by rfl) (Nat.le_of_ble_eq_true rfl) (by rfl) ?_) | ((with_reducible show xcls _ _ _ ∧ _); refine s_cls (by rfl) (by rfl) ?_))
              rw [u2 3 (by decide) (by decide), e3]
              refine concl _ (fun k hk => up_k hk) (fun j hj => by rw [up_i, if_neg hj]) (Or.inr ⟨kn, by omega, by rw [up_i, if_pos rfl], hl0, w2⟩)
            · rw [w2]
              refine ⟨fun _ => ?_, fun hh => absurd (n_inj (b := 4294967295) (by omega) (by decide) hh) (by omega)⟩
              exact concl F3 (fun _ _ => rfl) (fun _ _ => rfl) (Or.inr ⟨fr, by omega, by rw [h50]; exact w2, w3, w4⟩)
          · rw [(hnew 0 (by decide)).2 hl0]
            refine ⟨fun _ => ?_, fun hh => absurd rfl hh⟩
            refine concl F3 (fun _ _ => rfl) (fun _ _ => rfl) ?_
            rcases l5 with ⟨w1, w2⟩ | ⟨fr, w1, w2, w3, w4⟩
            · left
              refine ⟨by rw [h50]; exact w1, fun j hj => ?_⟩
              by_cases ej : j = kn
              · rw [ej]; exact hl0
              · exact w2 j (by omega)
            · right; exact ⟨fr, by omega, by rw [h50]; exact w2, w3, w4⟩
        refine ⟨fun hz => last _ (fun k hk => up_k hk) (fun j q1 q2 => by rw [up_i, if_neg q2]) (by rw [up_i, if_pos rfl]) (Or.inl ⟨hz, by rw [up_i, if_neg (by decide)]; exact e4⟩), fun hz => ?_⟩
        repeat (first | ((with_reducible show ∃ _, _ ∧ _); first | refine s_fI (by rfl) (by rfl) (by rfl) ?_ | refine s_fR (by rfl) (by rfl) (by rfl) ?_ | refine s_pV (by rfl) (by rfl) (Nat.le_of_ble_eq_true rfl) (by rfl) ?_) | ((with_reducible show xcls _ _ _ ∧ _); refine s_cls (by rfl) (by rfl) ?_))
        rw [up_i, if_neg (by decide), e3]
        refine last _ (fun k hk => by rw [up_k hk, up_k hk]) (fun j q1 q2 => by rw [up_i, if_neg q1, up_i, if_neg q2]) (by rw [up_i, if_neg (by decide), up_i, if_pos rfl]) (Or.inr ⟨?_, by rw [up_i, if_pos rfl]⟩)
        rcases g3 with hh | hh
        · exact hh.1
        · exact absurd hh.1 hz
      unfold wp_Layers_addLayer_131
      refine ⟨fun hz => fin 1 (Or.inl ⟨?_, rfl⟩), fun hz => ⟨fun hy => fin 0 (Or.inr (Or.inr ⟨hz, ?_, rfl⟩)), fun hy => fin 1 (Or.inr (Or.inl ⟨hz, hy, rfl⟩))⟩⟩
      · rcases g3 with hh | hh
        · exact hh.1
        · exact absurd hh.1 hz
      · rcases g4 with hh | hh
        · exact absurd hh.1 hy
        · exact hh
    -- one pair more
    have hp4 : p < 4096 := by omega
    refine l_fR2 ?_
    repeat (first | ((with_reducible show ∃ _, _ ∧ _); first | refine s_fI (by rfl) (by rfl) (by rfl) ?_ | refine s_fR (by rfl) (by rfl) (by rfl) ?_ | refine s_pV (by rfl) (by rfl) (Nat.le_of_ble_eq_true rfl) (by rfl) ?_) | ((with_reducible show xcls _ _ _ ∧ _); refine s_cls (by rfl) (by rfl) ?_))
    rw [esp]
    have wr : ∀ s2 : Int32, (lay K kn p → s2 = 1) → (¬ lay K kn p → s2 = 0) → wp_Layers_addLayer_53 z Q cc (ad e 175) em ch (Int32.ofNat p) s2 (Int32.ofNat p) (ad e (sp F)) (mem e true F' L g) := by
      intro s2 hs1 hs0
      have hs01 : s2 = 0 ∨ s2 = 1 := by
        by_cases hl : lay K kn p
        · exact Or.inr (hs1 hl)
        · exact Or.inl (hs0 hl)
      have hnar : vp_nar .boolean s2 = s2 := by rcases hs01 with rfl | rfl <;> rfl
      unfold wp_Layers_addLayer_53
      rw [hnar]
      refine s_sI2 (i := p) (l_li hsp) (fun f => l_ob hsp f _) rfl hp4 (by decide) ?_
      generalize hF3 : up F' (sp F) p s2 = F3
      have k3 : ∀ k, k ≠ sp F → F3 k = F k := fun k hk => by rw [← hF3, up_k hk, g1 k hk]
      have v3 : ∀ p', p' < p + 1 → (lay K kn p' → F3 (sp F) p' = 1) ∧ (¬ lay K kn p' → F3 (sp F) p' = 0) := fun p' hp' => by
        rw [← hF3, up_i]
        by_cases e0 : p' = p
        · subst e0; rw [if_pos rfl]; exact ⟨hs1, hs0⟩
        · rw [if_neg e0]; exact g2 p' (by omega)
      have f3175 : F3 175 = F 175 := k3 175 (by rcases hsp with h1 | h1 <;> rw [h1] <;> decide)
      obtain ⟨elt3, esp3⟩ := lt_eq f3175
      have hv : F3 (sp F) p = s2 := by rw [← hF3, up_i, if_pos rfl]
      -- the last flag
      have step2 : ∀ em', ((em' = 1 ∧ ∀ p', p' < p + 1 → ¬ lay K kn p') ∨ (em' = 0 ∧ ∃ p', lay K kn p')) → wp_Layers_addLayer_72 z Q cc (ad e 175) ch (Int32.ofNat p) em' (mem e true F3 L g) := by
        intro em' hem
        unfold wp_Layers_addLayer_72 wp_Layers_addLayer_92 wp_Layers_addLayer_97
        have go : ∀ ch', ((ch' = 0 ∧ 0 < kn ∧ ∀ p', p' < p + 1 → (lay K kn p' ↔ lay K (kn - 1) p')) ∨ ch' = 1) → cc (ad e 175, em', ch', Int32.ofNat p + 1, mem e true F3 L g) := fun ch' hch =>
          hk (4096 - (p + 1)) _ (by omega) ⟨p + 1, F3, em', ch', rfl, by omega, by rw [n_lit, n_add], k3, v3, hem, hch⟩
        refine ⟨fun _ => go 1 (Or.inr rfl), fun hch0 => ?_⟩
        rcases g4 with ⟨c1, c2, c3⟩ | c1
        · refine l_fR2 ?_
          rw [esp3]
          refine s_aI (i := p) (l_li hsp) (l_ob hsp _ _) rfl rfl hp4 (by decide) ?_
          refine l_fR1 ?_
          rw [elt3]
          refine s_aI (i := p) (l_li hlt) (l_ob hlt _ _) rfl rfl hp4 (by decide) ?_
          rw [k3 (lt F) hls, hv]
          have hold := l3 c2 p hp4
          have iffp : s2 = F (lt F) p ↔ (lay K kn p ↔ lay K (kn - 1) p) := by
            by_cases ha : lay K kn p
            · by_cases hb : lay K (kn - 1) p
              · rw [hs1 ha, hold.1 hb]; exact ⟨fun _ => ⟨fun _ => hb, fun _ => ha⟩, fun _ => rfl⟩
              · rw [hs1 ha, hold.2 hb]; exact ⟨fun hh => absurd hh (by decide), fun hh => absurd (hh.mp ha) hb⟩
            · by_cases hb : lay K (kn - 1) p
              · rw [hs0 ha, hold.1 hb]; exact ⟨fun hh => absurd hh (by decide), fun hh => absurd (hh.mpr hb) ha⟩
              · rw [hs0 ha, hold.2 hb]; exact ⟨fun _ => ⟨fun hh => absurd hh ha, fun hh => absurd hh hb⟩, fun _ => rfl⟩
          refine ⟨fun heq => go 0 (Or.inl ⟨rfl, c2, fun p' hp' => ?_⟩), fun _ => go 1 (Or.inr rfl)⟩
          by_cases e0 : p' = p
          · rw [e0]; exact iffp.mp heq
          · exact c3 p' (by omega)
        · rw [c1] at hch0; exact absurd hch0 (by decide)
      unfold wp_Layers_addLayer_71
      refine ⟨fun hz => step2 0 (Or.inr ⟨rfl, ?_⟩), fun hz => ?_⟩
      · rcases g3 with hh | hh
        · rw [hh.1] at hz; exact absurd hz (by decide)
        · exact hh.2
      · refine l_fR2 ?_
        rw [esp3]
        refine s_aI (i := p) (l_li hsp) (l_ob hsp _ _) rfl rfl hp4 (by decide) ?_
        rw [hv]
        refine ⟨fun hne => step2 0 (Or.inr ⟨rfl, p, ?_⟩), fun he => step2 1 (Or.inl ⟨rfl, fun p' hp' => ?_⟩)⟩
        · apply Classical.byContradiction
          intro hno
          exact hne (hs0 hno)
        · by_cases e0 : p' = p
          · rw [e0]; intro hl; rw [hs1 hl] at he; exact absurd he (by decide)
          · rcases g3 with hh | hh
            · exact hh.2 p' (by omega)
            · exact absurd hh.1 hz
    unfold wp_Layers_addLayer_52
    refine v_isPair hM hT' hp4 (fun hno => ⟨fun _ => wr 0 (fun hl => absurd hl.1 hno) (fun _ => rfl), fun hh => absurd rfl hh⟩) (fun hpr => ⟨fun hh => absurd hh (by decide), fun _ => ?_⟩)
    repeat (first | ((with_reducible show ∃ _, _ ∧ _); first | refine s_fI (by rfl) (by rfl) (by rfl) ?_ | refine s_fR (by rfl) (by rfl) (by rfl) ?_ | refine s_pV (by rfl) (by rfl) (Nat.le_of_ble_eq_true rfl) (by rfl) ?_) | ((with_reducible show xcls _ _ _ ∧ _); refine s_cls (by rfl) (by rfl) ?_))
    refine v_isInLayer (kn := kn) hM hT' hpr (by rw [f175]; exact l1) (by omega) (fun h0 p' hp' => ?_) (fun hl => ⟨fun hh => absurd hh (by decide), fun _ => wr 1 (fun _ => rfl) (fun hn => absurd hl hn)⟩) (fun hl => ⟨fun _ => wr 0 (fun hy => absurd hy hl) (fun _ => rfl), fun hh => absurd rfl hh⟩)
    rw [elt, g1 (lt F) hls]; exact l3 h0 p' hp'
  refine ⟨fun hc => ?_, fun hc => ?_⟩
  · rw [if_neg (fun e0 => hc (by rw [e0]; rfl))] at main; exact main
  · rw [if_pos (n_inj (b := 0) (by omega) (by decide) hc)] at main; exact main
end
