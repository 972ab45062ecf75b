/-! Circuits as pictures C : Nat → Nat → Nat (C 0: sizes; 1: inputs; 2: latches; 3: nexts; 4: outputs; 5, 6, 7: ands by ORDER, their operands; 8: kinds; 9, 10: names; 11: places of the ands in the file), what their literals are, and settle. -/
def KC (b : Nat) (F : Nat → Nat → Int32) (C : Nat → Nat → Nat) : Prop :=
  (∀ j, j < 5 → F b (1 + j) = Int32.ofNat (C 0 j)) ∧
  (∀ v, v < 201 → F (b + 1) v = Int32.ofNat (C 8 v)) ∧
  (∀ y, y < C 0 4 → F (b + 8) y = Int32.ofNat (C 5 y) ∧ F (b + 2) (C 5 y) = Int32.ofNat (C 6 y) ∧ F (b + 3) (C 5 y) = Int32.ofNat (C 7 y)) ∧
  (∀ k, k < C 0 1 → F (b + 4) k = Int32.ofNat (C 1 k)) ∧
  (∀ k, k < C 0 2 → F (b + 5) k = Int32.ofNat (C 2 k) ∧ F (b + 6) k = Int32.ofNat (C 3 k)) ∧
  (∀ k, k < C 0 3 → F (b + 7) k = Int32.ofNat (C 4 k)) ∧
  (∀ s, s < 19 → F (b + 10) s = Int32.ofNat (C 9 s) ∧ ∀ i, i < C 9 s → bv (F (b + 9) (40 * s + i)) = C 10 (40 * s + i))
/-- a literal that is there and defined -/
def dl (C : Nat → Nat → Nat) (l : Nat) : Prop := l ≤ 2 * C 0 0 + 1 ∧ (l < 2 ∨ C 8 (l / 2) ≠ 0)
def WF (C : Nat → Nat → Nat) : Prop :=
  (C 0 0 ≤ 200 ∧ C 0 1 ≤ 5 ∧ C 0 2 ≤ 6 ∧ C 0 3 ≤ 8 ∧ C 0 4 ≤ 150) ∧
  ((∀ v, C 8 v ≤ 3) ∧ C 8 0 = 0 ∧ (∀ v, C 8 v ≠ 0 → v ≤ C 0 0)) ∧
  ((∀ k, k < C 0 1 → C 8 (C 1 k) = 1) ∧ (∀ k, k < C 0 2 → C 8 (C 2 k) = 2) ∧ (∀ y, y < C 0 4 → C 8 (C 5 y) = 3)) ∧
  ((∀ v, C 8 v = 1 → ∃ k, k < C 0 1 ∧ C 1 k = v) ∧ (∀ v, C 8 v = 2 → ∃ k, k < C 0 2 ∧ C 2 k = v) ∧ (∀ v, C 8 v = 3 → ∃ y, y < C 0 4 ∧ C 5 y = v)) ∧
  ((∀ k, k < C 0 2 → dl C (C 3 k)) ∧ (∀ k, k < C 0 3 → dl C (C 4 k)) ∧ (∀ y, y < C 0 4 → dl C (C 6 y) ∧ dl C (C 7 y))) ∧
  (∀ y, y < C 0 4 → ∀ l, l = C 6 y ∨ l = C 7 y → C 8 (l / 2) = 3 → ∃ y', y' < y ∧ C 5 y' = l / 2) ∧
  (∀ s, s < 19 → C 9 s ≤ 40)
theorem WF.lit {C : Nat → Nat → Nat} (h : WF C) {l : Nat} (hl : dl C l) : l ≤ 401 ∧ l / 2 ≤ 200 := by
  have := h.1.1; have := hl.1; omega
theorem WF.var {C : Nat → Nat → Nat} (h : WF C) {v : Nat} (hv : C 8 v ≠ 0) : v ≤ 200 ∧ v ≠ 0 := by
  have h1 := h.2.1.2.2 v hv
  have h2 := h.1.1
  refine ⟨by omega, fun e => hv (by rw [e]; exact h.2.1.2.1)⟩
/-- a literal, by the values of the variables -/
def lv (a : Nat → Bool) (l : Nat) : Bool := a (l / 2) ^^ decide (l % 2 = 1)
def upB (a : Nat → Bool) (v : Nat) (x : Bool) : Nat → Bool := fun u => if u = v then x else a u
def vI (C : Nat → Nat → Nat) (X a : Nat → Bool) : Nat → Nat → Bool
  | 0 => a
  | k + 1 => upB (vI C X a k) (C 1 k) (X k)
def vL (C : Nat → Nat → Nat) (S a : Nat → Bool) : Nat → Nat → Bool
  | 0 => a
  | k + 1 => upB (vL C S a k) (C 2 k) (S k)
def vA (C : Nat → Nat → Nat) (a : Nat → Bool) : Nat → Nat → Bool
  | 0 => a
  | y + 1 => upB (vA C a y) (C 5 y) (lv (vA C a y) (C 6 y) && lv (vA C a y) (C 7 y))
def vF (C : Nat → Nat → Nat) (S X a : Nat → Bool) : Nat → Bool := vA C (vL C S (vI C X a (C 0 1)) (C 0 2)) (C 0 4)
/-- the values of the variables: latches S, inputs X -/
def va (C : Nat → Nat → Nat) (S X : Nat → Bool) : Nat → Bool := vF C S X (fun _ => false)
theorem vI_dep {C : Nat → Nat → Nat} {X a b : Nat → Bool} {P : Nat → Prop} (h : ∀ v, P v → a v = b v) : ∀ k v, (P v ∨ ∃ k', k' < k ∧ C 1 k' = v) → vI C X a k v = vI C X b k v
  | 0, v, hv => h v (hv.resolve_right (fun ⟨k', h1, _⟩ => by omega))
  | k + 1, v, hv => by
    show upB _ _ _ v = upB _ _ _ v
    unfold upB
    by_cases e : v = C 1 k
    · rw [if_pos e, if_pos e]
    · rw [if_neg e, if_neg e]
      refine vI_dep h k v ?_
      rcases hv with hv | ⟨k', h1, h2⟩
      · exact Or.inl hv
      · exact Or.inr ⟨k', by rcases Nat.lt_succ_iff_lt_or_eq.mp h1 with h3 | h3; exact h3; subst h3; exact absurd h2.symm e, h2⟩
theorem vL_dep {C : Nat → Nat → Nat} {X a b : Nat → Bool} {P : Nat → Prop} (h : ∀ v, P v → a v = b v) : ∀ k v, (P v ∨ ∃ k', k' < k ∧ C 2 k' = v) → vL C X a k v = vL C X b k v
  | 0, v, hv => h v (hv.resolve_right (fun ⟨k', h1, _⟩ => by omega))
  | k + 1, v, hv => by
    show upB _ _ _ v = upB _ _ _ v
    unfold upB
    by_cases e : v = C 2 k
    · rw [if_pos e, if_pos e]
    · rw [if_neg e, if_neg e]
      refine vL_dep h k v ?_
      rcases hv with hv | ⟨k', h1, h2⟩
      · exact Or.inl hv
      · exact Or.inr ⟨k', by rcases Nat.lt_succ_iff_lt_or_eq.mp h1 with h3 | h3; exact h3; subst h3; exact absurd h2.symm e, h2⟩
theorem vA_dep {C : Nat → Nat → Nat} {a b : Nat → Bool} {P : Nat → Prop} (h : ∀ v, P v → a v = b v) : ∀ y, (∀ y', y' < y → ∀ l, l = C 6 y' ∨ l = C 7 y' → (P (l / 2) ∨ ∃ y'', y'' < y' ∧ C 5 y'' = l / 2)) → ∀ v, (P v ∨ ∃ y', y' < y ∧ C 5 y' = v) → vA C a y v = vA C b y v
  | 0, _, v, hv => h v (hv.resolve_right (fun ⟨k', h1, _⟩ => by omega))
  | y + 1, ho, v, hv => by
    have ih := vA_dep h y (fun y' hy => ho y' (by omega))
    show upB _ _ _ v = upB _ _ _ v
    unfold upB
    by_cases e : v = C 5 y
    · rw [if_pos e, if_pos e]
      unfold lv
      rw [ih _ (ho y (by omega) (C 6 y) (Or.inl rfl)), ih _ (ho y (by omega) (C 7 y) (Or.inr rfl))]
    · rw [if_neg e, if_neg e]
      refine ih v ?_
      rcases hv with hv | ⟨k', h1, h2⟩
      · exact Or.inl hv
      · exact Or.inr ⟨k', by rcases Nat.lt_succ_iff_lt_or_eq.mp h1 with h3 | h3; exact h3; subst h3; exact absurd h2.symm e, h2⟩
theorem WF.cases {C : Nat → Nat → Nat} (h : WF C) {v : Nat} (hv : C 8 v ≠ 0) : (∃ k, k < C 0 1 ∧ C 1 k = v) ∨ (∃ k, k < C 0 2 ∧ C 2 k = v) ∨ (∃ y, y < C 0 4 ∧ C 5 y = v) := by
  have h3 := h.2.1.1 v
  rcases (by omega : C 8 v = 1 ∨ C 8 v = 2 ∨ C 8 v = 3) with e | e | e
  · exact Or.inl (h.2.2.2.1.1 v e)
  · exact Or.inr (Or.inl (h.2.2.2.1.2.1 v e))
  · exact Or.inr (Or.inr (h.2.2.2.1.2.2 v e))
/-- what was there before doesn't matter -/
theorem vF_dep {C : Nat → Nat → Nat} (h : WF C) {S X a b : Nat → Bool} (h0 : a 0 = b 0) {v : Nat} (hv : v = 0 ∨ C 8 v ≠ 0) : vF C S X a v = vF C S X b v := by
  have e1 := vI_dep (C := C) (X := X) (a := a) (b := b) (P := fun v => v = 0) (fun v hv => by rw [hv, h0]) (C 0 1)
  have e2 := vL_dep (C := C) (X := S) e1 (C 0 2)
  refine vA_dep e2 (C 0 4) ?_ v ?_
  · intro y hy l hl
    have hd : dl C l := by
      rcases hl with rfl | rfl
      · exact (h.2.2.2.2.1.2.2 y hy).1
      · exact (h.2.2.2.2.1.2.2 y hy).2
    by_cases hk : C 8 (l / 2) = 3
    · exact Or.inr (h.2.2.2.2.2.1 y hy l hl hk)
    · left
      rcases hd.2 with h2 | h2
      · exact Or.inl (Or.inl (by omega))
      · rcases h.cases h2 with hh | hh | hh
        · exact Or.inl (Or.inr hh)
        · exact Or.inr hh
        · obtain ⟨y', h4, h5⟩ := hh
          exact absurd (h5 ▸ h.2.2.1.2.2 y' h4) hk
  · rcases hv with hv | hv
    · exact Or.inl (Or.inl (Or.inl hv))
    · rcases h.cases hv with hh | hh | hh
      · exact Or.inl (Or.inl (Or.inr hh))
      · exact Or.inl (Or.inr hh)
      · exact Or.inr hh
theorem vI_ext {C : Nat → Nat → Nat} {X Y a : Nat → Bool} : ∀ k, (∀ j, j < k → X j = Y j) → vI C X a k = vI C Y a k
  | 0, _ => rfl
  | k + 1, h => by show upB _ _ _ = upB _ _ _; rw [vI_ext k (fun j hj => h j (by omega)), h k (by omega)]
theorem vL_ext {C : Nat → Nat → Nat} {X Y a : Nat → Bool} : ∀ k, (∀ j, j < k → X j = Y j) → vL C X a k = vL C Y a k
  | 0, _ => rfl
  | k + 1, h => by show upB _ _ _ = upB _ _ _; rw [vL_ext k (fun j hj => h j (by omega)), h k (by omega)]
theorem va_ext {C : Nat → Nat → Nat} {S T X Y : Nat → Bool} (hX : ∀ k, k < C 0 1 → X k = Y k) (hS : ∀ k, k < C 0 2 → S k = T k) : va C S X = va C T Y := by
  unfold va vF
  rw [vI_ext (C 0 1) hX, vL_ext (C 0 2) hS]
theorem va0 {C : Nat → Nat → Nat} (h : WF C) (S X : Nat → Bool) : va C S X 0 = false := by
  have kI : ∀ k, k ≤ C 0 1 → vI C X (fun _ => false) k 0 = false := by
    intro k
    induction k with
    | zero => intro _; rfl
    | succ k ih =>
      intro hk
      show upB _ _ _ 0 = _
      unfold upB
      rw [if_neg, ih (by omega)]
      exact fun e => by have := h.2.2.1.1 k (by omega); rw [← e, h.2.1.2.1] at this; omega
  have kL : ∀ k, k ≤ C 0 2 → vL C S (vI C X (fun _ => false) (C 0 1)) k 0 = false := by
    intro k
    induction k with
    | zero => intro _; exact kI _ (Nat.le_refl _)
    | succ k ih =>
      intro hk
      show upB _ _ _ 0 = _
      unfold upB
      rw [if_neg, ih (by omega)]
      exact fun e => by have := h.2.2.1.2.1 k (by omega); rw [← e, h.2.1.2.1] at this; omega
  have kA : ∀ k, k ≤ C 0 4 → vA C (vL C S (vI C X (fun _ => false) (C 0 1)) (C 0 2)) k 0 = false := by
    intro k
    induction k with
    | zero => intro _; exact kL _ (Nat.le_refl _)
    | succ k ih =>
      intro hk
      show upB _ _ _ 0 = _
      unfold upB
      rw [if_neg, ih (by omega)]
      exact fun e => by have := h.2.2.1.2.2 k (by omega); rw [← e, h.2.1.2.1] at this; omega
  exact kA _ (Nat.le_refl _)
/-- the word of a literal -/
def wd (f : Nat → Int32) (base l : Nat) : Int32 := f (base + l / 2) ^^^ (-(Int32.ofNat (l % 2)))
theorem bt_wd {f : Nat → Int32} {base l i : Nat} (hi : i < 32) : bt (wd f base l) i = (bt (f (base + l / 2)) i ^^ decide (l % 2 = 1)) := by
  unfold wd
  rw [bt_xor, bt_neg1 (Nat.mod_lt _ (by decide)) hi]
theorem v_word {e : xenv} {w : Bool} {F : Nat → Nat → Int32} {L : Nat → Nat → Int64} {g : xh} {z : Nat → Nat} {Q : Int32 → xh → Prop} {r base l n : Nat} (hl : li w r = true) (ho : ∀ f, ob e w f (L r) r = .inl (0, n, .inl f)) (hn : n < 2147483648) (h1 : base + l / 2 < n) (h2 : l < 2147483648) (h : Q (wd (F r) base l) (mem e w F L g)) : wp_Circuit_word z Q (ad e r) (Int32.ofNat base) (Int32.ofNat l) (mem e w F L g) := by
  unfold wp_Circuit_word
  refine s_aI (i := base + l / 2) hl (ho _) rfl ?_ h1 hn ?_
  · rw [show (1 : Int32) = Int32.ofNat 1 from rfl, n_shr h2 (by decide), n_add]
  · rw [show (1 : Int32) = Int32.ofNat 1 from rfl, n_and, Nat.and_one_is_mod]; exact h
theorem v_settle {e : xenv} {w : Bool} {F : Nat → Nat → Int32} {L : Nat → Nat → Int64} {g : xh} {z : Nat → Nat} {Q : xh → Prop} {C : Nat → Nat → Nat} {b r iw base n t : Nat} {s : Int32} (hb : b = 0 ∨ b = 20) (hK : KC b F C) (hW : WF C)
    (hl : li w r = true) (ho : ∀ f, ob e w f (L r) r = .inl (0, n, .inl f)) (hn : n < 2147483648) (hr : 60 ≤ r) (h1 : base + 201 ≤ n)
    (hl2 : li w iw = true) (ho2 : ob e w (F iw) (L iw) iw = .inl (t, 5, .inl (F iw))) (ht : t % 100 = 0) (hne : iw ≠ r)
    (h : ∀ F', (∀ k, k ≠ r → F' k = F k) → (∀ j, j < base ∨ base + 201 ≤ j → F' r j = F r j) → (∀ v, v = 0 ∨ C 8 v ≠ 0 → ∀ i, i < 32 → bt (F' r (base + v)) i = va C (fun k => bt s k) (fun k => bt (F iw k) i) v) → Q (mem e w F' L g)) :
    wp_Circuit_settle z Q (ad e b) s (ad e iw) (ad e r) (Int32.ofNat base) (mem e w F L g) := by
  obtain ⟨q0, q8, q5, q1, q2, q4, q9⟩ := hK
  have hM := hW.1
  have gen : ∀ b', b' < 60 → ∀ F' : Nat → Nat → Int32, (∀ k, k ≠ r → F' k = F k) → F' b' = F b' := fun b' hb' F' h' => h' b' (by omega)
  have hb60 : b + 10 < 60 := by omega
  unfold wp_Circuit_settle
  refine s_sI2 (i := base) hl ho rfl (by omega) hn ?_
  unfold wp_Circuit_settle_8
  refine xloop_dn (fun m a => ∃ k F', m = C 0 1 - k ∧ k ≤ C 0 1 ∧ a = (ad e b, s, ad e iw, ad e r, Int32.ofNat base, Int32.ofNat k, mem e w F' L g) ∧ (∀ q, q ≠ r → F' q = F q) ∧ (∀ j, j < base ∨ base + 201 ≤ j → F' r j = F r j) ∧ (∀ v, v < 201 → ∀ i, i < 32 → bt (F' r (base + v)) i = vI C (fun k => bt (F iw k) i) (fun v => bif v == 0 then false else bt (F r (base + v)) i) k v)) ?_ (C 0 1) _ ⟨0, _, rfl, by omega, rfl, fun q hq => up_k hq, fun j hj => by rw [up_i, if_neg (by omega)], fun v hv i hi => ?_⟩
  rotate_left
  · rw [up_i]
    by_cases e0 : v = 0
    · rw [if_pos (by omega), e0]; exact bt_zero i
    · rw [if_neg (by omega)]; show _ = (bif v == 0 then false else _); rw [beq_false_of_ne e0]; rfl
  rintro m a c ⟨k, F', rfl, hk1, rfl, g1, g2, g3⟩ hk
  unfold wp_Circuit_settle_8_b; dsimp only
  have e2 : F' b 2 = Int32.ofNat (C 0 1) := by rw [gen b (by omega) F' g1]; exact q0 1 (by decide)
  have stp : ∀ {P : Int32 → Prop}, P (F' b 2) → ∃ v, fI (mem e w F' L g) (ad e b) 0 2 = some v ∧ P v := by
    rcases hb with rfl | rfl <;> intro P hP <;> exact s_fI (by rfl) (by rfl) (by rfl) hP
  refine stp ?_
  rw [e2]
  refine ⟨fun hc => ?_, fun hc => ?_⟩ <;> rw [n_le (by omega) (by omega)] at hc
  rotate_left
  · have stR : ∀ {P : Nat → Prop}, P (ad e (b + 4)) → ∃ v, fR (mem e w F' L g) (ad e b) 0 9 = some v ∧ P v := by
      rcases hb with rfl | rfl <;> intro P hP <;> exact s_fR (by rfl) (by rfl) (by rfl) hP
    refine stR ?_
    have stA : ∀ {P : Int32 → Prop}, P (F' (b + 4) k) → ∃ v, aI (mem e w F' L g) (ad e (b + 4)) 0 (Int32.ofNat k) = some v ∧ P v := by
      rcases hb with rfl | rfl <;> intro P hP <;> exact s_aI (by rfl) (by rfl) (by rfl) rfl (by omega) (by decide) hP
    refine stA ?_
    rw [gen (b + 4) (by omega) F' g1, q1 k (by omega)]
    have ho3 : ob e w (F' iw) (L iw) iw = .inl (t, 5, .inl (F iw)) := by rw [g1 iw hne]; exact ho2
    have hv1 := hW.var (v := C 1 k) (by have := hW.2.2.1.1 k (by omega); omega)
    refine s_aI (i := k) hl2 ho3 ht rfl (by omega) (by decide) ?_
    refine s_sI2 (i := base + C 1 k) hl ho (by rw [n_add]) (by omega) hn ?_
    refine hk (C 0 1 - (k + 1)) _ (by omega) ⟨k + 1, _, rfl, by omega, by rw [n_lit, n_add], fun q hq => (up_k hq).trans (g1 q hq), fun j hj => by rw [up_i, if_neg (by omega)]; exact g2 j hj, fun v hv i hi => ?_⟩
    show _ = upB _ _ _ v
    rw [up_i, upB]
    by_cases e0 : v = C 1 k
    · rw [if_pos (by omega), if_pos e0]
    · rw [if_neg (by omega), if_neg e0]; exact g3 v hv i hi
  have : k = C 0 1 := by omega
  subst this
  unfold wp_Circuit_settle_42
  refine xloop_dn (fun m a => ∃ k F', m = C 0 2 - k ∧ k ≤ C 0 2 ∧ a = (ad e b, s, ad e r, Int32.ofNat base, Int32.ofNat k, mem e w F' L g) ∧ (∀ q, q ≠ r → F' q = F q) ∧ (∀ j, j < base ∨ base + 201 ≤ j → F' r j = F r j) ∧ (∀ v, v < 201 → ∀ i, i < 32 → bt (F' r (base + v)) i = vL C (fun k => bt s k) (vI C (fun k => bt (F iw k) i) (fun v => bif v == 0 then false else bt (F r (base + v)) i) (C 0 1)) k v)) ?_ (C 0 2) _ ⟨0, F', rfl, by omega, rfl, g1, g2, g3⟩
  clear hk hc g1 g2 g3 e2 stp F'
  rintro m a c ⟨k, F', rfl, hk1, rfl, g1, g2, g3⟩ hk
  unfold wp_Circuit_settle_42_b; dsimp only
  have e2 : F' b 3 = Int32.ofNat (C 0 2) := by rw [gen b (by omega) F' g1]; exact q0 2 (by decide)
  have stp : ∀ {P : Int32 → Prop}, P (F' b 3) → ∃ v, fI (mem e w F' L g) (ad e b) 0 3 = some v ∧ P v := by
    rcases hb with rfl | rfl <;> intro P hP <;> exact s_fI (by rfl) (by rfl) (by rfl) hP
  refine stp ?_
  rw [e2]
  refine ⟨fun hc => ?_, fun hc => ?_⟩ <;> rw [n_le (by omega) (by omega)] at hc
  rotate_left
  · have stR : ∀ {P : Nat → Prop}, P (ad e (b + 5)) → ∃ v, fR (mem e w F' L g) (ad e b) 0 10 = some v ∧ P v := by
      rcases hb with rfl | rfl <;> intro P hP <;> exact s_fR (by rfl) (by rfl) (by rfl) hP
    refine stR ?_
    have stA : ∀ {P : Int32 → Prop}, P (F' (b + 5) k) → ∃ v, aI (mem e w F' L g) (ad e (b + 5)) 0 (Int32.ofNat k) = some v ∧ P v := by
      rcases hb with rfl | rfl <;> intro P hP <;> exact s_aI (by rfl) (by rfl) (by rfl) rfl (by omega) (by decide) hP
    refine stA ?_
    rw [gen (b + 5) (by omega) F' g1, (q2 k (by omega)).1, bt_shr1 s (by omega)]
    have hv1 := hW.var (v := C 2 k) (by have := hW.2.2.1.2.1 k (by omega); omega)
    refine s_sI2 (i := base + C 2 k) hl ho (by rw [n_add]) (by omega) hn ?_
    refine hk (C 0 2 - (k + 1)) _ (by omega) ⟨k + 1, _, rfl, by omega, by rw [n_lit, n_add], fun q hq => (up_k hq).trans (g1 q hq), fun j hj => by rw [up_i, if_neg (by omega)]; exact g2 j hj, fun v hv i hi => ?_⟩
    show _ = upB _ _ _ v
    rw [up_i, upB]
    by_cases e0 : v = C 2 k
    · rw [if_pos (by omega), if_pos e0, bt_neg1 (by cases bt s k <;> decide) hi]
      show _ = bt s k
      cases bt s k <;> rfl
    · rw [if_neg (by omega), if_neg e0]; exact g3 v hv i hi
  have : k = C 0 2 := by omega
  subst this
  unfold wp_Circuit_settle_79
  refine xloop_dn (fun m a => ∃ k F', m = C 0 4 - k ∧ k ≤ C 0 4 ∧ a = (ad e b, ad e r, Int32.ofNat base, Int32.ofNat k, mem e w F' L g) ∧ (∀ q, q ≠ r → F' q = F q) ∧ (∀ j, j < base ∨ base + 201 ≤ j → F' r j = F r j) ∧ (∀ v, v < 201 → ∀ i, i < 32 → bt (F' r (base + v)) i = vA C (vL C (fun k => bt s k) (vI C (fun k => bt (F iw k) i) (fun v => bif v == 0 then false else bt (F r (base + v)) i) (C 0 1)) (C 0 2)) k v)) ?_ (C 0 4) _ ⟨0, F', rfl, by omega, rfl, g1, g2, g3⟩
  clear hk hc g1 g2 g3 e2 stp F'
  rintro m a c ⟨k, F', rfl, hk1, rfl, g1, g2, g3⟩ hk
  unfold wp_Circuit_settle_79_b; dsimp only
  have e2 : F' b 5 = Int32.ofNat (C 0 4) := by rw [gen b (by omega) F' g1]; exact q0 4 (by decide)
  have stp : ∀ {P : Int32 → Prop}, P (F' b 5) → ∃ v, fI (mem e w F' L g) (ad e b) 0 5 = some v ∧ P v := by
    rcases hb with rfl | rfl <;> intro P hP <;> exact s_fI (by rfl) (by rfl) (by rfl) hP
  refine stp ?_
  rw [e2]
  refine ⟨fun hc => ?_, fun hc => ?_⟩ <;> rw [n_le (by omega) (by omega)] at hc
  rotate_left
  · have hy : k < C 0 4 := by omega
    have hv1 := hW.var (v := C 5 k) (by have := hW.2.2.1.2.2 k hy; omega)
    have hd := hW.2.2.2.2.1.2.2 k hy
    have hd1 := hW.lit hd.1
    have hd2 := hW.lit hd.2
    have stR : ∀ {P : Nat → Prop}, P (ad e (b + 8)) → ∃ v, fR (mem e w F' L g) (ad e b) 0 13 = some v ∧ P v := by
      rcases hb with rfl | rfl <;> intro P hP <;> exact s_fR (by rfl) (by rfl) (by rfl) hP
    refine stR ?_
    have stA : ∀ {P : Int32 → Prop}, P (F' (b + 8) k) → ∃ v, aI (mem e w F' L g) (ad e (b + 8)) 0 (Int32.ofNat k) = some v ∧ P v := by
      rcases hb with rfl | rfl <;> intro P hP <;> exact s_aI (by rfl) (by rfl) (by rfl) rfl (by omega) (by decide) hP
    refine stA ?_
    rw [gen (b + 8) (by omega) F' g1, (q5 k hy).1]
    have stR2 : ∀ {P : Nat → Prop}, P (ad e (b + 2)) → ∃ v, fR (mem e w F' L g) (ad e b) 0 7 = some v ∧ P v := by
      rcases hb with rfl | rfl <;> intro P hP <;> exact s_fR (by rfl) (by rfl) (by rfl) hP
    refine stR2 ?_
    have stA2 : ∀ {P : Int32 → Prop}, P (F' (b + 2) (C 5 k)) → ∃ v, aI (mem e w F' L g) (ad e (b + 2)) 0 (Int32.ofNat (C 5 k)) = some v ∧ P v := by
      rcases hb with rfl | rfl <;> intro P hP <;> exact s_aI (by rfl) (by rfl) (by rfl) rfl (by omega) (by decide) hP
    refine stA2 ?_
    rw [gen (b + 2) (by omega) F' g1, (q5 k hy).2.1]
    refine v_word hl ho hn (by omega) (by omega) ?_
    have stR3 : ∀ {P : Nat → Prop}, P (ad e (b + 3)) → ∃ v, fR (mem e w F' L g) (ad e b) 0 8 = some v ∧ P v := by
      rcases hb with rfl | rfl <;> intro P hP <;> exact s_fR (by rfl) (by rfl) (by rfl) hP
    refine stR3 ?_
    have stA3 : ∀ {P : Int32 → Prop}, P (F' (b + 3) (C 5 k)) → ∃ v, aI (mem e w F' L g) (ad e (b + 3)) 0 (Int32.ofNat (C 5 k)) = some v ∧ P v := by
      rcases hb with rfl | rfl <;> intro P hP <;> exact s_aI (by rfl) (by rfl) (by rfl) rfl (by omega) (by decide) hP
    refine stA3 ?_
    rw [gen (b + 3) (by omega) F' g1, (q5 k hy).2.2]
    refine v_word hl ho hn (by omega) (by omega) ?_
    refine s_sI2 (i := base + C 5 k) hl ho (by rw [n_add]) (by omega) hn ?_
    refine hk (C 0 4 - (k + 1)) _ (by omega) ⟨k + 1, _, rfl, by omega, by rw [n_lit, n_add], fun q hq => (up_k hq).trans (g1 q hq), fun j hj => by rw [up_i, if_neg (by omega)]; exact g2 j hj, fun v hv i hi => ?_⟩
    show _ = upB _ _ _ v
    rw [up_i, upB]
    by_cases e0 : v = C 5 k
    · rw [if_pos (by omega), if_pos e0, bt_and, bt_wd hi, bt_wd hi, g3 _ (by omega) i hi, g3 _ (by omega) i hi]
      rfl
    · rw [if_neg (by omega), if_neg e0]; exact g3 v hv i hi
  have : k = C 0 4 := by omega
  subst this
  refine h F' g1 g2 (fun v hv i hi => ?_)
  rw [g3 v (by rcases hv with hv | hv; omega; have := hW.var hv; omega) i hi]
  exact vF_dep hW (by rfl) hv
