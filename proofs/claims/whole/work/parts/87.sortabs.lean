/-! ORDER, and the lowest and that hangs on itself: as numbers. -/
def GA (S : RW) : Prop := (S 0 0 ≤ 200 ∧ S 0 4 ≤ 150) ∧ (∀ k, k < S 0 4 → (S 112 k = 1 ∧ S 106 (S 12 k) = 1 ∧ S 107 (S 12 k) = 1 ∧ S 113 k = 1 ∧ S 114 k = 1) ∧ (S 8 (S 12 k) = 3 ∧ S 12 k ≤ S 0 0 ∧ 1 ≤ S 12 k) ∧ (S 6 (S 12 k) = S 13 k ∧ S 7 (S 12 k) = S 14 k) ∧ (S 13 k ≤ 2 * S 0 0 + 1 ∧ S 14 k ≤ 2 * S 0 0 + 1) ∧ (S 13 k < 2 ∨ S 8 (S 13 k / 2) ≠ 0) ∧ (S 14 k < 2 ∨ S 8 (S 14 k / 2) ≠ 0)) ∧ (∀ k k', k < S 0 4 → k' < S 0 4 → S 12 k = S 12 k' → k = k') ∧ (∀ v, S 8 v = 3 → ∃ k, k < S 0 4 ∧ S 12 k = v) ∧ (S 8 0 = 0 ∧ (∀ v, S 8 v ≤ 3) ∧ ∀ v, v < 201 → S 108 v = 1)
def cmv (S : RW) (o : Nat → Nat) (y v : Nat) : Bool := decide (S 8 v ≠ 3) || (List.range y).any (fun i => S 12 (o i) == v)
theorem cmv_iff {S : RW} {o : Nat → Nat} {y v : Nat} : cmv S o y v = true ↔ S 8 v ≠ 3 ∨ ∃ i, i < y ∧ S 12 (o i) = v := by
  unfold cmv
  rw [Bool.or_eq_true, decide_eq_true_iff, List.any_eq_true]
  constructor
  · rintro (h | ⟨i, hi, he⟩)
    · exact Or.inl h
    · exact Or.inr ⟨i, List.mem_range.mp hi, eq_of_beq he⟩
  · rintro (h | ⟨i, hi, he⟩)
    · exact Or.inl h
    · exact Or.inr ⟨i, List.mem_range.mpr hi, beq_iff_eq.mpr he⟩
def rdy (S : RW) (o : Nat → Nat) (y k : Nat) : Bool := !cmv S o y (S 12 k) && cmv S o y (S 13 k / 2) && cmv S o y (S 14 k / 2)
def fst (S : RW) (o : Nat → Nat) (y : Nat) : Nat := fd (rdy S o y) (S 0 4)
def sg2 (S : RW) : Nat → (Nat → Nat) × Nat
  | 0 => (fun _ => 0, 0)
  | m + 1 => if fst S (sg2 S m).1 (sg2 S m).2 < S 0 4 then (upN (sg2 S m).1 (sg2 S m).2 (fst S (sg2 S m).1 (sg2 S m).2), (sg2 S m).2 + 1) else sg2 S m
/-- every one that was chosen was ready -/
def ODR (S : RW) (o : Nat → Nat) (y : Nat) : Prop := ∀ i, i < y → o i < S 0 4 ∧ cmv S o i (S 12 (o i)) = false ∧ cmv S o i (S 13 (o i) / 2) = true ∧ cmv S o i (S 14 (o i) / 2) = true
theorem cmv_up {S : RW} {o : Nat → Nat} {y i k v : Nat} (h : i ≤ y) : cmv S (upN o y k) i v = cmv S o i v := by
  have : ∀ a : Bool, (a = true ↔ cmv S o i v = true) → a = cmv S o i v := by
    intro a ha
    cases a <;> cases hc : cmv S o i v <;> simp_all
  apply this
  rw [cmv_iff, cmv_iff]
  constructor
  · rintro (h | ⟨j, hj, he⟩)
    · exact Or.inl h
    · rw [upN_ne (by omega)] at he; exact Or.inr ⟨j, hj, he⟩
  · rintro (h | ⟨j, hj, he⟩)
    · exact Or.inl h
    · exact Or.inr ⟨j, hj, by rw [upN_ne (by omega)]; exact he⟩
theorem rdy_iff {S : RW} {o : Nat → Nat} {y k : Nat} : rdy S o y k = true ↔ cmv S o y (S 12 k) = false ∧ cmv S o y (S 13 k / 2) = true ∧ cmv S o y (S 14 k / 2) = true := by
  unfold rdy
  rw [Bool.and_eq_true, Bool.and_eq_true, Bool.not_eq_true']
  exact ⟨fun h => ⟨h.1.1, h.1.2, h.2⟩, fun h => ⟨⟨h.1, h.2.1⟩, h.2.2⟩⟩
theorem ODR_step {S : RW} {o : Nat → Nat} {y : Nat} (h : ODR S o y) (hf : fst S o y < S 0 4) : ODR S (upN o y (fst S o y)) (y + 1) := by
  intro i hi
  by_cases e0 : i = y
  · subst e0
    rw [upN_eq, cmv_up (Nat.le_refl _), cmv_up (Nat.le_refl _), cmv_up (Nat.le_refl _)]
    have hr := (fd_spec (rdy S o i) (S 0 4)).2.1 hf
    exact ⟨hf, rdy_iff.mp hr⟩
  · rw [upN_ne e0, cmv_up (by omega), cmv_up (by omega), cmv_up (by omega)]
    exact h i (by omega)
theorem sg2_ODR (S : RW) : ∀ m, ODR S (sg2 S m).1 (sg2 S m).2 ∧ (sg2 S m).2 ≤ m
  | 0 => ⟨fun i hi => absurd hi (Nat.not_lt_zero _), Nat.le_refl _⟩
  | m + 1 => by
    obtain ⟨h1, h2⟩ := sg2_ODR S m
    unfold sg2
    by_cases hf : fst S (sg2 S m).1 (sg2 S m).2 < S 0 4
    · rw [if_pos hf]; exact ⟨ODR_step h1 hf, by dsimp only; omega⟩
    · rw [if_neg hf]; exact ⟨h1, by omega⟩
theorem sg2_stuck (S : RW) {m : Nat} (h : (sg2 S m).2 < m) : ¬ fst S (sg2 S m).1 (sg2 S m).2 < S 0 4 := by
  induction m with
  | zero => omega
  | succ m ih =>
    unfold sg2 at h ⊢
    by_cases hf : fst S (sg2 S m).1 (sg2 S m).2 < S 0 4
    · rw [if_pos hf] at h ⊢
      dsimp only at h
      exact absurd hf (ih (by omega))
    · rw [if_neg hf] at h ⊢
      exact hf
theorem sg2_same (S : RW) {m : Nat} (h : (sg2 S m).2 < m) : ∀ m', m ≤ m' → sg2 S m' = sg2 S m := by
  intro m' hm
  induction hm with
  | refl => rfl
  | @step m' hm ih =>
    have hs := sg2_stuck S h
    show (if _ then _ else _) = _
    rw [ih, if_neg hs]
/-- pigeons -/
theorem PH : ∀ (A : Nat) (f : Nat → Nat), (∀ i, i < A + 1 → f i < A) → ∃ i j, i < j ∧ j < A + 1 ∧ f i = f j
  | 0, f, h => absurd (h 0 (by decide)) (Nat.not_lt_zero _)
  | A + 1, f, h => by
    by_cases hx : ∃ i, i < A + 1 ∧ f i = f (A + 1)
    · obtain ⟨i, hi, he⟩ := hx
      exact ⟨i, A + 1, hi, by omega, he⟩
    · have hne : ∀ i, i < A + 1 → f i ≠ f (A + 1) := fun i hi he => hx ⟨i, hi, he⟩
      obtain ⟨i, j, hij, hj, he⟩ := PH A (fun i => if f i = A then f (A + 1) else f i) (fun i hi => by
        have h1 := h i (by omega)
        have h2 := h (A + 1) (by omega)
        have h3 := hne i hi
        split <;> omega)
      refine ⟨i, j, hij, by omega, ?_⟩
      have h3 := hne i (by omega)
      have h4 := hne j hj
      split at he <;> split at he <;> omega
section
variable {S : RW} {o : Nat → Nat} {y : Nat}
theorem ODR_inj (hG : GA S) (h : ODR S o y) {i j : Nat} (hi : i < y) (hj : j < y) (he : o i = o j) : i = j := by
  have key : ∀ i j, i < j → j < y → o i = o j → False := by
    intro i j hij hj he
    have hc := (h j hj).2.1
    have : cmv S o j (S 12 (o j)) = true := cmv_iff.mpr (Or.inr ⟨i, hij, by rw [he]⟩)
    rw [hc] at this; cases this
  rcases Nat.lt_trichotomy i j with hh | hh | hh
  · exact absurd (key i j hh hj he) id
  · exact hh
  · exact absurd (key j i hh hi he.symm) id
/-- when all have come, each is there -/
theorem ODR_all (hG : GA S) (h : ODR S o (S 0 4)) {k : Nat} (hk : k < S 0 4) : ∃ i, i < S 0 4 ∧ o i = k := by
  apply Classical.byContradiction
  intro hno
  obtain ⟨i, j, hij, hj, he⟩ := PH (S 0 4) (fun i => if i < S 0 4 then o i else k) (fun i hi => by
    split
    · exact (h i (by assumption)).1
    · exact hk)
  rw [if_pos (by omega)] at he
  by_cases hjl : j < S 0 4
  · rw [if_pos hjl] at he
    have := ODR_inj hG h (by omega) hjl he
    omega
  · rw [if_neg hjl] at he
    exact hno ⟨i, by omega, he⟩
def Eg (S : RW) (x v : Nat) : Prop := ∃ k, k < S 0 4 ∧ S 12 k = x ∧ (v = S 13 k / 2 ∨ v = S 14 k / 2)
def Rc (S : RW) (a v : Nat) : Prop := ∀ P : Nat → Prop, (∀ v, Eg S a v → P v) → (∀ x v, P x → Eg S x v → P v) → P v
theorem Rc.base {a v : Nat} (h : Eg S a v) : Rc S a v := fun _ h1 _ => h1 v h
theorem Rc.step {a x v : Nat} (h : Rc S a x) (h' : Eg S x v) : Rc S a v := fun P h1 h2 => h2 x v (h P h1 h2) h'
/-- one that has come doesn't hang on itself -/
theorem Rc_come (hG : GA S) (h : ODR S o y) {i : Nat} (hi : i < y) : ¬ Rc S (S 12 (o i)) (S 12 (o i)) := by
  intro hr
  have oper : ∀ j, j ≤ i → ∀ v, Eg S (S 12 (o j)) v → S 8 v ≠ 3 ∨ ∃ i', i' < j ∧ S 12 (o i') = v := by
    rintro j hj v ⟨k, hk, he, hv⟩
    obtain ⟨h1, h2, h3, h4⟩ := h j (by omega)
    have := hG.2.2.1 k (o j) hk h1 he
    subst this
    rcases hv with rfl | rfl
    · exact cmv_iff.mp h3
    · exact cmv_iff.mp h4
  have := hr (fun v => S 8 v ≠ 3 ∨ ∃ i', i' < i ∧ S 12 (o i') = v) (fun v hv => oper i (Nat.le_refl _) v hv) (fun x v hx hv => by
    rcases hx with hx | ⟨i', hi', he⟩
    · obtain ⟨k, hk, he, _⟩ := hv
      exact absurd ((hG.2.1 k hk).2.1.1) (by rw [he]; exact hx)
    · rw [← he] at hv
      rcases oper i' (by omega) v hv with h1 | ⟨i'', h2, h3⟩
      · exact Or.inl h1
      · exact Or.inr ⟨i'', by omega, h3⟩)
  rcases this with h1 | ⟨i', hi', he⟩
  · exact h1 ((hG.2.1 _ (h i hi).1).2.1.1)
  · have := hG.2.2.1 _ _ (h i' (by omega)).1 (h i hi).1 he
    have := ODR_inj hG h (by omega) hi this
    omega
/-- if none is ready, one hangs on itself -/
theorem Rc_ex (hG : GA S) (h : ODR S o y) (hy : y < S 0 4) (hf : ¬ fst S o y < S 0 4) : ∃ v, 1 ≤ v ∧ v ≤ S 0 0 ∧ S 8 v = 3 ∧ cmv S o y v = false ∧ Rc S v v := by
  have hnr : ∀ k, k < S 0 4 → rdy S o y k = false := by
    intro k hk
    obtain ⟨a1, a2, a3⟩ := fd_spec (rdy S o y) (S 0 4)
    have : fd (rdy S o y) (S 0 4) = S 0 4 := by
      have : ¬ fd (rdy S o y) (S 0 4) < S 0 4 := hf
      omega
    exact a3 k (by omega)
  -- there is one that has not come
  have hU : ∃ k, k < S 0 4 ∧ cmv S o y (S 12 k) = false := by
    apply Classical.byContradiction
    intro hno
    have hall : ∀ k, k < S 0 4 → ∃ i, i < y ∧ o i = k := by
      intro k hk
      have hc : cmv S o y (S 12 k) = true := by
        cases hh : cmv S o y (S 12 k)
        · exact absurd ⟨k, hk, hh⟩ hno
        · rfl
      rcases cmv_iff.mp hc with h1 | ⟨i, hi, he⟩
      · exact absurd ((hG.2.1 k hk).2.1.1) h1
      · exact ⟨i, hi, hG.2.2.1 _ _ (h i hi).1 hk he⟩
    obtain ⟨i, j, hij, hj, he⟩ := PH y (fun k => if hk : k < S 0 4 then (hall k hk).choose else 0) (fun k hk => by
      have hk : k < S 0 4 := by omega
      rw [dif_pos hk]
      exact (hall k hk).choose_spec.1)
    have hi4 : i < S 0 4 := by omega
    have hj4 : j < S 0 4 := by omega
    rw [dif_pos hi4, dif_pos hj4] at he
    have e1 := (hall i hi4).choose_spec.2
    have e2 := (hall j hj4).choose_spec.2
    rw [he, e2] at e1
    omega
  -- each of them leads to another
  have hnext : ∀ k, (k < S 0 4 ∧ cmv S o y (S 12 k) = false) → ∃ k', (k' < S 0 4 ∧ cmv S o y (S 12 k') = false) ∧ Eg S (S 12 k) (S 12 k') := by
    rintro k ⟨hk, hc⟩
    have hr := hnr k hk
    have hor : cmv S o y (S 13 k / 2) = false ∨ cmv S o y (S 14 k / 2) = false := by
      unfold rdy at hr
      rw [hc] at hr
      cases h1 : cmv S o y (S 13 k / 2)
      · exact Or.inl rfl
      · cases h2 : cmv S o y (S 14 k / 2)
        · exact Or.inr rfl
        · rw [h1, h2] at hr; cases hr
    have go : ∀ v, cmv S o y v = false → (v = S 13 k / 2 ∨ v = S 14 k / 2) → ∃ k', (k' < S 0 4 ∧ cmv S o y (S 12 k') = false) ∧ Eg S (S 12 k) (S 12 k') := by
      intro v hv hop
      have h3 : S 8 v = 3 := Classical.byContradiction (fun hn => by have := cmv_iff.mpr (Or.inl hn : S 8 v ≠ 3 ∨ ∃ i, i < y ∧ S 12 (o i) = v); rw [hv] at this; cases this)
      obtain ⟨k', hk', he⟩ := hG.2.2.2.1 v h3
      exact ⟨k', ⟨hk', by rw [he]; exact hv⟩, k, hk, rfl, by rw [he]; exact hop⟩
    rcases hor with h1 | h1
    · exact go _ h1 (Or.inl rfl)
    · exact go _ h1 (Or.inr rfl)
  obtain ⟨k0, hk0⟩ := hU
  obtain ⟨s, hs⟩ : ∃ s : Nat → Nat, ∀ i, (s i < S 0 4 ∧ cmv S o y (S 12 (s i)) = false) ∧ Eg S (S 12 (s i)) (S 12 (s (i + 1))) := by
    refine ⟨fun i => (Nat.rec (motive := fun _ => {k : Nat // k < S 0 4 ∧ cmv S o y (S 12 k) = false}) ⟨k0, hk0⟩ (fun _ t => ⟨(hnext t.1 t.2).choose, (hnext t.1 t.2).choose_spec.1⟩) i).1, fun i => ⟨?_, ?_⟩⟩
    · exact (Nat.rec (motive := fun _ => {k : Nat // k < S 0 4 ∧ cmv S o y (S 12 k) = false}) ⟨k0, hk0⟩ (fun _ t => ⟨(hnext t.1 t.2).choose, (hnext t.1 t.2).choose_spec.1⟩) i).2
    · exact (hnext _ (Nat.rec (motive := fun _ => {k : Nat // k < S 0 4 ∧ cmv S o y (S 12 k) = false}) ⟨k0, hk0⟩ (fun _ t => ⟨(hnext t.1 t.2).choose, (hnext t.1 t.2).choose_spec.1⟩) i).2).choose_spec.2
  obtain ⟨i, j, hij, _, he⟩ := PH (S 0 4) s (fun i _ => (hs i).1.1)
  have path : ∀ d, Rc S (S 12 (s i)) (S 12 (s (i + (d + 1)))) := by
    intro d
    induction d with
    | zero => exact Rc.base (hs i).2
    | succ d ih => exact Rc.step ih (hs (i + (d + 1))).2
  have hp := path (j - i - 1)
  rw [show i + (j - i - 1 + 1) = j by omega, ← he] at hp
  have hv := (hG.2.1 _ (hs i).1.1).2.1
  exact ⟨S 12 (s i), hv.2.2, hv.2.1, hv.1, (hs i).1.2, hp⟩
/-- the lowest and that hangs on itself -/
def isLow (S : RW) (v : Nat) : Prop := (S 8 v = 3 ∧ Rc S v v) ∧ ∀ u, u < v → ¬ (S 8 u = 3 ∧ Rc S u u)
noncomputable def lowS (S : RW) : Nat := Classical.epsilon (isLow S)
theorem lowS_eq {v : Nat} (h : isLow S v) : lowS S = v := by
  have h2 : isLow S (lowS S) := Classical.epsilon_spec ⟨v, h⟩
  rcases Nat.lt_trichotomy (lowS S) v with hh | hh | hh
  · exact absurd h2.1 (h.2 _ hh)
  · exact hh
  · exact absurd h.1 (h2.2 _ hh)
def orS (S : RW) : RW := fun r i => if r = 5 then S 12 ((sg2 S (S 0 4)).1 i) else if r = 11 then (sg2 S (S 0 4)).1 i else if r = 105 ∨ r = 111 then (if i < S 0 4 then 1 else 0) else S r i
noncomputable def srA (S : RW) (p : Nat) : RS := if (sg2 S (S 0 4)).2 = S 0 4 then .ok (orS S, p, 0) else .error (6, lowS S)
end
