/-! What holds of the rows while a file is read. -/
def Kd (S : RW) (r c m : Nat) : Prop := (∀ k, k < m → S (r + 100) k = 1 ∧ S 8 (S r k) = c) ∧ (∀ v, S 8 v = c → ∃ k, k < m ∧ S r k = v) ∧ (∀ k k', k < m → k' < m → S r k = S r k' → k = k')
def KI (S : RW) (i l a : Nat) : Prop := (S 8 0 = 0 ∧ ∀ v, S 8 v ≠ 0 → v ≤ S 0 0) ∧ Kd S 1 1 i ∧ Kd S 2 2 l ∧ Kd S 12 3 a
def NX (S : RW) (l o : Nat) : Prop := (∀ k, k < l → S 103 k = 1 ∧ S 123 k = 1 ∧ S 3 k = S 19 k ∧ S 23 k = S 20 k) ∧ (∀ k, k < o → S 104 k = 1 ∧ S 124 k = 1 ∧ S 4 k = S 19 (S 0 2 + k) ∧ S 24 k = S 20 (S 0 2 + k))
def LI (S : RW) (nu : Nat) : Prop := ∀ i, i < nu → S 119 i = 1 ∧ S 120 i = 1 ∧ S 19 i ≤ 2 * S 0 0 + 1
def AN1 (S : RW) (a : Nat) : Prop := ∀ k, k < a → S 106 (S 12 k) = 1 ∧ S 107 (S 12 k) = 1 ∧ S 113 k = 1 ∧ S 114 k = 1 ∧ S 6 (S 12 k) = S 13 k ∧ S 7 (S 12 k) = S 14 k ∧ S 13 k ≤ 2 * S 0 0 + 1 ∧ S 14 k ≤ 2 * S 0 0 + 1
def AN2 (S : RW) (a : Nat) : Prop := ∀ k, k < a → S 133 k = 1 ∧ S 134 k = 1 ∧ S 13 k = S 19 (S 0 2 + S 0 3 + 2 * k) ∧ S 14 k = S 19 (S 0 2 + S 0 3 + 2 * k + 1) ∧ S 33 k = S 20 (S 0 2 + S 0 3 + 2 * k) ∧ S 34 k = S 20 (S 0 2 + S 0 3 + 2 * k + 1)
section
variable {b : Nat → Nat} {S S' : RW} {p q v nu k m i l a : Nat}
theorem Kd_same {r c : Nat} (h8 : S' 8 = S 8) (hr : S' r = S r) (hm : S' (r + 100) = S (r + 100)) (h : Kd S r c m) : Kd S' r c m := by
  unfold Kd; rw [h8, hr, hm]; exact h
theorem Kd_new {r c u : Nat} (hu : S 8 u = 0) (hc : c ≠ 0) (hr : r ≠ 8 ∧ r < 100) (h : Kd S r c m) : Kd (st (st S 8 u c) r m u) r c (m + 1) := by
  have e8 : st (st S 8 u c) r m u 8 = st S 8 u c 8 := st_o (by omega) (by omega)
  have er : ∀ j, st (st S 8 u c) r m u r j = if j = m then u else S r j := fun j => by rw [st_r, st_o hr.1 (by omega)]
  have em : ∀ j, st (st S 8 u c) r m u (r + 100) j = if j = m then 1 else S (r + 100) j := fun j => by rw [st_m, st_o (by omega) (by omega)]
  obtain ⟨h1, h2, h3⟩ := h
  have hne : ∀ j, j < m → S r j ≠ u := fun j hj he => by have := (h1 j hj).2; rw [he, hu] at this; exact hc this.symm
  refine ⟨fun j hj => ?_, fun w hw => ?_, fun j j' hj hj' he => ?_⟩
  · rw [em, er, e8, st_r]
    by_cases e0 : j = m
    · rw [if_pos e0, if_pos e0, if_pos rfl]; exact ⟨rfl, rfl⟩
    · rw [if_neg e0, if_neg e0, if_neg (hne j (by omega))]; exact h1 j (by omega)
  · rw [e8, st_r] at hw
    by_cases e0 : w = u
    · exact ⟨m, by omega, by rw [er, if_pos rfl, e0]⟩
    · rw [if_neg e0] at hw
      obtain ⟨j, hj, he⟩ := h2 w hw
      exact ⟨j, by omega, by rw [er, if_neg (by omega)]; exact he⟩
  · rw [er, er] at he
    by_cases e0 : j = m
    · by_cases e1 : j' = m
      · omega
      · rw [if_pos e0, if_neg e1] at he; exact absurd he.symm (hne j' (by omega))
    · by_cases e1 : j' = m
      · rw [if_neg e0, if_pos e1] at he; exact absurd he (hne j (by omega))
      · rw [if_neg e0, if_neg e1] at he; exact h3 j j' (by omega) (by omega) he
theorem Kd_oth {r c r' c' m' u : Nat} (hu : S 8 u = 0) (hc : c ≠ 0) (hcc : c' ≠ c) (hr : r ≠ 8 ∧ r < 100) (hr' : r' ≠ r ∧ r' ≠ 8 ∧ r' < 100) (h : Kd S r c m) : Kd (st (st S 8 u c') r' m' u) r c m := by
  have e8 : st (st S 8 u c') r' m' u 8 = st S 8 u c' 8 := st_o (by omega) (by omega)
  have er : st (st S 8 u c') r' m' u r = S r := by rw [st_o (by omega) (by omega), st_o hr.1 (by omega)]
  have em : st (st S 8 u c') r' m' u (r + 100) = S (r + 100) := by rw [st_o (by omega) (by omega), st_o (by omega) (by omega)]
  obtain ⟨h1, h2, h3⟩ := h
  have hne : ∀ j, j < m → S r j ≠ u := fun j hj he => by have := (h1 j hj).2; rw [he, hu] at this; exact hc this.symm
  refine ⟨fun j hj => ?_, fun w hw => ?_, fun j j' hj hj' he => ?_⟩
  · rw [em, er, e8, st_r, if_neg (hne j hj)]; exact h1 j hj
  · rw [e8, st_r] at hw
    by_cases e0 : w = u
    · rw [if_pos e0] at hw; exact absurd hw hcc
    · rw [if_neg e0] at hw
      obtain ⟨j, hj, he⟩ := h2 w hw
      exact ⟨j, hj, by rw [er]; exact he⟩
  · rw [er] at he; exact h3 j j' hj hj' he
theorem KI_bound {u c r x : Nat} (hr : r ≠ 8 ∧ r ≠ 0 ∧ r < 100) (hu0 : u ≠ 0) (hu : u ≤ S 0 0) (h : S 8 0 = 0 ∧ ∀ v, S 8 v ≠ 0 → v ≤ S 0 0) : (st (st S 8 u c) r m x) 8 0 = 0 ∧ ∀ v, (st (st S 8 u c) r m x) 8 v ≠ 0 → v ≤ (st (st S 8 u c) r m x) 0 0 := by
  rw [st_o (r' := 8) (by omega) (by omega), st_o (r' := 0) (by omega) (by omega), st_o (r' := 0) (by decide) (by decide), st_r, if_neg (by omega)]
  refine ⟨h.1, fun v hv => ?_⟩
  rw [st_r] at hv
  by_cases e0 : v = u
  · rw [e0]; exact hu
  · rw [if_neg e0] at hv; exact h.2 v hv
theorem KI_in {u : Nat} (h : KI S i l a) (hu : S 8 u = 0) (hu0 : u ≠ 0) (huM : u ≤ S 0 0) : KI (st (st S 8 u 1) 1 i u) (i + 1) l a := ⟨KI_bound (by decide) hu0 huM h.1, Kd_new hu (by decide) (by decide) h.2.1, Kd_oth hu (by decide) (by decide) (by decide) (by decide) h.2.2.1, Kd_oth hu (by decide) (by decide) (by decide) (by decide) h.2.2.2⟩
theorem KI_la {u : Nat} (h : KI S i l a) (hu : S 8 u = 0) (hu0 : u ≠ 0) (huM : u ≤ S 0 0) : KI (st (st S 8 u 2) 2 l u) i (l + 1) a := ⟨KI_bound (by decide) hu0 huM h.1, Kd_oth hu (by decide) (by decide) (by decide) (by decide) h.2.1, Kd_new hu (by decide) (by decide) h.2.2.1, Kd_oth hu (by decide) (by decide) (by decide) (by decide) h.2.2.2⟩
theorem KI_an {u : Nat} (h : KI S i l a) (hu : S 8 u = 0) (hu0 : u ≠ 0) (huM : u ≤ S 0 0) : KI (st (st S 8 u 3) 12 a u) i l (a + 1) := ⟨KI_bound (by decide) hu0 huM h.1, Kd_oth hu (by decide) (by decide) (by decide) (by decide) h.2.1, Kd_oth hu (by decide) (by decide) (by decide) (by decide) h.2.2.1, Kd_new hu (by decide) (by decide) h.2.2.2⟩
theorem KI_st {r j x : Nat} (hr : r ≠ 0 ∧ r ≠ 1 ∧ r ≠ 2 ∧ r ≠ 8 ∧ r ≠ 12 ∧ r < 100) (h : KI S i l a) : KI (st S r j x) i l a := by
  have e : ∀ r', (r' = 0 ∨ r' = 1 ∨ r' = 2 ∨ r' = 8 ∨ r' = 12 ∨ r' = 101 ∨ r' = 102 ∨ r' = 112) → st S r j x r' = S r' := fun r' hr' => st_o (by omega) (by omega)
  unfold KI Kd
  rw [e 0 (by decide), e 1 (by decide), e 2 (by decide), e 8 (by decide), e 12 (by decide), e (1 + 100) (by decide), e (2 + 100) (by decide), e (12 + 100) (by decide)]
  exact h
theorem NX_rows {o : Nat} (h3 : ∀ r, r = 0 ∨ r = 3 ∨ r = 4 ∨ r = 23 ∨ r = 24 ∨ r = 103 ∨ r = 104 ∨ r = 123 ∨ r = 124 → S' r = S r) (h19 : ∀ k, k < l → S' 19 k = S 19 k ∧ S' 20 k = S 20 k) (h19o : ∀ k, k < o → S' 19 (S 0 2 + k) = S 19 (S 0 2 + k) ∧ S' 20 (S 0 2 + k) = S 20 (S 0 2 + k)) (h : NX S l o) : NX S' l o := by
  unfold NX
  rw [h3 0 (by decide), h3 3 (by decide), h3 4 (by decide), h3 23 (by decide), h3 24 (by decide), h3 103 (by decide), h3 104 (by decide), h3 123 (by decide), h3 124 (by decide)]
  exact ⟨fun k hk => by rw [(h19 k hk).1, (h19 k hk).2]; exact h.1 k hk, fun k hk => by rw [(h19o k hk).1, (h19o k hk).2]; exact h.2 k hk⟩
/-- one use more -/
theorem LI_us {x y : Nat} (h : LI S nu) (hx : x ≤ 2 * S 0 0 + 1) : LI (st (st (st S 19 nu x) 20 nu y) 32 0 (nu + 1)) (nu + 1) := by
  intro j hj
  rw [st_o (r' := 119) (by decide) (by decide), st_o (r' := 119) (by decide) (by decide), show (119 : Nat) = 19 + 100 from rfl, st_m, st_o (r' := 120) (by decide) (by decide), show (120 : Nat) = 20 + 100 from rfl, st_m, st_o (r' := 20 + 100) (by decide) (by decide), st_o (r' := 19) (by decide) (by decide), st_o (r' := 19) (by decide) (by decide), st_r, st_o (r' := 0) (by decide) (by decide), st_o (r' := 0) (by decide) (by decide), st_o (r' := 0) (by decide) (by decide)]
  by_cases e0 : j = nu
  · rw [if_pos e0, if_pos e0, if_pos e0]; exact ⟨rfl, rfl, hx⟩
  · rw [if_neg e0, if_neg e0, if_neg e0]; exact h j (by omega)
theorem LI_st {r j x : Nat} (hr : r ≠ 0 ∧ r ≠ 19 ∧ r ≠ 20 ∧ r < 100) (h : LI S nu) : LI (st S r j x) nu := by
  unfold LI
  rw [st_o (r' := 119) (by omega) (by omega), st_o (r' := 120) (by omega) (by omega), st_o (r' := 19) (by omega) (by omega), st_o (r' := 0) (by omega) (by omega)]
  exact h
theorem AN1_rows (hr : ∀ r, r = 0 ∨ r = 6 ∨ r = 7 ∨ r = 12 ∨ r = 13 ∨ r = 14 ∨ r = 106 ∨ r = 107 ∨ r = 113 ∨ r = 114 → S' r = S r) (h : AN1 S a) : AN1 S' a := by
  unfold AN1
  rw [hr 0 (by decide), hr 6 (by decide), hr 7 (by decide), hr 12 (by decide), hr 13 (by decide), hr 14 (by decide), hr 106 (by decide), hr 107 (by decide), hr 113 (by decide), hr 114 (by decide)]
  exact h
/-- the rows behind a use -/
def usS (S : RW) (x y : Nat) : RW := st (st (st S 19 (S 32 0) x) 20 (S 32 0) y) 32 0 (S 32 0 + 1)
theorem us_o {x y r : Nat} (hr : r ≠ 19 ∧ r ≠ 20 ∧ r ≠ 32 ∧ r ≠ 119 ∧ r ≠ 120 ∧ r ≠ 132) : usS S x y r = S r := by
  unfold usS
  rw [st_o (by omega) (by omega), st_o (by omega) (by omega), st_o (by omega) (by omega)]
theorem us_19 {x y j : Nat} : usS S x y 19 j = (if j = S 32 0 then x else S 19 j) ∧ usS S x y 20 j = (if j = S 32 0 then y else S 20 j) := by
  unfold usS
  rw [st_o (r' := 19) (by decide) (by decide), st_o (r' := 19) (by decide) (by decide), st_r, st_o (r' := 20) (by decide) (by decide), st_r, st_o (r' := 20) (by decide) (by decide)]
  exact ⟨rfl, rfl⟩
end
