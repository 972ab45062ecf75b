/-! How rows lie in memory. -/
def RE (ly : Nat → Nat × Nat × Nat) (V : Nat → Nat → Int32) (F : Nat → Nat → Int32) (S : RW) : Prop := ∀ r j, r < 100 → j < (ly r).2.2 → S (r + 100) j = 1 → F (ly r).1 ((ly r).2.1 + j) = V r (S r j)
def nb (x : Nat) : Int32 := (Int32.ofNat x).toInt8.toInt32
def lyC (r : Nat) : Nat × Nat × Nat := match r with
  | 0 => (65, 0, 5) | 31 => (40, 1, 5) | 8 => (41, 0, 201) | 1 => (44, 0, 5) | 2 => (45, 0, 6) | 3 => (46, 0, 6) | 4 => (47, 0, 8) | 6 => (42, 0, 201) | 7 => (43, 0, 201) | 12 => (69, 0, 150) | 19 => (66, 0, 314) | 20 => (67, 0, 314) | 32 => (64, 6, 1) | 30 => (64, 7, 1) | 5 => (48, 0, 150) | 40 => (50, 0, 5) | 41 => (50, 5, 6) | 42 => (50, 11, 8) | 50 => (49, 0, 200) | 51 => (49, 200, 240) | 52 => (49, 440, 320) | _ => (0, 0, 0)
def lyM (r : Nat) : Nat × Nat × Nat := match r with
  | 0 => (110, 10, 5) | 8 => (118, 402, 201) | 1 => (111, 10, 5) | 2 => (112, 14, 6) | 3 => (113, 14, 6) | 4 => (114, 16, 8) | 12 => (115, 300, 150) | 13 => (116, 300, 150) | 14 => (117, 300, 150) | 23 => (120, 0, 6) | 24 => (121, 0, 8) | 33 => (122, 0, 150) | 34 => (123, 0, 150) | 11 => (126, 0, 150) | 40 => (125, 44, 5) | 41 => (125, 50, 6) | 42 => (125, 58, 8) | 50 => (124, 1760, 200) | 51 => (124, 2000, 240) | 52 => (124, 2320, 320) | _ => (0, 0, 0)
def VC (r x : Nat) : Int32 := if r < 50 then Int32.ofNat x else nb x
def VM (r x : Nat) : Int32 := if r = 1 ∨ r = 2 ∨ r = 12 then Int32.ofNat (2 * x) else if r < 50 then Int32.ofNat x else nb x
theorem lyC_dis : ∀ r, r < 100 → ∀ r', r' < 100 → r ≠ r' → (lyC r).2.2 = 0 ∨ (lyC r').2.2 = 0 ∨ (lyC r).1 ≠ (lyC r').1 ∨ (lyC r).2.1 + (lyC r).2.2 ≤ (lyC r').2.1 ∨ (lyC r').2.1 + (lyC r').2.2 ≤ (lyC r).2.1 := by decide +kernel
theorem lyM_dis : ∀ r, r < 100 → ∀ r', r' < 100 → r ≠ r' → (lyM r).2.2 = 0 ∨ (lyM r').2.2 = 0 ∨ (lyM r).1 ≠ (lyM r').1 ∨ (lyM r).2.1 + (lyM r).2.2 ≤ (lyM r').2.1 ∨ (lyM r').2.1 + (lyM r').2.2 ≤ (lyM r).2.1 := by decide +kernel
theorem lyC_own : ∀ r, r < 100 → (lyC r).2.2 = 0 ∨ (40 ≤ (lyC r).1 ∧ (lyC r).1 ≤ 50 ∧ ((lyC r).1 ≠ 40 ∨ 1 ≤ (lyC r).2.1)) ∨ (65 ≤ (lyC r).1 ∧ (lyC r).1 ≤ 69) ∨ ((lyC r).1 = 64 ∧ (lyC r).2.1 + (lyC r).2.2 ≤ 8) := by decide +kernel
theorem lyM_own : ∀ r, r < 100 → (lyM r).2.2 = 0 ∨ (110 ≤ (lyM r).1 ∧ (lyM r).1 ≤ 126 ∧ (lyM r).1 ≠ 119) := by decide +kernel
section
variable {ly : Nat → Nat × Nat × Nat} {V : Nat → Nat → Int32} {F F' : Nat → Nat → Int32} {S : RW}
theorem RE.at (h : RE ly V F S) {r R o z j i : Nat} (hr : r < 100) (hl : ly r = (R, o, z)) (hj : j < z) (hm : S (r + 100) j = 1) (hi : i = o + j) : F R i = V r (S r j) := by
  have := h r j hr (by rw [hl]; exact hj) hm
  rw [hl] at this
  rw [hi]; exact this
theorem RE.put (hd : ∀ r, r < 100 → ∀ r', r' < 100 → r ≠ r' → (ly r).2.2 = 0 ∨ (ly r').2.2 = 0 ∨ (ly r).1 ≠ (ly r').1 ∨ (ly r).2.1 + (ly r).2.2 ≤ (ly r').2.1 ∨ (ly r').2.1 + (ly r').2.2 ≤ (ly r).2.1) (h : RE ly V F S) {r R o z i x c : Nat} {y : Int32} (hr : r < 100) (hl : ly r = (R, o, z)) (hi : i < z) (hc : c = o + i) (hy : y = V r x) : RE ly V (up F R c y) (st S r i x) := by
  intro r' j hr' hj hm
  by_cases e0 : r' = r
  · subst e0
    rw [st_m] at hm
    rw [st_r, hl, up_i]
    by_cases e1 : j = i
    · rw [if_pos e1, if_pos (by rw [hc, e1]), hy]
    · rw [if_neg e1] at hm ⊢
      rw [if_neg (by rw [hc]; dsimp only; omega)]
      have := h r' j hr' hj hm
      rw [hl] at this
      exact this
  · rw [st_o (by omega) (by omega)] at hm
    rw [st_o e0 (by omega)]
    have hcell := hd r' hr' r hr e0
    rw [hl] at hcell
    dsimp only at hcell
    have hne : ¬ ((ly r').1 = R ∧ (ly r').2.1 + j = c) := by omega
    by_cases e1 : (ly r').1 = R
    · rw [e1, up_i, if_neg (fun e2 => hne ⟨e1, e2⟩)]
      have := h r' j hr' hj hm
      rw [e1] at this
      exact this
    · rw [up_k e1]; exact h r' j hr' hj hm
theorem RE.skip (h : RE ly V F S) {r i x : Nat} (hr : r < 100) (hl : (ly r).2.2 = 0) : RE ly V F (st S r i x) := by
  intro r' j hr' hj hm
  by_cases e0 : r' = r
  · subst e0; rw [hl] at hj; omega
  · rw [st_o (by omega) (by omega)] at hm
    rw [st_o e0 (by omega)]
    exact h r' j hr' hj hm
theorem RE.kept (h : RE ly V F S) (hk : ∀ r j, r < 100 → j < (ly r).2.2 → F' (ly r).1 ((ly r).2.1 + j) = F (ly r).1 ((ly r).2.1 + j)) : RE ly V F' S := fun r j hr hj hm => by rw [hk r j hr hj]; exact h r j hr hj hm
end
/-- a byte as it is read -/
def iv (x : Nat) : Int32 := if x = 256 then -1 else Int32.ofNat x
def TP (F : Nat → Nat → Int32) (b : Nat → Nat) (n : Nat) : Prop := F 61 2 = Int32.ofNat n ∧ n ≤ 6000 ∧ ∀ i, b i = if i < n then bv (F 63 i) else 256
theorem TP.le {F : Nat → Nat → Int32} {b : Nat → Nat} {n : Nat} (h : TP F b n) (i : Nat) : b i ≤ 256 := by
  rw [h.2.2 i]; split
  · exact Nat.le_of_lt (bv_lt _)
  · exact Nat.le_refl _
theorem TP.lt {F : Nat → Nat → Int32} {b : Nat → Nat} {n : Nat} (h : TP F b n) {i : Nat} (hi : b i ≠ 256) : i < n := by
  rw [h.2.2 i] at hi
  by_cases hh : i < n
  · exact hh
  · rw [if_neg hh] at hi; exact absurd rfl hi
theorem TP.end' {F : Nat → Nat → Int32} {b : Nat → Nat} {n : Nat} (h : TP F b n) {i : Nat} (hi : b i = 256) : n ≤ i := by
  rw [h.2.2 i] at hi
  by_cases hh : i < n
  · rw [if_pos hh] at hi; have := bv_lt (F 63 i); omega
  · omega
theorem iv_eq {x c : Nat} (hx : x ≤ 256) (hc : c < 256) : iv x = Int32.ofNat c ↔ x = c := by
  unfold iv
  by_cases h : x = 256
  · rw [if_pos h]
    constructor
    · intro hh
      have : Int32.ofNat 4294967295 = Int32.ofNat c := hh
      have := n_inj (by omega) (by omega) this
      omega
    · intro hh; omega
  · rw [if_neg h, n_eq (by omega) (by omega)]
theorem iv_none {x : Nat} (hx : x ≤ 256) : iv x = -1 ↔ x = 256 := by
  unfold iv
  by_cases h : x = 256
  · rw [if_pos h]; exact ⟨fun _ => h, fun _ => rfl⟩
  · rw [if_neg h]
    refine ⟨fun hh => ?_, fun hh => absurd hh h⟩
    have : Int32.ofNat x = Int32.ofNat 4294967295 := hh
    have := n_inj (by omega) (by omega) this
    omega
theorem iv_nat {x : Nat} (h : x ≠ 256) : iv x = Int32.ofNat x := if_neg h
theorem iv_dg {x : Nat} (hx : x ≤ 256) : (¬ iv x < 48 ∧ ¬ 57 < iv x) ↔ dg x := by
  unfold iv dg
  by_cases h : x = 256
  · rw [if_pos h]; exact ⟨fun hh => absurd (show (-1 : Int32) < 48 by decide) hh.1, fun hh => by omega⟩
  · rw [if_neg h, n_lit, n_lt (by omega) (by decide), n_lit, n_lt (by decide) (by omega)]
    show ¬ x < 48 ∧ ¬ 57 < x ↔ _
    omega
theorem c_at {e : xenv} {w : Bool} {F : Nat → Nat → Int32} {L : Nat → Nat → Int64} {g : xh} {z : Nat → Nat} {Q : Int32 → xh → Prop} {b : Nat → Nat} {n p : Nat} (hT : TP F b n) (hp : p < 2147483648) (h : Q (iv (b p)) (mem e w F L g)) : wp_Tape_at z Q (ad e 61) (Int32.ofNat p) (mem e w F L g) := by
  refine v_Tape_at hT.1 hT.2.1 hp ?_
  have e1 : (if p < n then Int32.ofNat (bv (F 63 p)) else -1) = iv (b p) := by
    rw [hT.2.2 p]
    unfold iv
    by_cases hh : p < n
    · rw [if_pos hh, if_pos hh, if_neg (by have := bv_lt (F 63 p); omega)]
    · rw [if_neg hh, if_neg hh, if_pos rfl]
  rw [e1]; exact h
