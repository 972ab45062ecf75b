/-! The walk over the pairs, as numbers: N the next pair, W how many vectors; step t looks at vector t % W of the pair t / W of the queue. -/
def upN (f : Nat → Nat) (k v : Nat) : Nat → Nat := fun j => if j = k then v else f j
theorem upN_eq (f : Nat → Nat) (k v : Nat) : upN f k v k = v := if_pos rfl
theorem upN_ne {f : Nat → Nat} {k v j : Nat} (h : j ≠ k) : upN f k v j = f j := if_neg h
abbrev BS : Type := (Nat → Nat) × Nat × (Nat → Nat) × (Nat → Nat)
def bst (N : Nat → Nat → Nat) (W t : Nat) (B : BS) : BS :=
  if t / W < B.2.1 ∧ B.2.2.1 (N (B.1 (t / W)) (t % W)) = 0 then
    (upN B.1 B.2.1 (N (B.1 (t / W)) (t % W)), B.2.1 + 1, upN B.2.2.1 (N (B.1 (t / W)) (t % W)) (B.2.2.1 (B.1 (t / W)) + 1), upN B.2.2.2 (N (B.1 (t / W)) (t % W)) (32 * B.1 (t / W) + t % W))
  else B
def bf (N : Nat → Nat → Nat) (W : Nat) : Nat → BS
  | 0 => (fun _ => 0, 1, fun p => if p = 0 then 1 else 0, fun _ => 0)
  | t + 1 => bst N W t (bf N W t)
/-- how many of the first k are not 0 -/
def nz (d : Nat → Nat) : Nat → Nat
  | 0 => 0
  | k + 1 => nz d k + (if d k = 0 then 0 else 1)
theorem nz_le (d : Nat → Nat) : ∀ k, nz d k ≤ k
  | 0 => Nat.le_refl _
  | k + 1 => by have := nz_le d k; unfold nz; split <;> omega
theorem nz_lt {d : Nat → Nat} {p : Nat} (h : d p = 0) : ∀ k, p < k → nz d k < k
  | 0, hk => by omega
  | k + 1, hk => by
    unfold nz
    by_cases e : p = k
    · have := nz_le d k; subst e; rw [if_pos h]; omega
    · have := nz_lt h k (by omega); split <;> omega
theorem nz_up {d : Nat → Nat} {p v : Nat} (h : d p = 0) (hv : v ≠ 0) : ∀ k, nz (upN d p v) k = nz d k + (if p < k then 1 else 0)
  | 0 => by simp [nz]
  | k + 1 => by
    unfold nz
    rw [nz_up h hv k]
    by_cases e : k = p
    · subst e; rw [upN_eq, if_neg hv, if_pos h, if_neg (Nat.lt_irrefl k), if_pos (Nat.lt_succ_self k)]
    · rw [upN_ne e]
      by_cases h1 : p < k
      · rw [if_pos h1, if_pos (c := p < k + 1) (by omega)]; omega
      · rw [if_neg h1, if_neg (c := p < k + 1) (by omega)]; omega
section
variable (N : Nat → Nat → Nat) (W : Nat)
def bq (t i : Nat) : Nat := (bf N W t).1 i
def bn (t : Nat) : Nat := (bf N W t).2.1
def bd (t p : Nat) : Nat := (bf N W t).2.2.1 p
def ba (t p : Nat) : Nat := (bf N W t).2.2.2 p
/-- the pair that step t looks at -/
def bto (t : Nat) : Nat := N (bq N W t (t / W)) (t % W)
def bnew (t : Nat) : Prop := t / W < bn N W t ∧ bd N W t (bto N W t) = 0
theorem b_yes {t : Nat} (h : bnew N W t) : bf N W (t + 1) = (upN (bf N W t).1 (bn N W t) (bto N W t), bn N W t + 1, upN (bf N W t).2.2.1 (bto N W t) (bd N W t (bq N W t (t / W)) + 1), upN (bf N W t).2.2.2 (bto N W t) (32 * bq N W t (t / W) + t % W)) := by
  show bst N W t (bf N W t) = _
  unfold bst
  exact if_pos h
theorem b_no {t : Nat} (h : ¬ bnew N W t) : bf N W (t + 1) = bf N W t := by
  show bst N W t (bf N W t) = _
  unfold bst
  exact if_neg h
theorem bn_yes {t : Nat} (h : bnew N W t) : bn N W (t + 1) = bn N W t + 1 := by unfold bn; rw [b_yes N W h]; rfl
theorem bn_no {t : Nat} (h : ¬ bnew N W t) : bn N W (t + 1) = bn N W t := by unfold bn; rw [b_no N W h]
theorem bq_yes {t i : Nat} (h : bnew N W t) : bq N W (t + 1) i = if i = bn N W t then bto N W t else bq N W t i := by unfold bq; rw [b_yes N W h]; rfl
theorem bq_no {t i : Nat} (h : ¬ bnew N W t) : bq N W (t + 1) i = bq N W t i := by unfold bq; rw [b_no N W h]
theorem bd_yes {t p : Nat} (h : bnew N W t) : bd N W (t + 1) p = if p = bto N W t then bd N W t (bq N W t (t / W)) + 1 else bd N W t p := by unfold bd; rw [b_yes N W h]; rfl
theorem bd_no {t p : Nat} (h : ¬ bnew N W t) : bd N W (t + 1) p = bd N W t p := by unfold bd; rw [b_no N W h]
theorem ba_yes {t p : Nat} (h : bnew N W t) : ba N W (t + 1) p = if p = bto N W t then 32 * bq N W t (t / W) + t % W else ba N W t p := by unfold ba; rw [b_yes N W h]; rfl
theorem ba_no {t p : Nat} (h : ¬ bnew N W t) : ba N W (t + 1) p = ba N W t p := by unfold ba; rw [b_no N W h]
theorem bn_step (t : Nat) : bn N W t ≤ bn N W (t + 1) := by
  by_cases h : bnew N W t
  · rw [bn_yes N W h]; omega
  · rw [bn_no N W h]; omega
theorem bn_mono {t u : Nat} (h : t ≤ u) : bn N W t ≤ bn N W u := by
  induction h with
  | refl => exact Nat.le_refl _
  | step _ ih => exact Nat.le_trans ih (bn_step N W _)
theorem bq_keep {t u i : Nat} (h : t ≤ u) (hi : i < bn N W t) : bq N W u i = bq N W t i := by
  induction h with
  | refl => rfl
  | @step u h ih =>
    have := bn_mono N W h
    by_cases hn : bnew N W u
    · rw [bq_yes N W hn, if_neg (by omega), ih]
    · rw [bq_no N W hn, ih]
theorem bd_keep {t u p : Nat} (h : t ≤ u) (hp : bd N W t p ≠ 0) : bd N W u p = bd N W t p := by
  induction h with
  | refl => rfl
  | @step u h ih =>
    by_cases hn : bnew N W u
    · rw [bd_yes N W hn, if_neg (fun e => hp (by rw [← ih, e]; exact hn.2)), ih]
    · rw [bd_no N W hn, ih]
theorem ba_keep {t u p : Nat} (h : t ≤ u) (hp : bd N W t p ≠ 0) : ba N W u p = ba N W t p := by
  induction h with
  | refl => rfl
  | @step u h ih =>
    by_cases hn : bnew N W u
    · rw [ba_yes N W hn, if_neg (fun e => hp (by rw [← bd_keep N W h hp, e]; exact hn.2)), ih]
    · rw [ba_no N W hn, ih]
/-- the first facts of the walk -/
theorem b_inv (hN : ∀ p x, N p x < 4096) : ∀ t, (1 ≤ bn N W t ∧ bq N W t 0 = 0 ∧ bd N W t 0 = 1 ∧ nz (bd N W t) 4096 = bn N W t) ∧ (∀ i, i < bn N W t → bd N W t (bq N W t i) ≠ 0 ∧ bq N W t i < 4096) ∧ (∀ p, bd N W t p ≠ 0 → ∃ i, i < bn N W t ∧ bq N W t i = p) ∧ (∀ i j, i < bn N W t → j < bn N W t → bq N W t i = bq N W t j → i = j)
  | 0 => by
    refine ⟨⟨Nat.le_refl _, rfl, rfl, ?_⟩, ?_, ?_, ?_⟩
    · have h : ∀ k, nz (bd N W 0) (k + 1) = 1 := by
        intro k
        induction k with
        | zero => rfl
        | succ k ih => rw [nz, ih]; rfl
      exact h 4095
    · intro i hi
      exact ⟨by show (if (0 : Nat) = 0 then 1 else 0) ≠ 0; simp, by show (0 : Nat) < 4096; decide⟩
    · intro p hp
      refine ⟨0, Nat.one_pos, ?_⟩
      have hp : (if p = 0 then 1 else 0) ≠ 0 := hp
      by_cases e : p = 0
      · exact e.symm
      · rw [if_neg e] at hp; exact absurd rfl hp
    · intro i j hi hj _
      have hi : i < 1 := hi
      have hj : j < 1 := hj
      omega
  | t + 1 => by
    obtain ⟨⟨h1, h2, h3, h4⟩, h5, h6, h7⟩ := b_inv hN t
    by_cases h : bnew N W t
    · have e4 : bd N W (t + 1) = upN (bd N W t) (bto N W t) (bd N W t (bq N W t (t / W)) + 1) := by funext p; rw [bd_yes N W h]; rfl
      refine ⟨⟨?_, ?_, ?_, ?_⟩, ?_, ?_, ?_⟩
      · rw [bn_yes N W h]; omega
      · rw [bq_yes N W h, if_neg (by omega), h2]
      · rw [bd_yes N W h, if_neg (fun e => by have := h.2; rw [← e, h3] at this; omega), h3]
      · rw [e4, nz_up h.2 (by omega), h4, bn_yes N W h, if_pos (show bto N W t < 4096 from hN _ _)]
      · intro i hi
        rw [bn_yes N W h] at hi
        rw [bq_yes N W h]
        by_cases e : i = bn N W t
        · rw [if_pos e, bd_yes N W h, if_pos rfl]; exact ⟨by omega, hN _ _⟩
        · rw [if_neg e]
          refine ⟨?_, (h5 i (by omega)).2⟩
          rw [bd_keep N W (Nat.le_succ t) (h5 i (by omega)).1]; exact (h5 i (by omega)).1
      · intro p hp
        rw [bd_yes N W h] at hp
        rw [bn_yes N W h]
        by_cases e : p = bto N W t
        · exact ⟨bn N W t, by omega, by rw [bq_yes N W h, if_pos rfl, e]⟩
        · rw [if_neg e] at hp
          obtain ⟨i, hi, hq⟩ := h6 p hp
          exact ⟨i, by omega, by rw [bq_yes N W h, if_neg (by omega), hq]⟩
      · intro i j hi hj
        rw [bn_yes N W h] at hi hj
        rw [bq_yes N W h, bq_yes N W h]
        have out : ∀ k, k < bn N W t → bq N W t k ≠ bto N W t := fun k hk e => (h5 k hk).1 (by rw [e]; exact h.2)
        by_cases ei : i = bn N W t
        · by_cases ej : j = bn N W t
          · intro _; omega
          · rw [if_pos ei, if_neg ej]; intro e; exact absurd e.symm (out j (by omega))
        · by_cases ej : j = bn N W t
          · rw [if_neg ei, if_pos ej]; intro e; exact absurd e (out i (by omega))
          · rw [if_neg ei, if_neg ej]; exact h7 i j (by omega) (by omega)
    · have e1 := bn_no N W h
      have e2 : bq N W (t + 1) = bq N W t := by funext i; exact bq_no N W h
      have e3 : bd N W (t + 1) = bd N W t := by funext i; exact bd_no N W h
      rw [e1, e2, e3]
      exact ⟨⟨h1, h2, h3, h4⟩, h5, h6, h7⟩
theorem bn_le (hN : ∀ p x, N p x < 4096) (t : Nat) : bn N W t ≤ 4096 := by
  rw [← (b_inv N W hN t).1.2.2.2]; exact nz_le _ _
theorem bn_lt (hN : ∀ p x, N p x < 4096) {t : Nat} (h : bnew N W t) : bn N W t < 4096 := by
  rw [← (b_inv N W hN t).1.2.2.2]; exact nz_lt h.2 _ (hN _ _)
/-- each but the first came from one ahead -/
theorem b_from (hN : ∀ p x, N p x < 4096) : ∀ t j, 0 < j → j < bn N W t → ∃ u, u < t ∧ u / W < j ∧ bn N W u = j ∧ bq N W t j = N (bq N W t (u / W)) (u % W) ∧ ba N W t (bq N W t j) = 32 * bq N W t (u / W) + u % W ∧ bd N W t (bq N W t j) = bd N W t (bq N W t (u / W)) + 1 ∧ bn N W (u + 1) = j + 1
  | 0, j, h0, hj => by
    have hj : j < 1 := hj
    omega
  | t + 1, j, h0, hj => by
    have inv := b_inv N W hN t
    by_cases h : bnew N W t
    · by_cases e : j = bn N W t
      · refine ⟨t, by omega, by have := h.1; omega, e.symm, ?_, ?_, ?_, by rw [bn_yes N W h, e]⟩
        · rw [bq_yes N W h, if_pos e, bq_yes N W h, if_neg (by have := h.1; omega)]; rfl
        · rw [bq_yes N W h, if_pos e, ba_yes N W h, if_pos rfl, bq_yes N W h, if_neg (by have := h.1; omega)]
        · rw [bq_yes N W h, if_pos e, bd_yes N W h, if_pos rfl, bq_yes N W h, if_neg (by have := h.1; omega), bd_yes N W h, if_neg]
          exact fun e1 => (inv.2.1 _ h.1).1 (by rw [e1]; exact h.2)
      · have hj2 : j < bn N W t := by rw [bn_yes N W h] at hj; omega
        obtain ⟨u, u1, u2, u3, u4, u5, u6, u7⟩ := b_from hN t j h0 hj2
        refine ⟨u, by omega, u2, u3, ?_, ?_, ?_, u7⟩
        · rw [bq_keep N W (Nat.le_succ t) hj2, bq_keep N W (Nat.le_succ t) (by omega), u4]
        · rw [bq_keep N W (Nat.le_succ t) hj2, bq_keep N W (Nat.le_succ t) (by omega), ba_keep N W (Nat.le_succ t) (inv.2.1 j hj2).1, u5]
        · rw [bq_keep N W (Nat.le_succ t) hj2, bq_keep N W (Nat.le_succ t) (by omega), bd_keep N W (Nat.le_succ t) (inv.2.1 j hj2).1, bd_keep N W (Nat.le_succ t) (inv.2.1 _ (by omega)).1, u6]
    · have e1 := bn_no N W h
      have e2 : bq N W (t + 1) = bq N W t := by funext i; exact bq_no N W h
      have e3 : bd N W (t + 1) = bd N W t := by funext i; exact bd_no N W h
      have e4 : ba N W (t + 1) = ba N W t := by funext i; exact ba_no N W h
      rw [e1] at hj
      obtain ⟨u, u1, u2, u3, u4, u5, u6, u7⟩ := b_from hN t j h0 hj
      rw [e2, e3, e4]
      exact ⟨u, by omega, u2, u3, u4, u5, u6, u7⟩
/-- what a step looked at is in the queue then -/
theorem b_seen (hN : ∀ p x, N p x < 4096) {t u : Nat} (hu : u < t) (hi : u / W < bn N W u) : ∃ j, j < bn N W (u + 1) ∧ bq N W t j = N (bq N W t (u / W)) (u % W) := by
  have hk : bq N W t (u / W) = bq N W u (u / W) := bq_keep N W (by omega) hi
  by_cases h : bnew N W u
  · refine ⟨bn N W u, by rw [bn_yes N W h]; omega, ?_⟩
    rw [bq_keep N W (t := u + 1) (by omega) (by rw [bn_yes N W h]; omega), bq_yes N W h, if_pos rfl, hk]; rfl
  · have hd : bd N W u (bto N W u) ≠ 0 := fun e => h ⟨hi, e⟩
    obtain ⟨j, hj, hq⟩ := (b_inv N W hN u).2.2.1 _ hd
    refine ⟨j, by rw [bn_no N W h]; exact hj, ?_⟩
    rw [bq_keep N W (t := u) (by omega) hj, hq, hk]; rfl
/-- depths don't fall along the queue -/
theorem b_depths (hN : ∀ p x, N p x < 4096) (hW : 0 < W) : ∀ t, (∀ i j, i ≤ j → j < bn N W t → bd N W t (bq N W t i) ≤ bd N W t (bq N W t j)) ∧ (t / W < bn N W t → ∀ j, j < bn N W t → bd N W t (bq N W t j) ≤ bd N W t (bq N W t (t / W)) + 1)
  | 0 => by
    refine ⟨fun i j h1 h2 => ?_, fun _ j h2 => ?_⟩
    · have h2 : j < 1 := h2
      rw [show i = j by omega]
      exact Nat.le_refl _
    · have h2 : j < 1 := h2
      rw [show j = 0 by omega, Nat.zero_div]
      omega
  | t + 1 => by
    obtain ⟨h1, h2⟩ := b_depths hN hW t
    have inv := b_inv N W hN t
    have hdiv : (t + 1) / W = t / W ∨ (t + 1) / W = t / W + 1 := by
      rw [Nat.succ_div]; split <;> omega
    by_cases h : bnew N W t
    · have hq : ∀ i, i < bn N W t → bd N W (t + 1) (bq N W (t + 1) i) = bd N W t (bq N W t i) := fun i hi => by
        rw [bq_keep N W (Nat.le_succ t) hi, bd_keep N W (Nat.le_succ t) (inv.2.1 i hi).1]
      have hlast : bd N W (t + 1) (bq N W (t + 1) (bn N W t)) = bd N W t (bq N W t (t / W)) + 1 := by
        rw [bq_yes N W h, if_pos rfl, bd_yes N W h, if_pos rfl]
      have h2' := h2 h.1
      have mono : ∀ i j, i ≤ j → j < bn N W (t + 1) → bd N W (t + 1) (bq N W (t + 1) i) ≤ bd N W (t + 1) (bq N W (t + 1) j) := by
        intro i j hij hj
        rw [bn_yes N W h] at hj
        by_cases ej : j = bn N W t
        · by_cases ei : i = bn N W t
          · rw [ei, ej]; exact Nat.le_refl _
          · rw [ej, hlast, hq i (by omega)]; exact h2' i (by omega)
        · rw [hq i (by omega), hq j (by omega)]; exact h1 i j hij (by omega)
      refine ⟨mono, fun hlt j hj => ?_⟩
      rw [bn_yes N W h] at hj hlt
      have hcur : bd N W t (bq N W t (t / W)) ≤ bd N W (t + 1) (bq N W (t + 1) ((t + 1) / W)) := by
        rw [← hq _ h.1]
        exact mono _ _ (by omega) (by rw [bn_yes N W h]; exact hlt)
      by_cases ej : j = bn N W t
      · rw [ej, hlast]; omega
      · rw [hq j (by omega)]
        have := h2' j (by omega)
        omega
    · have e1 := bn_no N W h
      have e2 : bq N W (t + 1) = bq N W t := by funext i; exact bq_no N W h
      have e3 : bd N W (t + 1) = bd N W t := by funext i; exact bd_no N W h
      rw [e1, e2, e3]
      refine ⟨h1, fun hlt j hj => ?_⟩
      have hcur := h1 (t / W) ((t + 1) / W) (by omega) hlt
      have := h2 (by omega) j hj
      omega
end
