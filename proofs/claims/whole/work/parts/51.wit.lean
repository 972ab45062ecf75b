/-! The end of the walk: its facts, the WITNESS, the layers. -/
def FW (N : Nat → Nat → Nat) (W : Nat) (q : Nat → Nat) (n : Nat) (d a : Nat → Nat) : Prop := ∃ t, bn N W t * W = t ∧ q = bq N W t ∧ n = bn N W t ∧ d = bd N W t ∧ a = ba N W t
section
variable {N : Nat → Nat → Nat} {W : Nat} {q : Nat → Nat} {n : Nat} {d a : Nat → Nat}
theorem b_ready (hN : ∀ p x, N p x < 4096) (hW : 0 < W) {t i : Nat} (hi : i < bn N W t) : i < bn N W (i * W) := by
  by_cases h0 : i = 0
  · subst h0; exact (b_inv N W hN (0 * W)).1.1
  · obtain ⟨u, u1, u2, u3, _, _, _, u7⟩ := b_from N W hN t i (by omega) hi
    have h1 : u < i * W := (Nat.div_lt_iff_lt_mul hW).mp u2
    have := bn_mono N W (t := u + 1) (u := i * W) (by omega)
    omega
theorem fw_basic (hN : ∀ p x, N p x < 4096) (h : FW N W q n d a) : (q 0 = 0 ∧ d 0 = 1 ∧ 1 ≤ n ∧ n ≤ 4096) ∧ (∀ i, i < n → d (q i) ≠ 0 ∧ q i < 4096) ∧ (∀ p, d p ≠ 0 → ∃ i, i < n ∧ q i = p) ∧ (∀ i j, i < n → j < n → q i = q j → i = j) := by
  obtain ⟨t, ht, rfl, rfl, rfl, rfl⟩ := h
  have inv := b_inv N W hN t
  exact ⟨⟨inv.1.2.1, inv.1.2.2.1, inv.1.1, bn_le N W hN t⟩, inv.2⟩
theorem fw_mono (hN : ∀ p x, N p x < 4096) (hW : 0 < W) (h : FW N W q n d a) {i j : Nat} (hij : i ≤ j) (hj : j < n) : d (q i) ≤ d (q j) := by
  obtain ⟨t, ht, rfl, rfl, rfl, rfl⟩ := h
  exact (b_depths N W hN hW t).1 i j hij hj
theorem dm {W i x : Nat} (hx : x < W) : (i * W + x) / W = i ∧ (i * W + x) % W = x := by
  have hW : 0 < W := by omega
  rw [Nat.mul_comm]
  constructor
  · rw [Nat.mul_add_div hW, Nat.div_eq_of_lt hx, Nat.add_zero]
  · rw [Nat.mul_add_mod, Nat.mod_eq_of_lt hx]
/-- the count of the queue just before vector x of pair i -/
theorem fw_count (hN : ∀ p x, N p x < 4096) (hW : 0 < W) (h : FW N W q n d a) : ∃ c : Nat → Nat, (∀ t u, t ≤ u → c t ≤ c u) ∧ (∀ i x, i < n → x < W → ∃ j, j < n ∧ j < c (i * W + x + 1) ∧ q j = N (q i) x) ∧ (∀ j, 0 < j → j < n → ∃ i x, i < j ∧ x < W ∧ c (i * W + x) = j ∧ q j = N (q i) x ∧ a (q j) = 32 * q i + x ∧ d (q j) = d (q i) + 1) := by
  obtain ⟨t, ht, rfl, rfl, rfl, rfl⟩ := h
  refine ⟨bn N W, fun t u h => bn_mono N W h, fun i x hi hx => ?_, fun j h0 hj => ?_⟩
  · have hu : i * W + x < t := by
      have h1 : (i + 1) * W ≤ bn N W t * W := Nat.mul_le_mul_right W hi
      rw [Nat.succ_mul] at h1
      omega
    obtain ⟨e1, e2⟩ := dm (i := i) hx
    have hr := b_ready hN hW hi
    obtain ⟨j, hj, hq⟩ := b_seen N W hN hu (by rw [e1]; exact Nat.lt_of_lt_of_le hr (bn_mono N W (by omega)))
    rw [e1, e2] at hq
    exact ⟨j, Nat.lt_of_lt_of_le hj (bn_mono N W (by omega)), hj, hq⟩
  · obtain ⟨u, u1, u2, u3, u4, u5, u6, u7⟩ := b_from N W hN t j h0 hj
    refine ⟨u / W, u % W, u2, Nat.mod_lt _ hW, ?_, u4, u5, u6⟩
    rw [Nat.mul_comm, Nat.div_add_mod]; exact u3
theorem fw_step (hN : ∀ p x, N p x < 4096) (hW : 0 < W) (h : FW N W q n d a) {i x : Nat} (hi : i < n) (hx : x < W) : d (N (q i) x) ≠ 0 ∧ d (N (q i) x) ≤ d (q i) + 1 := by
  obtain ⟨c, c1, c2, c3⟩ := fw_count hN hW h
  obtain ⟨j, hj, hjc, hq⟩ := c2 i x hi hx
  rw [← hq]
  refine ⟨((fw_basic hN h).2.1 j hj).1, ?_⟩
  by_cases h0 : j = 0
  · rw [h0, (fw_basic hN h).1.1, (fw_basic hN h).1.2.1]; omega
  · obtain ⟨i', x', r1, r2, r3, r4, r5, r6⟩ := c3 j (by omega) hj
    rw [r6]
    have : i' ≤ i := by
      apply Nat.le_of_not_lt
      intro hlt
      have h1 : i * W + x + 1 ≤ i' * W + x' := by
        have : (i + 1) * W ≤ i' * W := Nat.mul_le_mul_right W hlt
        rw [Nat.succ_mul] at this
        omega
      have := c1 _ _ h1
      omega
    have := fw_mono hN hW h this hi
    omega
/-- k pairs back from p -/
def back (a : Nat → Nat) (p : Nat) : Nat → Nat
  | 0 => p
  | k + 1 => a (back a p k) / 32
/-- p leads to a pair that tells, k steps on, each one deeper -/
def Gd (N : Nat → Nat → Nat) (W : Nat) (d : Nat → Nat) (tl : Nat → Prop) : Nat → Nat → Prop
  | 0, p => tl p
  | k + 1, p => ∃ x, x < W ∧ d (N p x) = d p + 1 ∧ Gd N W d tl k (N p x)
theorem back_idx (hN : ∀ p x, N p x < 4096) (hW : 0 < W) (hW2 : W ≤ 32) (h : FW N W q n d a) {f : Nat} (hf : f < n) : ∀ k, k < d (q f) → ∃ i, i < n ∧ i ≤ f ∧ back a (q f) k = q i ∧ d (q i) + k = d (q f)
  | 0, _ => ⟨f, hf, Nat.le_refl _, rfl, rfl⟩
  | k + 1, hk => by
    obtain ⟨i, hi, hif, hb, hd⟩ := back_idx hN hW hW2 h hf k (by omega)
    obtain ⟨c, c1, c2, c3⟩ := fw_count hN hW h
    have h0 : i ≠ 0 := fun e => by
      rw [e, (fw_basic hN h).1.1, (fw_basic hN h).1.2.1] at hd
      omega
    obtain ⟨i', x', r1, r2, r3, r4, r5, r6⟩ := c3 i (by omega) hi
    refine ⟨i', by omega, by omega, ?_, by omega⟩
    show a (back a (q f) k) / 32 = _
    rw [hb, r5]; omega
/-- the first pair of the queue that tells: nothing good comes ahead of its way -/
theorem first_way (hN : ∀ p x, N p x < 4096) (hW : 0 < W) (hW2 : W ≤ 32) (h : FW N W q n d a) {tl : Nat → Prop} {f : Nat} (hf : f < n) (hfst : ∀ i, i < f → ¬ tl (q i)) : ∀ k, k < d (q f) → ∀ i i', i < i' → i' < n → back a (q f) k = q i' → d (q i) = d (q i') → ¬ Gd N W d tl k (q i)
  | 0, _, i, i', hii, hi', hb, _, hg => by
    have : f = i' := (fw_basic hN h).2.2.2 f i' hf hi' hb
    exact hfst i (by omega) hg
  | k + 1, hk, i, i', hii, hi', hb, hdd, hg => by
    obtain ⟨c, c1, c2, c3⟩ := fw_count hN hW h
    obtain ⟨x, hx, hdx, hg⟩ := hg
    obtain ⟨j, hj, hjc, hq⟩ := c2 i x (by omega) hx
    obtain ⟨j', hj', _, hb', hd'⟩ := back_idx hN hW hW2 h hf k (by omega)
    have hb2 : a (back a (q f) k) / 32 = q i' := hb
    have h0 : j' ≠ 0 := fun e => by
      rw [e, (fw_basic hN h).1.1, (fw_basic hN h).1.2.1] at hd'
      omega
    obtain ⟨i2, x2, r1, r2, r3, r4, r5, r6⟩ := c3 j' (by omega) hj'
    have e2 : q i2 = q i' := by rw [← hb2, hb', r5]; omega
    have e3 : i2 = i' := (fw_basic hN h).2.2.2 i2 i' (by omega) hi' e2
    subst e3
    have h1 : i * W + x + 1 ≤ i2 * W + x2 := by
      have : (i + 1) * W ≤ i2 * W := Nat.mul_le_mul_right W hii
      rw [Nat.succ_mul] at this
      omega
    have h2 := c1 _ _ h1
    rw [← hq] at hg hdx
    exact first_way hN hW hW2 h hf hfst k (by omega) j j' (by omega) hj' hb' (by omega) hg
/-- one step of the way to the first pair that tells: its vector is the first good one -/
theorem way_step (hN : ∀ p x, N p x < 4096) (hW : 0 < W) (hW2 : W ≤ 32) (h : FW N W q n d a) {tl : Nat → Prop} {f : Nat} (hf : f < n) (hfst : ∀ i, i < f → ¬ tl (q i)) {k : Nat} (hk : k + 1 < d (q f)) :
    a (back a (q f) k) % 32 < W ∧ N (back a (q f) (k + 1)) (a (back a (q f) k) % 32) = back a (q f) k ∧ d (back a (q f) k) = d (back a (q f) (k + 1)) + 1 ∧ d (back a (q f) (k + 1)) + (k + 1) = d (q f) ∧ ∀ x, x < a (back a (q f) k) % 32 → ¬ (d (N (back a (q f) (k + 1)) x) = d (back a (q f) (k + 1)) + 1 ∧ Gd N W d tl k (N (back a (q f) (k + 1)) x)) := by
  obtain ⟨c, c1, c2, c3⟩ := fw_count hN hW h
  obtain ⟨j', hj', _, hb', hd'⟩ := back_idx hN hW hW2 h hf k (by omega)
  have h0 : j' ≠ 0 := fun e => by
    rw [e, (fw_basic hN h).1.1, (fw_basic hN h).1.2.1] at hd'
    omega
  obtain ⟨i, x, r1, r2, r3, r4, r5, r6⟩ := c3 j' (by omega) hj'
  have eb : back a (q f) (k + 1) = q i := by show a (back a (q f) k) / 32 = _; rw [hb', r5]; omega
  have ex : a (back a (q f) k) % 32 = x := by rw [hb', r5]; omega
  rw [eb, ex, hb']
  refine ⟨r2, r4.symm, r6, by omega, fun x' hx' hg => ?_⟩
  obtain ⟨j, hj, hjc, hq⟩ := c2 i x' (by omega) (by omega)
  have h2 := c1 (i * W + x' + 1) (i * W + x) (by omega)
  rw [← hq] at hg
  exact first_way hN hW hW2 h hf hfst k (by omega) j j' (by omega) hj' hb' (by rw [hg.1, r6]) hg.2
theorem way_good (hN : ∀ p x, N p x < 4096) (hW : 0 < W) (hW2 : W ≤ 32) (h : FW N W q n d a) {tl : Nat → Prop} {f : Nat} (hf : f < n) (htl : tl (q f)) (hfst : ∀ i, i < f → ¬ tl (q i)) : ∀ k, k < d (q f) → Gd N W d tl k (back a (q f) k)
  | 0, _ => htl
  | k + 1, hk => by
    obtain ⟨h1, h2, h3, _, _⟩ := way_step hN hW hW2 h (tl := tl) hf hfst hk
    exact ⟨_, h1, by rw [h2]; exact h3, by rw [h2]; exact way_good hN hW hW2 h hf htl hfst k (by omega)⟩
theorem way_end (hN : ∀ p x, N p x < 4096) (hW : 0 < W) (hW2 : W ≤ 32) (h : FW N W q n d a) {f : Nat} (hf : f < n) {k : Nat} (hk : k + 1 = d (q f)) : back a (q f) k = 0 := by
  obtain ⟨i, hi, _, hb, hd⟩ := back_idx hN hW hW2 h hf k (by omega)
  rw [hb]
  by_cases h0 : i = 0
  · rw [h0]; exact (fw_basic hN h).1.1
  · obtain ⟨c, c1, c2, c3⟩ := fw_count hN hW h
    obtain ⟨i', x', r1, r2, r3, r4, r5, r6⟩ := c3 i (by omega) hi
    have := ((fw_basic hN h).2.1 i' (by omega)).1
    omega
/-- pairs ahead of the end of the way don't tell -/
theorem way_quiet (hN : ∀ p x, N p x < 4096) (hW : 0 < W) (hW2 : W ≤ 32) (h : FW N W q n d a) {tl : Nat → Prop} {f : Nat} (hf : f < n) (hfst : ∀ i, i < f → ¬ tl (q i)) {k : Nat} (hk : k + 1 < d (q f)) : ¬ tl (back a (q f) (k + 1)) := by
  obtain ⟨i, hi, hif, hb, hd⟩ := back_idx hN hW hW2 h hf (k + 1) (by omega)
  rw [hb]
  refine hfst i ?_
  rcases Nat.lt_or_eq_of_le hif with h1 | h1
  · exact h1
  · subst h1; omega
/-- layer k: k vectors that don't tell and one that tells can follow -/
def Ly (N : Nat → Nat → Nat) (W : Nat) (T : Nat → Nat → Bool) : Nat → Nat → Prop
  | 0, p => ∃ x, x < W ∧ T p x = true
  | k + 1, p => ∃ x, x < W ∧ T p x = false ∧ Ly N W T k (N p x)
theorem ly_tells (hN : ∀ p x, N p x < 4096) (hW : 0 < W) (h : FW N W q n d a) {T : Nat → Nat → Bool} : ∀ k i, i < n → Ly N W T k (q i) → ∃ j, j < n ∧ (∃ x, x < W ∧ T (q j) x = true) ∧ d (q j) ≤ d (q i) + k
  | 0, i, hi, hl => ⟨i, hi, hl, Nat.le_refl _⟩
  | k + 1, i, hi, hl => by
    obtain ⟨x, hx, _, hl⟩ := hl
    obtain ⟨h1, h2⟩ := fw_step hN hW h hi hx
    obtain ⟨i', hi', hq⟩ := (fw_basic hN h).2.2.1 _ h1
    rw [← hq] at hl h2
    obtain ⟨j, hj, ht, hd⟩ := ly_tells hN hW h k i' hi' hl
    exact ⟨j, hj, ht, by omega⟩
theorem ly_way (hN : ∀ p x, N p x < 4096) (hW : 0 < W) (hW2 : W ≤ 32) (h : FW N W q n d a) {T : Nat → Nat → Bool} {f : Nat} (hf : f < n) (htl : ∃ x, x < W ∧ T (q f) x = true) (hfst : ∀ i, i < f → ¬ ∃ x, x < W ∧ T (q i) x = true) : ∀ k, k < d (q f) → Ly N W T k (back a (q f) k)
  | 0, _ => htl
  | k + 1, hk => by
    obtain ⟨h1, h2, h3, _, _⟩ := way_step hN hW hW2 h (tl := fun p => ∃ x, x < W ∧ T p x = true) hf hfst hk
    refine ⟨_, h1, ?_, by rw [h2]; exact ly_way hN hW hW2 h hf htl hfst k (by omega)⟩
    have h4 := way_quiet hN hW hW2 h (tl := fun p => ∃ x, x < W ∧ T p x = true) hf hfst hk
    cases hb : T (back a (q f) (k + 1)) (a (back a (q f) k) % 32)
    · rfl
    · exact absurd ⟨_, h1, hb⟩ h4
end
