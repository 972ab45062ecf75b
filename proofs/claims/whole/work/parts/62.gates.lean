/-! The gates: both circuits laid over one another. -/
/-- the first k below n with p k, or n -/
def fd (p : Nat → Bool) : Nat → Nat
  | 0 => 0
  | n + 1 => if fd p n < n then fd p n else if p n then n else n + 1
theorem fd_spec (p : Nat → Bool) : ∀ n, fd p n ≤ n ∧ (fd p n < n → p (fd p n) = true) ∧ ∀ k, k < fd p n → p k = false
  | 0 => ⟨Nat.le_refl _, fun h => absurd h (by unfold fd; omega), fun k hk => by unfold fd at hk; omega⟩
  | n + 1 => by
    obtain ⟨h1, h2, h3⟩ := fd_spec p n
    unfold fd
    by_cases ha : fd p n < n
    · rw [if_pos ha]; exact ⟨by omega, fun _ => h2 ha, h3⟩
    · rw [if_neg ha]
      have hn : fd p n = n := by omega
      rw [hn] at h3
      by_cases hb : p n = true
      · rw [if_pos hb]; exact ⟨by omega, fun _ => hb, h3⟩
      · rw [if_neg hb]
        refine ⟨by omega, fun h => absurd h (by omega), fun k hk => ?_⟩
        by_cases e0 : k = n
        · rw [e0]; exact Bool.eq_false_iff.mpr hb
        · exact h3 k (by omega)
theorem fd_eq {p : Nat → Bool} {n k : Nat} (hk : k ≤ n) (h1 : k < n → p k = true) (h0 : ∀ j, j < k → p j = false) : fd p n = k := by
  obtain ⟨a1, a2, a3⟩ := fd_spec p n
  rcases Nat.lt_trichotomy (fd p n) k with h | h | h
  · have := a2 (by omega); rw [h0 _ h] at this; cases this
  · exact h
  · have := h1 (by omega); rw [a3 k h] at this; cases this
abbrev GS : Type := (Nat → Nat) × (Nat → Nat) × (Nat → Nat) × Nat
def gq (lo hi : Nat → Nat) (a b : Nat) (k : Nat) : Bool := decide (lo k = min a b) && decide (hi k = max a b)
/-- the signal of two operands, and the gates then -/
def jn (lo hi : Nat → Nat) (n a b : Nat) : Nat × (Nat → Nat) × (Nat → Nat) × Nat :=
  if a = 0 ∨ b = 0 ∨ a = b ^^^ 1 then (0, lo, hi, n)
  else if a = 1 ∨ a = b then (b, lo, hi, n)
  else if b = 1 then (a, lo, hi, n)
  else if fd (gq lo hi a b) n < n then (2 * (18 + fd (gq lo hi a b) n), lo, hi, n)
  else (2 * (18 + n), upN lo n (min a b), upN hi n (max a b), n + 1)
def sgl (s : Nat → Nat) (l : Nat) : Nat := s (l / 2) ^^^ (l % 2)
def zI (C : Nat → Nat → Nat) : Nat → Nat → Nat
  | 0 => fun _ => 0
  | k + 1 => upN (zI C k) (C 1 k) (2 * (1 + k))
def zL (C : Nat → Nat → Nat) (base : Nat) (s : Nat → Nat) : Nat → Nat → Nat
  | 0 => s
  | k + 1 => upN (zL C base s k) (C 2 k) (2 * (base + k))
def gA (C : Nat → Nat → Nat) (S lo hi : Nat → Nat) (n : Nat) : Nat → GS
  | 0 => (S, lo, hi, n)
  | y + 1 => (upN (gA C S lo hi n y).1 (C 5 y) (jn (gA C S lo hi n y).2.1 (gA C S lo hi n y).2.2.1 (gA C S lo hi n y).2.2.2 (sgl (gA C S lo hi n y).1 (C 6 y)) (sgl (gA C S lo hi n y).1 (C 7 y))).1, (jn (gA C S lo hi n y).2.1 (gA C S lo hi n y).2.2.1 (gA C S lo hi n y).2.2.2 (sgl (gA C S lo hi n y).1 (C 6 y)) (sgl (gA C S lo hi n y).1 (C 7 y))).2)
def gC (C : Nat → Nat → Nat) (base : Nat) (lo hi : Nat → Nat) (n : Nat) : GS := gA C (zL C base (zI C (C 0 1)) (C 0 2)) lo hi n (C 0 4)
def gg0 (K : Nat → Nat → Nat → Nat) : GS := gC (K 0) 6 (fun _ => 0) (fun _ => 0) 0
def gg1 (K : Nat → Nat → Nat → Nat) : GS := gC (K 1) 12 (gg0 K).2.1 (gg0 K).2.2.1 (gg0 K).2.2.2
def gN (K : Nat → Nat → Nat → Nat) : Nat := (gg1 K).2.2.2
/-- variables that have a signal when y ands have come -/
def asg (C : Nat → Nat → Nat) (y v : Nat) : Prop := v = 0 ∨ (∃ k, k < C 0 1 ∧ C 1 k = v) ∨ (∃ k, k < C 0 2 ∧ C 2 k = v) ∨ (∃ y', y' < y ∧ C 5 y' = v)
theorem WF.asg {C : Nat → Nat → Nat} (h : WF C) {y l : Nat} (hy : y < C 0 4) (hl : l = C 6 y ∨ l = C 7 y) : asg C y (l / 2) := by
  have hd : dl C l := by
    rcases hl with rfl | rfl
    · exact (h.2.2.2.2.1.2.2 y hy).1
    · exact (h.2.2.2.2.1.2.2 y hy).2
  by_cases hk : C 8 (l / 2) = 3
  · exact Or.inr (Or.inr (Or.inr (h.2.2.2.2.2.1 y hy l hl hk)))
  · rcases hd.2 with h2 | h2
    · exact Or.inl (by omega)
    · rcases h.cases h2 with hh | hh | ⟨y', h4, h5⟩
      · exact Or.inr (Or.inl hh)
      · exact Or.inr (Or.inr (Or.inl hh))
      · exact absurd (h5 ▸ h.2.2.1.2.2 y' h4) hk
theorem jn_cnt (lo hi : Nat → Nat) (n a b : Nat) : n ≤ (jn lo hi n a b).2.2.2 ∧ (jn lo hi n a b).2.2.2 ≤ n + 1 := by
  unfold jn
  split
  · exact ⟨Nat.le_refl _, Nat.le_succ _⟩
  · split
    · exact ⟨Nat.le_refl _, Nat.le_succ _⟩
    · split
      · exact ⟨Nat.le_refl _, Nat.le_succ _⟩
      · split
        · exact ⟨Nat.le_refl _, Nat.le_succ _⟩
        · exact ⟨Nat.le_succ _, Nat.le_refl _⟩
theorem gA_cnt (C : Nat → Nat → Nat) (S lo hi : Nat → Nat) (n : Nat) : ∀ y, (gA C S lo hi n y).2.2.2 ≤ n + y
  | 0 => Nat.le_refl _
  | y + 1 => by
    have h1 := gA_cnt C S lo hi n y
    have h2 := (jn_cnt (gA C S lo hi n y).2.1 (gA C S lo hi n y).2.2.1 (gA C S lo hi n y).2.2.2 (sgl (gA C S lo hi n y).1 (C 6 y)) (sgl (gA C S lo hi n y).1 (C 7 y))).2
    show (jn (gA C S lo hi n y).2.1 (gA C S lo hi n y).2.2.1 (gA C S lo hi n y).2.2.2 (sgl (gA C S lo hi n y).1 (C 6 y)) (sgl (gA C S lo hi n y).1 (C 7 y))).2.2.2 ≤ _
    omega
/-- signals stay small -/
theorem xor_lt {s b : Nat} (hs : s < 4096) (hb : b < 2) : s ^^^ b < 4096 := Nat.xor_lt_two_pow (n := 12) hs (by omega)
theorem jn_lt {lo hi : Nat → Nat} {n a b : Nat} (ha : a < 4096) (hb : b < 4096) (hn : n < 1000) : (jn lo hi n a b).1 < 4096 := by
  unfold jn
  split
  · show 0 < 4096; decide
  · split
    · exact hb
    · split
      · exact ha
      · split
        · show 2 * (18 + fd (gq lo hi a b) n) < 4096; omega
        · show 2 * (18 + n) < 4096; omega
theorem gA_lt {C : Nat → Nat → Nat} {S lo hi : Nat → Nat} {n : Nat} (hS : ∀ v, S v < 4096) : ∀ y, n + y < 1000 → ∀ v, (gA C S lo hi n y).1 v < 4096
  | 0, _, v => hS v
  | y + 1, hy, v => by
    have ih := gA_lt (C := C) (lo := lo) (hi := hi) (n := n) hS y (by omega)
    have hc := gA_cnt C S lo hi n y
    show upN _ _ _ v < 4096
    unfold upN
    split
    · exact jn_lt (xor_lt (ih _) (Nat.mod_lt _ (by decide))) (xor_lt (ih _) (Nat.mod_lt _ (by decide))) (by omega)
    · exact ih v
theorem zI_lt (C : Nat → Nat → Nat) : ∀ k, k ≤ 10 → ∀ v, zI C k v < 4096
  | 0, _, v => by show 0 < 4096; decide
  | k + 1, hk, v => by
    show upN _ _ _ v < 4096
    unfold upN
    split
    · omega
    · exact zI_lt C k (by omega) v
theorem zL_lt {C : Nat → Nat → Nat} {base : Nat} {s : Nat → Nat} (hs : ∀ v, s v < 4096) (hb : base < 100) : ∀ k, k ≤ 10 → ∀ v, zL C base s k v < 4096
  | 0, _, v => hs v
  | k + 1, hk, v => by
    show upN _ _ _ v < 4096
    unfold upN
    split
    · omega
    · exact zL_lt hs hb k (by omega) v
section
variable {e : xenv} {F : Nat → Nat → Int32} {L : Nat → Nat → Int64} {g : xh} {z : Nat → Nat} {K : Nat → Nat → Nat → Nat}
def GT (F : Nat → Nat → Int32) (lo hi : Nat → Nat) (n : Nat) : Prop := F 190 3 = Int32.ofNat n ∧ (∀ k, k < n → F 191 k = Int32.ofNat (lo k) ∧ F 192 k = Int32.ofNat (hi k)) ∧ (∀ k, k < n → lo k < 4096 ∧ hi k < 4096)
theorem v_gateOf {Q : Int32 → xh → Prop} {lo hi : Nat → Nat} {n a b : Nat} (hG : GT F lo hi n) (hn : n < 300) (ha : a < 4096) (hb : b < 4096)
    (h : ∀ F', (∀ k, k ≠ 190 → k ≠ 191 → k ≠ 192 → F' k = F k) → (fd (gq lo hi a b) n < n → GT F' lo hi n → Q (Int32.ofNat (2 * (18 + fd (gq lo hi a b) n))) (mem e true F' L g)) ∧ (¬ fd (gq lo hi a b) n < n → GT F' (upN lo n (min a b)) (upN hi n (max a b)) (n + 1) → Q (Int32.ofNat (2 * (18 + n))) (mem e true F' L g))) : wp_Overlay_gateOf z Q (ad e 190) (Int32.ofNat (min a b)) (Int32.ofNat (max a b)) (mem e true F L g) := by
  obtain ⟨g1, g2, g3⟩ := hG
  have hmin : min a b < 4096 := by omega
  have hmax : max a b < 4096 := by omega
  unfold wp_Overlay_gateOf wp_Overlay_gateOf_2
  refine xloop_dn (fun m q => ∃ k, m = n - k ∧ k ≤ n ∧ q = (ad e 190, Int32.ofNat (min a b), Int32.ofNat (max a b), Int32.ofNat k, mem e true F L g) ∧ ∀ j, j < k → gq lo hi a b j = false) ?_ n _ ⟨0, rfl, Nat.zero_le _, rfl, fun j hj => by omega⟩
  rintro m q cc ⟨k, rfl, hk1, rfl, p1⟩ hk
  unfold wp_Overlay_gateOf_2_b; dsimp only
  repeat (first | ((with_reducible show ∃ _, _ ∧ _); first | refine s_fI (by rfl) (by rfl) (by rfl) ?_ | refine s_fR (by rfl) (by rfl) (by rfl) ?_ | refine s_pV (by rfl) (by rfl) (Nat.le_of_ble_eq_true rfl) (by rfl) ?_) | ((with_reducible show xcls _ _ _ ∧ _); refine s_cls (by rfl) (by rfl) ?_))
  rw [g1]
  have next : gq lo hi a b k = false → k < n → wp_Overlay_gateOf_30 z Q cc (ad e 190) (Int32.ofNat (min a b)) (Int32.ofNat (max a b)) (Int32.ofNat k) (mem e true F L g) := by
    intro hq hkn
    unfold wp_Overlay_gateOf_30
    refine hk (n - (k + 1)) _ (by omega) ⟨k + 1, rfl, by omega, by rw [n_lit, n_add], fun j hj => ?_⟩
    by_cases e0 : j = k
    · rw [e0]; exact hq
    · exact p1 j (by omega)
  refine ⟨fun hc => ?_, fun hc => ?_⟩ <;> rw [n_le (by omega) (by omega)] at hc
  · have : k = n := by omega
    subst this
    have hfd : fd (gq lo hi a b) k = k := fd_eq (Nat.le_refl _) (fun hh => by omega) p1
    unfold wp_Overlay_gateOf_36 wp_Overlay_gateOf_68
    repeat (first | ((with_reducible show ∃ _, _ ∧ _); first | refine s_fI (by rfl) (by rfl) (by rfl) ?_ | refine s_fR (by rfl) (by rfl) (by rfl) ?_ | refine s_pV (by rfl) (by rfl) (Nat.le_of_ble_eq_true rfl) (by rfl) ?_) | ((with_reducible show xcls _ _ _ ∧ _); refine s_cls (by rfl) (by rfl) ?_))
    rw [g1]
    refine ⟨fun hh => absurd rfl hh, fun _ => ?_⟩
    repeat (first | ((with_reducible show ∃ _, _ ∧ _); first | refine s_fI (by rfl) (by rfl) (by rfl) ?_ | refine s_fR (by rfl) (by rfl) (by rfl) ?_ | refine s_pV (by rfl) (by rfl) (Nat.le_of_ble_eq_true rfl) (by rfl) ?_) | ((with_reducible show xcls _ _ _ ∧ _); refine s_cls (by rfl) (by rfl) ?_))
    refine s_sI (i := k) (by rfl) (by rfl) (by rfl) (by rfl) (by rfl) (by omega) (by decide) ?_
    repeat (first | ((with_reducible show ∃ _, _ ∧ _); first | refine s_fI (by rfl) (by rfl) (by rfl) ?_ | refine s_fR (by rfl) (by rfl) (by rfl) ?_ | refine s_pV (by rfl) (by rfl) (Nat.le_of_ble_eq_true rfl) (by rfl) ?_) | ((with_reducible show xcls _ _ _ ∧ _); refine s_cls (by rfl) (by rfl) ?_))
    refine s_sI (i := k) (by rfl) (by rfl) (by rfl) (by rfl) (by rfl) (by omega) (by decide) ?_
    repeat (first | ((with_reducible show ∃ _, _ ∧ _); first | refine s_fI (by rfl) (by rfl) (by rfl) ?_ | refine s_fR (by rfl) (by rfl) (by rfl) ?_ | refine s_pV (by rfl) (by rfl) (Nat.le_of_ble_eq_true rfl) (by rfl) ?_) | ((with_reducible show xcls _ _ _ ∧ _); refine s_cls (by rfl) (by rfl) ?_))
    rw [up_k (by decide), up_k (by decide), g1, show (2 : Int32) * (18 + Int32.ofNat k) = Int32.ofNat (2 * (18 + k)) by rw [show (18 : Int32) = Int32.ofNat 18 from rfl, n_add, n_lit, n_mul], show Int32.ofNat k + 1 = Int32.ofNat (k + 1) by rw [n_lit, n_add]]
    refine (h _ (fun q q1 q2 q3 => by rw [up_k q1, up_k q3, up_k q2])).2 (by omega) ⟨by rw [up_i, if_pos rfl], fun j hj => ?_, fun j hj => ?_⟩
    · by_cases e0 : j = k
      · refine ⟨?_, ?_⟩
        · rw [up_k (by decide), up_k (by decide), up_i, if_pos e0, upN, if_pos e0]
        · rw [up_k (by decide), up_i, if_pos e0, upN, if_pos e0]
      · refine ⟨?_, ?_⟩
        · rw [up_k (by decide), up_k (by decide), up_i, if_neg e0, upN, if_neg e0]; exact (g2 j (by omega)).1
        · rw [up_k (by decide), up_i, if_neg e0, up_k (by decide), upN, if_neg e0]; exact (g2 j (by omega)).2
    · unfold upN
      by_cases e0 : j = k
      · rw [if_pos e0, if_pos e0]; exact ⟨hmin, hmax⟩
      · rw [if_neg e0, if_neg e0]; exact g3 j (by omega)
  have hkn : k < n := by omega
  repeat (first | ((with_reducible show ∃ _, _ ∧ _); first | refine s_fI (by rfl) (by rfl) (by rfl) ?_ | refine s_fR (by rfl) (by rfl) (by rfl) ?_ | refine s_pV (by rfl) (by rfl) (Nat.le_of_ble_eq_true rfl) (by rfl) ?_) | ((with_reducible show xcls _ _ _ ∧ _); refine s_cls (by rfl) (by rfl) ?_))
  refine s_aI (i := k) (by rfl) (by rfl) (by rfl) (by rfl) (by omega) (by decide) ?_
  rw [(g2 k hkn).1]
  have gl := g3 k hkn
  refine ⟨fun hne => next ?_ hkn, fun heq => ?_⟩
  · unfold gq
    rw [decide_eq_false (fun e0 => hne (by rw [e0]))]; rfl
  · have hlo := n_inj (by omega) (by omega) heq
    repeat (first | ((with_reducible show ∃ _, _ ∧ _); first | refine s_fI (by rfl) (by rfl) (by rfl) ?_ | refine s_fR (by rfl) (by rfl) (by rfl) ?_ | refine s_pV (by rfl) (by rfl) (Nat.le_of_ble_eq_true rfl) (by rfl) ?_) | ((with_reducible show xcls _ _ _ ∧ _); refine s_cls (by rfl) (by rfl) ?_))
    refine s_aI (i := k) (by rfl) (by rfl) (by rfl) (by rfl) (by omega) (by decide) ?_
    rw [(g2 k hkn).2]
    refine ⟨fun heq2 => ?_, fun hne => next ?_ hkn⟩
    · have hhi := n_inj (by omega) (by omega) heq2
      have hq : gq lo hi a b k = true := by unfold gq; rw [decide_eq_true hlo, decide_eq_true hhi]; rfl
      have hfd : fd (gq lo hi a b) n = k := fd_eq (by omega) (fun _ => hq) p1
      unfold wp_Overlay_gateOf_36 wp_Overlay_gateOf_68
      repeat (first | ((with_reducible show ∃ _, _ ∧ _); first | refine s_fI (by rfl) (by rfl) (by rfl) ?_ | refine s_fR (by rfl) (by rfl) (by rfl) ?_ | refine s_pV (by rfl) (by rfl) (Nat.le_of_ble_eq_true rfl) (by rfl) ?_) | ((with_reducible show xcls _ _ _ ∧ _); refine s_cls (by rfl) (by rfl) ?_))
      rw [g1]
      refine ⟨fun _ => ?_, fun hh => absurd (n_inj (by omega) (by omega) hh) (by omega)⟩
      rw [show (2 : Int32) * (18 + Int32.ofNat k) = Int32.ofNat (2 * (18 + k)) by rw [show (18 : Int32) = Int32.ofNat 18 from rfl, n_add, n_lit, n_mul]]
      have := (h F (fun _ _ _ _ => rfl)).1 (by omega) ⟨g1, g2, g3⟩
      rw [hfd] at this
      exact this
    · unfold gq
      rw [decide_eq_false (p := hi k = max a b) (fun e0 => hne (by rw [e0])), Bool.and_false]
theorem v_join {Q : Int32 → xh → Prop} {lo hi : Nat → Nat} {n a b : Nat} (hG : GT F lo hi n) (hn : n < 300) (ha : a < 4096) (hb : b < 4096)
    (h : ∀ F', (∀ k, k ≠ 190 → k ≠ 191 → k ≠ 192 → F' k = F k) → GT F' (jn lo hi n a b).2.1 (jn lo hi n a b).2.2.1 (jn lo hi n a b).2.2.2 → Q (Int32.ofNat (jn lo hi n a b).1) (mem e true F' L g)) : wp_Overlay_join z Q (ad e 190) (Int32.ofNat a) (Int32.ofNat b) (mem e true F L g) := by
  have hx1 : b ^^^ 1 < 4096 := xor_lt hb (by decide)
  have same := h F (fun _ _ _ _ => rfl)
  unfold wp_Overlay_join wp_Overlay_join_27
  unfold jn at h same
  refine ⟨fun h0 => ?_, fun h0 => ⟨fun h1 => ?_, fun h1 => ?_⟩⟩
  · have e0 : a = 0 := n_inj (b := 0) (by omega) (by decide) h0
    rw [if_pos (Or.inl e0)] at same; exact same hG
  · have e0 : b = 0 := n_inj (b := 0) (by omega) (by decide) h1
    rw [if_pos (Or.inr (Or.inl e0))] at same; exact same hG
  have a0 : a ≠ 0 := fun e0 => h0 (by rw [e0]; rfl)
  have b0 : b ≠ 0 := fun e0 => h1 (by rw [e0]; rfl)
  rw [show Int32.ofNat b ^^^ 1 = Int32.ofNat (b ^^^ 1) by rw [n_lit, n_xor]]
  refine ⟨fun h2 => ?_, fun h2 => ?_⟩
  rotate_left
  · have e0 : a = b ^^^ 1 := n_inj (by omega) (by omega) h2
    rw [if_pos (Or.inr (Or.inr e0))] at same; exact same hG
  have ax : a ≠ b ^^^ 1 := fun e0 => h2 (by rw [e0])
  have c1 : ¬ (a = 0 ∨ b = 0 ∨ a = b ^^^ 1) := by rintro (e0 | e0 | e0); exact a0 e0; exact b0 e0; exact ax e0
  simp only [if_neg c1] at h same
  refine ⟨fun h3 => ?_, fun h3 => ⟨fun h4 => ⟨fun h5 => ?_, fun h5 => ?_⟩, fun h4 => ?_⟩⟩
  · have e0 : a = 1 := n_inj (b := 1) (by omega) (by decide) h3
    rw [if_pos (Or.inl e0)] at same; exact same hG
  rotate_left
  · have e0 : b = 1 := n_inj (b := 1) (by omega) (by decide) h5
    have e1 : ¬ (a = 1 ∨ a = b) := by rintro (e1 | e1); exact h3 (by rw [e1]; rfl); exact h4 (by rw [e1])
    rw [if_neg e1, if_pos e0] at same; exact same hG
  · have e0 : a = b := n_inj (by omega) (by omega) h4
    rw [if_pos (Or.inr e0)] at same; exact same hG
  · have e1 : ¬ (a = 1 ∨ a = b) := by rintro (e1 | e1); exact h3 (by rw [e1]; rfl); exact h4 (by rw [e1])
    have e2 : ¬ b = 1 := fun e2 => h5 (by rw [e2]; rfl)
    simp only [if_neg e1, if_neg e2] at h
    repeat (first | ((with_reducible show ∃ _, _ ∧ _); first | refine s_fI (by rfl) (by rfl) (by rfl) ?_ | refine s_fR (by rfl) (by rfl) (by rfl) ?_ | refine s_pV (by rfl) (by rfl) (Nat.le_of_ble_eq_true rfl) (by rfl) ?_) | ((with_reducible show xcls _ _ _ ∧ _); refine s_cls (by rfl) (by rfl) ?_))
    have emin : (if Int32.ofNat b < Int32.ofNat a then Int32.ofNat b else Int32.ofNat a) = Int32.ofNat (min a b) := by
      by_cases hlt : b < a
      · rw [if_pos ((n_lt (by omega) (by omega)).mpr hlt)]; congr 1; omega
      · rw [if_neg (fun hh => hlt ((n_lt (by omega) (by omega)).mp hh))]; congr 1; omega
    have emax : (if Int32.ofNat a < Int32.ofNat b then Int32.ofNat b else Int32.ofNat a) = Int32.ofNat (max a b) := by
      by_cases hlt : a < b
      · rw [if_pos ((n_lt (by omega) (by omega)).mpr hlt)]; congr 1; omega
      · rw [if_neg (fun hh => hlt ((n_lt (by omega) (by omega)).mp hh))]; congr 1; omega
    rw [emin, emax]
    refine v_gateOf hG hn ha hb (fun F' k1 => ⟨fun hlt hg => ?_, fun hlt hg => ?_⟩)
    · have := h F' k1
      rw [if_pos hlt] at this; exact this hg
    · have := h F' k1
      rw [if_neg hlt] at this; exact this hg
end
