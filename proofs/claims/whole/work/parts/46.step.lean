/-! Helpers for circuits and players wherever they stand; value and step. -/
theorem c_fI {e : xenv} {w : Bool} {F : Nat → Nat → Int32} {L : Nat → Nat → Int64} {g : xh} {P : Int32 → Prop} {b j : Nat} (hb : b = 0 ∨ b = 20 ∨ b = 40) (hj : j < 6) (h : P (F b j)) : ∃ v, fI (mem e w F L g) (ad e b) 0 j = some v ∧ P v := by
  rcases hb with rfl | rfl | rfl <;> rcases (by omega : j = 0 ∨ j = 1 ∨ j = 2 ∨ j = 3 ∨ j = 4 ∨ j = 5) with rfl | rfl | rfl | rfl | rfl | rfl <;> exact s_fI (by rfl) (by rfl) (by rfl) h
theorem c_fR {e : xenv} {w : Bool} {F : Nat → Nat → Int32} {L : Nat → Nat → Int64} {g : xh} {P : Nat → Prop} {b j : Nat} (hb : b = 0 ∨ b = 20 ∨ b = 40) (hj : 1 ≤ j ∧ j ≤ 10) (h : P (ad e (b + j))) : ∃ v, fR (mem e w F L g) (ad e b) 0 (5 + j) = some v ∧ P v := by
  rcases hb with rfl | rfl | rfl <;> rcases (by omega : j = 1 ∨ j = 2 ∨ j = 3 ∨ j = 4 ∨ j = 5 ∨ j = 6 ∨ j = 7 ∨ j = 8 ∨ j = 9 ∨ j = 10) with rfl | rfl | rfl | rfl | rfl | rfl | rfl | rfl | rfl | rfl <;> exact s_fR (by rfl) (by rfl) (by rfl) h
theorem c_cls {e : xenv} {w : Bool} {F : Nat → Nat → Int32} {L : Nat → Nat → Int64} {g : xh} {P : Prop} {b : Nat} (hb : b = 0 ∨ b = 20 ∨ b = 40) (h : P) : xcls (mem e w F L g) (ad e b) 0 ∧ P := by
  rcases hb with rfl | rfl | rfl <;> exact s_cls (by rfl) (by rfl) h
def cn (k : Nat) : Nat × Nat := match k with
  | 1 => (1, 201) | 2 => (0, 201) | 3 => (0, 201) | 4 => (0, 5) | 5 => (0, 6) | 6 => (0, 6) | 7 => (0, 8) | 8 => (0, 150) | 9 => (1, 760) | _ => (0, 19)
theorem c_aI {e : xenv} {w : Bool} {F : Nat → Nat → Int32} {L : Nat → Nat → Int64} {g : xh} {P : Int32 → Prop} {b j i : Nat} (hb : b = 0 ∨ b = 20 ∨ b = 40) (hj : 1 ≤ j ∧ j ≤ 10) (hi : i < (cn j).2) (h : P (F (b + j) i)) : ∃ v, aI (mem e w F L g) (ad e (b + j)) (cn j).1 (Int32.ofNat i) = some v ∧ P v := by
  rcases hb with rfl | rfl | rfl <;> rcases (by omega : j = 1 ∨ j = 2 ∨ j = 3 ∨ j = 4 ∨ j = 5 ∨ j = 6 ∨ j = 7 ∨ j = 8 ∨ j = 9 ∨ j = 10) with rfl | rfl | rfl | rfl | rfl | rfl | rfl | rfl | rfl | rfl <;> exact s_aI (by rfl) (by rfl) (by rfl) rfl hi (by decide) h
theorem cs_aR {e : xenv} {w : Bool} {F : Nat → Nat → Int32} {L : Nat → Nat → Int64} {g : xh} {P : Nat → Prop} {c : Nat} (hc : c < 2) (h : P (ad e (20 * c))) : ∃ v, aR (mem e w F L g) (ad e 75) 5 (Int32.ofNat c) = some v ∧ P v := by
  rcases c_cases hc with rfl | rfl <;> exact s_aR (by rfl) (by rfl) (by rfl) rfl (by decide) (by decide) (by rfl) h
theorem b_of {c : Nat} (hc : c < 2) : 20 * c = 0 ∨ 20 * c = 20 ∨ 20 * c = 40 := by omega
/-- a player: the class's own, or that of the works -/
def isP (w : Bool) (p : Nat) : Prop := p = 76 ∨ (p = 161 ∧ w = true)
theorem p_fR {e : xenv} {w : Bool} {F : Nat → Nat → Int32} {L : Nat → Nat → Int64} {g : xh} {P : Nat → Prop} {p j : Nat} (hp : isP w p) (hj : 1 ≤ j ∧ j ≤ 3) (h : P (ad e (p + j))) : ∃ v, fR (mem e w F L g) (ad e p) 4 j = some v ∧ P v := by
  rcases hp with rfl | ⟨rfl, rfl⟩ <;> rcases (by omega : j = 1 ∨ j = 2 ∨ j = 3) with rfl | rfl | rfl <;> exact s_fR (by rfl) (by rfl) (by rfl) h
theorem p_fR0 {e : xenv} {w : Bool} {F : Nat → Nat → Int32} {L : Nat → Nat → Int64} {g : xh} {P : Nat → Prop} {p : Nat} (hp : isP w p) (h : P (ad e 75)) : ∃ v, fR (mem e w F L g) (ad e p) 4 0 = some v ∧ P v := by
  rcases hp with rfl | ⟨rfl, rfl⟩ <;> exact s_fR (by rfl) (by rfl) (by rfl) h
theorem p_cls {e : xenv} {w : Bool} {F : Nat → Nat → Int32} {L : Nat → Nat → Int64} {g : xh} {P : Prop} {p : Nat} (hp : isP w p) (h : P) : xcls (mem e w F L g) (ad e p) 4 ∧ P := by
  rcases hp with rfl | ⟨rfl, rfl⟩ <;> exact s_cls (by rfl) (by rfl) h
def pn (j : Nat) : Nat := match j with
  | 1 => 2 | 2 => 5 | _ => 201
theorem p_li {w : Bool} {p j : Nat} (hp : isP w p) (hj : 1 ≤ j ∧ j ≤ 3) : li w (p + j) = true := by
  rcases hp with rfl | ⟨rfl, rfl⟩ <;> rcases (by omega : j = 1 ∨ j = 2 ∨ j = 3) with rfl | rfl | rfl <;> rfl
theorem p_ob {e : xenv} {w : Bool} {p j : Nat} (hp : isP w p) (hj : 1 ≤ j ∧ j ≤ 3) (f : Nat → Int32) (l : Nat → Int64) : ob e w f l (p + j) = .inl (0, pn j, .inl f) := by
  rcases hp with rfl | ⟨rfl, rfl⟩ <;> rcases (by omega : j = 1 ∨ j = 2 ∨ j = 3) with rfl | rfl | rfl <;> rfl
theorem isP.ge {w : Bool} {p : Nat} (hp : isP w p) : 76 ≤ p := by rcases hp with rfl | ⟨rfl, _⟩ <;> decide
theorem v_takeVector {e : xenv} {w : Bool} {F : Nat → Nat → Int32} {L : Nat → Nat → Int64} {g : xh} {z : Nat → Nat} {Q : xh → Prop} {x : Int32} {p : Nat} (hp : isP w p) (h : ∀ F', (∀ k, k ≠ p + 2 → F' k = F k) → (∀ k, k < 5 → ∀ i, i < 32 → bt (F' (p + 2) k) i = bt x k) → Q (mem e w F' L g)) : wp_Player_takeVector z Q (ad e p) x (mem e w F L g) := by
  unfold wp_Player_takeVector wp_Player_takeVector_2
  refine xloop_dn (fun n a => ∃ k F', n = 5 - k ∧ k ≤ 5 ∧ a = (ad e p, x, Int32.ofNat k, mem e w F' L g) ∧ (∀ q, q ≠ p + 2 → F' q = F q) ∧ (∀ j, j < k → ∀ i, i < 32 → bt (F' (p + 2) j) i = bt x j)) ?_ 5 _ ⟨0, F, rfl, by omega, rfl, fun _ _ => rfl, fun j hj => by omega⟩
  rintro n a c ⟨k, F', rfl, hk1, rfl, g1, g2⟩ hk
  unfold wp_Player_takeVector_2_b; dsimp only
  refine ⟨fun hc => ?_, fun hc => ?_⟩ <;> rw [n_lit, n_le (by decide) (by omega)] at hc
  · have : k = 5 := by omega
    subst this
    exact h F' g1 g2
  · refine p_fR hp (by decide) ?_
    rw [bt_shr1 x (by omega)]
    refine s_sI2 (i := k) (p_li hp (by decide)) (fun f => p_ob hp (by decide) f _) rfl (show k < 5 by omega) (by decide) ?_
    refine hk (5 - (k + 1)) _ (by omega) ⟨k + 1, _, rfl, by omega, by rw [n_lit, n_add], fun q hq => (up_k hq).trans (g1 q hq), fun j hj i hi => ?_⟩
    rw [up_i]
    by_cases e0 : j = k
    · rw [if_pos e0, e0, bt_neg1 (by cases bt x k <;> decide) hi]
      cases bt x k <;> rfl
    · rw [if_neg e0]; exact g2 j (by omega) i hi
/-- bits into a number -/
def gat (f : Nat → Bool) : Nat → Nat
  | 0 => 0
  | k + 1 => gat f k ||| ((f k).toNat * 2 ^ k)
theorem gat_lt (f : Nat → Bool) : ∀ k, gat f k < 2 ^ k
  | 0 => Nat.one_pos
  | k + 1 => by
    have h1 := gat_lt f k
    refine Nat.or_lt_two_pow (Nat.lt_trans h1 (Nat.pow_lt_pow_right (by decide) (by omega))) ?_
    rw [Nat.pow_succ]
    have : 0 < 2 ^ k := Nat.two_pow_pos k
    cases f k <;> simp <;> omega
theorem gat_bit (f : Nat → Bool) : ∀ k j, (gat f k).testBit j = (decide (j < k) && f j)
  | 0, j => by simp [gat]
  | k + 1, j => by
    show (gat f k ||| ((f k).toNat * 2 ^ k)).testBit j = _
    rw [Nat.testBit_or, gat_bit f k j, Nat.testBit_mul_two_pow]
    by_cases h1 : j < k
    · simp [h1, Nat.lt_succ_of_lt h1, Nat.not_le.mpr h1]
    · by_cases h2 : j = k
      · subst h2
        cases f j <;> simp
      · have h3 : ¬ j < k + 1 := by omega
        have h4 : k ≤ j := by omega
        have h5 : j - k ≠ 0 := by omega
        cases f k
        · simp [h1, h3]
        · have h6 : Nat.testBit 1 (j - k) = false := Bool.eq_false_iff.mpr (fun h => h5 (Nat.testBit_one_eq_true_iff_self_eq_zero.mp h))
          simp [h1, h3, h6]
theorem gat_ext {f h : Nat → Bool} : ∀ k, (∀ j, j < k → f j = h j) → gat f k = gat h k
  | 0, _ => rfl
  | k + 1, hh => by show gat f k ||| _ = gat h k ||| _; rw [gat_ext k (fun j hj => hh j (by omega)), hh k (by omega)]
theorem bt_and1 (x : Int32) : x &&& 1 = Int32.ofNat (bt x 0).toNat := by
  have h := bt_shr1 x (s := 0) (by decide)
  have e1 : x >>> (Int32.ofNat 0 &&& 31) = x := by
    apply Int32.toBitVec.inj
    show x.toBitVec.sshiftRight ((Int32.ofNat 0 &&& 31).toBitVec.smod 32).toNat = _
    rw [n_smod (by decide), BitVec.sshiftRight_zero]
  rw [e1] at h
  exact h
theorem v_gather {e : xenv} {w : Bool} {F : Nat → Nat → Int32} {L : Nat → Nat → Int64} {g : xh} {z : Nat → Nat} {Q : Int32 → xh → Prop} {p q t n m : Nat} {f : Nat → Nat} (hp : isP w p) (hl : li w q = true) (ho : ob e w (F q) (L q) q = .inl (t, n, .inl (F q))) (ht : t % 100 = 0) (hn : n < 32) (hm : m ≤ n) (hf : ∀ k, k < m → F q k = Int32.ofNat (f k) ∧ f k < 402) (h : Q (Int32.ofNat (gat (fun k => bt (wd (F (p + 3)) 0 (f k)) 0) m)) (mem e w F L g)) : wp_Player_gather z Q (ad e p) (ad e q) (Int32.ofNat m) (mem e w F L g) := by
  unfold wp_Player_gather wp_Player_gather_5
  refine xloop_dn (fun d a => ∃ k, d = m - k ∧ k ≤ m ∧ a = (ad e p, ad e q, Int32.ofNat m, Int32.ofNat (gat (fun k => bt (wd (F (p + 3)) 0 (f k)) 0) k), Int32.ofNat k, mem e w F L g)) ?_ m _ ⟨0, rfl, by omega, rfl⟩
  rintro d a c ⟨k, rfl, hk1, rfl⟩ hk
  unfold wp_Player_gather_5_b; dsimp only
  refine ⟨fun hc => ?_, fun hc => ?_⟩ <;> rw [n_le (by omega) (by omega)] at hc
  · have : k = m := by omega
    subst this
    exact h
  · refine p_fR hp (by decide) ?_
    refine s_aI (i := k) hl ho ht rfl (by omega) (by omega) ?_
    rw [(hf k (by omega)).1]
    have h2 := (hf k (by omega)).2
    refine v_word (r := p + 3) (base := 0) (p_li hp (by decide)) (fun f => p_ob hp (by decide) f _) (by decide) (show 0 + f k / 2 < 201 by omega) (by omega) ?_
    rintro v5 rfl
    refine hk (m - (k + 1)) _ (by omega) ⟨k + 1, rfl, by omega, ?_⟩
    rw [bt_and1, n_shl (by omega), n_or, n_lit, n_add]
    rfl
theorem v_look {e : xenv} {w : Bool} {F : Nat → Nat → Int32} {L : Nat → Nat → Int64} {g : xh} {z : Nat → Nat} {Q : Int32 → xh → Prop} {C : Nat → Nat → Nat} {c l s : Nat} {x : Int32} (hc : c < 2) (hK : KC (20 * c) F C) (hW : WF C) (hl : dl C l) (hs : F 77 c = Int32.ofNat s) (h : ∀ F', (∀ k, k ≠ 78 → k ≠ 79 → F' k = F k) → Q (Int32.ofNat (lv (va C (fun k => bt (Int32.ofNat s) k) (fun k => bt x k)) l).toNat) (mem e w F' L g)) : wp_Player_look z Q (ad e 76) (Int32.ofNat c) (Int32.ofNat l) x (mem e w F L g) := by
  unfold wp_Player_look
  repeat (first | ((with_reducible show ∃ _, _ ∧ _); first | refine s_fI (by rfl) (by rfl) (by rfl) ?_ | refine s_fR (by rfl) (by rfl) (by rfl) ?_ | refine s_pV (by rfl) (by rfl) (Nat.le_of_ble_eq_true rfl) (by rfl) ?_) | ((with_reducible show xcls _ _ _ ∧ _); refine s_cls (by rfl) (by rfl) ?_))
  refine v_takeVector (p := 76) (Or.inl rfl) (fun F1 k1 b1 => ?_)
  repeat (first | ((with_reducible show ∃ _, _ ∧ _); first | refine s_fI (by rfl) (by rfl) (by rfl) ?_ | refine s_fR (by rfl) (by rfl) (by rfl) ?_ | refine s_pV (by rfl) (by rfl) (Nat.le_of_ble_eq_true rfl) (by rfl) ?_) | ((with_reducible show xcls _ _ _ ∧ _); refine s_cls (by rfl) (by rfl) ?_))
  refine cs_aR hc ?_
  repeat (first | ((with_reducible show ∃ _, _ ∧ _); first | refine s_fI (by rfl) (by rfl) (by rfl) ?_ | refine s_fR (by rfl) (by rfl) (by rfl) ?_ | refine s_pV (by rfl) (by rfl) (Nat.le_of_ble_eq_true rfl) (by rfl) ?_) | ((with_reducible show xcls _ _ _ ∧ _); refine s_cls (by rfl) (by rfl) ?_))
  refine s_aI (i := c) (by rfl) (by rfl) (by rfl) (by rfl) (by omega) (by decide) ?_
  rw [k1 77 (by decide), hs]
  repeat (first | ((with_reducible show ∃ _, _ ∧ _); first | refine s_fI (by rfl) (by rfl) (by rfl) ?_ | refine s_fR (by rfl) (by rfl) (by rfl) ?_ | refine s_pV (by rfl) (by rfl) (Nat.le_of_ble_eq_true rfl) (by rfl) ?_) | ((with_reducible show xcls _ _ _ ∧ _); refine s_cls (by rfl) (by rfl) ?_))
  refine c_cls (b_of hc) ?_
  refine v_settle (C := C) (base := 0) (n := 201) (t := 0) (by omega) (KC.kept (fun k q1 q2 => k1 k (by omega)) hK) hW (by rfl) (fun _ => rfl) (by decide) (by decide) (by decide) (by rfl) (by rfl) rfl (by decide) (fun F2 k2 _ b2 => ?_)
  repeat (first | ((with_reducible show ∃ _, _ ∧ _); first | refine s_fI (by rfl) (by rfl) (by rfl) ?_ | refine s_fR (by rfl) (by rfl) (by rfl) ?_ | refine s_pV (by rfl) (by rfl) (Nat.le_of_ble_eq_true rfl) (by rfl) ?_) | ((with_reducible show xcls _ _ _ ∧ _); refine s_cls (by rfl) (by rfl) ?_))
  have hl1 := hW.lit hl
  refine v_word (r := 79) (base := 0) (n := 201) (by rfl) (fun _ => rfl) (by decide) (by omega) (by omega) ?_
  rw [bt_and1, bt_wd (by decide), b2 (l / 2) (by rcases hl.2 with h1 | h1; left; omega; right; exact h1) 0 (by decide)]
  have := h F2 (fun k q1 q2 => by rw [k2 k q2, k1 k q1])
  rw [show va C (fun k => bt (Int32.ofNat s) k) (fun k => bt (F1 78 k) 0) = va C (fun k => bt (Int32.ofNat s) k) (fun k => bt x k) from va_ext (fun k hk => b1 k (by have := hW.1; omega) 0 (by decide)) (fun k _ => rfl)]
  exact this
/-- outputs and nexts by a vector -/
def oS (C : Nat → Nat → Nat) (s : Nat) (X : Nat → Bool) : Nat := gat (fun k => lv (va C (fun k => s.testBit k) X) (C 4 k)) (C 0 3)
def nS (C : Nat → Nat → Nat) (s : Nat) (X : Nat → Bool) : Nat := gat (fun k => lv (va C (fun k => s.testBit k) X) (C 3 k)) (C 0 2)
def oD (D : Nat → Option (Nat → Nat → Nat)) (st : Nat → Nat) (X : Nat → Bool) (c : Nat) : Nat := match D c with
  | none => 0
  | some C => oS C (st c) X
def nD (D : Nat → Option (Nat → Nat → Nat)) (st : Nat → Nat) (X : Nat → Bool) (c : Nat) : Nat := match D c with
  | none => st c
  | some C => nS C (st c) X
theorem va_nat {C : Nat → Nat → Nat} (hW : WF C) (s : Nat) (X : Nat → Bool) : va C (fun k => bt (Int32.ofNat s) k) X = va C (fun k => s.testBit k) X :=
  va_ext (fun _ _ => rfl) (fun k hk => bt_nat s k (by have := hW.1; omega))
theorem v_play {e : xenv} {w : Bool} {F : Nat → Nat → Int32} {L : Nat → Nat → Int64} {g : xh} {z : Nat → Nat} {Q : Int32 → xh → Prop} {D : Nat → Option (Nat → Nat → Nat)} {st : Nat → Nat} {x : Int32} {p : Nat} (hp : isP w p) (hR : RC F D) (hW : WD D) (hs : ∀ c, c < 2 → F (p + 1) c = Int32.ofNat (st c))
    (h : ∀ F', (∀ k, k ≠ p + 1 → k ≠ p + 2 → k ≠ p + 3 → F' k = F k) → (∀ c, c < 2 → F' (p + 1) c = Int32.ofNat (nD D st (fun k => bt x k) c)) → Q (Int32.ofNat (oD D st (fun k => bt x k) 0 ||| oD D st (fun k => bt x k) 1 * 256)) (mem e w F' L g)) : wp_Player_play z Q (ad e p) x (mem e w F L g) := by
  have hp76 := hp.ge
  unfold wp_Player_play
  refine p_cls hp ?_
  refine v_takeVector hp (fun F1 k1 b1 => ?_)
  unfold wp_Player_play_9
  refine xloop_dn (fun d a => ∃ c F' o, d = 2 - c ∧ c ≤ 2 ∧ a = (ad e p, Int32.ofNat o, Int32.ofNat c, mem e w F' L g) ∧ (∀ k, k ≠ p + 1 → k ≠ p + 3 → F' k = F1 k) ∧ (∀ c', c' < 2 → F' (p + 1) c' = Int32.ofNat (if c' < c then nD D st (fun k => bt x k) c' else st c')) ∧ o = (if 0 < c then oD D st (fun k => bt x k) 0 else 0) ||| (if 1 < c then oD D st (fun k => bt x k) 1 * 256 else 0)) ?_ 2 _ ⟨0, F1, 0, rfl, by omega, rfl, fun _ _ _ => rfl, fun c' hc' => by rw [k1 _ (by omega), hs c' hc']; rfl, by simp⟩
  rintro d a cc ⟨c, F', o, rfl, hc1, rfl, g1, g2, go⟩ hk
  unfold wp_Player_play_9_b; dsimp only
  refine ⟨fun hc => ?_, fun hc => ?_⟩ <;> rw [n_lit, n_le (by decide) (by omega)] at hc
  · have : c = 2 := by omega
    subst this
    rw [go]
    refine h F' (fun k q1 q2 q3 => by rw [g1 k q1 q3, k1 k q2]) (fun c' hc' => ?_)
    rw [g2 c' hc', if_pos hc']
  have hc2 : c < 2 := by omega
  refine p_fR0 hp ?_
  refine cs_aR hc2 ?_
  refine c_fI (b_of hc2) (by decide) ?_
  have hR' : RC F' D := RC.kept (fun k hk => by rw [g1 k (by omega) (by omega), k1 k (by omega)]) hR
  unfold wp_Player_play_108
  cases hD : D c with
  | none =>
    rw [(hR' c hc2).1 hD]
    refine ⟨fun _ => ?_, fun h => absurd rfl h⟩
    refine hk (2 - (c + 1)) _ (by omega) ⟨c + 1, F', o, rfl, by omega, by rw [n_lit, n_add], g1, fun c' hc' => ?_, ?_⟩
    · rw [g2 c' hc']
      by_cases h1 : c' = c
      · subst h1; rw [if_neg (by omega), if_pos (by omega), nD, hD]
      · by_cases h2 : c' < c
        · rw [if_pos h2, if_pos (by omega)]
        · rw [if_neg h2, if_neg (by omega)]
    · rw [go]
      rcases c_cases hc2 with rfl | rfl
      · simp [oD, hD]
      · simp [oD, hD]
  | some C =>
    obtain ⟨hpr, hKC⟩ := (hR' c hc2).2 C hD
    have hw := hW c C hD
    rw [hpr]
    refine ⟨fun h => absurd h (by decide), fun _ => ?_⟩
    refine p_fR0 hp ?_
    refine cs_aR hc2 ?_
    refine p_fR hp (by decide) ?_
    refine s_aI (i := c) (p_li hp (by decide)) (p_ob hp (by decide) _ _) rfl rfl (show c < 2 by omega) (by decide) ?_
    rw [g2 c hc2, if_neg (by omega)]
    refine p_fR hp (by decide) ?_
    refine p_fR hp (by decide) ?_
    refine c_cls (b_of hc2) ?_
    refine v_settle (C := C) (base := 0) (n := 201) (t := 0) (by omega) hKC hw (p_li hp (by decide)) (fun f => p_ob hp (by decide) f _) (by decide) (by omega) (by decide) (p_li hp (by decide)) (p_ob hp (by decide) _ _) rfl (by omega) (fun F2 k2 _ b2 => ?_)
    have hKC2 : KC (20 * c) F2 C := KC.kept (fun k q1 q2 => k2 k (by omega)) hKC
    have hva : ∀ l, dl C l → bt (wd (F2 (p + 3)) 0 l) 0 = lv (va C (fun k => (st c).testBit k) (fun k => bt x k)) l := by
      intro l hl
      rw [bt_wd (by decide), b2 (l / 2) (by rcases hl.2 with h1 | h1; left; omega; right; exact h1) 0 (by decide), va_nat hw, va_ext (Y := fun k => bt x k) (T := fun k => (st c).testBit k) (fun k hk => by rw [g1 (p + 2) (by omega) (by omega)]; exact b1 k (by have := hw.1; omega) 0 (by decide)) (fun k _ => rfl)]
      rfl
    refine p_fR0 hp ?_
    refine cs_aR hc2 ?_
    refine c_fR (j := 7) (b_of hc2) (by decide) ?_
    refine p_fR0 hp ?_
    refine cs_aR hc2 ?_
    refine c_fI (b_of hc2) (by decide) ?_
    rw [show F2 (20 * c) 4 = Int32.ofNat (C 0 3) from hKC2.1 3 (by decide)]
    refine p_cls hp ?_
    have hM := hw.1
    have hlq : ∀ q, q = 20 * c + 7 ∨ q = 20 * c + 6 → li w q = true := by
      rcases c_cases hc2 with rfl | rfl <;> rintro q (rfl | rfl) <;> rfl
    have ho7 : ∀ f l, ob e w f l (20 * c + 7) = .inl (0, 8, .inl f) := by
      rcases c_cases hc2 with rfl | rfl <;> intro f l <;> rfl
    have ho6 : ∀ f l, ob e w f l (20 * c + 6) = .inl (0, 6, .inl f) := by
      rcases c_cases hc2 with rfl | rfl <;> intro f l <;> rfl
    refine v_gather (f := C 4) (n := 8) hp (hlq _ (Or.inl rfl)) (ho7 _ _) rfl (by decide) (by omega) (fun k hk => ⟨hKC2.2.2.2.2.2.1 k hk, by have := hw.lit (hw.2.2.2.2.1.2.1 k hk); omega⟩) ?_
    rintro v19 rfl
    refine p_fR hp (by decide) ?_
    refine p_fR0 hp ?_
    refine cs_aR hc2 ?_
    refine c_fR (j := 6) (b_of hc2) (by decide) ?_
    refine p_fR0 hp ?_
    refine cs_aR hc2 ?_
    refine c_fI (b_of hc2) (by decide) ?_
    rw [show F2 (20 * c) 3 = Int32.ofNat (C 0 2) from hKC2.1 2 (by decide)]
    refine p_cls hp ?_
    refine v_gather (f := C 3) (n := 6) hp (hlq _ (Or.inr rfl)) (ho6 _ _) rfl (by decide) (by omega) (fun k hk => ⟨(hKC2.2.2.2.2.1 k hk).2, by have := hw.lit (hw.2.2.2.2.1.1 k hk); omega⟩) ?_
    refine s_sI2 (i := c) (p_li hp (by decide)) (fun f => p_ob hp (by decide) f _) rfl (show c < 2 by omega) (by decide) ?_
    have eO : gat (fun k => bt (wd (F2 (p + 3)) 0 (C 4 k)) 0) (C 0 3) = oD D st (fun k => bt x k) c := by
      rw [oD, hD]; exact gat_ext _ (fun j hj => hva _ (hw.2.2.2.2.1.2.1 j hj))
    have eN : gat (fun k => bt (wd (F2 (p + 3)) 0 (C 3 k)) 0) (C 0 2) = nD D st (fun k => bt x k) c := by
      rw [nD, hD]; exact gat_ext _ (fun j hj => hva _ (hw.2.2.2.2.1.1 j hj))
    rw [eO, eN]
    refine hk (2 - (c + 1)) _ (by omega) ⟨c + 1, up F2 (p + 1) c (Int32.ofNat (nD D st (fun k => bt x k) c)), o ||| (oD D st (fun k => bt x k) c * 2 ^ (8 * c)), rfl, by omega, ?_, fun k q1 q2 => ?_, fun c' hc' => ?_, ?_⟩
    · rw [n_lit, n_mul, n_shl (by omega), n_or, n_lit, n_add]
    · rw [up_k q1, k2 k q2, g1 k q1 q2]
    · rw [up_i]
      by_cases h1 : c' = c
      · subst h1; rw [if_pos rfl, if_pos (by omega)]
      · rw [if_neg h1, k2 (p + 1) (by omega), g2 c' hc']
        by_cases h2 : c' < c
        · rw [if_pos h2, if_pos (by omega)]
        · rw [if_neg h2, if_neg (by omega)]
    · rw [go]
      rcases c_cases hc2 with rfl | rfl
      · simp
      · simp
