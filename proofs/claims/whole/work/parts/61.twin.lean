/-! same and twin of the class. -/
def lval (K : Nat → Nat → Nat → Nat) (p c l x : Nat) : Bool := lv (va (K c) (bts (if c = 0 then p / 64 else p % 64)) (bts x)) l
def smV (K : Nat → Nat → Nat → Nat) (q : Nat → Nat) (n c l d o : Nat) : Prop := ∀ i, i < n → ∀ x, x < 32 → lval K (q i) c l x = lval K (q i) d o x
def isTw (K : Nat → Nat → Nat → Nat) (q : Nat → Nat) (n c l u : Nat) : Prop := u < 804 ∧ dl (K (u / 402)) (u % 402) ∧ smV K q n c l (u / 402) (u % 402) ∧ ∀ u', u' < u → dl (K (u' / 402)) (u' % 402) → ¬ smV K q n c l (u' / 402) (u' % 402)
def anT (u : Nat) : Nat := if u < 402 then u else 1000 + (u - 402)
theorem lval_spot {K : Nat → Nat → Nat → Nat} {c l p x : Nat} (hl : l < 402) : lval K p c l x = (vl K p (201 * c + l / 2) x ^^ decide (l % 2 = 1)) := by
  unfold lval lv vl
  rw [show (201 * c + l / 2) / 201 = c by omega, show (201 * c + l / 2) % 201 = l / 2 by omega]
theorem lval_u {K : Nat → Nat → Nat → Nat} {u p x : Nat} : lval K p (u / 402) (u % 402) x = (vl K p (u / 2) x ^^ decide (u % 2 = 1)) := by
  rw [lval_spot (Nat.mod_lt _ (by decide)), show 201 * (u / 402) + u % 402 / 2 = u / 2 by omega, show u % 402 % 2 = u % 2 by omega]
theorem dsp_of {K : Nat → Nat → Nat → Nat} {c l : Nat} (hM : MK K) (hc : c < 2) (hl : dl (K c) l) : dsp K (201 * c + l / 2) := by
  have h2 := (hM.wf hc).lit hl
  refine ⟨by omega, ?_⟩
  rw [show (201 * c + l / 2) / 201 = c by omega, show (201 * c + l / 2) % 201 = l / 2 by omega]
  refine ⟨by have := hl.1; omega, ?_⟩
  rcases hl.2 with h | h
  · left; omega
  · right; rw [show 2 * (l / 2) / 2 = l / 2 by omega]; exact h
theorem dl_of {K : Nat → Nat → Nat → Nat} {u : Nat} (hu : dsp K (u / 2)) : u < 804 ∧ dl (K (u / 402)) (u % 402) := by
  obtain ⟨h1, h2, h3⟩ := hu
  rw [show u / 2 / 201 = u / 402 by omega, show u / 2 % 201 = u % 402 / 2 by omega] at h2 h3
  refine ⟨by omega, by omega, ?_⟩
  rcases h3 with h | h
  · left; omega
  · right; rw [show 2 * (u % 402 / 2) / 2 = u % 402 / 2 by omega] at h; exact h
theorem xor_mid {a b c d : Bool} (h : (a ^^ b) = (c ^^ d)) : (a ^^ (b ^^ d)) = c := by revert h; cases a <;> cases b <;> cases c <;> cases d <;> simp
section
variable {e : xenv} {F : Nat → Nat → Int32} {L : Nat → Nat → Int64} {g : xh} {z : Nat → Nat} {K : Nat → Nat → Nat → Nat} {q : Nat → Nat}
theorem v_lfirst {Q : Int32 → xh → Prop} {n c l : Nat} (hM : MK K) (hc : c < 2) (hl : dl (K c) l) (hn : 1 ≤ n) (hq0 : q 0 = 0) (hL : LK F K q n) (h : ∀ u, isTw K q n c l u → Q (Int32.ofNat (anT u)) (mem e true F L g)) : wp_Likeness_firstLike z Q (ad e 180) (Int32.ofNat c) (Int32.ofNat l) (mem e true F L g) := by
  have hl1 := (hM.wf hc).lit hl
  have hd := dsp_of hM hc hl
  obtain ⟨⟨m, hm, hN⟩, hf⟩ := hL.1 _ hd
  have hm4 := hN.1.1
  have hf2 := (hL.1 m hN.1).2
  unfold wp_Likeness_firstLike
  rintro v1 rfl
  rw [show Int32.ofNat c * 201 + Int32.ofNat l >>> ((1 : Int32) &&& 31) = Int32.ofNat (201 * c + l / 2) by rw [show (1 : Int32) = Int32.ofNat 1 from rfl, n_shr (by omega) (by decide), Nat.pow_one, n_lit, n_mul, n_add, Nat.mul_comm]]
  repeat (first | ((with_reducible show ∃ _, _ ∧ _); first | refine s_fI (by rfl) (by rfl) (by rfl) ?_ | refine s_fR (by rfl) (by rfl) (by rfl) ?_ | refine s_pV (by rfl) (by rfl) (Nat.le_of_ble_eq_true rfl) (by rfl) ?_) | ((with_reducible show xcls _ _ _ ∧ _); refine s_cls (by rfl) (by rfl) ?_))
  refine s_aI (i := 201 * c + l / 2) (by rfl) (by rfl) (by rfl) (by rfl) (by exact hd.1) (by decide) ?_
  rw [hm]
  repeat (first | ((with_reducible show ∃ _, _ ∧ _); first | refine s_fI (by rfl) (by rfl) (by rfl) ?_ | refine s_fR (by rfl) (by rfl) (by rfl) ?_ | refine s_pV (by rfl) (by rfl) (Nat.le_of_ble_eq_true rfl) (by rfl) ?_) | ((with_reducible show xcls _ _ _ ∧ _); refine s_cls (by rfl) (by rfl) ?_))
  refine s_aI (i := 201 * c + l / 2) (by rfl) (by rfl) (by rfl) (by rfl) (by exact hd.1) (by decide) ?_
  repeat (first | ((with_reducible show ∃ _, _ ∧ _); first | refine s_fI (by rfl) (by rfl) (by rfl) ?_ | refine s_fR (by rfl) (by rfl) (by rfl) ?_ | refine s_pV (by rfl) (by rfl) (Nat.le_of_ble_eq_true rfl) (by rfl) ?_) | ((with_reducible show xcls _ _ _ ∧ _); refine s_cls (by rfl) (by rfl) ?_))
  refine s_aI (i := m) (by rfl) (by rfl) (by rfl) (by rfl) (by exact hm4) (by decide) ?_
  rw [hf, hf2]
  generalize hS : (decide (l % 2 = 1) ^^ (fl K (201 * c + l / 2) ^^ fl K m)) = sgn
  have hsg : ((Int32.ofNat l ^^^ -(Int32.ofNat (fl K (201 * c + l / 2)).toNat)) ^^^ -(Int32.ofNat (fl K m).toNat)) &&& 1 = Int32.ofNat sgn.toNat := by
    rw [bt_and1, bt_xor, bt_xor, bt_nat _ _ (by decide), bt_neg1 (by cases fl K (201 * c + l / 2) <;> decide) (by decide), bt_neg1 (by cases fl K m <;> decide) (by decide), Nat.testBit_zero, ← hS]
    congr 2
    cases fl K (201 * c + l / 2) <;> cases fl K m <;> simp
  rintro v8 rfl
  rw [hsg]
  have hs2 : sgn.toNat < 2 := by cases sgn <;> decide
  have ud : (2 * m + sgn.toNat) / 2 = m := by omega
  have um : decide ((2 * m + sgn.toNat) % 2 = 1) = sgn := by
    rw [show (2 * m + sgn.toNat) % 2 = sgn.toNat by omega]; cases sgn <;> rfl
  have hag : ∀ i, i < n → ∀ x, x < 32 → sg K (q i) (201 * c + l / 2) x = sg K (q i) m x := hN.2.1
  have tw : isTw K q n c l (2 * m + sgn.toNat) := by
    obtain ⟨h8, hdl⟩ := dl_of (K := K) (u := 2 * m + sgn.toNat) (by rw [ud]; exact hN.1)
    refine ⟨h8, hdl, fun i hi x hx => ?_, fun u' hu' hdl' hsm => ?_⟩
    · rw [lval_spot (by omega), lval_u, ud, um, ← hS]
      have := hag i hi x hx
      unfold sg at this
      revert this
      cases vl K (q i) (201 * c + l / 2) x <;> cases vl K (q i) m x <;> cases fl K (201 * c + l / 2) <;> cases fl K m <;> cases decide (l % 2 = 1) <;> simp
    · -- both are the same as the literal, so they are alike
      have eq : ∀ i, i < n → ∀ x, x < 32 → (vl K (q i) (u' / 2) x ^^ decide (u' % 2 = 1)) = (vl K (q i) (201 * c + l / 2) x ^^ decide (l % 2 = 1)) := fun i hi x hx => by
        rw [← lval_u, ← lval_spot (by omega)]; exact (hsm i hi x hx).symm
      have e0 := eq 0 (by omega) 0 (by decide)
      rw [hq0] at e0
      have e0 : (fl K (u' / 2) ^^ decide (u' % 2 = 1)) = (fl K (201 * c + l / 2) ^^ decide (l % 2 = 1)) := e0
      have hu8 : u' < 804 := by omega
      have hd' : dsp K (u' / 2) := by
        have := dsp_of hM (c := u' / 402) (l := u' % 402) (by omega) hdl'
        rw [show 201 * (u' / 402) + u' % 402 / 2 = u' / 2 by omega] at this
        exact this
      have hag' : agr K q n (201 * c + l / 2) (u' / 2) := fun i hi x hx => by
        have e1 := eq i hi x hx
        unfold sg
        revert e0 e1
        cases vl K (q i) (201 * c + l / 2) x <;> cases vl K (q i) (u' / 2) x <;> cases fl K (201 * c + l / 2) <;> cases fl K (u' / 2) <;> cases decide (l % 2 = 1) <;> cases decide (u' % 2 = 1) <;> simp
      have hge : ¬ u' / 2 < m := fun hlt => hN.2.2 _ hlt hd' hag'
      have hum : u' / 2 = m := by omega
      have hu'e : u' = 2 * m ∧ sgn.toNat = 1 := by omega
      have hst : sgn = true := by revert hu'e; cases sgn <;> simp
      have e2 := eq 0 (by omega) 0 (by decide)
      rw [hq0, hum] at e2
      have e2 : (fl K m ^^ decide (u' % 2 = 1)) = (fl K (201 * c + l / 2) ^^ decide (l % 2 = 1)) := e2
      rw [show u' % 2 = 0 by omega] at e2
      rw [hst] at hS
      revert e2 hS
      cases fl K m <;> cases fl K (201 * c + l / 2) <;> cases decide (l % 2 = 1) <;> simp
  have := h _ tw
  unfold anT at this
  refine ⟨fun hge => ?_, fun hlt => ?_⟩
  · rw [n_lit, n_le (by decide) (by omega)] at hge
    rw [if_neg (by omega)] at this
    rw [show (201 : Int32) = Int32.ofNat 201 from rfl, n_sub (by omega), show (2 : Int32) = Int32.ofNat 2 from rfl, n_mul, n_lit, n_add, n_add]
    rw [show 1000 + 2 * (m - 201) + sgn.toNat = 1000 + (2 * m + sgn.toNat - 402) by omega]
    exact this
  · rw [n_lit, n_le (by decide) (by omega)] at hlt
    rw [if_pos (by omega)] at this
    rw [n_lit, n_mul, n_add]
    exact this
theorem v_agree {Q : Int32 → xh → Prop} {n c l d o : Nat} (hM : MK K) (hT : TB F K) (h5 : F 170 5 = Int32.ofNat n) (hn : n ≤ 4096) (hq : ∀ i, i < n → F 171 i = Int32.ofNat (q i) ∧ isPr K (q i)) (hc : c < 2) (hl : dl (K c) l) (hd : d < 2) (ho : dl (K d) o) (h1 : smV K q n c l d o → Q 1 (mem e true F L g)) (h0 : ¬ smV K q n c l d o → Q 0 (mem e true F L g)) : wp_Works_agree z Q (ad e 160) (Int32.ofNat c) (Int32.ofNat l) (Int32.ofNat d) (Int32.ofNat o) (mem e true F L g) := by
  unfold wp_Works_agree wp_Works_agree_3
  refine xloop_dn (fun m a => ∃ i, m = n - i ∧ i ≤ n ∧ a = (ad e 160, Int32.ofNat c, Int32.ofNat l, Int32.ofNat d, Int32.ofNat o, Int32.ofNat i, mem e true F L g) ∧ smV K q i c l d o) ?_ n _ ⟨0, rfl, Nat.zero_le _, rfl, fun i hi => by omega⟩
  rintro m a cc ⟨i, rfl, hi1, rfl, g1⟩ hk
  unfold wp_Works_agree_3_b; dsimp only
  repeat (first | ((with_reducible show ∃ _, _ ∧ _); first | refine s_fI (by rfl) (by rfl) (by rfl) ?_ | refine s_fR (by rfl) (by rfl) (by rfl) ?_ | refine s_pV (by rfl) (by rfl) (Nat.le_of_ble_eq_true rfl) (by rfl) ?_) | ((with_reducible show xcls _ _ _ ∧ _); refine s_cls (by rfl) (by rfl) ?_))
  rw [h5]
  refine ⟨fun hc => ?_, fun hc => ?_⟩ <;> rw [n_le (by omega) (by omega)] at hc
  · have : i = n := by omega
    subst this
    exact h1 g1
  repeat (first | ((with_reducible show ∃ _, _ ∧ _); first | refine s_fI (by rfl) (by rfl) (by rfl) ?_ | refine s_fR (by rfl) (by rfl) (by rfl) ?_ | refine s_pV (by rfl) (by rfl) (Nat.le_of_ble_eq_true rfl) (by rfl) ?_) | ((with_reducible show xcls _ _ _ ∧ _); refine s_cls (by rfl) (by rfl) ?_))
  refine s_aI (i := i) (by rfl) (by rfl) (by rfl) (by rfl) (by omega) (by decide) ?_
  rw [(hq i (by omega)).1]
  repeat (first | ((with_reducible show ∃ _, _ ∧ _); first | refine s_fI (by rfl) (by rfl) (by rfl) ?_ | refine s_fR (by rfl) (by rfl) (by rfl) ?_ | refine s_pV (by rfl) (by rfl) (Nat.le_of_ble_eq_true rfl) (by rfl) ?_) | ((with_reducible show xcls _ _ _ ∧ _); refine s_cls (by rfl) (by rfl) ?_))
  refine v_tword hM hT (hq i (by omega)).2 (by assumption) hl (fun y hy => ?_)
  repeat (first | ((with_reducible show ∃ _, _ ∧ _); first | refine s_fI (by rfl) (by rfl) (by rfl) ?_ | refine s_fR (by rfl) (by rfl) (by rfl) ?_ | refine s_pV (by rfl) (by rfl) (Nat.le_of_ble_eq_true rfl) (by rfl) ?_) | ((with_reducible show xcls _ _ _ ∧ _); refine s_cls (by rfl) (by rfl) ?_))
  refine v_tword hM hT (hq i (by omega)).2 hd ho (fun y' hy' => ⟨fun heq => ?_, fun hne => h0 (fun hs => hne (bt_ext (fun x hx => ?_)))⟩)
  · refine hk (n - (i + 1)) _ (by omega) ⟨i + 1, rfl, by omega, by rw [n_lit, n_add], fun i' hi' x hx => ?_⟩
    by_cases e0 : i' = i
    · subst e0
      unfold lval
      rw [← hy x hx, ← hy' x hx, heq]
    · exact g1 i' (by omega) x hx
  · rw [hy x hx, hy' x hx]; exact hs i (by omega) x hx
/-- what the walk of the works holds -/
def WQ (F : Nat → Nat → Int32) (K : Nat → Nat → Nat → Nat) (q : Nat → Nat) (n : Nat) : Prop := F 170 5 = Int32.ofNat n ∧ 1 ≤ n ∧ n ≤ 4096 ∧ q 0 = 0 ∧ (∀ i, i < n → F 171 i = Int32.ofNat (q i) ∧ isPr K (q i))
theorem v_wfirst {Q : Int32 → xh → Prop} {n c l : Nat} (hM : MK K) (hK : ∀ c, c < 2 → KC (20 * c) F (K c)) (hT : TB F K) (hQ : WQ F K q n) (hc : c < 2) (hl : dl (K c) l) (hS : F 160 8 = 0 ∨ F 160 8 = 1 ∧ LK F K q n)
    (h : ∀ F' u, (∀ k, k < 160 ∨ 160 < k ∧ k < 180 ∨ 186 < k → F' k = F k) → (∀ j, j ≠ 8 → F' 160 j = F 160 j) → F' 160 8 = 1 → LK F' K q n → isTw K q n c l u → Q (Int32.ofNat (anT u)) (mem e true F' L g)) : wp_Works_firstLike z Q (ad e 160) (Int32.ofNat c) (Int32.ofNat l) (mem e true F L g) := by
  obtain ⟨w1, w2, w3, w4, w5⟩ := hQ
  have key : ∀ F', (∀ k, k < 160 ∨ 160 < k ∧ k < 180 ∨ 186 < k → F' k = F k) → (∀ j, j ≠ 8 → F' 160 j = F 160 j) → F' 160 8 = 1 → LK F' K q n → wp_Works_firstLike_31 z Q (ad e 160) (Int32.ofNat c) (Int32.ofNat l) (mem e true F' L g) := by
    intro F' k1 k2 k3 k4
    unfold wp_Works_firstLike_31
    repeat (first | ((with_reducible show ∃ _, _ ∧ _); first | refine s_fI (by rfl) (by rfl) (by rfl) ?_ | refine s_fR (by rfl) (by rfl) (by rfl) ?_ | refine s_pV (by rfl) (by rfl) (Nat.le_of_ble_eq_true rfl) (by rfl) ?_) | ((with_reducible show xcls _ _ _ ∧ _); refine s_cls (by rfl) (by rfl) ?_))
    refine v_lfirst hM hc hl w2 w4 k4 (fun u tw => ?_)
    have hT' : TB F' K := TB.kept (fun k q1 q2 => k1 k (by omega)) hT
    have hu := tw.1
    have fin : ∀ d o, d < 2 → dl (K d) o → smV K q n c l d o → wp_Works_firstLike_83 z Q (Int32.ofNat (anT u)) (Int32.ofNat o) (Int32.ofNat d) (Int32.ofNat l) (Int32.ofNat c) (ad e 160) (ad e 160) (mem e true F' L g) := by
      intro d o hd ho hsm
      unfold wp_Works_firstLike_83
      repeat (first | ((with_reducible show ∃ _, _ ∧ _); first | refine s_fI (by rfl) (by rfl) (by rfl) ?_ | refine s_fR (by rfl) (by rfl) (by rfl) ?_ | refine s_pV (by rfl) (by rfl) (Nat.le_of_ble_eq_true rfl) (by rfl) ?_) | ((with_reducible show xcls _ _ _ ∧ _); refine s_cls (by rfl) (by rfl) ?_))
      refine v_agree hM hT' (by rw [k1 170 (by decide)]; exact w1) w3 (fun i hi => by rw [k1 171 (by decide)]; exact w5 i hi) hc hl hd ho (fun _ => ?_) (fun hno => absurd hsm hno)
      repeat (first | ((with_reducible show ∃ _, _ ∧ _); first | refine s_fI (by rfl) (by rfl) (by rfl) ?_ | refine s_fR (by rfl) (by rfl) (by rfl) ?_ | refine s_pV (by rfl) (by rfl) (Nat.le_of_ble_eq_true rfl) (by rfl) ?_) | ((with_reducible show xcls _ _ _ ∧ _); refine s_cls (by rfl) (by rfl) ?_))
      unfold wp_Works_doubtUnless
      exact ⟨fun _ => h F' u k1 k2 k3 k4 tw, fun hh => absurd hh (by decide)⟩
    unfold wp_Works_firstLike_53 wp_Works_firstLike_69
    by_cases hlt : u < 402
    · have ean : anT u = u := if_pos hlt
      have hf := fin 0 u (by decide) (by have := tw.2.1; rw [show u / 402 = 0 by omega, show u % 402 = u by omega] at this; exact this) (by have := tw.2.2.1; rw [show u / 402 = 0 by omega, show u % 402 = u by omega] at this; exact this)
      refine ⟨fun _ => ⟨fun _ => ⟨fun _ => ?_, fun hh => absurd rfl hh⟩, fun hh => absurd rfl hh⟩, fun hh => absurd ?_ hh⟩
      · rw [ean] at hf ⊢; exact hf
      · rw [ean, n_lit, n_lt (by omega) (by decide)]; omega
    · have ean : anT u = 1000 + (u - 402) := if_neg hlt
      have hf := fin 1 (u - 402) (by decide) (by have := tw.2.1; rw [show u / 402 = 1 by omega, show u % 402 = u - 402 by omega] at this; exact this) (by have := tw.2.2.1; rw [show u / 402 = 1 by omega, show u % 402 = u - 402 by omega] at this; exact this)
      refine ⟨fun hh => ?_, fun _ => ⟨fun hh => absurd hh (by decide), fun _ => ⟨fun hh => absurd hh (by decide), fun _ => ?_⟩⟩⟩
      · rw [ean, n_lit, n_lt (by omega) (by decide)] at hh; omega
      · rw [ean] at hf ⊢
        rw [show Int32.ofNat (1000 + (u - 402)) - 1000 = Int32.ofNat (u - 402) by rw [n_lit, n_sub (by omega), show 1000 + (u - 402) - 1000 = u - 402 by omega]]
        exact hf
  unfold wp_Works_firstLike
  repeat (first | ((with_reducible show ∃ _, _ ∧ _); first | refine s_fI (by rfl) (by rfl) (by rfl) ?_ | refine s_fR (by rfl) (by rfl) (by rfl) ?_ | refine s_pV (by rfl) (by rfl) (Nat.le_of_ble_eq_true rfl) (by rfl) ?_) | ((with_reducible show xcls _ _ _ ∧ _); refine s_cls (by rfl) (by rfl) ?_))
  rcases hS with h8 | ⟨h8, hLK⟩
  · rw [h8]
    refine ⟨fun hh => absurd rfl hh, fun _ => ?_⟩
    repeat (first | ((with_reducible show ∃ _, _ ∧ _); first | refine s_fI (by rfl) (by rfl) (by rfl) ?_ | refine s_fR (by rfl) (by rfl) (by rfl) ?_ | refine s_pV (by rfl) (by rfl) (Nat.le_of_ble_eq_true rfl) (by rfl) ?_) | ((with_reducible show xcls _ _ _ ∧ _); refine s_cls (by rfl) (by rfl) ?_))
    refine v_lsort hM hK hT w1 w3 w5 (fun F1 k1 l1 => ?_)
    repeat (first | ((with_reducible show ∃ _, _ ∧ _); first | refine s_fI (by rfl) (by rfl) (by rfl) ?_ | refine s_fR (by rfl) (by rfl) (by rfl) ?_ | refine s_pV (by rfl) (by rfl) (Nat.le_of_ble_eq_true rfl) (by rfl) ?_) | ((with_reducible show xcls _ _ _ ∧ _); refine s_cls (by rfl) (by rfl) ?_))
    refine key _ (fun k hk => by rw [up_k (by omega)]; exact k1 k (by omega)) (fun j hj => by rw [up_i, if_neg hj, k1 160 (by decide)]) (by rw [up_i, if_pos rfl]) ?_
    unfold LK
    rw [up_k (by decide), up_k (by decide), up_k (by decide), up_k (by decide)]
    exact l1
  · rw [h8]
    exact ⟨fun _ => key F (fun _ _ => rfl) (fun _ _ => rfl) h8 hLK, fun hh => absurd hh (by decide)⟩
end
