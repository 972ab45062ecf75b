/-! The table of the works. K: the two circuits. -/
def Wn (K : Nat → Nat → Nat → Nat) : Nat := 2 ^ (K 0 0 1)
def bts (s : Nat) : Nat → Bool := fun k => s.testBit k
def Nx (K : Nat → Nat → Nat → Nat) (p x : Nat) : Nat := 64 * nS (K 0) (p / 64) (bts x) + nS (K 1) (p % 64) (bts x)
def ou (K : Nat → Nat → Nat → Nat) (c s x k : Nat) : Bool := lv (va (K c) (bts s) (bts x)) (K c 4 k)
def Ul (K : Nat → Nat → Nat → Nat) (p x k : Nat) : Bool := ou K 0 (p / 64) x k ^^ ou K 1 (p % 64) x k
def Tp (K : Nat → Nat → Nat → Nat) (p x : Nat) : Bool := (List.range (K 0 0 3)).any (fun k => Ul K p x k)
/-- the circuits match -/
def MK (K : Nat → Nat → Nat → Nat) : Prop := WF (K 0) ∧ WF (K 1) ∧ K 0 0 1 = K 1 0 1 ∧ K 0 0 3 = K 1 0 3
theorem MK.wf {K : Nat → Nat → Nat → Nat} (h : MK K) {c : Nat} (hc : c < 2) : WF (K c) := by
  rcases c_cases hc with rfl | rfl
  · exact h.1
  · exact h.2.1
theorem MK.inp {K : Nat → Nat → Nat → Nat} (h : MK K) {c : Nat} (hc : c < 2) : K c 0 1 = K 0 0 1 := by
  rcases c_cases hc with rfl | rfl
  · rfl
  · exact h.2.2.1.symm
theorem MK.out {K : Nat → Nat → Nat → Nat} (h : MK K) {c : Nat} (hc : c < 2) : K c 0 3 = K 0 0 3 := by
  rcases c_cases hc with rfl | rfl
  · rfl
  · exact h.2.2.2.symm
theorem nS_lt {C : Nat → Nat → Nat} (h : WF C) (s : Nat) (X : Nat → Bool) : nS C s X < 2 ^ (C 0 2) ∧ nS C s X < 64 := by
  have h1 := gat_lt (fun k => lv (va C (fun k => s.testBit k) X) (C 3 k)) (C 0 2)
  refine ⟨h1, Nat.lt_of_lt_of_le h1 ?_⟩
  exact (show 2 ^ (C 0 2) ≤ 2 ^ 6 from Nat.pow_le_pow_right (by decide) h.1.2.2.1)
theorem Wn_le {K : Nat → Nat → Nat → Nat} (h : MK K) : 0 < Wn K ∧ Wn K ≤ 32 :=
  ⟨Nat.two_pow_pos _, (show 2 ^ (K 0 0 1) ≤ 2 ^ 5 from Nat.pow_le_pow_right (by decide) h.1.1.2.1)⟩
theorem Nx_lt {K : Nat → Nat → Nat → Nat} (h : MK K) (p x : Nat) : Nx K p x < 4096 := by
  have h1 := (nS_lt h.1 (p / 64) (bts x)).2
  have h2 := (nS_lt h.2.1 (p % 64) (bts x)).2
  unfold Nx; omega
theorem pw6 {C : Nat → Nat → Nat} (h : WF C) : 2 ^ (C 0 2) ≤ 64 := (show 2 ^ (C 0 2) ≤ 2 ^ 6 from Nat.pow_le_pow_right (by decide) h.1.2.2.1)
/-- a pair of the circuits -/
def isPr (K : Nat → Nat → Nat → Nat) (p : Nat) : Prop := p / 64 < 2 ^ (K 0 0 2) ∧ p % 64 < 2 ^ (K 1 0 2)
theorem isPr.lt {K : Nat → Nat → Nat → Nat} (h : MK K) {p : Nat} (hp : isPr K p) : p < 4096 := by
  have := pw6 h.1; have := hp.1; omega
theorem Nx_pr {K : Nat → Nat → Nat → Nat} (h : MK K) (p x : Nat) : isPr K (Nx K p x) := by
  have h1 := nS_lt h.1 (p / 64) (bts x)
  have h2 := nS_lt h.2.1 (p % 64) (bts x)
  unfold isPr Nx
  rw [show (64 * nS (K 0) (p / 64) (bts x) + nS (K 1) (p % 64) (bts x)) / 64 = nS (K 0) (p / 64) (bts x) by omega, show (64 * nS (K 0) (p / 64) (bts x) + nS (K 1) (p % 64) (bts x)) % 64 = nS (K 1) (p % 64) (bts x) by omega]
  exact ⟨h1.1, h2.1⟩
/-- vectors behind the last one are as those ahead -/
theorem va_per {K : Nat → Nat → Nat → Nat} (h : MK K) {c : Nat} (hc : c < 2) (S : Nat → Bool) (x : Nat) : va (K c) S (bts x) = va (K c) S (bts (x % Wn K)) :=
  va_ext (fun k hk => by
    rw [h.inp hc] at hk
    unfold bts Wn
    rw [Nat.testBit_mod_two_pow]; simp [hk]) (fun _ _ => rfl)
def lnS (F : Nat → Nat → Int32) (K : Nat → Nat → Nat → Nat) (c s : Nat) : Prop :=
  (∀ v, v = 0 ∨ K c 8 v ≠ 0 → ∀ i, i < 32 → bt (F 166 ((64 * c + s) * 201 + v)) i = va (K c) (bts s) (bts i) v) ∧ (∀ k, k < K 0 0 3 → ∀ i, i < 32 → bt (F 167 ((64 * c + s) * 8 + k)) i = ou K c s i k) ∧ (∀ x, x < Wn K → F 168 ((64 * c + s) * 32 + x) = Int32.ofNat (nS (K c) s (bts x)))
def TB (F : Nat → Nat → Int32) (K : Nat → Nat → Nat → Nat) : Prop :=
  F 165 5 = Int32.ofNat (Wn K) ∧ F 165 4 = Int32.ofNat (K 0 0 3) ∧ (∀ c, c < 2 → F 169 c = Int32.ofNat (2 ^ (K c 0 2))) ∧ (∀ c s, c < 2 → s < 2 ^ (K c 0 2) → lnS F K c s)
theorem TB.kept {F F' : Nat → Nat → Int32} {K : Nat → Nat → Nat → Nat} (h : ∀ k, 165 ≤ k → k ≤ 169 → F' k = F k) (hT : TB F K) : TB F' K := by
  unfold TB lnS
  rw [h 165 (by decide) (by decide), h 166 (by decide) (by decide), h 167 (by decide) (by decide), h 168 (by decide) (by decide), h 169 (by decide) (by decide)]
  exact hT
theorem v_fillLine {e : xenv} {F : Nat → Nat → Int32} {L : Nat → Nat → Int64} {g : xh} {z : Nat → Nat} {Q : xh → Prop} {K : Nat → Nat → Nat → Nat} {c s : Nat} (hc : c < 2) (hM : MK K) (hK : KC (20 * c) F (K c)) (hZ : Zs e z F) (hs : s < 64) (h5 : F 165 5 = Int32.ofNat (Wn K)) (h4 : F 165 4 = Int32.ofNat (K 0 0 3)) (h0 : ∀ x, x < 32 → F 168 ((64 * c + s) * 32 + x) = 0)
    (h : ∀ F', (∀ k, k ≠ 166 → k ≠ 167 → k ≠ 168 → F' k = F k) → (∀ j, j < (64 * c + s) * 201 ∨ (64 * c + s) * 201 + 201 ≤ j → F' 166 j = F 166 j) → (∀ j, j < (64 * c + s) * 8 ∨ (64 * c + s) * 8 + 8 ≤ j → F' 167 j = F 167 j) → (∀ j, j < (64 * c + s) * 32 ∨ (64 * c + s) * 32 + 32 ≤ j → F' 168 j = F 168 j) → lnS F' K c s → Q (mem e true F' L g)) :
    wp_Table_fillLine z Q (ad e 165) (ad e (20 * c)) (Int32.ofNat (64 * c + s)) (Int32.ofNat s) (mem e true F L g) := by
  have hw := hM.wf hc
  have hsz := hw.1
  have hO := hM.out hc
  have hb := b_of hc
  have hWn := Wn_le hM
  have hn : ∃ ln, ln = 64 * c + s ∧ ln < 128 := ⟨_, rfl, by omega⟩
  obtain ⟨ln, hln, hl128⟩ := hn
  rw [← hln] at h h0 ⊢
  unfold wp_Table_fillLine
  repeat (first | ((with_reducible show ∃ _, _ ∧ _); first | refine s_fI (by rfl) (by rfl) (by rfl) ?_ | refine s_fR (by rfl) (by rfl) (by rfl) ?_ | refine s_pV (by rfl) (by rfl) (Nat.le_of_ble_eq_true rfl) (by rfl) ?_) | ((with_reducible show xcls _ _ _ ∧ _); refine s_cls (by rfl) (by rfl) ?_))
  refine c_cls hb ?_
  rw [hZ.2.1, show Int32.ofNat ln * 201 = Int32.ofNat (ln * 201) by rw [n_lit, n_mul]]
  refine v_settle (C := K c) (n := 25728) (t := 100) (by omega) hK hw (by rfl) (fun _ => rfl) (by decide) (by decide) (by omega) (by rfl) (by rfl) rfl (by decide) (fun F1 k1 o1 b1 => ?_)
  have hva : ∀ v, v = 0 ∨ K c 8 v ≠ 0 → ∀ i, i < 32 → bt (F1 166 (ln * 201 + v)) i = va (K c) (bts s) (bts i) v := fun v hv i hi => by
    rw [b1 v hv i hi, va_nat hw]
    exact congrFun (va_ext (fun k hk => hZ.2.2.2 k (by omega) i hi) (fun _ _ => rfl)) v
  have hwd : ∀ l, dl (K c) l → ∀ i, i < 32 → bt (wd (F1 166) (ln * 201) l) i = lv (va (K c) (bts s) (bts i)) l := fun l hl i hi => by
    rw [bt_wd hi, hva _ (dl_var hl) i hi]; rfl
  have hK1 : KC (20 * c) F1 (K c) := KC.kept (fun k q1 q2 => k1 k (by omega)) hK
  unfold wp_Table_fillLine_20
  refine xloop_dn (fun m a => ∃ k F', m = K 0 0 3 - k ∧ k ≤ K 0 0 3 ∧ a = (ad e 165, ad e (20 * c), Int32.ofNat ln, Int32.ofNat k, mem e true F' L g) ∧ (∀ q, q ≠ 167 → F' q = F1 q) ∧ (∀ j, j < ln * 8 ∨ ln * 8 + 8 ≤ j → F' 167 j = F 167 j) ∧ (∀ k', k' < k → ∀ i, i < 32 → bt (F' 167 (ln * 8 + k')) i = ou K c s i k')) ?_ (K 0 0 3) _ ⟨0, F1, rfl, by omega, rfl, fun _ _ => rfl, fun j _ => by rw [k1 167 (by decide)], fun k' hk' => by omega⟩
  rintro m a cc ⟨k, F', rfl, hk1, rfl, g1, g2, g3⟩ hk
  unfold wp_Table_fillLine_20_b; dsimp only
  repeat (first | ((with_reducible show ∃ _, _ ∧ _); first | refine s_fI (by rfl) (by rfl) (by rfl) ?_ | refine s_fR (by rfl) (by rfl) (by rfl) ?_ | refine s_pV (by rfl) (by rfl) (Nat.le_of_ble_eq_true rfl) (by rfl) ?_) | ((with_reducible show xcls _ _ _ ∧ _); refine s_cls (by rfl) (by rfl) ?_))
  rw [g1 165 (by decide), k1 165 (by decide), h4]
  refine ⟨fun hc => ?_, fun hc => ?_⟩ <;> rw [n_le (by omega) (by omega)] at hc
  rotate_left
  · repeat (first | ((with_reducible show ∃ _, _ ∧ _); first | refine s_fI (by rfl) (by rfl) (by rfl) ?_ | refine s_fR (by rfl) (by rfl) (by rfl) ?_ | refine s_pV (by rfl) (by rfl) (Nat.le_of_ble_eq_true rfl) (by rfl) ?_) | ((with_reducible show xcls _ _ _ ∧ _); refine s_cls (by rfl) (by rfl) ?_))
    refine c_fR (j := 7) hb (by decide) ?_
    refine c_aI (j := 7) hb (by decide) (show k < 8 by omega) ?_
    have hdl := hw.2.2.2.2.1.2.1 k (by omega)
    have hl2 := hw.lit hdl
    rw [g1 (20 * c + 7) (by omega), hK1.2.2.2.2.2.1 k (by omega), show Int32.ofNat ln * 201 = Int32.ofNat (ln * 201) by rw [n_lit, n_mul]]
    refine v_word (r := 166) (n := 25728) (by rfl) (fun _ => rfl) (by decide) (by omega) (by omega) ?_
    refine s_sI (i := ln * 8 + k) (by rfl) (by rfl) (by rfl) (by rfl) (by rw [n_lit, n_mul, n_add]) (by omega) (by decide) ?_
    refine hk (K 0 0 3 - (k + 1)) _ (by omega) ⟨k + 1, _, rfl, by omega, by rw [n_lit, n_add], fun q hq => (up_k hq).trans (g1 q hq), fun j hj => by rw [up_i, if_neg (by omega)]; exact g2 j hj, fun k' hk' i hi => ?_⟩
    rw [up_i]
    by_cases e0 : k' = k
    · rw [if_pos (by omega), e0, g1 166 (by decide)]; exact hwd _ hdl i hi
    · rw [if_neg (by omega)]; exact g3 k' (by omega) i hi
  have : k = K 0 0 3 := by omega
  subst this
  unfold wp_Table_fillLine_69
  have hF'166 : F' 166 = F1 166 := g1 166 (by decide)
  have hbit : ∀ x j, x < 32 → j < K c 0 2 → bt (wd (F1 166) (ln * 201) (K c 3 j)) x = lv (va (K c) (bts s) (bts x)) (K c 3 j) := fun x j hx hj => hwd _ (hw.2.2.2.2.1.1 j hj) x hx
  refine xloop_dn (fun m a => ∃ k F2, m = K c 0 2 - k ∧ k ≤ K c 0 2 ∧ a = (ad e 165, ad e (20 * c), Int32.ofNat ln, Int32.ofNat k, mem e true F2 L g) ∧ (∀ q, q ≠ 168 → F2 q = F' q) ∧ (∀ j, j < ln * 32 ∨ ln * 32 + 32 ≤ j → F2 168 j = F 168 j) ∧ (∀ x, x < Wn K → F2 168 (ln * 32 + x) = Int32.ofNat (gat (fun j => lv (va (K c) (bts s) (bts x)) (K c 3 j)) k))) ?_ (K c 0 2) _ ⟨0, F', rfl, by omega, rfl, fun _ _ => rfl, fun j _ => by rw [g1 168 (by decide), k1 168 (by decide)], fun x hx => by rw [g1 168 (by decide), k1 168 (by decide), h0 x (by omega)]; rfl⟩
  clear hk
  rintro m a cc ⟨k, F2, rfl, hk1, rfl, p1, p2, p3⟩ hk
  unfold wp_Table_fillLine_69_b; dsimp only
  have hK2 : KC (20 * c) F2 (K c) := KC.kept (fun k q1 q2 => by rw [p1 k (by omega), g1 k (by omega)]) hK1
  refine c_fI hb (by decide) ?_
  rw [show F2 (20 * c) 3 = Int32.ofNat (K c 0 2) from hK2.1 2 (by decide)]
  refine ⟨fun hc => ?_, fun hc => ?_⟩ <;> rw [n_le (by omega) (by omega)] at hc
  · have : k = K c 0 2 := by omega
    subst this
    refine h F2 (fun q q1 q2 q3 => by rw [p1 q q3, g1 q q2, k1 q q1]) (fun j hj => by rw [p1 166 (by decide), hF'166]; exact o1 j (by omega)) (fun j hj => by rw [p1 167 (by decide)]; exact g2 j hj) p2 ⟨fun v hv i hi => ?_, fun k hk i hi => ?_, fun x hx => ?_⟩
    · rw [p1 166 (by decide), hF'166, ← hln]; exact hva v hv i hi
    · rw [p1 167 (by decide), ← hln]; exact g3 k hk i hi
    · rw [← hln]; exact p3 x hx
  · repeat (first | ((with_reducible show ∃ _, _ ∧ _); first | refine s_fI (by rfl) (by rfl) (by rfl) ?_ | refine s_fR (by rfl) (by rfl) (by rfl) ?_ | refine s_pV (by rfl) (by rfl) (Nat.le_of_ble_eq_true rfl) (by rfl) ?_) | ((with_reducible show xcls _ _ _ ∧ _); refine s_cls (by rfl) (by rfl) ?_))
    refine c_fR (j := 6) hb (by decide) ?_
    refine c_aI (j := 6) hb (by decide) (show k < 6 by omega) ?_
    have hdl := hw.2.2.2.2.1.1 k (by omega)
    have hl2 := hw.lit hdl
    rw [(hK2.2.2.2.2.1 k (by omega)).2, show Int32.ofNat ln * 201 = Int32.ofNat (ln * 201) by rw [n_lit, n_mul]]
    refine v_word (r := 166) (n := 25728) (by rfl) (fun _ => rfl) (by decide) (by omega) (by omega) ?_
    have hF2166 : F2 166 = F1 166 := by rw [p1 166 (by decide), hF'166]
    rw [hF2166]
    unfold wp_Table_fillLine_102
    refine xloop_dn (fun m a => ∃ x F3, m = Wn K - x ∧ x ≤ Wn K ∧ a = (ad e 165, ad e (20 * c), Int32.ofNat ln, Int32.ofNat k, wd (F1 166) (ln * 201) (K c 3 k), Int32.ofNat x, mem e true F3 L g) ∧ (∀ q, q ≠ 168 → F3 q = F2 q) ∧ (∀ j, j < ln * 32 ∨ ln * 32 + 32 ≤ j → F3 168 j = F 168 j) ∧ (∀ x', x' < Wn K → F3 168 (ln * 32 + x') = Int32.ofNat (gat (fun j => lv (va (K c) (bts s) (bts x')) (K c 3 j)) (if x' < x then k + 1 else k)))) ?_ (Wn K) _ ⟨0, F2, rfl, by omega, rfl, fun _ _ => rfl, p2, p3⟩
    rintro m a cc2 ⟨x, F3, rfl, hx1, rfl, r1, r2, r3⟩ hk2
    unfold wp_Table_fillLine_102_b; dsimp only
    repeat (first | ((with_reducible show ∃ _, _ ∧ _); first | refine s_fI (by rfl) (by rfl) (by rfl) ?_ | refine s_fR (by rfl) (by rfl) (by rfl) ?_ | refine s_pV (by rfl) (by rfl) (Nat.le_of_ble_eq_true rfl) (by rfl) ?_) | ((with_reducible show xcls _ _ _ ∧ _); refine s_cls (by rfl) (by rfl) ?_))
    rw [r1 165 (by decide), p1 165 (by decide), g1 165 (by decide), k1 165 (by decide), h5]
    refine ⟨fun hc => ?_, fun hc => ?_⟩ <;> rw [n_le (by omega) (by omega)] at hc
    · have : x = Wn K := by omega
      subst this
      refine hk (K c 0 2 - (k + 1)) _ (by omega) ⟨k + 1, F3, rfl, by omega, by rw [n_lit, n_add], fun q hq => by rw [r1 q hq, p1 q hq], r2, fun x' hx' => ?_⟩
      rw [r3 x' hx', if_pos hx']
    · repeat (first | ((with_reducible show ∃ _, _ ∧ _); first | refine s_fI (by rfl) (by rfl) (by rfl) ?_ | refine s_fR (by rfl) (by rfl) (by rfl) ?_ | refine s_pV (by rfl) (by rfl) (Nat.le_of_ble_eq_true rfl) (by rfl) ?_) | ((with_reducible show xcls _ _ _ ∧ _); refine s_cls (by rfl) (by rfl) ?_))
      refine s_aI (i := ln * 32 + x) (by rfl) (by rfl) (by rfl) (by rw [n_lit, n_mul, n_add]) (by omega) (by decide) ?_
      rw [r3 x (by omega), if_neg (Nat.lt_irrefl x), bt_shr1 _ (by omega), n_shl (by omega), n_or, hbit x k (by omega) (by omega)]
      refine s_sI (i := ln * 32 + x) (by rfl) (by rfl) (by rfl) (by rfl) (by rw [n_lit, n_mul, n_add]) (by omega) (by decide) ?_
      refine hk2 (Wn K - (x + 1)) _ (by omega) ⟨x + 1, _, rfl, by omega, by rw [n_lit, n_add], fun q hq => (up_k hq).trans (r1 q hq), fun j hj => by rw [up_i, if_neg (by omega)]; exact r2 j hj, fun x' hx' => ?_⟩
      rw [up_i]
      by_cases e0 : x' = x
      · subst e0; rw [if_pos rfl, if_pos (by omega)]; rfl
      · rw [if_neg (by omega), r3 x' hx']
        by_cases e1 : x' < x
        · rw [if_pos e1, if_pos (by omega)]
        · rw [if_neg e1, if_neg (by omega)]
