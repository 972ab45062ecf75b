/-! The table filled and read. -/
theorem n_one_shl {a : Nat} (ha : a < 31) : (1 : Int32) <<< (Int32.ofNat a &&& 31) = Int32.ofNat (2 ^ a) := by
  rw [show (1 : Int32) = Int32.ofNat 1 from rfl, n_shl (by omega), Nat.one_mul]
theorem v_Table_fill {e : xenv} {F : Nat → Nat → Int32} {L : Nat → Nat → Int64} {g : xh} {z : Nat → Nat} {Q : xh → Prop} {K : Nat → Nat → Nat → Nat} (hM : MK K) (hK : ∀ c, c < 2 → KC (20 * c) F (K c)) (hZ : Zs e z F)
    (h : ∀ F', (∀ k, k < 165 ∨ 169 < k → F' k = F k) → TB F' K → Q (mem e true F' L g)) : wp_Table_fill z Q (ad e 165) (ad e 75) (mem e true F L g) := by
  have hO8 := hM.1.1.2.2.2.1
  have hI5 := hM.1.1.2.1
  have hWn := Wn_le hM
  unfold wp_Table_fill
  refine cs_aR (c := 0) (by decide) ?_
  refine c_fI (b := 20 * 0) (by decide) (by decide) ?_
  rw [show F (20 * 0) 2 = Int32.ofNat (K 0 0 1) from (hK 0 (by decide)).1 1 (by decide), n_one_shl (by omega)]
  (first | ((with_reducible show ∃ _, _ ∧ _); first | refine s_fI (by rfl) (by rfl) (by rfl) ?_ | refine s_fR (by rfl) (by rfl) (by rfl) ?_ | refine s_pV (by rfl) (by rfl) (Nat.le_of_ble_eq_true rfl) (by rfl) ?_) | ((with_reducible show xcls _ _ _ ∧ _); refine s_cls (by rfl) (by rfl) ?_))
  refine cs_aR (c := 0) (by decide) ?_
  refine c_fI (b := 20 * 0) (by decide) (by decide) ?_
  rw [up_k (by decide), show F (20 * 0) 4 = Int32.ofNat (K 0 0 3) from (hK 0 (by decide)).1 3 (by decide)]
  (first | ((with_reducible show ∃ _, _ ∧ _); first | refine s_fI (by rfl) (by rfl) (by rfl) ?_ | refine s_fR (by rfl) (by rfl) (by rfl) ?_ | refine s_pV (by rfl) (by rfl) (Nat.le_of_ble_eq_true rfl) (by rfl) ?_) | ((with_reducible show xcls _ _ _ ∧ _); refine s_cls (by rfl) (by rfl) ?_))
  (first | ((with_reducible show ∃ _, _ ∧ _); first | refine s_fI (by rfl) (by rfl) (by rfl) ?_ | refine s_fR (by rfl) (by rfl) (by rfl) ?_ | refine s_pV (by rfl) (by rfl) (Nat.le_of_ble_eq_true rfl) (by rfl) ?_) | ((with_reducible show xcls _ _ _ ∧ _); refine s_cls (by rfl) (by rfl) ?_))
  refine v_fill1 (n := 4096) (by rfl) (fun _ => rfl) (by decide) (fun F0 k0 z0 => ?_)
  have f165 : ∀ j, F0 165 j = if j = 4 then Int32.ofNat (K 0 0 3) else if j = 5 then Int32.ofNat (Wn K) else F 165 j := fun j => by
    rw [k0 165 (by decide), up_i, up_i]; rfl
  have hF0 : ∀ k, k ≠ 165 → k ≠ 168 → F0 k = F k := fun k q1 q2 => by rw [k0 k q2, up_k q1, up_k q1]
  unfold wp_Table_fill_32
  refine xloop_dn (fun m a => ∃ c F', m = 2 - c ∧ c ≤ 2 ∧ a = (ad e 165, ad e 75, Int32.ofNat c, mem e true F' L g) ∧ (∀ k, k < 166 ∨ 169 < k → F' k = F0 k) ∧ (∀ c', c' < c → F' 169 c' = Int32.ofNat (2 ^ (K c' 0 2))) ∧ (∀ c' s, c' < c → s < 2 ^ (K c' 0 2) → lnS F' K c' s) ∧ (∀ j, 64 * c * 32 ≤ j → j < 4096 → F' 168 j = 0)) ?_ 2 _ ⟨0, F0, rfl, by omega, rfl, fun _ _ => rfl, fun c' hc' => by omega, fun c' s hc' => by omega, fun j _ hj => z0 j hj⟩
  rintro m a cc ⟨c, F', rfl, hc1, rfl, g1, g2, g3, g4⟩ hk
  unfold wp_Table_fill_32_b; dsimp only
  refine ⟨fun hc => ?_, fun hc => ?_⟩ <;> rw [n_lit, n_le (by decide) (by omega)] at hc
  · have : c = 2 := by omega
    subst this
    refine h F' (fun k hk => by rw [g1 k (by omega), hF0 k (by omega) (by omega)]) ⟨?_, ?_, g2, g3⟩
    · rw [g1 165 (by decide), f165]; rfl
    · rw [g1 165 (by decide), f165]; rfl
  have hc2 : c < 2 := by omega
  have hw := hM.wf hc2
  have h64 := pw6 hw
  have hL6 := hw.1.2.2.1
  repeat (first | ((with_reducible show ∃ _, _ ∧ _); first | refine s_fI (by rfl) (by rfl) (by rfl) ?_ | refine s_fR (by rfl) (by rfl) (by rfl) ?_ | refine s_pV (by rfl) (by rfl) (Nat.le_of_ble_eq_true rfl) (by rfl) ?_) | ((with_reducible show xcls _ _ _ ∧ _); refine s_cls (by rfl) (by rfl) ?_))
  refine cs_aR hc2 ?_
  refine c_fI (b_of hc2) (by decide) ?_
  have hKc : ∀ F'' : Nat → Nat → Int32, (∀ k, k < 60 → F'' k = F0 k) → KC (20 * c) F'' (K c) := fun F'' hF'' => KC.kept (fun k q1 q2 => by rw [hF'' k (by omega), hF0 k (by omega) (by omega)]) (hK c hc2)
  rw [show F' (20 * c) 3 = Int32.ofNat (K c 0 2) from (hKc F' (fun k hk => g1 k (by omega))).1 2 (by decide), n_one_shl (by omega)]
  refine s_sI (i := c) (by rfl) (by rfl) (by rfl) (by rfl) (by rfl) (by omega) (by decide) ?_
  unfold wp_Table_fill_53
  refine xloop_dn (fun m a => ∃ s F2, m = 2 ^ (K c 0 2) - s ∧ s ≤ 2 ^ (K c 0 2) ∧ a = (ad e 165, ad e 75, Int32.ofNat c, Int32.ofNat s, mem e true F2 L g) ∧ (∀ k, k < 166 ∨ 169 < k → F2 k = F0 k) ∧ (∀ c', c' < c + 1 → F2 169 c' = Int32.ofNat (2 ^ (K c' 0 2))) ∧ (∀ c' s', (c' < c ∨ c' = c ∧ s' < s) → s' < 2 ^ (K c' 0 2) → lnS F2 K c' s') ∧ (∀ j, (64 * c + s) * 32 ≤ j → j < 4096 → F2 168 j = 0)) ?_ (2 ^ (K c 0 2)) _ ⟨0, _, rfl, Nat.zero_le _, rfl, fun k hk => by rw [up_k (by omega)]; exact g1 k hk, fun c' hc' => ?_, fun c' s' hcs hs => ?_, fun j h1 h2 => by rw [up_k (by decide)]; exact g4 j (by omega) h2⟩
  rotate_left
  · rw [up_i]
    by_cases e0 : c' = c
    · rw [if_pos e0, e0]
    · rw [if_neg e0]; exact g2 c' (by omega)
  · have := g3 c' s' (by omega) hs
    unfold lnS at this ⊢
    rw [up_k (by decide), up_k (by decide), up_k (by decide)]
    exact this
  rintro m a cc2 ⟨s, F2, rfl, hs1, rfl, p1, p2, p3, p4⟩ hk2
  unfold wp_Table_fill_53_b; dsimp only
  repeat (first | ((with_reducible show ∃ _, _ ∧ _); first | refine s_fI (by rfl) (by rfl) (by rfl) ?_ | refine s_fR (by rfl) (by rfl) (by rfl) ?_ | refine s_pV (by rfl) (by rfl) (Nat.le_of_ble_eq_true rfl) (by rfl) ?_) | ((with_reducible show xcls _ _ _ ∧ _); refine s_cls (by rfl) (by rfl) ?_))
  refine s_aI (i := c) (by rfl) (by rfl) (by rfl) (by rfl) (by omega) (by decide) ?_
  rw [p2 c (by omega)]
  refine ⟨fun hc => ?_, fun hc => ?_⟩ <;> rw [n_le (by omega) (by omega)] at hc
  · have : s = 2 ^ (K c 0 2) := by omega
    subst this
    refine hk (2 - (c + 1)) _ (by omega) ⟨c + 1, F2, rfl, by omega, by rw [n_lit, n_add], p1, p2, fun c' s' hc' hs' => p3 c' s' ?_ hs', fun j h1 h2 => p4 j (by omega) h2⟩
    by_cases e0 : c' = c
    · right; subst e0; exact ⟨rfl, hs'⟩
    · left; omega
  · refine cs_aR hc2 ?_
    repeat (first | ((with_reducible show ∃ _, _ ∧ _); first | refine s_fI (by rfl) (by rfl) (by rfl) ?_ | refine s_fR (by rfl) (by rfl) (by rfl) ?_ | refine s_pV (by rfl) (by rfl) (Nat.le_of_ble_eq_true rfl) (by rfl) ?_) | ((with_reducible show xcls _ _ _ ∧ _); refine s_cls (by rfl) (by rfl) ?_))
    rw [show Int32.ofNat c * 64 + Int32.ofNat s = Int32.ofNat (64 * c + s) by rw [n_lit, n_mul, n_add, Nat.mul_comm]]
    refine v_fillLine hc2 hM (hKc F2 (fun k hk => p1 k (by omega))) ?_ (by omega) ?_ ?_ (fun x hx => p4 _ (by omega) (by omega)) (fun F3 r1 r2 r3 r4 r5 => ?_)
    · refine ⟨hZ.1, hZ.2.1, ?_, ?_⟩
      · rw [p1 81 (by decide), hF0 81 (by decide) (by decide)]; exact hZ.2.2.1
      · rw [p1 82 (by decide), hF0 82 (by decide) (by decide)]; exact hZ.2.2.2
    · rw [p1 165 (by decide), f165]; rfl
    · rw [p1 165 (by decide), f165]; rfl
    · refine hk2 (2 ^ (K c 0 2) - (s + 1)) _ (by omega) ⟨s + 1, F3, rfl, by omega, by rw [n_lit, n_add], fun k hk => by rw [r1 k (by omega) (by omega) (by omega)]; exact p1 k hk, fun c' hc' => by rw [r1 169 (by decide) (by decide) (by decide)]; exact p2 c' hc', fun c' s' hcs hs' => ?_, fun j h1 h2 => by rw [r4 j (by omega)]; exact p4 j (by omega) h2⟩
      by_cases e0 : c' = c ∧ s' = s
      · obtain ⟨rfl, rfl⟩ := e0; exact r5
      · have hs64 : s' < 64 := by
          have := pw6 (hM.wf (c := c') (by omega)); omega
        obtain ⟨q1, q2, q3⟩ := p3 c' s' (by omega) hs'
        have hne : 64 * c' + s' < 64 * c + s := by omega
        refine ⟨fun v hv i hi => ?_, fun k hk i hi => ?_, fun x hx => ?_⟩
        · have hv2 : v < 201 := by
            rcases hv with hv | hv
            · omega
            · have := (hM.wf (c := c') (by omega)).var hv; omega
          rw [r2 _ (by omega)]; exact q1 v hv i hi
        · rw [r3 _ (by omega)]; exact q2 k hk i hi
        · rw [r4 _ (by omega)]; exact q3 x hx
theorem n_div64 {p : Nat} (h : p < 4096) : Int32.ofNat p / 64 = Int32.ofNat (p / 64) := by rw [n_lit, n_div (by omega) (by decide)]
theorem n_mod64 {p : Nat} (h : p < 4096) : Int32.ofNat p - Int32.ofNat p / 64 * 64 = Int32.ofNat (p % 64) := by rw [n_lit, n_div (by omega) (by decide), n_mul, n_sub (by omega)]; congr 1; omega
section
variable {e : xenv} {F : Nat → Nat → Int32} {L : Nat → Nat → Int64} {g : xh} {z : Nat → Nat} {K : Nat → Nat → Nat → Nat}
theorem v_isPair {Q : Int32 → xh → Prop} {p : Nat} (hM : MK K) (hT : TB F K) (hp : p < 4096) (h0 : ¬ isPr K p → Q 0 (mem e true F L g)) (h1 : isPr K p → Q 1 (mem e true F L g)) : wp_Table_isPair z Q (ad e 165) (Int32.ofNat p) (mem e true F L g) := by
  have w0 := pw6 hM.1
  have w1 := pw6 hM.2.1
  unfold wp_Table_isPair
  repeat (first | ((with_reducible show ∃ _, _ ∧ _); first | refine s_fI (by rfl) (by rfl) (by rfl) ?_ | refine s_fR (by rfl) (by rfl) (by rfl) ?_ | refine s_pV (by rfl) (by rfl) (Nat.le_of_ble_eq_true rfl) (by rfl) ?_) | ((with_reducible show xcls _ _ _ ∧ _); refine s_cls (by rfl) (by rfl) ?_))
  refine s_aI (i := 0) (by rfl) (by rfl) (by rfl) (by rfl) (by decide) (by decide) ?_
  rw [hT.2.2.1 0 (by decide), n_div64 hp]
  refine ⟨fun hc => ?_, fun hc => ?_⟩ <;> rw [n_le (by omega) (by omega)] at hc
  · exact h0 (fun h => by have := h.1; omega)
  repeat (first | ((with_reducible show ∃ _, _ ∧ _); first | refine s_fI (by rfl) (by rfl) (by rfl) ?_ | refine s_fR (by rfl) (by rfl) (by rfl) ?_ | refine s_pV (by rfl) (by rfl) (Nat.le_of_ble_eq_true rfl) (by rfl) ?_) | ((with_reducible show xcls _ _ _ ∧ _); refine s_cls (by rfl) (by rfl) ?_))
  refine s_aI (i := 1) (by rfl) (by rfl) (by rfl) (by rfl) (by decide) (by decide) ?_
  rw [hT.2.2.1 1 (by decide), show Int32.ofNat p - Int32.ofNat (p / 64) * 64 = Int32.ofNat (p % 64) by rw [← n_div64 hp]; exact n_mod64 hp]
  refine ⟨fun hc => ?_, fun hc => ?_⟩ <;> rw [n_le (by omega) (by omega)] at hc
  · exact h0 (fun h => by have := h.2; omega)
  · exact h1 ⟨by omega, by omega⟩
theorem v_next {Q : Int32 → xh → Prop} {p x : Nat} (hM : MK K) (hT : TB F K) (hp : isPr K p) (hx : x < Wn K) (h : Q (Int32.ofNat (Nx K p x)) (mem e true F L g)) : wp_Table_next z Q (ad e 165) (Int32.ofNat p) (Int32.ofNat x) (mem e true F L g) := by
  have hp4 := hp.lt hM
  have hWn := Wn_le hM
  unfold wp_Table_next
  rw [n_mod64 hp4, n_div64 hp4]
  rintro v1 rfl v2 rfl
  repeat (first | ((with_reducible show ∃ _, _ ∧ _); first | refine s_fI (by rfl) (by rfl) (by rfl) ?_ | refine s_fR (by rfl) (by rfl) (by rfl) ?_ | refine s_pV (by rfl) (by rfl) (Nat.le_of_ble_eq_true rfl) (by rfl) ?_) | ((with_reducible show xcls _ _ _ ∧ _); refine s_cls (by rfl) (by rfl) ?_))
  refine s_aI (i := p / 64 * 32 + x) (by rfl) (by rfl) (by rfl) (by rw [n_lit, n_mul, n_add]) (by omega) (by decide) ?_
  have e0 := (hT.2.2.2 0 (p / 64) (by decide) hp.1).2.2 x hx
  have e1 := (hT.2.2.2 1 (p % 64) (by decide) hp.2).2.2 x hx
  rw [show F 168 (p / 64 * 32 + x) = Int32.ofNat (nS (K 0) (p / 64) (bts x)) by rw [← e0]; congr 1; omega]
  repeat (first | ((with_reducible show ∃ _, _ ∧ _); first | refine s_fI (by rfl) (by rfl) (by rfl) ?_ | refine s_fR (by rfl) (by rfl) (by rfl) ?_ | refine s_pV (by rfl) (by rfl) (Nat.le_of_ble_eq_true rfl) (by rfl) ?_) | ((with_reducible show xcls _ _ _ ∧ _); refine s_cls (by rfl) (by rfl) ?_))
  refine s_aI (i := (64 + p % 64) * 32 + x) (by rfl) (by rfl) (by rfl) (by rw [n_lit, n_add, n_lit, n_mul, n_add]) (by omega) (by decide) ?_
  rw [show F 168 ((64 + p % 64) * 32 + x) = Int32.ofNat (nS (K 1) (p % 64) (bts x)) by rw [← e1], n_lit, n_mul, n_add, Nat.mul_comm]
  exact h
theorem v_unlike {Q : Int32 → xh → Prop} {p k : Nat} (hM : MK K) (hT : TB F K) (hp : isPr K p) (hk : k < K 0 0 3) (h : ∀ y, (∀ i, i < 32 → bt y i = Ul K p i k) → Q y (mem e true F L g)) : wp_Table_unlike z Q (ad e 165) (Int32.ofNat p) (Int32.ofNat k) (mem e true F L g) := by
  have hp4 := hp.lt hM
  have hO8 := hM.1.1.2.2.2.1
  unfold wp_Table_unlike
  rw [n_mod64 hp4, n_div64 hp4]
  rintro v1 rfl v2 rfl
  repeat (first | ((with_reducible show ∃ _, _ ∧ _); first | refine s_fI (by rfl) (by rfl) (by rfl) ?_ | refine s_fR (by rfl) (by rfl) (by rfl) ?_ | refine s_pV (by rfl) (by rfl) (Nat.le_of_ble_eq_true rfl) (by rfl) ?_) | ((with_reducible show xcls _ _ _ ∧ _); refine s_cls (by rfl) (by rfl) ?_))
  refine s_aI (i := p / 64 * 8 + k) (by rfl) (by rfl) (by rfl) (by rw [n_lit, n_mul, n_add]) (by omega) (by decide) ?_
  repeat (first | ((with_reducible show ∃ _, _ ∧ _); first | refine s_fI (by rfl) (by rfl) (by rfl) ?_ | refine s_fR (by rfl) (by rfl) (by rfl) ?_ | refine s_pV (by rfl) (by rfl) (Nat.le_of_ble_eq_true rfl) (by rfl) ?_) | ((with_reducible show xcls _ _ _ ∧ _); refine s_cls (by rfl) (by rfl) ?_))
  refine s_aI (i := (64 + p % 64) * 8 + k) (by rfl) (by rfl) (by rfl) (by rw [n_lit, n_add, n_lit, n_mul, n_add]) (by omega) (by decide) ?_
  refine h _ (fun i hi => ?_)
  have e0 := (hT.2.2.2 0 (p / 64) (by decide) hp.1).2.1 k hk i hi
  have e1 := (hT.2.2.2 1 (p % 64) (by decide) hp.2).2.1 k hk i hi
  rw [bt_xor, show F 167 (p / 64 * 8 + k) = F 167 ((64 * 0 + p / 64) * 8 + k) by congr 1; omega, e0, show F 167 ((64 + p % 64) * 8 + k) = F 167 ((64 * 1 + p % 64) * 8 + k) by congr 1, e1]
  rfl
theorem any_succ (f : Nat → Bool) (k : Nat) : (List.range (k + 1)).any f = ((List.range k).any f || f k) := by
  rw [List.range_succ, List.any_append]; simp
theorem v_telling {Q : Int32 → xh → Prop} {p : Nat} (hM : MK K) (hT : TB F K) (hp : isPr K p) (h : ∀ y, (∀ i, i < 32 → bt y i = Tp K p i) → Q y (mem e true F L g)) : wp_Table_telling z Q (ad e 165) (Int32.ofNat p) (mem e true F L g) := by
  have hO8 := hM.1.1.2.2.2.1
  unfold wp_Table_telling wp_Table_telling_4
  refine xloop_dn (fun m a => ∃ k y, m = K 0 0 3 - k ∧ k ≤ K 0 0 3 ∧ a = (ad e 165, Int32.ofNat p, y, Int32.ofNat k, mem e true F L g) ∧ (∀ i, i < 32 → bt y i = (List.range k).any (fun k => Ul K p i k))) ?_ (K 0 0 3) _ ⟨0, 0, rfl, by omega, rfl, fun i _ => bt_zero i⟩
  rintro m a cc ⟨k, y, rfl, hk1, rfl, g1⟩ hk
  unfold wp_Table_telling_4_b; dsimp only
  repeat (first | ((with_reducible show ∃ _, _ ∧ _); first | refine s_fI (by rfl) (by rfl) (by rfl) ?_ | refine s_fR (by rfl) (by rfl) (by rfl) ?_ | refine s_pV (by rfl) (by rfl) (Nat.le_of_ble_eq_true rfl) (by rfl) ?_) | ((with_reducible show xcls _ _ _ ∧ _); refine s_cls (by rfl) (by rfl) ?_))
  rw [hT.2.1]
  refine ⟨fun hc => ?_, fun hc => ?_⟩ <;> rw [n_le (by omega) (by omega)] at hc
  · have : k = K 0 0 3 := by omega
    subst this
    exact h y g1
  repeat (first | ((with_reducible show ∃ _, _ ∧ _); first | refine s_fI (by rfl) (by rfl) (by rfl) ?_ | refine s_fR (by rfl) (by rfl) (by rfl) ?_ | refine s_pV (by rfl) (by rfl) (Nat.le_of_ble_eq_true rfl) (by rfl) ?_) | ((with_reducible show xcls _ _ _ ∧ _); refine s_cls (by rfl) (by rfl) ?_))
  refine v_unlike hM hT hp (by omega) (fun u hu => ?_)
  rintro v rfl
  refine hk (K 0 0 3 - (k + 1)) _ (by omega) ⟨k + 1, _, rfl, by omega, by rw [n_lit, n_add], fun i hi => ?_⟩
  rw [bt_or, g1 i hi, hu i hi, any_succ]
/-- the lowest output that is unlike, by vector x -/
theorem v_lowestUnlike {Q : Int32 → xh → Prop} {p x : Nat} (hM : MK K) (hT : TB F K) (hp : isPr K p) (hx : x < 32) (ht : Tp K p x = true) (h : ∀ b, b < K 0 0 3 → Ul K p x b = true → (∀ k, k < b → Ul K p x k = false) → Q (Int32.ofNat b) (mem e true F L g)) : wp_Table_lowestUnlike z Q (ad e 165) (Int32.ofNat p) (Int32.ofNat x) (mem e true F L g) := by
  have hO8 := hM.1.1.2.2.2.1
  obtain ⟨k0, hk0, hu0⟩ : ∃ k, k < K 0 0 3 ∧ Ul K p x k = true := by
    unfold Tp at ht
    rw [List.any_eq_true] at ht
    obtain ⟨k, h1, h2⟩ := ht
    exact ⟨k, List.mem_range.mp h1, h2⟩
  unfold wp_Table_lowestUnlike wp_Table_lowestUnlike_2
  refine xloop_dn (fun m a => ∃ k, m = K 0 0 3 - k ∧ k < K 0 0 3 ∧ a = (ad e 165, Int32.ofNat p, Int32.ofNat x, Int32.ofNat k, mem e true F L g) ∧ (∀ j, j < k → Ul K p x j = false)) ?_ (K 0 0 3) _ ⟨0, rfl, by omega, rfl, fun j hj => by omega⟩
  rintro m a cc ⟨k, rfl, hk1, rfl, g1⟩ hk
  unfold wp_Table_lowestUnlike_2_b; dsimp only
  unfold wp_Table_lowestUnlike_31
  repeat (first | ((with_reducible show ∃ _, _ ∧ _); first | refine s_fI (by rfl) (by rfl) (by rfl) ?_ | refine s_fR (by rfl) (by rfl) (by rfl) ?_ | refine s_pV (by rfl) (by rfl) (Nat.le_of_ble_eq_true rfl) (by rfl) ?_) | ((with_reducible show xcls _ _ _ ∧ _); refine s_cls (by rfl) (by rfl) ?_))
  rw [hT.2.1, show Int32.ofNat (K 0 0 3) - 1 = Int32.ofNat (K 0 0 3 - 1) by rw [n_lit, n_sub (by omega)]]
  refine ⟨fun hc => ?_, fun hc => ?_⟩ <;> rw [n_le (by omega) (by omega)] at hc
  · refine h k hk1 ?_ g1
    have : k0 = k := by
      rcases (by omega : k0 < k ∨ k0 = k) with h1 | h1
      · rw [g1 k0 h1] at hu0; cases hu0
      · exact h1
    rw [← this]; exact hu0
  repeat (first | ((with_reducible show ∃ _, _ ∧ _); first | refine s_fI (by rfl) (by rfl) (by rfl) ?_ | refine s_fR (by rfl) (by rfl) (by rfl) ?_ | refine s_pV (by rfl) (by rfl) (Nat.le_of_ble_eq_true rfl) (by rfl) ?_) | ((with_reducible show xcls _ _ _ ∧ _); refine s_cls (by rfl) (by rfl) ?_))
  refine v_unlike hM hT hp (by omega) (fun u hu => ?_)
  rw [bt_shr1 u hx, hu x hx]
  refine ⟨fun hb => h k hk1 ?_ g1, fun hb => ?_⟩
  · cases hq : Ul K p x k
    · rw [hq] at hb; exact absurd rfl hb
    · rfl
  · refine hk (K 0 0 3 - (k + 1)) _ (by omega) ⟨k + 1, rfl, by omega, by rw [n_lit, n_add], fun j hj => ?_⟩
    by_cases e0 : j = k
    · subst e0
      cases hq : Ul K p x j
      · rfl
      · rw [hq] at hb; exact absurd hb (by decide)
    · exact g1 j (by omega)
/-- the word of a literal at a pair -/
theorem v_tword {Q : Int32 → xh → Prop} {p c l : Nat} (hM : MK K) (hT : TB F K) (hp : isPr K p) (hc : c < 2) (hl : dl (K c) l) (h : ∀ y, (∀ i, i < 32 → bt y i = lv (va (K c) (bts (if c = 0 then p / 64 else p % 64)) (bts i)) l) → Q y (mem e true F L g)) : wp_Table_word z Q (ad e 165) (Int32.ofNat p) (Int32.ofNat c) (Int32.ofNat l) (mem e true F L g) := by
  have hp4 := hp.lt hM
  have hl2 := (hM.wf hc).lit hl
  unfold wp_Table_word wp_Table_word_18
  rw [n_mod64 hp4, n_div64 hp4]
  rcases c_cases hc with rfl | rfl
  · refine ⟨fun h => absurd rfl h, fun _ => ?_⟩
    repeat (first | ((with_reducible show ∃ _, _ ∧ _); first | refine s_fI (by rfl) (by rfl) (by rfl) ?_ | refine s_fR (by rfl) (by rfl) (by rfl) ?_ | refine s_pV (by rfl) (by rfl) (Nat.le_of_ble_eq_true rfl) (by rfl) ?_) | ((with_reducible show xcls _ _ _ ∧ _); refine s_cls (by rfl) (by rfl) ?_))
    rw [show Int32.ofNat (p / 64) * 201 = Int32.ofNat (p / 64 * 201) by rw [n_lit, n_mul]]
    refine v_word (r := 166) (n := 25728) (by rfl) (fun _ => rfl) (by decide) (by omega) (by omega) ?_
    refine h _ (fun i hi => ?_)
    have e0 := (hT.2.2.2 0 (p / 64) (by decide) hp.1).1 (l / 2) (dl_var hl) i hi
    rw [bt_wd hi, show F 166 (p / 64 * 201 + l / 2) = F 166 ((64 * 0 + p / 64) * 201 + l / 2) by congr 1; omega, e0]
    rfl
  · refine ⟨fun _ => ?_, fun h => absurd h (by decide)⟩
    repeat (first | ((with_reducible show ∃ _, _ ∧ _); first | refine s_fI (by rfl) (by rfl) (by rfl) ?_ | refine s_fR (by rfl) (by rfl) (by rfl) ?_ | refine s_pV (by rfl) (by rfl) (Nat.le_of_ble_eq_true rfl) (by rfl) ?_) | ((with_reducible show xcls _ _ _ ∧ _); refine s_cls (by rfl) (by rfl) ?_))
    rw [show (64 + Int32.ofNat (p % 64)) * 201 = Int32.ofNat ((64 + p % 64) * 201) by rw [n_lit, n_add, n_lit, n_mul]]
    refine v_word (r := 166) (n := 25728) (by rfl) (fun _ => rfl) (by decide) (by omega) (by omega) ?_
    refine h _ (fun i hi => ?_)
    have e0 := (hT.2.2.2 1 (p % 64) (by decide) hp.2).1 (l / 2) (dl_var hl) i hi
    rw [bt_wd hi, show F 166 ((64 + p % 64) * 201 + l / 2) = F 166 ((64 * 1 + p % 64) * 201 + l / 2) by congr 1, e0]
    rfl
end
