/-! The reference: same, twin, inductive. -/
theorem lval_per {K : Nat → Nat → Nat → Nat} (hM : MK K) {c : Nat} (hc : c < 2) (p l x : Nat) : lval K p c l x = lval K p c l (x % Wn K) := by
  unfold lval; rw [va_per hM hc]
theorem same_word {L : Nat → Nat → Int64} {K : Nat → Nat → Nat → Nat} {p c l d o : Nat} {y : Int64} (hM : MK K) (hV : VB L K p) (hc : c < 2) (hl : dl (K c) l) (hd : d < 2) (ho : dl (K d) o) (hy : ∀ i, i < 64 → bl y i = decide (i < Wn K)) : lg_cmp ((wl (L 132) (201 * c) l ^^^ wl (L 132) (201 * d) o) &&& y) 0 = 0 ↔ ∀ x, x < 32 → lval K p c l x = lval K p d o x := by
  have hWn := Wn_le hM
  rw [cmp0]
  constructor
  · intro h x hx
    rw [lval_per hM hc, lval_per hM hd]
    have hm : x % Wn K < Wn K := Nat.mod_lt _ hWn.1
    have := congrArg (fun y => bl y (x % Wn K)) h
    replace this : bl ((wl (L 132) (201 * c) l ^^^ wl (L 132) (201 * d) o) &&& y) (x % Wn K) = bl 0 (x % Wn K) := this
    rw [bl_and, bl_xor, hV.lit hc hl (by omega), hV.lit hd ho (by omega), hy _ (by omega), bl_zero] at this
    revert this
    simp only [hm, decide_true, Bool.and_true]
    cases lval K p c l (x % Wn K) <;> cases lval K p d o (x % Wn K) <;> simp
  · intro h
    apply bl_ext
    intro i hi
    rw [bl_and, bl_xor, hV.lit hc hl hi, hV.lit hd ho hi, hy i hi, bl_zero]
    by_cases hiW : i < Wn K
    · rw [h i (by omega)]; simp
    · simp [hiW]
theorem isL_kd {D : Nat → Option (Nat → Nat → Nat)} {x y : Int32} {c l : Nat} {C : Nat → Nat → Nat} (h : isL D x y c C l) : isL D x y c (kd D c) l := by
  obtain ⟨h1, h2, h3, h4, h5⟩ := h
  have : kd D c = C := kd_eq h3
  rw [this]; exact ⟨h1, h2, h3, h4, h5⟩
section
variable {e : xenv} {w : Bool} {F : Nat → Nat → Int32} {L : Nat → Nat → Int64} {g : xh} {z : Nat → Nat} {D : Nat → Option (Nat → Nat → Nat)}
theorem v_Model_same {Q : Int32 → xh → Prop} {x1 x2 x3 x4 : Int32} (hR : RM F D) (hW : WD D) (hS : SM F L D)
    (h0 : ¬ mt D → ∀ F' L', eM F L D F' L' → F' 100 0 = 1 → Q 0 (mem e w F' L' g))
    (h2 : mt D → (∀ c C l d C' o, isL D x1 x2 c C l → ¬ isL D x3 x4 d C' o) → ∀ F' L', eM F L D F' L' → F' 100 0 = 2 → Q 0 (mem e w F' L' g))
    (h1 : ∀ c l d o, mt D → isL D x1 x2 c (kd D c) l → isL D x3 x4 d (kd D d) o → ∀ F' L' y, eM F L D F' L' → F' 100 0 = 0 → (smV (kd D) (pq (kd D)) (pz (kd D)) c l d o → y = 1) → (¬ smV (kd D) (pq (kd D)) (pz (kd D)) c l d o → y = 0) → Q y (mem e w F' L' g)) : wp_Model_same z Q (ad e 100) x1 x2 x3 x4 (mem e w F L g) := by
  unfold wp_Model_same wp_Model_same_27 wp_Model_same_32
  repeat (first | ((with_reducible show ∃ _, _ ∧ _); first | refine s_fI (by rfl) (by rfl) (by rfl) ?_ | refine s_fR (by rfl) (by rfl) (by rfl) ?_ | refine s_pV (by rfl) (by rfl) (Nat.le_of_ble_eq_true rfl) (by rfl) ?_) | ((with_reducible show xcls _ _ _ ∧ _); refine s_cls (by rfl) (by rfl) ?_))
  refine v_none hR hW hS (fun hno F' f1 f2 f3 => ?_) (fun hm F' L' f1 f2 f3 f4 f5 => ?_)
  · exact ⟨fun _ => h0 hno F' L ⟨f1, fun _ _ => rfl, f2⟩ f3, fun hh => absurd hh (by decide)⟩
  have hE : eM F L D F' L' := ⟨f1, f2, Or.inr ⟨hm, f4, f5⟩⟩
  have hp := f5.1
  have hM := hm.MK hW
  have hR' := RM.fS f1 hR
  refine ⟨fun hh => absurd rfl hh, fun _ => ?_⟩
  repeat (first | ((with_reducible show ∃ _, _ ∧ _); first | refine s_fI (by rfl) (by rfl) (by rfl) ?_ | refine s_fR (by rfl) (by rfl) (by rfl) ?_ | refine s_pV (by rfl) (by rfl) (Nat.le_of_ble_eq_true rfl) (by rfl) ?_) | ((with_reducible show xcls _ _ _ ∧ _); refine s_cls (by rfl) (by rfl) ?_))
  refine v_mIsLiteral hR' hW (fun hno => ?_) (fun c C l hL1 => ?_)
  · refine ⟨fun _ => ?_, fun hh => absurd rfl hh⟩
    repeat (first | ((with_reducible show ∃ _, _ ∧ _); first | refine s_fI (by rfl) (by rfl) (by rfl) ?_ | refine s_fR (by rfl) (by rfl) (by rfl) ?_ | refine s_pV (by rfl) (by rfl) (Nat.le_of_ble_eq_true rfl) (by rfl) ?_) | ((with_reducible show xcls _ _ _ ∧ _); refine s_cls (by rfl) (by rfl) ?_))
    exact v_fails1 f3 (by decide) ⟨fun hh => absurd hh (by decide), fun _ => h2 hm (fun c C l d C' o hh => absurd hh (hno c C l)) _ _ hE.bad (by rw [up_i, if_pos rfl])⟩
  refine ⟨fun hh => absurd hh (by decide), fun _ => ?_⟩
  repeat (first | ((with_reducible show ∃ _, _ ∧ _); first | refine s_fI (by rfl) (by rfl) (by rfl) ?_ | refine s_fR (by rfl) (by rfl) (by rfl) ?_ | refine s_pV (by rfl) (by rfl) (Nat.le_of_ble_eq_true rfl) (by rfl) ?_) | ((with_reducible show xcls _ _ _ ∧ _); refine s_cls (by rfl) (by rfl) ?_))
  refine v_mIsLiteral hR' hW (fun hno => ?_) (fun d C' o hL2 => ?_)
  · refine ⟨fun hh => absurd rfl hh, fun _ => ?_⟩
    repeat (first | ((with_reducible show ∃ _, _ ∧ _); first | refine s_fI (by rfl) (by rfl) (by rfl) ?_ | refine s_fR (by rfl) (by rfl) (by rfl) ?_ | refine s_pV (by rfl) (by rfl) (Nat.le_of_ble_eq_true rfl) (by rfl) ?_) | ((with_reducible show xcls _ _ _ ∧ _); refine s_cls (by rfl) (by rfl) ?_))
    exact v_fails1 f3 (by decide) ⟨fun hh => absurd hh (by decide), fun _ => h2 hm (fun _ _ _ d C' o _ => hno d C' o) _ _ hE.bad (by rw [up_i, if_pos rfl])⟩
  refine ⟨fun _ => ?_, fun hh => absurd hh (by decide)⟩
  repeat (first | ((with_reducible show ∃ _, _ ∧ _); first | refine s_fI (by rfl) (by rfl) (by rfl) ?_ | refine s_fR (by rfl) (by rfl) (by rfl) ?_ | refine s_pV (by rfl) (by rfl) (Nat.le_of_ble_eq_true rfl) (by rfl) ?_) | ((with_reducible show xcls _ _ _ ∧ _); refine s_cls (by rfl) (by rfl) ?_))
  refine v_fails0 f3 ⟨fun _ => ?_, fun hh => absurd rfl hh⟩
  have q1 := isL_kd hL1
  have q2 := isL_kd hL2
  have hfin := h1 c l d o hm q1 q2
  obtain ⟨hcl, rfl, hDc, rfl, hdl⟩ := q1
  obtain ⟨hd, rfl, hDd, rfl, hdo⟩ := q2
  have l402 := (hM.wf hcl).lit hdl
  have o402 := (hM.wf hd).lit hdo
  have hpn := pN_le hM
  unfold wp_Model_same_47
  refine xloop_dn (fun m a => ∃ i y L2, m = pz (kd D) - i ∧ i ≤ pz (kd D) ∧ a = (ad e 100, Int32.ofNat c, Int32.ofNat l, Int32.ofNat d, Int32.ofNat o, y, Int32.ofNat i, mem e w F' L2 g) ∧ (∀ k, k ≠ 132 → L2 k = L' k) ∧ (smV (kd D) (pq (kd D)) i c l d o → y = 1) ∧ (¬ smV (kd D) (pq (kd D)) i c l d o → y = 0)) ?_ (pz (kd D)) _ ⟨0, 1, L', rfl, Nat.zero_le _, rfl, fun _ _ => rfl, fun _ => rfl, fun hh => absurd (fun i hi => absurd hi (by omega)) hh⟩
  rintro m a cc ⟨i, y, L2, rfl, hi, rfl, r1, r2, r3⟩ hk
  unfold wp_Model_same_47_b wp_Model_same_109; dsimp only
  have hMF : MF F' L2 (kd D) := MF.kept (fun _ _ _ => rfl) (fun _ _ _ => rfl) (r1 134 (by decide)) f5
  have hE2 : eM F L D F' L2 := ⟨f1, fun k hk => by rw [r1 k (by omega)]; exact f2 k hk, Or.inr ⟨hm, f4, hMF⟩⟩
  have ybl : xbl y := by
    by_cases hs : smV (kd D) (pq (kd D)) i c l d o
    · rw [r2 hs]; exact Or.inr rfl
    · rw [r3 hs]; exact Or.inl rfl
  repeat (first | ((with_reducible show ∃ _, _ ∧ _); first | refine s_fI (by rfl) (by rfl) (by rfl) ?_ | refine s_fR (by rfl) (by rfl) (by rfl) ?_ | refine s_pV (by rfl) (by rfl) (Nat.le_of_ble_eq_true rfl) (by rfl) ?_) | ((with_reducible show xcls _ _ _ ∧ _); refine s_cls (by rfl) (by rfl) ?_))
  rw [f5.2.2.1]
  refine ⟨fun hc => ?_, fun hc => ?_⟩ <;> rw [n_le (by have := hp.1; omega) (by have := hp.1; omega)] at hc
  · have : i = pz (kd D) := by omega
    subst this
    exact ⟨ybl, hfin F' L2 y hE2 f3 r2 r3⟩
  have hil : i < pz (kd D) := by omega
  refine ⟨fun hy0 => ⟨ybl, hfin F' L2 y hE2 f3 (fun hs => ?_) (fun _ => hy0)⟩, fun hy0 => ?_⟩
  · have : smV (kd D) (pq (kd D)) i c l d o := fun j hj => hs j (by omega)
    exact r2 this
  have hsm : smV (kd D) (pq (kd D)) i c l d o := Classical.byContradiction (fun hs => hy0 (r3 hs))
  repeat (first | ((with_reducible show ∃ _, _ ∧ _); first | refine s_fI (by rfl) (by rfl) (by rfl) ?_ | refine s_fR (by rfl) (by rfl) (by rfl) ?_ | refine s_pV (by rfl) (by rfl) (Nat.le_of_ble_eq_true rfl) (by rfl) ?_) | ((with_reducible show xcls _ _ _ ∧ _); refine s_cls (by rfl) (by rfl) ?_))
  refine s_aI (i := i) (by rfl) (by rfl) (by rfl) (by rfl) (by have := hp.1; omega) (by decide) ?_
  rw [f5.2.2.2.1 i hil]
  repeat (first | ((with_reducible show ∃ _, _ ∧ _); first | refine s_fI (by rfl) (by rfl) (by rfl) ?_ | refine s_fR (by rfl) (by rfl) (by rfl) ?_ | refine s_pV (by rfl) (by rfl) (Nat.le_of_ble_eq_true rfl) (by rfl) ?_) | ((with_reducible show xcls _ _ _ ∧ _); refine s_cls (by rfl) (by rfl) ?_))
  refine v_reckonBoth hM (hm.KM hR') (hp.2.1 i hil).1 (fun L3 k3 hV => ?_)
  repeat (first | ((with_reducible show ∃ _, _ ∧ _); first | refine s_fI (by rfl) (by rfl) (by rfl) ?_ | refine s_fR (by rfl) (by rfl) (by rfl) ?_ | refine s_pV (by rfl) (by rfl) (Nat.le_of_ble_eq_true rfl) (by rfl) ?_) | ((with_reducible show xcls _ _ _ ∧ _); refine s_cls (by rfl) (by rfl) ?_))
  refine v_of hcl (by omega) ?_
  repeat (first | ((with_reducible show ∃ _, _ ∧ _); first | refine s_fI (by rfl) (by rfl) (by rfl) ?_ | refine s_fR (by rfl) (by rfl) (by rfl) ?_ | refine s_pV (by rfl) (by rfl) (Nat.le_of_ble_eq_true rfl) (by rfl) ?_) | ((with_reducible show xcls _ _ _ ∧ _); refine s_cls (by rfl) (by rfl) ?_))
  refine v_of hd (by omega) ?_
  repeat (first | ((with_reducible show ∃ _, _ ∧ _); first | refine s_fI (by rfl) (by rfl) (by rfl) ?_ | refine s_fR (by rfl) (by rfl) (by rfl) ?_ | refine s_pV (by rfl) (by rfl) (Nat.le_of_ble_eq_true rfl) (by rfl) ?_) | ((with_reducible show xcls _ _ _ ∧ _); refine s_cls (by rfl) (by rfl) ?_))
  refine v_mask hM f5.2.1.1 (fun yy hyy => ?_)
  rw [same_word hM hV hcl hdl hd hdo hyy]
  unfold wp_Model_same_101
  refine ⟨fun hne => hk (pz (kd D) - (i + 1)) _ (by omega) ⟨i + 1, 0, L3, rfl, by omega, by rw [n_inc], fun k hk => by rw [k3 k hk]; exact r1 k hk, fun hs => absurd (fun x hx => hs i (by omega) x hx) hne, fun _ => rfl⟩, fun heq => hk (pz (kd D) - (i + 1)) _ (by omega) ⟨i + 1, 1, L3, rfl, by omega, by rw [n_inc], fun k hk => by rw [k3 k hk]; exact r1 k hk, fun _ => rfl, fun hs => absurd (fun j hj => ?_) hs⟩⟩
  by_cases e0 : j = i
  · rw [e0]; exact heq
  · exact hsm j (by omega)
theorem n_402 {u : Nat} (hu : u < 804) : Int32.ofNat u / 402 = Int32.ofNat (u / 402) ∧ Int32.ofNat u - Int32.ofNat u / 402 * 402 = Int32.ofNat (u % 402) := by
  have h1 : Int32.ofNat u / 402 = Int32.ofNat (u / 402) := by rw [n_lit, n_div (by omega) (by decide)]
  refine ⟨h1, ?_⟩
  rw [h1, n_lit, n_mul, n_sub (by omega)]
  congr 1
  omega
theorem v_Model_twin {Q : Int32 → xh → Prop} {x1 x2 : Int32} (hR : RM F D) (hW : WD D) (hS : SM F L D)
    (h0 : ¬ mt D → ∀ F' L', eM F L D F' L' → F' 100 0 = 1 → Q 0 (mem e w F' L' g))
    (h2 : mt D → (∀ c C l, ¬ isL D x1 x2 c C l) → ∀ F' L', eM F L D F' L' → F' 100 0 = 2 → Q 0 (mem e w F' L' g))
    (h1 : ∀ c l u, mt D → isL D x1 x2 c (kd D c) l → isTw (kd D) (pq (kd D)) (pz (kd D)) c l u → ∀ F' L', eM F L D F' L' → F' 100 0 = 0 → Q (Int32.ofNat (anT u)) (mem e w F' L' g)) : wp_Model_twin z Q (ad e 100) x1 x2 (mem e w F L g) := by
  unfold wp_Model_twin wp_Model_twin_22
  repeat (first | ((with_reducible show ∃ _, _ ∧ _); first | refine s_fI (by rfl) (by rfl) (by rfl) ?_ | refine s_fR (by rfl) (by rfl) (by rfl) ?_ | refine s_pV (by rfl) (by rfl) (Nat.le_of_ble_eq_true rfl) (by rfl) ?_) | ((with_reducible show xcls _ _ _ ∧ _); refine s_cls (by rfl) (by rfl) ?_))
  refine v_none hR hW hS (fun hno F' f1 f2 f3 => ?_) (fun hm F' L' f1 f2 f3 f4 f5 => ?_)
  · exact ⟨fun _ => h0 hno F' L ⟨f1, fun _ _ => rfl, f2⟩ f3, fun hh => absurd hh (by decide)⟩
  have hE : eM F L D F' L' := ⟨f1, f2, Or.inr ⟨hm, f4, f5⟩⟩
  have hp := f5.1
  have hM := hm.MK hW
  have hR' := RM.fS f1 hR
  refine ⟨fun hh => absurd rfl hh, fun _ => ?_⟩
  repeat (first | ((with_reducible show ∃ _, _ ∧ _); first | refine s_fI (by rfl) (by rfl) (by rfl) ?_ | refine s_fR (by rfl) (by rfl) (by rfl) ?_ | refine s_pV (by rfl) (by rfl) (Nat.le_of_ble_eq_true rfl) (by rfl) ?_) | ((with_reducible show xcls _ _ _ ∧ _); refine s_cls (by rfl) (by rfl) ?_))
  refine v_mIsLiteral hR' hW (fun hno => ?_) (fun c C l hL1 => ?_)
  · refine ⟨fun hh => absurd rfl hh, fun _ => ?_⟩
    repeat (first | ((with_reducible show ∃ _, _ ∧ _); first | refine s_fI (by rfl) (by rfl) (by rfl) ?_ | refine s_fR (by rfl) (by rfl) (by rfl) ?_ | refine s_pV (by rfl) (by rfl) (Nat.le_of_ble_eq_true rfl) (by rfl) ?_) | ((with_reducible show xcls _ _ _ ∧ _); refine s_cls (by rfl) (by rfl) ?_))
    exact v_fails1 f3 (by decide) ⟨fun hh => absurd hh (by decide), fun _ => h2 hm hno _ _ hE.bad (by rw [up_i, if_pos rfl])⟩
  refine ⟨fun _ => ?_, fun hh => absurd hh (by decide)⟩
  repeat (first | ((with_reducible show ∃ _, _ ∧ _); first | refine s_fI (by rfl) (by rfl) (by rfl) ?_ | refine s_fR (by rfl) (by rfl) (by rfl) ?_ | refine s_pV (by rfl) (by rfl) (Nat.le_of_ble_eq_true rfl) (by rfl) ?_) | ((with_reducible show xcls _ _ _ ∧ _); refine s_cls (by rfl) (by rfl) ?_))
  refine v_fails0 f3 ⟨fun _ => ?_, fun hh => absurd rfl hh⟩
  have hpn := pN_le hM
  have q1 := isL_kd hL1
  have hfin := fun u => h1 c l u hm q1
  obtain ⟨hcl, rfl, hDc, rfl, hdl⟩ := q1
  have l402 := (hM.wf hcl).lit hdl
  have hlu : ∀ u, u < 804 → u / 402 < 2 := fun u hu => by omega
  -- all literals
  unfold wp_Model_twin_33
  refine xloop_dn (fun m a => ∃ u F2, m = 804 - u ∧ u ≤ 804 ∧ a = (ad e 100, Int32.ofNat c, Int32.ofNat l, Int32.ofNat u, mem e w F2 L' g) ∧ (∀ k, k ≠ 147 → F2 k = F' k) ∧ (∀ v, v < u → (dl (kd D (v / 402)) (v % 402) → F2 147 v = 1) ∧ (¬ dl (kd D (v / 402)) (v % 402) → F2 147 v = 0))) ?_ 804 _ ⟨0, F', rfl, Nat.zero_le _, rfl, fun _ _ => rfl, fun v hv => by omega⟩
  rintro m a cc ⟨u, F2, rfl, hu, rfl, r1, r2⟩ hk
  unfold wp_Model_twin_33_b; dsimp only
  have hR2 : RM F2 D := RM.kept (fun k q1 q2 => r1 k (by omega)) hR'
  refine ⟨fun hc => ?_, fun hc => ?_⟩ <;> rw [n_lit, n_le (by decide) (by omega)] at hc
  rotate_left
  · repeat (first | ((with_reducible show ∃ _, _ ∧ _); first | refine s_fI (by rfl) (by rfl) (by rfl) ?_ | refine s_fR (by rfl) (by rfl) (by rfl) ?_ | refine s_pV (by rfl) (by rfl) (Nat.le_of_ble_eq_true rfl) (by rfl) ?_) | ((with_reducible show xcls _ _ _ ∧ _); refine s_cls (by rfl) (by rfl) ?_))
    rw [(n_402 (by omega)).1, ← (n_402 (u := u) (by omega)).1, (n_402 (by omega)).2, (n_402 (by omega)).1]
    have fin : ∀ y : Int32, (dl (kd D (u / 402)) (u % 402) → y = 1) → (¬ dl (kd D (u / 402)) (u % 402) → y = 0) → ∃ h5, sI (mem e w F2 L' g) (ad e 147) 2 (Int32.ofNat u) (vp_nar .boolean y) = some h5 ∧ cc (ad e 100, Int32.ofNat c, Int32.ofNat l, Int32.ofNat u + Int32.ofNat (OfNat.ofNat 1), h5) := by
      intro y hy1 hy0
      refine s_sI (i := u) (by rfl) (by rfl) (by rfl) (by rfl) (by rfl) (by omega) (by decide) ?_
      have hyn : vp_nar .boolean y = y := by
        by_cases hd : dl (kd D (u / 402)) (u % 402)
        · rw [hy1 hd]; rfl
        · rw [hy0 hd]; rfl
      rw [hyn]
      refine hk (804 - (u + 1)) _ (by omega) ⟨u + 1, _, rfl, by omega, by rw [n_add], fun k hk => by rw [up_k hk]; exact r1 k hk, fun v hv => ?_⟩
      rw [up_i]
      by_cases e0 : v = u
      · rw [if_pos e0, e0]; exact ⟨hy1, hy0⟩
      · rw [if_neg e0]; exact r2 v (by omega)
    refine v_mIsLiteral hR2 hW (fun hno => fin 0 (fun hd => ?_) (fun _ => rfl)) (fun c' C' l' hL' => fin 1 (fun _ => rfl) (fun hd => ?_))
    · exact absurd ⟨hlu u (by omega), rfl, hm.D _ (hlu u (by omega)), rfl, hd⟩ (hno (u / 402) _ (u % 402))
    · obtain ⟨a1, a2, a3, a4, a5⟩ := isL_kd hL'
      have e1 := n_inj (by omega) (by omega) a2
      have hl' := ((hM.wf a1).lit a5).1
      have e2 := n_inj (by omega) (by omega) a4
      rw [e1, e2] at hd
      exact absurd a5 hd
  clear hk
  have : u = 804 := by omega
  subst this
  -- all pairs
  have hT2 : MT F2 L' (kd D) := MT.kept (by rw [r1 100 (by decide)]) (by rw [r1 100 (by decide)]) (r1 135 (by decide)) rfl f5.2.1
  unfold wp_Model_twin_68
  refine xloop_dn (fun m a => ∃ i F3 L3, m = pz (kd D) - i ∧ i ≤ pz (kd D) ∧ a = (ad e 100, Int32.ofNat c, Int32.ofNat l, Int32.ofNat i, mem e w F3 L3 g) ∧ (∀ k, k ≠ 147 → F3 k = F' k) ∧ (∀ k, k ≠ 132 → L3 k = L' k) ∧ (∀ v, v < 804 → (dl (kd D (v / 402)) (v % 402) ∧ smV (kd D) (pq (kd D)) i c l (v / 402) (v % 402) → F3 147 v = 1) ∧ (¬ (dl (kd D (v / 402)) (v % 402) ∧ smV (kd D) (pq (kd D)) i c l (v / 402) (v % 402)) → F3 147 v = 0))) ?_ (pz (kd D)) _ ⟨0, F2, L', rfl, Nat.zero_le _, rfl, r1, fun _ _ => rfl, fun v hv => ⟨fun hh => (r2 v hv).1 hh.1, fun hh => (r2 v hv).2 (fun hd => hh ⟨hd, fun i hi => absurd hi (by omega)⟩)⟩⟩
  rintro m a cc ⟨i, F3, L3, rfl, hi, rfl, s1, s2, s3⟩ hk
  unfold wp_Model_twin_68_b; dsimp only
  have hMF : MF F3 L3 (kd D) := MF.kept (fun j _ _ => by rw [s1 100 (by decide)]) (fun k q1 q2 => s1 k (by omega)) (s2 134 (by decide)) f5
  have hE3 : eM F L D F3 L3 := ⟨fS.row f1 (fun k hk => s1 k (by omega)), fun k hk => by rw [s2 k (by omega)]; exact f2 k hk, Or.inr ⟨hm, by rw [s1 100 (by decide)]; exact f4, hMF⟩⟩
  have hR3 : RM F3 D := RM.kept (fun k q1 q2 => s1 k (by omega)) hR'
  repeat (first | ((with_reducible show ∃ _, _ ∧ _); first | refine s_fI (by rfl) (by rfl) (by rfl) ?_ | refine s_fR (by rfl) (by rfl) (by rfl) ?_ | refine s_pV (by rfl) (by rfl) (Nat.le_of_ble_eq_true rfl) (by rfl) ?_) | ((with_reducible show xcls _ _ _ ∧ _); refine s_cls (by rfl) (by rfl) ?_))
  rw [hMF.2.2.1]
  refine ⟨fun hc => ?_, fun hc => ?_⟩ <;> rw [n_le (by have := hp.1; omega) (by have := hp.1; omega)] at hc
  · -- the lowest
    have : i = pz (kd D) := by omega
    subst this
    clear hk
    have hself : 402 * c + l < 804 ∧ dl (kd D ((402 * c + l) / 402)) ((402 * c + l) % 402) ∧ smV (kd D) (pq (kd D)) (pz (kd D)) c l ((402 * c + l) / 402) ((402 * c + l) % 402) := by
      have a1 : (402 * c + l) / 402 = c := by omega
      have a2 : (402 * c + l) % 402 = l := by omega
      rw [a1, a2]
      exact ⟨by omega, hdl, fun _ _ _ _ => rfl⟩
    unfold wp_Model_twin_166
    refine xloop_dn (fun m a => ∃ u, m = 804 - u ∧ u ≤ 402 * c + l ∧ a = (ad e 100, Int32.ofNat u, mem e w F3 L3 g) ∧ (∀ v, v < u → ¬ (dl (kd D (v / 402)) (v % 402) ∧ smV (kd D) (pq (kd D)) (pz (kd D)) c l (v / 402) (v % 402)))) ?_ 804 _ ⟨0, rfl, Nat.zero_le _, rfl, fun v hv => by omega⟩
    rintro m a cc ⟨u, rfl, hu, rfl, t1⟩ hk
    unfold wp_Model_twin_166_b; dsimp only
    repeat (first | ((with_reducible show ∃ _, _ ∧ _); first | refine s_fI (by rfl) (by rfl) (by rfl) ?_ | refine s_fR (by rfl) (by rfl) (by rfl) ?_ | refine s_pV (by rfl) (by rfl) (Nat.le_of_ble_eq_true rfl) (by rfl) ?_) | ((with_reducible show xcls _ _ _ ∧ _); refine s_cls (by rfl) (by rfl) ?_))
    refine s_aI (i := u) (by rfl) (by rfl) (by rfl) (by rfl) (by omega) (by decide) ?_
    by_cases hyes : dl (kd D (u / 402)) (u % 402) ∧ smV (kd D) (pq (kd D)) (pz (kd D)) c l (u / 402) (u % 402)
    · rw [(s3 u (by omega)).1 hyes]
      refine ⟨fun _ => ?_, fun hh => absurd hh (by decide)⟩
      have htw : isTw (kd D) (pq (kd D)) (pz (kd D)) c l u := ⟨by omega, hyes.1, hyes.2, fun u' hu' hd hs => t1 u' hu' ⟨hd, hs⟩⟩
      have := hfin u htw F3 L3 hE3 (by rw [s1 100 (by decide)]; exact f3)
      unfold anT at this
      refine ⟨fun hc => ?_, fun hc => ?_⟩ <;> rw [n_lit, n_le (by decide) (by omega)] at hc
      · rw [if_neg (by omega)] at this
        have hc : 402 ≤ u := hc
        rw [show (1000 : Int32) = Int32.ofNat 1000 from rfl, show (402 : Int32) = Int32.ofNat 402 from rfl, n_add, n_sub (by omega), show 1000 + u - 402 = 1000 + (u - 402) by omega]
        exact this
      · have : u < 402 := by omega
        rw [if_pos this] at *
        assumption
    · rw [(s3 u (by omega)).2 hyes]
      refine ⟨fun hh => absurd rfl hh, fun _ => ?_⟩
      have hne : u ≠ 402 * c + l := fun ee => hyes (by rw [ee]; exact hself.2)
      refine hk (804 - (u + 1)) _ (by omega) ⟨u + 1, rfl, by omega, by rw [n_lit, n_add], fun v hv => ?_⟩
      by_cases e0 : v = u
      · rw [e0]; exact hyes
      · exact t1 v (by omega)
  have hil : i < pz (kd D) := by omega
  repeat (first | ((with_reducible show ∃ _, _ ∧ _); first | refine s_fI (by rfl) (by rfl) (by rfl) ?_ | refine s_fR (by rfl) (by rfl) (by rfl) ?_ | refine s_pV (by rfl) (by rfl) (Nat.le_of_ble_eq_true rfl) (by rfl) ?_) | ((with_reducible show xcls _ _ _ ∧ _); refine s_cls (by rfl) (by rfl) ?_))
  refine s_aI (i := i) (by rfl) (by rfl) (by rfl) (by rfl) (by have := hp.1; omega) (by decide) ?_
  rw [hMF.2.2.2.1 i hil]
  repeat (first | ((with_reducible show ∃ _, _ ∧ _); first | refine s_fI (by rfl) (by rfl) (by rfl) ?_ | refine s_fR (by rfl) (by rfl) (by rfl) ?_ | refine s_pV (by rfl) (by rfl) (Nat.le_of_ble_eq_true rfl) (by rfl) ?_) | ((with_reducible show xcls _ _ _ ∧ _); refine s_cls (by rfl) (by rfl) ?_))
  refine v_reckonBoth hM (hm.KM hR3) (hp.2.1 i hil).1 (fun L4 k4 hV => ?_)
  repeat (first | ((with_reducible show ∃ _, _ ∧ _); first | refine s_fI (by rfl) (by rfl) (by rfl) ?_ | refine s_fR (by rfl) (by rfl) (by rfl) ?_ | refine s_pV (by rfl) (by rfl) (Nat.le_of_ble_eq_true rfl) (by rfl) ?_) | ((with_reducible show xcls _ _ _ ∧ _); refine s_cls (by rfl) (by rfl) ?_))
  refine v_of hcl (by omega) ?_
  unfold wp_Model_twin_97
  refine xloop_dn (fun m a => ∃ u F4, m = 804 - u ∧ u ≤ 804 ∧ a = (ad e 100, Int32.ofNat c, Int32.ofNat l, Int32.ofNat i, wl (L4 132) (201 * c) l, Int32.ofNat u, mem e w F4 L4 g) ∧ (∀ k, k ≠ 147 → F4 k = F' k) ∧ (∀ v, u ≤ v → F4 147 v = F3 147 v) ∧ (∀ v, v < u → (dl (kd D (v / 402)) (v % 402) ∧ smV (kd D) (pq (kd D)) (i + 1) c l (v / 402) (v % 402) → F4 147 v = 1) ∧ (¬ (dl (kd D (v / 402)) (v % 402) ∧ smV (kd D) (pq (kd D)) (i + 1) c l (v / 402) (v % 402)) → F4 147 v = 0))) ?_ 804 _ ⟨0, F3, rfl, Nat.zero_le _, rfl, s1, fun _ _ => rfl, fun v hv => by omega⟩
  rintro m a cc2 ⟨u, F4, rfl, hu, rfl, t1, t2, t3⟩ hk2
  unfold wp_Model_twin_97_b; dsimp only
  refine ⟨fun hc => ?_, fun hc => ?_⟩ <;> rw [n_lit, n_le (by decide) (by omega)] at hc
  · have : u = 804 := by omega
    subst this
    exact hk (pz (kd D) - (i + 1)) _ (by omega) ⟨i + 1, F4, L4, rfl, by omega, by rw [n_inc], t1, fun k hk => by rw [k4 k hk]; exact s2 k hk, t3⟩
  have hul : u < 804 := by omega
  have next : ∀ F5 : Nat → Nat → Int32, (∀ k, k ≠ 147 → F5 k = F' k) → (∀ v, v ≠ u → F5 147 v = F4 147 v) → (dl (kd D (u / 402)) (u % 402) ∧ smV (kd D) (pq (kd D)) (i + 1) c l (u / 402) (u % 402) → F5 147 u = 1) → (¬ (dl (kd D (u / 402)) (u % 402) ∧ smV (kd D) (pq (kd D)) (i + 1) c l (u / 402) (u % 402)) → F5 147 u = 0) → wp_Model_twin_152 z Q cc cc2 (ad e 100) (Int32.ofNat c) (Int32.ofNat l) (Int32.ofNat i) (wl (L4 132) (201 * c) l) (Int32.ofNat u) (mem e w F5 L4 g) := by
    intro F5 y1 y2 y3 y4
    unfold wp_Model_twin_152
    refine hk2 (804 - (u + 1)) _ (by omega) ⟨u + 1, F5, rfl, by omega, by rw [n_lit, n_add], y1, fun v hv => by rw [y2 v (by omega)]; exact t2 v (by omega), fun v hv => ?_⟩
    by_cases e0 : v = u
    · rw [e0]; exact ⟨y3, y4⟩
    · rw [y2 v e0]; exact t3 v (by omega)
  repeat (first | ((with_reducible show ∃ _, _ ∧ _); first | refine s_fI (by rfl) (by rfl) (by rfl) ?_ | refine s_fR (by rfl) (by rfl) (by rfl) ?_ | refine s_pV (by rfl) (by rfl) (Nat.le_of_ble_eq_true rfl) (by rfl) ?_) | ((with_reducible show xcls _ _ _ ∧ _); refine s_cls (by rfl) (by rfl) ?_))
  refine s_aI (i := u) (by rfl) (by rfl) (by rfl) (by rfl) (by omega) (by decide) ?_
  have e3 := t2 u (Nat.le_refl _)
  by_cases hyes : dl (kd D (u / 402)) (u % 402) ∧ smV (kd D) (pq (kd D)) i c l (u / 402) (u % 402)
  · rw [e3, (s3 u hul).1 hyes]
    refine ⟨fun hh => absurd hh (by decide), fun _ => ?_⟩
    have hu402 := ((hM.wf (hlu u hul)).lit hyes.1).1
    repeat (first | ((with_reducible show ∃ _, _ ∧ _); first | refine s_fI (by rfl) (by rfl) (by rfl) ?_ | refine s_fR (by rfl) (by rfl) (by rfl) ?_ | refine s_pV (by rfl) (by rfl) (Nat.le_of_ble_eq_true rfl) (by rfl) ?_) | ((with_reducible show xcls _ _ _ ∧ _); refine s_cls (by rfl) (by rfl) ?_))
    rw [(n_402 hul).2, (n_402 hul).1]
    refine v_of (hlu u hul) (by omega) ?_
    repeat (first | ((with_reducible show ∃ _, _ ∧ _); first | refine s_fI (by rfl) (by rfl) (by rfl) ?_ | refine s_fR (by rfl) (by rfl) (by rfl) ?_ | refine s_pV (by rfl) (by rfl) (Nat.le_of_ble_eq_true rfl) (by rfl) ?_) | ((with_reducible show xcls _ _ _ ∧ _); refine s_cls (by rfl) (by rfl) ?_))
    refine v_mask hM (by rw [t1 100 (by decide)]; exact f5.2.1.1) (fun yy hyy => ?_)
    have hsw := same_word hM hV (hlu u hul) hyes.1 hcl hdl hyy
    have hsucc : (∀ x, x < 32 → lval (kd D) (pq (kd D) i) (u / 402) (u % 402) x = lval (kd D) (pq (kd D) i) c l x) ↔ (dl (kd D (u / 402)) (u % 402) ∧ smV (kd D) (pq (kd D)) (i + 1) c l (u / 402) (u % 402)) := by
      constructor
      · intro hh
        refine ⟨hyes.1, fun j hj x hx => ?_⟩
        by_cases e0 : j = i
        · rw [e0]; exact (hh x hx).symm
        · exact hyes.2 j (by omega) x hx
      · intro hh x hx
        exact (hh.2 i (by omega) x hx).symm
    rw [hsucc] at hsw
    rw [hsw]
    refine ⟨fun hin => next F4 t1 (fun _ _ => rfl) (fun _ => by rw [e3]; exact (s3 u hul).1 hyes) (fun hh => absurd hin hh), fun hin => ?_⟩
    repeat (first | ((with_reducible show ∃ _, _ ∧ _); first | refine s_fI (by rfl) (by rfl) (by rfl) ?_ | refine s_fR (by rfl) (by rfl) (by rfl) ?_ | refine s_pV (by rfl) (by rfl) (Nat.le_of_ble_eq_true rfl) (by rfl) ?_) | ((with_reducible show xcls _ _ _ ∧ _); refine s_cls (by rfl) (by rfl) ?_))
    refine s_sI (i := u) (by rfl) (by rfl) (by rfl) (by rfl) (by rfl) (by omega) (by decide) ?_
    exact next _ (fun k hk => by rw [up_k hk]; exact t1 k hk) (fun v hv => by rw [up_i, if_neg hv]) (fun hh => absurd hh hin) (fun _ => by rw [up_i, if_pos rfl]; rfl)
  · rw [e3, (s3 u hul).2 hyes]
    refine ⟨fun _ => next F4 t1 (fun _ _ => rfl) (fun hh => ?_) (fun _ => by rw [e3]; exact (s3 u hul).2 hyes), fun hh => absurd rfl hh⟩
    exact absurd ⟨hh.1, fun j hj => hh.2 j (by omega)⟩ hyes
end
