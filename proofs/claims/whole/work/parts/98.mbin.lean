/-! The reference reads a binary file. -/
def ddA (b : Nat → Nat) (fr least : Nat) (S : RW) (p : Nat) : RS := bi (dbA b S 3 p 0 0) (fun S q d => if d < least ∨ fr < d then .error (3, p) else .ok (S, q, fr - d))
/-- only the first a ands are marked -/
def wk (a : Nat) (S : RW) : RW := fun r j => if r = 112 then (if j < a then S 112 j else 0) else S r j
def mp (a : Nat) (r : RS) : RS := bi r (fun S q v => .ok (wk a S, q, v))
theorem wk_o {a r : Nat} {S : RW} (h : r ≠ 112) : wk a S r = S r := by funext j; unfold wk; rw [if_neg h]
theorem wk_st {a r i x : Nat} {S : RW} (h : r ≠ 12 ∧ r < 100) : wk a (st S r i x) = st (wk a S) r i x := by
  funext t j
  by_cases e0 : t = 112
  · subst e0
    rw [st_o (S := wk a S) (by omega) (by omega)]
    unfold wk
    rw [if_pos rfl, if_pos rfl, st_o (by omega) (by omega)]
  · rw [wk_o e0]
    by_cases e1 : t = r
    · subst e1; rw [st_r, st_r, wk_o e0]
    · by_cases e2 : t = r + 100
      · subst e2; rw [st_m, st_m, wk_o e0]
      · rw [st_o e1 e2, st_o e1 e2, wk_o e0]
section
variable {b : Nat → Nat} {S T S' : RW} {p q v k a : Nat}
theorem dlA_dd {fr least r r' u : Nat} : dlA b fr least r r' u k S p = bi (ddA b fr least S p) (fun S q v => .ok (st (st S r u v) r' k v, q, v)) := by
  unfold dlA ddA
  rw [bi_bi]
  match hr : dbA b S 3 p 0 0 with
  | .error e => rfl
  | .ok (S1, p1, v1) =>
    rw [bi_ok, bi_ok]
    by_cases hh : v1 < least ∨ fr < v1
    · rw [if_pos hh, if_pos hh]; rfl
    · rw [if_neg hh, if_neg hh]; rfl
theorem ddA_ok {fr least : Nat} (h : ddA b fr least S p = .ok (S', q, v)) : S' = S ∧ v ≤ fr := by
  obtain ⟨S1, p1, v1, h1, h2⟩ := bi_split h
  obtain ⟨rfl, _⟩ := dbA_ok 3 p 0 0 (by decide) (by decide) h1
  by_cases hh : v1 < least ∨ fr < v1
  · rw [if_pos hh] at h2; cases h2
  · rw [if_neg hh] at h2
    obtain ⟨rfl, rfl, rfl⟩ := ok_inj h2
    exact ⟨rfl, Nat.sub_le _ _⟩
theorem psA_wk {c : Nat} : psA b c (wk a S) p = mp a (psA b c S p) := by
  unfold psA mp
  by_cases hh : b p = c
  · rw [if_pos hh, if_pos hh]; rfl
  · rw [if_neg hh, if_neg hh]; rfl
theorem usA_wk : usA b (wk a S) p = mp a (usA b S p) := by
  rw [usA_eq, usA_eq, liA_sub (T := wk a S) (S := S) (by rw [wk_o (by decide)])]
  unfold mp
  match hr : liA b S p with
  | .error e => rfl
  | .ok (S1, p1, v1) =>
    show Except.ok (usS (wk a S) v1 p, p1, v1) = Except.ok (wk a (usS S v1 p), p1, v1)
    unfold usS
    rw [wk_st (by decide), wk_st (by decide), wk_st (by decide), wk_o (by decide)]
theorem nxA_wk : nxA b k (wk a S) p = mp a (nxA b k S p) := by
  unfold nxA
  rw [usA_wk]
  unfold mp
  rw [bi_bi, bi_bi]
  match hr : usA b S p with
  | .error e => rfl
  | .ok (S1, p1, v1) =>
    rw [bi_ok, bi_ok, bi_ok, ← wk_st (by decide), ← wk_st (by decide), psA_wk]
    rfl
theorem ouA_wk : ouA b k (wk a S) p = mp a (ouA b k S p) := by
  unfold ouA
  rw [usA_wk]
  unfold mp
  rw [bi_bi, bi_bi]
  match hr : usA b S p with
  | .error e => rfl
  | .ok (S1, p1, v1) =>
    rw [bi_ok, bi_ok, bi_ok, ← wk_st (by decide), ← wk_st (by decide), psA_wk]
    rfl
theorem lp_wk {f : Nat → RW → Nat → RS} (hf : ∀ k S p, f k (wk a S) p = mp a (f k S p)) : ∀ m k S p, lp f k m (wk a S) p = mp a (lp f k m S p)
  | 0, k, S, p => rfl
  | m + 1, k, S, p => by
    unfold lp
    rw [hf]
    unfold mp
    rw [bi_bi, bi_bi]
    match hr : f k S p with
    | .error e => rfl
    | .ok (S1, p1, v1) =>
      rw [bi_ok, bi_ok, bi_ok]
      exact lp_wk hf m (k + 1) S1 p1
theorem bd112 : ∀ j, bdA S 112 j = if j < S 0 4 then 1 else S 112 j := by
  have sI' := it_inv (f := boI) (fun k T => T 112 = S 112 ∧ T 0 = S 0) (S 0 1) 0 S ⟨rfl, rfl⟩ (fun k _ _ T hT => ⟨by unfold boI; rw [st_o (by decide) (by decide), st_o (by decide) (by decide)]; exact hT.1, by rw [boI_0]; exact hT.2⟩)
  have sL' := it_inv (f := boL) (fun k T => T 112 = S 112 ∧ T 0 = S 0) (S 0 2) 0 _ sI' (fun k _ _ T hT => ⟨by unfold boL; rw [st_o (by decide) (by decide), st_o (by decide) (by decide)]; exact hT.1, by rw [boL_0]; exact hT.2⟩)
  have sA' := it_inv (f := boA) (fun k T => (∀ j, T 112 j = if j < k then 1 else S 112 j) ∧ T 0 = S 0) (S 0 4) 0 _ ⟨fun j => by rw [sL'.1, if_neg (Nat.not_lt_zero _)], sL'.2⟩ (fun k _ _ T hT => ⟨fun j => by
    unfold boA
    rw [show (112 : Nat) = 12 + 100 from rfl, st_m, st_o (by decide) (by decide)]
    by_cases e0 : j = k
    · rw [if_pos e0, if_pos (by omega)]
    · rw [if_neg e0, hT.1 j]
      by_cases e1 : j < k
      · rw [if_pos e1, if_pos (by omega)]
      · rw [if_neg e1, if_neg (by omega)], by rw [boA_0]; exact hT.2⟩)
  rw [Nat.zero_add] at sA'
  exact sA'.1
end
section
variable {e : xenv} {w : Bool} {L : Nat → Nat → Int64} {g : xh} {z : Nat → Nat} {b : Nat → Nat} {n : Nat} {F0 F F' : Nat → Nat → Int32} {S S' : RW} {p q s nu : Nat} {Q : xh → Prop} {Qi : Int32 → xh → Prop} {r : RS}
theorem m_delta {fr least : Nat} (hT : TM F0 b n) (h : MS n F0 F S p) (hfr : fr < 1000) (hle : least < 2) (hQ : ∀ F' y, MX n F0 F' (ddA b fr least S p) → (∀ S' p' v', ddA b fr least S p = .ok (S', p', v') → y = Int32.ofNat v') → Qi y (mem e w F' L g)) : wp_Model_delta z Qi (ad e 100) (Int32.ofNat fr) (Int32.ofNat least) (mem e w F L g) := by
  have hn := hT.2.1
  have hp := h.2.2.1
  unfold wp_Model_delta
  repeat (first | ((with_reducible show ∃ _, _ ∧ _); first | refine s_fI (by rfl) (by rfl) (by rfl) ?_ | refine s_fR (by rfl) (by rfl) (by rfl) ?_ | refine s_pV (by rfl) (by rfl) (Nat.le_of_ble_eq_true rfl) (by rfl) ?_) | ((with_reducible show xcls _ _ _ ∧ _); refine s_cls (by rfl) (by rfl) ?_))
  rw [h.2.1]
  -- the end
  have fin : ∀ d q F2, MS n F0 F2 S q → d < 2097152 → (∀ F' y, MX n F0 F' (if d < least ∨ fr < d then .error (3, p) else .ok (S, q, fr - d)) → (∀ S' p' v', (if d < least ∨ fr < d then Except.error (3, p) else Except.ok (S, q, fr - d) : RS) = .ok (S', p', v') → y = Int32.ofNat v') → Qi y (mem e w F' L g)) → wp_Model_delta_119 z Qi (ad e 100) (Int32.ofNat fr) (Int32.ofNat least) (Int32.ofNat p) (Int32.ofNat d) (mem e w F2 L g) := by
    intro d q F2 h2 hd hq
    unfold wp_Model_delta_119 wp_Model_delta_138 wp_Model_delta_144
    repeat (first | ((with_reducible show ∃ _, _ ∧ _); first | refine s_fI (by rfl) (by rfl) (by rfl) ?_ | refine s_fR (by rfl) (by rfl) (by rfl) ?_ | refine s_pV (by rfl) (by rfl) (Nat.le_of_ble_eq_true rfl) (by rfl) ?_) | ((with_reducible show xcls _ _ _ ∧ _); refine s_cls (by rfl) (by rfl) ?_))
    rw [h2.2.2.2.1.1]
    refine ⟨fun hh => absurd rfl hh, fun _ => ?_⟩
    have bad : (d < least ∨ fr < d) → xcls (mem e w F2 L g) (ad e 100) 12 ∧ wp_Model_wrong z (fun h1 => Qi (Int32.ofNat fr - Int32.ofNat d) h1) (ad e 100) 3 (Int32.ofNat p) (mem e w F2 L g) := by
      intro hb
      rw [if_pos hb] at hq
      repeat (first | ((with_reducible show ∃ _, _ ∧ _); first | refine s_fI (by rfl) (by rfl) (by rfl) ?_ | refine s_fR (by rfl) (by rfl) (by rfl) ?_ | refine s_pV (by rfl) (by rfl) (Nat.le_of_ble_eq_true rfl) (by rfl) ?_) | ((with_reducible show xcls _ _ _ ∧ _); refine s_cls (by rfl) (by rfl) ?_))
      exact m_wrong h2.1 ⟨q, h2.2.2.1, h2.2.1⟩ h2.2.2.2.1.1 (by decide) (fun F3 hE => hq F3 _ hE (fun S' p' v' hh => by cases hh))
    rw [n_lt (by omega) (by omega), n_le (by omega) (by omega)]
    refine ⟨fun h1 => bad (Or.inl h1), fun h1 => ⟨fun h3 => ?_, fun h3 => bad (Or.inr (by omega))⟩⟩
    rw [if_neg (by omega)] at hq
    refine hq F2 _ h2 (fun S' p' v' hh => ?_)
    obtain ⟨_, _, rfl⟩ := ok_inj hh
    exact n_sub h3
  have err : ∀ (x4 : Int32) F2 c q, EM n F0 F2 c q → (∀ F' y, EM n F0 F' c q → Qi y (mem e w F' L g)) → wp_Model_delta_119 z Qi (ad e 100) (Int32.ofNat fr) (Int32.ofNat least) (Int32.ofNat p) x4 (mem e w F2 L g) := by
    intro x4 F2 c q hE hq
    unfold wp_Model_delta_119 wp_Model_delta_144
    repeat (first | ((with_reducible show ∃ _, _ ∧ _); first | refine s_fI (by rfl) (by rfl) (by rfl) ?_ | refine s_fR (by rfl) (by rfl) (by rfl) ?_ | refine s_pV (by rfl) (by rfl) (Nat.le_of_ble_eq_true rfl) (by rfl) ?_) | ((with_reducible show xcls _ _ _ ∧ _); refine s_cls (by rfl) (by rfl) ?_))
    exact ⟨fun _ => hq F2 _ hE, fun hh => absurd hh hE.ne.2⟩
  unfold ddA at hQ
  unfold wp_Model_delta_14
  refine xloop_dn (fun m a => (∃ k d q F2, m = 10 - k ∧ k ≤ 3 ∧ a = (ad e 100, Int32.ofNat fr, Int32.ofNat least, Int32.ofNat p, Int32.ofNat d, 1, Int32.ofNat k, mem e w F2 L g) ∧ MS n F0 F2 S q ∧ d < 128 ^ k ∧ (∀ F' y, MX n F0 F' (bi (dbA b S (3 - k) q k d) (fun S q d => if d < least ∨ fr < d then .error (3, p) else .ok (S, q, fr - d))) → (∀ S' p' v', bi (dbA b S (3 - k) q k d) (fun S q d => if d < least ∨ fr < d then .error (3, p) else .ok (S, q, fr - d)) = .ok (S', p', v') → y = Int32.ofNat v') → Qi y (mem e w F' L g))) ∨ (∃ (x4 x6 : Int32) (F2 : Nat → Nat → Int32), a = (ad e 100, Int32.ofNat fr, Int32.ofNat least, Int32.ofNat p, x4, 0, x6, mem e w F2 L g) ∧ wp_Model_delta_119 z Qi (ad e 100) (Int32.ofNat fr) (Int32.ofNat least) (Int32.ofNat p) x4 (mem e w F2 L g))) ?_ 10 _ (Or.inl ⟨0, 0, p, F, rfl, by decide, rfl, h, by decide, hQ⟩)
  rintro m a cc (⟨k, d, q, F2, rfl, hk3, rfl, h2, hd, hq⟩ | ⟨x4, x6, F2, rfl, hend⟩) hk
  rotate_left
  · unfold wp_Model_delta_14_b; dsimp only
    have e105 : wp_Model_delta_105 z Qi (ad e 100) (Int32.ofNat fr) (Int32.ofNat least) (Int32.ofNat p) x4 0 (mem e w F2 L g) := by
      unfold wp_Model_delta_105
      exact ⟨fun _ => hend, fun hh => absurd rfl hh⟩
    exact ⟨fun _ => e105, fun _ => ⟨fun _ => e105, fun hh => absurd rfl hh⟩⟩
  have hql := h2.2.2.1
  unfold wp_Model_delta_14_b; dsimp only
  refine ⟨fun hc => ?_, fun hc => ?_⟩ <;> rw [show (3 : Int32) = Int32.ofNat 3 from rfl, n_le (by decide) (by omega)] at hc
  · rw [show 3 - k = 0 by omega] at hq
    unfold wp_Model_delta_105
    refine ⟨fun hh => absurd hh (by decide), fun _ => ?_⟩
    repeat (first | ((with_reducible show ∃ _, _ ∧ _); first | refine s_fI (by rfl) (by rfl) (by rfl) ?_ | refine s_fR (by rfl) (by rfl) (by rfl) ?_ | refine s_pV (by rfl) (by rfl) (Nat.le_of_ble_eq_true rfl) (by rfl) ?_) | ((with_reducible show xcls _ _ _ ∧ _); refine s_cls (by rfl) (by rfl) ?_))
    rw [h2.2.1]
    repeat (first | ((with_reducible show ∃ _, _ ∧ _); first | refine s_fI (by rfl) (by rfl) (by rfl) ?_ | refine s_fR (by rfl) (by rfl) (by rfl) ?_ | refine s_pV (by rfl) (by rfl) (Nat.le_of_ble_eq_true rfl) (by rfl) ?_) | ((with_reducible show xcls _ _ _ ∧ _); refine s_cls (by rfl) (by rfl) ?_))
    exact m_wrong h2.1 ⟨q, hql, h2.2.1⟩ h2.2.2.2.1.1 (by decide) (fun F3 hE => err _ F3 1 q hE (fun F' y hE' => hq F' y hE' (fun S' p' v' hh => by cases hh)))
  refine ⟨fun hh => absurd hh (by decide), fun _ => ?_⟩
  rw [show 3 - k = (3 - (k + 1)) + 1 by omega] at hq
  unfold dbA at hq
  repeat (first | ((with_reducible show ∃ _, _ ∧ _); first | refine s_fI (by rfl) (by rfl) (by rfl) ?_ | refine s_fR (by rfl) (by rfl) (by rfl) ?_ | refine s_pV (by rfl) (by rfl) (Nat.le_of_ble_eq_true rfl) (by rfl) ?_) | ((with_reducible show xcls _ _ _ ∧ _); refine s_cls (by rfl) (by rfl) ?_))
  rw [h2.2.2.2.1.1]
  refine ⟨fun hh => absurd rfl hh, fun _ => ?_⟩
  repeat (first | ((with_reducible show ∃ _, _ ∧ _); first | refine s_fI (by rfl) (by rfl) (by rfl) ?_ | refine s_fR (by rfl) (by rfl) (by rfl) ?_ | refine s_pV (by rfl) (by rfl) (Nat.le_of_ble_eq_true rfl) (by rfl) ?_) | ((with_reducible show xcls _ _ _ ∧ _); refine s_cls (by rfl) (by rfl) ?_))
  refine m_here hT h2.1 hql h2.2.1 ?_
  have hb256 := hT.le q
  by_cases hb : b q = 256
  · rw [if_pos hb] at hq
    rw [show iv (b q) = -1 from (iv_none hb256).mpr hb]
    refine ⟨fun hh => absurd hh (by decide), fun _ => ?_⟩
    repeat (first | ((with_reducible show ∃ _, _ ∧ _); first | refine s_fI (by rfl) (by rfl) (by rfl) ?_ | refine s_fR (by rfl) (by rfl) (by rfl) ?_ | refine s_pV (by rfl) (by rfl) (Nat.le_of_ble_eq_true rfl) (by rfl) ?_) | ((with_reducible show xcls _ _ _ ∧ _); refine s_cls (by rfl) (by rfl) ?_))
    rw [h2.2.1]
    repeat (first | ((with_reducible show ∃ _, _ ∧ _); first | refine s_fI (by rfl) (by rfl) (by rfl) ?_ | refine s_fR (by rfl) (by rfl) (by rfl) ?_ | refine s_pV (by rfl) (by rfl) (Nat.le_of_ble_eq_true rfl) (by rfl) ?_) | ((with_reducible show xcls _ _ _ ∧ _); refine s_cls (by rfl) (by rfl) ?_))
    refine m_wrong h2.1 ⟨q, hql, h2.2.1⟩ h2.2.2.2.1.1 (by decide) (fun F3 hE => ?_)
    unfold wp_Model_delta_52 wp_Model_delta_80 wp_Model_delta_99
    rintro v1 rfl
    refine ⟨fun _ => ?_, fun hh => absurd (show (-1 : Int32) ≤ 127 by decide) hh⟩
    repeat (first | ((with_reducible show ∃ _, _ ∧ _); first | refine s_fI (by rfl) (by rfl) (by rfl) ?_ | refine s_fR (by rfl) (by rfl) (by rfl) ?_ | refine s_pV (by rfl) (by rfl) (Nat.le_of_ble_eq_true rfl) (by rfl) ?_) | ((with_reducible show xcls _ _ _ ∧ _); refine s_cls (by rfl) (by rfl) ?_))
    exact ⟨fun _ => hk 0 _ (by omega) (Or.inr ⟨_, _, F3, rfl, err _ F3 1 q hE (fun F' y hE' => hq F' y hE' (fun S' p' v' hh => by cases hh))⟩), fun hh => absurd hh hE.ne.2⟩
  rw [if_neg hb] at hq
  have hqn := hT.lt hb
  rw [iv_nat hb]
  refine ⟨fun _ => ?_, fun hh => absurd (show (0 : Int32) ≤ Int32.ofNat (b q) by rw [show (0 : Int32) = Int32.ofNat 0 from rfl, n_le (by decide) (by omega)]; exact Nat.zero_le _) hh⟩
  unfold wp_Model_delta_52 wp_Model_delta_80 wp_Model_delta_99
  rw [n_127, show (7 : Int32) * Int32.ofNat k = Int32.ofNat (7 * k) from n_mul 7 k, n_shl (by omega), n_add, ← p128]
  rintro v1 rfl
  have hlt : d + b q % 128 * 128 ^ k < 128 ^ (k + 1) := by
    have h127 : b q % 128 ≤ 127 := by omega
    have := Nat.mul_le_mul_right (128 ^ k) h127
    rw [Nat.pow_succ]
    omega
  have h3 : MS n F0 (up F2 100 6 (Int32.ofNat (q + 1))) S (q + 1) := h2.move (fun k hk => up_k hk) (fun j h1 h2 => by rw [up_i, if_neg h1]) (by rw [up_i, if_pos rfl]) (by omega)
  rw [show (127 : Int32) = Int32.ofNat 127 from rfl, n_le (by omega) (by decide)]
  refine ⟨fun hsm => ?_, fun hsm => ?_⟩
  · rw [if_pos (by omega), bi_ok] at hq
    repeat (first | ((with_reducible show ∃ _, _ ∧ _); first | refine s_fI (by rfl) (by rfl) (by rfl) ?_ | refine s_fR (by rfl) (by rfl) (by rfl) ?_ | refine s_pV (by rfl) (by rfl) (Nat.le_of_ble_eq_true rfl) (by rfl) ?_) | ((with_reducible show xcls _ _ _ ∧ _); refine s_cls (by rfl) (by rfl) ?_))
    rw [h2.2.2.2.1.1]
    refine ⟨fun hh => absurd rfl hh, fun _ => ?_⟩
    repeat (first | ((with_reducible show ∃ _, _ ∧ _); first | refine s_fI (by rfl) (by rfl) (by rfl) ?_ | refine s_fR (by rfl) (by rfl) (by rfl) ?_ | refine s_pV (by rfl) (by rfl) (Nat.le_of_ble_eq_true rfl) (by rfl) ?_) | ((with_reducible show xcls _ _ _ ∧ _); refine s_cls (by rfl) (by rfl) ?_))
    rw [h2.2.1, n_inc q]
    have hpw : 128 ^ (k + 1) ≤ 128 ^ 3 := Nat.pow_le_pow_right (by decide) (by omega)
    exact hk 0 _ (by omega) (Or.inr ⟨_, _, _, rfl, fin _ (q + 1) _ h3 (by omega) hq⟩)
  · rw [if_neg (by omega)] at hq
    repeat (first | ((with_reducible show ∃ _, _ ∧ _); first | refine s_fI (by rfl) (by rfl) (by rfl) ?_ | refine s_fR (by rfl) (by rfl) (by rfl) ?_ | refine s_pV (by rfl) (by rfl) (Nat.le_of_ble_eq_true rfl) (by rfl) ?_) | ((with_reducible show xcls _ _ _ ∧ _); refine s_cls (by rfl) (by rfl) ?_))
    rw [h2.2.2.2.1.1]
    refine ⟨fun hh => absurd rfl hh, fun _ => ?_⟩
    repeat (first | ((with_reducible show ∃ _, _ ∧ _); first | refine s_fI (by rfl) (by rfl) (by rfl) ?_ | refine s_fR (by rfl) (by rfl) (by rfl) ?_ | refine s_pV (by rfl) (by rfl) (Nat.le_of_ble_eq_true rfl) (by rfl) ?_) | ((with_reducible show xcls _ _ _ ∧ _); refine s_cls (by rfl) (by rfl) ?_))
    rw [h2.2.1, n_inc q]
    exact hk (10 - (k + 1)) _ (by omega) (Or.inl ⟨k + 1, _, q + 1, _, rfl, by omega, by rw [n_inc], h3, hlt, hq⟩)
end
