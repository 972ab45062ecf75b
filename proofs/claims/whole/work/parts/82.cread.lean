/-! The class reads: bytes, numbers, literals. -/
def fC (F0 F : Nat → Nat → Int32) : Prop := ∀ k, k < 40 ∨ (50 < k ∧ k < 64) ∨ 72 < k → F k = F0 k
def CS (n : Nat) (F0 F : Nat → Nat → Int32) (S : RW) (p : Nat) : Prop := fC F0 F ∧ F 64 8 = Int32.ofNat p ∧ p ≤ n ∧ (F 64 11 = 0 ∧ F 64 12 = -1) ∧ RE lyC VC F S
def rC (e : xenv) (w : Bool) (L : Nat → Nat → Int64) (g : xh) (n : Nat) (F0 : Nat → Nat → Int32) (Q : Int32 → xh → Prop) (r : RS) : Prop := match r with
  | .error (c, q) => ∀ F', fC F0 F' → F' 64 11 = Int32.ofNat c → F' 64 12 = Int32.ofNat q → Q 0 (mem e w F' L g)
  | .ok (S, p, _) => ∀ F', CS n F0 F' S p → Q 1 (mem e w F' L g)
def rN (e : xenv) (w : Bool) (L : Nat → Nat → Int64) (g : xh) (n : Nat) (F0 : Nat → Nat → Int32) (s : Nat) (Q : Int32 → xh → Prop) (r : RS) : Prop := match r with
  | .error (c, q) => ∀ F', fC F0 F' → F' 64 11 = Int32.ofNat c → F' 64 12 = Int32.ofNat q → Q 0 (mem e w F' L g)
  | .ok (S, p, v) => ∀ F', CS n F0 F' S p → F' 64 9 = Int32.ofNat v → F' 64 10 = Int32.ofNat s → Q 1 (mem e w F' L g)
section
variable {e : xenv} {w : Bool} {L : Nat → Nat → Int64} {g : xh} {z : Nat → Nat} {b : Nat → Nat} {n : Nat} {F0 F F' : Nat → Nat → Int32} {S : RW} {p q s : Nat} {Q Q' : Int32 → xh → Prop} {r : RS} {f : RW → Nat → Nat → RS}
theorem rC_then (hQ : rC e w L g n F0 Q (bi r f)) (h0 : ∀ h, Q 0 h → Q' 0 h) (h1 : ∀ S' p' v, r = .ok (S', p', v) → rC e w L g n F0 Q (f S' p' v) → ∀ F', CS n F0 F' S' p' → Q' 1 (mem e w F' L g)) : rC e w L g n F0 Q' r := by
  match r, hQ, h1 with
  | .error (c, q), hQ, h1 => exact fun F' a1 a2 a3 => h0 _ (hQ F' a1 a2 a3)
  | .ok (S', p', v), hQ, h1 => exact fun F' a1 => h1 S' p' v rfl hQ F' a1
theorem rN_then (hQ : rC e w L g n F0 Q (bi r f)) (h0 : ∀ h, Q 0 h → Q' 0 h) (h1 : ∀ S' p' v, r = .ok (S', p', v) → rC e w L g n F0 Q (f S' p' v) → ∀ F', CS n F0 F' S' p' → F' 64 9 = Int32.ofNat v → F' 64 10 = Int32.ofNat s → Q' 1 (mem e w F' L g)) : rN e w L g n F0 s Q' r := by
  match r, hQ, h1 with
  | .error (c, q), hQ, h1 => exact fun F' a1 a2 a3 => h0 _ (hQ F' a1 a2 a3)
  | .ok (S', p', v), hQ, h1 => exact fun F' a1 a2 a3 => h1 S' p' v rfl hQ F' a1 a2 a3
theorem rNN_then (hQ : rN e w L g n F0 s Q (bi r f)) (h0 : ∀ h, Q 0 h → Q' 0 h) (h1 : ∀ S' p' v, r = .ok (S', p', v) → rN e w L g n F0 s Q (f S' p' v) → ∀ F', CS n F0 F' S' p' → F' 64 9 = Int32.ofNat v → F' 64 10 = Int32.ofNat s → Q' 1 (mem e w F' L g)) : rN e w L g n F0 s Q' r := by
  match r, hQ, h1 with
  | .error (c, q), hQ, h1 => exact fun F' a1 a2 a3 => h0 _ (hQ F' a1 a2 a3)
  | .ok (S', p', v), hQ, h1 => exact fun F' a1 a2 a3 => h1 S' p' v rfl hQ F' a1 a2 a3
theorem rC_imp (hQ : rC e w L g n F0 Q r) (h0 : ∀ h, Q 0 h → Q' 0 h) (h1 : ∀ h, Q 1 h → Q' 1 h) : rC e w L g n F0 Q' r := by
  match r, hQ with
  | .error (c, q), hQ => exact fun F' a1 a2 a3 => h0 _ (hQ F' a1 a2 a3)
  | .ok (S', p', v), hQ => exact fun F' a1 => h1 _ (hQ F' a1)
theorem CS.tp (hT : TP F0 b n) (h : CS n F0 F S p) : TP F b n := by
  unfold TP; rw [h.1 61 (by decide), h.1 63 (by decide)]; exact hT
theorem CS.move (h : CS n F0 F S p) (h1 : ∀ k, k ≠ 64 → F' k = F k) (h2 : ∀ j, j < 8 ∨ 10 < j → F' 64 j = F 64 j) (h3 : F' 64 8 = Int32.ofNat q) (h4 : q ≤ n) : CS n F0 F' S q := by
  refine ⟨fun k hk => by rw [h1 k (by omega)]; exact h.1 k hk, h3, h4, by rw [h2 11 (by decide), h2 12 (by decide)]; exact h.2.2.2.1, RE.kept h.2.2.2.2 (fun r j hr hj => ?_)⟩
  by_cases e0 : (lyC r).1 = 64
  · rcases lyC_own r hr with hh | hh | hh | hh
    · omega
    · omega
    · omega
    · rw [e0, h2 _ (by omega)]
  · rw [h1 _ e0]
theorem CS.put (h : CS n F0 F S p) {r R o zz i x c : Nat} {y : Int32} (hr : r < 100) (hl : lyC r = (R, o, zz)) (hi : i < zz) (hc : c = o + i) (hy : y = VC r x) : CS n F0 (up F R c y) (st S r i x) p := by
  have hown := lyC_own r hr
  rw [hl] at hown
  dsimp only at hown
  have h64 : ∀ j, 8 ≤ j → up F R c y 64 j = F 64 j := fun j hj => by
    by_cases e0 : R = 64
    · subst e0; rw [up_i, if_neg (by omega)]
    · rw [up_k (fun e1 => e0 e1.symm)]
  refine ⟨fun k hk => by rw [up_k (by omega)]; exact h.1 k hk, by rw [h64 8 (by decide)]; exact h.2.1, h.2.2.1, by rw [h64 11 (by decide), h64 12 (by decide)]; exact h.2.2.2.1, RE.put lyC_dis h.2.2.2.2 hr hl hi hc hy⟩
theorem CS.skip (h : CS n F0 F S p) {r i x : Nat} (hr : r < 100) (hl : (lyC r).2.2 = 0) : CS n F0 F (st S r i x) p := ⟨h.1, h.2.1, h.2.2.1, h.2.2.2.1, RE.skip h.2.2.2.2 hr hl⟩
theorem CS.at (h : CS n F0 F S p) {r R o zz j i : Nat} (hr : r < 100) (hl : lyC r = (R, o, zz)) (hj : j < zz) (hm : S (r + 100) j = 1) (hi : i = o + j) : F R i = VC r (S r j) := RE.at h.2.2.2.2 hr hl hj hm hi
theorem c_fail {c : Nat} (hf : fC F0 F) (h : ∀ F', fC F0 F' → F' 64 11 = Int32.ofNat c → F' 64 12 = Int32.ofNat q → Q 0 (mem e w F' L g)) : wp_Reader_fail z Q (ad e 64) (Int32.ofNat c) (Int32.ofNat q) (mem e w F L g) := by
  unfold wp_Reader_fail
  repeat (first | ((with_reducible show ∃ _, _ ∧ _); first | refine s_fI (by rfl) (by rfl) (by rfl) ?_ | refine s_fR (by rfl) (by rfl) (by rfl) ?_ | refine s_pV (by rfl) (by rfl) (Nat.le_of_ble_eq_true rfl) (by rfl) ?_) | ((with_reducible show xcls _ _ _ ∧ _); refine s_cls (by rfl) (by rfl) ?_))
  refine h _ (fun k hk => by rw [up_k (by omega), up_k (by omega)]; exact hf k hk) ?_ ?_
  · rw [up_i, if_neg (by decide), up_i, if_pos rfl]
  · rw [up_i, if_pos rfl]
theorem c_pass {c : Nat} (hT : TP F0 b n) (h : CS n F0 F S p) (hc : c < 256) (hQ : rC e w L g n F0 Q (psA b c S p)) : wp_Reader_pass z Q (ad e 64) (Int32.ofNat c) (mem e w F L g) := by
  have hn := hT.2.1
  have hp := h.2.2.1
  unfold wp_Reader_pass
  repeat (first | ((with_reducible show ∃ _, _ ∧ _); first | refine s_fI (by rfl) (by rfl) (by rfl) ?_ | refine s_fR (by rfl) (by rfl) (by rfl) ?_ | refine s_pV (by rfl) (by rfl) (Nat.le_of_ble_eq_true rfl) (by rfl) ?_) | ((with_reducible show xcls _ _ _ ∧ _); refine s_cls (by rfl) (by rfl) ?_))
  rw [h.2.1]
  repeat (first | ((with_reducible show ∃ _, _ ∧ _); first | refine s_fI (by rfl) (by rfl) (by rfl) ?_ | refine s_fR (by rfl) (by rfl) (by rfl) ?_ | refine s_pV (by rfl) (by rfl) (Nat.le_of_ble_eq_true rfl) (by rfl) ?_) | ((with_reducible show xcls _ _ _ ∧ _); refine s_cls (by rfl) (by rfl) ?_))
  refine c_at (h.tp hT) (by omega) ?_
  rw [iv_eq (hT.le p) hc]
  unfold psA at hQ
  refine ⟨fun he => ?_, fun he => ?_⟩
  · rw [if_pos he] at hQ
    repeat (first | ((with_reducible show ∃ _, _ ∧ _); first | refine s_fI (by rfl) (by rfl) (by rfl) ?_ | refine s_fR (by rfl) (by rfl) (by rfl) ?_ | refine s_pV (by rfl) (by rfl) (Nat.le_of_ble_eq_true rfl) (by rfl) ?_) | ((with_reducible show xcls _ _ _ ∧ _); refine s_cls (by rfl) (by rfl) ?_))
    rw [h.2.1, n_inc]
    have := hT.lt (i := p) (by omega)
    exact hQ _ (h.move (fun k hk => up_k hk) (fun j hj => by rw [up_i, if_neg (by omega)]) (by rw [up_i, if_pos rfl]) (by omega))
  · rw [if_neg he] at hQ
    repeat (first | ((with_reducible show ∃ _, _ ∧ _); first | refine s_fI (by rfl) (by rfl) (by rfl) ?_ | refine s_fR (by rfl) (by rfl) (by rfl) ?_ | refine s_pV (by rfl) (by rfl) (Nat.le_of_ble_eq_true rfl) (by rfl) ?_) | ((with_reducible show xcls _ _ _ ∧ _); refine s_cls (by rfl) (by rfl) ?_))
    rw [h.2.1]
    repeat (first | ((with_reducible show ∃ _, _ ∧ _); first | refine s_fI (by rfl) (by rfl) (by rfl) ?_ | refine s_fR (by rfl) (by rfl) (by rfl) ?_ | refine s_pV (by rfl) (by rfl) (Nat.le_of_ble_eq_true rfl) (by rfl) ?_) | ((with_reducible show xcls _ _ _ ∧ _); refine s_cls (by rfl) (by rfl) ?_))
    exact c_fail h.1 hQ
theorem c_isDigit {x : Nat} (hx : x ≤ 256) {hp : xh} (h1 : dg x → Q 1 hp) (h0 : ¬ dg x → Q 0 hp) : wp_Reader_isDigit z Q (iv x) hp := by
  have := iv_dg hx
  unfold wp_Reader_isDigit
  exact ⟨fun h => h0 (fun hd => (this.mpr hd).1 h), fun h => ⟨fun h' => h0 (fun hd => (this.mpr hd).2 h'), fun h' => h1 (this.mp ⟨h, h'⟩)⟩⟩
theorem nr_dig {v x : Nat} (hx : dg x) : (10 : Int32) * Int32.ofNat v + iv x - 48 = Int32.ofNat (10 * v + x - 48) := by
  have h1 := hx.1
  have h2 := hx.2
  rw [iv_nat (by omega), show (10 : Int32) = Int32.ofNat 10 from rfl, n_mul, n_add, show (48 : Int32) = Int32.ofNat 48 from rfl, n_sub (by omega)]
theorem c_number (hT : TP F0 b n) (h : CS n F0 F S p) (hQ : rN e w L g n F0 p Q (nuA b S p)) : wp_Reader_readNumber z Q (ad e 64) (mem e w F L g) := by
  have hn := hT.2.1
  have hp := h.2.2.1
  unfold wp_Reader_readNumber
  repeat (first | ((with_reducible show ∃ _, _ ∧ _); first | refine s_fI (by rfl) (by rfl) (by rfl) ?_ | refine s_fR (by rfl) (by rfl) (by rfl) ?_ | refine s_pV (by rfl) (by rfl) (Nat.le_of_ble_eq_true rfl) (by rfl) ?_) | ((with_reducible show xcls _ _ _ ∧ _); refine s_cls (by rfl) (by rfl) ?_))
  rw [h.2.1]
  repeat (first | ((with_reducible show ∃ _, _ ∧ _); first | refine s_fI (by rfl) (by rfl) (by rfl) ?_ | refine s_fR (by rfl) (by rfl) (by rfl) ?_ | refine s_pV (by rfl) (by rfl) (Nat.le_of_ble_eq_true rfl) (by rfl) ?_) | ((with_reducible show xcls _ _ _ ∧ _); refine s_cls (by rfl) (by rfl) ?_))
  rw [up_i, if_neg (by decide), up_i, if_neg (by decide), h.2.1]
  generalize hF1 : up (up F 64 10 (Int32.ofNat p)) 64 9 0 = F1
  have h1 : CS n F0 F1 S p := h.move (fun k hk => by rw [← hF1, up_k hk, up_k hk]) (fun j hj => by rw [← hF1, up_i, if_neg (by omega), up_i, if_neg (by omega)]) (by rw [← hF1, up_i, if_neg (by decide), up_i, if_neg (by decide)]; exact h.2.1) hp
  have h9 : F1 64 9 = Int32.ofNat 0 := by rw [← hF1, up_i, if_pos rfl]; rfl
  have h10 : F1 64 10 = Int32.ofNat p := by rw [← hF1, up_i, if_neg (by decide), up_i, if_pos rfl]
  repeat (first | ((with_reducible show ∃ _, _ ∧ _); first | refine s_fI (by rfl) (by rfl) (by rfl) ?_ | refine s_fR (by rfl) (by rfl) (by rfl) ?_ | refine s_pV (by rfl) (by rfl) (Nat.le_of_ble_eq_true rfl) (by rfl) ?_) | ((with_reducible show xcls _ _ _ ∧ _); refine s_cls (by rfl) (by rfl) ?_))
  refine c_at (h1.tp hT) (by omega) ?_
  unfold nuA at hQ
  refine c_isDigit (hT.le p) (fun hd => ⟨fun _ => ?_, fun hh => absurd hh (by decide)⟩) (fun hd => ⟨fun hh => absurd rfl hh, fun _ => ?_⟩)
  rotate_left
  · rw [if_neg hd] at hQ
    repeat (first | ((with_reducible show ∃ _, _ ∧ _); first | refine s_fI (by rfl) (by rfl) (by rfl) ?_ | refine s_fR (by rfl) (by rfl) (by rfl) ?_ | refine s_pV (by rfl) (by rfl) (Nat.le_of_ble_eq_true rfl) (by rfl) ?_) | ((with_reducible show xcls _ _ _ ∧ _); refine s_cls (by rfl) (by rfl) ?_))
    rw [h1.2.1]
    repeat (first | ((with_reducible show ∃ _, _ ∧ _); first | refine s_fI (by rfl) (by rfl) (by rfl) ?_ | refine s_fR (by rfl) (by rfl) (by rfl) ?_ | refine s_pV (by rfl) (by rfl) (Nat.le_of_ble_eq_true rfl) (by rfl) ?_) | ((with_reducible show xcls _ _ _ ∧ _); refine s_cls (by rfl) (by rfl) ?_))
    exact c_fail h1.1 hQ
  rw [if_pos hd] at hQ
  unfold wp_Reader_readNumber_44
  refine xloop_dn (fun m a => ∃ k v q F2, m = 5 - k ∧ k ≤ 4 ∧ a = (ad e 64, iv (b q), Int32.ofNat k, mem e w F2 L g) ∧ CS n F0 F2 S q ∧ F2 64 9 = Int32.ofNat v ∧ v < 10 ^ k ∧ F2 64 10 = Int32.ofNat p ∧ (v = 0 → k ≤ 1) ∧ rN e w L g n F0 p Q (nrA b S (5 - k) q k v)) ?_ 5 _ ⟨0, 0, p, F1, rfl, by decide, rfl, h1, h9, by decide, h10, fun _ => by decide, hQ⟩
  rintro m a cc ⟨k, v, q, F2, rfl, hk4, rfl, h2, g9, hv, g10, hk0, hQ2⟩ hk
  have hq := h2.2.2.1
  have hv5 : v < 10000 := Nat.lt_of_lt_of_le hv (show 10 ^ k ≤ 10 ^ 4 from Nat.pow_le_pow_right (by decide) hk4)
  obtain ⟨mm, hmm⟩ : ∃ mm, 5 - k = mm + 1 := ⟨4 - k, by omega⟩
  rw [hmm] at hQ2
  unfold nrA at hQ2
  unfold wp_Reader_readNumber_44_b; dsimp only
  -- the end of the loop
  have stop : (dg (b q) → k = 4 ∨ (k = 1 ∧ v = 0)) → wp_Reader_readNumber_111 z Q (ad e 64) (iv (b q)) (mem e w F2 L g) := by
    intro hs
    unfold wp_Reader_readNumber_111 wp_Reader_readNumber_130
    refine c_isDigit (hT.le q) (fun hd => ⟨fun hh => absurd hh (by decide), fun _ => ?_⟩) (fun hd => ⟨fun _ => ?_, fun hh => absurd rfl hh⟩)
    · rw [if_pos hd, if_pos (hs hd)] at hQ2
      repeat (first | ((with_reducible show ∃ _, _ ∧ _); first | refine s_fI (by rfl) (by rfl) (by rfl) ?_ | refine s_fR (by rfl) (by rfl) (by rfl) ?_ | refine s_pV (by rfl) (by rfl) (Nat.le_of_ble_eq_true rfl) (by rfl) ?_) | ((with_reducible show xcls _ _ _ ∧ _); refine s_cls (by rfl) (by rfl) ?_))
      rw [h2.2.1]
      repeat (first | ((with_reducible show ∃ _, _ ∧ _); first | refine s_fI (by rfl) (by rfl) (by rfl) ?_ | refine s_fR (by rfl) (by rfl) (by rfl) ?_ | refine s_pV (by rfl) (by rfl) (Nat.le_of_ble_eq_true rfl) (by rfl) ?_) | ((with_reducible show xcls _ _ _ ∧ _); refine s_cls (by rfl) (by rfl) ?_))
      exact c_fail h2.1 (fun F' a1 a2 a3 => ⟨fun _ => hQ2 F' a1 a2 a3, fun hh => absurd rfl hh⟩)
    · rw [if_neg hd] at hQ2
      exact hQ2 F2 h2 g9 g10
  have go : dg (b q) → ¬ (k = 4 ∨ (k = 1 ∧ v = 0)) → wp_Reader_readNumber_67 z Q cc (ad e 64) (iv (b q)) (Int32.ofNat k) (mem e w F2 L g) := by
    intro hd hs
    rw [if_pos hd, if_neg hs] at hQ2
    have hql := hT.lt (i := q) (by have := hd.2; omega)
    unfold wp_Reader_readNumber_67
    repeat (first | ((with_reducible show ∃ _, _ ∧ _); first | refine s_fI (by rfl) (by rfl) (by rfl) ?_ | refine s_fR (by rfl) (by rfl) (by rfl) ?_ | refine s_pV (by rfl) (by rfl) (Nat.le_of_ble_eq_true rfl) (by rfl) ?_) | ((with_reducible show xcls _ _ _ ∧ _); refine s_cls (by rfl) (by rfl) ?_))
    rw [g9, nr_dig hd]
    repeat (first | ((with_reducible show ∃ _, _ ∧ _); first | refine s_fI (by rfl) (by rfl) (by rfl) ?_ | refine s_fR (by rfl) (by rfl) (by rfl) ?_ | refine s_pV (by rfl) (by rfl) (Nat.le_of_ble_eq_true rfl) (by rfl) ?_) | ((with_reducible show xcls _ _ _ ∧ _); refine s_cls (by rfl) (by rfl) ?_))
    rw [up_i, if_pos rfl, up_i, if_neg (by decide), h2.2.1, n_inc q]
    generalize hF3 : up (up F2 64 9 (Int32.ofNat (10 * v + b q - 48))) 64 8 (Int32.ofNat (q + 1)) = F3
    have h3 : CS n F0 F3 S (q + 1) := h2.move (fun k hk => by rw [← hF3, up_k hk, up_k hk]) (fun j hj => by rw [← hF3, up_i, if_neg (by omega), up_i, if_neg (by omega)]) (by rw [← hF3, up_i, if_pos rfl]) (by omega)
    repeat (first | ((with_reducible show ∃ _, _ ∧ _); first | refine s_fI (by rfl) (by rfl) (by rfl) ?_ | refine s_fR (by rfl) (by rfl) (by rfl) ?_ | refine s_pV (by rfl) (by rfl) (Nat.le_of_ble_eq_true rfl) (by rfl) ?_) | ((with_reducible show xcls _ _ _ ∧ _); refine s_cls (by rfl) (by rfl) ?_))
    refine c_at (h3.tp hT) (by omega) ?_
    have hpow : 10 ^ (k + 1) = 10 * 10 ^ k := by rw [Nat.pow_succ, Nat.mul_comm]
    have hd2 := hd.2
    refine hk (5 - (k + 1)) _ (by omega) ⟨k + 1, 10 * v + b q - 48, q + 1, F3, rfl, by omega, by rw [n_inc], h3, by rw [← hF3, up_i, if_neg (by decide), up_i, if_pos rfl], by omega, by rw [← hF3, up_i, if_neg (by decide), up_i, if_neg (by decide)]; exact g10, fun hh => by have := hd.1; omega, by rw [show 5 - (k + 1) = mm by omega]; exact hQ2⟩
  refine ⟨fun hc => stop (fun _ => Or.inl ?_), fun hc => ?_⟩
  · rw [n_lit, n_le (by decide) (by omega)] at hc
    have : 4 ≤ k := hc
    omega
  · rw [n_lit, n_le (by decide) (by omega)] at hc
    have hc : ¬ 4 ≤ k := hc
    refine c_isDigit (hT.le q) (fun hd => ⟨fun hh => absurd hh (by decide), fun _ => ⟨fun hx => go hd ?_, fun hx => ?_⟩⟩) (fun hd => ⟨fun _ => stop (fun hh => absurd hh hd), fun hh => absurd rfl hh⟩)
    · have := n_inj (b := 0) (by omega) (by decide) hx
      omega
    · have hx0 : k ≠ 0 := fun ee => hx (by rw [ee]; rfl)
      repeat (first | ((with_reducible show ∃ _, _ ∧ _); first | refine s_fI (by rfl) (by rfl) (by rfl) ?_ | refine s_fR (by rfl) (by rfl) (by rfl) ?_ | refine s_pV (by rfl) (by rfl) (Nat.le_of_ble_eq_true rfl) (by rfl) ?_) | ((with_reducible show xcls _ _ _ ∧ _); refine s_cls (by rfl) (by rfl) ?_))
      rw [g9]
      refine ⟨fun hv0 => stop (fun _ => Or.inr ?_), fun hv0 => go hd ?_⟩
      · rw [n_lit, n_le (by omega) (by decide)] at hv0
        have hv0 : v ≤ 0 := hv0
        -- v = 0 after one digit only
        by_cases e1 : k = 1
        · exact ⟨e1, by omega⟩
        · exact absurd (hk0 (by omega)) (by omega)
      · rw [n_lit, n_le (by omega) (by decide)] at hv0
        have hv0 : ¬ v ≤ 0 := hv0
        omega
end
section
variable {e : xenv} {w : Bool} {L : Nat → Nat → Int64} {g : xh} {z : Nat → Nat} {b : Nat → Nat} {n : Nat} {F0 F F' : Nat → Nat → Int32} {S : RW} {p q s : Nat} {Q Q' : Int32 → xh → Prop} {r : RS} {f : RW → Nat → Nat → RS}
theorem ok_inj {S S' : RW} {p p' v v' : Nat} (h : (Except.ok (S, p, v) : RS) = .ok (S', p', v')) : S = S' ∧ p = p' ∧ v = v' := by
  injection h with h; injection h with h1 h2; injection h2 with h2 h3
  exact ⟨h1, h2, h3⟩
theorem nrA_ok {S' : RW} {v' q' : Nat} : ∀ m p k v, v < 10 ^ k → k + m = 4 → nrA b S (m + 1) p k v = .ok (S', q', v') → S' = S ∧ v' < 10000 ∧ p ≤ q'
  | m, p, k, v, hv, hk, h => by
    unfold nrA at h
    by_cases hd : dg (b p)
    · rw [if_pos hd] at h
      by_cases hs : k = 4 ∨ (k = 1 ∧ v = 0)
      · rw [if_pos hs] at h; cases h
      · rw [if_neg hs] at h
        obtain ⟨m', rfl⟩ : ∃ m', m = m' + 1 := ⟨m - 1, by omega⟩
        have hpow : 10 ^ (k + 1) = 10 * 10 ^ k := by rw [Nat.pow_succ, Nat.mul_comm]
        have hd2 := hd.2
        obtain ⟨h1, h2, h3⟩ := nrA_ok m' (p + 1) (k + 1) (10 * v + b p - 48) (by omega) (by omega) h
        exact ⟨h1, h2, by omega⟩
    · rw [if_neg hd] at h
      obtain ⟨h1, h2, h3⟩ := ok_inj h
      have : 10 ^ k ≤ 10 ^ 4 := Nat.pow_le_pow_right (by decide) (by omega)
      exact ⟨h1.symm, by omega, by omega⟩
theorem nuA_ok {S' : RW} {v' q' : Nat} (h : nuA b S p = .ok (S', q', v')) : S' = S ∧ v' < 10000 ∧ p ≤ q' := by
  unfold nuA at h
  by_cases hd : dg (b p)
  · rw [if_pos hd] at h
    exact nrA_ok 4 p 0 0 (by decide) (by decide) h
  · rw [if_neg hd] at h; cases h
theorem bi_split {r : RS} {f : RW → Nat → Nat → RS} {S' : RW} {q' v' : Nat} (h : bi r f = .ok (S', q', v')) : ∃ S1 p1 v1, r = .ok (S1, p1, v1) ∧ f S1 p1 v1 = .ok (S', q', v') := by
  match r, h with
  | .error e, h => cases h
  | .ok (S1, p1, v1), h => exact ⟨S1, p1, v1, rfl, h⟩
theorem liA_ok {S' : RW} {v' q' : Nat} (h : liA b S p = .ok (S', q', v')) : S' = S ∧ v' < 10000 ∧ p ≤ q' ∧ v' ≤ 2 * S 0 0 + 1 := by
  obtain ⟨S1, p1, v1, h1, h2⟩ := bi_split h
  obtain ⟨rfl, h4, h5⟩ := nuA_ok h1
  by_cases hh : v1 ≤ 2 * S1 0 0 + 1
  · rw [if_pos hh] at h2
    obtain ⟨rfl, rfl, rfl⟩ := ok_inj h2
    exact ⟨rfl, h4, h5, hh⟩
  · rw [if_neg hh] at h2; cases h2
/-- the sizes are known -/
def SZ (S : RW) : Prop := fit S ∧ (∀ j, j < 5 → S 100 j = 1 ∧ S 131 j = 1 ∧ S 31 j = S 0 j) ∧ (S 130 0 = 1 ∧ S 30 0 ≤ 1) ∧ S 132 0 = 1
theorem SZ_st (h : SZ S) {r i x : Nat} (hr : r ≠ 0 ∧ r ≠ 31 ∧ r ≠ 30 ∧ r < 100) : SZ (st S r i x) := by
  have e0 : ∀ r', r' ≠ r → r' ≠ r + 100 → st S r i x r' = S r' := fun r' h1 h2 => st_o h1 h2
  unfold SZ fit
  rw [e0 0 (by omega) (by omega), e0 30 (by omega) (by omega), e0 31 (by omega) (by omega), e0 100 (by omega) (by omega), e0 131 (by omega) (by omega), e0 130 (by omega) (by omega)]
  refine ⟨h.1, h.2.1, h.2.2.1, ?_⟩
  by_cases e1 : r = 32
  · subst e1
    rw [show (132 : Nat) = 32 + 100 from rfl, st_m]
    by_cases e2 : 0 = i
    · rw [if_pos e2]
    · rw [if_neg e2]; exact h.2.2.2
  · rw [e0 132 (by omega) (by omega)]; exact h.2.2.2
theorem CS.size (h : CS n F0 F S p) (hs : SZ S) {j : Nat} (hj : j < 5) : F 40 (1 + j) = Int32.ofNat (S 0 j) := by
  rw [h.at (r := 31) (by decide) rfl hj (hs.2.1 j hj).2.1 rfl, (hs.2.1 j hj).2.2]; rfl
theorem c_literal {Q1 : xh → Prop} (hT : TP F0 b n) (h : CS n F0 F S p) (hs : SZ S) (hQ : rN e w L g n F0 p (fun y h => (y = 0 → Q1 h) ∧ Q y h) (liA b S p)) : wp_Reader_readNumber z (fun v2 h1 => (v2 = 0 → Q1 h1) ∧ (¬ v2 = 0 → (xcls h1 (ad e 64) 5 ∧ wp_Reader_isInRange z Q (ad e 64) h1))) (ad e 64) (mem e w F L g) := by
  refine c_number hT h (rNN_then hQ (fun h hq => ⟨fun _ => hq.1 rfl, fun hh => absurd rfl hh⟩) (fun S' p' v hr hq F' h' h9 h10 => ?_))
  obtain ⟨rfl, hv, _⟩ := nuA_ok hr
  refine ⟨fun hh => absurd hh (by decide), fun _ => ?_⟩
  have hM := hs.1.1
  repeat (first | ((with_reducible show ∃ _, _ ∧ _); first | refine s_fI (by rfl) (by rfl) (by rfl) ?_ | refine s_fR (by rfl) (by rfl) (by rfl) ?_ | refine s_pV (by rfl) (by rfl) (Nat.le_of_ble_eq_true rfl) (by rfl) ?_) | ((with_reducible show xcls _ _ _ ∧ _); refine s_cls (by rfl) (by rfl) ?_))
  unfold wp_Reader_isInRange wp_Reader_isInRange_30
  repeat (first | ((with_reducible show ∃ _, _ ∧ _); first | refine s_fI (by rfl) (by rfl) (by rfl) ?_ | refine s_fR (by rfl) (by rfl) (by rfl) ?_ | refine s_pV (by rfl) (by rfl) (Nat.le_of_ble_eq_true rfl) (by rfl) ?_) | ((with_reducible show xcls _ _ _ ∧ _); refine s_cls (by rfl) (by rfl) ?_))
  rw [h9, show F' 40 1 = Int32.ofNat (S' 0 0) from h'.size hs (by decide : 0 < 5), show (2 : Int32) * Int32.ofNat (S' 0 0) + 1 = Int32.ofNat (2 * S' 0 0 + 1) by rw [show (2 : Int32) = Int32.ofNat 2 from rfl, n_mul, n_inc]]
  refine ⟨fun hc => ?_, fun hc => ?_⟩ <;> rw [n_le (by omega) (by omega)] at hc
  · rw [if_pos hc] at hq
    exact (hq F' h' h9 h10).2
  · rw [if_neg hc] at hq
    repeat (first | ((with_reducible show ∃ _, _ ∧ _); first | refine s_fI (by rfl) (by rfl) (by rfl) ?_ | refine s_fR (by rfl) (by rfl) (by rfl) ?_ | refine s_pV (by rfl) (by rfl) (Nat.le_of_ble_eq_true rfl) (by rfl) ?_) | ((with_reducible show xcls _ _ _ ∧ _); refine s_cls (by rfl) (by rfl) ?_))
    rw [h10]
    repeat (first | ((with_reducible show ∃ _, _ ∧ _); first | refine s_fI (by rfl) (by rfl) (by rfl) ?_ | refine s_fR (by rfl) (by rfl) (by rfl) ?_ | refine s_pV (by rfl) (by rfl) (Nat.le_of_ble_eq_true rfl) (by rfl) ?_) | ((with_reducible show xcls _ _ _ ∧ _); refine s_cls (by rfl) (by rfl) ?_))
    exact c_fail h'.1 (fun F2 a1 a2 a3 => ⟨fun _ => (hq F2 a1 a2 a3).2, fun hh => absurd rfl hh⟩)
theorem c_def {kind : Nat} (hT : TP F0 b n) (h : CS n F0 F S p) (hs : SZ S) (h8 : ∀ v, v < 201 → S 108 v = 1) (hk : kind < 4) (h83 : ∀ v, S 8 v ≤ 3) (hQ : rN e w L g n F0 p Q (deA b kind S p)) : wp_Reader_readDefinition z Q (ad e 64) (Int32.ofNat kind) (mem e w F L g) := by
  unfold wp_Reader_readDefinition wp_Reader_readDefinition_51
  repeat (first | ((with_reducible show ∃ _, _ ∧ _); first | refine s_fI (by rfl) (by rfl) (by rfl) ?_ | refine s_fR (by rfl) (by rfl) (by rfl) ?_ | refine s_pV (by rfl) (by rfl) (Nat.le_of_ble_eq_true rfl) (by rfl) ?_) | ((with_reducible show xcls _ _ _ ∧ _); refine s_cls (by rfl) (by rfl) ?_))
  refine c_literal hT h hs (rNN_then hQ (fun h hq => ⟨fun _ => hq, fun hh => absurd rfl hh, fun _ => hq⟩) (fun S' p' v hr hq F' h' h9 h10 => ⟨fun hh => absurd hh (by decide), fun _ => ?_, fun hh => absurd hh (by decide)⟩))
  obtain ⟨rfl, hv, _, hvM⟩ := liA_ok hr
  have hM := hs.1.1
  have bad : v < 2 ∨ v % 2 = 1 ∨ S' 8 (v / 2) ≠ 0 → ∃ v1, fI (mem e w F' L g) (ad e 64) 5 10 = some v1 ∧ (xcls (mem e w F' L g) (ad e 64) 5 ∧ wp_Reader_fail z (fun v3 h2 => Q v3 h2) (ad e 64) 4 v1 (mem e w F' L g)) := by
    intro hb
    rw [if_pos hb] at hq
    repeat (first | ((with_reducible show ∃ _, _ ∧ _); first | refine s_fI (by rfl) (by rfl) (by rfl) ?_ | refine s_fR (by rfl) (by rfl) (by rfl) ?_ | refine s_pV (by rfl) (by rfl) (Nat.le_of_ble_eq_true rfl) (by rfl) ?_) | ((with_reducible show xcls _ _ _ ∧ _); refine s_cls (by rfl) (by rfl) ?_))
    rw [h10]
    repeat (first | ((with_reducible show ∃ _, _ ∧ _); first | refine s_fI (by rfl) (by rfl) (by rfl) ?_ | refine s_fR (by rfl) (by rfl) (by rfl) ?_ | refine s_pV (by rfl) (by rfl) (Nat.le_of_ble_eq_true rfl) (by rfl) ?_) | ((with_reducible show xcls _ _ _ ∧ _); refine s_cls (by rfl) (by rfl) ?_))
    exact c_fail h'.1 hq
  repeat (first | ((with_reducible show ∃ _, _ ∧ _); first | refine s_fI (by rfl) (by rfl) (by rfl) ?_ | refine s_fR (by rfl) (by rfl) (by rfl) ?_ | refine s_pV (by rfl) (by rfl) (Nat.le_of_ble_eq_true rfl) (by rfl) ?_) | ((with_reducible show xcls _ _ _ ∧ _); refine s_cls (by rfl) (by rfl) ?_))
  rw [h9]
  refine ⟨fun hc => ?_, fun hc => ?_⟩ <;> rw [show (2 : Int32) = Int32.ofNat 2 from rfl, n_lt (by omega) (by decide)] at hc
  · exact bad (Or.inl hc)
  repeat (first | ((with_reducible show ∃ _, _ ∧ _); first | refine s_fI (by rfl) (by rfl) (by rfl) ?_ | refine s_fR (by rfl) (by rfl) (by rfl) ?_ | refine s_pV (by rfl) (by rfl) (Nat.le_of_ble_eq_true rfl) (by rfl) ?_) | ((with_reducible show xcls _ _ _ ∧ _); refine s_cls (by rfl) (by rfl) ?_))
  rw [h9, show (Int32.ofNat v &&& 1) = Int32.ofNat (v % 2) by rw [show (1 : Int32) = Int32.ofNat 1 from rfl, n_and, Nat.and_one_is_mod], show (1 : Int32) = Int32.ofNat 1 from rfl]
  refine ⟨fun h1 => bad (Or.inr (Or.inl (n_inj (by omega) (by decide) h1))), fun h1 => ?_⟩
  have hev : v % 2 ≠ 1 := fun hh => h1 (by rw [hh])
  have hv200 : v / 2 < 201 := by omega
  repeat (first | ((with_reducible show ∃ _, _ ∧ _); first | refine s_fI (by rfl) (by rfl) (by rfl) ?_ | refine s_fR (by rfl) (by rfl) (by rfl) ?_ | refine s_pV (by rfl) (by rfl) (Nat.le_of_ble_eq_true rfl) (by rfl) ?_) | ((with_reducible show xcls _ _ _ ∧ _); refine s_cls (by rfl) (by rfl) ?_))
  rw [h9, n_shr (by omega) (by decide), show v / 2 ^ 1 = v / 2 from rfl]
  refine s_aI (i := v / 2) (by rfl) (by rfl) (by rfl) (by rfl) (by exact hv200) (by decide) ?_
  rw [h'.at (r := 8) (j := v / 2) (by decide) rfl hv200 (h8 _ hv200) (by omega)]
  have h83' := h83 (v / 2)
  show (Int32.ofNat (S' 8 (v / 2)) = 0 → _) ∧ (¬ Int32.ofNat (S' 8 (v / 2)) = 0 → _)
  rw [show (0 : Int32) = Int32.ofNat 0 from rfl, n_eq (by omega) (by decide)]
  refine ⟨fun h0 => ?_, fun h0 => bad (Or.inr (Or.inr h0))⟩
  rw [if_neg (by omega)] at hq
  repeat (first | ((with_reducible show ∃ _, _ ∧ _); first | refine s_fI (by rfl) (by rfl) (by rfl) ?_ | refine s_fR (by rfl) (by rfl) (by rfl) ?_ | refine s_pV (by rfl) (by rfl) (Nat.le_of_ble_eq_true rfl) (by rfl) ?_) | ((with_reducible show xcls _ _ _ ∧ _); refine s_cls (by rfl) (by rfl) ?_))
  rw [h9, n_shr (by omega) (by decide), show v / 2 ^ 1 = v / 2 from rfl]
  refine s_sI (i := v / 2) (by rfl) (by rfl) (by rfl) (by rfl) (by rfl) (by exact hv200) (by decide) ?_
  have hnar : vp_nar .byte ((Int32.ofNat kind).toInt8.toInt32) = Int32.ofNat kind := by
    have : kind = 0 ∨ kind = 1 ∨ kind = 2 ∨ kind = 3 := by omega
    rcases this with rfl | rfl | rfl | rfl <;> rfl
  rw [hnar]
  exact hq _ (h'.put (r := 8) (by decide) rfl hv200 (by omega) rfl) (by rw [up_k (by decide)]; exact h9) (by rw [up_k (by decide)]; exact h10)
theorem c_use (hT : TP F0 b n) (h : CS n F0 F S p) (hs : SZ S) (hnu : S 32 0 < 314) (hQ : rN e w L g n F0 p Q (usA b S p)) : wp_Reader_readUse z Q (ad e 64) (mem e w F L g) := by
  unfold wp_Reader_readUse
  repeat (first | ((with_reducible show ∃ _, _ ∧ _); first | refine s_fI (by rfl) (by rfl) (by rfl) ?_ | refine s_fR (by rfl) (by rfl) (by rfl) ?_ | refine s_pV (by rfl) (by rfl) (Nat.le_of_ble_eq_true rfl) (by rfl) ?_) | ((with_reducible show xcls _ _ _ ∧ _); refine s_cls (by rfl) (by rfl) ?_))
  refine c_literal hT h hs (rNN_then hQ (fun h hq => ⟨fun _ => hq, fun hh => absurd rfl hh, fun _ => hq⟩) (fun S' p' v hr hq F' h' h9 h10 => ⟨fun hh => absurd hh (by decide), fun _ => ?_, fun hh => absurd hh (by decide)⟩))
  obtain ⟨rfl, hv, _, hvM⟩ := liA_ok hr
  have h6 : F' 64 6 = Int32.ofNat (S' 32 0) := h'.at (r := 32) (j := 0) (by decide) rfl (by decide) hs.2.2.2 rfl
  repeat (first | ((with_reducible show ∃ _, _ ∧ _); first | refine s_fI (by rfl) (by rfl) (by rfl) ?_ | refine s_fR (by rfl) (by rfl) (by rfl) ?_ | refine s_pV (by rfl) (by rfl) (Nat.le_of_ble_eq_true rfl) (by rfl) ?_) | ((with_reducible show xcls _ _ _ ∧ _); refine s_cls (by rfl) (by rfl) ?_))
  rw [h6, h9]
  refine s_sI (i := S' 32 0) (by rfl) (by rfl) (by rfl) (by rfl) (by rfl) (by exact hnu) (by decide) ?_
  repeat (first | ((with_reducible show ∃ _, _ ∧ _); first | refine s_fI (by rfl) (by rfl) (by rfl) ?_ | refine s_fR (by rfl) (by rfl) (by rfl) ?_ | refine s_pV (by rfl) (by rfl) (Nat.le_of_ble_eq_true rfl) (by rfl) ?_) | ((with_reducible show xcls _ _ _ ∧ _); refine s_cls (by rfl) (by rfl) ?_))
  rw [up_k (by decide), h6, h10]
  refine s_sI (i := S' 32 0) (by rfl) (by rfl) (by rfl) (by rfl) (by rfl) (by exact hnu) (by decide) ?_
  repeat (first | ((with_reducible show ∃ _, _ ∧ _); first | refine s_fI (by rfl) (by rfl) (by rfl) ?_ | refine s_fR (by rfl) (by rfl) (by rfl) ?_ | refine s_pV (by rfl) (by rfl) (Nat.le_of_ble_eq_true rfl) (by rfl) ?_) | ((with_reducible show xcls _ _ _ ∧ _); refine s_cls (by rfl) (by rfl) ?_))
  rw [up_k (by decide), up_k (by decide), h6, n_inc]
  refine hq _ (((h'.put (r := 19) (by decide) rfl hnu (by omega) rfl).put (r := 20) (by decide) rfl hnu (by omega) rfl).put (r := 32) (i := 0) (by decide) rfl (by decide) rfl rfl) ?_ ?_
  · rw [up_i, if_neg (by decide), up_k (by decide), up_k (by decide)]; exact h9
  · rw [up_i, if_neg (by decide), up_k (by decide), up_k (by decide)]; exact h10
end
