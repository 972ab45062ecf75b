/-! The reference reads: bytes, numbers, literals, definitions. -/
def loM (k : Nat) : Nat := match k with
  | 110 => 10 | 111 => 10 | 112 => 14 | 113 => 14 | 114 => 16 | 115 => 300 | 116 => 300 | 117 => 300 | 118 => 402 | 124 => 1760 | 125 => 44 | _ => 0
def fM (F0 F : Nat → Nat → Int32) : Prop := (∀ k, ¬ (k = 100 ∨ (110 ≤ k ∧ k ≤ 126) ∨ k = 128) → F k = F0 k) ∧ (∀ k j, 110 ≤ k → k ≤ 126 → j < loM k → F k j = F0 k j) ∧ (∀ j, j < 6 ∨ 9 < j → j ≠ 29 → F 100 j = F0 100 j)
theorem fM.refl {F : Nat → Nat → Int32} : fM F F := ⟨fun _ _ => rfl, fun _ _ _ _ _ => rfl, fun _ _ _ => rfl⟩
theorem fM.row {F0 F : Nat → Nat → Int32} (h : fM F0 F) {k j : Nat} {x : Int32} (hk : (110 ≤ k ∧ k ≤ 126 ∧ loM k ≤ j) ∨ k = 128 ∨ (k = 100 ∧ ((6 ≤ j ∧ j ≤ 9) ∨ j = 29))) : fM F0 (up F k j x) := by
  refine ⟨fun k' hk' => by rw [up_k (by omega)]; exact h.1 k' hk', fun k' j' h1 h2 h3 => ?_, fun j' h1 h2 => ?_⟩
  · by_cases e0 : k' = k
    · subst e0
      rw [up_i, if_neg (by omega)]; exact h.2.1 k' j' h1 h2 h3
    · rw [up_k e0]; exact h.2.1 k' j' h1 h2 h3
  · by_cases e0 : (100 : Nat) = k
    · subst e0
      rw [up_i, if_neg (by omega)]; exact h.2.2 j' h1 h2
    · rw [up_k e0]; exact h.2.2 j' h1 h2
def MS (n : Nat) (F0 F : Nat → Nat → Int32) (S : RW) (p : Nat) : Prop := fM F0 F ∧ F 100 6 = Int32.ofNat p ∧ p ≤ n ∧ (F 100 7 = 0 ∧ F 100 8 = -1) ∧ RE lyM VM F S
def EM (n : Nat) (F0 F : Nat → Nat → Int32) (c q : Nat) : Prop := fM F0 F ∧ (∃ p, p ≤ n ∧ F 100 6 = Int32.ofNat p) ∧ (F 100 7 = Int32.ofNat c ∧ 1 ≤ c ∧ c ≤ 6) ∧ F 100 8 = Int32.ofNat q
def MX (n : Nat) (F0 F : Nat → Nat → Int32) (r : RS) : Prop := match r with
  | .error (c, q) => EM n F0 F c q
  | .ok (S, p, _) => MS n F0 F S p
def MXn (n : Nat) (F0 F : Nat → Nat → Int32) (r : RS) : Prop := match r with
  | .error (c, q) => EM n F0 F c q
  | .ok (S, p, v) => MS n F0 F S p ∧ F 100 9 = Int32.ofNat v
def TM (F : Nat → Nat → Int32) (b : Nat → Nat) (n : Nat) : Prop := F 100 3 = Int32.ofNat n ∧ n ≤ 6000 ∧ ∀ i, b i = if i < n then bv (F 101 i) else 256
theorem TM.le {F : Nat → Nat → Int32} {b : Nat → Nat} {n : Nat} (h : TM F b n) (i : Nat) : b i ≤ 256 := by
  rw [h.2.2 i]; split
  · exact Nat.le_of_lt (bv_lt _)
  · exact Nat.le_refl _
theorem TM.lt {F : Nat → Nat → Int32} {b : Nat → Nat} {n : Nat} (h : TM F b n) {i : Nat} (hi : b i ≠ 256) : i < n := by
  rw [h.2.2 i] at hi
  by_cases hh : i < n
  · exact hh
  · rw [if_neg hh] at hi; exact absurd rfl hi
theorem TM.kept {F0 F : Nat → Nat → Int32} {b : Nat → Nat} {n : Nat} (hf : fM F0 F) (h : TM F0 b n) : TM F b n := by
  unfold TM; rw [hf.1 101 (by omega), hf.2.2 3 (by decide) (by decide)]; exact h
section
variable {e : xenv} {w : Bool} {L : Nat → Nat → Int64} {g : xh} {z : Nat → Nat} {b : Nat → Nat} {n : Nat} {F0 F F' : Nat → Nat → Int32} {S S' : RW} {p q s nu : Nat} {Q : xh → Prop} {Qi : Int32 → xh → Prop} {r : RS}
theorem MXn.mx (h : MXn n F0 F r) : MX n F0 F r := by
  match r, h with
  | .error (c, q), h => exact h
  | .ok (S, p, v), h => exact h.1
theorem MX.fm (h : MX n F0 F r) : fM F0 F ∧ ∃ p, p ≤ n ∧ F 100 6 = Int32.ofNat p := by
  match r, h with
  | .error (c, q), h => exact ⟨h.1, h.2.1⟩
  | .ok (S, p, v), h => exact ⟨h.1, p, h.2.2.1, h.2.1⟩
theorem MS.move (h : MS n F0 F S p) (h1 : ∀ k, k ≠ 100 → F' k = F k) (h2 : ∀ j, j ≠ 6 → j ≠ 9 → F' 100 j = F 100 j) (h3 : F' 100 6 = Int32.ofNat q) (h4 : q ≤ n) : MS n F0 F' S q := by
  refine ⟨⟨fun k hk => by rw [h1 k (by omega)]; exact h.1.1 k hk, fun k j q1 q2 q3 => by rw [h1 k (by omega)]; exact h.1.2.1 k j q1 q2 q3, fun j q1 q2 => by rw [h2 j (by omega) (by omega)]; exact h.1.2.2 j q1 q2⟩, h3, h4, by rw [h2 7 (by decide) (by decide), h2 8 (by decide) (by decide)]; exact h.2.2.2.1, RE.kept h.2.2.2.2 (fun r j hr hj => ?_)⟩
  rcases lyM_own r hr with hh | hh
  · omega
  · rw [h1 _ (by omega)]
theorem MS.put (h : MS n F0 F S p) {r R o zz i x c : Nat} {y : Int32} (hr : r < 100) (hl : lyM r = (R, o, zz)) (hi : i < zz) (hc : c = o + i) (hy : y = VM r x) (hlo : loM R ≤ o) : MS n F0 (up F R c y) (st S r i x) p := by
  have hown := lyM_own r hr
  rw [hl] at hown
  dsimp only at hown
  have h100 : ∀ j, up F R c y 100 j = F 100 j := fun j => by rw [up_k (by omega)]
  exact ⟨h.1.row (Or.inl ⟨by omega, by omega, by omega⟩), by rw [h100]; exact h.2.1, h.2.2.1, by rw [h100, h100]; exact h.2.2.2.1, RE.put lyM_dis h.2.2.2.2 hr hl hi hc hy⟩
theorem MS.skip (h : MS n F0 F S p) {r i x : Nat} (hr : r < 100) (hl : (lyM r).2.2 = 0) : MS n F0 F (st S r i x) p := ⟨h.1, h.2.1, h.2.2.1, h.2.2.2.1, RE.skip h.2.2.2.2 hr hl⟩
theorem MS.at (h : MS n F0 F S p) {r R o zz j i : Nat} (hr : r < 100) (hl : lyM r = (R, o, zz)) (hj : j < zz) (hm : S (r + 100) j = 1) (hi : i = o + j) : F R i = VM r (S r j) := RE.at h.2.2.2.2 hr hl hj hm hi
theorem EM.row {c q : Nat} (h : EM n F0 F c q) {k j : Nat} {x : Int32} (hk : (110 ≤ k ∧ k ≤ 126 ∧ loM k ≤ j) ∨ k = 128) : EM n F0 (up F k j x) c q := by
  refine ⟨h.1.row (by omega), ?_, ?_, ?_⟩
  · rw [up_k (by omega)]; exact h.2.1
  · rw [up_k (by omega)]; exact h.2.2.1
  · rw [up_k (by omega)]; exact h.2.2.2
theorem EM.ne {c q : Nat} (h : EM n F0 F c q) : ¬ F 100 7 ≤ 0 ∧ ¬ F 100 7 = 0 := by
  obtain ⟨_, _, ⟨h1, h2, h3⟩, _⟩ := h
  rw [h1, show (0 : Int32) = Int32.ofNat 0 from rfl, n_le (by omega) (by decide), n_eq (by omega) (by decide)]
  omega
theorem m_here (hT : TM F0 b n) (hf : fM F0 F) (hp : p ≤ n) (h6 : F 100 6 = Int32.ofNat p) (h : Qi (iv (b p)) (mem e w F L g)) : wp_Model_here z Qi (ad e 100) (mem e w F L g) := by
  have hT' := TM.kept hf hT
  have hn := hT.2.1
  unfold wp_Model_here
  repeat (first | ((with_reducible show ∃ _, _ ∧ _); first | refine s_fI (by rfl) (by rfl) (by rfl) ?_ | refine s_fR (by rfl) (by rfl) (by rfl) ?_ | refine s_pV (by rfl) (by rfl) (Nat.le_of_ble_eq_true rfl) (by rfl) ?_) | ((with_reducible show xcls _ _ _ ∧ _); refine s_cls (by rfl) (by rfl) ?_))
  rw [h6, hT'.1]
  refine ⟨fun hc => ?_, fun hc => ?_⟩ <;> rw [n_le (by omega) (by omega)] at hc
  · have : b p = 256 := by rw [hT.2.2 p, if_neg (by omega)]
    rw [this] at h; exact h
  · repeat (first | ((with_reducible show ∃ _, _ ∧ _); first | refine s_fI (by rfl) (by rfl) (by rfl) ?_ | refine s_fR (by rfl) (by rfl) (by rfl) ?_ | refine s_pV (by rfl) (by rfl) (Nat.le_of_ble_eq_true rfl) (by rfl) ?_) | ((with_reducible show xcls _ _ _ ∧ _); refine s_cls (by rfl) (by rfl) ?_))
    rw [h6]
    refine s_aI (i := p) (by rfl) (by rfl) (by rfl) (by rfl) (by omega) (by decide) ?_
    have hb : b p = bv (F 101 p) := by rw [hT'.2.2 p, if_pos (by omega)]
    have hlt := bv_lt (F 101 p)
    rw [and255, ← hb, ← iv_nat (by omega)]
    exact h
theorem m_wrong {c : Nat} (hf : fM F0 F) (hp : ∃ p, p ≤ n ∧ F 100 6 = Int32.ofNat p) (h7 : F 100 7 = 0) (hc : 1 ≤ c ∧ c ≤ 6) (h : ∀ F', EM n F0 F' c q → Q (mem e w F' L g)) : wp_Model_wrong z Q (ad e 100) (Int32.ofNat c) (Int32.ofNat q) (mem e w F L g) := by
  unfold wp_Model_wrong
  repeat (first | ((with_reducible show ∃ _, _ ∧ _); first | refine s_fI (by rfl) (by rfl) (by rfl) ?_ | refine s_fR (by rfl) (by rfl) (by rfl) ?_ | refine s_pV (by rfl) (by rfl) (Nat.le_of_ble_eq_true rfl) (by rfl) ?_) | ((with_reducible show xcls _ _ _ ∧ _); refine s_cls (by rfl) (by rfl) ?_))
  rw [h7]
  refine ⟨fun _ => ?_, fun hh => absurd (show (0 : Int32) ≤ 0 by decide) hh⟩
  repeat (first | ((with_reducible show ∃ _, _ ∧ _); first | refine s_fI (by rfl) (by rfl) (by rfl) ?_ | refine s_fR (by rfl) (by rfl) (by rfl) ?_ | refine s_pV (by rfl) (by rfl) (Nat.le_of_ble_eq_true rfl) (by rfl) ?_) | ((with_reducible show xcls _ _ _ ∧ _); refine s_cls (by rfl) (by rfl) ?_))
  refine h _ ⟨(hf.row (by omega)).row (by omega), ?_, ?_, ?_⟩
  · rw [up_i, if_neg (by decide), up_i, if_neg (by decide)]; exact hp
  · rw [up_i, if_neg (by decide), up_i, if_pos rfl]; exact ⟨rfl, hc⟩
  · rw [up_i, if_pos rfl]
theorem m_skipwrong {x y : Int32} {c q : Nat} (hE : EM n F0 F c q) (h : Q (mem e w F L g)) : wp_Model_wrong z Q (ad e 100) x y (mem e w F L g) := by
  unfold wp_Model_wrong
  repeat (first | ((with_reducible show ∃ _, _ ∧ _); first | refine s_fI (by rfl) (by rfl) (by rfl) ?_ | refine s_fR (by rfl) (by rfl) (by rfl) ?_ | refine s_pV (by rfl) (by rfl) (Nat.le_of_ble_eq_true rfl) (by rfl) ?_) | ((with_reducible show xcls _ _ _ ∧ _); refine s_cls (by rfl) (by rfl) ?_))
  exact ⟨fun hh => absurd hh hE.ne.1, fun _ => h⟩
theorem m_take {c : Nat} (hT : TM F0 b n) (h : MX n F0 F r) (hc : c < 256) (hQ : ∀ F', MX n F0 F' (bi r (fun S p _ => psA b c S p)) → Q (mem e w F' L g)) : wp_Model_take z Q (ad e 100) (Int32.ofNat c) (mem e w F L g) := by
  have hn := hT.2.1
  unfold wp_Model_take
  repeat (first | ((with_reducible show ∃ _, _ ∧ _); first | refine s_fI (by rfl) (by rfl) (by rfl) ?_ | refine s_fR (by rfl) (by rfl) (by rfl) ?_ | refine s_pV (by rfl) (by rfl) (Nat.le_of_ble_eq_true rfl) (by rfl) ?_) | ((with_reducible show xcls _ _ _ ∧ _); refine s_cls (by rfl) (by rfl) ?_))
  match r, h, hQ with
  | .error (c', q'), h, hQ => exact ⟨fun hh => absurd hh (EM.ne h).1, fun _ => hQ F h⟩
  | .ok (S, p, v), h, hQ =>
    have h : MS n F0 F S p := h
    have hp := h.2.2.1
    rw [h.2.2.2.1.1]
    refine ⟨fun _ => ?_, fun hh => absurd (show (0 : Int32) ≤ 0 by decide) hh⟩
    rw [bi_ok] at hQ
    unfold psA at hQ
    repeat (first | ((with_reducible show ∃ _, _ ∧ _); first | refine s_fI (by rfl) (by rfl) (by rfl) ?_ | refine s_fR (by rfl) (by rfl) (by rfl) ?_ | refine s_pV (by rfl) (by rfl) (Nat.le_of_ble_eq_true rfl) (by rfl) ?_) | ((with_reducible show xcls _ _ _ ∧ _); refine s_cls (by rfl) (by rfl) ?_))
    refine m_here hT h.1 hp h.2.1 ?_
    rw [iv_eq (hT.le p) hc]
    refine ⟨fun hne => ?_, fun heq => ?_⟩
    · rw [if_neg hne] at hQ
      repeat (first | ((with_reducible show ∃ _, _ ∧ _); first | refine s_fI (by rfl) (by rfl) (by rfl) ?_ | refine s_fR (by rfl) (by rfl) (by rfl) ?_ | refine s_pV (by rfl) (by rfl) (Nat.le_of_ble_eq_true rfl) (by rfl) ?_) | ((with_reducible show xcls _ _ _ ∧ _); refine s_cls (by rfl) (by rfl) ?_))
      rw [h.2.1]
      repeat (first | ((with_reducible show ∃ _, _ ∧ _); first | refine s_fI (by rfl) (by rfl) (by rfl) ?_ | refine s_fR (by rfl) (by rfl) (by rfl) ?_ | refine s_pV (by rfl) (by rfl) (Nat.le_of_ble_eq_true rfl) (by rfl) ?_) | ((with_reducible show xcls _ _ _ ∧ _); refine s_cls (by rfl) (by rfl) ?_))
      exact m_wrong h.1 ⟨p, hp, h.2.1⟩ h.2.2.2.1.1 (by decide) hQ
    · rw [if_pos heq] at hQ
      repeat (first | ((with_reducible show ∃ _, _ ∧ _); first | refine s_fI (by rfl) (by rfl) (by rfl) ?_ | refine s_fR (by rfl) (by rfl) (by rfl) ?_ | refine s_pV (by rfl) (by rfl) (Nat.le_of_ble_eq_true rfl) (by rfl) ?_) | ((with_reducible show xcls _ _ _ ∧ _); refine s_cls (by rfl) (by rfl) ?_))
      rw [h.2.1, n_inc]
      have := hT.lt (i := p) (by omega)
      exact hQ _ (h.move (fun k hk => up_k hk) (fun j h1 h2 => by rw [up_i, if_neg h1]) (by rw [up_i, if_pos rfl]) (by omega))
theorem m_isDigit (hT : TM F0 b n) (hf : fM F0 F) (hp : p ≤ n) (h6 : F 100 6 = Int32.ofNat p) (h1 : dg (b p) → Qi 1 (mem e w F L g)) (h0 : ¬ dg (b p) → Qi 0 (mem e w F L g)) : wp_Model_isDigit z Qi (ad e 100) (mem e w F L g) := by
  have hd := iv_dg (hT.le p)
  unfold wp_Model_isDigit
  repeat (first | ((with_reducible show ∃ _, _ ∧ _); first | refine s_fI (by rfl) (by rfl) (by rfl) ?_ | refine s_fR (by rfl) (by rfl) (by rfl) ?_ | refine s_pV (by rfl) (by rfl) (Nat.le_of_ble_eq_true rfl) (by rfl) ?_) | ((with_reducible show xcls _ _ _ ∧ _); refine s_cls (by rfl) (by rfl) ?_))
  refine m_here hT hf hp h6 ⟨fun hh => h0 (fun hx => (hd.mpr hx).1 hh), fun hh => ?_⟩
  repeat (first | ((with_reducible show ∃ _, _ ∧ _); first | refine s_fI (by rfl) (by rfl) (by rfl) ?_ | refine s_fR (by rfl) (by rfl) (by rfl) ?_ | refine s_pV (by rfl) (by rfl) (Nat.le_of_ble_eq_true rfl) (by rfl) ?_) | ((with_reducible show xcls _ _ _ ∧ _); refine s_cls (by rfl) (by rfl) ?_))
  exact m_here hT hf hp h6 ⟨fun hh' => h0 (fun hx => (hd.mpr hx).2 hh'), fun hh' => h1 (hd.mp ⟨hh, hh'⟩)⟩
theorem m_number (hT : TM F0 b n) (h : MX n F0 F r) (hQ : ∀ F', MXn n F0 F' (bi r (fun S p _ => nuA b S p)) → Q (mem e w F' L g)) : wp_Model_takeNumber z Q (ad e 100) (mem e w F L g) := by
  have hn := hT.2.1
  unfold wp_Model_takeNumber
  repeat (first | ((with_reducible show ∃ _, _ ∧ _); first | refine s_fI (by rfl) (by rfl) (by rfl) ?_ | refine s_fR (by rfl) (by rfl) (by rfl) ?_ | refine s_pV (by rfl) (by rfl) (Nat.le_of_ble_eq_true rfl) (by rfl) ?_) | ((with_reducible show xcls _ _ _ ∧ _); refine s_cls (by rfl) (by rfl) ?_))
  match r, h, hQ with
  | .error (c', q'), h, hQ => exact ⟨fun hh => absurd hh (EM.ne h).1, fun _ => hQ F h⟩
  | .ok (S, p, v), h, hQ =>
    have h : MS n F0 F S p := h
    have hp := h.2.2.1
    rw [h.2.2.2.1.1]
    refine ⟨fun _ => ?_, fun hh => absurd (show (0 : Int32) ≤ 0 by decide) hh⟩
    rw [bi_ok] at hQ
    unfold nuA at hQ
    repeat (first | ((with_reducible show ∃ _, _ ∧ _); first | refine s_fI (by rfl) (by rfl) (by rfl) ?_ | refine s_fR (by rfl) (by rfl) (by rfl) ?_ | refine s_pV (by rfl) (by rfl) (Nat.le_of_ble_eq_true rfl) (by rfl) ?_) | ((with_reducible show xcls _ _ _ ∧ _); refine s_cls (by rfl) (by rfl) ?_))
    have h1 : MS n F0 (up F 100 9 0) S p := h.move (fun k hk => up_k hk) (fun j h1 h2 => by rw [up_i, if_neg h2]) (by rw [up_i, if_neg (by decide)]; exact h.2.1) hp
    have h9 : up F 100 9 0 100 9 = Int32.ofNat 0 := by rw [up_i, if_pos rfl]; rfl
    generalize up F 100 9 0 = F1 at *
    -- the loop, once there is a fault
    have after : ∀ (x : Int32) F2 c q, EM n F0 F2 c q → (∀ F', EM n F0 F' c q → Q (mem e w F' L g)) → ∀ cc, wp_Model_takeNumber_31_b z Q cc (ad e 100) x (mem e w F2 L g) := by
      intro x F2 c q hE hq cc
      unfold wp_Model_takeNumber_31_b
      obtain ⟨p2, hp2, h62⟩ := hE.2.1
      repeat (first | ((with_reducible show ∃ _, _ ∧ _); first | refine s_fI (by rfl) (by rfl) (by rfl) ?_ | refine s_fR (by rfl) (by rfl) (by rfl) ?_ | refine s_pV (by rfl) (by rfl) (Nat.le_of_ble_eq_true rfl) (by rfl) ?_) | ((with_reducible show xcls _ _ _ ∧ _); refine s_cls (by rfl) (by rfl) ?_))
      refine m_isDigit hT hE.1 hp2 h62 (fun _ => ⟨fun hh => absurd hh (by decide), fun _ => ?_⟩) (fun _ => ⟨fun _ => hq F2 hE, fun hh => absurd rfl hh⟩)
      repeat (first | ((with_reducible show ∃ _, _ ∧ _); first | refine s_fI (by rfl) (by rfl) (by rfl) ?_ | refine s_fR (by rfl) (by rfl) (by rfl) ?_ | refine s_pV (by rfl) (by rfl) (Nat.le_of_ble_eq_true rfl) (by rfl) ?_) | ((with_reducible show xcls _ _ _ ∧ _); refine s_cls (by rfl) (by rfl) ?_))
      exact ⟨fun _ => hq F2 hE, fun hh => absurd hh hE.ne.2⟩
    refine m_isDigit hT h1.1 hp h1.2.1 (fun hd => ⟨fun _ => ?_, fun hh => absurd hh (by decide)⟩) (fun hd => ⟨fun hh => absurd rfl hh, fun _ => ?_⟩)
    rotate_left
    · rw [if_neg hd] at hQ
      repeat (first | ((with_reducible show ∃ _, _ ∧ _); first | refine s_fI (by rfl) (by rfl) (by rfl) ?_ | refine s_fR (by rfl) (by rfl) (by rfl) ?_ | refine s_pV (by rfl) (by rfl) (Nat.le_of_ble_eq_true rfl) (by rfl) ?_) | ((with_reducible show xcls _ _ _ ∧ _); refine s_cls (by rfl) (by rfl) ?_))
      rw [h1.2.1]
      repeat (first | ((with_reducible show ∃ _, _ ∧ _); first | refine s_fI (by rfl) (by rfl) (by rfl) ?_ | refine s_fR (by rfl) (by rfl) (by rfl) ?_ | refine s_pV (by rfl) (by rfl) (Nat.le_of_ble_eq_true rfl) (by rfl) ?_) | ((with_reducible show xcls _ _ _ ∧ _); refine s_cls (by rfl) (by rfl) ?_))
      refine m_wrong h1.1 ⟨p, hp, h1.2.1⟩ h1.2.2.2.1.1 (by decide) (fun F2 hE => ?_)
      unfold wp_Model_takeNumber_31
      refine ⟨1, ?_⟩
      exact after 0 F2 1 p hE hQ _
    rw [if_pos hd] at hQ
    unfold wp_Model_takeNumber_31
    refine xloop_dn (fun m a => (∃ k v q F2, m = 10 - k ∧ k ≤ 4 ∧ a = (ad e 100, Int32.ofNat k, mem e w F2 L g) ∧ MS n F0 F2 S q ∧ F2 100 9 = Int32.ofNat v ∧ v < 10 ^ k ∧ (∀ F', MXn n F0 F' (nrA b S (5 - k) q k v) → Q (mem e w F' L g))) ∨ (∃ (x : Int32) (F2 : Nat → Nat → Int32) (c q : Nat), a = (ad e 100, x, mem e w F2 L g) ∧ EM n F0 F2 c q ∧ ∀ F', EM n F0 F' c q → Q (mem e w F' L g))) ?_ 10 _ (Or.inl ⟨0, 0, p, F1, rfl, by decide, rfl, h1, h9, by decide, hQ⟩)
    rintro m a cc (⟨k, v, q, F2, rfl, hk4, rfl, h2, g9, hv, hQ2⟩ | ⟨x, F2, c, q, rfl, hE, hq⟩) hk
    rotate_left
    · exact after x F2 c q hE hq cc
    have hq := h2.2.2.1
    have hv5 : v < 10000 := Nat.lt_of_lt_of_le hv (show 10 ^ k ≤ 10 ^ 4 from Nat.pow_le_pow_right (by decide) hk4)
    obtain ⟨mm, hmm⟩ : ∃ mm, 5 - k = mm + 1 := ⟨4 - k, by omega⟩
    rw [hmm] at hQ2
    unfold nrA at hQ2
    unfold wp_Model_takeNumber_31_b; dsimp only
    repeat (first | ((with_reducible show ∃ _, _ ∧ _); first | refine s_fI (by rfl) (by rfl) (by rfl) ?_ | refine s_fR (by rfl) (by rfl) (by rfl) ?_ | refine s_pV (by rfl) (by rfl) (Nat.le_of_ble_eq_true rfl) (by rfl) ?_) | ((with_reducible show xcls _ _ _ ∧ _); refine s_cls (by rfl) (by rfl) ?_))
    refine m_isDigit hT h2.1 hq h2.2.1 (fun hd => ⟨fun hh => absurd hh (by decide), fun _ => ?_⟩) (fun hd => ⟨fun _ => ?_, fun hh => absurd rfl hh⟩)
    rotate_left
    · rw [if_neg hd] at hQ2
      exact hQ2 F2 ⟨h2, g9⟩
    rw [if_pos hd] at hQ2
    repeat (first | ((with_reducible show ∃ _, _ ∧ _); first | refine s_fI (by rfl) (by rfl) (by rfl) ?_ | refine s_fR (by rfl) (by rfl) (by rfl) ?_ | refine s_pV (by rfl) (by rfl) (Nat.le_of_ble_eq_true rfl) (by rfl) ?_) | ((with_reducible show xcls _ _ _ ∧ _); refine s_cls (by rfl) (by rfl) ?_))
    rw [h2.2.2.2.1.1]
    refine ⟨fun hh => absurd rfl hh, fun _ => ?_⟩
    have stop : (k = 4 ∨ (k = 1 ∧ v = 0)) → wp_Model_takeNumber_62 z Q cc (ad e 100) (Int32.ofNat k) (mem e w F2 L g) := by
      intro hs
      rw [if_pos hs] at hQ2
      unfold wp_Model_takeNumber_62
      repeat (first | ((with_reducible show ∃ _, _ ∧ _); first | refine s_fI (by rfl) (by rfl) (by rfl) ?_ | refine s_fR (by rfl) (by rfl) (by rfl) ?_ | refine s_pV (by rfl) (by rfl) (Nat.le_of_ble_eq_true rfl) (by rfl) ?_) | ((with_reducible show xcls _ _ _ ∧ _); refine s_cls (by rfl) (by rfl) ?_))
      rw [h2.2.1]
      repeat (first | ((with_reducible show ∃ _, _ ∧ _); first | refine s_fI (by rfl) (by rfl) (by rfl) ?_ | refine s_fR (by rfl) (by rfl) (by rfl) ?_ | refine s_pV (by rfl) (by rfl) (Nat.le_of_ble_eq_true rfl) (by rfl) ?_) | ((with_reducible show xcls _ _ _ ∧ _); refine s_cls (by rfl) (by rfl) ?_))
      refine m_wrong h2.1 ⟨q, hq, h2.2.1⟩ h2.2.2.2.1.1 (by decide) (fun F3 hE => ?_)
      exact hk 0 _ (by omega) (Or.inr ⟨_, F3, 1, q, rfl, hE, hQ2⟩)
    have go : ¬ (k = 4 ∨ (k = 1 ∧ v = 0)) → wp_Model_takeNumber_74 z Q cc (ad e 100) (Int32.ofNat k) (mem e w F2 L g) := by
      intro hs
      rw [if_neg hs] at hQ2
      have hql := hT.lt (i := q) (by have := hd.2; omega)
      unfold wp_Model_takeNumber_74
      repeat (first | ((with_reducible show ∃ _, _ ∧ _); first | refine s_fI (by rfl) (by rfl) (by rfl) ?_ | refine s_fR (by rfl) (by rfl) (by rfl) ?_ | refine s_pV (by rfl) (by rfl) (Nat.le_of_ble_eq_true rfl) (by rfl) ?_) | ((with_reducible show xcls _ _ _ ∧ _); refine s_cls (by rfl) (by rfl) ?_))
      rw [g9]
      repeat (first | ((with_reducible show ∃ _, _ ∧ _); first | refine s_fI (by rfl) (by rfl) (by rfl) ?_ | refine s_fR (by rfl) (by rfl) (by rfl) ?_ | refine s_pV (by rfl) (by rfl) (Nat.le_of_ble_eq_true rfl) (by rfl) ?_) | ((with_reducible show xcls _ _ _ ∧ _); refine s_cls (by rfl) (by rfl) ?_))
      refine m_here hT h2.1 hq h2.2.1 ?_
      rw [nr_dig hd]
      repeat (first | ((with_reducible show ∃ _, _ ∧ _); first | refine s_fI (by rfl) (by rfl) (by rfl) ?_ | refine s_fR (by rfl) (by rfl) (by rfl) ?_ | refine s_pV (by rfl) (by rfl) (Nat.le_of_ble_eq_true rfl) (by rfl) ?_) | ((with_reducible show xcls _ _ _ ∧ _); refine s_cls (by rfl) (by rfl) ?_))
      rw [up_i, if_neg (by decide), h2.2.1, n_inc q]
      have hpow : 10 ^ (k + 1) = 10 * 10 ^ k := by rw [Nat.pow_succ, Nat.mul_comm]
      have hd2 := hd.2
      refine hk (10 - (k + 1)) _ (by omega) (Or.inl ⟨k + 1, 10 * v + b q - 48, q + 1, _, rfl, by omega, by rw [n_inc], h2.move (fun k hk => by rw [up_k hk, up_k hk]) (fun j h1 h2 => by rw [up_i, if_neg h1, up_i, if_neg h2]) (by rw [up_i, if_pos rfl]) (by omega), by rw [up_i, if_neg (by decide), up_i, if_pos rfl], by omega, by rw [show 5 - (k + 1) = mm by omega]; exact hQ2⟩)
    rw [show (4 : Int32) = Int32.ofNat 4 from rfl, n_eq (by omega) (by decide)]
    refine ⟨fun h4 => stop (Or.inl h4), fun h4 => ?_⟩
    rw [show (1 : Int32) = Int32.ofNat 1 from rfl, n_eq (by omega) (by decide)]
    refine ⟨fun h1' => go (fun hh => hh.elim h4 (fun hh => h1' hh.1)), fun h1' => ?_⟩
    repeat (first | ((with_reducible show ∃ _, _ ∧ _); first | refine s_fI (by rfl) (by rfl) (by rfl) ?_ | refine s_fR (by rfl) (by rfl) (by rfl) ?_ | refine s_pV (by rfl) (by rfl) (Nat.le_of_ble_eq_true rfl) (by rfl) ?_) | ((with_reducible show xcls _ _ _ ∧ _); refine s_cls (by rfl) (by rfl) ?_))
    rw [g9, show (0 : Int32) = Int32.ofNat 0 from rfl, n_eq (by omega) (by decide)]
    exact ⟨fun hv0 => go (fun hh => hh.elim h4 (fun hh => hv0 hh.2)), fun hv0 => stop (Or.inr ⟨h1', hv0⟩)⟩
theorem m_literal (hT : TM F0 b n) (h : MX n F0 F r) (hs : ∀ S p v, r = .ok (S, p, v) → SZ S) (hQ : ∀ F' y, MX n F0 F' (bi r (fun S p _ => liA b S p)) → (∀ S' p' v', bi r (fun S p _ => liA b S p) = .ok (S', p', v') → y = Int32.ofNat v') → Qi y (mem e w F' L g)) : wp_Model_literal z Qi (ad e 100) (mem e w F L g) := by
  unfold wp_Model_literal wp_Model_literal_40
  match r, h, hs, hQ with
  | .error (c', q'), h, hs, hQ =>
    repeat (first | ((with_reducible show ∃ _, _ ∧ _); first | refine s_fI (by rfl) (by rfl) (by rfl) ?_ | refine s_fR (by rfl) (by rfl) (by rfl) ?_ | refine s_pV (by rfl) (by rfl) (Nat.le_of_ble_eq_true rfl) (by rfl) ?_) | ((with_reducible show xcls _ _ _ ∧ _); refine s_cls (by rfl) (by rfl) ?_))
    refine m_number hT h (fun F1 h1 => ?_)
    have h1 : EM n F0 F1 c' q' := h1
    repeat (first | ((with_reducible show ∃ _, _ ∧ _); first | refine s_fI (by rfl) (by rfl) (by rfl) ?_ | refine s_fR (by rfl) (by rfl) (by rfl) ?_ | refine s_pV (by rfl) (by rfl) (Nat.le_of_ble_eq_true rfl) (by rfl) ?_) | ((with_reducible show xcls _ _ _ ∧ _); refine s_cls (by rfl) (by rfl) ?_))
    refine ⟨fun _ => ?_, fun hh => absurd hh h1.ne.2⟩
    repeat (first | ((with_reducible show ∃ _, _ ∧ _); first | refine s_fI (by rfl) (by rfl) (by rfl) ?_ | refine s_fR (by rfl) (by rfl) (by rfl) ?_ | refine s_pV (by rfl) (by rfl) (Nat.le_of_ble_eq_true rfl) (by rfl) ?_) | ((with_reducible show xcls _ _ _ ∧ _); refine s_cls (by rfl) (by rfl) ?_))
    exact hQ F1 _ h1 (fun S' p' v' hh => by cases hh)
  | .ok (S, p, v), h, hs, hQ =>
    have hSZ := hs S p v rfl
    have hM := hSZ.1.1
    have h : MS n F0 F S p := h
    have hp := h.2.2.1
    rw [bi_ok] at hQ
    unfold liA at hQ
    repeat (first | ((with_reducible show ∃ _, _ ∧ _); first | refine s_fI (by rfl) (by rfl) (by rfl) ?_ | refine s_fR (by rfl) (by rfl) (by rfl) ?_ | refine s_pV (by rfl) (by rfl) (Nat.le_of_ble_eq_true rfl) (by rfl) ?_) | ((with_reducible show xcls _ _ _ ∧ _); refine s_cls (by rfl) (by rfl) ?_))
    rw [h.2.1]
    repeat (first | ((with_reducible show ∃ _, _ ∧ _); first | refine s_fI (by rfl) (by rfl) (by rfl) ?_ | refine s_fR (by rfl) (by rfl) (by rfl) ?_ | refine s_pV (by rfl) (by rfl) (Nat.le_of_ble_eq_true rfl) (by rfl) ?_) | ((with_reducible show xcls _ _ _ ∧ _); refine s_cls (by rfl) (by rfl) ?_))
    refine m_number (r := .ok (S, p, v)) hT h (fun F1 h1 => ?_)
    rw [bi_ok] at h1
    match hr : nuA b S p, h1, hQ with
    | .error (c', q'), h1, hQ =>
      have h1 : EM n F0 F1 c' q' := h1
      repeat (first | ((with_reducible show ∃ _, _ ∧ _); first | refine s_fI (by rfl) (by rfl) (by rfl) ?_ | refine s_fR (by rfl) (by rfl) (by rfl) ?_ | refine s_pV (by rfl) (by rfl) (Nat.le_of_ble_eq_true rfl) (by rfl) ?_) | ((with_reducible show xcls _ _ _ ∧ _); refine s_cls (by rfl) (by rfl) ?_))
      refine ⟨fun _ => ?_, fun hh => absurd hh h1.ne.2⟩
      repeat (first | ((with_reducible show ∃ _, _ ∧ _); first | refine s_fI (by rfl) (by rfl) (by rfl) ?_ | refine s_fR (by rfl) (by rfl) (by rfl) ?_ | refine s_pV (by rfl) (by rfl) (Nat.le_of_ble_eq_true rfl) (by rfl) ?_) | ((with_reducible show xcls _ _ _ ∧ _); refine s_cls (by rfl) (by rfl) ?_))
      exact hQ F1 _ h1 (fun S' p' v' hh => by cases hh)
    | .ok (S1, p1, v1), h12, hQ2 =>
      obtain ⟨hSS, hv, _⟩ := nuA_ok hr
      have h12 : MS n F0 F1 S1 p1 ∧ F1 100 9 = Int32.ofNat v1 := h12
      subst hSS
      rw [bi_ok] at hQ2
      repeat (first | ((with_reducible show ∃ _, _ ∧ _); first | refine s_fI (by rfl) (by rfl) (by rfl) ?_ | refine s_fR (by rfl) (by rfl) (by rfl) ?_ | refine s_pV (by rfl) (by rfl) (Nat.le_of_ble_eq_true rfl) (by rfl) ?_) | ((with_reducible show xcls _ _ _ ∧ _); refine s_cls (by rfl) (by rfl) ?_))
      rw [h12.1.2.2.2.1.1]
      refine ⟨fun hh => absurd rfl hh, fun _ => ?_⟩
      repeat (first | ((with_reducible show ∃ _, _ ∧ _); first | refine s_fI (by rfl) (by rfl) (by rfl) ?_ | refine s_fR (by rfl) (by rfl) (by rfl) ?_ | refine s_pV (by rfl) (by rfl) (Nat.le_of_ble_eq_true rfl) (by rfl) ?_) | ((with_reducible show xcls _ _ _ ∧ _); refine s_cls (by rfl) (by rfl) ?_))
      refine s_aI (i := 10) (by rfl) (by rfl) (by rfl) (by rfl) (by decide) (by decide) ?_
      rw [h12.2, show F1 110 10 = Int32.ofNat (S1 0 0) from h12.1.at (r := 0) (j := 0) (by decide) rfl (by decide) (hSZ.2.1 0 (by decide)).1 rfl, show (2 : Int32) * Int32.ofNat (S1 0 0) + 1 = Int32.ofNat (2 * S1 0 0 + 1) by rw [show (2 : Int32) = Int32.ofNat 2 from rfl, n_mul, n_inc]]
      refine ⟨fun hc => ?_, fun hc => ?_⟩ <;> rw [n_le (by omega) (by omega)] at hc
      · rw [if_pos hc] at hQ2
        repeat (first | ((with_reducible show ∃ _, _ ∧ _); first | refine s_fI (by rfl) (by rfl) (by rfl) ?_ | refine s_fR (by rfl) (by rfl) (by rfl) ?_ | refine s_pV (by rfl) (by rfl) (Nat.le_of_ble_eq_true rfl) (by rfl) ?_) | ((with_reducible show xcls _ _ _ ∧ _); refine s_cls (by rfl) (by rfl) ?_))
        refine hQ2 F1 _ h12.1 (fun S' p' v' hh => ?_)
        obtain ⟨_, _, rfl⟩ := ok_inj hh
        exact h12.2
      · rw [if_neg hc] at hQ2
        repeat (first | ((with_reducible show ∃ _, _ ∧ _); first | refine s_fI (by rfl) (by rfl) (by rfl) ?_ | refine s_fR (by rfl) (by rfl) (by rfl) ?_ | refine s_pV (by rfl) (by rfl) (Nat.le_of_ble_eq_true rfl) (by rfl) ?_) | ((with_reducible show xcls _ _ _ ∧ _); refine s_cls (by rfl) (by rfl) ?_))
        refine m_wrong h12.1.1 ⟨p1, h12.1.2.2.1, h12.1.2.1⟩ h12.1.2.2.2.1.1 (by decide) (fun F2 hE => ?_)
        repeat (first | ((with_reducible show ∃ _, _ ∧ _); first | refine s_fI (by rfl) (by rfl) (by rfl) ?_ | refine s_fR (by rfl) (by rfl) (by rfl) ?_ | refine s_pV (by rfl) (by rfl) (Nat.le_of_ble_eq_true rfl) (by rfl) ?_) | ((with_reducible show xcls _ _ _ ∧ _); refine s_cls (by rfl) (by rfl) ?_))
        exact hQ2 F2 _ hE (fun S' p' v' hh => by cases hh)
theorem m_defines {kind : Nat} {x : Int32} (hT : TM F0 b n) (h : MX n F0 F r) (hs : ∀ S p v, r = .ok (S, p, v) → SZ S ∧ (∀ v, v < 201 → S 108 v = 1) ∧ ∀ v, S 8 v ≤ 3) (hQ : ∀ F' y, MX n F0 F' (bi r (fun S p _ => deA b kind S p)) → (∀ S' p' v', bi r (fun S p _ => deA b kind S p) = .ok (S', p', v') → y = Int32.ofNat v') → Qi y (mem e w F' L g)) : wp_Model_defines z Qi (ad e 100) (Int32.ofNat kind) x (mem e w F L g) := by
  unfold wp_Model_defines wp_Model_defines_48
  have skip : ∀ F2 (y : Int32) c q, EM n F0 F2 c q → Qi y (mem e w F2 L g) → wp_Model_defines_54 z Qi (ad e 100) (Int32.ofNat kind) x y (mem e w F2 L g) := by
    intro F2 y c q hE hq
    unfold wp_Model_defines_54 wp_Model_defines_71
    repeat (first | ((with_reducible show ∃ _, _ ∧ _); first | refine s_fI (by rfl) (by rfl) (by rfl) ?_ | refine s_fR (by rfl) (by rfl) (by rfl) ?_ | refine s_pV (by rfl) (by rfl) (Nat.le_of_ble_eq_true rfl) (by rfl) ?_) | ((with_reducible show xcls _ _ _ ∧ _); refine s_cls (by rfl) (by rfl) ?_))
    exact ⟨fun _ => hq, fun hh => absurd hh hE.ne.2⟩
  match r, h, hs, hQ with
  | .error (c', q'), h, hs, hQ =>
    repeat (first | ((with_reducible show ∃ _, _ ∧ _); first | refine s_fI (by rfl) (by rfl) (by rfl) ?_ | refine s_fR (by rfl) (by rfl) (by rfl) ?_ | refine s_pV (by rfl) (by rfl) (Nat.le_of_ble_eq_true rfl) (by rfl) ?_) | ((with_reducible show xcls _ _ _ ∧ _); refine s_cls (by rfl) (by rfl) ?_))
    refine m_literal hT h (fun S p v hh => by cases hh) (fun F1 y h1 _ => ?_)
    have h1 : EM n F0 F1 c' q' := h1
    repeat (first | ((with_reducible show ∃ _, _ ∧ _); first | refine s_fI (by rfl) (by rfl) (by rfl) ?_ | refine s_fR (by rfl) (by rfl) (by rfl) ?_ | refine s_pV (by rfl) (by rfl) (Nat.le_of_ble_eq_true rfl) (by rfl) ?_) | ((with_reducible show xcls _ _ _ ∧ _); refine s_cls (by rfl) (by rfl) ?_))
    exact ⟨fun _ => skip F1 y c' q' h1 (hQ F1 y h1 (fun S' p' v' hh => by cases hh)), fun hh => absurd hh h1.ne.2⟩
  | .ok (S, p, v), h, hs, hQ =>
    obtain ⟨hSZ, h8, h83⟩ := hs S p v rfl
    have hM := hSZ.1.1
    have h : MS n F0 F S p := h
    have hp := h.2.2.1
    rw [bi_ok] at hQ
    unfold deA at hQ
    repeat (first | ((with_reducible show ∃ _, _ ∧ _); first | refine s_fI (by rfl) (by rfl) (by rfl) ?_ | refine s_fR (by rfl) (by rfl) (by rfl) ?_ | refine s_pV (by rfl) (by rfl) (Nat.le_of_ble_eq_true rfl) (by rfl) ?_) | ((with_reducible show xcls _ _ _ ∧ _); refine s_cls (by rfl) (by rfl) ?_))
    rw [h.2.1]
    repeat (first | ((with_reducible show ∃ _, _ ∧ _); first | refine s_fI (by rfl) (by rfl) (by rfl) ?_ | refine s_fR (by rfl) (by rfl) (by rfl) ?_ | refine s_pV (by rfl) (by rfl) (Nat.le_of_ble_eq_true rfl) (by rfl) ?_) | ((with_reducible show xcls _ _ _ ∧ _); refine s_cls (by rfl) (by rfl) ?_))
    refine m_literal (r := .ok (S, p, v)) hT h (fun S' p' v' hh => by obtain ⟨rfl, _⟩ := ok_inj hh; exact hSZ) (fun F1 y h1 hy => ?_)
    rw [bi_ok] at h1 hy
    match hr : liA b S p, h1, hQ, hy with
    | .error (c', q'), h1, hQ, hy =>
      have h1 : EM n F0 F1 c' q' := h1
      repeat (first | ((with_reducible show ∃ _, _ ∧ _); first | refine s_fI (by rfl) (by rfl) (by rfl) ?_ | refine s_fR (by rfl) (by rfl) (by rfl) ?_ | refine s_pV (by rfl) (by rfl) (Nat.le_of_ble_eq_true rfl) (by rfl) ?_) | ((with_reducible show xcls _ _ _ ∧ _); refine s_cls (by rfl) (by rfl) ?_))
      exact ⟨fun _ => skip F1 y c' q' h1 (hQ F1 y h1 (fun S' p' v' hh => by cases hh)), fun hh => absurd hh h1.ne.2⟩
    | .ok (S1, p1, v1), h12, hQ2, hy =>
      obtain ⟨hSS, hv, _, hvM⟩ := liA_ok hr
      have hy := hy _ _ _ rfl
      subst hy
      have h12 : MS n F0 F1 S1 p1 := h12
      subst hSS
      rw [bi_ok] at hQ2
      have bad : (v1 < 2 ∨ v1 % 2 = 1 ∨ S1 8 (v1 / 2) ≠ 0) → xcls (mem e w F1 L g) (ad e 100) 12 ∧ wp_Model_wrong z (fun h1 => wp_Model_defines_54 z Qi (ad e 100) (Int32.ofNat kind) x (Int32.ofNat v1) h1) (ad e 100) 4 (Int32.ofNat p) (mem e w F1 L g) := by
        intro hb
        rw [if_pos hb] at hQ2
        repeat (first | ((with_reducible show ∃ _, _ ∧ _); first | refine s_fI (by rfl) (by rfl) (by rfl) ?_ | refine s_fR (by rfl) (by rfl) (by rfl) ?_ | refine s_pV (by rfl) (by rfl) (Nat.le_of_ble_eq_true rfl) (by rfl) ?_) | ((with_reducible show xcls _ _ _ ∧ _); refine s_cls (by rfl) (by rfl) ?_))
        refine m_wrong h12.1 ⟨p1, h12.2.2.1, h12.2.1⟩ h12.2.2.2.1.1 (by decide) (fun F2 hE => ?_)
        exact skip F2 _ 4 p hE (hQ2 F2 _ hE (fun S' p' v' hh => by cases hh))
      repeat (first | ((with_reducible show ∃ _, _ ∧ _); first | refine s_fI (by rfl) (by rfl) (by rfl) ?_ | refine s_fR (by rfl) (by rfl) (by rfl) ?_ | refine s_pV (by rfl) (by rfl) (Nat.le_of_ble_eq_true rfl) (by rfl) ?_) | ((with_reducible show xcls _ _ _ ∧ _); refine s_cls (by rfl) (by rfl) ?_))
      rw [h12.2.2.2.1.1]
      refine ⟨fun hh => absurd rfl hh, fun _ => ?_⟩
      refine ⟨fun hc => ?_, fun hc => ?_⟩ <;> rw [show (2 : Int32) = Int32.ofNat 2 from rfl, n_lt (by omega) (by decide)] at hc
      · exact bad (Or.inl hc)
      rw [n_rem (by omega), show (1 : Int32) = Int32.ofNat 1 from rfl, n_eq (by omega) (by decide)]
      refine ⟨fun h12' => bad (Or.inr (Or.inl h12')), fun h12' => ?_⟩
      have hv200 : v1 / 2 < 201 := by omega
      repeat (first | ((with_reducible show ∃ _, _ ∧ _); first | refine s_fI (by rfl) (by rfl) (by rfl) ?_ | refine s_fR (by rfl) (by rfl) (by rfl) ?_ | refine s_pV (by rfl) (by rfl) (Nat.le_of_ble_eq_true rfl) (by rfl) ?_) | ((with_reducible show xcls _ _ _ ∧ _); refine s_cls (by rfl) (by rfl) ?_))
      rw [n_half (by omega), show (402 : Int32) + Int32.ofNat (v1 / 2) = Int32.ofNat (402 + v1 / 2) from n_add 402 _]
      refine s_aI (i := 402 + v1 / 2) (by rfl) (by rfl) (by rfl) (by rfl) (by omega) (by decide) ?_
      rw [show F1 118 (402 + v1 / 2) = Int32.ofNat (S1 8 (v1 / 2)) from h12.at (r := 8) (j := v1 / 2) (by decide) rfl hv200 (h8 _ hv200) rfl]
      have h83' := h83 (v1 / 2)
      rw [show (0 : Int32) = Int32.ofNat 0 from rfl, n_eq (by omega) (by decide)]
      refine ⟨fun h0 => ?_, fun h0 => bad (Or.inr (Or.inr h0))⟩
      rw [if_neg (by omega)] at hQ2
      unfold wp_Model_defines_54 wp_Model_defines_71
      repeat (first | ((with_reducible show ∃ _, _ ∧ _); first | refine s_fI (by rfl) (by rfl) (by rfl) ?_ | refine s_fR (by rfl) (by rfl) (by rfl) ?_ | refine s_pV (by rfl) (by rfl) (Nat.le_of_ble_eq_true rfl) (by rfl) ?_) | ((with_reducible show xcls _ _ _ ∧ _); refine s_cls (by rfl) (by rfl) ?_))
      rw [h12.2.2.2.1.1]
      refine ⟨fun hh => absurd rfl hh, fun _ => ?_⟩
      repeat (first | ((with_reducible show ∃ _, _ ∧ _); first | refine s_fI (by rfl) (by rfl) (by rfl) ?_ | refine s_fR (by rfl) (by rfl) (by rfl) ?_ | refine s_pV (by rfl) (by rfl) (Nat.le_of_ble_eq_true rfl) (by rfl) ?_) | ((with_reducible show xcls _ _ _ ∧ _); refine s_cls (by rfl) (by rfl) ?_))
      unfold wp_Model_define
      rw [n_half (by omega)]
      repeat (first | ((with_reducible show ∃ _, _ ∧ _); first | refine s_fI (by rfl) (by rfl) (by rfl) ?_ | refine s_fR (by rfl) (by rfl) (by rfl) ?_ | refine s_pV (by rfl) (by rfl) (Nat.le_of_ble_eq_true rfl) (by rfl) ?_) | ((with_reducible show xcls _ _ _ ∧ _); refine s_cls (by rfl) (by rfl) ?_))
      refine s_sI (i := 402 + v1 / 2) (by rfl) (by rfl) (by rfl) (by rfl) (by exact n_add 402 _) (by omega) (by decide) ?_
      repeat (first | ((with_reducible show ∃ _, _ ∧ _); first | refine s_fI (by rfl) (by rfl) (by rfl) ?_ | refine s_fR (by rfl) (by rfl) (by rfl) ?_ | refine s_pV (by rfl) (by rfl) (Nat.le_of_ble_eq_true rfl) (by rfl) ?_) | ((with_reducible show xcls _ _ _ ∧ _); refine s_cls (by rfl) (by rfl) ?_))
      refine s_sI (i := 402 + v1 / 2) (by rfl) (by rfl) (by rfl) (by rfl) (by exact n_add 402 _) (by omega) (by decide) ?_
      have h2 := h12.put (r := 8) (i := v1 / 2) (c := 402 + v1 / 2) (x := kind) (y := Int32.ofNat kind) (by decide) rfl hv200 rfl rfl (by decide)
      refine hQ2 _ _ ?_ (fun S' p' v' hh => by obtain ⟨_, _, rfl⟩ := ok_inj hh; rfl)
      refine ⟨h2.1.row (Or.inl ⟨by decide, by decide, Nat.zero_le _⟩), by rw [up_k (by decide)]; exact h2.2.1, h2.2.2.1, by rw [up_k (by decide)]; exact h2.2.2.2.1, RE.kept h2.2.2.2.2 (fun r j hr hj => ?_)⟩
      rcases lyM_own r hr with hh | hh
      · omega
      · rw [up_k hh.2.2]
theorem MX_us (h : MX n F0 F (bi r (fun S p _ => liA b S p))) : MX n F0 F (bi r (fun S p _ => usA b S p)) := by
  match r, h with
  | .error (c', q'), h => exact h
  | .ok (S, p, v), h =>
    rw [bi_ok] at h ⊢
    unfold usA
    match hr : liA b S p, h with
    | .error (c', q'), h => exact h
    | .ok (S1, p1, v1), h =>
      have h : MS n F0 F S1 p1 := h
      exact ((h.skip (by decide) rfl).skip (by decide) rfl).skip (by decide) rfl
end
