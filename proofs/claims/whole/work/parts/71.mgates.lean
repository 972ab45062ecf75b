/-! The reference: gates. Its numbers of signals are Ph K of the class's. -/
def fiS (K : Nat → Nat → Nat → Nat) : Nat := 1 + K 0 0 1 + K 0 0 2 + K 1 0 2
def phI (K : Nat → Nat → Nat → Nat) (i : Nat) : Nat := if i < 6 then i else if i < 12 then i - 6 + 1 + K 0 0 1 else if i < 18 then i - 12 + 1 + K 0 0 1 + K 0 0 2 else i - 18 + fiS K
def Ph (K : Nat → Nat → Nat → Nat) (s : Nat) : Nat := 2 * phI K (s / 2) + s % 2
def okS (K : Nat → Nat → Nat → Nat) (n s : Nat) : Prop := s / 2 ≤ K 0 0 1 ∨ (6 ≤ s / 2 ∧ s / 2 < 6 + K 0 0 2) ∨ (12 ≤ s / 2 ∧ s / 2 < 12 + K 1 0 2) ∨ (18 ≤ s / 2 ∧ s / 2 < 18 + n)
theorem okS.mono {K : Nat → Nat → Nat → Nat} {n m s : Nat} (h : n ≤ m) (hs : okS K n s) : okS K m s := by unfold okS at *; omega
theorem xor1 (s : Nat) : (s ^^^ 1) / 2 = s / 2 ∧ (s ^^^ 1) % 2 = 1 - s % 2 := by
  constructor
  · have := Nat.xor_div_two (a := s) (b := 1)
    rw [this]; simp
  · have h := Nat.xor_mod_two_pow (n := 1) (a := s) (b := 1)
    rw [show (2 : Nat) ^ 1 = 2 from rfl] at h
    rcases Nat.mod_two_eq_zero_or_one s with h0 | h0 <;> rw [h, h0] <;> rfl
theorem okS.x1 {K : Nat → Nat → Nat → Nat} {n s b : Nat} (hb : b < 2) (hs : okS K n s) : okS K n (s ^^^ b) := by
  have : b = 0 ∨ b = 1 := by omega
  rcases this with rfl | rfl
  · rw [Nat.xor_zero]; exact hs
  · unfold okS at *; rw [(xor1 s).1]; exact hs
theorem Ph_x1 {K : Nat → Nat → Nat → Nat} {s b : Nat} (hb : b < 2) : Ph K (s ^^^ b) = Ph K s ^^^ b := by
  have : b = 0 ∨ b = 1 := by omega
  rcases this with rfl | rfl
  · rw [Nat.xor_zero, Nat.xor_zero]
  · have h1 := xor1 s
    have h2 := xor1 (Ph K s)
    have e1 : Ph K s / 2 = phI K (s / 2) := by unfold Ph; omega
    have e2 : Ph K s % 2 = s % 2 := by unfold Ph; omega
    have e3 : Ph K (s ^^^ 1) = 2 * phI K (s / 2) + (1 - s % 2) := by unfold Ph; rw [h1.1, h1.2]
    omega
theorem Ph_inj {K : Nat → Nat → Nat → Nat} (hM : MK K) {n s s' : Nat} (hs : okS K n s) (hs' : okS K n s') (h : Ph K s = Ph K s') : s = s' := by
  have hI := hM.1.1.2.1
  have hL0 := hM.1.1.2.2.1
  have hL1 := hM.2.1.1.2.2.1
  have e1 : phI K (s / 2) = phI K (s' / 2) := by unfold Ph at h; omega
  have e2 : s % 2 = s' % 2 := by unfold Ph at h; omega
  have e3 : s / 2 = s' / 2 := by
    unfold okS at hs hs'
    unfold phI fiS at e1
    generalize s / 2 = i at *
    generalize s' / 2 = j at *
    split at e1 <;> split at e1 <;> (try split at e1) <;> (try split at e1) <;> (try split at e1) <;> (try split at e1) <;> omega
  omega
theorem Ph_lt {K : Nat → Nat → Nat → Nat} (hM : MK K) {n s : Nat} (hn : n ≤ 300) (hs : okS K n s) : Ph K s < 4096 := by
  have hI := hM.1.1.2.1
  have hL0 := hM.1.1.2.2.1
  have hL1 := hM.2.1.1.2.2.1
  unfold okS at hs
  unfold Ph phI fiS
  split
  · omega
  · split
    · omega
    · split
      · omega
      · omega
theorem Ph0 (K : Nat → Nat → Nat → Nat) : Ph K 0 = 0 ∧ Ph K 1 = 1 := ⟨rfl, rfl⟩
theorem ok0 (K : Nat → Nat → Nat → Nat) (n : Nat) : okS K n 0 ∧ okS K n 1 := ⟨Or.inl (Nat.zero_le _), Or.inl (Nat.zero_le _)⟩
/-- the reference's gates -/
def GM (F : Nat → Nat → Int32) (K : Nat → Nat → Nat → Nat) (lo hi : Nat → Nat) (n : Nat) : Prop := F 100 51 = Int32.ofNat n ∧ ∀ k, k < n → okS K n (lo k) ∧ okS K n (hi k) ∧ lo k ≤ hi k ∧ ((F 149 k = Int32.ofNat (Ph K (lo k)) ∧ F 150 k = Int32.ofNat (Ph K (hi k))) ∨ (F 149 k = Int32.ofNat (Ph K (hi k)) ∧ F 150 k = Int32.ofNat (Ph K (lo k))))
section
variable {e : xenv} {w : Bool} {F : Nat → Nat → Int32} {L : Nat → Nat → Int64} {g : xh} {z : Nat → Nat} {K : Nat → Nat → Nat → Nat}
theorem GM.pair {lo hi : Nat → Nat} {n a b k : Nat} (hM : MK K) (hG : GM F K lo hi n) (hn : n ≤ 300) (ha : okS K n a) (hb : okS K n b) (hk : k < n) : ((F 149 k = Int32.ofNat (Ph K a) ∧ F 150 k = Int32.ofNat (Ph K b)) ∨ (F 149 k = Int32.ofNat (Ph K b) ∧ F 150 k = Int32.ofNat (Ph K a))) ↔ gq lo hi a b k = true := by
  obtain ⟨h1, h2, h3, h4⟩ := hG.2 k hk
  have inj : ∀ s s', okS K n s → okS K n s' → (Int32.ofNat (Ph K s) = Int32.ofNat (Ph K s') ↔ s = s') := fun s s' hs hs' => by
    have := Ph_lt hM hn hs; have := Ph_lt hM hn hs'
    rw [n_eq (by omega) (by omega)]
    exact ⟨Ph_inj hM hs hs', fun h => by rw [h]⟩
  unfold gq
  rw [Bool.and_eq_true, decide_eq_true_iff, decide_eq_true_iff]
  rcases h4 with ⟨q1, q2⟩ | ⟨q1, q2⟩
  · rw [q1, q2, inj _ _ h1 ha, inj _ _ h2 hb, inj _ _ h1 hb, inj _ _ h2 ha]; omega
  · rw [q1, q2, inj _ _ h2 ha, inj _ _ h1 hb, inj _ _ h2 hb, inj _ _ h1 ha]; omega
theorem jn_ok {lo hi : Nat → Nat} {n a b : Nat} (ha : okS K n a) (hb : okS K n b) : okS K (jn lo hi n a b).2.2.2 (jn lo hi n a b).1 := by
  unfold jn
  split
  · exact (ok0 K n).1
  · split
    · exact hb
    · split
      · exact ha
      · split
        · rename_i hh
          show okS K n (2 * (18 + fd (gq lo hi a b) n))
          unfold okS; omega
        · show okS K (n + 1) (2 * (18 + n))
          unfold okS; omega
theorem v_mgate {Q : Int32 → xh → Prop} {lo hi : Nat → Nat} {n a b : Nat} (hM : MK K) (hG : GM F K lo hi n) (hn : n < 300) (ha : okS K n a) (hb : okS K n b)
    (h : ∀ F', (∀ k, k ≠ 100 → k ≠ 149 → k ≠ 150 → F' k = F k) → (∀ j, j ≠ 51 → F' 100 j = F 100 j) → GM F' K (jn lo hi n a b).2.1 (jn lo hi n a b).2.2.1 (jn lo hi n a b).2.2.2 → Q (Int32.ofNat (Ph K (jn lo hi n a b).1)) (mem e w F' L g)) : wp_Model_gate z Q (ad e 100) (Int32.ofNat (Ph K a)) (Int32.ofNat (Ph K b)) (Int32.ofNat (fiS K)) (mem e w F L g) := by
  have hI := hM.1.1.2.1
  have hL0 := hM.1.1.2.2.1
  have hL1 := hM.2.1.1.2.2.1
  have inj : ∀ s s', okS K n s → okS K n s' → (Int32.ofNat (Ph K s) = Int32.ofNat (Ph K s') ↔ s = s') := fun s s' hs hs' => by
    have := Ph_lt hM (by omega) hs; have := Ph_lt hM (by omega) hs'
    rw [n_eq (by omega) (by omega)]
    exact ⟨Ph_inj hM hs hs', fun h => by rw [h]⟩
  have z0 : ∀ s, okS K n s → (Int32.ofNat (Ph K s) = 0 ↔ s = 0) := fun s hs => inj s 0 hs (ok0 K n).1
  have z1 : ∀ s, okS K n s → (Int32.ofNat (Ph K s) = 1 ↔ s = 1) := fun s hs => inj s 1 hs (ok0 K n).2
  have zx : Int32.ofNat (Ph K a) ^^^ Int32.ofNat (Ph K b) = 1 ↔ a = b ^^^ 1 := by
    have h1 := Ph_lt hM (by omega) ha
    have h2 := Ph_lt hM (by omega) hb
    have h3 : Ph K a ^^^ Ph K b < 4096 := Nat.xor_lt_two_pow (n := 12) h1 h2
    rw [n_xor, n_lit, n_eq (by omega) (by decide)]
    constructor
    · intro hh
      apply Ph_inj hM ha (okS.x1 (by decide) hb)
      rw [Ph_x1 (by decide), ← show Ph K a ^^^ Ph K b = 1 from hh, Nat.xor_comm (Ph K a), ← Nat.xor_assoc, Nat.xor_self, Nat.zero_xor]
    · intro hh
      show Ph K a ^^^ Ph K b = 1
      rw [hh, Ph_x1 (by decide), Nat.xor_comm (Ph K b), Nat.xor_assoc, Nat.xor_self, Nat.xor_zero]
  have kp := h F (fun _ _ _ _ => rfl) (fun _ _ => rfl)
  unfold wp_Model_gate wp_Model_gate_27
  rw [z0 a ha, z0 b hb, zx, z1 a ha, z1 b hb, inj a b ha hb]
  unfold jn at kp
  refine ⟨fun c1 => ?_, fun c1 => ⟨fun c2 => ?_, fun c2 => ⟨fun c3 => ⟨fun c4 => ?_, fun c4 => ⟨fun c5 => ⟨fun c6 => ?_, fun c6 => ?_⟩, fun c5 => ?_⟩⟩, fun c3 => ?_⟩⟩⟩
  · rw [if_pos (Or.inl c1)] at kp; have kq : Q (Int32.ofNat (Ph K 0)) (mem e w F L g) := kp hG; rw [(Ph0 K).1] at kq; exact kq
  · rw [if_pos (Or.inr (Or.inl c2))] at kp; have kq : Q (Int32.ofNat (Ph K 0)) (mem e w F L g) := kp hG; rw [(Ph0 K).1] at kq; exact kq
  · rw [if_neg (by omega), if_pos (Or.inl c4)] at kp; exact kp hG
  · -- the gates there are
    rw [if_neg (by omega), if_neg (by omega), if_neg c6] at kp
    obtain ⟨p1, p2, p3⟩ := fd_spec (gq lo hi a b) n
    have hpair := fun k (hk : k < n) => hG.pair hM (by omega) ha hb hk
    unfold jn at h
    rw [if_neg (by omega), if_neg (by omega), if_neg c6] at h
    generalize hfd : fd (gq lo hi a b) n = f at *
    unfold wp_Model_gate_39
    refine xloop_dn (fun m t => ∃ k, m = n - k ∧ k ≤ f ∧ t = (ad e 100, Int32.ofNat (Ph K a), Int32.ofNat (Ph K b), Int32.ofNat (fiS K), Int32.ofNat k, mem e w F L g)) ?_ n _ ⟨0, rfl, Nat.zero_le _, rfl⟩
    rintro m t cc ⟨k, rfl, hk1, rfl⟩ hk
    unfold wp_Model_gate_39_b; dsimp only
    repeat (first | ((with_reducible show ∃ _, _ ∧ _); first | refine s_fI (by rfl) (by rfl) (by rfl) ?_ | refine s_fR (by rfl) (by rfl) (by rfl) ?_ | refine s_pV (by rfl) (by rfl) (Nat.le_of_ble_eq_true rfl) (by rfl) ?_) | ((with_reducible show xcls _ _ _ ∧ _); refine s_cls (by rfl) (by rfl) ?_))
    rw [hG.1]
    refine ⟨fun hc => ?_, fun hc => ?_⟩ <;> rw [n_le (by omega) (by omega)] at hc
    · have : k = n := by omega
      subst this
      rw [if_neg (by omega)] at h
      repeat (first | ((with_reducible show ∃ _, _ ∧ _); first | refine s_fI (by rfl) (by rfl) (by rfl) ?_ | refine s_fR (by rfl) (by rfl) (by rfl) ?_ | refine s_pV (by rfl) (by rfl) (Nat.le_of_ble_eq_true rfl) (by rfl) ?_) | ((with_reducible show xcls _ _ _ ∧ _); refine s_cls (by rfl) (by rfl) ?_))
      rw [hG.1]
      refine s_sI (i := k) (by rfl) (by rfl) (by rfl) (by rfl) (by rfl) (by omega) (by decide) ?_
      repeat (first | ((with_reducible show ∃ _, _ ∧ _); first | refine s_fI (by rfl) (by rfl) (by rfl) ?_ | refine s_fR (by rfl) (by rfl) (by rfl) ?_ | refine s_pV (by rfl) (by rfl) (Nat.le_of_ble_eq_true rfl) (by rfl) ?_) | ((with_reducible show xcls _ _ _ ∧ _); refine s_cls (by rfl) (by rfl) ?_))
      rw [up_k (by decide), hG.1]
      refine s_sI (i := k) (by rfl) (by rfl) (by rfl) (by rfl) (by rfl) (by omega) (by decide) ?_
      repeat (first | ((with_reducible show ∃ _, _ ∧ _); first | refine s_fI (by rfl) (by rfl) (by rfl) ?_ | refine s_fR (by rfl) (by rfl) (by rfl) ?_ | refine s_pV (by rfl) (by rfl) (Nat.le_of_ble_eq_true rfl) (by rfl) ?_) | ((with_reducible show xcls _ _ _ ∧ _); refine s_cls (by rfl) (by rfl) ?_))
      rw [up_i, if_pos rfl, up_k (by decide), up_k (by decide), hG.1]
      rw [n_inc, n_add, show (1 : Int32) = Int32.ofNat 1 from rfl, n_sub (by omega), show (2 : Int32) = Int32.ofNat 2 from rfl, n_mul, show 2 * (fiS K + (k + 1) - 1) = Ph K (2 * (18 + k)) by
        unfold Ph phI
        rw [show 2 * (18 + k) / 2 = 18 + k by omega, if_neg (by omega), if_neg (by omega), if_neg (by omega)]; omega]
      refine h _ (fun q q1 q2 q3 => by rw [up_k q1, up_k q3, up_k q2]) (fun j hj => by rw [up_i, if_neg hj, up_k (by decide), up_k (by decide)]) ⟨by rw [up_i, if_pos rfl], fun j hj => ?_⟩
      dsimp only at hj ⊢
      rw [up_k (by decide), up_k (by decide), up_i, up_k (by decide), up_i]
      by_cases e0 : j = k
      · rw [if_pos e0, if_pos e0, e0, upN_eq, upN_eq]
        rcases Nat.le_total a b with hab | hab
        · rw [Nat.min_eq_left hab, Nat.max_eq_right hab]
          exact ⟨ha.mono (by omega), hb.mono (by omega), hab, Or.inl ⟨rfl, rfl⟩⟩
        · rw [Nat.min_eq_right hab, Nat.max_eq_left hab]
          exact ⟨hb.mono (by omega), ha.mono (by omega), hab, Or.inr ⟨rfl, rfl⟩⟩
      · rw [if_neg e0, if_neg e0, upN_ne e0, upN_ne e0]
        obtain ⟨r1, r2, r3, r4⟩ := hG.2 j (by omega)
        exact ⟨r1.mono (by omega), r2.mono (by omega), r3, r4⟩
    have hkn : k < n := by omega
    have found : k = f → wp_Model_gate_92 z Q (Int32.ofNat (fiS K)) (Int32.ofNat k) (mem e w F L g) := fun ee => by
      unfold wp_Model_gate_92
      rw [if_pos (by omega)] at kp
      have := kp hG
      rw [n_add, n_lit, n_mul, show OfNat.ofNat 2 * (fiS K + k) = Ph K (2 * (18 + k)) by
        show 2 * (fiS K + k) = _
        unfold Ph phI
        rw [show 2 * (18 + k) / 2 = 18 + k by omega, if_neg (by omega), if_neg (by omega), if_neg (by omega)]; omega]
      rw [ee]; exact this
    have step : gq lo hi a b k = false → wp_Model_gate_99 z Q cc (ad e 100) (Int32.ofNat (Ph K a)) (Int32.ofNat (Ph K b)) (Int32.ofNat (fiS K)) (Int32.ofNat k) (mem e w F L g) := fun hq => by
      unfold wp_Model_gate_99
      have hne : k ≠ f := fun ee => by have := p2 (by omega); rw [← ee, hq] at this; cases this
      exact hk (n - (k + 1)) _ (by omega) ⟨k + 1, rfl, by omega, by rw [n_lit, n_add]⟩
    have isf : gq lo hi a b k = true → k = f := fun hq => by
      apply Classical.byContradiction
      intro hne
      have := p3 k (by omega); rw [hq] at this; cases this
    have hp := hpair k hkn
    have second : ¬ (F 149 k = Int32.ofNat (Ph K a) ∧ F 150 k = Int32.ofNat (Ph K b)) → wp_Model_gate_70 z Q cc (ad e 100) (Int32.ofNat (Ph K a)) (Int32.ofNat (Ph K b)) (Int32.ofNat (fiS K)) (Int32.ofNat k) (mem e w F L g) := by
      intro hno
      unfold wp_Model_gate_70
      repeat (first | ((with_reducible show ∃ _, _ ∧ _); first | refine s_fI (by rfl) (by rfl) (by rfl) ?_ | refine s_fR (by rfl) (by rfl) (by rfl) ?_ | refine s_pV (by rfl) (by rfl) (Nat.le_of_ble_eq_true rfl) (by rfl) ?_) | ((with_reducible show xcls _ _ _ ∧ _); refine s_cls (by rfl) (by rfl) ?_))
      refine s_aI (i := k) (by rfl) (by rfl) (by rfl) (by rfl) (by omega) (by decide) ?_
      refine ⟨fun hx => step ?_, fun hx => ?_⟩
      · cases hq : gq lo hi a b k
        · rfl
        · rcases hp.mpr hq with hh | hh
          · exact absurd hh hno
          · exact absurd hh.1 hx
      repeat (first | ((with_reducible show ∃ _, _ ∧ _); first | refine s_fI (by rfl) (by rfl) (by rfl) ?_ | refine s_fR (by rfl) (by rfl) (by rfl) ?_ | refine s_pV (by rfl) (by rfl) (Nat.le_of_ble_eq_true rfl) (by rfl) ?_) | ((with_reducible show xcls _ _ _ ∧ _); refine s_cls (by rfl) (by rfl) ?_))
      refine s_aI (i := k) (by rfl) (by rfl) (by rfl) (by rfl) (by omega) (by decide) ?_
      refine ⟨fun hy => step ?_, fun hy => found (isf (hp.mp (Or.inr ⟨hx, hy⟩)))⟩
      cases hq : gq lo hi a b k
      · rfl
      · rcases hp.mpr hq with hh | hh
        · exact absurd hh hno
        · exact absurd hh.2 hy
    repeat (first | ((with_reducible show ∃ _, _ ∧ _); first | refine s_fI (by rfl) (by rfl) (by rfl) ?_ | refine s_fR (by rfl) (by rfl) (by rfl) ?_ | refine s_pV (by rfl) (by rfl) (Nat.le_of_ble_eq_true rfl) (by rfl) ?_) | ((with_reducible show xcls _ _ _ ∧ _); refine s_cls (by rfl) (by rfl) ?_))
    refine s_aI (i := k) (by rfl) (by rfl) (by rfl) (by rfl) (by omega) (by decide) ?_
    refine ⟨fun hx => second (fun hh => hx hh.1), fun hx => ?_⟩
    repeat (first | ((with_reducible show ∃ _, _ ∧ _); first | refine s_fI (by rfl) (by rfl) (by rfl) ?_ | refine s_fR (by rfl) (by rfl) (by rfl) ?_ | refine s_pV (by rfl) (by rfl) (Nat.le_of_ble_eq_true rfl) (by rfl) ?_) | ((with_reducible show xcls _ _ _ ∧ _); refine s_cls (by rfl) (by rfl) ?_))
    refine s_aI (i := k) (by rfl) (by rfl) (by rfl) (by rfl) (by omega) (by decide) ?_
    exact ⟨fun hy => found (isf (hp.mp (Or.inl ⟨hx, hy⟩))), fun hy => second (fun hh => hy hh.2)⟩
  · rw [if_neg (by omega), if_neg (by omega), if_pos c6] at kp; exact kp hG
  · rw [if_neg (by omega), if_pos (Or.inr c5)] at kp; exact kp hG
  · rw [if_pos (Or.inr (Or.inr c3))] at kp; have kq : Q (Int32.ofNat (Ph K 0)) (mem e w F L g) := kp hG; rw [(Ph0 K).1] at kq; exact kq
theorem v_msignal {Q : Int32 → xh → Prop} {c l s : Nat} (hc : c < 2) (hl : l < 402) (hs : F 148 (201 * c + l / 2) = Int32.ofNat (Ph K s)) (h : Q (Int32.ofNat (Ph K (s ^^^ (l % 2)))) (mem e w F L g)) : wp_Model_signal z Q (ad e 100) (Int32.ofNat c) (Int32.ofNat l) (mem e w F L g) := by
  unfold wp_Model_signal
  rw [n_rem (by omega), n_half (by omega)]
  repeat (first | ((with_reducible show ∃ _, _ ∧ _); first | refine s_fI (by rfl) (by rfl) (by rfl) ?_ | refine s_fR (by rfl) (by rfl) (by rfl) ?_ | refine s_pV (by rfl) (by rfl) (Nat.le_of_ble_eq_true rfl) (by rfl) ?_) | ((with_reducible show xcls _ _ _ ∧ _); refine s_cls (by rfl) (by rfl) ?_))
  refine s_aI (i := 201 * c + l / 2) (by rfl) (by rfl) (by rfl) (by rw [n_lit, n_mul, n_add]) (by omega) (by decide) ?_
  rw [hs, n_xor, ← Ph_x1 (Nat.mod_lt _ (by decide))]
  exact h
/-- the gates when c circuits have come -/
def ggs (K : Nat → Nat → Nat → Nat) : Nat → GS
  | 0 => (fun _ => 0, fun _ => 0, fun _ => 0, 0)
  | c + 1 => gC (K c) (6 + 6 * c) (ggs K c).2.1 (ggs K c).2.2.1 (ggs K c).2.2.2
theorem ggs2 (K : Nat → Nat → Nat → Nat) : (ggs K 2).2.2.2 = gN K := rfl
/-- signals of variables that have one -/
def SG (F : Nat → Nat → Int32) (K : Nat → Nat → Nat → Nat) (c n : Nat) (S : Nat → Nat) (P : Nat → Prop) : Prop := ∀ v, P v → F 148 (201 * c + v) = Int32.ofNat (Ph K (S v)) ∧ okS K n (S v)
theorem SG.put {c n m v s : Nat} {S : Nat → Nat} {P P' : Nat → Prop} (hnm : n ≤ m) (h : SG F K c n S P) (hP : ∀ u, P' u → u = v ∨ P u) (hs : okS K m s) : SG (up F 148 (201 * c + v) (Int32.ofNat (Ph K s))) K c m (upN S v s) P' := by
  intro u hu
  rw [up_i]
  by_cases e0 : u = v
  · rw [e0, if_pos rfl, upN_eq]; exact ⟨rfl, hs⟩
  · rw [if_neg (by omega), upN_ne e0]
    rcases hP u hu with hh | hh
    · exact absurd hh e0
    · exact ⟨(h u hh).1, (h u hh).2.mono hnm⟩
theorem SG.kept {F' : Nat → Nat → Int32} {c n m : Nat} {S : Nat → Nat} {P : Nat → Prop} (hnm : n ≤ m) (hF : F' 148 = F 148) (h : SG F K c n S P) : SG F' K c m S P := fun v hv => by rw [hF]; exact ⟨(h v hv).1, (h v hv).2.mono hnm⟩
theorem v_gates {Q : Int32 → xh → Prop} (hM : MK K) (hK : ∀ c, c < 2 → KM c F (K c)) (h51 : F 100 51 = 0)
    (h : ∀ F', (∀ k, k ≠ 100 → k < 148 ∨ 150 < k → F' k = F k) → (∀ j, j ≠ 51 → F' 100 j = F 100 j) → Q (Int32.ofNat (gN K)) (mem e w F' L g)) : wp_Model_gates_40 z Q (ad e 100) (Int32.ofNat (fiS K)) 0 (mem e w F L g) := by
  have hI := hM.1.1.2.1
  have hL0 := hM.1.1.2.2.1
  have hL1 := hM.2.1.1.2.2.1
  unfold wp_Model_gates_40
  refine xloop_dn (fun m a => ∃ c F', m = 2 - c ∧ c ≤ 2 ∧ a = (ad e 100, Int32.ofNat (fiS K), Int32.ofNat c, mem e w F' L g) ∧ (∀ k, k ≠ 100 → k < 148 ∨ 150 < k → F' k = F k) ∧ (∀ j, j ≠ 51 → F' 100 j = F 100 j) ∧ GM F' K (ggs K c).2.1 (ggs K c).2.2.1 (ggs K c).2.2.2 ∧ (ggs K c).2.2.2 ≤ 150 * c) ?_ 2 _ ⟨0, F, rfl, by omega, rfl, fun _ _ _ => rfl, fun _ _ => rfl, ⟨h51, fun k hk => absurd hk (Nat.not_lt_zero _)⟩, Nat.le_refl _⟩
  rintro m a cc ⟨c, F', rfl, hc2, rfl, g1, g2, g3, g4⟩ hk
  unfold wp_Model_gates_40_b; dsimp only
  refine ⟨fun hc => ?_, fun hc => ?_⟩ <;> rw [n_lit, n_le (by decide) (by omega)] at hc
  · have hc' : 2 ≤ c := hc
    have : c = 2 := by omega
    subst this
    repeat (first | ((with_reducible show ∃ _, _ ∧ _); first | refine s_fI (by rfl) (by rfl) (by rfl) ?_ | refine s_fR (by rfl) (by rfl) (by rfl) ?_ | refine s_pV (by rfl) (by rfl) (Nat.le_of_ble_eq_true rfl) (by rfl) ?_) | ((with_reducible show xcls _ _ _ ∧ _); refine s_cls (by rfl) (by rfl) ?_))
    rw [g3.1, ggs2]
    exact h F' g1 g2
  have hc' : ¬ 2 ≤ c := hc
  have hcl : c < 2 := by omega
  have hWF := hM.wf hcl
  have hM5 := hWF.1
  repeat (first | ((with_reducible show ∃ _, _ ∧ _); first | refine s_fI (by rfl) (by rfl) (by rfl) ?_ | refine s_fR (by rfl) (by rfl) (by rfl) ?_ | refine s_pV (by rfl) (by rfl) (Nat.le_of_ble_eq_true rfl) (by rfl) ?_) | ((with_reducible show xcls _ _ _ ∧ _); refine s_cls (by rfl) (by rfl) ?_))
  refine s_sI (i := 201 * c) (by rfl) (by rfl) (by rfl) (by rfl) (by exact n_mul 201 c) (by omega) (by decide) ?_
  -- all that the loops keep
  have hKF : ∀ F2 : Nat → Nat → Int32, (∀ k, k ≠ 100 → k < 148 ∨ 150 < k → F2 k = F k) → KM c F2 (K c) ∧ F2 110 1 = Int32.ofNat (K 0 0 1) ∧ F2 110 2 = Int32.ofNat (K 0 0 2) := fun F2 k2 => ⟨KM.kept (fun k q1 q2 => k2 k (by omega) (by omega)) (hK c hcl), by rw [k2 110 (by decide) (by decide)]; exact (hK 0 (by decide)).1 1 (by decide), by rw [k2 110 (by decide) (by decide)]; exact (hK 0 (by decide)).1 2 (by decide)⟩
  have hv0 : ∀ v, K c 8 v ≠ 0 → v ≤ 200 ∧ v ≠ 0 := fun v hv => hWF.var hv
  unfold wp_Model_gates_58
  refine xloop_dn (fun m a => ∃ k F2, m = K 0 0 1 - k ∧ k ≤ K 0 0 1 ∧ a = (ad e 100, Int32.ofNat (fiS K), Int32.ofNat c, Int32.ofNat k, mem e w F2 L g) ∧ (∀ q, q ≠ 148 → F2 q = F' q) ∧ SG F2 K c (ggs K c).2.2.2 (zI (K c) k) (fun v => v = 0 ∨ ∃ k', k' < k ∧ K c 1 k' = v)) ?_ (K 0 0 1) _ ⟨0, _, rfl, Nat.zero_le _, rfl, fun q hq => up_k hq, fun v hv => ?_⟩
  rotate_left
  · rcases hv with rfl | ⟨k', hk', _⟩
    · rw [up_i, if_pos (by omega)]
      exact ⟨by show (0 : Int32) = Int32.ofNat (Ph K 0); rw [(Ph0 K).1]; rfl, (ok0 K _).1⟩
    · omega
  rintro m a cc2 ⟨k, F2, rfl, hk1, rfl, r1, r2⟩ hk2
  unfold wp_Model_gates_58_b; dsimp only
  have hF2 : ∀ q, q ≠ 100 → q < 148 ∨ 150 < q → F2 q = F q := fun q q1 q2 => by rw [r1 q (by omega)]; exact g1 q q1 q2
  obtain ⟨hKM, h1, h2⟩ := hKF F2 hF2
  repeat (first | ((with_reducible show ∃ _, _ ∧ _); first | refine s_fI (by rfl) (by rfl) (by rfl) ?_ | refine s_fR (by rfl) (by rfl) (by rfl) ?_ | refine s_pV (by rfl) (by rfl) (Nat.le_of_ble_eq_true rfl) (by rfl) ?_) | ((with_reducible show xcls _ _ _ ∧ _); refine s_cls (by rfl) (by rfl) ?_))
  refine s_aI (i := 1) (by rfl) (by rfl) (by rfl) (by rfl) (by decide) (by decide) ?_
  rw [h1]
  have hIc := hM.inp hcl
  refine ⟨fun hc => ?_, fun hc => ?_⟩ <;> rw [n_le (by omega) (by omega)] at hc
  rotate_left
  · have hkI : k < K c 0 1 := by omega
    have h8 := hv0 _ (by have := hWF.2.2.1.1 k hkI; omega : K c 8 (K c 1 k) ≠ 0)
    repeat (first | ((with_reducible show ∃ _, _ ∧ _); first | refine s_fI (by rfl) (by rfl) (by rfl) ?_ | refine s_fR (by rfl) (by rfl) (by rfl) ?_ | refine s_pV (by rfl) (by rfl) (Nat.le_of_ble_eq_true rfl) (by rfl) ?_) | ((with_reducible show xcls _ _ _ ∧ _); refine s_cls (by rfl) (by rfl) ?_))
    refine s_aI (i := 5 * c + k) (by rfl) (by rfl) (by rfl) (by rw [n_lit, n_mul, n_add]) (by omega) (by decide) ?_
    rw [hKM.2.2.2.1 k hkI, n_half (by omega), show 2 * K c 1 k / 2 = K c 1 k by omega, show (1 : Int32) + Int32.ofNat k = Int32.ofNat (1 + k) from n_add 1 k, show (2 : Int32) * Int32.ofNat (1 + k) = Int32.ofNat (2 * (1 + k)) from n_mul 2 (1 + k), show 2 * (1 + k) = Ph K (2 * (1 + k)) by
      unfold Ph phI
      rw [show 2 * (1 + k) / 2 = 1 + k by omega, if_pos (by omega)]; omega]
    refine s_sI (i := 201 * c + K c 1 k) (by rfl) (by rfl) (by rfl) (by rfl) (by rw [n_lit, n_mul, n_add]) (by omega) (by decide) ?_
    refine hk2 (K 0 0 1 - (k + 1)) _ (by omega) ⟨k + 1, _, rfl, by omega, by rw [n_inc], fun q hq => by rw [up_k hq]; exact r1 q hq, ?_⟩
    refine SG.put (Nat.le_refl _) r2 (fun u hu => ?_) ?_
    · rcases hu with rfl | ⟨k', hk', he⟩
      · exact Or.inr (Or.inl rfl)
      · by_cases e0 : k' = k
        · rw [e0] at he; exact Or.inl he.symm
        · exact Or.inr (Or.inr ⟨k', by omega, he⟩)
    · unfold okS; omega
  clear hk2
  have : k = K 0 0 1 := by omega
  subst this
  rw [← hIc] at r2
  unfold wp_Model_gates_104
  refine xloop_dn (fun m a => ∃ k F3, m = K c 0 2 - k ∧ k ≤ K c 0 2 ∧ a = (ad e 100, Int32.ofNat (fiS K), Int32.ofNat c, Int32.ofNat k, mem e w F3 L g) ∧ (∀ q, q ≠ 148 → F3 q = F' q) ∧ SG F3 K c (ggs K c).2.2.2 (zL (K c) (6 + 6 * c) (zI (K c) (K c 0 1)) k) (fun v => v = 0 ∨ (∃ k', k' < K c 0 1 ∧ K c 1 k' = v) ∨ (∃ k', k' < k ∧ K c 2 k' = v))) ?_ (K c 0 2) _ ⟨0, F2, rfl, Nat.zero_le _, rfl, r1, fun v hv => r2 v ?_⟩
  rotate_left
  · rcases hv with hv | hv | ⟨k', hk', _⟩
    · exact Or.inl hv
    · exact Or.inr hv
    · omega
  rintro m a cc2 ⟨k, F3, rfl, hk1', rfl, s1, s2⟩ hk2
  unfold wp_Model_gates_104_b; dsimp only
  have hF3 : ∀ q, q ≠ 100 → q < 148 ∨ 150 < q → F3 q = F q := fun q q1 q2 => by rw [s1 q (by omega)]; exact g1 q q1 q2
  obtain ⟨hKM, h1, h2⟩ := hKF F3 hF3
  repeat (first | ((with_reducible show ∃ _, _ ∧ _); first | refine s_fI (by rfl) (by rfl) (by rfl) ?_ | refine s_fR (by rfl) (by rfl) (by rfl) ?_ | refine s_pV (by rfl) (by rfl) (Nat.le_of_ble_eq_true rfl) (by rfl) ?_) | ((with_reducible show xcls _ _ _ ∧ _); refine s_cls (by rfl) (by rfl) ?_))
  refine s_aI (i := 5 * c + 2) (by rfl) (by rfl) (by rfl) (by rw [n_lit, n_mul, n_lit, n_add]) (by omega) (by decide) ?_
  rw [hKM.1 2 (by decide)]
  refine ⟨fun hc => ?_, fun hc => ?_⟩ <;> rw [n_le (by omega) (by omega)] at hc
  rotate_left
  · have hkL : k < K c 0 2 := by omega
    have h8 := hv0 _ (by have := hWF.2.2.1.2.1 k hkL; omega : K c 8 (K c 2 k) ≠ 0)
    have put : ∀ (v : Nat), v = Ph K (2 * (6 + 6 * c + k)) → ∃ h1, sI (mem e w F3 L g) (ad e 148) 0 (Int32.ofNat (201 * c + K c 2 k)) (Int32.ofNat v) = some h1 ∧ (cc2 (ad e 100, Int32.ofNat (fiS K), Int32.ofNat c, (Int32.ofNat (k + 1)), h1)) := by
      intro v hv
      refine s_sI (i := 201 * c + K c 2 k) (by rfl) (by rfl) (by rfl) (by rfl) (by rfl) (by omega) (by decide) ?_
      rw [hv]
      refine hk2 (K c 0 2 - (k + 1)) _ (by omega) ⟨k + 1, _, rfl, by omega, rfl, fun q hq => by rw [up_k hq]; exact s1 q hq, ?_⟩
      refine SG.put (Nat.le_refl _) s2 (fun u hu => ?_) ?_
      · rcases hu with rfl | hu | ⟨k', hk', he⟩
        · exact Or.inr (Or.inl rfl)
        · exact Or.inr (Or.inr (Or.inl hu))
        · by_cases e0 : k' = k
          · rw [e0] at he; exact Or.inl he.symm
          · exact Or.inr (Or.inr (Or.inr ⟨k', by omega, he⟩))
      · have hcc : (c = 0 ∧ K c 0 2 = K 0 0 2) ∨ (c = 1 ∧ K c 0 2 = K 1 0 2) := by rcases c_cases hcl with rfl | rfl; exact Or.inl ⟨rfl, rfl⟩; exact Or.inr ⟨rfl, rfl⟩
        unfold okS; omega
    repeat (first | ((with_reducible show ∃ _, _ ∧ _); first | refine s_fI (by rfl) (by rfl) (by rfl) ?_ | refine s_fR (by rfl) (by rfl) (by rfl) ?_ | refine s_pV (by rfl) (by rfl) (Nat.le_of_ble_eq_true rfl) (by rfl) ?_) | ((with_reducible show xcls _ _ _ ∧ _); refine s_cls (by rfl) (by rfl) ?_))
    refine s_aI (i := 7 * c + k) (by rfl) (by rfl) (by rfl) (by rw [n_lit, n_mul, n_add]) (by omega) (by decide) ?_
    rw [(hKM.2.2.2.2.1 k hkL).1, n_half (by omega), show 2 * K c 2 k / 2 = K c 2 k by omega]
    repeat (first | ((with_reducible show ∃ _, _ ∧ _); first | refine s_fI (by rfl) (by rfl) (by rfl) ?_ | refine s_fR (by rfl) (by rfl) (by rfl) ?_ | refine s_pV (by rfl) (by rfl) (Nat.le_of_ble_eq_true rfl) (by rfl) ?_) | ((with_reducible show xcls _ _ _ ∧ _); refine s_cls (by rfl) (by rfl) ?_))
    refine s_aI (i := 1) (by rfl) (by rfl) (by rfl) (by rfl) (by decide) (by decide) ?_
    rw [h1]
    unfold wp_Model_gates_164
    rcases c_cases hcl with rfl | rfl
    · refine ⟨fun hh => absurd rfl hh, fun _ => ?_⟩
      have := put (2 * (1 + K 0 0 1 + 0 + k)) (by
        unfold Ph phI
        rw [show 2 * (6 + 6 * 0 + k) / 2 = 6 + k by omega, if_neg (by omega), if_pos (by omega)]; omega)
      rw [← n_mul, ← n_add, ← n_add, ← n_add] at this
      rw [← n_add, ← n_add, ← n_mul] at this
      exact this
    · refine ⟨fun _ => ?_, fun hh => absurd hh (by decide)⟩
      repeat (first | ((with_reducible show ∃ _, _ ∧ _); first | refine s_fI (by rfl) (by rfl) (by rfl) ?_ | refine s_fR (by rfl) (by rfl) (by rfl) ?_ | refine s_pV (by rfl) (by rfl) (Nat.le_of_ble_eq_true rfl) (by rfl) ?_) | ((with_reducible show xcls _ _ _ ∧ _); refine s_cls (by rfl) (by rfl) ?_))
      refine s_aI (i := 2) (by rfl) (by rfl) (by rfl) (by rfl) (by decide) (by decide) ?_
      rw [h2]
      have := put (2 * (1 + K 0 0 1 + K 0 0 2 + k)) (by
        unfold Ph phI
        rw [show 2 * (6 + 6 * 1 + k) / 2 = 12 + k by omega, if_neg (by omega), if_neg (by omega), if_pos (by omega)]; omega)
      rw [← n_mul, ← n_add, ← n_add, ← n_add] at this
      rw [← n_add, ← n_add, ← n_mul] at this
      exact this
  clear hk2
  have : k = K c 0 2 := by omega
  subst this
  -- the ands
  unfold wp_Model_gates_177
  refine xloop_dn (fun m a => ∃ y F4, m = K c 0 4 - y ∧ y ≤ K c 0 4 ∧ a = (ad e 100, Int32.ofNat (fiS K), Int32.ofNat c, Int32.ofNat y, mem e w F4 L g) ∧ (∀ q, q ≠ 100 → q < 148 ∨ 150 < q → F4 q = F q) ∧ (∀ j, j ≠ 51 → F4 100 j = F 100 j) ∧ SG F4 K c (gA (K c) (zL (K c) (6 + 6 * c) (zI (K c) (K c 0 1)) (K c 0 2)) (ggs K c).2.1 (ggs K c).2.2.1 (ggs K c).2.2.2 y).2.2.2 (gA (K c) (zL (K c) (6 + 6 * c) (zI (K c) (K c 0 1)) (K c 0 2)) (ggs K c).2.1 (ggs K c).2.2.1 (ggs K c).2.2.2 y).1 (asg (K c) y) ∧ GM F4 K (gA (K c) (zL (K c) (6 + 6 * c) (zI (K c) (K c 0 1)) (K c 0 2)) (ggs K c).2.1 (ggs K c).2.2.1 (ggs K c).2.2.2 y).2.1 (gA (K c) (zL (K c) (6 + 6 * c) (zI (K c) (K c 0 1)) (K c 0 2)) (ggs K c).2.1 (ggs K c).2.2.1 (ggs K c).2.2.2 y).2.2.1 (gA (K c) (zL (K c) (6 + 6 * c) (zI (K c) (K c 0 1)) (K c 0 2)) (ggs K c).2.1 (ggs K c).2.2.1 (ggs K c).2.2.2 y).2.2.2) ?_ (K c 0 4) _ ⟨0, F3, rfl, Nat.zero_le _, rfl, hF3, fun j hj => by rw [s1 100 (by decide)]; exact g2 j hj, fun v hv => s2 v ?_, ?_⟩
  rotate_left
  · rcases hv with hv | hv | hv | ⟨y', hy', _⟩
    · exact Or.inl hv
    · exact Or.inr (Or.inl hv)
    · exact Or.inr (Or.inr hv)
    · omega
  · unfold GM
    rw [s1 100 (by decide), s1 149 (by decide), s1 150 (by decide)]
    exact g3
  rintro m a cc2 ⟨y, F4, rfl, hy1, rfl, t1, t2, t3, t4⟩ hk2
  have hcnt := gA_cnt (K c) (zL (K c) (6 + 6 * c) (zI (K c) (K c 0 1)) (K c 0 2)) (ggs K c).2.1 (ggs K c).2.2.1 (ggs K c).2.2.2 y
  unfold wp_Model_gates_177_b; dsimp only
  obtain ⟨hKM, h1, h2⟩ := hKF F4 t1
  repeat (first | ((with_reducible show ∃ _, _ ∧ _); first | refine s_fI (by rfl) (by rfl) (by rfl) ?_ | refine s_fR (by rfl) (by rfl) (by rfl) ?_ | refine s_pV (by rfl) (by rfl) (Nat.le_of_ble_eq_true rfl) (by rfl) ?_) | ((with_reducible show xcls _ _ _ ∧ _); refine s_cls (by rfl) (by rfl) ?_))
  refine s_aI (i := 5 * c + 4) (by rfl) (by rfl) (by rfl) (by rw [n_lit, n_mul, n_lit, n_add]) (by omega) (by decide) ?_
  rw [hKM.1 4 (by decide)]
  refine ⟨fun hc => ?_, fun hc => ?_⟩ <;> rw [n_le (by omega) (by omega)] at hc
  · have : y = K c 0 4 := by omega
    subst this
    refine hk (2 - (c + 1)) _ (by omega) ⟨c + 1, F4, rfl, by omega, by rw [n_inc], t1, t2, t4, ?_⟩
    show (gA _ _ _ _ _ _).2.2.2 ≤ _
    omega
  have hyl : y < K c 0 4 := by omega
  obtain ⟨y11, y127, y115, y116, y117⟩ := hKM.2.2.1 y hyl
  have d6 := (hWF.2.2.2.2.1.2.2 y hyl)
  have l6 := (hWF.lit d6.1)
  have l7 := (hWF.lit d6.2)
  have a6 := hWF.asg hyl (Or.inl rfl)
  have a7 := hWF.asg hyl (Or.inr rfl)
  have h8 := hv0 _ (by have := hWF.2.2.1.2.2 y hyl; omega : K c 8 (K c 5 y) ≠ 0)
  repeat (first | ((with_reducible show ∃ _, _ ∧ _); first | refine s_fI (by rfl) (by rfl) (by rfl) ?_ | refine s_fR (by rfl) (by rfl) (by rfl) ?_ | refine s_pV (by rfl) (by rfl) (Nat.le_of_ble_eq_true rfl) (by rfl) ?_) | ((with_reducible show xcls _ _ _ ∧ _); refine s_cls (by rfl) (by rfl) ?_))
  refine s_aI (i := 150 * c + y) (by rfl) (by rfl) (by rfl) (by rw [n_lit, n_mul, n_add]) (by omega) (by decide) ?_
  rw [y127, show (150 : Int32) * Int32.ofNat c + Int32.ofNat (K c 11 y) = Int32.ofNat (150 * c + K c 11 y) by rw [n_lit, n_mul, n_add]]
  rintro v5 rfl
  repeat (first | ((with_reducible show ∃ _, _ ∧ _); first | refine s_fI (by rfl) (by rfl) (by rfl) ?_ | refine s_fR (by rfl) (by rfl) (by rfl) ?_ | refine s_pV (by rfl) (by rfl) (Nat.le_of_ble_eq_true rfl) (by rfl) ?_) | ((with_reducible show xcls _ _ _ ∧ _); refine s_cls (by rfl) (by rfl) ?_))
  refine s_aI (i := 150 * c + K c 11 y) (by rfl) (by rfl) (by rfl) (by rfl) (by omega) (by decide) ?_
  rw [y115]
  repeat (first | ((with_reducible show ∃ _, _ ∧ _); first | refine s_fI (by rfl) (by rfl) (by rfl) ?_ | refine s_fR (by rfl) (by rfl) (by rfl) ?_ | refine s_pV (by rfl) (by rfl) (Nat.le_of_ble_eq_true rfl) (by rfl) ?_) | ((with_reducible show xcls _ _ _ ∧ _); refine s_cls (by rfl) (by rfl) ?_))
  refine s_aI (i := 150 * c + K c 11 y) (by rfl) (by rfl) (by rfl) (by rfl) (by omega) (by decide) ?_
  rw [y116]
  repeat (first | ((with_reducible show ∃ _, _ ∧ _); first | refine s_fI (by rfl) (by rfl) (by rfl) ?_ | refine s_fR (by rfl) (by rfl) (by rfl) ?_ | refine s_pV (by rfl) (by rfl) (Nat.le_of_ble_eq_true rfl) (by rfl) ?_) | ((with_reducible show xcls _ _ _ ∧ _); refine s_cls (by rfl) (by rfl) ?_))
  refine v_msignal (K := K) hcl (by omega) (t3 _ a6).1 ?_
  repeat (first | ((with_reducible show ∃ _, _ ∧ _); first | refine s_fI (by rfl) (by rfl) (by rfl) ?_ | refine s_fR (by rfl) (by rfl) (by rfl) ?_ | refine s_pV (by rfl) (by rfl) (Nat.le_of_ble_eq_true rfl) (by rfl) ?_) | ((with_reducible show xcls _ _ _ ∧ _); refine s_cls (by rfl) (by rfl) ?_))
  refine s_aI (i := 150 * c + K c 11 y) (by rfl) (by rfl) (by rfl) (by rfl) (by omega) (by decide) ?_
  rw [y117]
  repeat (first | ((with_reducible show ∃ _, _ ∧ _); first | refine s_fI (by rfl) (by rfl) (by rfl) ?_ | refine s_fR (by rfl) (by rfl) (by rfl) ?_ | refine s_pV (by rfl) (by rfl) (Nat.le_of_ble_eq_true rfl) (by rfl) ?_) | ((with_reducible show xcls _ _ _ ∧ _); refine s_cls (by rfl) (by rfl) ?_))
  refine v_msignal (K := K) hcl (by omega) (t3 _ a7).1 ?_
  repeat (first | ((with_reducible show ∃ _, _ ∧ _); first | refine s_fI (by rfl) (by rfl) (by rfl) ?_ | refine s_fR (by rfl) (by rfl) (by rfl) ?_ | refine s_pV (by rfl) (by rfl) (Nat.le_of_ble_eq_true rfl) (by rfl) ?_) | ((with_reducible show xcls _ _ _ ∧ _); refine s_cls (by rfl) (by rfl) ?_))
  refine v_mgate hM t4 (by omega) (okS.x1 (Nat.mod_lt _ (by decide)) (t3 _ a6).2) (okS.x1 (Nat.mod_lt _ (by decide)) (t3 _ a7).2) (fun F5 u1 u2 u3 => ?_)
  rw [n_half (by omega), show 2 * K c 5 y / 2 = K c 5 y by omega]
  refine s_sI (i := 201 * c + K c 5 y) (by rfl) (by rfl) (by rfl) (by rfl) (by rw [n_lit, n_mul, n_add]) (by omega) (by decide) ?_
  refine hk2 (K c 0 4 - (y + 1)) _ (by omega) ⟨y + 1, _, rfl, by omega, by rw [n_lit, n_add], fun q q1 q2 => by rw [up_k (by omega), u1 q q1 (by omega) (by omega)]; exact t1 q q1 q2, fun j hj => by rw [up_k (by decide), u2 j hj]; exact t2 j hj, ?_, ?_⟩
  · refine SG.put (jn_cnt _ _ _ _ _).1 (SG.kept (Nat.le_refl _) (u1 148 (by decide) (by decide) (by decide)) t3) (fun u hu => ?_) (jn_ok (okS.x1 (Nat.mod_lt _ (by decide)) (t3 _ a6).2) (okS.x1 (Nat.mod_lt _ (by decide)) (t3 _ a7).2))
    rcases hu with hu | hu | hu | ⟨y', hy', he⟩
    · exact Or.inr (Or.inl hu)
    · exact Or.inr (Or.inr (Or.inl hu))
    · exact Or.inr (Or.inr (Or.inr (Or.inl hu)))
    · by_cases e0 : y' = y
      · rw [e0] at he; exact Or.inl he.symm
      · exact Or.inr (Or.inr (Or.inr (Or.inr ⟨y', by omega, he⟩)))
  · unfold GM at u3 ⊢
    rw [up_k (by decide), up_k (by decide), up_k (by decide)]
    exact u3
end
section
variable {e : xenv} {w : Bool} {F : Nat → Nat → Int32} {L : Nat → Nat → Int64} {g : xh} {z : Nat → Nat} {D : Nat → Option (Nat → Nat → Nat)}
theorem v_Model_gates {Q : Int32 → xh → Prop} (hR : RM F D) (hW : WD D) (hS : SM F L D)
    (h0 : ¬ mt D → ∀ F' L', eM F L D F' L' → F' 100 0 = 1 → Q 0 (mem e w F' L' g))
    (h1 : mt D → ∀ F' L', eM F L D F' L' → F' 100 0 = 0 → Q (Int32.ofNat (gN (kd D))) (mem e w F' L' g)) : wp_Model_gates z Q (ad e 100) (mem e w F L g) := by
  unfold wp_Model_gates
  repeat (first | ((with_reducible show ∃ _, _ ∧ _); first | refine s_fI (by rfl) (by rfl) (by rfl) ?_ | refine s_fR (by rfl) (by rfl) (by rfl) ?_ | refine s_pV (by rfl) (by rfl) (Nat.le_of_ble_eq_true rfl) (by rfl) ?_) | ((with_reducible show xcls _ _ _ ∧ _); refine s_cls (by rfl) (by rfl) ?_))
  refine v_none hR hW hS (fun hno F' f1 f2 f3 => ?_) (fun hm F' L' f1 f2 f3 f4 f5 => ?_)
  · exact ⟨fun hh => absurd hh (by decide), fun _ => h0 hno F' L ⟨f1, fun _ _ => rfl, f2⟩ f3⟩
  refine ⟨fun _ => ?_, fun hh => absurd rfl hh⟩
  have hM := hm.MK hW
  have hK : ∀ c, c < 2 → KM c (up F' 100 51 0) (kd D c) := fun c hc => KM.kept (fun k q1 q2 => by rw [up_k (by omega)]) (hm.KM (RM.fS f1 hR) c hc)
  repeat (first | ((with_reducible show ∃ _, _ ∧ _); first | refine s_fI (by rfl) (by rfl) (by rfl) ?_ | refine s_fR (by rfl) (by rfl) (by rfl) ?_ | refine s_pV (by rfl) (by rfl) (Nat.le_of_ble_eq_true rfl) (by rfl) ?_) | ((with_reducible show xcls _ _ _ ∧ _); refine s_cls (by rfl) (by rfl) ?_))
  refine s_aI (i := 1) (by rfl) (by rfl) (by rfl) (by rfl) (by decide) (by decide) ?_
  rw [show up F' 100 51 0 110 1 = Int32.ofNat (kd D 0 0 1) from (hK 0 (by decide)).1 1 (by decide)]
  repeat (first | ((with_reducible show ∃ _, _ ∧ _); first | refine s_fI (by rfl) (by rfl) (by rfl) ?_ | refine s_fR (by rfl) (by rfl) (by rfl) ?_ | refine s_pV (by rfl) (by rfl) (Nat.le_of_ble_eq_true rfl) (by rfl) ?_) | ((with_reducible show xcls _ _ _ ∧ _); refine s_cls (by rfl) (by rfl) ?_))
  refine s_aI (i := 2) (by rfl) (by rfl) (by rfl) (by rfl) (by decide) (by decide) ?_
  rw [show up F' 100 51 0 110 2 = Int32.ofNat (kd D 0 0 2) from (hK 0 (by decide)).1 2 (by decide)]
  repeat (first | ((with_reducible show ∃ _, _ ∧ _); first | refine s_fI (by rfl) (by rfl) (by rfl) ?_ | refine s_fR (by rfl) (by rfl) (by rfl) ?_ | refine s_pV (by rfl) (by rfl) (Nat.le_of_ble_eq_true rfl) (by rfl) ?_) | ((with_reducible show xcls _ _ _ ∧ _); refine s_cls (by rfl) (by rfl) ?_))
  refine s_aI (i := 7) (by rfl) (by rfl) (by rfl) (by rfl) (by decide) (by decide) ?_
  rw [show up F' 100 51 0 110 7 = Int32.ofNat (kd D 1 0 2) from (hK 1 (by decide)).1 2 (by decide), show (1 : Int32) + Int32.ofNat (kd D 0 0 1) + Int32.ofNat (kd D 0 0 2) + Int32.ofNat (kd D 1 0 2) = Int32.ofNat (fiS (kd D)) by rw [n_lit, n_add, n_add, n_add]; rfl]
  rintro v rfl
  refine v_gates hM hK (by rw [up_i, if_pos rfl]) (fun F2 k2 z2 => ?_)
  refine h1 hm F2 L' ⟨⟨fun k hk => ?_, fun j q1 q2 => ?_⟩, f2, Or.inr ⟨hm, ?_, ?_⟩⟩ ?_
  · rw [k2 k (by omega) (by omega), up_k (by omega)]; exact f1.1 k hk
  · rw [z2 j (by omega), up_i, if_neg (by omega)]; exact f1.2 j q1 q2
  · rw [z2 33 (by decide), up_i, if_neg (by decide)]; exact f4
  · exact MF.kept (fun j q1 q2 => by rw [z2 j q2, up_i, if_neg q2]) (fun k q1 q2 => by rw [k2 k (by omega) (by omega), up_k (by omega)]) rfl f5
  · rw [z2 0 (by decide), up_i, if_neg (by decide)]; exact f3
end
