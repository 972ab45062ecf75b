/-! The reference reads symbols. -/
def mo (kd : Nat) : Nat := if kd = 0 then 44 else if kd = 1 then 50 else 58
theorem lyM_nm {kd : Nat} (h : kd < 3) : lyM (50 + kd) = (124, 40 * mo kd, 40 * sz3 kd) ∧ lyM (40 + kd) = (125, mo kd, sz3 kd) ∧ mo kd + sz3 kd ≤ 66 ∧ 44 ≤ mo kd := by
  rcases kd3 h with rfl | rfl | rfl <;> exact ⟨rfl, rfl, by decide, by decide⟩
theorem VM_nm {kd : Nat} (x : Nat) : VM (50 + kd) x = nb x := by unfold VM; rw [if_neg (by omega), if_neg (by omega)]
theorem VM_ln {kd : Nat} (h : kd < 3) (x : Nat) : VM (40 + kd) x = Int32.ofNat x := by unfold VM; rw [if_neg (by omega), if_pos (by omega)]
theorem st_st {S : RW} {r i x y : Nat} : st (st S r i x) r i y = st S r i y := by
  funext t j
  by_cases e1 : t = r
  · subst e1
    rw [st_r, st_r, st_r]
    by_cases e2 : j = i
    · rw [if_pos e2, if_pos e2]
    · rw [if_neg e2, if_neg e2, if_neg e2]
  · by_cases e2 : t = r + 100
    · subst e2
      rw [st_m, st_m, st_m]
      by_cases e3 : j = i
      · rw [if_pos e3, if_pos e3]
      · rw [if_neg e3, if_neg e3]
    · rw [st_o e1 e2, st_o e1 e2, st_o e1 e2]
section
variable {e : xenv} {w : Bool} {L : Nat → Nat → Int64} {g : xh} {z : Nat → Nat} {b : Nat → Nat} {n : Nat} {F0 F F' : Nat → Nat → Int32} {S S' : RW} {p q s nu : Nat} {Q : xh → Prop} {Qi : Int32 → xh → Prop} {r : RS}
theorem iv_neg {x : Nat} (hx : x ≤ 256) : iv x < 0 ↔ x = 256 := by
  unfold iv
  by_cases h : x = 256
  · rw [if_pos h]; exact ⟨fun _ => h, fun _ => by decide⟩
  · rw [if_neg h]; exact ⟨fun hh => absurd hh (n_pos x (by omega)), fun hh => absurd hh h⟩
theorem m_symbols {f : Nat} (hT : TM F0 b n) (h : MS n F0 F S p) (hB : BI S nu) (hf : n ≤ p + f) (hQ : ∀ F', MX n F0 F' (syA b f S p) → Q (mem e w F' L g)) : wp_Model_takeSymbols z Q (ad e 100) (mem e w F L g) := by
  have hn := hT.2.1
  unfold wp_Model_takeSymbols wp_Model_takeSymbols_0
  refine xloop_dn (fun m a => ∃ r2 F2, a = (ad e 100, mem e w F2 L g) ∧ MX n F0 F2 r2 ∧ ((∃ c q, r2 = .error (c, q) ∧ ∀ F', EM n F0 F' c q → Q (mem e w F' L g)) ∨ (∃ S2 p2 v2 f2, m = n + 1 - p2 ∧ r2 = .ok (S2, p2, v2) ∧ BI S2 nu ∧ n ≤ p2 + f2 ∧ ∀ F', MX n F0 F' (syA b f2 S2 p2) → Q (mem e w F' L g)))) ?_ (n + 1 - p) _ ⟨.ok (S, p, 0), F, rfl, h, Or.inr ⟨S, p, 0, f, rfl, rfl, hB, hf, hQ⟩⟩
  rintro m a cc ⟨r2, F2, rfl, h2, hor⟩ hk
  unfold wp_Model_takeSymbols_0_b; dsimp only
  rcases hor with ⟨c, q, rfl, hq⟩ | ⟨S2, p2, v2, f2, rfl, rfl, hB2, hf2, hq2⟩
  · have hE : EM n F0 F2 c q := h2
    repeat (first | ((with_reducible show ∃ _, _ ∧ _); first | refine s_fI (by rfl) (by rfl) (by rfl) ?_ | refine s_fR (by rfl) (by rfl) (by rfl) ?_ | refine s_pV (by rfl) (by rfl) (Nat.le_of_ble_eq_true rfl) (by rfl) ?_) | ((with_reducible show xcls _ _ _ ∧ _); refine s_cls (by rfl) (by rfl) ?_))
    refine ⟨fun _ => ?_, fun hh => absurd hh hE.ne.2⟩
    unfold wp_Model_takeSymbols_274
    repeat (first | ((with_reducible show ∃ _, _ ∧ _); first | refine s_fI (by rfl) (by rfl) (by rfl) ?_ | refine s_fR (by rfl) (by rfl) (by rfl) ?_ | refine s_pV (by rfl) (by rfl) (Nat.le_of_ble_eq_true rfl) (by rfl) ?_) | ((with_reducible show xcls _ _ _ ∧ _); refine s_cls (by rfl) (by rfl) ?_))
    refine ⟨fun _ => hq F2 hE, fun hh => ?_⟩
    exact absurd (by rw [hE.2.2.1.1, show (0 : Int32) = Int32.ofNat 0 from rfl, n_lt (by decide) (by have := hE.2.2.1.2.2; omega)]; have := hE.2.2.1.2.1; omega) hh
  have h2 : MS n F0 F2 S2 p2 := h2
  have hp2 := h2.2.2.1
  have hb256 := hT.le p2
  -- a fault in a symbol: all else is skipped
  have err : ∀ (x : Int32) F3 c q, EM n F0 F3 c q → (∀ F', EM n F0 F' c q → Q (mem e w F' L g)) → wp_Model_takeSymbols_265 z Q cc (ad e 100) (mem e w F3 L g) := by
    intro x F3 c q hE hq
    unfold wp_Model_takeSymbols_265
    repeat (first | ((with_reducible show ∃ _, _ ∧ _); first | refine s_fI (by rfl) (by rfl) (by rfl) ?_ | refine s_fR (by rfl) (by rfl) (by rfl) ?_ | refine s_pV (by rfl) (by rfl) (Nat.le_of_ble_eq_true rfl) (by rfl) ?_) | ((with_reducible show xcls _ _ _ ∧ _); refine s_cls (by rfl) (by rfl) ?_))
    refine m_take (c := 10) (r := .error (c, q)) hT hE (by decide) (fun F4 h4 => ?_)
    exact hk 0 _ (by omega) ⟨.error (c, q), F4, rfl, h4, Or.inl ⟨c, q, rfl, hq⟩⟩
  have err240 : ∀ (x : Int32) F3 c q, EM n F0 F3 c q → (∀ F', EM n F0 F' c q → Q (mem e w F' L g)) → wp_Model_takeSymbols_240 z Q cc (ad e 100) x (mem e w F3 L g) := by
    intro x F3 c q hE hq
    unfold wp_Model_takeSymbols_240
    repeat (first | ((with_reducible show ∃ _, _ ∧ _); first | refine s_fI (by rfl) (by rfl) (by rfl) ?_ | refine s_fR (by rfl) (by rfl) (by rfl) ?_ | refine s_pV (by rfl) (by rfl) (Nat.le_of_ble_eq_true rfl) (by rfl) ?_) | ((with_reducible show xcls _ _ _ ∧ _); refine s_cls (by rfl) (by rfl) ?_))
    exact ⟨fun _ => err x F3 c q hE hq, fun hh => absurd hh hE.ne.2⟩
  have err150 : ∀ (x : Int32) F3 c q, EM n F0 F3 c q → (∀ F', EM n F0 F' c q → Q (mem e w F' L g)) → ∀ k150, wp_Model_takeSymbols_150_b z Q cc k150 (ad e 100) x (mem e w F3 L g) := by
    intro x F3 c q hE hq k150
    unfold wp_Model_takeSymbols_150_b
    repeat (first | ((with_reducible show ∃ _, _ ∧ _); first | refine s_fI (by rfl) (by rfl) (by rfl) ?_ | refine s_fR (by rfl) (by rfl) (by rfl) ?_ | refine s_pV (by rfl) (by rfl) (Nat.le_of_ble_eq_true rfl) (by rfl) ?_) | ((with_reducible show xcls _ _ _ ∧ _); refine s_cls (by rfl) (by rfl) ?_))
    exact ⟨fun _ => err240 x F3 c q hE hq, fun hh => absurd hh hE.ne.2⟩
  have err144 : ∀ (x : Int32) F3 c q, EM n F0 F3 c q → (∀ F', EM n F0 F' c q → Q (mem e w F' L g)) → wp_Model_takeSymbols_144 z Q cc (ad e 100) x (mem e w F3 L g) := by
    intro x F3 c q hE hq
    unfold wp_Model_takeSymbols_144
    repeat (first | ((with_reducible show ∃ _, _ ∧ _); first | refine s_fI (by rfl) (by rfl) (by rfl) ?_ | refine s_fR (by rfl) (by rfl) (by rfl) ?_ | refine s_pV (by rfl) (by rfl) (Nat.le_of_ble_eq_true rfl) (by rfl) ?_) | ((with_reducible show xcls _ _ _ ∧ _); refine s_cls (by rfl) (by rfl) ?_))
    refine m_take (c := 32) (r := .error (c, q)) hT hE (by decide) (fun F4 h4 => ?_)
    unfold wp_Model_takeSymbols_150
    exact ⟨1, err150 x F4 c q h4 hq _⟩
  have stop : (b p2 ≠ 105 ∧ b p2 ≠ 108 ∧ b p2 ≠ 111) → wp_Model_takeSymbols_274 z Q (ad e 100) (mem e w F2 L g) := by
    rintro ⟨n1, n2, n3⟩
    unfold wp_Model_takeSymbols_274
    repeat (first | ((with_reducible show ∃ _, _ ∧ _); first | refine s_fI (by rfl) (by rfl) (by rfl) ?_ | refine s_fR (by rfl) (by rfl) (by rfl) ?_ | refine s_pV (by rfl) (by rfl) (Nat.le_of_ble_eq_true rfl) (by rfl) ?_) | ((with_reducible show xcls _ _ _ ∧ _); refine s_cls (by rfl) (by rfl) ?_))
    rw [h2.2.2.2.1.1]
    refine ⟨fun hh => absurd hh (by decide), fun _ => ?_⟩
    repeat (first | ((with_reducible show ∃ _, _ ∧ _); first | refine s_fI (by rfl) (by rfl) (by rfl) ?_ | refine s_fR (by rfl) (by rfl) (by rfl) ?_ | refine s_pV (by rfl) (by rfl) (Nat.le_of_ble_eq_true rfl) (by rfl) ?_) | ((with_reducible show xcls _ _ _ ∧ _); refine s_cls (by rfl) (by rfl) ?_))
    refine m_here hT h2.1 hp2 h2.2.1 ?_
    rw [iv_none hb256]
    refine ⟨fun hb => ?_, fun hb => ?_⟩
    · obtain ⟨f', rfl⟩ : ∃ f', f2 = f' + 1 := ⟨f2 - 1, by have := hT.lt hb; omega⟩
      unfold syA smA at hq2
      rw [if_neg hb, if_neg n1, if_neg n2, if_neg n3] at hq2
      repeat (first | ((with_reducible show ∃ _, _ ∧ _); first | refine s_fI (by rfl) (by rfl) (by rfl) ?_ | refine s_fR (by rfl) (by rfl) (by rfl) ?_ | refine s_pV (by rfl) (by rfl) (Nat.le_of_ble_eq_true rfl) (by rfl) ?_) | ((with_reducible show xcls _ _ _ ∧ _); refine s_cls (by rfl) (by rfl) ?_))
      refine m_take (c := 99) (r := .ok (S2, p2, 0)) hT h2 (by decide) (fun F3 h3 => ?_)
      repeat (first | ((with_reducible show ∃ _, _ ∧ _); first | refine s_fI (by rfl) (by rfl) (by rfl) ?_ | refine s_fR (by rfl) (by rfl) (by rfl) ?_ | refine s_pV (by rfl) (by rfl) (Nat.le_of_ble_eq_true rfl) (by rfl) ?_) | ((with_reducible show xcls _ _ _ ∧ _); refine s_cls (by rfl) (by rfl) ?_))
      refine m_take (c := 10) hT h3 (by decide) (fun F4 h4 => hq2 F4 ?_)
      rw [bi_ok] at h4
      unfold psA at h4
      by_cases h99 : b p2 = 99
      · rw [if_pos h99]
        rw [if_pos h99, bi_ok] at h4
        exact h4
      · rw [if_neg h99]
        rw [if_neg h99] at h4
        exact h4
    · cases f2 with
      | zero => exact hq2 F2 h2
      | succ f2 =>
        unfold syA at hq2
        rw [if_pos hb] at hq2
        exact hq2 F2 h2
  -- a symbol
  have sym : ∀ kd, kd < 3 → ((kd = 0 ∧ b p2 = 105) ∨ (kd = 1 ∧ b p2 = 108) ∨ (kd = 2 ∧ b p2 = 111)) → wp_Model_takeSymbols_61 z Q cc (ad e 100) (Int32.ofNat kd) (mem e w F2 L g) := by
    intro kd hkd hl
    have hne : b p2 ≠ 256 ∧ b p2 ≠ 99 := by omega
    have hpl := hT.lt hne.1
    obtain ⟨f', rfl⟩ : ∃ f', f2 = f' + 1 := ⟨f2 - 1, by omega⟩
    have hsm : smA b S2 p2 = s1A b kd S2 (p2 + 1) := by
      unfold smA
      rcases hl with ⟨rfl, hl⟩ | ⟨rfl, hl⟩ | ⟨rfl, hl⟩
      · rw [if_pos hl]
      · rw [if_neg (by omega), if_pos hl]
      · rw [if_neg (by omega), if_neg (by omega), if_pos hl]
    unfold syA at hq2
    rw [if_neg hne.1, if_neg hne.2, hsm] at hq2
    obtain ⟨hly1, hly2, hmo, hmo44⟩ := lyM_nm hkd
    have hfs := fit_sz hB2.1.1 hkd
    have h8 : sz3 kd ≤ 8 := by unfold sz3; split; decide; split <;> decide
    -- behind the symbol
    have done : ∀ F3 S3 p3 v3, MX n F0 F3 (.ok (S3, p3, v3)) → s1A b kd S2 (p2 + 1) = .ok (S3, p3, v3) → cc (ad e 100, mem e w F3 L g) := by
      intro F3 S3 p3 v3 h3 hr3
      have hpos := s1A_pos hr3
      rw [hr3, bi_ok] at hq2
      exact hk (n + 1 - p3) _ (by have h3 : MS n F0 F3 S3 p3 := h3; have := h3.2.2.1; omega) ⟨.ok (S3, p3, v3), F3, rfl, h3, Or.inr ⟨S3, p3, v3, f', rfl, rfl, (s1A_BI hkd hB2 hr3).1, by omega, hq2⟩⟩
    have bad : ∀ c q, s1A b kd S2 (p2 + 1) = .error (c, q) → ∀ F', EM n F0 F' c q → Q (mem e w F' L g) := by
      intro c q hr F' hE
      rw [hr] at hq2
      exact hq2 F' hE
    unfold wp_Model_takeSymbols_61
    repeat (first | ((with_reducible show ∃ _, _ ∧ _); first | refine s_fI (by rfl) (by rfl) (by rfl) ?_ | refine s_fR (by rfl) (by rfl) (by rfl) ?_ | refine s_pV (by rfl) (by rfl) (Nat.le_of_ble_eq_true rfl) (by rfl) ?_) | ((with_reducible show xcls _ _ _ ∧ _); refine s_cls (by rfl) (by rfl) ?_))
    rw [h2.2.1, n_inc]
    have h3 : MS n F0 (up F2 100 6 (Int32.ofNat (p2 + 1))) S2 (p2 + 1) := h2.move (fun k hk => up_k hk) (fun j h1 h2 => by rw [up_i, if_neg h1]) (by rw [up_i, if_pos rfl]) (by omega)
    generalize up F2 100 6 (Int32.ofNat (p2 + 1)) = F3 at *
    repeat (first | ((with_reducible show ∃ _, _ ∧ _); first | refine s_fI (by rfl) (by rfl) (by rfl) ?_ | refine s_fR (by rfl) (by rfl) (by rfl) ?_ | refine s_pV (by rfl) (by rfl) (Nat.le_of_ble_eq_true rfl) (by rfl) ?_) | ((with_reducible show xcls _ _ _ ∧ _); refine s_cls (by rfl) (by rfl) ?_))
    refine m_number (r := .ok (S2, p2 + 1, 0)) hT h3 (fun F4 h4 => ?_)
    rw [bi_ok] at h4
    have m97 : wp_Model_takeSymbols_97 z Q cc (ad e 100) (Int32.ofNat kd) (Int32.ofNat (mo kd)) (mem e w F4 L g) := by
      unfold wp_Model_takeSymbols_97
      unfold s1A at done bad
      match hr4 : nuA b S2 (p2 + 1), h4, done, bad with
      | .error (c, q), h4, done, bad =>
        have hE : EM n F0 F4 c q := h4
        repeat (first | ((with_reducible show ∃ _, _ ∧ _); first | refine s_fI (by rfl) (by rfl) (by rfl) ?_ | refine s_fR (by rfl) (by rfl) (by rfl) ?_ | refine s_pV (by rfl) (by rfl) (Nat.le_of_ble_eq_true rfl) (by rfl) ?_) | ((with_reducible show xcls _ _ _ ∧ _); refine s_cls (by rfl) (by rfl) ?_))
        rintro v2 rfl
        repeat (first | ((with_reducible show ∃ _, _ ∧ _); first | refine s_fI (by rfl) (by rfl) (by rfl) ?_ | refine s_fR (by rfl) (by rfl) (by rfl) ?_ | refine s_pV (by rfl) (by rfl) (Nat.le_of_ble_eq_true rfl) (by rfl) ?_) | ((with_reducible show xcls _ _ _ ∧ _); refine s_cls (by rfl) (by rfl) ?_))
        exact ⟨fun _ => err144 _ F4 c q hE (bad c q rfl), fun hh => absurd hh hE.ne.2⟩
      | .ok (S4, p4, v4), h4, done, bad =>
        obtain ⟨hSS, hv4, _⟩ := nuA_ok hr4
        have h4' : MS n F0 F4 S4 p4 ∧ F4 100 9 = Int32.ofNat v4 := h4
        obtain ⟨h44, h49⟩ := h4'
        have done4 := done
        have bad4 := bad
        rw [bi_ok] at done4 bad4
        clear done bad h4 hq2 stop
        subst hSS
        have fault : (S4 0 (1 + kd) ≤ v4 ∨ S4 (40 + kd) v4 ≠ 0) → ∀ x, wp_Model_takeSymbols_135 z Q cc (ad e 100) x (mem e w F4 L g) := by
          intro hb x
          rw [if_pos hb] at bad4
          unfold wp_Model_takeSymbols_135
          repeat (first | ((with_reducible show ∃ _, _ ∧ _); first | refine s_fI (by rfl) (by rfl) (by rfl) ?_ | refine s_fR (by rfl) (by rfl) (by rfl) ?_ | refine s_pV (by rfl) (by rfl) (Nat.le_of_ble_eq_true rfl) (by rfl) ?_) | ((with_reducible show xcls _ _ _ ∧ _); refine s_cls (by rfl) (by rfl) ?_))
          rw [h44.2.1]
          repeat (first | ((with_reducible show ∃ _, _ ∧ _); first | refine s_fI (by rfl) (by rfl) (by rfl) ?_ | refine s_fR (by rfl) (by rfl) (by rfl) ?_ | refine s_pV (by rfl) (by rfl) (Nat.le_of_ble_eq_true rfl) (by rfl) ?_) | ((with_reducible show xcls _ _ _ ∧ _); refine s_cls (by rfl) (by rfl) ?_))
          exact m_wrong h44.1 ⟨p4, h44.2.2.1, h44.2.1⟩ h44.2.2.2.1.1 (by decide) (fun F5 hE => err144 x F5 1 p4 hE (bad4 1 p4 rfl))
        repeat (first | ((with_reducible show ∃ _, _ ∧ _); first | refine s_fI (by rfl) (by rfl) (by rfl) ?_ | refine s_fR (by rfl) (by rfl) (by rfl) ?_ | refine s_pV (by rfl) (by rfl) (Nat.le_of_ble_eq_true rfl) (by rfl) ?_) | ((with_reducible show xcls _ _ _ ∧ _); refine s_cls (by rfl) (by rfl) ?_))
        rw [h49, n_add]
        rintro v2' rfl
        repeat (first | ((with_reducible show ∃ _, _ ∧ _); first | refine s_fI (by rfl) (by rfl) (by rfl) ?_ | refine s_fR (by rfl) (by rfl) (by rfl) ?_ | refine s_pV (by rfl) (by rfl) (Nat.le_of_ble_eq_true rfl) (by rfl) ?_) | ((with_reducible show xcls _ _ _ ∧ _); refine s_cls (by rfl) (by rfl) ?_))
        rw [h44.2.2.2.1.1]
        refine ⟨fun hh => absurd rfl hh, fun _ => ?_⟩
        repeat (first | ((with_reducible show ∃ _, _ ∧ _); first | refine s_fI (by rfl) (by rfl) (by rfl) ?_ | refine s_fR (by rfl) (by rfl) (by rfl) ?_ | refine s_pV (by rfl) (by rfl) (Nat.le_of_ble_eq_true rfl) (by rfl) ?_) | ((with_reducible show xcls _ _ _ ∧ _); refine s_cls (by rfl) (by rfl) ?_))
        refine s_aI (i := 11 + kd) (by rfl) (by rfl) (by rfl) (by exact n_add 11 kd) (by omega) (by decide) ?_
        rw [h49, show F4 110 (11 + kd) = Int32.ofNat (S4 0 (1 + kd)) by rw [← h44.size hB2.1 (by omega : 1 + kd < 5)]; congr 1; omega]
        have hcap : S4 0 (1 + kd) ≤ 8 := by omega
        rw [n_le (by omega) (by omega)]
        refine ⟨fun hle => fault (Or.inl hle) _, fun hle => ?_⟩
        have hvs : v4 < sz3 kd := by omega
        obtain ⟨mk, lk⟩ := hB2.2.2.2.2 kd v4 hkd (by omega)
        have hlen : F4 125 (mo kd + v4) = Int32.ofNat (S4 (40 + kd) v4) := by
          rw [h44.at (r := 40 + kd) (j := v4) (by omega) hly2 hvs (by rw [show 40 + kd + 100 = 140 + kd by omega]; exact mk) rfl, VM_ln hkd]
        repeat (first | ((with_reducible show ∃ _, _ ∧ _); first | refine s_fI (by rfl) (by rfl) (by rfl) ?_ | refine s_fR (by rfl) (by rfl) (by rfl) ?_ | refine s_pV (by rfl) (by rfl) (Nat.le_of_ble_eq_true rfl) (by rfl) ?_) | ((with_reducible show xcls _ _ _ ∧ _); refine s_cls (by rfl) (by rfl) ?_))
        refine s_aI (i := mo kd + v4) (by rfl) (by rfl) (by rfl) (by rfl) (by omega) (by decide) ?_
        rw [hlen, show (0 : Int32) = Int32.ofNat 0 from rfl, n_le (by omega) (by decide)]
        refine ⟨fun hz => ?_, fun hz => fault (Or.inr (by omega)) _⟩
        have hz0 : S4 (40 + kd) v4 = 0 := by omega
        rw [if_neg (by omega)] at done4 bad4
        unfold wp_Model_takeSymbols_144
        repeat (first | ((with_reducible show ∃ _, _ ∧ _); first | refine s_fI (by rfl) (by rfl) (by rfl) ?_ | refine s_fR (by rfl) (by rfl) (by rfl) ?_ | refine s_pV (by rfl) (by rfl) (Nat.le_of_ble_eq_true rfl) (by rfl) ?_) | ((with_reducible show xcls _ _ _ ∧ _); refine s_cls (by rfl) (by rfl) ?_))
        refine m_take (c := 32) (r := .ok (S4, p4, 0)) hT h44 (by decide) (fun F5 h5 => ?_)
        rw [bi_ok] at h5
        unfold wp_Model_takeSymbols_150
        match hr5 : psA b 32 S4 p4, h5, done4, bad4 with
        | .error (c, q), h5, done4, bad4 => exact ⟨1, err150 _ F5 c q h5 (bad4 c q rfl) _⟩
        | .ok (S5, p5, v5), h5, done4, bad4 =>
          have hS5 := (psA_ok hr5).1
          have h55 : MS n F0 F5 S5 p5 := h5
          have done5 := done4
          have bad5 := bad4
          rw [bi_ok] at done5 bad5
          clear done4 bad4 h5
          subst hS5
          unfold naA at done5 bad5
          -- the name
          have hstart : MS n F0 F5 (st S5 (40 + kd) v4 0) p5 := by
            refine ⟨h55.1, h55.2.1, h55.2.2.1, h55.2.2.2.1, RE_ext h55.2.2.2.2 (fun r j hr hj hm => ?_)⟩
            by_cases e1 : r = 40 + kd
            · subst e1
              rw [st_m] at hm
              rw [st_r]
              by_cases e2 : j = v4
              · rw [if_pos e2, e2, hz0]; exact ⟨by rw [show 40 + kd + 100 = 140 + kd by omega]; exact mk, rfl⟩
              · rw [if_neg e2] at hm ⊢; exact ⟨hm, rfl⟩
            · rw [st_o (by omega) (by omega)] at hm
              rw [st_o e1 (by omega)]; exact ⟨hm, rfl⟩
          refine xloop_dn (fun m a => (∃ i T q F6, m = 100 - i ∧ i ≤ 40 ∧ a = (ad e 100, Int32.ofNat (mo kd + v4), mem e w F6 L g) ∧ MS n F0 F6 (st T (40 + kd) v4 i) q ∧ (∀ F3 S3 p3 v3, MX n F0 F3 (.ok (S3, p3, v3)) → bi (nmA b kd v4 (40 - i) T q i) (fun S q i => if i = 0 then .error (1, q) else psA b 10 (st S (40 + kd) v4 i) q) = .ok (S3, p3, v3) → cc (ad e 100, mem e w F3 L g)) ∧ (∀ c q', bi (nmA b kd v4 (40 - i) T q i) (fun S q i => if i = 0 then .error (1, q) else psA b 10 (st S (40 + kd) v4 i) q) = .error (c, q') → ∀ F', EM n F0 F' c q' → Q (mem e w F' L g))) ∨ (∃ (x : Int32) (F6 : Nat → Nat → Int32) (c q : Nat), a = (ad e 100, x, mem e w F6 L g) ∧ EM n F0 F6 c q ∧ ∀ F', EM n F0 F' c q → Q (mem e w F' L g))) ?_ 100 _ (Or.inl ⟨0, S5, p5, F5, rfl, by decide, rfl, hstart, done5, bad5⟩)
          rintro m a cc2 (⟨i, T, q, F6, rfl, hi, rfl, h6, hdn, hbd⟩ | ⟨x, F6, c, q, rfl, hE, hq⟩) hk2
          rotate_left
          · exact err150 x F6 c q hE hq cc2
          have hq := h6.2.2.1
          have hbq := hT.le q
          have hleni : ∀ F7 T', MS n F0 F7 (st T' (40 + kd) v4 i) q → F7 125 (mo kd + v4) = Int32.ofNat i := fun F7 T' h7 => by
            rw [h7.at (r := 40 + kd) (j := v4) (by omega) hly2 hvs (by rw [st_m, if_pos rfl]) rfl, st_r, if_pos rfl, VM_ln hkd]
          have l6 := hleni F6 T h6
          -- the end of a name
          have stop2 : (∀ F3 S3 p3 v3, MX n F0 F3 (.ok (S3, p3, v3)) → (if i = 0 then Except.error (1, q) else psA b 10 (st T (40 + kd) v4 i) q : RS) = .ok (S3, p3, v3) → cc (ad e 100, mem e w F3 L g)) → (∀ c q', (if i = 0 then Except.error (1, q) else psA b 10 (st T (40 + kd) v4 i) q : RS) = .error (c, q') → ∀ F', EM n F0 F' c q' → Q (mem e w F' L g)) → wp_Model_takeSymbols_240 z Q cc (ad e 100) (Int32.ofNat (mo kd + v4)) (mem e w F6 L g) := by
            intro hdn hbd
            unfold wp_Model_takeSymbols_240
            repeat (first | ((with_reducible show ∃ _, _ ∧ _); first | refine s_fI (by rfl) (by rfl) (by rfl) ?_ | refine s_fR (by rfl) (by rfl) (by rfl) ?_ | refine s_pV (by rfl) (by rfl) (Nat.le_of_ble_eq_true rfl) (by rfl) ?_) | ((with_reducible show xcls _ _ _ ∧ _); refine s_cls (by rfl) (by rfl) ?_))
            rw [h6.2.2.2.1.1]
            refine ⟨fun hh => absurd rfl hh, fun _ => ?_⟩
            repeat (first | ((with_reducible show ∃ _, _ ∧ _); first | refine s_fI (by rfl) (by rfl) (by rfl) ?_ | refine s_fR (by rfl) (by rfl) (by rfl) ?_ | refine s_pV (by rfl) (by rfl) (Nat.le_of_ble_eq_true rfl) (by rfl) ?_) | ((with_reducible show xcls _ _ _ ∧ _); refine s_cls (by rfl) (by rfl) ?_))
            refine s_aI (i := mo kd + v4) (by rfl) (by rfl) (by rfl) (by rfl) (by omega) (by decide) ?_
            rw [l6, show (0 : Int32) = Int32.ofNat 0 from rfl, n_eq (by omega) (by decide)]
            refine ⟨fun hi0 => ?_, fun hi0 => ?_⟩
            · rw [if_neg hi0] at hdn hbd
              unfold wp_Model_takeSymbols_265
              repeat (first | ((with_reducible show ∃ _, _ ∧ _); first | refine s_fI (by rfl) (by rfl) (by rfl) ?_ | refine s_fR (by rfl) (by rfl) (by rfl) ?_ | refine s_pV (by rfl) (by rfl) (Nat.le_of_ble_eq_true rfl) (by rfl) ?_) | ((with_reducible show xcls _ _ _ ∧ _); refine s_cls (by rfl) (by rfl) ?_))
              refine m_take (c := 10) (r := .ok (st T (40 + kd) v4 i, q, 0)) hT h6 (by decide) (fun F7 h7 => ?_)
              rw [bi_ok] at h7
              match hr7 : psA b 10 (st T (40 + kd) v4 i) q, h7, hdn, hbd with
              | .error (c, q'), h7, hdn, hbd => exact hk 0 _ (by omega) ⟨.error (c, q'), F7, rfl, h7, Or.inl ⟨c, q', rfl, hbd c q' rfl⟩⟩
              | .ok (S7, p7, v7), h7, hdn, hbd => exact hdn F7 S7 p7 v7 h7 rfl
            · rw [if_pos hi0] at hbd
              repeat (first | ((with_reducible show ∃ _, _ ∧ _); first | refine s_fI (by rfl) (by rfl) (by rfl) ?_ | refine s_fR (by rfl) (by rfl) (by rfl) ?_ | refine s_pV (by rfl) (by rfl) (Nat.le_of_ble_eq_true rfl) (by rfl) ?_) | ((with_reducible show xcls _ _ _ ∧ _); refine s_cls (by rfl) (by rfl) ?_))
              rw [h6.2.1]
              repeat (first | ((with_reducible show ∃ _, _ ∧ _); first | refine s_fI (by rfl) (by rfl) (by rfl) ?_ | refine s_fR (by rfl) (by rfl) (by rfl) ?_ | refine s_pV (by rfl) (by rfl) (Nat.le_of_ble_eq_true rfl) (by rfl) ?_) | ((with_reducible show xcls _ _ _ ∧ _); refine s_cls (by rfl) (by rfl) ?_))
              exact m_wrong h6.1 ⟨q, hq, h6.2.1⟩ h6.2.2.2.1.1 (by decide) (fun F7 hE => err 0 F7 1 q hE (hbd 1 q rfl))
          unfold wp_Model_takeSymbols_150_b; dsimp only
          repeat (first | ((with_reducible show ∃ _, _ ∧ _); first | refine s_fI (by rfl) (by rfl) (by rfl) ?_ | refine s_fR (by rfl) (by rfl) (by rfl) ?_ | refine s_pV (by rfl) (by rfl) (Nat.le_of_ble_eq_true rfl) (by rfl) ?_) | ((with_reducible show xcls _ _ _ ∧ _); refine s_cls (by rfl) (by rfl) ?_))
          rw [h6.2.2.2.1.1]
          refine ⟨fun hh => absurd rfl hh, fun _ => ?_⟩
          repeat (first | ((with_reducible show ∃ _, _ ∧ _); first | refine s_fI (by rfl) (by rfl) (by rfl) ?_ | refine s_fR (by rfl) (by rfl) (by rfl) ?_ | refine s_pV (by rfl) (by rfl) (Nat.le_of_ble_eq_true rfl) (by rfl) ?_) | ((with_reducible show xcls _ _ _ ∧ _); refine s_cls (by rfl) (by rfl) ?_))
          refine m_here hT h6.1 hq h6.2.1 ?_
          rw [iv_neg hbq]
          have ended : b q = 256 ∨ b q = 10 → wp_Model_takeSymbols_240 z Q cc (ad e 100) (Int32.ofNat (mo kd + v4)) (mem e w F6 L g) := by
            intro hb
            by_cases h40 : i = 40
            · rw [show 40 - i = 0 by omega] at hdn hbd
              exact stop2 hdn hbd
            · rw [show 40 - i = (40 - (i + 1)) + 1 by omega] at hdn hbd
              unfold nmA at hdn hbd
              rw [if_pos hb] at hdn hbd
              exact stop2 hdn hbd
          refine ⟨fun hb => ended (Or.inl hb), fun hb => ?_⟩
          repeat (first | ((with_reducible show ∃ _, _ ∧ _); first | refine s_fI (by rfl) (by rfl) (by rfl) ?_ | refine s_fR (by rfl) (by rfl) (by rfl) ?_ | refine s_pV (by rfl) (by rfl) (Nat.le_of_ble_eq_true rfl) (by rfl) ?_) | ((with_reducible show xcls _ _ _ ∧ _); refine s_cls (by rfl) (by rfl) ?_))
          refine m_here hT h6.1 hq h6.2.1 ?_
          rw [show (10 : Int32) = Int32.ofNat 10 from rfl, iv_eq hbq (by decide)]
          refine ⟨fun hb2 => ended (Or.inr hb2), fun hb2 => ?_⟩
          have hql := hT.lt hb
          repeat (first | ((with_reducible show ∃ _, _ ∧ _); first | refine s_fI (by rfl) (by rfl) (by rfl) ?_ | refine s_fR (by rfl) (by rfl) (by rfl) ?_ | refine s_pV (by rfl) (by rfl) (Nat.le_of_ble_eq_true rfl) (by rfl) ?_) | ((with_reducible show xcls _ _ _ ∧ _); refine s_cls (by rfl) (by rfl) ?_))
          refine s_aI (i := mo kd + v4) (by rfl) (by rfl) (by rfl) (by rfl) (by omega) (by decide) ?_
          rw [l6, show (40 : Int32) = Int32.ofNat 40 from rfl, n_eq (by omega) (by decide)]
          refine ⟨fun h40 => ?_, fun h40 => ?_⟩
          · rw [show 40 - i = (40 - (i + 1)) + 1 by omega] at hdn hbd
            unfold nmA at hdn hbd
            rw [if_neg (fun hh => hh.elim hb hb2)] at hdn hbd
            repeat (first | ((with_reducible show ∃ _, _ ∧ _); first | refine s_fI (by rfl) (by rfl) (by rfl) ?_ | refine s_fR (by rfl) (by rfl) (by rfl) ?_ | refine s_pV (by rfl) (by rfl) (Nat.le_of_ble_eq_true rfl) (by rfl) ?_) | ((with_reducible show xcls _ _ _ ∧ _); refine s_cls (by rfl) (by rfl) ?_))
            refine s_aI (i := mo kd + v4) (by rfl) (by rfl) (by rfl) (by rfl) (by omega) (by decide) ?_
            rw [l6]
            repeat (first | ((with_reducible show ∃ _, _ ∧ _); first | refine s_fI (by rfl) (by rfl) (by rfl) ?_ | refine s_fR (by rfl) (by rfl) (by rfl) ?_ | refine s_pV (by rfl) (by rfl) (Nat.le_of_ble_eq_true rfl) (by rfl) ?_) | ((with_reducible show xcls _ _ _ ∧ _); refine s_cls (by rfl) (by rfl) ?_))
            refine m_here hT h6.1 hq h6.2.1 ?_
            rw [iv_nat hb, nb_nar]
            refine s_sI (i := 40 * (mo kd + v4) + i) (by rfl) (by rfl) (by rfl) (by rfl) (by rw [n_mul, n_add]) (by omega) (by decide) ?_
            have h7 := h6.put (r := 50 + kd) (i := 40 * v4 + i) (c := 40 * (mo kd + v4) + i) (x := b q) (y := nb (b q)) (by omega) hly1 (by omega) (by omega) (VM_nm _).symm (by show 1760 ≤ 40 * mo kd; omega)
            rw [st_comm (r := 40 + kd) (r' := 50 + kd) (by omega) (by omega) (by omega)] at h7
            have l7 := hleni _ _ h7
            generalize up F6 124 (40 * (mo kd + v4) + i) (nb (b q)) = F7 at *
            repeat (first | ((with_reducible show ∃ _, _ ∧ _); first | refine s_fI (by rfl) (by rfl) (by rfl) ?_ | refine s_fR (by rfl) (by rfl) (by rfl) ?_ | refine s_pV (by rfl) (by rfl) (Nat.le_of_ble_eq_true rfl) (by rfl) ?_) | ((with_reducible show xcls _ _ _ ∧ _); refine s_cls (by rfl) (by rfl) ?_))
            refine s_aI (i := mo kd + v4) (by rfl) (by rfl) (by rfl) (by rfl) (by omega) (by decide) ?_
            rw [l7, n_inc]
            refine s_sI (i := mo kd + v4) (by rfl) (by rfl) (by rfl) (by rfl) (by rfl) (by omega) (by decide) ?_
            have h8 := h7.put (r := 40 + kd) (i := v4) (c := mo kd + v4) (x := i + 1) (y := Int32.ofNat (i + 1)) (by omega) hly2 hvs rfl (VM_ln hkd _).symm (by show 44 ≤ mo kd; exact hmo44)
            rw [st_st] at h8
            generalize up F7 125 (mo kd + v4) (Int32.ofNat (i + 1)) = F8 at *
            repeat (first | ((with_reducible show ∃ _, _ ∧ _); first | refine s_fI (by rfl) (by rfl) (by rfl) ?_ | refine s_fR (by rfl) (by rfl) (by rfl) ?_ | refine s_pV (by rfl) (by rfl) (Nat.le_of_ble_eq_true rfl) (by rfl) ?_) | ((with_reducible show xcls _ _ _ ∧ _); refine s_cls (by rfl) (by rfl) ?_))
            rw [h8.2.1, n_inc]
            have h9 : MS n F0 (up F8 100 6 (Int32.ofNat (q + 1))) _ (q + 1) := h8.move (fun k hk => up_k hk) (fun j h1 h2 => by rw [up_i, if_neg h1]) (by rw [up_i, if_pos rfl]) (by omega)
            exact hk2 (100 - (i + 1)) _ (by omega) (Or.inl ⟨i + 1, _, q + 1, _, rfl, by omega, rfl, h9, hdn, hbd⟩)
          · repeat (first | ((with_reducible show ∃ _, _ ∧ _); first | refine s_fI (by rfl) (by rfl) (by rfl) ?_ | refine s_fR (by rfl) (by rfl) (by rfl) ?_ | refine s_pV (by rfl) (by rfl) (Nat.le_of_ble_eq_true rfl) (by rfl) ?_) | ((with_reducible show xcls _ _ _ ∧ _); refine s_cls (by rfl) (by rfl) ?_))
            rw [h6.2.1]
            rw [show 40 - i = 0 by omega] at hbd
            have hr : bi (nmA b kd v4 0 T q i) (fun S q i => if i = 0 then .error (1, q) else psA b 10 (st S (40 + kd) v4 i) q) = .error (1, q) := by
              show (if i = 0 then Except.error (1, q) else psA b 10 (st T (40 + kd) v4 i) q : RS) = _
              rw [if_neg (by omega)]
              unfold psA
              rw [if_neg hb2]
            repeat (first | ((with_reducible show ∃ _, _ ∧ _); first | refine s_fI (by rfl) (by rfl) (by rfl) ?_ | refine s_fR (by rfl) (by rfl) (by rfl) ?_ | refine s_pV (by rfl) (by rfl) (Nat.le_of_ble_eq_true rfl) (by rfl) ?_) | ((with_reducible show xcls _ _ _ ∧ _); refine s_cls (by rfl) (by rfl) ?_))
            exact m_wrong h6.1 ⟨q, hq, h6.2.1⟩ h6.2.2.2.1.1 (by decide) (fun F7 hE => hk2 0 _ (by omega) (Or.inr ⟨_, F7, 1, q, rfl, hE, hbd 1 q hr⟩))
    rcases kd3 hkd with rfl | rfl | rfl
    · exact ⟨fun hh => absurd rfl hh, fun _ => m97⟩
    · exact ⟨fun _ => ⟨fun hh => absurd rfl hh, fun _ => m97⟩, fun hh => absurd hh (by decide)⟩
    · exact ⟨fun _ => ⟨fun _ => m97, fun hh => absurd hh (by decide)⟩, fun hh => absurd hh (by decide)⟩
  have s34 : (b p2 = 105 ∨ b p2 = 108 ∨ b p2 = 111) → wp_Model_takeSymbols_34 z Q cc (ad e 100) (mem e w F2 L g) := by
    intro hl
    unfold wp_Model_takeSymbols_34
    repeat (first | ((with_reducible show ∃ _, _ ∧ _); first | refine s_fI (by rfl) (by rfl) (by rfl) ?_ | refine s_fR (by rfl) (by rfl) (by rfl) ?_ | refine s_pV (by rfl) (by rfl) (Nat.le_of_ble_eq_true rfl) (by rfl) ?_) | ((with_reducible show xcls _ _ _ ∧ _); refine s_cls (by rfl) (by rfl) ?_))
    refine m_here hT h2.1 hp2 h2.2.1 ?_
    rw [show (105 : Int32) = Int32.ofNat 105 from rfl, iv_eq hb256 (by decide)]
    refine ⟨fun n1 => ?_, fun y1 => sym 0 (by decide) (Or.inl ⟨rfl, y1⟩)⟩
    repeat (first | ((with_reducible show ∃ _, _ ∧ _); first | refine s_fI (by rfl) (by rfl) (by rfl) ?_ | refine s_fR (by rfl) (by rfl) (by rfl) ?_ | refine s_pV (by rfl) (by rfl) (Nat.le_of_ble_eq_true rfl) (by rfl) ?_) | ((with_reducible show xcls _ _ _ ∧ _); refine s_cls (by rfl) (by rfl) ?_))
    refine m_here hT h2.1 hp2 h2.2.1 ?_
    rw [show (108 : Int32) = Int32.ofNat 108 from rfl, iv_eq hb256 (by decide)]
    exact ⟨fun n2 => sym 2 (by decide) (Or.inr (Or.inr ⟨rfl, by omega⟩)), fun y2 => sym 1 (by decide) (Or.inr (Or.inl ⟨rfl, y2⟩))⟩
  repeat (first | ((with_reducible show ∃ _, _ ∧ _); first | refine s_fI (by rfl) (by rfl) (by rfl) ?_ | refine s_fR (by rfl) (by rfl) (by rfl) ?_ | refine s_pV (by rfl) (by rfl) (Nat.le_of_ble_eq_true rfl) (by rfl) ?_) | ((with_reducible show xcls _ _ _ ∧ _); refine s_cls (by rfl) (by rfl) ?_))
  rw [h2.2.2.2.1.1]
  refine ⟨fun hh => absurd rfl hh, fun _ => ?_⟩
  repeat (first | ((with_reducible show ∃ _, _ ∧ _); first | refine s_fI (by rfl) (by rfl) (by rfl) ?_ | refine s_fR (by rfl) (by rfl) (by rfl) ?_ | refine s_pV (by rfl) (by rfl) (Nat.le_of_ble_eq_true rfl) (by rfl) ?_) | ((with_reducible show xcls _ _ _ ∧ _); refine s_cls (by rfl) (by rfl) ?_))
  refine m_here hT h2.1 hp2 h2.2.1 ?_
  rw [show (105 : Int32) = Int32.ofNat 105 from rfl, iv_eq hb256 (by decide)]
  refine ⟨fun y1 => s34 (Or.inl y1), fun n1 => ?_⟩
  repeat (first | ((with_reducible show ∃ _, _ ∧ _); first | refine s_fI (by rfl) (by rfl) (by rfl) ?_ | refine s_fR (by rfl) (by rfl) (by rfl) ?_ | refine s_pV (by rfl) (by rfl) (Nat.le_of_ble_eq_true rfl) (by rfl) ?_) | ((with_reducible show xcls _ _ _ ∧ _); refine s_cls (by rfl) (by rfl) ?_))
  refine m_here hT h2.1 hp2 h2.2.1 ?_
  rw [show (108 : Int32) = Int32.ofNat 108 from rfl, iv_eq hb256 (by decide)]
  refine ⟨fun y2 => s34 (Or.inr (Or.inl y2)), fun n2 => ?_⟩
  repeat (first | ((with_reducible show ∃ _, _ ∧ _); first | refine s_fI (by rfl) (by rfl) (by rfl) ?_ | refine s_fR (by rfl) (by rfl) (by rfl) ?_ | refine s_pV (by rfl) (by rfl) (Nat.le_of_ble_eq_true rfl) (by rfl) ?_) | ((with_reducible show xcls _ _ _ ∧ _); refine s_cls (by rfl) (by rfl) ?_))
  refine m_here hT h2.1 hp2 h2.2.1 ?_
  rw [show (111 : Int32) = Int32.ofNat 111 from rfl, iv_eq hb256 (by decide)]
  exact ⟨fun n3 => stop ⟨n1, n2, n3⟩, fun y3 => s34 (Or.inr (Or.inr y3))⟩
end
