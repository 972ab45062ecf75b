/-! The reference reads lines. -/
theorem st_comm {S : RW} {r i x r' i' x' : Nat} (h : r ≠ r') (h1 : r ≠ r' + 100) (h2 : r' ≠ r + 100) : st (st S r i x) r' i' x' = st (st S r' i' x') r i x := by
  funext a c
  by_cases a1 : a = r
  · subst a1
    rw [st_o (r := r') h h1, st_r, st_r, st_o (r := r') h h1]
  · by_cases a2 : a = r'
    · subst a2
      rw [st_r, st_o (r := r) a1 h2, st_o (r := r) a1 h2, st_r]
    · by_cases a3 : a = r + 100
      · subst a3
        rw [st_o (r := r') a2 (by omega), st_m, st_m, st_o (r := r') a2 (by omega)]
      · by_cases a4 : a = r' + 100
        · subst a4
          rw [st_m, st_o (r := r) a1 a3, st_o (r := r) a1 a3, st_m]
        · rw [st_o a2 a4, st_o a1 a3, st_o a1 a3, st_o a2 a4]
section
variable {b : Nat → Nat} {S T S' : RW} {p q v k : Nat}
theorem nrA_sub : ∀ m p k v, nrA b T m p k v = bi (nrA b S m p k v) (fun _ q v => .ok (T, q, v))
  | 0, p, k, v => rfl
  | m + 1, p, k, v => by
    unfold nrA
    by_cases h1 : dg (b p)
    · rw [if_pos h1, if_pos h1]
      by_cases h2 : k = 4 ∨ (k = 1 ∧ v = 0)
      · rw [if_pos h2, if_pos h2]; rfl
      · rw [if_neg h2, if_neg h2]; exact nrA_sub m _ _ _
    · rw [if_neg h1, if_neg h1]; rfl
theorem nuA_sub : nuA b T p = bi (nuA b S p) (fun _ q v => .ok (T, q, v)) := by
  unfold nuA
  by_cases h1 : dg (b p)
  · rw [if_pos h1, if_pos h1]; exact nrA_sub 5 p 0 0
  · rw [if_neg h1, if_neg h1]; rfl
theorem liA_sub (h0 : T 0 0 = S 0 0) : liA b T p = bi (liA b S p) (fun _ q v => .ok (T, q, v)) := by
  unfold liA
  rw [nuA_sub (S := S)]
  match hr : nuA b S p with
  | .error e => rfl
  | .ok (S1, p1, v1) =>
    obtain ⟨hS, _, _⟩ := nuA_ok hr
    subst hS
    rw [bi_ok, bi_ok, bi_ok, h0]
    by_cases hh : v1 ≤ 2 * S1 0 0 + 1
    · rw [if_pos hh, if_pos hh]; rfl
    · rw [if_neg hh, if_neg hh]; rfl
theorem us_comm {r i x y l : Nat} (hr : r ≠ 19 ∧ r ≠ 20 ∧ r ≠ 32 ∧ r < 100) : usS (st S r i x) l y = st (usS S l y) r i x := by
  unfold usS
  rw [show st S r i x 32 = S 32 from st_o (by omega) (by omega), st_comm (r := r) (r' := 19) (by omega) (by omega) (by omega), st_comm (r := r) (r' := 20) (by omega) (by omega) (by omega), st_comm (r := r) (r' := 32) (by omega) (by omega) (by omega)]
theorem usA_eq : usA b S p = bi (liA b S p) (fun _ q v => .ok (usS S v p, q, v)) := by
  unfold usA
  match hr : liA b S p with
  | .error e => rfl
  | .ok (S1, p1, v1) =>
    obtain ⟨hS, _⟩ := liA_ok hr
    subst hS
    rfl
theorem use_pre {rp r3 : Nat} (h1 : rp ≠ 0 ∧ rp ≠ 19 ∧ rp ≠ 20 ∧ rp ≠ 32 ∧ rp < 100) (h2 : r3 ≠ rp ∧ r3 < 100) : bi (usA b (st S rp k p) p) (fun S q v => .ok (st S r3 k v, q, v)) = bi (usA b S p) (fun S q v => .ok (st (st S r3 k v) rp k p, q, v)) := by
  rw [usA_eq, usA_eq, liA_sub (S := S) (by rw [st_o (by omega) (by omega)])]
  match hr : liA b S p with
  | .error e => rfl
  | .ok (S1, p1, v1) =>
    show Except.ok (st (usS (st S rp k p) v1 p) r3 k v1, p1, v1) = Except.ok (st (st (usS S v1 p) r3 k v1) rp k p, p1, v1)
    rw [us_comm ⟨h1.2.1, h1.2.2.1, h1.2.2.2.1, h1.2.2.2.2⟩, st_comm (r := rp) (r' := r3) (by omega) (by omega) (by omega)]
end
section
variable {e : xenv} {w : Bool} {L : Nat → Nat → Int64} {g : xh} {z : Nat → Nat} {b : Nat → Nat} {n : Nat} {F0 F F' : Nat → Nat → Int32} {S S' : RW} {p q s nu : Nat} {Q : xh → Prop} {Qi : Int32 → xh → Prop} {r : RS}
theorem MX_put (h : MX n F0 F r) {rr R o zz i c : Nat} {x : Nat → Nat} {y : Int32} (hr : rr < 100) (hl : lyM rr = (R, o, zz)) (hi : i < zz) (hc : c = o + i) (hlo : loM R ≤ o) (hy : ∀ S' p' v', r = .ok (S', p', v') → y = VM rr (x v')) : MX n F0 (up F R c y) (bi r (fun S q v => .ok (st S rr i (x v), q, v))) := by
  have hown := lyM_own rr hr
  rw [hl] at hown
  dsimp only at hown
  match r, h, hy with
  | .error (c', q'), h, hy => exact EM.row h (Or.inl ⟨by omega, by omega, by omega⟩)
  | .ok (S', p', v'), h, hy => exact MS.put h hr hl hi hc (hy _ _ _ rfl) hlo
/-- a value behind a place -/
theorem m_useAt {k rp Rp r3 R o zz : Nat} (hT : TM F0 b n) (h : MS n F0 F S p) (hs : SZ S) (hp : lyM rp = (Rp, 0, zz)) (hrp : rp < 100 ∧ rp ≠ 0 ∧ rp ≠ 31 ∧ rp ≠ 30 ∧ rp ≠ 19 ∧ rp ≠ 20 ∧ rp ≠ 32) (hlp : loM Rp = 0) (h3 : lyM r3 = (R, o, zz)) (hr3 : r3 < 100 ∧ r3 ≠ rp ∧ r3 ≠ 1 ∧ r3 ≠ 2 ∧ r3 ≠ 12 ∧ r3 < 50) (hlo : loM R ≤ o) (hk : k < zz)
    (hQ : ∀ F' y, MX n F0 F' (liA b (st S rp k p) p) → (∀ F'', F'' = up F' R (o + k) y → MX n F0 F'' (bi (usA b S p) (fun S q v => .ok (st (st S r3 k v) rp k p, q, v)))) → Qi y (mem e w F' L g)) : wp_Model_literal z Qi (ad e 100) (mem e w (up F Rp k (Int32.ofNat p)) L g) := by
  have h1 := h.put (r := rp) (i := k) (c := k) (x := p) (y := Int32.ofNat p) hrp.1 hp hk (by omega) (by
    unfold VM
    have hrp3 : ¬ (rp = 1 ∨ rp = 2 ∨ rp = 12) := by
      rintro (hh | hh | hh) <;> subst hh <;> cases hp
    have hrp5 : rp < 50 := by
      apply Classical.byContradiction
      intro hn
      have : ∀ r, r < 100 → ¬ r < 50 → (lyM r).2.2 = 0 ∨ (lyM r).2.1 ≠ 0 := by decide +kernel
      rcases this rp hrp.1 hn with hh | hh
      · rw [hp] at hh; dsimp only at hh; omega
      · rw [hp] at hh; exact hh rfl
    rw [if_neg hrp3, if_pos hrp5]) (by omega)
  refine m_literal (r := .ok (st S rp k p, p, 0)) hT h1 (fun S' p' v' hh => by obtain ⟨rfl, _⟩ := ok_inj hh; exact SZ_st hs ⟨hrp.2.1, hrp.2.2.1, hrp.2.2.2.1, hrp.1⟩) (fun F' y h2 hy => ?_)
  rw [bi_ok] at h2 hy
  refine hQ F' y h2 (fun F'' hF'' => ?_)
  have h4 : MX n F0 F' (bi (.ok (st S rp k p, p, 0)) (fun S p _ => usA b S p)) := MX_us (by rw [bi_ok]; exact h2)
  rw [bi_ok] at h4
  have h5 := MX_put (rr := r3) (i := k) (c := o + k) (x := fun v => v) (y := y) h4 hr3.1 h3 hk rfl hlo (fun S' p' v' hh => ?_)
  · rw [use_pre ⟨hrp.2.1, hrp.2.2.2.2.1, hrp.2.2.2.2.2.1, hrp.2.2.2.2.2.2, hrp.1⟩ ⟨hr3.2.1, hr3.1⟩] at h5
    rw [hF'']; exact h5
  · rw [usA_eq] at hh
    obtain ⟨S1, p1, v1, hh1, hh2⟩ := bi_split hh
    obtain ⟨_, _, rfl⟩ := ok_inj hh2
    rw [hy S1 p1 v1 hh1]
    unfold VM
    rw [if_neg (by omega), if_pos hr3.2.2.2.2.2]
theorem m_next {k : Nat} (hT : TM F0 b n) (h : MS n F0 F S p) (hs : SZ S) (hk : k < 6) (hQ : ∀ F', MX n F0 F' (nxA b k S p) → Q (mem e w F' L g)) : wp_Model_takeNext z Q (ad e 100) (Int32.ofNat k) (mem e w F L g) := by
  unfold wp_Model_takeNext
  repeat (first | ((with_reducible show ∃ _, _ ∧ _); first | refine s_fI (by rfl) (by rfl) (by rfl) ?_ | refine s_fR (by rfl) (by rfl) (by rfl) ?_ | refine s_pV (by rfl) (by rfl) (Nat.le_of_ble_eq_true rfl) (by rfl) ?_) | ((with_reducible show xcls _ _ _ ∧ _); refine s_cls (by rfl) (by rfl) ?_))
  rw [h.2.1]
  refine s_sI (i := k) (by rfl) (by rfl) (by rfl) (by rfl) (by rfl) (by omega) (by decide) ?_
  repeat (first | ((with_reducible show ∃ _, _ ∧ _); first | refine s_fI (by rfl) (by rfl) (by rfl) ?_ | refine s_fR (by rfl) (by rfl) (by rfl) ?_ | refine s_pV (by rfl) (by rfl) (Nat.le_of_ble_eq_true rfl) (by rfl) ?_) | ((with_reducible show xcls _ _ _ ∧ _); refine s_cls (by rfl) (by rfl) ?_))
  refine m_useAt (rp := 23) (r3 := 3) hT h hs rfl (by decide) rfl rfl (by decide) (by decide) hk (fun F1 y h1 h2 => ?_)
  refine s_sI (i := 14 + k) (by rfl) (by rfl) (by rfl) (by rfl) (by exact n_add 14 k) (by omega) (by decide) ?_
  repeat (first | ((with_reducible show ∃ _, _ ∧ _); first | refine s_fI (by rfl) (by rfl) (by rfl) ?_ | refine s_fR (by rfl) (by rfl) (by rfl) ?_ | refine s_pV (by rfl) (by rfl) (Nat.le_of_ble_eq_true rfl) (by rfl) ?_) | ((with_reducible show xcls _ _ _ ∧ _); refine s_cls (by rfl) (by rfl) ?_))
  refine m_take (c := 10) hT (h2 _ rfl) (by decide) (fun F2 h3 => hQ F2 ?_)
  rw [bi_bi] at h3
  exact h3
/-- a loop of the reference over lines -/
theorem m_lines {f : Nat → RW → Nat → RS} {N : Nat} {G : Nat → RW → Prop} {X : xh → Prop} {B : (Nat × Int32 × xh → Prop) → Nat × Int32 × xh → Prop} (hN : N < 1000)
    (hb : ∀ k r2 F2 cc, k ≤ N → MX n F0 F2 r2 → (∀ S p v, r2 = .ok (S, p, v) → G k S) → ((∃ c q, r2 = .error (c, q)) ∨ k = N → X (mem e w F2 L g)) → (∀ S2 p2 v2, k < N → r2 = .ok (S2, p2, v2) → ∀ F3, MX n F0 F3 (f k S2 p2) → cc (ad e 100, Int32.ofNat (k + 1), mem e w F3 L g)) → B cc (ad e 100, Int32.ofNat k, mem e w F2 L g))
    (hG : ∀ k S p S' q v, G k S → f k S p = .ok (S', q, v) → G (k + 1) S') (h : MX n F0 F r) (hG0 : ∀ S p v, r = .ok (S, p, v) → G 0 S) (hX : ∀ F', MX n F0 F' (bi r (fun S p _ => lp f 0 N S p)) → X (mem e w F' L g)) : ∃ m, xloop B m (ad e 100, 0, mem e w F L g) := by
  refine xloop_dn (fun m a => ∃ k r2 F2, m = N - k ∧ k ≤ N ∧ a = (ad e 100, Int32.ofNat k, mem e w F2 L g) ∧ MX n F0 F2 r2 ∧ (∀ S p v, r2 = .ok (S, p, v) → G k S) ∧ (∀ F', MX n F0 F' (bi r2 (fun S p _ => lp f k (N - k) S p)) → X (mem e w F' L g))) ?_ N _ ⟨0, r, F, rfl, Nat.zero_le _, rfl, h, hG0, hX⟩
  rintro m a cc ⟨k, r2, F2, rfl, hk1, rfl, h2, hg, hx⟩ hk
  refine hb k r2 F2 cc hk1 h2 hg (fun hor => ?_) (fun S2 p2 v2 hkN hr F3 h3 => ?_)
  · match r2, h2, hx, hor with
    | .error (c', q'), h2, hx, hor => exact hx F2 h2
    | .ok (S2, p2, v2), h2, hx, hor =>
      rcases hor with ⟨c, q, hh⟩ | hkN
      · cases hh
      · rw [hkN, Nat.sub_self] at hx
        exact hx F2 h2
  · subst hr
    refine hk (N - (k + 1)) _ (by omega) ⟨k + 1, f k S2 p2, F3, rfl, by omega, rfl, h3, fun S p v hh => hG k S2 p2 S p v (hg _ _ _ rfl) hh, fun F' h4 => hx F' ?_⟩
    rw [bi_ok, show N - k = (N - (k + 1)) + 1 by omega]
    exact h4
theorem EM_or {r : RS} (h : MX n F0 F r) : (∃ c q, r = .error (c, q) ∧ EM n F0 F c q) ∨ (∃ S p v, r = .ok (S, p, v) ∧ MS n F0 F S p) := by
  match r, h with
  | .error (c', q'), h => exact Or.inl ⟨c', q', rfl, h⟩
  | .ok (S, p, v), h => exact Or.inr ⟨S, p, v, rfl, h⟩
theorem MS.size (h : MS n F0 F S p) (hs : SZ S) {j : Nat} (hj : j < 5) : F 110 (10 + j) = Int32.ofNat (S 0 j) := h.at (r := 0) (j := j) (by decide) rfl hj (hs.2.1 j hj).1 rfl
theorem m_outputs {l : Nat} (hT : TM F0 b n) (h : MX n F0 F r) (hB : ∀ S p v, r = .ok (S, p, v) → BI S l) (hQ : ∀ F', MX n F0 F' (bi r (fun S p _ => o0A b S p)) → Q (mem e w F' L g)) : wp_Model_takeOutputs z Q (ad e 100) (mem e w F L g) := by
  unfold wp_Model_takeOutputs wp_Model_takeOutputs_2
  obtain ⟨N, hN8, hN⟩ : ∃ N, N ≤ 8 ∧ ∀ S p v, r = .ok (S, p, v) → S 0 3 = N := by
    rcases EM_or h with ⟨c, q, hr, _⟩ | ⟨S, p, v, hr, _⟩
    · exact ⟨0, by decide, fun S p v hh => by rw [hr] at hh; cases hh⟩
    · exact ⟨S 0 3, (hB S p v hr).1.1.2.2.2.1, fun S' p' v' hh => by rw [hr] at hh; obtain ⟨rfl, _⟩ := ok_inj hh; rfl⟩
  refine m_lines (r := r) (f := ouA b) (N := N) (G := fun k T => BI T (l + k) ∧ T 0 3 = N) (X := Q) (by omega) (fun k r2 F2 cc hk1 h2 hg hx hc => ?_) (fun k T p T' q v hP hr => ?_) h (fun S p v hr => ⟨hB S p v hr, hN S p v hr⟩) (fun F' h' => hQ F' ?_)
  · unfold wp_Model_takeOutputs_2_b; dsimp only
    repeat (first | ((with_reducible show ∃ _, _ ∧ _); first | refine s_fI (by rfl) (by rfl) (by rfl) ?_ | refine s_fR (by rfl) (by rfl) (by rfl) ?_ | refine s_pV (by rfl) (by rfl) (Nat.le_of_ble_eq_true rfl) (by rfl) ?_) | ((with_reducible show xcls _ _ _ ∧ _); refine s_cls (by rfl) (by rfl) ?_))
    refine s_aI (i := 13) (by rfl) (by rfl) (by rfl) (by rfl) (by decide) (by decide) ?_
    rcases EM_or h2 with ⟨c, q, rfl, hE⟩ | ⟨S2, p2, v2, rfl, h2⟩
    · refine ⟨fun _ => hx (Or.inl ⟨c, q, rfl⟩), fun _ => ?_⟩
      repeat (first | ((with_reducible show ∃ _, _ ∧ _); first | refine s_fI (by rfl) (by rfl) (by rfl) ?_ | refine s_fR (by rfl) (by rfl) (by rfl) ?_ | refine s_pV (by rfl) (by rfl) (Nat.le_of_ble_eq_true rfl) (by rfl) ?_) | ((with_reducible show xcls _ _ _ ∧ _); refine s_cls (by rfl) (by rfl) ?_))
      exact ⟨fun _ => hx (Or.inl ⟨c, q, rfl⟩), fun hh => absurd hh hE.ne.2⟩
    obtain ⟨hB2, hN2⟩ := hg _ _ _ rfl
    rw [show F2 110 13 = Int32.ofNat (S2 0 3) from h2.size hB2.1 (by decide : 3 < 5), hN2]
    refine ⟨fun hh => hx (Or.inr ?_), fun hh => ?_⟩
    · rw [n_le (by omega) (by omega)] at hh; omega
    rw [n_le (by omega) (by omega)] at hh
    repeat (first | ((with_reducible show ∃ _, _ ∧ _); first | refine s_fI (by rfl) (by rfl) (by rfl) ?_ | refine s_fR (by rfl) (by rfl) (by rfl) ?_ | refine s_pV (by rfl) (by rfl) (Nat.le_of_ble_eq_true rfl) (by rfl) ?_) | ((with_reducible show xcls _ _ _ ∧ _); refine s_cls (by rfl) (by rfl) ?_))
    rw [h2.2.2.2.1.1]
    refine ⟨fun hh => absurd rfl hh, fun _ => ?_⟩
    repeat (first | ((with_reducible show ∃ _, _ ∧ _); first | refine s_fI (by rfl) (by rfl) (by rfl) ?_ | refine s_fR (by rfl) (by rfl) (by rfl) ?_ | refine s_pV (by rfl) (by rfl) (Nat.le_of_ble_eq_true rfl) (by rfl) ?_) | ((with_reducible show xcls _ _ _ ∧ _); refine s_cls (by rfl) (by rfl) ?_))
    rw [h2.2.1]
    refine s_sI (i := k) (by rfl) (by rfl) (by rfl) (by rfl) (by rfl) (by omega) (by decide) ?_
    repeat (first | ((with_reducible show ∃ _, _ ∧ _); first | refine s_fI (by rfl) (by rfl) (by rfl) ?_ | refine s_fR (by rfl) (by rfl) (by rfl) ?_ | refine s_pV (by rfl) (by rfl) (Nat.le_of_ble_eq_true rfl) (by rfl) ?_) | ((with_reducible show xcls _ _ _ ∧ _); refine s_cls (by rfl) (by rfl) ?_))
    refine m_useAt (rp := 24) (r3 := 4) hT h2 hB2.1 rfl (by decide) rfl rfl (by decide) (by decide) (by omega) (fun F3 y h3 h4 => ?_)
    refine s_sI (i := 16 + k) (by rfl) (by rfl) (by rfl) (by rfl) (by exact n_add 16 k) (by omega) (by decide) ?_
    repeat (first | ((with_reducible show ∃ _, _ ∧ _); first | refine s_fI (by rfl) (by rfl) (by rfl) ?_ | refine s_fR (by rfl) (by rfl) (by rfl) ?_ | refine s_pV (by rfl) (by rfl) (Nat.le_of_ble_eq_true rfl) (by rfl) ?_) | ((with_reducible show xcls _ _ _ ∧ _); refine s_cls (by rfl) (by rfl) ?_))
    refine m_take (c := 10) hT (h4 _ rfl) (by decide) (fun F4 h5 => ?_)
    rw [n_inc]
    refine hc S2 p2 v2 (by omega) rfl F4 ?_
    rw [bi_bi] at h5
    exact h5
  · refine ⟨ouA_BI hP.1 hr, ?_⟩
    obtain ⟨S1, p1, v1, h1, h2⟩ := bi_split hr
    obtain ⟨rfl, _⟩ := psA_ok h2
    obtain ⟨rfl, _⟩ := usA_ok h1
    rw [st_o (by decide) (by decide), st_o (by decide) (by decide), st_o (by decide) (by decide), st_o (by decide) (by decide), st_o (by decide) (by decide)]; exact hP.2
  · match r, hN, h' with
    | .error e, hN, h' => exact h'
    | .ok (S, p, v), hN, h' =>
      rw [bi_ok] at h' ⊢
      unfold o0A
      rw [hN S p v rfl]; exact h'
end
