/-! The reference's load. -/
def updD (D : Nat → Option (Nat → Nat → Nat)) (c : Nat) (C : Nat → Nat → Nat) : Nat → Option (Nat → Nat → Nat) := fun c' => if c' = c then some C else D c'
def mfr (F F' : Nat → Nat → Int32) : Prop := (∀ k, k < 100 ∨ (100 < k ∧ k < 110) ∨ k = 129 ∨ 131 < k → F' k = F k) ∧ (∀ j, 33 < j → F' 100 j = F 100 j)
section
variable {e : xenv} {w : Bool} {L : Nat → Nat → Int64} {g : xh} {z : Nat → Nat} {b : Nat → Nat} {n : Nat} {F0 F F' F2 : Nat → Nat → Int32} {S S' T : RW} {p q s nu f : Nat} {Q : Int32 → xh → Prop} {D : Nat → Option (Nat → Nat → Nat)}
theorem km_of (h : MS n F0 F (orS T) p) (hF : FG T) (hN : NM T) (hs : (sg2 T (T 0 4)).2 = T 0 4) : KM 2 (fun k => if k = 127 then (fun j => F 126 (j - 300)) else F k) (ciC T) := by
  have hO := (sg2_ODR T (T 0 4)).1
  rw [hs] at hO
  obtain ⟨f0, f1, f2, f3, f4, f5⟩ := hF.1.1.1
  have er : ∀ r, r ≠ 5 ∧ r ≠ 11 ∧ r ≠ 105 ∧ r ≠ 111 → orS T r = T r := fun r hr => orS_o hr
  have at' : ∀ {r R o zz j i : Nat}, r < 100 → lyM r = (R, o, zz) → r ≠ 5 ∧ r ≠ 11 → j < zz → T (r + 100) j = 1 → i = o + j → F R i = VM r (T r j) := fun {r R o zz j i} hr hl hne hj hm hi => by
    have := h.at hr hl hj (by rw [er _ ⟨by omega, by omega, by omega, by omega⟩]; exact hm) hi
    rw [er r ⟨by omega, by omega, by omega, by omega⟩] at this
    exact this
  have k9 : ∀ kd k, kd < 3 → k < sz3 kd → F 125 (mo kd + k) = Int32.ofNat (T (40 + kd) k) ∧ ∀ i, i < T (40 + kd) k → bv (F 124 (40 * mo kd + (40 * k + i))) = T (50 + kd) (40 * k + i) := by
    intro kd k hkd hk
    have h8 : sz3 kd ≤ 8 := by unfold sz3; split; decide; split <;> decide
    obtain ⟨m1, l1⟩ := hF.1.2.2.2.2 kd k hkd (by omega)
    refine ⟨?_, fun i hi => ?_⟩
    · rw [at' (r := 40 + kd) (by omega) (lyM_nm hkd).2.1 (by omega) hk (by rw [show 40 + kd + 100 = 140 + kd by omega]; exact m1) rfl, VM_ln hkd]
    · obtain ⟨m2, l2⟩ := hN kd k i hkd (by omega) hi
      rw [at' (r := 50 + kd) (j := 40 * k + i) (by omega) (lyM_nm hkd).1 (by omega) (by omega) (by rw [show 50 + kd + 100 = 150 + kd by omega]; exact m2) rfl, VM_nm]
      exact bv_nb l2
  refine ⟨fun j hj => ?_, fun v hv => ?_, fun y hy => ?_, fun k hk => ?_, fun k hk => ?_, fun k hk => ?_, fun s hs => ?_⟩
  · exact at' (r := 0) (j := j) (by decide) rfl (by decide) hj (hF.1.1.2.1 j hj).1 rfl
  · exact at' (r := 8) (j := v) (by decide) rfl (by decide) hv (hF.1.2.1 v hv) rfl
  · have hy : y < T 0 4 := hy
    obtain ⟨o1, _⟩ := hO y hy
    obtain ⟨b1, b2, b3, b4, b5, b6, b7, b8⟩ := hF.2.2.2.2.1 _ o1
    refine ⟨show (sg2 T (T 0 4)).1 y < 150 by omega, ?_, ?_, ?_, ?_⟩
    · show F 126 (150 * 2 + y - 300) = Int32.ofNat ((sg2 T (T 0 4)).1 y)
      rw [show 150 * 2 + y - 300 = y by omega]
      exact h.at (r := 11) (j := y) (i := y) (by decide) rfl (by omega) (by show (if y < T 0 4 then 1 else 0) = 1; rw [if_pos hy]) (by omega)
    · exact at' (r := 12) (j := (sg2 T (T 0 4)).1 y) (by decide) rfl (by decide) (by omega) (hF.2.1.2.2.2.1 _ o1).1 rfl
    · exact at' (r := 13) (j := (sg2 T (T 0 4)).1 y) (by decide) rfl (by decide) (by omega) b3 rfl
    · exact at' (r := 14) (j := (sg2 T (T 0 4)).1 y) (by decide) rfl (by decide) (by omega) b4 rfl
  · have hk : k < T 0 1 := hk
    exact at' (r := 1) (j := k) (by decide) rfl (by decide) (by omega) (hF.2.1.2.1.1 k hk).1 rfl
  · have hk : k < T 0 2 := hk
    exact ⟨at' (r := 2) (j := k) (by decide) rfl (by decide) (by omega) (hF.2.1.2.2.1.1 k hk).1 rfl, at' (r := 3) (j := k) (by decide) rfl (by decide) (by omega) (hF.2.2.1.1 k hk).1 rfl⟩
  · have hk : k < T 0 3 := hk
    exact at' (r := 4) (j := k) (by decide) rfl (by decide) (by omega) (hF.2.2.1.2 k hk).1 rfl
  · show F 125 (22 * 2 + ms s) = Int32.ofNat (if s < 5 then T 40 s else if s < 11 then T 41 (s - 5) else T 42 (s - 11)) ∧ ∀ i, i < (if s < 5 then T 40 s else if s < 11 then T 41 (s - 5) else T 42 (s - 11)) → bv (F 124 (40 * (22 * 2 + ms s) + i)) = (if 40 * s + i < 200 then T 50 (40 * s + i) else if 40 * s + i < 440 then T 51 (40 * s + i - 200) else T 52 (40 * s + i - 440))
    by_cases h5 : s < 5
    · obtain ⟨a1, a2⟩ := k9 0 s (by decide) h5
      have l40 := (hF.1.2.2.2.2 0 s (by decide) (by omega)).2
      have em : ms s = s := by unfold ms; rw [if_pos h5]
      have e1 : mo 0 = 44 := rfl
      rw [if_pos h5, em]
      refine ⟨by rw [e1] at a1; exact a1, fun i hi => ?_⟩
      have := a2 i hi
      have hl : i < 40 := Nat.lt_of_lt_of_le hi l40
      rw [e1, show 40 * 44 + (40 * s + i) = 40 * (22 * 2 + s) + i by omega] at this
      rw [if_pos (by omega)]; exact this
    · by_cases h11 : s < 11
      · obtain ⟨a1, a2⟩ := k9 1 (s - 5) (by decide) (by show s - 5 < 6; omega)
        have l40 := (hF.1.2.2.2.2 1 (s - 5) (by decide) (by omega)).2
        have em : ms s = s + 1 := by unfold ms; rw [if_neg h5, if_pos h11]
        have e1 : mo 1 = 50 := rfl
        rw [if_neg h5, if_pos h11, em]
        refine ⟨by rw [e1, show 50 + (s - 5) = 22 * 2 + (s + 1) by omega] at a1; exact a1, fun i hi => ?_⟩
        have := a2 i hi
        have hl : i < 40 := Nat.lt_of_lt_of_le hi l40
        rw [e1, show 40 * 50 + (40 * (s - 5) + i) = 40 * (22 * 2 + (s + 1)) + i by omega] at this
        rw [if_neg (by omega), if_pos (by omega), show 40 * s + i - 200 = 40 * (s - 5) + i by omega]; exact this
      · obtain ⟨a1, a2⟩ := k9 2 (s - 11) (by decide) (by show s - 11 < 8; omega)
        have l40 := (hF.1.2.2.2.2 2 (s - 11) (by decide) (by omega)).2
        have em : ms s = s + 3 := by unfold ms; rw [if_neg h5, if_neg h11]
        have e1 : mo 2 = 58 := rfl
        rw [if_neg h5, if_neg h11, em]
        refine ⟨by rw [e1, show 58 + (s - 11) = 22 * 2 + (s + 3) by omega] at a1; exact a1, fun i hi => ?_⟩
        have := a2 i hi
        have hl : i < 40 := Nat.lt_of_lt_of_le hi l40
        rw [e1, show 40 * 58 + (40 * (s - 11) + i) = 40 * (22 * 2 + (s + 3)) + i by omega] at this
        rw [if_neg (by omega), if_neg (by omega), show 40 * s + i - 440 = 40 * (s - 11) + i by omega]; exact this
theorem RM_upd {c : Nat} {C : Nat → Nat → Nat} (hcl : c < 2) (hW : WD D) (hWC : WF C) (hR : RM F D) (hK : KM 2 (fun k => if k = 127 then (fun j => F 126 (j - 300)) else F k) C) (h1 : ∀ R, R = 110 ∨ R = 111 ∨ R = 112 ∨ R = 113 ∨ R = 114 ∨ R = 115 ∨ R = 116 ∨ R = 117 ∨ R = 118 ∨ R = 125 → cpy (wdM R) c (wdM R) (F R) (F' R)) (h2 : ∀ j, F' 127 j = if 150 * c ≤ j ∧ j < 150 * c + 150 then F 126 (j - 150 * c) else F 127 j) (h3 : ∀ j, F' 124 j = if 880 * c ≤ j ∧ j < 880 * c + 880 then (F 124 (1760 + (j - 880 * c))).toInt8.toInt32 else F 124 j) (h4 : ∀ j, F' 130 j = if j = c then 1 else F 130 j) : RM F' (updD D c C) := by
  have rows : ∀ R j, R ≠ 124 → R ≠ 127 → j < wdM R → R = 110 ∨ R = 111 ∨ R = 112 ∨ R = 113 ∨ R = 114 ∨ R = 115 ∨ R = 116 ∨ R = 117 ∨ R = 118 ∨ R = 125 := by
    intro R j n1 n2 hj
    unfold wdM at hj
    split at hj <;> first | omega | exact absurd hj (Nat.not_lt_zero _)
  intro c' hc'
  unfold updD
  by_cases e0 : c' = c
  · rw [if_pos e0]
    refine ⟨fun hh => (by cases hh), fun C' hC' => ?_⟩
    injection hC' with hC'
    subst hC'
    rw [h4, if_pos e0, e0]
    refine ⟨rfl, KM.same hWC (fun R j hR hj => ?_) (fun j hj => ?_) hK⟩
    · by_cases e1 : R = 127
      · subst e1
        show F' 127 (150 * c + j) = F 126 (150 * 2 + j - 300)
        have hj : j < 150 := hj
        rw [h2, if_pos (by omega), show 150 * c + j - 150 * c = j by omega, show 150 * 2 + j - 300 = j by omega]
      · show F' R (wdM R * c + j) = (if R = 127 then (fun j => F 126 (j - 300)) else F R) (wdM R * 2 + j)
        rw [if_neg e1, cpy_in (h1 R (rows R j hR e1 hj)) hj, Nat.mul_comm 2]
    · show bv (F' 124 (880 * c + j)) = bv (F 124 (880 * 2 + j))
      rw [h3, if_pos (by omega), bv_nar, show 880 * c + j - 880 * c = j by omega, show 1760 + j = 880 * 2 + j by omega]
  · rw [if_neg e0]
    refine ⟨fun hh => by rw [h4, if_neg e0]; exact (hR c' hc').1 hh, fun C' hC' => ?_⟩
    rw [h4, if_neg e0]
    refine ⟨((hR c' hc').2 C' hC').1, KM.same (hW c' C' hC') (fun R j hR' hj => ?_) (fun j hj => ?_) ((hR c' hc').2 C' hC').2⟩
    · by_cases e1 : R = 127
      · subst e1
        have hj : j < 150 := hj
        show F' 127 (150 * c' + j) = F 127 (150 * c' + j)
        rw [h2, if_neg (by omega)]
      · exact cpy_out (h1 R (rows R j hR' e1 hj)) e0 hj
    · rw [h3, if_neg (by omega)]
theorem v_Model_load {x : Int32} (hT : TM F b n) (hf : n ≤ f) (hR : RM F D) (hW : WD D)
    (h0 : (∀ c, c < 2 → x ≠ Int32.ofNat c) → ∀ F', mfr F F' → F' 100 0 = 1 → F' 100 3 = 0 → F' 100 4 = 0 → F' 100 5 = -1 → F' 100 33 = F 100 33 → RM F' D → F' 131 = F 131 → Q 0 (mem e w F' L g))
    (h1 : ∀ c k q, c < 2 → x = Int32.ofNat c → rfA b f S00 0 = .error (k, q) → ∀ F', mfr F F' → F' 100 0 = 1 → F' 100 3 = 0 → F' 100 4 = Int32.ofNat k → F' 100 5 = Int32.ofNat q → F' 100 33 = F 100 33 → RM F' D → F' 131 = F 131 → Q 0 (mem e w F' L g))
    (h2 : ∀ c T p' v', c < 2 → x = Int32.ofNat c → rfA b f S00 0 = .ok (orS T, p', v') → FG T → NM T → DF T → (sg2 T (T 0 4)).2 = T 0 4 → ∀ F', mfr F F' → F' 100 0 = 0 → F' 100 3 = 0 → F' 100 4 = 0 → F' 100 5 = -1 → F' 100 33 = 0 → RM F' (updD D c (ciC T)) → (∀ j, j < 2 → F' 131 j = 0) → Q (Int32.ofNat (T 0 4)) (mem e w F' L g)) : wp_Model_load z Q (ad e 100) x (mem e w F L g) := by
  unfold wp_Model_load
  repeat (first | ((with_reducible show ∃ _, _ ∧ _); first | refine s_fI (by rfl) (by rfl) (by rfl) ?_ | refine s_fR (by rfl) (by rfl) (by rfl) ?_ | refine s_pV (by rfl) (by rfl) (Nat.le_of_ble_eq_true rfl) (by rfl) ?_) | ((with_reducible show xcls _ _ _ ∧ _); refine s_cls (by rfl) (by rfl) ?_))
  generalize hF1 : up (up (up F 100 6 0) 100 7 0) 100 8 (-1) = F1
  have k1 : ∀ k, k ≠ 100 → F1 k = F k := fun k hk => by rw [← hF1, up_k hk, up_k hk, up_k hk]
  have z1 : ∀ j, F1 100 j = if j = 8 then -1 else if j = 7 then 0 else if j = 6 then 0 else F 100 j := fun j => by rw [← hF1, up_i, up_i, up_i]
  have hT1 : TM F1 b n := by unfold TM; rw [k1 101 (by decide), z1]; exact hT
  have hR1 : RM F1 D := RM.kept (fun k q1 q2 => k1 k (by omega)) hR
  -- a load that is refused
  have refuse : ∀ (F2 : Nat → Nat → Int32) (x2 : Int32), (x2 = 0 ∨ ¬ F2 100 7 ≤ 0) → (∀ F', (∀ k, k ≠ 100 → F' k = F2 k) → (∀ j, j ≠ 0 → j ≠ 3 → j ≠ 4 → j ≠ 5 → F' 100 j = F2 100 j) → F' 100 0 = 1 → F' 100 3 = 0 → F' 100 4 = F2 100 7 → F' 100 5 = F2 100 8 → Q 0 (mem e w F' L g)) → wp_Model_load_28 z Q (ad e 100) x x2 (mem e w F2 L g) := by
    intro F2 x2 hx2 hq
    have last : ∀ F3, (∀ k, k ≠ 100 → F3 k = F2 k) → (∀ j, j ≠ 3 → j ≠ 4 → j ≠ 5 → F3 100 j = F2 100 j) → F3 100 3 = 0 → F3 100 4 = F2 100 7 → F3 100 5 = F2 100 8 → wp_Model_load_61 z Q (ad e 100) x (ad e 100) (mem e w F3 L g) := by
      intro F3 k3 z3 q3 q4 q5
      unfold wp_Model_load_61 wp_Model_load_66
      repeat (first | ((with_reducible show ∃ _, _ ∧ _); first | refine s_fI (by rfl) (by rfl) (by rfl) ?_ | refine s_fR (by rfl) (by rfl) (by rfl) ?_ | refine s_pV (by rfl) (by rfl) (Nat.le_of_ble_eq_true rfl) (by rfl) ?_) | ((with_reducible show xcls _ _ _ ∧ _); refine s_cls (by rfl) (by rfl) ?_))
      rw [up_i, if_pos rfl]
      refine ⟨fun hh => absurd hh (by decide), fun _ => hq _ (fun k hk => by rw [up_k hk]; exact k3 k hk) (fun j a0 a3 a4 a5 => by rw [up_i, if_neg a0]; exact z3 j a3 a4 a5) (by rw [up_i, if_pos rfl]) (by rw [up_i, if_neg (by decide)]; exact q3) (by rw [up_i, if_neg (by decide)]; exact q4) (by rw [up_i, if_neg (by decide)]; exact q5)⟩
    unfold wp_Model_load_28
    repeat (first | ((with_reducible show ∃ _, _ ∧ _); first | refine s_fI (by rfl) (by rfl) (by rfl) ?_ | refine s_fR (by rfl) (by rfl) (by rfl) ?_ | refine s_pV (by rfl) (by rfl) (Nat.le_of_ble_eq_true rfl) (by rfl) ?_) | ((with_reducible show xcls _ _ _ ∧ _); refine s_cls (by rfl) (by rfl) ?_))
    rw [up_i, if_neg (by decide), up_i, if_neg (by decide), up_i, if_neg (by decide)]
    have hl := last (up (up (up F2 100 3 0) 100 4 (F2 100 7)) 100 5 (F2 100 8)) (fun k hk => by rw [up_k hk, up_k hk, up_k hk]) (fun j a3 a4 a5 => by rw [up_i, if_neg a5, up_i, if_neg a4, up_i, if_neg a3]) (by rw [up_i, if_neg (by decide), up_i, if_neg (by decide), up_i, if_pos rfl]) (by rw [up_i, if_neg (by decide), up_i, if_pos rfl]) (by rw [up_i, if_pos rfl])
    refine ⟨fun _ => hl, fun hne => ?_⟩
    repeat (first | ((with_reducible show ∃ _, _ ∧ _); first | refine s_fI (by rfl) (by rfl) (by rfl) ?_ | refine s_fR (by rfl) (by rfl) (by rfl) ?_ | refine s_pV (by rfl) (by rfl) (Nat.le_of_ble_eq_true rfl) (by rfl) ?_) | ((with_reducible show xcls _ _ _ ∧ _); refine s_cls (by rfl) (by rfl) ?_))
    rw [up_i, if_neg (by decide), up_i, if_neg (by decide), up_i, if_neg (by decide)]
    rcases hx2 with hh | hh
    · exact absurd hh hne
    · exact ⟨fun h7 => absurd h7 hh, fun _ => hl⟩
  refine v_mIsCircuit (fun hno => ⟨fun _ => ?_, fun hh => absurd rfl hh⟩) (fun c hcl hx => ⟨fun hh => absurd hh (by decide), fun _ => ?_⟩)
  · refine refuse F1 0 (Or.inl rfl) (fun F' k' z' q0 q3 q4 q5 => ?_)
    refine h0 hno F' ⟨fun k hk => by rw [k' k (by omega), k1 k (by omega)], fun j hj => by rw [z' j (by omega) (by omega) (by omega) (by omega), z1, if_neg (by omega), if_neg (by omega), if_neg (by omega)]⟩ q0 q3 (by rw [q4, z1]; rfl) (by rw [q5, z1]; rfl) (by rw [z' 33 (by decide) (by decide) (by decide) (by decide), z1]; rfl) (RM.kept (fun k a1 a2 => k' k (by omega)) hR1) (by rw [k' 131 (by decide), k1 131 (by decide)])
  repeat (first | ((with_reducible show ∃ _, _ ∧ _); first | refine s_fI (by rfl) (by rfl) (by rfl) ?_ | refine s_fR (by rfl) (by rfl) (by rfl) ?_ | refine s_pV (by rfl) (by rfl) (Nat.le_of_ble_eq_true rfl) (by rfl) ?_) | ((with_reducible show xcls _ _ _ ∧ _); refine s_cls (by rfl) (by rfl) ?_))
  refine m_file (f := f) hT1 (by rw [z1]; rfl) ⟨by rw [z1]; rfl, by rw [z1]; rfl⟩ hf (fun F2 h2' => ?_)
  have hb := hT.le
  match hr : rfA b f S00 0, h2' with
  | .error (k, q), h2' =>
    have hE : EM n F1 F2 k q := h2'
    have hR2 : RM F2 D := fun c' hc' => by
      rw [hE.1.1 130 (by omega)]
      exact ⟨(hR1 c' hc').1, fun C hC => ⟨((hR1 c' hc').2 C hC).1, KM_fM hc' (hW c' C hC) hE.1 ((hR1 c' hc').2 C hC).2⟩⟩
    refine refuse F2 1 (Or.inr hE.ne.1) (fun F' k' z' q0 q3 q4 q5 => ?_)
    refine h1 c k q hcl hx hr F' ⟨fun j hj => by rw [k' j (by omega), hE.1.1 j (by omega), k1 j (by omega)], fun j hj => by rw [z' j (by omega) (by omega) (by omega) (by omega), hE.1.2.2 j (by omega) (by omega), z1, if_neg (by omega), if_neg (by omega), if_neg (by omega)]⟩ q0 q3 (by rw [q4]; exact hE.2.2.1.1) (by rw [q5]; exact hE.2.2.2) (by rw [z' 33 (by decide) (by decide) (by decide) (by decide), hE.1.2.2 33 (by decide) (by decide), z1]; rfl) (RM.kept (fun k a1 a2 => k' k (by omega)) hR2) (by rw [k' 131 (by decide), hE.1.1 131 (by omega), k1 131 (by decide)])
  | .ok (S', p', v'), h2' =>
    have hM : MS n F1 F2 S' p' := h2'
    obtain ⟨T, hST, hFG, hNM, hDF, hso⟩ := rfA_ok hb S00_H.1 S00_H.2 hr
    subst hST
    have hKM := km_of hM hFG hNM hso
    have hR2 : RM F2 D := fun c' hc' => by
      rw [hM.1.1 130 (by omega)]
      exact ⟨(hR1 c' hc').1, fun C hC => ⟨((hR1 c' hc').2 C hC).1, KM_fM hc' (hW c' C hC) hM.1 ((hR1 c' hc').2 C hC).2⟩⟩
    unfold wp_Model_load_28
    repeat (first | ((with_reducible show ∃ _, _ ∧ _); first | refine s_fI (by rfl) (by rfl) (by rfl) ?_ | refine s_fR (by rfl) (by rfl) (by rfl) ?_ | refine s_pV (by rfl) (by rfl) (Nat.le_of_ble_eq_true rfl) (by rfl) ?_) | ((with_reducible show xcls _ _ _ ∧ _); refine s_cls (by rfl) (by rfl) ?_))
    rw [up_i, if_neg (by decide), up_i, if_neg (by decide), up_i, if_neg (by decide), hM.2.2.2.1.1, hM.2.2.2.1.2]
    refine ⟨fun hh => absurd hh (by decide), fun _ => ?_⟩
    repeat (first | ((with_reducible show ∃ _, _ ∧ _); first | refine s_fI (by rfl) (by rfl) (by rfl) ?_ | refine s_fR (by rfl) (by rfl) (by rfl) ?_ | refine s_pV (by rfl) (by rfl) (Nat.le_of_ble_eq_true rfl) (by rfl) ?_) | ((with_reducible show xcls _ _ _ ∧ _); refine s_cls (by rfl) (by rfl) ?_))
    rw [up_i, if_neg (by decide), up_i, if_neg (by decide), up_i, if_neg (by decide), hM.2.2.2.1.1]
    refine ⟨fun _ => ?_, fun hh => absurd (show (0 : Int32) ≤ 0 by decide) hh⟩
    unfold wp_Model_load_66
    repeat (first | ((with_reducible show ∃ _, _ ∧ _); first | refine s_fI (by rfl) (by rfl) (by rfl) ?_ | refine s_fR (by rfl) (by rfl) (by rfl) ?_ | refine s_pV (by rfl) (by rfl) (Nat.le_of_ble_eq_true rfl) (by rfl) ?_) | ((with_reducible show xcls _ _ _ ∧ _); refine s_cls (by rfl) (by rfl) ?_))
    generalize hF3 : up (up (up (up F2 100 3 0) 100 4 0) 100 5 (-1)) 100 0 0 = F3
    have k3 : ∀ k, k ≠ 100 → F3 k = F2 k := fun k hk => by rw [← hF3, up_k hk, up_k hk, up_k hk, up_k hk]
    have z3 : ∀ j, F3 100 j = if j = 0 then 0 else if j = 5 then -1 else if j = 4 then 0 else if j = 3 then 0 else F2 100 j := fun j => by rw [← hF3, up_i, up_i, up_i, up_i]
    repeat (first | ((with_reducible show ∃ _, _ ∧ _); first | refine s_fI (by rfl) (by rfl) (by rfl) ?_ | refine s_fR (by rfl) (by rfl) (by rfl) ?_ | refine s_pV (by rfl) (by rfl) (Nat.le_of_ble_eq_true rfl) (by rfl) ?_) | ((with_reducible show xcls _ _ _ ∧ _); refine s_cls (by rfl) (by rfl) ?_))
    rw [z3, if_pos rfl]
    refine ⟨fun _ => ?_, fun hh => absurd (show (0 : Int32) ≤ 0 by decide) hh⟩
    repeat (first | ((with_reducible show ∃ _, _ ∧ _); first | refine s_fI (by rfl) (by rfl) (by rfl) ?_ | refine s_fR (by rfl) (by rfl) (by rfl) ?_ | refine s_pV (by rfl) (by rfl) (Nat.le_of_ble_eq_true rfl) (by rfl) ?_) | ((with_reducible show xcls _ _ _ ∧ _); refine s_cls (by rfl) (by rfl) ?_))
    rw [hx]
    refine v_keep hcl (fun F4 k4 c4 o4 n4 z4 q33 t4 s4 => ?_)
    repeat (first | ((with_reducible show ∃ _, _ ∧ _); first | refine s_fI (by rfl) (by rfl) (by rfl) ?_ | refine s_fR (by rfl) (by rfl) (by rfl) ?_ | refine s_pV (by rfl) (by rfl) (Nat.le_of_ble_eq_true rfl) (by rfl) ?_) | ((with_reducible show xcls _ _ _ ∧ _); refine s_cls (by rfl) (by rfl) ?_))
    refine s_aI (i := 14) (by rfl) (by rfl) (by rfl) (by rfl) (by decide) (by decide) ?_
    have e14 : F4 110 14 = Int32.ofNat (T 0 4) := by
      have hcp := c4 110 (Or.inl rfl)
      rw [hcp 14, if_neg (by show ¬ (5 * c ≤ 14 ∧ 14 < 5 * c + 5); omega), k3 110 (by decide)]
      exact hKM.1 4 (by decide)
    rw [e14]
    have hK3 : KM 2 (fun k => if k = 127 then (fun j => F3 126 (j - 300)) else F3 k) (ciC T) := by
      refine KM.same (c := 2) (ciC_WF hFG hDF hso) (fun R j hR hj => ?_) (fun j hj => ?_) hKM
      · obtain ⟨a1, a2⟩ := wd_row hj
        show (if R = 127 then (fun j => F3 126 (j - 300)) else F3 R) _ = (if R = 127 then (fun j => F2 126 (j - 300)) else F2 R) _
        rw [k3 126 (by decide), k3 R (by omega)]
      · show bv ((if (124 : Nat) = 127 then (fun j => F3 126 (j - 300)) else F3 124) _) = bv ((if (124 : Nat) = 127 then (fun j => F2 126 (j - 300)) else F2 124) _)
        rw [k3 126 (by decide), k3 124 (by decide)]
    refine h2 c T p' v' hcl hx hr hFG hNM hDF hso F4 ⟨fun k hk => by rw [k4 k (by omega), k3 k (by omega), hM.1.1 k (by omega), k1 k (by omega)], fun j hj => by rw [z4 j (by omega), z3, if_neg (by omega), if_neg (by omega), if_neg (by omega), if_neg (by omega), hM.1.2.2 j (by omega) (by omega), z1, if_neg (by omega), if_neg (by omega), if_neg (by omega)]⟩ (by rw [z4 0 (by decide), z3]; rfl) (by rw [z4 3 (by decide), z3]; rfl) (by rw [z4 4 (by decide), z3]; rfl) (by rw [z4 5 (by decide), z3]; rfl) q33 ?_ s4
    exact RM_upd hcl hW (ciC_WF hFG hDF hso) (RM.kept (fun k a1 a2 => k3 k (by omega)) hR2) hK3 c4 o4 n4 t4
end
