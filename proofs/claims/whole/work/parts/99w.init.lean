/-! The law's objects are made. -/
def lv0 (u : Bool) (k : Nat) : Bool := Nat.beq k 80 || ((Nat.beq k 81 || Nat.beq k 82) && u)
def ob0 (n : Nat) (sc f1 f2 : Nat → Int32) (k : Nat) : xo := bif Nat.beq k 80 then .inl (100, n, .inl sc) else bif Nat.beq k 81 then .inl (100, 3, .inl f1) else .inl (100, 5, .inl f2)
def F00 (sc f1 f2 : Nat → Int32) (k : Nat) : Nat → Int32 := bif Nat.beq k 80 then sc else bif Nat.beq k 81 then f1 else bif Nat.beq k 82 then f2 else bif Nat.beq k 64 then (fun j => bif Nat.beq j 12 then -1 else 0) else bif Nat.beq k 100 then (fun j => bif Nat.beq j 5 then -1 else 0) else fun _ => 0
/-- names as those of an environment, by definition -/
theorem env_M {lv : Nat → Bool} {nm : Nat → Nat} (hb : ∀ k, lv k = true → k < 200) (hI : gI lv nm) : ∃ M, ∀ i j, (bif lv i then nm i else M + i) = (bif lv j then nm j else M + j) → i = j := by
  have hmax : ∀ m, ∃ M, ∀ k, k < m → nm k < M := by
    intro m
    induction m with
    | zero => exact ⟨0, fun k hk => absurd hk (Nat.not_lt_zero _)⟩
    | succ m ih =>
      obtain ⟨M, hM⟩ := ih
      refine ⟨M + nm m + 1, fun k hk => ?_⟩
      by_cases e0 : k = m
      · rw [e0]; omega
      · have := hM k (by omega); omega
  obtain ⟨M, hM⟩ := hmax 200
  refine ⟨M, fun i j h => ?_⟩
  cases hi : lv i <;> cases hj : lv j <;> rw [hi, hj] at h <;> dsimp only [cond] at h
  · omega
  · have := hM j (hb j hj); omega
  · have := hM i (hb i hi); omega
  · exact hI i j hi hj h
section
variable {u : Bool} {z : Nat → Nat} {mc ms n : Nat} {sc f1 f2 : Nat → Int32} {Q : Int32 → xh → Prop} {nm0 : Nat → Nat} {g : xh}
set_option maxRecDepth 100000 in
set_option maxHeartbeats 4000000 in
theorem v_init (hI : gI (lv0 u) nm0) (hmc : 1000 ≤ mc) (hms : 500000 ≤ ms) (hQ : ∀ lv obj nm, gI lv nm → (∀ k, k ≠ 81 → k ≠ 82 → lv k = li false k) → (lv 81 = u ∧ lv 82 = u) → (nm 80 = nm0 80 ∧ nm 81 = nm0 81 ∧ nm 82 = nm0 82) → (obj 80 = .inl (100, n, .inl sc) ∧ obj 81 = .inl (100, 3, .inl f1) ∧ obj 82 = .inl (100, 5, .inl f2)) → (∀ M hM, ∀ k, li false k = true → k ≠ 81 → k ≠ 82 → ob ⟨(fun k => bif li false k then nm k else M + k, n), hM⟩ false (F00 sc f1 f2 k) (fun _ => 0) k = obj k) → wp_Law_law_23 z mc ms Q (nm 80) (nm 60) (nm 100) (nm 83) 0 (gm lv obj nm g) 89 182879) : wp_Law_law z mc ms Q (nm0 80) (gm (lv0 u) (ob0 n sc f1 f2) nm0 g) := by
  unfold wp_Law_law
  refine ⟨by omega, by omega, ?_⟩
  refine b_new (k := 60) hI (by rfl) (fun q60 hI => ?_)
  refine ⟨50, 12360, by omega, by omega, ?_⟩
  try unfold wp_Judge_init
  refine ⟨by omega, by omega, ?_⟩
  refine b_new (k := 61) hI (by rfl) (fun q61 hI => ?_)
  refine ⟨2, 6020, by omega, by omega, ?_⟩
  refine i_tp hI (by rfl) (by rfl) (fun k hk => ?_) (by omega) (by omega) (fun qT hI => ?_)
  · rcases s_tp_yes hk with rfl | rfl <;> rfl
  refine b_pV (k := 60) hI (by rfl) (by rfl) (by rfl) (Nat.le_of_ble_eq_true rfl) ?_
  refine ⟨by omega, by omega, ?_⟩
  refine b_new (k := 64) hI (by rfl) (fun q64 hI => ?_)
  refine b_fR (k := 60) hI (by rfl) (by rfl) (by rfl) (by rfl) ?_
  refine ⟨19, 2964, by omega, by omega, ?_⟩
  try unfold wp_Reader_init
  refine ⟨by omega, by omega, ?_⟩
  refine b_new (k := 68) hI (by rfl) (fun q68 hI => ?_)
  refine ⟨4, 753, by omega, by omega, ?_⟩
  refine i_so hI (by rfl) (by rfl) (fun k hk => ?_) (by omega) (by omega) (fun qS hI => ?_)
  · rcases s_so_yes hk with rfl | rfl | rfl | rfl <;> rfl
  refine b_pV (k := 64) hI (by rfl) (by rfl) (by rfl) (Nat.le_of_ble_eq_true rfl) ?_
  refine ⟨by omega, by omega, ?_⟩
  refine b_new (k := 40) hI (by rfl) (fun q40 hI => ?_)
  refine ⟨10, 1557, by omega, by omega, ?_⟩
  refine i_c40 hI (by rfl) (by rfl) (fun k hk => ?_) (by omega) (by omega) (fun qC hI => ?_)
  · rcases s_c40_yes hk with rfl | rfl | rfl | rfl | rfl | rfl | rfl | rfl | rfl | rfl <;> rfl
  refine b_pV (k := 64) hI (by rfl) (by rfl) (by rfl) (Nat.le_of_ble_eq_true rfl) ?_
  refine ⟨by omega, by omega, ?_⟩
  refine b_new (k := 65) hI (by rfl) (fun q65 hI => ?_)
  refine b_pV (k := 64) hI (by rfl) (by rfl) (by rfl) (Nat.le_of_ble_eq_true rfl) ?_
  refine ⟨by omega, by omega, ?_⟩
  refine b_new (k := 66) hI (by rfl) (fun q66 hI => ?_)
  refine b_pV (k := 64) hI (by rfl) (by rfl) (by rfl) (Nat.le_of_ble_eq_true rfl) ?_
  refine ⟨by omega, by omega, ?_⟩
  refine b_new (k := 67) hI (by rfl) (fun q67 hI => ?_)
  refine b_pV (k := 64) hI (by rfl) (by rfl) (by rfl) (Nat.le_of_ble_eq_true rfl) ?_
  refine b_pV (k := 64) hI (by rfl) (by rfl) (by rfl) (Nat.le_of_ble_eq_true rfl) ?_
  refine b_pV (k := 64) hI (by rfl) (by rfl) (by rfl) (Nat.le_of_ble_eq_true rfl) ?_
  refine b_pV (k := 60) hI (by rfl) (by rfl) (by rfl) (Nat.le_of_ble_eq_true rfl) ?_
  refine ⟨by omega, by omega, ?_⟩
  refine b_new (k := 75) hI (by rfl) (fun q75 hI => ?_)
  refine b_pV (k := 60) hI (by rfl) (by rfl) (by rfl) (Nat.le_of_ble_eq_true rfl) ?_
  unfold wp_Judge_init_40
  refine ⟨3, ?_⟩
  unfold xloop; dsimp only
  try unfold wp_Judge_init_40_b
  refine ⟨fun hh => absurd hh (by decide), fun _ => ?_⟩
  refine b_fR (k := 60) hI (by rfl) (by rfl) (by rfl) (by rfl) ?_
  refine ⟨by omega, by omega, ?_⟩
  refine b_new (k := 0) hI (by rfl) (fun q0 hI => ?_)
  refine ⟨10, 1557, by omega, by omega, ?_⟩
  refine i_c0 hI (by rfl) (by rfl) (fun k hk => ?_) (by omega) (by omega) (fun qA hI => ?_)
  · rcases s_c0_yes hk with rfl | rfl | rfl | rfl | rfl | rfl | rfl | rfl | rfl | rfl <;> rfl
  refine b_cls (k := 0) hI (by rfl) (by rfl) (by rfl) ?_
  refine b_sR (k := 75) (i := 0) hI (by rfl) (by rfl) (by rfl) (by rfl) (by decide) (by decide) ?_
  unfold xloop; dsimp only
  try unfold wp_Judge_init_40_b
  refine ⟨fun hh => absurd hh (by decide), fun _ => ?_⟩
  refine b_fR (k := 60) hI (by rfl) (by rfl) (by rfl) (by rfl) ?_
  refine ⟨by omega, by omega, ?_⟩
  refine b_new (k := 20) hI (by rfl) (fun q20 hI => ?_)
  refine ⟨10, 1557, by omega, by omega, ?_⟩
  refine i_c20 hI (by rfl) (by rfl) (fun k hk => ?_) (by omega) (by omega) (fun qB hI => ?_)
  · rcases s_c20_yes hk with rfl | rfl | rfl | rfl | rfl | rfl | rfl | rfl | rfl | rfl <;> rfl
  refine b_cls (k := 20) hI (by rfl) (by rfl) (by rfl) ?_
  refine b_sR (k := 75) (i := 1) hI (by rfl) (by rfl) (by rfl) (by rfl) (by decide) (by decide) ?_
  unfold xloop; dsimp only
  try unfold wp_Judge_init_40_b
  refine ⟨fun _ => ?_, fun hh => absurd (show (2 : Int32) ≤ 0 + 1 + 1 by decide) hh⟩
  refine ⟨by omega, by omega, ?_⟩
  refine b_new (k := 76) hI (by rfl) (fun q76 hI => ?_)
  refine b_fR (k := 60) hI (by rfl) (by rfl) (by rfl) (by rfl) ?_
  refine ⟨3, 208, by omega, by omega, ?_⟩
  refine i_pl hI (by rfl) (by rfl) (fun k hk => ?_) (by omega) (by omega) (fun qP hI => ?_)
  · rcases s_pl_yes hk with rfl | rfl | rfl <;> rfl
  refine b_pV (k := 60) hI (by rfl) (by rfl) (by rfl) (Nat.le_of_ble_eq_true rfl) ?_
  refine ⟨by omega, by omega, ?_⟩
  refine b_new (k := 100) hI (by rfl) (fun q100 hI => ?_)
  refine ⟨36, 170461, by omega, by omega, ?_⟩
  refine i_mo hI (by rfl) (by rfl) (fun k hk => ?_) (by omega) (by omega) (fun qM hI => ?_)
  · rcases s_mo_yes hk with rfl | rfl | rfl | rfl | rfl | rfl | rfl | rfl | rfl | rfl | rfl | rfl | rfl | rfl | rfl | rfl | rfl | rfl | rfl | rfl | rfl | rfl | rfl | rfl | rfl | rfl | rfl | rfl | rfl | rfl | rfl | rfl | rfl | rfl | rfl | rfl <;> rfl
  refine ⟨by omega, by omega, ?_⟩
  refine b_new (k := 83) hI (by rfl) (fun q83 hI => ?_)
  refine hQ _ _ _ hI (fun k h81 h82 => ?_) ⟨by cases u <;> rfl, by cases u <;> rfl⟩ ⟨rfl, rfl, rfl⟩ ⟨rfl, rfl, rfl⟩ (fun M hM k hk h81 h82 => ?_)
  · by_cases hk : k < 194
    · have : ∀ u, ∀ k : Fin 194, k.1 ≠ 81 → k.1 ≠ 82 → (stL (lvB (stL (lvB (stL (lvB (stL (lvB (stL (stL (stL (stL (stL (lvB (stL (lvB (stL (stL (lvB (stL (stL (lv0 u) 60) 61) s_tp) 64) 68) s_so) 40) s_c40) 65) 66) 67) 75) 0) s_c0) 20) s_c20) 76) s_pl) 100) s_mo) 83) k.1 = li false k.1 := by decide +kernel
      exact this u ⟨k, hk⟩ h81 h82
    · rw [li_big (by omega)]
      have hst : ∀ (o : Nat → Bool) (j : Nat), k ≠ j → stL o j k = o k := fun o j hh => if_neg hh
      have hsb : ∀ (o s : Nat → Bool), s k = false → lvB o s k = o k := fun o s hh => by unfold lvB; rw [hh]; rfl
      have h_tp : s_tp k = false := by
        cases hs : s_tp k
        · rfl
        · have := s_tp_yes hs; omega
      have h_so : s_so k = false := by
        cases hs : s_so k
        · rfl
        · have := s_so_yes hs; omega
      have h_c40 : s_c40 k = false := by
        cases hs : s_c40 k
        · rfl
        · have := s_c40_yes hs; omega
      have h_c0 : s_c0 k = false := by
        cases hs : s_c0 k
        · rfl
        · have := s_c0_yes hs; omega
      have h_c20 : s_c20 k = false := by
        cases hs : s_c20 k
        · rfl
        · have := s_c20_yes hs; omega
      have h_pl : s_pl k = false := by
        cases hs : s_pl k
        · rfl
        · have := s_pl_yes hs; omega
      have h_mo : s_mo k = false := by
        cases hs : s_mo k
        · rfl
        · have := s_mo_yes hs; omega
      repeat (first | refine Eq.trans (hst _ _ (by omega)) ?_ | refine Eq.trans (hsb _ _ (by assumption)) ?_)
      unfold lv0; rw [beq_no (show k ≠ 80 by omega), beq_no h81, beq_no h82]; rfl
  · clear hQ
    have hk200 := li_lt hk
    by_cases e0 : k = 0
    · subst e0; rfl
    by_cases e1 : k = 1
    · subst e1; rfl
    by_cases e2 : k = 2
    · subst e2; rfl
    by_cases e3 : k = 3
    · subst e3; rfl
    by_cases e4 : k = 4
    · subst e4; rfl
    by_cases e5 : k = 5
    · subst e5; rfl
    by_cases e6 : k = 6
    · subst e6; rfl
    by_cases e7 : k = 7
    · subst e7; rfl
    by_cases e8 : k = 8
    · subst e8; rfl
    by_cases e9 : k = 9
    · subst e9; rfl
    by_cases e10 : k = 10
    · subst e10; rfl
    by_cases e20 : k = 20
    · subst e20; rfl
    by_cases e21 : k = 21
    · subst e21; rfl
    by_cases e22 : k = 22
    · subst e22; rfl
    by_cases e23 : k = 23
    · subst e23; rfl
    by_cases e24 : k = 24
    · subst e24; rfl
    by_cases e25 : k = 25
    · subst e25; rfl
    by_cases e26 : k = 26
    · subst e26; rfl
    by_cases e27 : k = 27
    · subst e27; rfl
    by_cases e28 : k = 28
    · subst e28; rfl
    by_cases e29 : k = 29
    · subst e29; rfl
    by_cases e30 : k = 30
    · subst e30; rfl
    by_cases e40 : k = 40
    · subst e40; rfl
    by_cases e41 : k = 41
    · subst e41; rfl
    by_cases e42 : k = 42
    · subst e42; rfl
    by_cases e43 : k = 43
    · subst e43; rfl
    by_cases e44 : k = 44
    · subst e44; rfl
    by_cases e45 : k = 45
    · subst e45; rfl
    by_cases e46 : k = 46
    · subst e46; rfl
    by_cases e47 : k = 47
    · subst e47; rfl
    by_cases e48 : k = 48
    · subst e48; rfl
    by_cases e49 : k = 49
    · subst e49; rfl
    by_cases e50 : k = 50
    · subst e50; rfl
    by_cases e60 : k = 60
    · subst e60; rfl
    by_cases e61 : k = 61
    · subst e61; rfl
    by_cases e62 : k = 62
    · subst e62; rfl
    by_cases e63 : k = 63
    · subst e63; rfl
    by_cases e64 : k = 64
    · subst e64; rfl
    by_cases e65 : k = 65
    · subst e65; rfl
    by_cases e66 : k = 66
    · subst e66; rfl
    by_cases e67 : k = 67
    · subst e67; rfl
    by_cases e68 : k = 68
    · subst e68; rfl
    by_cases e69 : k = 69
    · subst e69; rfl
    by_cases e70 : k = 70
    · subst e70; rfl
    by_cases e71 : k = 71
    · subst e71; rfl
    by_cases e72 : k = 72
    · subst e72; rfl
    by_cases e75 : k = 75
    · subst e75
      have hf : ∀ (a b : Nat), (fun i => bif Nat.beq i 0 then some a else bif Nat.beq i 1 then some b else none) = va_up (va_up (fun _ => none) 0 (some a)) 1 (some b) := by
        intro a b
        funext i
        match i with
        | 0 => rfl
        | 1 => rfl
        | i + 2 => rfl
      exact congrArg (fun f => (.inl (5, 2, .inr (.inr (.inr (.inr f)))) : xo)) (hf _ _)
    by_cases e76 : k = 76
    · subst e76; rfl
    by_cases e77 : k = 77
    · subst e77; rfl
    by_cases e78 : k = 78
    · subst e78; rfl
    by_cases e79 : k = 79
    · subst e79; rfl
    by_cases e80 : k = 80
    · subst e80; rfl
    by_cases e83 : k = 83
    · subst e83; rfl
    by_cases e100 : k = 100
    · subst e100; rfl
    by_cases e101 : k = 101
    · subst e101; rfl
    by_cases e102 : k = 102
    · subst e102; rfl
    by_cases e110 : k = 110
    · subst e110; rfl
    by_cases e111 : k = 111
    · subst e111; rfl
    by_cases e112 : k = 112
    · subst e112; rfl
    by_cases e113 : k = 113
    · subst e113; rfl
    by_cases e114 : k = 114
    · subst e114; rfl
    by_cases e115 : k = 115
    · subst e115; rfl
    by_cases e116 : k = 116
    · subst e116; rfl
    by_cases e117 : k = 117
    · subst e117; rfl
    by_cases e118 : k = 118
    · subst e118; rfl
    by_cases e119 : k = 119
    · subst e119; rfl
    by_cases e120 : k = 120
    · subst e120; rfl
    by_cases e121 : k = 121
    · subst e121; rfl
    by_cases e122 : k = 122
    · subst e122; rfl
    by_cases e123 : k = 123
    · subst e123; rfl
    by_cases e124 : k = 124
    · subst e124; rfl
    by_cases e125 : k = 125
    · subst e125; rfl
    by_cases e126 : k = 126
    · subst e126; rfl
    by_cases e127 : k = 127
    · subst e127; rfl
    by_cases e128 : k = 128
    · subst e128; rfl
    by_cases e130 : k = 130
    · subst e130; rfl
    by_cases e131 : k = 131
    · subst e131; rfl
    by_cases e132 : k = 132
    · subst e132; rfl
    by_cases e134 : k = 134
    · subst e134; rfl
    by_cases e135 : k = 135
    · subst e135; rfl
    by_cases e136 : k = 136
    · subst e136; rfl
    by_cases e137 : k = 137
    · subst e137; rfl
    by_cases e142 : k = 142
    · subst e142; rfl
    by_cases e143 : k = 143
    · subst e143; rfl
    by_cases e144 : k = 144
    · subst e144; rfl
    by_cases e145 : k = 145
    · subst e145; rfl
    by_cases e147 : k = 147
    · subst e147; rfl
    by_cases e148 : k = 148
    · subst e148; rfl
    by_cases e149 : k = 149
    · subst e149; rfl
    by_cases e150 : k = 150
    · subst e150; rfl
    exfalso
    by_cases c0 : 0 ≤ k ∧ k < 30
    · have h2 : ∀ j : Fin 30, li false (0 + j.1) = true → 0 + j.1 ≠ 81 → 0 + j.1 ≠ 82 → 0 + j.1 = 0 ∨ 0 + j.1 = 1 ∨ 0 + j.1 = 2 ∨ 0 + j.1 = 3 ∨ 0 + j.1 = 4 ∨ 0 + j.1 = 5 ∨ 0 + j.1 = 6 ∨ 0 + j.1 = 7 ∨ 0 + j.1 = 8 ∨ 0 + j.1 = 9 ∨ 0 + j.1 = 10 ∨ 0 + j.1 = 20 ∨ 0 + j.1 = 21 ∨ 0 + j.1 = 22 ∨ 0 + j.1 = 23 ∨ 0 + j.1 = 24 ∨ 0 + j.1 = 25 ∨ 0 + j.1 = 26 ∨ 0 + j.1 = 27 ∨ 0 + j.1 = 28 ∨ 0 + j.1 = 29 := by decide +kernel
      have h4 := h2 ⟨k - 0, by omega⟩
      dsimp only at h4
      rw [show 0 + (k - 0) = k by omega] at h4
      have h5 := h4 hk h81 h82
      omega
    by_cases c30 : 30 ≤ k ∧ k < 70
    · have h2 : ∀ j : Fin 40, li false (30 + j.1) = true → 30 + j.1 ≠ 81 → 30 + j.1 ≠ 82 → 30 + j.1 = 30 ∨ 30 + j.1 = 40 ∨ 30 + j.1 = 41 ∨ 30 + j.1 = 42 ∨ 30 + j.1 = 43 ∨ 30 + j.1 = 44 ∨ 30 + j.1 = 45 ∨ 30 + j.1 = 46 ∨ 30 + j.1 = 47 ∨ 30 + j.1 = 48 ∨ 30 + j.1 = 49 ∨ 30 + j.1 = 50 ∨ 30 + j.1 = 60 ∨ 30 + j.1 = 61 ∨ 30 + j.1 = 62 ∨ 30 + j.1 = 63 ∨ 30 + j.1 = 64 ∨ 30 + j.1 = 65 ∨ 30 + j.1 = 66 ∨ 30 + j.1 = 67 ∨ 30 + j.1 = 68 ∨ 30 + j.1 = 69 := by decide +kernel
      have h4 := h2 ⟨k - 30, by omega⟩
      dsimp only at h4
      rw [show 30 + (k - 30) = k by omega] at h4
      have h5 := h4 hk h81 h82
      omega
    by_cases c70 : 70 ≤ k ∧ k < 115
    · have h2 : ∀ j : Fin 45, li false (70 + j.1) = true → 70 + j.1 ≠ 81 → 70 + j.1 ≠ 82 → 70 + j.1 = 70 ∨ 70 + j.1 = 71 ∨ 70 + j.1 = 72 ∨ 70 + j.1 = 75 ∨ 70 + j.1 = 76 ∨ 70 + j.1 = 77 ∨ 70 + j.1 = 78 ∨ 70 + j.1 = 79 ∨ 70 + j.1 = 80 ∨ 70 + j.1 = 83 ∨ 70 + j.1 = 100 ∨ 70 + j.1 = 101 ∨ 70 + j.1 = 102 ∨ 70 + j.1 = 110 ∨ 70 + j.1 = 111 ∨ 70 + j.1 = 112 ∨ 70 + j.1 = 113 ∨ 70 + j.1 = 114 := by decide +kernel
      have h4 := h2 ⟨k - 70, by omega⟩
      dsimp only at h4
      rw [show 70 + (k - 70) = k by omega] at h4
      have h5 := h4 hk h81 h82
      omega
    by_cases c115 : 115 ≤ k ∧ k < 200
    · have h2 : ∀ j : Fin 85, li false (115 + j.1) = true → 115 + j.1 ≠ 81 → 115 + j.1 ≠ 82 → 115 + j.1 = 115 ∨ 115 + j.1 = 116 ∨ 115 + j.1 = 117 ∨ 115 + j.1 = 118 ∨ 115 + j.1 = 119 ∨ 115 + j.1 = 120 ∨ 115 + j.1 = 121 ∨ 115 + j.1 = 122 ∨ 115 + j.1 = 123 ∨ 115 + j.1 = 124 ∨ 115 + j.1 = 125 ∨ 115 + j.1 = 126 ∨ 115 + j.1 = 127 ∨ 115 + j.1 = 128 ∨ 115 + j.1 = 130 ∨ 115 + j.1 = 131 ∨ 115 + j.1 = 132 ∨ 115 + j.1 = 134 ∨ 115 + j.1 = 135 ∨ 115 + j.1 = 136 ∨ 115 + j.1 = 137 ∨ 115 + j.1 = 142 ∨ 115 + j.1 = 143 ∨ 115 + j.1 = 144 ∨ 115 + j.1 = 145 ∨ 115 + j.1 = 147 ∨ 115 + j.1 = 148 ∨ 115 + j.1 = 149 ∨ 115 + j.1 = 150 := by decide +kernel
      have h4 := h2 ⟨k - 115, by omega⟩
      dsimp only at h4
      rw [show 115 + (k - 115) = k by omega] at h4
      have h5 := h4 hk h81 h82
      omega
    omega
end
