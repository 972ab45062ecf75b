/-! The reference's questions about both circuits. -/
def kd (D : Nat → Option (Nat → Nat → Nat)) : Nat → Nat → Nat → Nat := fun c => match D c with
  | some C => C
  | none => fun _ _ => 0
def mt (D : Nat → Option (Nat → Nat → Nat)) : Prop := D 0 ≠ none ∧ D 1 ≠ none ∧ kd D 0 0 1 = kd D 1 0 1 ∧ kd D 0 0 3 = kd D 1 0 3
theorem kd_some {D : Nat → Option (Nat → Nat → Nat)} {c : Nat} (h : D c ≠ none) : D c = some (kd D c) := by
  unfold kd
  cases hd : D c with
  | none => exact absurd hd h
  | some C => rfl
theorem kd_eq {D : Nat → Option (Nat → Nat → Nat)} {c : Nat} {C : Nat → Nat → Nat} (h : D c = some C) : kd D c = C := by
  unfold kd; rw [h]
theorem mt.D {D : Nat → Option (Nat → Nat → Nat)} (h : mt D) : ∀ c, c < 2 → D c = some (kd D c) := fun c hc => by
  rcases c_cases hc with rfl | rfl
  · exact kd_some h.1
  · exact kd_some h.2.1
theorem mt.MK {D : Nat → Option (Nat → Nat → Nat)} (h : mt D) (hW : WD D) : MK (kd D) := ⟨hW 0 _ (kd_some h.1), hW 1 _ (kd_some h.2.1), h.2.2.1, h.2.2.2⟩
theorem mt.KM {D : Nat → Option (Nat → Nat → Nat)} {F : Nat → Nat → Int32} (h : mt D) (hR : RM F D) : ∀ c, c < 2 → KM c F (kd D c) := fun c hc => ((hR c hc).2 _ (h.D c hc)).2
theorem mt.KC {D : Nat → Option (Nat → Nat → Nat)} {F : Nat → Nat → Int32} (h : mt D) (hR : RC F D) : ∀ c, c < 2 → KC (20 * c) F (kd D c) := fun c hc => ((hR c hc).2 _ (h.D c hc)).2
/-- what a question to the reference leaves as it was -/
def fS (F F' : Nat → Nat → Int32) : Prop := (∀ k, k < 100 ∨ (100 < k ∧ k < 135) ∨ 150 < k → F' k = F k) ∧ ∀ j, 1 ≤ j → j < 33 → F' 100 j = F 100 j
def fLL (L L' : Nat → Nat → Int64) : Prop := ∀ k, k < 132 ∨ 134 < k → L' k = L k
theorem fS.refl {F : Nat → Nat → Int32} : fS F F := ⟨fun _ _ => rfl, fun _ _ _ => rfl⟩
theorem fS.trans {F F' F'' : Nat → Nat → Int32} (h : fS F F') (h' : fS F' F'') : fS F F'' := ⟨fun k hk => by rw [h'.1 k hk, h.1 k hk], fun j h1 h2 => by rw [h'.2 j h1 h2, h.2 j h1 h2]⟩
theorem fLL.trans {F F' F'' : Nat → Nat → Int64} (h : fLL F F') (h' : fLL F' F'') : fLL F F'' := fun k hk => by rw [h' k hk, h k hk]
theorem fS.up {F F' : Nat → Nat → Int32} {j : Nat} {x : Int32} (hj : j = 0 ∨ 33 ≤ j) (h : fS F F') : fS F (up F' 100 j x) := ⟨fun k hk => by rw [up_k (by omega)]; exact h.1 k hk, fun i h1 h2 => by rw [up_i, if_neg (by omega)]; exact h.2 i h1 h2⟩
theorem fS.row {F F' F'' : Nat → Nat → Int32} (h : fS F F') (h' : ∀ k, k < 135 ∨ 150 < k → F'' k = F' k) : fS F F'' := ⟨fun k hk => by
  rw [← h.1 k hk]; exact h' k (by omega), fun j h1 h2 => by rw [h' 100 (by omega)]; exact h.2 j h1 h2⟩
/-- the reference's search -/
def SM (F : Nat → Nat → Int32) (L : Nat → Nat → Int64) (D : Nat → Option (Nat → Nat → Nat)) : Prop := F 100 33 = 0 ∨ (mt D ∧ F 100 33 = 1 ∧ MF F L (kd D))
theorem RM.fS {F F' : Nat → Nat → Int32} {D : Nat → Option (Nat → Nat → Nat)} (h : fS F F') (hR : RM F D) : RM F' D := RM.kept (fun k q1 q2 => h.1 k (by omega)) hR
theorem MF.kept {F F' : Nat → Nat → Int32} {L L' : Nat → Nat → Int64} {K : Nat → Nat → Nat → Nat} (h0 : ∀ j, 33 ≤ j → j ≠ 51 → F' 100 j = F 100 j) (h1 : ∀ k, 134 < k → k ≤ 137 ∨ k = 145 → F' k = F k) (hL : L' 134 = L 134) (h : MF F L K) : MF F' L' K := by
  obtain ⟨a1, a2, a3, a4, a5, a6, a7, a8⟩ := h
  refine ⟨a1, MT.kept (h0 39 (by decide) (by decide)) (h0 40 (by decide) (by decide)) (h1 135 (by decide) (by decide)) hL a2, by rw [h0 38 (by decide) (by decide)]; exact a3, by rw [h1 136 (by decide) (by decide)]; exact a4, by rw [h1 137 (by decide) (by decide)]; exact a5, by rw [h0 41 (by decide) (by decide)]; exact a6, by rw [h0 46 (by decide) (by decide)]; exact a7, by rw [h1 145 (by decide) (by decide)]; exact a8⟩
section
variable {e : xenv} {w : Bool} {F : Nat → Nat → Int32} {L : Nat → Nat → Int64} {g : xh} {z : Nat → Nat} {D : Nat → Option (Nat → Nat → Nat)}
theorem WF.small {C : Nat → Nat → Nat} (h : WF C) : C 0 1 < 4294967296 ∧ C 0 3 < 4294967296 := by
  have h1 := h.1.2.1; have h2 := h.1.2.2.2.1; omega
theorem v_matches {Q : Int32 → xh → Prop} (hR : RM F D) (hW : WD D) (h0 : ¬ mt D → Q 0 (mem e w F L g)) (h1 : mt D → Q 1 (mem e w F L g)) : wp_Model_matches z Q (ad e 100) (mem e w F L g) := by
  unfold wp_Model_matches
  repeat (first | ((with_reducible show ∃ _, _ ∧ _); first | refine s_fI (by rfl) (by rfl) (by rfl) ?_ | refine s_fR (by rfl) (by rfl) (by rfl) ?_ | refine s_pV (by rfl) (by rfl) (Nat.le_of_ble_eq_true rfl) (by rfl) ?_) | ((with_reducible show xcls _ _ _ ∧ _); refine s_cls (by rfl) (by rfl) ?_))
  refine s_aI (i := 0) (by rfl) (by rfl) (by rfl) (by rfl) (by decide) (by decide) ?_
  cases d0 : D 0 with
  | none =>
    rw [(hR 0 (by decide)).1 d0]
    exact ⟨fun _ => h0 (fun hm => hm.1 d0), fun hh => absurd rfl hh⟩
  | some C0 =>
    rw [((hR 0 (by decide)).2 _ d0).1]
    refine ⟨fun hh => absurd hh (by decide), fun _ => ?_⟩
    repeat (first | ((with_reducible show ∃ _, _ ∧ _); first | refine s_fI (by rfl) (by rfl) (by rfl) ?_ | refine s_fR (by rfl) (by rfl) (by rfl) ?_ | refine s_pV (by rfl) (by rfl) (Nat.le_of_ble_eq_true rfl) (by rfl) ?_) | ((with_reducible show xcls _ _ _ ∧ _); refine s_cls (by rfl) (by rfl) ?_))
    refine s_aI (i := 1) (by rfl) (by rfl) (by rfl) (by rfl) (by decide) (by decide) ?_
    cases d1 : D 1 with
    | none =>
      rw [(hR 1 (by decide)).1 d1]
      exact ⟨fun _ => h0 (fun hm => hm.2.1 d1), fun hh => absurd rfl hh⟩
    | some C1 =>
      rw [((hR 1 (by decide)).2 _ d1).1]
      refine ⟨fun hh => absurd hh (by decide), fun _ => ?_⟩
      have k0 := ((hR 0 (by decide)).2 _ d0).2.1
      have k1 := ((hR 1 (by decide)).2 _ d1).2.1
      have s0 := (hW 0 _ d0).small
      have s1 := (hW 1 _ d1).small
      repeat (first | ((with_reducible show ∃ _, _ ∧ _); first | refine s_fI (by rfl) (by rfl) (by rfl) ?_ | refine s_fR (by rfl) (by rfl) (by rfl) ?_ | refine s_pV (by rfl) (by rfl) (Nat.le_of_ble_eq_true rfl) (by rfl) ?_) | ((with_reducible show xcls _ _ _ ∧ _); refine s_cls (by rfl) (by rfl) ?_))
      refine s_aI (i := 1) (by rfl) (by rfl) (by rfl) (by rfl) (by decide) (by decide) ?_
      rw [show F 110 1 = Int32.ofNat (C0 0 1) from k0 1 (by decide)]
      repeat (first | ((with_reducible show ∃ _, _ ∧ _); first | refine s_fI (by rfl) (by rfl) (by rfl) ?_ | refine s_fR (by rfl) (by rfl) (by rfl) ?_ | refine s_pV (by rfl) (by rfl) (Nat.le_of_ble_eq_true rfl) (by rfl) ?_) | ((with_reducible show xcls _ _ _ ∧ _); refine s_cls (by rfl) (by rfl) ?_))
      refine s_aI (i := 6) (by rfl) (by rfl) (by rfl) (by rfl) (by decide) (by decide) ?_
      rw [show F 110 6 = Int32.ofNat (C1 0 1) from k1 1 (by decide), n_eq s0.1 s1.1]
      refine ⟨fun hne => h0 (fun hm => hne ?_), fun heq => ?_⟩
      · have := hm.2.2.1; rw [kd_eq d0, kd_eq d1] at this; exact this
      repeat (first | ((with_reducible show ∃ _, _ ∧ _); first | refine s_fI (by rfl) (by rfl) (by rfl) ?_ | refine s_fR (by rfl) (by rfl) (by rfl) ?_ | refine s_pV (by rfl) (by rfl) (Nat.le_of_ble_eq_true rfl) (by rfl) ?_) | ((with_reducible show xcls _ _ _ ∧ _); refine s_cls (by rfl) (by rfl) ?_))
      refine s_aI (i := 3) (by rfl) (by rfl) (by rfl) (by rfl) (by decide) (by decide) ?_
      rw [show F 110 3 = Int32.ofNat (C0 0 3) from k0 3 (by decide)]
      repeat (first | ((with_reducible show ∃ _, _ ∧ _); first | refine s_fI (by rfl) (by rfl) (by rfl) ?_ | refine s_fR (by rfl) (by rfl) (by rfl) ?_ | refine s_pV (by rfl) (by rfl) (Nat.le_of_ble_eq_true rfl) (by rfl) ?_) | ((with_reducible show xcls _ _ _ ∧ _); refine s_cls (by rfl) (by rfl) ?_))
      refine s_aI (i := 8) (by rfl) (by rfl) (by rfl) (by rfl) (by decide) (by decide) ?_
      rw [show F 110 8 = Int32.ofNat (C1 0 3) from k1 3 (by decide), n_eq s0.2 s1.2]
      refine ⟨fun hne => h0 (fun hm => hne ?_), fun heq2 => h1 ⟨by rw [d0]; exact Option.some_ne_none _, by rw [d1]; exact Option.some_ne_none _, by rw [kd_eq d0, kd_eq d1]; exact heq, by rw [kd_eq d0, kd_eq d1]; exact heq2⟩⟩
      have := hm.2.2.2; rw [kd_eq d0, kd_eq d1] at this; exact this
theorem v_fails0 {Q : Int32 → xh → Prop} {x : Int32} (h0 : F 100 0 = 0) (h : Q 0 (mem e w F L g)) : wp_Model_fails z Q (ad e 100) 0 x (mem e w F L g) := by
  unfold wp_Model_fails wp_Model_fails_16
  refine ⟨fun _ => ?_, fun hh => absurd rfl hh⟩
  repeat (first | ((with_reducible show ∃ _, _ ∧ _); first | refine s_fI (by rfl) (by rfl) (by rfl) ?_ | refine s_fR (by rfl) (by rfl) (by rfl) ?_ | refine s_pV (by rfl) (by rfl) (Nat.le_of_ble_eq_true rfl) (by rfl) ?_) | ((with_reducible show xcls _ _ _ ∧ _); refine s_cls (by rfl) (by rfl) ?_))
  rw [h0]
  exact ⟨fun _ => h, fun hh => absurd rfl hh⟩
theorem v_fails1 {Q : Int32 → xh → Prop} {x : Int32} (h0 : F 100 0 = 0) (hx : x ≠ 0) (h : Q 1 (mem e w (up F 100 0 x) L g)) : wp_Model_fails z Q (ad e 100) 1 x (mem e w F L g) := by
  unfold wp_Model_fails wp_Model_fails_16
  refine ⟨fun hh => absurd hh (by decide), fun _ => ?_⟩
  repeat (first | ((with_reducible show ∃ _, _ ∧ _); first | refine s_fI (by rfl) (by rfl) (by rfl) ?_ | refine s_fR (by rfl) (by rfl) (by rfl) ?_ | refine s_pV (by rfl) (by rfl) (Nat.le_of_ble_eq_true rfl) (by rfl) ?_) | ((with_reducible show xcls _ _ _ ∧ _); refine s_cls (by rfl) (by rfl) ?_))
  rw [h0]
  refine ⟨fun hh => absurd rfl hh, fun _ => ?_⟩
  repeat (first | ((with_reducible show ∃ _, _ ∧ _); first | refine s_fI (by rfl) (by rfl) (by rfl) ?_ | refine s_fR (by rfl) (by rfl) (by rfl) ?_ | refine s_pV (by rfl) (by rfl) (Nat.le_of_ble_eq_true rfl) (by rfl) ?_) | ((with_reducible show xcls _ _ _ ∧ _); refine s_cls (by rfl) (by rfl) ?_))
  rw [up_i, if_pos rfl]
  exact ⟨fun hh => absurd hh hx, fun _ => h⟩
theorem v_mlook {Q : xh → Prop} (hm : mt D) (hR : RM F D) (hW : WD D) (hS : SM F L D)
    (h : ∀ F' L', fS F F' → fLL L L' → F' 100 0 = F 100 0 → F' 100 33 = 1 → MF F' L' (kd D) → Q (mem e w F' L' g)) : wp_Model_look z Q (ad e 100) (mem e w F L g) := by
  rcases hS with h0 | ⟨_, h1, h2⟩
  · refine v_look0 (hm.MK hW) (hm.KM hR) h0 (fun F' L' k1 z1 h33 l1 hML => ?_)
    exact h F' L' ⟨fun k hk => k1 k (by omega) (by omega) (by omega) (by omega), fun j h1 h2 => z1 j (by omega) (by omega)⟩ (fun k hk => l1 k (by omega) (by omega)) (z1 0 (by decide) (by decide)) h33 (MF_of (hm.MK hW) hML)
  · unfold wp_Model_look
    repeat (first | ((with_reducible show ∃ _, _ ∧ _); first | refine s_fI (by rfl) (by rfl) (by rfl) ?_ | refine s_fR (by rfl) (by rfl) (by rfl) ?_ | refine s_pV (by rfl) (by rfl) (Nat.le_of_ble_eq_true rfl) (by rfl) ?_) | ((with_reducible show xcls _ _ _ ∧ _); refine s_cls (by rfl) (by rfl) ?_))
    rw [h1]
    exact ⟨fun hh => absurd hh (by decide), fun _ => h F L fS.refl (fun _ _ => rfl) rfl h1 h2⟩
theorem v_none {Q : Int32 → xh → Prop} (hR : RM F D) (hW : WD D) (hS : SM F L D)
    (h0 : ¬ mt D → ∀ F', fS F F' → SM F' L D → F' 100 0 = 1 → Q 1 (mem e w F' L g))
    (h1 : mt D → ∀ F' L', fS F F' → fLL L L' → F' 100 0 = 0 → F' 100 33 = 1 → MF F' L' (kd D) → Q 0 (mem e w F' L' g)) : wp_Model_none z Q (ad e 100) (mem e w F L g) := by
  have hSM : ∀ x y : Int32, SM (up (up F 100 0 x) 100 0 y) L D := fun x y => by
    rcases hS with h | ⟨a1, a2, a3⟩
    · exact Or.inl (by rw [up_i, if_neg (by decide), up_i, if_neg (by decide)]; exact h)
    · exact Or.inr ⟨a1, by rw [up_i, if_neg (by decide), up_i, if_neg (by decide)]; exact a2, MF.kept (fun j q1 q2 => by rw [up_i, if_neg (by omega), up_i, if_neg (by omega)]) (fun k q1 q2 => by rw [up_k (by omega), up_k (by omega)]) rfl a3⟩
  have hSM0 : SM (up F 100 0 0) L D := by
    rcases hS with h | ⟨a1, a2, a3⟩
    · exact Or.inl (by rw [up_i, if_neg (by decide)]; exact h)
    · exact Or.inr ⟨a1, by rw [up_i, if_neg (by decide)]; exact a2, MF.kept (fun j q1 q2 => by rw [up_i, if_neg (by omega)]) (fun k q1 q2 => by rw [up_k (by omega)]) rfl a3⟩
  have hR0 : RM (up F 100 0 0) D := RM.fS (fS.up (Or.inl rfl) fS.refl) hR
  unfold wp_Model_none
  repeat (first | ((with_reducible show ∃ _, _ ∧ _); first | refine s_fI (by rfl) (by rfl) (by rfl) ?_ | refine s_fR (by rfl) (by rfl) (by rfl) ?_ | refine s_pV (by rfl) (by rfl) (Nat.le_of_ble_eq_true rfl) (by rfl) ?_) | ((with_reducible show xcls _ _ _ ∧ _); refine s_cls (by rfl) (by rfl) ?_))
  refine v_matches hR0 hW (fun hno => ?_) (fun hm => ?_)
  · refine ⟨fun hh => absurd rfl hh, fun _ => ?_⟩
    unfold wp_Model_none_18
    repeat (first | ((with_reducible show ∃ _, _ ∧ _); first | refine s_fI (by rfl) (by rfl) (by rfl) ?_ | refine s_fR (by rfl) (by rfl) (by rfl) ?_ | refine s_pV (by rfl) (by rfl) (Nat.le_of_ble_eq_true rfl) (by rfl) ?_) | ((with_reducible show xcls _ _ _ ∧ _); refine s_cls (by rfl) (by rfl) ?_))
    refine v_fails1 (by rw [up_i, if_pos rfl]) (by decide) ?_
    refine ⟨fun hh => absurd hh (by decide), fun _ => ?_⟩
    exact h0 hno _ (fS.up (Or.inl rfl) (fS.up (Or.inl rfl) fS.refl)) (hSM _ _) (by rw [up_i, if_pos rfl])
  · refine ⟨fun _ => ?_, fun hh => absurd hh (by decide)⟩
    unfold wp_Model_none_18
    repeat (first | ((with_reducible show ∃ _, _ ∧ _); first | refine s_fI (by rfl) (by rfl) (by rfl) ?_ | refine s_fR (by rfl) (by rfl) (by rfl) ?_ | refine s_pV (by rfl) (by rfl) (Nat.le_of_ble_eq_true rfl) (by rfl) ?_) | ((with_reducible show xcls _ _ _ ∧ _); refine s_cls (by rfl) (by rfl) ?_))
    refine v_fails0 (by rw [up_i, if_pos rfl]) ?_
    refine ⟨fun _ => ?_, fun hh => absurd rfl hh⟩
    repeat (first | ((with_reducible show ∃ _, _ ∧ _); first | refine s_fI (by rfl) (by rfl) (by rfl) ?_ | refine s_fR (by rfl) (by rfl) (by rfl) ?_ | refine s_pV (by rfl) (by rfl) (Nat.le_of_ble_eq_true rfl) (by rfl) ?_) | ((with_reducible show xcls _ _ _ ∧ _); refine s_cls (by rfl) (by rfl) ?_))
    refine v_mlook hm hR0 hW hSM0 (fun F' L' f1 f2 f3 f4 f5 => ?_)
    exact h1 hm F' L' (fS.trans (fS.up (Or.inl rfl) fS.refl) f1) f2 (by rw [f3, up_i, if_pos rfl]) f4 f5
/-- how the reference's question ends: what it left as it was, and that its search still holds -/
def eM (F : Nat → Nat → Int32) (L : Nat → Nat → Int64) (D : Nat → Option (Nat → Nat → Nat)) (F' : Nat → Nat → Int32) (L' : Nat → Nat → Int64) : Prop := fS F F' ∧ fLL L L' ∧ SM F' L' D
theorem v_Model_judge {Q : Int32 → xh → Prop} (hR : RM F D) (hW : WD D) (hS : SM F L D)
    (h0 : ¬ mt D → ∀ F' L', eM F L D F' L' → F' 100 0 = 1 → Q 0 (mem e w F' L' g))
    (h1 : mt D → ∀ F' L', eM F L D F' L' → F' 100 0 = 0 → Q (Int32.ofNat (len (kd D))) (mem e w F' L' g)) : wp_Model_judge z Q (ad e 100) (mem e w F L g) := by
  unfold wp_Model_judge
  repeat (first | ((with_reducible show ∃ _, _ ∧ _); first | refine s_fI (by rfl) (by rfl) (by rfl) ?_ | refine s_fR (by rfl) (by rfl) (by rfl) ?_ | refine s_pV (by rfl) (by rfl) (Nat.le_of_ble_eq_true rfl) (by rfl) ?_) | ((with_reducible show xcls _ _ _ ∧ _); refine s_cls (by rfl) (by rfl) ?_))
  refine v_none hR hW hS (fun hno F' f1 f2 f3 => ?_) (fun hm F' L' f1 f2 f3 f4 f5 => ?_)
  · exact ⟨fun hh => absurd hh (by decide), fun _ => h0 hno F' L ⟨f1, fun _ _ => rfl, f2⟩ f3⟩
  · refine ⟨fun _ => ?_, fun hh => absurd rfl hh⟩
    repeat (first | ((with_reducible show ∃ _, _ ∧ _); first | refine s_fI (by rfl) (by rfl) (by rfl) ?_ | refine s_fR (by rfl) (by rfl) (by rfl) ?_ | refine s_pV (by rfl) (by rfl) (Nat.le_of_ble_eq_true rfl) (by rfl) ?_) | ((with_reducible show xcls _ _ _ ∧ _); refine s_cls (by rfl) (by rfl) ?_))
    rw [f5.2.2.2.2.2.1]
    exact h1 hm F' L' ⟨f1, f2, Or.inr ⟨hm, f4, f5⟩⟩ f3
theorem v_thr {P : xh → Prop} (hR : RM F D) (hS : SM F L D) (h : ∀ F', fS F F' → RM F' D → SM F' L D → F' 100 0 = 0 → P (mem e w F' L g)) : ∃ h1, pV (mem e w F L g) (ad e 100) 12 0 (.int 0) = some h1 ∧ P h1 := by
  (first | ((with_reducible show ∃ _, _ ∧ _); first | refine s_fI (by rfl) (by rfl) (by rfl) ?_ | refine s_fR (by rfl) (by rfl) (by rfl) ?_ | refine s_pV (by rfl) (by rfl) (Nat.le_of_ble_eq_true rfl) (by rfl) ?_) | ((with_reducible show xcls _ _ _ ∧ _); refine s_cls (by rfl) (by rfl) ?_))
  refine h _ (fS.up (Or.inl rfl) fS.refl) (RM.fS (fS.up (Or.inl rfl) fS.refl) hR) ?_ (by rw [up_i, if_pos rfl])
  rcases hS with h | ⟨a1, a2, a3⟩
  · exact Or.inl (by rw [up_i, if_neg (by decide)]; exact h)
  · exact Or.inr ⟨a1, by rw [up_i, if_neg (by decide)]; exact a2, MF.kept (fun j q1 q2 => by rw [up_i, if_neg (by omega)]) (fun k q1 q2 => by rw [up_k (by omega)]) rfl a3⟩
theorem v_Model_witness {Q : Int32 → xh → Prop} {x : Int32} (hR : RM F D) (hW : WD D) (hS : SM F L D)
    (h0 : (∀ k, mt D → x = Int32.ofNat k → k < 256 → ¬ k < len (kd D)) → ∀ F' L', eM F L D F' L' → Q (-1) (mem e w F' L' g))
    (h1 : ∀ k, mt D → x = Int32.ofNat k → k < 256 → k < len (kd D) → ∀ F' L', eM F L D F' L' → Q (Int32.ofNat (wit (kd D) k)) (mem e w F' L' g)) : wp_Model_witness z Q (ad e 100) x (mem e w F L g) := by
  unfold wp_Model_witness wp_Model_witness_37
  refine v_thr hR hS (fun F1 s1 s2 s3 s4 => ?_)
  repeat (first | ((with_reducible show ∃ _, _ ∧ _); first | refine s_fI (by rfl) (by rfl) (by rfl) ?_ | refine s_fR (by rfl) (by rfl) (by rfl) ?_ | refine s_pV (by rfl) (by rfl) (Nat.le_of_ble_eq_true rfl) (by rfl) ?_) | ((with_reducible show xcls _ _ _ ∧ _); refine s_cls (by rfl) (by rfl) ?_))
  refine v_matches s2 hW (fun hno => ?_) (fun hm => ?_)
  · exact ⟨fun hh => absurd rfl hh, fun _ => h0 (fun k hm => absurd hm hno) F1 L ⟨s1, fun _ _ => rfl, s3⟩⟩
  refine ⟨fun _ => ?_, fun hh => absurd hh (by decide)⟩
  repeat (first | ((with_reducible show ∃ _, _ ∧ _); first | refine s_fI (by rfl) (by rfl) (by rfl) ?_ | refine s_fR (by rfl) (by rfl) (by rfl) ?_ | refine s_pV (by rfl) (by rfl) (Nat.le_of_ble_eq_true rfl) (by rfl) ?_) | ((with_reducible show xcls _ _ _ ∧ _); refine s_cls (by rfl) (by rfl) ?_))
  refine v_mlook hm s2 hW s3 (fun F' L' f1 f2 f3 f4 f5 => ?_)
  have hE : eM F L D F' L' := ⟨fS.trans s1 f1, f2, Or.inr ⟨hm, f4, f5⟩⟩
  have hl4 := f5.1.2.2.2.1
  refine ⟨fun hneg => h0 (fun k _ hk hk2 => ?_) F' L' hE, fun hneg => ?_⟩
  · rw [hk] at hneg; exact absurd hneg (n_pos k (by omega))
  obtain ⟨k, hk, rfl⟩ := nat_of hneg
  refine ⟨fun hc => ?_, fun hc => ?_⟩ <;> rw [n_lit, n_lt (by decide) (by omega)] at hc
  · exact h0 (fun k' _ hk' hk2 => by have := n_inj (by omega) (by omega) hk'; omega) F' L' hE
  repeat (first | ((with_reducible show ∃ _, _ ∧ _); first | refine s_fI (by rfl) (by rfl) (by rfl) ?_ | refine s_fR (by rfl) (by rfl) (by rfl) ?_ | refine s_pV (by rfl) (by rfl) (Nat.le_of_ble_eq_true rfl) (by rfl) ?_) | ((with_reducible show xcls _ _ _ ∧ _); refine s_cls (by rfl) (by rfl) ?_))
  rw [f5.2.2.2.2.2.1]
  refine ⟨fun hc => ?_, fun hc => ?_⟩ <;> rw [n_lt (by omega) (by omega)] at hc
  · repeat (first | ((with_reducible show ∃ _, _ ∧ _); first | refine s_fI (by rfl) (by rfl) (by rfl) ?_ | refine s_fR (by rfl) (by rfl) (by rfl) ?_ | refine s_pV (by rfl) (by rfl) (Nat.le_of_ble_eq_true rfl) (by rfl) ?_) | ((with_reducible show xcls _ _ _ ∧ _); refine s_cls (by rfl) (by rfl) ?_))
    refine s_aI (i := k) (by rfl) (by rfl) (by rfl) (by rfl) (by omega) (by decide) ?_
    rw [f5.2.2.2.2.2.2.2 k hc (by omega)]
    exact h1 k hm rfl (by omega) hc F' L' hE
  · exact h0 (fun k' _ hk' hk2 => by have := n_inj (by omega) (by omega) hk'; omega) F' L' hE
theorem v_Model_blame {Q : Int32 → xh → Prop} (hR : RM F D) (hW : WD D) (hS : SM F L D)
    (h0 : ¬ (mt D ∧ len (kd D) ≠ 0 ∧ len (kd D) ≤ 256) → ∀ F' L', eM F L D F' L' → Q (-1) (mem e w F' L' g))
    (h1 : mt D → len (kd D) ≠ 0 → len (kd D) ≤ 256 → ∀ F' L', eM F L D F' L' → Q (Int32.ofNat (blm (kd D))) (mem e w F' L' g)) : wp_Model_blame z Q (ad e 100) (mem e w F L g) := by
  unfold wp_Model_blame wp_Model_blame_35
  refine v_thr hR hS (fun F1 s1 s2 s3 s4 => ?_)
  repeat (first | ((with_reducible show ∃ _, _ ∧ _); first | refine s_fI (by rfl) (by rfl) (by rfl) ?_ | refine s_fR (by rfl) (by rfl) (by rfl) ?_ | refine s_pV (by rfl) (by rfl) (Nat.le_of_ble_eq_true rfl) (by rfl) ?_) | ((with_reducible show xcls _ _ _ ∧ _); refine s_cls (by rfl) (by rfl) ?_))
  refine v_matches s2 hW (fun hno => ?_) (fun hm => ?_)
  · exact ⟨fun hh => absurd rfl hh, fun _ => h0 (fun hh => hno hh.1) F1 L ⟨s1, fun _ _ => rfl, s3⟩⟩
  refine ⟨fun _ => ?_, fun hh => absurd hh (by decide)⟩
  repeat (first | ((with_reducible show ∃ _, _ ∧ _); first | refine s_fI (by rfl) (by rfl) (by rfl) ?_ | refine s_fR (by rfl) (by rfl) (by rfl) ?_ | refine s_pV (by rfl) (by rfl) (Nat.le_of_ble_eq_true rfl) (by rfl) ?_) | ((with_reducible show xcls _ _ _ ∧ _); refine s_cls (by rfl) (by rfl) ?_))
  refine v_mlook hm s2 hW s3 (fun F' L' f1 f2 f3 f4 f5 => ?_)
  have hE : eM F L D F' L' := ⟨fS.trans s1 f1, f2, Or.inr ⟨hm, f4, f5⟩⟩
  have hl4 := f5.1.2.2.2.1
  repeat (first | ((with_reducible show ∃ _, _ ∧ _); first | refine s_fI (by rfl) (by rfl) (by rfl) ?_ | refine s_fR (by rfl) (by rfl) (by rfl) ?_ | refine s_pV (by rfl) (by rfl) (Nat.le_of_ble_eq_true rfl) (by rfl) ?_) | ((with_reducible show xcls _ _ _ ∧ _); refine s_cls (by rfl) (by rfl) ?_))
  rw [f5.2.2.2.2.2.1]
  refine ⟨fun hc => ?_, fun hc => ?_⟩ <;> rw [n_lit, n_eq (by omega) (by decide)] at hc
  · exact h0 (fun hh => hh.2.1 hc) F' L' hE
  repeat (first | ((with_reducible show ∃ _, _ ∧ _); first | refine s_fI (by rfl) (by rfl) (by rfl) ?_ | refine s_fR (by rfl) (by rfl) (by rfl) ?_ | refine s_pV (by rfl) (by rfl) (Nat.le_of_ble_eq_true rfl) (by rfl) ?_) | ((with_reducible show xcls _ _ _ ∧ _); refine s_cls (by rfl) (by rfl) ?_))
  rw [f5.2.2.2.2.2.1]
  refine ⟨fun hc2 => ?_, fun hc2 => ?_⟩ <;> rw [n_lit, n_le (by omega) (by decide)] at hc2
  · repeat (first | ((with_reducible show ∃ _, _ ∧ _); first | refine s_fI (by rfl) (by rfl) (by rfl) ?_ | refine s_fR (by rfl) (by rfl) (by rfl) ?_ | refine s_pV (by rfl) (by rfl) (Nat.le_of_ble_eq_true rfl) (by rfl) ?_) | ((with_reducible show xcls _ _ _ ∧ _); refine s_cls (by rfl) (by rfl) ?_))
    rw [f5.2.2.2.2.2.2.1 hc]
    exact h1 hm hc hc2 F' L' hE
  · exact h0 (fun hh => hc2 hh.2.2) F' L' hE
/-- the end of a question that was refused -/
theorem eM.bad {F' : Nat → Nat → Int32} {L' : Nat → Nat → Int64} {x : Int32} (h : eM F L D F' L') : eM F L D (up F' 100 0 x) L' := ⟨fS.up (Or.inl rfl) h.1, h.2.1, by
  rcases h.2.2 with h | ⟨a1, a2, a3⟩
  · exact Or.inl (by rw [up_i, if_neg (by decide)]; exact h)
  · exact Or.inr ⟨a1, by rw [up_i, if_neg (by decide)]; exact a2, MF.kept (fun j q1 q2 => by rw [up_i, if_neg (by omega)]) (fun k q1 q2 => by rw [up_k (by omega)]) rfl a3⟩⟩
theorem v_Model_differs {Q : Int32 → xh → Prop} {x : Int32} (hR : RM F D) (hW : WD D) (hS : SM F L D)
    (h0 : ¬ mt D → ∀ F' L', eM F L D F' L' → F' 100 0 = 1 → Q 0 (mem e w F' L' g))
    (h2 : mt D → (x < 1 ∨ ¬ x ≤ 16) → ∀ F' L', eM F L D F' L' → F' 100 0 = 2 → Q 0 (mem e w F' L' g))
    (h1 : mt D → ¬ x < 1 → x ≤ 16 → ∀ F' L', eM F L D F' L' → F' 100 0 = 0 → Q (if x < Int32.ofNat (len (kd D)) then 0 else Int32.ofNat (len (kd D))) (mem e w F' L' g)) : wp_Model_differs z Q (ad e 100) x (mem e w F L g) := by
  unfold wp_Model_differs wp_Model_differs_19 wp_Model_differs_24
  repeat (first | ((with_reducible show ∃ _, _ ∧ _); first | refine s_fI (by rfl) (by rfl) (by rfl) ?_ | refine s_fR (by rfl) (by rfl) (by rfl) ?_ | refine s_pV (by rfl) (by rfl) (Nat.le_of_ble_eq_true rfl) (by rfl) ?_) | ((with_reducible show xcls _ _ _ ∧ _); refine s_cls (by rfl) (by rfl) ?_))
  refine v_none hR hW hS (fun hno F' f1 f2 f3 => ?_) (fun hm F' L' f1 f2 f3 f4 f5 => ?_)
  · exact ⟨fun _ => h0 hno F' L ⟨f1, fun _ _ => rfl, f2⟩ f3, fun hh => absurd hh (by decide)⟩
  have hE : eM F L D F' L' := ⟨f1, f2, Or.inr ⟨hm, f4, f5⟩⟩
  refine ⟨fun hh => absurd rfl hh, fun _ => ⟨fun hx => ?_, fun hx => ⟨fun hx2 => ?_, fun hx2 => ?_⟩⟩⟩
  · repeat (first | ((with_reducible show ∃ _, _ ∧ _); first | refine s_fI (by rfl) (by rfl) (by rfl) ?_ | refine s_fR (by rfl) (by rfl) (by rfl) ?_ | refine s_pV (by rfl) (by rfl) (Nat.le_of_ble_eq_true rfl) (by rfl) ?_) | ((with_reducible show xcls _ _ _ ∧ _); refine s_cls (by rfl) (by rfl) ?_))
    refine v_fails1 f3 (by decide) ⟨fun hh => absurd hh (by decide), fun _ => h2 hm (Or.inl hx) _ _ hE.bad (by rw [up_i, if_pos rfl])⟩
  · repeat (first | ((with_reducible show ∃ _, _ ∧ _); first | refine s_fI (by rfl) (by rfl) (by rfl) ?_ | refine s_fR (by rfl) (by rfl) (by rfl) ?_ | refine s_pV (by rfl) (by rfl) (Nat.le_of_ble_eq_true rfl) (by rfl) ?_) | ((with_reducible show xcls _ _ _ ∧ _); refine s_cls (by rfl) (by rfl) ?_))
    refine v_fails0 f3 ⟨fun _ => ?_, fun hh => absurd rfl hh⟩
    have := h1 hm hx hx2 F' L' hE f3
    repeat (first | ((with_reducible show ∃ _, _ ∧ _); first | refine s_fI (by rfl) (by rfl) (by rfl) ?_ | refine s_fR (by rfl) (by rfl) (by rfl) ?_ | refine s_pV (by rfl) (by rfl) (Nat.le_of_ble_eq_true rfl) (by rfl) ?_) | ((with_reducible show xcls _ _ _ ∧ _); refine s_cls (by rfl) (by rfl) ?_))
    rw [f5.2.2.2.2.2.1]
    refine ⟨fun hlt => ?_, fun hlt => ?_⟩
    · rw [if_pos hlt] at this; exact this
    · rw [if_neg hlt] at this
      repeat (first | ((with_reducible show ∃ _, _ ∧ _); first | refine s_fI (by rfl) (by rfl) (by rfl) ?_ | refine s_fR (by rfl) (by rfl) (by rfl) ?_ | refine s_pV (by rfl) (by rfl) (Nat.le_of_ble_eq_true rfl) (by rfl) ?_) | ((with_reducible show xcls _ _ _ ∧ _); refine s_cls (by rfl) (by rfl) ?_))
      rw [f5.2.2.2.2.2.1]
      exact this
  · repeat (first | ((with_reducible show ∃ _, _ ∧ _); first | refine s_fI (by rfl) (by rfl) (by rfl) ?_ | refine s_fR (by rfl) (by rfl) (by rfl) ?_ | refine s_pV (by rfl) (by rfl) (Nat.le_of_ble_eq_true rfl) (by rfl) ?_) | ((with_reducible show xcls _ _ _ ∧ _); refine s_cls (by rfl) (by rfl) ?_))
    refine v_fails1 f3 (by decide) ⟨fun hh => absurd hh (by decide), fun _ => h2 hm (Or.inr hx2) _ _ hE.bad (by rw [up_i, if_pos rfl])⟩
theorem v_Model_pairs {Q : Int32 → xh → Prop} {x : Int32} (hR : RM F D) (hW : WD D) (hS : SM F L D)
    (h0 : ¬ mt D → ∀ F' L', eM F L D F' L' → F' 100 0 = 1 → Q 0 (mem e w F' L' g))
    (h2 : mt D → x ≠ 0 → x ≠ 1 → ∀ F' L', eM F L D F' L' → F' 100 0 = 2 → Q 0 (mem e w F' L' g))
    (h1 : mt D → x = 0 ∨ x = 1 → ∀ F' L', eM F L D F' L' → F' 100 0 = 0 → Q (if x = 0 then Int32.ofNat (pz (kd D)) else Int32.ofNat (pd (kd D) (pq (kd D) (pz (kd D) - 1)) - 1)) (mem e w F' L' g)) : wp_Model_pairs z Q (ad e 100) x (mem e w F L g) := by
  unfold wp_Model_pairs wp_Model_pairs_17 wp_Model_pairs_22
  repeat (first | ((with_reducible show ∃ _, _ ∧ _); first | refine s_fI (by rfl) (by rfl) (by rfl) ?_ | refine s_fR (by rfl) (by rfl) (by rfl) ?_ | refine s_pV (by rfl) (by rfl) (Nat.le_of_ble_eq_true rfl) (by rfl) ?_) | ((with_reducible show xcls _ _ _ ∧ _); refine s_cls (by rfl) (by rfl) ?_))
  refine v_none hR hW hS (fun hno F' f1 f2 f3 => ?_) (fun hm F' L' f1 f2 f3 f4 f5 => ?_)
  · exact ⟨fun _ => h0 hno F' L ⟨f1, fun _ _ => rfl, f2⟩ f3, fun hh => absurd hh (by decide)⟩
  have hE : eM F L D F' L' := ⟨f1, f2, Or.inr ⟨hm, f4, f5⟩⟩
  have hp := f5.1
  refine ⟨fun hh => absurd rfl hh, fun _ => ⟨fun hx => ?_, fun hx => ⟨fun hx2 => ?_, fun hx2 => ?_⟩⟩⟩
  · repeat (first | ((with_reducible show ∃ _, _ ∧ _); first | refine s_fI (by rfl) (by rfl) (by rfl) ?_ | refine s_fR (by rfl) (by rfl) (by rfl) ?_ | refine s_pV (by rfl) (by rfl) (Nat.le_of_ble_eq_true rfl) (by rfl) ?_) | ((with_reducible show xcls _ _ _ ∧ _); refine s_cls (by rfl) (by rfl) ?_))
    refine v_fails1 f3 (by decide) ⟨fun hh => absurd hh (by decide), fun _ => h2 hm (fun hh => by rw [hh] at hx; exact absurd hx (by decide)) (fun hh => by rw [hh] at hx; exact absurd hx (by decide)) _ _ hE.bad (by rw [up_i, if_pos rfl])⟩
  · obtain ⟨k, hk, rfl⟩ := nat_of hx
    rw [n_lit, n_le hk (by decide)] at hx2
    repeat (first | ((with_reducible show ∃ _, _ ∧ _); first | refine s_fI (by rfl) (by rfl) (by rfl) ?_ | refine s_fR (by rfl) (by rfl) (by rfl) ?_ | refine s_pV (by rfl) (by rfl) (Nat.le_of_ble_eq_true rfl) (by rfl) ?_) | ((with_reducible show xcls _ _ _ ∧ _); refine s_cls (by rfl) (by rfl) ?_))
    refine v_fails0 f3 ⟨fun _ => ?_, fun hh => absurd rfl hh⟩
    have := h1 hm (by
      have : k = 0 ∨ k = 1 := by omega
      rcases this with rfl | rfl
      · exact Or.inl rfl
      · exact Or.inr rfl) F' L' hE f3
    refine ⟨fun hz => ?_, fun hz => ?_⟩
    · rw [if_neg hz] at this
      have hpr := (hp.2.1 (pz (kd D) - 1) (by have := hp.1.1; omega))
      have hmd := md_lt hpr.1
      have hpn := pN_le (hm.MK hW)
      repeat (first | ((with_reducible show ∃ _, _ ∧ _); first | refine s_fI (by rfl) (by rfl) (by rfl) ?_ | refine s_fR (by rfl) (by rfl) (by rfl) ?_ | refine s_pV (by rfl) (by rfl) (Nat.le_of_ble_eq_true rfl) (by rfl) ?_) | ((with_reducible show xcls _ _ _ ∧ _); refine s_cls (by rfl) (by rfl) ?_))
      rw [f5.2.2.1, show Int32.ofNat (pz (kd D)) - 1 = Int32.ofNat (pz (kd D) - 1) by rw [n_lit, n_sub hp.1.1]]
      refine s_aI (i := pz (kd D) - 1) (by rfl) (by rfl) (by rfl) (by rfl) (by have := hp.1; omega) (by decide) ?_
      rw [f5.2.2.2.1 _ (by have := hp.1.1; omega)]
      refine s_aI (i := md (kd D) (pq (kd D) (pz (kd D) - 1))) (by rfl) (by rfl) (by rfl) (by rfl) (by omega) (by decide) ?_
      rw [f5.2.2.2.2.1 _ hpr.1, show Int32.ofNat (pd (kd D) (pq (kd D) (pz (kd D) - 1))) - 1 = Int32.ofNat (pd (kd D) (pq (kd D) (pz (kd D) - 1)) - 1) by rw [n_lit, n_sub (by have := hpr.2; omega)]]
      exact this
    · rw [if_pos hz] at this
      repeat (first | ((with_reducible show ∃ _, _ ∧ _); first | refine s_fI (by rfl) (by rfl) (by rfl) ?_ | refine s_fR (by rfl) (by rfl) (by rfl) ?_ | refine s_pV (by rfl) (by rfl) (Nat.le_of_ble_eq_true rfl) (by rfl) ?_) | ((with_reducible show xcls _ _ _ ∧ _); refine s_cls (by rfl) (by rfl) ?_))
      rw [f5.2.2.1]
      exact this
  · repeat (first | ((with_reducible show ∃ _, _ ∧ _); first | refine s_fI (by rfl) (by rfl) (by rfl) ?_ | refine s_fR (by rfl) (by rfl) (by rfl) ?_ | refine s_pV (by rfl) (by rfl) (Nat.le_of_ble_eq_true rfl) (by rfl) ?_) | ((with_reducible show xcls _ _ _ ∧ _); refine s_cls (by rfl) (by rfl) ?_))
    refine v_fails1 f3 (by decide) ⟨fun hh => absurd hh (by decide), fun _ => h2 hm (fun hh => hx2 (by rw [hh]; decide)) (fun hh => hx2 (by rw [hh]; decide)) _ _ hE.bad (by rw [up_i, if_pos rfl])⟩
theorem v_Model_depth {Q : Int32 → xh → Prop} {x y : Int32} (hR : RM F D) (hW : WD D) (hS : SM F L D)
    (h0 : ¬ mt D → ∀ F' L', eM F L D F' L' → F' 100 0 = 1 → Q 0 (mem e w F' L' g))
    (h2 : mt D → (∀ s t, x = Int32.ofNat s → y = Int32.ofNat t → s < 2 ^ (kd D 0 0 2) → ¬ t < 2 ^ (kd D 1 0 2)) → ∀ F' L', eM F L D F' L' → F' 100 0 = 2 → Q 0 (mem e w F' L' g))
    (h1 : ∀ s t, mt D → x = Int32.ofNat s → y = Int32.ofNat t → s < 2 ^ (kd D 0 0 2) → t < 2 ^ (kd D 1 0 2) → ∀ F' L', eM F L D F' L' → F' 100 0 = 0 → Q (Int32.ofNat (pd (kd D) (64 * s + t)) - 1) (mem e w F' L' g)) : wp_Model_depth z Q (ad e 100) x y (mem e w F L g) := by
  unfold wp_Model_depth wp_Model_depth_39 wp_Model_depth_44
  repeat (first | ((with_reducible show ∃ _, _ ∧ _); first | refine s_fI (by rfl) (by rfl) (by rfl) ?_ | refine s_fR (by rfl) (by rfl) (by rfl) ?_ | refine s_pV (by rfl) (by rfl) (Nat.le_of_ble_eq_true rfl) (by rfl) ?_) | ((with_reducible show xcls _ _ _ ∧ _); refine s_cls (by rfl) (by rfl) ?_))
  refine v_none hR hW hS (fun hno F' f1 f2 f3 => ?_) (fun hm F' L' f1 f2 f3 f4 f5 => ?_)
  · exact ⟨fun _ => h0 hno F' L ⟨f1, fun _ _ => rfl, f2⟩ f3, fun hh => absurd hh (by decide)⟩
  have hE : eM F L D F' L' := ⟨f1, f2, Or.inr ⟨hm, f4, f5⟩⟩
  have hp := f5.1
  have hM := hm.MK hW
  have hL0 := hM.1.1.2.2.1
  have hL1 := hM.2.1.1.2.2.1
  have p0 := pw6 hM.1
  have p1 := pw6 hM.2.1
  have hpn := pN_le hM
  have hKM := hm.KM (RM.fS f1 hR)
  have fail : (∀ s t, x = Int32.ofNat s → y = Int32.ofNat t → s < 2 ^ (kd D 0 0 2) → ¬ t < 2 ^ (kd D 1 0 2)) → ∀ F2, F2 = F' → wp_Model_fails z (fun v2 h1 => (v2 = 0 → (∃ o4, fR h1 (ad e 100) 12 37 = some o4 ∧ (∃ o5, fR h1 (ad e 100) 12 10 = some o5 ∧ (∃ v6, aI h1 o5 0 2 = some v6 ∧ (∃ v7, aI h1 o4 0 (x ||| (y <<< (v6 &&& 31))) = some v7 ∧ (Q (v7 - 1) h1)))))) ∧ (¬ v2 = 0 → Q 0 h1)) (ad e 100) 1 2 (mem e w F2 L' g) := by
    rintro hh F2 rfl
    exact v_fails1 f3 (by decide) ⟨fun hh => absurd hh (by decide), fun _ => h2 hm hh _ _ hE.bad (by rw [up_i, if_pos rfl])⟩
  refine ⟨fun hh => absurd rfl hh, fun _ => ⟨fun hx => ?_, fun hx => ?_⟩⟩
  · repeat (first | ((with_reducible show ∃ _, _ ∧ _); first | refine s_fI (by rfl) (by rfl) (by rfl) ?_ | refine s_fR (by rfl) (by rfl) (by rfl) ?_ | refine s_pV (by rfl) (by rfl) (Nat.le_of_ble_eq_true rfl) (by rfl) ?_) | ((with_reducible show xcls _ _ _ ∧ _); refine s_cls (by rfl) (by rfl) ?_))
    exact fail (fun s t hs _ h3 => absurd (hs ▸ hx) (n_pos s (by omega))) _ rfl
  obtain ⟨s, hs, rfl⟩ := nat_of hx
  repeat (first | ((with_reducible show ∃ _, _ ∧ _); first | refine s_fI (by rfl) (by rfl) (by rfl) ?_ | refine s_fR (by rfl) (by rfl) (by rfl) ?_ | refine s_pV (by rfl) (by rfl) (Nat.le_of_ble_eq_true rfl) (by rfl) ?_) | ((with_reducible show xcls _ _ _ ∧ _); refine s_cls (by rfl) (by rfl) ?_))
  refine s_aI (i := 2) (by rfl) (by rfl) (by rfl) (by rfl) (by decide) (by decide) ?_
  rw [show F' 110 2 = Int32.ofNat (kd D 0 0 2) from (hKM 0 (by decide)).1 2 (by decide), n_shr hs (by omega), n_lit, n_eq (by have := Nat.div_le_self s (2 ^ (kd D 0 0 2)); omega) (by decide)]
  have hdz : s / 2 ^ (kd D 0 0 2) = 0 ↔ s < 2 ^ (kd D 0 0 2) := by rw [Nat.div_eq_zero_iff]; have := Nat.two_pow_pos (kd D 0 0 2); omega
  rw [show (OfNat.ofNat 0 : Nat) = 0 from rfl, hdz]
  refine ⟨fun hns => ?_, fun hsl => ?_⟩
  · repeat (first | ((with_reducible show ∃ _, _ ∧ _); first | refine s_fI (by rfl) (by rfl) (by rfl) ?_ | refine s_fR (by rfl) (by rfl) (by rfl) ?_ | refine s_pV (by rfl) (by rfl) (Nat.le_of_ble_eq_true rfl) (by rfl) ?_) | ((with_reducible show xcls _ _ _ ∧ _); refine s_cls (by rfl) (by rfl) ?_))
    exact fail (fun s' t hs' _ h3 => absurd (n_inj (by omega) (by omega) hs') (by omega)) _ rfl
  refine ⟨fun hy => ?_, fun hy => ?_⟩
  · repeat (first | ((with_reducible show ∃ _, _ ∧ _); first | refine s_fI (by rfl) (by rfl) (by rfl) ?_ | refine s_fR (by rfl) (by rfl) (by rfl) ?_ | refine s_pV (by rfl) (by rfl) (Nat.le_of_ble_eq_true rfl) (by rfl) ?_) | ((with_reducible show xcls _ _ _ ∧ _); refine s_cls (by rfl) (by rfl) ?_))
    exact fail (fun s' t _ ht _ h3 => absurd (ht ▸ hy) (n_pos t (by omega))) _ rfl
  obtain ⟨t, ht, rfl⟩ := nat_of hy
  repeat (first | ((with_reducible show ∃ _, _ ∧ _); first | refine s_fI (by rfl) (by rfl) (by rfl) ?_ | refine s_fR (by rfl) (by rfl) (by rfl) ?_ | refine s_pV (by rfl) (by rfl) (Nat.le_of_ble_eq_true rfl) (by rfl) ?_) | ((with_reducible show xcls _ _ _ ∧ _); refine s_cls (by rfl) (by rfl) ?_))
  refine s_aI (i := 7) (by rfl) (by rfl) (by rfl) (by rfl) (by decide) (by decide) ?_
  rw [show F' 110 7 = Int32.ofNat (kd D 1 0 2) from (hKM 1 (by decide)).1 2 (by decide), n_shr ht (by omega), n_eq (by have := Nat.div_le_self t (2 ^ (kd D 1 0 2)); omega) (by decide)]
  have hdt : t / 2 ^ (kd D 1 0 2) = 0 ↔ t < 2 ^ (kd D 1 0 2) := by rw [Nat.div_eq_zero_iff]; have := Nat.two_pow_pos (kd D 1 0 2); omega
  rw [hdt]
  refine ⟨fun htl => ?_, fun hnt => ?_⟩
  · repeat (first | ((with_reducible show ∃ _, _ ∧ _); first | refine s_fI (by rfl) (by rfl) (by rfl) ?_ | refine s_fR (by rfl) (by rfl) (by rfl) ?_ | refine s_pV (by rfl) (by rfl) (Nat.le_of_ble_eq_true rfl) (by rfl) ?_) | ((with_reducible show xcls _ _ _ ∧ _); refine s_cls (by rfl) (by rfl) ?_))
    refine v_fails0 f3 ⟨fun _ => ?_, fun hh => absurd rfl hh⟩
    have e1 : (64 * s + t) / 64 = s := by omega
    have e2 : (64 * s + t) % 64 = t := by omega
    have hpr : isPr (kd D) (64 * s + t) := ⟨by rw [e1]; exact hsl, by rw [e2]; exact htl⟩
    have hmd := md_lt hpr
    have emd : s + t * 2 ^ (kd D 0 0 2) = md (kd D) (64 * s + t) := by unfold md; rw [e1, e2]
    repeat (first | ((with_reducible show ∃ _, _ ∧ _); first | refine s_fI (by rfl) (by rfl) (by rfl) ?_ | refine s_fR (by rfl) (by rfl) (by rfl) ?_ | refine s_pV (by rfl) (by rfl) (Nat.le_of_ble_eq_true rfl) (by rfl) ?_) | ((with_reducible show xcls _ _ _ ∧ _); refine s_cls (by rfl) (by rfl) ?_))
    refine s_aI (i := 2) (by rfl) (by rfl) (by rfl) (by rfl) (by decide) (by decide) ?_
    rw [show F' 110 2 = Int32.ofNat (kd D 0 0 2) from (hKM 0 (by decide)).1 2 (by decide), n_shl (by omega), n_or, md_or hsl, emd]
    refine s_aI (i := md (kd D) (64 * s + t)) (by rfl) (by rfl) (by rfl) (by rfl) (by omega) (by decide) ?_
    rw [f5.2.2.2.2.1 _ hpr]
    exact h1 s t hm rfl rfl hsl htl F' L' hE f3
  · repeat (first | ((with_reducible show ∃ _, _ ∧ _); first | refine s_fI (by rfl) (by rfl) (by rfl) ?_ | refine s_fR (by rfl) (by rfl) (by rfl) ?_ | refine s_pV (by rfl) (by rfl) (Nat.le_of_ble_eq_true rfl) (by rfl) ?_) | ((with_reducible show xcls _ _ _ ∧ _); refine s_cls (by rfl) (by rfl) ?_))
    exact fail (fun s' t' _ ht' _ h3 => absurd (n_inj (by omega) (by omega) ht') (by omega)) _ rfl
theorem v_Model_doubts {Q : Int32 → xh → Prop} (hR : RM F D) (hS : SM F L D) (h : ∀ F' L', eM F L D F' L' → Q 0 (mem e w F' L' g)) : wp_Model_doubts z Q (ad e 100) (mem e w F L g) := by
  unfold wp_Model_doubts
  exact v_thr hR hS (fun F' s1 s2 s3 s4 => h F' L ⟨s1, fun _ _ => rfl, s3⟩)
end
