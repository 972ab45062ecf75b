/-! What holds of the rows: binary files, symbols, the whole. -/
def NM (S : RW) : Prop := ∀ kd k i, kd < 3 → k < 8 → i < S (40 + kd) k → S (150 + kd) (40 * k + i) = 1 ∧ S (50 + kd) (40 * k + i) < 256
def nmr (r : Nat) : Prop := (40 ≤ r ∧ r < 43) ∨ (50 ≤ r ∧ r < 53) ∨ (140 ≤ r ∧ r < 143) ∨ (150 ≤ r ∧ r < 153)
section
variable {b : Nat → Nat} {S S' : RW} {p q v nu k m i l c l' o a : Nat}
theorem NM_rows (h : ∀ r, nmr r → S' r = S r) (hN : NM S) : NM S' := by
  intro kd k i q1 q2 q3
  rw [h (40 + kd) (by unfold nmr; omega)] at q3
  rw [h (150 + kd) (by unfold nmr; omega), h (50 + kd) (by unfold nmr; omega)]
  exact hN kd k i q1 q2 q3
def BO (S : RW) (i l a n : Nat) : Prop := KI S i l a ∧ (∀ v, n < v → S 8 v = 0) ∧ (∀ v, 1 ≤ v → v ≤ n → S 8 v ≠ 0)
theorem BO_new {n r j c : Nat} (hr : r = 1 ∨ r = 2 ∨ r = 12) (hc : c ≠ 0) (h : (∀ v, n < v → S 8 v = 0) ∧ (∀ v, 1 ≤ v → v ≤ n → S 8 v ≠ 0)) : (∀ v, n + 1 < v → st (st S 8 (n + 1) c) r j (n + 1) 8 v = 0) ∧ (∀ v, 1 ≤ v → v ≤ n + 1 → st (st S 8 (n + 1) c) r j (n + 1) 8 v ≠ 0) := by
  rw [st_o (r' := 8) (by omega) (by omega)]
  refine ⟨fun v hv => ?_, fun v h1 h2 => ?_⟩
  · rw [st_r, if_neg (by omega)]; exact h.1 v (by omega)
  · rw [st_r]
    by_cases e0 : v = n + 1
    · rw [if_pos e0]; exact hc
    · rw [if_neg e0]; exact h.2 v h1 (by omega)
theorem itS_inv {f : Nat → RW → RW} (P : Nat → RW → Prop) (hf : ∀ k S, P k S → P (k + 1) (f k S)) : ∀ m k S, P k S → (∀ k', k ≤ k' → k' < k + m → ∀ S, P k' S → P (k' + 1) (f k' S)) → P (k + m) (itS f k m S)
  | 0, k, S, hP, _ => hP
  | m + 1, k, S, hP, hs => by
    have := itS_inv P hf m (k + 1) (f k S) (hs k (Nat.le_refl _) (by omega) S hP) (fun k' h1 h2 S hP => hs k' (by omega) (by omega) S hP)
    rw [show k + (m + 1) = k + 1 + m by omega]; exact this
theorem it_inv {f : Nat → RW → RW} (P : Nat → RW → Prop) : ∀ m k S, P k S → (∀ k', k ≤ k' → k' < k + m → ∀ S, P k' S → P (k' + 1) (f k' S)) → P (k + m) (itS f k m S)
  | 0, k, S, hP, _ => hP
  | m + 1, k, S, hP, hs => by
    have := it_inv P m (k + 1) (f k S) (hs k (Nat.le_refl _) (by omega) S hP) (fun k' h1 h2 S hP => hs k' (by omega) (by omega) S hP)
    rw [show k + (m + 1) = k + 1 + m by omega]; exact this
/-- rows that definitions in order leave -/
def bor (r : Nat) : Prop := r ≠ 8 ∧ r ≠ 108 ∧ r ≠ 1 ∧ r ≠ 101 ∧ r ≠ 2 ∧ r ≠ 102 ∧ r ≠ 12 ∧ r ≠ 112
theorem bdA_T (hB : BI S nu) (h8 : ∀ v, S 8 v = 0) (hM : S 0 0 = S 0 1 + S 0 2 + S 0 4) : BO (bdA S) (S 0 1) (S 0 2) (S 0 4) (S 0 0) ∧ BI (bdA S) nu ∧ (∀ r, bor r → bdA S r = S r) := by
  have k0 : KI S 0 0 0 := ⟨⟨h8 0, fun v hv => absurd (h8 v) hv⟩, ⟨fun k hk => by omega, fun v hv => by rw [h8 v] at hv; omega, fun k k' hk => by omega⟩, ⟨fun k hk => by omega, fun v hv => by rw [h8 v] at hv; omega, fun k k' hk => by omega⟩, ⟨fun k hk => by omega, fun v hv => by rw [h8 v] at hv; omega, fun k k' hk => by omega⟩⟩
  have rows : ∀ (T : RW) u c r j, (r = 1 ∨ r = 2 ∨ r = 12) → (∀ r', bor r' → T r' = S r') → ∀ r', bor r' → st (st T 8 u c) r j u r' = S r' := by
    intro T u c r j hr hT r' hr'
    unfold bor at hr'
    rw [st_o (by omega) (by omega), st_o (by omega) (by omega)]
    exact hT r' hr'
  have b0 : bor 0 := by unfold bor; omega
  have s1 := it_inv (f := boI) (fun k T => (BO T k 0 0 k ∧ BI T nu) ∧ ∀ r, bor r → T r = S r) (S 0 1) 0 S ⟨⟨⟨k0, fun v _ => h8 v, fun v h1 h2 => by omega⟩, hB⟩, fun _ _ => rfl⟩ (fun k _ hk T hT => by
    obtain ⟨⟨⟨h1, h2⟩, h3⟩, h4⟩ := hT
    have e0 := h4 0 b0
    unfold boI
    rw [Nat.add_comm 1 k]
    exact ⟨⟨⟨KI_in h1 (h2.1 _ (by omega)) (by omega) (by rw [e0]; omega), BO_new (Or.inl rfl) (by decide) h2⟩, BI_bo h3 (by decide) (by decide)⟩, rows T _ _ _ _ (Or.inl rfl) h4⟩)
  rw [Nat.zero_add] at s1
  have s2 := it_inv (f := boL) (fun k T => (BO T (S 0 1) k 0 (S 0 1 + k) ∧ BI T nu) ∧ ∀ r, bor r → T r = S r) (S 0 2) 0 _ s1 (fun k _ hk T hT => by
    obtain ⟨⟨⟨h1, h2⟩, h3⟩, h4⟩ := hT
    have e0 := h4 0 b0
    unfold boL
    rw [e0, show 1 + S 0 1 + k = S 0 1 + k + 1 by omega]
    exact ⟨⟨⟨KI_la h1 (h2.1 _ (by omega)) (by omega) (by rw [e0]; omega), BO_new (Or.inr (Or.inl rfl)) (by decide) h2⟩, BI_bo h3 (by decide) (by decide)⟩, rows T _ _ _ _ (Or.inr (Or.inl rfl)) h4⟩)
  rw [Nat.zero_add] at s2
  have s3 := it_inv (f := boA) (fun k T => (BO T (S 0 1) (S 0 2) k (S 0 1 + S 0 2 + k) ∧ BI T nu) ∧ ∀ r, bor r → T r = S r) (S 0 4) 0 _ s2 (fun k _ hk T hT => by
    obtain ⟨⟨⟨h1, h2⟩, h3⟩, h4⟩ := hT
    have e0 := h4 0 b0
    unfold boA
    rw [e0, show 1 + S 0 1 + S 0 2 + k = S 0 1 + S 0 2 + k + 1 by omega]
    exact ⟨⟨⟨KI_an h1 (h2.1 _ (by omega)) (by omega) (by rw [e0]; omega), BO_new (Or.inr (Or.inr rfl)) (by decide) h2⟩, BI_bo h3 (by decide) (by decide)⟩, rows T _ _ _ _ (Or.inr (Or.inr rfl)) h4⟩)
  rw [Nat.zero_add, ← hM] at s3
  exact ⟨s3.1.1, s3.1.2, s3.2⟩
theorem dlA_ok {fr least r r' u : Nat} (h : dlA b fr least r r' u k S p = .ok (S', q, v)) : S' = st (st S r u v) r' k v ∧ v ≤ fr := by
  obtain ⟨S1, p1, v1, h1, h2⟩ := bi_split h
  obtain ⟨rfl, _⟩ := dbA_ok 3 p 0 0 (by decide) (by decide) h1
  by_cases hh : v1 < least ∨ fr < v1
  · rw [if_pos hh] at h2; cases h2
  · rw [if_neg hh] at h2
    obtain ⟨rfl, rfl, rfl⟩ := ok_inj h2
    exact ⟨rfl, Nat.sub_le _ _⟩
/-- a binary file, when a of its ands have come -/
def BX (S : RW) (i l c l' o a : Nat) : Prop := BI S (l' + o) ∧ KI S i l c ∧ NX S l' o ∧ LI S (l' + o) ∧ AN1 S a ∧ (∀ v, 1 ≤ v → v ≤ S 0 0 → S 8 v ≠ 0)
theorem dnA_T (h : BX S i l c l' o k) (hk : k < c) (hr : dnA b k S p = .ok (S', q, v)) : BX S' i l c l' o (k + 1) ∧ S' 0 = S 0 ∧ S' 30 = S 30 := by
  have hB := dnA_BI h.1 hr
  obtain ⟨S1, p1, v1, h1, h2⟩ := bi_split hr
  obtain ⟨rfl, l1⟩ := dlA_ok h1
  obtain ⟨rfl, l2⟩ := dlA_ok h2
  have h12 : st (st S 6 (S 12 k) v1) 13 k v1 12 = S 12 := by rw [st_o (by decide) (by decide), st_o (by decide) (by decide)]
  rw [h12] at hB ⊢
  generalize hu : S 12 k = u at *
  have huM : u ≤ S 0 0 := by
    have := (h.2.1.2.2.2.1 k hk).2
    rw [hu] at this
    exact h.2.1.1.2 u (by omega)
  have e : ∀ r', r' ≠ 6 → r' ≠ 106 → r' ≠ 13 → r' ≠ 113 → r' ≠ 7 → r' ≠ 107 → r' ≠ 14 → r' ≠ 114 → st (st (st (st S 6 u v1) 13 k v1) 7 u v) 14 k v r' = S r' := fun r' a1 a2 a3 a4 a5 a6 a7 a8 => by rw [st_o a7 a8, st_o a5 a6, st_o a3 a4, st_o a1 a2]
  have e0 : st (st (st (st S 6 u v1) 13 k v1) 7 u v) 14 k v 0 = S 0 := e 0 (by decide) (by decide) (by decide) (by decide) (by decide) (by decide) (by decide) (by decide)
  have e12 := e 12 (by decide) (by decide) (by decide) (by decide) (by decide) (by decide) (by decide) (by decide)
  refine ⟨⟨hB, KI_st (by decide) (KI_st (by decide) (KI_st (by decide) (KI_st (by decide) h.2.1))), NX_rows (fun r' hr' => e r' (by omega) (by omega) (by omega) (by omega) (by omega) (by omega) (by omega) (by omega)) (fun j _ => ?_) (fun j _ => ?_) h.2.2.1, LI_st (by decide) (LI_st (by decide) (LI_st (by decide) (LI_st (by decide) h.2.2.2.1))), fun j hj => ?_, by rw [e0, e 8 (by decide) (by decide) (by decide) (by decide) (by decide) (by decide) (by decide) (by decide)]; exact h.2.2.2.2.2⟩, e0, e 30 (by decide) (by decide) (by decide) (by decide) (by decide) (by decide) (by decide) (by decide)⟩
  · rw [e 19 (by decide) (by decide) (by decide) (by decide) (by decide) (by decide) (by decide) (by decide), e 20 (by decide) (by decide) (by decide) (by decide) (by decide) (by decide) (by decide) (by decide)]; exact ⟨rfl, rfl⟩
  · rw [e 19 (by decide) (by decide) (by decide) (by decide) (by decide) (by decide) (by decide) (by decide), e 20 (by decide) (by decide) (by decide) (by decide) (by decide) (by decide) (by decide) (by decide)]; exact ⟨rfl, rfl⟩
  · have w6 : ∀ j, st (st (st (st S 6 u v1) 13 k v1) 7 u v) 14 k v 6 j = if j = u then v1 else S 6 j := fun j => by
      rw [st_o (r' := 6) (by decide) (by decide), st_o (r' := 6) (by decide) (by decide), st_o (r' := 6) (by decide) (by decide), st_r]
    have w106 : ∀ j, st (st (st (st S 6 u v1) 13 k v1) 7 u v) 14 k v 106 j = if j = u then 1 else S 106 j := fun j => by
      rw [st_o (r' := 106) (by decide) (by decide), st_o (r' := 106) (by decide) (by decide), st_o (r' := 106) (by decide) (by decide), show (106 : Nat) = 6 + 100 from rfl, st_m]
    have w13 : ∀ j, st (st (st (st S 6 u v1) 13 k v1) 7 u v) 14 k v 13 j = if j = k then v1 else S 13 j := fun j => by
      rw [st_o (r' := 13) (by decide) (by decide), st_o (r' := 13) (by decide) (by decide), st_r, st_o (r' := 13) (by decide) (by decide)]
    have w113 : ∀ j, st (st (st (st S 6 u v1) 13 k v1) 7 u v) 14 k v 113 j = if j = k then 1 else S 113 j := fun j => by
      rw [st_o (r' := 113) (by decide) (by decide), st_o (r' := 113) (by decide) (by decide), show (113 : Nat) = 13 + 100 from rfl, st_m, st_o (r' := 13 + 100) (by decide) (by decide)]
    have w7 : ∀ j, st (st (st (st S 6 u v1) 13 k v1) 7 u v) 14 k v 7 j = if j = u then v else S 7 j := fun j => by
      rw [st_o (r' := 7) (by decide) (by decide), st_r, st_o (r' := 7) (by decide) (by decide), st_o (r' := 7) (by decide) (by decide)]
    have w107 : ∀ j, st (st (st (st S 6 u v1) 13 k v1) 7 u v) 14 k v 107 j = if j = u then 1 else S 107 j := fun j => by
      rw [st_o (r' := 107) (by decide) (by decide), show (107 : Nat) = 7 + 100 from rfl, st_m, st_o (r' := 7 + 100) (by decide) (by decide), st_o (r' := 7 + 100) (by decide) (by decide)]
    have w14 : ∀ j, st (st (st (st S 6 u v1) 13 k v1) 7 u v) 14 k v 14 j = if j = k then v else S 14 j := fun j => by
      rw [st_r, st_o (r' := 14) (by decide) (by decide), st_o (r' := 14) (by decide) (by decide), st_o (r' := 14) (by decide) (by decide)]
    have w114 : ∀ j, st (st (st (st S 6 u v1) 13 k v1) 7 u v) 14 k v 114 j = if j = k then 1 else S 114 j := fun j => by
      rw [show (114 : Nat) = 14 + 100 from rfl, st_m, st_o (r' := 14 + 100) (by decide) (by decide), st_o (r' := 14 + 100) (by decide) (by decide), st_o (r' := 14 + 100) (by decide) (by decide)]
    rw [e12, w106, w107, w113, w114, w6, w7, w13, w14, e0]
    by_cases ej : j = k
    · rw [if_pos ej, if_pos ej, if_pos ej, if_pos ej, ej, hu, if_pos rfl, if_pos rfl, if_pos rfl, if_pos rfl]
      exact ⟨rfl, rfl, rfl, rfl, rfl, rfl, by omega, by omega⟩
    · have hne : S 12 j ≠ u := fun he => ej (h.2.1.2.2.2.2.2 j k (by omega) hk (by rw [he, hu]))
      rw [if_neg ej, if_neg ej, if_neg ej, if_neg ej, if_neg hne, if_neg hne, if_neg hne, if_neg hne]
      exact h.2.2.2.2.1 j (by omega)
/-- what is known of a file when its ands have come -/
def FG (S : RW) : Prop := BI S (S 32 0) ∧ KI S (S 0 1) (S 0 2) (S 0 4) ∧ NX S (S 0 2) (S 0 3) ∧ LI S (S 32 0) ∧ AN1 S (S 0 4) ∧ ((S 30 0 = 0 ∧ AN2 S (S 0 4) ∧ S 32 0 = S 0 2 + S 0 3 + 2 * S 0 4) ∨ (S 30 0 ≠ 0 ∧ S 32 0 = S 0 2 + S 0 3 ∧ ∀ v, 1 ≤ v → v ≤ S 0 0 → S 8 v ≠ 0))
theorem FG_rows (h : ∀ r, ¬ nmr r → S' r = S r) (hB : BI S' (S 32 0)) (hF : FG S) : FG S' := by
  have e : ∀ r, ¬ nmr r → S' r = S r := h
  obtain ⟨h1, h2, h3, h4, h5, h6⟩ := hF
  have e0 := e 0 (by unfold nmr; omega)
  have e32 := e 32 (by unfold nmr; omega)
  have e8 := e 8 (by unfold nmr; omega)
  unfold FG
  rw [e0, e32, e8, e 30 (by unfold nmr; omega)]
  refine ⟨hB, ?_, ?_, ?_, ?_, ?_⟩
  · unfold KI Kd
    rw [e0, e8, e 1 (by unfold nmr; omega), e 2 (by unfold nmr; omega), e 12 (by unfold nmr; omega), e (1 + 100) (by unfold nmr; omega), e (2 + 100) (by unfold nmr; omega), e (12 + 100) (by unfold nmr; omega)]
    exact h2
  · exact NX_rows (fun r hr => e r (by unfold nmr; omega)) (fun j _ => by rw [e 19 (by unfold nmr; omega), e 20 (by unfold nmr; omega)]; exact ⟨rfl, rfl⟩) (fun j _ => by rw [e 19 (by unfold nmr; omega), e 20 (by unfold nmr; omega)]; exact ⟨rfl, rfl⟩) h3
  · unfold LI
    rw [e0, e 119 (by unfold nmr; omega), e 120 (by unfold nmr; omega), e 19 (by unfold nmr; omega)]
    exact h4
  · exact AN1_rows (fun r hr => e r (by unfold nmr; omega)) h5
  · rcases h6 with ⟨a1, a2, a3⟩ | a
    · exact Or.inl ⟨a1, AN2_rows (fun r hr => e r (by unfold nmr; omega)) (fun j _ => by rw [e 19 (by unfold nmr; omega), e 20 (by unfold nmr; omega)]; exact ⟨rfl, rfl⟩) a2, a3⟩
    · exact Or.inr a
end
