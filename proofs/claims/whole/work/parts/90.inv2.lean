/-! What holds of the rows: line by line. -/
def TX (S : RW) (i l c l' o a : Nat) : Prop := BI S (l' + o + 2 * a) ∧ KI S i l c ∧ NX S l' o ∧ LI S (l' + o + 2 * a) ∧ AN1 S a ∧ AN2 S a
section
variable {b : Nat → Nat} {S S' : RW} {p q v nu k m i l c l' o a : Nat}
theorem AN2_rows (hr : ∀ r, r = 0 ∨ r = 13 ∨ r = 14 ∨ r = 33 ∨ r = 34 ∨ r = 133 ∨ r = 134 → S' r = S r) (h19 : ∀ j, j < S 0 2 + S 0 3 + 2 * a → S' 19 j = S 19 j ∧ S' 20 j = S 20 j) (h : AN2 S a) : AN2 S' a := by
  intro k hk
  rw [hr 0 (by decide), hr 13 (by decide), hr 14 (by decide), hr 33 (by decide), hr 34 (by decide), hr 133 (by decide), hr 134 (by decide), (h19 _ (by omega)).1, (h19 _ (by omega)).1, (h19 _ (by omega)).2, (h19 _ (by omega)).2]
  exact h k hk
/-- a definition leaves the rest -/
theorem def_rest {u c r j : Nat} (hr : r = 1 ∨ r = 2) (h : NX S l' o ∧ LI S nu ∧ AN1 S a ∧ AN2 S a) : NX (st (st S 8 u c) r j u) l' o ∧ LI (st (st S 8 u c) r j u) nu ∧ AN1 (st (st S 8 u c) r j u) a ∧ AN2 (st (st S 8 u c) r j u) a := by
  have e : ∀ r', r' ≠ 8 → r' ≠ 108 → r' ≠ r → r' ≠ r + 100 → st (st S 8 u c) r j u r' = S r' := fun r' h1 h2 h3 h4 => by rw [st_o h3 h4, st_o h1 h2]
  refine ⟨NX_rows (fun r' hr' => e r' (by omega) (by omega) (by omega) (by omega)) (fun k _ => ?_) (fun k _ => ?_) h.1, LI_st (by omega) (LI_st (by decide) h.2.1), AN1_rows (fun r' hr' => e r' (by omega) (by omega) (by omega) (by omega)) h.2.2.1, AN2_rows (fun r' hr' => e r' (by omega) (by omega) (by omega) (by omega)) (fun k _ => ?_) h.2.2.2⟩ <;> rw [e 19 (by decide) (by decide) (by omega) (by omega), e 20 (by decide) (by decide) (by omega) (by omega)] <;> exact ⟨rfl, rfl⟩
theorem inA_T (h : TX S i l c l' o a) (hr : inA b i S p = .ok (S', q, v)) : TX S' (i + 1) l c l' o a ∧ S' 0 = S 0 ∧ S' 30 = S 30 := by
  have hB := inA_BI h.1 hr
  obtain ⟨S1, p1, v1, h1, h2⟩ := bi_split hr
  obtain ⟨rfl, _⟩ := psA_ok h2
  obtain ⟨rfl, d1, d2, d3, d4⟩ := deA_ok h1
  obtain ⟨r1, r2, r3, r4⟩ := def_rest (u := v1 / 2) (c := 1) (j := i) (Or.inl rfl) ⟨h.2.2.1, h.2.2.2.1, h.2.2.2.2.1, h.2.2.2.2.2⟩
  exact ⟨⟨hB, KI_in h.2.1 d4 (by omega) (by omega), r1, r2, r3, r4⟩, by rw [st_o (by decide) (by decide), st_o (by decide) (by decide)], by rw [st_o (by decide) (by decide), st_o (by decide) (by decide)]⟩
theorem lvA_T (h : TX S i l c l' o a) (hr : lvA b l S p = .ok (S', q, v)) : TX S' i (l + 1) c l' o a ∧ S' 0 = S 0 ∧ S' 30 = S 30 := by
  have hB := lvA_BI h.1 hr
  obtain ⟨S1, p1, v1, h1, h2⟩ := bi_split hr
  obtain ⟨rfl, _⟩ := psA_ok h2
  obtain ⟨rfl, d1, d2, d3, d4⟩ := deA_ok h1
  obtain ⟨r1, r2, r3, r4⟩ := def_rest (u := v1 / 2) (c := 2) (j := l) (Or.inr rfl) ⟨h.2.2.1, h.2.2.2.1, h.2.2.2.2.1, h.2.2.2.2.2⟩
  exact ⟨⟨hB, KI_la h.2.1 d4 (by omega) (by omega), r1, r2, r3, r4⟩, by rw [st_o (by decide) (by decide), st_o (by decide) (by decide)], by rw [st_o (by decide) (by decide), st_o (by decide) (by decide)]⟩
theorem KI_us {x y : Nat} (h : KI S i l a) : KI (usS S x y) i l a := KI_st (by decide) (KI_st (by decide) (KI_st (by decide) h))
theorem LI_usS {x y : Nat} (h32 : S 32 0 = nu) (h : LI S nu) (hx : x ≤ 2 * S 0 0 + 1) : LI (usS S x y) (nu + 1) := by
  unfold usS; rw [h32]; exact LI_us h hx
theorem nxA_T (h : TX S i l c k 0 0) (hr : nxA b k S p = .ok (S', q, v)) : TX S' i l c (k + 1) 0 0 ∧ S' 0 = S 0 ∧ S' 30 = S 30 := by
  have hB := nxA_BI h.1 hr
  obtain ⟨S1, p1, v1, h1, h2⟩ := bi_split hr
  obtain ⟨rfl, _⟩ := psA_ok h2
  obtain ⟨hS1, hv⟩ := usA_ok h1
  have hS1 : S1 = usS S v1 p := hS1
  subst hS1
  have h32 : S 32 0 = k := h.1.2.2.2.1
  have e : ∀ r', r' ≠ 3 → r' ≠ 103 → r' ≠ 23 → r' ≠ 123 → st (st (usS S v1 p) 3 k v1) 23 k p r' = usS S v1 p r' := fun r' h1 h2 h3 h4 => by rw [st_o h3 h4, st_o h1 h2]
  refine ⟨⟨hB, KI_st (by decide) (KI_st (by decide) (KI_us h.2.1)), ⟨fun j hj => ?_, fun j hj => by omega⟩, LI_st (by decide) (LI_st (by decide) (LI_usS h32 h.2.2.2.1 hv)), fun j hj => by omega, fun j hj => by omega⟩, by rw [e 0 (by decide) (by decide) (by decide) (by decide), us_o (by decide)], by rw [e 30 (by decide) (by decide) (by decide) (by decide), us_o (by decide)]⟩
  rw [e 19 (by decide) (by decide) (by decide) (by decide), e 20 (by decide) (by decide) (by decide) (by decide), us_19.1, us_19.2, h32, st_o (r' := 103) (by decide) (by decide), show (103 : Nat) = 3 + 100 from rfl, st_m, show (123 : Nat) = 23 + 100 from rfl, st_m, st_o (r' := 23 + 100) (by decide) (by decide), st_o (r' := 3) (by decide) (by decide), st_r, st_r, us_o (r := 3 + 100) (by decide), us_o (r := 23 + 100) (by decide), us_o (r := 3) (by decide), st_o (r' := 23) (by decide) (by decide), us_o (r := 23) (by decide)]
  by_cases e0 : j = k
  · rw [if_pos e0, if_pos e0, if_pos e0, if_pos e0, if_pos e0, if_pos e0]; exact ⟨rfl, rfl, rfl, rfl⟩
  · rw [if_neg e0, if_neg e0, if_neg e0, if_neg e0, if_neg e0, if_neg e0]; exact h.2.2.1.1 j (by omega)
theorem ouA_T (h : TX S i l c l' k 0) (hl : l' = S 0 2) (hr : ouA b k S p = .ok (S', q, v)) : TX S' i l c l' (k + 1) 0 ∧ S' 0 = S 0 ∧ S' 30 = S 30 := by
  have hB := ouA_BI h.1 hr
  obtain ⟨S1, p1, v1, h1, h2⟩ := bi_split hr
  obtain ⟨rfl, _⟩ := psA_ok h2
  obtain ⟨hS1, hv⟩ := usA_ok h1
  have hS1 : S1 = usS S v1 p := hS1
  subst hS1
  have h32 : S 32 0 = l' + k := h.1.2.2.2.1
  have e : ∀ r', r' ≠ 4 → r' ≠ 104 → r' ≠ 24 → r' ≠ 124 → st (st (usS S v1 p) 4 k v1) 24 k p r' = usS S v1 p r' := fun r' h1 h2 h3 h4 => by rw [st_o h3 h4, st_o h1 h2]
  refine ⟨⟨hB, KI_st (by decide) (KI_st (by decide) (KI_us h.2.1)), ⟨fun j hj => ?_, fun j hj => ?_⟩, LI_st (by decide) (LI_st (by decide) (LI_usS h32 h.2.2.2.1 hv)), fun j hj => by omega, fun j hj => by omega⟩, by rw [e 0 (by decide) (by decide) (by decide) (by decide), us_o (by decide)], by rw [e 30 (by decide) (by decide) (by decide) (by decide), us_o (by decide)]⟩
  · rw [e 3 (by decide) (by decide) (by decide) (by decide), e 23 (by decide) (by decide) (by decide) (by decide), e 103 (by decide) (by decide) (by decide) (by decide), e 123 (by decide) (by decide) (by decide) (by decide), e 19 (by decide) (by decide) (by decide) (by decide), e 20 (by decide) (by decide) (by decide) (by decide), us_19.1, us_19.2, if_neg (by omega), if_neg (by omega), us_o (by decide), us_o (by decide), us_o (by decide), us_o (by decide)]
    exact h.2.2.1.1 j hj
  · rw [e 0 (by decide) (by decide) (by decide) (by decide), e 19 (by decide) (by decide) (by decide) (by decide), e 20 (by decide) (by decide) (by decide) (by decide), us_19.1, us_19.2, h32, st_o (r' := 104) (by decide) (by decide), show (104 : Nat) = 4 + 100 from rfl, st_m, show (124 : Nat) = 24 + 100 from rfl, st_m, st_o (r' := 24 + 100) (by decide) (by decide), st_o (r' := 4) (by decide) (by decide), st_r, st_r, us_o (r := 4 + 100) (by decide), us_o (r := 24 + 100) (by decide), us_o (r := 4) (by decide), st_o (r' := 24) (by decide) (by decide), us_o (r := 24) (by decide), us_o (r := 0) (by decide)]
    by_cases e0 : j = k
    · rw [if_pos e0, if_pos e0, if_pos e0, if_pos e0, if_pos (by omega), if_pos (by omega)]; exact ⟨rfl, rfl, rfl, rfl⟩
    · rw [if_neg e0, if_neg e0, if_neg e0, if_neg e0, if_neg (by omega), if_neg (by omega)]; exact h.2.2.1.2 j (by omega)
/-- the rows behind an operand -/
def opS (S : RW) (r r' r'' u k x y : Nat) : RW := st (st (st (usS S x y) r u x) r' k x) r'' k y
theorem opA_ok {r r' r'' u : Nat} (h : opA b r r' r'' u k S p = .ok (S', q, v)) : S' = opS S r r' r'' u k v p ∧ v ≤ 2 * S 0 0 + 1 := by
  obtain ⟨S1, p1, v1, h1, h2⟩ := bi_split h
  obtain ⟨hS1, hv⟩ := usA_ok h1
  have hS1 : S1 = usS S v1 p := hS1
  subst hS1
  obtain ⟨rfl, rfl, rfl⟩ := ok_inj h2
  exact ⟨rfl, hv⟩
theorem op_o {r r' r'' u x y t : Nat} (h1 : t ≠ r ∧ t ≠ r + 100 ∧ t ≠ r' ∧ t ≠ r' + 100 ∧ t ≠ r'' ∧ t ≠ r'' + 100) : opS S r r' r'' u k x y t = usS S x y t := by
  unfold opS
  rw [st_o h1.2.2.2.2.1 h1.2.2.2.2.2, st_o h1.2.2.1 h1.2.2.2.1, st_o h1.1 h1.2.1]
theorem anA_T (h : TX S i l k l' o k) (hl : l' = S 0 2) (ho : o = S 0 3) (hr : anA b k S p = .ok (S', q, v)) : TX S' i l (k + 1) l' o (k + 1) ∧ S' 0 = S 0 ∧ S' 30 = S 30 := by
  have hB := anA_BI h.1 hr
  obtain ⟨S1, p1, v1, h1, h2⟩ := bi_split hr
  obtain ⟨S2, p2, v2, h3, h4⟩ := bi_split h2
  obtain ⟨S3, p3, v3, h5, h6⟩ := bi_split h4
  obtain ⟨S4, p4, v4, h7, h8⟩ := bi_split h6
  obtain ⟨S5, p5, v5, h9, h10⟩ := bi_split h8
  obtain ⟨rfl, _⟩ := psA_ok h3
  obtain ⟨rfl, _⟩ := psA_ok h7
  obtain ⟨rfl, _⟩ := psA_ok h10
  obtain ⟨rfl, d1, d2, d3, d4⟩ := deA_ok h1
  obtain ⟨rfl, l3⟩ := opA_ok h5
  obtain ⟨rfl, l5⟩ := opA_ok h9
  have hK1 := KI_an h.2.1 d4 (show v1 / 2 ≠ 0 by omega) (show v1 / 2 ≤ S 0 0 by omega)
  generalize hu : v1 / 2 = u at *
  generalize hT : st (st S 8 u 3) 12 k u = T at *
  have eT : ∀ r', r' ≠ 8 → r' ≠ 108 → r' ≠ 12 → r' ≠ 112 → T r' = S r' := fun r' h1 h2 h3 h4 => by rw [← hT, st_o h3 h4, st_o h1 h2]
  have t12 : ∀ j, T 12 j = if j = k then u else S 12 j := fun j => by rw [← hT, st_r, st_o (by decide) (by decide)]
  have t32 : T 32 0 = l' + o + 2 * k := by rw [eT 32 (by decide) (by decide) (by decide) (by decide)]; exact h.1.2.2.2.1
  generalize hU : opS T 6 13 33 u k v3 p2 = U at *
  have eU : ∀ r', r' ≠ 6 ∧ r' ≠ 106 ∧ r' ≠ 13 ∧ r' ≠ 113 ∧ r' ≠ 33 ∧ r' ≠ 133 → U r' = usS T v3 p2 r' := fun r' h1 => by rw [← hU, op_o h1]
  have u32 : U 32 0 = l' + o + 2 * k + 1 := by
    rw [eU 32 (by decide)]; unfold usS; rw [st_r, if_pos rfl, t32]
  have u0 : U 0 = S 0 := by rw [eU 0 (by decide), us_o (by decide), eT 0 (by decide) (by decide) (by decide) (by decide)]
  have eV : ∀ r', r' ≠ 7 ∧ r' ≠ 107 ∧ r' ≠ 14 ∧ r' ≠ 114 ∧ r' ≠ 34 ∧ r' ≠ 134 → opS U 7 14 34 u k v5 p4 r' = usS U v5 p4 r' := fun r' h1 => op_o h1
  have v0 : opS U 7 14 34 u k v5 p4 0 = S 0 := by rw [eV 0 (by decide), us_o (by decide), u0]
  have v30 : opS U 7 14 34 u k v5 p4 30 = S 30 := by rw [eV 30 (by decide), us_o (by decide), eU 30 (by decide), us_o (by decide), eT 30 (by decide) (by decide) (by decide) (by decide)]
  -- rows that no operand touches
  have all : ∀ r', (r' ≠ 7 ∧ r' ≠ 107 ∧ r' ≠ 14 ∧ r' ≠ 114 ∧ r' ≠ 34 ∧ r' ≠ 134) → (r' ≠ 6 ∧ r' ≠ 106 ∧ r' ≠ 13 ∧ r' ≠ 113 ∧ r' ≠ 33 ∧ r' ≠ 133) → (r' ≠ 19 ∧ r' ≠ 20 ∧ r' ≠ 32 ∧ r' ≠ 119 ∧ r' ≠ 120 ∧ r' ≠ 132) → opS U 7 14 34 u k v5 p4 r' = T r' := fun r' a1 a2 a3 => by rw [eV r' a1, us_o a3, eU r' a2, us_o a3]
  have w19 : ∀ j, opS U 7 14 34 u k v5 p4 19 j = if j = l' + o + 2 * k + 1 then v5 else if j = l' + o + 2 * k then v3 else S 19 j := fun j => by
    rw [eV 19 (by decide), us_19.1, u32, eU 19 (by decide), us_19.1, t32, eT 19 (by decide) (by decide) (by decide) (by decide)]
  have w20 : ∀ j, opS U 7 14 34 u k v5 p4 20 j = if j = l' + o + 2 * k + 1 then p4 else if j = l' + o + 2 * k then p2 else S 20 j := fun j => by
    rw [eV 20 (by decide), us_19.2, u32, eU 20 (by decide), us_19.2, t32, eT 20 (by decide) (by decide) (by decide) (by decide)]
  have w6 : ∀ j, opS U 7 14 34 u k v5 p4 6 j = if j = u then v3 else S 6 j := fun j => by
    rw [eV 6 (by decide), us_o (by decide), ← hU]; unfold opS
    rw [st_o (r' := 6) (by decide) (by decide), st_o (r' := 6) (by decide) (by decide), st_r, us_o (by decide), eT 6 (by decide) (by decide) (by decide) (by decide)]
  have w106 : ∀ j, opS U 7 14 34 u k v5 p4 106 j = if j = u then 1 else S 106 j := fun j => by
    rw [eV 106 (by decide), us_o (by decide), ← hU]; unfold opS
    rw [st_o (r' := 106) (by decide) (by decide), st_o (r' := 106) (by decide) (by decide), show (106 : Nat) = 6 + 100 from rfl, st_m, us_o (by decide), eT (6 + 100) (by decide) (by decide) (by decide) (by decide)]
  have w13 : ∀ j, opS U 7 14 34 u k v5 p4 13 j = if j = k then v3 else S 13 j := fun j => by
    rw [eV 13 (by decide), us_o (by decide), ← hU]; unfold opS
    rw [st_o (r' := 13) (by decide) (by decide), st_r, st_o (r' := 13) (by decide) (by decide), us_o (by decide), eT 13 (by decide) (by decide) (by decide) (by decide)]
  have w113 : ∀ j, opS U 7 14 34 u k v5 p4 113 j = if j = k then 1 else S 113 j := fun j => by
    rw [eV 113 (by decide), us_o (by decide), ← hU]; unfold opS
    rw [st_o (r' := 113) (by decide) (by decide), show (113 : Nat) = 13 + 100 from rfl, st_m, st_o (r' := 13 + 100) (by decide) (by decide), us_o (by decide), eT (13 + 100) (by decide) (by decide) (by decide) (by decide)]
  have w33 : ∀ j, opS U 7 14 34 u k v5 p4 33 j = if j = k then p2 else S 33 j := fun j => by
    rw [eV 33 (by decide), us_o (by decide), ← hU]; unfold opS
    rw [st_r, st_o (r' := 33) (by decide) (by decide), st_o (r' := 33) (by decide) (by decide), us_o (by decide), eT 33 (by decide) (by decide) (by decide) (by decide)]
  have w133 : ∀ j, opS U 7 14 34 u k v5 p4 133 j = if j = k then 1 else S 133 j := fun j => by
    rw [eV 133 (by decide), us_o (by decide), ← hU]; unfold opS
    rw [show (133 : Nat) = 33 + 100 from rfl, st_m, st_o (r' := 33 + 100) (by decide) (by decide), st_o (r' := 33 + 100) (by decide) (by decide), us_o (by decide), eT (33 + 100) (by decide) (by decide) (by decide) (by decide)]
  have eU7 : ∀ r', (r' = 7 ∨ r' = 14 ∨ r' = 34 ∨ r' = 107 ∨ r' = 114 ∨ r' = 134) → usS U v5 p4 r' = S r' := fun r' hr' => by
    rw [us_o (by omega), eU r' (by omega), us_o (by omega), eT r' (by omega) (by omega) (by omega) (by omega)]
  have w7 : ∀ j, opS U 7 14 34 u k v5 p4 7 j = if j = u then v5 else S 7 j := fun j => by
    unfold opS
    rw [st_o (r' := 7) (by decide) (by decide), st_o (r' := 7) (by decide) (by decide), st_r, eU7 7 (by decide)]
  have w107 : ∀ j, opS U 7 14 34 u k v5 p4 107 j = if j = u then 1 else S 107 j := fun j => by
    unfold opS
    rw [st_o (r' := 107) (by decide) (by decide), st_o (r' := 107) (by decide) (by decide), show (107 : Nat) = 7 + 100 from rfl, st_m, eU7 (7 + 100) (by decide)]
  have w14 : ∀ j, opS U 7 14 34 u k v5 p4 14 j = if j = k then v5 else S 14 j := fun j => by
    unfold opS
    rw [st_o (r' := 14) (by decide) (by decide), st_r, st_o (r' := 14) (by decide) (by decide), eU7 14 (by decide)]
  have w114 : ∀ j, opS U 7 14 34 u k v5 p4 114 j = if j = k then 1 else S 114 j := fun j => by
    unfold opS
    rw [st_o (r' := 114) (by decide) (by decide), show (114 : Nat) = 14 + 100 from rfl, st_m, st_o (r' := 14 + 100) (by decide) (by decide), eU7 (14 + 100) (by decide)]
  have w34 : ∀ j, opS U 7 14 34 u k v5 p4 34 j = if j = k then p4 else S 34 j := fun j => by
    unfold opS
    rw [st_r, st_o (r' := 34) (by decide) (by decide), st_o (r' := 34) (by decide) (by decide), eU7 34 (by decide)]
  have w134 : ∀ j, opS U 7 14 34 u k v5 p4 134 j = if j = k then 1 else S 134 j := fun j => by
    unfold opS
    rw [show (134 : Nat) = 34 + 100 from rfl, st_m, st_o (r' := 34 + 100) (by decide) (by decide), st_o (r' := 34 + 100) (by decide) (by decide), eU7 (34 + 100) (by decide)]
  have w12 : ∀ j, opS U 7 14 34 u k v5 p4 12 j = if j = k then u else S 12 j := fun j => by
    rw [all 12 (by decide) (by decide) (by decide)]; exact t12 j
  have hne : ∀ j, j < k → S 12 j ≠ u := fun j hj he => by have := (h.2.1.2.2.2.1 j hj).2; rw [he, d4] at this; omega
  rw [eT 0 (by decide) (by decide) (by decide) (by decide)] at l3
  rw [u0] at l5
  have hLU : LI U (l' + o + 2 * k + 1) := by
    have : LI T (l' + o + 2 * k) := by rw [← hT]; exact LI_st (by decide) (LI_st (by decide) h.2.2.2.1)
    rw [← hU]
    exact LI_st (by decide) (LI_st (by decide) (LI_st (by decide) (LI_usS t32 this (by rw [eT 0 (by decide) (by decide) (by decide) (by decide)]; exact l3))))
  refine ⟨⟨hB, ?_, ?_, ?_, fun j hj => ?_, fun j hj => ?_⟩, v0, v30⟩
  · have e : ∀ r', (r' = 0 ∨ r' = 1 ∨ r' = 2 ∨ r' = 8 ∨ r' = 12 ∨ r' = 101 ∨ r' = 102 ∨ r' = 112) → opS U 7 14 34 u k v5 p4 r' = T r' := fun r' hr' => all r' (by omega) (by omega) (by omega)
    unfold KI Kd
    rw [e 0 (by decide), e 1 (by decide), e 2 (by decide), e 8 (by decide), e 12 (by decide), e (1 + 100) (by decide), e (2 + 100) (by decide), e (12 + 100) (by decide)]
    exact hK1
  · refine NX_rows (fun r' hr' => ?_) (fun j hj => ?_) (fun j hj => ?_) h.2.2.1
    · rw [all r' (by omega) (by omega) (by omega), eT r' (by omega) (by omega) (by omega) (by omega)]
    · rw [w19, w20, if_neg (by omega), if_neg (by omega), if_neg (by omega), if_neg (by omega)]; exact ⟨rfl, rfl⟩
    · rw [w19, w20, if_neg (by omega), if_neg (by omega), if_neg (by omega), if_neg (by omega)]; exact ⟨rfl, rfl⟩
  · have := LI_usS (y := p4) u32 hLU (by rw [u0]; exact l5)
    rw [show l' + o + 2 * (k + 1) = l' + o + 2 * k + 1 + 1 by omega]
    exact LI_st (by decide) (LI_st (by decide) (LI_st (by decide) this))
  · rw [w12, w106, w107, w113, w114, w6, w7, w13, w14, v0]
    by_cases e0 : j = k
    · rw [if_pos e0, if_pos e0, if_pos e0, if_pos e0, if_pos e0, if_pos rfl, if_pos rfl, if_pos rfl, if_pos rfl]
      exact ⟨rfl, rfl, rfl, rfl, rfl, rfl, l3, l5⟩
    · rw [if_neg e0, if_neg e0, if_neg e0, if_neg e0, if_neg e0, if_neg (hne j (by omega)), if_neg (hne j (by omega)), if_neg (hne j (by omega)), if_neg (hne j (by omega))]
      exact h.2.2.2.2.1 j (by omega)
  · rw [v0, w133, w134, w13, w14, w33, w34, w19, w19, w20, w20]
    by_cases e0 : j = k
    · rw [if_pos e0, if_pos e0, if_pos e0, if_pos e0, if_pos e0, if_pos e0, if_neg (by omega), if_pos (by omega), if_pos (by omega), if_neg (by omega), if_pos (by omega), if_pos (by omega)]
      exact ⟨rfl, rfl, rfl, rfl, rfl, rfl⟩
    · rw [if_neg e0, if_neg e0, if_neg e0, if_neg e0, if_neg e0, if_neg e0, if_neg (by omega), if_neg (by omega), if_neg (by omega), if_neg (by omega), if_neg (by omega), if_neg (by omega), if_neg (by omega), if_neg (by omega)]
      exact h.2.2.2.2.2 j (by omega)
end
