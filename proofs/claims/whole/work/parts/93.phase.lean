/-! The phases of reading a file. -/
noncomputable def rfA (b : Nat → Nat) (f : Nat) (S : RW) (p : Nat) : RS := bi (heA b S p) (fun S p _ => bi (szA S p) (fun S p _ => bi (i0A b S p) (fun S p _ => bi (l0A b S p) (fun S p _ => bi (o0A b S p) (fun S p _ => bi (a0A b S p) (fun S p _ => bi (syA b f S p) (fun S p _ => bi (fuA S p (S 32 0) 0) (fun S p _ => srA S p))))))))
def PH3 (S : RW) (l' o : Nat) : Prop := NM S ∧ ((S 30 0 = 0 ∧ TX S (S 0 1) l' 0 l' o 0) ∨ (S 30 0 ≠ 0 ∧ BX S (S 0 1) (S 0 2) (S 0 4) l' o 0))
section
variable {b : Nat → Nat} {S S' : RW} {p q v nu k m i l c l' o a : Nat}
theorem NM_st {r j x : Nat} (hr : r < 40) (h : NM S) : NM (st S r j x) := NM_rows (fun r' hr' => st_o (by unfold nmr at hr'; omega) (by unfold nmr at hr'; omega)) h
theorem deA_N {kind : Nat} (h : NM S) (hr : deA b kind S p = .ok (S', q, v)) : NM S' := by
  obtain ⟨rfl, _⟩ := deA_ok hr
  exact NM_st (by decide) h
theorem usA_N (h : NM S) (hr : usA b S p = .ok (S', q, v)) : NM S' := by
  obtain ⟨rfl, _⟩ := usA_ok hr
  exact NM_st (by decide) (NM_st (by decide) (NM_st (by decide) h))
theorem inA_N (h : NM S) (hr : inA b k S p = .ok (S', q, v)) : NM S' := by
  obtain ⟨S1, p1, v1, h1, h2⟩ := bi_split hr
  obtain ⟨rfl, _⟩ := psA_ok h2
  exact NM_st (by decide) (deA_N h h1)
theorem lvA_N (h : NM S) (hr : lvA b k S p = .ok (S', q, v)) : NM S' := by
  obtain ⟨S1, p1, v1, h1, h2⟩ := bi_split hr
  obtain ⟨rfl, _⟩ := psA_ok h2
  exact NM_st (by decide) (deA_N h h1)
theorem nxA_N (h : NM S) (hr : nxA b k S p = .ok (S', q, v)) : NM S' := by
  obtain ⟨S1, p1, v1, h1, h2⟩ := bi_split hr
  obtain ⟨rfl, _⟩ := psA_ok h2
  exact NM_st (by decide) (NM_st (by decide) (usA_N h h1))
theorem ouA_N (h : NM S) (hr : ouA b k S p = .ok (S', q, v)) : NM S' := by
  obtain ⟨S1, p1, v1, h1, h2⟩ := bi_split hr
  obtain ⟨rfl, _⟩ := psA_ok h2
  exact NM_st (by decide) (NM_st (by decide) (usA_N h h1))
theorem opA_N {r r' r'' u : Nat} (h : NM S) (h3 : r < 40 ∧ r' < 40 ∧ r'' < 40) (hr : opA b r r' r'' u k S p = .ok (S', q, v)) : NM S' := by
  obtain ⟨S1, p1, v1, h1, h2⟩ := bi_split hr
  obtain ⟨rfl, _⟩ := ok_inj h2
  exact NM_st h3.2.2 (NM_st h3.2.1 (NM_st h3.1 (usA_N h h1)))
theorem anA_N (h : NM S) (hr : anA b k S p = .ok (S', q, v)) : NM S' := by
  obtain ⟨S1, p1, v1, h1, h2⟩ := bi_split hr
  obtain ⟨S2, p2, v2, h3, h4⟩ := bi_split h2
  obtain ⟨S3, p3, v3, h5, h6⟩ := bi_split h4
  obtain ⟨S4, p4, v4, h7, h8⟩ := bi_split h6
  obtain ⟨S5, p5, v5, h9, h10⟩ := bi_split h8
  obtain ⟨rfl, _⟩ := psA_ok h3
  obtain ⟨rfl, _⟩ := psA_ok h7
  obtain ⟨rfl, _⟩ := psA_ok h10
  exact opA_N (opA_N (NM_st (by decide) (deA_N h h1)) (by decide) h5) (by decide) h9
theorem dnA_N (h : NM S) (hr : dnA b k S p = .ok (S', q, v)) : NM S' := by
  obtain ⟨S1, p1, v1, h1, h2⟩ := bi_split hr
  obtain ⟨rfl, _⟩ := dlA_ok h1
  obtain ⟨rfl, _⟩ := dlA_ok h2
  exact NM_st (by decide) (NM_st (by decide) (NM_st (by decide) (NM_st (by decide) h)))
theorem TX0 (hB : BI S 0) (h8 : ∀ v, S 8 v = 0) : TX S 0 0 0 0 0 0 := ⟨hB, ⟨⟨h8 0, fun v hv => absurd (h8 v) hv⟩, ⟨fun k hk => by omega, fun v hv => by rw [h8 v] at hv; omega, fun k k' hk => by omega⟩, ⟨fun k hk => by omega, fun v hv => by rw [h8 v] at hv; omega, fun k k' hk => by omega⟩, ⟨fun k hk => by omega, fun v hv => by rw [h8 v] at hv; omega, fun k k' hk => by omega⟩⟩, ⟨fun k hk => by omega, fun k hk => by omega⟩, fun k hk => by omega, fun k hk => by omega, fun k hk => by omega⟩
theorem i0A_T (hB : BI S 0) (h8 : ∀ v, S 8 v = 0) (hN : NM S) (h : i0A b S p = .ok (S', q, v)) : PH3 S' 0 0 := by
  unfold i0A at h
  by_cases h30 : S 30 0 = 0
  · rw [if_pos h30] at h
    have := lp_inv (fun k T => (TX T k 0 0 0 0 0 ∧ NM T) ∧ T 0 = S 0 ∧ T 30 = S 30) (fun k T p T' q v hP hr => by
      have h1 := inA_T hP.1.1 hr
      exact ⟨⟨h1.1, inA_N hP.1.2 hr⟩, by rw [h1.2.1, hP.2.1], by rw [h1.2.2, hP.2.2]⟩) (S 0 1) 0 S p ⟨⟨TX0 hB h8, hN⟩, rfl, rfl⟩ h
    rw [Nat.zero_add] at this
    refine ⟨this.1.2, Or.inl ⟨by rw [this.2.2]; exact h30, ?_⟩⟩
    rw [this.2.1]; exact this.1.1
  · rw [if_neg h30] at h
    obtain ⟨rfl, _⟩ := ok_inj h
    have hM : S 0 0 = S 0 1 + S 0 2 + S 0 4 := by have := hB.1.1.2.2.2.2.2; omega
    obtain ⟨h1, h2, h3⟩ := bdA_T hB h8 hM
    have e0 := h3 0 (by unfold bor; omega)
    have e30 := h3 30 (by unfold bor; omega)
    refine ⟨NM_rows (fun r hr => h3 r (by unfold nmr at hr; unfold bor; omega)) hN, Or.inr ⟨by rw [e30]; exact h30, h2, ?_, ⟨fun k hk => by omega, fun k hk => by omega⟩, fun k hk => by omega, fun k hk => by omega, ?_⟩⟩
    · rw [e0]; exact h1.1
    · rw [e0]; exact h1.2.2
theorem l0A_T (hP : PH3 S 0 0) (h : l0A b S p = .ok (S', q, v)) : PH3 S' (S' 0 2) 0 ∧ S' 0 = S 0 := by
  unfold l0A at h
  obtain ⟨hN, hP | hP⟩ := hP
  · have := lp_inv (fun k T => (TX T (S 0 1) k 0 k 0 0 ∧ NM T) ∧ T 0 = S 0 ∧ T 30 = S 30) (fun k T p T' q v hP2 hr => by
      rw [show T 30 0 = S 30 0 by rw [hP2.2.2], if_pos hP.1] at hr
      obtain ⟨S1, p1, v1, h1, h2⟩ := bi_split hr
      have a1 := lvA_T hP2.1.1 h1
      have a2 := nxA_T a1.1 h2
      exact ⟨⟨a2.1, nxA_N (lvA_N hP2.1.2 h1) h2⟩, by rw [a2.2.1, a1.2.1, hP2.2.1], by rw [a2.2.2, a1.2.2, hP2.2.2]⟩) (S 0 2) 0 S p ⟨⟨hP.2, hN⟩, rfl, rfl⟩ h
    rw [Nat.zero_add] at this
    refine ⟨⟨this.1.2, Or.inl ⟨by rw [this.2.2]; exact hP.1, ?_⟩⟩, this.2.1⟩
    rw [this.2.1]; exact this.1.1
  · have := lp_inv (fun k T => ((TX T (S 0 1) (S 0 2) (S 0 4) k 0 0 ∧ NM T) ∧ ∀ v, 1 ≤ v → v ≤ S 0 0 → T 8 v ≠ 0) ∧ T 0 = S 0 ∧ T 30 = S 30) (fun k T p T' q v hP2 hr => by
      rw [show T 30 0 = S 30 0 by rw [hP2.2.2], if_neg hP.1] at hr
      have a2 := nxA_T hP2.1.1.1 hr
      have e8 : T' 8 = T 8 := by
        obtain ⟨S1, p1, v1, h1, h2⟩ := bi_split hr
        obtain ⟨rfl, _⟩ := psA_ok h2
        obtain ⟨rfl, _⟩ := usA_ok h1
        rw [st_o (by decide) (by decide), st_o (by decide) (by decide), st_o (by decide) (by decide), st_o (by decide) (by decide), st_o (by decide) (by decide)]
      exact ⟨⟨⟨a2.1, nxA_N hP2.1.1.2 hr⟩, by rw [e8]; exact hP2.1.2⟩, by rw [a2.2.1, hP2.2.1], by rw [a2.2.2, hP2.2.2]⟩) (S 0 2) 0 S p ⟨⟨⟨⟨hP.2.1, hP.2.2.1, hP.2.2.2.1, hP.2.2.2.2.1, hP.2.2.2.2.2.1, fun k hk => by omega⟩, hN⟩, hP.2.2.2.2.2.2⟩, rfl, rfl⟩ h
    rw [Nat.zero_add] at this
    obtain ⟨⟨⟨t, tn⟩, t8⟩, e0, e30⟩ := this
    refine ⟨⟨tn, Or.inr ⟨by rw [e30]; exact hP.1, ?_⟩⟩, e0⟩
    rw [e0]
    exact ⟨t.1, t.2.1, t.2.2.1, t.2.2.2.1, t.2.2.2.2.1, by rw [e0]; exact t8⟩
theorem o0A_T (hP : PH3 S (S 0 2) 0) (h : o0A b S p = .ok (S', q, v)) : PH3 S' (S' 0 2) (S' 0 3) ∧ S' 0 = S 0 := by
  unfold o0A at h
  obtain ⟨hN, hP | hP⟩ := hP
  · have := lp_inv (fun k T => (TX T (S 0 1) (S 0 2) 0 (S 0 2) k 0 ∧ NM T) ∧ T 0 = S 0 ∧ T 30 = S 30) (fun k T p T' q v hP2 hr => by
      have a2 := ouA_T hP2.1.1 (by rw [hP2.2.1]) hr
      exact ⟨⟨a2.1, ouA_N hP2.1.2 hr⟩, by rw [a2.2.1, hP2.2.1], by rw [a2.2.2, hP2.2.2]⟩) (S 0 3) 0 S p ⟨⟨hP.2, hN⟩, rfl, rfl⟩ h
    rw [Nat.zero_add] at this
    refine ⟨⟨this.1.2, Or.inl ⟨by rw [this.2.2]; exact hP.1, ?_⟩⟩, this.2.1⟩
    rw [this.2.1]; exact this.1.1
  · have := lp_inv (fun k T => ((TX T (S 0 1) (S 0 2) (S 0 4) (S 0 2) k 0 ∧ NM T) ∧ ∀ v, 1 ≤ v → v ≤ S 0 0 → T 8 v ≠ 0) ∧ T 0 = S 0 ∧ T 30 = S 30) (fun k T p T' q v hP2 hr => by
      have a2 := ouA_T hP2.1.1.1 (by rw [hP2.2.1]) hr
      have e8 : T' 8 = T 8 := by
        obtain ⟨S1, p1, v1, h1, h2⟩ := bi_split hr
        obtain ⟨rfl, _⟩ := psA_ok h2
        obtain ⟨rfl, _⟩ := usA_ok h1
        rw [st_o (by decide) (by decide), st_o (by decide) (by decide), st_o (by decide) (by decide), st_o (by decide) (by decide), st_o (by decide) (by decide)]
      exact ⟨⟨⟨a2.1, ouA_N hP2.1.1.2 hr⟩, by rw [e8]; exact hP2.1.2⟩, by rw [a2.2.1, hP2.2.1], by rw [a2.2.2, hP2.2.2]⟩) (S 0 3) 0 S p ⟨⟨⟨⟨hP.2.1, hP.2.2.1, hP.2.2.2.1, hP.2.2.2.2.1, hP.2.2.2.2.2.1, fun k hk => by omega⟩, hN⟩, hP.2.2.2.2.2.2⟩, rfl, rfl⟩ h
    rw [Nat.zero_add] at this
    obtain ⟨⟨⟨t, tn⟩, t8⟩, e0, e30⟩ := this
    refine ⟨⟨tn, Or.inr ⟨by rw [e30]; exact hP.1, ?_⟩⟩, e0⟩
    rw [e0]
    exact ⟨t.1, t.2.1, t.2.2.1, t.2.2.2.1, t.2.2.2.2.1, by rw [e0]; exact t8⟩
theorem a0A_T (hP : PH3 S (S 0 2) (S 0 3)) (h : a0A b S p = .ok (S', q, v)) : FG S' ∧ NM S' := by
  unfold a0A at h
  obtain ⟨hN, hP | hP⟩ := hP
  · rw [if_pos hP.1] at h
    have := lp_inv (fun k T => (TX T (S 0 1) (S 0 2) k (S 0 2) (S 0 3) k ∧ NM T) ∧ T 0 = S 0 ∧ T 30 = S 30) (fun k T p T' q v hP2 hr => by
      have a2 := anA_T hP2.1.1 (by rw [hP2.2.1]) (by rw [hP2.2.1]) hr
      exact ⟨⟨a2.1, anA_N hP2.1.2 hr⟩, by rw [a2.2.1, hP2.2.1], by rw [a2.2.2, hP2.2.2]⟩) (S 0 4) 0 S p ⟨⟨hP.2, hN⟩, rfl, rfl⟩ h
    rw [Nat.zero_add] at this
    obtain ⟨⟨t, tn⟩, e0, e30⟩ := this
    have e32 : S' 32 0 = S 0 2 + S 0 3 + 2 * S 0 4 := t.1.2.2.2.1
    refine ⟨?_, tn⟩
    unfold FG
    rw [e32, e0, e30]
    exact ⟨t.1, t.2.1, t.2.2.1, t.2.2.2.1, t.2.2.2.2.1, Or.inl ⟨hP.1, t.2.2.2.2.2, rfl⟩⟩
  · rw [if_neg hP.1] at h
    have key : ∀ m k T p, k + m = S 0 4 → ((BX T (S 0 1) (S 0 2) (S 0 4) (S 0 2) (S 0 3) k ∧ NM T) ∧ T 0 = S 0 ∧ T 30 = S 30) → lp (dnA b) k m T p = .ok (S', q, v) → ((BX S' (S 0 1) (S 0 2) (S 0 4) (S 0 2) (S 0 3) (S 0 4) ∧ NM S') ∧ S' 0 = S 0 ∧ S' 30 = S 30) := by
      intro m
      induction m with
      | zero =>
        intro k T p hk hT hr
        unfold lp at hr
        obtain ⟨rfl, _⟩ := ok_inj hr
        rw [show k = S 0 4 by omega] at hT
        exact hT
      | succ m ih =>
        intro k T p hk hT hr
        unfold lp at hr
        obtain ⟨S1, p1, v1, h1, h2⟩ := bi_split hr
        have a2 := dnA_T hT.1.1 (by omega) h1
        exact ih (k + 1) S1 p1 (by omega) ⟨⟨a2.1, dnA_N hT.1.2 h1⟩, by rw [a2.2.1, hT.2.1], by rw [a2.2.2, hT.2.2]⟩ h2
    obtain ⟨⟨t, tn⟩, e0, e30⟩ := key (S 0 4) 0 S p (by omega) ⟨⟨hP.2, hN⟩, rfl, rfl⟩ h
    have e32 : S' 32 0 = S 0 2 + S 0 3 := t.1.2.2.2.1
    refine ⟨?_, tn⟩
    unfold FG
    rw [e32, e0, e30]
    have t6 := t.2.2.2.2.2
    rw [e0] at t6
    exact ⟨t.1, t.2.1, t.2.2.1, t.2.2.2.1, t.2.2.2.2.1, Or.inr ⟨hP.1, rfl, t6⟩⟩
theorem orS_o {r : Nat} (h : r ≠ 5 ∧ r ≠ 11 ∧ r ≠ 105 ∧ r ≠ 111) : orS S r = S r := by
  funext i
  unfold orS
  rw [if_neg h.1, if_neg h.2.1, if_neg (by omega)]
/-- the whole of what a file without a fault gives -/
theorem rfA_ok {f : Nat} (hb : ∀ i, b i ≤ 256) (hH : H0 S) (hN : NM S) (h : rfA b f S p = .ok (S', q, v)) : ∃ T, S' = orS T ∧ FG T ∧ NM T ∧ DF T ∧ (sg2 T (T 0 4)).2 = T 0 4 := by
  obtain ⟨S1, p1, v1, h1, g1⟩ := bi_split h
  obtain ⟨S2, p2, v2, h2, g2⟩ := bi_split g1
  obtain ⟨S3, p3, v3, h3, g3⟩ := bi_split g2
  obtain ⟨S4, p4, v4, h4, g4⟩ := bi_split g3
  obtain ⟨S5, p5, v5, h5, g5⟩ := bi_split g4
  obtain ⟨S6, p6, v6, h6, g6⟩ := bi_split g5
  obtain ⟨S7, p7, v7, h7, g7⟩ := bi_split g6
  obtain ⟨S8, p8, v8, h8, g8⟩ := bi_split g7
  have a1 := heA_H hH h1
  have n1 : NM S1 := by
    intro kd k i q1 q2 q3
    rw [(a1.1.2.2.2 kd k q1 q2).2] at q3
    omega
  obtain ⟨b2, rfl, _⟩ := szA_B a1 h2
  have n2 : NM (szS S1) := by
    intro kd k i q1 q2 q3
    have : szS S1 (40 + kd) = S1 (40 + kd) := by unfold szS; rw [st_o (by omega) (by omega), st_o (by omega) (by omega), st_o (by omega) (by omega), st_o (by omega) (by omega), st_o (by omega) (by omega)]
    rw [this, (a1.1.2.2.2 kd k q1 q2).2] at q3
    omega
  have a3 := i0A_T b2 (fun v => by rw [szS_0.2.2.1]; exact a1.1.2.1 v) n2 h3
  have a4 := (l0A_T a3 h4).1
  have a5 := (o0A_T a4 h5).1
  have a6 := a0A_T a5 h6
  have a7 := syA_T hb f S6 p6 a6.1 a6.2 h7
  obtain ⟨rfl, _, hd⟩ := fuA_ok _ _ h8
  unfold srA at g8
  by_cases hs : (sg2 S8 (S8 0 4)).2 = S8 0 4
  · rw [if_pos hs] at g8
    obtain ⟨rfl, _⟩ := ok_inj g8
    exact ⟨S8, rfl, a7.1, a7.2.1, DF_of a7.1 (fun j hj => hd j (Nat.zero_le _) (by omega)), hs⟩
  · rw [if_neg hs] at g8; cases g8
end
