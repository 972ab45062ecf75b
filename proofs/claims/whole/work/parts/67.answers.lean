/-! The answers as functions of the two circuits. -/
def FT (K : Nat → Nat → Nat → Nat) (t : Nat) : Prop := bn (Nx K) (Wn K) t * Wn K = t
theorem b_stop {N : Nat → Nat → Nat} {W t : Nat} (hW : 0 < W) (h : bn N W t * W = t) : ∀ u, t ≤ u → bf N W u = bf N W t := by
  intro u hu
  induction hu with
  | refl => rfl
  | @step u hu ih =>
    have hu' : t ≤ u := hu
    have hn : ¬ bnew N W u := by
      intro hb
      have h1 := hb.1
      have h2 : bn N W u = bn N W t := by unfold bn; rw [ih]
      rw [h2, Nat.div_lt_iff_lt_mul hW, h] at h1
      omega
    rw [b_no N W hn, ih]
theorem b_uniq {N : Nat → Nat → Nat} {W t u : Nat} (hW : 0 < W) (h : bn N W t * W = t) (h' : bn N W u * W = u) : t = u := by
  have key : ∀ t u, bn N W t * W = t → bn N W u * W = u → t ≤ u → t = u := by
    intro t u h h' hle
    have h2 : bn N W u = bn N W t := by unfold bn; rw [b_stop hW h u hle]
    rw [h2, h] at h'
    exact h'
  rcases Nat.le_total t u with hle | hle
  · exact key t u h h' hle
  · exact (key u t h' h hle).symm
/-- the first pair that tells, its first vector, its lowest output -/
def AN (K : Nat → Nat → Nat → Nat) (t : Nat) : Option (Nat × Nat × Nat) → Prop
  | none => ∀ j, j < bn (Nx K) (Wn K) t → ¬ tls K (bq (Nx K) (Wn K) t j)
  | some (f, x, b) => f < bn (Nx K) (Wn K) t ∧ (∀ j, j < f → ¬ tls K (bq (Nx K) (Wn K) t j)) ∧ (x < Wn K ∧ Tp K (bq (Nx K) (Wn K) t f) x = true ∧ (∀ x', x' < x → Tp K (bq (Nx K) (Wn K) t f) x' = false)) ∧ (b < K 0 0 3 ∧ Ul K (bq (Nx K) (Wn K) t f) x b = true ∧ (∀ k, k < b → Ul K (bq (Nx K) (Wn K) t f) x k = false))
theorem first_uniq {p : Nat → Bool} {a b : Nat} (ha : p a = true) (ha0 : ∀ k, k < a → p k = false) (hb : p b = true) (hb0 : ∀ k, k < b → p k = false) : a = b := by
  rcases Nat.lt_trichotomy a b with h | h | h
  · rw [hb0 a h] at ha; cases ha
  · exact h
  · rw [ha0 b h] at hb; cases hb
theorem AN_uniq {K : Nat → Nat → Nat → Nat} {t : Nat} : ∀ {o o' : Option (Nat × Nat × Nat)}, AN K t o → AN K t o' → o = o'
  | none, none, _, _ => rfl
  | none, some (f, x, b), h, h' => absurd ⟨x, h'.2.2.1.1, h'.2.2.1.2.1⟩ (h f h'.1)
  | some (f, x, b), none, h, h' => absurd ⟨x, h.2.2.1.1, h.2.2.1.2.1⟩ (h' f h.1)
  | some (f, x, b), some (f', x', b'), h, h' => by
    obtain ⟨h1, h2, ⟨h3, h4, h5⟩, ⟨h6, h7, h8⟩⟩ := h
    obtain ⟨g1, g2, ⟨g3, g4, g5⟩, ⟨g6, g7, g8⟩⟩ := h'
    have ef : f = f' := by
      rcases Nat.lt_trichotomy f f' with hh | hh | hh
      · exact absurd ⟨x, h3, h4⟩ (g2 f hh)
      · exact hh
      · exact absurd ⟨x', g3, g4⟩ (h2 f' hh)
    subst ef
    have ex : x = x' := first_uniq h4 h5 g4 g5
    subst ex
    have eb : b = b' := first_uniq h7 h8 g7 g8
    rw [eb]
noncomputable def tO (K : Nat → Nat → Nat → Nat) : Nat × Option (Nat × Nat × Nat) := Classical.epsilon (fun p => FT K p.1 ∧ AN K p.1 p.2)
theorem tO_eq {K : Nat → Nat → Nat → Nat} {t : Nat} {o : Option (Nat × Nat × Nat)} (hM : MK K) (ht : FT K t) (ho : AN K t o) : tO K = (t, o) := by
  have h : FT K (tO K).1 ∧ AN K (tO K).1 (tO K).2 := Classical.epsilon_spec (p := fun p : Nat × Option (Nat × Nat × Nat) => FT K p.1 ∧ AN K p.1 p.2) ⟨(t, o), ht, ho⟩
  have e1 : (tO K).1 = t := b_uniq (Wn_le hM).1 h.1 ht
  have h2 := h.2
  rw [e1] at h2
  have e2 := AN_uniq h2 ho
  exact Prod.ext e1 e2
noncomputable def pq (K : Nat → Nat → Nat → Nat) : Nat → Nat := bq (Nx K) (Wn K) (tO K).1
noncomputable def pz (K : Nat → Nat → Nat → Nat) : Nat := bn (Nx K) (Wn K) (tO K).1
noncomputable def pd (K : Nat → Nat → Nat → Nat) : Nat → Nat := bd (Nx K) (Wn K) (tO K).1
noncomputable def pa (K : Nat → Nat → Nat → Nat) : Nat → Nat := ba (Nx K) (Wn K) (tO K).1
noncomputable def len (K : Nat → Nat → Nat → Nat) : Nat := match (tO K).2 with
  | none => 0
  | some o => pd K (pq K o.1)
noncomputable def wit (K : Nat → Nat → Nat → Nat) (k : Nat) : Nat := match (tO K).2 with
  | none => 0
  | some o => if k + 1 = len K then o.2.1 else pa K (back (pa K) (pq K o.1) (len K - 2 - k)) % 32
noncomputable def blm (K : Nat → Nat → Nat → Nat) : Nat := match (tO K).2 with
  | none => 0
  | some o => o.2.2
/-- the pairs that come up -/
def PQ (K : Nat → Nat → Nat → Nat) : Prop := (1 ≤ pz K ∧ pz K ≤ 4096 ∧ pq K 0 = 0) ∧ (∀ i, i < pz K → isPr K (pq K i) ∧ pd K (pq K i) ≠ 0) ∧ (∀ p, pd K p ≤ 4096) ∧ len K ≤ 4096 ∧ blm K ≤ 8 ∧ ∀ k, wit K k < 32
theorem PQ_of {K : Nat → Nat → Nat → Nat} {t : Nat} {o : Option (Nat × Nat × Nat)} (hM : MK K) (ht : FT K t) (ho : AN K t o) : PQ K := by
  have e := tO_eq hM ht ho
  have hN := Nx_lt hM
  have hWn := Wn_le hM
  have inv := b_inv (Nx K) (Wn K) hN t
  have hn4 := bn_le (Nx K) (Wn K) hN t
  have hO8 := hM.1.1.2.2.2.1
  have hd4 : ∀ p, pd K p ≤ 4096 := fun p => by
    unfold pd; rw [e]
    show bd (Nx K) (Wn K) t p ≤ 4096
    by_cases hz : bd (Nx K) (Wn K) t p = 0
    · omega
    · obtain ⟨j, hj, hqj⟩ := inv.2.2.1 _ hz
      rw [← hqj]
      have := b_d4 hN (W := Wn K) (t := t) j hj
      omega
  refine ⟨⟨by unfold pz; rw [e]; exact inv.1.1, by unfold pz; rw [e]; exact hn4, by unfold pq; rw [e]; exact inv.1.2.1⟩, fun i hi => ?_, hd4, ?_, ?_, fun k => ?_⟩
  · unfold pz at hi
    unfold pq pd
    rw [e] at hi ⊢
    exact ⟨bq_pr hM t hi, (inv.2.1 i hi).1⟩
  · unfold len; split
    · omega
    · exact hd4 _
  · unfold blm
    rw [e]
    cases o with
    | none => exact Nat.zero_le _
    | some o =>
      obtain ⟨f, x, b⟩ := o
      have := ho.2.2.2.1
      show b ≤ 8
      omega
  · unfold wit
    split
    · decide
    · rename_i o' ho'
      rw [e] at ho'
      subst ho'
      split
      · obtain ⟨f, x, b⟩ := o'
        have := ho.2.2.1.1
        show x < 32
        omega
      · exact Nat.mod_lt _ (by decide)
/-- what the reference knows -/
def MF (F : Nat → Nat → Int32) (L : Nat → Nat → Int64) (K : Nat → Nat → Nat → Nat) : Prop :=
  PQ K ∧ MT F L K ∧ F 100 38 = Int32.ofNat (pz K) ∧ (∀ i, i < pz K → F 136 i = Int32.ofNat (md K (pq K i))) ∧ (∀ p, isPr K p → F 137 (md K p) = Int32.ofNat (pd K p)) ∧ F 100 41 = Int32.ofNat (len K) ∧ (len K ≠ 0 → F 100 46 = Int32.ofNat (blm K)) ∧ (∀ k, k < len K → k < 256 → F 145 k = Int32.ofNat (wit K k))
/-- what the class knows -/
def CF (F : Nat → Nat → Int32) (K : Nat → Nat → Nat → Nat) : Prop :=
  PQ K ∧ F 170 5 = Int32.ofNat (pz K) ∧ (∀ i, i < pz K → F 171 i = Int32.ofNat (pq K i)) ∧ (∀ p, p < 4096 → F 172 p = if pd K p = 0 then -1 else Int32.ofNat (pd K p - 1)) ∧ F 170 6 = Int32.ofNat (len K) ∧ F 170 7 = (if len K = 0 then -1 else Int32.ofNat (blm K)) ∧ (∀ k, k < len K → F 174 k = Int32.ofNat (wit K k))
theorem MF_of {F : Nat → Nat → Int32} {L : Nat → Nat → Int64} {K : Nat → Nat → Nat → Nat} (hM : MK K) (h : ML F L K) : MF F L K := by
  obtain ⟨hT, t, ht, hB, hor⟩ := h
  obtain ⟨o, ho, hfin⟩ : ∃ o, AN K t o ∧ match o with
      | none => F 100 41 = 0
      | some o => MWV F K (bd (Nx K) (Wn K) t) (ba (Nx K) (Wn K) t) (bq (Nx K) (Wn K) t o.1) o.2.1 o.2.2 := by
    rcases hor with ⟨h1, h2⟩ | ⟨f, x, b, h1, h2, h3, h4⟩
    · exact ⟨none, h2, h1⟩
    · exact ⟨some (f, x, b), ⟨h1, h2, h4.1, h4.2.1⟩, h4⟩
  have e := tO_eq hM ht ho
  have hP := PQ_of hM ht ho
  refine ⟨hP, hT, by unfold pz; rw [e]; exact hB.1, fun i hi => ?_, fun p hp => by unfold pd; rw [e]; exact hB.2.2 p hp, ?_⟩
  · unfold pz at hi; unfold pq; rw [e] at hi ⊢; exact hB.2.1 i hi
  cases o with
  | none =>
    have hl : len K = 0 := by unfold len; rw [e]
    rw [hl]
    exact ⟨hfin, fun h => absurd rfl h, fun k hk => by omega⟩
  | some o =>
    obtain ⟨f, x, b⟩ := o
    have hl : len K = bd (Nx K) (Wn K) t (bq (Nx K) (Wn K) t f) := by unfold len pd pq; rw [e]
    obtain ⟨_, _, w1, w2, w3, w4⟩ := hfin
    dsimp only at w1 w2 w3 w4
    rw [← hl] at w1 w3 w4
    refine ⟨w1, fun _ => by unfold blm; rw [e]; exact w2, fun k hk1 hk2 => ?_⟩
    unfold wit
    rw [e]
    dsimp only
    by_cases hk : k + 1 = len K
    · rw [if_pos hk, show k = len K - 1 by omega]; exact w3 (by omega)
    · rw [if_neg hk]
      have := w4 (len K - 2 - k) (by omega) (by omega)
      rw [show len K - 2 - (len K - 2 - k) = k by omega] at this
      rw [this]
      unfold pa pq
      rw [e]
theorem CF_of {F : Nat → Nat → Int32} {K : Nat → Nat → Nat → Nat} (hM : MK K) (h : WK F K) : CF F K := by
  obtain ⟨t, ht, hB, hor⟩ := h
  obtain ⟨o, ho, hfin⟩ : ∃ o, AN K t o ∧ match o with
      | none => F 170 6 = 0 ∧ F 170 7 = -1
      | some o => WV F K (bd (Nx K) (Wn K) t) (ba (Nx K) (Wn K) t) (bq (Nx K) (Wn K) t o.1) o.2.1 o.2.2 := by
    rcases hor with ⟨h1, h2, h3⟩ | ⟨f, x, b, h1, h2, h3, h4⟩
    · exact ⟨none, h3, h1, h2⟩
    · exact ⟨some (f, x, b), ⟨h1, h2, h4.1, h4.2.1⟩, h4⟩
  have e := tO_eq hM ht ho
  have hP := PQ_of hM ht ho
  have hd0 := fun f hf => ((b_inv (Nx K) (Wn K) (Nx_lt hM) t).2.1 f hf).1
  refine ⟨hP, by unfold pz; rw [e]; exact hB.1, fun i hi => ?_, fun p hp => by unfold pd; rw [e]; exact hB.2.2.1 p hp, ?_⟩
  · unfold pz at hi; unfold pq; rw [e] at hi ⊢; exact hB.2.1 i hi
  cases o with
  | none =>
    have hl : len K = 0 := by unfold len; rw [e]
    rw [hl, if_pos rfl]
    exact ⟨hfin.1, hfin.2, fun k hk => by omega⟩
  | some o =>
    obtain ⟨f, x, b⟩ := o
    have hl : len K = bd (Nx K) (Wn K) t (bq (Nx K) (Wn K) t f) := by unfold len pd pq; rw [e]
    obtain ⟨_, _, w1, w2, w3, w4⟩ := hfin
    dsimp only at w1 w2 w3 w4
    have hl0 : len K ≠ 0 := by rw [hl]; exact hd0 f ho.1
    rw [← hl] at w1 w3 w4
    rw [if_neg hl0]
    refine ⟨w1, by unfold blm; rw [e]; exact w2, fun k hk1 => ?_⟩
    unfold wit
    rw [e]
    dsimp only
    by_cases hk : k + 1 = len K
    · rw [if_pos hk, show k = len K - 1 by omega]; exact w3
    · rw [if_neg hk]
      have := w4 (len K - 2 - k) (by omega)
      rw [show len K - 2 - (len K - 2 - k) = k by omega] at this
      rw [this]
      unfold pa pq
      rw [e]
