/-! The law's objects are made: blocks of new cells. -/
theorem b_pL {lv : Nat → Bool} {obj : Nat → xo} {nm : Nat → Nat} {g : xh} {P : xh → Prop} {k ci j q : Nat} {v : Value} {fs fs' : List Value} (hI : gI lv nm) (hl : lv k = true) (hq : nm k = q) (ho : obj k = .inr (ci, fs)) (hs : fs.set j v = fs') (hj : j < fs.length) (h : P (gm lv (stO obj k (.inr (ci, fs'))) nm g)) : ∃ h', pV (gm lv obj nm g) q ci j v = some h' ∧ P h' := by
  subst hs
  exact b_pV hI hl hq ho hj h
def lvB (lv s : Nat → Bool) : Nat → Bool := fun k => bif s k then true else lv k
def nmB (nm : Nat → Nat) (s : Nat → Bool) (q : Nat → Nat) : Nat → Nat := fun k => bif s k then q k else nm k
def obB (obj : Nat → xo) (s : Nat → Bool) (arr : Nat → xo) (b : Nat) (o : xo) : Nat → xo := fun k => bif s k then arr k else bif Nat.beq k b then o else obj k
theorem beq_no {a b : Nat} (h : a ≠ b) : Nat.beq a b = false := by
  cases hb : Nat.beq a b
  · rfl
  · exact absurd (Nat.eq_of_beq_eq_true hb) h
/-- a chain of new cells, and what was written into the object that they belong to, as a block -/
theorem gm_blk {lv lv1 s : Nat → Bool} {obj obj1 arr : Nat → xo} {nm nm1 : Nat → Nat} {b : Nat} {o : xo} {g : xh} {P : xh → Prop} (hI : gI lv1 nm1) (hl : ∀ k, lv1 k = lvB lv s k) (hn : ∀ k, s k = false → nm1 k = nm k) (ho1 : ∀ k, s k = true → obj1 k = arr k) (ho2 : obj1 b = o) (ho3 : ∀ k, s k = false → k ≠ b → obj1 k = obj k) (hb : s b = false)
    (h : gI (lvB lv s) (nmB nm s nm1) → P (gm (lvB lv s) (obB obj s arr b o) (nmB nm s nm1) g)) : P (gm lv1 obj1 nm1 g) := by
  have hnn : ∀ k, nmB nm s nm1 k = nm1 k := fun k => by
    unfold nmB
    cases hs : s k
    · exact (hn k hs).symm
    · rfl
  have hI2 : gI (lvB lv s) (nmB nm s nm1) := fun i j a1 a2 a3 => hI i j (by rw [hl]; exact a1) (by rw [hl]; exact a2) (by rw [← hnn, ← hnn]; exact a3)
  rw [gm_eq (fun k => k) hI hI2 (fun _ => rfl) (fun k => (hl k).symm) (fun k _ => hnn k) (fun k _ => ?_)]
  · exact h hI2
  · unfold obB
    cases hs : s k
    · by_cases e0 : k = b
      · subst e0
        rw [show Nat.beq k k = true from Nat.beq_refl k]
        exact ho2.symm
      · rw [beq_no e0]
        exact (ho3 k hs e0).symm
    · exact (ho1 k hs).symm
def s_tp (k : Nat) : Bool := Nat.beq k 62 || Nat.beq k 63
def a_tp (k : Nat) : xo := bif Nat.blt k 63 then (.inl (1, 20, .inl (fun _ => 0))) else (.inl (1, 6000, .inl (fun _ => 0)))
def o_tp (q : Nat → Nat) : xo := .inr (8, [.ref (q 62), .ref (q 63), .int 0])
theorem s_tp_no {k : Nat} (h : s_tp k = false) : k ≠ 62 ∧ k ≠ 63 := by
  refine ⟨?_, ?_⟩ <;> (rintro rfl; cases h)
theorem s_tp_yes {k : Nat} (h : s_tp k = true) : k = 62 ∨ k = 63 := by
  have h2 : ∀ j : Fin 200, s_tp j.1 = true → j.1 = 62 ∨ j.1 = 63 := by decide +kernel
  by_cases h3 : k < 200
  · exact h2 ⟨k, h3⟩ h
  · exfalso
    have : s_tp k = false := by unfold s_tp; rw [beq_no (show k ≠ 62 by omega), beq_no (show k ≠ 63 by omega)]; rfl
    rw [this] at h; cases h
set_option maxRecDepth 100000 in
set_option maxHeartbeats 4000000 in
theorem i_tp {lv : Nat → Bool} {obj : Nat → xo} {nm : Nat → Nat} {g : xh} {z : Nat → Nat} {mc ms : Nat} {Q : xh → Prop} (hI : gI lv nm) (hl : lv 61 = true) (ho : obj 61 = .inr (8, xdef 8)) (hf : ∀ k, s_tp k = true → lv k = false) (hmc : 2 ≤ mc) (hms : 6020 ≤ ms) (h : ∀ q, gI (lvB lv s_tp) (nmB nm s_tp q) → Q (gm (lvB lv s_tp) (obB obj s_tp a_tp 61 (o_tp q)) (nmB nm s_tp q) g)) : wp_Tape_init z mc ms Q (nm 61) (gm lv obj nm g) := by
  unfold wp_Tape_init
  refine ⟨by omega, by omega, ?_⟩
  refine b_new (k := 62) hI (by exact hf 62 rfl) (fun q62 hI => ?_)
  refine b_pL (k := 61) (fs' := [.ref q62, .null, .int 0]) hI (by exact hl) (by rfl) ho (by rfl) (Nat.le_of_ble_eq_true rfl) ?_
  refine ⟨by omega, by omega, ?_⟩
  refine b_new (k := 63) hI (by exact hf 63 rfl) (fun q63 hI => ?_)
  refine b_pL (k := 61) (fs' := [.ref q62, .ref q63, .int 0]) hI (by exact hl) (by rfl) (by rfl) (by rfl) (Nat.le_of_ble_eq_true rfl) ?_
  refine gm_blk (lv := lv) (s := s_tp) (obj := obj) (arr := a_tp) (nm := nm) (b := 61) hI ?_ ?_ ?_ rfl ?_ rfl ?_
  · intro k
    unfold lvB
    cases hs : s_tp k
    · have hk := s_tp_no hs
      have hst : ∀ (o : Nat → Bool) (j : Nat), k ≠ j → stL o j k = o k := fun o j hh => if_neg hh
      repeat (refine Eq.trans (hst _ _ (by omega)) ?_)
      rfl
    · rcases s_tp_yes hs with rfl | rfl <;> rfl
  · intro k hs
    have hk := s_tp_no hs
    have hst : ∀ (o : Nat → Nat) (j x : Nat), k ≠ j → upN o j x k = o k := fun o j x hh => if_neg hh
    repeat (refine Eq.trans (hst _ _ _ (by omega)) ?_)
    rfl
  · intro k hs
    rcases s_tp_yes hs with rfl | rfl <;> rfl
  · intro k hs hkb
    have hk := s_tp_no hs
    have hst : ∀ (o : Nat → xo) (j : Nat) (x : xo), k ≠ j → stO o j x k = o k := fun o j x hh => if_neg hh
    repeat (refine Eq.trans (hst _ _ _ (by omega)) ?_)
    rfl
  · exact h _
def s_so (k : Nat) : Bool := Nat.beq k 69 || Nat.beq k 70 || Nat.beq k 71 || Nat.beq k 72
def a_so (k : Nat) : xo := bif Nat.blt k 71 then (bif Nat.blt k 70 then (.inl (0, 150, .inl (fun _ => 0))) else (.inl (2, 201, .inl (fun _ => 0)))) else (bif Nat.blt k 72 then (.inl (2, 201, .inl (fun _ => 0))) else (.inl (0, 201, .inl (fun _ => 0))))
def o_so (q : Nat → Nat) : xo := .inr (6, [.ref (q 69), .ref (q 70), .ref (q 71), .ref (q 72), .int 0])
theorem s_so_no {k : Nat} (h : s_so k = false) : k ≠ 69 ∧ k ≠ 70 ∧ k ≠ 71 ∧ k ≠ 72 := by
  refine ⟨?_, ?_, ?_, ?_⟩ <;> (rintro rfl; cases h)
theorem s_so_yes {k : Nat} (h : s_so k = true) : k = 69 ∨ k = 70 ∨ k = 71 ∨ k = 72 := by
  have h2 : ∀ j : Fin 200, s_so j.1 = true → j.1 = 69 ∨ j.1 = 70 ∨ j.1 = 71 ∨ j.1 = 72 := by decide +kernel
  by_cases h3 : k < 200
  · exact h2 ⟨k, h3⟩ h
  · exfalso
    have : s_so k = false := by unfold s_so; rw [beq_no (show k ≠ 69 by omega), beq_no (show k ≠ 70 by omega), beq_no (show k ≠ 71 by omega), beq_no (show k ≠ 72 by omega)]; rfl
    rw [this] at h; cases h
set_option maxRecDepth 100000 in
set_option maxHeartbeats 4000000 in
theorem i_so {lv : Nat → Bool} {obj : Nat → xo} {nm : Nat → Nat} {g : xh} {z : Nat → Nat} {mc ms : Nat} {Q : xh → Prop} (hI : gI lv nm) (hl : lv 68 = true) (ho : obj 68 = .inr (6, xdef 6)) (hf : ∀ k, s_so k = true → lv k = false) (hmc : 4 ≤ mc) (hms : 753 ≤ ms) (h : ∀ q, gI (lvB lv s_so) (nmB nm s_so q) → Q (gm (lvB lv s_so) (obB obj s_so a_so 68 (o_so q)) (nmB nm s_so q) g)) : wp_Sorter_init z mc ms Q (nm 68) (gm lv obj nm g) := by
  unfold wp_Sorter_init
  refine ⟨by omega, by omega, ?_⟩
  refine b_new (k := 69) hI (by exact hf 69 rfl) (fun q69 hI => ?_)
  refine b_pL (k := 68) (fs' := [.ref q69, .null, .null, .null, .int 0]) hI (by exact hl) (by rfl) ho (by rfl) (Nat.le_of_ble_eq_true rfl) ?_
  refine ⟨by omega, by omega, ?_⟩
  refine b_new (k := 70) hI (by exact hf 70 rfl) (fun q70 hI => ?_)
  refine b_pL (k := 68) (fs' := [.ref q69, .ref q70, .null, .null, .int 0]) hI (by exact hl) (by rfl) (by rfl) (by rfl) (Nat.le_of_ble_eq_true rfl) ?_
  refine ⟨by omega, by omega, ?_⟩
  refine b_new (k := 71) hI (by exact hf 71 rfl) (fun q71 hI => ?_)
  refine b_pL (k := 68) (fs' := [.ref q69, .ref q70, .ref q71, .null, .int 0]) hI (by exact hl) (by rfl) (by rfl) (by rfl) (Nat.le_of_ble_eq_true rfl) ?_
  refine ⟨by omega, by omega, ?_⟩
  refine b_new (k := 72) hI (by exact hf 72 rfl) (fun q72 hI => ?_)
  refine b_pL (k := 68) (fs' := [.ref q69, .ref q70, .ref q71, .ref q72, .int 0]) hI (by exact hl) (by rfl) (by rfl) (by rfl) (Nat.le_of_ble_eq_true rfl) ?_
  refine gm_blk (lv := lv) (s := s_so) (obj := obj) (arr := a_so) (nm := nm) (b := 68) hI ?_ ?_ ?_ rfl ?_ rfl ?_
  · intro k
    unfold lvB
    cases hs : s_so k
    · have hk := s_so_no hs
      have hst : ∀ (o : Nat → Bool) (j : Nat), k ≠ j → stL o j k = o k := fun o j hh => if_neg hh
      repeat (refine Eq.trans (hst _ _ (by omega)) ?_)
      rfl
    · rcases s_so_yes hs with rfl | rfl | rfl | rfl <;> rfl
  · intro k hs
    have hk := s_so_no hs
    have hst : ∀ (o : Nat → Nat) (j x : Nat), k ≠ j → upN o j x k = o k := fun o j x hh => if_neg hh
    repeat (refine Eq.trans (hst _ _ _ (by omega)) ?_)
    rfl
  · intro k hs
    rcases s_so_yes hs with rfl | rfl | rfl | rfl <;> rfl
  · intro k hs hkb
    have hk := s_so_no hs
    have hst : ∀ (o : Nat → xo) (j : Nat) (x : xo), k ≠ j → stO o j x k = o k := fun o j x hh => if_neg hh
    repeat (refine Eq.trans (hst _ _ _ (by omega)) ?_)
    rfl
  · exact h _
def s_c40 (k : Nat) : Bool := Nat.beq k 41 || Nat.beq k 42 || Nat.beq k 43 || Nat.beq k 44 || Nat.beq k 45 || Nat.beq k 46 || Nat.beq k 47 || Nat.beq k 48 || Nat.beq k 49 || Nat.beq k 50
def a_c40 (k : Nat) : xo := bif Nat.blt k 46 then (bif Nat.blt k 43 then (bif Nat.blt k 42 then (.inl (1, 201, .inl (fun _ => 0))) else (.inl (0, 201, .inl (fun _ => 0)))) else (bif Nat.blt k 44 then (.inl (0, 201, .inl (fun _ => 0))) else (bif Nat.blt k 45 then (.inl (0, 5, .inl (fun _ => 0))) else (.inl (0, 6, .inl (fun _ => 0)))))) else (bif Nat.blt k 48 then (bif Nat.blt k 47 then (.inl (0, 6, .inl (fun _ => 0))) else (.inl (0, 8, .inl (fun _ => 0)))) else (bif Nat.blt k 49 then (.inl (0, 150, .inl (fun _ => 0))) else (bif Nat.blt k 50 then (.inl (1, 760, .inl (fun _ => 0))) else (.inl (0, 19, .inl (fun _ => 0))))))
def o_c40 (q : Nat → Nat) : xo := .inr (0, [.int 0, .int 0, .int 0, .int 0, .int 0, .int 0, .ref (q 41), .ref (q 42), .ref (q 43), .ref (q 44), .ref (q 45), .ref (q 46), .ref (q 47), .ref (q 48), .ref (q 49), .ref (q 50)])
theorem s_c40_no {k : Nat} (h : s_c40 k = false) : k ≠ 41 ∧ k ≠ 42 ∧ k ≠ 43 ∧ k ≠ 44 ∧ k ≠ 45 ∧ k ≠ 46 ∧ k ≠ 47 ∧ k ≠ 48 ∧ k ≠ 49 ∧ k ≠ 50 := by
  refine ⟨?_, ?_, ?_, ?_, ?_, ?_, ?_, ?_, ?_, ?_⟩ <;> (rintro rfl; cases h)
theorem s_c40_yes {k : Nat} (h : s_c40 k = true) : k = 41 ∨ k = 42 ∨ k = 43 ∨ k = 44 ∨ k = 45 ∨ k = 46 ∨ k = 47 ∨ k = 48 ∨ k = 49 ∨ k = 50 := by
  have h2 : ∀ j : Fin 200, s_c40 j.1 = true → j.1 = 41 ∨ j.1 = 42 ∨ j.1 = 43 ∨ j.1 = 44 ∨ j.1 = 45 ∨ j.1 = 46 ∨ j.1 = 47 ∨ j.1 = 48 ∨ j.1 = 49 ∨ j.1 = 50 := by decide +kernel
  by_cases h3 : k < 200
  · exact h2 ⟨k, h3⟩ h
  · exfalso
    have : s_c40 k = false := by unfold s_c40; rw [beq_no (show k ≠ 41 by omega), beq_no (show k ≠ 42 by omega), beq_no (show k ≠ 43 by omega), beq_no (show k ≠ 44 by omega), beq_no (show k ≠ 45 by omega), beq_no (show k ≠ 46 by omega), beq_no (show k ≠ 47 by omega), beq_no (show k ≠ 48 by omega), beq_no (show k ≠ 49 by omega), beq_no (show k ≠ 50 by omega)]; rfl
    rw [this] at h; cases h
set_option maxRecDepth 100000 in
set_option maxHeartbeats 4000000 in
theorem i_c40 {lv : Nat → Bool} {obj : Nat → xo} {nm : Nat → Nat} {g : xh} {z : Nat → Nat} {mc ms : Nat} {Q : xh → Prop} (hI : gI lv nm) (hl : lv 40 = true) (ho : obj 40 = .inr (0, xdef 0)) (hf : ∀ k, s_c40 k = true → lv k = false) (hmc : 10 ≤ mc) (hms : 1557 ≤ ms) (h : ∀ q, gI (lvB lv s_c40) (nmB nm s_c40 q) → Q (gm (lvB lv s_c40) (obB obj s_c40 a_c40 40 (o_c40 q)) (nmB nm s_c40 q) g)) : wp_Circuit_init z mc ms Q (nm 40) (gm lv obj nm g) := by
  unfold wp_Circuit_init
  refine ⟨by omega, by omega, ?_⟩
  refine b_new (k := 41) hI (by exact hf 41 rfl) (fun q41 hI => ?_)
  refine b_pL (k := 40) (fs' := [.int 0, .int 0, .int 0, .int 0, .int 0, .int 0, .ref q41, .null, .null, .null, .null, .null, .null, .null, .null, .null]) hI (by exact hl) (by rfl) ho (by rfl) (Nat.le_of_ble_eq_true rfl) ?_
  refine ⟨by omega, by omega, ?_⟩
  refine b_new (k := 42) hI (by exact hf 42 rfl) (fun q42 hI => ?_)
  refine b_pL (k := 40) (fs' := [.int 0, .int 0, .int 0, .int 0, .int 0, .int 0, .ref q41, .ref q42, .null, .null, .null, .null, .null, .null, .null, .null]) hI (by exact hl) (by rfl) (by rfl) (by rfl) (Nat.le_of_ble_eq_true rfl) ?_
  refine ⟨by omega, by omega, ?_⟩
  refine b_new (k := 43) hI (by exact hf 43 rfl) (fun q43 hI => ?_)
  refine b_pL (k := 40) (fs' := [.int 0, .int 0, .int 0, .int 0, .int 0, .int 0, .ref q41, .ref q42, .ref q43, .null, .null, .null, .null, .null, .null, .null]) hI (by exact hl) (by rfl) (by rfl) (by rfl) (Nat.le_of_ble_eq_true rfl) ?_
  refine ⟨by omega, by omega, ?_⟩
  refine b_new (k := 44) hI (by exact hf 44 rfl) (fun q44 hI => ?_)
  refine b_pL (k := 40) (fs' := [.int 0, .int 0, .int 0, .int 0, .int 0, .int 0, .ref q41, .ref q42, .ref q43, .ref q44, .null, .null, .null, .null, .null, .null]) hI (by exact hl) (by rfl) (by rfl) (by rfl) (Nat.le_of_ble_eq_true rfl) ?_
  refine ⟨by omega, by omega, ?_⟩
  refine b_new (k := 45) hI (by exact hf 45 rfl) (fun q45 hI => ?_)
  refine b_pL (k := 40) (fs' := [.int 0, .int 0, .int 0, .int 0, .int 0, .int 0, .ref q41, .ref q42, .ref q43, .ref q44, .ref q45, .null, .null, .null, .null, .null]) hI (by exact hl) (by rfl) (by rfl) (by rfl) (Nat.le_of_ble_eq_true rfl) ?_
  refine ⟨by omega, by omega, ?_⟩
  refine b_new (k := 46) hI (by exact hf 46 rfl) (fun q46 hI => ?_)
  refine b_pL (k := 40) (fs' := [.int 0, .int 0, .int 0, .int 0, .int 0, .int 0, .ref q41, .ref q42, .ref q43, .ref q44, .ref q45, .ref q46, .null, .null, .null, .null]) hI (by exact hl) (by rfl) (by rfl) (by rfl) (Nat.le_of_ble_eq_true rfl) ?_
  refine ⟨by omega, by omega, ?_⟩
  refine b_new (k := 47) hI (by exact hf 47 rfl) (fun q47 hI => ?_)
  refine b_pL (k := 40) (fs' := [.int 0, .int 0, .int 0, .int 0, .int 0, .int 0, .ref q41, .ref q42, .ref q43, .ref q44, .ref q45, .ref q46, .ref q47, .null, .null, .null]) hI (by exact hl) (by rfl) (by rfl) (by rfl) (Nat.le_of_ble_eq_true rfl) ?_
  refine ⟨by omega, by omega, ?_⟩
  refine b_new (k := 48) hI (by exact hf 48 rfl) (fun q48 hI => ?_)
  refine b_pL (k := 40) (fs' := [.int 0, .int 0, .int 0, .int 0, .int 0, .int 0, .ref q41, .ref q42, .ref q43, .ref q44, .ref q45, .ref q46, .ref q47, .ref q48, .null, .null]) hI (by exact hl) (by rfl) (by rfl) (by rfl) (Nat.le_of_ble_eq_true rfl) ?_
  refine ⟨by omega, by omega, ?_⟩
  refine b_new (k := 49) hI (by exact hf 49 rfl) (fun q49 hI => ?_)
  refine b_pL (k := 40) (fs' := [.int 0, .int 0, .int 0, .int 0, .int 0, .int 0, .ref q41, .ref q42, .ref q43, .ref q44, .ref q45, .ref q46, .ref q47, .ref q48, .ref q49, .null]) hI (by exact hl) (by rfl) (by rfl) (by rfl) (Nat.le_of_ble_eq_true rfl) ?_
  refine ⟨by omega, by omega, ?_⟩
  refine b_new (k := 50) hI (by exact hf 50 rfl) (fun q50 hI => ?_)
  refine b_pL (k := 40) (fs' := [.int 0, .int 0, .int 0, .int 0, .int 0, .int 0, .ref q41, .ref q42, .ref q43, .ref q44, .ref q45, .ref q46, .ref q47, .ref q48, .ref q49, .ref q50]) hI (by exact hl) (by rfl) (by rfl) (by rfl) (Nat.le_of_ble_eq_true rfl) ?_
  refine gm_blk (lv := lv) (s := s_c40) (obj := obj) (arr := a_c40) (nm := nm) (b := 40) hI ?_ ?_ ?_ rfl ?_ rfl ?_
  · intro k
    unfold lvB
    cases hs : s_c40 k
    · have hk := s_c40_no hs
      have hst : ∀ (o : Nat → Bool) (j : Nat), k ≠ j → stL o j k = o k := fun o j hh => if_neg hh
      repeat (refine Eq.trans (hst _ _ (by omega)) ?_)
      rfl
    · rcases s_c40_yes hs with rfl | rfl | rfl | rfl | rfl | rfl | rfl | rfl | rfl | rfl <;> rfl
  · intro k hs
    have hk := s_c40_no hs
    have hst : ∀ (o : Nat → Nat) (j x : Nat), k ≠ j → upN o j x k = o k := fun o j x hh => if_neg hh
    repeat (refine Eq.trans (hst _ _ _ (by omega)) ?_)
    rfl
  · intro k hs
    rcases s_c40_yes hs with rfl | rfl | rfl | rfl | rfl | rfl | rfl | rfl | rfl | rfl <;> rfl
  · intro k hs hkb
    have hk := s_c40_no hs
    have hst : ∀ (o : Nat → xo) (j : Nat) (x : xo), k ≠ j → stO o j x k = o k := fun o j x hh => if_neg hh
    repeat (refine Eq.trans (hst _ _ _ (by omega)) ?_)
    rfl
  · exact h _
def s_c0 (k : Nat) : Bool := Nat.beq k 1 || Nat.beq k 2 || Nat.beq k 3 || Nat.beq k 4 || Nat.beq k 5 || Nat.beq k 6 || Nat.beq k 7 || Nat.beq k 8 || Nat.beq k 9 || Nat.beq k 10
def a_c0 (k : Nat) : xo := bif Nat.blt k 6 then (bif Nat.blt k 3 then (bif Nat.blt k 2 then (.inl (1, 201, .inl (fun _ => 0))) else (.inl (0, 201, .inl (fun _ => 0)))) else (bif Nat.blt k 4 then (.inl (0, 201, .inl (fun _ => 0))) else (bif Nat.blt k 5 then (.inl (0, 5, .inl (fun _ => 0))) else (.inl (0, 6, .inl (fun _ => 0)))))) else (bif Nat.blt k 8 then (bif Nat.blt k 7 then (.inl (0, 6, .inl (fun _ => 0))) else (.inl (0, 8, .inl (fun _ => 0)))) else (bif Nat.blt k 9 then (.inl (0, 150, .inl (fun _ => 0))) else (bif Nat.blt k 10 then (.inl (1, 760, .inl (fun _ => 0))) else (.inl (0, 19, .inl (fun _ => 0))))))
def o_c0 (q : Nat → Nat) : xo := .inr (0, [.int 0, .int 0, .int 0, .int 0, .int 0, .int 0, .ref (q 1), .ref (q 2), .ref (q 3), .ref (q 4), .ref (q 5), .ref (q 6), .ref (q 7), .ref (q 8), .ref (q 9), .ref (q 10)])
theorem s_c0_no {k : Nat} (h : s_c0 k = false) : k ≠ 1 ∧ k ≠ 2 ∧ k ≠ 3 ∧ k ≠ 4 ∧ k ≠ 5 ∧ k ≠ 6 ∧ k ≠ 7 ∧ k ≠ 8 ∧ k ≠ 9 ∧ k ≠ 10 := by
  refine ⟨?_, ?_, ?_, ?_, ?_, ?_, ?_, ?_, ?_, ?_⟩ <;> (rintro rfl; cases h)
theorem s_c0_yes {k : Nat} (h : s_c0 k = true) : k = 1 ∨ k = 2 ∨ k = 3 ∨ k = 4 ∨ k = 5 ∨ k = 6 ∨ k = 7 ∨ k = 8 ∨ k = 9 ∨ k = 10 := by
  have h2 : ∀ j : Fin 200, s_c0 j.1 = true → j.1 = 1 ∨ j.1 = 2 ∨ j.1 = 3 ∨ j.1 = 4 ∨ j.1 = 5 ∨ j.1 = 6 ∨ j.1 = 7 ∨ j.1 = 8 ∨ j.1 = 9 ∨ j.1 = 10 := by decide +kernel
  by_cases h3 : k < 200
  · exact h2 ⟨k, h3⟩ h
  · exfalso
    have : s_c0 k = false := by unfold s_c0; rw [beq_no (show k ≠ 1 by omega), beq_no (show k ≠ 2 by omega), beq_no (show k ≠ 3 by omega), beq_no (show k ≠ 4 by omega), beq_no (show k ≠ 5 by omega), beq_no (show k ≠ 6 by omega), beq_no (show k ≠ 7 by omega), beq_no (show k ≠ 8 by omega), beq_no (show k ≠ 9 by omega), beq_no (show k ≠ 10 by omega)]; rfl
    rw [this] at h; cases h
set_option maxRecDepth 100000 in
set_option maxHeartbeats 4000000 in
theorem i_c0 {lv : Nat → Bool} {obj : Nat → xo} {nm : Nat → Nat} {g : xh} {z : Nat → Nat} {mc ms : Nat} {Q : xh → Prop} (hI : gI lv nm) (hl : lv 0 = true) (ho : obj 0 = .inr (0, xdef 0)) (hf : ∀ k, s_c0 k = true → lv k = false) (hmc : 10 ≤ mc) (hms : 1557 ≤ ms) (h : ∀ q, gI (lvB lv s_c0) (nmB nm s_c0 q) → Q (gm (lvB lv s_c0) (obB obj s_c0 a_c0 0 (o_c0 q)) (nmB nm s_c0 q) g)) : wp_Circuit_init z mc ms Q (nm 0) (gm lv obj nm g) := by
  unfold wp_Circuit_init
  refine ⟨by omega, by omega, ?_⟩
  refine b_new (k := 1) hI (by exact hf 1 rfl) (fun q1 hI => ?_)
  refine b_pL (k := 0) (fs' := [.int 0, .int 0, .int 0, .int 0, .int 0, .int 0, .ref q1, .null, .null, .null, .null, .null, .null, .null, .null, .null]) hI (by exact hl) (by rfl) ho (by rfl) (Nat.le_of_ble_eq_true rfl) ?_
  refine ⟨by omega, by omega, ?_⟩
  refine b_new (k := 2) hI (by exact hf 2 rfl) (fun q2 hI => ?_)
  refine b_pL (k := 0) (fs' := [.int 0, .int 0, .int 0, .int 0, .int 0, .int 0, .ref q1, .ref q2, .null, .null, .null, .null, .null, .null, .null, .null]) hI (by exact hl) (by rfl) (by rfl) (by rfl) (Nat.le_of_ble_eq_true rfl) ?_
  refine ⟨by omega, by omega, ?_⟩
  refine b_new (k := 3) hI (by exact hf 3 rfl) (fun q3 hI => ?_)
  refine b_pL (k := 0) (fs' := [.int 0, .int 0, .int 0, .int 0, .int 0, .int 0, .ref q1, .ref q2, .ref q3, .null, .null, .null, .null, .null, .null, .null]) hI (by exact hl) (by rfl) (by rfl) (by rfl) (Nat.le_of_ble_eq_true rfl) ?_
  refine ⟨by omega, by omega, ?_⟩
  refine b_new (k := 4) hI (by exact hf 4 rfl) (fun q4 hI => ?_)
  refine b_pL (k := 0) (fs' := [.int 0, .int 0, .int 0, .int 0, .int 0, .int 0, .ref q1, .ref q2, .ref q3, .ref q4, .null, .null, .null, .null, .null, .null]) hI (by exact hl) (by rfl) (by rfl) (by rfl) (Nat.le_of_ble_eq_true rfl) ?_
  refine ⟨by omega, by omega, ?_⟩
  refine b_new (k := 5) hI (by exact hf 5 rfl) (fun q5 hI => ?_)
  refine b_pL (k := 0) (fs' := [.int 0, .int 0, .int 0, .int 0, .int 0, .int 0, .ref q1, .ref q2, .ref q3, .ref q4, .ref q5, .null, .null, .null, .null, .null]) hI (by exact hl) (by rfl) (by rfl) (by rfl) (Nat.le_of_ble_eq_true rfl) ?_
  refine ⟨by omega, by omega, ?_⟩
  refine b_new (k := 6) hI (by exact hf 6 rfl) (fun q6 hI => ?_)
  refine b_pL (k := 0) (fs' := [.int 0, .int 0, .int 0, .int 0, .int 0, .int 0, .ref q1, .ref q2, .ref q3, .ref q4, .ref q5, .ref q6, .null, .null, .null, .null]) hI (by exact hl) (by rfl) (by rfl) (by rfl) (Nat.le_of_ble_eq_true rfl) ?_
  refine ⟨by omega, by omega, ?_⟩
  refine b_new (k := 7) hI (by exact hf 7 rfl) (fun q7 hI => ?_)
  refine b_pL (k := 0) (fs' := [.int 0, .int 0, .int 0, .int 0, .int 0, .int 0, .ref q1, .ref q2, .ref q3, .ref q4, .ref q5, .ref q6, .ref q7, .null, .null, .null]) hI (by exact hl) (by rfl) (by rfl) (by rfl) (Nat.le_of_ble_eq_true rfl) ?_
  refine ⟨by omega, by omega, ?_⟩
  refine b_new (k := 8) hI (by exact hf 8 rfl) (fun q8 hI => ?_)
  refine b_pL (k := 0) (fs' := [.int 0, .int 0, .int 0, .int 0, .int 0, .int 0, .ref q1, .ref q2, .ref q3, .ref q4, .ref q5, .ref q6, .ref q7, .ref q8, .null, .null]) hI (by exact hl) (by rfl) (by rfl) (by rfl) (Nat.le_of_ble_eq_true rfl) ?_
  refine ⟨by omega, by omega, ?_⟩
  refine b_new (k := 9) hI (by exact hf 9 rfl) (fun q9 hI => ?_)
  refine b_pL (k := 0) (fs' := [.int 0, .int 0, .int 0, .int 0, .int 0, .int 0, .ref q1, .ref q2, .ref q3, .ref q4, .ref q5, .ref q6, .ref q7, .ref q8, .ref q9, .null]) hI (by exact hl) (by rfl) (by rfl) (by rfl) (Nat.le_of_ble_eq_true rfl) ?_
  refine ⟨by omega, by omega, ?_⟩
  refine b_new (k := 10) hI (by exact hf 10 rfl) (fun q10 hI => ?_)
  refine b_pL (k := 0) (fs' := [.int 0, .int 0, .int 0, .int 0, .int 0, .int 0, .ref q1, .ref q2, .ref q3, .ref q4, .ref q5, .ref q6, .ref q7, .ref q8, .ref q9, .ref q10]) hI (by exact hl) (by rfl) (by rfl) (by rfl) (Nat.le_of_ble_eq_true rfl) ?_
  refine gm_blk (lv := lv) (s := s_c0) (obj := obj) (arr := a_c0) (nm := nm) (b := 0) hI ?_ ?_ ?_ rfl ?_ rfl ?_
  · intro k
    unfold lvB
    cases hs : s_c0 k
    · have hk := s_c0_no hs
      have hst : ∀ (o : Nat → Bool) (j : Nat), k ≠ j → stL o j k = o k := fun o j hh => if_neg hh
      repeat (refine Eq.trans (hst _ _ (by omega)) ?_)
      rfl
    · rcases s_c0_yes hs with rfl | rfl | rfl | rfl | rfl | rfl | rfl | rfl | rfl | rfl <;> rfl
  · intro k hs
    have hk := s_c0_no hs
    have hst : ∀ (o : Nat → Nat) (j x : Nat), k ≠ j → upN o j x k = o k := fun o j x hh => if_neg hh
    repeat (refine Eq.trans (hst _ _ _ (by omega)) ?_)
    rfl
  · intro k hs
    rcases s_c0_yes hs with rfl | rfl | rfl | rfl | rfl | rfl | rfl | rfl | rfl | rfl <;> rfl
  · intro k hs hkb
    have hk := s_c0_no hs
    have hst : ∀ (o : Nat → xo) (j : Nat) (x : xo), k ≠ j → stO o j x k = o k := fun o j x hh => if_neg hh
    repeat (refine Eq.trans (hst _ _ _ (by omega)) ?_)
    rfl
  · exact h _
def s_c20 (k : Nat) : Bool := Nat.beq k 21 || Nat.beq k 22 || Nat.beq k 23 || Nat.beq k 24 || Nat.beq k 25 || Nat.beq k 26 || Nat.beq k 27 || Nat.beq k 28 || Nat.beq k 29 || Nat.beq k 30
def a_c20 (k : Nat) : xo := bif Nat.blt k 26 then (bif Nat.blt k 23 then (bif Nat.blt k 22 then (.inl (1, 201, .inl (fun _ => 0))) else (.inl (0, 201, .inl (fun _ => 0)))) else (bif Nat.blt k 24 then (.inl (0, 201, .inl (fun _ => 0))) else (bif Nat.blt k 25 then (.inl (0, 5, .inl (fun _ => 0))) else (.inl (0, 6, .inl (fun _ => 0)))))) else (bif Nat.blt k 28 then (bif Nat.blt k 27 then (.inl (0, 6, .inl (fun _ => 0))) else (.inl (0, 8, .inl (fun _ => 0)))) else (bif Nat.blt k 29 then (.inl (0, 150, .inl (fun _ => 0))) else (bif Nat.blt k 30 then (.inl (1, 760, .inl (fun _ => 0))) else (.inl (0, 19, .inl (fun _ => 0))))))
def o_c20 (q : Nat → Nat) : xo := .inr (0, [.int 0, .int 0, .int 0, .int 0, .int 0, .int 0, .ref (q 21), .ref (q 22), .ref (q 23), .ref (q 24), .ref (q 25), .ref (q 26), .ref (q 27), .ref (q 28), .ref (q 29), .ref (q 30)])
theorem s_c20_no {k : Nat} (h : s_c20 k = false) : k ≠ 21 ∧ k ≠ 22 ∧ k ≠ 23 ∧ k ≠ 24 ∧ k ≠ 25 ∧ k ≠ 26 ∧ k ≠ 27 ∧ k ≠ 28 ∧ k ≠ 29 ∧ k ≠ 30 := by
  refine ⟨?_, ?_, ?_, ?_, ?_, ?_, ?_, ?_, ?_, ?_⟩ <;> (rintro rfl; cases h)
theorem s_c20_yes {k : Nat} (h : s_c20 k = true) : k = 21 ∨ k = 22 ∨ k = 23 ∨ k = 24 ∨ k = 25 ∨ k = 26 ∨ k = 27 ∨ k = 28 ∨ k = 29 ∨ k = 30 := by
  have h2 : ∀ j : Fin 200, s_c20 j.1 = true → j.1 = 21 ∨ j.1 = 22 ∨ j.1 = 23 ∨ j.1 = 24 ∨ j.1 = 25 ∨ j.1 = 26 ∨ j.1 = 27 ∨ j.1 = 28 ∨ j.1 = 29 ∨ j.1 = 30 := by decide +kernel
  by_cases h3 : k < 200
  · exact h2 ⟨k, h3⟩ h
  · exfalso
    have : s_c20 k = false := by unfold s_c20; rw [beq_no (show k ≠ 21 by omega), beq_no (show k ≠ 22 by omega), beq_no (show k ≠ 23 by omega), beq_no (show k ≠ 24 by omega), beq_no (show k ≠ 25 by omega), beq_no (show k ≠ 26 by omega), beq_no (show k ≠ 27 by omega), beq_no (show k ≠ 28 by omega), beq_no (show k ≠ 29 by omega), beq_no (show k ≠ 30 by omega)]; rfl
    rw [this] at h; cases h
set_option maxRecDepth 100000 in
set_option maxHeartbeats 4000000 in
theorem i_c20 {lv : Nat → Bool} {obj : Nat → xo} {nm : Nat → Nat} {g : xh} {z : Nat → Nat} {mc ms : Nat} {Q : xh → Prop} (hI : gI lv nm) (hl : lv 20 = true) (ho : obj 20 = .inr (0, xdef 0)) (hf : ∀ k, s_c20 k = true → lv k = false) (hmc : 10 ≤ mc) (hms : 1557 ≤ ms) (h : ∀ q, gI (lvB lv s_c20) (nmB nm s_c20 q) → Q (gm (lvB lv s_c20) (obB obj s_c20 a_c20 20 (o_c20 q)) (nmB nm s_c20 q) g)) : wp_Circuit_init z mc ms Q (nm 20) (gm lv obj nm g) := by
  unfold wp_Circuit_init
  refine ⟨by omega, by omega, ?_⟩
  refine b_new (k := 21) hI (by exact hf 21 rfl) (fun q21 hI => ?_)
  refine b_pL (k := 20) (fs' := [.int 0, .int 0, .int 0, .int 0, .int 0, .int 0, .ref q21, .null, .null, .null, .null, .null, .null, .null, .null, .null]) hI (by exact hl) (by rfl) ho (by rfl) (Nat.le_of_ble_eq_true rfl) ?_
  refine ⟨by omega, by omega, ?_⟩
  refine b_new (k := 22) hI (by exact hf 22 rfl) (fun q22 hI => ?_)
  refine b_pL (k := 20) (fs' := [.int 0, .int 0, .int 0, .int 0, .int 0, .int 0, .ref q21, .ref q22, .null, .null, .null, .null, .null, .null, .null, .null]) hI (by exact hl) (by rfl) (by rfl) (by rfl) (Nat.le_of_ble_eq_true rfl) ?_
  refine ⟨by omega, by omega, ?_⟩
  refine b_new (k := 23) hI (by exact hf 23 rfl) (fun q23 hI => ?_)
  refine b_pL (k := 20) (fs' := [.int 0, .int 0, .int 0, .int 0, .int 0, .int 0, .ref q21, .ref q22, .ref q23, .null, .null, .null, .null, .null, .null, .null]) hI (by exact hl) (by rfl) (by rfl) (by rfl) (Nat.le_of_ble_eq_true rfl) ?_
  refine ⟨by omega, by omega, ?_⟩
  refine b_new (k := 24) hI (by exact hf 24 rfl) (fun q24 hI => ?_)
  refine b_pL (k := 20) (fs' := [.int 0, .int 0, .int 0, .int 0, .int 0, .int 0, .ref q21, .ref q22, .ref q23, .ref q24, .null, .null, .null, .null, .null, .null]) hI (by exact hl) (by rfl) (by rfl) (by rfl) (Nat.le_of_ble_eq_true rfl) ?_
  refine ⟨by omega, by omega, ?_⟩
  refine b_new (k := 25) hI (by exact hf 25 rfl) (fun q25 hI => ?_)
  refine b_pL (k := 20) (fs' := [.int 0, .int 0, .int 0, .int 0, .int 0, .int 0, .ref q21, .ref q22, .ref q23, .ref q24, .ref q25, .null, .null, .null, .null, .null]) hI (by exact hl) (by rfl) (by rfl) (by rfl) (Nat.le_of_ble_eq_true rfl) ?_
  refine ⟨by omega, by omega, ?_⟩
  refine b_new (k := 26) hI (by exact hf 26 rfl) (fun q26 hI => ?_)
  refine b_pL (k := 20) (fs' := [.int 0, .int 0, .int 0, .int 0, .int 0, .int 0, .ref q21, .ref q22, .ref q23, .ref q24, .ref q25, .ref q26, .null, .null, .null, .null]) hI (by exact hl) (by rfl) (by rfl) (by rfl) (Nat.le_of_ble_eq_true rfl) ?_
  refine ⟨by omega, by omega, ?_⟩
  refine b_new (k := 27) hI (by exact hf 27 rfl) (fun q27 hI => ?_)
  refine b_pL (k := 20) (fs' := [.int 0, .int 0, .int 0, .int 0, .int 0, .int 0, .ref q21, .ref q22, .ref q23, .ref q24, .ref q25, .ref q26, .ref q27, .null, .null, .null]) hI (by exact hl) (by rfl) (by rfl) (by rfl) (Nat.le_of_ble_eq_true rfl) ?_
  refine ⟨by omega, by omega, ?_⟩
  refine b_new (k := 28) hI (by exact hf 28 rfl) (fun q28 hI => ?_)
  refine b_pL (k := 20) (fs' := [.int 0, .int 0, .int 0, .int 0, .int 0, .int 0, .ref q21, .ref q22, .ref q23, .ref q24, .ref q25, .ref q26, .ref q27, .ref q28, .null, .null]) hI (by exact hl) (by rfl) (by rfl) (by rfl) (Nat.le_of_ble_eq_true rfl) ?_
  refine ⟨by omega, by omega, ?_⟩
  refine b_new (k := 29) hI (by exact hf 29 rfl) (fun q29 hI => ?_)
  refine b_pL (k := 20) (fs' := [.int 0, .int 0, .int 0, .int 0, .int 0, .int 0, .ref q21, .ref q22, .ref q23, .ref q24, .ref q25, .ref q26, .ref q27, .ref q28, .ref q29, .null]) hI (by exact hl) (by rfl) (by rfl) (by rfl) (Nat.le_of_ble_eq_true rfl) ?_
  refine ⟨by omega, by omega, ?_⟩
  refine b_new (k := 30) hI (by exact hf 30 rfl) (fun q30 hI => ?_)
  refine b_pL (k := 20) (fs' := [.int 0, .int 0, .int 0, .int 0, .int 0, .int 0, .ref q21, .ref q22, .ref q23, .ref q24, .ref q25, .ref q26, .ref q27, .ref q28, .ref q29, .ref q30]) hI (by exact hl) (by rfl) (by rfl) (by rfl) (Nat.le_of_ble_eq_true rfl) ?_
  refine gm_blk (lv := lv) (s := s_c20) (obj := obj) (arr := a_c20) (nm := nm) (b := 20) hI ?_ ?_ ?_ rfl ?_ rfl ?_
  · intro k
    unfold lvB
    cases hs : s_c20 k
    · have hk := s_c20_no hs
      have hst : ∀ (o : Nat → Bool) (j : Nat), k ≠ j → stL o j k = o k := fun o j hh => if_neg hh
      repeat (refine Eq.trans (hst _ _ (by omega)) ?_)
      rfl
    · rcases s_c20_yes hs with rfl | rfl | rfl | rfl | rfl | rfl | rfl | rfl | rfl | rfl <;> rfl
  · intro k hs
    have hk := s_c20_no hs
    have hst : ∀ (o : Nat → Nat) (j x : Nat), k ≠ j → upN o j x k = o k := fun o j x hh => if_neg hh
    repeat (refine Eq.trans (hst _ _ _ (by omega)) ?_)
    rfl
  · intro k hs
    rcases s_c20_yes hs with rfl | rfl | rfl | rfl | rfl | rfl | rfl | rfl | rfl | rfl <;> rfl
  · intro k hs hkb
    have hk := s_c20_no hs
    have hst : ∀ (o : Nat → xo) (j : Nat) (x : xo), k ≠ j → stO o j x k = o k := fun o j x hh => if_neg hh
    repeat (refine Eq.trans (hst _ _ _ (by omega)) ?_)
    rfl
  · exact h _
def s_pl (k : Nat) : Bool := Nat.beq k 77 || Nat.beq k 78 || Nat.beq k 79
def a_pl (k : Nat) : xo := bif Nat.blt k 78 then (.inl (0, 2, .inl (fun _ => 0))) else (bif Nat.blt k 79 then (.inl (0, 5, .inl (fun _ => 0))) else (.inl (0, 201, .inl (fun _ => 0))))
def o_pl (q : Nat → Nat) (a1 : Nat) : xo := .inr (4, [.ref a1, .ref (q 77), .ref (q 78), .ref (q 79)])
theorem s_pl_no {k : Nat} (h : s_pl k = false) : k ≠ 77 ∧ k ≠ 78 ∧ k ≠ 79 := by
  refine ⟨?_, ?_, ?_⟩ <;> (rintro rfl; cases h)
theorem s_pl_yes {k : Nat} (h : s_pl k = true) : k = 77 ∨ k = 78 ∨ k = 79 := by
  have h2 : ∀ j : Fin 200, s_pl j.1 = true → j.1 = 77 ∨ j.1 = 78 ∨ j.1 = 79 := by decide +kernel
  by_cases h3 : k < 200
  · exact h2 ⟨k, h3⟩ h
  · exfalso
    have : s_pl k = false := by unfold s_pl; rw [beq_no (show k ≠ 77 by omega), beq_no (show k ≠ 78 by omega), beq_no (show k ≠ 79 by omega)]; rfl
    rw [this] at h; cases h
set_option maxRecDepth 100000 in
set_option maxHeartbeats 4000000 in
theorem i_pl {lv : Nat → Bool} {obj : Nat → xo} {nm : Nat → Nat} {g : xh} {z : Nat → Nat} {mc ms : Nat} {Q : xh → Prop} {a1 : Nat} (hI : gI lv nm) (hl : lv 76 = true) (ho : obj 76 = .inr (4, xdef 4)) (hf : ∀ k, s_pl k = true → lv k = false) (hmc : 3 ≤ mc) (hms : 208 ≤ ms) (h : ∀ q, gI (lvB lv s_pl) (nmB nm s_pl q) → Q (gm (lvB lv s_pl) (obB obj s_pl a_pl 76 (o_pl q a1)) (nmB nm s_pl q) g)) : wp_Player_init z mc ms Q (nm 76) a1 (gm lv obj nm g) := by
  unfold wp_Player_init
  refine ⟨by omega, by omega, ?_⟩
  refine b_new (k := 77) hI (by exact hf 77 rfl) (fun q77 hI => ?_)
  refine b_pL (k := 76) (fs' := [.null, .ref q77, .null, .null]) hI (by exact hl) (by rfl) ho (by rfl) (Nat.le_of_ble_eq_true rfl) ?_
  refine ⟨by omega, by omega, ?_⟩
  refine b_new (k := 78) hI (by exact hf 78 rfl) (fun q78 hI => ?_)
  refine b_pL (k := 76) (fs' := [.null, .ref q77, .ref q78, .null]) hI (by exact hl) (by rfl) (by rfl) (by rfl) (Nat.le_of_ble_eq_true rfl) ?_
  refine ⟨by omega, by omega, ?_⟩
  refine b_new (k := 79) hI (by exact hf 79 rfl) (fun q79 hI => ?_)
  refine b_pL (k := 76) (fs' := [.null, .ref q77, .ref q78, .ref q79]) hI (by exact hl) (by rfl) (by rfl) (by rfl) (Nat.le_of_ble_eq_true rfl) ?_
  refine b_pL (k := 76) (fs' := [.ref a1, .ref q77, .ref q78, .ref q79]) hI (by exact hl) (by rfl) (by rfl) (by rfl) (Nat.le_of_ble_eq_true rfl) ?_
  refine gm_blk (lv := lv) (s := s_pl) (obj := obj) (arr := a_pl) (nm := nm) (b := 76) hI ?_ ?_ ?_ rfl ?_ rfl ?_
  · intro k
    unfold lvB
    cases hs : s_pl k
    · have hk := s_pl_no hs
      have hst : ∀ (o : Nat → Bool) (j : Nat), k ≠ j → stL o j k = o k := fun o j hh => if_neg hh
      repeat (refine Eq.trans (hst _ _ (by omega)) ?_)
      rfl
    · rcases s_pl_yes hs with rfl | rfl | rfl <;> rfl
  · intro k hs
    have hk := s_pl_no hs
    have hst : ∀ (o : Nat → Nat) (j x : Nat), k ≠ j → upN o j x k = o k := fun o j x hh => if_neg hh
    repeat (refine Eq.trans (hst _ _ _ (by omega)) ?_)
    rfl
  · intro k hs
    rcases s_pl_yes hs with rfl | rfl | rfl <;> rfl
  · intro k hs hkb
    have hk := s_pl_no hs
    have hst : ∀ (o : Nat → xo) (j : Nat) (x : xo), k ≠ j → stO o j x k = o k := fun o j x hh => if_neg hh
    repeat (refine Eq.trans (hst _ _ _ (by omega)) ?_)
    rfl
  · exact h _
def s_mo (k : Nat) : Bool := Nat.beq k 101 || Nat.beq k 102 || Nat.beq k 110 || Nat.beq k 111 || Nat.beq k 112 || Nat.beq k 113 || Nat.beq k 114 || Nat.beq k 115 || Nat.beq k 116 || Nat.beq k 117 || Nat.beq k 118 || Nat.beq k 119 || Nat.beq k 120 || Nat.beq k 121 || Nat.beq k 122 || Nat.beq k 123 || Nat.beq k 124 || Nat.beq k 125 || Nat.beq k 126 || Nat.beq k 127 || Nat.beq k 128 || Nat.beq k 130 || Nat.beq k 131 || Nat.beq k 132 || Nat.beq k 134 || Nat.beq k 135 || Nat.beq k 136 || Nat.beq k 137 || Nat.beq k 142 || Nat.beq k 143 || Nat.beq k 144 || Nat.beq k 145 || Nat.beq k 147 || Nat.beq k 148 || Nat.beq k 149 || Nat.beq k 150
def a_mo (k : Nat) : xo := bif Nat.blt k 126 then (bif Nat.blt k 117 then (bif Nat.blt k 112 then (bif Nat.blt k 110 then (bif Nat.blt k 102 then (.inl (1, 6000, .inl (fun _ => 0))) else (.inl (1, 20, .inl (fun _ => 0)))) else (bif Nat.blt k 111 then (.inl (0, 15, .inl (fun _ => 0))) else (.inl (0, 15, .inl (fun _ => 0))))) else (bif Nat.blt k 114 then (bif Nat.blt k 113 then (.inl (0, 21, .inl (fun _ => 0))) else (.inl (0, 21, .inl (fun _ => 0)))) else (bif Nat.blt k 115 then (.inl (0, 24, .inl (fun _ => 0))) else (bif Nat.blt k 116 then (.inl (0, 450, .inl (fun _ => 0))) else (.inl (0, 450, .inl (fun _ => 0))))))) else (bif Nat.blt k 121 then (bif Nat.blt k 119 then (bif Nat.blt k 118 then (.inl (0, 450, .inl (fun _ => 0))) else (.inl (0, 603, .inl (fun _ => 0)))) else (bif Nat.blt k 120 then (.inl (0, 603, .inl (fun _ => 0))) else (.inl (0, 8, .inl (fun _ => 0))))) else (bif Nat.blt k 123 then (bif Nat.blt k 122 then (.inl (0, 8, .inl (fun _ => 0))) else (.inl (0, 150, .inl (fun _ => 0)))) else (bif Nat.blt k 124 then (.inl (0, 150, .inl (fun _ => 0))) else (bif Nat.blt k 125 then (.inl (1, 2640, .inl (fun _ => 0))) else (.inl (0, 66, .inl (fun _ => 0)))))))) else (bif Nat.blt k 137 then (bif Nat.blt k 131 then (bif Nat.blt k 128 then (bif Nat.blt k 127 then (.inl (0, 150, .inl (fun _ => 0))) else (.inl (0, 300, .inl (fun _ => 0)))) else (bif Nat.blt k 130 then (.inl (2, 201, .inl (fun _ => 0))) else (.inl (2, 2, .inl (fun _ => 0))))) else (bif Nat.blt k 134 then (bif Nat.blt k 132 then (.inl (0, 2, .inl (fun _ => 0))) else (.inl (3, 402, .inr (.inl (fun _ => 0))))) else (bif Nat.blt k 135 then (.inl (3, 4096, .inr (.inl (fun _ => 0)))) else (bif Nat.blt k 136 then (.inl (4, 131072, .inl (fun _ => 0))) else (.inl (0, 4096, .inl (fun _ => 0))))))) else (bif Nat.blt k 145 then (bif Nat.blt k 143 then (bif Nat.blt k 142 then (.inl (0, 4096, .inl (fun _ => 0))) else (.inl (2, 4096, .inl (fun _ => 0)))) else (bif Nat.blt k 144 then (.inl (2, 4096, .inl (fun _ => 0))) else (.inl (2, 4096, .inl (fun _ => 0))))) else (bif Nat.blt k 148 then (bif Nat.blt k 147 then (.inl (0, 256, .inl (fun _ => 0))) else (.inl (2, 804, .inl (fun _ => 0)))) else (bif Nat.blt k 149 then (.inl (0, 402, .inl (fun _ => 0))) else (bif Nat.blt k 150 then (.inl (0, 300, .inl (fun _ => 0))) else (.inl (0, 300, .inl (fun _ => 0))))))))
def o_mo (q : Nat → Nat) : xo := .inr (12, [.int 0, .ref (q 101), .ref (q 102), .int 0, .int 0, .int (-1), .int 0, .int 0, .int 0, .int 0, .ref (q 110), .ref (q 111), .ref (q 112), .ref (q 113), .ref (q 114), .ref (q 115), .ref (q 116), .ref (q 117), .ref (q 118), .ref (q 119), .ref (q 120), .ref (q 121), .ref (q 122), .ref (q 123), .ref (q 124), .ref (q 125), .ref (q 126), .ref (q 127), .ref (q 128), .int 0, .ref (q 130), .ref (q 131), .ref (q 132), .int 0, .ref (q 134), .ref (q 135), .ref (q 136), .ref (q 137), .int 0, .int 0, .int 0, .int 0, .ref (q 142), .ref (q 143), .ref (q 144), .ref (q 145), .int 0, .ref (q 147), .ref (q 148), .ref (q 149), .ref (q 150), .int 0])
theorem s_mo_no {k : Nat} (h : s_mo k = false) : k ≠ 101 ∧ k ≠ 102 ∧ k ≠ 110 ∧ k ≠ 111 ∧ k ≠ 112 ∧ k ≠ 113 ∧ k ≠ 114 ∧ k ≠ 115 ∧ k ≠ 116 ∧ k ≠ 117 ∧ k ≠ 118 ∧ k ≠ 119 ∧ k ≠ 120 ∧ k ≠ 121 ∧ k ≠ 122 ∧ k ≠ 123 ∧ k ≠ 124 ∧ k ≠ 125 ∧ k ≠ 126 ∧ k ≠ 127 ∧ k ≠ 128 ∧ k ≠ 130 ∧ k ≠ 131 ∧ k ≠ 132 ∧ k ≠ 134 ∧ k ≠ 135 ∧ k ≠ 136 ∧ k ≠ 137 ∧ k ≠ 142 ∧ k ≠ 143 ∧ k ≠ 144 ∧ k ≠ 145 ∧ k ≠ 147 ∧ k ≠ 148 ∧ k ≠ 149 ∧ k ≠ 150 := by
  refine ⟨?_, ?_, ?_, ?_, ?_, ?_, ?_, ?_, ?_, ?_, ?_, ?_, ?_, ?_, ?_, ?_, ?_, ?_, ?_, ?_, ?_, ?_, ?_, ?_, ?_, ?_, ?_, ?_, ?_, ?_, ?_, ?_, ?_, ?_, ?_, ?_⟩ <;> (rintro rfl; cases h)
theorem s_mo_yes {k : Nat} (h : s_mo k = true) : k = 101 ∨ k = 102 ∨ k = 110 ∨ k = 111 ∨ k = 112 ∨ k = 113 ∨ k = 114 ∨ k = 115 ∨ k = 116 ∨ k = 117 ∨ k = 118 ∨ k = 119 ∨ k = 120 ∨ k = 121 ∨ k = 122 ∨ k = 123 ∨ k = 124 ∨ k = 125 ∨ k = 126 ∨ k = 127 ∨ k = 128 ∨ k = 130 ∨ k = 131 ∨ k = 132 ∨ k = 134 ∨ k = 135 ∨ k = 136 ∨ k = 137 ∨ k = 142 ∨ k = 143 ∨ k = 144 ∨ k = 145 ∨ k = 147 ∨ k = 148 ∨ k = 149 ∨ k = 150 := by
  have h2 : ∀ j : Fin 200, s_mo j.1 = true → j.1 = 101 ∨ j.1 = 102 ∨ j.1 = 110 ∨ j.1 = 111 ∨ j.1 = 112 ∨ j.1 = 113 ∨ j.1 = 114 ∨ j.1 = 115 ∨ j.1 = 116 ∨ j.1 = 117 ∨ j.1 = 118 ∨ j.1 = 119 ∨ j.1 = 120 ∨ j.1 = 121 ∨ j.1 = 122 ∨ j.1 = 123 ∨ j.1 = 124 ∨ j.1 = 125 ∨ j.1 = 126 ∨ j.1 = 127 ∨ j.1 = 128 ∨ j.1 = 130 ∨ j.1 = 131 ∨ j.1 = 132 ∨ j.1 = 134 ∨ j.1 = 135 ∨ j.1 = 136 ∨ j.1 = 137 ∨ j.1 = 142 ∨ j.1 = 143 ∨ j.1 = 144 ∨ j.1 = 145 ∨ j.1 = 147 ∨ j.1 = 148 ∨ j.1 = 149 ∨ j.1 = 150 := by decide +kernel
  by_cases h3 : k < 200
  · exact h2 ⟨k, h3⟩ h
  · exfalso
    have : s_mo k = false := by unfold s_mo; rw [beq_no (show k ≠ 101 by omega), beq_no (show k ≠ 102 by omega), beq_no (show k ≠ 110 by omega), beq_no (show k ≠ 111 by omega), beq_no (show k ≠ 112 by omega), beq_no (show k ≠ 113 by omega), beq_no (show k ≠ 114 by omega), beq_no (show k ≠ 115 by omega), beq_no (show k ≠ 116 by omega), beq_no (show k ≠ 117 by omega), beq_no (show k ≠ 118 by omega), beq_no (show k ≠ 119 by omega), beq_no (show k ≠ 120 by omega), beq_no (show k ≠ 121 by omega), beq_no (show k ≠ 122 by omega), beq_no (show k ≠ 123 by omega), beq_no (show k ≠ 124 by omega), beq_no (show k ≠ 125 by omega), beq_no (show k ≠ 126 by omega), beq_no (show k ≠ 127 by omega), beq_no (show k ≠ 128 by omega), beq_no (show k ≠ 130 by omega), beq_no (show k ≠ 131 by omega), beq_no (show k ≠ 132 by omega), beq_no (show k ≠ 134 by omega), beq_no (show k ≠ 135 by omega), beq_no (show k ≠ 136 by omega), beq_no (show k ≠ 137 by omega), beq_no (show k ≠ 142 by omega), beq_no (show k ≠ 143 by omega), beq_no (show k ≠ 144 by omega), beq_no (show k ≠ 145 by omega), beq_no (show k ≠ 147 by omega), beq_no (show k ≠ 148 by omega), beq_no (show k ≠ 149 by omega), beq_no (show k ≠ 150 by omega)]; rfl
    rw [this] at h; cases h
set_option maxRecDepth 100000 in
set_option maxHeartbeats 4000000 in
theorem i_mo {lv : Nat → Bool} {obj : Nat → xo} {nm : Nat → Nat} {g : xh} {z : Nat → Nat} {mc ms : Nat} {Q : xh → Prop} (hI : gI lv nm) (hl : lv 100 = true) (ho : obj 100 = .inr (12, xdef 12)) (hf : ∀ k, s_mo k = true → lv k = false) (hmc : 36 ≤ mc) (hms : 170461 ≤ ms) (h : ∀ q, gI (lvB lv s_mo) (nmB nm s_mo q) → Q (gm (lvB lv s_mo) (obB obj s_mo a_mo 100 (o_mo q)) (nmB nm s_mo q) g)) : wp_Model_init z mc ms Q (nm 100) (gm lv obj nm g) := by
  unfold wp_Model_init
  refine ⟨by omega, by omega, ?_⟩
  refine b_new (k := 101) hI (by exact hf 101 rfl) (fun q101 hI => ?_)
  refine b_pL (k := 100) (fs' := [.int 0, .ref q101, .null, .int 0, .int 0, .int 0, .int 0, .int 0, .int 0, .int 0, .null, .null, .null, .null, .null, .null, .null, .null, .null, .null, .null, .null, .null, .null, .null, .null, .null, .null, .null, .int 0, .null, .null, .null, .int 0, .null, .null, .null, .null, .int 0, .int 0, .int 0, .int 0, .null, .null, .null, .null, .int 0, .null, .null, .null, .null, .int 0]) hI (by exact hl) (by rfl) ho (by rfl) (Nat.le_of_ble_eq_true rfl) ?_
  refine ⟨by omega, by omega, ?_⟩
  refine b_new (k := 102) hI (by exact hf 102 rfl) (fun q102 hI => ?_)
  refine b_pL (k := 100) (fs' := [.int 0, .ref q101, .ref q102, .int 0, .int 0, .int 0, .int 0, .int 0, .int 0, .int 0, .null, .null, .null, .null, .null, .null, .null, .null, .null, .null, .null, .null, .null, .null, .null, .null, .null, .null, .null, .int 0, .null, .null, .null, .int 0, .null, .null, .null, .null, .int 0, .int 0, .int 0, .int 0, .null, .null, .null, .null, .int 0, .null, .null, .null, .null, .int 0]) hI (by exact hl) (by rfl) (by rfl) (by rfl) (Nat.le_of_ble_eq_true rfl) ?_
  refine b_pL (k := 100) (fs' := [.int 0, .ref q101, .ref q102, .int 0, .int 0, .int (-1), .int 0, .int 0, .int 0, .int 0, .null, .null, .null, .null, .null, .null, .null, .null, .null, .null, .null, .null, .null, .null, .null, .null, .null, .null, .null, .int 0, .null, .null, .null, .int 0, .null, .null, .null, .null, .int 0, .int 0, .int 0, .int 0, .null, .null, .null, .null, .int 0, .null, .null, .null, .null, .int 0]) hI (by exact hl) (by rfl) (by rfl) (by rfl) (Nat.le_of_ble_eq_true rfl) ?_
  refine ⟨by omega, by omega, ?_⟩
  refine b_new (k := 110) hI (by exact hf 110 rfl) (fun q110 hI => ?_)
  refine b_pL (k := 100) (fs' := [.int 0, .ref q101, .ref q102, .int 0, .int 0, .int (-1), .int 0, .int 0, .int 0, .int 0, .ref q110, .null, .null, .null, .null, .null, .null, .null, .null, .null, .null, .null, .null, .null, .null, .null, .null, .null, .null, .int 0, .null, .null, .null, .int 0, .null, .null, .null, .null, .int 0, .int 0, .int 0, .int 0, .null, .null, .null, .null, .int 0, .null, .null, .null, .null, .int 0]) hI (by exact hl) (by rfl) (by rfl) (by rfl) (Nat.le_of_ble_eq_true rfl) ?_
  refine ⟨by omega, by omega, ?_⟩
  refine b_new (k := 111) hI (by exact hf 111 rfl) (fun q111 hI => ?_)
  refine b_pL (k := 100) (fs' := [.int 0, .ref q101, .ref q102, .int 0, .int 0, .int (-1), .int 0, .int 0, .int 0, .int 0, .ref q110, .ref q111, .null, .null, .null, .null, .null, .null, .null, .null, .null, .null, .null, .null, .null, .null, .null, .null, .null, .int 0, .null, .null, .null, .int 0, .null, .null, .null, .null, .int 0, .int 0, .int 0, .int 0, .null, .null, .null, .null, .int 0, .null, .null, .null, .null, .int 0]) hI (by exact hl) (by rfl) (by rfl) (by rfl) (Nat.le_of_ble_eq_true rfl) ?_
  refine ⟨by omega, by omega, ?_⟩
  refine b_new (k := 112) hI (by exact hf 112 rfl) (fun q112 hI => ?_)
  refine b_pL (k := 100) (fs' := [.int 0, .ref q101, .ref q102, .int 0, .int 0, .int (-1), .int 0, .int 0, .int 0, .int 0, .ref q110, .ref q111, .ref q112, .null, .null, .null, .null, .null, .null, .null, .null, .null, .null, .null, .null, .null, .null, .null, .null, .int 0, .null, .null, .null, .int 0, .null, .null, .null, .null, .int 0, .int 0, .int 0, .int 0, .null, .null, .null, .null, .int 0, .null, .null, .null, .null, .int 0]) hI (by exact hl) (by rfl) (by rfl) (by rfl) (Nat.le_of_ble_eq_true rfl) ?_
  refine ⟨by omega, by omega, ?_⟩
  refine b_new (k := 113) hI (by exact hf 113 rfl) (fun q113 hI => ?_)
  refine b_pL (k := 100) (fs' := [.int 0, .ref q101, .ref q102, .int 0, .int 0, .int (-1), .int 0, .int 0, .int 0, .int 0, .ref q110, .ref q111, .ref q112, .ref q113, .null, .null, .null, .null, .null, .null, .null, .null, .null, .null, .null, .null, .null, .null, .null, .int 0, .null, .null, .null, .int 0, .null, .null, .null, .null, .int 0, .int 0, .int 0, .int 0, .null, .null, .null, .null, .int 0, .null, .null, .null, .null, .int 0]) hI (by exact hl) (by rfl) (by rfl) (by rfl) (Nat.le_of_ble_eq_true rfl) ?_
  refine ⟨by omega, by omega, ?_⟩
  refine b_new (k := 114) hI (by exact hf 114 rfl) (fun q114 hI => ?_)
  refine b_pL (k := 100) (fs' := [.int 0, .ref q101, .ref q102, .int 0, .int 0, .int (-1), .int 0, .int 0, .int 0, .int 0, .ref q110, .ref q111, .ref q112, .ref q113, .ref q114, .null, .null, .null, .null, .null, .null, .null, .null, .null, .null, .null, .null, .null, .null, .int 0, .null, .null, .null, .int 0, .null, .null, .null, .null, .int 0, .int 0, .int 0, .int 0, .null, .null, .null, .null, .int 0, .null, .null, .null, .null, .int 0]) hI (by exact hl) (by rfl) (by rfl) (by rfl) (Nat.le_of_ble_eq_true rfl) ?_
  refine ⟨by omega, by omega, ?_⟩
  refine b_new (k := 115) hI (by exact hf 115 rfl) (fun q115 hI => ?_)
  refine b_pL (k := 100) (fs' := [.int 0, .ref q101, .ref q102, .int 0, .int 0, .int (-1), .int 0, .int 0, .int 0, .int 0, .ref q110, .ref q111, .ref q112, .ref q113, .ref q114, .ref q115, .null, .null, .null, .null, .null, .null, .null, .null, .null, .null, .null, .null, .null, .int 0, .null, .null, .null, .int 0, .null, .null, .null, .null, .int 0, .int 0, .int 0, .int 0, .null, .null, .null, .null, .int 0, .null, .null, .null, .null, .int 0]) hI (by exact hl) (by rfl) (by rfl) (by rfl) (Nat.le_of_ble_eq_true rfl) ?_
  refine ⟨by omega, by omega, ?_⟩
  refine b_new (k := 116) hI (by exact hf 116 rfl) (fun q116 hI => ?_)
  refine b_pL (k := 100) (fs' := [.int 0, .ref q101, .ref q102, .int 0, .int 0, .int (-1), .int 0, .int 0, .int 0, .int 0, .ref q110, .ref q111, .ref q112, .ref q113, .ref q114, .ref q115, .ref q116, .null, .null, .null, .null, .null, .null, .null, .null, .null, .null, .null, .null, .int 0, .null, .null, .null, .int 0, .null, .null, .null, .null, .int 0, .int 0, .int 0, .int 0, .null, .null, .null, .null, .int 0, .null, .null, .null, .null, .int 0]) hI (by exact hl) (by rfl) (by rfl) (by rfl) (Nat.le_of_ble_eq_true rfl) ?_
  refine ⟨by omega, by omega, ?_⟩
  refine b_new (k := 117) hI (by exact hf 117 rfl) (fun q117 hI => ?_)
  refine b_pL (k := 100) (fs' := [.int 0, .ref q101, .ref q102, .int 0, .int 0, .int (-1), .int 0, .int 0, .int 0, .int 0, .ref q110, .ref q111, .ref q112, .ref q113, .ref q114, .ref q115, .ref q116, .ref q117, .null, .null, .null, .null, .null, .null, .null, .null, .null, .null, .null, .int 0, .null, .null, .null, .int 0, .null, .null, .null, .null, .int 0, .int 0, .int 0, .int 0, .null, .null, .null, .null, .int 0, .null, .null, .null, .null, .int 0]) hI (by exact hl) (by rfl) (by rfl) (by rfl) (Nat.le_of_ble_eq_true rfl) ?_
  refine ⟨by omega, by omega, ?_⟩
  refine b_new (k := 118) hI (by exact hf 118 rfl) (fun q118 hI => ?_)
  refine b_pL (k := 100) (fs' := [.int 0, .ref q101, .ref q102, .int 0, .int 0, .int (-1), .int 0, .int 0, .int 0, .int 0, .ref q110, .ref q111, .ref q112, .ref q113, .ref q114, .ref q115, .ref q116, .ref q117, .ref q118, .null, .null, .null, .null, .null, .null, .null, .null, .null, .null, .int 0, .null, .null, .null, .int 0, .null, .null, .null, .null, .int 0, .int 0, .int 0, .int 0, .null, .null, .null, .null, .int 0, .null, .null, .null, .null, .int 0]) hI (by exact hl) (by rfl) (by rfl) (by rfl) (Nat.le_of_ble_eq_true rfl) ?_
  refine ⟨by omega, by omega, ?_⟩
  refine b_new (k := 119) hI (by exact hf 119 rfl) (fun q119 hI => ?_)
  refine b_pL (k := 100) (fs' := [.int 0, .ref q101, .ref q102, .int 0, .int 0, .int (-1), .int 0, .int 0, .int 0, .int 0, .ref q110, .ref q111, .ref q112, .ref q113, .ref q114, .ref q115, .ref q116, .ref q117, .ref q118, .ref q119, .null, .null, .null, .null, .null, .null, .null, .null, .null, .int 0, .null, .null, .null, .int 0, .null, .null, .null, .null, .int 0, .int 0, .int 0, .int 0, .null, .null, .null, .null, .int 0, .null, .null, .null, .null, .int 0]) hI (by exact hl) (by rfl) (by rfl) (by rfl) (Nat.le_of_ble_eq_true rfl) ?_
  refine ⟨by omega, by omega, ?_⟩
  refine b_new (k := 120) hI (by exact hf 120 rfl) (fun q120 hI => ?_)
  refine b_pL (k := 100) (fs' := [.int 0, .ref q101, .ref q102, .int 0, .int 0, .int (-1), .int 0, .int 0, .int 0, .int 0, .ref q110, .ref q111, .ref q112, .ref q113, .ref q114, .ref q115, .ref q116, .ref q117, .ref q118, .ref q119, .ref q120, .null, .null, .null, .null, .null, .null, .null, .null, .int 0, .null, .null, .null, .int 0, .null, .null, .null, .null, .int 0, .int 0, .int 0, .int 0, .null, .null, .null, .null, .int 0, .null, .null, .null, .null, .int 0]) hI (by exact hl) (by rfl) (by rfl) (by rfl) (Nat.le_of_ble_eq_true rfl) ?_
  refine ⟨by omega, by omega, ?_⟩
  refine b_new (k := 121) hI (by exact hf 121 rfl) (fun q121 hI => ?_)
  refine b_pL (k := 100) (fs' := [.int 0, .ref q101, .ref q102, .int 0, .int 0, .int (-1), .int 0, .int 0, .int 0, .int 0, .ref q110, .ref q111, .ref q112, .ref q113, .ref q114, .ref q115, .ref q116, .ref q117, .ref q118, .ref q119, .ref q120, .ref q121, .null, .null, .null, .null, .null, .null, .null, .int 0, .null, .null, .null, .int 0, .null, .null, .null, .null, .int 0, .int 0, .int 0, .int 0, .null, .null, .null, .null, .int 0, .null, .null, .null, .null, .int 0]) hI (by exact hl) (by rfl) (by rfl) (by rfl) (Nat.le_of_ble_eq_true rfl) ?_
  refine ⟨by omega, by omega, ?_⟩
  refine b_new (k := 122) hI (by exact hf 122 rfl) (fun q122 hI => ?_)
  refine b_pL (k := 100) (fs' := [.int 0, .ref q101, .ref q102, .int 0, .int 0, .int (-1), .int 0, .int 0, .int 0, .int 0, .ref q110, .ref q111, .ref q112, .ref q113, .ref q114, .ref q115, .ref q116, .ref q117, .ref q118, .ref q119, .ref q120, .ref q121, .ref q122, .null, .null, .null, .null, .null, .null, .int 0, .null, .null, .null, .int 0, .null, .null, .null, .null, .int 0, .int 0, .int 0, .int 0, .null, .null, .null, .null, .int 0, .null, .null, .null, .null, .int 0]) hI (by exact hl) (by rfl) (by rfl) (by rfl) (Nat.le_of_ble_eq_true rfl) ?_
  refine ⟨by omega, by omega, ?_⟩
  refine b_new (k := 123) hI (by exact hf 123 rfl) (fun q123 hI => ?_)
  refine b_pL (k := 100) (fs' := [.int 0, .ref q101, .ref q102, .int 0, .int 0, .int (-1), .int 0, .int 0, .int 0, .int 0, .ref q110, .ref q111, .ref q112, .ref q113, .ref q114, .ref q115, .ref q116, .ref q117, .ref q118, .ref q119, .ref q120, .ref q121, .ref q122, .ref q123, .null, .null, .null, .null, .null, .int 0, .null, .null, .null, .int 0, .null, .null, .null, .null, .int 0, .int 0, .int 0, .int 0, .null, .null, .null, .null, .int 0, .null, .null, .null, .null, .int 0]) hI (by exact hl) (by rfl) (by rfl) (by rfl) (Nat.le_of_ble_eq_true rfl) ?_
  refine ⟨by omega, by omega, ?_⟩
  refine b_new (k := 124) hI (by exact hf 124 rfl) (fun q124 hI => ?_)
  refine b_pL (k := 100) (fs' := [.int 0, .ref q101, .ref q102, .int 0, .int 0, .int (-1), .int 0, .int 0, .int 0, .int 0, .ref q110, .ref q111, .ref q112, .ref q113, .ref q114, .ref q115, .ref q116, .ref q117, .ref q118, .ref q119, .ref q120, .ref q121, .ref q122, .ref q123, .ref q124, .null, .null, .null, .null, .int 0, .null, .null, .null, .int 0, .null, .null, .null, .null, .int 0, .int 0, .int 0, .int 0, .null, .null, .null, .null, .int 0, .null, .null, .null, .null, .int 0]) hI (by exact hl) (by rfl) (by rfl) (by rfl) (Nat.le_of_ble_eq_true rfl) ?_
  refine ⟨by omega, by omega, ?_⟩
  refine b_new (k := 125) hI (by exact hf 125 rfl) (fun q125 hI => ?_)
  refine b_pL (k := 100) (fs' := [.int 0, .ref q101, .ref q102, .int 0, .int 0, .int (-1), .int 0, .int 0, .int 0, .int 0, .ref q110, .ref q111, .ref q112, .ref q113, .ref q114, .ref q115, .ref q116, .ref q117, .ref q118, .ref q119, .ref q120, .ref q121, .ref q122, .ref q123, .ref q124, .ref q125, .null, .null, .null, .int 0, .null, .null, .null, .int 0, .null, .null, .null, .null, .int 0, .int 0, .int 0, .int 0, .null, .null, .null, .null, .int 0, .null, .null, .null, .null, .int 0]) hI (by exact hl) (by rfl) (by rfl) (by rfl) (Nat.le_of_ble_eq_true rfl) ?_
  refine ⟨by omega, by omega, ?_⟩
  refine b_new (k := 126) hI (by exact hf 126 rfl) (fun q126 hI => ?_)
  refine b_pL (k := 100) (fs' := [.int 0, .ref q101, .ref q102, .int 0, .int 0, .int (-1), .int 0, .int 0, .int 0, .int 0, .ref q110, .ref q111, .ref q112, .ref q113, .ref q114, .ref q115, .ref q116, .ref q117, .ref q118, .ref q119, .ref q120, .ref q121, .ref q122, .ref q123, .ref q124, .ref q125, .ref q126, .null, .null, .int 0, .null, .null, .null, .int 0, .null, .null, .null, .null, .int 0, .int 0, .int 0, .int 0, .null, .null, .null, .null, .int 0, .null, .null, .null, .null, .int 0]) hI (by exact hl) (by rfl) (by rfl) (by rfl) (Nat.le_of_ble_eq_true rfl) ?_
  refine ⟨by omega, by omega, ?_⟩
  refine b_new (k := 127) hI (by exact hf 127 rfl) (fun q127 hI => ?_)
  refine b_pL (k := 100) (fs' := [.int 0, .ref q101, .ref q102, .int 0, .int 0, .int (-1), .int 0, .int 0, .int 0, .int 0, .ref q110, .ref q111, .ref q112, .ref q113, .ref q114, .ref q115, .ref q116, .ref q117, .ref q118, .ref q119, .ref q120, .ref q121, .ref q122, .ref q123, .ref q124, .ref q125, .ref q126, .ref q127, .null, .int 0, .null, .null, .null, .int 0, .null, .null, .null, .null, .int 0, .int 0, .int 0, .int 0, .null, .null, .null, .null, .int 0, .null, .null, .null, .null, .int 0]) hI (by exact hl) (by rfl) (by rfl) (by rfl) (Nat.le_of_ble_eq_true rfl) ?_
  refine ⟨by omega, by omega, ?_⟩
  refine b_new (k := 128) hI (by exact hf 128 rfl) (fun q128 hI => ?_)
  refine b_pL (k := 100) (fs' := [.int 0, .ref q101, .ref q102, .int 0, .int 0, .int (-1), .int 0, .int 0, .int 0, .int 0, .ref q110, .ref q111, .ref q112, .ref q113, .ref q114, .ref q115, .ref q116, .ref q117, .ref q118, .ref q119, .ref q120, .ref q121, .ref q122, .ref q123, .ref q124, .ref q125, .ref q126, .ref q127, .ref q128, .int 0, .null, .null, .null, .int 0, .null, .null, .null, .null, .int 0, .int 0, .int 0, .int 0, .null, .null, .null, .null, .int 0, .null, .null, .null, .null, .int 0]) hI (by exact hl) (by rfl) (by rfl) (by rfl) (Nat.le_of_ble_eq_true rfl) ?_
  refine ⟨by omega, by omega, ?_⟩
  refine b_new (k := 130) hI (by exact hf 130 rfl) (fun q130 hI => ?_)
  refine b_pL (k := 100) (fs' := [.int 0, .ref q101, .ref q102, .int 0, .int 0, .int (-1), .int 0, .int 0, .int 0, .int 0, .ref q110, .ref q111, .ref q112, .ref q113, .ref q114, .ref q115, .ref q116, .ref q117, .ref q118, .ref q119, .ref q120, .ref q121, .ref q122, .ref q123, .ref q124, .ref q125, .ref q126, .ref q127, .ref q128, .int 0, .ref q130, .null, .null, .int 0, .null, .null, .null, .null, .int 0, .int 0, .int 0, .int 0, .null, .null, .null, .null, .int 0, .null, .null, .null, .null, .int 0]) hI (by exact hl) (by rfl) (by rfl) (by rfl) (Nat.le_of_ble_eq_true rfl) ?_
  refine ⟨by omega, by omega, ?_⟩
  refine b_new (k := 131) hI (by exact hf 131 rfl) (fun q131 hI => ?_)
  refine b_pL (k := 100) (fs' := [.int 0, .ref q101, .ref q102, .int 0, .int 0, .int (-1), .int 0, .int 0, .int 0, .int 0, .ref q110, .ref q111, .ref q112, .ref q113, .ref q114, .ref q115, .ref q116, .ref q117, .ref q118, .ref q119, .ref q120, .ref q121, .ref q122, .ref q123, .ref q124, .ref q125, .ref q126, .ref q127, .ref q128, .int 0, .ref q130, .ref q131, .null, .int 0, .null, .null, .null, .null, .int 0, .int 0, .int 0, .int 0, .null, .null, .null, .null, .int 0, .null, .null, .null, .null, .int 0]) hI (by exact hl) (by rfl) (by rfl) (by rfl) (Nat.le_of_ble_eq_true rfl) ?_
  refine ⟨by omega, by omega, ?_⟩
  refine b_new (k := 132) hI (by exact hf 132 rfl) (fun q132 hI => ?_)
  refine b_pL (k := 100) (fs' := [.int 0, .ref q101, .ref q102, .int 0, .int 0, .int (-1), .int 0, .int 0, .int 0, .int 0, .ref q110, .ref q111, .ref q112, .ref q113, .ref q114, .ref q115, .ref q116, .ref q117, .ref q118, .ref q119, .ref q120, .ref q121, .ref q122, .ref q123, .ref q124, .ref q125, .ref q126, .ref q127, .ref q128, .int 0, .ref q130, .ref q131, .ref q132, .int 0, .null, .null, .null, .null, .int 0, .int 0, .int 0, .int 0, .null, .null, .null, .null, .int 0, .null, .null, .null, .null, .int 0]) hI (by exact hl) (by rfl) (by rfl) (by rfl) (Nat.le_of_ble_eq_true rfl) ?_
  refine ⟨by omega, by omega, ?_⟩
  refine b_new (k := 134) hI (by exact hf 134 rfl) (fun q134 hI => ?_)
  refine b_pL (k := 100) (fs' := [.int 0, .ref q101, .ref q102, .int 0, .int 0, .int (-1), .int 0, .int 0, .int 0, .int 0, .ref q110, .ref q111, .ref q112, .ref q113, .ref q114, .ref q115, .ref q116, .ref q117, .ref q118, .ref q119, .ref q120, .ref q121, .ref q122, .ref q123, .ref q124, .ref q125, .ref q126, .ref q127, .ref q128, .int 0, .ref q130, .ref q131, .ref q132, .int 0, .ref q134, .null, .null, .null, .int 0, .int 0, .int 0, .int 0, .null, .null, .null, .null, .int 0, .null, .null, .null, .null, .int 0]) hI (by exact hl) (by rfl) (by rfl) (by rfl) (Nat.le_of_ble_eq_true rfl) ?_
  refine ⟨by omega, by omega, ?_⟩
  refine b_new (k := 135) hI (by exact hf 135 rfl) (fun q135 hI => ?_)
  refine b_pL (k := 100) (fs' := [.int 0, .ref q101, .ref q102, .int 0, .int 0, .int (-1), .int 0, .int 0, .int 0, .int 0, .ref q110, .ref q111, .ref q112, .ref q113, .ref q114, .ref q115, .ref q116, .ref q117, .ref q118, .ref q119, .ref q120, .ref q121, .ref q122, .ref q123, .ref q124, .ref q125, .ref q126, .ref q127, .ref q128, .int 0, .ref q130, .ref q131, .ref q132, .int 0, .ref q134, .ref q135, .null, .null, .int 0, .int 0, .int 0, .int 0, .null, .null, .null, .null, .int 0, .null, .null, .null, .null, .int 0]) hI (by exact hl) (by rfl) (by rfl) (by rfl) (Nat.le_of_ble_eq_true rfl) ?_
  refine ⟨by omega, by omega, ?_⟩
  refine b_new (k := 136) hI (by exact hf 136 rfl) (fun q136 hI => ?_)
  refine b_pL (k := 100) (fs' := [.int 0, .ref q101, .ref q102, .int 0, .int 0, .int (-1), .int 0, .int 0, .int 0, .int 0, .ref q110, .ref q111, .ref q112, .ref q113, .ref q114, .ref q115, .ref q116, .ref q117, .ref q118, .ref q119, .ref q120, .ref q121, .ref q122, .ref q123, .ref q124, .ref q125, .ref q126, .ref q127, .ref q128, .int 0, .ref q130, .ref q131, .ref q132, .int 0, .ref q134, .ref q135, .ref q136, .null, .int 0, .int 0, .int 0, .int 0, .null, .null, .null, .null, .int 0, .null, .null, .null, .null, .int 0]) hI (by exact hl) (by rfl) (by rfl) (by rfl) (Nat.le_of_ble_eq_true rfl) ?_
  refine ⟨by omega, by omega, ?_⟩
  refine b_new (k := 137) hI (by exact hf 137 rfl) (fun q137 hI => ?_)
  refine b_pL (k := 100) (fs' := [.int 0, .ref q101, .ref q102, .int 0, .int 0, .int (-1), .int 0, .int 0, .int 0, .int 0, .ref q110, .ref q111, .ref q112, .ref q113, .ref q114, .ref q115, .ref q116, .ref q117, .ref q118, .ref q119, .ref q120, .ref q121, .ref q122, .ref q123, .ref q124, .ref q125, .ref q126, .ref q127, .ref q128, .int 0, .ref q130, .ref q131, .ref q132, .int 0, .ref q134, .ref q135, .ref q136, .ref q137, .int 0, .int 0, .int 0, .int 0, .null, .null, .null, .null, .int 0, .null, .null, .null, .null, .int 0]) hI (by exact hl) (by rfl) (by rfl) (by rfl) (Nat.le_of_ble_eq_true rfl) ?_
  refine ⟨by omega, by omega, ?_⟩
  refine b_new (k := 142) hI (by exact hf 142 rfl) (fun q142 hI => ?_)
  refine b_pL (k := 100) (fs' := [.int 0, .ref q101, .ref q102, .int 0, .int 0, .int (-1), .int 0, .int 0, .int 0, .int 0, .ref q110, .ref q111, .ref q112, .ref q113, .ref q114, .ref q115, .ref q116, .ref q117, .ref q118, .ref q119, .ref q120, .ref q121, .ref q122, .ref q123, .ref q124, .ref q125, .ref q126, .ref q127, .ref q128, .int 0, .ref q130, .ref q131, .ref q132, .int 0, .ref q134, .ref q135, .ref q136, .ref q137, .int 0, .int 0, .int 0, .int 0, .ref q142, .null, .null, .null, .int 0, .null, .null, .null, .null, .int 0]) hI (by exact hl) (by rfl) (by rfl) (by rfl) (Nat.le_of_ble_eq_true rfl) ?_
  refine ⟨by omega, by omega, ?_⟩
  refine b_new (k := 143) hI (by exact hf 143 rfl) (fun q143 hI => ?_)
  refine b_pL (k := 100) (fs' := [.int 0, .ref q101, .ref q102, .int 0, .int 0, .int (-1), .int 0, .int 0, .int 0, .int 0, .ref q110, .ref q111, .ref q112, .ref q113, .ref q114, .ref q115, .ref q116, .ref q117, .ref q118, .ref q119, .ref q120, .ref q121, .ref q122, .ref q123, .ref q124, .ref q125, .ref q126, .ref q127, .ref q128, .int 0, .ref q130, .ref q131, .ref q132, .int 0, .ref q134, .ref q135, .ref q136, .ref q137, .int 0, .int 0, .int 0, .int 0, .ref q142, .ref q143, .null, .null, .int 0, .null, .null, .null, .null, .int 0]) hI (by exact hl) (by rfl) (by rfl) (by rfl) (Nat.le_of_ble_eq_true rfl) ?_
  refine ⟨by omega, by omega, ?_⟩
  refine b_new (k := 144) hI (by exact hf 144 rfl) (fun q144 hI => ?_)
  refine b_pL (k := 100) (fs' := [.int 0, .ref q101, .ref q102, .int 0, .int 0, .int (-1), .int 0, .int 0, .int 0, .int 0, .ref q110, .ref q111, .ref q112, .ref q113, .ref q114, .ref q115, .ref q116, .ref q117, .ref q118, .ref q119, .ref q120, .ref q121, .ref q122, .ref q123, .ref q124, .ref q125, .ref q126, .ref q127, .ref q128, .int 0, .ref q130, .ref q131, .ref q132, .int 0, .ref q134, .ref q135, .ref q136, .ref q137, .int 0, .int 0, .int 0, .int 0, .ref q142, .ref q143, .ref q144, .null, .int 0, .null, .null, .null, .null, .int 0]) hI (by exact hl) (by rfl) (by rfl) (by rfl) (Nat.le_of_ble_eq_true rfl) ?_
  refine ⟨by omega, by omega, ?_⟩
  refine b_new (k := 145) hI (by exact hf 145 rfl) (fun q145 hI => ?_)
  refine b_pL (k := 100) (fs' := [.int 0, .ref q101, .ref q102, .int 0, .int 0, .int (-1), .int 0, .int 0, .int 0, .int 0, .ref q110, .ref q111, .ref q112, .ref q113, .ref q114, .ref q115, .ref q116, .ref q117, .ref q118, .ref q119, .ref q120, .ref q121, .ref q122, .ref q123, .ref q124, .ref q125, .ref q126, .ref q127, .ref q128, .int 0, .ref q130, .ref q131, .ref q132, .int 0, .ref q134, .ref q135, .ref q136, .ref q137, .int 0, .int 0, .int 0, .int 0, .ref q142, .ref q143, .ref q144, .ref q145, .int 0, .null, .null, .null, .null, .int 0]) hI (by exact hl) (by rfl) (by rfl) (by rfl) (Nat.le_of_ble_eq_true rfl) ?_
  refine ⟨by omega, by omega, ?_⟩
  refine b_new (k := 147) hI (by exact hf 147 rfl) (fun q147 hI => ?_)
  refine b_pL (k := 100) (fs' := [.int 0, .ref q101, .ref q102, .int 0, .int 0, .int (-1), .int 0, .int 0, .int 0, .int 0, .ref q110, .ref q111, .ref q112, .ref q113, .ref q114, .ref q115, .ref q116, .ref q117, .ref q118, .ref q119, .ref q120, .ref q121, .ref q122, .ref q123, .ref q124, .ref q125, .ref q126, .ref q127, .ref q128, .int 0, .ref q130, .ref q131, .ref q132, .int 0, .ref q134, .ref q135, .ref q136, .ref q137, .int 0, .int 0, .int 0, .int 0, .ref q142, .ref q143, .ref q144, .ref q145, .int 0, .ref q147, .null, .null, .null, .int 0]) hI (by exact hl) (by rfl) (by rfl) (by rfl) (Nat.le_of_ble_eq_true rfl) ?_
  refine ⟨by omega, by omega, ?_⟩
  refine b_new (k := 148) hI (by exact hf 148 rfl) (fun q148 hI => ?_)
  refine b_pL (k := 100) (fs' := [.int 0, .ref q101, .ref q102, .int 0, .int 0, .int (-1), .int 0, .int 0, .int 0, .int 0, .ref q110, .ref q111, .ref q112, .ref q113, .ref q114, .ref q115, .ref q116, .ref q117, .ref q118, .ref q119, .ref q120, .ref q121, .ref q122, .ref q123, .ref q124, .ref q125, .ref q126, .ref q127, .ref q128, .int 0, .ref q130, .ref q131, .ref q132, .int 0, .ref q134, .ref q135, .ref q136, .ref q137, .int 0, .int 0, .int 0, .int 0, .ref q142, .ref q143, .ref q144, .ref q145, .int 0, .ref q147, .ref q148, .null, .null, .int 0]) hI (by exact hl) (by rfl) (by rfl) (by rfl) (Nat.le_of_ble_eq_true rfl) ?_
  refine ⟨by omega, by omega, ?_⟩
  refine b_new (k := 149) hI (by exact hf 149 rfl) (fun q149 hI => ?_)
  refine b_pL (k := 100) (fs' := [.int 0, .ref q101, .ref q102, .int 0, .int 0, .int (-1), .int 0, .int 0, .int 0, .int 0, .ref q110, .ref q111, .ref q112, .ref q113, .ref q114, .ref q115, .ref q116, .ref q117, .ref q118, .ref q119, .ref q120, .ref q121, .ref q122, .ref q123, .ref q124, .ref q125, .ref q126, .ref q127, .ref q128, .int 0, .ref q130, .ref q131, .ref q132, .int 0, .ref q134, .ref q135, .ref q136, .ref q137, .int 0, .int 0, .int 0, .int 0, .ref q142, .ref q143, .ref q144, .ref q145, .int 0, .ref q147, .ref q148, .ref q149, .null, .int 0]) hI (by exact hl) (by rfl) (by rfl) (by rfl) (Nat.le_of_ble_eq_true rfl) ?_
  refine ⟨by omega, by omega, ?_⟩
  refine b_new (k := 150) hI (by exact hf 150 rfl) (fun q150 hI => ?_)
  refine b_pL (k := 100) (fs' := [.int 0, .ref q101, .ref q102, .int 0, .int 0, .int (-1), .int 0, .int 0, .int 0, .int 0, .ref q110, .ref q111, .ref q112, .ref q113, .ref q114, .ref q115, .ref q116, .ref q117, .ref q118, .ref q119, .ref q120, .ref q121, .ref q122, .ref q123, .ref q124, .ref q125, .ref q126, .ref q127, .ref q128, .int 0, .ref q130, .ref q131, .ref q132, .int 0, .ref q134, .ref q135, .ref q136, .ref q137, .int 0, .int 0, .int 0, .int 0, .ref q142, .ref q143, .ref q144, .ref q145, .int 0, .ref q147, .ref q148, .ref q149, .ref q150, .int 0]) hI (by exact hl) (by rfl) (by rfl) (by rfl) (Nat.le_of_ble_eq_true rfl) ?_
  refine gm_blk (lv := lv) (s := s_mo) (obj := obj) (arr := a_mo) (nm := nm) (b := 100) hI ?_ ?_ ?_ rfl ?_ rfl ?_
  · intro k
    unfold lvB
    cases hs : s_mo k
    · have hk := s_mo_no hs
      have hst : ∀ (o : Nat → Bool) (j : Nat), k ≠ j → stL o j k = o k := fun o j hh => if_neg hh
      repeat (refine Eq.trans (hst _ _ (by omega)) ?_)
      rfl
    · rcases s_mo_yes hs with rfl | rfl | rfl | rfl | rfl | rfl | rfl | rfl | rfl | rfl | rfl | rfl | rfl | rfl | rfl | rfl | rfl | rfl | rfl | rfl | rfl | rfl | rfl | rfl | rfl | rfl | rfl | rfl | rfl | rfl | rfl | rfl | rfl | rfl | rfl | rfl <;> rfl
  · intro k hs
    have hk := s_mo_no hs
    have hst : ∀ (o : Nat → Nat) (j x : Nat), k ≠ j → upN o j x k = o k := fun o j x hh => if_neg hh
    repeat (refine Eq.trans (hst _ _ _ (by omega)) ?_)
    rfl
  · intro k hs
    rcases s_mo_yes hs with rfl | rfl | rfl | rfl | rfl | rfl | rfl | rfl | rfl | rfl | rfl | rfl | rfl | rfl | rfl | rfl | rfl | rfl | rfl | rfl | rfl | rfl | rfl | rfl | rfl | rfl | rfl | rfl | rfl | rfl | rfl | rfl | rfl | rfl | rfl | rfl <;> rfl
  · intro k hs hkb
    have hk := s_mo_no hs
    have hst : ∀ (o : Nat → xo) (j : Nat) (x : xo), k ≠ j → stO o j x k = o k := fun o j x hh => if_neg hh
    repeat (refine Eq.trans (hst _ _ _ (by omega)) ?_)
    rfl
  · exact h _
