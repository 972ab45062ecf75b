/-! Memory as it is being built: cell k, where it is live, stands at nm k and holds obj k. -/
noncomputable def gm (lv : Nat → Bool) (obj : Nat → xo) (nm : Nat → Nat) (g : xh) : xh := fun q =>
  haveI := Classical.propDecidable (∃ k, lv k = true ∧ nm k = q)
  if h : ∃ k, lv k = true ∧ nm k = q then some (obj h.choose) else g q
def gI (lv : Nat → Bool) (nm : Nat → Nat) : Prop := ∀ i j, lv i = true → lv j = true → nm i = nm j → i = j
def stO (obj : Nat → xo) (k : Nat) (o : xo) : Nat → xo := fun j => if j = k then o else obj j
def stL (lv : Nat → Bool) (k : Nat) : Nat → Bool := fun j => if j = k then true else lv j
section
variable {lv : Nat → Bool} {obj obj' : Nat → xo} {nm nm' : Nat → Nat} {g : xh}
theorem gm_at (hI : gI lv nm) {k : Nat} (hl : lv k = true) : gm lv obj nm g (nm k) = some (obj k) := by
  have h : ∃ k', lv k' = true ∧ nm k' = nm k := ⟨k, hl, rfl⟩
  have hk : h.choose = k := hI _ _ h.choose_spec.1 hl h.choose_spec.2
  unfold gm
  rw [dif_pos h, hk]
theorem gm_no {q : Nat} (h : ¬ ∃ k, lv k = true ∧ nm k = q) : gm lv obj nm g q = g q := by unfold gm; rw [dif_neg h]
theorem gm_set (hI : gI lv nm) {k : Nat} {o : xo} (hl : lv k = true) : xset (gm lv obj nm g) (nm k) o = gm lv (stO obj k o) nm g := by
  funext q
  by_cases hq : q = nm k
  · subst hq
    rw [xset_eq, gm_at hI hl, stO, if_pos rfl]
  · rw [xset_ne hq]
    by_cases h : ∃ k', lv k' = true ∧ nm k' = q
    · obtain ⟨k', h1, rfl⟩ := h
      rw [gm_at hI h1, gm_at hI h1, stO, if_neg (fun ee => hq (by rw [ee]))]
    · rw [gm_no h, gm_no h]
theorem gm_new (hI : gI lv nm) {k q : Nat} {o : xo} (hk : lv k = false) (hq : gm lv obj nm g q = none) : xset (gm lv obj nm g) q o = gm (stL lv k) (stO obj k o) (upN nm k q) g ∧ gI (stL lv k) (upN nm k q) := by
  have hn : ∀ j, lv j = true → nm j ≠ q := fun j hj he => by rw [← he, gm_at hI hj] at hq; cases hq
  have hI' : gI (stL lv k) (upN nm k q) := by
    intro i j hi hj he
    unfold stL at hi hj
    unfold upN at he
    by_cases e1 : i = k
    · by_cases e2 : j = k
      · rw [e1, e2]
      · rw [if_pos e1, if_neg e2] at he
        rw [if_neg e2] at hj
        exact absurd he.symm (hn j hj)
    · rw [if_neg e1] at hi
      by_cases e2 : j = k
      · rw [if_neg e1, if_pos e2] at he
        exact absurd he (hn i hi)
      · rw [if_neg e1, if_neg e2] at he
        rw [if_neg e2] at hj
        exact hI i j hi hj he
  refine ⟨?_, hI'⟩
  have hkl : stL lv k k = true := if_pos rfl
  funext r
  by_cases hr : r = q
  · subst hr
    rw [xset_eq]
    have := gm_at (obj := stO obj k o) (g := g) hI' hkl
    rw [upN_eq, stO, if_pos rfl] at this
    exact this.symm
  · rw [xset_ne hr]
    by_cases h : ∃ j, lv j = true ∧ nm j = r
    · obtain ⟨j, h1, rfl⟩ := h
      have hjk : j ≠ k := fun ee => by rw [ee, hk] at h1; cases h1
      have h2 : stL lv k j = true := by unfold stL; rw [if_neg hjk]; exact h1
      have := gm_at (obj := stO obj k o) (g := g) hI' h2
      rw [upN_ne hjk, stO, if_neg hjk] at this
      rw [gm_at hI h1]; exact this.symm
    · rw [gm_no h, gm_no]
      rintro ⟨j, h1, h2⟩
      unfold stL at h1
      by_cases hjk : j = k
      · rw [hjk, upN_eq] at h2; exact hr h2.symm
      · rw [if_neg hjk] at h1
        rw [upN_ne hjk] at h2
        exact h ⟨j, h1, h2⟩
theorem b_new {P : Nat → xh → Prop} {k : Nat} {o : xo} (hI : gI lv nm) (hk : lv k = false) (h : ∀ q, gI (stL lv k) (upN nm k q) → P q (gm (stL lv k) (stO obj k o) (upN nm k q) g)) : ∀ q, gm lv obj nm g q = none → ∀ h', h' = xset (gm lv obj nm g) q o → P q h' := by
  rintro q hq h' rfl
  obtain ⟨h1, h2⟩ := gm_new (o := o) hI hk hq
  rw [h1]; exact h q h2
theorem b_pV {P : xh → Prop} {k ci j q : Nat} {v : Value} {fs : List Value} (hI : gI lv nm) (hl : lv k = true) (hq : nm k = q) (ho : obj k = .inr (ci, fs)) (hj : j < fs.length) (h : P (gm lv (stO obj k (.inr (ci, fs.set j v))) nm g)) : ∃ h', pV (gm lv obj nm g) q ci j v = some h' ∧ P h' := by
  subst hq
  refine ⟨_, ?_, h⟩
  simp only [pV, gm_at hI hl, ho, hj, and_self, if_true]
  rw [gm_set hI hl]
theorem b_fR {P : Nat → Prop} {k ci j q r : Nat} {fs : List Value} (hI : gI lv nm) (hl : lv k = true) (hq : nm k = q) (ho : obj k = .inr (ci, fs)) (hj : fs[j]? = some (.ref r)) (h : P r) : ∃ o, fR (gm lv obj nm g) q ci j = some o ∧ P o := by
  subst hq
  refine ⟨_, ?_, h⟩
  simp only [fR, fV, gm_at hI hl, ho, if_true, hj]
theorem b_fN {P : Option Nat → Prop} {k ci j q : Nat} {fs : List Value} (hI : gI lv nm) (hl : lv k = true) (hq : nm k = q) (ho : obj k = .inr (ci, fs)) (hj : fs[j]? = some .null) (h : P none) : ∃ o, fN (gm lv obj nm g) q ci j = some o ∧ P o := by
  subst hq
  refine ⟨_, ?_, h⟩
  simp only [fN, fV, gm_at hI hl, ho, if_true, hj]
theorem b_cls {P : Prop} {k ci q : Nat} {fs : List Value} (hI : gI lv nm) (hl : lv k = true) (hq : nm k = q) (ho : obj k = .inr (ci, fs)) (h : P) : xcls (gm lv obj nm g) q ci ∧ P := by
  subst hq
  exact ⟨⟨fs, by rw [gm_at hI hl, ho]⟩, h⟩
theorem b_sR {P : xh → Prop} {k t n i q r : Nat} {x : Int32} {f : Nat → Option Nat} (hI : gI lv nm) (hl : lv k = true) (hq : nm k = q) (ho : obj k = .inl (t, n, .inr (.inr (.inr (.inr f))))) (hx : x = Int32.ofNat i) (hi : i < n) (hn : n < 2 ^ 31) (h : P (gm lv (stO obj k (.inl (t, n, .inr (.inr (.inr (.inr (va_up f i (some r)))))))) nm g)) : ∃ h', sR (gm lv obj nm g) q t x r = some h' ∧ P h' := by
  subst hq
  subst hx
  refine ⟨_, ?_, h⟩
  simp only [sR, gm_at hI hl, ho]
  rw [if_pos ⟨trivial, (in_of hi hn).1⟩, (in_of hi hn).2, gm_set hI hl]
theorem b_sI {P : xh → Prop} {k t n i q : Nat} {x v : Int32} {f : Nat → Int32} (hI : gI lv nm) (hl : lv k = true) (hq : nm k = q) (ho : obj k = .inl (t, n, .inl f)) (hx : x = Int32.ofNat i) (hi : i < n) (hn : n < 2 ^ 31) (h : P (gm lv (stO obj k (.inl (t, n, .inl (upd f i v)))) nm g)) : ∃ h', sI (gm lv obj nm g) q t x v = some h' ∧ P h' := by
  subst hq
  subst hx
  refine ⟨_, ?_, h⟩
  simp only [sI, gm_at hI hl, ho]
  rw [if_pos ⟨trivial, (in_of hi hn).1⟩, (in_of hi hn).2, gm_set hI hl]
/-- two pictures of one memory -/
theorem gm_eq {lv' : Nat → Bool} (π : Nat → Nat) (hI : gI lv nm) (hI' : gI lv' nm') (hπ : ∀ k, π (π k) = k) (hlv : ∀ k, lv' k = lv (π k)) (hnm : ∀ k, lv' k = true → nm' k = nm (π k)) (hobj : ∀ k, lv' k = true → obj' k = obj (π k)) : gm lv obj nm g = gm lv' obj' nm' g := by
  funext q
  by_cases h : ∃ k, lv k = true ∧ nm k = q
  · obtain ⟨k, h1, rfl⟩ := h
    have h2 : lv' (π k) = true := by rw [hlv, hπ]; exact h1
    have h3 := hnm _ h2
    rw [hπ] at h3
    rw [gm_at hI h1, ← h3, gm_at hI' h2, hobj _ h2, hπ]
  · rw [gm_no h, gm_no]
    rintro ⟨k, h1, h2⟩
    exact h ⟨π k, by rw [← hlv]; exact h1, by rw [← hnm k h1]; exact h2⟩
end
theorem mem_gm {e : xenv} {w : Bool} {F : Nat → Nat → Int32} {L : Nat → Nat → Int64} {g : xh} : mem e w F L g = gm (li w) (fun k => ob e w (F k) (L k) k) (ad e) g := rfl
theorem ad_gI {e : xenv} {lv : Nat → Bool} : gI lv (ad e) := fun i j _ _ h => ad_inj h
/-- names that are injective on live cells are the names of an environment -/
theorem env_of {lv : Nat → Bool} {nm : Nat → Nat} {n : Nat} (hb : ∀ k, lv k = true → k < 200) (hI : gI lv nm) : ∃ e : xenv, e.1.2 = n ∧ ∀ k, lv k = true → ad e k = nm k := by
  have hmax : ∀ m, ∃ M, ∀ k, k < m → nm k < M := by
    intro m
    induction m with
    | zero => exact ⟨0, fun k hk => absurd hk (Nat.not_lt_zero _)⟩
    | succ m ih =>
      obtain ⟨M, hM⟩ := ih
      refine ⟨M + nm m + 1, fun k hk => ?_⟩
      by_cases e0 : k = m
      · rw [e0]; omega
      · have := hM k (by omega); omega
  obtain ⟨M, hM⟩ := hmax 200
  refine ⟨⟨(fun k => bif lv k then nm k else M + k, n), fun i j h => ?_⟩, rfl, fun k hk => ?_⟩
  · dsimp only at h
    cases hi : lv i <;> cases hj : lv j <;> rw [hi, hj] at h <;> dsimp only [cond] at h
    · omega
    · have := hM j (hb j hj); omega
    · have := hM i (hb i hi); omega
    · exact hI i j hi hj h
  · show (bif lv k then nm k else M + k) = nm k
    rw [hk]; rfl
theorem li_lt {w : Bool} {k : Nat} (h : li w k = true) : k < 200 := by
  unfold li at h
  simp only [Bool.or_eq_true, Bool.and_eq_true, Nat.blt_eq] at h
  omega
theorem blt_cg {α : Type} {k c : Nat} {x y x' y' : α} (h1 : k < c → x = x') (h2 : ¬ k < c → y = y') : cond (Nat.blt k c) x y = cond (Nat.blt k c) x' y' := by
  cases hb : Nat.blt k c
  · exact h2 (fun hh => by rw [Nat.blt_eq.mpr hh] at hb; cases hb)
  · exact h1 (Nat.blt_eq.mp hb)
theorem ob_congr {e e' : xenv} {w w' : Bool} {f : Nat → Int32} {l : Nat → Int64} {k : Nat} (h : ∀ j, j < 160 → li false j = true → ad e' j = ad e j) (hn : e'.1.2 = e.1.2) (hk : k < 160) (hk6 : k ≠ 60) : ob e' w' f l k = ob e w f l k := by
  unfold ob
  repeat' (refine blt_cg (fun _ => ?_) (fun _ => ?_))
  all_goals first
    | rfl
    | (exfalso; omega)
    | (simp (discharger := decide) only [h, hn])
