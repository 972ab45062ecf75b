/-! The flat memory of a run of the law: every cell that it uses has a number k; it stands at ad e k; its ints are row k of F, its longs row k of L. -/
abbrev xenv : Type := {e : (Nat → Nat) × Nat // ∀ i j, e.1 i = e.1 j → i = j}
def ad (e : xenv) (k : Nat) : Nat := e.1.1 k
theorem ad_inj {e : xenv} {i j : Nat} (h : ad e i = ad e j) : i = j := e.2 i j h
def ob (e : xenv) (w : Bool) (f : Nat → Int32) (l : Nat → Int64) (k : Nat) : xo := bif Nat.blt k 112 then (bif Nat.blt k 48 then (bif Nat.blt k 24 then (bif Nat.blt k 7 then (bif Nat.blt k 3 then (bif Nat.blt k 1 then (.inr (0, [.int (f 0), .int (f 1), .int (f 2), .int (f 3), .int (f 4), .int (f 5), .ref (ad e 1), .ref (ad e 2), .ref (ad e 3), .ref (ad e 4), .ref (ad e 5), .ref (ad e 6), .ref (ad e 7), .ref (ad e 8), .ref (ad e 9), .ref (ad e 10)])) else (bif Nat.blt k 2 then (.inl (1, 201, .inl f)) else (.inl (0, 201, .inl f)))) else (bif Nat.blt k 5 then (bif Nat.blt k 4 then (.inl (0, 201, .inl f)) else (.inl (0, 5, .inl f))) else (bif Nat.blt k 6 then (.inl (0, 6, .inl f)) else (.inl (0, 6, .inl f))))) else (bif Nat.blt k 20 then (bif Nat.blt k 9 then (bif Nat.blt k 8 then (.inl (0, 8, .inl f)) else (.inl (0, 150, .inl f))) else (bif Nat.blt k 10 then (.inl (1, 760, .inl f)) else (.inl (0, 19, .inl f)))) else (bif Nat.blt k 22 then (bif Nat.blt k 21 then (.inr (0, [.int (f 0), .int (f 1), .int (f 2), .int (f 3), .int (f 4), .int (f 5), .ref (ad e 21), .ref (ad e 22), .ref (ad e 23), .ref (ad e 24), .ref (ad e 25), .ref (ad e 26), .ref (ad e 27), .ref (ad e 28), .ref (ad e 29), .ref (ad e 30)])) else (.inl (1, 201, .inl f))) else (bif Nat.blt k 23 then (.inl (0, 201, .inl f)) else (.inl (0, 201, .inl f)))))) else (bif Nat.blt k 40 then (bif Nat.blt k 27 then (bif Nat.blt k 25 then (.inl (0, 5, .inl f)) else (bif Nat.blt k 26 then (.inl (0, 6, .inl f)) else (.inl (0, 6, .inl f)))) else (bif Nat.blt k 29 then (bif Nat.blt k 28 then (.inl (0, 8, .inl f)) else (.inl (0, 150, .inl f))) else (bif Nat.blt k 30 then (.inl (1, 760, .inl f)) else (.inl (0, 19, .inl f))))) else (bif Nat.blt k 44 then (bif Nat.blt k 42 then (bif Nat.blt k 41 then (.inr (0, [.int (f 0), .int (f 1), .int (f 2), .int (f 3), .int (f 4), .int (f 5), .ref (ad e 41), .ref (ad e 42), .ref (ad e 43), .ref (ad e 44), .ref (ad e 45), .ref (ad e 46), .ref (ad e 47), .ref (ad e 48), .ref (ad e 49), .ref (ad e 50)])) else (.inl (1, 201, .inl f))) else (bif Nat.blt k 43 then (.inl (0, 201, .inl f)) else (.inl (0, 201, .inl f)))) else (bif Nat.blt k 46 then (bif Nat.blt k 45 then (.inl (0, 5, .inl f)) else (.inl (0, 6, .inl f))) else (bif Nat.blt k 47 then (.inl (0, 6, .inl f)) else (.inl (0, 8, .inl f))))))) else (bif Nat.blt k 72 then (bif Nat.blt k 64 then (bif Nat.blt k 60 then (bif Nat.blt k 49 then (.inl (0, 150, .inl f)) else (bif Nat.blt k 50 then (.inl (1, 760, .inl f)) else (.inl (0, 19, .inl f)))) else (bif Nat.blt k 62 then (bif Nat.blt k 61 then (.inr (11, [.ref (ad e 61), .ref (ad e 64), .ref (ad e 75), .ref (ad e 76), bif w then .ref (ad e 160) else .null])) else (.inr (8, [.ref (ad e 62), .ref (ad e 63), .int (f 2)]))) else (bif Nat.blt k 63 then (.inl (1, 20, .inl f)) else (.inl (1, 6000, .inl f))))) else (bif Nat.blt k 68 then (bif Nat.blt k 66 then (bif Nat.blt k 65 then (.inr (5, [.ref (ad e 61), .ref (ad e 68), .ref (ad e 40), .ref (ad e 65), .ref (ad e 66), .ref (ad e 67), .int (f 6), .int (f 7), .int (f 8), .int (f 9), .int (f 10), .int (f 11), .int (f 12)])) else (.inl (0, 5, .inl f))) else (bif Nat.blt k 67 then (.inl (0, 314, .inl f)) else (.inl (0, 314, .inl f)))) else (bif Nat.blt k 70 then (bif Nat.blt k 69 then (.inr (6, [.ref (ad e 69), .ref (ad e 70), .ref (ad e 71), .ref (ad e 72), .int (f 4)])) else (.inl (0, 150, .inl f))) else (bif Nat.blt k 71 then (.inl (2, 201, .inl f)) else (.inl (2, 201, .inl f)))))) else (bif Nat.blt k 81 then (bif Nat.blt k 77 then (bif Nat.blt k 75 then (.inl (0, 201, .inl f)) else (bif Nat.blt k 76 then (.inl (5, 2, .inr (.inr (.inr (.inr (fun i => bif Nat.beq i 0 then some (ad e 0) else bif Nat.beq i 1 then some (ad e 20) else none)))))) else (.inr (4, [.ref (ad e 75), .ref (ad e 77), .ref (ad e 78), .ref (ad e 79)])))) else (bif Nat.blt k 79 then (bif Nat.blt k 78 then (.inl (0, 2, .inl f)) else (.inl (0, 5, .inl f))) else (bif Nat.blt k 80 then (.inl (0, 201, .inl f)) else (.inl (100, e.1.2, .inl f))))) else (bif Nat.blt k 101 then (bif Nat.blt k 83 then (bif Nat.blt k 82 then (.inl (100, 3, .inl f)) else (.inl (100, 5, .inl f))) else (bif Nat.blt k 100 then (.inl (3, 1, .inr (.inl l))) else (.inr (12, [.int (f 0), .ref (ad e 101), .ref (ad e 102), .int (f 3), .int (f 4), .int (f 5), .int (f 6), .int (f 7), .int (f 8), .int (f 9), .ref (ad e 110), .ref (ad e 111), .ref (ad e 112), .ref (ad e 113), .ref (ad e 114), .ref (ad e 115), .ref (ad e 116), .ref (ad e 117), .ref (ad e 118), .ref (ad e 119), .ref (ad e 120), .ref (ad e 121), .ref (ad e 122), .ref (ad e 123), .ref (ad e 124), .ref (ad e 125), .ref (ad e 126), .ref (ad e 127), .ref (ad e 128), .int (f 29), .ref (ad e 130), .ref (ad e 131), .ref (ad e 132), .int (f 33), .ref (ad e 134), .ref (ad e 135), .ref (ad e 136), .ref (ad e 137), .int (f 38), .int (f 39), .int (f 40), .int (f 41), .ref (ad e 142), .ref (ad e 143), .ref (ad e 144), .ref (ad e 145), .int (f 46), .ref (ad e 147), .ref (ad e 148), .ref (ad e 149), .ref (ad e 150), .int (f 51)])))) else (bif Nat.blt k 110 then (bif Nat.blt k 102 then (.inl (1, 6000, .inl f)) else (.inl (1, 20, .inl f))) else (bif Nat.blt k 111 then (.inl (0, 15, .inl f)) else (.inl (0, 15, .inl f)))))))) else (bif Nat.blt k 149 then (bif Nat.blt k 127 then (bif Nat.blt k 119 then (bif Nat.blt k 115 then (bif Nat.blt k 113 then (.inl (0, 21, .inl f)) else (bif Nat.blt k 114 then (.inl (0, 21, .inl f)) else (.inl (0, 24, .inl f)))) else (bif Nat.blt k 117 then (bif Nat.blt k 116 then (.inl (0, 450, .inl f)) else (.inl (0, 450, .inl f))) else (bif Nat.blt k 118 then (.inl (0, 450, .inl f)) else (.inl (0, 603, .inl f))))) else (bif Nat.blt k 123 then (bif Nat.blt k 121 then (bif Nat.blt k 120 then (.inl (0, 603, .inl f)) else (.inl (0, 8, .inl f))) else (bif Nat.blt k 122 then (.inl (0, 8, .inl f)) else (.inl (0, 150, .inl f)))) else (bif Nat.blt k 125 then (bif Nat.blt k 124 then (.inl (0, 150, .inl f)) else (.inl (1, 2640, .inl f))) else (bif Nat.blt k 126 then (.inl (0, 66, .inl f)) else (.inl (0, 150, .inl f)))))) else (bif Nat.blt k 136 then (bif Nat.blt k 131 then (bif Nat.blt k 128 then (.inl (0, 300, .inl f)) else (bif Nat.blt k 130 then (.inl (2, 201, .inl f)) else (.inl (2, 2, .inl f)))) else (bif Nat.blt k 134 then (bif Nat.blt k 132 then (.inl (0, 2, .inl f)) else (.inl (3, 402, .inr (.inl l)))) else (bif Nat.blt k 135 then (.inl (3, 4096, .inr (.inl l))) else (.inl (4, 131072, .inl f))))) else (bif Nat.blt k 144 then (bif Nat.blt k 142 then (bif Nat.blt k 137 then (.inl (0, 4096, .inl f)) else (.inl (0, 4096, .inl f))) else (bif Nat.blt k 143 then (.inl (2, 4096, .inl f)) else (.inl (2, 4096, .inl f)))) else (bif Nat.blt k 147 then (bif Nat.blt k 145 then (.inl (2, 4096, .inl f)) else (.inl (0, 256, .inl f))) else (bif Nat.blt k 148 then (.inl (2, 804, .inl f)) else (.inl (0, 402, .inl f))))))) else (bif Nat.blt k 173 then (bif Nat.blt k 165 then (bif Nat.blt k 161 then (bif Nat.blt k 150 then (.inl (0, 300, .inl f)) else (bif Nat.blt k 160 then (.inl (0, 300, .inl f)) else (.inr (10, [.ref (ad e 75), .ref (ad e 161), .ref (ad e 165), .ref (ad e 170), .ref (ad e 175), .ref (ad e 180), .ref (ad e 190), .int (f 7), .int (f 8), .int (f 9), .int (f 10)])))) else (bif Nat.blt k 163 then (bif Nat.blt k 162 then (.inr (4, [.ref (ad e 75), .ref (ad e 162), .ref (ad e 163), .ref (ad e 164)])) else (.inl (0, 2, .inl f))) else (bif Nat.blt k 164 then (.inl (0, 5, .inl f)) else (.inl (0, 201, .inl f))))) else (bif Nat.blt k 169 then (bif Nat.blt k 167 then (bif Nat.blt k 166 then (.inr (7, [.ref (ad e 166), .ref (ad e 167), .ref (ad e 168), .ref (ad e 169), .int (f 4), .int (f 5)])) else (.inl (0, 25728, .inl f))) else (bif Nat.blt k 168 then (.inl (0, 1024, .inl f)) else (.inl (0, 4096, .inl f)))) else (bif Nat.blt k 171 then (bif Nat.blt k 170 then (.inl (0, 2, .inl f)) else (.inr (9, [.ref (ad e 165), .ref (ad e 171), .ref (ad e 172), .ref (ad e 173), .ref (ad e 174), .int (f 5), .int (f 6), .int (f 7)]))) else (bif Nat.blt k 172 then (.inl (0, 4096, .inl f)) else (.inl (0, 4096, .inl f)))))) else (bif Nat.blt k 183 then (bif Nat.blt k 177 then (bif Nat.blt k 175 then (bif Nat.blt k 174 then (.inl (0, 4096, .inl f)) else (.inl (0, 4096, .inl f))) else (bif Nat.blt k 176 then (.inr (1, [.ref (ad e 165), .ref (ad e (bif (f 50 == 0) then 176 else 177)), .ref (ad e (bif (f 50 == 0) then 177 else 176)), .int (f 3), .int (f 4), .int (f 5), .int (f 6)])) else (.inl (2, 4096, .inl f)))) else (bif Nat.blt k 181 then (bif Nat.blt k 180 then (.inl (2, 4096, .inl f)) else (.inr (2, [.ref (ad e 181), .ref (ad e 182), .ref (ad e 183), .ref (ad e 184), .ref (ad e 185), .ref (ad e 186), .int (f 6)]))) else (bif Nat.blt k 182 then (.inl (0, 402, .inl f)) else (.inl (0, 402, .inl f))))) else (bif Nat.blt k 190 then (bif Nat.blt k 185 then (bif Nat.blt k 184 then (.inl (0, 402, .inl f)) else (.inl (0, 402, .inl f))) else (bif Nat.blt k 186 then (.inl (0, 402, .inl f)) else (.inl (0, 402, .inl f)))) else (bif Nat.blt k 192 then (bif Nat.blt k 191 then (.inr (3, [.ref (ad e 191), .ref (ad e 192), .ref (ad e 193), .int (f 3)])) else (.inl (0, 300, .inl f))) else (bif Nat.blt k 193 then (.inl (0, 300, .inl f)) else (.inl (0, 201, .inl f))))))))
def li (w : Bool) (k : Nat) : Bool := (Nat.blt k 160 && !(Nat.beq k 11 || Nat.beq k 12 || Nat.beq k 13 || Nat.beq k 14 || Nat.beq k 15 || Nat.beq k 16 || Nat.beq k 17 || Nat.beq k 18 || Nat.beq k 19 || Nat.beq k 31 || Nat.beq k 32 || Nat.beq k 33 || Nat.beq k 34 || Nat.beq k 35 || Nat.beq k 36 || Nat.beq k 37 || Nat.beq k 38 || Nat.beq k 39 || Nat.beq k 51 || Nat.beq k 52 || Nat.beq k 53 || Nat.beq k 54 || Nat.beq k 55 || Nat.beq k 56 || Nat.beq k 57 || Nat.beq k 58 || Nat.beq k 59 || Nat.beq k 73 || Nat.beq k 74 || Nat.beq k 84 || Nat.beq k 85 || Nat.beq k 86 || Nat.beq k 87 || Nat.beq k 88 || Nat.beq k 89 || Nat.beq k 90 || Nat.beq k 91 || Nat.beq k 92 || Nat.beq k 93 || Nat.beq k 94 || Nat.beq k 95 || Nat.beq k 96 || Nat.beq k 97 || Nat.beq k 98 || Nat.beq k 99 || Nat.beq k 103 || Nat.beq k 104 || Nat.beq k 105 || Nat.beq k 106 || Nat.beq k 107 || Nat.beq k 108 || Nat.beq k 109 || Nat.beq k 129 || Nat.beq k 133 || Nat.beq k 138 || Nat.beq k 139 || Nat.beq k 140 || Nat.beq k 141 || Nat.beq k 146 || Nat.beq k 151 || Nat.beq k 152 || Nat.beq k 153 || Nat.beq k 154 || Nat.beq k 155 || Nat.beq k 156 || Nat.beq k 157 || Nat.beq k 158 || Nat.beq k 159)) || (w && Nat.ble 160 k && !(Nat.beq k 178 || Nat.beq k 179 || Nat.beq k 187 || Nat.beq k 188 || Nat.beq k 189) && Nat.blt k 194)
def up (F : Nat → Nat → Int32) (k i : Nat) (x : Int32) : Nat → Nat → Int32 := fun k' => if k' = k then upd (F k) i x else F k'
def upL (F : Nat → Nat → Int64) (k i : Nat) (x : Int64) : Nat → Nat → Int64 := fun k' => if k' = k then vp_updL (F k) i x else F k'
def upR (F : Nat → Nat → Int32) (k : Nat) (f : Nat → Int32) : Nat → Nat → Int32 := fun k' => if k' = k then f else F k'
noncomputable def mem (e : xenv) (w : Bool) (F : Nat → Nat → Int32) (L : Nat → Nat → Int64) (g : xh) : xh := fun q =>
  haveI := Classical.propDecidable (∃ k, li w k = true ∧ ad e k = q)
  if h : ∃ k, li w k = true ∧ ad e k = q then some (ob e w (F h.choose) (L h.choose) h.choose) else g q
theorem mem_at {e : xenv} {w : Bool} {F : Nat → Nat → Int32} {L : Nat → Nat → Int64} {g : xh} {k : Nat} (hl : li w k = true) : mem e w F L g (ad e k) = some (ob e w (F k) (L k) k) := by
  have h : ∃ k', li w k' = true ∧ ad e k' = ad e k := ⟨k, hl, rfl⟩
  have hk : h.choose = k := ad_inj h.choose_spec.2
  unfold mem
  rw [dif_pos h, hk]
theorem mem_set {e : xenv} {w : Bool} {F F' : Nat → Nat → Int32} {L L' : Nat → Nat → Int64} {g : xh} {k : Nat} {o : xo} (hl : li w k = true) (ho : ob e w (F' k) (L' k) k = o) (hF : ∀ k', k' ≠ k → F' k' = F k') (hL : ∀ k', k' ≠ k → L' k' = L k') : xset (mem e w F L g) (ad e k) o = mem e w F' L' g := by
  funext q
  by_cases hq : q = ad e k
  · subst hq
    rw [xset_eq, mem_at hl, ho]
  · rw [xset_ne hq]
    unfold mem
    by_cases h : ∃ k', li w k' = true ∧ ad e k' = q
    · rw [dif_pos h, dif_pos h]
      have hc : h.choose ≠ k := fun hc => hq (by rw [← h.choose_spec.2, hc])
      rw [hF _ hc, hL _ hc]
    · rw [dif_neg h, dif_neg h]
theorem mem_out {e : xenv} {w : Bool} {F : Nat → Nat → Int32} {L : Nat → Nat → Int64} {g : xh} {q : Nat} {o : xo} (h : mem e w F L g q = none) : xset (mem e w F L g) q o = mem e w F L (xset g q o) := by
  have hn : ¬ ∃ k, li w k = true ∧ ad e k = q := fun ⟨k, hk, hq⟩ => by rw [← hq, mem_at hk] at h; cases h
  funext r
  by_cases hr : r = q
  · subst hr
    rw [xset_eq]; unfold mem; rw [dif_neg hn, xset_eq]
  · rw [xset_ne hr]
    unfold mem
    by_cases hx : ∃ k, li w k = true ∧ ad e k = r
    · rw [dif_pos hx, dif_pos hx]
    · rw [dif_neg hx, dif_neg hx, xset_ne hr]
theorem in_of {i n : Nat} (h : i < n) (hn : n < 2 ^ 31) : ¬ (Int32.ofNat i < 0 ∨ n ≤ (Int32.ofNat i).toNatClampNeg) ∧ (Int32.ofNat i).toNatClampNeg = i := by
  have hi : i < 2 ^ 31 := Nat.lt_trans h hn
  have e : (Int32.ofNat i).toInt = i := Int32.toInt_ofNat_of_lt hi
  have e2 : (Int32.ofNat i).toNatClampNeg = i := by
    rw [Int32.toNatClampNeg, e]; rfl
  refine ⟨?_, e2⟩
  rw [e2, Int32.lt_iff_toInt_lt, e]
  rintro (h1 | h1)
  · have : (0 : Int32).toInt = 0 := rfl
    omega
  · omega
section
variable {e : xenv} {w : Bool} {F : Nat → Nat → Int32} {L : Nat → Nat → Int64} {g : xh}
theorem s_fI {P : Int32 → Prop} {k ci j : Nat} {v : Int32} {fs : List Value} (hl : li w k = true) (ho : ob e w (F k) (L k) k = .inr (ci, fs)) (hj : fs[j]? = some (.int v)) (h : P v) : ∃ v, fI (mem e w F L g) (ad e k) ci j = some v ∧ P v := by
  refine ⟨v, ?_, h⟩
  simp only [fI, fV, mem_at hl, ho, if_true, hj]
theorem s_fR {P : Nat → Prop} {k ci j q : Nat} {fs : List Value} (hl : li w k = true) (ho : ob e w (F k) (L k) k = .inr (ci, fs)) (hj : fs[j]? = some (.ref (ad e q))) (h : P (ad e q)) : ∃ v, fR (mem e w F L g) (ad e k) ci j = some v ∧ P v := by
  refine ⟨_, ?_, h⟩
  simp only [fR, fV, mem_at hl, ho, if_true, hj]
theorem s_cls {P : Prop} {k ci : Nat} {fs : List Value} (hl : li w k = true) (ho : ob e w (F k) (L k) k = .inr (ci, fs)) (h : P) : xcls (mem e w F L g) (ad e k) ci ∧ P :=
  ⟨⟨fs, by rw [mem_at hl, ho]⟩, h⟩
theorem s_pV {P : xh → Prop} {k ci j : Nat} {x : Int32} {fs : List Value} (hl : li w k = true) (ho : ob e w (F k) (L k) k = .inr (ci, fs)) (hj : j < fs.length) (ho' : ob e w (upd (F k) j x) (L k) k = .inr (ci, fs.set j (.int x))) (h : P (mem e w (up F k j x) L g)) : ∃ h, pV (mem e w F L g) (ad e k) ci j (.int x) = some h ∧ P h := by
  refine ⟨_, ?_, h⟩
  simp only [pV, mem_at hl, ho, hj, and_self, if_true]
  rw [mem_set hl (F' := up F k j x) (L' := L) (by rw [up, if_pos rfl]; exact ho') (fun k' hk => if_neg hk) (fun k' hk => rfl)]
theorem s_aI {P : Int32 → Prop} {k t t' n i : Nat} {x : Int32} {f : Nat → Int32} (hl : li w k = true) (ho : ob e w (F k) (L k) k = .inl (t', n, .inl f)) (ht : t' % 100 = t) (hx : x = Int32.ofNat i) (hi : i < n) (hn : n < 2 ^ 31) (h : P (f i)) : ∃ v, aI (mem e w F L g) (ad e k) t x = some v ∧ P v := by
  subst hx
  refine ⟨_, ?_, h⟩
  simp only [aI, mem_at hl, ho]
  rw [if_pos ⟨ht, (in_of hi hn).1⟩, (in_of hi hn).2]
theorem s_aL {P : Int64 → Prop} {k t t' n i : Nat} {x : Int32} {f : Nat → Int64} (hl : li w k = true) (ho : ob e w (F k) (L k) k = .inl (t', n, .inr (.inl f))) (ht : t' % 100 = t) (hx : x = Int32.ofNat i) (hi : i < n) (hn : n < 2 ^ 31) (h : P (f i)) : ∃ v, aL (mem e w F L g) (ad e k) t x = some v ∧ P v := by
  subst hx
  refine ⟨_, ?_, h⟩
  simp only [aL, mem_at hl, ho]
  rw [if_pos ⟨ht, (in_of hi hn).1⟩, (in_of hi hn).2]
theorem s_aR {P : Nat → Prop} {k t t' n i q : Nat} {x : Int32} {f : Nat → Option Nat} (hl : li w k = true) (ho : ob e w (F k) (L k) k = .inl (t', n, .inr (.inr (.inr (.inr f))))) (ht : t' % 100 = t) (hx : x = Int32.ofNat i) (hi : i < n) (hn : n < 2 ^ 31) (hf : f i = some q) (h : P q) : ∃ v, aR (mem e w F L g) (ad e k) t x = some v ∧ P v := by
  subst hx
  refine ⟨_, ?_, h⟩
  simp only [aR, mem_at hl, ho]
  rw [if_pos ⟨ht, (in_of hi hn).1⟩, (in_of hi hn).2, hf]
theorem s_aN {P : Nat → Prop} {k t t' n : Nat} {y : vp_A} (hl : li w k = true) (ho : ob e w (F k) (L k) k = .inl (t', y)) (hy : y.1 = n) (ht : t' % 100 = t) (h : P n) : ∃ v, aN (mem e w F L g) (ad e k) t = some v ∧ P v := by
  subst hy
  refine ⟨_, ?_, h⟩
  obtain ⟨n, y⟩ := y
  simp only [aN, mem_at hl, ho, ht, if_true]
theorem s_sI {P : xh → Prop} {k t n i : Nat} {x v : Int32} {f : Nat → Int32} (hl : li w k = true) (ho : ob e w (F k) (L k) k = .inl (t, n, .inl f)) (hf : f = F k) (ho' : ob e w (upd (F k) i v) (L k) k = .inl (t, n, .inl (upd f i v))) (hx : x = Int32.ofNat i) (hi : i < n) (hn : n < 2 ^ 31) (h : P (mem e w (up F k i v) L g)) : ∃ h, sI (mem e w F L g) (ad e k) t x v = some h ∧ P h := by
  subst hx
  refine ⟨_, ?_, h⟩
  simp only [sI, mem_at hl, ho]
  rw [if_pos ⟨trivial, (in_of hi hn).1⟩, (in_of hi hn).2]
  rw [mem_set hl (F' := up F k i v) (L' := L) (by rw [up, if_pos rfl]; exact ho') (fun k' hk => if_neg hk) (fun k' hk => rfl)]
theorem s_sL {P : xh → Prop} {k t n i : Nat} {x : Int32} {v : Int64} {f : Nat → Int64} (hl : li w k = true) (ho : ob e w (F k) (L k) k = .inl (t, n, .inr (.inl f))) (hf : f = L k) (ho' : ob e w (F k) (vp_updL (L k) i v) k = .inl (t, n, .inr (.inl (vp_updL f i v)))) (hx : x = Int32.ofNat i) (hi : i < n) (hn : n < 2 ^ 31) (h : P (mem e w F (upL L k i v) g)) : ∃ h, sL (mem e w F L g) (ad e k) t x v = some h ∧ P h := by
  subst hx
  refine ⟨_, ?_, h⟩
  simp only [sL, mem_at hl, ho]
  rw [if_pos ⟨trivial, (in_of hi hn).1⟩, (in_of hi hn).2]
  rw [mem_set hl (F' := F) (L' := upL L k i v) (by rw [upL, if_pos rfl]; exact ho') (fun k' hk => rfl) (fun k' hk => if_neg hk)]
end
theorem xloop_dn {α : Type} {G : (α → Prop) → α → Prop} (I : Nat → α → Prop) (h : ∀ (n : Nat) (a : α) (k : α → Prop), I n a → (∀ m b, m < n → I m b → k b) → G k a) (n : Nat) (a : α) (ha : I n a) : ∃ f, xloop G f a := by
  have key : ∀ (m n : Nat) (b : α), I n b → n < m → xloop G m b := by
    intro m
    induction m with
    | zero => intro n b _ hm; omega
    | succ m ih => intro n b hb hm; exact h n b _ hb (fun m' b' hm' hb' => ih m' b' hb' (by omega))
  exact ⟨n + 1, key (n + 1) n a ha (Nat.lt_succ_self n)⟩
