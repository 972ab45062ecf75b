/-! methods that may throw -/
def xen (i : Nat) : String := match i with
  | 0 => "java/lang/IllegalStateException"
  | _ => "java/lang/IllegalArgumentException"
def xexc (i a : Nat) (t : State) : Prop := ∃ cell : Cell, t.heap[a]? = some cell ∧ cell.vm.isStatics = false ∧ t.vm.findClass (xen i) = some cell.cls
def xthw (w : Cond) : Bool := match w with
  | .castable _ _ => true
  | .declares _ => true
  | _ => false
def xLS (C nm d : String) (A : Nat → Prop) (U : State) (H : Heap) : Prop := ∃ (c : ClassId) (k : Class) (i : Nat) (f : Field) (a : Nat) (cell : Cell), U.vm.findClass C = some c ∧ U.fieldFound? C nm d = some (c, k, i, f) ∧ f.isStatic = true ∧ k.statics = some a ∧ H[a]? = some cell ∧ cell.vm.isStatics = true ∧ cell.cls = c ∧ f.slot < cell.slots.size ∧ k.staticTypes[f.slot]? = some f.type ∧ ¬ A a
theorem xLS.go {C nm d : String} {A B : Nat → Prop} {u U : State} {H H1 : Heap} (hvm : u.vm.Alike U.vm) (hq : ∀ a : Nat, a < H.size → ¬ A a → H1[a]? = H[a]?) (hAB : ∀ q, B q → A q) (h : xLS C nm d A u H) : xLS C nm d B U H1 := by
  obtain ⟨c, k, i, f, a, cell, h0, h1, h2, h3, h4, h5, h6, h7, h8, h9⟩ := h
  obtain ⟨k', hi', he⟩ := State.fieldFound?_setVm hvm h1
  exact ⟨c, k', i, f, a, cell, by rw [hvm.findClass]; exact h0, hi', h2, by rw [he]; exact h3, by rw [hq a (Array.getElem?_eq_some_iff.mp h4).1 h9]; exact h4, h5, h6, h7, by rw [he]; exact h8, fun z => h9 (hAB a z)⟩
theorem xLS.of {ar : Array Value} {s : State} {C nm d : String} {A : Nat → Prop} (h : (Cond.laysStatic C nm d).before ar s = true) (hA : ∀ a : Nat, a < s.heap.size → ¬ A a) : xLS C nm d A s s.heap := by
  obtain ⟨c, k, i, f, a, cell, h0, h1, h2, h3, h4, h5, h6, h7, h8⟩ := Cond.laysStatic_spec h
  exact ⟨c, k, i, f, a, cell, h0, h1, h2, h3, h4, h5, h6, h7, h8, hA a (Array.getElem?_eq_some_iff.mp h4).1⟩
theorem xLS.word {ar : Array Value} {U : State} {C nm d : String} {A : Nat → Prop} (h : xLS C nm d A U U.heap) : (Cond.laysStatic C nm d).before ar U = true := by
  obtain ⟨c, k, i, f, a, cell, h0, h1, h2, h3, h4, h5, h6, h7, h8, -⟩ := h
  simp [Cond.before, Cond.holds, Cond.value, h0, h1, h2, h3, h4, h5, h6, h7, h8]
def xTh (A : Nat → Prop) (U : State) (H : Heap) : Prop := (∀ w ∈ lw_tbl, xthw w = true → va_Nw w U) ∧ va_Nc "java/lang/IllegalArgumentException" "java/lang/IllegalStateException" U ∧ va_Zq "java/lang/Throwable" "UNASSIGNED_STACK" "[Ljava/lang/StackTraceElement;" A U H ∧ va_Zq "java/lang/Throwable" "SUPPRESSED_SENTINEL" "Ljava/util/List;" A U H ∧ (xLS "java/lang/Throwable" "UNASSIGNED_STACK" "[Ljava/lang/StackTraceElement;" A U H ∧ xLS "java/lang/Throwable" "SUPPRESSED_SENTINEL" "Ljava/util/List;" A U H) ∧ (∃ a, vk_R "TwinJudge" 66 "no such circuit, or the file has a fault" a U) ∧ (∃ a, vk_R "TwinJudge" 195 "the circuits do not match" a U) ∧ ∃ a, vk_R "TwinJudge" 198 "an argument is not as it must be" a U
theorem xTh.go {A B : Nat → Prop} {s U : State} {H H1 : Heap} (hW : s.WarmedH U.vm) (hq : ∀ a : Nat, a < H.size → ¬ A a → H1[a]? = H[a]?) (hAB : ∀ q, B q → A q) (h : xTh A s H) : xTh B U H1 := by
  obtain ⟨h1, h0, h2, h3, ⟨h8, h9⟩, ⟨a4, h4⟩, ⟨a5, h5⟩, ⟨a6, h6⟩⟩ := h
  refine ⟨fun w hw ht => ?_, h0.moved hW.alike, ((h2.kept hq).narrow hAB).moved hW.alike, ((h3.kept hq).narrow hAB).moved hW.alike, ⟨h8.go hW.alike hq hAB, h9.go hW.alike hq hAB⟩, ⟨a4, h4.warm hW⟩, ⟨a5, h5.warm hW⟩, ⟨a6, h6.warm hW⟩⟩
  have h7 := h1 w hw ht
  unfold xthw at ht
  split at ht
  · exact va_Nw.warmC hW h7
  · exact va_Nw.warmD hW h7
  · cases ht
theorem xTh.same {A : Nat → Prop} {u U : State} {H : Heap} (hv : u.vm = U.vm) (h : xTh A u H) : xTh A U H := by
  obtain ⟨h1, h0, h2, h3, ⟨h8, h9⟩, ⟨a4, h4⟩, ⟨a5, h5⟩, ⟨a6, h6⟩⟩ := h
  have hal : u.vm.Alike U.vm := by rw [hv]; exact Vm.Alike.refl _
  refine ⟨fun w hw ht => ?_, h0.moved hal, h2.moved hal, h3.moved hal, ⟨h8.go hal (fun _ _ _ => rfl) (fun _ h => h), h9.go hal (fun _ _ _ => rfl) (fun _ h => h)⟩, ⟨a4, vk_R.same hv.symm h4⟩, ⟨a5, vk_R.same hv.symm h5⟩, ⟨a6, vk_R.same hv.symm h6⟩⟩
  have h7 := h1 w hw ht
  unfold xthw at ht
  split at ht
  · exact va_Nw.same rfl hv h7
  · exact va_Nw.same rfl hv h7
  · cases ht
theorem xisRef {C nm d : String} {A : Nat → Prop} {U : State} {ar : Array Value} (h : va_Zq C nm d A U U.heap) : (Cond.isRef (.static C nm d)).before ar U = true := by
  rcases h with ⟨cf, kf, fi, f, a, cell, h1, h2, h3, h4, h5, h6, h7, h8⟩ | ⟨t, cf, kf, fi, f, a, cell, h1, h2, h3, h4, h5, h6, h7, h8⟩
  · simp [Cond.before, Cond.holds, Cond.value, Term.eval, State.fieldNamed?, h1, h2, h4, h5, h6, h7]
  · simp [Cond.before, Cond.holds, Cond.value, Term.eval, State.fieldNamed?, h1, h2, h4, h5, h6, h7]
def xreb (s T : State) : State := { s with heap := T.heap, slotsUsed := T.slotsUsed }
def xFET (first : State) (o : Outcome) (t : State) (L : List Loc) (k n : Nat) : Prop := (∃ x, o = .threw x) ∧ first.WarmedH t.vm ∧ first.sameButNew ({ t with vm := first.vm } : State) L k n
def xXT (e : Env) (s : State) (meth : Method) (A : Nat → Prop) : Prop := e.platform.stackTraces = false ∧ (∀ q : Nat, A q → ∀ cell, s.heap[q]? = some cell → cell.vm.isStatics = false) ∧ xTh A s s.heap ∧ meth.locks = false
def xThr (R : Room) (s : State) (below : List Frame) (G : xG) (A : Nat → Prop) (Qw : State → Prop) (QX : Nat → xh → Prop) : Prop :=
  ∀ (k n i a : Nat) (h' : xh) (locs : List Loc) (U : State), k ≤ R.cells → n ≤ R.slots → QX i h' → U.status = .running → Ended U below (.threw a) → s.WarmedH U.vm → s.sameButNew ({ U with vm := s.vm } : State) locs k n → xH G A h' U.heap → va_S A s.heap U.heap locs → xexc i a U → Qw U
section XT
variable {p : Program} {l : Launch} {e : Env} {R : Room} {s : State} {m : MethodId} {args : Array Value} {below : List Frame} {meth : Method} {c : Code} {G : xG} {z : Nat → Nat} {A : Nat → Prop} {y : MethodName} {cc : ByteArray} {nL : Nat} {Qw : State → Prop} {k n : Nat} {hp : xh} {pc : Nat} {lv lv' : List (Nat × Value)} {st : List Value}
theorem x_rebase {T : State} {locs : List Loc} (X : Stand p l e R s m args below meth c T locs k n) (hk : k ≤ R.cells) (hn : n ≤ R.slots) : Stand p l e { R with cells := R.cells - k, slots := R.slots - n } (xreb s T) m args below meth c T [] 0 0 := by
  refine ⟨X.admits, X.cas, X.clock, X.frames, ?_, X.hears, X.method, X.code, X.here, X.tail, X.warmed, X.limits, X.bytes, ?_⟩
  · have h1 := X.room
    have h2 := X.heapSize
    have h3 := X.used
    have h4 := X.book
    simp only [State.hasRoom, Bool.and_eq_true, decide_eq_true_eq] at h1 ⊢
    refine ⟨⟨⟨h1.1.1.1, ?_⟩, ?_⟩, h4⟩
    · show T.heap.size + (R.cells - k) ≤ _
      have := h1.1.1.2
      omega
    · show T.slotsUsed + (R.slots - n) ≤ _
      have := h1.1.2
      omega
  · refine ⟨X.same.1, Nat.le_refl _, Nat.le_refl _, ?_, ?_, ?_⟩
    · show T.slotsUsed = T.slotsUsed + ((T.heap.toList.drop T.heap.size).map (·.slots.size)).sum
      rw [List.drop_eq_nil_of_le (by simp)]
      simp
    · show ((T.heap.toList.drop T.heap.size).map (·.slots.size)).sum ≤ 0
      rw [List.drop_eq_nil_of_le (by simp)]
      simp
    · intro a cl h
      exact ⟨cl, h, rfl, rfl, fun _ _ => rfl⟩
set_option maxHeartbeats 4000000 in
theorem x_throw (X : xX p l e R s m args below meth c G z A y cc nL) (XT : xXT e s meth A) (hyc : y.cls = "TwinJudge") (hnh : c.exceptionTable.toList = []) {QX : Nat → xh → Prop} (hthr : xThr R s below G A Qw QX) {i idxc idxs ic : Nat} {tx : String} (hf : k + 1 ≤ R.cells ∧ n + 6 ≤ R.slots ∧ QX i hp)
    (hcl : Cond.classLink y.cls idxc (xen i) ∈ xws) (hins : Cond.instantiable (xen i) 6 ∈ xws) (hini : Cond.initialized (xen i) ∈ xws) (hstr : ∀ (B : Nat → Prop) (U : State) (H : Heap), xTh B U H → ∃ a, vk_R "TwinJudge" idxs tx a U)
    (hat : ∀ w ∈ Bundle.ownAtoms "TwinJudge" ic (xen i) ["java/lang/RuntimeException", "java/lang/Exception"], (w ∈ xws ∧ w.onTables = true) ∨ (w ∈ lw_tbl ∧ xthw w = true) ∨ w = .isRef (.static "java/lang/Throwable" "UNASSIGNED_STACK" "[Ljava/lang/StackTraceElement;") ∨ w = .isRef (.static "java/lang/Throwable" "SUPPRESSED_SENTINEL" "Ljava/util/List;") ∨ w = .laysStatic "java/lang/Throwable" "UNASSIGNED_STACK" "[Ljava/lang/StackTraceElement;" ∨ w = .laysStatic "java/lang/Throwable" "SUPPRESSED_SENTINEL" "Ljava/util/List;")
    (hfit : Bundle.fit (xen i) = true) (hRf : 6 ≤ R.frames) (hRl : (st.map fun v => v.category).sum + 90 ≤ R.locals)
    (d0 : decode cc pc = .ok (.new idxc, 3)) (d3 : decode cc (pc + 3) = .ok (.dup, 1)) (d4 : decode cc (pc + 4) = .ok (.ldc idxs, 2)) (d6 : decode cc (pc + 6) = .ok (.invokespecial ic, 3)) (d9 : decode cc (pc + 9) = .ok (.athrow, 1)) : xE p l e R s m args below meth c G A nL Qw k n hp pc lv st := by
  intro H locs ls hH hS hl T hT XS
  subst hT
  have hts := X.2.2.2.2.1
  have hts' : ∀ w ∈ xws, w.onTables = true → w.before args (xreb s T) = true := fun w hw ho => va_tabs ho (rfl : s.vm = (xreb s T).vm) (hts w hw)
  have hown : (xreb s T).vm.findClass "TwinJudge" = some m.cls := hyc ▸ X.2.2.2.1
  have hTh : xTh A (xreb s T) (xreb s T).heap := xTh.same (u := s) rfl (by
    obtain ⟨h1, h0, h2, h3, ⟨h8, h9⟩, h4⟩ := XT.2.2.1
    exact ⟨h1, h0, h2.kept hS.2.1, h3.kept hS.2.1, ⟨h8.go (Vm.Alike.refl _) hS.2.1 (fun _ h => h), h9.go (Vm.Alike.refl _) hS.2.1 (fun _ h => h)⟩, h4⟩)
  have hlocks : meth.locks = false := XT.2.2.2
  have hfc : ∃ cC, s.vm.findClass (xen i) = some cC := by
    obtain ⟨cC, -, h1, -⟩ := Cond.instantiable_spec (hts _ hins)
    exact ⟨cC, h1⟩
  obtain ⟨cC, hcC⟩ := hfc
  have key : W p l e { R with cells := R.cells - k, slots := R.slots - n } (xreb s T) m args below meth c T.heap [] 0 0 (fun U => U.status = .running ∧ Ended U below (.threw T.heap.size) ∧ (xreb s T).WarmedH U.vm ∧ (xreb s T).sameButNew ({ U with vm := (xreb s T).vm } : State) [] 1 6 ∧ ∃ ce, U.heap[T.heap.size]? = some ce ∧ ce.vm = .none ∧ s.vm.findClass (xen i) = some ce.cls) (F0 m pc ls st) := by
    refine W.newcK X.1 X.2.1 hown (hts' _ (hyc ▸ hcl) rfl) (hts' _ hins rfl) (hts' _ hini rfl) rfl d0 (by show 0 + 1 ≤ R.cells - k; omega) (by show 0 + 6 ≤ R.slots - n; omega) (cC := cC) hcC rfl fun H1 kC hkC e1 z1 o1 => ?_
    refine lv_dup X.1 X.2.1 d3 rfl ?_
    obtain ⟨q, hq⟩ := hstr _ _ _ hTh
    refine va_ldcS X.1 X.2.1 hown hq d4 ?_
    intro T2 hT2 X2
    obtain ⟨U, h1, h2, h3, h4, h5, ce, h6, h7⟩ := X2.ctorThrowS X.1 XT.1 (own := "TwinJudge") (cls := xen i) (names := ["java/lang/RuntimeException", "java/lang/Exception"]) (ic := ic) hown hfit (by decide +kernel)
      (fun w hw => by
        rcases hat w hw with h | h | h | h | h | h
        · exact hts' w h.1 h.2
        · exact va_Nw.use (by
            have h8 := h.2
            unfold xthw at h8
            split at h8
            · rfl
            · rfl
            · cases h8) (hTh.1 w h.1 h.2)
        · rw [h]; exact xisRef hTh.2.2.1
        · rw [h]; exact xisRef hTh.2.2.2.1
        · rw [h]; exact xLS.word hTh.2.2.2.2.1.1
        · rw [h]; exact xLS.word hTh.2.2.2.2.1.2)
      (fun x hx => by cases hx) (a := T.heap.size) (cX := cC) (kX := kC) hcC hkC (by rw [hT2]; exact e1) (Nat.le_refl _) (msg := .ref q) rfl (g := F0 m (pc + 3 + 1 + 2) ls (.ref q :: .ref T.heap.size :: .ref T.heap.size :: st)) rfl (hl.1.trans X.2.2.1.symm) rfl rfl (rest := st) rfl (by rw [X.2.1]; exact d6) (by rw [X.2.1]; exact d9) (by rw [hnh]; intro x hx; cases hx)
      (by show 2 + 3 < R.frames; omega) (by show 2 * 0 + (1 + (st.map fun v => v.category).sum) + (13 * (2 + 1) + 42) ≤ R.locals; omega) hlocks
    exact ⟨U, h1, h2, h3, h4, h5, ce, h6, h7.vm, h7.cls⟩
  obtain ⟨U, g1, g2, g3, g4, g5, ce, g6, g7, g8⟩ := key T rfl (x_rebase XS (by omega) (by omega))
  have hsame : ∀ q : Nat, q < T.heap.size → U.heap[q]? = T.heap[q]? := by
    intro q hq
    obtain ⟨cl, hcl2⟩ : ∃ cl, T.heap[q]? = some cl := ⟨_, Array.getElem?_eq_getElem hq⟩
    obtain ⟨cl', h1, h2, h3, h4⟩ := g5.2.2.2.2.2 q cl hcl2
    have h5 : cl'.slots = cl.slots := Array.ext_getElem? (fun j => h4 j (by simp))
    rw [hcl2]
    refine h1.trans ?_
    rw [h2, h5]
  have hsz : T.heap.size ≤ U.heap.size := g5.2.1
  refine ⟨U, g1, hthr (k + 1) (n + 6) i T.heap.size hp locs U hf.1 hf.2.1 hf.2.2 g2 g3 g4 ?_ ?_ ?_ ⟨ce, g6, by rw [g7]; rfl, by rw [g4.alike.findClass]; exact g8⟩⟩
  · have e1 := XS.same.1
    obtain ⟨q1, q2, q3, q4, q5, q6⟩ := g5
    have e2 : ∀ F, (T.setVm s.vm).setFrames F = ({ s.setFrames F with heap := T.heap, slotsUsed := T.slotsUsed } : State) := fun F => (congrArg (fun Z : State => Z.setFrames F) e1).trans (by
      show ({ (s.setFrames _).setFrames F with heap := T.heap, slotsUsed := T.slotsUsed } : State) = _
      rw [State.setFrames_setFrames])
    have h' : (T.setVm s.vm).sameButNew ({ U with vm := s.vm } : State) [] 1 6 := ⟨q1.trans (by
      show ({ s.setFrames _ with heap := U.heap, slotsUsed := U.slotsUsed } : State) = { (T.setVm s.vm).setFrames _ with heap := U.heap, slotsUsed := U.slotsUsed }
      rw [e2]; rfl), q2, q3, q4, q5, q6⟩
    have h1 := XS.same.trans h'
    rw [List.append_nil] at h1
    exact h1
  · intro a o ho
    obtain ⟨h1, h2⟩ := hH a o ho
    exact ⟨h1.kept (hsame a h1.lt), h2⟩
  · exact ⟨Nat.le_trans hS.1 hsz, fun q h1 h2 => (hsame q (Nat.lt_of_lt_of_le h1 hS.1)).trans (hS.2.1 q h1 h2), hS.2.2⟩
end XT

def xPcT (G : xG) (z : Nat → Nat) (hp : xh) (sz : Nat) (vs : List Value) : Array Value → State → Prop := va_Pc vs (fun U => U.heap.size = sz ∧ xH G (fun _ => True) hp U.heap ∧ xK G U ∧ xZ z (xA hp sz) U U.heap ∧ xTh (xA hp sz) U U.heap)
def xQT (G : xG) (hp : xh) (sz : Nat) (QX : Nat → xh → Prop) : Array Value → State → Outcome → State → Prop := fun _ st oc t => (∃ (i a : Nat) (h' : xh), oc = .threw a ∧ QX i h' ∧ xH G (xA hp sz) h' t.heap ∧ xK G t ∧ xexc i a t) ∧ va_F (xA hp sz) st t
def xMT (l : Launch) (G : xG) (z : Nat → Nat) (y : MethodName) (bs : ByteArray) (nL : Nat) (ret : Option FieldType) (rm : Room) (vs : List Value) (hp : xh) (Q : Option Value → xh → Prop) (QX : Nat → xh → Prop) : Prop :=
  ∀ sz : Nat, MetFree l y (headSpec (.code y bs nL ret :: xws) rm) (xPcT G z hp sz vs) (fun _ _ _ _ _ => True) (fun a st o t => (xQc G hp sz Q a st o t ∧ ∃ L, FrameEnd st o t L rm.cells rm.slots ∧ ∀ q ∈ L, xA hp sz q.base) ∨ (xQT G hp sz QX a st o t ∧ ∃ L, xFET st o t L rm.cells rm.slots ∧ ∀ q ∈ L, xA hp sz q.base))
theorem W.mono {p : Program} {l : Launch} {e : Env} {R : Room} {s : State} {m : MethodId} {args : Array Value} {below : List Frame} {meth : Method} {c : Code} {H : Heap} {locs : List Loc} {k n : Nat} {Q Q' : State → Prop} {g : JFrame} (h : ∀ t, Q t → Q' t) (w : W p l e R s m args below meth c H locs k n Q g) : W p l e R s m args below meth c H locs k n Q' g := fun T hT X => by
  obtain ⟨t, a, b⟩ := w T hT X
  exact ⟨t, a, h t b⟩
theorem xMT_of {l : Launch} {G : xG} {z : Nat → Nat} {y : MethodName} {bs : ByteArray} {nL : Nat} {ret : Option FieldType} {rm : Room} {vs : List Value} {hp : xh} {Q : Option Value → xh → Prop} {QX : Nat → xh → Prop} (hfl : l.flags = flags0) (hy : plainName y.cls = true) (hlen : (lg_sl vs).length ≤ nL) {lv0 : List (Nat × Value)} (hlv : lv_args 0 vs = lv0)
    (body : ∀ {p : Program} {e : Env} {s : State} {m : MethodId} {args : Array Value} {below : List Frame} {meth : Method} {c : Code} {A : Nat → Prop} {Qw : State → Prop}, xX p l e rm s m args below meth c G z A y bs nL → xXT e s meth A → c.exceptionTable.toList = [] → xRet p l e rm s m args below meth c G A nL Qw bs ret Q → xThr rm s below G A Qw QX → xE p l e rm s m args below meth c G A nL Qw 0 0 hp 0 lv0 []) : xMT l G z y bs nL ret rm vs hp Q QX := by
  intro sz
  refine MetFree.of_bodyS (code := bs) (maxLocals := nL) (ret := ret) hy ?_ ?_
  · intro args s m h hn
    obtain ⟨meth, c, h1, h2, h3, h4, h5, h6, -, -⟩ := Cond.code_spec hn (atoms_spec (ws := .code y bs nL ret :: xws) h _ List.mem_cons_self)
    exact ⟨meth, c, h1, h2, h3, h4, h5, h6⟩
  · intro p e s m args below meth c s₁ B hml hv _
    obtain ⟨rfl, hsz, hH, hK, hZ, hTh⟩ := hv
    have hts := atoms_spec (ws := .code y bs nL ret :: xws) B.pre
    have hown : s.vm.findClass y.cls = some m.cls := findClass_of_methodNamed B.named
    have hin : meth.name = y.name := (name_of_methodNamed B.named B.method).1
    have hlocks := B.notSynchronized
    have hnh : c.exceptionTable.toList = [] := by
      have h1 := B.noHandlers (hts _ List.mem_cons_self)
      simpa using h1
    subst hsz
    have hH0 : xH G (xA hp s.heap.size) hp s.heap := fun a o ho => ⟨(hH a o ho).1, by
      by_cases hr : xro o
      · exact Or.inl hr
      · exact Or.inr (Or.inl ⟨o, ho, hr⟩)⟩
    have X : xX p l e rm s m vs.toArray below meth c G z (xA hp s.heap.size) y bs nL := ⟨B.exec, B.bytes, hml, hown, fun w h => hts w (List.mem_cons_of_mem _ h), hK, hZ, fun q h => Or.inr h, hin⟩
    have XT : xXT e s meth (xA hp s.heap.size) := by
      refine ⟨Launch.traces_off hfl (Stand.of_body B).admits, fun q hq cell hc => ?_, hTh, hlocks⟩
      rcases hq with ⟨o, ho, hr0⟩ | hq
      · have h1 := (hH q o ho).1.no hr0
        cases o with
        | inl x =>
          have h2 : s.heap[q]? = some (vp_cell _ _) := h1
          cases hc.symm.trans h2
          obtain ⟨t, n, f⟩ := x
          rcases f with f | f | f | f | f <;> rfl
        | inr o =>
          obtain ⟨r, -, cell2, g1, g2, g3, -⟩ := h1
          cases hc.symm.trans g1
          rw [g3]; rfl
      · have := (Array.getElem?_eq_some_iff.mp hc).1
        omega
    have hret : xRet p l e rm s m vs.toArray below meth c G (xA hp s.heap.size) nL (fun t => ∃ o, t.status = .running ∧ Ended t below o ∧ ((xQc G hp s.heap.size Q vs.toArray s o t ∧ ∃ L, FrameEnd s o t L rm.cells rm.slots ∧ ∀ q ∈ L, xA hp s.heap.size q.base) ∨ (xQT G hp s.heap.size QX vs.toArray s o t ∧ ∃ L, xFET s o t L rm.cells rm.slots ∧ ∀ q ∈ L, xA hp s.heap.size q.base))) bs ret Q := by
      intro k n h' pc lv r hk hn hQ hr H locs ls hH1 hS hl
      refine W.widen hk hn ?_
      have hq : ∀ t : State, t.heap = H → s.WarmedH t.vm → xQc G hp s.heap.size Q vs.toArray s (.returned r) t := fun t ht hW => ⟨⟨r, h', rfl, hQ, by rw [ht]; exact hH1, xK.warm hW hK⟩, hS.F ht⟩
      refine W.mono (Q := MQ below (xQc G hp s.heap.size Q) vs.toArray s rm.cells rm.slots (xA hp s.heap.size)) (fun t ht => by
        obtain ⟨o, a1, a2, a3, a4⟩ := ht
        exact ⟨o, a1, a2, Or.inl ⟨a3, a4⟩⟩) ?_
      cases r with
      | none => exact W.vret B.exec B.bytes (B.returns.trans hr.1) hq hS.2.2 hr.2
      | some v =>
        cases v with
        | int v =>
          obtain ⟨⟨ty, h1, h2⟩, h3⟩ := hr
          exact W.zret B.exec B.bytes (B.returns.trans h1) h2 hq hS.2.2 h3
        | long v => exact W.lret B.exec B.bytes (B.returns.trans hr.1) hq hS.2.2 hr.2
        | ref v =>
          obtain ⟨⟨rt, h1, h2⟩, h3⟩ := hr
          exact W.aret B.exec B.bytes (B.returns.trans h1) h2 (Or.inr ⟨v, rfl⟩) hq hS.2.2 h3
        | _ => exact hr.elim
    have hthr : xThr rm s below G (xA hp s.heap.size) (fun t => ∃ o, t.status = .running ∧ Ended t below o ∧ ((xQc G hp s.heap.size Q vs.toArray s o t ∧ ∃ L, FrameEnd s o t L rm.cells rm.slots ∧ ∀ q ∈ L, xA hp s.heap.size q.base) ∨ (xQT G hp s.heap.size QX vs.toArray s o t ∧ ∃ L, xFET s o t L rm.cells rm.slots ∧ ∀ q ∈ L, xA hp s.heap.size q.base))) QX := by
      intro k n i a h' locs U hk hn hQ h1 h2 h3 h4 h5 h6 h7
      exact ⟨.threw a, h1, h2, Or.inr ⟨⟨⟨i, a, h', rfl, hQ, h5, xK.warm h3 hK, h7⟩, h6.F rfl⟩, locs, ⟨⟨a, rfl⟩, h3, h4.mono hk hn⟩, h6.2.2⟩⟩
    have hl := lv_entry vs (n := nL) hlen
    have hh0 : s₁.heap = s.heap := by rw [B.state]; rfl
    have K := body X XT hnh hret hthr s.heap [] _ hH0 va_S.rf (by rw [hlv] at hl; exact hl)
    rw [← lg_entry_eq] at K
    obtain ⟨t, a1, o, b1, b2, b3⟩ := K s₁ hh0 (Stand.of_body B)
    exact ⟨t, o, a1, b1, b2, b3⟩
section XU
variable {p : Program} {l : Launch} {e : Env} {R : Room} {s : State} {m : MethodId} {args : Array Value} {below : List Frame} {meth : Method} {c : Code} {G : xG} {z : Nat → Nat} {A : Nat → Prop} {y : MethodName} {cc : ByteArray} {nL : Nat} {Qw : State → Prop} {k n : Nat} {hp : xh} {pc : Nat} {lv lv' : List (Nat × Value)} {st : List Value}
theorem x_goT {T : State} {locs : List Loc} (XS : Stand p l e R s m args below meth c T locs k n) {y' : MethodName} {bs : ByteArray} {nL' : Nat} {ret : Option FieldType} {rm : Room} {vs : List Value} {Q : Option Value → xh → Prop} {QX : Nat → xh → Prop} (hM : xMT l G z y' bs nL' ret rm vs hp Q QX)
    {g : JFrame} {ig : Instr} {mk : MethodId} (hg : g.method = m) (hsize : g.locals.size = c.maxLocals) (hdg : decode c.code g.pc = .ok (ig, 3)) (hW : 2 * g.monitorRoom + (g.stack.map fun v => v.category).sum ≤ 8) (hn : T.methodNamed? y' = some mk)
    (hcw : (Cond.code y' bs nL' ret).before vs.toArray T = true) (hini : (Cond.initialized y'.cls).before vs.toArray T = true) (hpre : (headSpec (.code y' bs nL' ret :: xws) rm).pre.before vs.toArray T = true)
    (hR : rm.frames + 1 ≤ R.frames) (hR2 : 8 + (nL' + 11) + rm.locals ≤ R.locals) (hk : k + rm.cells ≤ R.cells) (hk2 : n + rm.slots ≤ R.slots) (hPc : xPcT G z hp T.heap.size vs vs.toArray T) :
    (∃ (v : Option Value) (h' : xh) (T' : State) (L : List Loc), Stand p l e R s m args below meth c T' (locs ++ L) (k + rm.cells) (n + rm.slots) ∧ (∀ q ∈ L, xA hp T.heap.size q.base) ∧ Q v h' ∧ xH G (xA hp T.heap.size) h' T'.heap ∧ T.heap.size ≤ T'.heap.size ∧ (∀ q : Nat, q < T.heap.size → ¬ xA hp T.heap.size q → T'.heap[q]? = T.heap[q]?) ∧ Steps p.tables e below (doInvoke e (T.setTop g) [] mk vs.toArray).1 (T'.setTop { g with pc := g.pc + 3, stack := v.toList ++ g.stack })) ∨
    (∃ (i x : Nat) (h' : xh) (T' : State) (L : List Loc), Stand p l e R s m args below meth c T' (locs ++ L) (k + rm.cells) (n + rm.slots) ∧ (∀ q ∈ L, xA hp T.heap.size q.base) ∧ QX i h' ∧ xH G (xA hp T.heap.size) h' T'.heap ∧ T.heap.size ≤ T'.heap.size ∧ (∀ q : Nat, q < T.heap.size → ¬ xA hp T.heap.size q → T'.heap[q]? = T.heap[q]?) ∧ xexc i x T' ∧ Steps p.tables e below (doInvoke e (T.setTop g) [] mk vs.toArray).1 ((T'.setTop g).pushFrame (.throwing x))) := by
  obtain ⟨methY, cY, hmY, hcY, -, hlY, -, -, -, -⟩ := Cond.code_spec hn hcw
  obtain ⟨kY, hkY, -⟩ := className_of_methodNamed hn
  have hinitY : kY.init = .initialized := Cond.initialized_spec (findClass_of_methodNamed hn) hkY hini
  have h : At T g.method c below := by rw [hg]; exact XS.here
  have happ : (headSpec (.code y' bs nL' ret :: xws) rm).appliesLoose y' e.platform (T.calling g mk vs.toArray) = true :=
    Spec.appliesLoose_calling (g := g) h hdg hn hkY hinitY (XS.room_calling (g := g) (R' := rm) hsize hmY hcY hR (by rw [hlY]; omega) hk hk2) hpre
  obtain ⟨mid, hmid⟩ := h.above
  have hfr : (T.setTop g).frames = (.java g :: mid) ++ below := by rw [State.frames_setTop' g h.top, hmid]; rfl
  have hP' : xPcT G z hp T.heap.size vs vs.toArray (T.calling g mk vs.toArray) := by
    obtain ⟨q0, q1, q2, q3, q4, q5⟩ := hPc
    exact ⟨q0, q1, q2, xK.same (u := T) (U := T.calling g mk vs.toArray) rfl q3, fun i x h => va_Z.moved (u := T) (U := T.calling g mk vs.toArray) (Vm.Alike.refl T.vm) (q4 i x h), xTh.same (u := T) (U := T.calling g mk vs.toArray) rfl q5⟩
  obtain ⟨o, s₂, hsteps, -, hend, hq⟩ := Steps.callFree (hM T.heap.size) p XS.admits XS.cas XS.clock (acts := []) hfr happ hP' trivial
  rw [State.frames_setTop' g h.top, XS.tail] at hend
  rcases hq with ⟨⟨⟨v, h', hv, hQ, hH1, hK1⟩, hz, hkk⟩, L, hF, hL⟩ | ⟨⟨⟨i, x, h', hv, hQ, hH1, hK1, cell, hx1, hx2, hx3⟩, hz, hkk⟩, L, hF, hL⟩
  · left
    subst hv
    obtain ⟨T', X', hW', hs', ht⟩ := XS.outOf hg hdg (mk := mk) (a := vs.toArray) hend hF.2.1 hF.2.2
    have hhe : s₂.heap = T'.heap := by rw [ht]; exact State.heap_setTop _ _
    rw [hhe] at hH1 hz
    refine ⟨v, h', T', L, X', hL, hQ, hH1, hz, fun q a1 a2 => ?_, ?_⟩
    · rw [← hhe]; exact hkk q a1 a2
    · rw [← ht]; exact hsteps
  · right
    subst hv
    obtain ⟨T', X', hW', hs', ht⟩ := XS.outOfThrown hg (mk := mk) (a := vs.toArray) hend hF.2.1 hF.2.2
    have hhe : s₂.heap = T'.heap := by rw [ht]; exact Stand.throwing_heap _ _ _
    have hvm : s₂.vm = T'.vm := by rw [ht]; exact Stand.throwing_vm _ _ _
    rw [hhe] at hH1 hz hx1
    rw [hvm] at hx3
    refine ⟨i, x, h', T', L, X', hL, hQ, hH1, hz, fun q a1 a2 => ?_, ⟨cell, hx1, hx2, hx3⟩, ?_⟩
    · rw [← hhe]; exact hkk q a1 a2
    · rw [← ht]; exact hsteps
end XU
