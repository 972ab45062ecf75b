/-! A heap as a function; xE: the machine's walk over such heaps; one row an instruction. -/
abbrev xo : Type := (Nat × vp_A) ⊕ (Nat × List Value)
abbrev xh : Type := Nat → Option xo
def xset (h : xh) (a : Nat) (o : xo) : xh := fun q => if q = a then some o else h q
theorem xset_eq (h : xh) (a : Nat) (o : xo) : xset h a o a = some o := if_pos rfl
theorem xset_ne {h : xh} {a b : Nat} {o : xo} (n : b ≠ a) : xset h a o b = h b := if_neg n
/-- cells that are read alone: their kinds begin with 100 -/
def xro : xo → Prop
  | .inl x => 100 ≤ x.1
  | .inr _ => False
abbrev xG : Type := va_G × (Nat → ClassId)
def xcv (G : xG) : xo → va_E
  | .inl x => .inl (G.2 (x.1 % 100), x.2)
  | .inr o => .inr o
/-- an array of ints that was there at the start: read alone; nothing is known of its class but its kind, nor of its monitor -/
def xOld (G : xG) (a : Nat) (o : xo) (H : Heap) : Prop := ∃ (t n : Nat) (f : Nat → Int32), o = .inl (t, n, .inl f) ∧ 100 ≤ t ∧ t % 100 = 0 ∧ ∃ cell : Cell, H[a]? = some cell ∧ (∀ k, cell.vm ≠ .statics k) ∧ cell.vm ≠ .unknown ∧ n ≤ cell.slots.size ∧ cell.slots.size.toInt32 = Int32.ofNat n ∧ (∀ j : Nat, j < n → cell.slots[j]? = some (.int (f j))) ∧ ∃ i, 100 ≤ i ∧ i < 103 ∧ cell.cls = G.2 i
def xat (G : xG) (a : Nat) (o : xo) (H : Heap) : Prop := va_at G.1 vwCl (a, xcv G o) H ∨ xOld G a o H
theorem xat.kept {G : xG} {a : Nat} {o : xo} {H H1 : Heap} (h : xat G a o H) (hq : H1[a]? = H[a]?) : xat G a o H1 := by
  rcases h with h | ⟨t, n, f, h1, h2, h3, cell, h4, h5⟩
  · exact Or.inl (h.kept hq)
  · exact Or.inr ⟨t, n, f, h1, h2, h3, cell, by rw [hq]; exact h4, h5⟩
theorem xat.lt {G : xG} {a : Nat} {o : xo} {H : Heap} (h : xat G a o H) : a < H.size := by
  rcases h with h | ⟨t, n, f, h1, h2, h3, cell, h4, h5⟩
  · exact h.lt
  · exact (Array.getElem?_eq_some_iff.mp h4).1
theorem xat.ob {G : xG} {a : Nat} {o : Nat × List Value} {H : Heap} (h : xat G a (.inr o) H) : va_at G.1 vwCl (a, .inr o) H := by
  rcases h with h | ⟨t, n, f, h1, h2⟩
  · exact h
  · cases h1
theorem xat.ar {G : xG} {a t : Nat} {x : vp_A} {H : Heap} (h : xat G a (.inl (t, x)) H) (ht : t < 100) : va_at G.1 vwCl (a, .inl (G.2 (t % 100), x)) H := by
  rcases h with h | ⟨t', n, f, h1, h2, h3⟩
  · exact h
  · cases h1; omega
theorem xat.no {G : xG} {a : Nat} {o : xo} {H : Heap} (h : xat G a o H) (hr : ¬ xro o) : va_at G.1 vwCl (a, xcv G o) H := by
  rcases h with h | ⟨t', n, f, h1, h2, h3⟩
  · exact h
  · subst h1; exact absurd h2 hr
def xH (G : xG) (A : Nat → Prop) (h : xh) (H : Heap) : Prop := ∀ (a : Nat) (o : xo), h a = some o → xat G a o H ∧ (xro o ∨ A a)
def xA (h : xh) (sz : Nat) : Nat → Prop := fun q => (∃ o, h q = some o ∧ ¬ xro o) ∨ sz ≤ q
theorem xws_good {w : Cond} (h : w ∈ xws) : (w.onTables && w.keeps) = true ∨ ∃ ty, w = .arrayClass ty := by
  have h2 := (List.mem_filter.mp h).2
  unfold xgood at h2
  rcases Bool.or_eq_true_iff.mp h2 with h3 | h3
  · exact Or.inl h3
  · right
    split at h3
    · exact ⟨_, rfl⟩
    · cases h3
/-- words of nest mates: they move by rows of their own -/
def xnest (w : Cond) : Bool := match w with
  | .methodLinkNest _ _ _ _ => true
  | .fieldLinkNest _ _ _ _ _ _ => true
  | _ => false
/-- the classes of the arrays that were there -/
def xI (G : xG) (U : State) : Prop := ∀ i, 100 ≤ i → i < 103 → ∃ k, U.vm.classes[G.2 i]? = some k ∧ ∃ comp, k.kind = .array comp .int
theorem xI.moved {G : xG} {u U : State} (hvm : u.vm.Alike U.vm) (h : xI G u) : xI G U := fun i h1 h2 => by
  obtain ⟨k, h3, comp, h4⟩ := h i h1 h2
  obtain ⟨k', hk', he⟩ := hvm.2.2 _ _ h3
  exact ⟨k', hk', comp, by rw [he]; exact h4⟩
def xK (G : xG) (U : State) : Prop := va_K G.1 vwCl (xtys G) U ∧ (∀ w ∈ lw_tbl, xnest w = true → va_Nw w U) ∧ va_AO "TwinJudge$Circuit" U ∧ xI G U
theorem xK.warm {G : xG} {s U : State} (hW : s.WarmedH U.vm) (h : xK G s) : xK G U := by
  refine ⟨va_K.moved hW.alike h.1, fun w hw hn => ?_, va_AO.moved hW.alike h.2.2.1, h.2.2.2.moved hW.alike⟩
  have h2 := h.2.1 w hw hn
  unfold xnest at hn
  split at hn
  · exact va_Nw.warmM hW h2
  · exact va_Nw.warmF hW h2
  · cases hn
theorem xK.same {G : xG} {u U : State} (hv : u.vm = U.vm) (h : xK G u) : xK G U := by
  refine ⟨va_K.moved (by rw [hv]; exact Vm.Alike.refl _) h.1, fun w hw hn => ?_, va_AO.moved (by rw [hv]; exact Vm.Alike.refl _) h.2.2.1, h.2.2.2.moved (by rw [hv]; exact Vm.Alike.refl _)⟩
  have h2 := h.2.1 w hw hn
  unfold xnest at hn
  split at hn
  · exact va_Nw.same rfl hv h2
  · exact va_Nw.same rfl hv h2
  · cases hn
/-- the static fields that are read: each holds the cell z k, which nobody writes -/
def xZ (z : Nat → Nat) (A : Nat → Prop) (U : State) (H : Heap) : Prop := ∀ (i : Nat) (q : String × String × String), xst[i]? = some q → va_Z q.1 q.2.1 q.2.2 (.ref (z i)) A U H
def xX (p : Program) (l : Launch) (e : Env) (R : Room) (s : State) (m : MethodId) (args : Array Value) (below : List Frame) (meth : Method) (c : Code) (G : xG) (z : Nat → Nat) (A : Nat → Prop) (y : MethodName) (cc : ByteArray) (nL : Nat) : Prop :=
  p.tables.exec = Jvm.exec ∧ c.code = cc ∧ c.maxLocals = nL ∧ s.vm.findClass y.cls = some m.cls ∧ (∀ w ∈ xws, w.before args s = true) ∧ xK G s ∧ xZ z A s s.heap ∧ (∀ q : Nat, s.heap.size ≤ q → A q) ∧ meth.name = y.name
def xE (p : Program) (l : Launch) (e : Env) (R : Room) (s : State) (m : MethodId) (args : Array Value) (below : List Frame) (meth : Method) (c : Code) (G : xG) (A : Nat → Prop) (nL : Nat) (Qw : State → Prop) (k n : Nat) (hp : xh) (pc : Nat) (lv : List (Nat × Value)) (st : List Value) : Prop :=
  ∀ (H : Heap) (locs : List Loc) (ls : Array Slot), xH G A hp H → va_S A s.heap H locs → lv_has ls nL lv → W p l e R s m args below meth c H locs k n Qw (F0 m pc ls st)
section XE
variable {p : Program} {l : Launch} {e : Env} {R : Room} {s : State} {m : MethodId} {args : Array Value} {below : List Frame} {meth : Method} {c : Code} {G : xG} {z : Nat → Nat} {A : Nat → Prop} {y : MethodName} {cc : ByteArray} {nL : Nat} {Qw : State → Prop} {k n : Nat} {hp : xh} {pc : Nat} {lv lv' : List (Nat × Value)} {st : List Value}
theorem x_sub (ks : List Nat) (hl : lv_pick lv ks = lv') (kk : xE p l e R s m args below meth c G A nL Qw k n hp pc lv' st) : xE p l e R s m args below meth c G A nL Qw k n hp pc lv st := fun H locs ls hH hS h => kk H locs ls hH hS (lv_sub h ks hl)
theorem x_widen {k' n' : Nat} (h1 : k ≤ k') (h2 : n ≤ n') (kk : xE p l e R s m args below meth c G A nL Qw k' n' hp pc lv st) : xE p l e R s m args below meth c G A nL Qw k n hp pc lv st := fun H locs ls hH hS h => W.widen h1 h2 (kk H locs ls hH hS h)
theorem x_iconst (X : xX p l e R s m args below meth c G z A y cc nL) {i : Int} {v : Int32} (hdg : decode cc pc = .ok (.iconst i, 1)) (hv : Int32.ofInt i = v) (pc' : Nat) (hn : pc + 1 = pc') (kk : xE p l e R s m args below meth c G A nL Qw k n hp pc' lv (.int v :: st)) : xE p l e R s m args below meth c G A nL Qw k n hp pc lv st := by
  subst hn; exact fun H locs ls hH hS hl => lv_iconst X.1 X.2.1 hdg hv (kk H locs ls hH hS hl)
theorem x_bipush (X : xX p l e R s m args below meth c G z A y cc nL) {i : Int} {v : Int32} (hdg : decode cc pc = .ok (.bipush i, 2)) (hv : (Int8.ofInt i).toInt32 = v) (pc' : Nat) (hn : pc + 2 = pc') (kk : xE p l e R s m args below meth c G A nL Qw k n hp pc' lv (.int v :: st)) : xE p l e R s m args below meth c G A nL Qw k n hp pc lv st := by
  subst hn; exact fun H locs ls hH hS hl => lv_bipush X.1 X.2.1 hdg hv (kk H locs ls hH hS hl)
theorem x_sipush (X : xX p l e R s m args below meth c G z A y cc nL) {i : Int} {v : Int32} (hdg : decode cc pc = .ok (.sipush i, 3)) (hv : (Int16.ofInt i).toInt32 = v) (pc' : Nat) (hn : pc + 3 = pc') (kk : xE p l e R s m args below meth c G A nL Qw k n hp pc' lv (.int v :: st)) : xE p l e R s m args below meth c G A nL Qw k n hp pc lv st := by
  subst hn; exact fun H locs ls hH hS hl => lv_sipush X.1 X.2.1 hdg hv (kk H locs ls hH hS hl)
theorem x_lconst (X : xX p l e R s m args below meth c G z A y cc nL) {i : Fin 2} {v : Int64} (hdg : decode cc pc = .ok (.lconst i, 1)) (hv : Int64.ofNat (i : Nat) = v) (pc' : Nat) (hn : pc + 1 = pc') (kk : xE p l e R s m args below meth c G A nL Qw k n hp pc' lv (.long v :: st)) : xE p l e R s m args below meth c G A nL Qw k n hp pc lv st := by
  subst hn; exact fun H locs ls hH hS hl => lv_lconst X.1 X.2.1 hdg hv (kk H locs ls hH hS hl)
theorem x_ldc (X : xX p l e R s m args below meth c G z A y cc nL) {i : Nat} {v : Int32} (hc : Cond.constant y.cls i v ∈ xws) (hdg : decode cc pc = .ok (.ldc i, 2)) (pc' : Nat) (hn : pc + 2 = pc') (kk : xE p l e R s m args below meth c G A nL Qw k n hp pc' lv (.int v :: st)) : xE p l e R s m args below meth c G A nL Qw k n hp pc lv st := by
  subst hn; exact fun H locs ls hH hS hl => lv_ldc X.1 X.2.1 X.2.2.2.1 (X.2.2.2.2.1 _ hc) hdg (kk H locs ls hH hS hl)
theorem x_ldc2 (X : xX p l e R s m args below meth c G z A y cc nL) {i : Nat} {v : Int64} (hc : Cond.constantLong y.cls i v ∈ xws) (hdg : decode cc pc = .ok (.ldc2_w i, 3)) (pc' : Nat) (hn : pc + 3 = pc') (kk : xE p l e R s m args below meth c G A nL Qw k n hp pc' lv (.long v :: st)) : xE p l e R s m args below meth c G A nL Qw k n hp pc lv st := by
  subst hn; exact fun H locs ls hH hS hl => lv_ldc2 X.1 X.2.1 X.2.2.2.1 (X.2.2.2.2.1 _ hc) hdg (kk H locs ls hH hS hl)
theorem x_iload_n (X : xX p l e R s m args below meth c G z A y cc nL) {i : Fin 4} {q : Nat} {x : Int32} (hdg : decode cc pc = .ok (.iload_n i, 1)) (hk : lv[q]? = some ((i : Nat), .int x)) (pc' : Nat) (hn : pc + 1 = pc') (kk : xE p l e R s m args below meth c G A nL Qw k n hp pc' lv (.int x :: st)) : xE p l e R s m args below meth c G A nL Qw k n hp pc lv st := by
  subst hn; exact fun H locs ls hH hS hl => lv_iload_n X.1 X.2.1 hdg rfl (lv_at hl q hk) (kk H locs ls hH hS hl)
theorem x_iload (X : xX p l e R s m args below meth c G z A y cc nL) {i : Nat} {q : Nat} {x : Int32} (hdg : decode cc pc = .ok (.iload i, 2)) (hk : lv[q]? = some (i, .int x)) (pc' : Nat) (hn : pc + 2 = pc') (kk : xE p l e R s m args below meth c G A nL Qw k n hp pc' lv (.int x :: st)) : xE p l e R s m args below meth c G A nL Qw k n hp pc lv st := by
  subst hn; exact fun H locs ls hH hS hl => lv_iload X.1 X.2.1 hdg (lv_at hl q hk) (kk H locs ls hH hS hl)
theorem x_lload_n (X : xX p l e R s m args below meth c G z A y cc nL) {i : Fin 4} {q : Nat} {x : Int64} (hdg : decode cc pc = .ok (.lload_n i, 1)) (hk : lv[q]? = some ((i : Nat), .long x)) (pc' : Nat) (hn : pc + 1 = pc') (kk : xE p l e R s m args below meth c G A nL Qw k n hp pc' lv (.long x :: st)) : xE p l e R s m args below meth c G A nL Qw k n hp pc lv st := by
  subst hn; exact fun H locs ls hH hS hl => lv_lload_n X.1 X.2.1 hdg rfl (lv_at hl q hk) (kk H locs ls hH hS hl)
theorem x_lload (X : xX p l e R s m args below meth c G z A y cc nL) {i : Nat} {q : Nat} {x : Int64} (hdg : decode cc pc = .ok (.lload i, 2)) (hk : lv[q]? = some (i, .long x)) (pc' : Nat) (hn : pc + 2 = pc') (kk : xE p l e R s m args below meth c G A nL Qw k n hp pc' lv (.long x :: st)) : xE p l e R s m args below meth c G A nL Qw k n hp pc lv st := by
  subst hn; exact fun H locs ls hH hS hl => lv_lload X.1 X.2.1 hdg (lv_at hl q hk) (kk H locs ls hH hS hl)
theorem x_aload_n (X : xX p l e R s m args below meth c G z A y cc nL) {i : Fin 4} {q : Nat} {x : Nat} (hdg : decode cc pc = .ok (.aload_n i, 1)) (hk : lv[q]? = some ((i : Nat), .ref x)) (pc' : Nat) (hn : pc + 1 = pc') (kk : xE p l e R s m args below meth c G A nL Qw k n hp pc' lv (.ref x :: st)) : xE p l e R s m args below meth c G A nL Qw k n hp pc lv st := by
  subst hn; exact fun H locs ls hH hS hl => lv_aload_n X.1 X.2.1 hdg rfl (lv_at hl q hk) (kk H locs ls hH hS hl)
theorem x_aload (X : xX p l e R s m args below meth c G z A y cc nL) {i : Nat} {q : Nat} {x : Nat} (hdg : decode cc pc = .ok (.aload i, 2)) (hk : lv[q]? = some (i, .ref x)) (pc' : Nat) (hn : pc + 2 = pc') (kk : xE p l e R s m args below meth c G A nL Qw k n hp pc' lv (.ref x :: st)) : xE p l e R s m args below meth c G A nL Qw k n hp pc lv st := by
  subst hn; exact fun H locs ls hH hS hl => lv_aload X.1 X.2.1 hdg (lv_at hl q hk) (kk H locs ls hH hS hl)
theorem x_istore_n (X : xX p l e R s m args below meth c G z A y cc nL) {j : Fin 4} {i : Nat} {x : Int32} (hdg : decode cc pc = .ok (.istore_n j, 1)) (hi : (j : Nat) = i) (hi2 : i < nL) (hl : (i, Value.int x) :: lv.filter (fun q => !(q.1 == i) && !(q.1 + 1 == i && q.2.category == 2)) = lv') (pc' : Nat) (hn : pc + 1 = pc') (kk : xE p l e R s m args below meth c G A nL Qw k n hp pc' lv' st) : xE p l e R s m args below meth c G A nL Qw k n hp pc lv (.int x :: st) := by
  subst hn; exact fun H locs ls hH hS h => lv_istore_n X.1 X.2.1 hdg hi h hi2 hl (fun ls' h' => kk H locs ls' hH hS h')
theorem x_istoreN_n (X : xX p l e R s m args below meth c G z A y cc nL) {j : Fin 4} {i : Nat} {x : Int32} {kf : Int32 → Prop} (hf : ∀ v, v = x → kf v) (hdg : decode cc pc = .ok (.istore_n j, 1)) (hi : (j : Nat) = i) (hi2 : i < nL) {lw : Int32 → List (Nat × Value)} (hl : ∀ v, (i, Value.int v) :: lv.filter (fun q => !(q.1 == i) && !(q.1 + 1 == i && q.2.category == 2)) = lw v) (pc' : Nat) (hn : pc + 1 = pc') (kk : ∀ v, kf v → xE p l e R s m args below meth c G A nL Qw k n hp pc' (lw v) st) : xE p l e R s m args below meth c G A nL Qw k n hp pc lv (.int x :: st) :=
  x_istore_n X hdg hi hi2 (hl x) pc' hn (kk x (hf x rfl))
theorem x_istore (X : xX p l e R s m args below meth c G z A y cc nL) {i : Nat} {x : Int32} (hdg : decode cc pc = .ok (.istore i, 2)) (hi2 : i < nL) (hl : (i, Value.int x) :: lv.filter (fun q => !(q.1 == i) && !(q.1 + 1 == i && q.2.category == 2)) = lv') (pc' : Nat) (hn : pc + 2 = pc') (kk : xE p l e R s m args below meth c G A nL Qw k n hp pc' lv' st) : xE p l e R s m args below meth c G A nL Qw k n hp pc lv (.int x :: st) := by
  subst hn; exact fun H locs ls hH hS h => lv_istore X.1 X.2.1 hdg h hi2 hl (fun ls' h' => kk H locs ls' hH hS h')
theorem x_istoreN (X : xX p l e R s m args below meth c G z A y cc nL) {i : Nat} {x : Int32} {kf : Int32 → Prop} (hf : ∀ v, v = x → kf v) (hdg : decode cc pc = .ok (.istore i, 2)) (hi2 : i < nL) {lw : Int32 → List (Nat × Value)} (hl : ∀ v, (i, Value.int v) :: lv.filter (fun q => !(q.1 == i) && !(q.1 + 1 == i && q.2.category == 2)) = lw v) (pc' : Nat) (hn : pc + 2 = pc') (kk : ∀ v, kf v → xE p l e R s m args below meth c G A nL Qw k n hp pc' (lw v) st) : xE p l e R s m args below meth c G A nL Qw k n hp pc lv (.int x :: st) :=
  x_istore X hdg hi2 (hl x) pc' hn (kk x (hf x rfl))
theorem x_lstore_n (X : xX p l e R s m args below meth c G z A y cc nL) {j : Fin 4} {i : Nat} {x : Int64} (hdg : decode cc pc = .ok (.lstore_n j, 1)) (hi : (j : Nat) = i) (hi2 : i + 1 < nL) (hl : (i, Value.long x) :: lv.filter (fun q => !(q.1 == i) && (!(q.1 == i + 1) && !(q.1 + 1 == i && q.2.category == 2))) = lv') (pc' : Nat) (hn : pc + 1 = pc') (kk : xE p l e R s m args below meth c G A nL Qw k n hp pc' lv' st) : xE p l e R s m args below meth c G A nL Qw k n hp pc lv (.long x :: st) := by
  subst hn; exact fun H locs ls hH hS h => lv_lstore_n X.1 X.2.1 hdg hi h hi2 hl (fun ls' h' => kk H locs ls' hH hS h')
theorem x_lstoreN_n (X : xX p l e R s m args below meth c G z A y cc nL) {j : Fin 4} {i : Nat} {x : Int64} {kf : Int64 → Prop} (hf : ∀ v, v = x → kf v) (hdg : decode cc pc = .ok (.lstore_n j, 1)) (hi : (j : Nat) = i) (hi2 : i + 1 < nL) {lw : Int64 → List (Nat × Value)} (hl : ∀ v, (i, Value.long v) :: lv.filter (fun q => !(q.1 == i) && (!(q.1 == i + 1) && !(q.1 + 1 == i && q.2.category == 2))) = lw v) (pc' : Nat) (hn : pc + 1 = pc') (kk : ∀ v, kf v → xE p l e R s m args below meth c G A nL Qw k n hp pc' (lw v) st) : xE p l e R s m args below meth c G A nL Qw k n hp pc lv (.long x :: st) :=
  x_lstore_n X hdg hi hi2 (hl x) pc' hn (kk x (hf x rfl))
theorem x_lstore (X : xX p l e R s m args below meth c G z A y cc nL) {i : Nat} {x : Int64} (hdg : decode cc pc = .ok (.lstore i, 2)) (hi2 : i + 1 < nL) (hl : (i, Value.long x) :: lv.filter (fun q => !(q.1 == i) && (!(q.1 == i + 1) && !(q.1 + 1 == i && q.2.category == 2))) = lv') (pc' : Nat) (hn : pc + 2 = pc') (kk : xE p l e R s m args below meth c G A nL Qw k n hp pc' lv' st) : xE p l e R s m args below meth c G A nL Qw k n hp pc lv (.long x :: st) := by
  subst hn; exact fun H locs ls hH hS h => lv_lstore X.1 X.2.1 hdg h hi2 hl (fun ls' h' => kk H locs ls' hH hS h')
theorem x_lstoreN (X : xX p l e R s m args below meth c G z A y cc nL) {i : Nat} {x : Int64} {kf : Int64 → Prop} (hf : ∀ v, v = x → kf v) (hdg : decode cc pc = .ok (.lstore i, 2)) (hi2 : i + 1 < nL) {lw : Int64 → List (Nat × Value)} (hl : ∀ v, (i, Value.long v) :: lv.filter (fun q => !(q.1 == i) && (!(q.1 == i + 1) && !(q.1 + 1 == i && q.2.category == 2))) = lw v) (pc' : Nat) (hn : pc + 2 = pc') (kk : ∀ v, kf v → xE p l e R s m args below meth c G A nL Qw k n hp pc' (lw v) st) : xE p l e R s m args below meth c G A nL Qw k n hp pc lv (.long x :: st) :=
  x_lstore X hdg hi2 (hl x) pc' hn (kk x (hf x rfl))
theorem x_astore_n (X : xX p l e R s m args below meth c G z A y cc nL) {j : Fin 4} {i : Nat} {x : Nat} (hdg : decode cc pc = .ok (.astore_n j, 1)) (hi : (j : Nat) = i) (hi2 : i < nL) (hl : (i, Value.ref x) :: lv.filter (fun q => !(q.1 == i) && !(q.1 + 1 == i && q.2.category == 2)) = lv') (pc' : Nat) (hn : pc + 1 = pc') (kk : xE p l e R s m args below meth c G A nL Qw k n hp pc' lv' st) : xE p l e R s m args below meth c G A nL Qw k n hp pc lv (.ref x :: st) := by
  subst hn; exact fun H locs ls hH hS h => lv_astore_n X.1 X.2.1 hdg hi h hi2 hl (fun ls' h' => kk H locs ls' hH hS h')
theorem x_astoreN_n (X : xX p l e R s m args below meth c G z A y cc nL) {j : Fin 4} {i : Nat} {x : Nat} {kf : Nat → Prop} (hf : ∀ v, v = x → kf v) (hdg : decode cc pc = .ok (.astore_n j, 1)) (hi : (j : Nat) = i) (hi2 : i < nL) {lw : Nat → List (Nat × Value)} (hl : ∀ v, (i, Value.ref v) :: lv.filter (fun q => !(q.1 == i) && !(q.1 + 1 == i && q.2.category == 2)) = lw v) (pc' : Nat) (hn : pc + 1 = pc') (kk : ∀ v, kf v → xE p l e R s m args below meth c G A nL Qw k n hp pc' (lw v) st) : xE p l e R s m args below meth c G A nL Qw k n hp pc lv (.ref x :: st) :=
  x_astore_n X hdg hi hi2 (hl x) pc' hn (kk x (hf x rfl))
theorem x_astore (X : xX p l e R s m args below meth c G z A y cc nL) {i : Nat} {x : Nat} (hdg : decode cc pc = .ok (.astore i, 2)) (hi2 : i < nL) (hl : (i, Value.ref x) :: lv.filter (fun q => !(q.1 == i) && !(q.1 + 1 == i && q.2.category == 2)) = lv') (pc' : Nat) (hn : pc + 2 = pc') (kk : xE p l e R s m args below meth c G A nL Qw k n hp pc' lv' st) : xE p l e R s m args below meth c G A nL Qw k n hp pc lv (.ref x :: st) := by
  subst hn; exact fun H locs ls hH hS h => lv_astore X.1 X.2.1 hdg h hi2 hl (fun ls' h' => kk H locs ls' hH hS h')
theorem x_astoreN (X : xX p l e R s m args below meth c G z A y cc nL) {i : Nat} {x : Nat} {kf : Nat → Prop} (hf : ∀ v, v = x → kf v) (hdg : decode cc pc = .ok (.astore i, 2)) (hi2 : i < nL) {lw : Nat → List (Nat × Value)} (hl : ∀ v, (i, Value.ref v) :: lv.filter (fun q => !(q.1 == i) && !(q.1 + 1 == i && q.2.category == 2)) = lw v) (pc' : Nat) (hn : pc + 2 = pc') (kk : ∀ v, kf v → xE p l e R s m args below meth c G A nL Qw k n hp pc' (lw v) st) : xE p l e R s m args below meth c G A nL Qw k n hp pc lv (.ref x :: st) :=
  x_astore X hdg hi2 (hl x) pc' hn (kk x (hf x rfl))
theorem x_iinc (X : xX p l e R s m args below meth c G z A y cc nL) {i q : Nat} {j : Int} {x v : Int32} (hdg : decode cc pc = .ok (.iinc i j, 3)) (hk : lv[q]? = some (i, .int x)) (hv : x + Int32.ofInt j = v) (hi2 : i < nL) (hl : (i, Value.int v) :: lv.filter (fun q => !(q.1 == i) && !(q.1 + 1 == i && q.2.category == 2)) = lv') (pc' : Nat) (hn : pc + 3 = pc') (kk : xE p l e R s m args below meth c G A nL Qw k n hp pc' lv' st) : xE p l e R s m args below meth c G A nL Qw k n hp pc lv st := by
  subst hn; exact fun H locs ls hH hS h => lv_iinc X.1 X.2.1 hdg h hk hv hi2 hl (fun ls' h' => kk H locs ls' hH hS h')
theorem x_iadd (X : xX p l e R s m args below meth c G z A y cc nL) {x y1 : Int32} (hdg : decode cc pc = .ok (.iadd, 1)) (pc' : Nat) (hn : pc + 1 = pc') (kk : xE p l e R s m args below meth c G A nL Qw k n hp pc' lv (.int (x + y1) :: st)) : xE p l e R s m args below meth c G A nL Qw k n hp pc lv (.int y1 :: .int x :: st) := by
  subst hn; exact fun H locs ls hH hS hl => lv_iadd X.1 X.2.1 hdg (kk H locs ls hH hS hl)
theorem x_isub (X : xX p l e R s m args below meth c G z A y cc nL) {x y1 : Int32} (hdg : decode cc pc = .ok (.isub, 1)) (pc' : Nat) (hn : pc + 1 = pc') (kk : xE p l e R s m args below meth c G A nL Qw k n hp pc' lv (.int (x - y1) :: st)) : xE p l e R s m args below meth c G A nL Qw k n hp pc lv (.int y1 :: .int x :: st) := by
  subst hn; exact fun H locs ls hH hS hl => lv_isub X.1 X.2.1 hdg (kk H locs ls hH hS hl)
theorem x_imul (X : xX p l e R s m args below meth c G z A y cc nL) {x y1 : Int32} (hdg : decode cc pc = .ok (.imul, 1)) (pc' : Nat) (hn : pc + 1 = pc') (kk : xE p l e R s m args below meth c G A nL Qw k n hp pc' lv (.int (x * y1) :: st)) : xE p l e R s m args below meth c G A nL Qw k n hp pc lv (.int y1 :: .int x :: st) := by
  subst hn; exact fun H locs ls hH hS hl => lv_imul X.1 X.2.1 hdg (kk H locs ls hH hS hl)
theorem x_iand (X : xX p l e R s m args below meth c G z A y cc nL) {x y1 : Int32} (hdg : decode cc pc = .ok (.iand, 1)) (pc' : Nat) (hn : pc + 1 = pc') (kk : xE p l e R s m args below meth c G A nL Qw k n hp pc' lv (.int (x &&& y1) :: st)) : xE p l e R s m args below meth c G A nL Qw k n hp pc lv (.int y1 :: .int x :: st) := by
  subst hn; exact fun H locs ls hH hS hl => lv_iand X.1 X.2.1 hdg (kk H locs ls hH hS hl)
theorem x_ior (X : xX p l e R s m args below meth c G z A y cc nL) {x y1 : Int32} (hdg : decode cc pc = .ok (.ior, 1)) (pc' : Nat) (hn : pc + 1 = pc') (kk : xE p l e R s m args below meth c G A nL Qw k n hp pc' lv (.int (x ||| y1) :: st)) : xE p l e R s m args below meth c G A nL Qw k n hp pc lv (.int y1 :: .int x :: st) := by
  subst hn; exact fun H locs ls hH hS hl => lv_ior X.1 X.2.1 hdg (kk H locs ls hH hS hl)
theorem x_ixor (X : xX p l e R s m args below meth c G z A y cc nL) {x y1 : Int32} (hdg : decode cc pc = .ok (.ixor, 1)) (pc' : Nat) (hn : pc + 1 = pc') (kk : xE p l e R s m args below meth c G A nL Qw k n hp pc' lv (.int (x ^^^ y1) :: st)) : xE p l e R s m args below meth c G A nL Qw k n hp pc lv (.int y1 :: .int x :: st) := by
  subst hn; exact fun H locs ls hH hS hl => lv_ixor X.1 X.2.1 hdg (kk H locs ls hH hS hl)
theorem x_ladd (X : xX p l e R s m args below meth c G z A y cc nL) {x y1 : Int64} (hdg : decode cc pc = .ok (.ladd, 1)) (pc' : Nat) (hn : pc + 1 = pc') (kk : xE p l e R s m args below meth c G A nL Qw k n hp pc' lv (.long (x + y1) :: st)) : xE p l e R s m args below meth c G A nL Qw k n hp pc lv (.long y1 :: .long x :: st) := by
  subst hn; exact fun H locs ls hH hS hl => lv_ladd X.1 X.2.1 hdg (kk H locs ls hH hS hl)
theorem x_lsub (X : xX p l e R s m args below meth c G z A y cc nL) {x y1 : Int64} (hdg : decode cc pc = .ok (.lsub, 1)) (pc' : Nat) (hn : pc + 1 = pc') (kk : xE p l e R s m args below meth c G A nL Qw k n hp pc' lv (.long (x - y1) :: st)) : xE p l e R s m args below meth c G A nL Qw k n hp pc lv (.long y1 :: .long x :: st) := by
  subst hn; exact fun H locs ls hH hS hl => lv_lsub X.1 X.2.1 hdg (kk H locs ls hH hS hl)
theorem x_lmul (X : xX p l e R s m args below meth c G z A y cc nL) {x y1 : Int64} (hdg : decode cc pc = .ok (.lmul, 1)) (pc' : Nat) (hn : pc + 1 = pc') (kk : xE p l e R s m args below meth c G A nL Qw k n hp pc' lv (.long (x * y1) :: st)) : xE p l e R s m args below meth c G A nL Qw k n hp pc lv (.long y1 :: .long x :: st) := by
  subst hn; exact fun H locs ls hH hS hl => lv_lmul X.1 X.2.1 hdg (kk H locs ls hH hS hl)
theorem x_land (X : xX p l e R s m args below meth c G z A y cc nL) {x y1 : Int64} (hdg : decode cc pc = .ok (.land, 1)) (pc' : Nat) (hn : pc + 1 = pc') (kk : xE p l e R s m args below meth c G A nL Qw k n hp pc' lv (.long (x &&& y1) :: st)) : xE p l e R s m args below meth c G A nL Qw k n hp pc lv (.long y1 :: .long x :: st) := by
  subst hn; exact fun H locs ls hH hS hl => lv_land X.1 X.2.1 hdg (kk H locs ls hH hS hl)
theorem x_lor (X : xX p l e R s m args below meth c G z A y cc nL) {x y1 : Int64} (hdg : decode cc pc = .ok (.lor, 1)) (pc' : Nat) (hn : pc + 1 = pc') (kk : xE p l e R s m args below meth c G A nL Qw k n hp pc' lv (.long (x ||| y1) :: st)) : xE p l e R s m args below meth c G A nL Qw k n hp pc lv (.long y1 :: .long x :: st) := by
  subst hn; exact fun H locs ls hH hS hl => lv_lor X.1 X.2.1 hdg (kk H locs ls hH hS hl)
theorem x_lxor (X : xX p l e R s m args below meth c G z A y cc nL) {x y1 : Int64} (hdg : decode cc pc = .ok (.lxor, 1)) (pc' : Nat) (hn : pc + 1 = pc') (kk : xE p l e R s m args below meth c G A nL Qw k n hp pc' lv (.long (x ^^^ y1) :: st)) : xE p l e R s m args below meth c G A nL Qw k n hp pc lv (.long y1 :: .long x :: st) := by
  subst hn; exact fun H locs ls hH hS hl => lv_lxor X.1 X.2.1 hdg (kk H locs ls hH hS hl)
theorem x_ineg (X : xX p l e R s m args below meth c G z A y cc nL) {x : Int32} (hdg : decode cc pc = .ok (.ineg, 1)) (pc' : Nat) (hn : pc + 1 = pc') (kk : xE p l e R s m args below meth c G A nL Qw k n hp pc' lv (.int (-x) :: st)) : xE p l e R s m args below meth c G A nL Qw k n hp pc lv (.int x :: st) := by
  subst hn; exact fun H locs ls hH hS hl => lv_ineg X.1 X.2.1 hdg (kk H locs ls hH hS hl)
theorem x_idiv (X : xX p l e R s m args below meth c G z A y cc nL) {x y1 : Int32} (hne : ¬ y1 = 0) (hdg : decode cc pc = .ok (.idiv, 1)) (pc' : Nat) (hn : pc + 1 = pc') (kk : xE p l e R s m args below meth c G A nL Qw k n hp pc' lv (.int (x / y1) :: st)) : xE p l e R s m args below meth c G A nL Qw k n hp pc lv (.int y1 :: .int x :: st) := by
  subst hn; exact fun H locs ls hH hS hl => lv_idiv X.1 X.2.1 hdg hne (kk H locs ls hH hS hl)
theorem x_irem (X : xX p l e R s m args below meth c G z A y cc nL) {x y1 : Int32} (hne : ¬ y1 = 0) (hdg : decode cc pc = .ok (.irem, 1)) (pc' : Nat) (hn : pc + 1 = pc') (kk : xE p l e R s m args below meth c G A nL Qw k n hp pc' lv (.int (x - x / y1 * y1) :: st)) : xE p l e R s m args below meth c G A nL Qw k n hp pc lv (.int y1 :: .int x :: st) := by
  subst hn; exact fun H locs ls hH hS hl => lv_irem X.1 X.2.1 hdg hne (kk H locs ls hH hS hl)
theorem x_ishl (X : xX p l e R s m args below meth c G z A y cc nL) {x y1 : Int32} (hdg : decode cc pc = .ok (.ishl, 1)) (pc' : Nat) (hn : pc + 1 = pc') (kk : xE p l e R s m args below meth c G A nL Qw k n hp pc' lv (.int (x <<< (y1 &&& 31)) :: st)) : xE p l e R s m args below meth c G A nL Qw k n hp pc lv (.int y1 :: .int x :: st) := by
  subst hn; exact fun H locs ls hH hS hl => lv_ishl X.1 X.2.1 hdg (kk H locs ls hH hS hl)
theorem x_ishr (X : xX p l e R s m args below meth c G z A y cc nL) {x y1 : Int32} (hdg : decode cc pc = .ok (.ishr, 1)) (pc' : Nat) (hn : pc + 1 = pc') (kk : xE p l e R s m args below meth c G A nL Qw k n hp pc' lv (.int (x >>> (y1 &&& 31)) :: st)) : xE p l e R s m args below meth c G A nL Qw k n hp pc lv (.int y1 :: .int x :: st) := by
  subst hn; exact fun H locs ls hH hS hl => lv_ishr X.1 X.2.1 hdg (kk H locs ls hH hS hl)
theorem x_iushr (X : xX p l e R s m args below meth c G z A y cc nL) {x y1 : Int32} (hdg : decode cc pc = .ok (.iushr, 1)) (pc' : Nat) (hn : pc + 1 = pc') (kk : xE p l e R s m args below meth c G A nL Qw k n hp pc' lv (.int (x.toUInt32 >>> (y1.toUInt32 &&& Int32.toUInt32 31)).toInt32 :: st)) : xE p l e R s m args below meth c G A nL Qw k n hp pc lv (.int y1 :: .int x :: st) := by
  subst hn; exact fun H locs ls hH hS hl => lv_iushr X.1 X.2.1 hdg rfl (kk H locs ls hH hS hl)
theorem x_lshl (X : xX p l e R s m args below meth c G z A y cc nL) {x : Int64} {y1 : Int32} (hdg : decode cc pc = .ok (.lshl, 1)) (pc' : Nat) (hn : pc + 1 = pc') (kk : xE p l e R s m args below meth c G A nL Qw k n hp pc' lv (.long (x <<< (y1.toInt64 &&& 63)) :: st)) : xE p l e R s m args below meth c G A nL Qw k n hp pc lv (.int y1 :: .long x :: st) := by
  subst hn; exact fun H locs ls hH hS hl => lv_lshl X.1 X.2.1 hdg rfl (kk H locs ls hH hS hl)
theorem x_lshr (X : xX p l e R s m args below meth c G z A y cc nL) {x : Int64} {y1 : Int32} (hdg : decode cc pc = .ok (.lshr, 1)) (pc' : Nat) (hn : pc + 1 = pc') (kk : xE p l e R s m args below meth c G A nL Qw k n hp pc' lv (.long (x >>> (y1.toInt64 &&& 63)) :: st)) : xE p l e R s m args below meth c G A nL Qw k n hp pc lv (.int y1 :: .long x :: st) := by
  subst hn; exact fun H locs ls hH hS hl => lv_lshr X.1 X.2.1 hdg rfl (kk H locs ls hH hS hl)
theorem x_lushr (X : xX p l e R s m args below meth c G z A y cc nL) {x : Int64} {y1 : Int32} (hdg : decode cc pc = .ok (.lushr, 1)) (pc' : Nat) (hn : pc + 1 = pc') (kk : xE p l e R s m args below meth c G A nL Qw k n hp pc' lv (.long (x.toUInt64 >>> (y1.toInt64.toUInt64 &&& Int64.toUInt64 63)).toInt64 :: st)) : xE p l e R s m args below meth c G A nL Qw k n hp pc lv (.int y1 :: .long x :: st) := by
  subst hn; exact fun H locs ls hH hS hl => lv_lushr X.1 X.2.1 hdg rfl (kk H locs ls hH hS hl)
theorem x_i2l (X : xX p l e R s m args below meth c G z A y cc nL) {x : Int32} (hdg : decode cc pc = .ok (.i2l, 1)) (pc' : Nat) (hn : pc + 1 = pc') (kk : xE p l e R s m args below meth c G A nL Qw k n hp pc' lv (.long x.toInt64 :: st)) : xE p l e R s m args below meth c G A nL Qw k n hp pc lv (.int x :: st) := by
  subst hn; exact fun H locs ls hH hS hl => lv_i2l X.1 X.2.1 hdg rfl (kk H locs ls hH hS hl)
theorem x_l2i (X : xX p l e R s m args below meth c G z A y cc nL) {x : Int64} (hdg : decode cc pc = .ok (.l2i, 1)) (pc' : Nat) (hn : pc + 1 = pc') (kk : xE p l e R s m args below meth c G A nL Qw k n hp pc' lv (.int x.toInt32 :: st)) : xE p l e R s m args below meth c G A nL Qw k n hp pc lv (.long x :: st) := by
  subst hn; exact fun H locs ls hH hS hl => lv_l2i X.1 X.2.1 hdg rfl (kk H locs ls hH hS hl)
theorem x_i2b (X : xX p l e R s m args below meth c G z A y cc nL) {x : Int32} (hdg : decode cc pc = .ok (.i2b, 1)) (pc' : Nat) (hn : pc + 1 = pc') (kk : xE p l e R s m args below meth c G A nL Qw k n hp pc' lv (.int x.toInt8.toInt32 :: st)) : xE p l e R s m args below meth c G A nL Qw k n hp pc lv (.int x :: st) := by
  subst hn; exact fun H locs ls hH hS hl => lv_i2b X.1 X.2.1 hdg rfl (kk H locs ls hH hS hl)
theorem x_i2c (X : xX p l e R s m args below meth c G z A y cc nL) {x : Int32} (hdg : decode cc pc = .ok (.i2c, 1)) (pc' : Nat) (hn : pc + 1 = pc') (kk : xE p l e R s m args below meth c G A nL Qw k n hp pc' lv (.int (x.toUInt32 % 65536).toInt32 :: st)) : xE p l e R s m args below meth c G A nL Qw k n hp pc lv (.int x :: st) := by
  subst hn; exact fun H locs ls hH hS hl => lv_i2c X.1 X.2.1 hdg rfl (kk H locs ls hH hS hl)
theorem x_dup (X : xX p l e R s m args below meth c G z A y cc nL) {v : Value} (hv : v.category = 1) (hdg : decode cc pc = .ok (.dup, 1)) (pc' : Nat) (hn : pc + 1 = pc') (kk : xE p l e R s m args below meth c G A nL Qw k n hp pc' lv (v :: v :: st)) : xE p l e R s m args below meth c G A nL Qw k n hp pc lv (v :: st) := by
  subst hn; exact fun H locs ls hH hS hl => lv_dup X.1 X.2.1 hdg hv (kk H locs ls hH hS hl)
theorem x_pop (X : xX p l e R s m args below meth c G z A y cc nL) {v : Value} (hv : v.category = 1) (hdg : decode cc pc = .ok (.pop, 1)) (pc' : Nat) (hn : pc + 1 = pc') (kk : xE p l e R s m args below meth c G A nL Qw k n hp pc' lv st) : xE p l e R s m args below meth c G A nL Qw k n hp pc lv (v :: st) := by
  subst hn; exact fun H locs ls hH hS hl => lv_pop X.1 X.2.1 hdg hv (kk H locs ls hH hS hl)
theorem x_dup_x1 (X : xX p l e R s m args below meth c G z A y cc nL) {v u : Value} (hv : v.category = 1) (hu : u.category = 1) (hdg : decode cc pc = .ok (.dup_x1, 1)) (pc' : Nat) (hn : pc + 1 = pc') (kk : xE p l e R s m args below meth c G A nL Qw k n hp pc' lv (v :: u :: v :: st)) : xE p l e R s m args below meth c G A nL Qw k n hp pc lv (v :: u :: st) := by
  subst hn; exact fun H locs ls hH hS hl => lv_dup_x1 X.1 X.2.1 hdg hv hu (kk H locs ls hH hS hl)
theorem x_dup_x2 (X : xX p l e R s m args below meth c G z A y cc nL) {v u t : Value} (hv : v.category = 1) (hu : u.category = 1) (ht : t.category = 1) (hdg : decode cc pc = .ok (.dup_x2, 1)) (pc' : Nat) (hn : pc + 1 = pc') (kk : xE p l e R s m args below meth c G A nL Qw k n hp pc' lv (v :: u :: t :: v :: st)) : xE p l e R s m args below meth c G A nL Qw k n hp pc lv (v :: u :: t :: st) := by
  subst hn; exact fun H locs ls hH hS hl => lv_dup_x2 X.1 X.2.1 hdg hv hu ht (kk H locs ls hH hS hl)
theorem x_dup2 (X : xX p l e R s m args below meth c G z A y cc nL) {v u : Value} (hv : v.category = 1) (hu : u.category = 1) (hdg : decode cc pc = .ok (.dup2, 1)) (pc' : Nat) (hn : pc + 1 = pc') (kk : xE p l e R s m args below meth c G A nL Qw k n hp pc' lv (v :: u :: v :: u :: st)) : xE p l e R s m args below meth c G A nL Qw k n hp pc lv (v :: u :: st) := by
  subst hn; exact fun H locs ls hH hS hl => lv_dup2_11 X.1 X.2.1 hdg hv hu (kk H locs ls hH hS hl)
theorem x_lcmp (X : xX p l e R s m args below meth c G z A y cc nL) {x y1 : Int64} (hdg : decode cc pc = .ok (.lcmp, 1)) (pc' : Nat) (hn : pc + 1 = pc') (kk : xE p l e R s m args below meth c G A nL Qw k n hp pc' lv (.int (lg_cmp x y1) :: st)) : xE p l e R s m args below meth c G A nL Qw k n hp pc lv (.long y1 :: .long x :: st) := by
  subst hn; exact fun H locs ls hH hS hl => W.lcmp X.1 X.2.1 hdg (kk H locs ls hH hS hl)
theorem x_topi {x : Int32} {kf : Int32 → Prop} (hf : ∀ v, v = x → kf v) (kk : ∀ v, kf v → xE p l e R s m args below meth c G A nL Qw k n hp pc lv (.int v :: st)) : xE p l e R s m args below meth c G A nL Qw k n hp pc lv (.int x :: st) := kk x (hf x rfl)
theorem x_topl {x : Int64} {kf : Int64 → Prop} (hf : ∀ v, v = x → kf v) (kk : ∀ v, kf v → xE p l e R s m args below meth c G A nL Qw k n hp pc lv (.long v :: st)) : xE p l e R s m args below meth c G A nL Qw k n hp pc lv (.long x :: st) := kk x (hf x rfl)
theorem x_if_eq (X : xX p l e R s m args below meth c G z A y cc nL) {x : Int32} {off : Int} {ft ff : Prop} (hf : (x = 0 → ft) ∧ (¬ x = 0 → ff)) (hdg : decode cc pc = .ok (.ifCond .eq off, 3)) (tgt pc' : Nat) (ht : (pc : Int) + off = (tgt : Int)) (hn : pc + 3 = pc') (kt : ft → xE p l e R s m args below meth c G A nL Qw k n hp tgt lv st) (kf : ff → xE p l e R s m args below meth c G A nL Qw k n hp pc' lv st) : xE p l e R s m args below meth c G A nL Qw k n hp pc lv (.int x :: st) := by
  subst hn; exact fun H locs ls hH hS hl => lv_if_eq X.1 X.2.1 hdg ht (fun h => kt (hf.1 h) H locs ls hH hS hl) (fun h => kf (hf.2 h) H locs ls hH hS hl)
theorem x_icmp_eq (X : xX p l e R s m args below meth c G z A y cc nL) {x y1 : Int32} {off : Int} {ft ff : Prop} (hf : (x = y1 → ft) ∧ (¬ x = y1 → ff)) (hdg : decode cc pc = .ok (.if_icmp .eq off, 3)) (tgt pc' : Nat) (ht : (pc : Int) + off = (tgt : Int)) (hn : pc + 3 = pc') (kt : ft → xE p l e R s m args below meth c G A nL Qw k n hp tgt lv st) (kf : ff → xE p l e R s m args below meth c G A nL Qw k n hp pc' lv st) : xE p l e R s m args below meth c G A nL Qw k n hp pc lv (.int y1 :: .int x :: st) := by
  subst hn; exact fun H locs ls hH hS hl => lv_icmp_eq X.1 X.2.1 hdg ht (fun h => kt (hf.1 h) H locs ls hH hS hl) (fun h => kf (hf.2 h) H locs ls hH hS hl)
theorem x_if_ne (X : xX p l e R s m args below meth c G z A y cc nL) {x : Int32} {off : Int} {ft ff : Prop} (hf : (¬ x = 0 → ft) ∧ (x = 0 → ff)) (hdg : decode cc pc = .ok (.ifCond .ne off, 3)) (tgt pc' : Nat) (ht : (pc : Int) + off = (tgt : Int)) (hn : pc + 3 = pc') (kt : ft → xE p l e R s m args below meth c G A nL Qw k n hp tgt lv st) (kf : ff → xE p l e R s m args below meth c G A nL Qw k n hp pc' lv st) : xE p l e R s m args below meth c G A nL Qw k n hp pc lv (.int x :: st) := by
  subst hn; exact fun H locs ls hH hS hl => lv_if_ne X.1 X.2.1 hdg ht (fun h => kt (hf.1 h) H locs ls hH hS hl) (fun h => kf (hf.2 h) H locs ls hH hS hl)
theorem x_icmp_ne (X : xX p l e R s m args below meth c G z A y cc nL) {x y1 : Int32} {off : Int} {ft ff : Prop} (hf : (¬ x = y1 → ft) ∧ (x = y1 → ff)) (hdg : decode cc pc = .ok (.if_icmp .ne off, 3)) (tgt pc' : Nat) (ht : (pc : Int) + off = (tgt : Int)) (hn : pc + 3 = pc') (kt : ft → xE p l e R s m args below meth c G A nL Qw k n hp tgt lv st) (kf : ff → xE p l e R s m args below meth c G A nL Qw k n hp pc' lv st) : xE p l e R s m args below meth c G A nL Qw k n hp pc lv (.int y1 :: .int x :: st) := by
  subst hn; exact fun H locs ls hH hS hl => lv_icmp_ne X.1 X.2.1 hdg ht (fun h => kt (hf.1 h) H locs ls hH hS hl) (fun h => kf (hf.2 h) H locs ls hH hS hl)
theorem x_if_lt (X : xX p l e R s m args below meth c G z A y cc nL) {x : Int32} {off : Int} {ft ff : Prop} (hf : (x < 0 → ft) ∧ (¬ x < 0 → ff)) (hdg : decode cc pc = .ok (.ifCond .lt off, 3)) (tgt pc' : Nat) (ht : (pc : Int) + off = (tgt : Int)) (hn : pc + 3 = pc') (kt : ft → xE p l e R s m args below meth c G A nL Qw k n hp tgt lv st) (kf : ff → xE p l e R s m args below meth c G A nL Qw k n hp pc' lv st) : xE p l e R s m args below meth c G A nL Qw k n hp pc lv (.int x :: st) := by
  subst hn; exact fun H locs ls hH hS hl => lv_if_lt X.1 X.2.1 hdg ht (fun h => kt (hf.1 h) H locs ls hH hS hl) (fun h => kf (hf.2 h) H locs ls hH hS hl)
theorem x_icmp_lt (X : xX p l e R s m args below meth c G z A y cc nL) {x y1 : Int32} {off : Int} {ft ff : Prop} (hf : (x < y1 → ft) ∧ (¬ x < y1 → ff)) (hdg : decode cc pc = .ok (.if_icmp .lt off, 3)) (tgt pc' : Nat) (ht : (pc : Int) + off = (tgt : Int)) (hn : pc + 3 = pc') (kt : ft → xE p l e R s m args below meth c G A nL Qw k n hp tgt lv st) (kf : ff → xE p l e R s m args below meth c G A nL Qw k n hp pc' lv st) : xE p l e R s m args below meth c G A nL Qw k n hp pc lv (.int y1 :: .int x :: st) := by
  subst hn; exact fun H locs ls hH hS hl => lv_icmp_lt X.1 X.2.1 hdg ht (fun h => kt (hf.1 h) H locs ls hH hS hl) (fun h => kf (hf.2 h) H locs ls hH hS hl)
theorem x_if_ge (X : xX p l e R s m args below meth c G z A y cc nL) {x : Int32} {off : Int} {ft ff : Prop} (hf : (0 ≤ x → ft) ∧ (¬ 0 ≤ x → ff)) (hdg : decode cc pc = .ok (.ifCond .ge off, 3)) (tgt pc' : Nat) (ht : (pc : Int) + off = (tgt : Int)) (hn : pc + 3 = pc') (kt : ft → xE p l e R s m args below meth c G A nL Qw k n hp tgt lv st) (kf : ff → xE p l e R s m args below meth c G A nL Qw k n hp pc' lv st) : xE p l e R s m args below meth c G A nL Qw k n hp pc lv (.int x :: st) := by
  subst hn; exact fun H locs ls hH hS hl => lv_if_ge X.1 X.2.1 hdg ht (fun h => kt (hf.1 h) H locs ls hH hS hl) (fun h => kf (hf.2 h) H locs ls hH hS hl)
theorem x_icmp_ge (X : xX p l e R s m args below meth c G z A y cc nL) {x y1 : Int32} {off : Int} {ft ff : Prop} (hf : (y1 ≤ x → ft) ∧ (¬ y1 ≤ x → ff)) (hdg : decode cc pc = .ok (.if_icmp .ge off, 3)) (tgt pc' : Nat) (ht : (pc : Int) + off = (tgt : Int)) (hn : pc + 3 = pc') (kt : ft → xE p l e R s m args below meth c G A nL Qw k n hp tgt lv st) (kf : ff → xE p l e R s m args below meth c G A nL Qw k n hp pc' lv st) : xE p l e R s m args below meth c G A nL Qw k n hp pc lv (.int y1 :: .int x :: st) := by
  subst hn; exact fun H locs ls hH hS hl => lv_icmp_ge X.1 X.2.1 hdg ht (fun h => kt (hf.1 h) H locs ls hH hS hl) (fun h => kf (hf.2 h) H locs ls hH hS hl)
theorem x_if_gt (X : xX p l e R s m args below meth c G z A y cc nL) {x : Int32} {off : Int} {ft ff : Prop} (hf : (0 < x → ft) ∧ (¬ 0 < x → ff)) (hdg : decode cc pc = .ok (.ifCond .gt off, 3)) (tgt pc' : Nat) (ht : (pc : Int) + off = (tgt : Int)) (hn : pc + 3 = pc') (kt : ft → xE p l e R s m args below meth c G A nL Qw k n hp tgt lv st) (kf : ff → xE p l e R s m args below meth c G A nL Qw k n hp pc' lv st) : xE p l e R s m args below meth c G A nL Qw k n hp pc lv (.int x :: st) := by
  subst hn; exact fun H locs ls hH hS hl => lv_if_gt X.1 X.2.1 hdg ht (fun h => kt (hf.1 h) H locs ls hH hS hl) (fun h => kf (hf.2 h) H locs ls hH hS hl)
theorem x_icmp_gt (X : xX p l e R s m args below meth c G z A y cc nL) {x y1 : Int32} {off : Int} {ft ff : Prop} (hf : (y1 < x → ft) ∧ (¬ y1 < x → ff)) (hdg : decode cc pc = .ok (.if_icmp .gt off, 3)) (tgt pc' : Nat) (ht : (pc : Int) + off = (tgt : Int)) (hn : pc + 3 = pc') (kt : ft → xE p l e R s m args below meth c G A nL Qw k n hp tgt lv st) (kf : ff → xE p l e R s m args below meth c G A nL Qw k n hp pc' lv st) : xE p l e R s m args below meth c G A nL Qw k n hp pc lv (.int y1 :: .int x :: st) := by
  subst hn; exact fun H locs ls hH hS hl => lv_icmp_gt X.1 X.2.1 hdg ht (fun h => kt (hf.1 h) H locs ls hH hS hl) (fun h => kf (hf.2 h) H locs ls hH hS hl)
theorem x_if_le (X : xX p l e R s m args below meth c G z A y cc nL) {x : Int32} {off : Int} {ft ff : Prop} (hf : (x ≤ 0 → ft) ∧ (¬ x ≤ 0 → ff)) (hdg : decode cc pc = .ok (.ifCond .le off, 3)) (tgt pc' : Nat) (ht : (pc : Int) + off = (tgt : Int)) (hn : pc + 3 = pc') (kt : ft → xE p l e R s m args below meth c G A nL Qw k n hp tgt lv st) (kf : ff → xE p l e R s m args below meth c G A nL Qw k n hp pc' lv st) : xE p l e R s m args below meth c G A nL Qw k n hp pc lv (.int x :: st) := by
  subst hn; exact fun H locs ls hH hS hl => lv_if_le X.1 X.2.1 hdg ht (fun h => kt (hf.1 h) H locs ls hH hS hl) (fun h => kf (hf.2 h) H locs ls hH hS hl)
theorem x_icmp_le (X : xX p l e R s m args below meth c G z A y cc nL) {x y1 : Int32} {off : Int} {ft ff : Prop} (hf : (x ≤ y1 → ft) ∧ (¬ x ≤ y1 → ff)) (hdg : decode cc pc = .ok (.if_icmp .le off, 3)) (tgt pc' : Nat) (ht : (pc : Int) + off = (tgt : Int)) (hn : pc + 3 = pc') (kt : ft → xE p l e R s m args below meth c G A nL Qw k n hp tgt lv st) (kf : ff → xE p l e R s m args below meth c G A nL Qw k n hp pc' lv st) : xE p l e R s m args below meth c G A nL Qw k n hp pc lv (.int y1 :: .int x :: st) := by
  subst hn; exact fun H locs ls hH hS hl => lv_icmp_le X.1 X.2.1 hdg ht (fun h => kt (hf.1 h) H locs ls hH hS hl) (fun h => kf (hf.2 h) H locs ls hH hS hl)
theorem x_goto (X : xX p l e R s m args below meth c G z A y cc nL) {off : Int} (hdg : decode cc pc = .ok (.goto off, 3)) (tgt : Nat) (ht : (pc : Int) + off = (tgt : Int)) (kk : xE p l e R s m args below meth c G A nL Qw k n hp tgt lv st) : xE p l e R s m args below meth c G A nL Qw k n hp pc lv st := fun H locs ls hH hS hl => lv_goto X.1 X.2.1 hdg ht (kk H locs ls hH hS hl)
theorem x_ite {cd : Prop} {ft ff : Prop} (hf : (cd → ft) ∧ (¬ cd → ff)) (kt : cd → ft → xE p l e R s m args below meth c G A nL Qw k n hp pc lv st) (kf : ¬ cd → ff → xE p l e R s m args below meth c G A nL Qw k n hp pc lv st) : xE p l e R s m args below meth c G A nL Qw k n hp pc lv st := by
  by_cases h : cd
  · exact kt h (hf.1 h)
  · exact kf h (hf.2 h)
theorem x_tswIn (X : xX p l e R s m args below meth c G z A y cc nL) {x cst : Int32} (hx : x = cst) {dflt lo hi off : Int} {offs : Array Int} {ln : Nat} (hdg : decode cc pc = .ok (.tableswitch dflt lo hi offs, ln)) (h1 : ¬ cst.toInt < lo) (h2 : ¬ hi < cst.toInt) (ho : offs[(cst.toInt - lo).toNat]? = some off) (tgt : Nat) (ht : (pc : Int) + off = (tgt : Int)) (kk : xE p l e R s m args below meth c G A nL Qw k n hp tgt lv st) : xE p l e R s m args below meth c G A nL Qw k n hp pc lv (.int x :: st) := by
  subst hx; exact fun H locs ls hH hS hl => lv_tableIn X.1 X.2.1 hdg h1 h2 ho ht (kk H locs ls hH hS hl)
theorem x_tswOut (X : xX p l e R s m args below meth c G z A y cc nL) {x : Int32} {dflt lo hi : Int} {offs : Array Int} {ln : Nat} (hdg : decode cc pc = .ok (.tableswitch dflt lo hi offs, ln)) (h : x.toInt < lo ∨ hi < x.toInt) (tgt : Nat) (ht : (pc : Int) + dflt = (tgt : Int)) (kk : xE p l e R s m args below meth c G A nL Qw k n hp tgt lv st) : xE p l e R s m args below meth c G A nL Qw k n hp pc lv (.int x :: st) := fun H locs ls hH hS hl => lv_tableOut X.1 X.2.1 hdg h ht (kk H locs ls hH hS hl)
theorem x_lsw (X : xX p l e R s m args below meth c G z A y cc nL) {x : Int32} {dflt off : Int} {ps : Array (Int × Int)} {ln : Nat} (hdg : decode cc pc = .ok (.lookupswitch dflt ps, ln)) (hq : (ps.toList.zip (ps.toList.drop 1)).all (fun (a, next) => a.1 < next.1) = true) (ho : Op.lookupswitch.offset ps.toList dflt x.toInt = off) (tgt : Nat) (ht : (pc : Int) + off = (tgt : Int)) (kk : xE p l e R s m args below meth c G A nL Qw k n hp tgt lv st) : xE p l e R s m args below meth c G A nL Qw k n hp pc lv (.int x :: st) := fun H locs ls hH hS hl => lv_lookup X.1 X.2.1 hdg hq ho ht (kk H locs ls hH hS hl)
end XE
def xloop {α : Type} (F : (α → Prop) → α → Prop) : Nat → α → Prop
  | 0, _ => False
  | n + 1, a => F (xloop F n) a
theorem xloop_ind {α : Type} {F : (α → Prop) → α → Prop} {E : α → Prop} (h : ∀ k : α → Prop, (∀ a, k a → E a) → ∀ a, F k a → E a) : ∀ (f : Nat) (a : α), xloop F f a → E a
  | 0, _, hf => hf.elim
  | f + 1, a, hf => h (xloop F f) (fun b hb => xloop_ind h f b hb) a hf
/-- a loop ends: an invariant and a number that falls -/
theorem xloop_wf {α : Type} {F : (α → Prop) → α → Prop} (I : α → Prop) (μ : α → Nat) (h : ∀ (k : α → Prop) (a : α), I a → (∀ b, I b → μ b < μ a → k b) → F k a) (a : α) (ha : I a) : ∃ f, xloop F f a := by
  have key : ∀ (n : Nat) (b : α), I b → μ b < n → xloop F n b := by
    intro n
    induction n with
    | zero => intro b _ hb; exact absurd hb (Nat.not_lt_zero _)
    | succ n ih => intro b hb hlt; exact h _ b hb (fun d hd hl => ih d hd (by omega))
  exact ⟨μ a + 1, key _ a ha (Nat.lt_succ_self _)⟩
