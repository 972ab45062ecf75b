theorem xH.set {G : xG} {A : Nat → Prop} {h : xh} {H H1 : Heap} {a : Nat} {o : xo} (hH : xH G A h H) (hA : A a) (he : va_at G.1 vwCl (a, xcv G o) H1) (oq : ∀ q : Nat, q ≠ a → H1[q]? = H[q]?) : xH G A (xset h a o) H1 := by
  intro b u hb
  by_cases e : b = a
  · subst e
    rw [xset_eq] at hb
    cases hb
    exact ⟨Or.inl he, Or.inr hA⟩
  · rw [xset_ne e] at hb
    obtain ⟨h1, h2⟩ := hH b u hb
    exact ⟨h1.kept (oq b e), h2⟩
theorem xH.new {G : xG} {A : Nat → Prop} {h : xh} {H H1 : Heap} {o : xo} (hH : xH G A h H) (hA : A H.size) (he : va_at G.1 vwCl (H.size, xcv G o) H1) (oq : ∀ q : Nat, q < H.size → H1[q]? = H[q]?) : xH G A (xset h H.size o) H1 := by
  intro b u hb
  by_cases e : b = H.size
  · subst e
    rw [xset_eq] at hb
    cases hb
    exact ⟨Or.inl he, Or.inr hA⟩
  · rw [xset_ne e] at hb
    obtain ⟨h1, h2⟩ := hH b u hb
    exact ⟨h1.kept (oq b h1.lt), h2⟩
theorem xH.none {G : xG} {A : Nat → Prop} {h : xh} {H : Heap} (hH : xH G A h H) : h H.size = none := by
  cases e : h H.size with
  | none => rfl
  | some o => exact absurd (hH _ _ e).1.lt (Nat.lt_irrefl _)
theorem xH.wr {G : xG} {A : Nat → Prop} {h : xh} {H : Heap} (hH : xH G A h H) {a : Nat} {o : xo} (ha : h a = some o) (hr : ¬ xro o) : A a := (hH a o ha).2.resolve_left hr
def fV (h : xh) (a ci j : Nat) : Option Value := match h a with
  | some (.inr (c, fs)) => if c = ci then fs[j]? else none
  | _ => none
def fI (h : xh) (a ci j : Nat) : Option Int32 := match fV h a ci j with
  | some (.int x) => some x
  | _ => none
def fL (h : xh) (a ci j : Nat) : Option Int64 := match fV h a ci j with
  | some (.long x) => some x
  | _ => none
def fR (h : xh) (a ci j : Nat) : Option Nat := match fV h a ci j with
  | some (.ref x) => some x
  | _ => none
def fN (h : xh) (a ci j : Nat) : Option (Option Nat) := match fV h a ci j with
  | some (.ref x) => some (some x)
  | some .null => some none
  | _ => none
def pV (h : xh) (a ci j : Nat) (v : Value) : Option xh := match h a with
  | some (.inr (c, fs)) => if c = ci ∧ j < fs.length then some (xset h a (.inr (ci, fs.set j v))) else none
  | _ => none
theorem fV_spec {h : xh} {a ci j : Nat} {v : Value} (e : fV h a ci j = some v) : ∃ fs, h a = some (.inr (ci, fs)) ∧ fs[j]? = some v := by
  unfold fV at e
  split at e
  · next c fs hc =>
    by_cases hci : c = ci
    · subst hci
      rw [if_pos rfl] at e
      exact ⟨fs, hc, e⟩
    · rw [if_neg hci] at e; cases e
  · cases e
theorem fI_spec {h : xh} {a ci j : Nat} {v : Int32} (e : fI h a ci j = some v) : fV h a ci j = some (.int v) := by
  unfold fI at e
  split at e
  · next x hx => cases e; exact hx
  · cases e
theorem fL_spec {h : xh} {a ci j : Nat} {v : Int64} (e : fL h a ci j = some v) : fV h a ci j = some (.long v) := by
  unfold fL at e
  split at e
  · next x hx => cases e; exact hx
  · cases e
theorem fR_spec {h : xh} {a ci j : Nat} {v : Nat} (e : fR h a ci j = some v) : fV h a ci j = some (.ref v) := by
  unfold fR at e
  split at e
  · next x hx => cases e; exact hx
  · cases e
theorem fN_spec {h : xh} {a ci j : Nat} {v : Option Nat} (e : fN h a ci j = some v) : fV h a ci j = some (va_rf v) := by
  unfold fN at e
  split at e
  · next x hx => cases e; exact hx
  · next hx => cases e; exact hx
  · cases e
theorem pV_spec {h h' : xh} {a ci j : Nat} {v : Value} (e : pV h a ci j v = some h') : ∃ fs, h a = some (.inr (ci, fs)) ∧ j < fs.length ∧ h' = xset h a (.inr (ci, fs.set j v)) := by
  unfold pV at e
  split at e
  · next c fs hc =>
    by_cases hci : c = ci ∧ j < fs.length
    · rw [if_pos hci] at e
      cases e
      obtain ⟨rfl, h2⟩ := hci
      exact ⟨fs, hc, h2, rfl⟩
    · rw [if_neg hci] at e; cases e
  · cases e
def xcls (h : xh) (a ci : Nat) : Prop := ∃ fs, h a = some (.inr (ci, fs))
/-- one kind of array -/
def aI (h : xh) (a t : Nat) (i : Int32) : Option Int32 := match h a with
  | some (.inl (t', n, .inl f)) => if t' % 100 = t ∧ ¬ (i < 0 ∨ n ≤ i.toNatClampNeg) then some (f i.toNatClampNeg) else none
  | _ => none
def aL (h : xh) (a t : Nat) (i : Int32) : Option Int64 := match h a with
  | some (.inl (t', n, .inr (.inl f))) => if t' % 100 = t ∧ ¬ (i < 0 ∨ n ≤ i.toNatClampNeg) then some (f i.toNatClampNeg) else none
  | _ => none
def aR (h : xh) (a t : Nat) (i : Int32) : Option Nat := match h a with
  | some (.inl (t', n, .inr (.inr (.inr (.inr f))))) => if t' % 100 = t ∧ ¬ (i < 0 ∨ n ≤ i.toNatClampNeg) then f i.toNatClampNeg else none
  | _ => none
def aN (h : xh) (a t : Nat) : Option Nat := match h a with
  | some (.inl (t', n, _)) => if t' % 100 = t then some n else none
  | _ => none
def sI (h : xh) (a t : Nat) (i x : Int32) : Option xh := match h a with
  | some (.inl (t', n, .inl f)) => if t' = t ∧ ¬ (i < 0 ∨ n ≤ i.toNatClampNeg) then some (xset h a (.inl (t, n, .inl (upd f i.toNatClampNeg x)))) else none
  | _ => none
def sL (h : xh) (a t : Nat) (i : Int32) (x : Int64) : Option xh := match h a with
  | some (.inl (t', n, .inr (.inl f))) => if t' = t ∧ ¬ (i < 0 ∨ n ≤ i.toNatClampNeg) then some (xset h a (.inl (t, n, .inr (.inl (vp_updL f i.toNatClampNeg x))))) else none
  | _ => none
def sR (h : xh) (a t : Nat) (i : Int32) (x : Nat) : Option xh := match h a with
  | some (.inl (t', n, .inr (.inr (.inr (.inr f))))) => if t' = t ∧ ¬ (i < 0 ∨ n ≤ i.toNatClampNeg) then some (xset h a (.inl (t, n, .inr (.inr (.inr (.inr (va_up f i.toNatClampNeg (some x)))))))) else none
  | _ => none
theorem aI_spec {h : xh} {a t : Nat} {i : Int32} {v : Int32} (e : aI h a t i = some v) : ∃ t' n f, h a = some (.inl (t', n, .inl f)) ∧ t' % 100 = t ∧ vp_in i n ∧ v = f i.toNatClampNeg := by
  unfold aI at e
  split at e
  · next t' n f hc =>
    by_cases hci : t' % 100 = t ∧ ¬ (i < 0 ∨ n ≤ i.toNatClampNeg)
    · rw [if_pos hci] at e
      cases e
      exact ⟨t', n, f, hc, hci.1, hci.2, rfl⟩
    · rw [if_neg hci] at e; cases e
  · cases e
theorem aL_spec {h : xh} {a t : Nat} {i : Int32} {v : Int64} (e : aL h a t i = some v) : ∃ t' n f, h a = some (.inl (t', n, .inr (.inl f))) ∧ t' % 100 = t ∧ vp_in i n ∧ v = f i.toNatClampNeg := by
  unfold aL at e
  split at e
  · next t' n f hc =>
    by_cases hci : t' % 100 = t ∧ ¬ (i < 0 ∨ n ≤ i.toNatClampNeg)
    · rw [if_pos hci] at e
      cases e
      exact ⟨t', n, f, hc, hci.1, hci.2, rfl⟩
    · rw [if_neg hci] at e; cases e
  · cases e
theorem aR_spec {h : xh} {a t : Nat} {i : Int32} {v : Nat} (e : aR h a t i = some v) : ∃ t' n f, h a = some (.inl (t', n, .inr (.inr (.inr (.inr f))))) ∧ t' % 100 = t ∧ vp_in i n ∧ f i.toNatClampNeg = some v := by
  unfold aR at e
  split at e
  · next t' n f hc =>
    by_cases hci : t' % 100 = t ∧ ¬ (i < 0 ∨ n ≤ i.toNatClampNeg)
    · rw [if_pos hci] at e
      exact ⟨t', n, f, hc, hci.1, hci.2, e⟩
    · rw [if_neg hci] at e; cases e
  · cases e
theorem sI_spec {h h' : xh} {a t : Nat} {i : Int32} {x : Int32} (e : sI h a t i x = some h') : ∃ n f, h a = some (.inl (t, n, .inl f)) ∧ vp_in i n ∧ h' = xset h a (.inl (t, n, .inl (upd f i.toNatClampNeg x))) := by
  unfold sI at e
  split at e
  · next t' n f hc =>
    by_cases hci : t' = t ∧ ¬ (i < 0 ∨ n ≤ i.toNatClampNeg)
    · rw [if_pos hci] at e
      cases e
      obtain ⟨rfl, h2⟩ := hci
      exact ⟨n, f, hc, h2, rfl⟩
    · rw [if_neg hci] at e; cases e
  · cases e
theorem sL_spec {h h' : xh} {a t : Nat} {i : Int32} {x : Int64} (e : sL h a t i x = some h') : ∃ n f, h a = some (.inl (t, n, .inr (.inl f))) ∧ vp_in i n ∧ h' = xset h a (.inl (t, n, .inr (.inl (vp_updL f i.toNatClampNeg x)))) := by
  unfold sL at e
  split at e
  · next t' n f hc =>
    by_cases hci : t' = t ∧ ¬ (i < 0 ∨ n ≤ i.toNatClampNeg)
    · rw [if_pos hci] at e
      cases e
      obtain ⟨rfl, h2⟩ := hci
      exact ⟨n, f, hc, h2, rfl⟩
    · rw [if_neg hci] at e; cases e
  · cases e
theorem sR_spec {h h' : xh} {a t : Nat} {i : Int32} {x : Nat} (e : sR h a t i x = some h') : ∃ n f, h a = some (.inl (t, n, .inr (.inr (.inr (.inr f))))) ∧ vp_in i n ∧ h' = xset h a (.inl (t, n, .inr (.inr (.inr (.inr (va_up f i.toNatClampNeg (some x))))))) := by
  unfold sR at e
  split at e
  · next t' n f hc =>
    by_cases hci : t' = t ∧ ¬ (i < 0 ∨ n ≤ i.toNatClampNeg)
    · rw [if_pos hci] at e
      cases e
      obtain ⟨rfl, h2⟩ := hci
      exact ⟨n, f, hc, h2, rfl⟩
    · rw [if_neg hci] at e; cases e
  · cases e
theorem aN_spec {h : xh} {a t n : Nat} (e : aN h a t = some n) : ∃ t' x, h a = some (.inl (t', n, x)) ∧ t' % 100 = t := by
  unfold aN at e
  split at e
  · next t' n' x hc =>
    by_cases hci : t' % 100 = t
    · rw [if_pos hci] at e
      cases e
      exact ⟨t', x, hc, hci⟩
    · rw [if_neg hci] at e; cases e
  · cases e
section XB
variable {p : Program} {l : Launch} {e : Env} {R : Room} {s : State} {m : MethodId} {args : Array Value} {below : List Frame} {meth : Method} {c : Code} {G : xG} {z : Nat → Nat} {A : Nat → Prop} {y : MethodName} {cc : ByteArray} {nL : Nat} {Qw : State → Prop} {k n : Nat} {hp : xh} {pc : Nat} {lv lv' : List (Nat × Value)} {st : List Value}
theorem x_getV (X : xX p l e R s m args below meth c G z A y cc nL) {a ci j idx : Nat} {v : Value} {C : String} {T : u_T} {N : Nat} (hc : vwCl[ci]? = some (C, T, N)) (hj : j < N) (ho : (T j).1 = C) (hlink : Cond.fieldLink y.cls idx C (T j).2.1 (T j).2.2.1 ∈ xws) (hv : fV hp a ci j = some v) (hdg : decode cc pc = .ok (.getfield idx, 3)) (pc' : Nat) (hn : pc + 3 = pc') (kk : xE p l e R s m args below meth c G A nL Qw k n hp pc' lv (v :: st)) : xE p l e R s m args below meth c G A nL Qw k n hp pc lv (.ref a :: st) := by
  subst hn
  intro H locs ls hH hS hl
  obtain ⟨fs, ha, hfs⟩ := fV_spec hv
  have hP : va_P G.1 vwCl [(a, .inr (ci, fs))] H := fun i q hq => by
    cases i with
    | zero => cases hq; exact (hH a _ ha).1.ob
    | succ i => simp at hq
  exact va_get (Ts := xws) X.1 X.2.1 X.2.2.2.2.1 (xcl_ok ci _ hc).1 X.2.2.2.1 X.2.2.2.2.2.1.1 hP 0 rfl hc j hj (X.2.2.2.2.1 _ hlink) (by rw [ho]; exact fun _ h => h) hfs hdg (kk H locs ls hH hS hl)
theorem x_getI (X : xX p l e R s m args below meth c G z A y cc nL) {a ci j idx : Nat} {C : String} {T : u_T} {N : Nat} {kf : Int32 → Prop} (hf : ∃ v, fI hp a ci j = some v ∧ kf v) (hc : vwCl[ci]? = some (C, T, N)) (hj : j < N) (ho : (T j).1 = C) (hlink : Cond.fieldLink y.cls idx C (T j).2.1 (T j).2.2.1 ∈ xws) (hdg : decode cc pc = .ok (.getfield idx, 3)) (pc' : Nat) (hn : pc + 3 = pc') (kk : ∀ v, kf v → xE p l e R s m args below meth c G A nL Qw k n hp pc' lv (.int v :: st)) : xE p l e R s m args below meth c G A nL Qw k n hp pc lv (.ref a :: st) := by
  obtain ⟨v, h1, h2⟩ := hf
  exact x_getV X hc hj ho hlink (fI_spec h1) hdg pc' hn (kk v h2)
theorem x_getL (X : xX p l e R s m args below meth c G z A y cc nL) {a ci j idx : Nat} {C : String} {T : u_T} {N : Nat} {kf : Int64 → Prop} (hf : ∃ v, fL hp a ci j = some v ∧ kf v) (hc : vwCl[ci]? = some (C, T, N)) (hj : j < N) (ho : (T j).1 = C) (hlink : Cond.fieldLink y.cls idx C (T j).2.1 (T j).2.2.1 ∈ xws) (hdg : decode cc pc = .ok (.getfield idx, 3)) (pc' : Nat) (hn : pc + 3 = pc') (kk : ∀ v, kf v → xE p l e R s m args below meth c G A nL Qw k n hp pc' lv (.long v :: st)) : xE p l e R s m args below meth c G A nL Qw k n hp pc lv (.ref a :: st) := by
  obtain ⟨v, h1, h2⟩ := hf
  exact x_getV X hc hj ho hlink (fL_spec h1) hdg pc' hn (kk v h2)
theorem x_getR (X : xX p l e R s m args below meth c G z A y cc nL) {a ci j idx : Nat} {C : String} {T : u_T} {N : Nat} {kf : Nat → Prop} (hf : ∃ v, fR hp a ci j = some v ∧ kf v) (hc : vwCl[ci]? = some (C, T, N)) (hj : j < N) (ho : (T j).1 = C) (hlink : Cond.fieldLink y.cls idx C (T j).2.1 (T j).2.2.1 ∈ xws) (hdg : decode cc pc = .ok (.getfield idx, 3)) (pc' : Nat) (hn : pc + 3 = pc') (kk : ∀ v, kf v → xE p l e R s m args below meth c G A nL Qw k n hp pc' lv (.ref v :: st)) : xE p l e R s m args below meth c G A nL Qw k n hp pc lv (.ref a :: st) := by
  obtain ⟨v, h1, h2⟩ := hf
  exact x_getV X hc hj ho hlink (fR_spec h1) hdg pc' hn (kk v h2)
theorem x_getQ (X : xX p l e R s m args below meth c G z A y cc nL) {a ci j idx : Nat} {C : String} {T : u_T} {N : Nat} {kf : Option Nat → Prop} (hf : ∃ v, fN hp a ci j = some v ∧ kf v) (hc : vwCl[ci]? = some (C, T, N)) (hj : j < N) (ho : (T j).1 = C) (hlink : Cond.fieldLink y.cls idx C (T j).2.1 (T j).2.2.1 ∈ xws) (hdg : decode cc pc = .ok (.getfield idx, 3)) (pc' : Nat) (hn : pc + 3 = pc') (kk : ∀ v, kf v → xE p l e R s m args below meth c G A nL Qw k n hp pc' lv (va_rf v :: st)) : xE p l e R s m args below meth c G A nL Qw k n hp pc lv (.ref a :: st) := by
  obtain ⟨v, h1, h2⟩ := hf
  exact x_getV X hc hj ho hlink (fN_spec h1) hdg pc' hn (kk v h2)
theorem x_getVN (X : xX p l e R s m args below meth c G z A y cc nL) {a ci j idx : Nat} {v : Value} {C : String} {T : u_T} {N : Nat} (hc : vwCl[ci]? = some (C, T, N)) (hj : j < N) (ho : (T j).1 = C) {host : String} (hlink : Cond.fieldLinkNest y.cls idx C (T j).2.1 (T j).2.2.1 host ∈ lw_tbl) (hv : fV hp a ci j = some v) (hdg : decode cc pc = .ok (.getfield idx, 3)) (pc' : Nat) (hn : pc + 3 = pc') (kk : xE p l e R s m args below meth c G A nL Qw k n hp pc' lv (v :: st)) : xE p l e R s m args below meth c G A nL Qw k n hp pc lv (.ref a :: st) := by
  subst hn
  intro H locs ls hH hS hl
  obtain ⟨fs, ha, hfs⟩ := fV_spec hv
  have hP : va_P G.1 vwCl [(a, .inr (ci, fs))] H := fun i q hq => by
    cases i with
    | zero => cases hq; exact (hH a _ ha).1.ob
    | succ i => simp at hq
  exact va_getN (Ts := xws) X.1 X.2.1 X.2.2.2.2.1 (xcl_ok ci _ hc).1 X.2.2.2.1 X.2.2.2.2.2.1.1 hP 0 rfl hc j hj (va_Nw.use rfl (X.2.2.2.2.2.1.2.1 _ hlink rfl)) (by rw [ho]; exact fun _ h => h) hfs hdg (kk H locs ls hH hS hl)
theorem x_getIN (X : xX p l e R s m args below meth c G z A y cc nL) {a ci j idx : Nat} {C : String} {T : u_T} {N : Nat} {kf : Int32 → Prop} (hf : ∃ v, fI hp a ci j = some v ∧ kf v) (hc : vwCl[ci]? = some (C, T, N)) (hj : j < N) (ho : (T j).1 = C) {host : String} (hlink : Cond.fieldLinkNest y.cls idx C (T j).2.1 (T j).2.2.1 host ∈ lw_tbl) (hdg : decode cc pc = .ok (.getfield idx, 3)) (pc' : Nat) (hn : pc + 3 = pc') (kk : ∀ v, kf v → xE p l e R s m args below meth c G A nL Qw k n hp pc' lv (.int v :: st)) : xE p l e R s m args below meth c G A nL Qw k n hp pc lv (.ref a :: st) := by
  obtain ⟨v, h1, h2⟩ := hf
  exact x_getVN X hc hj ho hlink (fI_spec h1) hdg pc' hn (kk v h2)
theorem x_getLN (X : xX p l e R s m args below meth c G z A y cc nL) {a ci j idx : Nat} {C : String} {T : u_T} {N : Nat} {kf : Int64 → Prop} (hf : ∃ v, fL hp a ci j = some v ∧ kf v) (hc : vwCl[ci]? = some (C, T, N)) (hj : j < N) (ho : (T j).1 = C) {host : String} (hlink : Cond.fieldLinkNest y.cls idx C (T j).2.1 (T j).2.2.1 host ∈ lw_tbl) (hdg : decode cc pc = .ok (.getfield idx, 3)) (pc' : Nat) (hn : pc + 3 = pc') (kk : ∀ v, kf v → xE p l e R s m args below meth c G A nL Qw k n hp pc' lv (.long v :: st)) : xE p l e R s m args below meth c G A nL Qw k n hp pc lv (.ref a :: st) := by
  obtain ⟨v, h1, h2⟩ := hf
  exact x_getVN X hc hj ho hlink (fL_spec h1) hdg pc' hn (kk v h2)
theorem x_getRN (X : xX p l e R s m args below meth c G z A y cc nL) {a ci j idx : Nat} {C : String} {T : u_T} {N : Nat} {kf : Nat → Prop} (hf : ∃ v, fR hp a ci j = some v ∧ kf v) (hc : vwCl[ci]? = some (C, T, N)) (hj : j < N) (ho : (T j).1 = C) {host : String} (hlink : Cond.fieldLinkNest y.cls idx C (T j).2.1 (T j).2.2.1 host ∈ lw_tbl) (hdg : decode cc pc = .ok (.getfield idx, 3)) (pc' : Nat) (hn : pc + 3 = pc') (kk : ∀ v, kf v → xE p l e R s m args below meth c G A nL Qw k n hp pc' lv (.ref v :: st)) : xE p l e R s m args below meth c G A nL Qw k n hp pc lv (.ref a :: st) := by
  obtain ⟨v, h1, h2⟩ := hf
  exact x_getVN X hc hj ho hlink (fR_spec h1) hdg pc' hn (kk v h2)
theorem x_getQN (X : xX p l e R s m args below meth c G z A y cc nL) {a ci j idx : Nat} {C : String} {T : u_T} {N : Nat} {kf : Option Nat → Prop} (hf : ∃ v, fN hp a ci j = some v ∧ kf v) (hc : vwCl[ci]? = some (C, T, N)) (hj : j < N) (ho : (T j).1 = C) {host : String} (hlink : Cond.fieldLinkNest y.cls idx C (T j).2.1 (T j).2.2.1 host ∈ lw_tbl) (hdg : decode cc pc = .ok (.getfield idx, 3)) (pc' : Nat) (hn : pc + 3 = pc') (kk : ∀ v, kf v → xE p l e R s m args below meth c G A nL Qw k n hp pc' lv (va_rf v :: st)) : xE p l e R s m args below meth c G A nL Qw k n hp pc lv (.ref a :: st) := by
  obtain ⟨v, h1, h2⟩ := hf
  exact x_getVN X hc hj ho hlink (fN_spec h1) hdg pc' hn (kk v h2)
theorem x_put (X : xX p l e R s m args below meth c G z A y cc nL) {a ci j idx : Nat} {v : Value} {ty : FieldType} {C : String} {T : u_T} {N : Nat} {kf : xh → Prop} (hf : ∃ h', pV hp a ci j v = some h' ∧ kf h') (hc : vwCl[ci]? = some (C, T, N)) (hj : j < N) (ho : (T j).1 = C) (hlink : Cond.fieldLink y.cls idx C (T j).2.1 (T j).2.2.1 ∈ xws) (hfin : (T j).2.2.2 = false) (hd : parseFieldDescriptor (T j).2.2.1 = some ty) (hnr : narrow ty v = v) (hfit : fits ty v = true) (hdg : decode cc pc = .ok (.putfield idx, 3)) (pc' : Nat) (hn : pc + 3 = pc') (kk : ∀ h', kf h' → xE p l e R s m args below meth c G A nL Qw k n h' pc' lv st) : xE p l e R s m args below meth c G A nL Qw k n hp pc lv (v :: .ref a :: st) := by
  subst hn
  intro H locs ls hH hS hl
  obtain ⟨h', h1, h2⟩ := hf
  obtain ⟨fs, ha, hlen, rfl⟩ := pV_spec h1
  obtain ⟨hin, ty0, hty, hnm⟩ := xcl_ok ci _ hc
  have hts := X.2.2.2.2.1
  have hK := X.2.2.2.2.2.1.1
  have hap := va_apart (own := C) hts hin ty0 hty hnm hK hc
  have hAa : A a := hH.wr ha (fun h => h)
  obtain ⟨r, h3, cell, q1, q2, q3, q4⟩ := (hH a _ ha).1.ob
  have hr : r = (C, T, N) := Option.some.inj (h3.symm.trans hc)
  subst hr
  obtain ⟨hSl, hfc, kC, hkC, hkind⟩ := hK.1 ci _ hc
  obtain ⟨cf, kf1, fi, f, hi, hsl⟩ := hSl j hj
  have hlay := hts _ (hin _ (u_in_lay hj))
  unfold u_lay at hlay
  have hst := (u_facts hfc hkC (u_lays hts hin hj) hi).1
  have hi2 : s.fieldFound? C (T j).2.1 (T j).2.2.1 = some (cf, kf1, fi, f) := by have hi3 := hi; rw [ho] at hi3; exact hi3
  rw [if_neg (by rw [hfin]; decide)] at hlay
  have h6 := u_store hfc hkC hkind hlay hi hd hnr hfit
  refine W.putK X.1 X.2.1 (f := f) ⟨X.2.2.2.1, X.2.2.2.2.1 _ hlink, ⟨_, _, _, hi2⟩, hst⟩ (by rw [q2]; exact h6) q1 q3 (by rw [hsl]; exact k2_hasslot (q4 j hj)) rfl rfl hdg fun H' e1 e2 e3 => ?_
  rw [hsl] at e1 ⊢
  exact kk _ h2 H' _ ls (hH.set hAa ⟨_, hc, t_OB.to (V := updV (vp_V fs) j v) ⟨_, e1, q2, q3, t_set q4 hap hj v⟩ (fun i _ => vp_updV_set hlen v i)⟩ e3) (hS.put e2 e3 hAa) hl
theorem x_putN (X : xX p l e R s m args below meth c G z A y cc nL) {a ci j idx : Nat} {v : Value} {ty : FieldType} {C : String} {T : u_T} {N : Nat} {kf : xh → Prop} (hf : ∃ h', pV hp a ci j v = some h' ∧ kf h') (hc : vwCl[ci]? = some (C, T, N)) (hj : j < N) (ho : (T j).1 = C) {host : String} (hlink : Cond.fieldLinkNest y.cls idx C (T j).2.1 (T j).2.2.1 host ∈ lw_tbl) (hfin : (T j).2.2.2 = false) (hd : parseFieldDescriptor (T j).2.2.1 = some ty) (hnr : narrow ty v = v) (hfit : fits ty v = true) (hdg : decode cc pc = .ok (.putfield idx, 3)) (pc' : Nat) (hn : pc + 3 = pc') (kk : ∀ h', kf h' → xE p l e R s m args below meth c G A nL Qw k n h' pc' lv st) : xE p l e R s m args below meth c G A nL Qw k n hp pc lv (v :: .ref a :: st) := by
  subst hn
  intro H locs ls hH hS hl
  obtain ⟨h', h1, h2⟩ := hf
  obtain ⟨fs, ha, hlen, rfl⟩ := pV_spec h1
  obtain ⟨hin, ty0, hty, hnm⟩ := xcl_ok ci _ hc
  have hts := X.2.2.2.2.1
  have hK := X.2.2.2.2.2.1.1
  have hap := va_apart (own := C) hts hin ty0 hty hnm hK hc
  have hAa : A a := hH.wr ha (fun h => h)
  obtain ⟨r, h3, cell, q1, q2, q3, q4⟩ := (hH a _ ha).1.ob
  have hr : r = (C, T, N) := Option.some.inj (h3.symm.trans hc)
  subst hr
  obtain ⟨hSl, hfc, kC, hkC, hkind⟩ := hK.1 ci _ hc
  obtain ⟨cf, kf1, fi, f, hi, hsl⟩ := hSl j hj
  have hlay := hts _ (hin _ (u_in_lay hj))
  unfold u_lay at hlay
  have hst := (u_facts hfc hkC (u_lays hts hin hj) hi).1
  have hi2 : s.fieldFound? C (T j).2.1 (T j).2.2.1 = some (cf, kf1, fi, f) := by have hi3 := hi; rw [ho] at hi3; exact hi3
  rw [if_neg (by rw [hfin]; decide)] at hlay
  have h6 := u_store hfc hkC hkind hlay hi hd hnr hfit
  refine va_WputK X.1 X.2.1 (f := f) X.2.2.2.1 (va_Nw.use rfl (X.2.2.2.2.2.1.2.1 _ hlink rfl)) hi2 hst (by rw [q2]; exact h6) q1 q3 (by rw [hsl]; exact k2_hasslot (q4 j hj)) rfl rfl hdg fun H' e1 e2 e3 => ?_
  rw [hsl] at e1 ⊢
  exact kk _ h2 H' _ ls (hH.set hAa ⟨_, hc, t_OB.to (V := updV (vp_V fs) j v) ⟨_, e1, q2, q3, t_set q4 hap hj v⟩ (fun i _ => vp_updV_set hlen v i)⟩ e3) (hS.put e2 e3 hAa) hl
theorem x_putF (X : xX p l e R s m args below meth c G z A y cc nL) {a ci j idx : Nat} {v : Value} {ty : FieldType} {C : String} {T : u_T} {N : Nat} {kf : xh → Prop} (hf : ∃ h', pV hp a ci j v = some h' ∧ kf h') (hc : vwCl[ci]? = some (C, T, N)) (hj : j < N) (ho : (T j).1 = C) (hlink : Cond.fieldLink y.cls idx C (T j).2.1 (T j).2.2.1 ∈ xws) (hfin : (T j).2.2.2 = true) (hini : y.name = "<init>") (hoy : C = y.cls) (hd : parseFieldDescriptor (T j).2.2.1 = some ty) (hnr : narrow ty v = v) (hfit : fits ty v = true) (hdg : decode cc pc = .ok (.putfield idx, 3)) (pc' : Nat) (hn : pc + 3 = pc') (kk : ∀ h', kf h' → xE p l e R s m args below meth c G A nL Qw k n h' pc' lv st) : xE p l e R s m args below meth c G A nL Qw k n hp pc lv (v :: .ref a :: st) := by
  subst hn
  intro H locs ls hH hS hl
  obtain ⟨h', h1, h2⟩ := hf
  obtain ⟨fs, ha, hlen, rfl⟩ := pV_spec h1
  obtain ⟨hin, ty0, hty, hnm⟩ := xcl_ok ci _ hc
  have hts := X.2.2.2.2.1
  have hK := X.2.2.2.2.2.1.1
  have hap := va_apart (own := C) hts hin ty0 hty hnm hK hc
  have hAa : A a := hH.wr ha (fun h => h)
  obtain ⟨r, h3, cell, q1, q2, q3, q4⟩ := (hH a _ ha).1.ob
  have hr : r = (C, T, N) := Option.some.inj (h3.symm.trans hc)
  subst hr
  obtain ⟨hSl, hfc, kC, hkC, hkind⟩ := hK.1 ci _ hc
  obtain ⟨cf, kf1, fi, f, hi, hsl⟩ := hSl j hj
  have hlay := hts _ (hin _ (u_in_lay hj))
  unfold u_lay at hlay
  have hst := (u_facts hfc hkC (u_lays hts hin hj) hi).1
  have hi2 : s.fieldFound? C (T j).2.1 (T j).2.2.1 = some (cf, kf1, fi, f) := by have hi3 := hi; rw [ho] at hi3; exact hi3
  rw [if_pos hfin] at hlay
  have hcf : m.cls = cf := by
    obtain ⟨_, _, c', _, _, _, -, -, hf', -, -, -, hown2, -⟩ := Cond.laysFinal_spec hlay
    have e1 : c' = cf := by have := hi.symm.trans hf'; simp at this; exact this.1.symm
    rw [ho, hoy] at hown2
    rw [← e1]; exact Option.some.inj (X.2.2.2.1.symm.trans hown2)
  have h6 := u_fits hfc hkC hkind (Or.inr hlay) hi hd hnr hfit
  refine W.putFinK X.1 X.2.1 X.2.2.2.1 (X.2.2.2.2.1 _ hlink) hi2 hst hcf (X.2.2.2.2.2.2.2.2.trans hini) (by rw [q2]; exact h6) q1 q3 (by rw [hsl]; exact k2_hasslot (q4 j hj)) rfl rfl hdg fun H' e1 e2 e3 => ?_
  rw [hsl] at e1 ⊢
  exact kk _ h2 H' _ ls (hH.set hAa ⟨_, hc, t_OB.to (V := updV (vp_V fs) j v) ⟨_, e1, q2, q3, t_set q4 hap hj v⟩ (fun i _ => vp_updV_set hlen v i)⟩ e3) (hS.put e2 e3 hAa) hl
theorem x_iald (X : xX p l e R s m args below meth c G z A y cc nL) {a : Nat} {i : Int32} {kf : Int32 → Prop} (hf : ∃ v, aI hp a 0 i = some v ∧ kf v) (hdg : decode cc pc = .ok (.iaload, 1)) (pc' : Nat) (hn : pc + 1 = pc') (kk : ∀ v, kf v → xE p l e R s m args below meth c G A nL Qw k n hp pc' lv (.int v :: st)) : xE p l e R s m args below meth c G A nL Qw k n hp pc lv (.int i :: .ref a :: st) := by
  subst hn
  intro H locs ls hH hS hl
  obtain ⟨v, h1, h2⟩ := hf
  obtain ⟨t', n', f, ha, ht, hin, rfl⟩ := aI_spec h1
  rcases (hH a _ ha).1 with h3 | hold
  · have hP : va_P G.1 vwCl [(a, .inl (G.2 0, n', .inl f))] H := fun i q hq => by
      cases i with
      | zero => cases hq; simp only [xcv, ht] at h3; exact h3
      | succ i => simp at hq
    exact va_iald X.1 X.2.1 X.2.2.2.2.2.1.1 hP 0 0 rfl rfl hin hdg (kk _ h2 H locs ls hH hS hl)
  · obtain ⟨t2, n2, f2, e1, e2, e3, cell, c1, c2, c3, c4, c5, c6, ix, x1, x2, x3⟩ := hold
    cases e1
    obtain ⟨k0, q1, comp, q2⟩ := X.2.2.2.2.2.1.2.2.2 ix x1 x2
    exact W.iald X.1 X.2.1 c1 ⟨c2, k0, by rw [x3]; exact q1, comp, q2⟩ c3 (fun q => hin (q.imp id (fun h => Nat.le_trans c4 h))) (c6 _ (Nat.not_le.mp fun q => hin (Or.inr q))) rfl rfl hdg (kk _ h2 H locs ls hH hS hl)
theorem x_bald (X : xX p l e R s m args below meth c G z A y cc nL) {a : Nat} {i : Int32} {kf : Int32 → Prop} (hf : ∃ v, aI hp a 1 i = some v ∧ kf v) (hdg : decode cc pc = .ok (.baload, 1)) (pc' : Nat) (hn : pc + 1 = pc') (kk : ∀ v, kf v → xE p l e R s m args below meth c G A nL Qw k n hp pc' lv (.int v :: st)) : xE p l e R s m args below meth c G A nL Qw k n hp pc lv (.int i :: .ref a :: st) := by
  subst hn
  intro H locs ls hH hS hl
  obtain ⟨v, h1, h2⟩ := hf
  obtain ⟨t', n', f, ha, ht, hin, rfl⟩ := aI_spec h1
  rcases (hH a _ ha).1 with h3 | hold
  · have hP : va_P G.1 vwCl [(a, .inl (G.2 1, n', .inl f))] H := fun i q hq => by
      cases i with
      | zero => cases hq; simp only [xcv, ht] at h3; exact h3
      | succ i => simp at hq
    exact va_bald X.1 X.2.1 X.2.2.2.2.2.1.1 hP 0 1 rfl rfl hin hdg (kk _ h2 H locs ls hH hS hl)
  · obtain ⟨t2, n2, f2, e1, e2, e3, -⟩ := hold
    cases e1
    omega
theorem x_zald (X : xX p l e R s m args below meth c G z A y cc nL) {a : Nat} {i : Int32} {kf : Int32 → Prop} (hf : ∃ v, aI hp a 2 i = some v ∧ kf v) (hdg : decode cc pc = .ok (.baload, 1)) (pc' : Nat) (hn : pc + 1 = pc') (kk : ∀ v, kf v → xE p l e R s m args below meth c G A nL Qw k n hp pc' lv (.int v :: st)) : xE p l e R s m args below meth c G A nL Qw k n hp pc lv (.int i :: .ref a :: st) := by
  subst hn
  intro H locs ls hH hS hl
  obtain ⟨v, h1, h2⟩ := hf
  obtain ⟨t', n', f, ha, ht, hin, rfl⟩ := aI_spec h1
  rcases (hH a _ ha).1 with h3 | hold
  · have hP : va_P G.1 vwCl [(a, .inl (G.2 2, n', .inl f))] H := fun i q hq => by
      cases i with
      | zero => cases hq; simp only [xcv, ht] at h3; exact h3
      | succ i => simp at hq
    exact va_zald X.1 X.2.1 X.2.2.2.2.2.1.1 hP 0 2 rfl rfl hin hdg (kk _ h2 H locs ls hH hS hl)
  · obtain ⟨t2, n2, f2, e1, e2, e3, -⟩ := hold
    cases e1
    omega
theorem x_lald (X : xX p l e R s m args below meth c G z A y cc nL) {a : Nat} {i : Int32} {kf : Int64 → Prop} (hf : ∃ v, aL hp a 3 i = some v ∧ kf v) (hdg : decode cc pc = .ok (.laload, 1)) (pc' : Nat) (hn : pc + 1 = pc') (kk : ∀ v, kf v → xE p l e R s m args below meth c G A nL Qw k n hp pc' lv (.long v :: st)) : xE p l e R s m args below meth c G A nL Qw k n hp pc lv (.int i :: .ref a :: st) := by
  subst hn
  intro H locs ls hH hS hl
  obtain ⟨v, h1, h2⟩ := hf
  obtain ⟨t', n', f, ha, ht, hin, rfl⟩ := aL_spec h1
  rcases (hH a _ ha).1 with h3 | hold
  · have hP : va_P G.1 vwCl [(a, .inl (G.2 3, n', .inr (.inl f)))] H := fun i q hq => by
      cases i with
      | zero => cases hq; simp only [xcv, ht] at h3; exact h3
      | succ i => simp at hq
    exact va_lald X.1 X.2.1 X.2.2.2.2.2.1.1 hP 0 3 rfl rfl hin hdg (kk _ h2 H locs ls hH hS hl)
  · obtain ⟨t2, n2, f2, e1, e2, e3, -⟩ := hold
    cases e1
theorem x_cald (X : xX p l e R s m args below meth c G z A y cc nL) {a : Nat} {i : Int32} {kf : Int32 → Prop} (hf : ∃ v, aI hp a 4 i = some v ∧ kf v) (hdg : decode cc pc = .ok (.caload, 1)) (pc' : Nat) (hn : pc + 1 = pc') (kk : ∀ v, kf v → xE p l e R s m args below meth c G A nL Qw k n hp pc' lv (.int v :: st)) : xE p l e R s m args below meth c G A nL Qw k n hp pc lv (.int i :: .ref a :: st) := by
  subst hn
  intro H locs ls hH hS hl
  obtain ⟨v, h1, h2⟩ := hf
  obtain ⟨t', n', f, ha, ht, hin, rfl⟩ := aI_spec h1
  rcases (hH a _ ha).1 with h3 | hold
  · have hP : va_P G.1 vwCl [(a, .inl (G.2 4, n', .inl f))] H := fun i q hq => by
      cases i with
      | zero => cases hq; simp only [xcv, ht] at h3; exact h3
      | succ i => simp at hq
    exact va_cald X.1 X.2.1 X.2.2.2.2.2.1.1 hP 0 4 rfl rfl hin hdg (kk _ h2 H locs ls hH hS hl)
  · obtain ⟨t2, n2, f2, e1, e2, e3, -⟩ := hold
    cases e1
    omega
theorem x_aald (X : xX p l e R s m args below meth c G z A y cc nL) {a t : Nat} {Cn : String} {i : Int32} {kf : Nat → Prop} (hf : ∃ v, aR hp a t i = some v ∧ kf v) (ht : (xtys G)[t]? = some (G.2 t, .object Cn)) (hdg : decode cc pc = .ok (.aaload, 1)) (pc' : Nat) (hn : pc + 1 = pc') (kk : ∀ v, kf v → xE p l e R s m args below meth c G A nL Qw k n hp pc' lv (.ref v :: st)) : xE p l e R s m args below meth c G A nL Qw k n hp pc lv (.int i :: .ref a :: st) := by
  subst hn
  intro H locs ls hH hS hl
  obtain ⟨v, h1, h2⟩ := hf
  obtain ⟨t', n', f, ha, ht', hin, hfv⟩ := aR_spec h1
  have h3 : va_at G.1 vwCl (a, xcv G (.inl (t', n', .inr (.inr (.inr (.inr f)))))) H := by
    rcases (hH a _ ha).1 with h3 | ⟨t2, n2, f2, e1, -⟩
    · exact h3
    · cases e1
  have hP : va_P G.1 vwCl [(a, .inl (G.2 t, n', .inr (.inr (.inr (.inr f)))))] H := fun i q hq => by
    cases i with
    | zero => cases hq; simp only [xcv, ht'] at h3; exact h3
    | succ i => simp at hq
  refine va_aldq X.1 X.2.1 X.2.2.2.2.2.1.1 hP 0 t rfl ht hin hdg ?_
  rw [hfv]
  exact kk _ h2 H locs ls hH hS hl
theorem x_alen (X : xX p l e R s m args below meth c G z A y cc nL) {a t : Nat} {ty : FieldType} {kf : Int32 → Prop} (hf : ∃ n', aN hp a t = some n' ∧ ∀ v, v = Int32.ofNat n' → kf v) (ht : (xtys G)[t]? = some (G.2 t, ty)) (hdg : decode cc pc = .ok (.arraylength, 1)) (pc' : Nat) (hn : pc + 1 = pc') (kk : ∀ v, kf v → xE p l e R s m args below meth c G A nL Qw k n hp pc' lv (.int v :: st)) : xE p l e R s m args below meth c G A nL Qw k n hp pc lv (.ref a :: st) := by
  subst hn
  intro H locs ls hH hS hl
  obtain ⟨v, h1, h2⟩ := hf
  obtain ⟨t', x, ha, ht'⟩ := aN_spec h1
  rcases (hH a _ ha).1 with h3 | hold
  · have hP : va_P G.1 vwCl [(a, .inl (G.2 t, v, x))] H := fun i q hq => by
      cases i with
      | zero => cases hq; simp only [xcv, ht'] at h3; exact h3
      | succ i => simp at hq
    exact va_alen X.1 X.2.1 X.2.2.2.2.2.1.1 hP 0 t rfl ht rfl hdg (kk _ (h2 _ rfl) H locs ls hH hS hl)
  · obtain ⟨t2, n2, f2, e1, e2, e3, cell, c1, c2, c3, c4, c5, c6, ix, x1, x2, x3⟩ := hold
    cases e1
    obtain ⟨k0, q1, comp, q2⟩ := X.2.2.2.2.2.1.2.2.2 ix x1 x2
    exact W.alen X.1 X.2.1 c1 ⟨c2, k0, by rw [x3]; exact q1, comp, q2⟩ c5 rfl rfl hdg (kk _ (h2 _ rfl) H locs ls hH hS hl)
theorem x_iast (X : xX p l e R s m args below meth c G z A y cc nL) {a : Nat} {i : Int32} {x : Int32} {kf : xh → Prop} (hf : ∃ h', sI hp a 0 i x = some h' ∧ kf h') (hdg : decode cc pc = .ok (.iastore, 1)) (pc' : Nat) (hn : pc + 1 = pc') (kk : ∀ h', kf h' → xE p l e R s m args below meth c G A nL Qw k n h' pc' lv st) : xE p l e R s m args below meth c G A nL Qw k n hp pc lv (.int x :: .int i :: .ref a :: st) := by
  subst hn
  intro H locs ls hH hS hl
  obtain ⟨h', h1, h2⟩ := hf
  obtain ⟨n', f, ha, hin, rfl⟩ := sI_spec h1
  have hAa : A a := hH.wr ha (by show ¬ (100 ≤ 0); omega)
  have h3 := (hH a _ ha).1.ar (by decide)
  refine W.iast X.1 X.2.1 h3 ((X.2.2.2.2.2.1.1.2 0 _ rfl).1 n' (fun j => .int (f j))) (fun q => by cases q) (by show ¬ (i < 0 ∨ (arrV _ _ _).slots.size ≤ _); rw [arrV_size]; exact hin) rfl rfl hdg fun H1 e1 z1 oq => ?_
  refine kk _ h2 H1 _ ls (hH.set hAa ?_ oq) (hS.put z1 oq hAa) hl
  show H1[a]? = some (vp_cell _ _)
  rw [e1]
  show some ((vp_cell _ _).setSlot _ _) = _
  rw [vp_cell_i, vp_cell_i, arrV_store]
  congr 2
  funext q
  by_cases hq : q = i.toNatClampNeg
  · subst hq
    simp [updV, upd]
  · simp [updV, upd, hq]
theorem x_bast (X : xX p l e R s m args below meth c G z A y cc nL) {a : Nat} {i : Int32} {x : Int32} {kf : xh → Prop} (hf : ∃ h', sI hp a 1 i (vp_nar .byte x) = some h' ∧ kf h') (hdg : decode cc pc = .ok (.bastore, 1)) (pc' : Nat) (hn : pc + 1 = pc') (kk : ∀ h', kf h' → xE p l e R s m args below meth c G A nL Qw k n h' pc' lv st) : xE p l e R s m args below meth c G A nL Qw k n hp pc lv (.int x :: .int i :: .ref a :: st) := by
  subst hn
  intro H locs ls hH hS hl
  obtain ⟨h', h1, h2⟩ := hf
  obtain ⟨n', f, ha, hin, rfl⟩ := sI_spec h1
  have hAa : A a := hH.wr ha (by show ¬ (100 ≤ 1); omega)
  have h3 := (hH a _ ha).1.ar (by decide)
  refine W.bast X.1 X.2.1 h3 ((X.2.2.2.2.2.1.1.2 1 _ rfl).1 n' (fun j => .int (f j))) (fun q => by cases q) (by show ¬ (i < 0 ∨ (arrV _ _ _).slots.size ≤ _); rw [arrV_size]; exact hin) rfl rfl hdg fun H1 e1 z1 oq => ?_
  refine kk _ h2 H1 _ ls (hH.set hAa ?_ oq) (hS.put z1 oq hAa) hl
  show H1[a]? = some (vp_cell _ _)
  rw [e1]
  show some ((vp_cell _ _).setSlot _ _) = _
  rw [vp_cell_i, vp_cell_i, arrV_store]
  congr 2
  funext q
  by_cases hq : q = i.toNatClampNeg
  · subst hq
    simp [updV, upd, vp_nar, narrow]
  · simp [updV, upd, hq]
theorem x_zast (X : xX p l e R s m args below meth c G z A y cc nL) {a : Nat} {i : Int32} {x : Int32} {kf : xh → Prop} (hf : ∃ h', sI hp a 2 i (vp_nar .boolean x) = some h' ∧ kf h') (hdg : decode cc pc = .ok (.bastore, 1)) (pc' : Nat) (hn : pc + 1 = pc') (kk : ∀ h', kf h' → xE p l e R s m args below meth c G A nL Qw k n h' pc' lv st) : xE p l e R s m args below meth c G A nL Qw k n hp pc lv (.int x :: .int i :: .ref a :: st) := by
  subst hn
  intro H locs ls hH hS hl
  obtain ⟨h', h1, h2⟩ := hf
  obtain ⟨n', f, ha, hin, rfl⟩ := sI_spec h1
  have hAa : A a := hH.wr ha (by show ¬ (100 ≤ 2); omega)
  have h3 := (hH a _ ha).1.ar (by decide)
  refine W.zast X.1 X.2.1 h3 ((X.2.2.2.2.2.1.1.2 2 _ rfl).1 n' (fun j => .int (f j))) (fun q => by cases q) (by show ¬ (i < 0 ∨ (arrV _ _ _).slots.size ≤ _); rw [arrV_size]; exact hin) rfl rfl hdg fun H1 e1 z1 oq => ?_
  refine kk _ h2 H1 _ ls (hH.set hAa ?_ oq) (hS.put z1 oq hAa) hl
  show H1[a]? = some (vp_cell _ _)
  rw [e1]
  show some ((vp_cell _ _).setSlot _ _) = _
  rw [vp_cell_i, vp_cell_i, arrV_store]
  congr 2
  funext q
  by_cases hq : q = i.toNatClampNeg
  · subst hq
    simp [updV, upd, vp_nar, narrow]
  · simp [updV, upd, hq]
theorem x_last (X : xX p l e R s m args below meth c G z A y cc nL) {a : Nat} {i : Int32} {x : Int64} {kf : xh → Prop} (hf : ∃ h', sL hp a 3 i x = some h' ∧ kf h') (hdg : decode cc pc = .ok (.lastore, 1)) (pc' : Nat) (hn : pc + 1 = pc') (kk : ∀ h', kf h' → xE p l e R s m args below meth c G A nL Qw k n h' pc' lv st) : xE p l e R s m args below meth c G A nL Qw k n hp pc lv (.long x :: .int i :: .ref a :: st) := by
  subst hn
  intro H locs ls hH hS hl
  obtain ⟨h', h1, h2⟩ := hf
  obtain ⟨n', f, ha, hin, rfl⟩ := sL_spec h1
  have hAa : A a := hH.wr ha (by show ¬ (100 ≤ 3); omega)
  have h3 := (hH a _ ha).1.ar (by decide)
  refine W.last X.1 X.2.1 h3 ((X.2.2.2.2.2.1.1.2 3 _ rfl).1 n' (fun j => .long (f j))) (fun q => by cases q) (by show ¬ (i < 0 ∨ (arrV _ _ _).slots.size ≤ _); rw [arrV_size]; exact hin) rfl rfl hdg fun H1 e1 z1 oq => ?_
  refine kk _ h2 H1 _ ls (hH.set hAa ?_ oq) (hS.put z1 oq hAa) hl
  show H1[a]? = some (vp_cell _ _)
  rw [e1]
  show some ((vp_cell _ _).setSlot _ _) = _
  rw [vp_cell_l, vp_cell_l, arrV_store]
  congr 2
  funext q
  by_cases hq : q = i.toNatClampNeg
  · subst hq
    simp [updV, vp_updL]
  · simp [updV, vp_updL, hq]
theorem x_cast (X : xX p l e R s m args below meth c G z A y cc nL) {a : Nat} {i : Int32} {x : Int32} {kf : xh → Prop} (hf : ∃ h', sI hp a 4 i (vp_nar .char x) = some h' ∧ kf h') (hdg : decode cc pc = .ok (.castore, 1)) (pc' : Nat) (hn : pc + 1 = pc') (kk : ∀ h', kf h' → xE p l e R s m args below meth c G A nL Qw k n h' pc' lv st) : xE p l e R s m args below meth c G A nL Qw k n hp pc lv (.int x :: .int i :: .ref a :: st) := by
  subst hn
  intro H locs ls hH hS hl
  obtain ⟨h', h1, h2⟩ := hf
  obtain ⟨n', f, ha, hin, rfl⟩ := sI_spec h1
  have hAa : A a := hH.wr ha (by show ¬ (100 ≤ 4); omega)
  have h3 := (hH a _ ha).1.ar (by decide)
  refine W.cast X.1 X.2.1 h3 ((X.2.2.2.2.2.1.1.2 4 _ rfl).1 n' (fun j => .int (f j))) (fun q => by cases q) (by show ¬ (i < 0 ∨ (arrV _ _ _).slots.size ≤ _); rw [arrV_size]; exact hin) rfl rfl hdg fun H1 e1 z1 oq => ?_
  refine kk _ h2 H1 _ ls (hH.set hAa ?_ oq) (hS.put z1 oq hAa) hl
  show H1[a]? = some (vp_cell _ _)
  rw [e1]
  show some ((vp_cell _ _).setSlot _ _) = _
  rw [vp_cell_i, vp_cell_i, arrV_store]
  congr 2
  funext q
  by_cases hq : q = i.toNatClampNeg
  · subst hq
    simp [updV, upd, vp_nar, narrow]
  · simp [updV, upd, hq]
theorem x_aast (X : xX p l e R s m args below meth c G z A y cc nL) {a t ci v : Nat} {r : vw_C} {i : Int32} {kf : xh → Prop} (hf : xcls hp v ci ∧ ∃ h', sR hp a t i v = some h' ∧ kf h') (ht0 : t < 100) (hc : vwCl[ci]? = some r) (ht : (xtys G)[t]? = some (G.2 t, .object r.1)) (hdg : decode cc pc = .ok (.aastore, 1)) (pc' : Nat) (hn : pc + 1 = pc') (kk : ∀ h', kf h' → xE p l e R s m args below meth c G A nL Qw k n h' pc' lv st) : xE p l e R s m args below meth c G A nL Qw k n hp pc lv (.ref v :: .int i :: .ref a :: st) := by
  subst hn
  intro H locs ls hH hS hl
  obtain ⟨⟨vs, hv⟩, h', h1, h2⟩ := hf
  obtain ⟨n', f, ha, hin, rfl⟩ := sR_spec h1
  have hAa : A a := hH.wr ha (by show ¬ (100 ≤ t); omega)
  have h3 := (hH a _ ha).1.ar ht0
  have et : t % 100 = t := Nat.mod_eq_of_lt ht0
  simp only [et] at h3
  have hK := X.2.2.2.2.2.1.1
  have hlt : i.toNatClampNeg < n' := Nat.not_le.mp fun q => hin (Or.inr q)
  have h0 : ¬ i < 0 := fun q => hin (Or.inl q)
  obtain ⟨r', hr', cellV, g1, g2, g3, -⟩ := (hH v _ hv).1.ob
  have hcls := (hK.1 ci r hc).2
  obtain ⟨kA, comp, k1, k2, k3, -⟩ := (hK.2 t _ ht).2
  have hcomp : comp = G.1.1 ci := Option.some.inj (k3.symm.trans hcls.1)
  subst hcomp
  obtain ⟨kC, hkC, -⟩ := hcls.2
  refine W.aast X.1 X.2.1 h3 (fun q h => by cases h) (fun h => by cases h) k1 k2 rfl hkC ⟨h0, by show _ < (arrV _ _ _).slots.size; rw [arrV_size]; exact hlt⟩ g1 (fun q h => by rw [g3] at h; cases h) (by rw [g2]; exact hkC) (by rw [g2]; exact va_assign hcls) rfl rfl hdg fun H1 e1 z1 oq => ?_
  refine kk _ h2 H1 _ ls (hH.set hAa ?_ oq) (hS.put z1 oq hAa) hl
  show H1[a]? = some (vp_cell (G.2 (t % 100)) _)
  rw [e1, et]
  show some ((vp_cell _ _).setSlot _ _) = _
  rw [vp_cell_q, vp_cell_q, arrV_store]
  congr 2
  funext q
  by_cases hq : q = i.toNatClampNeg
  · subst hq
    simp [updV, va_up, va_rf]
  · simp [updV, va_up, hq]
theorem x_ifnonnull (X : xX p l e R s m args below meth c G z A y cc nL) {r : Option Nat} {off : Int} {fn : Prop} {fs : Nat → Prop} (hf : (r = none → fn) ∧ ∀ a, r = some a → fs a) (hdg : decode cc pc = .ok (.ifnonnull off, 3)) (tgt pc' : Nat) (ht : (pc : Int) + off = (tgt : Int)) (hn : pc + 3 = pc') (kt : ∀ a, fs a → xE p l e R s m args below meth c G A nL Qw k n hp tgt lv st) (kf : fn → xE p l e R s m args below meth c G A nL Qw k n hp pc' lv st) : xE p l e R s m args below meth c G A nL Qw k n hp pc lv (va_rf r :: st) := by
  subst hn
  intro H locs ls hH hS hl
  cases r with
  | none => exact lv_ifnonnullN X.1 X.2.1 hdg (kf (hf.1 rfl) H locs ls hH hS hl)
  | some a => exact lv_ifnonnull X.1 X.2.1 hdg ht (kt a (hf.2 a rfl) H locs ls hH hS hl)
theorem x_ifnull (X : xX p l e R s m args below meth c G z A y cc nL) {r : Option Nat} {off : Int} {fn : Prop} {fs : Nat → Prop} (hf : (r = none → fn) ∧ ∀ a, r = some a → fs a) (hdg : decode cc pc = .ok (.ifnull off, 3)) (tgt pc' : Nat) (ht : (pc : Int) + off = (tgt : Int)) (hn : pc + 3 = pc') (kt : fn → xE p l e R s m args below meth c G A nL Qw k n hp tgt lv st) (kf : ∀ a, fs a → xE p l e R s m args below meth c G A nL Qw k n hp pc' lv st) : xE p l e R s m args below meth c G A nL Qw k n hp pc lv (va_rf r :: st) := by
  subst hn
  intro H locs ls hH hS hl
  cases r with
  | none => exact lv_ifnullN X.1 X.2.1 hdg ht (kt (hf.1 rfl) H locs ls hH hS hl)
  | some a => exact lv_ifnull X.1 X.2.1 hdg (kf a (hf.2 a rfl) H locs ls hH hS hl)
theorem x_gets (X : xX p l e R s m args below meth c G z A y cc nL) {i idx : Nat} {q : String × String × String} (hi : xst[i]? = some q) (hlink : Cond.fieldLink y.cls idx q.1 q.2.1 q.2.2 ∈ xws) (hdg : decode cc pc = .ok (.getstatic idx, 3)) (pc' : Nat) (hn : pc + 3 = pc') (kk : xE p l e R s m args below meth c G A nL Qw k n hp pc' lv (.ref (z i) :: st)) : xE p l e R s m args below meth c G A nL Qw k n hp pc lv st := by
  subst hn
  intro H locs ls hH hS hl
  exact va_gets X.1 X.2.1 (X.2.2.2.2.2.2.1 i q hi) hS X.2.2.2.1 (X.2.2.2.2.1 _ hlink) (fun _ h => h) hdg (kk H locs ls hH hS hl)
theorem x_new (X : xX p l e R s m args below meth c G z A y cc nL) {ci idx : Nat} {C : String} {T : u_T} {N : Nat} {kf : xh → Nat → Prop} (hf : k + 1 ≤ R.cells ∧ n + N ≤ R.slots ∧ ∀ q, hp q = none → ∀ h', h' = xset hp q (.inr (ci, xdef ci)) → kf h' q) (hc : vwCl[ci]? = some (C, T, N)) (hcl : Cond.classLink y.cls idx C ∈ xws) (hins : Cond.instantiable C N ∈ xws) (hini : Cond.initialized C ∈ xws) (hdg : decode cc pc = .ok (.new idx, 3)) (pc' : Nat) (hn : pc + 3 = pc') (kk : ∀ h' q, kf h' q → xE p l e R s m args below meth c G A nL Qw (k + 1) (n + N) h' pc' lv (.ref q :: st)) : xE p l e R s m args below meth c G A nL Qw k n hp pc lv st := by
  subst hn
  intro H locs ls hH hS hl
  have hts := X.2.2.2.2.1
  have hKn := X.2.2.2.2.2.1.1.1 ci _ hc
  obtain ⟨hin, ty0, hty, hnm⟩ := xcl_ok ci _ hc
  refine W.newcK X.1 X.2.1 X.2.2.2.1 (hts _ hcl) (hts _ hins) (hts _ hini) rfl hdg hf.1 hf.2.1 hKn.2.1 rfl fun H1 kC hkC e1 z1 o1 => ?_
  have hA := X.2.2.2.2.2.2.2.1 H.size hS.1
  refine kk _ H.size (hf.2.2 _ hH.none _ rfl) H1 locs ls (hH.new hA ?_ o1) ⟨Nat.le_trans hS.1 (by omega), fun x h1 h2 => (o1 x (Nat.lt_of_lt_of_le h1 hS.1)).trans (hS.2.1 x h1 h2), hS.2.2⟩ hl
  exact ⟨_, hc, (u_born ty0 hts hin hKn hkC e1 hty).to (fun j hj => xdef_ok ci _ hc j hj _ (hty j hj))⟩
theorem x_new_i (X : xX p l e R s m args below meth c G z A y cc nL) {at_ : ArrayType} {i : Int32} {N : Nat} {kf : xh → Nat → Prop} (hf : k + 1 ≤ R.cells ∧ n + N ≤ R.slots ∧ ∀ q, hp q = none → ∀ h', h' = xset hp q (.inl (0, N, .inl (fun _ => 0))) → kf h' q) (hty : newarray.typeOf at_ = .int) (hac : Cond.arrayClass .int ∈ xws) (h0 : ¬ i < 0) (hN : i.toNatClampNeg = N) (hby : N * componentBytes .int ≤ 536870912) (hdg : decode cc pc = .ok (.newarray at_, 2)) (pc' : Nat) (hn : pc + 2 = pc') (kk : ∀ h' q, kf h' q → xE p l e R s m args below meth c G A nL Qw (k + 1) (n + N) h' pc' lv (.ref q :: st)) : xE p l e R s m args below meth c G A nL Qw k n hp pc lv (.int i :: st) := by
  subst hn
  intro H locs ls hH hS hl
  refine va_newaK X.1 X.2.1 (by rw [hty]; exact X.2.2.2.2.1 _ hac) rfl hdg rfl h0 hN (by rw [hty]; exact hby) hf.1 hf.2.1 rfl fun H1 cA e1 z1 o1 hAr hNm => ?_
  rw [hty] at e1 hNm
  have hcA : cA = G.2 0 := Option.some.inj (hNm.symm.trans (X.2.2.2.2.2.1.1.2 0 _ rfl).2)
  subst hcA
  have hA := X.2.2.2.2.2.2.2.1 H.size hS.1
  exact kk _ H.size (hf.2.2 _ hH.none _ rfl) H1 locs ls (hH.new hA e1 o1) ⟨Nat.le_trans hS.1 (by omega), fun x h1 h2 => (o1 x (Nat.lt_of_lt_of_le h1 hS.1)).trans (hS.2.1 x h1 h2), hS.2.2⟩ hl
theorem x_new_b (X : xX p l e R s m args below meth c G z A y cc nL) {at_ : ArrayType} {i : Int32} {N : Nat} {kf : xh → Nat → Prop} (hf : k + 1 ≤ R.cells ∧ n + N ≤ R.slots ∧ ∀ q, hp q = none → ∀ h', h' = xset hp q (.inl (1, N, .inl (fun _ => 0))) → kf h' q) (hty : newarray.typeOf at_ = .byte) (hac : Cond.arrayClass .byte ∈ xws) (h0 : ¬ i < 0) (hN : i.toNatClampNeg = N) (hby : N * componentBytes .byte ≤ 536870912) (hdg : decode cc pc = .ok (.newarray at_, 2)) (pc' : Nat) (hn : pc + 2 = pc') (kk : ∀ h' q, kf h' q → xE p l e R s m args below meth c G A nL Qw (k + 1) (n + N) h' pc' lv (.ref q :: st)) : xE p l e R s m args below meth c G A nL Qw k n hp pc lv (.int i :: st) := by
  subst hn
  intro H locs ls hH hS hl
  refine va_newaK X.1 X.2.1 (by rw [hty]; exact X.2.2.2.2.1 _ hac) rfl hdg rfl h0 hN (by rw [hty]; exact hby) hf.1 hf.2.1 rfl fun H1 cA e1 z1 o1 hAr hNm => ?_
  rw [hty] at e1 hNm
  have hcA : cA = G.2 1 := Option.some.inj (hNm.symm.trans (X.2.2.2.2.2.1.1.2 1 _ rfl).2)
  subst hcA
  have hA := X.2.2.2.2.2.2.2.1 H.size hS.1
  exact kk _ H.size (hf.2.2 _ hH.none _ rfl) H1 locs ls (hH.new hA e1 o1) ⟨Nat.le_trans hS.1 (by omega), fun x h1 h2 => (o1 x (Nat.lt_of_lt_of_le h1 hS.1)).trans (hS.2.1 x h1 h2), hS.2.2⟩ hl
theorem x_new_z (X : xX p l e R s m args below meth c G z A y cc nL) {at_ : ArrayType} {i : Int32} {N : Nat} {kf : xh → Nat → Prop} (hf : k + 1 ≤ R.cells ∧ n + N ≤ R.slots ∧ ∀ q, hp q = none → ∀ h', h' = xset hp q (.inl (2, N, .inl (fun _ => 0))) → kf h' q) (hty : newarray.typeOf at_ = .boolean) (hac : Cond.arrayClass .boolean ∈ xws) (h0 : ¬ i < 0) (hN : i.toNatClampNeg = N) (hby : N * componentBytes .boolean ≤ 536870912) (hdg : decode cc pc = .ok (.newarray at_, 2)) (pc' : Nat) (hn : pc + 2 = pc') (kk : ∀ h' q, kf h' q → xE p l e R s m args below meth c G A nL Qw (k + 1) (n + N) h' pc' lv (.ref q :: st)) : xE p l e R s m args below meth c G A nL Qw k n hp pc lv (.int i :: st) := by
  subst hn
  intro H locs ls hH hS hl
  refine va_newaK X.1 X.2.1 (by rw [hty]; exact X.2.2.2.2.1 _ hac) rfl hdg rfl h0 hN (by rw [hty]; exact hby) hf.1 hf.2.1 rfl fun H1 cA e1 z1 o1 hAr hNm => ?_
  rw [hty] at e1 hNm
  have hcA : cA = G.2 2 := Option.some.inj (hNm.symm.trans (X.2.2.2.2.2.1.1.2 2 _ rfl).2)
  subst hcA
  have hA := X.2.2.2.2.2.2.2.1 H.size hS.1
  exact kk _ H.size (hf.2.2 _ hH.none _ rfl) H1 locs ls (hH.new hA e1 o1) ⟨Nat.le_trans hS.1 (by omega), fun x h1 h2 => (o1 x (Nat.lt_of_lt_of_le h1 hS.1)).trans (hS.2.1 x h1 h2), hS.2.2⟩ hl
theorem x_new_l (X : xX p l e R s m args below meth c G z A y cc nL) {at_ : ArrayType} {i : Int32} {N : Nat} {kf : xh → Nat → Prop} (hf : k + 1 ≤ R.cells ∧ n + N ≤ R.slots ∧ ∀ q, hp q = none → ∀ h', h' = xset hp q (.inl (3, N, .inr (.inl (fun _ => 0)))) → kf h' q) (hty : newarray.typeOf at_ = .long) (hac : Cond.arrayClass .long ∈ xws) (h0 : ¬ i < 0) (hN : i.toNatClampNeg = N) (hby : N * componentBytes .long ≤ 536870912) (hdg : decode cc pc = .ok (.newarray at_, 2)) (pc' : Nat) (hn : pc + 2 = pc') (kk : ∀ h' q, kf h' q → xE p l e R s m args below meth c G A nL Qw (k + 1) (n + N) h' pc' lv (.ref q :: st)) : xE p l e R s m args below meth c G A nL Qw k n hp pc lv (.int i :: st) := by
  subst hn
  intro H locs ls hH hS hl
  refine va_newaK X.1 X.2.1 (by rw [hty]; exact X.2.2.2.2.1 _ hac) rfl hdg rfl h0 hN (by rw [hty]; exact hby) hf.1 hf.2.1 rfl fun H1 cA e1 z1 o1 hAr hNm => ?_
  rw [hty] at e1 hNm
  have hcA : cA = G.2 3 := Option.some.inj (hNm.symm.trans (X.2.2.2.2.2.1.1.2 3 _ rfl).2)
  subst hcA
  have hA := X.2.2.2.2.2.2.2.1 H.size hS.1
  exact kk _ H.size (hf.2.2 _ hH.none _ rfl) H1 locs ls (hH.new hA e1 o1) ⟨Nat.le_trans hS.1 (by omega), fun x h1 h2 => (o1 x (Nat.lt_of_lt_of_le h1 hS.1)).trans (hS.2.1 x h1 h2), hS.2.2⟩ hl
theorem x_new_c (X : xX p l e R s m args below meth c G z A y cc nL) {at_ : ArrayType} {i : Int32} {N : Nat} {kf : xh → Nat → Prop} (hf : k + 1 ≤ R.cells ∧ n + N ≤ R.slots ∧ ∀ q, hp q = none → ∀ h', h' = xset hp q (.inl (4, N, .inl (fun _ => 0))) → kf h' q) (hty : newarray.typeOf at_ = .char) (hac : Cond.arrayClass .char ∈ xws) (h0 : ¬ i < 0) (hN : i.toNatClampNeg = N) (hby : N * componentBytes .char ≤ 536870912) (hdg : decode cc pc = .ok (.newarray at_, 2)) (pc' : Nat) (hn : pc + 2 = pc') (kk : ∀ h' q, kf h' q → xE p l e R s m args below meth c G A nL Qw (k + 1) (n + N) h' pc' lv (.ref q :: st)) : xE p l e R s m args below meth c G A nL Qw k n hp pc lv (.int i :: st) := by
  subst hn
  intro H locs ls hH hS hl
  refine va_newaK X.1 X.2.1 (by rw [hty]; exact X.2.2.2.2.1 _ hac) rfl hdg rfl h0 hN (by rw [hty]; exact hby) hf.1 hf.2.1 rfl fun H1 cA e1 z1 o1 hAr hNm => ?_
  rw [hty] at e1 hNm
  have hcA : cA = G.2 4 := Option.some.inj (hNm.symm.trans (X.2.2.2.2.2.1.1.2 4 _ rfl).2)
  subst hcA
  have hA := X.2.2.2.2.2.2.2.1 H.size hS.1
  exact kk _ H.size (hf.2.2 _ hH.none _ rfl) H1 locs ls (hH.new hA e1 o1) ⟨Nat.le_trans hS.1 (by omega), fun x h1 h2 => (o1 x (Nat.lt_of_lt_of_le h1 hS.1)).trans (hS.2.1 x h1 h2), hS.2.2⟩ hl
theorem x_new_q (X : xX p l e R s m args below meth c G z A y cc nL) {t idx : Nat} {Cn : String} {i : Int32} {N : Nat} {kf : xh → Nat → Prop} (hf : k + 1 ≤ R.cells ∧ n + N ≤ R.slots ∧ ∀ q, hp q = none → ∀ h', h' = xset hp q (.inl (t, N, .inr (.inr (.inr (.inr (fun _ => none)))))) → kf h' q) (ht : (xtys G)[t]? = some (G.2 t, .object Cn)) (ht0 : t < 100) (hcl : Cond.classLink y.cls idx Cn ∈ xws) (hCn : Cn = "TwinJudge$Circuit") (h0 : ¬ i < 0) (hN : i.toNatClampNeg = N) (hby : N * 4 ≤ 536870912) (hdg : decode cc pc = .ok (.anewarray idx, 3)) (pc' : Nat) (hn : pc + 3 = pc') (kk : ∀ h' q, kf h' q → xE p l e R s m args below meth c G A nL Qw (k + 1) (n + i.toNatClampNeg) h' pc' lv (.ref q :: st)) : xE p l e R s m args below meth c G A nL Qw k n hp pc lv (.int i :: st) := by
  subst hn
  subst hN
  intro H locs ls hH hS hl
  refine W.anew X.1 X.2.1 X.2.2.2.1 (X.2.2.2.2.1 _ hcl) (by rw [hCn]; exact va_AO.use X.2.2.2.2.2.1.2.2.1) rfl hdg rfl h0 hby hf.1 hf.2.1 fun cA kA comp f1 f2 f3 f4 => ?_
  generalize hH1 : H.push ({ cls := cA, slots := Array.replicate i.toNatClampNeg .null, vm := .none } : Cell) = H1
  have z1 : H1.size = H.size + 1 := by rw [← hH1, Array.size_push]
  have e1 : H1[H.size]? = some (arrV cA i.toNatClampNeg (fun _ => .null)) := by rw [← hH1, Array.getElem?_push_size, ← arrV_new]
  have o1 : ∀ q : Nat, q < H.size → H1[q]? = H[q]? := fun q hq => by rw [← hH1, Array.getElem?_push, if_neg (Nat.ne_of_lt hq)]
  obtain ⟨kA2, comp2, g1, g2, g3, g4⟩ := (X.2.2.2.2.2.1.1.2 t _ ht).2
  have hcA : cA = G.2 t := Option.some.inj (f1.symm.trans g4)
  subst hcA
  have hA := X.2.2.2.2.2.2.2.1 H.size hS.1
  refine kk _ H.size (hf.2.2 _ hH.none _ rfl) H1 locs ls (hH.new hA ?_ o1) ⟨Nat.le_trans hS.1 (by omega), fun x h1 h2 => (o1 x (Nat.lt_of_lt_of_le h1 hS.1)).trans (hS.2.1 x h1 h2), hS.2.2⟩ hl
  show H1[H.size]? = some (vp_cell (G.2 (t % 100)) _)
  rw [Nat.mod_eq_of_lt ht0, vp_cell_q]
  exact e1
end XB
