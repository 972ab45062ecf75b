theorem obj_im : Cond.instanceMethod Lib.objectInit ∈ xws := xmem 118 (by decide +kernel) (by decide +kernel)
theorem obj_cd : Cond.code Lib.objectInit ⟨#[0xb1]⟩ 1 none ∈ xws := xmem 119 (by decide +kernel) (by decide +kernel)
theorem acp_st : Cond.static arraycopyName ∈ xws := xmem 365 (by decide +kernel) (by decide +kernel)
theorem acp_nat : Cond.native arraycopyName ∈ xws := xmem 366 (by decide +kernel) (by decide +kernel)
theorem acp_in : Cond.initialized "java/lang/System" ∈ xws := xmem 97 (by decide +kernel) (by decide +kernel)
theorem mm_in : Cond.initialized "java/lang/Math" ∈ xws := xmem 110 (by decide +kernel) (by decide +kernel)
theorem mm_st_min : Cond.static Lib.Math.min.name ∈ xws := xmem 1009 (by decide +kernel) (by decide +kernel)
theorem mm_st_max : Cond.static Lib.Math.max.name ∈ xws := xmem 1012 (by decide +kernel) (by decide +kernel)
theorem mm_cd_min : Cond.code Lib.Math.min.name Lib.Math.min.code 2 (some .int) ∈ xws := xmem 1010 (by decide +kernel) (by decide +kernel)
theorem mm_cd_max : Cond.code Lib.Math.max.name Lib.Math.max.code 2 (some .int) ∈ xws := xmem 1013 (by decide +kernel) (by decide +kernel)
def xcpB (h : xh) (a0 : Nat) (sp : Int32) (a : Nat) (dp n : Int32) : Option xh := match h a0, h a with
  | some (.inl (t0, n0, .inl f)), some (.inl (t1, n1, .inl g)) => if t0 = 1 ∧ t1 = 1 ∧ ¬ sp < 0 ∧ ¬ dp < 0 ∧ ¬ n < 0 ∧ sp.toNatClampNeg + n.toNatClampNeg ≤ n0 ∧ dp.toNatClampNeg + n.toNatClampNeg ≤ n1 ∧ ∀ i, i < n.toNatClampNeg → fits .byte (.int (f (sp.toNatClampNeg + i))) = true then some (xset h a (.inl (1, n1, .inl (va_cpy f g sp.toNatClampNeg dp.toNatClampNeg n.toNatClampNeg)))) else none
  | _, _ => none
theorem xcpB_spec {h h' : xh} {a0 a : Nat} {sp dp n : Int32} (e : xcpB h a0 sp a dp n = some h') : ∃ n0 n1 f g, h a0 = some (.inl (1, n0, .inl f)) ∧ h a = some (.inl (1, n1, .inl g)) ∧ ¬ sp < 0 ∧ ¬ dp < 0 ∧ ¬ n < 0 ∧ sp.toNatClampNeg + n.toNatClampNeg ≤ n0 ∧ dp.toNatClampNeg + n.toNatClampNeg ≤ n1 ∧ (∀ i, i < n.toNatClampNeg → fits .byte (.int (f (sp.toNatClampNeg + i))) = true) ∧ h' = xset h a (.inl (1, n1, .inl (va_cpy f g sp.toNatClampNeg dp.toNatClampNeg n.toNatClampNeg))) := by
  unfold xcpB at e
  split at e
  · next t0 n0 f t1 n1 g h0 h1 =>
    split at e
    · next hc =>
      obtain ⟨rfl, rfl, c1, c2, c3, c4, c5, c6⟩ := hc
      cases e
      exact ⟨n0, n1, f, g, h0, h1, c1, c2, c3, c4, c5, c6, rfl⟩
    · cases e
  · cases e
section XM
variable {p : Program} {l : Launch} {e : Env} {R : Room} {s : State} {m : MethodId} {args : Array Value} {below : List Frame} {meth : Method} {c : Code} {G : xG} {z : Nat → Nat} {A : Nat → Prop} {y : MethodName} {cc : ByteArray} {nL : Nat} {Qw : State → Prop} {k n : Nat} {hp : xh} {pc : Nat} {lv lv' : List (Nat × Value)} {st : List Value}
theorem x_getsN (X : xX p l e R s m args below meth c G z A y cc nL) {i idx : Nat} {q : String × String × String} {host : String} (hi : xst[i]? = some q) (hlink : Cond.fieldLinkNest y.cls idx q.1 q.2.1 q.2.2 host ∈ lw_tbl) (hdg : decode cc pc = .ok (.getstatic idx, 3)) (pc' : Nat) (hn : pc + 3 = pc') (kk : xE p l e R s m args below meth c G A nL Qw k n hp pc' lv (.ref (z i) :: st)) : xE p l e R s m args below meth c G A nL Qw k n hp pc lv st := by
  subst hn
  intro H locs ls hH hS hl
  exact va_getsN X.1 X.2.1 (X.2.2.2.2.2.2.1 i q hi) hS X.2.2.2.1 (va_Nw.use rfl (X.2.2.2.2.2.1.2.1 _ hlink rfl)) (fun _ h => h) hdg (kk H locs ls hH hS hl)
theorem x_ldc_w (X : xX p l e R s m args below meth c G z A y cc nL) {i : Nat} {v : Int32} (hc : Cond.constant y.cls i v ∈ xws) (hdg : decode cc pc = .ok (.ldc_w i, 3)) (pc' : Nat) (hn : pc + 3 = pc') (kk : xE p l e R s m args below meth c G A nL Qw k n hp pc' lv (.int v :: st)) : xE p l e R s m args below meth c G A nL Qw k n hp pc lv st := by
  subst hn; exact fun H locs ls hH hS hl => lv_ldcw X.1 X.2.1 X.2.2.2.1 (X.2.2.2.2.1 _ hc) hdg (kk H locs ls hH hS hl)
theorem x_copyb (X : xX p l e R s m args below meth c G z A y cc nL) {idx a0 a : Nat} {sp dp q : Int32} {kf : xh → Prop} (hf : ∃ h', xcpB hp a0 sp a dp q = some h' ∧ kf h') (hlk : Cond.methodLink y.cls idx arraycopyName ∈ xws) (hnat : Cond.native arraycopyName ∈ xws) (hstat : Cond.static arraycopyName ∈ xws) (hini : Cond.initialized "java/lang/System" ∈ xws) (hfr : 1 ≤ R.frames) (hlo : (st.map fun v => v.category).sum + (nativeFrameWords "java/lang/System" "arraycopy" 5 + 11) ≤ R.locals) (hdg : decode cc pc = .ok (.invokestatic idx, 3)) (pc' : Nat) (hn : pc + 3 = pc') (kk : ∀ h', kf h' → xE p l e R s m args below meth c G A nL Qw k n h' pc' lv st) : xE p l e R s m args below meth c G A nL Qw k n hp pc lv (.int q :: .int dp :: .ref a :: .int sp :: .ref a0 :: st) := by
  subst hn
  intro H locs ls hH hS hl
  obtain ⟨h', e1, h2⟩ := hf
  obtain ⟨n0, n1, f, g, ha0, ha1, c1, c2, c3, c4, c5, hfit, rfl⟩ := xcpB_spec e1
  have hts := X.2.2.2.2.1
  have hK := X.2.2.2.2.2.1.1
  have hAa : A a := hH.wr ha1 (by show ¬ (100 ≤ 1); omega)
  have nn : ∀ z : Int32, ¬ z < 0 → z.toInt = (z.toNatClampNeg : Int) := by
    intro z hz
    have hz0 : (0 : Int) ≤ z.toInt := by
      have := Int32.not_lt.mp hz
      simpa using Int32.le_iff_toInt_le.mp this
    show z.toInt = ((z.toInt.toNat : Nat) : Int)
    omega
  have hc0 : H[a0]? = some (vp_cell (G.2 1) (n0, .inl f)) := (hH a0 _ ha0).1.ar (by decide)
  have hc1 : H[a]? = some (vp_cell (G.2 1) (n1, .inl g)) := (hH a _ ha1).1.ar (by decide)
  obtain ⟨-, k0, hk0, cm0, hkk0⟩ := (hK.2 1 _ rfl).1 n0 (fun j => .int (f j))
  obtain ⟨-, k1, hk1, cm1, hkk1⟩ := (hK.2 1 _ rfl).1 n1 (fun j => .int (g j))
  intro T hT XS
  obtain ⟨vm', X', step⟩ := XS.arraycopy X.1 X.2.2.2.1 (hts _ hlk) (hts _ hnat) (hts _ hstat) (hts _ hini) (src := a0) (dst := a) (cs := vp_cell (G.2 1) (n0, .inl f)) (cd := vp_cell (G.2 1) (n1, .inl g)) (srcPos := sp) (destPos := dp) (n := q) (by rw [hT]; exact hc0) (by rw [hT]; exact hc1)
    (fun _ h => by cases h) (fun _ h => by cases h) (fun h => by cases h) (fun h => by cases h) hk0 hk1 hkk0 hkk1 (by simp [refKind]) c1 c2 c3
    (by rw [nn sp c1, nn q c3]; show ¬ _ > ((arrV (G.2 1) n0 (fun j => .int (f j))).slots.size : Int); rw [arrV_size]; omega)
    (by rw [nn dp c2, nn q c3]; show ¬ _ > ((arrV (G.2 1) n1 (fun j => .int (g j))).slots.size : Int); rw [arrV_size]; omega)
    (fun vm₁ _ i hi => by
      have e : (vp_cell (G.2 1) (n0, .inl f)).slots.getD (sp.toNatClampNeg + i) .null = .int (f (sp.toNatClampNeg + i)) := by
        show (arrV (G.2 1) n0 (fun j => .int (f j))).slots.getD _ _ = _
        rw [Array.getD_eq_getD_getElem?, arrV_read _ _ (by omega)]
        rfl
      refine ⟨?_, ?_⟩
      · rw [e]
        exact hfit i hi
      · rw [e]
        exact trivial)
    (g := F0 m pc ls (.int q :: .int dp :: .ref a :: .int sp :: .ref a0 :: st)) rfl (hl.1.trans X.2.2.1.symm) (rest := st) rfl (by rw [X.2.1]; exact hdg) hfr (by show 2 * 0 + _ + _ ≤ _; omega)
  have e1 : copied (vp_cell (G.2 1) (n0, .inl f)) (vp_cell (G.2 1) (n1, .inl g)) sp dp q = vp_cell (G.2 1) (n1, .inl (va_cpy f g sp.toNatClampNeg dp.toNatClampNeg q.toNatClampNeg)) := va_copied (fun z => .int z) (G.2 1) (G.2 1) f g c4
  rw [e1] at X' step
  have hlt : a < H.size := (Array.getElem?_eq_some_iff.mp hc1).1
  have hheap : ((T.setVm vm').setCell a (vp_cell (G.2 1) (n1, .inl (va_cpy f g sp.toNatClampNeg dp.toNatClampNeg q.toNatClampNeg)))).heap = H.setIfInBounds a (vp_cell (G.2 1) (n1, .inl (va_cpy f g sp.toNatClampNeg dp.toNatClampNeg q.toNatClampNeg))) := by rw [← hT]; rfl
  have oq : ∀ x : Nat, x ≠ a → (H.setIfInBounds a (vp_cell (G.2 1) (n1, .inl (va_cpy f g sp.toNatClampNeg dp.toNatClampNeg q.toNatClampNeg))))[x]? = H[x]? := fun x hx => by simp [Array.getElem?_setIfInBounds, Ne.symm hx]
  obtain ⟨t, a1, b1⟩ := kk _ h2 _ _ ls (hH.set (o := .inl (1, n1, .inl (va_cpy f g sp.toNatClampNeg dp.toNatClampNeg q.toNatClampNeg))) hAa (show (H.setIfInBounds a _)[a]? = some _ by simp [Array.getElem?_setIfInBounds, hlt]) oq) ⟨by simp; exact hS.1, fun x g1 g2 => by
      rw [oq x (fun e => g2 (by rw [e]; exact hAa))]
      exact hS.2.1 x g1 g2, fun x hx => by
      rcases List.mem_append.mp hx with h | h
      · exact hS.2.2 x h
      · obtain ⟨z, -, hz⟩ := List.mem_map.mp h
        rw [← hz]
        exact hAa⟩ hl _ hheap X'
  exact ⟨t, step t a1, b1⟩
theorem x_mmin (X : xX p l e R s m args below meth c G z A y cc nL) {idx : Nat} {x y1 : Int32} (hlk : Cond.methodLink y.cls idx Lib.Math.min.name ∈ xws) (hfr : 1 ≤ R.frames) (hlo : (st.map fun v => v.category).sum + 13 ≤ R.locals) (hk : k ≤ R.cells) (hk2 : n ≤ R.slots) (hdg : decode cc pc = .ok (.invokestatic idx, 3)) (pc' : Nat) (hn : pc + 3 = pc') (kk : xE p l e R s m args below meth c G A nL Qw k n hp pc' lv (.int (if y1 < x then y1 else x) :: st)) : xE p l e R s m args below meth c G A nL Qw k n hp pc lv (.int y1 :: .int x :: st) := by
  subst hn
  intro H locs ls hH hS hl
  have hts := X.2.2.2.2.1
  exact va_mmin X.1 X.2.1 (X.2.2.1.trans hl.1.symm) X.2.2.2.1 (hts _ hlk) (hts _ mm_st_min) (hts _ mm_in) (hts _ mm_cd_min) hfr hlo hk hk2 hdg (kk H locs ls hH hS hl)
theorem x_mmax (X : xX p l e R s m args below meth c G z A y cc nL) {idx : Nat} {x y1 : Int32} (hlk : Cond.methodLink y.cls idx Lib.Math.max.name ∈ xws) (hfr : 1 ≤ R.frames) (hlo : (st.map fun v => v.category).sum + 13 ≤ R.locals) (hk : k ≤ R.cells) (hk2 : n ≤ R.slots) (hdg : decode cc pc = .ok (.invokestatic idx, 3)) (pc' : Nat) (hn : pc + 3 = pc') (kk : xE p l e R s m args below meth c G A nL Qw k n hp pc' lv (.int (if x < y1 then y1 else x) :: st)) : xE p l e R s m args below meth c G A nL Qw k n hp pc lv (.int y1 :: .int x :: st) := by
  subst hn
  intro H locs ls hH hS hl
  have hts := X.2.2.2.2.1
  exact va_mmax X.1 X.2.1 (X.2.2.1.trans hl.1.symm) X.2.2.2.1 (hts _ hlk) (hts _ mm_st_max) (hts _ mm_in) (hts _ mm_cd_max) hfr hlo hk hk2 hdg (kk H locs ls hH hS hl)
end XM
