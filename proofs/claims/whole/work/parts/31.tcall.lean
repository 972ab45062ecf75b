def xKX (p : Program) (l : Launch) (e : Env) (R : Room) (s : State) (m : MethodId) (args : Array Value) (below : List Frame) (meth : Method) (c : Code) (G : xG) (A : Nat → Prop) (nL : Nat) (Qw : State → Prop) (k n : Nat) (lv : List (Nat × Value)) (rest : List Value) (pc : Nat) (QX : Nat → xh → Prop) : Prop :=
  ∀ (i a : Nat) (h' : xh) (locs : List Loc) (ls : Array Slot) (T1 : State), QX i h' → xH G A h' T1.heap → va_S A s.heap T1.heap locs → lv_has ls nL lv → Stand p l e R s m args below meth c T1 locs k n → xexc i a T1 → ∃ t, Steps p.tables e below ((T1.setTop (F0 m pc ls rest)).pushFrame (.throwing a)) t ∧ Qw t
section XV
variable {p : Program} {l : Launch} {e : Env} {R : Room} {s : State} {m : MethodId} {args : Array Value} {below : List Frame} {meth : Method} {c : Code} {G : xG} {z : Nat → Nat} {A : Nat → Prop} {y : MethodName} {cc : ByteArray} {nL : Nat} {Qw : State → Prop} {k n : Nat} {hp : xh} {pc : Nat} {lv lv' : List (Nat × Value)} {st : List Value}
/-- nobody catches: the method ends with it -/
theorem x_prop {rest : List Value} (XT : xXT e s meth A) (hnh : c.exceptionTable.toList = []) {QX : Nat → xh → Prop} (hthr : xThr R s below G A Qw QX) (hk : k ≤ R.cells) (hn : n ≤ R.slots) : xKX p l e R s m args below meth c G A nL Qw k n lv rest pc QX := by
  intro i a h' locs ls T1 hQ hH hS hl XS hx
  have hlocks : meth.locks = false := XT.2.2.2
  obtain ⟨h1, h2, h3, h4, h5⟩ := XS.leaveThrown a (g := F0 m pc ls rest) rfl rfl rfl (by rw [hnh]; intro x hx; cases hx)
  exact ⟨_, h1, hthr k n i a h' locs _ hk hn hQ h2 h3 h4 h5 hH hS hx⟩
/-- one row of handlers catches it -/
theorem x_catch (X : xX p l e R s m args below meth c G z A y cc nL) {rest : List Value} (pre : List (Nat × Nat × Nat × Nat)) {s0 e0 hpc ct : Nat} {post : List (Nat × Nat × Nat × Nat)} (htab : c.exceptionTable.toList.map (fun h => (h.startPc, h.endPc, h.handlerPc, h.catchType)) = pre ++ (s0, e0, hpc, ct) :: post) {i : Nat} (hc0 : ct ≠ 0) (h1 : s0 ≤ pc) (h2 : pc < e0) (hcl : Cond.classLink y.cls ct (xen i) ∈ xws) (hca : va_Nw (.castable (xen i) (xen i)) s)
    (hpre : ∀ q ∈ pre, q.2.2.2 ≠ 0 ∧ ∃ nm, Cond.classLink y.cls q.2.2.2 nm ∈ xws ∧ va_Nc (xen i) nm s) {h' : xh} (kk : ∀ a : Nat, xE p l e R s m args below meth c G A nL Qw k n h' hpc lv [.ref a]) {a : Nat} {locs : List Loc} {ls : Array Slot} {T1 : State} (hH : xH G A h' T1.heap) (hS : va_S A s.heap T1.heap locs) (hl : lv_has ls nL lv) (XS : Stand p l e R s m args below meth c T1 locs k n) (hx : xexc i a T1) : ∃ t, Steps p.tables e below ((T1.setTop (F0 m pc ls rest)).pushFrame (.throwing a)) t ∧ Qw t := by
  have hts := X.2.2.2.2.1
  have hpl : e.platform.magicAccessors = ({} : Platform).magicAccessors := by rw [XS.admits.platform]
  obtain ⟨cell, hx1, hx2, hx3⟩ := hx
  have hfc : s.vm.findClass (xen i) = some cell.cls := by rw [← XS.warmed.alike.findClass]; exact hx3
  obtain ⟨c1, c2, g1, g2, g3⟩ := Cond.castable_spec (args := #[]) (show (Cond.castable (xen i) (xen i)).before #[] s = true from hca)
  cases hfc.symm.trans g1
  cases hfc.symm.trans g2
  obtain ⟨E1, E2, hsp, hE1, hE2⟩ := List.map_eq_append_iff.mp htab
  obtain ⟨x, E3, hE2', hxe, -⟩ := List.map_eq_cons_iff.mp hE2
  have hxe' := Prod.mk.inj hxe
  have hxe2 := Prod.mk.inj hxe'.2
  have hxe3 := Prod.mk.inj hxe2.2
  have hcov : covers x pc = true := by
    show (decide (x.startPc ≤ pc) && decide (pc < x.endPc)) = true
    rw [hxe'.1, hxe2.1]
    simp [h1, h2]
  have hct0 : x.catchType ≠ 0 := by rw [hxe3.2]; exact hc0
  have hlink : (Cond.classLink y.cls x.catchType (xen i)).before args s = true := by rw [hxe3.2]; exact hts _ hcl
  obtain ⟨hend, hk0⟩ := XS.catches_of_link X.2.2.2.1 hct0 hlink hfc g3
  have hpass : ∀ q ∈ E1, RowPassed e.platform s m.cls (F0 m pc ls rest).pc cell.cls q := by
    intro q hq
    have hmem : (q.startPc, q.endPc, q.handlerPc, q.catchType) ∈ pre := by
      rw [← hE1]
      exact List.mem_map.mpr ⟨q, hq, rfl⟩
    obtain ⟨n0, nm, n1, n2⟩ := hpre _ hmem
    obtain ⟨c', hc', hcl'⟩ := Cond.classLink_spec X.2.2.2.1 (hts _ n1) e.platform hpl
    obtain ⟨u1, u2, m1, m2, m3⟩ := n2
    cases hfc.symm.trans m1
    cases hc'.symm.trans m2
    exact Or.inr ⟨n0, _, hcl', m3⟩
  obtain ⟨vm', X', hgo⟩ := XS.caughtThrough a (g := F0 m pc ls rest) rfl hx1 hx2 hk0 E1 x E3 (by rw [hsp, hE2']) hpass hcov hend
  obtain ⟨t, a1, b1⟩ := kk a T1.heap locs ls hH hS hl (T1.setVm vm') rfl X'
  refine ⟨t, ?_, b1⟩
  rw [XS.pushThrowing_eq]
  refine hgo t ?_
  rw [hxe3.1]
  exact a1

theorem x_tcallV (X : xX p l e R s m args below meth c G z A y cc nL) (XT : xXT e s meth A) {y' : MethodName} {bs : ByteArray} {nL' idx np : Nat} {ret : Option FieldType} {rm : Room} {b : Nat} {As rest st0 : List Value} {Q : Option Value → xh → Prop} {QX : Nat → xh → Prop} (hM : xMT l G z y' bs nL' ret rm (.ref b :: As) hp Q QX) {ci : Nat} {q : vw_C} (hb : xcls hp b ci) (hc : vwCl[ci]? = some q) (hcn : q.1 = y'.cls) (hlk : Cond.methodLink y.cls idx y' ∈ xws) (him : Cond.instanceMethod y' ∈ xws) (hsl : Cond.selects y'.cls y' y' ∈ xws) (hcd : Cond.code y' bs nL' ret ∈ xws) (hin : Cond.initialized y'.cls ∈ xws) (hd : y'.cls ≠ "java/lang/invoke/MethodHandle" ∧ y'.cls ≠ "java/lang/invoke/VarHandle" ∧ (parseMethodDescriptor y'.desc).map (fun d => d.parameters.length) = some np) (hnp : As.length = np) (hst : st0 = As.reverse ++ .ref b :: rest) (hcat : (rest.map fun v => v.category).sum ≤ 8) (hR : rm.frames + 1 ≤ R.frames) (hR2 : 8 + (nL' + 11) + rm.locals ≤ R.locals) (hk : k + rm.cells ≤ R.cells) (hk2 : n + rm.slots ≤ R.slots) (hdg : decode cc pc = .ok (.invokevirtual idx, 3)) (pc' : Nat) (hn : pc + 3 = pc') (kk : ∀ r h', Q r h' → xE p l e R s m args below meth c G A nL Qw (k + rm.cells) (n + rm.slots) h' pc' lv (r.toList ++ rest)) (kx : xKX p l e R s m args below meth c G A nL Qw (k + rm.cells) (n + rm.slots) lv rest pc QX) : xE p l e R s m args below meth c G A nL Qw k n hp pc lv st0 := by
  subst hn; subst hst
  intro H locs ls hH hS hl T hT XS
  subst hT
  have hts := X.2.2.2.2.1
  have hws := pay_in hts (xgoodIn hcd)
  have hsub := xA.sub X hH hS
  obtain ⟨fs, hb⟩ := hb
  obtain ⟨q', g0, cellB, g1, g2, g3, -⟩ := (hH b _ hb).1.ob
  have hclB : s.vm.findClass y'.cls = some cellB.cls := by rw [g2, ← hcn]; exact (X.2.2.2.2.2.1.1.1 ci q hc).2.1
  obtain ⟨mk, methM, hnamed, hmethM, hstM, habM⟩ := Cond.instanceMethod_spec (hts _ him)
  obtain ⟨methM', cM, hmethM', -, -, -, -, -, -, hsigM⟩ := Cond.code_spec hnamed (hts _ hcd)
  cases hmethM.symm.trans hmethM'
  obtain ⟨c2, r2, m2, q1, q2, q3, q4, kP, hkP, hkPi⟩ := Cond.selects_spec (hts _ hsl)
  cases hclB.symm.trans q1
  cases (State.methodFound?_of_named hnamed ⟨hd.1, hd.2.1⟩).symm.trans q2
  cases hnamed.symm.trans q3
  have hselP : selectMethod e.platform s.vm cellB.cls mk = .method mk := by rw [Launch.admits_selectMethod XS.admits]; exact q4
  have hlen : As.length = methM.sig.parameters.length := by
    have h2 := hd.2.2
    rw [hsigM] at h2
    exact hnp.trans (Option.some.inj h2).symm
  obtain ⟨vm₁, X₁, hstep₁⟩ := XS.invokevirtual X.1 X.2.2.2.1 (hts _ hlk) hnamed hmethM hstM hkP hkPi ⟨hd.1, hd.2.1⟩ (a := b) (cell := cellB) g1
    (fun z h => by rw [g3] at h; cases h) hselP hmethM habM hkP hkPi (g := F0 m pc ls (As.reverse ++ .ref b :: rest)) rfl (argsL := As) (rest := rest) hlen rfl (by rw [X.2.1]; exact hdg)
  have hPc : xPcT G z hp (T.setVm vm₁).heap.size (.ref b :: As) (.ref b :: As).toArray (T.setVm vm₁) := by
    obtain ⟨q0, q1, q2, q3, q4⟩ := xPc.at X hH hS (vs := .ref b :: As) (T.setVm vm₁) rfl X₁.warmed
    exact ⟨q0, q1, q2, q3, q4, xTh.go X₁.warmed hS.2.1 hsub XT.2.2.1⟩
  rcases x_goT X₁ hM (g := F0 m pc ls rest) rfl (hl.1.trans X.2.2.1.symm) (by rw [X.2.1]; exact hdg) (lv_room hcat) (X₁.named hnamed) (hws _ List.mem_cons_self _ _ X₁.warmed) (word_at X₁.warmed (Or.inl (by first | rfl | simp [Cond.onTables, Cond.keeps, Cond.steady])) (hts _ hin)) (atoms_intro fun w hw => hws w hw _ _ X₁.warmed) hR hR2 hk hk2 hPc with ⟨v, h', T', L, X', hL, hQ, hH1, hz, hkk, hgo⟩ | ⟨i, x, h', T', L, X', hL, hQ, hH1, hz, hkk, hx, hgo⟩
  all_goals have hS1 : va_S A s.heap T'.heap (locs ++ L) := ⟨Nat.le_trans hS.1 hz, fun q h1 h2 => by rw [hkk q (Nat.lt_of_lt_of_le h1 hS.1) (fun x => h2 (hsub q x))]; exact hS.2.1 q h1 h2, fun q hq => by
      rcases List.mem_append.mp hq with h | h
      · exact hS.2.2 q h
      · exact hsub _ (hL q h)⟩
  · obtain ⟨t2, a1, b1⟩ := kk v h' hQ T'.heap (locs ++ L) ls (hH1.any hsub) hS1 hl T' rfl X'
    exact ⟨t2, hstep₁ _ (fun acts => by rw [doInvoke_state]; exact hgo.trans a1), b1⟩
  · obtain ⟨t2, a1, b1⟩ := kx i x h' (locs ++ L) ls T' hQ (hH1.any hsub) hS1 hl X' hx
    exact ⟨t2, hstep₁ _ (fun acts => by rw [doInvoke_state]; exact hgo.trans a1), b1⟩
theorem x_tcallVi (X : xX p l e R s m args below meth c G z A y cc nL) (XT : xXT e s meth A) {y' : MethodName} {bs : ByteArray} {nL' idx np : Nat} {ret : Option FieldType} {rm : Room} {b : Nat} {As rest st0 : List Value} {Q : Int32 → xh → Prop} {QX : Nat → xh → Prop} (hM : xMT l G z y' bs nL' ret rm (.ref b :: As) hp (xqi Q) QX) {ci : Nat} {q : vw_C} (hb : xcls hp b ci) (hc : vwCl[ci]? = some q) (hcn : q.1 = y'.cls) (hlk : Cond.methodLink y.cls idx y' ∈ xws) (him : Cond.instanceMethod y' ∈ xws) (hsl : Cond.selects y'.cls y' y' ∈ xws) (hcd : Cond.code y' bs nL' ret ∈ xws) (hin : Cond.initialized y'.cls ∈ xws) (hd : y'.cls ≠ "java/lang/invoke/MethodHandle" ∧ y'.cls ≠ "java/lang/invoke/VarHandle" ∧ (parseMethodDescriptor y'.desc).map (fun d => d.parameters.length) = some np) (hnp : As.length = np) (hst : st0 = As.reverse ++ .ref b :: rest) (hcat : (rest.map fun v => v.category).sum ≤ 8) (hR : rm.frames + 1 ≤ R.frames) (hR2 : 8 + (nL' + 11) + rm.locals ≤ R.locals) (hk : k + rm.cells ≤ R.cells) (hk2 : n + rm.slots ≤ R.slots) (hdg : decode cc pc = .ok (.invokevirtual idx, 3)) (pc' : Nat) (hn : pc + 3 = pc') (kk : ∀ v h', Q v h' → xE p l e R s m args below meth c G A nL Qw (k + rm.cells) (n + rm.slots) h' pc' lv (.int v :: rest)) (kx : xKX p l e R s m args below meth c G A nL Qw (k + rm.cells) (n + rm.slots) lv rest pc QX) : xE p l e R s m args below meth c G A nL Qw k n hp pc lv st0 := by
  refine x_tcallV X XT hM hb hc hcn hlk him hsl hcd hin hd hnp hst hcat hR hR2 hk hk2 hdg pc' hn (fun r h' hq => ?_) kx
  obtain ⟨v, rfl, hq⟩ := hq
  exact kk v h' hq
theorem x_tcallVz (X : xX p l e R s m args below meth c G z A y cc nL) (XT : xXT e s meth A) {y' : MethodName} {bs : ByteArray} {nL' idx np : Nat} {ret : Option FieldType} {rm : Room} {b : Nat} {As rest st0 : List Value} {Q : Int32 → xh → Prop} {QX : Nat → xh → Prop} (hM : xMT l G z y' bs nL' ret rm (.ref b :: As) hp (xqz Q) QX) {ci : Nat} {q : vw_C} (hb : xcls hp b ci) (hc : vwCl[ci]? = some q) (hcn : q.1 = y'.cls) (hlk : Cond.methodLink y.cls idx y' ∈ xws) (him : Cond.instanceMethod y' ∈ xws) (hsl : Cond.selects y'.cls y' y' ∈ xws) (hcd : Cond.code y' bs nL' ret ∈ xws) (hin : Cond.initialized y'.cls ∈ xws) (hd : y'.cls ≠ "java/lang/invoke/MethodHandle" ∧ y'.cls ≠ "java/lang/invoke/VarHandle" ∧ (parseMethodDescriptor y'.desc).map (fun d => d.parameters.length) = some np) (hnp : As.length = np) (hst : st0 = As.reverse ++ .ref b :: rest) (hcat : (rest.map fun v => v.category).sum ≤ 8) (hR : rm.frames + 1 ≤ R.frames) (hR2 : 8 + (nL' + 11) + rm.locals ≤ R.locals) (hk : k + rm.cells ≤ R.cells) (hk2 : n + rm.slots ≤ R.slots) (hdg : decode cc pc = .ok (.invokevirtual idx, 3)) (pc' : Nat) (hn : pc + 3 = pc') (kk : ∀ v h', xbl v → Q v h' → xE p l e R s m args below meth c G A nL Qw (k + rm.cells) (n + rm.slots) h' pc' lv (.int v :: rest)) (kx : xKX p l e R s m args below meth c G A nL Qw (k + rm.cells) (n + rm.slots) lv rest pc QX) : xE p l e R s m args below meth c G A nL Qw k n hp pc lv st0 := by
  refine x_tcallV X XT hM hb hc hcn hlk him hsl hcd hin hd hnp hst hcat hR hR2 hk hk2 hdg pc' hn (fun r h' hq => ?_) kx
  obtain ⟨v, rfl, hb2, hq⟩ := hq
  exact kk v h' hb2 hq
theorem x_tcallVv (X : xX p l e R s m args below meth c G z A y cc nL) (XT : xXT e s meth A) {y' : MethodName} {bs : ByteArray} {nL' idx np : Nat} {ret : Option FieldType} {rm : Room} {b : Nat} {As rest st0 : List Value} {Q : xh → Prop} {QX : Nat → xh → Prop} (hM : xMT l G z y' bs nL' ret rm (.ref b :: As) hp (xqv Q) QX) {ci : Nat} {q : vw_C} (hb : xcls hp b ci) (hc : vwCl[ci]? = some q) (hcn : q.1 = y'.cls) (hlk : Cond.methodLink y.cls idx y' ∈ xws) (him : Cond.instanceMethod y' ∈ xws) (hsl : Cond.selects y'.cls y' y' ∈ xws) (hcd : Cond.code y' bs nL' ret ∈ xws) (hin : Cond.initialized y'.cls ∈ xws) (hd : y'.cls ≠ "java/lang/invoke/MethodHandle" ∧ y'.cls ≠ "java/lang/invoke/VarHandle" ∧ (parseMethodDescriptor y'.desc).map (fun d => d.parameters.length) = some np) (hnp : As.length = np) (hst : st0 = As.reverse ++ .ref b :: rest) (hcat : (rest.map fun v => v.category).sum ≤ 8) (hR : rm.frames + 1 ≤ R.frames) (hR2 : 8 + (nL' + 11) + rm.locals ≤ R.locals) (hk : k + rm.cells ≤ R.cells) (hk2 : n + rm.slots ≤ R.slots) (hdg : decode cc pc = .ok (.invokevirtual idx, 3)) (pc' : Nat) (hn : pc + 3 = pc') (kk : ∀ h', Q h' → xE p l e R s m args below meth c G A nL Qw (k + rm.cells) (n + rm.slots) h' pc' lv (rest)) (kx : xKX p l e R s m args below meth c G A nL Qw (k + rm.cells) (n + rm.slots) lv rest pc QX) : xE p l e R s m args below meth c G A nL Qw k n hp pc lv st0 := by
  refine x_tcallV X XT hM hb hc hcn hlk him hsl hcd hin hd hnp hst hcat hR hR2 hk hk2 hdg pc' hn (fun r h' hq => ?_) kx
  obtain ⟨rfl, hq⟩ := hq
  exact kk h' hq
theorem x_tcallS (X : xX p l e R s m args below meth c G z A y cc nL) (XT : xXT e s meth A) {y' : MethodName} {bs : ByteArray} {nL' idx np : Nat} {ret : Option FieldType} {rm : Room} {As rest st0 : List Value} {Q : Option Value → xh → Prop} {QX : Nat → xh → Prop} (hM : xMT l G z y' bs nL' ret rm (As) hp Q QX) (hlk : Cond.methodLink y.cls idx y' ∈ xws) (him : Cond.static y' ∈ xws) (hcd : Cond.code y' bs nL' ret ∈ xws) (hin : Cond.initialized y'.cls ∈ xws) (hd : y'.cls ≠ "java/lang/invoke/MethodHandle" ∧ y'.cls ≠ "java/lang/invoke/VarHandle" ∧ (parseMethodDescriptor y'.desc).map (fun d => d.parameters.length) = some np) (hnp : As.length = np) (hst : st0 = As.reverse ++ rest) (hcat : (rest.map fun v => v.category).sum ≤ 8) (hR : rm.frames + 1 ≤ R.frames) (hR2 : 8 + (nL' + 11) + rm.locals ≤ R.locals) (hk : k + rm.cells ≤ R.cells) (hk2 : n + rm.slots ≤ R.slots) (hdg : decode cc pc = .ok (.invokestatic idx, 3)) (pc' : Nat) (hn : pc + 3 = pc') (kk : ∀ r h', Q r h' → xE p l e R s m args below meth c G A nL Qw (k + rm.cells) (n + rm.slots) h' pc' lv (r.toList ++ rest)) (kx : xKX p l e R s m args below meth c G A nL Qw (k + rm.cells) (n + rm.slots) lv rest pc QX) : xE p l e R s m args below meth c G A nL Qw k n hp pc lv st0 := by
  subst hn; subst hst
  intro H locs ls hH hS hl T hT XS
  subst hT
  have hts := X.2.2.2.2.1
  have hws := pay_in hts (xgoodIn hcd)
  have hsub := xA.sub X hH hS
  obtain ⟨mk, hnamed⟩ := Cond.code_named (hts _ hcd)
  obtain ⟨methM, cM, hmethM, -, -, -, -, -, -, hsigM⟩ := Cond.code_spec hnamed (hts _ hcd)
  have hstatic : methM.isStatic = true := Cond.static_spec hnamed hmethM (hts _ him)
  obtain ⟨kP, hkP, -⟩ := className_of_methodNamed hnamed
  have hinitP : kP.init = .initialized := Cond.initialized_spec (findClass_of_methodNamed hnamed) hkP (hts _ hin)
  have hlen : As.length = methM.sig.parameters.length := by
    have h2 := hd.2.2
    rw [hsigM] at h2
    exact hnp.trans (Option.some.inj h2).symm
  obtain ⟨vm₁, X₁, hstep₁⟩ := XS.invokestatic X.1 X.2.2.2.1 (hts _ hlk) hnamed hmethM hstatic hkP hinitP ⟨hd.1, hd.2.1⟩ (g := F0 m pc ls (As.reverse ++ rest)) rfl (argsL := As) (rest := rest) hlen rfl (by rw [X.2.1]; exact hdg)
  have hPc : xPcT G z hp (T.setVm vm₁).heap.size (As) (As).toArray (T.setVm vm₁) := by
    obtain ⟨q0, q1, q2, q3, q4⟩ := xPc.at X hH hS (vs := As) (T.setVm vm₁) rfl X₁.warmed
    exact ⟨q0, q1, q2, q3, q4, xTh.go X₁.warmed hS.2.1 hsub XT.2.2.1⟩
  rcases x_goT X₁ hM (g := F0 m pc ls rest) rfl (hl.1.trans X.2.2.1.symm) (by rw [X.2.1]; exact hdg) (lv_room hcat) (X₁.named hnamed) (hws _ List.mem_cons_self _ _ X₁.warmed) (word_at X₁.warmed (Or.inl (by first | rfl | simp [Cond.onTables, Cond.keeps, Cond.steady])) (hts _ hin)) (atoms_intro fun w hw => hws w hw _ _ X₁.warmed) hR hR2 hk hk2 hPc with ⟨v, h', T', L, X', hL, hQ, hH1, hz, hkk, hgo⟩ | ⟨i, x, h', T', L, X', hL, hQ, hH1, hz, hkk, hx, hgo⟩
  all_goals have hS1 : va_S A s.heap T'.heap (locs ++ L) := ⟨Nat.le_trans hS.1 hz, fun q h1 h2 => by rw [hkk q (Nat.lt_of_lt_of_le h1 hS.1) (fun x => h2 (hsub q x))]; exact hS.2.1 q h1 h2, fun q hq => by
      rcases List.mem_append.mp hq with h | h
      · exact hS.2.2 q h
      · exact hsub _ (hL q h)⟩
  · obtain ⟨t2, a1, b1⟩ := kk v h' hQ T'.heap (locs ++ L) ls (hH1.any hsub) hS1 hl T' rfl X'
    exact ⟨t2, hstep₁ _ (fun acts => by rw [doInvoke_state]; exact hgo.trans a1), b1⟩
  · obtain ⟨t2, a1, b1⟩ := kx i x h' (locs ++ L) ls T' hQ (hH1.any hsub) hS1 hl X' hx
    exact ⟨t2, hstep₁ _ (fun acts => by rw [doInvoke_state]; exact hgo.trans a1), b1⟩
theorem x_tcallSi (X : xX p l e R s m args below meth c G z A y cc nL) (XT : xXT e s meth A) {y' : MethodName} {bs : ByteArray} {nL' idx np : Nat} {ret : Option FieldType} {rm : Room} {As rest st0 : List Value} {Q : Int32 → xh → Prop} {QX : Nat → xh → Prop} (hM : xMT l G z y' bs nL' ret rm (As) hp (xqi Q) QX) (hlk : Cond.methodLink y.cls idx y' ∈ xws) (him : Cond.static y' ∈ xws) (hcd : Cond.code y' bs nL' ret ∈ xws) (hin : Cond.initialized y'.cls ∈ xws) (hd : y'.cls ≠ "java/lang/invoke/MethodHandle" ∧ y'.cls ≠ "java/lang/invoke/VarHandle" ∧ (parseMethodDescriptor y'.desc).map (fun d => d.parameters.length) = some np) (hnp : As.length = np) (hst : st0 = As.reverse ++ rest) (hcat : (rest.map fun v => v.category).sum ≤ 8) (hR : rm.frames + 1 ≤ R.frames) (hR2 : 8 + (nL' + 11) + rm.locals ≤ R.locals) (hk : k + rm.cells ≤ R.cells) (hk2 : n + rm.slots ≤ R.slots) (hdg : decode cc pc = .ok (.invokestatic idx, 3)) (pc' : Nat) (hn : pc + 3 = pc') (kk : ∀ v h', Q v h' → xE p l e R s m args below meth c G A nL Qw (k + rm.cells) (n + rm.slots) h' pc' lv (.int v :: rest)) (kx : xKX p l e R s m args below meth c G A nL Qw (k + rm.cells) (n + rm.slots) lv rest pc QX) : xE p l e R s m args below meth c G A nL Qw k n hp pc lv st0 := by
  refine x_tcallS X XT hM hlk him hcd hin hd hnp hst hcat hR hR2 hk hk2 hdg pc' hn (fun r h' hq => ?_) kx
  obtain ⟨v, rfl, hq⟩ := hq
  exact kk v h' hq
theorem x_tcallSz (X : xX p l e R s m args below meth c G z A y cc nL) (XT : xXT e s meth A) {y' : MethodName} {bs : ByteArray} {nL' idx np : Nat} {ret : Option FieldType} {rm : Room} {As rest st0 : List Value} {Q : Int32 → xh → Prop} {QX : Nat → xh → Prop} (hM : xMT l G z y' bs nL' ret rm (As) hp (xqz Q) QX) (hlk : Cond.methodLink y.cls idx y' ∈ xws) (him : Cond.static y' ∈ xws) (hcd : Cond.code y' bs nL' ret ∈ xws) (hin : Cond.initialized y'.cls ∈ xws) (hd : y'.cls ≠ "java/lang/invoke/MethodHandle" ∧ y'.cls ≠ "java/lang/invoke/VarHandle" ∧ (parseMethodDescriptor y'.desc).map (fun d => d.parameters.length) = some np) (hnp : As.length = np) (hst : st0 = As.reverse ++ rest) (hcat : (rest.map fun v => v.category).sum ≤ 8) (hR : rm.frames + 1 ≤ R.frames) (hR2 : 8 + (nL' + 11) + rm.locals ≤ R.locals) (hk : k + rm.cells ≤ R.cells) (hk2 : n + rm.slots ≤ R.slots) (hdg : decode cc pc = .ok (.invokestatic idx, 3)) (pc' : Nat) (hn : pc + 3 = pc') (kk : ∀ v h', xbl v → Q v h' → xE p l e R s m args below meth c G A nL Qw (k + rm.cells) (n + rm.slots) h' pc' lv (.int v :: rest)) (kx : xKX p l e R s m args below meth c G A nL Qw (k + rm.cells) (n + rm.slots) lv rest pc QX) : xE p l e R s m args below meth c G A nL Qw k n hp pc lv st0 := by
  refine x_tcallS X XT hM hlk him hcd hin hd hnp hst hcat hR hR2 hk hk2 hdg pc' hn (fun r h' hq => ?_) kx
  obtain ⟨v, rfl, hb2, hq⟩ := hq
  exact kk v h' hb2 hq
theorem x_tcallSv (X : xX p l e R s m args below meth c G z A y cc nL) (XT : xXT e s meth A) {y' : MethodName} {bs : ByteArray} {nL' idx np : Nat} {ret : Option FieldType} {rm : Room} {As rest st0 : List Value} {Q : xh → Prop} {QX : Nat → xh → Prop} (hM : xMT l G z y' bs nL' ret rm (As) hp (xqv Q) QX) (hlk : Cond.methodLink y.cls idx y' ∈ xws) (him : Cond.static y' ∈ xws) (hcd : Cond.code y' bs nL' ret ∈ xws) (hin : Cond.initialized y'.cls ∈ xws) (hd : y'.cls ≠ "java/lang/invoke/MethodHandle" ∧ y'.cls ≠ "java/lang/invoke/VarHandle" ∧ (parseMethodDescriptor y'.desc).map (fun d => d.parameters.length) = some np) (hnp : As.length = np) (hst : st0 = As.reverse ++ rest) (hcat : (rest.map fun v => v.category).sum ≤ 8) (hR : rm.frames + 1 ≤ R.frames) (hR2 : 8 + (nL' + 11) + rm.locals ≤ R.locals) (hk : k + rm.cells ≤ R.cells) (hk2 : n + rm.slots ≤ R.slots) (hdg : decode cc pc = .ok (.invokestatic idx, 3)) (pc' : Nat) (hn : pc + 3 = pc') (kk : ∀ h', Q h' → xE p l e R s m args below meth c G A nL Qw (k + rm.cells) (n + rm.slots) h' pc' lv (rest)) (kx : xKX p l e R s m args below meth c G A nL Qw (k + rm.cells) (n + rm.slots) lv rest pc QX) : xE p l e R s m args below meth c G A nL Qw k n hp pc lv st0 := by
  refine x_tcallS X XT hM hlk him hcd hin hd hnp hst hcat hR hR2 hk hk2 hdg pc' hn (fun r h' hq => ?_) kx
  obtain ⟨rfl, hq⟩ := hq
  exact kk h' hq
end XV
def xMW (l : Launch) (G : xG) (z : Nat → Nat) (y : MethodName) (bs : ByteArray) (nL : Nat) (ret : Option FieldType) (hh : List (Nat × Nat × Nat × Nat)) (rm : Room) (vs : List Value) (hp : xh) (Q : Option Value → xh → Prop) : Prop :=
  ∀ sz : Nat, Met l y (.codeWith y bs nL ret hh :: xws) rm (xPcT G z hp sz vs) (xQc G hp sz Q) rm.cells rm.slots (xA hp sz)
theorem xMW_of {l : Launch} {G : xG} {z : Nat → Nat} {y : MethodName} {bs : ByteArray} {nL : Nat} {ret : Option FieldType} {hh : List (Nat × Nat × Nat × Nat)} {rm : Room} {vs : List Value} {hp : xh} {Q : Option Value → xh → Prop} (hfl : l.flags = flags0) (hy : plainName y.cls = true) (hlen : (lg_sl vs).length ≤ nL) {lv0 : List (Nat × Value)} (hlv : lv_args 0 vs = lv0)
    (body : ∀ {p : Program} {e : Env} {s : State} {m : MethodId} {args : Array Value} {below : List Frame} {meth : Method} {c : Code} {A : Nat → Prop} {Qw : State → Prop}, xX p l e rm s m args below meth c G z A y bs nL → xXT e s meth A → c.exceptionTable.toList.map (fun h => (h.startPc, h.endPc, h.handlerPc, h.catchType)) = hh → xRet p l e rm s m args below meth c G A nL Qw bs ret Q → xE p l e rm s m args below meth c G A nL Qw 0 0 hp 0 lv0 []) : xMW l G z y bs nL ret hh rm vs hp Q := by
  intro sz
  refine va_MetW (cc := bs) (maxL := nL) (ret := ret) (hh := hh) hy rfl ?_
  intro p e s m args below meth c s₁ B hml hv
  obtain ⟨rfl, hsz, hH, hK, hZ, hTh⟩ := hv
  have hts := atoms_spec (ws := .codeWith y bs nL ret hh :: xws) B.pre
  have hown : s.vm.findClass y.cls = some m.cls := findClass_of_methodNamed B.named
  have hin : meth.name = y.name := (name_of_methodNamed B.named B.method).1
  have hlocks := B.notSynchronized
  have htab : c.exceptionTable.toList.map (fun h => (h.startPc, h.endPc, h.handlerPc, h.catchType)) = hh := by
    obtain ⟨m9, meth9, c9, hn9, h1, h2, h3, h4, h5, -⟩ := Cond.codeWith_spec (hts _ List.mem_cons_self)
    cases B.named.symm.trans hn9
    cases B.method.symm.trans h1
    cases (Stand.of_body B).code.symm.trans h2
    exact h5
  subst hsz
  have hH0 : xH G (xA hp s.heap.size) hp s.heap := fun a o ho => ⟨(hH a o ho).1, by
    by_cases hr : xro o
    · exact Or.inl hr
    · exact Or.inr (Or.inl ⟨o, ho, hr⟩)⟩
  have X : xX p l e rm s m vs.toArray below meth c G z (xA hp s.heap.size) y bs nL := ⟨B.exec, B.bytes, hml, hown, fun w h => hts w (List.mem_cons_of_mem _ h), hK, hZ, fun q h => Or.inr h, hin⟩
  have XT : xXT e s meth (xA hp s.heap.size) := by
    refine ⟨Launch.traces_off hfl (Stand.of_body B).admits, fun q hq cell hc => ?_, hTh, hlocks⟩
    rcases hq with ⟨o, ho, hr0⟩ | hq
    · have h1 := (hH q o ho).1.no hr0
      cases o with
      | inl x =>
        have h2 : s.heap[q]? = some (vp_cell _ _) := h1
        cases hc.symm.trans h2
        obtain ⟨t, n, f⟩ := x
        rcases f with f | f | f | f | f <;> rfl
      | inr o =>
        obtain ⟨r, -, cell2, g1, g2, g3, -⟩ := h1
        cases hc.symm.trans g1
        rw [g3]; rfl
    · have := (Array.getElem?_eq_some_iff.mp hc).1
      omega
  have hret : xRet p l e rm s m vs.toArray below meth c G (xA hp s.heap.size) nL (MQ below (xQc G hp s.heap.size Q) vs.toArray s rm.cells rm.slots (xA hp s.heap.size)) bs ret Q := by
    intro k n h' pc lv r hk hn hQ hr H locs ls hH1 hS hl
    refine W.widen hk hn ?_
    have hq : ∀ t : State, t.heap = H → s.WarmedH t.vm → xQc G hp s.heap.size Q vs.toArray s (.returned r) t := fun t ht hW => ⟨⟨r, h', rfl, hQ, by rw [ht]; exact hH1, xK.warm hW hK⟩, hS.F ht⟩
    cases r with
    | none => exact W.vret B.exec B.bytes (B.returns.trans hr.1) hq hS.2.2 hr.2
    | some v =>
      cases v with
      | int v =>
        obtain ⟨⟨ty, h1, h2⟩, h3⟩ := hr
        exact W.zret B.exec B.bytes (B.returns.trans h1) h2 hq hS.2.2 h3
      | long v => exact W.lret B.exec B.bytes (B.returns.trans hr.1) hq hS.2.2 hr.2
      | ref v =>
        obtain ⟨⟨rt, h1, h2⟩, h3⟩ := hr
        exact W.aret B.exec B.bytes (B.returns.trans h1) h2 (Or.inr ⟨v, rfl⟩) hq hS.2.2 h3
      | _ => exact hr.elim
  have hl := lv_entry vs (n := nL) hlen
  rw [lg_entry_eq]
  rw [hlv] at hl
  exact body X XT htab hret s.heap [] _ hH0 va_S.rf hl
theorem xPcT.blind {G : xG} {z : Nat → Nat} {hp : xh} {sz : Nat} {vs : List Value} : FrameBlind (xPcT G z hp sz vs) := fun a U g mk q => by
  obtain ⟨q0, q1, q2, q3, q4, q5⟩ := q
  exact ⟨q0, q1, q2, xK.same (u := U) (U := U.calling g mk a) rfl q3, fun i x h => va_Z.moved (u := U) (U := U.calling g mk a) (Vm.Alike.refl U.vm) (q4 i x h), xTh.same (u := U) (U := U.calling g mk a) rfl q5⟩
section XW
variable {p : Program} {l : Launch} {e : Env} {R : Room} {s : State} {m : MethodId} {args : Array Value} {below : List Frame} {meth : Method} {c : Code} {G : xG} {z : Nat → Nat} {A : Nat → Prop} {y : MethodName} {cc : ByteArray} {nL : Nat} {Qw : State → Prop} {k n : Nat} {hp : xh} {pc : Nat} {lv lv' : List (Nat × Value)} {st : List Value}
theorem x_callSWi (X : xX p l e R s m args below meth c G z A y cc nL) (XT : xXT e s meth A) {y' : MethodName} {bs : ByteArray} {nL' idx np : Nat} {ret : Option FieldType} {hh : List (Nat × Nat × Nat × Nat)} {rm : Room} {As rest st0 : List Value} {Q : Int32 → xh → Prop} (hM : xMW l G z y' bs nL' ret hh rm As hp (xqi Q)) (hlk : Cond.methodLink y.cls idx y' ∈ xws) (him : Cond.static y' ∈ xws) (hcd : Cond.codeWith y' bs nL' ret hh ∈ xws) (hin : Cond.initialized y'.cls ∈ xws) (hd : y'.cls ≠ "java/lang/invoke/MethodHandle" ∧ y'.cls ≠ "java/lang/invoke/VarHandle" ∧ (parseMethodDescriptor y'.desc).map (fun d => d.parameters.length) = some np) (hnp : As.length = np) (hst : st0 = As.reverse ++ rest) (hcat : (rest.map fun v => v.category).sum ≤ 8) (hR : rm.frames + 1 ≤ R.frames) (hR2 : 8 + (nL' + 11) + rm.locals ≤ R.locals) (hk : k + rm.cells ≤ R.cells) (hk2 : n + rm.slots ≤ R.slots) (hdg : decode cc pc = .ok (.invokestatic idx, 3)) (pc' : Nat) (hn : pc + 3 = pc') (kk : ∀ v h', Q v h' → xE p l e R s m args below meth c G A nL Qw (k + rm.cells) (n + rm.slots) h' pc' lv (.int v :: rest)) : xE p l e R s m args below meth c G A nL Qw k n hp pc lv st0 := by
  subst hn; subst hst
  intro H locs ls hH hS hl
  have hts := X.2.2.2.2.1
  have hws : ∀ w ∈ (Cond.codeWith y' bs nL' ret hh :: xws), ∀ (a' : Array Value) (U : State), s.WarmedH U.vm → w.before a' U = true := pay_in hts (xgoodIn hcd)
  have hsub := xA.sub X hH hS
  have hPc : ∀ U : State, U.heap = H → s.WarmedH U.vm → xPcT G z hp H.size As As.toArray U := fun U hU hW => by
    obtain ⟨q0, q1, q2, q3, q4⟩ := xPc.at X hH hS (vs := As) U hU hW
    subst hU
    exact ⟨q0, q1, q2, q3, q4, xTh.go hW hS.2.1 hsub XT.2.2.1⟩
  have hB : Back l R p e below s args y' 3 8 (PreOf R rm.cells rm.slots (xPcT G z hp H.size As)) (PostOf (xQc G hp H.size (xqi Q)) rm.cells rm.slots (xA hp H.size)) :=
    va_backW (hh := hh) (bytes := bs) (maxL := nL') (ret := ret) (hM H.size) xPcT.blind rfl rfl hR hR2 hws List.mem_cons_self (fun a' U hW => word_at hW (Or.inl (by first | rfl | simp [Cond.onTables, Cond.keeps, Cond.steady])) (hts _ hin))
  obtain ⟨mk, methM, cM, hnamed, hmethM, -, -, -, -, -, -, hsigM⟩ := Cond.codeWith_spec (hts _ hcd)
  have hstatic : methM.isStatic = true := Cond.static_spec hnamed hmethM (hts _ him)
  obtain ⟨kP, hkP, -⟩ := className_of_methodNamed hnamed
  have hinitP : kP.init = .initialized := Cond.initialized_spec (findClass_of_methodNamed hnamed) hkP (hts _ hin)
  have hlen : As.length = methM.sig.parameters.length := by
    have h2 := hd.2.2
    rw [hsigM] at h2
    exact hnp.trans (Option.some.inj h2).symm
  refine x_run X hH hS (mc := rm.cells) (ms := rm.slots) (rest := rest) (a := As.toArray) (Q := xqi Q) ?_ (fun r h' H1 locs1 hQ hH1 hS1 => ?_)
  · intro T hT XS
    obtain ⟨vm₁, X₁, hstep₁⟩ := XS.invokestatic X.1 X.2.2.2.1 (hts _ hlk) hnamed hmethM hstatic hkP hinitP ⟨hd.1, hd.2.1⟩ (g := F0 m pc ls (As.reverse ++ rest)) rfl (argsL := As) (rest := rest) hlen rfl (by rw [X.2.1]; exact hdg)
    obtain ⟨v, ⟨U', l2, c2, s2⟩, X', ⟨g', mk', t, L, e1, e2, hq, h1, hL, h2, h3⟩, hsteps⟩ := hB m meth c ⟨T.setVm vm₁, locs, k, n⟩ { F0 m pc ls (As.reverse ++ rest) with stack := rest } (.invokestatic idx) mk As.toArray X₁ rfl (hl.1.trans X.2.2.1.symm) (by rw [X.2.1]; exact hdg) (lv_room hcat) (X₁.named hnamed) ⟨hk, hk2, hPc (T.setVm vm₁) hT X₁.warmed⟩
    dsimp only [Pt.U, Pt.locs, Pt.cells, Pt.slots] at X' e1 e2 h1 h2 h3 hsteps
    subst h1; subst h2; subst h3
    exact ⟨v, (T.setVm vm₁).calling g' mk' As.toArray, t, U', L, hT, X', hL, e1, e2, hq, fun target h => hstep₁ _ fun acts => by rw [doInvoke_state]; exact hsteps.trans h⟩
  · obtain ⟨v, rfl, hq⟩ := hQ
    exact kk v h' hq H1 locs1 ls hH1 hS1 hl
end XW
