/-! THE CLAIM OUT OF ONE WALK OF THE LAW'S BODY. Your part is whole_start (and what it stands on); all else here is the same for every law, but numbers. -/
def R_law : String := "TwinJudgeLaw"
def lw_P (b : Addr) (xs : List Int32) (args : Array Value) (s : State) : Prop := args = #[.ref b] ∧ s.IntsAt b xs ∧ xs.length ≤ 3072 ∧ (Jvm.Cond.and given_1 narrow_1).before args s = true
def lw_Q (_ : Array Value) (s : State) (o : Outcome) (t : State) : Prop := o = .returned (some (.int 1)) ∧ Framed s o t [] 601024 7293034
def lw_Z (below : List Frame) (a : Array Value) (s : State) : State → Prop := fun t => ∃ o, t.status = .running ∧ Ended t below o ∧ lw_Q a s o t
/-- the law's own end, with 1 on the stack, nothing written that was there before, its room as the claim has it -/
theorem lw_ret {p : Program} {l : Launch} {e : Env} {s : State} {m : MethodId} {below : List Frame} {meth : Method} {c : Code} {b : Nat} (hx : p.tables.exec = Jvm.exec) (hb : c.code = code) (hr : meth.sig.returnType = ret) (hlocks : meth.locks = false) {pc : Nat} {H : Heap} {ls : Array Slot} (hdg : decode code pc = .ok (.ireturn, 1)) : W p l e room_1 s m #[Value.ref b] below meth c H [] 601024 7293034 (lw_Z below #[Value.ref b] s) (F0 m pc ls [.int 1]) := by
  intro T hT X
  obtain ⟨fs, hret, hrun, hended, hW, hframe⟩ := X.leave (v := some (.int 1)) (hlocks := hlocks) (fun h => by rw [hr] at h; cases h)
  have hmeth' : T.vm.method? m = some meth := X.method'
  refine ⟨T.setFrames fs, ?_, .returned (some (.int 1)), hrun, hended, rfl, ⟨_, rfl⟩, hW, hframe⟩
  jvm_step X.here [X.here.top, hx, hb, hdg, hmeth', hr, ret, narrow_b1]
  (try refine ⟨rfl, ?_⟩); (try refine ⟨rfl, ?_⟩)
  first | (intro acts; rw [hret _ acts rfl rfl rfl]) | rw [hret _ _ rfl rfl rfl]
  exact Steps.refl _
/-- what holds at the law's entry: the machine, the code, the tables' words (any of lw_tbl by 'hts w (by decide +kernel)'), the script of L ints xs at the cell b, what the Statement gives of the start (any of its parts by flat_of_before) -/
def lw_At (p : Program) (s : State) (m : MethodId) (meth : Method) (c : Code) (b L : Nat) (xs : Nat → Int32) : Prop :=
  p.tables.exec = Jvm.exec ∧ c.code = code ∧ meth.sig.returnType = ret ∧ c.maxLocals = 7 ∧ s.vm.findClass R_law = some m.cls ∧ (∀ w ∈ lw_tbl, w.before #[Value.ref b] s = true) ∧ va_X b L xs s s.heap ∧ b < s.heap.size ∧ meth.locks = false ∧ (Jvm.Cond.and given_1 narrow_1).before #[Value.ref b] s = true
theorem whole_start {p : Program} {e : Env} {s : State} {m : MethodId} {below : List Frame} {meth : Method} {c : Code} (l : Launch) {b L : Nat} {xs : Nat → Int32} (hfl : l.flags = flags0) (hadm : l.admits e) (hnm : meth.name = x.name) (hL : L ≤ 3072) (C0 : lw_At p s m meth c b L xs) : W p l e room_1 s m #[Value.ref b] below meth c s.heap [] 0 0 (lw_Z below #[Value.ref b] s) (entryFrame m ([Value.ref b] : List Value).toArray 7) := by
  obtain ⟨hx, hb, hr, hml, hown, hts, hX, hbl, hlocks, hgv⟩ := id C0
  have hs := flat_of_before _ hgv
  have hAn : ∀ a : Nat, a < s.heap.size → ¬ (fun q : Nat => s.heap.size ≤ q) a := fun a h => Nat.not_le.mpr h
  obtain ⟨t1, c1, ev1, ar1, ik1⟩ := ws_ints (N := 3) (f := fN1) (by decide) (hs (.arrayOf (.static "TwinJudge" "FIRST_NAMES" "[I") .int) (by decide +kernel)) (va_eqt (hs (.eq (.length (.static "TwinJudge" "FIRST_NAMES" "[I")) (.int 3)) (by decide +kernel))) (fun j hj => by
    match j, hj with
    | 0, _ => exact va_eqt (hs (.eq (.elem (.static "TwinJudge" "FIRST_NAMES" "[I") (.int 0)) (.int 0)) (by decide +kernel))
    | 1, _ => exact va_eqt (hs (.eq (.elem (.static "TwinJudge" "FIRST_NAMES" "[I") (.int 1)) (.int 5)) (by decide +kernel))
    | 2, _ => exact va_eqt (hs (.eq (.elem (.static "TwinJudge" "FIRST_NAMES" "[I") (.int 2)) (.int 11)) (by decide +kernel)))
  obtain ⟨t2, c2, ev2, ar2, ik2⟩ := ws_ints (N := 5) (f := fN2) (by decide) (hs (.arrayOf (.static "TwinJudge" "ALL_VECTORS" "[I") .int) (by decide +kernel)) (va_eqt (hs (.eq (.length (.static "TwinJudge" "ALL_VECTORS" "[I")) (.int 5)) (by decide +kernel))) (fun j hj => by
    match j, hj with
    | 0, _ => exact va_eqt (hs (.eq (.elem (.static "TwinJudge" "ALL_VECTORS" "[I") (.int 0)) (.int (-1431655766))) (by decide +kernel))
    | 1, _ => exact va_eqt (hs (.eq (.elem (.static "TwinJudge" "ALL_VECTORS" "[I") (.int 1)) (.int (-858993460))) (by decide +kernel))
    | 2, _ => exact va_eqt (hs (.eq (.elem (.static "TwinJudge" "ALL_VECTORS" "[I") (.int 2)) (.int (-252645136))) (by decide +kernel))
    | 3, _ => exact va_eqt (hs (.eq (.elem (.static "TwinJudge" "ALL_VECTORS" "[I") (.int 3)) (.int (-16711936))) (by decide +kernel))
    | 4, _ => exact va_eqt (hs (.eq (.elem (.static "TwinJudge" "ALL_VECTORS" "[I") (.int 4)) (.int (-65536))) (by decide +kernel)))
  obtain ⟨scr, s1, s2, s3, s4, s5⟩ := hX
  have ar0 : xArr scr.cls b L xs s.heap := ⟨scr, s1, s2.1, s3, Nat.le_of_eq s4.symm, congrArg Nat.toInt32 s4, s5, rfl⟩
  obtain ⟨G, hK, g0, g1, g2⟩ := ws_G hts (a := scr.cls) (b := c1) (c := c2) s2.2 ik1 ik2
  have hTh := ws_Th hts hgv hK
  generalize hnm0 : (fun k => bif Nat.beq k 80 then b else bif Nat.beq k 81 then t1 else t2 : Nat → Nat) = nm0
  have n80 : nm0 80 = b := by rw [← hnm0]; rfl
  have n81 : nm0 81 = t1 := by rw [← hnm0]; rfl
  have n82 : nm0 82 = t2 := by rw [← hnm0]; rfl
  have hI0 : 6 ≤ L → gI (lv0 true) nm0 := by
    intro h6 i j a1 a2 a3
    have b1 := ws_apart ar0 ar1 (by omega) (by decide) (by omega)
    have b2 := ws_apart ar0 ar2 (by omega) (by decide) (by omega)
    have b3 := ws_apart ar1 ar2 (by decide) (by decide) (by decide)
    have key : ∀ i, lv0 true i = true → i = 80 ∨ i = 81 ∨ i = 82 := fun i hh => by
      unfold lv0 at hh
      rw [Bool.and_true] at hh
      rcases Bool.or_eq_true_iff.mp hh with hh | hh
      · exact Or.inl (Nat.eq_of_beq_eq_true hh)
      · rcases Bool.or_eq_true_iff.mp hh with hh | hh
        · exact Or.inr (Or.inl (Nat.eq_of_beq_eq_true hh))
        · exact Or.inr (Or.inr (Nat.eq_of_beq_eq_true hh))
    rcases key i a1 with rfl | rfl | rfl <;> rcases key j a2 with rfl | rfl | rfl
    · rfl
    · rw [n80, n81] at a3; exact absurd a3 b1
    · rw [n80, n82] at a3; exact absurd a3 b2
    · rw [n80, n81] at a3; exact absurd a3.symm b1
    · rfl
    · rw [n81, n82] at a3; exact absurd a3 b3
    · rw [n80, n82] at a3; exact absurd a3.symm b2
    · rw [n81, n82] at a3; exact absurd a3.symm b3
    · rfl
  have hwp := ws_pure (z := fun i => if i = 0 then t1 else t2) (sc := xs) hL hI0 ⟨n81.symm, n82.symm⟩
  rw [n80] at hwp
  have hH : xH G (fun q : Nat => s.heap.size ≤ q) (gm (lv0 (Nat.ble 6 L)) (ob0 L xs fN1 fN2) nm0 (fun _ => none)) s.heap := by
    have old : ∀ (t n i : Nat) (f : Nat → Int32), xArr (G.2 i) t n f s.heap → 100 ≤ i → i < 103 → xat G t (.inl (100, n, .inl f)) s.heap := by
      rintro t n i f ⟨cell, a1, a2, a3, a4, a5, a6, a7⟩ h1 h2
      exact Or.inr ⟨100, n, f, rfl, by decide, rfl, cell, a1, a2, a3, a4, a5, a6, i, h1, h2, a7⟩
    rw [← g0] at ar0
    rw [← g1] at ar1
    rw [← g2] at ar2
    intro a o ho
    by_cases he : ∃ k, lv0 (Nat.ble 6 L) k = true ∧ nm0 k = a
    · unfold gm at ho
      rw [dif_pos he] at ho
      obtain ⟨q1, q2⟩ := he.choose_spec
      generalize he.choose = k at ho q1 q2
      cases ho
      subst q2
      have key : k = 80 ∨ k = 81 ∨ k = 82 := by
        unfold lv0 at q1
        rcases Bool.or_eq_true_iff.mp q1 with hh | hh
        · exact Or.inl (Nat.eq_of_beq_eq_true hh)
        · rcases Bool.or_eq_true_iff.mp (Bool.and_eq_true_iff.mp hh).1 with hh | hh
          · exact Or.inr (Or.inl (Nat.eq_of_beq_eq_true hh))
          · exact Or.inr (Or.inr (Nat.eq_of_beq_eq_true hh))
      rcases key with rfl | rfl | rfl
      · rw [n80]; exact ⟨old b L 100 xs ar0 (by decide) (by decide), Or.inl (Nat.le_refl 100)⟩
      · rw [n81]; exact ⟨old t1 3 101 fN1 ar1 (by decide) (by decide), Or.inl (Nat.le_refl 100)⟩
      · rw [n82]; exact ⟨old t2 5 102 fN2 ar2 (by decide) (by decide), Or.inl (Nat.le_refl 100)⟩
    · rw [gm_no he] at ho; cases ho
  have X : xX p l e (rt_Law_law 601024 7293034) s m #[Value.ref b] below meth c G (fun i => if i = 0 then t1 else t2) (fun q : Nat => s.heap.size ≤ q) y_Law_law b_Law_law 7 := by
    refine ⟨hx, hb, hml, hown, fun w h => hts w (List.mem_filter.mp h).1, hK, fun i q hq => ?_, fun _ h => h, hnm⟩
    match i, hq with
    | 0, hq => cases hq; exact va_Zref (hts (.laysStatic "TwinJudge" "FIRST_NAMES" "[I") (by decide +kernel)) (hts (.initialized "TwinJudge") (by decide +kernel)) ev1 hAn
    | 1, hq => cases hq; exact va_Zref (hts (.laysStatic "TwinJudge" "ALL_VECTORS" "[I") (by decide +kernel)) (hts (.initialized "TwinJudge") (by decide +kernel)) ev2 hAn
    | i + 2, hq => simp [xst] at hq
  have XT : xXT e s meth (fun q : Nat => s.heap.size ≤ q) := ⟨Launch.traces_off hfl hadm, fun q hq cell hc => absurd (Array.getElem?_eq_some_iff.mp hc).1 (Nat.not_lt.mpr hq), hTh, hlocks⟩
  have hret : xRet p l e (rt_Law_law 601024 7293034) s m #[Value.ref b] below meth c G (fun q : Nat => s.heap.size ≤ q) 7 (lw_Z below #[Value.ref b] s) b_Law_law (some .boolean) (xqz (fun v _ => v = 1)) := by
    rintro k n h' pc lv r hk hn ⟨v, rfl, -, rfl⟩ hrt H locs ls hH1 hS hl
    refine W.widen hk hn ?_
    refine va_forget (fun q hq => hS.2.2 q hq) ?_
    exact lw_ret hx hb hr hlocks hrt.2
  have hl := lv_entry ([.ref b]) (n := 7) (Nat.le_of_ble_eq_true rfl)
  have K := t_Law_law hfl X XT hret hwp s.heap [] _ hH va_S.rf hl
  rw [← lg_entry_eq] at K
  exact K
set_option maxHeartbeats 4000000 in
theorem lw_walk (l : Launch) (hfl : l.flags = flags0) (b : Addr) (xs : List Int32) : MetFree l x (headSpec (Jvm.Cond.code x code maxLocals ret :: tables_1) room_1) (lw_P b xs) (fun _ _ _ _ _ => True) lw_Q := by
  refine MetFree.of_bodyS (code := code) (maxLocals := maxLocals) (ret := ret) (by decide) ?_ ?_
  · intro args s m h hn
    obtain ⟨meth, c, h1, h2, h3, h4, h5, h6, -, -⟩ := Cond.code_spec hn (atoms_spec (ws := Jvm.Cond.code x code maxLocals ret :: tables_1) h _ List.mem_cons_self)
    exact ⟨meth, c, h1, h2, h3, h4, h5, h6⟩
  · intro p e s m args below meth c s₁ B hml0 hP _
    obtain ⟨rfl, hx, hbd, hgv⟩ := hP
    obtain ⟨scr, harrAt, hlist, hof, hsmall⟩ := hx
    obtain ⟨hcb, hkn, -, -⟩ := State.arrayAt?_spec harrAt
    have hown : s.vm.findClass R_law = some m.cls := findClass_of_methodNamed B.named
    have hts0 : ∀ c ∈ (Jvm.Cond.code x code maxLocals ret :: tables_1), c.before #[Value.ref b] s = true := atoms_spec (ws := Jvm.Cond.code x code maxLocals ret :: tables_1) B.pre
    have hts : ∀ w ∈ lw_tbl, w.before #[Value.ref b] s = true := k2_hts_sels lw_privs (fun w hw => hts0 w (List.mem_cons_of_mem _ hw)) lw_privs_ok
    have hml : c.maxLocals = 7 := B.maxLocals_eq (hts0 _ List.mem_cons_self)
    have X₀ : Stand p l e room_1 s m #[Value.ref b] below meth c s₁ [] 0 0 := Stand.of_body B
    have hh0 : s₁.heap = s.heap := by rw [B.state]; rfl
    have hsz : scr.slots.size = xs.length := by rw [← Array.length_toList, hlist, List.length_map]
    have hval : ∀ j : Nat, j < xs.length → scr.slots[j]? = some (.int (xs.getD j 0)) := fun j hj => by
      rw [← Array.getElem?_toList, hlist]
      simp [hj]
    have hbl : b < s.heap.size := (Array.getElem?_eq_some_iff.mp hcb).1
    have hX : va_X b xs.length (fun j => xs.getD j 0) s s.heap := ⟨scr, hcb, hof, hkn, hsz, hval⟩
    have K : W p l e room_1 s m #[Value.ref b] below meth c s₁.heap [] 0 0 (lw_Z below #[Value.ref b] s) (entryFrame m ([Value.ref b] : List Value).toArray 7) := by
      rw [hh0]
      exact whole_start l hfl X₀.admits (name_of_methodNamed B.named B.method).1 hbd ⟨B.exec, B.bytes, B.returns, hml, hown, hts, hX, hbl, B.notSynchronized, hgv⟩
    obtain ⟨t, a1, o, b1, b2, b3⟩ := K s₁ rfl X₀
    exact ⟨t, o, a1, b1, b2, b3⟩
theorem lw_pre_spec {args : Array Value} {s : State} (h : (Jvm.Cond.and given_1 narrow_1).before args s = true) (hr : rest_1_c.before args s = true) : ∃ (b : Addr) (xs : List Int32), lw_P b xs args s := by
  have hs := flat_of_before _ h
  have hq := flat_of_before _ hr
  have hc : (Cond.count 1).before args s = true := hs _ (by decide +kernel)
  have harr : (Cond.arrayOf (.arg 0) .int).before args s = true := hs _ (by decide +kernel)
  have hle : (Cond.le (.length (.arg 0)) (.int 3072)).before args s = true := hs _ (by decide +kernel)
  have hlen : (Cond.isInt (.length (.arg 0))).before args s = true := hq _ (by decide +kernel)
  have hall : (Cond.all (.arg 0) (.isInt (.elem (.arg 0) (.index 0)))).before args s = true := hq _ (by decide +kernel)
  obtain ⟨b, xs, hb, hx⟩ := State.ints_of_pre rfl harr hlen hall
  have hsm : xs.length < 2 ^ 31 := hx.choose_spec.2.2.2
  have hev : (Term.length (.arg 0)).eval args s none [] s = some (.int xs.length.toInt32) := hx.length_eval hb
  have hv := Cond.le_ints hev (show (Term.int 3072).eval args s none [] s = some (.int 3072) from rfl)
  have hd : xs.length.toInt32 ≤ 3072 := by
    simpa [Cond.before, Cond.holds, hv] using hle
  have hN : xs.length ≤ 3072 := (Int32.ofNat_le_ofNat hsm (by decide)).mp (show Int32.ofNat xs.length ≤ Int32.ofNat 3072 from hd)
  exact ⟨b, xs, Cond.one_arg hc (show args[0]? = some (.ref b) from hb), hx, hN, h⟩
theorem lw_comes (l : Launch) (hfl : l.flags = flags0) : Comes l x (Jvm.Cond.code x code maxLocals ret :: tables_1) room_1 (fun tb e args s => Calls_1 tb e args s ∧ rest_1 tb e args s ∧ Pre_1 tb e args s)
    (fun _ _ args s o t => lw_Q args s o t) := by
  intro p e ha hc hk s m args below hf hfit hheap happ hpre
  obtain ⟨b, xs, hP⟩ := lw_pre_spec hpre.2.2 hpre.2.1
  obtain ⟨k, o, h1, h2, h3, hQ⟩ := lw_walk l hfl b xs p e ha hc hk s m args below hf ((Spec.applies_iff_loose hf).mp happ).1 hP trivial
  exact ⟨k, o, h1, h2, h3, hQ⟩
theorem lw_frame {s t : State} {o : Outcome} {args : Array Value} (h : Framed s o t [] 601024 7293034) :
    Framed s o t (fieldLocs frame_1_writes args s ++ arrayLocs frame_1_arrays args s ++ staticLocs frame_1_statics s) 601024 7293034 := h
theorem lw_limb (L : Cond) (hL : ∀ (args : Array Value) (s t : State), L.after args s (.returned (some (.int 1))) t = true) :
    ArmFor flags0 classFile x code maxLocals ret World_1 tables_1 room_1 Calls_1 rest_1 Pre_1
      (fun tb e a s o t => postC L tb e a s o t ∧ Framed s o t (fieldLocs frame_1_writes a s ++ arrayLocs frame_1_arrays a s ++ staticLocs frame_1_statics s) 601024 7293034) := by
  intro l hfl _ _ p e ha hc hk s m args below hf hfit hheap happ hpre
  obtain ⟨k, o, h1, h2, h3, rfl, hF⟩ := lw_comes l hfl p e ha hc hk s m args below hf hfit hheap happ hpre
  exact ⟨k, _, h1, h2, h3, hL args s _, lw_frame hF⟩
theorem i_vc : Claimed_1_1 ∧ Claimed_1_2 := ⟨lw_limb limb_1_1 (fun args s t => by simp [limb_1_1, Cond.after, Cond.holds, Cond.value]), lw_limb limb_1_2 (fun args s t => Cond.after_iff.mpr (by
  first | (rw [show limb_1_2 = Cond.eq .result (.int 1) from rfl, Cond.eq_ints (x := 1) (y := 1) rfl rfl]; simp; done) | (simp [limb_1_2, Cond.value, Term.eval]; done)))⟩
