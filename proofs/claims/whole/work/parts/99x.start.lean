/-! From the law's entry: the machine, the tables, the arrays that were there. -/
def fN1 (j : Nat) : Int32 := if j = 0 then 0 else if j = 1 then 5 else 11
def fN2 (j : Nat) : Int32 := match j with
  | 0 => -1431655766
  | 1 => -858993460
  | 2 => -252645136
  | 3 => -16711936
  | _ => -65536
theorem fN2_bit : ∀ k, k < 5 → ∀ i, i < 32 → bt (fN2 k) i = i.testBit k := by
  have h : ∀ k : Fin 5, ∀ i : Fin 32, bt (fN2 k.1) i.1 = i.1.testBit k.1 := by decide +kernel
  exact fun k hk i hi => h ⟨k, hk⟩ ⟨i, hi⟩
/-- an array of ints that was there -/
def xArr (cA : ClassId) (t n : Nat) (f : Nat → Int32) (H : Heap) : Prop := ∃ cell : Cell, H[t]? = some cell ∧ (∀ k, cell.vm ≠ .statics k) ∧ cell.vm ≠ .unknown ∧ n ≤ cell.slots.size ∧ cell.slots.size.toInt32 = Int32.ofNat n ∧ (∀ j : Nat, j < n → cell.slots[j]? = some (.int (f j))) ∧ cell.cls = cA
/-- its class's kind -/
def xIk (U : State) (cA : ClassId) : Prop := ∃ k, U.vm.classes[cA]? = some k ∧ ∃ comp, k.kind = .array comp .int
theorem ws_ints {s : State} {tm : Term} {ar : Array Value} {N : Nat} {f : Nat → Int32} (hN : N < 2 ^ 31) (h1 : (Cond.arrayOf tm .int).before ar s = true) (h2 : (Term.length tm).eval ar s none [] s = some (.int (Int32.ofNat N))) (h3 : ∀ j : Nat, j < N → (Term.elem tm (.int (Int32.ofNat j))).eval ar s none [] s = some (.int (f j))) : ∃ (t : Nat) (cA : ClassId), tm.eval ar s none [] s = some (.ref t) ∧ xArr cA t N f s.heap ∧ xIk s cA := by
  obtain ⟨t, ht, cell, a1, a2, a3, a4, a5, a6, -⟩ := va_Tof (f := fun j => .int (f j)) (A := fun _ => False) hN h1 h2 h3 (fun _ _ h => h)
  exact ⟨t, cell.cls, ht, ⟨cell, a1, a2.1, a3, a4, a5, a6, rfl⟩, a2.2⟩
theorem ws_apart {c1 c2 : ClassId} {t t' n n' : Nat} {f f' : Nat → Int32} {H : Heap} (h : xArr c1 t n f H) (h' : xArr c2 t' n' f' H) (hn : n < 4294967296) (hn' : n' < 4294967296) (hne : n ≠ n') : t ≠ t' := by
  rintro rfl
  obtain ⟨cell, a1, -, -, -, a5, -⟩ := h
  obtain ⟨cell', b1, -, -, -, b5, -⟩ := h'
  cases a1.symm.trans b1
  exact hne (n_inj hn hn' (a5.symm.trans b5))
theorem ws_G {s : State} {ar : Array Value} (hts : ∀ w ∈ lw_tbl, w.before ar s = true) {a b c : ClassId} (ha : xIk s a) (hb : xIk s b) (hc : xIk s c) : ∃ G : xG, xK G s ∧ G.2 100 = a ∧ G.2 101 = b ∧ G.2 102 = c := by
  have hw : ∀ w ∈ xws, w.before ar s = true := fun w h => hts w (List.mem_filter.mp h).1
  have hin : ∀ (k : Nat) (q : vw_C), vwCl[k]? = some q → Cond.instantiable q.1 q.2.2 ∈ xws := by
    intro k q h
    match k, h with
    | 0, h => cases h; exact it_Circuit
    | 1, h => cases h; exact it_Layers
    | 2, h => cases h; exact it_Likeness
    | 3, h => cases h; exact it_Overlay
    | 4, h => cases h; exact it_Player
    | 5, h => cases h; exact it_Reader
    | 6, h => cases h; exact it_Sorter
    | 7, h => cases h; exact it_Table
    | 8, h => cases h; exact it_Tape
    | 9, h => cases h; exact it_Walk
    | 10, h => cases h; exact it_Works
    | 11, h => cases h; exact it_Judge
    | 12, h => cases h; exact it_Model
    | k + 13, h => simp at h
  have hkn : ∀ k : Nat, ∃ (cC : ClassId) (iS : Nat → Nat), ∀ q, vwCl[k]? = some q → u_Kn s q.1 q.2.1 q.2.2 cC iS := by
    intro k
    cases hk : vwCl[k]? with
    | none => exact ⟨0, fun _ => 0, fun q hq => by cases hq⟩
    | some q =>
      obtain ⟨cC, iS, h⟩ := u_known (n := q.2.2) hw (xcl_ok k q hk).1 (hw _ (hin k q hk))
      exact ⟨cC, iS, fun q' hq => by cases hq; exact h⟩
  have harr : ∀ ty : FieldType, Cond.arrayClass ty ∈ xws → ∃ cA : ClassId, s.vm.findClass ("[" ++ ty.toString) = some cA ∧ ArrOfT s cA ty := by
    intro ty h
    obtain ⟨cA, kA, comp, h1, h2, h3⟩ := Cond.arrayClass_spec (hw _ h)
    exact ⟨cA, h1, fun N z => ⟨fun k h => (by cases h), kA, h2, comp, h3⟩⟩
  obtain ⟨c0, d0, e0⟩ := harr .int ac_int
  obtain ⟨c1, d1, e1⟩ := harr .byte ac_byte
  obtain ⟨c2, d2, e2⟩ := harr .boolean ac_boolean
  obtain ⟨c3, d3, e3⟩ := harr .long ac_long
  obtain ⟨c4, d4, e4⟩ := harr .char ac_char
  have hao : va_AO "TwinJudge$Circuit" s := va_AO.of (hts (.arrayOver (.object "TwinJudge$Circuit")) (by decide +kernel))
  obtain ⟨comp, c5, k5, f1, -, f3, f4, f5⟩ := Cond.arrayOver_spec hao
  refine ⟨((fun k => (hkn k).choose, fun k => (hkn k).choose_spec.choose), fun i => if i = 0 then c0 else if i = 1 then c1 else if i = 2 then c2 else if i = 3 then c3 else if i = 4 then c4 else if i = 5 then c5 else if i = 100 then a else if i = 101 then b else c), ⟨⟨fun k q hq => (hkn k).choose_spec.choose_spec q hq, fun k q hq => ?_⟩, fun w hw1 hn => ?_, hao, fun i h1 h2 => ?_⟩, rfl, rfl, rfl⟩
  · match k, hq with
    | 0, hq => cases hq; exact ⟨e0, d0⟩
    | 1, hq => cases hq; exact ⟨e1, d1⟩
    | 2, hq => cases hq; exact ⟨e2, d2⟩
    | 3, hq => cases hq; exact ⟨e3, d3⟩
    | 4, hq => cases hq; exact ⟨e4, d4⟩
    | 5, hq => cases hq; exact ⟨fun N z => ⟨fun k h => (by cases h), k5, f3, comp, f4⟩, k5, comp, f3, f4, f1, f5⟩
    | k + 6, hq => simp at hq
  · have h1 := hts w hw1
    unfold xnest at hn
    split at hn
    · exact va_Nw.of rfl h1
    · exact va_Nw.of rfl h1
    · cases hn
  · rcases (show i = 100 ∨ i = 101 ∨ i = 102 by omega) with rfl | rfl | rfl
    · exact ha
    · exact hb
    · exact hc
theorem ws_Th {s : State} {ar : Array Value} {G : xG} (hts : ∀ w ∈ lw_tbl, w.before ar s = true) (hgv : (Jvm.Cond.and given_1 narrow_1).before ar s = true) (hK : xK G s) : xTh (fun q : Nat => s.heap.size ≤ q) s s.heap := by
  have hs := flat_of_before _ hgv
  have hA : ∀ a : Nat, a < s.heap.size → ¬ (fun q : Nat => s.heap.size ≤ q) a := fun a h => Nat.not_le.mpr h
  have hst : ∀ (k : Nat) (tx : String), Cond.stringRef "TwinJudge" k tx ∈ lw_tbl → ∃ a, vk_R "TwinJudge" k tx a s := by
    intro k tx h
    have h1 := hts _ h
    obtain ⟨-, -, -, a, -, -, -, -, -, h2⟩ := Cond.stringRef_spec (hK.1.1 11 _ rfl).2.1 h1
    exact ⟨a, vk_R.of h1 h2⟩
  refine ⟨fun w hw hn => ?_, va_Nc.of (hs (.not (.castable "java/lang/IllegalArgumentException" "java/lang/IllegalStateException")) (by decide +kernel)), va_Zqof (hts (.laysStatic "java/lang/Throwable" "UNASSIGNED_STACK" "[Ljava/lang/StackTraceElement;") (by decide +kernel)) (hts (.initialized "java/lang/Throwable") (by decide +kernel)) (hs (.isRef (.static "java/lang/Throwable" "UNASSIGNED_STACK" "[Ljava/lang/StackTraceElement;")) (by decide +kernel)) hA, va_Zqof (hts (.laysStatic "java/lang/Throwable" "SUPPRESSED_SENTINEL" "Ljava/util/List;") (by decide +kernel)) (hts (.initialized "java/lang/Throwable") (by decide +kernel)) (hs (.isRef (.static "java/lang/Throwable" "SUPPRESSED_SENTINEL" "Ljava/util/List;")) (by decide +kernel)) hA, ⟨xLS.of (hts (.laysStatic "java/lang/Throwable" "UNASSIGNED_STACK" "[Ljava/lang/StackTraceElement;") (by decide +kernel)) hA, xLS.of (hts (.laysStatic "java/lang/Throwable" "SUPPRESSED_SENTINEL" "Ljava/util/List;") (by decide +kernel)) hA⟩, hst 66 _ (by decide +kernel), hst 195 _ (by decide +kernel), hst 198 _ (by decide +kernel)⟩
  have h1 := hts w hw
  unfold xthw at hn
  split at hn
  · exact va_Nw.of rfl h1
  · exact va_Nw.of rfl h1
  · cases hn
/-- the law's start, as heaps are told: any script -/
theorem ws_pure {z : Nat → Nat} {n : Nat} {sc : Nat → Int32} {nm0 : Nat → Nat} (hn : n ≤ 3072) (hI : 6 ≤ n → gI (lv0 true) nm0) (hz : z 0 = nm0 81 ∧ z 1 = nm0 82) : wp_Law_law z 601024 7293034 (fun v _ => v = 1) (nm0 80) (gm (lv0 (Nat.ble 6 n)) (ob0 n sc fN1 fN2) nm0 (fun _ => none)) := by
  by_cases h6 : 6 ≤ n
  · rw [show Nat.ble 6 n = true from Nat.ble_eq.mpr h6]
    refine v_init (hI h6) (by decide) (by decide) (fun lv obj nm hI hlv hu hnm hob hk => ?_)
    have hlv2 : ∀ k, li false k = lv k := fun k => by
      by_cases e1 : k = 81
      · rw [e1, hu.1]; rfl
      · by_cases e2 : k = 82
        · rw [e2, hu.2]; rfl
        · exact (hlv k e1 e2).symm
    have hI2 : gI (li false) nm := fun i j a1 a2 a3 => hI i j (by rw [← hlv2]; exact a1) (by rw [← hlv2]; exact a2) a3
    obtain ⟨M, hM⟩ := env_M (fun k hh => li_lt hh) hI2
    have he : gm lv obj nm (fun _ => none) = mem ⟨(fun k => bif li false k then nm k else M + k, n), hM⟩ false (F00 sc fN1 fN2) (fun _ _ => 0) (fun _ => none) := by
      rw [mem_gm]
      refine gm_eq (fun k => k) hI (ad_gI (lv := li false)) (fun _ => rfl) hlv2 (fun k hh => ?_) (fun k hh => ?_)
      · show (bif li false k then nm k else M + k) = nm k
        rw [hh]; rfl
      · by_cases e1 : k = 81
        · subst e1; rw [hob.2.1]; rfl
        · by_cases e2 : k = 82
          · subst e2; rw [hob.2.2]; rfl
          · exact hk M hM k hh e1 e2
    rw [he]
    have hZ : Zs ⟨(fun k => bif li false k then nm k else M + k, n), hM⟩ z (F00 sc fN1 fN2) := ⟨hz.1.trans hnm.2.1.symm, hz.2.trans hnm.2.2.symm, ⟨rfl, rfl, rfl⟩, fN2_bit⟩
    refine v_law (a := 89) (b := 182879) (D := fun _ => none) (sc := sc) ⟨hZ, fun c C hC => (by cases hC), fun c hc => ⟨fun _ => ?_, fun C hC => (by cases hC)⟩, fun c hc => ⟨fun _ => rfl, fun C hC => (by cases hC)⟩, ⟨fun _ => 0, fun c hc => ⟨rfl, rfl⟩⟩, ⟨0, by decide, rfl, rfl, fun i hi => absurd hi (Nat.not_lt_zero _)⟩, fun i hi => ⟨rfl, rfl⟩, ⟨rfl, rfl⟩, Or.inl rfl, Or.inl rfl, rfl⟩ hn h6 ⟨by decide, by decide⟩ (by decide) (by decide) (fun _ => rfl)
    rcases c_cases hc with rfl | rfl <;> rfl
  · rw [show Nat.ble 6 n = false by cases hb : Nat.ble 6 n; rfl; exact absurd (Nat.ble_eq.mp hb) h6]
    refine v_init (u := false) (fun i j a1 a2 _ => ?_) (by decide) (by decide) (fun lv obj nm hI hlv hu hnm hob hk => ?_)
    · have key : ∀ i, lv0 false i = true → i = 80 := fun i hh => by
        unfold lv0 at hh
        rw [Bool.and_false, Bool.or_false] at hh
        exact Nat.eq_of_beq_eq_true hh
      rw [key i a1, key j a2]
    · unfold wp_Law_law_23
      refine ⟨1, ?_⟩
      unfold xloop
      dsimp only
      unfold wp_Law_law_23_b
      have h80 : lv 80 = true := by rw [hlv 80 (by decide) (by decide)]; rfl
      refine ⟨n, ?_, ?_⟩
      · simp only [aN, gm_at hI h80, hob.1]
        rfl
      · rintro v1 rfl
        have hc : ∀ n : Fin 6, Int32.ofNat n.1 - 6 < 0 := by decide +kernel
        exact ⟨fun _ => rfl, fun hh => absurd (hc ⟨n, by omega⟩) hh⟩
