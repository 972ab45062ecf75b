set_option maxRecDepth 100000 in
def wp_Likeness_findLeader_76 (z : Nat → Nat) (Q : xh → Prop)  (a0 : Nat) (x1 : Int32) (x2 : Int32) (hp : xh) : Prop :=
  ∃ o1, fR hp a0 2 0 = some o1 ∧ (∃ h2, sI hp o1 0 x1 x2 = some h2 ∧ Q h2)
set_option maxRecDepth 100000 in
set_option maxHeartbeats 4000000 in
theorem t_Likeness_findLeader_76 {p : Program} {l : Launch} {e : Env} {s : State} {m : MethodId} {args : Array Value} {below : List Frame} {meth : Method} {c : Code} {G : xG} {z : Nat → Nat} {A : Nat → Prop} {Qw : State → Prop} {Q : xh → Prop} {a0 : Nat} {x1 : Int32} {x2 : Int32} {hp : xh} (X : xX p l e rm_Likeness_findLeader s m args below meth c G z A y_Likeness_findLeader b_Likeness_findLeader 5) (hret : xRet p l e rm_Likeness_findLeader s m args below meth c G A 5 Qw b_Likeness_findLeader none (xqv Q))  (hf : wp_Likeness_findLeader_76 z Q  a0 x1 x2 hp) : xE p l e rm_Likeness_findLeader s m args below meth c G A 5 Qw 0 0 hp 76 [(0, .ref a0), (1, .int x1), (2, .int x2)] [] := by
  unfold wp_Likeness_findLeader_76 at hf
  refine x_aload_n X (q := 0) d_Likeness_findLeader_76 rfl 77 rfl ?_
  refine x_getR X hf (ci := 2) (j := 0) rfl (by decide) rfl lf_Likeness_11 d_Likeness_findLeader_77 80 rfl (fun o1 hf => ?_)
  refine x_iload_n X (q := 1) d_Likeness_findLeader_80 rfl 81 rfl ?_
  refine x_iload_n X (q := 2) d_Likeness_findLeader_81 rfl 82 rfl ?_
  refine x_iast X hf d_Likeness_findLeader_82 83 rfl (fun h2 hf => ?_)
  exact hret _ _ _ _ _ none (Nat.le_refl 0) (Nat.le_refl 0) ⟨rfl, hf⟩ ⟨rfl, d_Likeness_findLeader_83⟩
set_option maxRecDepth 100000 in
def wp_Likeness_findLeader_62 (z : Nat → Nat) (Q : xh → Prop)  (a0 : Nat) (x1 : Int32) (x2 : Int32) (x3 : Int32) (hp : xh) : Prop :=
  (¬ x2 = (-1) → wp_Likeness_findLeader_76 z Q a0 x1 x2 hp) ∧ (x2 = (-1) → (∃ o1, fR hp a0 2 3 = some o1 ∧ (∃ h2, sI hp o1 0 x3 x1 = some h2 ∧ wp_Likeness_findLeader_76 z Q a0 x1 x1 h2)))
set_option maxRecDepth 100000 in
set_option maxHeartbeats 4000000 in
theorem t_Likeness_findLeader_62 {p : Program} {l : Launch} {e : Env} {s : State} {m : MethodId} {args : Array Value} {below : List Frame} {meth : Method} {c : Code} {G : xG} {z : Nat → Nat} {A : Nat → Prop} {Qw : State → Prop} {Q : xh → Prop} {a0 : Nat} {x1 : Int32} {x2 : Int32} {x3 : Int32} {hp : xh} (X : xX p l e rm_Likeness_findLeader s m args below meth c G z A y_Likeness_findLeader b_Likeness_findLeader 5) (hret : xRet p l e rm_Likeness_findLeader s m args below meth c G A 5 Qw b_Likeness_findLeader none (xqv Q))  (hf : wp_Likeness_findLeader_62 z Q  a0 x1 x2 x3 hp) : xE p l e rm_Likeness_findLeader s m args below meth c G A 5 Qw 0 0 hp 62 [(0, .ref a0), (1, .int x1), (2, .int x2), (3, .int x3)] [] := by
  unfold wp_Likeness_findLeader_62 at hf
  refine x_iload_n X (q := 2) d_Likeness_findLeader_62 rfl 63 rfl ?_
  refine x_iconst X (v := (-1)) d_Likeness_findLeader_63 (by decide) 64 rfl ?_
  refine x_icmp_ne X hf d_Likeness_findLeader_64 76 67 (by decide) rfl (fun hf => ?_) (fun hf => ?_)
  · exact x_sub [0, 1, 2] rfl (t_Likeness_findLeader_76 X hret hf)
  · refine x_aload_n X (q := 0) d_Likeness_findLeader_67 rfl 68 rfl ?_
    refine x_getR X hf (ci := 2) (j := 3) rfl (by decide) rfl lf_Likeness_21 d_Likeness_findLeader_68 71 rfl (fun o1 hf => ?_)
    refine x_iload_n X (q := 3) d_Likeness_findLeader_71 rfl 72 rfl ?_
    refine x_iload_n X (q := 1) d_Likeness_findLeader_72 rfl 73 rfl ?_
    refine x_iast X hf d_Likeness_findLeader_73 74 rfl (fun h2 hf => ?_)
    refine x_iload_n X (q := 1) d_Likeness_findLeader_74 rfl 75 rfl ?_
    refine x_istore_n X (lv' := [(2, .int x1), (0, .ref a0), (1, .int x1), (3, .int x3)]) d_Likeness_findLeader_75 rfl (by decide) rfl 76 rfl ?_
    exact x_sub [1, 2, 0] rfl (t_Likeness_findLeader_76 X hret hf)
set_option maxRecDepth 100000 in
def wp_Likeness_findLeader_19_b (z : Nat → Nat) (Q : xh → Prop)  (k19 : Nat × Int32 × Int32 × Int32 × Int32 × xh → Prop) (a0 : Nat) (x1 : Int32) (x2 : Int32) (x3 : Int32) (x4 : Int32) (hp : xh) : Prop :=
  (402 ≤ x4 → wp_Likeness_findLeader_62 z Q a0 x1 x2 x3 hp) ∧ (¬ 402 ≤ x4 → ((x2 = (-1) → wp_Likeness_findLeader_62 z Q a0 x1 x2 x3 hp) ∧ (¬ x2 = (-1) → (∃ o1, fR hp a0 2 2 = some o1 ∧ (∃ v2, aI hp o1 0 x2 = some v2 ∧ (∃ o3, fR hp a0 2 2 = some o3 ∧ (∃ v4, aI hp o3 0 x1 = some v4 ∧ ((v2 = v4 → wp_Likeness_findLeader_62 z Q a0 x1 x2 x3 hp) ∧ (¬ v2 = v4 → (∃ o5, fR hp a0 2 3 = some o5 ∧ (∃ v6, aI hp o5 0 x2 = some v6 ∧ (k19 (a0, x1, v6, x2, (x4 + 1), hp)))))))))))))
set_option maxRecDepth 100000 in
def wp_Likeness_findLeader_19 (z : Nat → Nat) (Q : xh → Prop)  (a0 : Nat) (x1 : Int32) (x2 : Int32) (x3 : Int32) (x4 : Int32) (hp : xh) : Prop := ∃ f : Nat, xloop (fun k19 a => wp_Likeness_findLeader_19_b z Q  k19 a.1 a.2.1 a.2.2.1 a.2.2.2.1 a.2.2.2.2.1 a.2.2.2.2.2) f (a0, x1, x2, x3, x4, hp)
set_option maxRecDepth 100000 in
set_option maxHeartbeats 4000000 in
theorem t_Likeness_findLeader_19 {p : Program} {l : Launch} {e : Env} {s : State} {m : MethodId} {args : Array Value} {below : List Frame} {meth : Method} {c : Code} {G : xG} {z : Nat → Nat} {A : Nat → Prop} {Qw : State → Prop} {Q : xh → Prop} {a0 : Nat} {x1 : Int32} {x2 : Int32} {x3 : Int32} {x4 : Int32} {hp : xh} (X : xX p l e rm_Likeness_findLeader s m args below meth c G z A y_Likeness_findLeader b_Likeness_findLeader 5) (hret : xRet p l e rm_Likeness_findLeader s m args below meth c G A 5 Qw b_Likeness_findLeader none (xqv Q))  (hf : wp_Likeness_findLeader_19 z Q  a0 x1 x2 x3 x4 hp) : xE p l e rm_Likeness_findLeader s m args below meth c G A 5 Qw 0 0 hp 19 [(0, .ref a0), (1, .int x1), (2, .int x2), (3, .int x3), (4, .int x4)] [] := by
  obtain ⟨f, hf⟩ := hf
  refine xloop_ind (F := fun k19 a => wp_Likeness_findLeader_19_b z Q  k19 a.1 a.2.1 a.2.2.1 a.2.2.2.1 a.2.2.2.2.1 a.2.2.2.2.2) (E := fun a => xE p l e rm_Likeness_findLeader s m args below meth c G A 5 Qw 0 0 a.2.2.2.2.2 19 [(0, .ref (a.1)), (1, .int (a.2.1)), (2, .int (a.2.2.1)), (3, .int (a.2.2.2.1)), (4, .int (a.2.2.2.2.1))] []) ?_ f (a0, x1, x2, x3, x4, hp) hf
  intro k19 hk a hf
  obtain ⟨a0, x1, x2, x3, x4, hp⟩ := a
  have hk19 : ∀ (a0 : Nat) (x1 : Int32) (x2 : Int32) (x3 : Int32) (x4 : Int32) (hp : xh), k19 (a0, x1, x2, x3, x4, hp) → xE p l e rm_Likeness_findLeader s m args below meth c G A 5 Qw 0 0 hp 19 [(0, .ref a0), (1, .int x1), (2, .int x2), (3, .int x3), (4, .int x4)] [] := fun a0 x1 x2 x3 x4 hp h => hk (a0, x1, x2, x3, x4, hp) h
  have hf : wp_Likeness_findLeader_19_b z Q  k19 a0 x1 x2 x3 x4 hp := hf
  unfold wp_Likeness_findLeader_19_b at hf
  refine x_iload X (q := 4) d_Likeness_findLeader_19 rfl 21 rfl ?_
  refine x_sipush X (v := 402) d_Likeness_findLeader_21 (by decide) 24 rfl ?_
  refine x_icmp_ge X hf d_Likeness_findLeader_24 62 27 (by decide) rfl (fun hf => ?_) (fun hf => ?_)
  · exact x_sub [0, 1, 2, 3] rfl (t_Likeness_findLeader_62 X hret hf)
  · refine x_iload_n X (q := 2) d_Likeness_findLeader_27 rfl 28 rfl ?_
    refine x_iconst X (v := (-1)) d_Likeness_findLeader_28 (by decide) 29 rfl ?_
    refine x_icmp_eq X hf d_Likeness_findLeader_29 62 32 (by decide) rfl (fun hf => ?_) (fun hf => ?_)
    · exact x_sub [0, 1, 2, 3] rfl (t_Likeness_findLeader_62 X hret hf)
    · refine x_aload_n X (q := 0) d_Likeness_findLeader_32 rfl 33 rfl ?_
      refine x_getR X hf (ci := 2) (j := 2) rfl (by decide) rfl lf_Likeness_18 d_Likeness_findLeader_33 36 rfl (fun o1 hf => ?_)
      refine x_iload_n X (q := 2) d_Likeness_findLeader_36 rfl 37 rfl ?_
      refine x_iald X hf d_Likeness_findLeader_37 38 rfl (fun v2 hf => ?_)
      refine x_aload_n X (q := 0) d_Likeness_findLeader_38 rfl 39 rfl ?_
      refine x_getR X hf (ci := 2) (j := 2) rfl (by decide) rfl lf_Likeness_18 d_Likeness_findLeader_39 42 rfl (fun o3 hf => ?_)
      refine x_iload_n X (q := 1) d_Likeness_findLeader_42 rfl 43 rfl ?_
      refine x_iald X hf d_Likeness_findLeader_43 44 rfl (fun v4 hf => ?_)
      refine x_icmp_eq X hf d_Likeness_findLeader_44 62 47 (by decide) rfl (fun hf => ?_) (fun hf => ?_)
      · exact x_sub [0, 1, 2, 3] rfl (t_Likeness_findLeader_62 X hret hf)
      · refine x_iload_n X (q := 2) d_Likeness_findLeader_47 rfl 48 rfl ?_
        refine x_istore_n X (lv' := [(3, .int x2), (0, .ref a0), (1, .int x1), (2, .int x2), (4, .int x4)]) d_Likeness_findLeader_48 rfl (by decide) rfl 49 rfl ?_
        refine x_aload_n X (q := 1) d_Likeness_findLeader_49 rfl 50 rfl ?_
        refine x_getR X hf (ci := 2) (j := 3) rfl (by decide) rfl lf_Likeness_21 d_Likeness_findLeader_50 53 rfl (fun o5 hf => ?_)
        refine x_iload_n X (q := 3) d_Likeness_findLeader_53 rfl 54 rfl ?_
        refine x_iald X hf d_Likeness_findLeader_54 55 rfl (fun v6 hf => ?_)
        refine x_istore_n X (lv' := [(2, .int v6), (3, .int x2), (0, .ref a0), (1, .int x1), (4, .int x4)]) d_Likeness_findLeader_55 rfl (by decide) rfl 56 rfl ?_
        refine x_iinc X (q := 4) (v := (x4 + 1)) (lv' := [(4, .int (x4 + 1)), (2, .int v6), (3, .int x2), (0, .ref a0), (1, .int x1)]) d_Likeness_findLeader_56 rfl (by rfl) (by decide) rfl 59 rfl ?_
        refine x_goto X d_Likeness_findLeader_59 19 (by decide) ?_
        exact x_sub [3, 4, 1, 2, 0] rfl (hk19 _ _ _ _ _ _ hf)
set_option maxRecDepth 100000 in
def wp_Likeness_findLeader (z : Nat → Nat) (Q : xh → Prop) (a0 : Nat) (x1 : Int32) (hp : xh) : Prop :=
  ∃ o1, fR hp a0 2 3 = some o1 ∧ (∃ h2, sI hp o1 0 x1 (-1) = some h2 ∧ (∃ o3, fR h2 a0 2 0 = some o3 ∧ (∃ v4, aI h2 o3 0 x1 = some v4 ∧ wp_Likeness_findLeader_19 z Q a0 x1 v4 v4 0 h2)))
set_option maxRecDepth 100000 in
set_option maxHeartbeats 4000000 in
theorem t_Likeness_findLeader {l : Launch} {G : xG} {z : Nat → Nat} {Q : xh → Prop} {a0 : Nat} {x1 : Int32} {hp : xh} (hf : wp_Likeness_findLeader z Q a0 x1 hp) : xM l G z y_Likeness_findLeader b_Likeness_findLeader 5 none rm_Likeness_findLeader [.ref a0, .int x1] hp (xqv Q) := by
  refine xM_of (by decide) (Nat.le_of_ble_eq_true rfl) (lv0 := [(0, .ref a0), (1, .int x1)]) rfl ?_
  intro p e s m args below meth c A Qw X hret
  unfold wp_Likeness_findLeader at hf
  refine x_aload_n X (q := 0) d_Likeness_findLeader_0 rfl 1 rfl ?_
  refine x_getR X hf (ci := 2) (j := 3) rfl (by decide) rfl lf_Likeness_21 d_Likeness_findLeader_1 4 rfl (fun o1 hf => ?_)
  refine x_iload_n X (q := 1) d_Likeness_findLeader_4 rfl 5 rfl ?_
  refine x_iconst X (v := (-1)) d_Likeness_findLeader_5 (by decide) 6 rfl ?_
  refine x_iast X hf d_Likeness_findLeader_6 7 rfl (fun h2 hf => ?_)
  refine x_aload_n X (q := 0) d_Likeness_findLeader_7 rfl 8 rfl ?_
  refine x_getR X hf (ci := 2) (j := 0) rfl (by decide) rfl lf_Likeness_11 d_Likeness_findLeader_8 11 rfl (fun o3 hf => ?_)
  refine x_iload_n X (q := 1) d_Likeness_findLeader_11 rfl 12 rfl ?_
  refine x_iald X hf d_Likeness_findLeader_12 13 rfl (fun v4 hf => ?_)
  refine x_istore_n X (lv' := [(2, .int v4), (0, .ref a0), (1, .int x1)]) d_Likeness_findLeader_13 rfl (by decide) rfl 14 rfl ?_
  refine x_iload_n X (q := 0) d_Likeness_findLeader_14 rfl 15 rfl ?_
  refine x_istore_n X (lv' := [(3, .int v4), (2, .int v4), (0, .ref a0), (1, .int x1)]) d_Likeness_findLeader_15 rfl (by decide) rfl 16 rfl ?_
  refine x_iconst X (v := 0) d_Likeness_findLeader_16 (by decide) 17 rfl ?_
  refine x_istore X (lv' := [(4, .int 0), (3, .int v4), (2, .int v4), (0, .ref a0), (1, .int x1)]) d_Likeness_findLeader_17 (by decide) rfl 19 rfl ?_
  exact x_sub [3, 4, 2, 1, 0] rfl (t_Likeness_findLeader_19 X hret hf)

set_option maxRecDepth 100000 in
def wp_Likeness_isSplitBy_93 (z : Nat → Nat) (Q : Int32 → xh → Prop) (k5 : Nat × Nat × Int32 × Int32 × Int32 × xh → Prop) (a0 : Nat) (a1 : Nat) (x2 : Int32) (x4 : Int32) (s0 : Int32) (hp : xh) : Prop :=
  k5 (a0, a1, x2, s0, (x4 + 1), hp)
set_option maxRecDepth 100000 in
set_option maxHeartbeats 4000000 in
theorem t_Likeness_isSplitBy_93 {p : Program} {l : Launch} {e : Env} {s : State} {m : MethodId} {args : Array Value} {below : List Frame} {meth : Method} {c : Code} {G : xG} {z : Nat → Nat} {A : Nat → Prop} {Qw : State → Prop} {Q : Int32 → xh → Prop} {k5 : Nat × Nat × Int32 × Int32 × Int32 × xh → Prop} {a0 : Nat} {a1 : Nat} {x2 : Int32} {x4 : Int32} {s0 : Int32} {hp : xh} (X : xX p l e rm_Likeness_isSplitBy s m args below meth c G z A y_Likeness_isSplitBy b_Likeness_isSplitBy 7) (hret : xRet p l e rm_Likeness_isSplitBy s m args below meth c G A 7 Qw b_Likeness_isSplitBy (some .boolean) (xqz Q)) (hk5 : ∀ (a0 : Nat) (a1 : Nat) (x2 : Int32) (x3 : Int32) (x4 : Int32) (hp : xh), k5 (a0, a1, x2, x3, x4, hp) → xE p l e rm_Likeness_isSplitBy s m args below meth c G A 7 Qw 0 0 hp 5 [(0, .ref a0), (1, .ref a1), (2, .int x2), (3, .int x3), (4, .int x4)] []) (hf : wp_Likeness_isSplitBy_93 z Q k5 a0 a1 x2 x4 s0 hp) : xE p l e rm_Likeness_isSplitBy s m args below meth c G A 7 Qw 0 0 hp 93 [(0, .ref a0), (1, .ref a1), (2, .int x2), (4, .int x4)] [.int s0] := by
  unfold wp_Likeness_isSplitBy_93 at hf
  refine x_istore_n X (lv' := [(3, .int s0), (0, .ref a0), (1, .ref a1), (2, .int x2), (4, .int x4)]) d_Likeness_isSplitBy_93 rfl (by decide) rfl 94 rfl ?_
  refine x_iinc X (q := 4) (v := (x4 + 1)) (lv' := [(4, .int (x4 + 1)), (3, .int s0), (0, .ref a0), (1, .ref a1), (2, .int x2)]) d_Likeness_isSplitBy_94 rfl (by rfl) (by decide) rfl 97 rfl ?_
  refine x_goto X d_Likeness_isSplitBy_97 5 (by decide) ?_
  exact x_sub [2, 3, 4, 1, 0] rfl (hk5 _ _ _ _ _ _ hf)
set_option maxRecDepth 100000 in
def wp_Likeness_isSplitBy_88 (z : Nat → Nat) (Q : Int32 → xh → Prop) (k5 : Nat × Nat × Int32 × Int32 × Int32 × xh → Prop) (a0 : Nat) (a1 : Nat) (x2 : Int32) (x4 : Int32) (hp : xh) : Prop :=
  wp_Likeness_isSplitBy_93 z Q k5 a0 a1 x2 x4 1 hp
set_option maxRecDepth 100000 in
set_option maxHeartbeats 4000000 in
theorem t_Likeness_isSplitBy_88 {p : Program} {l : Launch} {e : Env} {s : State} {m : MethodId} {args : Array Value} {below : List Frame} {meth : Method} {c : Code} {G : xG} {z : Nat → Nat} {A : Nat → Prop} {Qw : State → Prop} {Q : Int32 → xh → Prop} {k5 : Nat × Nat × Int32 × Int32 × Int32 × xh → Prop} {a0 : Nat} {a1 : Nat} {x2 : Int32} {x4 : Int32} {hp : xh} (X : xX p l e rm_Likeness_isSplitBy s m args below meth c G z A y_Likeness_isSplitBy b_Likeness_isSplitBy 7) (hret : xRet p l e rm_Likeness_isSplitBy s m args below meth c G A 7 Qw b_Likeness_isSplitBy (some .boolean) (xqz Q)) (hk5 : ∀ (a0 : Nat) (a1 : Nat) (x2 : Int32) (x3 : Int32) (x4 : Int32) (hp : xh), k5 (a0, a1, x2, x3, x4, hp) → xE p l e rm_Likeness_isSplitBy s m args below meth c G A 7 Qw 0 0 hp 5 [(0, .ref a0), (1, .ref a1), (2, .int x2), (3, .int x3), (4, .int x4)] []) (hf : wp_Likeness_isSplitBy_88 z Q k5 a0 a1 x2 x4 hp) : xE p l e rm_Likeness_isSplitBy s m args below meth c G A 7 Qw 0 0 hp 88 [(0, .ref a0), (1, .ref a1), (2, .int x2), (4, .int x4)] [] := by
  unfold wp_Likeness_isSplitBy_88 at hf
  refine x_iconst X (v := 1) d_Likeness_isSplitBy_88 (by decide) 89 rfl ?_
  refine x_goto X d_Likeness_isSplitBy_89 93 (by decide) ?_
  exact x_sub [0, 1, 2, 3] rfl (t_Likeness_isSplitBy_93 X hret hk5 hf)
set_option maxRecDepth 100000 in
def wp_Likeness_isSplitBy_5_b (z : Nat → Nat) (Q : Int32 → xh → Prop)  (k5 : Nat × Nat × Int32 × Int32 × Int32 × xh → Prop) (a0 : Nat) (a1 : Nat) (x2 : Int32) (x3 : Int32) (x4 : Int32) (hp : xh) : Prop :=
  ∃ v1, fI hp a0 2 6 = some v1 ∧ ((v1 ≤ x4 → (xbl x3 ∧ Q x3 hp)) ∧ (¬ v1 ≤ x4 → (∃ o2, fR hp a0 2 5 = some o2 ∧ (∃ v3, aI hp o2 0 x4 = some v3 ∧ (∃ o4, fR hp a0 2 0 = some o4 ∧ (∃ v5, aI hp o4 0 v3 = some v5 ∧ (∃ o6, fR hp a0 2 2 = some o6 ∧ (xcls hp a1 7 ∧ wp_Table_word z (fun v8 h7 => ∃ o9, fR h7 a0 2 1 = some o9 ∧ (∃ v10, aI h7 o9 0 v3 = some v10 ∧ (∃ h11, sI h7 o6 0 v3 (v8 ^^^ v10) = some h11 ∧ (xcls h11 a0 2 ∧ wp_Likeness_findLeader z (fun h12 => (¬ x3 = 0 → wp_Likeness_isSplitBy_88 z Q k5 a0 a1 x2 x4 h12) ∧ (x3 = 0 → (∃ o13, fR h12 a0 2 0 = some o13 ∧ (∃ v14, aI h12 o13 0 v3 = some v14 ∧ ((v14 = v5 → wp_Likeness_isSplitBy_93 z Q k5 a0 a1 x2 x4 0 h12) ∧ (¬ v14 = v5 → wp_Likeness_isSplitBy_88 z Q k5 a0 a1 x2 x4 h12)))))) a0 v3 h11)))) a1 x2 (v3 / 201) (2 * (v3 - v3 / 201 * 201)) hp))))))))
set_option maxRecDepth 100000 in
def wp_Likeness_isSplitBy_5 (z : Nat → Nat) (Q : Int32 → xh → Prop)  (a0 : Nat) (a1 : Nat) (x2 : Int32) (x3 : Int32) (x4 : Int32) (hp : xh) : Prop := ∃ f : Nat, xloop (fun k5 a => wp_Likeness_isSplitBy_5_b z Q  k5 a.1 a.2.1 a.2.2.1 a.2.2.2.1 a.2.2.2.2.1 a.2.2.2.2.2) f (a0, a1, x2, x3, x4, hp)
set_option maxRecDepth 100000 in
set_option maxHeartbeats 4000000 in
theorem t_Likeness_isSplitBy_5 {p : Program} {l : Launch} {e : Env} {s : State} {m : MethodId} {args : Array Value} {below : List Frame} {meth : Method} {c : Code} {G : xG} {z : Nat → Nat} {A : Nat → Prop} {Qw : State → Prop} {Q : Int32 → xh → Prop} {a0 : Nat} {a1 : Nat} {x2 : Int32} {x3 : Int32} {x4 : Int32} {hp : xh} (X : xX p l e rm_Likeness_isSplitBy s m args below meth c G z A y_Likeness_isSplitBy b_Likeness_isSplitBy 7) (hret : xRet p l e rm_Likeness_isSplitBy s m args below meth c G A 7 Qw b_Likeness_isSplitBy (some .boolean) (xqz Q))  (hf : wp_Likeness_isSplitBy_5 z Q  a0 a1 x2 x3 x4 hp) : xE p l e rm_Likeness_isSplitBy s m args below meth c G A 7 Qw 0 0 hp 5 [(0, .ref a0), (1, .ref a1), (2, .int x2), (3, .int x3), (4, .int x4)] [] := by
  obtain ⟨f, hf⟩ := hf
  refine xloop_ind (F := fun k5 a => wp_Likeness_isSplitBy_5_b z Q  k5 a.1 a.2.1 a.2.2.1 a.2.2.2.1 a.2.2.2.2.1 a.2.2.2.2.2) (E := fun a => xE p l e rm_Likeness_isSplitBy s m args below meth c G A 7 Qw 0 0 a.2.2.2.2.2 5 [(0, .ref (a.1)), (1, .ref (a.2.1)), (2, .int (a.2.2.1)), (3, .int (a.2.2.2.1)), (4, .int (a.2.2.2.2.1))] []) ?_ f (a0, a1, x2, x3, x4, hp) hf
  intro k5 hk a hf
  obtain ⟨a0, a1, x2, x3, x4, hp⟩ := a
  have hk5 : ∀ (a0 : Nat) (a1 : Nat) (x2 : Int32) (x3 : Int32) (x4 : Int32) (hp : xh), k5 (a0, a1, x2, x3, x4, hp) → xE p l e rm_Likeness_isSplitBy s m args below meth c G A 7 Qw 0 0 hp 5 [(0, .ref a0), (1, .ref a1), (2, .int x2), (3, .int x3), (4, .int x4)] [] := fun a0 a1 x2 x3 x4 hp h => hk (a0, a1, x2, x3, x4, hp) h
  have hf : wp_Likeness_isSplitBy_5_b z Q  k5 a0 a1 x2 x3 x4 hp := hf
  unfold wp_Likeness_isSplitBy_5_b at hf
  refine x_iload X (q := 4) d_Likeness_isSplitBy_5 rfl 7 rfl ?_
  refine x_aload_n X (q := 0) d_Likeness_isSplitBy_7 rfl 8 rfl ?_
  refine x_getI X hf (ci := 2) (j := 6) rfl (by decide) rfl lf_Likeness_30 d_Likeness_isSplitBy_8 11 rfl (fun v1 hf => ?_)
  refine x_icmp_ge X hf d_Likeness_isSplitBy_11 100 14 (by decide) rfl (fun hf => ?_) (fun hf => ?_)
  · refine x_iload_n X (q := 3) d_Likeness_isSplitBy_100 rfl 101 rfl ?_
    exact hret _ _ _ _ _ (some (.int x3)) (Nat.le_refl 0) (Nat.le_refl 0) ⟨_, rfl, hf.1, hf.2⟩ ⟨⟨_, rfl, xbl_nar hf.1⟩, d_Likeness_isSplitBy_101⟩
  · refine x_aload_n X (q := 0) d_Likeness_isSplitBy_14 rfl 15 rfl ?_
    refine x_getR X hf (ci := 2) (j := 5) rfl (by decide) rfl lf_Likeness_27 d_Likeness_isSplitBy_15 18 rfl (fun o2 hf => ?_)
    refine x_iload X (q := 4) d_Likeness_isSplitBy_18 rfl 20 rfl ?_
    refine x_iald X hf d_Likeness_isSplitBy_20 21 rfl (fun v3 hf => ?_)
    refine x_istore X (lv' := [(5, .int v3), (0, .ref a0), (1, .ref a1), (2, .int x2), (3, .int x3), (4, .int x4)]) d_Likeness_isSplitBy_21 (by decide) rfl 23 rfl ?_
    refine x_aload_n X (q := 1) d_Likeness_isSplitBy_23 rfl 24 rfl ?_
    refine x_getR X hf (ci := 2) (j := 0) rfl (by decide) rfl lf_Likeness_11 d_Likeness_isSplitBy_24 27 rfl (fun o4 hf => ?_)
    refine x_iload X (q := 0) d_Likeness_isSplitBy_27 rfl 29 rfl ?_
    refine x_iald X hf d_Likeness_isSplitBy_29 30 rfl (fun v5 hf => ?_)
    refine x_istore X (lv' := [(6, .int v5), (5, .int v3), (0, .ref a0), (1, .ref a1), (2, .int x2), (3, .int x3), (4, .int x4)]) d_Likeness_isSplitBy_30 (by decide) rfl 32 rfl ?_
    refine x_aload_n X (q := 2) d_Likeness_isSplitBy_32 rfl 33 rfl ?_
    refine x_getR X hf (ci := 2) (j := 2) rfl (by decide) rfl lf_Likeness_18 d_Likeness_isSplitBy_33 36 rfl (fun o6 hf => ?_)
    refine x_iload X (q := 1) d_Likeness_isSplitBy_36 rfl 38 rfl ?_
    refine x_aload_n X (q := 3) d_Likeness_isSplitBy_38 rfl 39 rfl ?_
    refine x_iload_n X (q := 4) d_Likeness_isSplitBy_39 rfl 40 rfl ?_
    refine x_iload X (q := 1) d_Likeness_isSplitBy_40 rfl 42 rfl ?_
    refine x_sipush X (v := 201) d_Likeness_isSplitBy_42 (by decide) 45 rfl ?_
    refine x_idiv X (by decide) d_Likeness_isSplitBy_45 46 rfl ?_
    refine x_iconst X (v := 2) d_Likeness_isSplitBy_46 (by decide) 47 rfl ?_
    refine x_iload X (q := 1) d_Likeness_isSplitBy_47 rfl 49 rfl ?_
    refine x_sipush X (v := 201) d_Likeness_isSplitBy_49 (by decide) 52 rfl ?_
    refine x_irem X (by decide) d_Likeness_isSplitBy_52 53 rfl ?_
    refine x_imul X d_Likeness_isSplitBy_53 54 rfl ?_
    refine x_callV0i X (t_Table_word hf.2) hf.1 (ci := 7) rfl rfl lm_Likeness_40 im_Table_word sl_Table_word cd_Table_word in_Table ds_Table_word rfl rfl (Nat.le_of_ble_eq_true rfl) (Nat.le_of_ble_eq_true rfl) (Nat.le_of_ble_eq_true rfl) rfl rfl (Nat.le_refl 0) (Nat.le_refl 0) d_Likeness_isSplitBy_54 57 rfl (fun v8 h7 hf => ?_)
    refine x_aload_n X (q := 2) d_Likeness_isSplitBy_57 rfl 58 rfl ?_
    refine x_getR X hf (ci := 2) (j := 1) rfl (by decide) rfl lf_Likeness_15 d_Likeness_isSplitBy_58 61 rfl (fun o9 hf => ?_)
    refine x_iload X (q := 1) d_Likeness_isSplitBy_61 rfl 63 rfl ?_
    refine x_iald X hf d_Likeness_isSplitBy_63 64 rfl (fun v10 hf => ?_)
    refine x_ixor X d_Likeness_isSplitBy_64 65 rfl ?_
    refine x_iast X hf d_Likeness_isSplitBy_65 66 rfl (fun h11 hf => ?_)
    refine x_aload_n X (q := 2) d_Likeness_isSplitBy_66 rfl 67 rfl ?_
    refine x_iload X (q := 1) d_Likeness_isSplitBy_67 rfl 69 rfl ?_
    refine x_callV0v X (t_Likeness_findLeader hf.2) hf.1 (ci := 2) rfl rfl lm_Likeness_61 im_Likeness_findLeader sl_Likeness_findLeader cd_Likeness_findLeader in_Likeness ds_Likeness_findLeader rfl rfl (Nat.le_of_ble_eq_true rfl) (Nat.le_of_ble_eq_true rfl) (Nat.le_of_ble_eq_true rfl) rfl rfl (Nat.le_refl 0) (Nat.le_refl 0) d_Likeness_isSplitBy_69 72 rfl (fun h12 hf => ?_)
    refine x_iload_n X (q := 5) d_Likeness_isSplitBy_72 rfl 73 rfl ?_
    refine x_if_ne X hf d_Likeness_isSplitBy_73 88 76 (by decide) rfl (fun hf => ?_) (fun hf => ?_)
    · exact x_sub [2, 3, 4, 6] rfl (t_Likeness_isSplitBy_88 X hret hk5 hf)
    · refine x_aload_n X (q := 2) d_Likeness_isSplitBy_76 rfl 77 rfl ?_
      refine x_getR X hf (ci := 2) (j := 0) rfl (by decide) rfl lf_Likeness_11 d_Likeness_isSplitBy_77 80 rfl (fun o13 hf => ?_)
      refine x_iload X (q := 1) d_Likeness_isSplitBy_80 rfl 82 rfl ?_
      refine x_iald X hf d_Likeness_isSplitBy_82 83 rfl (fun v14 hf => ?_)
      refine x_iload X (q := 0) d_Likeness_isSplitBy_83 rfl 85 rfl ?_
      refine x_icmp_eq X hf d_Likeness_isSplitBy_85 92 88 (by decide) rfl (fun hf => ?_) (fun hf => ?_)
      · refine x_iconst X (v := 0) d_Likeness_isSplitBy_92 (by decide) 93 rfl ?_
        exact x_sub [2, 3, 4, 6] rfl (t_Likeness_isSplitBy_93 X hret hk5 hf)
      · exact x_sub [2, 3, 4, 6] rfl (t_Likeness_isSplitBy_88 X hret hk5 hf)
set_option maxRecDepth 100000 in
def wp_Likeness_isSplitBy (z : Nat → Nat) (Q : Int32 → xh → Prop) (a0 : Nat) (a1 : Nat) (x2 : Int32) (hp : xh) : Prop :=
  wp_Likeness_isSplitBy_5 z Q a0 a1 x2 0 0 hp
set_option maxRecDepth 100000 in
set_option maxHeartbeats 4000000 in
theorem t_Likeness_isSplitBy {l : Launch} {G : xG} {z : Nat → Nat} {Q : Int32 → xh → Prop} {a0 : Nat} {a1 : Nat} {x2 : Int32} {hp : xh} (hf : wp_Likeness_isSplitBy z Q a0 a1 x2 hp) : xM l G z y_Likeness_isSplitBy b_Likeness_isSplitBy 7 (some .boolean) rm_Likeness_isSplitBy [.ref a0, .ref a1, .int x2] hp (xqz Q) := by
  refine xM_of (by decide) (Nat.le_of_ble_eq_true rfl) (lv0 := [(0, .ref a0), (1, .ref a1), (2, .int x2)]) rfl ?_
  intro p e s m args below meth c A Qw X hret
  unfold wp_Likeness_isSplitBy at hf
  refine x_iconst X (v := 0) d_Likeness_isSplitBy_0 (by decide) 1 rfl ?_
  refine x_istore_n X (lv' := [(3, .int 0), (0, .ref a0), (1, .ref a1), (2, .int x2)]) d_Likeness_isSplitBy_1 rfl (by decide) rfl 2 rfl ?_
  refine x_iconst X (v := 0) d_Likeness_isSplitBy_2 (by decide) 3 rfl ?_
  refine x_istore X (lv' := [(4, .int 0), (3, .int 0), (0, .ref a0), (1, .ref a1), (2, .int x2)]) d_Likeness_isSplitBy_3 (by decide) rfl 5 rfl ?_
  exact x_sub [2, 3, 4, 1, 0] rfl (t_Likeness_isSplitBy_5 X hret hf)

set_option maxRecDepth 100000 in
def wp_Likeness_leaveLone_91 (z : Nat → Nat) (Q : xh → Prop) (k48 : Nat × Int32 × Int32 × xh → Prop) (a0 : Nat) (x1 : Int32) (x2 : Int32) (hp : xh) : Prop :=
  k48 (a0, x1, (x2 + 1), hp)
set_option maxRecDepth 100000 in
set_option maxHeartbeats 4000000 in
theorem t_Likeness_leaveLone_91 {p : Program} {l : Launch} {e : Env} {s : State} {m : MethodId} {args : Array Value} {below : List Frame} {meth : Method} {c : Code} {G : xG} {z : Nat → Nat} {A : Nat → Prop} {Qw : State → Prop} {Q : xh → Prop} {k48 : Nat × Int32 × Int32 × xh → Prop} {a0 : Nat} {x1 : Int32} {x2 : Int32} {hp : xh} (X : xX p l e rm_Likeness_leaveLone s m args below meth c G z A y_Likeness_leaveLone b_Likeness_leaveLone 3) (hret : xRet p l e rm_Likeness_leaveLone s m args below meth c G A 3 Qw b_Likeness_leaveLone none (xqv Q)) (hk48 : ∀ (a0 : Nat) (x1 : Int32) (x2 : Int32) (hp : xh), k48 (a0, x1, x2, hp) → xE p l e rm_Likeness_leaveLone s m args below meth c G A 3 Qw 0 0 hp 48 [(0, .ref a0), (1, .int x1), (2, .int x2)] []) (hf : wp_Likeness_leaveLone_91 z Q k48 a0 x1 x2 hp) : xE p l e rm_Likeness_leaveLone s m args below meth c G A 3 Qw 0 0 hp 91 [(0, .ref a0), (1, .int x1), (2, .int x2)] [] := by
  unfold wp_Likeness_leaveLone_91 at hf
  refine x_iinc X (q := 2) (v := (x2 + 1)) (lv' := [(2, .int (x2 + 1)), (0, .ref a0), (1, .int x1)]) d_Likeness_leaveLone_91 rfl (by rfl) (by decide) rfl 94 rfl ?_
  refine x_goto X d_Likeness_leaveLone_94 48 (by decide) ?_
  exact x_sub [1, 2, 0] rfl (hk48 _ _ _ _ hf)
set_option maxRecDepth 100000 in
def wp_Likeness_leaveLone_48_b (z : Nat → Nat) (Q : xh → Prop)  (k48 : Nat × Int32 × Int32 × xh → Prop) (a0 : Nat) (x1 : Int32) (x2 : Int32) (hp : xh) : Prop :=
  ∃ v1, fI hp a0 2 6 = some v1 ∧ ((v1 ≤ x2 → (∃ h2, pV hp a0 2 6 (.int x1) = some h2 ∧ Q h2)) ∧ (¬ v1 ≤ x2 → (∃ o3, fR hp a0 2 4 = some o3 ∧ (∃ o4, fR hp a0 2 0 = some o4 ∧ (∃ o5, fR hp a0 2 5 = some o5 ∧ (∃ v6, aI hp o5 0 x2 = some v6 ∧ (∃ v7, aI hp o4 0 v6 = some v7 ∧ (∃ v8, aI hp o3 0 v7 = some v8 ∧ ((v8 ≤ 1 → wp_Likeness_leaveLone_91 z Q k48 a0 x1 x2 hp) ∧ (¬ v8 ≤ 1 → (∃ o9, fR hp a0 2 5 = some o9 ∧ (∃ o10, fR hp a0 2 5 = some o10 ∧ (∃ v11, aI hp o10 0 x2 = some v11 ∧ (∃ h12, sI hp o9 0 x1 v11 = some h12 ∧ (wp_Likeness_leaveLone_91 z Q k48 a0 (x1 + 1) x2 h12)))))))))))))))
set_option maxRecDepth 100000 in
def wp_Likeness_leaveLone_48 (z : Nat → Nat) (Q : xh → Prop)  (a0 : Nat) (x1 : Int32) (x2 : Int32) (hp : xh) : Prop := ∃ f : Nat, xloop (fun k48 a => wp_Likeness_leaveLone_48_b z Q  k48 a.1 a.2.1 a.2.2.1 a.2.2.2) f (a0, x1, x2, hp)
set_option maxRecDepth 100000 in
set_option maxHeartbeats 4000000 in
theorem t_Likeness_leaveLone_48 {p : Program} {l : Launch} {e : Env} {s : State} {m : MethodId} {args : Array Value} {below : List Frame} {meth : Method} {c : Code} {G : xG} {z : Nat → Nat} {A : Nat → Prop} {Qw : State → Prop} {Q : xh → Prop} {a0 : Nat} {x1 : Int32} {x2 : Int32} {hp : xh} (X : xX p l e rm_Likeness_leaveLone s m args below meth c G z A y_Likeness_leaveLone b_Likeness_leaveLone 3) (hret : xRet p l e rm_Likeness_leaveLone s m args below meth c G A 3 Qw b_Likeness_leaveLone none (xqv Q))  (hf : wp_Likeness_leaveLone_48 z Q  a0 x1 x2 hp) : xE p l e rm_Likeness_leaveLone s m args below meth c G A 3 Qw 0 0 hp 48 [(0, .ref a0), (1, .int x1), (2, .int x2)] [] := by
  obtain ⟨f, hf⟩ := hf
  refine xloop_ind (F := fun k48 a => wp_Likeness_leaveLone_48_b z Q  k48 a.1 a.2.1 a.2.2.1 a.2.2.2) (E := fun a => xE p l e rm_Likeness_leaveLone s m args below meth c G A 3 Qw 0 0 a.2.2.2 48 [(0, .ref (a.1)), (1, .int (a.2.1)), (2, .int (a.2.2.1))] []) ?_ f (a0, x1, x2, hp) hf
  intro k48 hk a hf
  obtain ⟨a0, x1, x2, hp⟩ := a
  have hk48 : ∀ (a0 : Nat) (x1 : Int32) (x2 : Int32) (hp : xh), k48 (a0, x1, x2, hp) → xE p l e rm_Likeness_leaveLone s m args below meth c G A 3 Qw 0 0 hp 48 [(0, .ref a0), (1, .int x1), (2, .int x2)] [] := fun a0 x1 x2 hp h => hk (a0, x1, x2, hp) h
  have hf : wp_Likeness_leaveLone_48_b z Q  k48 a0 x1 x2 hp := hf
  unfold wp_Likeness_leaveLone_48_b at hf
  refine x_iload_n X (q := 2) d_Likeness_leaveLone_48 rfl 49 rfl ?_
  refine x_aload_n X (q := 0) d_Likeness_leaveLone_49 rfl 50 rfl ?_
  refine x_getI X hf (ci := 2) (j := 6) rfl (by decide) rfl lf_Likeness_30 d_Likeness_leaveLone_50 53 rfl (fun v1 hf => ?_)
  refine x_icmp_ge X hf d_Likeness_leaveLone_53 97 56 (by decide) rfl (fun hf => ?_) (fun hf => ?_)
  · refine x_aload_n X (q := 0) d_Likeness_leaveLone_97 rfl 98 rfl ?_
    refine x_iload_n X (q := 1) d_Likeness_leaveLone_98 rfl 99 rfl ?_
    refine x_put X hf (ci := 2) (j := 6) (ty := .int) rfl (by decide) rfl lf_Likeness_30 rfl (by decide +kernel) rfl rfl d_Likeness_leaveLone_99 102 rfl (fun h2 hf => ?_)
    exact hret _ _ _ _ _ none (Nat.le_refl 0) (Nat.le_refl 0) ⟨rfl, hf⟩ ⟨rfl, d_Likeness_leaveLone_102⟩
  · refine x_aload_n X (q := 0) d_Likeness_leaveLone_56 rfl 57 rfl ?_
    refine x_getR X hf (ci := 2) (j := 4) rfl (by decide) rfl lf_Likeness_24 d_Likeness_leaveLone_57 60 rfl (fun o3 hf => ?_)
    refine x_aload_n X (q := 0) d_Likeness_leaveLone_60 rfl 61 rfl ?_
    refine x_getR X hf (ci := 2) (j := 0) rfl (by decide) rfl lf_Likeness_11 d_Likeness_leaveLone_61 64 rfl (fun o4 hf => ?_)
    refine x_aload_n X (q := 0) d_Likeness_leaveLone_64 rfl 65 rfl ?_
    refine x_getR X hf (ci := 2) (j := 5) rfl (by decide) rfl lf_Likeness_27 d_Likeness_leaveLone_65 68 rfl (fun o5 hf => ?_)
    refine x_iload_n X (q := 2) d_Likeness_leaveLone_68 rfl 69 rfl ?_
    refine x_iald X hf d_Likeness_leaveLone_69 70 rfl (fun v6 hf => ?_)
    refine x_iald X hf d_Likeness_leaveLone_70 71 rfl (fun v7 hf => ?_)
    refine x_iald X hf d_Likeness_leaveLone_71 72 rfl (fun v8 hf => ?_)
    refine x_iconst X (v := 1) d_Likeness_leaveLone_72 (by decide) 73 rfl ?_
    refine x_icmp_le X hf d_Likeness_leaveLone_73 91 76 (by decide) rfl (fun hf => ?_) (fun hf => ?_)
    · exact x_sub [0, 1, 2] rfl (t_Likeness_leaveLone_91 X hret hk48 hf)
    · refine x_aload_n X (q := 0) d_Likeness_leaveLone_76 rfl 77 rfl ?_
      refine x_getR X hf (ci := 2) (j := 5) rfl (by decide) rfl lf_Likeness_27 d_Likeness_leaveLone_77 80 rfl (fun o9 hf => ?_)
      refine x_iload_n X (q := 1) d_Likeness_leaveLone_80 rfl 81 rfl ?_
      refine x_aload_n X (q := 0) d_Likeness_leaveLone_81 rfl 82 rfl ?_
      refine x_getR X hf (ci := 2) (j := 5) rfl (by decide) rfl lf_Likeness_27 d_Likeness_leaveLone_82 85 rfl (fun o10 hf => ?_)
      refine x_iload_n X (q := 2) d_Likeness_leaveLone_85 rfl 86 rfl ?_
      refine x_iald X hf d_Likeness_leaveLone_86 87 rfl (fun v11 hf => ?_)
      refine x_iast X hf d_Likeness_leaveLone_87 88 rfl (fun h12 hf => ?_)
      refine x_iinc X (q := 1) (v := (x1 + 1)) (lv' := [(1, .int (x1 + 1)), (0, .ref a0), (2, .int x2)]) d_Likeness_leaveLone_88 rfl (by rfl) (by decide) rfl 91 rfl ?_
      exact x_sub [1, 0, 2] rfl (t_Likeness_leaveLone_91 X hret hk48 hf)
set_option maxRecDepth 100000 in
def wp_Likeness_leaveLone_10_b (z : Nat → Nat) (Q : xh → Prop)  (k10 : Nat × Int32 × xh → Prop) (a0 : Nat) (x1 : Int32) (hp : xh) : Prop :=
  ∃ v1, fI hp a0 2 6 = some v1 ∧ ((v1 ≤ x1 → wp_Likeness_leaveLone_48 z Q a0 0 0 hp) ∧ (¬ v1 ≤ x1 → (∃ o2, fR hp a0 2 4 = some o2 ∧ (∃ o3, fR hp a0 2 0 = some o3 ∧ (∃ o4, fR hp a0 2 5 = some o4 ∧ (∃ v5, aI hp o4 0 x1 = some v5 ∧ (∃ v6, aI hp o3 0 v5 = some v6 ∧ (∃ v7, aI hp o2 0 v6 = some v7 ∧ (∃ h8, sI hp o2 0 v6 (v7 + 1) = some h8 ∧ (k10 (a0, (x1 + 1), h8)))))))))))
set_option maxRecDepth 100000 in
def wp_Likeness_leaveLone_10 (z : Nat → Nat) (Q : xh → Prop)  (a0 : Nat) (x1 : Int32) (hp : xh) : Prop := ∃ f : Nat, xloop (fun k10 a => wp_Likeness_leaveLone_10_b z Q  k10 a.1 a.2.1 a.2.2) f (a0, x1, hp)
set_option maxRecDepth 100000 in
set_option maxHeartbeats 4000000 in
theorem t_Likeness_leaveLone_10 {p : Program} {l : Launch} {e : Env} {s : State} {m : MethodId} {args : Array Value} {below : List Frame} {meth : Method} {c : Code} {G : xG} {z : Nat → Nat} {A : Nat → Prop} {Qw : State → Prop} {Q : xh → Prop} {a0 : Nat} {x1 : Int32} {hp : xh} (X : xX p l e rm_Likeness_leaveLone s m args below meth c G z A y_Likeness_leaveLone b_Likeness_leaveLone 3) (hret : xRet p l e rm_Likeness_leaveLone s m args below meth c G A 3 Qw b_Likeness_leaveLone none (xqv Q))  (hf : wp_Likeness_leaveLone_10 z Q  a0 x1 hp) : xE p l e rm_Likeness_leaveLone s m args below meth c G A 3 Qw 0 0 hp 10 [(0, .ref a0), (1, .int x1)] [] := by
  obtain ⟨f, hf⟩ := hf
  refine xloop_ind (F := fun k10 a => wp_Likeness_leaveLone_10_b z Q  k10 a.1 a.2.1 a.2.2) (E := fun a => xE p l e rm_Likeness_leaveLone s m args below meth c G A 3 Qw 0 0 a.2.2 10 [(0, .ref (a.1)), (1, .int (a.2.1))] []) ?_ f (a0, x1, hp) hf
  intro k10 hk a hf
  obtain ⟨a0, x1, hp⟩ := a
  have hk10 : ∀ (a0 : Nat) (x1 : Int32) (hp : xh), k10 (a0, x1, hp) → xE p l e rm_Likeness_leaveLone s m args below meth c G A 3 Qw 0 0 hp 10 [(0, .ref a0), (1, .int x1)] [] := fun a0 x1 hp h => hk (a0, x1, hp) h
  have hf : wp_Likeness_leaveLone_10_b z Q  k10 a0 x1 hp := hf
  unfold wp_Likeness_leaveLone_10_b at hf
  refine x_iload_n X (q := 1) d_Likeness_leaveLone_10 rfl 11 rfl ?_
  refine x_aload_n X (q := 0) d_Likeness_leaveLone_11 rfl 12 rfl ?_
  refine x_getI X hf (ci := 2) (j := 6) rfl (by decide) rfl lf_Likeness_30 d_Likeness_leaveLone_12 15 rfl (fun v1 hf => ?_)
  refine x_icmp_ge X hf d_Likeness_leaveLone_15 44 18 (by decide) rfl (fun hf => ?_) (fun hf => ?_)
  · refine x_iconst X (v := 0) d_Likeness_leaveLone_44 (by decide) 45 rfl ?_
    refine x_istore_n X (lv' := [(1, .int 0), (0, .ref a0)]) d_Likeness_leaveLone_45 rfl (by decide) rfl 46 rfl ?_
    refine x_iconst X (v := 0) d_Likeness_leaveLone_46 (by decide) 47 rfl ?_
    refine x_istore_n X (lv' := [(2, .int 0), (1, .int 0), (0, .ref a0)]) d_Likeness_leaveLone_47 rfl (by decide) rfl 48 rfl ?_
    exact x_sub [2, 1, 0] rfl (t_Likeness_leaveLone_48 X hret hf)
  · refine x_aload_n X (q := 0) d_Likeness_leaveLone_18 rfl 19 rfl ?_
    refine x_getR X hf (ci := 2) (j := 4) rfl (by decide) rfl lf_Likeness_24 d_Likeness_leaveLone_19 22 rfl (fun o2 hf => ?_)
    refine x_aload_n X (q := 0) d_Likeness_leaveLone_22 rfl 23 rfl ?_
    refine x_getR X hf (ci := 2) (j := 0) rfl (by decide) rfl lf_Likeness_11 d_Likeness_leaveLone_23 26 rfl (fun o3 hf => ?_)
    refine x_aload_n X (q := 0) d_Likeness_leaveLone_26 rfl 27 rfl ?_
    refine x_getR X hf (ci := 2) (j := 5) rfl (by decide) rfl lf_Likeness_27 d_Likeness_leaveLone_27 30 rfl (fun o4 hf => ?_)
    refine x_iload_n X (q := 1) d_Likeness_leaveLone_30 rfl 31 rfl ?_
    refine x_iald X hf d_Likeness_leaveLone_31 32 rfl (fun v5 hf => ?_)
    refine x_iald X hf d_Likeness_leaveLone_32 33 rfl (fun v6 hf => ?_)
    refine x_dup2 X rfl rfl d_Likeness_leaveLone_33 34 rfl ?_
    refine x_iald X hf d_Likeness_leaveLone_34 35 rfl (fun v7 hf => ?_)
    refine x_iconst X (v := 1) d_Likeness_leaveLone_35 (by decide) 36 rfl ?_
    refine x_iadd X d_Likeness_leaveLone_36 37 rfl ?_
    refine x_iast X hf d_Likeness_leaveLone_37 38 rfl (fun h8 hf => ?_)
    refine x_iinc X (q := 1) (v := (x1 + 1)) (lv' := [(1, .int (x1 + 1)), (0, .ref a0)]) d_Likeness_leaveLone_38 rfl (by rfl) (by decide) rfl 41 rfl ?_
    refine x_goto X d_Likeness_leaveLone_41 10 (by decide) ?_
    exact x_sub [1, 0] rfl (hk10 _ _ _ hf)
set_option maxRecDepth 100000 in
def wp_Likeness_leaveLone (z : Nat → Nat) (Q : xh → Prop) (a0 : Nat) (hp : xh) : Prop :=
  ∃ o1, fR hp a0 2 4 = some o1 ∧ (wp_Arrays_fill1 z (fun h2 => wp_Likeness_leaveLone_10 z Q a0 0 h2) o1 0 hp)
set_option maxRecDepth 100000 in
set_option maxHeartbeats 4000000 in
theorem t_Likeness_leaveLone {l : Launch} {G : xG} {z : Nat → Nat} {Q : xh → Prop} {a0 : Nat} {hp : xh} (hf : wp_Likeness_leaveLone z Q a0 hp) : xM l G z y_Likeness_leaveLone b_Likeness_leaveLone 3 none rm_Likeness_leaveLone [.ref a0] hp (xqv Q) := by
  refine xM_of (by decide) (Nat.le_of_ble_eq_true rfl) (lv0 := [(0, .ref a0)]) rfl ?_
  intro p e s m args below meth c A Qw X hret
  unfold wp_Likeness_leaveLone at hf
  refine x_aload_n X (q := 0) d_Likeness_leaveLone_0 rfl 1 rfl ?_
  refine x_getR X hf (ci := 2) (j := 4) rfl (by decide) rfl lf_Likeness_24 d_Likeness_leaveLone_1 4 rfl (fun o1 hf => ?_)
  refine x_iconst X (v := 0) d_Likeness_leaveLone_4 (by decide) 5 rfl ?_
  refine x_callS0v X (t_Arrays_fill1 hf) lm_Likeness_65 im_Arrays_fill1 cd_Arrays_fill1 in_Arrays ds_Arrays_fill1 rfl rfl (Nat.le_of_ble_eq_true rfl) (Nat.le_of_ble_eq_true rfl) (Nat.le_of_ble_eq_true rfl) rfl rfl (Nat.le_refl 0) (Nat.le_refl 0) d_Likeness_leaveLone_5 8 rfl (fun h2 hf => ?_)
  refine x_iconst X (v := 0) d_Likeness_leaveLone_8 (by decide) 9 rfl ?_
  refine x_istore_n X (lv' := [(1, .int 0), (0, .ref a0)]) d_Likeness_leaveLone_9 rfl (by decide) rfl 10 rfl ?_
  exact x_sub [1, 0] rfl (t_Likeness_leaveLone_10 X hret hf)

set_option maxRecDepth 100000 in
def wp_Likeness_sort_141 (z : Nat → Nat) (Q : xh → Prop) (k113 : Nat × Nat × Nat × Int32 × xh → Prop) (a0 : Nat) (a2 : Nat) (a3 : Nat) (x4 : Int32) (hp : xh) : Prop :=
  k113 (a0, a2, a3, (x4 + 1), hp)
set_option maxRecDepth 100000 in
set_option maxHeartbeats 4000000 in
theorem t_Likeness_sort_141 {p : Program} {l : Launch} {e : Env} {s : State} {m : MethodId} {args : Array Value} {below : List Frame} {meth : Method} {c : Code} {G : xG} {z : Nat → Nat} {A : Nat → Prop} {Qw : State → Prop} {Q : xh → Prop} {k113 : Nat × Nat × Nat × Int32 × xh → Prop} {a0 : Nat} {a2 : Nat} {a3 : Nat} {x4 : Int32} {hp : xh} (X : xX p l e rm_Likeness_sort s m args below meth c G z A y_Likeness_sort b_Likeness_sort 5) (hret : xRet p l e rm_Likeness_sort s m args below meth c G A 5 Qw b_Likeness_sort none (xqv Q)) (hk113 : ∀ (a0 : Nat) (a2 : Nat) (a3 : Nat) (x4 : Int32) (hp : xh), k113 (a0, a2, a3, x4, hp) → xE p l e rm_Likeness_sort s m args below meth c G A 5 Qw 0 0 hp 113 [(0, .ref a0), (2, .ref a2), (3, .ref a3), (4, .int x4)] []) (hf : wp_Likeness_sort_141 z Q k113 a0 a2 a3 x4 hp) : xE p l e rm_Likeness_sort s m args below meth c G A 5 Qw 0 0 hp 141 [(0, .ref a0), (2, .ref a2), (3, .ref a3), (4, .int x4)] [] := by
  unfold wp_Likeness_sort_141 at hf
  refine x_iinc X (q := 3) (v := (x4 + 1)) (lv' := [(4, .int (x4 + 1)), (0, .ref a0), (2, .ref a2), (3, .ref a3)]) d_Likeness_sort_141 rfl (by rfl) (by decide) rfl 144 rfl ?_
  refine x_goto X d_Likeness_sort_144 113 (by decide) ?_
  exact x_sub [1, 2, 3, 0] rfl (hk113 _ _ _ _ _ hf)
set_option maxRecDepth 100000 in
def wp_Likeness_sort_113_b (z : Nat → Nat) (Q : xh → Prop)  (k113 : Nat × Nat × Nat × Int32 × xh → Prop) (a0 : Nat) (a2 : Nat) (a3 : Nat) (x4 : Int32) (hp : xh) : Prop :=
  ∃ v1, fI hp a3 9 5 = some v1 ∧ ((v1 ≤ x4 → Q hp) ∧ (¬ v1 ≤ x4 → (∃ o2, fR hp a3 9 1 = some o2 ∧ (∃ v3, aI hp o2 0 x4 = some v3 ∧ (xcls hp a0 2 ∧ wp_Likeness_isSplitBy z (fun v5 h4 => (v5 = 0 → wp_Likeness_sort_141 z Q k113 a0 a2 a3 x4 h4) ∧ (¬ v5 = 0 → (xcls h4 a0 2 ∧ wp_Likeness_leaveLone z (fun h7 => wp_Likeness_sort_141 z Q k113 a0 a2 a3 x4 h7) a0 h4))) a0 a2 v3 hp)))))
set_option maxRecDepth 100000 in
def wp_Likeness_sort_113 (z : Nat → Nat) (Q : xh → Prop)  (a0 : Nat) (a2 : Nat) (a3 : Nat) (x4 : Int32) (hp : xh) : Prop := ∃ f : Nat, xloop (fun k113 a => wp_Likeness_sort_113_b z Q  k113 a.1 a.2.1 a.2.2.1 a.2.2.2.1 a.2.2.2.2) f (a0, a2, a3, x4, hp)
set_option maxRecDepth 100000 in
set_option maxHeartbeats 4000000 in
theorem t_Likeness_sort_113 {p : Program} {l : Launch} {e : Env} {s : State} {m : MethodId} {args : Array Value} {below : List Frame} {meth : Method} {c : Code} {G : xG} {z : Nat → Nat} {A : Nat → Prop} {Qw : State → Prop} {Q : xh → Prop} {a0 : Nat} {a2 : Nat} {a3 : Nat} {x4 : Int32} {hp : xh} (X : xX p l e rm_Likeness_sort s m args below meth c G z A y_Likeness_sort b_Likeness_sort 5) (hret : xRet p l e rm_Likeness_sort s m args below meth c G A 5 Qw b_Likeness_sort none (xqv Q))  (hf : wp_Likeness_sort_113 z Q  a0 a2 a3 x4 hp) : xE p l e rm_Likeness_sort s m args below meth c G A 5 Qw 0 0 hp 113 [(0, .ref a0), (2, .ref a2), (3, .ref a3), (4, .int x4)] [] := by
  obtain ⟨f, hf⟩ := hf
  refine xloop_ind (F := fun k113 a => wp_Likeness_sort_113_b z Q  k113 a.1 a.2.1 a.2.2.1 a.2.2.2.1 a.2.2.2.2) (E := fun a => xE p l e rm_Likeness_sort s m args below meth c G A 5 Qw 0 0 a.2.2.2.2 113 [(0, .ref (a.1)), (2, .ref (a.2.1)), (3, .ref (a.2.2.1)), (4, .int (a.2.2.2.1))] []) ?_ f (a0, a2, a3, x4, hp) hf
  intro k113 hk a hf
  obtain ⟨a0, a2, a3, x4, hp⟩ := a
  have hk113 : ∀ (a0 : Nat) (a2 : Nat) (a3 : Nat) (x4 : Int32) (hp : xh), k113 (a0, a2, a3, x4, hp) → xE p l e rm_Likeness_sort s m args below meth c G A 5 Qw 0 0 hp 113 [(0, .ref a0), (2, .ref a2), (3, .ref a3), (4, .int x4)] [] := fun a0 a2 a3 x4 hp h => hk (a0, a2, a3, x4, hp) h
  have hf : wp_Likeness_sort_113_b z Q  k113 a0 a2 a3 x4 hp := hf
  unfold wp_Likeness_sort_113_b at hf
  refine x_iload X (q := 3) d_Likeness_sort_113 rfl 115 rfl ?_
  refine x_aload_n X (q := 2) d_Likeness_sort_115 rfl 116 rfl ?_
  refine x_getI X hf (ci := 9) (j := 5) rfl (by decide) rfl lf_Likeness_46 d_Likeness_sort_116 119 rfl (fun v1 hf => ?_)
  refine x_icmp_ge X hf d_Likeness_sort_119 147 122 (by decide) rfl (fun hf => ?_) (fun hf => ?_)
  · exact hret _ _ _ _ _ none (Nat.le_refl 0) (Nat.le_refl 0) ⟨rfl, hf⟩ ⟨rfl, d_Likeness_sort_147⟩
  · refine x_aload_n X (q := 0) d_Likeness_sort_122 rfl 123 rfl ?_
    refine x_aload_n X (q := 1) d_Likeness_sort_123 rfl 124 rfl ?_
    refine x_aload_n X (q := 2) d_Likeness_sort_124 rfl 125 rfl ?_
    refine x_getR X hf (ci := 9) (j := 1) rfl (by decide) rfl lf_Likeness_51 d_Likeness_sort_125 128 rfl (fun o2 hf => ?_)
    refine x_iload X (q := 3) d_Likeness_sort_128 rfl 130 rfl ?_
    refine x_iald X hf d_Likeness_sort_130 131 rfl (fun v3 hf => ?_)
    refine x_callV0z X (t_Likeness_isSplitBy hf.2) hf.1 (ci := 2) rfl rfl lm_Likeness_54 im_Likeness_isSplitBy sl_Likeness_isSplitBy cd_Likeness_isSplitBy in_Likeness ds_Likeness_isSplitBy rfl rfl (Nat.le_of_ble_eq_true rfl) (Nat.le_of_ble_eq_true rfl) (Nat.le_of_ble_eq_true rfl) rfl rfl (Nat.le_refl 0) (Nat.le_refl 0) d_Likeness_sort_131 134 rfl (fun v5 h4 hb6 hf => ?_)
    refine x_if_eq X hf d_Likeness_sort_134 141 137 (by decide) rfl (fun hf => ?_) (fun hf => ?_)
    · exact x_sub [0, 1, 2, 3] rfl (t_Likeness_sort_141 X hret hk113 hf)
    · refine x_aload_n X (q := 0) d_Likeness_sort_137 rfl 138 rfl ?_
      refine x_callV0v X (t_Likeness_leaveLone hf.2) hf.1 (ci := 2) rfl rfl lm_Likeness_58 im_Likeness_leaveLone sl_Likeness_leaveLone cd_Likeness_leaveLone in_Likeness ds_Likeness_leaveLone rfl rfl (Nat.le_of_ble_eq_true rfl) (Nat.le_of_ble_eq_true rfl) (Nat.le_of_ble_eq_true rfl) rfl rfl (Nat.le_refl 0) (Nat.le_refl 0) d_Likeness_sort_138 141 rfl (fun h7 hf => ?_)
      exact x_sub [0, 1, 2, 3] rfl (t_Likeness_sort_141 X hret hk113 hf)
set_option maxRecDepth 100000 in
def wp_Likeness_sort_104 (z : Nat → Nat) (Q : xh → Prop) (k8 : Nat × Nat × Nat × Nat × Int32 × xh → Prop) (a0 : Nat) (a1 : Nat) (a2 : Nat) (a3 : Nat) (x4 : Int32) (hp : xh) : Prop :=
  k8 (a0, a1, a2, a3, (x4 + 1), hp)
set_option maxRecDepth 100000 in
set_option maxHeartbeats 4000000 in
theorem t_Likeness_sort_104 {p : Program} {l : Launch} {e : Env} {s : State} {m : MethodId} {args : Array Value} {below : List Frame} {meth : Method} {c : Code} {G : xG} {z : Nat → Nat} {A : Nat → Prop} {Qw : State → Prop} {Q : xh → Prop} {k8 : Nat × Nat × Nat × Nat × Int32 × xh → Prop} {a0 : Nat} {a1 : Nat} {a2 : Nat} {a3 : Nat} {x4 : Int32} {hp : xh} (X : xX p l e rm_Likeness_sort s m args below meth c G z A y_Likeness_sort b_Likeness_sort 5) (hret : xRet p l e rm_Likeness_sort s m args below meth c G A 5 Qw b_Likeness_sort none (xqv Q)) (hk8 : ∀ (a0 : Nat) (a1 : Nat) (a2 : Nat) (a3 : Nat) (x4 : Int32) (hp : xh), k8 (a0, a1, a2, a3, x4, hp) → xE p l e rm_Likeness_sort s m args below meth c G A 5 Qw 0 0 hp 8 [(0, .ref a0), (1, .ref a1), (2, .ref a2), (3, .ref a3), (4, .int x4)] []) (hf : wp_Likeness_sort_104 z Q k8 a0 a1 a2 a3 x4 hp) : xE p l e rm_Likeness_sort s m args below meth c G A 5 Qw 0 0 hp 104 [(0, .ref a0), (1, .ref a1), (2, .ref a2), (3, .ref a3), (4, .int x4)] [] := by
  unfold wp_Likeness_sort_104 at hf
  refine x_iinc X (q := 4) (v := (x4 + 1)) (lv' := [(4, .int (x4 + 1)), (0, .ref a0), (1, .ref a1), (2, .ref a2), (3, .ref a3)]) d_Likeness_sort_104 rfl (by rfl) (by decide) rfl 107 rfl ?_
  refine x_goto X d_Likeness_sort_107 8 (by decide) ?_
  exact x_sub [1, 2, 3, 4, 0] rfl (hk8 _ _ _ _ _ _ hf)
set_option maxRecDepth 100000 in
def wp_Likeness_sort_8_b (z : Nat → Nat) (Q : xh → Prop)  (k8 : Nat × Nat × Nat × Nat × Int32 × xh → Prop) (a0 : Nat) (a1 : Nat) (a2 : Nat) (a3 : Nat) (x4 : Int32) (hp : xh) : Prop :=
  (402 ≤ x4 → wp_Likeness_sort_113 z Q a0 a2 a3 0 hp) ∧ (¬ 402 ≤ x4 → (∃ o1, fR hp a0 2 0 = some o1 ∧ (∃ h2, sI hp o1 0 x4 0 = some h2 ∧ (∃ o3, fR h2 a0 2 1 = some o3 ∧ (∃ h4, sI h2 o3 0 x4 0 = some h4 ∧ (∃ o5, aR h4 a1 5 (x4 / 201) = some o5 ∧ (xcls h4 o5 0 ∧ wp_Circuit_isDefined z (fun v7 h6 => (v7 = 0 → wp_Likeness_sort_104 z Q k8 a0 a1 a2 a3 x4 h6) ∧ (¬ v7 = 0 → (∃ o9, fR h6 a0 2 1 = some o9 ∧ (xcls h6 a2 7 ∧ wp_Table_word z (fun v11 h10 => ∃ h12, sI h10 o9 0 x4 (-(v11 &&& 1)) = some h12 ∧ (∃ o13, fR h12 a0 2 5 = some o13 ∧ (∃ v14, fI h12 a0 2 6 = some v14 ∧ (∃ h15, sI h12 o13 0 v14 x4 = some h15 ∧ (∃ v16, fI h15 a0 2 6 = some v16 ∧ (∃ h17, pV h15 a0 2 6 (.int (v16 + 1)) = some h17 ∧ wp_Likeness_sort_104 z Q k8 a0 a1 a2 a3 x4 h17)))))) a2 0 (x4 / 201) (2 * (x4 - x4 / 201 * 201)) h6)))) o5 (2 * (x4 - x4 / 201 * 201)) h4)))))))
set_option maxRecDepth 100000 in
def wp_Likeness_sort_8 (z : Nat → Nat) (Q : xh → Prop)  (a0 : Nat) (a1 : Nat) (a2 : Nat) (a3 : Nat) (x4 : Int32) (hp : xh) : Prop := ∃ f : Nat, xloop (fun k8 a => wp_Likeness_sort_8_b z Q  k8 a.1 a.2.1 a.2.2.1 a.2.2.2.1 a.2.2.2.2.1 a.2.2.2.2.2) f (a0, a1, a2, a3, x4, hp)
set_option maxRecDepth 100000 in
set_option maxHeartbeats 4000000 in
theorem t_Likeness_sort_8 {p : Program} {l : Launch} {e : Env} {s : State} {m : MethodId} {args : Array Value} {below : List Frame} {meth : Method} {c : Code} {G : xG} {z : Nat → Nat} {A : Nat → Prop} {Qw : State → Prop} {Q : xh → Prop} {a0 : Nat} {a1 : Nat} {a2 : Nat} {a3 : Nat} {x4 : Int32} {hp : xh} (X : xX p l e rm_Likeness_sort s m args below meth c G z A y_Likeness_sort b_Likeness_sort 5) (hret : xRet p l e rm_Likeness_sort s m args below meth c G A 5 Qw b_Likeness_sort none (xqv Q))  (hf : wp_Likeness_sort_8 z Q  a0 a1 a2 a3 x4 hp) : xE p l e rm_Likeness_sort s m args below meth c G A 5 Qw 0 0 hp 8 [(0, .ref a0), (1, .ref a1), (2, .ref a2), (3, .ref a3), (4, .int x4)] [] := by
  obtain ⟨f, hf⟩ := hf
  refine xloop_ind (F := fun k8 a => wp_Likeness_sort_8_b z Q  k8 a.1 a.2.1 a.2.2.1 a.2.2.2.1 a.2.2.2.2.1 a.2.2.2.2.2) (E := fun a => xE p l e rm_Likeness_sort s m args below meth c G A 5 Qw 0 0 a.2.2.2.2.2 8 [(0, .ref (a.1)), (1, .ref (a.2.1)), (2, .ref (a.2.2.1)), (3, .ref (a.2.2.2.1)), (4, .int (a.2.2.2.2.1))] []) ?_ f (a0, a1, a2, a3, x4, hp) hf
  intro k8 hk a hf
  obtain ⟨a0, a1, a2, a3, x4, hp⟩ := a
  have hk8 : ∀ (a0 : Nat) (a1 : Nat) (a2 : Nat) (a3 : Nat) (x4 : Int32) (hp : xh), k8 (a0, a1, a2, a3, x4, hp) → xE p l e rm_Likeness_sort s m args below meth c G A 5 Qw 0 0 hp 8 [(0, .ref a0), (1, .ref a1), (2, .ref a2), (3, .ref a3), (4, .int x4)] [] := fun a0 a1 a2 a3 x4 hp h => hk (a0, a1, a2, a3, x4, hp) h
  have hf : wp_Likeness_sort_8_b z Q  k8 a0 a1 a2 a3 x4 hp := hf
  unfold wp_Likeness_sort_8_b at hf
  refine x_iload X (q := 4) d_Likeness_sort_8 rfl 10 rfl ?_
  refine x_sipush X (v := 402) d_Likeness_sort_10 (by decide) 13 rfl ?_
  refine x_icmp_ge X hf d_Likeness_sort_13 110 16 (by decide) rfl (fun hf => ?_) (fun hf => ?_)
  · refine x_iconst X (v := 0) d_Likeness_sort_110 (by decide) 111 rfl ?_
    refine x_istore X (lv' := [(4, .int 0), (0, .ref a0), (1, .ref a1), (2, .ref a2), (3, .ref a3)]) d_Likeness_sort_111 (by decide) rfl 113 rfl ?_
    exact x_sub [1, 3, 4, 0] rfl (t_Likeness_sort_113 X hret hf)
  · refine x_aload_n X (q := 0) d_Likeness_sort_16 rfl 17 rfl ?_
    refine x_getR X hf (ci := 2) (j := 0) rfl (by decide) rfl lf_Likeness_11 d_Likeness_sort_17 20 rfl (fun o1 hf => ?_)
    refine x_iload X (q := 4) d_Likeness_sort_20 rfl 22 rfl ?_
    refine x_iconst X (v := 0) d_Likeness_sort_22 (by decide) 23 rfl ?_
    refine x_iast X hf d_Likeness_sort_23 24 rfl (fun h2 hf => ?_)
    refine x_aload_n X (q := 0) d_Likeness_sort_24 rfl 25 rfl ?_
    refine x_getR X hf (ci := 2) (j := 1) rfl (by decide) rfl lf_Likeness_15 d_Likeness_sort_25 28 rfl (fun o3 hf => ?_)
    refine x_iload X (q := 4) d_Likeness_sort_28 rfl 30 rfl ?_
    refine x_iconst X (v := 0) d_Likeness_sort_30 (by decide) 31 rfl ?_
    refine x_iast X hf d_Likeness_sort_31 32 rfl (fun h4 hf => ?_)
    refine x_aload_n X (q := 1) d_Likeness_sort_32 rfl 33 rfl ?_
    refine x_iload X (q := 4) d_Likeness_sort_33 rfl 35 rfl ?_
    refine x_sipush X (v := 201) d_Likeness_sort_35 (by decide) 38 rfl ?_
    refine x_idiv X (by decide) d_Likeness_sort_38 39 rfl ?_
    refine x_aald X hf (t := 5) rfl d_Likeness_sort_39 40 rfl (fun o5 hf => ?_)
    refine x_iconst X (v := 2) d_Likeness_sort_40 (by decide) 41 rfl ?_
    refine x_iload X (q := 4) d_Likeness_sort_41 rfl 43 rfl ?_
    refine x_sipush X (v := 201) d_Likeness_sort_43 (by decide) 46 rfl ?_
    refine x_irem X (by decide) d_Likeness_sort_46 47 rfl ?_
    refine x_imul X d_Likeness_sort_47 48 rfl ?_
    refine x_callV0z X (t_Circuit_isDefined hf.2) hf.1 (ci := 0) rfl rfl lm_Likeness_34 im_Circuit_isDefined sl_Circuit_isDefined cd_Circuit_isDefined in_Circuit ds_Circuit_isDefined rfl rfl (Nat.le_of_ble_eq_true rfl) (Nat.le_of_ble_eq_true rfl) (Nat.le_of_ble_eq_true rfl) rfl rfl (Nat.le_refl 0) (Nat.le_refl 0) d_Likeness_sort_48 51 rfl (fun v7 h6 hb8 hf => ?_)
    refine x_if_eq X hf d_Likeness_sort_51 104 54 (by decide) rfl (fun hf => ?_) (fun hf => ?_)
    · exact x_sub [0, 1, 2, 3, 4] rfl (t_Likeness_sort_104 X hret hk8 hf)
    · refine x_aload_n X (q := 0) d_Likeness_sort_54 rfl 55 rfl ?_
      refine x_getR X hf (ci := 2) (j := 1) rfl (by decide) rfl lf_Likeness_15 d_Likeness_sort_55 58 rfl (fun o9 hf => ?_)
      refine x_iload X (q := 4) d_Likeness_sort_58 rfl 60 rfl ?_
      refine x_aload_n X (q := 2) d_Likeness_sort_60 rfl 61 rfl ?_
      refine x_iconst X (v := 0) d_Likeness_sort_61 (by decide) 62 rfl ?_
      refine x_iload X (q := 4) d_Likeness_sort_62 rfl 64 rfl ?_
      refine x_sipush X (v := 201) d_Likeness_sort_64 (by decide) 67 rfl ?_
      refine x_idiv X (by decide) d_Likeness_sort_67 68 rfl ?_
      refine x_iconst X (v := 2) d_Likeness_sort_68 (by decide) 69 rfl ?_
      refine x_iload X (q := 4) d_Likeness_sort_69 rfl 71 rfl ?_
      refine x_sipush X (v := 201) d_Likeness_sort_71 (by decide) 74 rfl ?_
      refine x_irem X (by decide) d_Likeness_sort_74 75 rfl ?_
      refine x_imul X d_Likeness_sort_75 76 rfl ?_
      refine x_callV0i X (t_Table_word hf.2) hf.1 (ci := 7) rfl rfl lm_Likeness_40 im_Table_word sl_Table_word cd_Table_word in_Table ds_Table_word rfl rfl (Nat.le_of_ble_eq_true rfl) (Nat.le_of_ble_eq_true rfl) (Nat.le_of_ble_eq_true rfl) rfl rfl (Nat.le_refl 0) (Nat.le_refl 0) d_Likeness_sort_76 79 rfl (fun v11 h10 hf => ?_)
      refine x_iconst X (v := 1) d_Likeness_sort_79 (by decide) 80 rfl ?_
      refine x_iand X d_Likeness_sort_80 81 rfl ?_
      refine x_ineg X d_Likeness_sort_81 82 rfl ?_
      refine x_iast X hf d_Likeness_sort_82 83 rfl (fun h12 hf => ?_)
      refine x_aload_n X (q := 0) d_Likeness_sort_83 rfl 84 rfl ?_
      refine x_getR X hf (ci := 2) (j := 5) rfl (by decide) rfl lf_Likeness_27 d_Likeness_sort_84 87 rfl (fun o13 hf => ?_)
      refine x_aload_n X (q := 0) d_Likeness_sort_87 rfl 88 rfl ?_
      refine x_getI X hf (ci := 2) (j := 6) rfl (by decide) rfl lf_Likeness_30 d_Likeness_sort_88 91 rfl (fun v14 hf => ?_)
      refine x_iload X (q := 4) d_Likeness_sort_91 rfl 93 rfl ?_
      refine x_iast X hf d_Likeness_sort_93 94 rfl (fun h15 hf => ?_)
      refine x_aload_n X (q := 0) d_Likeness_sort_94 rfl 95 rfl ?_
      refine x_dup X rfl d_Likeness_sort_95 96 rfl ?_
      refine x_getI X hf (ci := 2) (j := 6) rfl (by decide) rfl lf_Likeness_30 d_Likeness_sort_96 99 rfl (fun v16 hf => ?_)
      refine x_iconst X (v := 1) d_Likeness_sort_99 (by decide) 100 rfl ?_
      refine x_iadd X d_Likeness_sort_100 101 rfl ?_
      refine x_put X hf (ci := 2) (j := 6) (ty := .int) rfl (by decide) rfl lf_Likeness_30 rfl (by decide +kernel) rfl rfl d_Likeness_sort_101 104 rfl (fun h17 hf => ?_)
      exact x_sub [0, 1, 2, 3, 4] rfl (t_Likeness_sort_104 X hret hk8 hf)
set_option maxRecDepth 100000 in
def wp_Likeness_sort (z : Nat → Nat) (Q : xh → Prop) (a0 : Nat) (a1 : Nat) (a2 : Nat) (a3 : Nat) (hp : xh) : Prop :=
  ∃ h1, pV hp a0 2 6 (.int 0) = some h1 ∧ wp_Likeness_sort_8 z Q a0 a1 a2 a3 0 h1
set_option maxRecDepth 100000 in
set_option maxHeartbeats 4000000 in
theorem t_Likeness_sort {l : Launch} {G : xG} {z : Nat → Nat} {Q : xh → Prop} {a0 : Nat} {a1 : Nat} {a2 : Nat} {a3 : Nat} {hp : xh} (hf : wp_Likeness_sort z Q a0 a1 a2 a3 hp) : xM l G z y_Likeness_sort b_Likeness_sort 5 none rm_Likeness_sort [.ref a0, .ref a1, .ref a2, .ref a3] hp (xqv Q) := by
  refine xM_of (by decide) (Nat.le_of_ble_eq_true rfl) (lv0 := [(0, .ref a0), (1, .ref a1), (2, .ref a2), (3, .ref a3)]) rfl ?_
  intro p e s m args below meth c A Qw X hret
  unfold wp_Likeness_sort at hf
  refine x_aload_n X (q := 0) d_Likeness_sort_0 rfl 1 rfl ?_
  refine x_iconst X (v := 0) d_Likeness_sort_1 (by decide) 2 rfl ?_
  refine x_put X hf (ci := 2) (j := 6) (ty := .int) rfl (by decide) rfl lf_Likeness_30 rfl (by decide +kernel) rfl rfl d_Likeness_sort_2 5 rfl (fun h1 hf => ?_)
  refine x_iconst X (v := 0) d_Likeness_sort_5 (by decide) 6 rfl ?_
  refine x_istore X (lv' := [(4, .int 0), (0, .ref a0), (1, .ref a1), (2, .ref a2), (3, .ref a3)]) d_Likeness_sort_6 (by decide) rfl 8 rfl ?_
  exact x_sub [1, 2, 3, 4, 0] rfl (t_Likeness_sort_8 X hret hf)

set_option maxRecDepth 100000 in
def wp_Likeness_firstLike (z : Nat → Nat) (Q : Int32 → xh → Prop) (a0 : Nat) (x1 : Int32) (x2 : Int32) (hp : xh) : Prop :=
  ∀ v1, v1 = ((x1 * 201) + (x2 >>> ((1 : Int32) &&& 31))) → ∃ o2, fR hp a0 2 0 = some o2 ∧ (∃ v3, aI hp o2 0 v1 = some v3 ∧ (∃ o4, fR hp a0 2 1 = some o4 ∧ (∃ v5, aI hp o4 0 v1 = some v5 ∧ (∃ o6, fR hp a0 2 1 = some o6 ∧ (∃ v7, aI hp o6 0 v3 = some v7 ∧ (∀ v8, v8 = (((x2 ^^^ v5) ^^^ v7) &&& 1) → (201 ≤ v3 → (Q ((1000 + (2 * (v3 - 201))) + v8) hp)) ∧ (¬ 201 ≤ v3 → (Q ((2 * v3) + v8) hp))))))))
set_option maxRecDepth 100000 in
set_option maxHeartbeats 4000000 in
theorem t_Likeness_firstLike {l : Launch} {G : xG} {z : Nat → Nat} {Q : Int32 → xh → Prop} {a0 : Nat} {x1 : Int32} {x2 : Int32} {hp : xh} (hf : wp_Likeness_firstLike z Q a0 x1 x2 hp) : xM l G z y_Likeness_firstLike b_Likeness_firstLike 6 (some .int) rm_Likeness_firstLike [.ref a0, .int x1, .int x2] hp (xqi Q) := by
  refine xM_of (by decide) (Nat.le_of_ble_eq_true rfl) (lv0 := [(0, .ref a0), (1, .int x1), (2, .int x2)]) rfl ?_
  intro p e s m args below meth c A Qw X hret
  unfold wp_Likeness_firstLike at hf
  refine x_iload_n X (q := 1) d_Likeness_firstLike_0 rfl 1 rfl ?_
  refine x_sipush X (v := 201) d_Likeness_firstLike_1 (by decide) 4 rfl ?_
  refine x_imul X d_Likeness_firstLike_4 5 rfl ?_
  refine x_iload_n X (q := 2) d_Likeness_firstLike_5 rfl 6 rfl ?_
  refine x_iconst X (v := 1) d_Likeness_firstLike_6 (by decide) 7 rfl ?_
  refine x_ishr X d_Likeness_firstLike_7 8 rfl ?_
  refine x_iadd X d_Likeness_firstLike_8 9 rfl ?_
  refine x_istoreN_n X hf d_Likeness_firstLike_9 rfl (by decide) (lw := fun v1 => [(3, .int v1), (0, .ref a0), (1, .int x1), (2, .int x2)]) (fun _ => rfl) 10 rfl (fun v1 hf => ?_)
  refine x_aload_n X (q := 1) d_Likeness_firstLike_10 rfl 11 rfl ?_
  refine x_getR X hf (ci := 2) (j := 0) rfl (by decide) rfl lf_Likeness_11 d_Likeness_firstLike_11 14 rfl (fun o2 hf => ?_)
  refine x_iload_n X (q := 0) d_Likeness_firstLike_14 rfl 15 rfl ?_
  refine x_iald X hf d_Likeness_firstLike_15 16 rfl (fun v3 hf => ?_)
  refine x_istore X (lv' := [(4, .int v3), (3, .int v1), (0, .ref a0), (1, .int x1), (2, .int x2)]) d_Likeness_firstLike_16 (by decide) rfl 18 rfl ?_
  refine x_iload_n X (q := 4) d_Likeness_firstLike_18 rfl 19 rfl ?_
  refine x_aload_n X (q := 2) d_Likeness_firstLike_19 rfl 20 rfl ?_
  refine x_getR X hf (ci := 2) (j := 1) rfl (by decide) rfl lf_Likeness_15 d_Likeness_firstLike_20 23 rfl (fun o4 hf => ?_)
  refine x_iload_n X (q := 1) d_Likeness_firstLike_23 rfl 24 rfl ?_
  refine x_iald X hf d_Likeness_firstLike_24 25 rfl (fun v5 hf => ?_)
  refine x_ixor X d_Likeness_firstLike_25 26 rfl ?_
  refine x_aload_n X (q := 2) d_Likeness_firstLike_26 rfl 27 rfl ?_
  refine x_getR X hf (ci := 2) (j := 1) rfl (by decide) rfl lf_Likeness_15 d_Likeness_firstLike_27 30 rfl (fun o6 hf => ?_)
  refine x_iload X (q := 0) d_Likeness_firstLike_30 rfl 32 rfl ?_
  refine x_iald X hf d_Likeness_firstLike_32 33 rfl (fun v7 hf => ?_)
  refine x_ixor X d_Likeness_firstLike_33 34 rfl ?_
  refine x_iconst X (v := 1) d_Likeness_firstLike_34 (by decide) 35 rfl ?_
  refine x_iand X d_Likeness_firstLike_35 36 rfl ?_
  refine x_istoreN X hf d_Likeness_firstLike_36 (by decide) (lw := fun v8 => [(5, .int v8), (4, .int v3), (3, .int v1), (0, .ref a0), (1, .int x1), (2, .int x2)]) (fun _ => rfl) 38 rfl (fun v8 hf => ?_)
  refine x_iload X (q := 1) d_Likeness_firstLike_38 rfl 40 rfl ?_
  refine x_sipush X (v := 201) d_Likeness_firstLike_40 (by decide) 43 rfl ?_
  refine x_icmp_ge X hf d_Likeness_firstLike_43 56 46 (by decide) rfl (fun hf => ?_) (fun hf => ?_)
  · refine x_sipush X (v := 1000) d_Likeness_firstLike_56 (by decide) 59 rfl ?_
    refine x_iconst X (v := 2) d_Likeness_firstLike_59 (by decide) 60 rfl ?_
    refine x_iload X (q := 1) d_Likeness_firstLike_60 rfl 62 rfl ?_
    refine x_sipush X (v := 201) d_Likeness_firstLike_62 (by decide) 65 rfl ?_
    refine x_isub X d_Likeness_firstLike_65 66 rfl ?_
    refine x_imul X d_Likeness_firstLike_66 67 rfl ?_
    refine x_iadd X d_Likeness_firstLike_67 68 rfl ?_
    refine x_iload X (q := 0) d_Likeness_firstLike_68 rfl 70 rfl ?_
    refine x_iadd X d_Likeness_firstLike_70 71 rfl ?_
    exact hret _ _ _ _ _ (some (.int ((1000 + (2 * (v3 - 201))) + v8))) (Nat.le_refl 0) (Nat.le_refl 0) ⟨_, rfl, hf⟩ ⟨⟨_, rfl, rfl⟩, d_Likeness_firstLike_71⟩
  · refine x_iconst X (v := 2) d_Likeness_firstLike_46 (by decide) 47 rfl ?_
    refine x_iload X (q := 1) d_Likeness_firstLike_47 rfl 49 rfl ?_
    refine x_imul X d_Likeness_firstLike_49 50 rfl ?_
    refine x_iload X (q := 0) d_Likeness_firstLike_50 rfl 52 rfl ?_
    refine x_iadd X d_Likeness_firstLike_52 53 rfl ?_
    refine x_goto X d_Likeness_firstLike_53 71 (by decide) ?_
    exact hret _ _ _ _ _ (some (.int ((2 * v3) + v8))) (Nat.le_refl 0) (Nat.le_refl 0) ⟨_, rfl, hf⟩ ⟨⟨_, rfl, rfl⟩, d_Likeness_firstLike_71⟩

set_option maxRecDepth 100000 in
def wp_Works_firstLike_83 (z : Nat → Nat) (Q : Int32 → xh → Prop)  (x3 : Int32) (s5 : Int32) (s4 : Int32) (s3 : Int32) (s2 : Int32) (s1 : Nat) (s0 : Nat) (hp : xh) : Prop :=
  xcls hp s1 10 ∧ wp_Works_agree z (fun v2 h1 => xcls h1 s0 10 ∧ wp_Works_doubtUnless z (fun h4 => Q x3 h4) s0 v2 h1) s1 s2 s3 s4 s5 hp
set_option maxRecDepth 100000 in
set_option maxHeartbeats 4000000 in
theorem t_Works_firstLike_83 {p : Program} {l : Launch} {e : Env} {s : State} {m : MethodId} {args : Array Value} {below : List Frame} {meth : Method} {c : Code} {G : xG} {z : Nat → Nat} {A : Nat → Prop} {Qw : State → Prop} {Q : Int32 → xh → Prop} {x3 : Int32} {s5 : Int32} {s4 : Int32} {s3 : Int32} {s2 : Int32} {s1 : Nat} {s0 : Nat} {hp : xh} (X : xX p l e rm_Works_firstLike s m args below meth c G z A y_Works_firstLike b_Works_firstLike 5) (hret : xRet p l e rm_Works_firstLike s m args below meth c G A 5 Qw b_Works_firstLike (some .int) (xqi Q))  (hf : wp_Works_firstLike_83 z Q  x3 s5 s4 s3 s2 s1 s0 hp) : xE p l e rm_Works_firstLike s m args below meth c G A 5 Qw 0 0 hp 83 [(3, .int x3)] [.int s5, .int s4, .int s3, .int s2, .ref s1, .ref s0] := by
  unfold wp_Works_firstLike_83 at hf
  refine x_callV0z X (t_Works_agree hf.2) hf.1 (ci := 10) rfl rfl lm_Works_131 im_Works_agree sl_Works_agree cd_Works_agree in_Works ds_Works_agree rfl rfl (Nat.le_of_ble_eq_true rfl) (Nat.le_of_ble_eq_true rfl) (Nat.le_of_ble_eq_true rfl) rfl rfl (Nat.le_refl 0) (Nat.le_refl 0) d_Works_firstLike_83 86 rfl (fun v2 h1 hb3 hf => ?_)
  refine x_callV0v X (t_Works_doubtUnless hf.2) hf.1 (ci := 10) rfl rfl lm_Works_88 im_Works_doubtUnless sl_Works_doubtUnless cd_Works_doubtUnless in_Works ds_Works_doubtUnless rfl rfl (Nat.le_of_ble_eq_true rfl) (Nat.le_of_ble_eq_true rfl) (Nat.le_of_ble_eq_true rfl) rfl rfl (Nat.le_refl 0) (Nat.le_refl 0) d_Works_firstLike_86 89 rfl (fun h4 hf => ?_)
  refine x_iload_n X (q := 0) d_Works_firstLike_89 rfl 90 rfl ?_
  exact hret _ _ _ _ _ (some (.int x3)) (Nat.le_refl 0) (Nat.le_refl 0) ⟨_, rfl, hf⟩ ⟨⟨_, rfl, rfl⟩, d_Works_firstLike_90⟩
set_option maxRecDepth 100000 in
def wp_Works_firstLike_69 (z : Nat → Nat) (Q : Int32 → xh → Prop)  (x3 : Int32) (x4 : Int32) (s4 : Int32) (s3 : Int32) (s2 : Int32) (s1 : Nat) (s0 : Nat) (hp : xh) : Prop :=
  (x4 = 0 → wp_Works_firstLike_83 z Q x3 x3 s4 s3 s2 s1 s0 hp) ∧ (¬ x4 = 0 → (wp_Works_firstLike_83 z Q x3 (x3 - 1000) s4 s3 s2 s1 s0 hp))
set_option maxRecDepth 100000 in
set_option maxHeartbeats 4000000 in
theorem t_Works_firstLike_69 {p : Program} {l : Launch} {e : Env} {s : State} {m : MethodId} {args : Array Value} {below : List Frame} {meth : Method} {c : Code} {G : xG} {z : Nat → Nat} {A : Nat → Prop} {Qw : State → Prop} {Q : Int32 → xh → Prop} {x3 : Int32} {x4 : Int32} {s4 : Int32} {s3 : Int32} {s2 : Int32} {s1 : Nat} {s0 : Nat} {hp : xh} (X : xX p l e rm_Works_firstLike s m args below meth c G z A y_Works_firstLike b_Works_firstLike 5) (hret : xRet p l e rm_Works_firstLike s m args below meth c G A 5 Qw b_Works_firstLike (some .int) (xqi Q))  (hf : wp_Works_firstLike_69 z Q  x3 x4 s4 s3 s2 s1 s0 hp) : xE p l e rm_Works_firstLike s m args below meth c G A 5 Qw 0 0 hp 69 [(3, .int x3), (4, .int x4)] [.int s4, .int s3, .int s2, .ref s1, .ref s0] := by
  unfold wp_Works_firstLike_69 at hf
  refine x_iload X (q := 1) d_Works_firstLike_69 rfl 71 rfl ?_
  refine x_if_eq X hf d_Works_firstLike_71 82 74 (by decide) rfl (fun hf => ?_) (fun hf => ?_)
  · refine x_iload_n X (q := 0) d_Works_firstLike_82 rfl 83 rfl ?_
    exact x_sub [0] rfl (t_Works_firstLike_83 X hret hf)
  · refine x_iload_n X (q := 0) d_Works_firstLike_74 rfl 75 rfl ?_
    refine x_sipush X (v := 1000) d_Works_firstLike_75 (by decide) 78 rfl ?_
    refine x_isub X d_Works_firstLike_78 79 rfl ?_
    refine x_goto X d_Works_firstLike_79 83 (by decide) ?_
    exact x_sub [0] rfl (t_Works_firstLike_83 X hret hf)
set_option maxRecDepth 100000 in
def wp_Works_firstLike_53 (z : Nat → Nat) (Q : Int32 → xh → Prop)  (a0 : Nat) (x1 : Int32) (x2 : Int32) (x3 : Int32) (s0 : Int32) (hp : xh) : Prop :=
  (s0 = 0 → wp_Works_firstLike_69 z Q x3 s0 0 x2 x1 a0 a0 hp) ∧ (¬ s0 = 0 → wp_Works_firstLike_69 z Q x3 s0 1 x2 x1 a0 a0 hp)
set_option maxRecDepth 100000 in
set_option maxHeartbeats 4000000 in
theorem t_Works_firstLike_53 {p : Program} {l : Launch} {e : Env} {s : State} {m : MethodId} {args : Array Value} {below : List Frame} {meth : Method} {c : Code} {G : xG} {z : Nat → Nat} {A : Nat → Prop} {Qw : State → Prop} {Q : Int32 → xh → Prop} {a0 : Nat} {x1 : Int32} {x2 : Int32} {x3 : Int32} {s0 : Int32} {hp : xh} (X : xX p l e rm_Works_firstLike s m args below meth c G z A y_Works_firstLike b_Works_firstLike 5) (hret : xRet p l e rm_Works_firstLike s m args below meth c G A 5 Qw b_Works_firstLike (some .int) (xqi Q))  (hf : wp_Works_firstLike_53 z Q  a0 x1 x2 x3 s0 hp) : xE p l e rm_Works_firstLike s m args below meth c G A 5 Qw 0 0 hp 53 [(0, .ref a0), (1, .int x1), (2, .int x2), (3, .int x3)] [.int s0] := by
  unfold wp_Works_firstLike_53 at hf
  refine x_istore X (lv' := [(4, .int s0), (0, .ref a0), (1, .int x1), (2, .int x2), (3, .int x3)]) d_Works_firstLike_53 (by decide) rfl 55 rfl ?_
  refine x_aload_n X (q := 1) d_Works_firstLike_55 rfl 56 rfl ?_
  refine x_aload_n X (q := 1) d_Works_firstLike_56 rfl 57 rfl ?_
  refine x_iload_n X (q := 2) d_Works_firstLike_57 rfl 58 rfl ?_
  refine x_iload_n X (q := 3) d_Works_firstLike_58 rfl 59 rfl ?_
  refine x_iload X (q := 0) d_Works_firstLike_59 rfl 61 rfl ?_
  refine x_if_eq X hf d_Works_firstLike_61 68 64 (by decide) rfl (fun hf => ?_) (fun hf => ?_)
  · refine x_iconst X (v := 0) d_Works_firstLike_68 (by decide) 69 rfl ?_
    exact x_sub [4, 0] rfl (t_Works_firstLike_69 X hret hf)
  · refine x_iconst X (v := 1) d_Works_firstLike_64 (by decide) 65 rfl ?_
    refine x_goto X d_Works_firstLike_65 69 (by decide) ?_
    exact x_sub [4, 0] rfl (t_Works_firstLike_69 X hret hf)
set_option maxRecDepth 100000 in
def wp_Works_firstLike_31 (z : Nat → Nat) (Q : Int32 → xh → Prop)  (a0 : Nat) (x1 : Int32) (x2 : Int32) (hp : xh) : Prop :=
  ∃ o1, fR hp a0 10 5 = some o1 ∧ (xcls hp o1 2 ∧ wp_Likeness_firstLike z (fun v3 h2 => (v3 < 1000 → wp_Works_firstLike_53 z Q a0 x1 x2 v3 0 h2) ∧ (¬ v3 < 1000 → wp_Works_firstLike_53 z Q a0 x1 x2 v3 1 h2)) o1 x1 x2 hp)
set_option maxRecDepth 100000 in
set_option maxHeartbeats 4000000 in
theorem t_Works_firstLike_31 {p : Program} {l : Launch} {e : Env} {s : State} {m : MethodId} {args : Array Value} {below : List Frame} {meth : Method} {c : Code} {G : xG} {z : Nat → Nat} {A : Nat → Prop} {Qw : State → Prop} {Q : Int32 → xh → Prop} {a0 : Nat} {x1 : Int32} {x2 : Int32} {hp : xh} (X : xX p l e rm_Works_firstLike s m args below meth c G z A y_Works_firstLike b_Works_firstLike 5) (hret : xRet p l e rm_Works_firstLike s m args below meth c G A 5 Qw b_Works_firstLike (some .int) (xqi Q))  (hf : wp_Works_firstLike_31 z Q  a0 x1 x2 hp) : xE p l e rm_Works_firstLike s m args below meth c G A 5 Qw 0 0 hp 31 [(0, .ref a0), (1, .int x1), (2, .int x2)] [] := by
  unfold wp_Works_firstLike_31 at hf
  refine x_aload_n X (q := 0) d_Works_firstLike_31 rfl 32 rfl ?_
  refine x_getR X hf (ci := 10) (j := 5) rfl (by decide) rfl lf_Works_37 d_Works_firstLike_32 35 rfl (fun o1 hf => ?_)
  refine x_iload_n X (q := 1) d_Works_firstLike_35 rfl 36 rfl ?_
  refine x_iload_n X (q := 2) d_Works_firstLike_36 rfl 37 rfl ?_
  refine x_callV0i X (t_Likeness_firstLike hf.2) hf.1 (ci := 2) rfl rfl lm_Works_127 im_Likeness_firstLike sl_Likeness_firstLike cd_Likeness_firstLike in_Likeness ds_Likeness_firstLike rfl rfl (Nat.le_of_ble_eq_true rfl) (Nat.le_of_ble_eq_true rfl) (Nat.le_of_ble_eq_true rfl) rfl rfl (Nat.le_refl 0) (Nat.le_refl 0) d_Works_firstLike_37 40 rfl (fun v3 h2 hf => ?_)
  refine x_istore_n X (lv' := [(3, .int v3), (0, .ref a0), (1, .int x1), (2, .int x2)]) d_Works_firstLike_40 rfl (by decide) rfl 41 rfl ?_
  refine x_iload_n X (q := 0) d_Works_firstLike_41 rfl 42 rfl ?_
  refine x_sipush X (v := 1000) d_Works_firstLike_42 (by decide) 45 rfl ?_
  refine x_icmp_lt X hf d_Works_firstLike_45 52 48 (by decide) rfl (fun hf => ?_) (fun hf => ?_)
  · refine x_iconst X (v := 0) d_Works_firstLike_52 (by decide) 53 rfl ?_
    exact x_sub [1, 2, 3, 0] rfl (t_Works_firstLike_53 X hret hf)
  · refine x_iconst X (v := 1) d_Works_firstLike_48 (by decide) 49 rfl ?_
    refine x_goto X d_Works_firstLike_49 53 (by decide) ?_
    exact x_sub [1, 2, 3, 0] rfl (t_Works_firstLike_53 X hret hf)
set_option maxRecDepth 100000 in
def wp_Works_firstLike (z : Nat → Nat) (Q : Int32 → xh → Prop) (a0 : Nat) (x1 : Int32) (x2 : Int32) (hp : xh) : Prop :=
  ∃ v1, fI hp a0 10 8 = some v1 ∧ ((¬ v1 = 0 → wp_Works_firstLike_31 z Q a0 x1 x2 hp) ∧ (v1 = 0 → (∃ o2, fR hp a0 10 5 = some o2 ∧ (∃ o3, fR hp a0 10 0 = some o3 ∧ (∃ o4, fR hp a0 10 2 = some o4 ∧ (∃ o5, fR hp a0 10 3 = some o5 ∧ (xcls hp o2 2 ∧ wp_Likeness_sort z (fun h6 => ∃ h7, pV h6 a0 10 8 (.int 1) = some h7 ∧ wp_Works_firstLike_31 z Q a0 x1 x2 h7) o2 o3 o4 o5 hp)))))))
set_option maxRecDepth 100000 in
set_option maxHeartbeats 4000000 in
theorem t_Works_firstLike {l : Launch} {G : xG} {z : Nat → Nat} {Q : Int32 → xh → Prop} {a0 : Nat} {x1 : Int32} {x2 : Int32} {hp : xh} (hf : wp_Works_firstLike z Q a0 x1 x2 hp) : xM l G z y_Works_firstLike b_Works_firstLike 5 (some .int) rm_Works_firstLike [.ref a0, .int x1, .int x2] hp (xqi Q) := by
  refine xM_of (by decide) (Nat.le_of_ble_eq_true rfl) (lv0 := [(0, .ref a0), (1, .int x1), (2, .int x2)]) rfl ?_
  intro p e s m args below meth c A Qw X hret
  unfold wp_Works_firstLike at hf
  refine x_aload_n X (q := 0) d_Works_firstLike_0 rfl 1 rfl ?_
  refine x_getI X hf (ci := 10) (j := 8) rfl (by decide) rfl lf_Works_65 d_Works_firstLike_1 4 rfl (fun v1 hf => ?_)
  refine x_if_ne X hf d_Works_firstLike_4 31 7 (by decide) rfl (fun hf => ?_) (fun hf => ?_)
  · exact x_sub [0, 1, 2] rfl (t_Works_firstLike_31 X hret hf)
  · refine x_aload_n X (q := 0) d_Works_firstLike_7 rfl 8 rfl ?_
    refine x_getR X hf (ci := 10) (j := 5) rfl (by decide) rfl lf_Works_37 d_Works_firstLike_8 11 rfl (fun o2 hf => ?_)
    refine x_aload_n X (q := 0) d_Works_firstLike_11 rfl 12 rfl ?_
    refine x_getR X hf (ci := 10) (j := 0) rfl (by decide) rfl lf_Works_48 d_Works_firstLike_12 15 rfl (fun o3 hf => ?_)
    refine x_aload_n X (q := 0) d_Works_firstLike_15 rfl 16 rfl ?_
    refine x_getR X hf (ci := 10) (j := 2) rfl (by decide) rfl lf_Works_12 d_Works_firstLike_16 19 rfl (fun o4 hf => ?_)
    refine x_aload_n X (q := 0) d_Works_firstLike_19 rfl 20 rfl ?_
    refine x_getR X hf (ci := 10) (j := 3) rfl (by decide) rfl lf_Works_23 d_Works_firstLike_20 23 rfl (fun o5 hf => ?_)
    refine x_callV0v X (t_Likeness_sort hf.2) hf.1 (ci := 2) rfl rfl lm_Works_123 im_Likeness_sort sl_Likeness_sort cd_Likeness_sort in_Likeness ds_Likeness_sort rfl rfl (Nat.le_of_ble_eq_true rfl) (Nat.le_of_ble_eq_true rfl) (Nat.le_of_ble_eq_true rfl) rfl rfl (Nat.le_refl 0) (Nat.le_refl 0) d_Works_firstLike_23 26 rfl (fun h6 hf => ?_)
    refine x_aload_n X (q := 0) d_Works_firstLike_26 rfl 27 rfl ?_
    refine x_iconst X (v := 1) d_Works_firstLike_27 (by decide) 28 rfl ?_
    refine x_put X hf (ci := 10) (j := 8) (ty := .boolean) rfl (by decide) rfl lf_Works_65 rfl (by decide +kernel) (xbl_nar (Or.inr rfl)) (xbl_fit (Or.inr rfl)) d_Works_firstLike_28 31 rfl (fun h7 hf => ?_)
    exact x_sub [0, 1, 2] rfl (t_Works_firstLike_31 X hret hf)

set_option maxRecDepth 100000 in
def wp_Judge_doubts (z : Nat → Nat) (Q : Int32 → xh → Prop) (a0 : Nat) (hp : xh) : Prop :=
  ∃ r1, fN hp a0 11 4 = some r1 ∧ ((r1 = none → Q 0 hp) ∧ (∀ r2, r1 = some r2 → (∃ o3, fR hp a0 11 4 = some o3 ∧ (∃ v4, fI hp o3 10 10 = some v4 ∧ Q v4 hp))))
set_option maxRecDepth 100000 in
set_option maxHeartbeats 4000000 in
theorem t_Judge_doubts {l : Launch} {G : xG} {z : Nat → Nat} {Q : Int32 → xh → Prop} {a0 : Nat} {hp : xh} (hf : wp_Judge_doubts z Q a0 hp) : xM l G z y_Judge_doubts b_Judge_doubts 1 (some .int) rm_Judge_doubts [.ref a0] hp (xqi Q) := by
  refine xM_of (by decide) (Nat.le_of_ble_eq_true rfl) (lv0 := [(0, .ref a0)]) rfl ?_
  intro p e s m args below meth c A Qw X hret
  unfold wp_Judge_doubts at hf
  refine x_aload_n X (q := 0) d_Judge_doubts_0 rfl 1 rfl ?_
  refine x_getQ X hf (ci := 11) (j := 4) rfl (by decide) rfl lf_Judge_78 d_Judge_doubts_1 4 rfl (fun r1 hf => ?_)
  refine x_ifnonnull X hf d_Judge_doubts_4 11 7 (by decide) rfl (fun r2 hf => ?_) (fun hf => ?_)
  · refine x_aload_n X (q := 0) d_Judge_doubts_11 rfl 12 rfl ?_
    refine x_getR X hf (ci := 11) (j := 4) rfl (by decide) rfl lf_Judge_78 d_Judge_doubts_12 15 rfl (fun o3 hf => ?_)
    refine x_getI X hf (ci := 10) (j := 10) rfl (by decide) rfl lf_Judge_177 d_Judge_doubts_15 18 rfl (fun v4 hf => ?_)
    exact hret _ _ _ _ _ (some (.int v4)) (Nat.le_refl 0) (Nat.le_refl 0) ⟨_, rfl, hf⟩ ⟨⟨_, rfl, rfl⟩, d_Judge_doubts_18⟩
  · refine x_iconst X (v := 0) d_Judge_doubts_7 (by decide) 8 rfl ?_
    refine x_goto X d_Judge_doubts_8 18 (by decide) ?_
    exact hret _ _ _ _ _ (some (.int 0)) (Nat.le_refl 0) (Nat.le_refl 0) ⟨_, rfl, hf⟩ ⟨⟨_, rfl, rfl⟩, d_Judge_doubts_18⟩

set_option maxRecDepth 100000 in
def wp_Model_init (z : Nat → Nat) (mc ms : Nat) (Q : xh → Prop) (a0 : Nat) (hp : xh) : Prop :=
  0 + 1 ≤ mc ∧ 0 + 6000 ≤ ms ∧ ∀ o1, hp o1 = none → ∀ h2, h2 = xset hp o1 (.inl (1, 6000, .inl (fun _ => 0))) → ∃ h5, pV h2 a0 12 1 (.ref o1) = some h5 ∧ ((0 + 1) + 1 ≤ mc ∧ (0 + 6000) + 20 ≤ ms ∧ ∀ o6, h5 o6 = none → ∀ h7, h7 = xset h5 o6 (.inl (1, 20, .inl (fun _ => 0))) → ∃ h10, pV h7 a0 12 2 (.ref o6) = some h10 ∧ (∃ h11, pV h10 a0 12 5 (.int (-1)) = some h11 ∧ (((0 + 1) + 1) + 1 ≤ mc ∧ ((0 + 6000) + 20) + 15 ≤ ms ∧ ∀ o12, h11 o12 = none → ∀ h13, h13 = xset h11 o12 (.inl (0, 15, .inl (fun _ => 0))) → ∃ h16, pV h13 a0 12 10 (.ref o12) = some h16 ∧ ((((0 + 1) + 1) + 1) + 1 ≤ mc ∧ (((0 + 6000) + 20) + 15) + 15 ≤ ms ∧ ∀ o17, h16 o17 = none → ∀ h18, h18 = xset h16 o17 (.inl (0, 15, .inl (fun _ => 0))) → ∃ h21, pV h18 a0 12 11 (.ref o17) = some h21 ∧ (((((0 + 1) + 1) + 1) + 1) + 1 ≤ mc ∧ ((((0 + 6000) + 20) + 15) + 15) + 21 ≤ ms ∧ ∀ o22, h21 o22 = none → ∀ h23, h23 = xset h21 o22 (.inl (0, 21, .inl (fun _ => 0))) → ∃ h26, pV h23 a0 12 12 (.ref o22) = some h26 ∧ ((((((0 + 1) + 1) + 1) + 1) + 1) + 1 ≤ mc ∧ (((((0 + 6000) + 20) + 15) + 15) + 21) + 21 ≤ ms ∧ ∀ o27, h26 o27 = none → ∀ h28, h28 = xset h26 o27 (.inl (0, 21, .inl (fun _ => 0))) → ∃ h31, pV h28 a0 12 13 (.ref o27) = some h31 ∧ (((((((0 + 1) + 1) + 1) + 1) + 1) + 1) + 1 ≤ mc ∧ ((((((0 + 6000) + 20) + 15) + 15) + 21) + 21) + 24 ≤ ms ∧ ∀ o32, h31 o32 = none → ∀ h33, h33 = xset h31 o32 (.inl (0, 24, .inl (fun _ => 0))) → ∃ h36, pV h33 a0 12 14 (.ref o32) = some h36 ∧ ((((((((0 + 1) + 1) + 1) + 1) + 1) + 1) + 1) + 1 ≤ mc ∧ (((((((0 + 6000) + 20) + 15) + 15) + 21) + 21) + 24) + 450 ≤ ms ∧ ∀ o37, h36 o37 = none → ∀ h38, h38 = xset h36 o37 (.inl (0, 450, .inl (fun _ => 0))) → ∃ h41, pV h38 a0 12 15 (.ref o37) = some h41 ∧ (((((((((0 + 1) + 1) + 1) + 1) + 1) + 1) + 1) + 1) + 1 ≤ mc ∧ ((((((((0 + 6000) + 20) + 15) + 15) + 21) + 21) + 24) + 450) + 450 ≤ ms ∧ ∀ o42, h41 o42 = none → ∀ h43, h43 = xset h41 o42 (.inl (0, 450, .inl (fun _ => 0))) → ∃ h46, pV h43 a0 12 16 (.ref o42) = some h46 ∧ ((((((((((0 + 1) + 1) + 1) + 1) + 1) + 1) + 1) + 1) + 1) + 1 ≤ mc ∧ (((((((((0 + 6000) + 20) + 15) + 15) + 21) + 21) + 24) + 450) + 450) + 450 ≤ ms ∧ ∀ o47, h46 o47 = none → ∀ h48, h48 = xset h46 o47 (.inl (0, 450, .inl (fun _ => 0))) → ∃ h51, pV h48 a0 12 17 (.ref o47) = some h51 ∧ (((((((((((0 + 1) + 1) + 1) + 1) + 1) + 1) + 1) + 1) + 1) + 1) + 1 ≤ mc ∧ ((((((((((0 + 6000) + 20) + 15) + 15) + 21) + 21) + 24) + 450) + 450) + 450) + 603 ≤ ms ∧ ∀ o52, h51 o52 = none → ∀ h53, h53 = xset h51 o52 (.inl (0, 603, .inl (fun _ => 0))) → ∃ h56, pV h53 a0 12 18 (.ref o52) = some h56 ∧ ((((((((((((0 + 1) + 1) + 1) + 1) + 1) + 1) + 1) + 1) + 1) + 1) + 1) + 1 ≤ mc ∧ (((((((((((0 + 6000) + 20) + 15) + 15) + 21) + 21) + 24) + 450) + 450) + 450) + 603) + 603 ≤ ms ∧ ∀ o57, h56 o57 = none → ∀ h58, h58 = xset h56 o57 (.inl (0, 603, .inl (fun _ => 0))) → ∃ h61, pV h58 a0 12 19 (.ref o57) = some h61 ∧ (((((((((((((0 + 1) + 1) + 1) + 1) + 1) + 1) + 1) + 1) + 1) + 1) + 1) + 1) + 1 ≤ mc ∧ ((((((((((((0 + 6000) + 20) + 15) + 15) + 21) + 21) + 24) + 450) + 450) + 450) + 603) + 603) + 8 ≤ ms ∧ ∀ o62, h61 o62 = none → ∀ h63, h63 = xset h61 o62 (.inl (0, 8, .inl (fun _ => 0))) → ∃ h66, pV h63 a0 12 20 (.ref o62) = some h66 ∧ ((((((((((((((0 + 1) + 1) + 1) + 1) + 1) + 1) + 1) + 1) + 1) + 1) + 1) + 1) + 1) + 1 ≤ mc ∧ (((((((((((((0 + 6000) + 20) + 15) + 15) + 21) + 21) + 24) + 450) + 450) + 450) + 603) + 603) + 8) + 8 ≤ ms ∧ ∀ o67, h66 o67 = none → ∀ h68, h68 = xset h66 o67 (.inl (0, 8, .inl (fun _ => 0))) → ∃ h71, pV h68 a0 12 21 (.ref o67) = some h71 ∧ (((((((((((((((0 + 1) + 1) + 1) + 1) + 1) + 1) + 1) + 1) + 1) + 1) + 1) + 1) + 1) + 1) + 1 ≤ mc ∧ ((((((((((((((0 + 6000) + 20) + 15) + 15) + 21) + 21) + 24) + 450) + 450) + 450) + 603) + 603) + 8) + 8) + 150 ≤ ms ∧ ∀ o72, h71 o72 = none → ∀ h73, h73 = xset h71 o72 (.inl (0, 150, .inl (fun _ => 0))) → ∃ h76, pV h73 a0 12 22 (.ref o72) = some h76 ∧ ((((((((((((((((0 + 1) + 1) + 1) + 1) + 1) + 1) + 1) + 1) + 1) + 1) + 1) + 1) + 1) + 1) + 1) + 1 ≤ mc ∧ (((((((((((((((0 + 6000) + 20) + 15) + 15) + 21) + 21) + 24) + 450) + 450) + 450) + 603) + 603) + 8) + 8) + 150) + 150 ≤ ms ∧ ∀ o77, h76 o77 = none → ∀ h78, h78 = xset h76 o77 (.inl (0, 150, .inl (fun _ => 0))) → ∃ h81, pV h78 a0 12 23 (.ref o77) = some h81 ∧ (((((((((((((((((0 + 1) + 1) + 1) + 1) + 1) + 1) + 1) + 1) + 1) + 1) + 1) + 1) + 1) + 1) + 1) + 1) + 1 ≤ mc ∧ ((((((((((((((((0 + 6000) + 20) + 15) + 15) + 21) + 21) + 24) + 450) + 450) + 450) + 603) + 603) + 8) + 8) + 150) + 150) + 2640 ≤ ms ∧ ∀ o82, h81 o82 = none → ∀ h83, h83 = xset h81 o82 (.inl (1, 2640, .inl (fun _ => 0))) → ∃ h86, pV h83 a0 12 24 (.ref o82) = some h86 ∧ ((((((((((((((((((0 + 1) + 1) + 1) + 1) + 1) + 1) + 1) + 1) + 1) + 1) + 1) + 1) + 1) + 1) + 1) + 1) + 1) + 1 ≤ mc ∧ (((((((((((((((((0 + 6000) + 20) + 15) + 15) + 21) + 21) + 24) + 450) + 450) + 450) + 603) + 603) + 8) + 8) + 150) + 150) + 2640) + 66 ≤ ms ∧ ∀ o87, h86 o87 = none → ∀ h88, h88 = xset h86 o87 (.inl (0, 66, .inl (fun _ => 0))) → ∃ h91, pV h88 a0 12 25 (.ref o87) = some h91 ∧ (((((((((((((((((((0 + 1) + 1) + 1) + 1) + 1) + 1) + 1) + 1) + 1) + 1) + 1) + 1) + 1) + 1) + 1) + 1) + 1) + 1) + 1 ≤ mc ∧ ((((((((((((((((((0 + 6000) + 20) + 15) + 15) + 21) + 21) + 24) + 450) + 450) + 450) + 603) + 603) + 8) + 8) + 150) + 150) + 2640) + 66) + 150 ≤ ms ∧ ∀ o92, h91 o92 = none → ∀ h93, h93 = xset h91 o92 (.inl (0, 150, .inl (fun _ => 0))) → ∃ h96, pV h93 a0 12 26 (.ref o92) = some h96 ∧ ((((((((((((((((((((0 + 1) + 1) + 1) + 1) + 1) + 1) + 1) + 1) + 1) + 1) + 1) + 1) + 1) + 1) + 1) + 1) + 1) + 1) + 1) + 1 ≤ mc ∧ (((((((((((((((((((0 + 6000) + 20) + 15) + 15) + 21) + 21) + 24) + 450) + 450) + 450) + 603) + 603) + 8) + 8) + 150) + 150) + 2640) + 66) + 150) + 300 ≤ ms ∧ ∀ o97, h96 o97 = none → ∀ h98, h98 = xset h96 o97 (.inl (0, 300, .inl (fun _ => 0))) → ∃ h101, pV h98 a0 12 27 (.ref o97) = some h101 ∧ (((((((((((((((((((((0 + 1) + 1) + 1) + 1) + 1) + 1) + 1) + 1) + 1) + 1) + 1) + 1) + 1) + 1) + 1) + 1) + 1) + 1) + 1) + 1) + 1 ≤ mc ∧ ((((((((((((((((((((0 + 6000) + 20) + 15) + 15) + 21) + 21) + 24) + 450) + 450) + 450) + 603) + 603) + 8) + 8) + 150) + 150) + 2640) + 66) + 150) + 300) + 201 ≤ ms ∧ ∀ o102, h101 o102 = none → ∀ h103, h103 = xset h101 o102 (.inl (2, 201, .inl (fun _ => 0))) → ∃ h106, pV h103 a0 12 28 (.ref o102) = some h106 ∧ ((((((((((((((((((((((0 + 1) + 1) + 1) + 1) + 1) + 1) + 1) + 1) + 1) + 1) + 1) + 1) + 1) + 1) + 1) + 1) + 1) + 1) + 1) + 1) + 1) + 1 ≤ mc ∧ (((((((((((((((((((((0 + 6000) + 20) + 15) + 15) + 21) + 21) + 24) + 450) + 450) + 450) + 603) + 603) + 8) + 8) + 150) + 150) + 2640) + 66) + 150) + 300) + 201) + 2 ≤ ms ∧ ∀ o107, h106 o107 = none → ∀ h108, h108 = xset h106 o107 (.inl (2, 2, .inl (fun _ => 0))) → ∃ h111, pV h108 a0 12 30 (.ref o107) = some h111 ∧ (((((((((((((((((((((((0 + 1) + 1) + 1) + 1) + 1) + 1) + 1) + 1) + 1) + 1) + 1) + 1) + 1) + 1) + 1) + 1) + 1) + 1) + 1) + 1) + 1) + 1) + 1 ≤ mc ∧ ((((((((((((((((((((((0 + 6000) + 20) + 15) + 15) + 21) + 21) + 24) + 450) + 450) + 450) + 603) + 603) + 8) + 8) + 150) + 150) + 2640) + 66) + 150) + 300) + 201) + 2) + 2 ≤ ms ∧ ∀ o112, h111 o112 = none → ∀ h113, h113 = xset h111 o112 (.inl (0, 2, .inl (fun _ => 0))) → ∃ h116, pV h113 a0 12 31 (.ref o112) = some h116 ∧ ((((((((((((((((((((((((0 + 1) + 1) + 1) + 1) + 1) + 1) + 1) + 1) + 1) + 1) + 1) + 1) + 1) + 1) + 1) + 1) + 1) + 1) + 1) + 1) + 1) + 1) + 1) + 1 ≤ mc ∧ (((((((((((((((((((((((0 + 6000) + 20) + 15) + 15) + 21) + 21) + 24) + 450) + 450) + 450) + 603) + 603) + 8) + 8) + 150) + 150) + 2640) + 66) + 150) + 300) + 201) + 2) + 2) + 402 ≤ ms ∧ ∀ o117, h116 o117 = none → ∀ h118, h118 = xset h116 o117 (.inl (3, 402, .inr (.inl (fun _ => 0)))) → ∃ h121, pV h118 a0 12 32 (.ref o117) = some h121 ∧ (((((((((((((((((((((((((0 + 1) + 1) + 1) + 1) + 1) + 1) + 1) + 1) + 1) + 1) + 1) + 1) + 1) + 1) + 1) + 1) + 1) + 1) + 1) + 1) + 1) + 1) + 1) + 1) + 1 ≤ mc ∧ ((((((((((((((((((((((((0 + 6000) + 20) + 15) + 15) + 21) + 21) + 24) + 450) + 450) + 450) + 603) + 603) + 8) + 8) + 150) + 150) + 2640) + 66) + 150) + 300) + 201) + 2) + 2) + 402) + 4096 ≤ ms ∧ ∀ o122, h121 o122 = none → ∀ h123, h123 = xset h121 o122 (.inl (3, 4096, .inr (.inl (fun _ => 0)))) → ∃ h126, pV h123 a0 12 34 (.ref o122) = some h126 ∧ ((((((((((((((((((((((((((0 + 1) + 1) + 1) + 1) + 1) + 1) + 1) + 1) + 1) + 1) + 1) + 1) + 1) + 1) + 1) + 1) + 1) + 1) + 1) + 1) + 1) + 1) + 1) + 1) + 1) + 1 ≤ mc ∧ (((((((((((((((((((((((((0 + 6000) + 20) + 15) + 15) + 21) + 21) + 24) + 450) + 450) + 450) + 603) + 603) + 8) + 8) + 150) + 150) + 2640) + 66) + 150) + 300) + 201) + 2) + 2) + 402) + 4096) + 131072 ≤ ms ∧ ∀ o127, h126 o127 = none → ∀ h128, h128 = xset h126 o127 (.inl (4, 131072, .inl (fun _ => 0))) → ∃ h131, pV h128 a0 12 35 (.ref o127) = some h131 ∧ (((((((((((((((((((((((((((0 + 1) + 1) + 1) + 1) + 1) + 1) + 1) + 1) + 1) + 1) + 1) + 1) + 1) + 1) + 1) + 1) + 1) + 1) + 1) + 1) + 1) + 1) + 1) + 1) + 1) + 1) + 1 ≤ mc ∧ ((((((((((((((((((((((((((0 + 6000) + 20) + 15) + 15) + 21) + 21) + 24) + 450) + 450) + 450) + 603) + 603) + 8) + 8) + 150) + 150) + 2640) + 66) + 150) + 300) + 201) + 2) + 2) + 402) + 4096) + 131072) + 4096 ≤ ms ∧ ∀ o132, h131 o132 = none → ∀ h133, h133 = xset h131 o132 (.inl (0, 4096, .inl (fun _ => 0))) → ∃ h136, pV h133 a0 12 36 (.ref o132) = some h136 ∧ ((((((((((((((((((((((((((((0 + 1) + 1) + 1) + 1) + 1) + 1) + 1) + 1) + 1) + 1) + 1) + 1) + 1) + 1) + 1) + 1) + 1) + 1) + 1) + 1) + 1) + 1) + 1) + 1) + 1) + 1) + 1) + 1 ≤ mc ∧ (((((((((((((((((((((((((((0 + 6000) + 20) + 15) + 15) + 21) + 21) + 24) + 450) + 450) + 450) + 603) + 603) + 8) + 8) + 150) + 150) + 2640) + 66) + 150) + 300) + 201) + 2) + 2) + 402) + 4096) + 131072) + 4096) + 4096 ≤ ms ∧ ∀ o137, h136 o137 = none → ∀ h138, h138 = xset h136 o137 (.inl (0, 4096, .inl (fun _ => 0))) → ∃ h141, pV h138 a0 12 37 (.ref o137) = some h141 ∧ (((((((((((((((((((((((((((((0 + 1) + 1) + 1) + 1) + 1) + 1) + 1) + 1) + 1) + 1) + 1) + 1) + 1) + 1) + 1) + 1) + 1) + 1) + 1) + 1) + 1) + 1) + 1) + 1) + 1) + 1) + 1) + 1) + 1 ≤ mc ∧ ((((((((((((((((((((((((((((0 + 6000) + 20) + 15) + 15) + 21) + 21) + 24) + 450) + 450) + 450) + 603) + 603) + 8) + 8) + 150) + 150) + 2640) + 66) + 150) + 300) + 201) + 2) + 2) + 402) + 4096) + 131072) + 4096) + 4096) + 4096 ≤ ms ∧ ∀ o142, h141 o142 = none → ∀ h143, h143 = xset h141 o142 (.inl (2, 4096, .inl (fun _ => 0))) → ∃ h146, pV h143 a0 12 42 (.ref o142) = some h146 ∧ ((((((((((((((((((((((((((((((0 + 1) + 1) + 1) + 1) + 1) + 1) + 1) + 1) + 1) + 1) + 1) + 1) + 1) + 1) + 1) + 1) + 1) + 1) + 1) + 1) + 1) + 1) + 1) + 1) + 1) + 1) + 1) + 1) + 1) + 1 ≤ mc ∧ (((((((((((((((((((((((((((((0 + 6000) + 20) + 15) + 15) + 21) + 21) + 24) + 450) + 450) + 450) + 603) + 603) + 8) + 8) + 150) + 150) + 2640) + 66) + 150) + 300) + 201) + 2) + 2) + 402) + 4096) + 131072) + 4096) + 4096) + 4096) + 4096 ≤ ms ∧ ∀ o147, h146 o147 = none → ∀ h148, h148 = xset h146 o147 (.inl (2, 4096, .inl (fun _ => 0))) → ∃ h151, pV h148 a0 12 43 (.ref o147) = some h151 ∧ (((((((((((((((((((((((((((((((0 + 1) + 1) + 1) + 1) + 1) + 1) + 1) + 1) + 1) + 1) + 1) + 1) + 1) + 1) + 1) + 1) + 1) + 1) + 1) + 1) + 1) + 1) + 1) + 1) + 1) + 1) + 1) + 1) + 1) + 1) + 1 ≤ mc ∧ ((((((((((((((((((((((((((((((0 + 6000) + 20) + 15) + 15) + 21) + 21) + 24) + 450) + 450) + 450) + 603) + 603) + 8) + 8) + 150) + 150) + 2640) + 66) + 150) + 300) + 201) + 2) + 2) + 402) + 4096) + 131072) + 4096) + 4096) + 4096) + 4096) + 4096 ≤ ms ∧ ∀ o152, h151 o152 = none → ∀ h153, h153 = xset h151 o152 (.inl (2, 4096, .inl (fun _ => 0))) → ∃ h156, pV h153 a0 12 44 (.ref o152) = some h156 ∧ ((((((((((((((((((((((((((((((((0 + 1) + 1) + 1) + 1) + 1) + 1) + 1) + 1) + 1) + 1) + 1) + 1) + 1) + 1) + 1) + 1) + 1) + 1) + 1) + 1) + 1) + 1) + 1) + 1) + 1) + 1) + 1) + 1) + 1) + 1) + 1) + 1 ≤ mc ∧ (((((((((((((((((((((((((((((((0 + 6000) + 20) + 15) + 15) + 21) + 21) + 24) + 450) + 450) + 450) + 603) + 603) + 8) + 8) + 150) + 150) + 2640) + 66) + 150) + 300) + 201) + 2) + 2) + 402) + 4096) + 131072) + 4096) + 4096) + 4096) + 4096) + 4096) + 256 ≤ ms ∧ ∀ o157, h156 o157 = none → ∀ h158, h158 = xset h156 o157 (.inl (0, 256, .inl (fun _ => 0))) → ∃ h161, pV h158 a0 12 45 (.ref o157) = some h161 ∧ (((((((((((((((((((((((((((((((((0 + 1) + 1) + 1) + 1) + 1) + 1) + 1) + 1) + 1) + 1) + 1) + 1) + 1) + 1) + 1) + 1) + 1) + 1) + 1) + 1) + 1) + 1) + 1) + 1) + 1) + 1) + 1) + 1) + 1) + 1) + 1) + 1) + 1 ≤ mc ∧ ((((((((((((((((((((((((((((((((0 + 6000) + 20) + 15) + 15) + 21) + 21) + 24) + 450) + 450) + 450) + 603) + 603) + 8) + 8) + 150) + 150) + 2640) + 66) + 150) + 300) + 201) + 2) + 2) + 402) + 4096) + 131072) + 4096) + 4096) + 4096) + 4096) + 4096) + 256) + 804 ≤ ms ∧ ∀ o162, h161 o162 = none → ∀ h163, h163 = xset h161 o162 (.inl (2, 804, .inl (fun _ => 0))) → ∃ h166, pV h163 a0 12 47 (.ref o162) = some h166 ∧ ((((((((((((((((((((((((((((((((((0 + 1) + 1) + 1) + 1) + 1) + 1) + 1) + 1) + 1) + 1) + 1) + 1) + 1) + 1) + 1) + 1) + 1) + 1) + 1) + 1) + 1) + 1) + 1) + 1) + 1) + 1) + 1) + 1) + 1) + 1) + 1) + 1) + 1) + 1 ≤ mc ∧ (((((((((((((((((((((((((((((((((0 + 6000) + 20) + 15) + 15) + 21) + 21) + 24) + 450) + 450) + 450) + 603) + 603) + 8) + 8) + 150) + 150) + 2640) + 66) + 150) + 300) + 201) + 2) + 2) + 402) + 4096) + 131072) + 4096) + 4096) + 4096) + 4096) + 4096) + 256) + 804) + 402 ≤ ms ∧ ∀ o167, h166 o167 = none → ∀ h168, h168 = xset h166 o167 (.inl (0, 402, .inl (fun _ => 0))) → ∃ h171, pV h168 a0 12 48 (.ref o167) = some h171 ∧ (((((((((((((((((((((((((((((((((((0 + 1) + 1) + 1) + 1) + 1) + 1) + 1) + 1) + 1) + 1) + 1) + 1) + 1) + 1) + 1) + 1) + 1) + 1) + 1) + 1) + 1) + 1) + 1) + 1) + 1) + 1) + 1) + 1) + 1) + 1) + 1) + 1) + 1) + 1) + 1 ≤ mc ∧ ((((((((((((((((((((((((((((((((((0 + 6000) + 20) + 15) + 15) + 21) + 21) + 24) + 450) + 450) + 450) + 603) + 603) + 8) + 8) + 150) + 150) + 2640) + 66) + 150) + 300) + 201) + 2) + 2) + 402) + 4096) + 131072) + 4096) + 4096) + 4096) + 4096) + 4096) + 256) + 804) + 402) + 300 ≤ ms ∧ ∀ o172, h171 o172 = none → ∀ h173, h173 = xset h171 o172 (.inl (0, 300, .inl (fun _ => 0))) → ∃ h176, pV h173 a0 12 49 (.ref o172) = some h176 ∧ ((((((((((((((((((((((((((((((((((((0 + 1) + 1) + 1) + 1) + 1) + 1) + 1) + 1) + 1) + 1) + 1) + 1) + 1) + 1) + 1) + 1) + 1) + 1) + 1) + 1) + 1) + 1) + 1) + 1) + 1) + 1) + 1) + 1) + 1) + 1) + 1) + 1) + 1) + 1) + 1) + 1 ≤ mc ∧ (((((((((((((((((((((((((((((((((((0 + 6000) + 20) + 15) + 15) + 21) + 21) + 24) + 450) + 450) + 450) + 603) + 603) + 8) + 8) + 150) + 150) + 2640) + 66) + 150) + 300) + 201) + 2) + 2) + 402) + 4096) + 131072) + 4096) + 4096) + 4096) + 4096) + 4096) + 256) + 804) + 402) + 300) + 300 ≤ ms ∧ ∀ o177, h176 o177 = none → ∀ h178, h178 = xset h176 o177 (.inl (0, 300, .inl (fun _ => 0))) → ∃ h181, pV h178 a0 12 50 (.ref o177) = some h181 ∧ Q h181))))))))))))))))))))))))))))))))))))
set_option maxRecDepth 100000 in
set_option maxHeartbeats 4000000 in
theorem t_Model_init {l : Launch} {G : xG} {z : Nat → Nat} {mc ms : Nat} {Q : xh → Prop} {a0 : Nat} {hp : xh} (hf : wp_Model_init z mc ms Q a0 hp) : xM l G z y_Model_init b_Model_init 1 none (rm_Model_init mc ms) [.ref a0] hp (xqv Q) := by
  refine xM_of (by decide) (Nat.le_of_ble_eq_true rfl) (lv0 := [(0, .ref a0)]) rfl ?_
  intro p e s m args below meth c A Qw X hret
  unfold wp_Model_init at hf
  refine x_aload_n X (q := 0) d_Model_init_0 rfl 1 rfl ?_
  refine x_objInit X lm_Model_1 obj_im obj_cd (Nat.le_of_ble_eq_true rfl) (Nat.le_of_ble_eq_true rfl) d_Model_init_1 4 rfl ?_
  refine x_aload_n X (q := 0) d_Model_init_4 rfl 5 rfl ?_
  refine x_sipush X (v := 6000) d_Model_init_5 (by decide) 8 rfl ?_
  have hk3 := hf.1
  have hn4 := hf.2.1
  refine x_new_b X hf rfl ac_byte (by decide) (by decide) (by decide) d_Model_init_8 10 rfl (fun h2 o1 hf => ?_)
  refine x_putF X hf (ci := 12) (j := 1) (ty := (.array .byte)) rfl (by decide) rfl lf_Model_7 rfl rfl rfl (by decide +kernel) rfl rfl d_Model_init_10 13 rfl (fun h5 hf => ?_)
  refine x_aload_n X (q := 0) d_Model_init_13 rfl 14 rfl ?_
  refine x_bipush X (v := 20) d_Model_init_14 (by decide) 16 rfl ?_
  have hk8 := hf.1
  have hn9 := hf.2.1
  refine x_new_b X hf rfl ac_byte (by decide) (by decide) (by decide) d_Model_init_16 18 rfl (fun h7 o6 hf => ?_)
  refine x_putF X hf (ci := 12) (j := 2) (ty := (.array .byte)) rfl (by decide) rfl lf_Model_13 rfl rfl rfl (by decide +kernel) rfl rfl d_Model_init_18 21 rfl (fun h10 hf => ?_)
  refine x_aload_n X (q := 0) d_Model_init_21 rfl 22 rfl ?_
  refine x_iconst X (v := (-1)) d_Model_init_22 (by decide) 23 rfl ?_
  refine x_put X hf (ci := 12) (j := 5) (ty := .int) rfl (by decide) rfl lf_Model_16 rfl (by decide +kernel) rfl rfl d_Model_init_23 26 rfl (fun h11 hf => ?_)
  refine x_aload_n X (q := 0) d_Model_init_26 rfl 27 rfl ?_
  refine x_bipush X (v := 15) d_Model_init_27 (by decide) 29 rfl ?_
  have hk14 := hf.1
  have hn15 := hf.2.1
  refine x_new_i X hf rfl ac_int (by decide) (by decide) (by decide) d_Model_init_29 31 rfl (fun h13 o12 hf => ?_)
  refine x_putF X hf (ci := 12) (j := 10) (ty := (.array .int)) rfl (by decide) rfl lf_Model_20 rfl rfl rfl (by decide +kernel) rfl rfl d_Model_init_31 34 rfl (fun h16 hf => ?_)
  refine x_aload_n X (q := 0) d_Model_init_34 rfl 35 rfl ?_
  refine x_bipush X (v := 15) d_Model_init_35 (by decide) 37 rfl ?_
  have hk19 := hf.1
  have hn20 := hf.2.1
  refine x_new_i X hf rfl ac_int (by decide) (by decide) (by decide) d_Model_init_37 39 rfl (fun h18 o17 hf => ?_)
  refine x_putF X hf (ci := 12) (j := 11) (ty := (.array .int)) rfl (by decide) rfl lf_Model_24 rfl rfl rfl (by decide +kernel) rfl rfl d_Model_init_39 42 rfl (fun h21 hf => ?_)
  refine x_aload_n X (q := 0) d_Model_init_42 rfl 43 rfl ?_
  refine x_bipush X (v := 21) d_Model_init_43 (by decide) 45 rfl ?_
  have hk24 := hf.1
  have hn25 := hf.2.1
  refine x_new_i X hf rfl ac_int (by decide) (by decide) (by decide) d_Model_init_45 47 rfl (fun h23 o22 hf => ?_)
  refine x_putF X hf (ci := 12) (j := 12) (ty := (.array .int)) rfl (by decide) rfl lf_Model_27 rfl rfl rfl (by decide +kernel) rfl rfl d_Model_init_47 50 rfl (fun h26 hf => ?_)
  refine x_aload_n X (q := 0) d_Model_init_50 rfl 51 rfl ?_
  refine x_bipush X (v := 21) d_Model_init_51 (by decide) 53 rfl ?_
  have hk29 := hf.1
  have hn30 := hf.2.1
  refine x_new_i X hf rfl ac_int (by decide) (by decide) (by decide) d_Model_init_53 55 rfl (fun h28 o27 hf => ?_)
  refine x_putF X hf (ci := 12) (j := 13) (ty := (.array .int)) rfl (by decide) rfl lf_Model_30 rfl rfl rfl (by decide +kernel) rfl rfl d_Model_init_55 58 rfl (fun h31 hf => ?_)
  refine x_aload_n X (q := 0) d_Model_init_58 rfl 59 rfl ?_
  refine x_bipush X (v := 24) d_Model_init_59 (by decide) 61 rfl ?_
  have hk34 := hf.1
  have hn35 := hf.2.1
  refine x_new_i X hf rfl ac_int (by decide) (by decide) (by decide) d_Model_init_61 63 rfl (fun h33 o32 hf => ?_)
  refine x_putF X hf (ci := 12) (j := 14) (ty := (.array .int)) rfl (by decide) rfl lf_Model_33 rfl rfl rfl (by decide +kernel) rfl rfl d_Model_init_63 66 rfl (fun h36 hf => ?_)
  refine x_aload_n X (q := 0) d_Model_init_66 rfl 67 rfl ?_
  refine x_sipush X (v := 450) d_Model_init_67 (by decide) 70 rfl ?_
  have hk39 := hf.1
  have hn40 := hf.2.1
  refine x_new_i X hf rfl ac_int (by decide) (by decide) (by decide) d_Model_init_70 72 rfl (fun h38 o37 hf => ?_)
  refine x_putF X hf (ci := 12) (j := 15) (ty := (.array .int)) rfl (by decide) rfl lf_Model_36 rfl rfl rfl (by decide +kernel) rfl rfl d_Model_init_72 75 rfl (fun h41 hf => ?_)
  refine x_aload_n X (q := 0) d_Model_init_75 rfl 76 rfl ?_
  refine x_sipush X (v := 450) d_Model_init_76 (by decide) 79 rfl ?_
  have hk44 := hf.1
  have hn45 := hf.2.1
  refine x_new_i X hf rfl ac_int (by decide) (by decide) (by decide) d_Model_init_79 81 rfl (fun h43 o42 hf => ?_)
  refine x_putF X hf (ci := 12) (j := 16) (ty := (.array .int)) rfl (by decide) rfl lf_Model_39 rfl rfl rfl (by decide +kernel) rfl rfl d_Model_init_81 84 rfl (fun h46 hf => ?_)
  refine x_aload_n X (q := 0) d_Model_init_84 rfl 85 rfl ?_
  refine x_sipush X (v := 450) d_Model_init_85 (by decide) 88 rfl ?_
  have hk49 := hf.1
  have hn50 := hf.2.1
  refine x_new_i X hf rfl ac_int (by decide) (by decide) (by decide) d_Model_init_88 90 rfl (fun h48 o47 hf => ?_)
  refine x_putF X hf (ci := 12) (j := 17) (ty := (.array .int)) rfl (by decide) rfl lf_Model_42 rfl rfl rfl (by decide +kernel) rfl rfl d_Model_init_90 93 rfl (fun h51 hf => ?_)
  refine x_aload_n X (q := 0) d_Model_init_93 rfl 94 rfl ?_
  refine x_sipush X (v := 603) d_Model_init_94 (by decide) 97 rfl ?_
  have hk54 := hf.1
  have hn55 := hf.2.1
  refine x_new_i X hf rfl ac_int (by decide) (by decide) (by decide) d_Model_init_97 99 rfl (fun h53 o52 hf => ?_)
  refine x_putF X hf (ci := 12) (j := 18) (ty := (.array .int)) rfl (by decide) rfl lf_Model_45 rfl rfl rfl (by decide +kernel) rfl rfl d_Model_init_99 102 rfl (fun h56 hf => ?_)
  refine x_aload_n X (q := 0) d_Model_init_102 rfl 103 rfl ?_
  refine x_sipush X (v := 603) d_Model_init_103 (by decide) 106 rfl ?_
  have hk59 := hf.1
  have hn60 := hf.2.1
  refine x_new_i X hf rfl ac_int (by decide) (by decide) (by decide) d_Model_init_106 108 rfl (fun h58 o57 hf => ?_)
  refine x_putF X hf (ci := 12) (j := 19) (ty := (.array .int)) rfl (by decide) rfl lf_Model_48 rfl rfl rfl (by decide +kernel) rfl rfl d_Model_init_108 111 rfl (fun h61 hf => ?_)
  refine x_aload_n X (q := 0) d_Model_init_111 rfl 112 rfl ?_
  refine x_bipush X (v := 8) d_Model_init_112 (by decide) 114 rfl ?_
  have hk64 := hf.1
  have hn65 := hf.2.1
  refine x_new_i X hf rfl ac_int (by decide) (by decide) (by decide) d_Model_init_114 116 rfl (fun h63 o62 hf => ?_)
  refine x_putF X hf (ci := 12) (j := 20) (ty := (.array .int)) rfl (by decide) rfl lf_Model_51 rfl rfl rfl (by decide +kernel) rfl rfl d_Model_init_116 119 rfl (fun h66 hf => ?_)
  refine x_aload_n X (q := 0) d_Model_init_119 rfl 120 rfl ?_
  refine x_bipush X (v := 8) d_Model_init_120 (by decide) 122 rfl ?_
  have hk69 := hf.1
  have hn70 := hf.2.1
  refine x_new_i X hf rfl ac_int (by decide) (by decide) (by decide) d_Model_init_122 124 rfl (fun h68 o67 hf => ?_)
  refine x_putF X hf (ci := 12) (j := 21) (ty := (.array .int)) rfl (by decide) rfl lf_Model_54 rfl rfl rfl (by decide +kernel) rfl rfl d_Model_init_124 127 rfl (fun h71 hf => ?_)
  refine x_aload_n X (q := 0) d_Model_init_127 rfl 128 rfl ?_
  refine x_sipush X (v := 150) d_Model_init_128 (by decide) 131 rfl ?_
  have hk74 := hf.1
  have hn75 := hf.2.1
  refine x_new_i X hf rfl ac_int (by decide) (by decide) (by decide) d_Model_init_131 133 rfl (fun h73 o72 hf => ?_)
  refine x_putF X hf (ci := 12) (j := 22) (ty := (.array .int)) rfl (by decide) rfl lf_Model_57 rfl rfl rfl (by decide +kernel) rfl rfl d_Model_init_133 136 rfl (fun h76 hf => ?_)
  refine x_aload_n X (q := 0) d_Model_init_136 rfl 137 rfl ?_
  refine x_sipush X (v := 150) d_Model_init_137 (by decide) 140 rfl ?_
  have hk79 := hf.1
  have hn80 := hf.2.1
  refine x_new_i X hf rfl ac_int (by decide) (by decide) (by decide) d_Model_init_140 142 rfl (fun h78 o77 hf => ?_)
  refine x_putF X hf (ci := 12) (j := 23) (ty := (.array .int)) rfl (by decide) rfl lf_Model_60 rfl rfl rfl (by decide +kernel) rfl rfl d_Model_init_142 145 rfl (fun h81 hf => ?_)
  refine x_aload_n X (q := 0) d_Model_init_145 rfl 146 rfl ?_
  refine x_sipush X (v := 2640) d_Model_init_146 (by decide) 149 rfl ?_
  have hk84 := hf.1
  have hn85 := hf.2.1
  refine x_new_b X hf rfl ac_byte (by decide) (by decide) (by decide) d_Model_init_149 151 rfl (fun h83 o82 hf => ?_)
  refine x_putF X hf (ci := 12) (j := 24) (ty := (.array .byte)) rfl (by decide) rfl lf_Model_63 rfl rfl rfl (by decide +kernel) rfl rfl d_Model_init_151 154 rfl (fun h86 hf => ?_)
  refine x_aload_n X (q := 0) d_Model_init_154 rfl 155 rfl ?_
  refine x_bipush X (v := 66) d_Model_init_155 (by decide) 157 rfl ?_
  have hk89 := hf.1
  have hn90 := hf.2.1
  refine x_new_i X hf rfl ac_int (by decide) (by decide) (by decide) d_Model_init_157 159 rfl (fun h88 o87 hf => ?_)
  refine x_putF X hf (ci := 12) (j := 25) (ty := (.array .int)) rfl (by decide) rfl lf_Model_66 rfl rfl rfl (by decide +kernel) rfl rfl d_Model_init_159 162 rfl (fun h91 hf => ?_)
  refine x_aload_n X (q := 0) d_Model_init_162 rfl 163 rfl ?_
  refine x_sipush X (v := 150) d_Model_init_163 (by decide) 166 rfl ?_
  have hk94 := hf.1
  have hn95 := hf.2.1
  refine x_new_i X hf rfl ac_int (by decide) (by decide) (by decide) d_Model_init_166 168 rfl (fun h93 o92 hf => ?_)
  refine x_putF X hf (ci := 12) (j := 26) (ty := (.array .int)) rfl (by decide) rfl lf_Model_69 rfl rfl rfl (by decide +kernel) rfl rfl d_Model_init_168 171 rfl (fun h96 hf => ?_)
  refine x_aload_n X (q := 0) d_Model_init_171 rfl 172 rfl ?_
  refine x_sipush X (v := 300) d_Model_init_172 (by decide) 175 rfl ?_
  have hk99 := hf.1
  have hn100 := hf.2.1
  refine x_new_i X hf rfl ac_int (by decide) (by decide) (by decide) d_Model_init_175 177 rfl (fun h98 o97 hf => ?_)
  refine x_putF X hf (ci := 12) (j := 27) (ty := (.array .int)) rfl (by decide) rfl lf_Model_72 rfl rfl rfl (by decide +kernel) rfl rfl d_Model_init_177 180 rfl (fun h101 hf => ?_)
  refine x_aload_n X (q := 0) d_Model_init_180 rfl 181 rfl ?_
  refine x_sipush X (v := 201) d_Model_init_181 (by decide) 184 rfl ?_
  have hk104 := hf.1
  have hn105 := hf.2.1
  refine x_new_z X hf rfl ac_boolean (by decide) (by decide) (by decide) d_Model_init_184 186 rfl (fun h103 o102 hf => ?_)
  refine x_putF X hf (ci := 12) (j := 28) (ty := (.array .boolean)) rfl (by decide) rfl lf_Model_75 rfl rfl rfl (by decide +kernel) rfl rfl d_Model_init_186 189 rfl (fun h106 hf => ?_)
  refine x_aload_n X (q := 0) d_Model_init_189 rfl 190 rfl ?_
  refine x_iconst X (v := 2) d_Model_init_190 (by decide) 191 rfl ?_
  have hk109 := hf.1
  have hn110 := hf.2.1
  refine x_new_z X hf rfl ac_boolean (by decide) (by decide) (by decide) d_Model_init_191 193 rfl (fun h108 o107 hf => ?_)
  refine x_putF X hf (ci := 12) (j := 30) (ty := (.array .boolean)) rfl (by decide) rfl lf_Model_79 rfl rfl rfl (by decide +kernel) rfl rfl d_Model_init_193 196 rfl (fun h111 hf => ?_)
  refine x_aload_n X (q := 0) d_Model_init_196 rfl 197 rfl ?_
  refine x_iconst X (v := 2) d_Model_init_197 (by decide) 198 rfl ?_
  have hk114 := hf.1
  have hn115 := hf.2.1
  refine x_new_i X hf rfl ac_int (by decide) (by decide) (by decide) d_Model_init_198 200 rfl (fun h113 o112 hf => ?_)
  refine x_putF X hf (ci := 12) (j := 31) (ty := (.array .int)) rfl (by decide) rfl lf_Model_82 rfl rfl rfl (by decide +kernel) rfl rfl d_Model_init_200 203 rfl (fun h116 hf => ?_)
  refine x_aload_n X (q := 0) d_Model_init_203 rfl 204 rfl ?_
  refine x_sipush X (v := 402) d_Model_init_204 (by decide) 207 rfl ?_
  have hk119 := hf.1
  have hn120 := hf.2.1
  refine x_new_l X hf rfl ac_long (by decide) (by decide) (by decide) d_Model_init_207 209 rfl (fun h118 o117 hf => ?_)
  refine x_putF X hf (ci := 12) (j := 32) (ty := (.array .long)) rfl (by decide) rfl lf_Model_85 rfl rfl rfl (by decide +kernel) rfl rfl d_Model_init_209 212 rfl (fun h121 hf => ?_)
  refine x_aload_n X (q := 0) d_Model_init_212 rfl 213 rfl ?_
  refine x_sipush X (v := 4096) d_Model_init_213 (by decide) 216 rfl ?_
  have hk124 := hf.1
  have hn125 := hf.2.1
  refine x_new_l X hf rfl ac_long (by decide) (by decide) (by decide) d_Model_init_216 218 rfl (fun h123 o122 hf => ?_)
  refine x_putF X hf (ci := 12) (j := 34) (ty := (.array .long)) rfl (by decide) rfl lf_Model_89 rfl rfl rfl (by decide +kernel) rfl rfl d_Model_init_218 221 rfl (fun h126 hf => ?_)
  refine x_aload_n X (q := 0) d_Model_init_221 rfl 222 rfl ?_
  refine x_ldc X (v := 131072) co_Model_92 d_Model_init_222 224 rfl ?_
  have hk129 := hf.1
  have hn130 := hf.2.1
  refine x_new_c X hf rfl ac_char (by decide) (by decide) (by decide) d_Model_init_224 226 rfl (fun h128 o127 hf => ?_)
  refine x_putF X hf (ci := 12) (j := 35) (ty := (.array .char)) rfl (by decide) rfl lf_Model_93 rfl rfl rfl (by decide +kernel) rfl rfl d_Model_init_226 229 rfl (fun h131 hf => ?_)
  refine x_aload_n X (q := 0) d_Model_init_229 rfl 230 rfl ?_
  refine x_sipush X (v := 4096) d_Model_init_230 (by decide) 233 rfl ?_
  have hk134 := hf.1
  have hn135 := hf.2.1
  refine x_new_i X hf rfl ac_int (by decide) (by decide) (by decide) d_Model_init_233 235 rfl (fun h133 o132 hf => ?_)
  refine x_putF X hf (ci := 12) (j := 36) (ty := (.array .int)) rfl (by decide) rfl lf_Model_97 rfl rfl rfl (by decide +kernel) rfl rfl d_Model_init_235 238 rfl (fun h136 hf => ?_)
  refine x_aload_n X (q := 0) d_Model_init_238 rfl 239 rfl ?_
  refine x_sipush X (v := 4096) d_Model_init_239 (by decide) 242 rfl ?_
  have hk139 := hf.1
  have hn140 := hf.2.1
  refine x_new_i X hf rfl ac_int (by decide) (by decide) (by decide) d_Model_init_242 244 rfl (fun h138 o137 hf => ?_)
  refine x_putF X hf (ci := 12) (j := 37) (ty := (.array .int)) rfl (by decide) rfl lf_Model_100 rfl rfl rfl (by decide +kernel) rfl rfl d_Model_init_244 247 rfl (fun h141 hf => ?_)
  refine x_aload_n X (q := 0) d_Model_init_247 rfl 248 rfl ?_
  refine x_sipush X (v := 4096) d_Model_init_248 (by decide) 251 rfl ?_
  have hk144 := hf.1
  have hn145 := hf.2.1
  refine x_new_z X hf rfl ac_boolean (by decide) (by decide) (by decide) d_Model_init_251 253 rfl (fun h143 o142 hf => ?_)
  refine x_putF X hf (ci := 12) (j := 42) (ty := (.array .boolean)) rfl (by decide) rfl lf_Model_103 rfl rfl rfl (by decide +kernel) rfl rfl d_Model_init_253 256 rfl (fun h146 hf => ?_)
  refine x_aload_n X (q := 0) d_Model_init_256 rfl 257 rfl ?_
  refine x_sipush X (v := 4096) d_Model_init_257 (by decide) 260 rfl ?_
  have hk149 := hf.1
  have hn150 := hf.2.1
  refine x_new_z X hf rfl ac_boolean (by decide) (by decide) (by decide) d_Model_init_260 262 rfl (fun h148 o147 hf => ?_)
  refine x_putF X hf (ci := 12) (j := 43) (ty := (.array .boolean)) rfl (by decide) rfl lf_Model_106 rfl rfl rfl (by decide +kernel) rfl rfl d_Model_init_262 265 rfl (fun h151 hf => ?_)
  refine x_aload_n X (q := 0) d_Model_init_265 rfl 266 rfl ?_
  refine x_sipush X (v := 4096) d_Model_init_266 (by decide) 269 rfl ?_
  have hk154 := hf.1
  have hn155 := hf.2.1
  refine x_new_z X hf rfl ac_boolean (by decide) (by decide) (by decide) d_Model_init_269 271 rfl (fun h153 o152 hf => ?_)
  refine x_putF X hf (ci := 12) (j := 44) (ty := (.array .boolean)) rfl (by decide) rfl lf_Model_109 rfl rfl rfl (by decide +kernel) rfl rfl d_Model_init_271 274 rfl (fun h156 hf => ?_)
  refine x_aload_n X (q := 0) d_Model_init_274 rfl 275 rfl ?_
  refine x_sipush X (v := 256) d_Model_init_275 (by decide) 278 rfl ?_
  have hk159 := hf.1
  have hn160 := hf.2.1
  refine x_new_i X hf rfl ac_int (by decide) (by decide) (by decide) d_Model_init_278 280 rfl (fun h158 o157 hf => ?_)
  refine x_putF X hf (ci := 12) (j := 45) (ty := (.array .int)) rfl (by decide) rfl lf_Model_112 rfl rfl rfl (by decide +kernel) rfl rfl d_Model_init_280 283 rfl (fun h161 hf => ?_)
  refine x_aload_n X (q := 0) d_Model_init_283 rfl 284 rfl ?_
  refine x_sipush X (v := 804) d_Model_init_284 (by decide) 287 rfl ?_
  have hk164 := hf.1
  have hn165 := hf.2.1
  refine x_new_z X hf rfl ac_boolean (by decide) (by decide) (by decide) d_Model_init_287 289 rfl (fun h163 o162 hf => ?_)
  refine x_putF X hf (ci := 12) (j := 47) (ty := (.array .boolean)) rfl (by decide) rfl lf_Model_115 rfl rfl rfl (by decide +kernel) rfl rfl d_Model_init_289 292 rfl (fun h166 hf => ?_)
  refine x_aload_n X (q := 0) d_Model_init_292 rfl 293 rfl ?_
  refine x_sipush X (v := 402) d_Model_init_293 (by decide) 296 rfl ?_
  have hk169 := hf.1
  have hn170 := hf.2.1
  refine x_new_i X hf rfl ac_int (by decide) (by decide) (by decide) d_Model_init_296 298 rfl (fun h168 o167 hf => ?_)
  refine x_putF X hf (ci := 12) (j := 48) (ty := (.array .int)) rfl (by decide) rfl lf_Model_118 rfl rfl rfl (by decide +kernel) rfl rfl d_Model_init_298 301 rfl (fun h171 hf => ?_)
  refine x_aload_n X (q := 0) d_Model_init_301 rfl 302 rfl ?_
  refine x_sipush X (v := 300) d_Model_init_302 (by decide) 305 rfl ?_
  have hk174 := hf.1
  have hn175 := hf.2.1
  refine x_new_i X hf rfl ac_int (by decide) (by decide) (by decide) d_Model_init_305 307 rfl (fun h173 o172 hf => ?_)
  refine x_putF X hf (ci := 12) (j := 49) (ty := (.array .int)) rfl (by decide) rfl lf_Model_121 rfl rfl rfl (by decide +kernel) rfl rfl d_Model_init_307 310 rfl (fun h176 hf => ?_)
  refine x_aload_n X (q := 0) d_Model_init_310 rfl 311 rfl ?_
  refine x_sipush X (v := 300) d_Model_init_311 (by decide) 314 rfl ?_
  have hk179 := hf.1
  have hn180 := hf.2.1
  refine x_new_i X hf rfl ac_int (by decide) (by decide) (by decide) d_Model_init_314 316 rfl (fun h178 o177 hf => ?_)
  refine x_putF X hf (ci := 12) (j := 50) (ty := (.array .int)) rfl (by decide) rfl lf_Model_124 rfl rfl rfl (by decide +kernel) rfl rfl d_Model_init_316 319 rfl (fun h181 hf => ?_)
  exact hret _ _ _ _ _ none hk179 hn180 ⟨rfl, hf⟩ ⟨rfl, d_Model_init_319⟩

