set_option maxRecDepth 100000 in
def wp_Layers_clear (z : Nat → Nat) (Q : xh → Prop) (a0 : Nat) (hp : xh) : Prop :=
  ∃ h1, pV hp a0 1 3 (.int 0) = some h1 ∧ (∃ h2, pV h1 a0 1 4 (.int (-1)) = some h2 ∧ (∃ h3, pV h2 a0 1 5 (.int (-1)) = some h3 ∧ (∃ h4, pV h3 a0 1 6 (.int 0) = some h4 ∧ Q h4)))
set_option maxRecDepth 100000 in
set_option maxHeartbeats 4000000 in
theorem t_Layers_clear {l : Launch} {G : xG} {z : Nat → Nat} {Q : xh → Prop} {a0 : Nat} {hp : xh} (hf : wp_Layers_clear z Q a0 hp) : xM l G z y_Layers_clear b_Layers_clear 1 none rm_Layers_clear [.ref a0] hp (xqv Q) := by
  refine xM_of (by decide) (Nat.le_of_ble_eq_true rfl) (lv0 := [(0, .ref a0)]) rfl ?_
  intro p e s m args below meth c A Qw X hret
  unfold wp_Layers_clear at hf
  refine x_aload_n X (q := 0) d_Layers_clear_0 rfl 1 rfl ?_
  refine x_iconst X (v := 0) d_Layers_clear_1 (by decide) 2 rfl ?_
  refine x_put X hf (ci := 1) (j := 3) (ty := .int) rfl (by decide) rfl lf_Layers_22 rfl (by decide +kernel) rfl rfl d_Layers_clear_2 5 rfl (fun h1 hf => ?_)
  refine x_aload_n X (q := 0) d_Layers_clear_5 rfl 6 rfl ?_
  refine x_iconst X (v := (-1)) d_Layers_clear_6 (by decide) 7 rfl ?_
  refine x_put X hf (ci := 1) (j := 4) (ty := .int) rfl (by decide) rfl lf_Layers_26 rfl (by decide +kernel) rfl rfl d_Layers_clear_7 10 rfl (fun h2 hf => ?_)
  refine x_aload_n X (q := 0) d_Layers_clear_10 rfl 11 rfl ?_
  refine x_iconst X (v := (-1)) d_Layers_clear_11 (by decide) 12 rfl ?_
  refine x_put X hf (ci := 1) (j := 5) (ty := .int) rfl (by decide) rfl lf_Layers_29 rfl (by decide +kernel) rfl rfl d_Layers_clear_12 15 rfl (fun h3 hf => ?_)
  refine x_aload_n X (q := 0) d_Layers_clear_15 rfl 16 rfl ?_
  refine x_iconst X (v := 0) d_Layers_clear_16 (by decide) 17 rfl ?_
  refine x_put X hf (ci := 1) (j := 6) (ty := .boolean) rfl (by decide) rfl lf_Layers_32 rfl (by decide +kernel) (xbl_nar (Or.inl rfl)) (xbl_fit (Or.inl rfl)) d_Layers_clear_17 20 rfl (fun h4 hf => ?_)
  exact hret _ _ _ _ _ none (Nat.le_refl 0) (Nat.le_refl 0) ⟨rfl, hf⟩ ⟨rfl, d_Layers_clear_20⟩

set_option maxRecDepth 100000 in
def wp_Works_witnessTells_74 (z : Nat → Nat) (Q : Int32 → xh → Prop) (k9 : Nat × Int32 × xh → Prop) (a0 : Nat) (x1 : Int32) (s1 : Int32) (s0 : Int32) (hp : xh) : Prop :=
  (s0 = s1 → (k9 (a0, (x1 + 1), hp))) ∧ (¬ s0 = s1 → Q 0 hp)
set_option maxRecDepth 100000 in
set_option maxHeartbeats 4000000 in
theorem t_Works_witnessTells_74 {p : Program} {l : Launch} {e : Env} {s : State} {m : MethodId} {args : Array Value} {below : List Frame} {meth : Method} {c : Code} {G : xG} {z : Nat → Nat} {A : Nat → Prop} {Qw : State → Prop} {Q : Int32 → xh → Prop} {k9 : Nat × Int32 × xh → Prop} {a0 : Nat} {x1 : Int32} {s1 : Int32} {s0 : Int32} {hp : xh} (X : xX p l e rm_Works_witnessTells s m args below meth c G z A y_Works_witnessTells b_Works_witnessTells 4) (hret : xRet p l e rm_Works_witnessTells s m args below meth c G A 4 Qw b_Works_witnessTells (some .boolean) (xqz Q)) (hk9 : ∀ (a0 : Nat) (x1 : Int32) (hp : xh), k9 (a0, x1, hp) → xE p l e rm_Works_witnessTells s m args below meth c G A 4 Qw 0 0 hp 9 [(0, .ref a0), (1, .int x1)] []) (hf : wp_Works_witnessTells_74 z Q k9 a0 x1 s1 s0 hp) : xE p l e rm_Works_witnessTells s m args below meth c G A 4 Qw 0 0 hp 74 [(0, .ref a0), (1, .int x1)] [.int s1, .int s0] := by
  unfold wp_Works_witnessTells_74 at hf
  refine x_icmp_eq X hf d_Works_witnessTells_74 79 77 (by decide) rfl (fun hf => ?_) (fun hf => ?_)
  · refine x_iinc X (q := 1) (v := (x1 + 1)) (lv' := [(1, .int (x1 + 1)), (0, .ref a0)]) d_Works_witnessTells_79 rfl (by rfl) (by decide) rfl 82 rfl ?_
    refine x_goto X d_Works_witnessTells_82 9 (by decide) ?_
    exact x_sub [1, 0] rfl (hk9 _ _ _ hf)
  · refine x_iconst X (v := 0) d_Works_witnessTells_77 (by decide) 78 rfl ?_
    exact hret _ _ _ _ _ (some (.int 0)) (Nat.le_refl 0) (Nat.le_refl 0) ⟨_, rfl, (Or.inl rfl), hf⟩ ⟨⟨_, rfl, xbl_nar (Or.inl rfl)⟩, d_Works_witnessTells_78⟩
set_option maxRecDepth 100000 in
def wp_Works_witnessTells_54 (z : Nat → Nat) (Q : Int32 → xh → Prop) (k9 : Nat × Int32 × xh → Prop) (a0 : Nat) (x1 : Int32) (s0 : Int32) (hp : xh) : Prop :=
  ∃ o1, fR hp a0 10 3 = some o1 ∧ (∃ v2, fI hp o1 9 6 = some v2 ∧ ((¬ x1 = (v2 - 1) → wp_Works_witnessTells_74 z Q k9 a0 x1 0 s0 hp) ∧ (x1 = (v2 - 1) → wp_Works_witnessTells_74 z Q k9 a0 x1 1 s0 hp)))
set_option maxRecDepth 100000 in
set_option maxHeartbeats 4000000 in
theorem t_Works_witnessTells_54 {p : Program} {l : Launch} {e : Env} {s : State} {m : MethodId} {args : Array Value} {below : List Frame} {meth : Method} {c : Code} {G : xG} {z : Nat → Nat} {A : Nat → Prop} {Qw : State → Prop} {Q : Int32 → xh → Prop} {k9 : Nat × Int32 × xh → Prop} {a0 : Nat} {x1 : Int32} {s0 : Int32} {hp : xh} (X : xX p l e rm_Works_witnessTells s m args below meth c G z A y_Works_witnessTells b_Works_witnessTells 4) (hret : xRet p l e rm_Works_witnessTells s m args below meth c G A 4 Qw b_Works_witnessTells (some .boolean) (xqz Q)) (hk9 : ∀ (a0 : Nat) (x1 : Int32) (hp : xh), k9 (a0, x1, hp) → xE p l e rm_Works_witnessTells s m args below meth c G A 4 Qw 0 0 hp 9 [(0, .ref a0), (1, .int x1)] []) (hf : wp_Works_witnessTells_54 z Q k9 a0 x1 s0 hp) : xE p l e rm_Works_witnessTells s m args below meth c G A 4 Qw 0 0 hp 54 [(0, .ref a0), (1, .int x1)] [.int s0] := by
  unfold wp_Works_witnessTells_54 at hf
  refine x_istore_n X (lv' := [(3, .int s0), (0, .ref a0), (1, .int x1)]) d_Works_witnessTells_54 rfl (by decide) rfl 55 rfl ?_
  refine x_iload_n X (q := 0) d_Works_witnessTells_55 rfl 56 rfl ?_
  refine x_iload_n X (q := 2) d_Works_witnessTells_56 rfl 57 rfl ?_
  refine x_aload_n X (q := 1) d_Works_witnessTells_57 rfl 58 rfl ?_
  refine x_getR X hf (ci := 10) (j := 3) rfl (by decide) rfl lf_Works_23 d_Works_witnessTells_58 61 rfl (fun o1 hf => ?_)
  refine x_getI X hf (ci := 9) (j := 6) rfl (by decide) rfl lf_Works_95 d_Works_witnessTells_61 64 rfl (fun v2 hf => ?_)
  refine x_iconst X (v := 1) d_Works_witnessTells_64 (by decide) 65 rfl ?_
  refine x_isub X d_Works_witnessTells_65 66 rfl ?_
  refine x_icmp_ne X hf d_Works_witnessTells_66 73 69 (by decide) rfl (fun hf => ?_) (fun hf => ?_)
  · refine x_iconst X (v := 0) d_Works_witnessTells_73 (by decide) 74 rfl ?_
    exact x_sub [1, 2] rfl (t_Works_witnessTells_74 X hret hk9 hf)
  · refine x_iconst X (v := 1) d_Works_witnessTells_69 (by decide) 70 rfl ?_
    refine x_goto X d_Works_witnessTells_70 74 (by decide) ?_
    exact x_sub [1, 2] rfl (t_Works_witnessTells_74 X hret hk9 hf)
set_option maxRecDepth 100000 in
def wp_Works_witnessTells_9_b (z : Nat → Nat) (Q : Int32 → xh → Prop)  (k9 : Nat × Int32 × xh → Prop) (a0 : Nat) (x1 : Int32) (hp : xh) : Prop :=
  ∃ o1, fR hp a0 10 3 = some o1 ∧ (∃ v2, fI hp o1 9 6 = some v2 ∧ ((v2 ≤ x1 → Q 1 hp) ∧ (¬ v2 ≤ x1 → (∃ o3, fR hp a0 10 1 = some o3 ∧ (∃ o4, fR hp a0 10 3 = some o4 ∧ (∃ o5, fR hp o4 9 4 = some o5 ∧ (∃ v6, aI hp o5 0 x1 = some v6 ∧ (xcls hp o3 4 ∧ wp_Player_play z (fun v8 h7 => ((v8 &&& 255) = (v8 >>> ((8 : Int32) &&& 31)) → wp_Works_witnessTells_54 z Q k9 a0 x1 0 h7) ∧ (¬ (v8 &&& 255) = (v8 >>> ((8 : Int32) &&& 31)) → wp_Works_witnessTells_54 z Q k9 a0 x1 1 h7)) o3 v6 hp))))))))
set_option maxRecDepth 100000 in
def wp_Works_witnessTells_9 (z : Nat → Nat) (Q : Int32 → xh → Prop)  (a0 : Nat) (x1 : Int32) (hp : xh) : Prop := ∃ f : Nat, xloop (fun k9 a => wp_Works_witnessTells_9_b z Q  k9 a.1 a.2.1 a.2.2) f (a0, x1, hp)
set_option maxRecDepth 100000 in
set_option maxHeartbeats 4000000 in
theorem t_Works_witnessTells_9 {p : Program} {l : Launch} {e : Env} {s : State} {m : MethodId} {args : Array Value} {below : List Frame} {meth : Method} {c : Code} {G : xG} {z : Nat → Nat} {A : Nat → Prop} {Qw : State → Prop} {Q : Int32 → xh → Prop} {a0 : Nat} {x1 : Int32} {hp : xh} (X : xX p l e rm_Works_witnessTells s m args below meth c G z A y_Works_witnessTells b_Works_witnessTells 4) (hret : xRet p l e rm_Works_witnessTells s m args below meth c G A 4 Qw b_Works_witnessTells (some .boolean) (xqz Q))  (hf : wp_Works_witnessTells_9 z Q  a0 x1 hp) : xE p l e rm_Works_witnessTells s m args below meth c G A 4 Qw 0 0 hp 9 [(0, .ref a0), (1, .int x1)] [] := by
  obtain ⟨f, hf⟩ := hf
  refine xloop_ind (F := fun k9 a => wp_Works_witnessTells_9_b z Q  k9 a.1 a.2.1 a.2.2) (E := fun a => xE p l e rm_Works_witnessTells s m args below meth c G A 4 Qw 0 0 a.2.2 9 [(0, .ref (a.1)), (1, .int (a.2.1))] []) ?_ f (a0, x1, hp) hf
  intro k9 hk a hf
  obtain ⟨a0, x1, hp⟩ := a
  have hk9 : ∀ (a0 : Nat) (x1 : Int32) (hp : xh), k9 (a0, x1, hp) → xE p l e rm_Works_witnessTells s m args below meth c G A 4 Qw 0 0 hp 9 [(0, .ref a0), (1, .int x1)] [] := fun a0 x1 hp h => hk (a0, x1, hp) h
  have hf : wp_Works_witnessTells_9_b z Q  k9 a0 x1 hp := hf
  unfold wp_Works_witnessTells_9_b at hf
  refine x_iload_n X (q := 1) d_Works_witnessTells_9 rfl 10 rfl ?_
  refine x_aload_n X (q := 0) d_Works_witnessTells_10 rfl 11 rfl ?_
  refine x_getR X hf (ci := 10) (j := 3) rfl (by decide) rfl lf_Works_23 d_Works_witnessTells_11 14 rfl (fun o1 hf => ?_)
  refine x_getI X hf (ci := 9) (j := 6) rfl (by decide) rfl lf_Works_95 d_Works_witnessTells_14 17 rfl (fun v2 hf => ?_)
  refine x_icmp_ge X hf d_Works_witnessTells_17 85 20 (by decide) rfl (fun hf => ?_) (fun hf => ?_)
  · refine x_iconst X (v := 1) d_Works_witnessTells_85 (by decide) 86 rfl ?_
    exact hret _ _ _ _ _ (some (.int 1)) (Nat.le_refl 0) (Nat.le_refl 0) ⟨_, rfl, (Or.inr rfl), hf⟩ ⟨⟨_, rfl, xbl_nar (Or.inr rfl)⟩, d_Works_witnessTells_86⟩
  · refine x_aload_n X (q := 0) d_Works_witnessTells_20 rfl 21 rfl ?_
    refine x_getR X hf (ci := 10) (j := 1) rfl (by decide) rfl lf_Works_57 d_Works_witnessTells_21 24 rfl (fun o3 hf => ?_)
    refine x_aload_n X (q := 0) d_Works_witnessTells_24 rfl 25 rfl ?_
    refine x_getR X hf (ci := 10) (j := 3) rfl (by decide) rfl lf_Works_23 d_Works_witnessTells_25 28 rfl (fun o4 hf => ?_)
    refine x_getR X hf (ci := 9) (j := 4) rfl (by decide) rfl lf_Works_98 d_Works_witnessTells_28 31 rfl (fun o5 hf => ?_)
    refine x_iload_n X (q := 1) d_Works_witnessTells_31 rfl 32 rfl ?_
    refine x_iald X hf d_Works_witnessTells_32 33 rfl (fun v6 hf => ?_)
    refine x_callV0i X (t_Player_play hf.2) hf.1 (ci := 4) rfl rfl lm_Works_102 im_Player_play sl_Player_play cd_Player_play in_Player ds_Player_play rfl rfl (Nat.le_of_ble_eq_true rfl) (Nat.le_of_ble_eq_true rfl) (Nat.le_of_ble_eq_true rfl) rfl rfl (Nat.le_refl 0) (Nat.le_refl 0) d_Works_witnessTells_33 36 rfl (fun v8 h7 hf => ?_)
    refine x_istore_n X (lv' := [(2, .int v8), (0, .ref a0), (1, .int x1)]) d_Works_witnessTells_36 rfl (by decide) rfl 37 rfl ?_
    refine x_iload_n X (q := 0) d_Works_witnessTells_37 rfl 38 rfl ?_
    refine x_sipush X (v := 255) d_Works_witnessTells_38 (by decide) 41 rfl ?_
    refine x_iand X d_Works_witnessTells_41 42 rfl ?_
    refine x_iload_n X (q := 0) d_Works_witnessTells_42 rfl 43 rfl ?_
    refine x_bipush X (v := 8) d_Works_witnessTells_43 (by decide) 45 rfl ?_
    refine x_ishr X d_Works_witnessTells_45 46 rfl ?_
    refine x_icmp_eq X hf d_Works_witnessTells_46 53 49 (by decide) rfl (fun hf => ?_) (fun hf => ?_)
    · refine x_iconst X (v := 0) d_Works_witnessTells_53 (by decide) 54 rfl ?_
      exact x_sub [1, 2] rfl (t_Works_witnessTells_54 X hret hk9 hf)
    · refine x_iconst X (v := 1) d_Works_witnessTells_49 (by decide) 50 rfl ?_
      refine x_goto X d_Works_witnessTells_50 54 (by decide) ?_
      exact x_sub [1, 2] rfl (t_Works_witnessTells_54 X hret hk9 hf)
set_option maxRecDepth 100000 in
def wp_Works_witnessTells (z : Nat → Nat) (Q : Int32 → xh → Prop) (a0 : Nat) (hp : xh) : Prop :=
  ∃ o1, fR hp a0 10 1 = some o1 ∧ (xcls hp o1 4 ∧ wp_Player_rest z (fun h2 => wp_Works_witnessTells_9 z Q a0 0 h2) o1 hp)
set_option maxRecDepth 100000 in
set_option maxHeartbeats 4000000 in
theorem t_Works_witnessTells {l : Launch} {G : xG} {z : Nat → Nat} {Q : Int32 → xh → Prop} {a0 : Nat} {hp : xh} (hf : wp_Works_witnessTells z Q a0 hp) : xM l G z y_Works_witnessTells b_Works_witnessTells 4 (some .boolean) rm_Works_witnessTells [.ref a0] hp (xqz Q) := by
  refine xM_of (by decide) (Nat.le_of_ble_eq_true rfl) (lv0 := [(0, .ref a0)]) rfl ?_
  intro p e s m args below meth c A Qw X hret
  unfold wp_Works_witnessTells at hf
  refine x_aload_n X (q := 0) d_Works_witnessTells_0 rfl 1 rfl ?_
  refine x_getR X hf (ci := 10) (j := 1) rfl (by decide) rfl lf_Works_57 d_Works_witnessTells_1 4 rfl (fun o1 hf => ?_)
  refine x_callV0v X (t_Player_rest hf.2) hf.1 (ci := 4) rfl rfl lm_Works_92 im_Player_rest sl_Player_rest cd_Player_rest in_Player ds_Player_rest rfl rfl (Nat.le_of_ble_eq_true rfl) (Nat.le_of_ble_eq_true rfl) (Nat.le_of_ble_eq_true rfl) rfl rfl (Nat.le_refl 0) (Nat.le_refl 0) d_Works_witnessTells_4 7 rfl (fun h2 hf => ?_)
  refine x_iconst X (v := 0) d_Works_witnessTells_7 (by decide) 8 rfl ?_
  refine x_istore_n X (lv' := [(1, .int 0), (0, .ref a0)]) d_Works_witnessTells_8 rfl (by decide) rfl 9 rfl ?_
  exact x_sub [1, 0] rfl (t_Works_witnessTells_9 X hret hf)

set_option maxRecDepth 100000 in
def wp_Works_doubtUnless (z : Nat → Nat) (Q : xh → Prop) (a0 : Nat) (x1 : Int32) (hp : xh) : Prop :=
  (¬ x1 = 0 → Q hp) ∧ (x1 = 0 → (∃ v1, fI hp a0 10 10 = some v1 ∧ (∃ h2, pV hp a0 10 10 (.int (v1 + 1)) = some h2 ∧ Q h2)))
set_option maxRecDepth 100000 in
set_option maxHeartbeats 4000000 in
theorem t_Works_doubtUnless {l : Launch} {G : xG} {z : Nat → Nat} {Q : xh → Prop} {a0 : Nat} {x1 : Int32} {hp : xh} (hf : wp_Works_doubtUnless z Q a0 x1 hp) : xM l G z y_Works_doubtUnless b_Works_doubtUnless 2 none rm_Works_doubtUnless [.ref a0, .int x1] hp (xqv Q) := by
  refine xM_of (by decide) (Nat.le_of_ble_eq_true rfl) (lv0 := [(0, .ref a0), (1, .int x1)]) rfl ?_
  intro p e s m args below meth c A Qw X hret
  unfold wp_Works_doubtUnless at hf
  refine x_iload_n X (q := 1) d_Works_doubtUnless_0 rfl 1 rfl ?_
  refine x_if_ne X hf d_Works_doubtUnless_1 14 4 (by decide) rfl (fun hf => ?_) (fun hf => ?_)
  · exact hret _ _ _ _ _ none (Nat.le_refl 0) (Nat.le_refl 0) ⟨rfl, hf⟩ ⟨rfl, d_Works_doubtUnless_14⟩
  · refine x_aload_n X (q := 0) d_Works_doubtUnless_4 rfl 5 rfl ?_
    refine x_dup X rfl d_Works_doubtUnless_5 6 rfl ?_
    refine x_getI X hf (ci := 10) (j := 10) rfl (by decide) rfl lf_Works_71 d_Works_doubtUnless_6 9 rfl (fun v1 hf => ?_)
    refine x_iconst X (v := 1) d_Works_doubtUnless_9 (by decide) 10 rfl ?_
    refine x_iadd X d_Works_doubtUnless_10 11 rfl ?_
    refine x_put X hf (ci := 10) (j := 10) (ty := .int) rfl (by decide) rfl lf_Works_71 rfl (by decide +kernel) rfl rfl d_Works_doubtUnless_11 14 rfl (fun h2 hf => ?_)
    exact hret _ _ _ _ _ none (Nat.le_refl 0) (Nat.le_refl 0) ⟨rfl, hf⟩ ⟨rfl, d_Works_doubtUnless_14⟩

set_option maxRecDepth 100000 in
def wp_Works_explore (z : Nat → Nat) (Q : xh → Prop) (a0 : Nat) (hp : xh) : Prop :=
  ∃ v1, fI hp a0 10 7 = some v1 ∧ ((¬ v1 = 0 → Q hp) ∧ (v1 = 0 → (∃ o2, fR hp a0 10 2 = some o2 ∧ (∃ o3, fR hp a0 10 0 = some o3 ∧ (xcls hp o2 7 ∧ wp_Table_fill z (fun h4 => ∃ o5, fR h4 a0 10 3 = some o5 ∧ (xcls h4 o5 9 ∧ wp_Walk_explore z (fun h6 => ∃ o7, fR h6 a0 10 4 = some o7 ∧ (xcls h6 o7 1 ∧ wp_Layers_clear z (fun h8 => ∃ h9, pV h8 a0 10 7 (.int 1) = some h9 ∧ (xcls h9 a0 10 ∧ wp_Works_witnessTells z (fun v11 h10 => xcls h10 a0 10 ∧ wp_Works_doubtUnless z (fun h13 => Q h13) a0 v11 h10) a0 h9)) o7 h6)) o5 h4)) o2 o3 hp)))))
set_option maxRecDepth 100000 in
set_option maxHeartbeats 4000000 in
theorem t_Works_explore {l : Launch} {G : xG} {z : Nat → Nat} {Q : xh → Prop} {a0 : Nat} {hp : xh} (hf : wp_Works_explore z Q a0 hp) : xM l G z y_Works_explore b_Works_explore 1 none rm_Works_explore [.ref a0] hp (xqv Q) := by
  refine xM_of (by decide) (Nat.le_of_ble_eq_true rfl) (lv0 := [(0, .ref a0)]) rfl ?_
  intro p e s m args below meth c A Qw X hret
  unfold wp_Works_explore at hf
  refine x_aload_n X (q := 0) d_Works_explore_0 rfl 1 rfl ?_
  refine x_getI X hf (ci := 10) (j := 7) rfl (by decide) rfl lf_Works_61 d_Works_explore_1 4 rfl (fun v1 hf => ?_)
  refine x_if_ne X hf d_Works_explore_4 45 7 (by decide) rfl (fun hf => ?_) (fun hf => ?_)
  · exact hret _ _ _ _ _ none (Nat.le_refl 0) (Nat.le_refl 0) ⟨rfl, hf⟩ ⟨rfl, d_Works_explore_45⟩
  · refine x_aload_n X (q := 0) d_Works_explore_7 rfl 8 rfl ?_
    refine x_getR X hf (ci := 10) (j := 2) rfl (by decide) rfl lf_Works_12 d_Works_explore_8 11 rfl (fun o2 hf => ?_)
    refine x_aload_n X (q := 0) d_Works_explore_11 rfl 12 rfl ?_
    refine x_getR X hf (ci := 10) (j := 0) rfl (by decide) rfl lf_Works_48 d_Works_explore_12 15 rfl (fun o3 hf => ?_)
    refine x_callV0v X (t_Table_fill hf.2) hf.1 (ci := 7) rfl rfl lm_Works_75 im_Table_fill sl_Table_fill cd_Table_fill in_Table ds_Table_fill rfl rfl (Nat.le_of_ble_eq_true rfl) (Nat.le_of_ble_eq_true rfl) (Nat.le_of_ble_eq_true rfl) rfl rfl (Nat.le_refl 0) (Nat.le_refl 0) d_Works_explore_15 18 rfl (fun h4 hf => ?_)
    refine x_aload_n X (q := 0) d_Works_explore_18 rfl 19 rfl ?_
    refine x_getR X hf (ci := 10) (j := 3) rfl (by decide) rfl lf_Works_23 d_Works_explore_19 22 rfl (fun o5 hf => ?_)
    refine x_callV0v X (t_Walk_explore hf.2) hf.1 (ci := 9) rfl rfl lm_Works_78 im_Walk_explore sl_Walk_explore cd_Walk_explore in_Walk ds_Walk_explore rfl rfl (Nat.le_of_ble_eq_true rfl) (Nat.le_of_ble_eq_true rfl) (Nat.le_of_ble_eq_true rfl) rfl rfl (Nat.le_refl 0) (Nat.le_refl 0) d_Works_explore_22 25 rfl (fun h6 hf => ?_)
    refine x_aload_n X (q := 0) d_Works_explore_25 rfl 26 rfl ?_
    refine x_getR X hf (ci := 10) (j := 4) rfl (by decide) rfl lf_Works_30 d_Works_explore_26 29 rfl (fun o7 hf => ?_)
    refine x_callV0v X (t_Layers_clear hf.2) hf.1 (ci := 1) rfl rfl lm_Works_81 im_Layers_clear sl_Layers_clear cd_Layers_clear in_Layers ds_Layers_clear rfl rfl (Nat.le_of_ble_eq_true rfl) (Nat.le_of_ble_eq_true rfl) (Nat.le_of_ble_eq_true rfl) rfl rfl (Nat.le_refl 0) (Nat.le_refl 0) d_Works_explore_29 32 rfl (fun h8 hf => ?_)
    refine x_aload_n X (q := 0) d_Works_explore_32 rfl 33 rfl ?_
    refine x_iconst X (v := 1) d_Works_explore_33 (by decide) 34 rfl ?_
    refine x_put X hf (ci := 10) (j := 7) (ty := .boolean) rfl (by decide) rfl lf_Works_61 rfl (by decide +kernel) (xbl_nar (Or.inr rfl)) (xbl_fit (Or.inr rfl)) d_Works_explore_34 37 rfl (fun h9 hf => ?_)
    refine x_aload_n X (q := 0) d_Works_explore_37 rfl 38 rfl ?_
    refine x_aload_n X (q := 0) d_Works_explore_38 rfl 39 rfl ?_
    refine x_callV0z X (t_Works_witnessTells hf.2) hf.1 (ci := 10) rfl rfl lm_Works_84 im_Works_witnessTells sl_Works_witnessTells cd_Works_witnessTells in_Works ds_Works_witnessTells rfl rfl (Nat.le_of_ble_eq_true rfl) (Nat.le_of_ble_eq_true rfl) (Nat.le_of_ble_eq_true rfl) rfl rfl (Nat.le_refl 0) (Nat.le_refl 0) d_Works_explore_39 42 rfl (fun v11 h10 hb12 hf => ?_)
    refine x_callV0v X (t_Works_doubtUnless hf.2) hf.1 (ci := 10) rfl rfl lm_Works_88 im_Works_doubtUnless sl_Works_doubtUnless cd_Works_doubtUnless in_Works ds_Works_doubtUnless rfl rfl (Nat.le_of_ble_eq_true rfl) (Nat.le_of_ble_eq_true rfl) (Nat.le_of_ble_eq_true rfl) rfl rfl (Nat.le_refl 0) (Nat.le_refl 0) d_Works_explore_42 45 rfl (fun h13 hf => ?_)
    exact hret _ _ _ _ _ none (Nat.le_refl 0) (Nat.le_refl 0) ⟨rfl, hf⟩ ⟨rfl, d_Works_explore_45⟩

set_option maxRecDepth 100000 in
def wp_Judge_exploredWorks (z : Nat → Nat) (mc ms : Nat) (Q : Nat → xh → Prop) (a0 : Nat) (hp : xh) : Prop :=
  ∃ mc3 ms4, 0 + mc3 ≤ mc ∧ 0 + ms4 ≤ ms ∧ xcls hp a0 11 ∧ wp_Judge_readyWorks z mc3 ms4 (fun o2 h1 => xcls h1 o2 10 ∧ wp_Works_explore z (fun h7 => Q o2 h7) o2 h1) a0 hp
set_option maxRecDepth 100000 in
set_option maxHeartbeats 4000000 in
theorem t_Judge_exploredWorks {l : Launch} {G : xG} {z : Nat → Nat} {mc ms : Nat} {Q : Nat → xh → Prop} {a0 : Nat} {hp : xh} (hf : wp_Judge_exploredWorks z mc ms Q a0 hp) : xM l G z y_Judge_exploredWorks b_Judge_exploredWorks 2 (some (.object "TwinJudge$Works")) (rm_Judge_exploredWorks mc ms) [.ref a0] hp (xqr Q) := by
  refine xM_of (by decide) (Nat.le_of_ble_eq_true rfl) (lv0 := [(0, .ref a0)]) rfl ?_
  intro p e s m args below meth c A Qw X hret
  unfold wp_Judge_exploredWorks at hf
  refine x_aload_n X (q := 0) d_Judge_exploredWorks_0 rfl 1 rfl ?_
  obtain ⟨mc3, ms4, hk5, hn6, hf⟩ := hf
  refine x_callVr X (t_Judge_readyWorks hf.2) hf.1 (ci := 11) rfl rfl lm_Judge_123 im_Judge_readyWorks sl_Judge_readyWorks cd_Judge_readyWorks in_Judge ds_Judge_readyWorks rfl rfl (Nat.le_of_ble_eq_true rfl) (Nat.le_of_ble_eq_true rfl) (Nat.le_of_ble_eq_true rfl) hk5 hn6 d_Judge_exploredWorks_1 4 rfl (fun o2 h1 hf => ?_)
  refine x_astore_n X (lv' := [(1, .ref o2), (0, .ref a0)]) d_Judge_exploredWorks_4 rfl (by decide) rfl 5 rfl ?_
  refine x_aload_n X (q := 0) d_Judge_exploredWorks_5 rfl 6 rfl ?_
  refine x_callV0v X (t_Works_explore hf.2) hf.1 (ci := 10) rfl rfl lm_Judge_201 im_Works_explore sl_Works_explore cd_Works_explore in_Works ds_Works_explore rfl rfl (Nat.le_of_ble_eq_true rfl) (Nat.le_of_ble_eq_true rfl) (Nat.le_of_ble_eq_true rfl) rfl rfl hk5 hn6 d_Judge_exploredWorks_6 9 rfl (fun h7 hf => ?_)
  refine x_aload_n X (q := 0) d_Judge_exploredWorks_9 rfl 10 rfl ?_
  exact hret _ _ _ _ _ (some (.ref o2)) hk5 hn6 ⟨_, rfl, hf⟩ ⟨⟨_, rfl, Or.inl ⟨_, rfl⟩⟩, d_Judge_exploredWorks_10⟩

set_option maxRecDepth 100000 in
def wp_Judge_witness (z : Nat → Nat) (mc ms : Nat) (Q : Int32 → xh → Prop) (a0 : Nat) (x1 : Int32) (hp : xh) : Prop :=
  (x1 < 0 → (Q (-1) hp)) ∧ (¬ x1 < 0 → ((256 ≤ x1 → (Q (-1) hp)) ∧ (¬ 256 ≤ x1 → (xcls hp a0 11 ∧ wp_Judge_matching z (fun v2 h1 => (¬ v2 = 0 → (∃ mc6 ms7, 0 + mc6 ≤ mc ∧ 0 + ms7 ≤ ms ∧ xcls h1 a0 11 ∧ wp_Judge_exploredWorks z mc6 ms7 (fun o5 h4 => ∃ o10, fR h4 o5 10 3 = some o10 ∧ (∃ v11, fI h4 o10 9 6 = some v11 ∧ ((v11 ≤ x1 → (Q (-1) h4)) ∧ (¬ v11 ≤ x1 → (∃ o12, fR h4 o10 9 4 = some o12 ∧ (∃ v13, aI h4 o12 0 x1 = some v13 ∧ Q v13 h4)))))) a0 h1)) ∧ (v2 = 0 → (Q (-1) h1))) a0 hp))))
set_option maxRecDepth 100000 in
set_option maxHeartbeats 4000000 in
theorem t_Judge_witness {l : Launch} {G : xG} {z : Nat → Nat} {mc ms : Nat} {Q : Int32 → xh → Prop} {a0 : Nat} {x1 : Int32} {hp : xh} (hf : wp_Judge_witness z mc ms Q a0 x1 hp) : xM l G z y_Judge_witness b_Judge_witness 3 (some .int) (rm_Judge_witness mc ms) [.ref a0, .int x1] hp (xqi Q) := by
  refine xM_of (by decide) (Nat.le_of_ble_eq_true rfl) (lv0 := [(0, .ref a0), (1, .int x1)]) rfl ?_
  intro p e s m args below meth c A Qw X hret
  unfold wp_Judge_witness at hf
  refine x_iload_n X (q := 1) d_Judge_witness_0 rfl 1 rfl ?_
  refine x_if_lt X hf d_Judge_witness_1 18 4 (by decide) rfl (fun hf => ?_) (fun hf => ?_)
  · refine x_iconst X (v := (-1)) d_Judge_witness_18 (by decide) 19 rfl ?_
    exact hret _ _ _ _ _ (some (.int (-1))) (Nat.zero_le _) (Nat.zero_le _) ⟨_, rfl, hf⟩ ⟨⟨_, rfl, rfl⟩, d_Judge_witness_19⟩
  · refine x_iload_n X (q := 1) d_Judge_witness_4 rfl 5 rfl ?_
    refine x_sipush X (v := 256) d_Judge_witness_5 (by decide) 8 rfl ?_
    refine x_icmp_ge X hf d_Judge_witness_8 18 11 (by decide) rfl (fun hf => ?_) (fun hf => ?_)
    · refine x_iconst X (v := (-1)) d_Judge_witness_18 (by decide) 19 rfl ?_
      exact hret _ _ _ _ _ (some (.int (-1))) (Nat.zero_le _) (Nat.zero_le _) ⟨_, rfl, hf⟩ ⟨⟨_, rfl, rfl⟩, d_Judge_witness_19⟩
    · refine x_aload_n X (q := 0) d_Judge_witness_11 rfl 12 rfl ?_
      refine x_callV0z X (t_Judge_matching hf.2) hf.1 (ci := 11) rfl rfl lm_Judge_141 im_Judge_matching sl_Judge_matching cd_Judge_matching in_Judge ds_Judge_matching rfl rfl (Nat.le_of_ble_eq_true rfl) (Nat.le_of_ble_eq_true rfl) (Nat.le_of_ble_eq_true rfl) rfl rfl (Nat.zero_le _) (Nat.zero_le _) d_Judge_witness_12 15 rfl (fun v2 h1 hb3 hf => ?_)
      refine x_if_ne X hf d_Judge_witness_15 20 18 (by decide) rfl (fun hf => ?_) (fun hf => ?_)
      · refine x_aload_n X (q := 0) d_Judge_witness_20 rfl 21 rfl ?_
        obtain ⟨mc6, ms7, hk8, hn9, hf⟩ := hf
        refine x_callVr X (t_Judge_exploredWorks hf.2) hf.1 (ci := 11) rfl rfl lm_Judge_131 im_Judge_exploredWorks sl_Judge_exploredWorks cd_Judge_exploredWorks in_Judge ds_Judge_exploredWorks rfl rfl (Nat.le_of_ble_eq_true rfl) (Nat.le_of_ble_eq_true rfl) (Nat.le_of_ble_eq_true rfl) hk8 hn9 d_Judge_witness_21 24 rfl (fun o5 h4 hf => ?_)
        refine x_getR X hf (ci := 10) (j := 3) rfl (by decide) rfl lf_Judge_134 d_Judge_witness_24 27 rfl (fun o10 hf => ?_)
        refine x_astore_n X (lv' := [(2, .ref o10), (0, .ref a0), (1, .int x1)]) d_Judge_witness_27 rfl (by decide) rfl 28 rfl ?_
        refine x_iload_n X (q := 2) d_Judge_witness_28 rfl 29 rfl ?_
        refine x_aload_n X (q := 0) d_Judge_witness_29 rfl 30 rfl ?_
        refine x_getI X hf (ci := 9) (j := 6) rfl (by decide) rfl lf_Judge_138 d_Judge_witness_30 33 rfl (fun v11 hf => ?_)
        refine x_icmp_ge X hf d_Judge_witness_33 45 36 (by decide) rfl (fun hf => ?_) (fun hf => ?_)
        · refine x_iconst X (v := (-1)) d_Judge_witness_45 (by decide) 46 rfl ?_
          exact hret _ _ _ _ _ (some (.int (-1))) hk8 hn9 ⟨_, rfl, hf⟩ ⟨⟨_, rfl, rfl⟩, d_Judge_witness_46⟩
        · refine x_aload_n X (q := 0) d_Judge_witness_36 rfl 37 rfl ?_
          refine x_getR X hf (ci := 9) (j := 4) rfl (by decide) rfl lf_Judge_144 d_Judge_witness_37 40 rfl (fun o12 hf => ?_)
          refine x_iload_n X (q := 2) d_Judge_witness_40 rfl 41 rfl ?_
          refine x_iald X hf d_Judge_witness_41 42 rfl (fun v13 hf => ?_)
          refine x_goto X d_Judge_witness_42 46 (by decide) ?_
          exact hret _ _ _ _ _ (some (.int v13)) hk8 hn9 ⟨_, rfl, hf⟩ ⟨⟨_, rfl, rfl⟩, d_Judge_witness_46⟩
      · refine x_iconst X (v := (-1)) d_Judge_witness_18 (by decide) 19 rfl ?_
        exact hret _ _ _ _ _ (some (.int (-1))) (Nat.zero_le _) (Nat.zero_le _) ⟨_, rfl, hf⟩ ⟨⟨_, rfl, rfl⟩, d_Judge_witness_19⟩

set_option maxRecDepth 100000 in
def wp_Judge_blame (z : Nat → Nat) (mc ms : Nat) (Q : Int32 → xh → Prop) (a0 : Nat) (hp : xh) : Prop :=
  xcls hp a0 11 ∧ wp_Judge_matching z (fun v2 h1 => (¬ v2 = 0 → (∃ mc6 ms7, 0 + mc6 ≤ mc ∧ 0 + ms7 ≤ ms ∧ xcls h1 a0 11 ∧ wp_Judge_exploredWorks z mc6 ms7 (fun o5 h4 => ∃ o10, fR h4 o5 10 3 = some o10 ∧ (∃ v11, fI h4 o10 9 6 = some v11 ∧ ((256 < v11 → (Q (-1) h4)) ∧ (¬ 256 < v11 → (∃ v12, fI h4 o10 9 7 = some v12 ∧ Q v12 h4))))) a0 h1)) ∧ (v2 = 0 → (Q (-1) h1))) a0 hp
set_option maxRecDepth 100000 in
set_option maxHeartbeats 4000000 in
theorem t_Judge_blame {l : Launch} {G : xG} {z : Nat → Nat} {mc ms : Nat} {Q : Int32 → xh → Prop} {a0 : Nat} {hp : xh} (hf : wp_Judge_blame z mc ms Q a0 hp) : xM l G z y_Judge_blame b_Judge_blame 2 (some .int) (rm_Judge_blame mc ms) [.ref a0] hp (xqi Q) := by
  refine xM_of (by decide) (Nat.le_of_ble_eq_true rfl) (lv0 := [(0, .ref a0)]) rfl ?_
  intro p e s m args below meth c A Qw X hret
  unfold wp_Judge_blame at hf
  refine x_aload_n X (q := 0) d_Judge_blame_0 rfl 1 rfl ?_
  refine x_callV0z X (t_Judge_matching hf.2) hf.1 (ci := 11) rfl rfl lm_Judge_141 im_Judge_matching sl_Judge_matching cd_Judge_matching in_Judge ds_Judge_matching rfl rfl (Nat.le_of_ble_eq_true rfl) (Nat.le_of_ble_eq_true rfl) (Nat.le_of_ble_eq_true rfl) rfl rfl (Nat.zero_le _) (Nat.zero_le _) d_Judge_blame_1 4 rfl (fun v2 h1 hb3 hf => ?_)
  refine x_if_ne X hf d_Judge_blame_4 9 7 (by decide) rfl (fun hf => ?_) (fun hf => ?_)
  · refine x_aload_n X (q := 0) d_Judge_blame_9 rfl 10 rfl ?_
    obtain ⟨mc6, ms7, hk8, hn9, hf⟩ := hf
    refine x_callVr X (t_Judge_exploredWorks hf.2) hf.1 (ci := 11) rfl rfl lm_Judge_131 im_Judge_exploredWorks sl_Judge_exploredWorks cd_Judge_exploredWorks in_Judge ds_Judge_exploredWorks rfl rfl (Nat.le_of_ble_eq_true rfl) (Nat.le_of_ble_eq_true rfl) (Nat.le_of_ble_eq_true rfl) hk8 hn9 d_Judge_blame_10 13 rfl (fun o5 h4 hf => ?_)
    refine x_getR X hf (ci := 10) (j := 3) rfl (by decide) rfl lf_Judge_134 d_Judge_blame_13 16 rfl (fun o10 hf => ?_)
    refine x_astore_n X (lv' := [(1, .ref o10), (0, .ref a0)]) d_Judge_blame_16 rfl (by decide) rfl 17 rfl ?_
    refine x_aload_n X (q := 0) d_Judge_blame_17 rfl 18 rfl ?_
    refine x_getI X hf (ci := 9) (j := 6) rfl (by decide) rfl lf_Judge_138 d_Judge_blame_18 21 rfl (fun v11 hf => ?_)
    refine x_sipush X (v := 256) d_Judge_blame_21 (by decide) 24 rfl ?_
    refine x_icmp_gt X hf d_Judge_blame_24 34 27 (by decide) rfl (fun hf => ?_) (fun hf => ?_)
    · refine x_iconst X (v := (-1)) d_Judge_blame_34 (by decide) 35 rfl ?_
      exact hret _ _ _ _ _ (some (.int (-1))) hk8 hn9 ⟨_, rfl, hf⟩ ⟨⟨_, rfl, rfl⟩, d_Judge_blame_35⟩
    · refine x_aload_n X (q := 0) d_Judge_blame_27 rfl 28 rfl ?_
      refine x_getI X hf (ci := 9) (j := 7) rfl (by decide) rfl lf_Judge_147 d_Judge_blame_28 31 rfl (fun v12 hf => ?_)
      refine x_goto X d_Judge_blame_31 35 (by decide) ?_
      exact hret _ _ _ _ _ (some (.int v12)) hk8 hn9 ⟨_, rfl, hf⟩ ⟨⟨_, rfl, rfl⟩, d_Judge_blame_35⟩
  · refine x_iconst X (v := (-1)) d_Judge_blame_7 (by decide) 8 rfl ?_
    exact hret _ _ _ _ _ (some (.int (-1))) (Nat.zero_le _) (Nat.zero_le _) ⟨_, rfl, hf⟩ ⟨⟨_, rfl, rfl⟩, d_Judge_blame_8⟩

set_option maxRecDepth 100000 in
def wp_Table_isPair (z : Nat → Nat) (Q : Int32 → xh → Prop) (a0 : Nat) (x1 : Int32) (hp : xh) : Prop :=
  ∃ o1, fR hp a0 7 3 = some o1 ∧ (∃ v2, aI hp o1 0 0 = some v2 ∧ ((v2 ≤ (x1 / 64) → Q 0 hp) ∧ (¬ v2 ≤ (x1 / 64) → (∃ o3, fR hp a0 7 3 = some o3 ∧ (∃ v4, aI hp o3 0 1 = some v4 ∧ ((v4 ≤ (x1 - x1 / 64 * 64) → Q 0 hp) ∧ (¬ v4 ≤ (x1 - x1 / 64 * 64) → Q 1 hp)))))))
set_option maxRecDepth 100000 in
set_option maxHeartbeats 4000000 in
theorem t_Table_isPair {l : Launch} {G : xG} {z : Nat → Nat} {Q : Int32 → xh → Prop} {a0 : Nat} {x1 : Int32} {hp : xh} (hf : wp_Table_isPair z Q a0 x1 hp) : xM l G z y_Table_isPair b_Table_isPair 2 (some .boolean) rm_Table_isPair [.ref a0, .int x1] hp (xqz Q) := by
  refine xM_of (by decide) (Nat.le_of_ble_eq_true rfl) (lv0 := [(0, .ref a0), (1, .int x1)]) rfl ?_
  intro p e s m args below meth c A Qw X hret
  unfold wp_Table_isPair at hf
  refine x_iload_n X (q := 1) d_Table_isPair_0 rfl 1 rfl ?_
  refine x_bipush X (v := 64) d_Table_isPair_1 (by decide) 3 rfl ?_
  refine x_idiv X (by decide) d_Table_isPair_3 4 rfl ?_
  refine x_aload_n X (q := 0) d_Table_isPair_4 rfl 5 rfl ?_
  refine x_getR X hf (ci := 7) (j := 3) rfl (by decide) rfl lf_Table_21 d_Table_isPair_5 8 rfl (fun o1 hf => ?_)
  refine x_iconst X (v := 0) d_Table_isPair_8 (by decide) 9 rfl ?_
  refine x_iald X hf d_Table_isPair_9 10 rfl (fun v2 hf => ?_)
  refine x_icmp_ge X hf d_Table_isPair_10 30 13 (by decide) rfl (fun hf => ?_) (fun hf => ?_)
  · refine x_iconst X (v := 0) d_Table_isPair_30 (by decide) 31 rfl ?_
    exact hret _ _ _ _ _ (some (.int 0)) (Nat.le_refl 0) (Nat.le_refl 0) ⟨_, rfl, (Or.inl rfl), hf⟩ ⟨⟨_, rfl, xbl_nar (Or.inl rfl)⟩, d_Table_isPair_31⟩
  · refine x_iload_n X (q := 1) d_Table_isPair_13 rfl 14 rfl ?_
    refine x_bipush X (v := 64) d_Table_isPair_14 (by decide) 16 rfl ?_
    refine x_irem X (by decide) d_Table_isPair_16 17 rfl ?_
    refine x_aload_n X (q := 0) d_Table_isPair_17 rfl 18 rfl ?_
    refine x_getR X hf (ci := 7) (j := 3) rfl (by decide) rfl lf_Table_21 d_Table_isPair_18 21 rfl (fun o3 hf => ?_)
    refine x_iconst X (v := 1) d_Table_isPair_21 (by decide) 22 rfl ?_
    refine x_iald X hf d_Table_isPair_22 23 rfl (fun v4 hf => ?_)
    refine x_icmp_ge X hf d_Table_isPair_23 30 26 (by decide) rfl (fun hf => ?_) (fun hf => ?_)
    · refine x_iconst X (v := 0) d_Table_isPair_30 (by decide) 31 rfl ?_
      exact hret _ _ _ _ _ (some (.int 0)) (Nat.le_refl 0) (Nat.le_refl 0) ⟨_, rfl, (Or.inl rfl), hf⟩ ⟨⟨_, rfl, xbl_nar (Or.inl rfl)⟩, d_Table_isPair_31⟩
    · refine x_iconst X (v := 1) d_Table_isPair_26 (by decide) 27 rfl ?_
      refine x_goto X d_Table_isPair_27 31 (by decide) ?_
      exact hret _ _ _ _ _ (some (.int 1)) (Nat.le_refl 0) (Nat.le_refl 0) ⟨_, rfl, (Or.inr rfl), hf⟩ ⟨⟨_, rfl, xbl_nar (Or.inr rfl)⟩, d_Table_isPair_31⟩

set_option maxRecDepth 100000 in
def wp_Layers_isInLayer_66 (z : Nat → Nat) (Q : Int32 → xh → Prop) (k28 : Nat × Int32 × Int32 × Int32 × xh → Prop) (a0 : Nat) (x1 : Int32) (x2 : Int32) (x3 : Int32) (hp : xh) : Prop :=
  k28 (a0, x1, x2, (x3 + 1), hp)
set_option maxRecDepth 100000 in
set_option maxHeartbeats 4000000 in
theorem t_Layers_isInLayer_66 {p : Program} {l : Launch} {e : Env} {s : State} {m : MethodId} {args : Array Value} {below : List Frame} {meth : Method} {c : Code} {G : xG} {z : Nat → Nat} {A : Nat → Prop} {Qw : State → Prop} {Q : Int32 → xh → Prop} {k28 : Nat × Int32 × Int32 × Int32 × xh → Prop} {a0 : Nat} {x1 : Int32} {x2 : Int32} {x3 : Int32} {hp : xh} (X : xX p l e rm_Layers_isInLayer s m args below meth c G z A y_Layers_isInLayer b_Layers_isInLayer 4) (hret : xRet p l e rm_Layers_isInLayer s m args below meth c G A 4 Qw b_Layers_isInLayer (some .boolean) (xqz Q)) (hk28 : ∀ (a0 : Nat) (x1 : Int32) (x2 : Int32) (x3 : Int32) (hp : xh), k28 (a0, x1, x2, x3, hp) → xE p l e rm_Layers_isInLayer s m args below meth c G A 4 Qw 0 0 hp 28 [(0, .ref a0), (1, .int x1), (2, .int x2), (3, .int x3)] []) (hf : wp_Layers_isInLayer_66 z Q k28 a0 x1 x2 x3 hp) : xE p l e rm_Layers_isInLayer s m args below meth c G A 4 Qw 0 0 hp 66 [(0, .ref a0), (1, .int x1), (2, .int x2), (3, .int x3)] [] := by
  unfold wp_Layers_isInLayer_66 at hf
  refine x_iinc X (q := 3) (v := (x3 + 1)) (lv' := [(3, .int (x3 + 1)), (0, .ref a0), (1, .int x1), (2, .int x2)]) d_Layers_isInLayer_66 rfl (by rfl) (by decide) rfl 69 rfl ?_
  refine x_goto X d_Layers_isInLayer_69 28 (by decide) ?_
  exact x_sub [1, 2, 3, 0] rfl (hk28 _ _ _ _ _ hf)
set_option maxRecDepth 100000 in
def wp_Layers_isInLayer_28_b (z : Nat → Nat) (Q : Int32 → xh → Prop)  (k28 : Nat × Int32 × Int32 × Int32 × xh → Prop) (a0 : Nat) (x1 : Int32) (x2 : Int32) (x3 : Int32) (hp : xh) : Prop :=
  ∃ o1, fR hp a0 1 0 = some o1 ∧ (∃ v2, fI hp o1 7 5 = some v2 ∧ ((v2 ≤ x3 → Q 0 hp) ∧ (¬ v2 ≤ x3 → ((¬ ((x2 >>> (x3 &&& 31)) &&& 1) = 0 → wp_Layers_isInLayer_66 z Q k28 a0 x1 x2 x3 hp) ∧ (((x2 >>> (x3 &&& 31)) &&& 1) = 0 → (∃ o3, fR hp a0 1 1 = some o3 ∧ (∃ o4, fR hp a0 1 0 = some o4 ∧ (xcls hp o4 7 ∧ wp_Table_next z (fun v6 h5 => ∃ v7, aI h5 o3 2 v6 = some v7 ∧ ((v7 = 0 → wp_Layers_isInLayer_66 z Q k28 a0 x1 x2 x3 h5) ∧ (¬ v7 = 0 → Q 1 h5))) o4 x1 x3 hp))))))))
set_option maxRecDepth 100000 in
def wp_Layers_isInLayer_28 (z : Nat → Nat) (Q : Int32 → xh → Prop)  (a0 : Nat) (x1 : Int32) (x2 : Int32) (x3 : Int32) (hp : xh) : Prop := ∃ f : Nat, xloop (fun k28 a => wp_Layers_isInLayer_28_b z Q  k28 a.1 a.2.1 a.2.2.1 a.2.2.2.1 a.2.2.2.2) f (a0, x1, x2, x3, hp)
set_option maxRecDepth 100000 in
set_option maxHeartbeats 4000000 in
theorem t_Layers_isInLayer_28 {p : Program} {l : Launch} {e : Env} {s : State} {m : MethodId} {args : Array Value} {below : List Frame} {meth : Method} {c : Code} {G : xG} {z : Nat → Nat} {A : Nat → Prop} {Qw : State → Prop} {Q : Int32 → xh → Prop} {a0 : Nat} {x1 : Int32} {x2 : Int32} {x3 : Int32} {hp : xh} (X : xX p l e rm_Layers_isInLayer s m args below meth c G z A y_Layers_isInLayer b_Layers_isInLayer 4) (hret : xRet p l e rm_Layers_isInLayer s m args below meth c G A 4 Qw b_Layers_isInLayer (some .boolean) (xqz Q))  (hf : wp_Layers_isInLayer_28 z Q  a0 x1 x2 x3 hp) : xE p l e rm_Layers_isInLayer s m args below meth c G A 4 Qw 0 0 hp 28 [(0, .ref a0), (1, .int x1), (2, .int x2), (3, .int x3)] [] := by
  obtain ⟨f, hf⟩ := hf
  refine xloop_ind (F := fun k28 a => wp_Layers_isInLayer_28_b z Q  k28 a.1 a.2.1 a.2.2.1 a.2.2.2.1 a.2.2.2.2) (E := fun a => xE p l e rm_Layers_isInLayer s m args below meth c G A 4 Qw 0 0 a.2.2.2.2 28 [(0, .ref (a.1)), (1, .int (a.2.1)), (2, .int (a.2.2.1)), (3, .int (a.2.2.2.1))] []) ?_ f (a0, x1, x2, x3, hp) hf
  intro k28 hk a hf
  obtain ⟨a0, x1, x2, x3, hp⟩ := a
  have hk28 : ∀ (a0 : Nat) (x1 : Int32) (x2 : Int32) (x3 : Int32) (hp : xh), k28 (a0, x1, x2, x3, hp) → xE p l e rm_Layers_isInLayer s m args below meth c G A 4 Qw 0 0 hp 28 [(0, .ref a0), (1, .int x1), (2, .int x2), (3, .int x3)] [] := fun a0 x1 x2 x3 hp h => hk (a0, x1, x2, x3, hp) h
  have hf : wp_Layers_isInLayer_28_b z Q  k28 a0 x1 x2 x3 hp := hf
  unfold wp_Layers_isInLayer_28_b at hf
  refine x_iload_n X (q := 3) d_Layers_isInLayer_28 rfl 29 rfl ?_
  refine x_aload_n X (q := 0) d_Layers_isInLayer_29 rfl 30 rfl ?_
  refine x_getR X hf (ci := 1) (j := 0) rfl (by decide) rfl lf_Layers_18 d_Layers_isInLayer_30 33 rfl (fun o1 hf => ?_)
  refine x_getI X hf (ci := 7) (j := 5) rfl (by decide) rfl lf_Layers_52 d_Layers_isInLayer_33 36 rfl (fun v2 hf => ?_)
  refine x_icmp_ge X hf d_Layers_isInLayer_36 72 39 (by decide) rfl (fun hf => ?_) (fun hf => ?_)
  · refine x_iconst X (v := 0) d_Layers_isInLayer_72 (by decide) 73 rfl ?_
    exact hret _ _ _ _ _ (some (.int 0)) (Nat.le_refl 0) (Nat.le_refl 0) ⟨_, rfl, (Or.inl rfl), hf⟩ ⟨⟨_, rfl, xbl_nar (Or.inl rfl)⟩, d_Layers_isInLayer_73⟩
  · refine x_iload_n X (q := 2) d_Layers_isInLayer_39 rfl 40 rfl ?_
    refine x_iload_n X (q := 3) d_Layers_isInLayer_40 rfl 41 rfl ?_
    refine x_ishr X d_Layers_isInLayer_41 42 rfl ?_
    refine x_iconst X (v := 1) d_Layers_isInLayer_42 (by decide) 43 rfl ?_
    refine x_iand X d_Layers_isInLayer_43 44 rfl ?_
    refine x_if_ne X hf d_Layers_isInLayer_44 66 47 (by decide) rfl (fun hf => ?_) (fun hf => ?_)
    · exact x_sub [0, 1, 2, 3] rfl (t_Layers_isInLayer_66 X hret hk28 hf)
    · refine x_aload_n X (q := 0) d_Layers_isInLayer_47 rfl 48 rfl ?_
      refine x_getR X hf (ci := 1) (j := 1) rfl (by decide) rfl lf_Layers_9 d_Layers_isInLayer_48 51 rfl (fun o3 hf => ?_)
      refine x_aload_n X (q := 0) d_Layers_isInLayer_51 rfl 52 rfl ?_
      refine x_getR X hf (ci := 1) (j := 0) rfl (by decide) rfl lf_Layers_18 d_Layers_isInLayer_52 55 rfl (fun o4 hf => ?_)
      refine x_iload_n X (q := 1) d_Layers_isInLayer_55 rfl 56 rfl ?_
      refine x_iload_n X (q := 3) d_Layers_isInLayer_56 rfl 57 rfl ?_
      refine x_callV0i X (t_Table_next hf.2) hf.1 (ci := 7) rfl rfl lm_Layers_55 im_Table_next sl_Table_next cd_Table_next in_Table ds_Table_next rfl rfl (Nat.le_of_ble_eq_true rfl) (Nat.le_of_ble_eq_true rfl) (Nat.le_of_ble_eq_true rfl) rfl rfl (Nat.le_refl 0) (Nat.le_refl 0) d_Layers_isInLayer_57 60 rfl (fun v6 h5 hf => ?_)
      refine x_zald X hf d_Layers_isInLayer_60 61 rfl (fun v7 hf => ?_)
      refine x_if_eq X hf d_Layers_isInLayer_61 66 64 (by decide) rfl (fun hf => ?_) (fun hf => ?_)
      · exact x_sub [0, 1, 2, 3] rfl (t_Layers_isInLayer_66 X hret hk28 hf)
      · refine x_iconst X (v := 1) d_Layers_isInLayer_64 (by decide) 65 rfl ?_
        exact hret _ _ _ _ _ (some (.int 1)) (Nat.le_refl 0) (Nat.le_refl 0) ⟨_, rfl, (Or.inr rfl), hf⟩ ⟨⟨_, rfl, xbl_nar (Or.inr rfl)⟩, d_Layers_isInLayer_65⟩
set_option maxRecDepth 100000 in
def wp_Layers_isInLayer (z : Nat → Nat) (Q : Int32 → xh → Prop) (a0 : Nat) (x1 : Int32) (hp : xh) : Prop :=
  ∃ o1, fR hp a0 1 0 = some o1 ∧ (xcls hp o1 7 ∧ wp_Table_telling z (fun v3 h2 => ∃ v4, fI h2 a0 1 3 = some v4 ∧ ((¬ v4 = 0 → wp_Layers_isInLayer_28 z Q a0 x1 v3 0 h2) ∧ (v4 = 0 → ((v3 = 0 → Q 0 h2) ∧ (¬ v3 = 0 → Q 1 h2))))) o1 x1 hp)
set_option maxRecDepth 100000 in
set_option maxHeartbeats 4000000 in
theorem t_Layers_isInLayer {l : Launch} {G : xG} {z : Nat → Nat} {Q : Int32 → xh → Prop} {a0 : Nat} {x1 : Int32} {hp : xh} (hf : wp_Layers_isInLayer z Q a0 x1 hp) : xM l G z y_Layers_isInLayer b_Layers_isInLayer 4 (some .boolean) rm_Layers_isInLayer [.ref a0, .int x1] hp (xqz Q) := by
  refine xM_of (by decide) (Nat.le_of_ble_eq_true rfl) (lv0 := [(0, .ref a0), (1, .int x1)]) rfl ?_
  intro p e s m args below meth c A Qw X hret
  unfold wp_Layers_isInLayer at hf
  refine x_aload_n X (q := 0) d_Layers_isInLayer_0 rfl 1 rfl ?_
  refine x_getR X hf (ci := 1) (j := 0) rfl (by decide) rfl lf_Layers_18 d_Layers_isInLayer_1 4 rfl (fun o1 hf => ?_)
  refine x_iload_n X (q := 1) d_Layers_isInLayer_4 rfl 5 rfl ?_
  refine x_callV0i X (t_Table_telling hf.2) hf.1 (ci := 7) rfl rfl lm_Layers_48 im_Table_telling sl_Table_telling cd_Table_telling in_Table ds_Table_telling rfl rfl (Nat.le_of_ble_eq_true rfl) (Nat.le_of_ble_eq_true rfl) (Nat.le_of_ble_eq_true rfl) rfl rfl (Nat.le_refl 0) (Nat.le_refl 0) d_Layers_isInLayer_5 8 rfl (fun v3 h2 hf => ?_)
  refine x_istore_n X (lv' := [(2, .int v3), (0, .ref a0), (1, .int x1)]) d_Layers_isInLayer_8 rfl (by decide) rfl 9 rfl ?_
  refine x_aload_n X (q := 1) d_Layers_isInLayer_9 rfl 10 rfl ?_
  refine x_getI X hf (ci := 1) (j := 3) rfl (by decide) rfl lf_Layers_22 d_Layers_isInLayer_10 13 rfl (fun v4 hf => ?_)
  refine x_if_ne X hf d_Layers_isInLayer_13 26 16 (by decide) rfl (fun hf => ?_) (fun hf => ?_)
  · refine x_iconst X (v := 0) d_Layers_isInLayer_26 (by decide) 27 rfl ?_
    refine x_istore_n X (lv' := [(3, .int 0), (2, .int v3), (0, .ref a0), (1, .int x1)]) d_Layers_isInLayer_27 rfl (by decide) rfl 28 rfl ?_
    exact x_sub [2, 3, 1, 0] rfl (t_Layers_isInLayer_28 X hret hf)
  · refine x_iload_n X (q := 0) d_Layers_isInLayer_16 rfl 17 rfl ?_
    refine x_if_eq X hf d_Layers_isInLayer_17 24 20 (by decide) rfl (fun hf => ?_) (fun hf => ?_)
    · refine x_iconst X (v := 0) d_Layers_isInLayer_24 (by decide) 25 rfl ?_
      exact hret _ _ _ _ _ (some (.int 0)) (Nat.le_refl 0) (Nat.le_refl 0) ⟨_, rfl, (Or.inl rfl), hf⟩ ⟨⟨_, rfl, xbl_nar (Or.inl rfl)⟩, d_Layers_isInLayer_25⟩
    · refine x_iconst X (v := 1) d_Layers_isInLayer_20 (by decide) 21 rfl ?_
      refine x_goto X d_Layers_isInLayer_21 25 (by decide) ?_
      exact hret _ _ _ _ _ (some (.int 1)) (Nat.le_refl 0) (Nat.le_refl 0) ⟨_, rfl, (Or.inr rfl), hf⟩ ⟨⟨_, rfl, xbl_nar (Or.inr rfl)⟩, d_Layers_isInLayer_25⟩

set_option maxRecDepth 100000 in
def wp_Layers_addLayer_151 (z : Nat → Nat) (Q : xh → Prop)  (a0 : Nat) (hp : xh) : Prop :=
  ∃ o1, fR hp a0 1 1 = some o1 ∧ (∃ v2, aI hp o1 2 0 = some v2 ∧ ((v2 = 0 → Q hp) ∧ (¬ v2 = 0 → (∃ v3, fI hp a0 1 5 = some v3 ∧ ((¬ v3 = (-1) → Q hp) ∧ (v3 = (-1) → (∃ v4, fI hp a0 1 3 = some v4 ∧ (∃ h5, pV hp a0 1 5 (.int v4) = some h5 ∧ Q h5))))))))
set_option maxRecDepth 100000 in
set_option maxHeartbeats 4000000 in
theorem t_Layers_addLayer_151 {p : Program} {l : Launch} {e : Env} {s : State} {m : MethodId} {args : Array Value} {below : List Frame} {meth : Method} {c : Code} {G : xG} {z : Nat → Nat} {A : Nat → Prop} {Qw : State → Prop} {Q : xh → Prop} {a0 : Nat} {hp : xh} (X : xX p l e rm_Layers_addLayer s m args below meth c G z A y_Layers_addLayer b_Layers_addLayer 4) (hret : xRet p l e rm_Layers_addLayer s m args below meth c G A 4 Qw b_Layers_addLayer none (xqv Q))  (hf : wp_Layers_addLayer_151 z Q  a0 hp) : xE p l e rm_Layers_addLayer s m args below meth c G A 4 Qw 0 0 hp 151 [(0, .ref a0)] [] := by
  unfold wp_Layers_addLayer_151 at hf
  refine x_aload_n X (q := 0) d_Layers_addLayer_151 rfl 152 rfl ?_
  refine x_getR X hf (ci := 1) (j := 1) rfl (by decide) rfl lf_Layers_9 d_Layers_addLayer_152 155 rfl (fun o1 hf => ?_)
  refine x_iconst X (v := 0) d_Layers_addLayer_155 (by decide) 156 rfl ?_
  refine x_zald X hf d_Layers_addLayer_156 157 rfl (fun v2 hf => ?_)
  refine x_if_eq X hf d_Layers_addLayer_157 176 160 (by decide) rfl (fun hf => ?_) (fun hf => ?_)
  · exact hret _ _ _ _ _ none (Nat.le_refl 0) (Nat.le_refl 0) ⟨rfl, hf⟩ ⟨rfl, d_Layers_addLayer_176⟩
  · refine x_aload_n X (q := 0) d_Layers_addLayer_160 rfl 161 rfl ?_
    refine x_getI X hf (ci := 1) (j := 5) rfl (by decide) rfl lf_Layers_29 d_Layers_addLayer_161 164 rfl (fun v3 hf => ?_)
    refine x_iconst X (v := (-1)) d_Layers_addLayer_164 (by decide) 165 rfl ?_
    refine x_icmp_ne X hf d_Layers_addLayer_165 176 168 (by decide) rfl (fun hf => ?_) (fun hf => ?_)
    · exact hret _ _ _ _ _ none (Nat.le_refl 0) (Nat.le_refl 0) ⟨rfl, hf⟩ ⟨rfl, d_Layers_addLayer_176⟩
    · refine x_aload_n X (q := 0) d_Layers_addLayer_168 rfl 169 rfl ?_
      refine x_aload_n X (q := 0) d_Layers_addLayer_169 rfl 170 rfl ?_
      refine x_getI X hf (ci := 1) (j := 3) rfl (by decide) rfl lf_Layers_22 d_Layers_addLayer_170 173 rfl (fun v4 hf => ?_)
      refine x_put X hf (ci := 1) (j := 5) (ty := .int) rfl (by decide) rfl lf_Layers_29 rfl (by decide +kernel) rfl rfl d_Layers_addLayer_173 176 rfl (fun h5 hf => ?_)
      exact hret _ _ _ _ _ none (Nat.le_refl 0) (Nat.le_refl 0) ⟨rfl, hf⟩ ⟨rfl, d_Layers_addLayer_176⟩
set_option maxRecDepth 100000 in
def wp_Layers_addLayer_136 (z : Nat → Nat) (Q : xh → Prop)  (a0 : Nat) (x1 : Int32) (s1 : Int32) (s0 : Nat) (hp : xh) : Prop :=
  xbl s1 ∧ ∃ h1, pV hp s0 1 6 (.int s1) = some h1 ∧ ((x1 = 0 → wp_Layers_addLayer_151 z Q a0 h1) ∧ (¬ x1 = 0 → (∃ v2, fI h1 a0 1 3 = some v2 ∧ (∃ h3, pV h1 a0 1 4 (.int v2) = some h3 ∧ wp_Layers_addLayer_151 z Q a0 h3))))
set_option maxRecDepth 100000 in
set_option maxHeartbeats 4000000 in
theorem t_Layers_addLayer_136 {p : Program} {l : Launch} {e : Env} {s : State} {m : MethodId} {args : Array Value} {below : List Frame} {meth : Method} {c : Code} {G : xG} {z : Nat → Nat} {A : Nat → Prop} {Qw : State → Prop} {Q : xh → Prop} {a0 : Nat} {x1 : Int32} {s1 : Int32} {s0 : Nat} {hp : xh} (X : xX p l e rm_Layers_addLayer s m args below meth c G z A y_Layers_addLayer b_Layers_addLayer 4) (hret : xRet p l e rm_Layers_addLayer s m args below meth c G A 4 Qw b_Layers_addLayer none (xqv Q))  (hf : wp_Layers_addLayer_136 z Q  a0 x1 s1 s0 hp) : xE p l e rm_Layers_addLayer s m args below meth c G A 4 Qw 0 0 hp 136 [(0, .ref a0), (1, .int x1)] [.int s1, .ref s0] := by
  unfold wp_Layers_addLayer_136 at hf
  obtain ⟨hb, hf⟩ := hf
  refine x_put X hf (ci := 1) (j := 6) (ty := .boolean) rfl (by decide) rfl lf_Layers_32 rfl (by decide +kernel) (xbl_nar hb) (xbl_fit hb) d_Layers_addLayer_136 139 rfl (fun h1 hf => ?_)
  refine x_iload_n X (q := 1) d_Layers_addLayer_139 rfl 140 rfl ?_
  refine x_if_eq X hf d_Layers_addLayer_140 151 143 (by decide) rfl (fun hf => ?_) (fun hf => ?_)
  · exact x_sub [0] rfl (t_Layers_addLayer_151 X hret hf)
  · refine x_aload_n X (q := 0) d_Layers_addLayer_143 rfl 144 rfl ?_
    refine x_aload_n X (q := 0) d_Layers_addLayer_144 rfl 145 rfl ?_
    refine x_getI X hf (ci := 1) (j := 3) rfl (by decide) rfl lf_Layers_22 d_Layers_addLayer_145 148 rfl (fun v2 hf => ?_)
    refine x_put X hf (ci := 1) (j := 4) (ty := .int) rfl (by decide) rfl lf_Layers_26 rfl (by decide +kernel) rfl rfl d_Layers_addLayer_148 151 rfl (fun h3 hf => ?_)
    exact x_sub [0] rfl (t_Layers_addLayer_151 X hret hf)
set_option maxRecDepth 100000 in
def wp_Layers_addLayer_131 (z : Nat → Nat) (Q : xh → Prop)  (a0 : Nat) (x1 : Int32) (s0 : Nat) (hp : xh) : Prop :=
  wp_Layers_addLayer_136 z Q a0 x1 1 s0 hp
set_option maxRecDepth 100000 in
set_option maxHeartbeats 4000000 in
theorem t_Layers_addLayer_131 {p : Program} {l : Launch} {e : Env} {s : State} {m : MethodId} {args : Array Value} {below : List Frame} {meth : Method} {c : Code} {G : xG} {z : Nat → Nat} {A : Nat → Prop} {Qw : State → Prop} {Q : xh → Prop} {a0 : Nat} {x1 : Int32} {s0 : Nat} {hp : xh} (X : xX p l e rm_Layers_addLayer s m args below meth c G z A y_Layers_addLayer b_Layers_addLayer 4) (hret : xRet p l e rm_Layers_addLayer s m args below meth c G A 4 Qw b_Layers_addLayer none (xqv Q))  (hf : wp_Layers_addLayer_131 z Q  a0 x1 s0 hp) : xE p l e rm_Layers_addLayer s m args below meth c G A 4 Qw 0 0 hp 131 [(0, .ref a0), (1, .int x1)] [.ref s0] := by
  unfold wp_Layers_addLayer_131 at hf
  refine x_iconst X (v := 1) d_Layers_addLayer_131 (by decide) 132 rfl ?_
  refine x_goto X d_Layers_addLayer_132 136 (by decide) ?_
  exact x_sub [0, 1] rfl (t_Layers_addLayer_136 X hret hf)
set_option maxRecDepth 100000 in
def wp_Layers_addLayer_97 (z : Nat → Nat) (Q : xh → Prop) (k17 : Nat × Int32 × Int32 × Int32 × xh → Prop) (a0 : Nat) (x1 : Int32) (x3 : Int32) (s0 : Int32) (hp : xh) : Prop :=
  k17 (a0, x1, s0, (x3 + 1), hp)
set_option maxRecDepth 100000 in
set_option maxHeartbeats 4000000 in
theorem t_Layers_addLayer_97 {p : Program} {l : Launch} {e : Env} {s : State} {m : MethodId} {args : Array Value} {below : List Frame} {meth : Method} {c : Code} {G : xG} {z : Nat → Nat} {A : Nat → Prop} {Qw : State → Prop} {Q : xh → Prop} {k17 : Nat × Int32 × Int32 × Int32 × xh → Prop} {a0 : Nat} {x1 : Int32} {x3 : Int32} {s0 : Int32} {hp : xh} (X : xX p l e rm_Layers_addLayer s m args below meth c G z A y_Layers_addLayer b_Layers_addLayer 4) (hret : xRet p l e rm_Layers_addLayer s m args below meth c G A 4 Qw b_Layers_addLayer none (xqv Q)) (hk17 : ∀ (a0 : Nat) (x1 : Int32) (x2 : Int32) (x3 : Int32) (hp : xh), k17 (a0, x1, x2, x3, hp) → xE p l e rm_Layers_addLayer s m args below meth c G A 4 Qw 0 0 hp 17 [(0, .ref a0), (1, .int x1), (2, .int x2), (3, .int x3)] []) (hf : wp_Layers_addLayer_97 z Q k17 a0 x1 x3 s0 hp) : xE p l e rm_Layers_addLayer s m args below meth c G A 4 Qw 0 0 hp 97 [(0, .ref a0), (1, .int x1), (3, .int x3)] [.int s0] := by
  unfold wp_Layers_addLayer_97 at hf
  refine x_istore_n X (lv' := [(2, .int s0), (0, .ref a0), (1, .int x1), (3, .int x3)]) d_Layers_addLayer_97 rfl (by decide) rfl 98 rfl ?_
  refine x_iinc X (q := 3) (v := (x3 + 1)) (lv' := [(3, .int (x3 + 1)), (2, .int s0), (0, .ref a0), (1, .int x1)]) d_Layers_addLayer_98 rfl (by rfl) (by decide) rfl 101 rfl ?_
  refine x_goto X d_Layers_addLayer_101 17 (by decide) ?_
  exact x_sub [2, 3, 1, 0] rfl (hk17 _ _ _ _ _ hf)
set_option maxRecDepth 100000 in
def wp_Layers_addLayer_92 (z : Nat → Nat) (Q : xh → Prop) (k17 : Nat × Int32 × Int32 × Int32 × xh → Prop) (a0 : Nat) (x1 : Int32) (x3 : Int32) (hp : xh) : Prop :=
  wp_Layers_addLayer_97 z Q k17 a0 x1 x3 1 hp
set_option maxRecDepth 100000 in
set_option maxHeartbeats 4000000 in
theorem t_Layers_addLayer_92 {p : Program} {l : Launch} {e : Env} {s : State} {m : MethodId} {args : Array Value} {below : List Frame} {meth : Method} {c : Code} {G : xG} {z : Nat → Nat} {A : Nat → Prop} {Qw : State → Prop} {Q : xh → Prop} {k17 : Nat × Int32 × Int32 × Int32 × xh → Prop} {a0 : Nat} {x1 : Int32} {x3 : Int32} {hp : xh} (X : xX p l e rm_Layers_addLayer s m args below meth c G z A y_Layers_addLayer b_Layers_addLayer 4) (hret : xRet p l e rm_Layers_addLayer s m args below meth c G A 4 Qw b_Layers_addLayer none (xqv Q)) (hk17 : ∀ (a0 : Nat) (x1 : Int32) (x2 : Int32) (x3 : Int32) (hp : xh), k17 (a0, x1, x2, x3, hp) → xE p l e rm_Layers_addLayer s m args below meth c G A 4 Qw 0 0 hp 17 [(0, .ref a0), (1, .int x1), (2, .int x2), (3, .int x3)] []) (hf : wp_Layers_addLayer_92 z Q k17 a0 x1 x3 hp) : xE p l e rm_Layers_addLayer s m args below meth c G A 4 Qw 0 0 hp 92 [(0, .ref a0), (1, .int x1), (3, .int x3)] [] := by
  unfold wp_Layers_addLayer_92 at hf
  refine x_iconst X (v := 1) d_Layers_addLayer_92 (by decide) 93 rfl ?_
  refine x_goto X d_Layers_addLayer_93 97 (by decide) ?_
  exact x_sub [0, 1, 2] rfl (t_Layers_addLayer_97 X hret hk17 hf)
set_option maxRecDepth 100000 in
def wp_Layers_addLayer_72 (z : Nat → Nat) (Q : xh → Prop) (k17 : Nat × Int32 × Int32 × Int32 × xh → Prop) (a0 : Nat) (x2 : Int32) (x3 : Int32) (s0 : Int32) (hp : xh) : Prop :=
  (¬ x2 = 0 → wp_Layers_addLayer_92 z Q k17 a0 s0 x3 hp) ∧ (x2 = 0 → (∃ o1, fR hp a0 1 2 = some o1 ∧ (∃ v2, aI hp o1 2 x3 = some v2 ∧ (∃ o3, fR hp a0 1 1 = some o3 ∧ (∃ v4, aI hp o3 2 x3 = some v4 ∧ ((v2 = v4 → wp_Layers_addLayer_97 z Q k17 a0 s0 x3 0 hp) ∧ (¬ v2 = v4 → wp_Layers_addLayer_92 z Q k17 a0 s0 x3 hp)))))))
set_option maxRecDepth 100000 in
set_option maxHeartbeats 4000000 in
theorem t_Layers_addLayer_72 {p : Program} {l : Launch} {e : Env} {s : State} {m : MethodId} {args : Array Value} {below : List Frame} {meth : Method} {c : Code} {G : xG} {z : Nat → Nat} {A : Nat → Prop} {Qw : State → Prop} {Q : xh → Prop} {k17 : Nat × Int32 × Int32 × Int32 × xh → Prop} {a0 : Nat} {x2 : Int32} {x3 : Int32} {s0 : Int32} {hp : xh} (X : xX p l e rm_Layers_addLayer s m args below meth c G z A y_Layers_addLayer b_Layers_addLayer 4) (hret : xRet p l e rm_Layers_addLayer s m args below meth c G A 4 Qw b_Layers_addLayer none (xqv Q)) (hk17 : ∀ (a0 : Nat) (x1 : Int32) (x2 : Int32) (x3 : Int32) (hp : xh), k17 (a0, x1, x2, x3, hp) → xE p l e rm_Layers_addLayer s m args below meth c G A 4 Qw 0 0 hp 17 [(0, .ref a0), (1, .int x1), (2, .int x2), (3, .int x3)] []) (hf : wp_Layers_addLayer_72 z Q k17 a0 x2 x3 s0 hp) : xE p l e rm_Layers_addLayer s m args below meth c G A 4 Qw 0 0 hp 72 [(0, .ref a0), (2, .int x2), (3, .int x3)] [.int s0] := by
  unfold wp_Layers_addLayer_72 at hf
  refine x_istore_n X (lv' := [(1, .int s0), (0, .ref a0), (2, .int x2), (3, .int x3)]) d_Layers_addLayer_72 rfl (by decide) rfl 73 rfl ?_
  refine x_iload_n X (q := 2) d_Layers_addLayer_73 rfl 74 rfl ?_
  refine x_if_ne X hf d_Layers_addLayer_74 92 77 (by decide) rfl (fun hf => ?_) (fun hf => ?_)
  · exact x_sub [1, 0, 3] rfl (t_Layers_addLayer_92 X hret hk17 hf)
  · refine x_aload_n X (q := 1) d_Layers_addLayer_77 rfl 78 rfl ?_
    refine x_getR X hf (ci := 1) (j := 2) rfl (by decide) rfl lf_Layers_15 d_Layers_addLayer_78 81 rfl (fun o1 hf => ?_)
    refine x_iload_n X (q := 3) d_Layers_addLayer_81 rfl 82 rfl ?_
    refine x_zald X hf d_Layers_addLayer_82 83 rfl (fun v2 hf => ?_)
    refine x_aload_n X (q := 1) d_Layers_addLayer_83 rfl 84 rfl ?_
    refine x_getR X hf (ci := 1) (j := 1) rfl (by decide) rfl lf_Layers_9 d_Layers_addLayer_84 87 rfl (fun o3 hf => ?_)
    refine x_iload_n X (q := 3) d_Layers_addLayer_87 rfl 88 rfl ?_
    refine x_zald X hf d_Layers_addLayer_88 89 rfl (fun v4 hf => ?_)
    refine x_icmp_eq X hf d_Layers_addLayer_89 96 92 (by decide) rfl (fun hf => ?_) (fun hf => ?_)
    · refine x_iconst X (v := 0) d_Layers_addLayer_96 (by decide) 97 rfl ?_
      exact x_sub [1, 0, 3] rfl (t_Layers_addLayer_97 X hret hk17 hf)
    · exact x_sub [1, 0, 3] rfl (t_Layers_addLayer_92 X hret hk17 hf)
set_option maxRecDepth 100000 in
def wp_Layers_addLayer_71 (z : Nat → Nat) (Q : xh → Prop) (k17 : Nat × Int32 × Int32 × Int32 × xh → Prop) (a0 : Nat) (x2 : Int32) (x3 : Int32) (hp : xh) : Prop :=
  wp_Layers_addLayer_72 z Q k17 a0 x2 x3 0 hp
set_option maxRecDepth 100000 in
set_option maxHeartbeats 4000000 in
theorem t_Layers_addLayer_71 {p : Program} {l : Launch} {e : Env} {s : State} {m : MethodId} {args : Array Value} {below : List Frame} {meth : Method} {c : Code} {G : xG} {z : Nat → Nat} {A : Nat → Prop} {Qw : State → Prop} {Q : xh → Prop} {k17 : Nat × Int32 × Int32 × Int32 × xh → Prop} {a0 : Nat} {x2 : Int32} {x3 : Int32} {hp : xh} (X : xX p l e rm_Layers_addLayer s m args below meth c G z A y_Layers_addLayer b_Layers_addLayer 4) (hret : xRet p l e rm_Layers_addLayer s m args below meth c G A 4 Qw b_Layers_addLayer none (xqv Q)) (hk17 : ∀ (a0 : Nat) (x1 : Int32) (x2 : Int32) (x3 : Int32) (hp : xh), k17 (a0, x1, x2, x3, hp) → xE p l e rm_Layers_addLayer s m args below meth c G A 4 Qw 0 0 hp 17 [(0, .ref a0), (1, .int x1), (2, .int x2), (3, .int x3)] []) (hf : wp_Layers_addLayer_71 z Q k17 a0 x2 x3 hp) : xE p l e rm_Layers_addLayer s m args below meth c G A 4 Qw 0 0 hp 71 [(0, .ref a0), (2, .int x2), (3, .int x3)] [] := by
  unfold wp_Layers_addLayer_71 at hf
  refine x_iconst X (v := 0) d_Layers_addLayer_71 (by decide) 72 rfl ?_
  exact x_sub [0, 1, 2] rfl (t_Layers_addLayer_72 X hret hk17 hf)
set_option maxRecDepth 100000 in
def wp_Layers_addLayer_53 (z : Nat → Nat) (Q : xh → Prop) (k17 : Nat × Int32 × Int32 × Int32 × xh → Prop) (a0 : Nat) (x1 : Int32) (x2 : Int32) (x3 : Int32) (s2 : Int32) (s1 : Int32) (s0 : Nat) (hp : xh) : Prop :=
  ∃ h1, sI hp s0 2 s1 (vp_nar .boolean s2) = some h1 ∧ ((x1 = 0 → wp_Layers_addLayer_71 z Q k17 a0 x2 x3 h1) ∧ (¬ x1 = 0 → (∃ o2, fR h1 a0 1 2 = some o2 ∧ (∃ v3, aI h1 o2 2 x3 = some v3 ∧ ((¬ v3 = 0 → wp_Layers_addLayer_71 z Q k17 a0 x2 x3 h1) ∧ (v3 = 0 → wp_Layers_addLayer_72 z Q k17 a0 x2 x3 1 h1))))))
set_option maxRecDepth 100000 in
set_option maxHeartbeats 4000000 in
theorem t_Layers_addLayer_53 {p : Program} {l : Launch} {e : Env} {s : State} {m : MethodId} {args : Array Value} {below : List Frame} {meth : Method} {c : Code} {G : xG} {z : Nat → Nat} {A : Nat → Prop} {Qw : State → Prop} {Q : xh → Prop} {k17 : Nat × Int32 × Int32 × Int32 × xh → Prop} {a0 : Nat} {x1 : Int32} {x2 : Int32} {x3 : Int32} {s2 : Int32} {s1 : Int32} {s0 : Nat} {hp : xh} (X : xX p l e rm_Layers_addLayer s m args below meth c G z A y_Layers_addLayer b_Layers_addLayer 4) (hret : xRet p l e rm_Layers_addLayer s m args below meth c G A 4 Qw b_Layers_addLayer none (xqv Q)) (hk17 : ∀ (a0 : Nat) (x1 : Int32) (x2 : Int32) (x3 : Int32) (hp : xh), k17 (a0, x1, x2, x3, hp) → xE p l e rm_Layers_addLayer s m args below meth c G A 4 Qw 0 0 hp 17 [(0, .ref a0), (1, .int x1), (2, .int x2), (3, .int x3)] []) (hf : wp_Layers_addLayer_53 z Q k17 a0 x1 x2 x3 s2 s1 s0 hp) : xE p l e rm_Layers_addLayer s m args below meth c G A 4 Qw 0 0 hp 53 [(0, .ref a0), (1, .int x1), (2, .int x2), (3, .int x3)] [.int s2, .int s1, .ref s0] := by
  unfold wp_Layers_addLayer_53 at hf
  refine x_zast X hf d_Layers_addLayer_53 54 rfl (fun h1 hf => ?_)
  refine x_iload_n X (q := 1) d_Layers_addLayer_54 rfl 55 rfl ?_
  refine x_if_eq X hf d_Layers_addLayer_55 71 58 (by decide) rfl (fun hf => ?_) (fun hf => ?_)
  · exact x_sub [0, 2, 3] rfl (t_Layers_addLayer_71 X hret hk17 hf)
  · refine x_aload_n X (q := 0) d_Layers_addLayer_58 rfl 59 rfl ?_
    refine x_getR X hf (ci := 1) (j := 2) rfl (by decide) rfl lf_Layers_15 d_Layers_addLayer_59 62 rfl (fun o2 hf => ?_)
    refine x_iload_n X (q := 3) d_Layers_addLayer_62 rfl 63 rfl ?_
    refine x_zald X hf d_Layers_addLayer_63 64 rfl (fun v3 hf => ?_)
    refine x_if_ne X hf d_Layers_addLayer_64 71 67 (by decide) rfl (fun hf => ?_) (fun hf => ?_)
    · exact x_sub [0, 2, 3] rfl (t_Layers_addLayer_71 X hret hk17 hf)
    · refine x_iconst X (v := 1) d_Layers_addLayer_67 (by decide) 68 rfl ?_
      refine x_goto X d_Layers_addLayer_68 72 (by decide) ?_
      exact x_sub [0, 2, 3] rfl (t_Layers_addLayer_72 X hret hk17 hf)
set_option maxRecDepth 100000 in
def wp_Layers_addLayer_52 (z : Nat → Nat) (Q : xh → Prop) (k17 : Nat × Int32 × Int32 × Int32 × xh → Prop) (a0 : Nat) (x1 : Int32) (x2 : Int32) (x3 : Int32) (s1 : Int32) (s0 : Nat) (hp : xh) : Prop :=
  wp_Layers_addLayer_53 z Q k17 a0 x1 x2 x3 0 s1 s0 hp
set_option maxRecDepth 100000 in
set_option maxHeartbeats 4000000 in
theorem t_Layers_addLayer_52 {p : Program} {l : Launch} {e : Env} {s : State} {m : MethodId} {args : Array Value} {below : List Frame} {meth : Method} {c : Code} {G : xG} {z : Nat → Nat} {A : Nat → Prop} {Qw : State → Prop} {Q : xh → Prop} {k17 : Nat × Int32 × Int32 × Int32 × xh → Prop} {a0 : Nat} {x1 : Int32} {x2 : Int32} {x3 : Int32} {s1 : Int32} {s0 : Nat} {hp : xh} (X : xX p l e rm_Layers_addLayer s m args below meth c G z A y_Layers_addLayer b_Layers_addLayer 4) (hret : xRet p l e rm_Layers_addLayer s m args below meth c G A 4 Qw b_Layers_addLayer none (xqv Q)) (hk17 : ∀ (a0 : Nat) (x1 : Int32) (x2 : Int32) (x3 : Int32) (hp : xh), k17 (a0, x1, x2, x3, hp) → xE p l e rm_Layers_addLayer s m args below meth c G A 4 Qw 0 0 hp 17 [(0, .ref a0), (1, .int x1), (2, .int x2), (3, .int x3)] []) (hf : wp_Layers_addLayer_52 z Q k17 a0 x1 x2 x3 s1 s0 hp) : xE p l e rm_Layers_addLayer s m args below meth c G A 4 Qw 0 0 hp 52 [(0, .ref a0), (1, .int x1), (2, .int x2), (3, .int x3)] [.int s1, .ref s0] := by
  unfold wp_Layers_addLayer_52 at hf
  refine x_iconst X (v := 0) d_Layers_addLayer_52 (by decide) 53 rfl ?_
  exact x_sub [0, 1, 2, 3] rfl (t_Layers_addLayer_53 X hret hk17 hf)
set_option maxRecDepth 100000 in
def wp_Layers_addLayer_17_b (z : Nat → Nat) (Q : xh → Prop)  (k17 : Nat × Int32 × Int32 × Int32 × xh → Prop) (a0 : Nat) (x1 : Int32) (x2 : Int32) (x3 : Int32) (hp : xh) : Prop :=
  (4096 ≤ x3 → (∃ o1, fR hp a0 1 2 = some o1 ∧ (∃ o2, fR hp a0 1 1 = some o2 ∧ (∃ h3, pV hp a0 1 2 (.ref o2) = some h3 ∧ (∃ h4, pV h3 a0 1 1 (.ref o1) = some h4 ∧ ((¬ x1 = 0 → wp_Layers_addLayer_131 z Q a0 x1 a0 h4) ∧ (x1 = 0 → ((¬ x2 = 0 → wp_Layers_addLayer_136 z Q a0 x1 0 a0 h4) ∧ (x2 = 0 → wp_Layers_addLayer_131 z Q a0 x1 a0 h4))))))))) ∧ (¬ 4096 ≤ x3 → (∃ o5, fR hp a0 1 2 = some o5 ∧ (∃ o6, fR hp a0 1 0 = some o6 ∧ (xcls hp o6 7 ∧ wp_Table_isPair z (fun v8 h7 => (v8 = 0 → wp_Layers_addLayer_52 z Q k17 a0 x1 x2 x3 x3 o5 h7) ∧ (¬ v8 = 0 → (xcls h7 a0 1 ∧ wp_Layers_isInLayer z (fun v11 h10 => (v11 = 0 → wp_Layers_addLayer_52 z Q k17 a0 x1 x2 x3 x3 o5 h10) ∧ (¬ v11 = 0 → wp_Layers_addLayer_53 z Q k17 a0 x1 x2 x3 1 x3 o5 h10)) a0 x3 h7))) o6 x3 hp))))
set_option maxRecDepth 100000 in
def wp_Layers_addLayer_17 (z : Nat → Nat) (Q : xh → Prop)  (a0 : Nat) (x1 : Int32) (x2 : Int32) (x3 : Int32) (hp : xh) : Prop := ∃ f : Nat, xloop (fun k17 a => wp_Layers_addLayer_17_b z Q  k17 a.1 a.2.1 a.2.2.1 a.2.2.2.1 a.2.2.2.2) f (a0, x1, x2, x3, hp)
set_option maxRecDepth 100000 in
set_option maxHeartbeats 4000000 in
theorem t_Layers_addLayer_17 {p : Program} {l : Launch} {e : Env} {s : State} {m : MethodId} {args : Array Value} {below : List Frame} {meth : Method} {c : Code} {G : xG} {z : Nat → Nat} {A : Nat → Prop} {Qw : State → Prop} {Q : xh → Prop} {a0 : Nat} {x1 : Int32} {x2 : Int32} {x3 : Int32} {hp : xh} (X : xX p l e rm_Layers_addLayer s m args below meth c G z A y_Layers_addLayer b_Layers_addLayer 4) (hret : xRet p l e rm_Layers_addLayer s m args below meth c G A 4 Qw b_Layers_addLayer none (xqv Q))  (hf : wp_Layers_addLayer_17 z Q  a0 x1 x2 x3 hp) : xE p l e rm_Layers_addLayer s m args below meth c G A 4 Qw 0 0 hp 17 [(0, .ref a0), (1, .int x1), (2, .int x2), (3, .int x3)] [] := by
  obtain ⟨f, hf⟩ := hf
  refine xloop_ind (F := fun k17 a => wp_Layers_addLayer_17_b z Q  k17 a.1 a.2.1 a.2.2.1 a.2.2.2.1 a.2.2.2.2) (E := fun a => xE p l e rm_Layers_addLayer s m args below meth c G A 4 Qw 0 0 a.2.2.2.2 17 [(0, .ref (a.1)), (1, .int (a.2.1)), (2, .int (a.2.2.1)), (3, .int (a.2.2.2.1))] []) ?_ f (a0, x1, x2, x3, hp) hf
  intro k17 hk a hf
  obtain ⟨a0, x1, x2, x3, hp⟩ := a
  have hk17 : ∀ (a0 : Nat) (x1 : Int32) (x2 : Int32) (x3 : Int32) (hp : xh), k17 (a0, x1, x2, x3, hp) → xE p l e rm_Layers_addLayer s m args below meth c G A 4 Qw 0 0 hp 17 [(0, .ref a0), (1, .int x1), (2, .int x2), (3, .int x3)] [] := fun a0 x1 x2 x3 hp h => hk (a0, x1, x2, x3, hp) h
  have hf : wp_Layers_addLayer_17_b z Q  k17 a0 x1 x2 x3 hp := hf
  unfold wp_Layers_addLayer_17_b at hf
  refine x_iload_n X (q := 3) d_Layers_addLayer_17 rfl 18 rfl ?_
  refine x_sipush X (v := 4096) d_Layers_addLayer_18 (by decide) 21 rfl ?_
  refine x_icmp_ge X hf d_Layers_addLayer_21 104 24 (by decide) rfl (fun hf => ?_) (fun hf => ?_)
  · refine x_aload_n X (q := 0) d_Layers_addLayer_104 rfl 105 rfl ?_
    refine x_getR X hf (ci := 1) (j := 2) rfl (by decide) rfl lf_Layers_15 d_Layers_addLayer_105 108 rfl (fun o1 hf => ?_)
    refine x_astore_n X (lv' := [(3, .ref o1), (0, .ref a0), (1, .int x1), (2, .int x2)]) d_Layers_addLayer_108 rfl (by decide) rfl 109 rfl ?_
    refine x_aload_n X (q := 1) d_Layers_addLayer_109 rfl 110 rfl ?_
    refine x_aload_n X (q := 1) d_Layers_addLayer_110 rfl 111 rfl ?_
    refine x_getR X hf (ci := 1) (j := 1) rfl (by decide) rfl lf_Layers_9 d_Layers_addLayer_111 114 rfl (fun o2 hf => ?_)
    refine x_put X hf (ci := 1) (j := 2) (ty := (.array .boolean)) rfl (by decide) rfl lf_Layers_15 rfl (by decide +kernel) rfl rfl d_Layers_addLayer_114 117 rfl (fun h3 hf => ?_)
    refine x_aload_n X (q := 1) d_Layers_addLayer_117 rfl 118 rfl ?_
    refine x_aload_n X (q := 0) d_Layers_addLayer_118 rfl 119 rfl ?_
    refine x_put X hf (ci := 1) (j := 1) (ty := (.array .boolean)) rfl (by decide) rfl lf_Layers_9 rfl (by decide +kernel) rfl rfl d_Layers_addLayer_119 122 rfl (fun h4 hf => ?_)
    refine x_aload_n X (q := 1) d_Layers_addLayer_122 rfl 123 rfl ?_
    refine x_iload_n X (q := 2) d_Layers_addLayer_123 rfl 124 rfl ?_
    refine x_if_ne X hf d_Layers_addLayer_124 131 127 (by decide) rfl (fun hf => ?_) (fun hf => ?_)
    · exact x_sub [1, 2] rfl (t_Layers_addLayer_131 X hret hf)
    · refine x_iload_n X (q := 3) d_Layers_addLayer_127 rfl 128 rfl ?_
      refine x_if_ne X hf d_Layers_addLayer_128 135 131 (by decide) rfl (fun hf => ?_) (fun hf => ?_)
      · refine x_iconst X (v := 0) d_Layers_addLayer_135 (by decide) 136 rfl ?_
        exact x_sub [1, 2] rfl (t_Layers_addLayer_136 X hret hf)
      · exact x_sub [1, 2] rfl (t_Layers_addLayer_131 X hret hf)
  · refine x_aload_n X (q := 0) d_Layers_addLayer_24 rfl 25 rfl ?_
    refine x_getR X hf (ci := 1) (j := 2) rfl (by decide) rfl lf_Layers_15 d_Layers_addLayer_25 28 rfl (fun o5 hf => ?_)
    refine x_iload_n X (q := 3) d_Layers_addLayer_28 rfl 29 rfl ?_
    refine x_aload_n X (q := 0) d_Layers_addLayer_29 rfl 30 rfl ?_
    refine x_getR X hf (ci := 1) (j := 0) rfl (by decide) rfl lf_Layers_18 d_Layers_addLayer_30 33 rfl (fun o6 hf => ?_)
    refine x_iload_n X (q := 3) d_Layers_addLayer_33 rfl 34 rfl ?_
    refine x_callV0z X (t_Table_isPair hf.2) hf.1 (ci := 7) rfl rfl lm_Layers_39 im_Table_isPair sl_Table_isPair cd_Table_isPair in_Table ds_Table_isPair rfl rfl (Nat.le_of_ble_eq_true rfl) (Nat.le_of_ble_eq_true rfl) (Nat.le_of_ble_eq_true rfl) rfl rfl (Nat.le_refl 0) (Nat.le_refl 0) d_Layers_addLayer_34 37 rfl (fun v8 h7 hb9 hf => ?_)
    refine x_if_eq X hf d_Layers_addLayer_37 52 40 (by decide) rfl (fun hf => ?_) (fun hf => ?_)
    · exact x_sub [0, 1, 2, 3] rfl (t_Layers_addLayer_52 X hret hk17 hf)
    · refine x_aload_n X (q := 0) d_Layers_addLayer_40 rfl 41 rfl ?_
      refine x_iload_n X (q := 3) d_Layers_addLayer_41 rfl 42 rfl ?_
      refine x_callV0z X (t_Layers_isInLayer hf.2) hf.1 (ci := 1) rfl rfl lm_Layers_45 im_Layers_isInLayer sl_Layers_isInLayer cd_Layers_isInLayer in_Layers ds_Layers_isInLayer rfl rfl (Nat.le_of_ble_eq_true rfl) (Nat.le_of_ble_eq_true rfl) (Nat.le_of_ble_eq_true rfl) rfl rfl (Nat.le_refl 0) (Nat.le_refl 0) d_Layers_addLayer_42 45 rfl (fun v11 h10 hb12 hf => ?_)
      refine x_if_eq X hf d_Layers_addLayer_45 52 48 (by decide) rfl (fun hf => ?_) (fun hf => ?_)
      · exact x_sub [0, 1, 2, 3] rfl (t_Layers_addLayer_52 X hret hk17 hf)
      · refine x_iconst X (v := 1) d_Layers_addLayer_48 (by decide) 49 rfl ?_
        refine x_goto X d_Layers_addLayer_49 53 (by decide) ?_
        exact x_sub [0, 1, 2, 3] rfl (t_Layers_addLayer_53 X hret hk17 hf)
set_option maxRecDepth 100000 in
def wp_Layers_addLayer_14 (z : Nat → Nat) (Q : xh → Prop)  (a0 : Nat) (x1 : Int32) (s0 : Int32) (hp : xh) : Prop :=
  wp_Layers_addLayer_17 z Q a0 x1 s0 0 hp
set_option maxRecDepth 100000 in
set_option maxHeartbeats 4000000 in
theorem t_Layers_addLayer_14 {p : Program} {l : Launch} {e : Env} {s : State} {m : MethodId} {args : Array Value} {below : List Frame} {meth : Method} {c : Code} {G : xG} {z : Nat → Nat} {A : Nat → Prop} {Qw : State → Prop} {Q : xh → Prop} {a0 : Nat} {x1 : Int32} {s0 : Int32} {hp : xh} (X : xX p l e rm_Layers_addLayer s m args below meth c G z A y_Layers_addLayer b_Layers_addLayer 4) (hret : xRet p l e rm_Layers_addLayer s m args below meth c G A 4 Qw b_Layers_addLayer none (xqv Q))  (hf : wp_Layers_addLayer_14 z Q  a0 x1 s0 hp) : xE p l e rm_Layers_addLayer s m args below meth c G A 4 Qw 0 0 hp 14 [(0, .ref a0), (1, .int x1)] [.int s0] := by
  unfold wp_Layers_addLayer_14 at hf
  refine x_istore_n X (lv' := [(2, .int s0), (0, .ref a0), (1, .int x1)]) d_Layers_addLayer_14 rfl (by decide) rfl 15 rfl ?_
  refine x_iconst X (v := 0) d_Layers_addLayer_15 (by decide) 16 rfl ?_
  refine x_istore_n X (lv' := [(3, .int 0), (2, .int s0), (0, .ref a0), (1, .int x1)]) d_Layers_addLayer_16 rfl (by decide) rfl 17 rfl ?_
  exact x_sub [2, 3, 1, 0] rfl (t_Layers_addLayer_17 X hret hf)
set_option maxRecDepth 100000 in
def wp_Layers_addLayer (z : Nat → Nat) (Q : xh → Prop) (a0 : Nat) (hp : xh) : Prop :=
  ∃ v1, fI hp a0 1 3 = some v1 ∧ ((¬ v1 = 0 → wp_Layers_addLayer_14 z Q a0 1 0 hp) ∧ (v1 = 0 → wp_Layers_addLayer_14 z Q a0 1 1 hp))
set_option maxRecDepth 100000 in
set_option maxHeartbeats 4000000 in
theorem t_Layers_addLayer {l : Launch} {G : xG} {z : Nat → Nat} {Q : xh → Prop} {a0 : Nat} {hp : xh} (hf : wp_Layers_addLayer z Q a0 hp) : xM l G z y_Layers_addLayer b_Layers_addLayer 4 none rm_Layers_addLayer [.ref a0] hp (xqv Q) := by
  refine xM_of (by decide) (Nat.le_of_ble_eq_true rfl) (lv0 := [(0, .ref a0)]) rfl ?_
  intro p e s m args below meth c A Qw X hret
  unfold wp_Layers_addLayer at hf
  refine x_iconst X (v := 1) d_Layers_addLayer_0 (by decide) 1 rfl ?_
  refine x_istore_n X (lv' := [(1, .int 1), (0, .ref a0)]) d_Layers_addLayer_1 rfl (by decide) rfl 2 rfl ?_
  refine x_aload_n X (q := 1) d_Layers_addLayer_2 rfl 3 rfl ?_
  refine x_getI X hf (ci := 1) (j := 3) rfl (by decide) rfl lf_Layers_22 d_Layers_addLayer_3 6 rfl (fun v1 hf => ?_)
  refine x_if_ne X hf d_Layers_addLayer_6 13 9 (by decide) rfl (fun hf => ?_) (fun hf => ?_)
  · refine x_iconst X (v := 0) d_Layers_addLayer_13 (by decide) 14 rfl ?_
    exact x_sub [1, 0] rfl (t_Layers_addLayer_14 X hret hf)
  · refine x_iconst X (v := 1) d_Layers_addLayer_9 (by decide) 10 rfl ?_
    refine x_goto X d_Layers_addLayer_10 14 (by decide) ?_
    exact x_sub [1, 0] rfl (t_Layers_addLayer_14 X hret hf)

set_option maxRecDepth 100000 in
def wp_Layers_isEmpty_32 (z : Nat → Nat) (Q : Int32 → xh → Prop)  (a0 : Nat) (x1 : Int32) (hp : xh) : Prop :=
  ∃ v1, fI hp a0 1 4 = some v1 ∧ ((v1 = (-1) → Q 0 hp) ∧ (¬ v1 = (-1) → (∃ v2, fI hp a0 1 4 = some v2 ∧ ((x1 < v2 → Q 0 hp) ∧ (¬ x1 < v2 → Q 1 hp)))))
set_option maxRecDepth 100000 in
set_option maxHeartbeats 4000000 in
theorem t_Layers_isEmpty_32 {p : Program} {l : Launch} {e : Env} {s : State} {m : MethodId} {args : Array Value} {below : List Frame} {meth : Method} {c : Code} {G : xG} {z : Nat → Nat} {A : Nat → Prop} {Qw : State → Prop} {Q : Int32 → xh → Prop} {a0 : Nat} {x1 : Int32} {hp : xh} (X : xX p l e rm_Layers_isEmpty s m args below meth c G z A y_Layers_isEmpty b_Layers_isEmpty 2) (hret : xRet p l e rm_Layers_isEmpty s m args below meth c G A 2 Qw b_Layers_isEmpty (some .boolean) (xqz Q))  (hf : wp_Layers_isEmpty_32 z Q  a0 x1 hp) : xE p l e rm_Layers_isEmpty s m args below meth c G A 2 Qw 0 0 hp 32 [(0, .ref a0), (1, .int x1)] [] := by
  unfold wp_Layers_isEmpty_32 at hf
  refine x_aload_n X (q := 0) d_Layers_isEmpty_32 rfl 33 rfl ?_
  refine x_getI X hf (ci := 1) (j := 4) rfl (by decide) rfl lf_Layers_26 d_Layers_isEmpty_33 36 rfl (fun v1 hf => ?_)
  refine x_iconst X (v := (-1)) d_Layers_isEmpty_36 (by decide) 37 rfl ?_
  refine x_icmp_eq X hf d_Layers_isEmpty_37 52 40 (by decide) rfl (fun hf => ?_) (fun hf => ?_)
  · refine x_iconst X (v := 0) d_Layers_isEmpty_52 (by decide) 53 rfl ?_
    exact hret _ _ _ _ _ (some (.int 0)) (Nat.le_refl 0) (Nat.le_refl 0) ⟨_, rfl, (Or.inl rfl), hf⟩ ⟨⟨_, rfl, xbl_nar (Or.inl rfl)⟩, d_Layers_isEmpty_53⟩
  · refine x_aload_n X (q := 0) d_Layers_isEmpty_40 rfl 41 rfl ?_
    refine x_getI X hf (ci := 1) (j := 4) rfl (by decide) rfl lf_Layers_26 d_Layers_isEmpty_41 44 rfl (fun v2 hf => ?_)
    refine x_iload_n X (q := 1) d_Layers_isEmpty_44 rfl 45 rfl ?_
    refine x_icmp_gt X hf d_Layers_isEmpty_45 52 48 (by decide) rfl (fun hf => ?_) (fun hf => ?_)
    · refine x_iconst X (v := 0) d_Layers_isEmpty_52 (by decide) 53 rfl ?_
      exact hret _ _ _ _ _ (some (.int 0)) (Nat.le_refl 0) (Nat.le_refl 0) ⟨_, rfl, (Or.inl rfl), hf⟩ ⟨⟨_, rfl, xbl_nar (Or.inl rfl)⟩, d_Layers_isEmpty_53⟩
    · refine x_iconst X (v := 1) d_Layers_isEmpty_48 (by decide) 49 rfl ?_
      refine x_goto X d_Layers_isEmpty_49 53 (by decide) ?_
      exact hret _ _ _ _ _ (some (.int 1)) (Nat.le_refl 0) (Nat.le_refl 0) ⟨_, rfl, (Or.inr rfl), hf⟩ ⟨⟨_, rfl, xbl_nar (Or.inr rfl)⟩, d_Layers_isEmpty_53⟩
set_option maxRecDepth 100000 in
def wp_Layers_isEmpty_0_b (z : Nat → Nat) (Q : Int32 → xh → Prop)  (k0 : Nat × Int32 × xh → Prop) (a0 : Nat) (x1 : Int32) (hp : xh) : Prop :=
  ∃ v1, fI hp a0 1 3 = some v1 ∧ ((x1 < v1 → wp_Layers_isEmpty_32 z Q a0 x1 hp) ∧ (¬ x1 < v1 → (∃ v2, fI hp a0 1 6 = some v2 ∧ ((¬ v2 = 0 → wp_Layers_isEmpty_32 z Q a0 x1 hp) ∧ (v2 = 0 → (xcls hp a0 1 ∧ wp_Layers_addLayer z (fun h3 => ∃ v4, fI h3 a0 1 3 = some v4 ∧ (∃ h5, pV h3 a0 1 3 (.int (v4 + 1)) = some h5 ∧ (k0 (a0, x1, h5)))) a0 hp))))))
set_option maxRecDepth 100000 in
def wp_Layers_isEmpty_0 (z : Nat → Nat) (Q : Int32 → xh → Prop)  (a0 : Nat) (x1 : Int32) (hp : xh) : Prop := ∃ f : Nat, xloop (fun k0 a => wp_Layers_isEmpty_0_b z Q  k0 a.1 a.2.1 a.2.2) f (a0, x1, hp)
set_option maxRecDepth 100000 in
set_option maxHeartbeats 4000000 in
theorem t_Layers_isEmpty_0 {p : Program} {l : Launch} {e : Env} {s : State} {m : MethodId} {args : Array Value} {below : List Frame} {meth : Method} {c : Code} {G : xG} {z : Nat → Nat} {A : Nat → Prop} {Qw : State → Prop} {Q : Int32 → xh → Prop} {a0 : Nat} {x1 : Int32} {hp : xh} (X : xX p l e rm_Layers_isEmpty s m args below meth c G z A y_Layers_isEmpty b_Layers_isEmpty 2) (hret : xRet p l e rm_Layers_isEmpty s m args below meth c G A 2 Qw b_Layers_isEmpty (some .boolean) (xqz Q))  (hf : wp_Layers_isEmpty_0 z Q  a0 x1 hp) : xE p l e rm_Layers_isEmpty s m args below meth c G A 2 Qw 0 0 hp 0 [(0, .ref a0), (1, .int x1)] [] := by
  obtain ⟨f, hf⟩ := hf
  refine xloop_ind (F := fun k0 a => wp_Layers_isEmpty_0_b z Q  k0 a.1 a.2.1 a.2.2) (E := fun a => xE p l e rm_Layers_isEmpty s m args below meth c G A 2 Qw 0 0 a.2.2 0 [(0, .ref (a.1)), (1, .int (a.2.1))] []) ?_ f (a0, x1, hp) hf
  intro k0 hk a hf
  obtain ⟨a0, x1, hp⟩ := a
  have hk0 : ∀ (a0 : Nat) (x1 : Int32) (hp : xh), k0 (a0, x1, hp) → xE p l e rm_Layers_isEmpty s m args below meth c G A 2 Qw 0 0 hp 0 [(0, .ref a0), (1, .int x1)] [] := fun a0 x1 hp h => hk (a0, x1, hp) h
  have hf : wp_Layers_isEmpty_0_b z Q  k0 a0 x1 hp := hf
  unfold wp_Layers_isEmpty_0_b at hf
  refine x_aload_n X (q := 0) d_Layers_isEmpty_0 rfl 1 rfl ?_
  refine x_getI X hf (ci := 1) (j := 3) rfl (by decide) rfl lf_Layers_22 d_Layers_isEmpty_1 4 rfl (fun v1 hf => ?_)
  refine x_iload_n X (q := 1) d_Layers_isEmpty_4 rfl 5 rfl ?_
  refine x_icmp_gt X hf d_Layers_isEmpty_5 32 8 (by decide) rfl (fun hf => ?_) (fun hf => ?_)
  · exact x_sub [0, 1] rfl (t_Layers_isEmpty_32 X hret hf)
  · refine x_aload_n X (q := 0) d_Layers_isEmpty_8 rfl 9 rfl ?_
    refine x_getI X hf (ci := 1) (j := 6) rfl (by decide) rfl lf_Layers_32 d_Layers_isEmpty_9 12 rfl (fun v2 hf => ?_)
    refine x_if_ne X hf d_Layers_isEmpty_12 32 15 (by decide) rfl (fun hf => ?_) (fun hf => ?_)
    · exact x_sub [0, 1] rfl (t_Layers_isEmpty_32 X hret hf)
    · refine x_aload_n X (q := 0) d_Layers_isEmpty_15 rfl 16 rfl ?_
      refine x_callV0v X (t_Layers_addLayer hf.2) hf.1 (ci := 1) rfl rfl lm_Layers_36 im_Layers_addLayer sl_Layers_addLayer cd_Layers_addLayer in_Layers ds_Layers_addLayer rfl rfl (Nat.le_of_ble_eq_true rfl) (Nat.le_of_ble_eq_true rfl) (Nat.le_of_ble_eq_true rfl) rfl rfl (Nat.le_refl 0) (Nat.le_refl 0) d_Layers_isEmpty_16 19 rfl (fun h3 hf => ?_)
      refine x_aload_n X (q := 0) d_Layers_isEmpty_19 rfl 20 rfl ?_
      refine x_dup X rfl d_Layers_isEmpty_20 21 rfl ?_
      refine x_getI X hf (ci := 1) (j := 3) rfl (by decide) rfl lf_Layers_22 d_Layers_isEmpty_21 24 rfl (fun v4 hf => ?_)
      refine x_iconst X (v := 1) d_Layers_isEmpty_24 (by decide) 25 rfl ?_
      refine x_iadd X d_Layers_isEmpty_25 26 rfl ?_
      refine x_put X hf (ci := 1) (j := 3) (ty := .int) rfl (by decide) rfl lf_Layers_22 rfl (by decide +kernel) rfl rfl d_Layers_isEmpty_26 29 rfl (fun h5 hf => ?_)
      refine x_goto X d_Layers_isEmpty_29 0 (by decide) ?_
      exact x_sub [0, 1] rfl (hk0 _ _ _ hf)
set_option maxRecDepth 100000 in
def wp_Layers_isEmpty (z : Nat → Nat) (Q : Int32 → xh → Prop) (a0 : Nat) (x1 : Int32) (hp : xh) : Prop :=
  wp_Layers_isEmpty_0 z Q a0 x1 hp
set_option maxRecDepth 100000 in
set_option maxHeartbeats 4000000 in
theorem t_Layers_isEmpty {l : Launch} {G : xG} {z : Nat → Nat} {Q : Int32 → xh → Prop} {a0 : Nat} {x1 : Int32} {hp : xh} (hf : wp_Layers_isEmpty z Q a0 x1 hp) : xM l G z y_Layers_isEmpty b_Layers_isEmpty 2 (some .boolean) rm_Layers_isEmpty [.ref a0, .int x1] hp (xqz Q) := by
  refine xM_of (by decide) (Nat.le_of_ble_eq_true rfl) (lv0 := [(0, .ref a0), (1, .int x1)]) rfl ?_
  intro p e s m args below meth c A Qw X hret
  unfold wp_Layers_isEmpty at hf
  exact x_sub [0, 1] rfl (t_Layers_isEmpty_0 X hret hf)

set_option maxRecDepth 100000 in
def wp_Layers_fits_20 (z : Nat → Nat) (Q : Int32 → xh → Prop)  (a0 : Nat) (s0 : Int32) (hp : xh) : Prop :=
  ∃ v1, fI hp a0 1 5 = some v1 ∧ ((¬ v1 = s0 → Q 0 hp) ∧ (v1 = s0 → Q 1 hp))
set_option maxRecDepth 100000 in
set_option maxHeartbeats 4000000 in
theorem t_Layers_fits_20 {p : Program} {l : Launch} {e : Env} {s : State} {m : MethodId} {args : Array Value} {below : List Frame} {meth : Method} {c : Code} {G : xG} {z : Nat → Nat} {A : Nat → Prop} {Qw : State → Prop} {Q : Int32 → xh → Prop} {a0 : Nat} {s0 : Int32} {hp : xh} (X : xX p l e rm_Layers_fits s m args below meth c G z A y_Layers_fits b_Layers_fits 3) (hret : xRet p l e rm_Layers_fits s m args below meth c G A 3 Qw b_Layers_fits (some .boolean) (xqz Q))  (hf : wp_Layers_fits_20 z Q  a0 s0 hp) : xE p l e rm_Layers_fits s m args below meth c G A 3 Qw 0 0 hp 20 [(0, .ref a0)] [.int s0] := by
  unfold wp_Layers_fits_20 at hf
  refine x_istore_n X (lv' := [(2, .int s0), (0, .ref a0)]) d_Layers_fits_20 rfl (by decide) rfl 21 rfl ?_
  refine x_aload_n X (q := 1) d_Layers_fits_21 rfl 22 rfl ?_
  refine x_getI X hf (ci := 1) (j := 5) rfl (by decide) rfl lf_Layers_29 d_Layers_fits_22 25 rfl (fun v1 hf => ?_)
  refine x_iload_n X (q := 0) d_Layers_fits_25 rfl 26 rfl ?_
  refine x_icmp_ne X hf d_Layers_fits_26 33 29 (by decide) rfl (fun hf => ?_) (fun hf => ?_)
  · refine x_iconst X (v := 0) d_Layers_fits_33 (by decide) 34 rfl ?_
    exact hret _ _ _ _ _ (some (.int 0)) (Nat.le_refl 0) (Nat.le_refl 0) ⟨_, rfl, (Or.inl rfl), hf⟩ ⟨⟨_, rfl, xbl_nar (Or.inl rfl)⟩, d_Layers_fits_34⟩
  · refine x_iconst X (v := 1) d_Layers_fits_29 (by decide) 30 rfl ?_
    refine x_goto X d_Layers_fits_30 34 (by decide) ?_
    exact hret _ _ _ _ _ (some (.int 1)) (Nat.le_refl 0) (Nat.le_refl 0) ⟨_, rfl, (Or.inr rfl), hf⟩ ⟨⟨_, rfl, xbl_nar (Or.inr rfl)⟩, d_Layers_fits_34⟩
set_option maxRecDepth 100000 in
def wp_Layers_fits_19 (z : Nat → Nat) (Q : Int32 → xh → Prop)  (a0 : Nat) (hp : xh) : Prop :=
  wp_Layers_fits_20 z Q a0 (-1) hp
set_option maxRecDepth 100000 in
set_option maxHeartbeats 4000000 in
theorem t_Layers_fits_19 {p : Program} {l : Launch} {e : Env} {s : State} {m : MethodId} {args : Array Value} {below : List Frame} {meth : Method} {c : Code} {G : xG} {z : Nat → Nat} {A : Nat → Prop} {Qw : State → Prop} {Q : Int32 → xh → Prop} {a0 : Nat} {hp : xh} (X : xX p l e rm_Layers_fits s m args below meth c G z A y_Layers_fits b_Layers_fits 3) (hret : xRet p l e rm_Layers_fits s m args below meth c G A 3 Qw b_Layers_fits (some .boolean) (xqz Q))  (hf : wp_Layers_fits_19 z Q  a0 hp) : xE p l e rm_Layers_fits s m args below meth c G A 3 Qw 0 0 hp 19 [(0, .ref a0)] [] := by
  unfold wp_Layers_fits_19 at hf
  refine x_iconst X (v := (-1)) d_Layers_fits_19 (by decide) 20 rfl ?_
  exact x_sub [0] rfl (t_Layers_fits_20 X hret hf)
set_option maxRecDepth 100000 in
def wp_Layers_fits (z : Nat → Nat) (Q : Int32 → xh → Prop) (a0 : Nat) (x1 : Int32) (hp : xh) : Prop :=
  (x1 < 1 → wp_Layers_fits_19 z Q a0 hp) ∧ (¬ x1 < 1 → (∃ v1, fI hp a0 1 3 = some v1 ∧ ((v1 < x1 → wp_Layers_fits_19 z Q a0 hp) ∧ (¬ v1 < x1 → (wp_Layers_fits_20 z Q a0 (x1 - 1) hp)))))
set_option maxRecDepth 100000 in
set_option maxHeartbeats 4000000 in
theorem t_Layers_fits {l : Launch} {G : xG} {z : Nat → Nat} {Q : Int32 → xh → Prop} {a0 : Nat} {x1 : Int32} {hp : xh} (hf : wp_Layers_fits z Q a0 x1 hp) : xM l G z y_Layers_fits b_Layers_fits 3 (some .boolean) rm_Layers_fits [.ref a0, .int x1] hp (xqz Q) := by
  refine xM_of (by decide) (Nat.le_of_ble_eq_true rfl) (lv0 := [(0, .ref a0), (1, .int x1)]) rfl ?_
  intro p e s m args below meth c A Qw X hret
  unfold wp_Layers_fits at hf
  refine x_iload_n X (q := 1) d_Layers_fits_0 rfl 1 rfl ?_
  refine x_iconst X (v := 1) d_Layers_fits_1 (by decide) 2 rfl ?_
  refine x_icmp_lt X hf d_Layers_fits_2 19 5 (by decide) rfl (fun hf => ?_) (fun hf => ?_)
  · exact x_sub [0] rfl (t_Layers_fits_19 X hret hf)
  · refine x_iload_n X (q := 1) d_Layers_fits_5 rfl 6 rfl ?_
    refine x_aload_n X (q := 0) d_Layers_fits_6 rfl 7 rfl ?_
    refine x_getI X hf (ci := 1) (j := 3) rfl (by decide) rfl lf_Layers_22 d_Layers_fits_7 10 rfl (fun v1 hf => ?_)
    refine x_icmp_gt X hf d_Layers_fits_10 19 13 (by decide) rfl (fun hf => ?_) (fun hf => ?_)
    · exact x_sub [0] rfl (t_Layers_fits_19 X hret hf)
    · refine x_iload_n X (q := 1) d_Layers_fits_13 rfl 14 rfl ?_
      refine x_iconst X (v := 1) d_Layers_fits_14 (by decide) 15 rfl ?_
      refine x_isub X d_Layers_fits_15 16 rfl ?_
      refine x_goto X d_Layers_fits_16 20 (by decide) ?_
      exact x_sub [0] rfl (t_Layers_fits_20 X hret hf)

set_option maxRecDepth 100000 in
def wp_Works_holdsByInduction_48 (z : Nat → Nat) (Q : Int32 → xh → Prop)  (x2 : Int32) (s1 : Int32) (s0 : Nat) (hp : xh) : Prop :=
  xcls hp s0 10 ∧ wp_Works_doubtUnless z (fun h1 => xbl x2 ∧ Q x2 h1) s0 s1 hp
set_option maxRecDepth 100000 in
set_option maxHeartbeats 4000000 in
theorem t_Works_holdsByInduction_48 {p : Program} {l : Launch} {e : Env} {s : State} {m : MethodId} {args : Array Value} {below : List Frame} {meth : Method} {c : Code} {G : xG} {z : Nat → Nat} {A : Nat → Prop} {Qw : State → Prop} {Q : Int32 → xh → Prop} {x2 : Int32} {s1 : Int32} {s0 : Nat} {hp : xh} (X : xX p l e rm_Works_holdsByInduction s m args below meth c G z A y_Works_holdsByInduction b_Works_holdsByInduction 3) (hret : xRet p l e rm_Works_holdsByInduction s m args below meth c G A 3 Qw b_Works_holdsByInduction (some .boolean) (xqz Q))  (hf : wp_Works_holdsByInduction_48 z Q  x2 s1 s0 hp) : xE p l e rm_Works_holdsByInduction s m args below meth c G A 3 Qw 0 0 hp 48 [(2, .int x2)] [.int s1, .ref s0] := by
  unfold wp_Works_holdsByInduction_48 at hf
  refine x_callV0v X (t_Works_doubtUnless hf.2) hf.1 (ci := 10) rfl rfl lm_Works_88 im_Works_doubtUnless sl_Works_doubtUnless cd_Works_doubtUnless in_Works ds_Works_doubtUnless rfl rfl (Nat.le_of_ble_eq_true rfl) (Nat.le_of_ble_eq_true rfl) (Nat.le_of_ble_eq_true rfl) rfl rfl (Nat.le_refl 0) (Nat.le_refl 0) d_Works_holdsByInduction_48 51 rfl (fun h1 hf => ?_)
  refine x_iload_n X (q := 0) d_Works_holdsByInduction_51 rfl 52 rfl ?_
  exact hret _ _ _ _ _ (some (.int x2)) (Nat.le_refl 0) (Nat.le_refl 0) ⟨_, rfl, hf.1, hf.2⟩ ⟨⟨_, rfl, xbl_nar hf.1⟩, d_Works_holdsByInduction_52⟩
set_option maxRecDepth 100000 in
def wp_Works_holdsByInduction_43 (z : Nat → Nat) (Q : Int32 → xh → Prop)  (x2 : Int32) (s0 : Nat) (hp : xh) : Prop :=
  wp_Works_holdsByInduction_48 z Q x2 1 s0 hp
set_option maxRecDepth 100000 in
set_option maxHeartbeats 4000000 in
theorem t_Works_holdsByInduction_43 {p : Program} {l : Launch} {e : Env} {s : State} {m : MethodId} {args : Array Value} {below : List Frame} {meth : Method} {c : Code} {G : xG} {z : Nat → Nat} {A : Nat → Prop} {Qw : State → Prop} {Q : Int32 → xh → Prop} {x2 : Int32} {s0 : Nat} {hp : xh} (X : xX p l e rm_Works_holdsByInduction s m args below meth c G z A y_Works_holdsByInduction b_Works_holdsByInduction 3) (hret : xRet p l e rm_Works_holdsByInduction s m args below meth c G A 3 Qw b_Works_holdsByInduction (some .boolean) (xqz Q))  (hf : wp_Works_holdsByInduction_43 z Q  x2 s0 hp) : xE p l e rm_Works_holdsByInduction s m args below meth c G A 3 Qw 0 0 hp 43 [(2, .int x2)] [.ref s0] := by
  unfold wp_Works_holdsByInduction_43 at hf
  refine x_iconst X (v := 1) d_Works_holdsByInduction_43 (by decide) 44 rfl ?_
  refine x_goto X d_Works_holdsByInduction_44 48 (by decide) ?_
  exact x_sub [0] rfl (t_Works_holdsByInduction_48 X hret hf)
set_option maxRecDepth 100000 in
def wp_Works_holdsByInduction (z : Nat → Nat) (Q : Int32 → xh → Prop) (a0 : Nat) (x1 : Int32) (hp : xh) : Prop :=
  ∃ o1, fR hp a0 10 4 = some o1 ∧ (xcls hp o1 1 ∧ wp_Layers_isEmpty z (fun v3 h2 => ∃ o5, fR h2 a0 10 4 = some o5 ∧ (∃ o6, fR h2 a0 10 3 = some o6 ∧ (∃ v7, fI h2 o6 9 6 = some v7 ∧ (xcls h2 o5 1 ∧ wp_Layers_fits z (fun v9 h8 => xcls h8 a0 10 ∧ wp_Works_doubtUnless z (fun h11 => (v3 = 0 → wp_Works_holdsByInduction_43 z Q v3 a0 h11) ∧ (¬ v3 = 0 → (∃ o12, fR h11 a0 10 3 = some o12 ∧ (∃ v13, fI h11 o12 9 6 = some v13 ∧ ((x1 < v13 → wp_Works_holdsByInduction_48 z Q v3 0 a0 h11) ∧ (¬ x1 < v13 → wp_Works_holdsByInduction_43 z Q v3 a0 h11)))))) a0 v9 h8) o5 v7 h2)))) o1 x1 hp)
set_option maxRecDepth 100000 in
set_option maxHeartbeats 4000000 in
theorem t_Works_holdsByInduction {l : Launch} {G : xG} {z : Nat → Nat} {Q : Int32 → xh → Prop} {a0 : Nat} {x1 : Int32} {hp : xh} (hf : wp_Works_holdsByInduction z Q a0 x1 hp) : xM l G z y_Works_holdsByInduction b_Works_holdsByInduction 3 (some .boolean) rm_Works_holdsByInduction [.ref a0, .int x1] hp (xqz Q) := by
  refine xM_of (by decide) (Nat.le_of_ble_eq_true rfl) (lv0 := [(0, .ref a0), (1, .int x1)]) rfl ?_
  intro p e s m args below meth c A Qw X hret
  unfold wp_Works_holdsByInduction at hf
  refine x_aload_n X (q := 0) d_Works_holdsByInduction_0 rfl 1 rfl ?_
  refine x_getR X hf (ci := 10) (j := 4) rfl (by decide) rfl lf_Works_30 d_Works_holdsByInduction_1 4 rfl (fun o1 hf => ?_)
  refine x_iload_n X (q := 1) d_Works_holdsByInduction_4 rfl 5 rfl ?_
  refine x_callV0z X (t_Layers_isEmpty hf.2) hf.1 (ci := 1) rfl rfl lm_Works_106 im_Layers_isEmpty sl_Layers_isEmpty cd_Layers_isEmpty in_Layers ds_Layers_isEmpty rfl rfl (Nat.le_of_ble_eq_true rfl) (Nat.le_of_ble_eq_true rfl) (Nat.le_of_ble_eq_true rfl) rfl rfl (Nat.le_refl 0) (Nat.le_refl 0) d_Works_holdsByInduction_5 8 rfl (fun v3 h2 hb4 hf => ?_)
  refine x_istore_n X (lv' := [(2, .int v3), (0, .ref a0), (1, .int x1)]) d_Works_holdsByInduction_8 rfl (by decide) rfl 9 rfl ?_
  refine x_aload_n X (q := 1) d_Works_holdsByInduction_9 rfl 10 rfl ?_
  refine x_aload_n X (q := 1) d_Works_holdsByInduction_10 rfl 11 rfl ?_
  refine x_getR X hf (ci := 10) (j := 4) rfl (by decide) rfl lf_Works_30 d_Works_holdsByInduction_11 14 rfl (fun o5 hf => ?_)
  refine x_aload_n X (q := 1) d_Works_holdsByInduction_14 rfl 15 rfl ?_
  refine x_getR X hf (ci := 10) (j := 3) rfl (by decide) rfl lf_Works_23 d_Works_holdsByInduction_15 18 rfl (fun o6 hf => ?_)
  refine x_getI X hf (ci := 9) (j := 6) rfl (by decide) rfl lf_Works_95 d_Works_holdsByInduction_18 21 rfl (fun v7 hf => ?_)
  refine x_callV0z X (t_Layers_fits hf.2) hf.1 (ci := 1) rfl rfl lm_Works_110 im_Layers_fits sl_Layers_fits cd_Layers_fits in_Layers ds_Layers_fits rfl rfl (Nat.le_of_ble_eq_true rfl) (Nat.le_of_ble_eq_true rfl) (Nat.le_of_ble_eq_true rfl) rfl rfl (Nat.le_refl 0) (Nat.le_refl 0) d_Works_holdsByInduction_21 24 rfl (fun v9 h8 hb10 hf => ?_)
  refine x_callV0v X (t_Works_doubtUnless hf.2) hf.1 (ci := 10) rfl rfl lm_Works_88 im_Works_doubtUnless sl_Works_doubtUnless cd_Works_doubtUnless in_Works ds_Works_doubtUnless rfl rfl (Nat.le_of_ble_eq_true rfl) (Nat.le_of_ble_eq_true rfl) (Nat.le_of_ble_eq_true rfl) rfl rfl (Nat.le_refl 0) (Nat.le_refl 0) d_Works_holdsByInduction_24 27 rfl (fun h11 hf => ?_)
  refine x_aload_n X (q := 1) d_Works_holdsByInduction_27 rfl 28 rfl ?_
  refine x_iload_n X (q := 0) d_Works_holdsByInduction_28 rfl 29 rfl ?_
  refine x_if_eq X hf d_Works_holdsByInduction_29 43 32 (by decide) rfl (fun hf => ?_) (fun hf => ?_)
  · exact x_sub [0] rfl (t_Works_holdsByInduction_43 X hret hf)
  · refine x_aload_n X (q := 1) d_Works_holdsByInduction_32 rfl 33 rfl ?_
    refine x_getR X hf (ci := 10) (j := 3) rfl (by decide) rfl lf_Works_23 d_Works_holdsByInduction_33 36 rfl (fun o12 hf => ?_)
    refine x_getI X hf (ci := 9) (j := 6) rfl (by decide) rfl lf_Works_95 d_Works_holdsByInduction_36 39 rfl (fun v13 hf => ?_)
    refine x_iload_n X (q := 2) d_Works_holdsByInduction_39 rfl 40 rfl ?_
    refine x_icmp_gt X hf d_Works_holdsByInduction_40 47 43 (by decide) rfl (fun hf => ?_) (fun hf => ?_)
    · refine x_iconst X (v := 0) d_Works_holdsByInduction_47 (by decide) 48 rfl ?_
      exact x_sub [0] rfl (t_Works_holdsByInduction_48 X hret hf)
    · exact x_sub [0] rfl (t_Works_holdsByInduction_43 X hret hf)

set_option maxRecDepth 100000 in
def wp_Walk_greatestDepth (z : Nat → Nat) (Q : Int32 → xh → Prop) (a0 : Nat) (hp : xh) : Prop :=
  ∃ o1, fR hp a0 9 2 = some o1 ∧ (∃ o2, fR hp a0 9 1 = some o2 ∧ (∃ v3, fI hp a0 9 5 = some v3 ∧ (∃ v4, aI hp o2 0 (v3 - 1) = some v4 ∧ (∃ v5, aI hp o1 0 v4 = some v5 ∧ Q v5 hp))))
set_option maxRecDepth 100000 in
set_option maxHeartbeats 4000000 in
theorem t_Walk_greatestDepth {l : Launch} {G : xG} {z : Nat → Nat} {Q : Int32 → xh → Prop} {a0 : Nat} {hp : xh} (hf : wp_Walk_greatestDepth z Q a0 hp) : xM l G z y_Walk_greatestDepth b_Walk_greatestDepth 1 (some .int) rm_Walk_greatestDepth [.ref a0] hp (xqi Q) := by
  refine xM_of (by decide) (Nat.le_of_ble_eq_true rfl) (lv0 := [(0, .ref a0)]) rfl ?_
  intro p e s m args below meth c A Qw X hret
  unfold wp_Walk_greatestDepth at hf
  refine x_aload_n X (q := 0) d_Walk_greatestDepth_0 rfl 1 rfl ?_
  refine x_getR X hf (ci := 9) (j := 2) rfl (by decide) rfl lf_Walk_15 d_Walk_greatestDepth_1 4 rfl (fun o1 hf => ?_)
  refine x_aload_n X (q := 0) d_Walk_greatestDepth_4 rfl 5 rfl ?_
  refine x_getR X hf (ci := 9) (j := 1) rfl (by decide) rfl lf_Walk_9 d_Walk_greatestDepth_5 8 rfl (fun o2 hf => ?_)
  refine x_aload_n X (q := 0) d_Walk_greatestDepth_8 rfl 9 rfl ?_
  refine x_getI X hf (ci := 9) (j := 5) rfl (by decide) rfl lf_Walk_34 d_Walk_greatestDepth_9 12 rfl (fun v3 hf => ?_)
  refine x_iconst X (v := 1) d_Walk_greatestDepth_12 (by decide) 13 rfl ?_
  refine x_isub X d_Walk_greatestDepth_13 14 rfl ?_
  refine x_iald X hf d_Walk_greatestDepth_14 15 rfl (fun v4 hf => ?_)
  refine x_iald X hf d_Walk_greatestDepth_15 16 rfl (fun v5 hf => ?_)
  exact hret _ _ _ _ _ (some (.int v5)) (Nat.le_refl 0) (Nat.le_refl 0) ⟨_, rfl, hf⟩ ⟨⟨_, rfl, rfl⟩, d_Walk_greatestDepth_16⟩

set_option maxRecDepth 100000 in
def wp_Circuit_isState (z : Nat → Nat) (Q : Int32 → xh → Prop) (a0 : Nat) (x1 : Int32) (hp : xh) : Prop :=
  (x1 < 0 → Q 0 hp) ∧ (¬ x1 < 0 → (∃ v1, fI hp a0 0 3 = some v1 ∧ ((((1 : Int32) <<< (v1 &&& 31)) ≤ x1 → Q 0 hp) ∧ (¬ ((1 : Int32) <<< (v1 &&& 31)) ≤ x1 → Q 1 hp))))
set_option maxRecDepth 100000 in
set_option maxHeartbeats 4000000 in
theorem t_Circuit_isState {l : Launch} {G : xG} {z : Nat → Nat} {Q : Int32 → xh → Prop} {a0 : Nat} {x1 : Int32} {hp : xh} (hf : wp_Circuit_isState z Q a0 x1 hp) : xM l G z y_Circuit_isState b_Circuit_isState 2 (some .boolean) rm_Circuit_isState [.ref a0, .int x1] hp (xqz Q) := by
  refine xM_of (by decide) (Nat.le_of_ble_eq_true rfl) (lv0 := [(0, .ref a0), (1, .int x1)]) rfl ?_
  intro p e s m args below meth c A Qw X hret
  unfold wp_Circuit_isState at hf
  refine x_iload_n X (q := 1) d_Circuit_isState_0 rfl 1 rfl ?_
  refine x_if_lt X hf d_Circuit_isState_1 18 4 (by decide) rfl (fun hf => ?_) (fun hf => ?_)
  · refine x_iconst X (v := 0) d_Circuit_isState_18 (by decide) 19 rfl ?_
    exact hret _ _ _ _ _ (some (.int 0)) (Nat.le_refl 0) (Nat.le_refl 0) ⟨_, rfl, (Or.inl rfl), hf⟩ ⟨⟨_, rfl, xbl_nar (Or.inl rfl)⟩, d_Circuit_isState_19⟩
  · refine x_iload_n X (q := 1) d_Circuit_isState_4 rfl 5 rfl ?_
    refine x_iconst X (v := 1) d_Circuit_isState_5 (by decide) 6 rfl ?_
    refine x_aload_n X (q := 0) d_Circuit_isState_6 rfl 7 rfl ?_
    refine x_getI X hf (ci := 0) (j := 3) rfl (by decide) rfl lf_Circuit_59 d_Circuit_isState_7 10 rfl (fun v1 hf => ?_)
    refine x_ishl X d_Circuit_isState_10 11 rfl ?_
    refine x_icmp_ge X hf d_Circuit_isState_11 18 14 (by decide) rfl (fun hf => ?_) (fun hf => ?_)
    · refine x_iconst X (v := 0) d_Circuit_isState_18 (by decide) 19 rfl ?_
      exact hret _ _ _ _ _ (some (.int 0)) (Nat.le_refl 0) (Nat.le_refl 0) ⟨_, rfl, (Or.inl rfl), hf⟩ ⟨⟨_, rfl, xbl_nar (Or.inl rfl)⟩, d_Circuit_isState_19⟩
    · refine x_iconst X (v := 1) d_Circuit_isState_14 (by decide) 15 rfl ?_
      refine x_goto X d_Circuit_isState_15 19 (by decide) ?_
      exact hret _ _ _ _ _ (some (.int 1)) (Nat.le_refl 0) (Nat.le_refl 0) ⟨_, rfl, (Or.inr rfl), hf⟩ ⟨⟨_, rfl, xbl_nar (Or.inr rfl)⟩, d_Circuit_isState_19⟩

set_option maxRecDepth 100000 in
def wp_Table_word_18 (z : Nat → Nat) (Q : Int32 → xh → Prop)  (a0 : Nat) (x3 : Int32) (s0 : Int32) (hp : xh) : Prop :=
  ∃ o1, fR hp a0 7 0 = some o1 ∧ (wp_Circuit_word z (fun v3 h2 => Q v3 h2) o1 (s0 * 201) x3 hp)
set_option maxRecDepth 100000 in
set_option maxHeartbeats 4000000 in
theorem t_Table_word_18 {p : Program} {l : Launch} {e : Env} {s : State} {m : MethodId} {args : Array Value} {below : List Frame} {meth : Method} {c : Code} {G : xG} {z : Nat → Nat} {A : Nat → Prop} {Qw : State → Prop} {Q : Int32 → xh → Prop} {a0 : Nat} {x3 : Int32} {s0 : Int32} {hp : xh} (X : xX p l e rm_Table_word s m args below meth c G z A y_Table_word b_Table_word 5) (hret : xRet p l e rm_Table_word s m args below meth c G A 5 Qw b_Table_word (some .int) (xqi Q))  (hf : wp_Table_word_18 z Q  a0 x3 s0 hp) : xE p l e rm_Table_word s m args below meth c G A 5 Qw 0 0 hp 18 [(0, .ref a0), (3, .int x3)] [.int s0] := by
  unfold wp_Table_word_18 at hf
  refine x_istore X (lv' := [(4, .int s0), (0, .ref a0), (3, .int x3)]) d_Table_word_18 (by decide) rfl 20 rfl ?_
  refine x_aload_n X (q := 1) d_Table_word_20 rfl 21 rfl ?_
  refine x_getR X hf (ci := 7) (j := 0) rfl (by decide) rfl lf_Table_9 d_Table_word_21 24 rfl (fun o1 hf => ?_)
  refine x_iload X (q := 0) d_Table_word_24 rfl 26 rfl ?_
  refine x_sipush X (v := 201) d_Table_word_26 (by decide) 29 rfl ?_
  refine x_imul X d_Table_word_29 30 rfl ?_
  refine x_iload_n X (q := 2) d_Table_word_30 rfl 31 rfl ?_
  refine x_callS0i X (t_Circuit_word hf) lm_Table_60 im_Circuit_word cd_Circuit_word in_Circuit ds_Circuit_word rfl rfl (Nat.le_of_ble_eq_true rfl) (Nat.le_of_ble_eq_true rfl) (Nat.le_of_ble_eq_true rfl) rfl rfl (Nat.le_refl 0) (Nat.le_refl 0) d_Table_word_31 34 rfl (fun v3 h2 hf => ?_)
  exact hret _ _ _ _ _ (some (.int v3)) (Nat.le_refl 0) (Nat.le_refl 0) ⟨_, rfl, hf⟩ ⟨⟨_, rfl, rfl⟩, d_Table_word_34⟩
set_option maxRecDepth 100000 in
def wp_Table_word (z : Nat → Nat) (Q : Int32 → xh → Prop) (a0 : Nat) (x1 : Int32) (x2 : Int32) (x3 : Int32) (hp : xh) : Prop :=
  (¬ x2 = 0 → (wp_Table_word_18 z Q a0 x3 (64 + (x1 - x1 / 64 * 64)) hp)) ∧ (x2 = 0 → (wp_Table_word_18 z Q a0 x3 (x1 / 64) hp))
set_option maxRecDepth 100000 in
set_option maxHeartbeats 4000000 in
theorem t_Table_word {l : Launch} {G : xG} {z : Nat → Nat} {Q : Int32 → xh → Prop} {a0 : Nat} {x1 : Int32} {x2 : Int32} {x3 : Int32} {hp : xh} (hf : wp_Table_word z Q a0 x1 x2 x3 hp) : xM l G z y_Table_word b_Table_word 5 (some .int) rm_Table_word [.ref a0, .int x1, .int x2, .int x3] hp (xqi Q) := by
  refine xM_of (by decide) (Nat.le_of_ble_eq_true rfl) (lv0 := [(0, .ref a0), (1, .int x1), (2, .int x2), (3, .int x3)]) rfl ?_
  intro p e s m args below meth c A Qw X hret
  unfold wp_Table_word at hf
  refine x_iload_n X (q := 2) d_Table_word_0 rfl 1 rfl ?_
  refine x_if_ne X hf d_Table_word_1 11 4 (by decide) rfl (fun hf => ?_) (fun hf => ?_)
  · refine x_bipush X (v := 64) d_Table_word_11 (by decide) 13 rfl ?_
    refine x_iload_n X (q := 1) d_Table_word_13 rfl 14 rfl ?_
    refine x_bipush X (v := 64) d_Table_word_14 (by decide) 16 rfl ?_
    refine x_irem X (by decide) d_Table_word_16 17 rfl ?_
    refine x_iadd X d_Table_word_17 18 rfl ?_
    exact x_sub [0, 3] rfl (t_Table_word_18 X hret hf)
  · refine x_iload_n X (q := 1) d_Table_word_4 rfl 5 rfl ?_
    refine x_bipush X (v := 64) d_Table_word_5 (by decide) 7 rfl ?_
    refine x_idiv X (by decide) d_Table_word_7 8 rfl ?_
    refine x_goto X d_Table_word_8 18 (by decide) ?_
    exact x_sub [0, 3] rfl (t_Table_word_18 X hret hf)

set_option maxRecDepth 100000 in
def wp_Works_agree_3_b (z : Nat → Nat) (Q : Int32 → xh → Prop)  (k3 : Nat × Int32 × Int32 × Int32 × Int32 × Int32 × xh → Prop) (a0 : Nat) (x1 : Int32) (x2 : Int32) (x3 : Int32) (x4 : Int32) (x5 : Int32) (hp : xh) : Prop :=
  ∃ o1, fR hp a0 10 3 = some o1 ∧ (∃ v2, fI hp o1 9 5 = some v2 ∧ ((v2 ≤ x5 → Q 1 hp) ∧ (¬ v2 ≤ x5 → (∃ o3, fR hp a0 10 3 = some o3 ∧ (∃ o4, fR hp o3 9 1 = some o4 ∧ (∃ v5, aI hp o4 0 x5 = some v5 ∧ (∃ o6, fR hp a0 10 2 = some o6 ∧ (xcls hp o6 7 ∧ wp_Table_word z (fun v8 h7 => ∃ o9, fR h7 a0 10 2 = some o9 ∧ (xcls h7 o9 7 ∧ wp_Table_word z (fun v11 h10 => (v8 = v11 → (k3 (a0, x1, x2, x3, x4, (x5 + 1), h10))) ∧ (¬ v8 = v11 → Q 0 h10)) o9 v5 x3 x4 h7)) o6 v5 x1 x2 hp))))))))
set_option maxRecDepth 100000 in
def wp_Works_agree_3 (z : Nat → Nat) (Q : Int32 → xh → Prop)  (a0 : Nat) (x1 : Int32) (x2 : Int32) (x3 : Int32) (x4 : Int32) (x5 : Int32) (hp : xh) : Prop := ∃ f : Nat, xloop (fun k3 a => wp_Works_agree_3_b z Q  k3 a.1 a.2.1 a.2.2.1 a.2.2.2.1 a.2.2.2.2.1 a.2.2.2.2.2.1 a.2.2.2.2.2.2) f (a0, x1, x2, x3, x4, x5, hp)
set_option maxRecDepth 100000 in
set_option maxHeartbeats 4000000 in
theorem t_Works_agree_3 {p : Program} {l : Launch} {e : Env} {s : State} {m : MethodId} {args : Array Value} {below : List Frame} {meth : Method} {c : Code} {G : xG} {z : Nat → Nat} {A : Nat → Prop} {Qw : State → Prop} {Q : Int32 → xh → Prop} {a0 : Nat} {x1 : Int32} {x2 : Int32} {x3 : Int32} {x4 : Int32} {x5 : Int32} {hp : xh} (X : xX p l e rm_Works_agree s m args below meth c G z A y_Works_agree b_Works_agree 7) (hret : xRet p l e rm_Works_agree s m args below meth c G A 7 Qw b_Works_agree (some .boolean) (xqz Q))  (hf : wp_Works_agree_3 z Q  a0 x1 x2 x3 x4 x5 hp) : xE p l e rm_Works_agree s m args below meth c G A 7 Qw 0 0 hp 3 [(0, .ref a0), (1, .int x1), (2, .int x2), (3, .int x3), (4, .int x4), (5, .int x5)] [] := by
  obtain ⟨f, hf⟩ := hf
  refine xloop_ind (F := fun k3 a => wp_Works_agree_3_b z Q  k3 a.1 a.2.1 a.2.2.1 a.2.2.2.1 a.2.2.2.2.1 a.2.2.2.2.2.1 a.2.2.2.2.2.2) (E := fun a => xE p l e rm_Works_agree s m args below meth c G A 7 Qw 0 0 a.2.2.2.2.2.2 3 [(0, .ref (a.1)), (1, .int (a.2.1)), (2, .int (a.2.2.1)), (3, .int (a.2.2.2.1)), (4, .int (a.2.2.2.2.1)), (5, .int (a.2.2.2.2.2.1))] []) ?_ f (a0, x1, x2, x3, x4, x5, hp) hf
  intro k3 hk a hf
  obtain ⟨a0, x1, x2, x3, x4, x5, hp⟩ := a
  have hk3 : ∀ (a0 : Nat) (x1 : Int32) (x2 : Int32) (x3 : Int32) (x4 : Int32) (x5 : Int32) (hp : xh), k3 (a0, x1, x2, x3, x4, x5, hp) → xE p l e rm_Works_agree s m args below meth c G A 7 Qw 0 0 hp 3 [(0, .ref a0), (1, .int x1), (2, .int x2), (3, .int x3), (4, .int x4), (5, .int x5)] [] := fun a0 x1 x2 x3 x4 x5 hp h => hk (a0, x1, x2, x3, x4, x5, hp) h
  have hf : wp_Works_agree_3_b z Q  k3 a0 x1 x2 x3 x4 x5 hp := hf
  unfold wp_Works_agree_3_b at hf
  refine x_iload X (q := 5) d_Works_agree_3 rfl 5 rfl ?_
  refine x_aload_n X (q := 0) d_Works_agree_5 rfl 6 rfl ?_
  refine x_getR X hf (ci := 10) (j := 3) rfl (by decide) rfl lf_Works_23 d_Works_agree_6 9 rfl (fun o1 hf => ?_)
  refine x_getI X hf (ci := 9) (j := 5) rfl (by decide) rfl lf_Works_113 d_Works_agree_9 12 rfl (fun v2 hf => ?_)
  refine x_icmp_ge X hf d_Works_agree_12 61 15 (by decide) rfl (fun hf => ?_) (fun hf => ?_)
  · refine x_iconst X (v := 1) d_Works_agree_61 (by decide) 62 rfl ?_
    exact hret _ _ _ _ _ (some (.int 1)) (Nat.le_refl 0) (Nat.le_refl 0) ⟨_, rfl, (Or.inr rfl), hf⟩ ⟨⟨_, rfl, xbl_nar (Or.inr rfl)⟩, d_Works_agree_62⟩
  · refine x_aload_n X (q := 0) d_Works_agree_15 rfl 16 rfl ?_
    refine x_getR X hf (ci := 10) (j := 3) rfl (by decide) rfl lf_Works_23 d_Works_agree_16 19 rfl (fun o3 hf => ?_)
    refine x_getR X hf (ci := 9) (j := 1) rfl (by decide) rfl lf_Works_116 d_Works_agree_19 22 rfl (fun o4 hf => ?_)
    refine x_iload X (q := 5) d_Works_agree_22 rfl 24 rfl ?_
    refine x_iald X hf d_Works_agree_24 25 rfl (fun v5 hf => ?_)
    refine x_istore X (lv' := [(6, .int v5), (0, .ref a0), (1, .int x1), (2, .int x2), (3, .int x3), (4, .int x4), (5, .int x5)]) d_Works_agree_25 (by decide) rfl 27 rfl ?_
    refine x_aload_n X (q := 1) d_Works_agree_27 rfl 28 rfl ?_
    refine x_getR X hf (ci := 10) (j := 2) rfl (by decide) rfl lf_Works_12 d_Works_agree_28 31 rfl (fun o6 hf => ?_)
    refine x_iload X (q := 0) d_Works_agree_31 rfl 33 rfl ?_
    refine x_iload_n X (q := 2) d_Works_agree_33 rfl 34 rfl ?_
    refine x_iload_n X (q := 3) d_Works_agree_34 rfl 35 rfl ?_
    refine x_callV0i X (t_Table_word hf.2) hf.1 (ci := 7) rfl rfl lm_Works_119 im_Table_word sl_Table_word cd_Table_word in_Table ds_Table_word rfl rfl (Nat.le_of_ble_eq_true rfl) (Nat.le_of_ble_eq_true rfl) (Nat.le_of_ble_eq_true rfl) rfl rfl (Nat.le_refl 0) (Nat.le_refl 0) d_Works_agree_35 38 rfl (fun v8 h7 hf => ?_)
    refine x_aload_n X (q := 1) d_Works_agree_38 rfl 39 rfl ?_
    refine x_getR X hf (ci := 10) (j := 2) rfl (by decide) rfl lf_Works_12 d_Works_agree_39 42 rfl (fun o9 hf => ?_)
    refine x_iload X (q := 0) d_Works_agree_42 rfl 44 rfl ?_
    refine x_iload_n X (q := 4) d_Works_agree_44 rfl 45 rfl ?_
    refine x_iload X (q := 5) d_Works_agree_45 rfl 47 rfl ?_
    refine x_callV0i X (t_Table_word hf.2) hf.1 (ci := 7) rfl rfl lm_Works_119 im_Table_word sl_Table_word cd_Table_word in_Table ds_Table_word rfl rfl (Nat.le_of_ble_eq_true rfl) (Nat.le_of_ble_eq_true rfl) (Nat.le_of_ble_eq_true rfl) rfl rfl (Nat.le_refl 0) (Nat.le_refl 0) d_Works_agree_47 50 rfl (fun v11 h10 hf => ?_)
    refine x_icmp_eq X hf d_Works_agree_50 55 53 (by decide) rfl (fun hf => ?_) (fun hf => ?_)
    · refine x_iinc X (q := 6) (v := (x5 + 1)) (lv' := [(5, .int (x5 + 1)), (6, .int v5), (0, .ref a0), (1, .int x1), (2, .int x2), (3, .int x3), (4, .int x4)]) d_Works_agree_55 rfl (by rfl) (by decide) rfl 58 rfl ?_
      refine x_goto X d_Works_agree_58 3 (by decide) ?_
      exact x_sub [2, 3, 4, 5, 6, 0] rfl (hk3 _ _ _ _ _ _ _ hf)
    · refine x_iconst X (v := 0) d_Works_agree_53 (by decide) 54 rfl ?_
      exact hret _ _ _ _ _ (some (.int 0)) (Nat.le_refl 0) (Nat.le_refl 0) ⟨_, rfl, (Or.inl rfl), hf⟩ ⟨⟨_, rfl, xbl_nar (Or.inl rfl)⟩, d_Works_agree_54⟩
set_option maxRecDepth 100000 in
def wp_Works_agree (z : Nat → Nat) (Q : Int32 → xh → Prop) (a0 : Nat) (x1 : Int32) (x2 : Int32) (x3 : Int32) (x4 : Int32) (hp : xh) : Prop :=
  wp_Works_agree_3 z Q a0 x1 x2 x3 x4 0 hp
set_option maxRecDepth 100000 in
set_option maxHeartbeats 4000000 in
theorem t_Works_agree {l : Launch} {G : xG} {z : Nat → Nat} {Q : Int32 → xh → Prop} {a0 : Nat} {x1 : Int32} {x2 : Int32} {x3 : Int32} {x4 : Int32} {hp : xh} (hf : wp_Works_agree z Q a0 x1 x2 x3 x4 hp) : xM l G z y_Works_agree b_Works_agree 7 (some .boolean) rm_Works_agree [.ref a0, .int x1, .int x2, .int x3, .int x4] hp (xqz Q) := by
  refine xM_of (by decide) (Nat.le_of_ble_eq_true rfl) (lv0 := [(0, .ref a0), (1, .int x1), (2, .int x2), (3, .int x3), (4, .int x4)]) rfl ?_
  intro p e s m args below meth c A Qw X hret
  unfold wp_Works_agree at hf
  refine x_iconst X (v := 0) d_Works_agree_0 (by decide) 1 rfl ?_
  refine x_istore X (lv' := [(5, .int 0), (0, .ref a0), (1, .int x1), (2, .int x2), (3, .int x3), (4, .int x4)]) d_Works_agree_1 (by decide) rfl 3 rfl ?_
  exact x_sub [1, 2, 3, 4, 5, 0] rfl (t_Works_agree_3 X hret hf)

