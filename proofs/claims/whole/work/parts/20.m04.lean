set_option maxRecDepth 100000 in
def wp_Judge_value (z : Nat → Nat) (Q : Int32 → xh → Prop) (a0 : Nat) (x1 : Int32) (x2 : Int32) (x3 : Int32) (hp : xh) : Prop :=
  xcls hp a0 11 ∧ wp_Judge_isLiteral z (fun v2 h1 => (v2 = 0 → (Q (-1) h1)) ∧ (¬ v2 = 0 → (∃ o4, fR h1 a0 11 3 = some o4 ∧ (xcls h1 o4 4 ∧ wp_Player_look z (fun v6 h5 => Q v6 h5) o4 x1 x2 x3 h1)))) a0 x1 x2 hp
set_option maxRecDepth 100000 in
set_option maxHeartbeats 4000000 in
theorem t_Judge_value {l : Launch} {G : xG} {z : Nat → Nat} {Q : Int32 → xh → Prop} {a0 : Nat} {x1 : Int32} {x2 : Int32} {x3 : Int32} {hp : xh} (hf : wp_Judge_value z Q a0 x1 x2 x3 hp) : xM l G z y_Judge_value b_Judge_value 4 (some .int) rm_Judge_value [.ref a0, .int x1, .int x2, .int x3] hp (xqi Q) := by
  refine xM_of (by decide) (Nat.le_of_ble_eq_true rfl) (lv0 := [(0, .ref a0), (1, .int x1), (2, .int x2), (3, .int x3)]) rfl ?_
  intro p e s m args below meth c A Qw X hret
  unfold wp_Judge_value at hf
  refine x_aload_n X (q := 0) d_Judge_value_0 rfl 1 rfl ?_
  refine x_iload_n X (q := 1) d_Judge_value_1 rfl 2 rfl ?_
  refine x_iload_n X (q := 2) d_Judge_value_2 rfl 3 rfl ?_
  refine x_callV0z X (t_Judge_isLiteral hf.2) hf.1 (ci := 11) rfl rfl lm_Judge_110 im_Judge_isLiteral sl_Judge_isLiteral cd_Judge_isLiteral in_Judge ds_Judge_isLiteral rfl rfl (Nat.le_of_ble_eq_true rfl) (Nat.le_of_ble_eq_true rfl) (Nat.le_of_ble_eq_true rfl) rfl rfl (Nat.le_refl 0) (Nat.le_refl 0) d_Judge_value_3 6 rfl (fun v2 h1 hb3 hf => ?_)
  refine x_if_eq X hf d_Judge_value_6 22 9 (by decide) rfl (fun hf => ?_) (fun hf => ?_)
  · refine x_iconst X (v := (-1)) d_Judge_value_22 (by decide) 23 rfl ?_
    exact hret _ _ _ _ _ (some (.int (-1))) (Nat.le_refl 0) (Nat.le_refl 0) ⟨_, rfl, hf⟩ ⟨⟨_, rfl, rfl⟩, d_Judge_value_23⟩
  · refine x_aload_n X (q := 0) d_Judge_value_9 rfl 10 rfl ?_
    refine x_getR X hf (ci := 11) (j := 3) rfl (by decide) rfl lf_Judge_37 d_Judge_value_10 13 rfl (fun o4 hf => ?_)
    refine x_iload_n X (q := 1) d_Judge_value_13 rfl 14 rfl ?_
    refine x_iload_n X (q := 2) d_Judge_value_14 rfl 15 rfl ?_
    refine x_iload_n X (q := 3) d_Judge_value_15 rfl 16 rfl ?_
    refine x_callV0i X (t_Player_look hf.2) hf.1 (ci := 4) rfl rfl lm_Judge_114 im_Player_look sl_Player_look cd_Player_look in_Player ds_Player_look rfl rfl (Nat.le_of_ble_eq_true rfl) (Nat.le_of_ble_eq_true rfl) (Nat.le_of_ble_eq_true rfl) rfl rfl (Nat.le_refl 0) (Nat.le_refl 0) d_Judge_value_16 19 rfl (fun v6 h5 hf => ?_)
    refine x_goto X d_Judge_value_19 23 (by decide) ?_
    exact hret _ _ _ _ _ (some (.int v6)) (Nat.le_refl 0) (Nat.le_refl 0) ⟨_, rfl, hf⟩ ⟨⟨_, rfl, rfl⟩, d_Judge_value_23⟩

set_option maxRecDepth 100000 in
def wp_Player_gather_5_b (z : Nat → Nat) (Q : Int32 → xh → Prop)  (k5 : Nat × Nat × Int32 × Int32 × Int32 × xh → Prop) (a0 : Nat) (a1 : Nat) (x2 : Int32) (x3 : Int32) (x4 : Int32) (hp : xh) : Prop :=
  (x2 ≤ x4 → Q x3 hp) ∧ (¬ x2 ≤ x4 → (∃ o1, fR hp a0 4 3 = some o1 ∧ (∃ v2, aI hp a1 0 x4 = some v2 ∧ (wp_Circuit_word z (fun v4 h3 => ∀ v5, v5 = (x3 ||| ((v4 &&& 1) <<< (x4 &&& 31))) → k5 (a0, a1, x2, v5, (x4 + 1), h3)) o1 0 v2 hp))))
set_option maxRecDepth 100000 in
def wp_Player_gather_5 (z : Nat → Nat) (Q : Int32 → xh → Prop)  (a0 : Nat) (a1 : Nat) (x2 : Int32) (x3 : Int32) (x4 : Int32) (hp : xh) : Prop := ∃ f : Nat, xloop (fun k5 a => wp_Player_gather_5_b z Q  k5 a.1 a.2.1 a.2.2.1 a.2.2.2.1 a.2.2.2.2.1 a.2.2.2.2.2) f (a0, a1, x2, x3, x4, hp)
set_option maxRecDepth 100000 in
set_option maxHeartbeats 4000000 in
theorem t_Player_gather_5 {p : Program} {l : Launch} {e : Env} {s : State} {m : MethodId} {args : Array Value} {below : List Frame} {meth : Method} {c : Code} {G : xG} {z : Nat → Nat} {A : Nat → Prop} {Qw : State → Prop} {Q : Int32 → xh → Prop} {a0 : Nat} {a1 : Nat} {x2 : Int32} {x3 : Int32} {x4 : Int32} {hp : xh} (X : xX p l e rm_Player_gather s m args below meth c G z A y_Player_gather b_Player_gather 5) (hret : xRet p l e rm_Player_gather s m args below meth c G A 5 Qw b_Player_gather (some .int) (xqi Q))  (hf : wp_Player_gather_5 z Q  a0 a1 x2 x3 x4 hp) : xE p l e rm_Player_gather s m args below meth c G A 5 Qw 0 0 hp 5 [(0, .ref a0), (1, .ref a1), (2, .int x2), (3, .int x3), (4, .int x4)] [] := by
  obtain ⟨f, hf⟩ := hf
  refine xloop_ind (F := fun k5 a => wp_Player_gather_5_b z Q  k5 a.1 a.2.1 a.2.2.1 a.2.2.2.1 a.2.2.2.2.1 a.2.2.2.2.2) (E := fun a => xE p l e rm_Player_gather s m args below meth c G A 5 Qw 0 0 a.2.2.2.2.2 5 [(0, .ref (a.1)), (1, .ref (a.2.1)), (2, .int (a.2.2.1)), (3, .int (a.2.2.2.1)), (4, .int (a.2.2.2.2.1))] []) ?_ f (a0, a1, x2, x3, x4, hp) hf
  intro k5 hk a hf
  obtain ⟨a0, a1, x2, x3, x4, hp⟩ := a
  have hk5 : ∀ (a0 : Nat) (a1 : Nat) (x2 : Int32) (x3 : Int32) (x4 : Int32) (hp : xh), k5 (a0, a1, x2, x3, x4, hp) → xE p l e rm_Player_gather s m args below meth c G A 5 Qw 0 0 hp 5 [(0, .ref a0), (1, .ref a1), (2, .int x2), (3, .int x3), (4, .int x4)] [] := fun a0 a1 x2 x3 x4 hp h => hk (a0, a1, x2, x3, x4, hp) h
  have hf : wp_Player_gather_5_b z Q  k5 a0 a1 x2 x3 x4 hp := hf
  unfold wp_Player_gather_5_b at hf
  refine x_iload X (q := 4) d_Player_gather_5 rfl 7 rfl ?_
  refine x_iload_n X (q := 2) d_Player_gather_7 rfl 8 rfl ?_
  refine x_icmp_ge X hf d_Player_gather_8 37 11 (by decide) rfl (fun hf => ?_) (fun hf => ?_)
  · refine x_iload_n X (q := 3) d_Player_gather_37 rfl 38 rfl ?_
    exact hret _ _ _ _ _ (some (.int x3)) (Nat.le_refl 0) (Nat.le_refl 0) ⟨_, rfl, hf⟩ ⟨⟨_, rfl, rfl⟩, d_Player_gather_38⟩
  · refine x_iload_n X (q := 3) d_Player_gather_11 rfl 12 rfl ?_
    refine x_aload_n X (q := 0) d_Player_gather_12 rfl 13 rfl ?_
    refine x_getR X hf (ci := 4) (j := 3) rfl (by decide) rfl lf_Player_18 d_Player_gather_13 16 rfl (fun o1 hf => ?_)
    refine x_iconst X (v := 0) d_Player_gather_16 (by decide) 17 rfl ?_
    refine x_aload_n X (q := 1) d_Player_gather_17 rfl 18 rfl ?_
    refine x_iload X (q := 4) d_Player_gather_18 rfl 20 rfl ?_
    refine x_iald X hf d_Player_gather_20 21 rfl (fun v2 hf => ?_)
    refine x_callS0i X (t_Circuit_word hf) lm_Player_41 im_Circuit_word cd_Circuit_word in_Circuit ds_Circuit_word rfl rfl (Nat.le_of_ble_eq_true rfl) (Nat.le_of_ble_eq_true rfl) (Nat.le_of_ble_eq_true rfl) rfl rfl (Nat.le_refl 0) (Nat.le_refl 0) d_Player_gather_21 24 rfl (fun v4 h3 hf => ?_)
    refine x_iconst X (v := 1) d_Player_gather_24 (by decide) 25 rfl ?_
    refine x_iand X d_Player_gather_25 26 rfl ?_
    refine x_iload X (q := 4) d_Player_gather_26 rfl 28 rfl ?_
    refine x_ishl X d_Player_gather_28 29 rfl ?_
    refine x_ior X d_Player_gather_29 30 rfl ?_
    refine x_istoreN_n X hf d_Player_gather_30 rfl (by decide) (lw := fun v5 => [(3, .int v5), (0, .ref a0), (1, .ref a1), (2, .int x2), (4, .int x4)]) (fun _ => rfl) 31 rfl (fun v5 hf => ?_)
    refine x_iinc X (q := 4) (v := (x4 + 1)) (lv' := [(4, .int (x4 + 1)), (3, .int v5), (0, .ref a0), (1, .ref a1), (2, .int x2)]) d_Player_gather_31 rfl (by rfl) (by decide) rfl 34 rfl ?_
    refine x_goto X d_Player_gather_34 5 (by decide) ?_
    exact x_sub [2, 3, 4, 1, 0] rfl (hk5 _ _ _ _ _ _ hf)
set_option maxRecDepth 100000 in
def wp_Player_gather (z : Nat → Nat) (Q : Int32 → xh → Prop) (a0 : Nat) (a1 : Nat) (x2 : Int32) (hp : xh) : Prop :=
  wp_Player_gather_5 z Q a0 a1 x2 0 0 hp
set_option maxRecDepth 100000 in
set_option maxHeartbeats 4000000 in
theorem t_Player_gather {l : Launch} {G : xG} {z : Nat → Nat} {Q : Int32 → xh → Prop} {a0 : Nat} {a1 : Nat} {x2 : Int32} {hp : xh} (hf : wp_Player_gather z Q a0 a1 x2 hp) : xM l G z y_Player_gather b_Player_gather 5 (some .int) rm_Player_gather [.ref a0, .ref a1, .int x2] hp (xqi Q) := by
  refine xM_of (by decide) (Nat.le_of_ble_eq_true rfl) (lv0 := [(0, .ref a0), (1, .ref a1), (2, .int x2)]) rfl ?_
  intro p e s m args below meth c A Qw X hret
  unfold wp_Player_gather at hf
  refine x_iconst X (v := 0) d_Player_gather_0 (by decide) 1 rfl ?_
  refine x_istore_n X (lv' := [(3, .int 0), (0, .ref a0), (1, .ref a1), (2, .int x2)]) d_Player_gather_1 rfl (by decide) rfl 2 rfl ?_
  refine x_iconst X (v := 0) d_Player_gather_2 (by decide) 3 rfl ?_
  refine x_istore X (lv' := [(4, .int 0), (3, .int 0), (0, .ref a0), (1, .ref a1), (2, .int x2)]) d_Player_gather_3 (by decide) rfl 5 rfl ?_
  exact x_sub [2, 3, 4, 1, 0] rfl (t_Player_gather_5 X hret hf)

set_option maxRecDepth 100000 in
def wp_Player_play_108 (z : Nat → Nat) (Q : Int32 → xh → Prop) (k9 : Nat × Int32 × Int32 × xh → Prop) (a0 : Nat) (x2 : Int32) (x3 : Int32) (hp : xh) : Prop :=
  k9 (a0, x2, (x3 + 1), hp)
set_option maxRecDepth 100000 in
set_option maxHeartbeats 4000000 in
theorem t_Player_play_108 {p : Program} {l : Launch} {e : Env} {s : State} {m : MethodId} {args : Array Value} {below : List Frame} {meth : Method} {c : Code} {G : xG} {z : Nat → Nat} {A : Nat → Prop} {Qw : State → Prop} {Q : Int32 → xh → Prop} {k9 : Nat × Int32 × Int32 × xh → Prop} {a0 : Nat} {x2 : Int32} {x3 : Int32} {hp : xh} (X : xX p l e rm_Player_play s m args below meth c G z A y_Player_play b_Player_play 4) (hret : xRet p l e rm_Player_play s m args below meth c G A 4 Qw b_Player_play (some .int) (xqi Q)) (hk9 : ∀ (a0 : Nat) (x2 : Int32) (x3 : Int32) (hp : xh), k9 (a0, x2, x3, hp) → xE p l e rm_Player_play s m args below meth c G A 4 Qw 0 0 hp 9 [(0, .ref a0), (2, .int x2), (3, .int x3)] []) (hf : wp_Player_play_108 z Q k9 a0 x2 x3 hp) : xE p l e rm_Player_play s m args below meth c G A 4 Qw 0 0 hp 108 [(0, .ref a0), (2, .int x2), (3, .int x3)] [] := by
  unfold wp_Player_play_108 at hf
  refine x_iinc X (q := 2) (v := (x3 + 1)) (lv' := [(3, .int (x3 + 1)), (0, .ref a0), (2, .int x2)]) d_Player_play_108 rfl (by rfl) (by decide) rfl 111 rfl ?_
  refine x_goto X d_Player_play_111 9 (by decide) ?_
  exact x_sub [1, 2, 0] rfl (hk9 _ _ _ _ hf)
set_option maxRecDepth 100000 in
def wp_Player_play_9_b (z : Nat → Nat) (Q : Int32 → xh → Prop)  (k9 : Nat × Int32 × Int32 × xh → Prop) (a0 : Nat) (x2 : Int32) (x3 : Int32) (hp : xh) : Prop :=
  (2 ≤ x3 → Q x2 hp) ∧ (¬ 2 ≤ x3 → (∃ o1, fR hp a0 4 0 = some o1 ∧ (∃ o2, aR hp o1 5 x3 = some o2 ∧ (∃ v3, fI hp o2 0 0 = some v3 ∧ ((v3 = 0 → wp_Player_play_108 z Q k9 a0 x2 x3 hp) ∧ (¬ v3 = 0 → (∃ o4, fR hp a0 4 0 = some o4 ∧ (∃ o5, aR hp o4 5 x3 = some o5 ∧ (∃ o6, fR hp a0 4 1 = some o6 ∧ (∃ v7, aI hp o6 0 x3 = some v7 ∧ (∃ o8, fR hp a0 4 2 = some o8 ∧ (∃ o9, fR hp a0 4 3 = some o9 ∧ (xcls hp o5 0 ∧ wp_Circuit_settle z (fun h10 => ∃ o11, fR h10 a0 4 0 = some o11 ∧ (∃ o12, aR h10 o11 5 x3 = some o12 ∧ (∃ o13, fR h10 o12 0 12 = some o13 ∧ (∃ o14, fR h10 a0 4 0 = some o14 ∧ (∃ o15, aR h10 o14 5 x3 = some o15 ∧ (∃ v16, fI h10 o15 0 4 = some v16 ∧ (xcls h10 a0 4 ∧ wp_Player_gather z (fun v18 h17 => ∀ v19, v19 = (x2 ||| (v18 <<< ((8 * x3) &&& 31))) → ∃ o20, fR h17 a0 4 1 = some o20 ∧ (∃ o21, fR h17 a0 4 0 = some o21 ∧ (∃ o22, aR h17 o21 5 x3 = some o22 ∧ (∃ o23, fR h17 o22 0 11 = some o23 ∧ (∃ o24, fR h17 a0 4 0 = some o24 ∧ (∃ o25, aR h17 o24 5 x3 = some o25 ∧ (∃ v26, fI h17 o25 0 3 = some v26 ∧ (xcls h17 a0 4 ∧ wp_Player_gather z (fun v28 h27 => ∃ h29, sI h27 o20 0 x3 v28 = some h29 ∧ wp_Player_play_108 z Q k9 a0 v19 x3 h29) a0 o23 v26 h17)))))))) a0 o13 v16 h10))))))) o5 v7 o8 o9 0 hp)))))))))))))
set_option maxRecDepth 100000 in
def wp_Player_play_9 (z : Nat → Nat) (Q : Int32 → xh → Prop)  (a0 : Nat) (x2 : Int32) (x3 : Int32) (hp : xh) : Prop := ∃ f : Nat, xloop (fun k9 a => wp_Player_play_9_b z Q  k9 a.1 a.2.1 a.2.2.1 a.2.2.2) f (a0, x2, x3, hp)
set_option maxRecDepth 100000 in
set_option maxHeartbeats 4000000 in
theorem t_Player_play_9 {p : Program} {l : Launch} {e : Env} {s : State} {m : MethodId} {args : Array Value} {below : List Frame} {meth : Method} {c : Code} {G : xG} {z : Nat → Nat} {A : Nat → Prop} {Qw : State → Prop} {Q : Int32 → xh → Prop} {a0 : Nat} {x2 : Int32} {x3 : Int32} {hp : xh} (X : xX p l e rm_Player_play s m args below meth c G z A y_Player_play b_Player_play 4) (hret : xRet p l e rm_Player_play s m args below meth c G A 4 Qw b_Player_play (some .int) (xqi Q))  (hf : wp_Player_play_9 z Q  a0 x2 x3 hp) : xE p l e rm_Player_play s m args below meth c G A 4 Qw 0 0 hp 9 [(0, .ref a0), (2, .int x2), (3, .int x3)] [] := by
  obtain ⟨f, hf⟩ := hf
  refine xloop_ind (F := fun k9 a => wp_Player_play_9_b z Q  k9 a.1 a.2.1 a.2.2.1 a.2.2.2) (E := fun a => xE p l e rm_Player_play s m args below meth c G A 4 Qw 0 0 a.2.2.2 9 [(0, .ref (a.1)), (2, .int (a.2.1)), (3, .int (a.2.2.1))] []) ?_ f (a0, x2, x3, hp) hf
  intro k9 hk a hf
  obtain ⟨a0, x2, x3, hp⟩ := a
  have hk9 : ∀ (a0 : Nat) (x2 : Int32) (x3 : Int32) (hp : xh), k9 (a0, x2, x3, hp) → xE p l e rm_Player_play s m args below meth c G A 4 Qw 0 0 hp 9 [(0, .ref a0), (2, .int x2), (3, .int x3)] [] := fun a0 x2 x3 hp h => hk (a0, x2, x3, hp) h
  have hf : wp_Player_play_9_b z Q  k9 a0 x2 x3 hp := hf
  unfold wp_Player_play_9_b at hf
  refine x_iload_n X (q := 2) d_Player_play_9 rfl 10 rfl ?_
  refine x_iconst X (v := 2) d_Player_play_10 (by decide) 11 rfl ?_
  refine x_icmp_ge X hf d_Player_play_11 114 14 (by decide) rfl (fun hf => ?_) (fun hf => ?_)
  · refine x_iload_n X (q := 1) d_Player_play_114 rfl 115 rfl ?_
    exact hret _ _ _ _ _ (some (.int x2)) (Nat.le_refl 0) (Nat.le_refl 0) ⟨_, rfl, hf⟩ ⟨⟨_, rfl, rfl⟩, d_Player_play_115⟩
  · refine x_aload_n X (q := 0) d_Player_play_14 rfl 15 rfl ?_
    refine x_getR X hf (ci := 4) (j := 0) rfl (by decide) rfl lf_Player_21 d_Player_play_15 18 rfl (fun o1 hf => ?_)
    refine x_iload_n X (q := 2) d_Player_play_18 rfl 19 rfl ?_
    refine x_aald X hf (t := 5) rfl d_Player_play_19 20 rfl (fun o2 hf => ?_)
    refine x_getI X hf (ci := 0) (j := 0) rfl (by decide) rfl lf_Player_45 d_Player_play_20 23 rfl (fun v3 hf => ?_)
    refine x_if_eq X hf d_Player_play_23 108 26 (by decide) rfl (fun hf => ?_) (fun hf => ?_)
    · exact x_sub [0, 1, 2] rfl (t_Player_play_108 X hret hk9 hf)
    · refine x_aload_n X (q := 0) d_Player_play_26 rfl 27 rfl ?_
      refine x_getR X hf (ci := 4) (j := 0) rfl (by decide) rfl lf_Player_21 d_Player_play_27 30 rfl (fun o4 hf => ?_)
      refine x_iload_n X (q := 2) d_Player_play_30 rfl 31 rfl ?_
      refine x_aald X hf (t := 5) rfl d_Player_play_31 32 rfl (fun o5 hf => ?_)
      refine x_aload_n X (q := 0) d_Player_play_32 rfl 33 rfl ?_
      refine x_getR X hf (ci := 4) (j := 1) rfl (by decide) rfl lf_Player_9 d_Player_play_33 36 rfl (fun o6 hf => ?_)
      refine x_iload_n X (q := 2) d_Player_play_36 rfl 37 rfl ?_
      refine x_iald X hf d_Player_play_37 38 rfl (fun v7 hf => ?_)
      refine x_aload_n X (q := 0) d_Player_play_38 rfl 39 rfl ?_
      refine x_getR X hf (ci := 4) (j := 2) rfl (by decide) rfl lf_Player_15 d_Player_play_39 42 rfl (fun o8 hf => ?_)
      refine x_aload_n X (q := 0) d_Player_play_42 rfl 43 rfl ?_
      refine x_getR X hf (ci := 4) (j := 3) rfl (by decide) rfl lf_Player_18 d_Player_play_43 46 rfl (fun o9 hf => ?_)
      refine x_iconst X (v := 0) d_Player_play_46 (by decide) 47 rfl ?_
      refine x_callV0v X (t_Circuit_settle hf.2) hf.1 (ci := 0) rfl rfl lm_Player_35 im_Circuit_settle sl_Circuit_settle cd_Circuit_settle in_Circuit ds_Circuit_settle rfl rfl (Nat.le_of_ble_eq_true rfl) (Nat.le_of_ble_eq_true rfl) (Nat.le_of_ble_eq_true rfl) rfl rfl (Nat.le_refl 0) (Nat.le_refl 0) d_Player_play_47 50 rfl (fun h10 hf => ?_)
      refine x_iload_n X (q := 1) d_Player_play_50 rfl 51 rfl ?_
      refine x_aload_n X (q := 0) d_Player_play_51 rfl 52 rfl ?_
      refine x_aload_n X (q := 0) d_Player_play_52 rfl 53 rfl ?_
      refine x_getR X hf (ci := 4) (j := 0) rfl (by decide) rfl lf_Player_21 d_Player_play_53 56 rfl (fun o11 hf => ?_)
      refine x_iload_n X (q := 2) d_Player_play_56 rfl 57 rfl ?_
      refine x_aald X hf (t := 5) rfl d_Player_play_57 58 rfl (fun o12 hf => ?_)
      refine x_getR X hf (ci := 0) (j := 12) rfl (by decide) rfl lf_Player_49 d_Player_play_58 61 rfl (fun o13 hf => ?_)
      refine x_aload_n X (q := 0) d_Player_play_61 rfl 62 rfl ?_
      refine x_getR X hf (ci := 4) (j := 0) rfl (by decide) rfl lf_Player_21 d_Player_play_62 65 rfl (fun o14 hf => ?_)
      refine x_iload_n X (q := 2) d_Player_play_65 rfl 66 rfl ?_
      refine x_aald X hf (t := 5) rfl d_Player_play_66 67 rfl (fun o15 hf => ?_)
      refine x_getI X hf (ci := 0) (j := 4) rfl (by decide) rfl lf_Player_52 d_Player_play_67 70 rfl (fun v16 hf => ?_)
      refine x_callV0i X (t_Player_gather hf.2) hf.1 (ci := 4) rfl rfl lm_Player_56 im_Player_gather sl_Player_gather cd_Player_gather in_Player ds_Player_gather rfl rfl (Nat.le_of_ble_eq_true rfl) (Nat.le_of_ble_eq_true rfl) (Nat.le_of_ble_eq_true rfl) rfl rfl (Nat.le_refl 0) (Nat.le_refl 0) d_Player_play_70 73 rfl (fun v18 h17 hf => ?_)
      refine x_bipush X (v := 8) d_Player_play_73 (by decide) 75 rfl ?_
      refine x_iload_n X (q := 2) d_Player_play_75 rfl 76 rfl ?_
      refine x_imul X d_Player_play_76 77 rfl ?_
      refine x_ishl X d_Player_play_77 78 rfl ?_
      refine x_ior X d_Player_play_78 79 rfl ?_
      refine x_istoreN_n X hf d_Player_play_79 rfl (by decide) (lw := fun v19 => [(2, .int v19), (0, .ref a0), (3, .int x3)]) (fun _ => rfl) 80 rfl (fun v19 hf => ?_)
      refine x_aload_n X (q := 1) d_Player_play_80 rfl 81 rfl ?_
      refine x_getR X hf (ci := 4) (j := 1) rfl (by decide) rfl lf_Player_9 d_Player_play_81 84 rfl (fun o20 hf => ?_)
      refine x_iload_n X (q := 2) d_Player_play_84 rfl 85 rfl ?_
      refine x_aload_n X (q := 1) d_Player_play_85 rfl 86 rfl ?_
      refine x_aload_n X (q := 1) d_Player_play_86 rfl 87 rfl ?_
      refine x_getR X hf (ci := 4) (j := 0) rfl (by decide) rfl lf_Player_21 d_Player_play_87 90 rfl (fun o21 hf => ?_)
      refine x_iload_n X (q := 2) d_Player_play_90 rfl 91 rfl ?_
      refine x_aald X hf (t := 5) rfl d_Player_play_91 92 rfl (fun o22 hf => ?_)
      refine x_getR X hf (ci := 0) (j := 11) rfl (by decide) rfl lf_Player_60 d_Player_play_92 95 rfl (fun o23 hf => ?_)
      refine x_aload_n X (q := 1) d_Player_play_95 rfl 96 rfl ?_
      refine x_getR X hf (ci := 4) (j := 0) rfl (by decide) rfl lf_Player_21 d_Player_play_96 99 rfl (fun o24 hf => ?_)
      refine x_iload_n X (q := 2) d_Player_play_99 rfl 100 rfl ?_
      refine x_aald X hf (t := 5) rfl d_Player_play_100 101 rfl (fun o25 hf => ?_)
      refine x_getI X hf (ci := 0) (j := 3) rfl (by decide) rfl lf_Player_63 d_Player_play_101 104 rfl (fun v26 hf => ?_)
      refine x_callV0i X (t_Player_gather hf.2) hf.1 (ci := 4) rfl rfl lm_Player_56 im_Player_gather sl_Player_gather cd_Player_gather in_Player ds_Player_gather rfl rfl (Nat.le_of_ble_eq_true rfl) (Nat.le_of_ble_eq_true rfl) (Nat.le_of_ble_eq_true rfl) rfl rfl (Nat.le_refl 0) (Nat.le_refl 0) d_Player_play_104 107 rfl (fun v28 h27 hf => ?_)
      refine x_iast X hf d_Player_play_107 108 rfl (fun h29 hf => ?_)
      exact x_sub [1, 0, 2] rfl (t_Player_play_108 X hret hk9 hf)
set_option maxRecDepth 100000 in
def wp_Player_play (z : Nat → Nat) (Q : Int32 → xh → Prop) (a0 : Nat) (x1 : Int32) (hp : xh) : Prop :=
  xcls hp a0 4 ∧ wp_Player_takeVector z (fun h1 => wp_Player_play_9 z Q a0 0 0 h1) a0 x1 hp
set_option maxRecDepth 100000 in
set_option maxHeartbeats 4000000 in
theorem t_Player_play {l : Launch} {G : xG} {z : Nat → Nat} {Q : Int32 → xh → Prop} {a0 : Nat} {x1 : Int32} {hp : xh} (hf : wp_Player_play z Q a0 x1 hp) : xM l G z y_Player_play b_Player_play 4 (some .int) rm_Player_play [.ref a0, .int x1] hp (xqi Q) := by
  refine xM_of (by decide) (Nat.le_of_ble_eq_true rfl) (lv0 := [(0, .ref a0), (1, .int x1)]) rfl ?_
  intro p e s m args below meth c A Qw X hret
  unfold wp_Player_play at hf
  refine x_aload_n X (q := 0) d_Player_play_0 rfl 1 rfl ?_
  refine x_iload_n X (q := 1) d_Player_play_1 rfl 2 rfl ?_
  refine x_callV0v X (t_Player_takeVector hf.2) hf.1 (ci := 4) rfl rfl lm_Player_31 im_Player_takeVector sl_Player_takeVector cd_Player_takeVector in_Player ds_Player_takeVector rfl rfl (Nat.le_of_ble_eq_true rfl) (Nat.le_of_ble_eq_true rfl) (Nat.le_of_ble_eq_true rfl) rfl rfl (Nat.le_refl 0) (Nat.le_refl 0) d_Player_play_2 5 rfl (fun h1 hf => ?_)
  refine x_iconst X (v := 0) d_Player_play_5 (by decide) 6 rfl ?_
  refine x_istore_n X (lv' := [(2, .int 0), (0, .ref a0), (1, .int x1)]) d_Player_play_6 rfl (by decide) rfl 7 rfl ?_
  refine x_iconst X (v := 0) d_Player_play_7 (by decide) 8 rfl ?_
  refine x_istore_n X (lv' := [(3, .int 0), (2, .int 0), (0, .ref a0), (1, .int x1)]) d_Player_play_8 rfl (by decide) rfl 9 rfl ?_
  exact x_sub [2, 1, 0] rfl (t_Player_play_9 X hret hf)

set_option maxRecDepth 100000 in
def wp_Judge_step (z : Nat → Nat) (Q : Int32 → xh → Prop) (a0 : Nat) (x1 : Int32) (hp : xh) : Prop :=
  ∃ o1, fR hp a0 11 3 = some o1 ∧ (xcls hp o1 4 ∧ wp_Player_play z (fun v3 h2 => Q v3 h2) o1 x1 hp)
set_option maxRecDepth 100000 in
set_option maxHeartbeats 4000000 in
theorem t_Judge_step {l : Launch} {G : xG} {z : Nat → Nat} {Q : Int32 → xh → Prop} {a0 : Nat} {x1 : Int32} {hp : xh} (hf : wp_Judge_step z Q a0 x1 hp) : xM l G z y_Judge_step b_Judge_step 2 (some .int) rm_Judge_step [.ref a0, .int x1] hp (xqi Q) := by
  refine xM_of (by decide) (Nat.le_of_ble_eq_true rfl) (lv0 := [(0, .ref a0), (1, .int x1)]) rfl ?_
  intro p e s m args below meth c A Qw X hret
  unfold wp_Judge_step at hf
  refine x_aload_n X (q := 0) d_Judge_step_0 rfl 1 rfl ?_
  refine x_getR X hf (ci := 11) (j := 3) rfl (by decide) rfl lf_Judge_37 d_Judge_step_1 4 rfl (fun o1 hf => ?_)
  refine x_iload_n X (q := 1) d_Judge_step_4 rfl 5 rfl ?_
  refine x_callV0i X (t_Player_play hf.2) hf.1 (ci := 4) rfl rfl lm_Judge_117 im_Player_play sl_Player_play cd_Player_play in_Player ds_Player_play rfl rfl (Nat.le_of_ble_eq_true rfl) (Nat.le_of_ble_eq_true rfl) (Nat.le_of_ble_eq_true rfl) rfl rfl (Nat.le_refl 0) (Nat.le_refl 0) d_Judge_step_5 8 rfl (fun v3 h2 hf => ?_)
  exact hret _ _ _ _ _ (some (.int v3)) (Nat.le_refl 0) (Nat.le_refl 0) ⟨_, rfl, hf⟩ ⟨⟨_, rfl, rfl⟩, d_Judge_step_8⟩

set_option maxRecDepth 100000 in
def wp_Judge_matching (z : Nat → Nat) (Q : Int32 → xh → Prop) (a0 : Nat) (hp : xh) : Prop :=
  ∃ o1, fR hp a0 11 2 = some o1 ∧ (∃ o2, aR hp o1 5 0 = some o2 ∧ (∃ v3, fI hp o2 0 0 = some v3 ∧ ((v3 = 0 → Q 0 hp) ∧ (¬ v3 = 0 → (∃ o4, fR hp a0 11 2 = some o4 ∧ (∃ o5, aR hp o4 5 1 = some o5 ∧ (∃ v6, fI hp o5 0 0 = some v6 ∧ ((v6 = 0 → Q 0 hp) ∧ (¬ v6 = 0 → (∃ o7, fR hp a0 11 2 = some o7 ∧ (∃ o8, aR hp o7 5 0 = some o8 ∧ (∃ v9, fI hp o8 0 2 = some v9 ∧ (∃ o10, fR hp a0 11 2 = some o10 ∧ (∃ o11, aR hp o10 5 1 = some o11 ∧ (∃ v12, fI hp o11 0 2 = some v12 ∧ ((¬ v9 = v12 → Q 0 hp) ∧ (v9 = v12 → (∃ o13, fR hp a0 11 2 = some o13 ∧ (∃ o14, aR hp o13 5 0 = some o14 ∧ (∃ v15, fI hp o14 0 4 = some v15 ∧ (∃ o16, fR hp a0 11 2 = some o16 ∧ (∃ o17, aR hp o16 5 1 = some o17 ∧ (∃ v18, fI hp o17 0 4 = some v18 ∧ ((¬ v15 = v18 → Q 0 hp) ∧ (v15 = v18 → Q 1 hp)))))))))))))))))))))))))
set_option maxRecDepth 100000 in
set_option maxHeartbeats 4000000 in
theorem t_Judge_matching {l : Launch} {G : xG} {z : Nat → Nat} {Q : Int32 → xh → Prop} {a0 : Nat} {hp : xh} (hf : wp_Judge_matching z Q a0 hp) : xM l G z y_Judge_matching b_Judge_matching 1 (some .boolean) rm_Judge_matching [.ref a0] hp (xqz Q) := by
  refine xM_of (by decide) (Nat.le_of_ble_eq_true rfl) (lv0 := [(0, .ref a0)]) rfl ?_
  intro p e s m args below meth c A Qw X hret
  unfold wp_Judge_matching at hf
  refine x_aload_n X (q := 0) d_Judge_matching_0 rfl 1 rfl ?_
  refine x_getR X hf (ci := 11) (j := 2) rfl (by decide) rfl lf_Judge_27 d_Judge_matching_1 4 rfl (fun o1 hf => ?_)
  refine x_iconst X (v := 0) d_Judge_matching_4 (by decide) 5 rfl ?_
  refine x_aald X hf (t := 5) rfl d_Judge_matching_5 6 rfl (fun o2 hf => ?_)
  refine x_getI X hf (ci := 0) (j := 0) rfl (by decide) rfl lf_Judge_180 d_Judge_matching_6 9 rfl (fun v3 hf => ?_)
  refine x_if_eq X hf d_Judge_matching_9 70 12 (by decide) rfl (fun hf => ?_) (fun hf => ?_)
  · refine x_iconst X (v := 0) d_Judge_matching_70 (by decide) 71 rfl ?_
    exact hret _ _ _ _ _ (some (.int 0)) (Nat.le_refl 0) (Nat.le_refl 0) ⟨_, rfl, (Or.inl rfl), hf⟩ ⟨⟨_, rfl, xbl_nar (Or.inl rfl)⟩, d_Judge_matching_71⟩
  · refine x_aload_n X (q := 0) d_Judge_matching_12 rfl 13 rfl ?_
    refine x_getR X hf (ci := 11) (j := 2) rfl (by decide) rfl lf_Judge_27 d_Judge_matching_13 16 rfl (fun o4 hf => ?_)
    refine x_iconst X (v := 1) d_Judge_matching_16 (by decide) 17 rfl ?_
    refine x_aald X hf (t := 5) rfl d_Judge_matching_17 18 rfl (fun o5 hf => ?_)
    refine x_getI X hf (ci := 0) (j := 0) rfl (by decide) rfl lf_Judge_180 d_Judge_matching_18 21 rfl (fun v6 hf => ?_)
    refine x_if_eq X hf d_Judge_matching_21 70 24 (by decide) rfl (fun hf => ?_) (fun hf => ?_)
    · refine x_iconst X (v := 0) d_Judge_matching_70 (by decide) 71 rfl ?_
      exact hret _ _ _ _ _ (some (.int 0)) (Nat.le_refl 0) (Nat.le_refl 0) ⟨_, rfl, (Or.inl rfl), hf⟩ ⟨⟨_, rfl, xbl_nar (Or.inl rfl)⟩, d_Judge_matching_71⟩
    · refine x_aload_n X (q := 0) d_Judge_matching_24 rfl 25 rfl ?_
      refine x_getR X hf (ci := 11) (j := 2) rfl (by decide) rfl lf_Judge_27 d_Judge_matching_25 28 rfl (fun o7 hf => ?_)
      refine x_iconst X (v := 0) d_Judge_matching_28 (by decide) 29 rfl ?_
      refine x_aald X hf (t := 5) rfl d_Judge_matching_29 30 rfl (fun o8 hf => ?_)
      refine x_getI X hf (ci := 0) (j := 2) rfl (by decide) rfl lf_Judge_187 d_Judge_matching_30 33 rfl (fun v9 hf => ?_)
      refine x_aload_n X (q := 0) d_Judge_matching_33 rfl 34 rfl ?_
      refine x_getR X hf (ci := 11) (j := 2) rfl (by decide) rfl lf_Judge_27 d_Judge_matching_34 37 rfl (fun o10 hf => ?_)
      refine x_iconst X (v := 1) d_Judge_matching_37 (by decide) 38 rfl ?_
      refine x_aald X hf (t := 5) rfl d_Judge_matching_38 39 rfl (fun o11 hf => ?_)
      refine x_getI X hf (ci := 0) (j := 2) rfl (by decide) rfl lf_Judge_187 d_Judge_matching_39 42 rfl (fun v12 hf => ?_)
      refine x_icmp_ne X hf d_Judge_matching_42 70 45 (by decide) rfl (fun hf => ?_) (fun hf => ?_)
      · refine x_iconst X (v := 0) d_Judge_matching_70 (by decide) 71 rfl ?_
        exact hret _ _ _ _ _ (some (.int 0)) (Nat.le_refl 0) (Nat.le_refl 0) ⟨_, rfl, (Or.inl rfl), hf⟩ ⟨⟨_, rfl, xbl_nar (Or.inl rfl)⟩, d_Judge_matching_71⟩
      · refine x_aload_n X (q := 0) d_Judge_matching_45 rfl 46 rfl ?_
        refine x_getR X hf (ci := 11) (j := 2) rfl (by decide) rfl lf_Judge_27 d_Judge_matching_46 49 rfl (fun o13 hf => ?_)
        refine x_iconst X (v := 0) d_Judge_matching_49 (by decide) 50 rfl ?_
        refine x_aald X hf (t := 5) rfl d_Judge_matching_50 51 rfl (fun o14 hf => ?_)
        refine x_getI X hf (ci := 0) (j := 4) rfl (by decide) rfl lf_Judge_190 d_Judge_matching_51 54 rfl (fun v15 hf => ?_)
        refine x_aload_n X (q := 0) d_Judge_matching_54 rfl 55 rfl ?_
        refine x_getR X hf (ci := 11) (j := 2) rfl (by decide) rfl lf_Judge_27 d_Judge_matching_55 58 rfl (fun o16 hf => ?_)
        refine x_iconst X (v := 1) d_Judge_matching_58 (by decide) 59 rfl ?_
        refine x_aald X hf (t := 5) rfl d_Judge_matching_59 60 rfl (fun o17 hf => ?_)
        refine x_getI X hf (ci := 0) (j := 4) rfl (by decide) rfl lf_Judge_190 d_Judge_matching_60 63 rfl (fun v18 hf => ?_)
        refine x_icmp_ne X hf d_Judge_matching_63 70 66 (by decide) rfl (fun hf => ?_) (fun hf => ?_)
        · refine x_iconst X (v := 0) d_Judge_matching_70 (by decide) 71 rfl ?_
          exact hret _ _ _ _ _ (some (.int 0)) (Nat.le_refl 0) (Nat.le_refl 0) ⟨_, rfl, (Or.inl rfl), hf⟩ ⟨⟨_, rfl, xbl_nar (Or.inl rfl)⟩, d_Judge_matching_71⟩
        · refine x_iconst X (v := 1) d_Judge_matching_66 (by decide) 67 rfl ?_
          refine x_goto X d_Judge_matching_67 71 (by decide) ?_
          exact hret _ _ _ _ _ (some (.int 1)) (Nat.le_refl 0) (Nat.le_refl 0) ⟨_, rfl, (Or.inr rfl), hf⟩ ⟨⟨_, rfl, xbl_nar (Or.inr rfl)⟩, d_Judge_matching_71⟩

set_option maxRecDepth 100000 in
def wp_Table_init (z : Nat → Nat) (mc ms : Nat) (Q : xh → Prop) (a0 : Nat) (hp : xh) : Prop :=
  0 + 1 ≤ mc ∧ 0 + 25728 ≤ ms ∧ ∀ o1, hp o1 = none → ∀ h2, h2 = xset hp o1 (.inl (0, 25728, .inl (fun _ => 0))) → ∃ h5, pV h2 a0 7 0 (.ref o1) = some h5 ∧ ((0 + 1) + 1 ≤ mc ∧ (0 + 25728) + 1024 ≤ ms ∧ ∀ o6, h5 o6 = none → ∀ h7, h7 = xset h5 o6 (.inl (0, 1024, .inl (fun _ => 0))) → ∃ h10, pV h7 a0 7 1 (.ref o6) = some h10 ∧ (((0 + 1) + 1) + 1 ≤ mc ∧ ((0 + 25728) + 1024) + 4096 ≤ ms ∧ ∀ o11, h10 o11 = none → ∀ h12, h12 = xset h10 o11 (.inl (0, 4096, .inl (fun _ => 0))) → ∃ h15, pV h12 a0 7 2 (.ref o11) = some h15 ∧ ((((0 + 1) + 1) + 1) + 1 ≤ mc ∧ (((0 + 25728) + 1024) + 4096) + 2 ≤ ms ∧ ∀ o16, h15 o16 = none → ∀ h17, h17 = xset h15 o16 (.inl (0, 2, .inl (fun _ => 0))) → ∃ h20, pV h17 a0 7 3 (.ref o16) = some h20 ∧ Q h20)))
set_option maxRecDepth 100000 in
set_option maxHeartbeats 4000000 in
theorem t_Table_init {l : Launch} {G : xG} {z : Nat → Nat} {mc ms : Nat} {Q : xh → Prop} {a0 : Nat} {hp : xh} (hf : wp_Table_init z mc ms Q a0 hp) : xM l G z y_Table_init b_Table_init 1 none (rm_Table_init mc ms) [.ref a0] hp (xqv Q) := by
  refine xM_of (by decide) (Nat.le_of_ble_eq_true rfl) (lv0 := [(0, .ref a0)]) rfl ?_
  intro p e s m args below meth c A Qw X hret
  unfold wp_Table_init at hf
  refine x_aload_n X (q := 0) d_Table_init_0 rfl 1 rfl ?_
  refine x_objInit X lm_Table_3 obj_im obj_cd (Nat.le_of_ble_eq_true rfl) (Nat.le_of_ble_eq_true rfl) d_Table_init_1 4 rfl ?_
  refine x_aload_n X (q := 0) d_Table_init_4 rfl 5 rfl ?_
  refine x_sipush X (v := 25728) d_Table_init_5 (by decide) 8 rfl ?_
  have hk3 := hf.1
  have hn4 := hf.2.1
  refine x_new_i X hf rfl ac_int (by decide) (by decide) (by decide) d_Table_init_8 10 rfl (fun h2 o1 hf => ?_)
  refine x_putF X hf (ci := 7) (j := 0) (ty := (.array .int)) rfl (by decide) rfl lf_Table_9 rfl rfl rfl (by decide +kernel) rfl rfl d_Table_init_10 13 rfl (fun h5 hf => ?_)
  refine x_aload_n X (q := 0) d_Table_init_13 rfl 14 rfl ?_
  refine x_sipush X (v := 1024) d_Table_init_14 (by decide) 17 rfl ?_
  have hk8 := hf.1
  have hn9 := hf.2.1
  refine x_new_i X hf rfl ac_int (by decide) (by decide) (by decide) d_Table_init_17 19 rfl (fun h7 o6 hf => ?_)
  refine x_putF X hf (ci := 7) (j := 1) (ty := (.array .int)) rfl (by decide) rfl lf_Table_15 rfl rfl rfl (by decide +kernel) rfl rfl d_Table_init_19 22 rfl (fun h10 hf => ?_)
  refine x_aload_n X (q := 0) d_Table_init_22 rfl 23 rfl ?_
  refine x_sipush X (v := 4096) d_Table_init_23 (by decide) 26 rfl ?_
  have hk13 := hf.1
  have hn14 := hf.2.1
  refine x_new_i X hf rfl ac_int (by decide) (by decide) (by decide) d_Table_init_26 28 rfl (fun h12 o11 hf => ?_)
  refine x_putF X hf (ci := 7) (j := 2) (ty := (.array .int)) rfl (by decide) rfl lf_Table_18 rfl rfl rfl (by decide +kernel) rfl rfl d_Table_init_28 31 rfl (fun h15 hf => ?_)
  refine x_aload_n X (q := 0) d_Table_init_31 rfl 32 rfl ?_
  refine x_iconst X (v := 2) d_Table_init_32 (by decide) 33 rfl ?_
  have hk18 := hf.1
  have hn19 := hf.2.1
  refine x_new_i X hf rfl ac_int (by decide) (by decide) (by decide) d_Table_init_33 35 rfl (fun h17 o16 hf => ?_)
  refine x_putF X hf (ci := 7) (j := 3) (ty := (.array .int)) rfl (by decide) rfl lf_Table_21 rfl rfl rfl (by decide +kernel) rfl rfl d_Table_init_35 38 rfl (fun h20 hf => ?_)
  exact hret _ _ _ _ _ none hk18 hn19 ⟨rfl, hf⟩ ⟨rfl, d_Table_init_38⟩

set_option maxRecDepth 100000 in
def wp_Walk_init (z : Nat → Nat) (mc ms : Nat) (Q : xh → Prop) (a0 : Nat) (a1 : Nat) (hp : xh) : Prop :=
  0 + 1 ≤ mc ∧ 0 + 4096 ≤ ms ∧ ∀ o1, hp o1 = none → ∀ h2, h2 = xset hp o1 (.inl (0, 4096, .inl (fun _ => 0))) → ∃ h5, pV h2 a0 9 1 (.ref o1) = some h5 ∧ ((0 + 1) + 1 ≤ mc ∧ (0 + 4096) + 4096 ≤ ms ∧ ∀ o6, h5 o6 = none → ∀ h7, h7 = xset h5 o6 (.inl (0, 4096, .inl (fun _ => 0))) → ∃ h10, pV h7 a0 9 2 (.ref o6) = some h10 ∧ (((0 + 1) + 1) + 1 ≤ mc ∧ ((0 + 4096) + 4096) + 4096 ≤ ms ∧ ∀ o11, h10 o11 = none → ∀ h12, h12 = xset h10 o11 (.inl (0, 4096, .inl (fun _ => 0))) → ∃ h15, pV h12 a0 9 3 (.ref o11) = some h15 ∧ ((((0 + 1) + 1) + 1) + 1 ≤ mc ∧ (((0 + 4096) + 4096) + 4096) + 4096 ≤ ms ∧ ∀ o16, h15 o16 = none → ∀ h17, h17 = xset h15 o16 (.inl (0, 4096, .inl (fun _ => 0))) → ∃ h20, pV h17 a0 9 4 (.ref o16) = some h20 ∧ (∃ h21, pV h20 a0 9 0 (.ref a1) = some h21 ∧ Q h21))))
set_option maxRecDepth 100000 in
set_option maxHeartbeats 4000000 in
theorem t_Walk_init {l : Launch} {G : xG} {z : Nat → Nat} {mc ms : Nat} {Q : xh → Prop} {a0 : Nat} {a1 : Nat} {hp : xh} (hf : wp_Walk_init z mc ms Q a0 a1 hp) : xM l G z y_Walk_init b_Walk_init 2 none (rm_Walk_init mc ms) [.ref a0, .ref a1] hp (xqv Q) := by
  refine xM_of (by decide) (Nat.le_of_ble_eq_true rfl) (lv0 := [(0, .ref a0), (1, .ref a1)]) rfl ?_
  intro p e s m args below meth c A Qw X hret
  unfold wp_Walk_init at hf
  refine x_aload_n X (q := 0) d_Walk_init_0 rfl 1 rfl ?_
  refine x_objInit X lm_Walk_3 obj_im obj_cd (Nat.le_of_ble_eq_true rfl) (Nat.le_of_ble_eq_true rfl) d_Walk_init_1 4 rfl ?_
  refine x_aload_n X (q := 0) d_Walk_init_4 rfl 5 rfl ?_
  refine x_sipush X (v := 4096) d_Walk_init_5 (by decide) 8 rfl ?_
  have hk3 := hf.1
  have hn4 := hf.2.1
  refine x_new_i X hf rfl ac_int (by decide) (by decide) (by decide) d_Walk_init_8 10 rfl (fun h2 o1 hf => ?_)
  refine x_putF X hf (ci := 9) (j := 1) (ty := (.array .int)) rfl (by decide) rfl lf_Walk_9 rfl rfl rfl (by decide +kernel) rfl rfl d_Walk_init_10 13 rfl (fun h5 hf => ?_)
  refine x_aload_n X (q := 0) d_Walk_init_13 rfl 14 rfl ?_
  refine x_sipush X (v := 4096) d_Walk_init_14 (by decide) 17 rfl ?_
  have hk8 := hf.1
  have hn9 := hf.2.1
  refine x_new_i X hf rfl ac_int (by decide) (by decide) (by decide) d_Walk_init_17 19 rfl (fun h7 o6 hf => ?_)
  refine x_putF X hf (ci := 9) (j := 2) (ty := (.array .int)) rfl (by decide) rfl lf_Walk_15 rfl rfl rfl (by decide +kernel) rfl rfl d_Walk_init_19 22 rfl (fun h10 hf => ?_)
  refine x_aload_n X (q := 0) d_Walk_init_22 rfl 23 rfl ?_
  refine x_sipush X (v := 4096) d_Walk_init_23 (by decide) 26 rfl ?_
  have hk13 := hf.1
  have hn14 := hf.2.1
  refine x_new_i X hf rfl ac_int (by decide) (by decide) (by decide) d_Walk_init_26 28 rfl (fun h12 o11 hf => ?_)
  refine x_putF X hf (ci := 9) (j := 3) (ty := (.array .int)) rfl (by decide) rfl lf_Walk_18 rfl rfl rfl (by decide +kernel) rfl rfl d_Walk_init_28 31 rfl (fun h15 hf => ?_)
  refine x_aload_n X (q := 0) d_Walk_init_31 rfl 32 rfl ?_
  refine x_sipush X (v := 4096) d_Walk_init_32 (by decide) 35 rfl ?_
  have hk18 := hf.1
  have hn19 := hf.2.1
  refine x_new_i X hf rfl ac_int (by decide) (by decide) (by decide) d_Walk_init_35 37 rfl (fun h17 o16 hf => ?_)
  refine x_putF X hf (ci := 9) (j := 4) (ty := (.array .int)) rfl (by decide) rfl lf_Walk_21 rfl rfl rfl (by decide +kernel) rfl rfl d_Walk_init_37 40 rfl (fun h20 hf => ?_)
  refine x_aload_n X (q := 0) d_Walk_init_40 rfl 41 rfl ?_
  refine x_aload_n X (q := 1) d_Walk_init_41 rfl 42 rfl ?_
  refine x_putF X hf (ci := 9) (j := 0) (ty := (.object "TwinJudge$Table")) rfl (by decide) rfl lf_Walk_24 rfl rfl rfl (by decide +kernel) rfl rfl d_Walk_init_42 45 rfl (fun h21 hf => ?_)
  exact hret _ _ _ _ _ none hk18 hn19 ⟨rfl, hf⟩ ⟨rfl, d_Walk_init_45⟩

set_option maxRecDepth 100000 in
def wp_Layers_init (z : Nat → Nat) (mc ms : Nat) (Q : xh → Prop) (a0 : Nat) (a1 : Nat) (hp : xh) : Prop :=
  0 + 1 ≤ mc ∧ 0 + 4096 ≤ ms ∧ ∀ o1, hp o1 = none → ∀ h2, h2 = xset hp o1 (.inl (2, 4096, .inl (fun _ => 0))) → ∃ h5, pV h2 a0 1 1 (.ref o1) = some h5 ∧ ((0 + 1) + 1 ≤ mc ∧ (0 + 4096) + 4096 ≤ ms ∧ ∀ o6, h5 o6 = none → ∀ h7, h7 = xset h5 o6 (.inl (2, 4096, .inl (fun _ => 0))) → ∃ h10, pV h7 a0 1 2 (.ref o6) = some h10 ∧ (∃ h11, pV h10 a0 1 0 (.ref a1) = some h11 ∧ Q h11))
set_option maxRecDepth 100000 in
set_option maxHeartbeats 4000000 in
theorem t_Layers_init {l : Launch} {G : xG} {z : Nat → Nat} {mc ms : Nat} {Q : xh → Prop} {a0 : Nat} {a1 : Nat} {hp : xh} (hf : wp_Layers_init z mc ms Q a0 a1 hp) : xM l G z y_Layers_init b_Layers_init 2 none (rm_Layers_init mc ms) [.ref a0, .ref a1] hp (xqv Q) := by
  refine xM_of (by decide) (Nat.le_of_ble_eq_true rfl) (lv0 := [(0, .ref a0), (1, .ref a1)]) rfl ?_
  intro p e s m args below meth c A Qw X hret
  unfold wp_Layers_init at hf
  refine x_aload_n X (q := 0) d_Layers_init_0 rfl 1 rfl ?_
  refine x_objInit X lm_Layers_3 obj_im obj_cd (Nat.le_of_ble_eq_true rfl) (Nat.le_of_ble_eq_true rfl) d_Layers_init_1 4 rfl ?_
  refine x_aload_n X (q := 0) d_Layers_init_4 rfl 5 rfl ?_
  refine x_sipush X (v := 4096) d_Layers_init_5 (by decide) 8 rfl ?_
  have hk3 := hf.1
  have hn4 := hf.2.1
  refine x_new_z X hf rfl ac_boolean (by decide) (by decide) (by decide) d_Layers_init_8 10 rfl (fun h2 o1 hf => ?_)
  refine x_put X hf (ci := 1) (j := 1) (ty := (.array .boolean)) rfl (by decide) rfl lf_Layers_9 rfl (by decide +kernel) rfl rfl d_Layers_init_10 13 rfl (fun h5 hf => ?_)
  refine x_aload_n X (q := 0) d_Layers_init_13 rfl 14 rfl ?_
  refine x_sipush X (v := 4096) d_Layers_init_14 (by decide) 17 rfl ?_
  have hk8 := hf.1
  have hn9 := hf.2.1
  refine x_new_z X hf rfl ac_boolean (by decide) (by decide) (by decide) d_Layers_init_17 19 rfl (fun h7 o6 hf => ?_)
  refine x_put X hf (ci := 1) (j := 2) (ty := (.array .boolean)) rfl (by decide) rfl lf_Layers_15 rfl (by decide +kernel) rfl rfl d_Layers_init_19 22 rfl (fun h10 hf => ?_)
  refine x_aload_n X (q := 0) d_Layers_init_22 rfl 23 rfl ?_
  refine x_aload_n X (q := 1) d_Layers_init_23 rfl 24 rfl ?_
  refine x_putF X hf (ci := 1) (j := 0) (ty := (.object "TwinJudge$Table")) rfl (by decide) rfl lf_Layers_18 rfl rfl rfl (by decide +kernel) rfl rfl d_Layers_init_24 27 rfl (fun h11 hf => ?_)
  exact hret _ _ _ _ _ none hk8 hn9 ⟨rfl, hf⟩ ⟨rfl, d_Layers_init_27⟩

set_option maxRecDepth 100000 in
def wp_Likeness_init (z : Nat → Nat) (mc ms : Nat) (Q : xh → Prop) (a0 : Nat) (hp : xh) : Prop :=
  0 + 1 ≤ mc ∧ 0 + 402 ≤ ms ∧ ∀ o1, hp o1 = none → ∀ h2, h2 = xset hp o1 (.inl (0, 402, .inl (fun _ => 0))) → ∃ h5, pV h2 a0 2 0 (.ref o1) = some h5 ∧ ((0 + 1) + 1 ≤ mc ∧ (0 + 402) + 402 ≤ ms ∧ ∀ o6, h5 o6 = none → ∀ h7, h7 = xset h5 o6 (.inl (0, 402, .inl (fun _ => 0))) → ∃ h10, pV h7 a0 2 1 (.ref o6) = some h10 ∧ (((0 + 1) + 1) + 1 ≤ mc ∧ ((0 + 402) + 402) + 402 ≤ ms ∧ ∀ o11, h10 o11 = none → ∀ h12, h12 = xset h10 o11 (.inl (0, 402, .inl (fun _ => 0))) → ∃ h15, pV h12 a0 2 2 (.ref o11) = some h15 ∧ ((((0 + 1) + 1) + 1) + 1 ≤ mc ∧ (((0 + 402) + 402) + 402) + 402 ≤ ms ∧ ∀ o16, h15 o16 = none → ∀ h17, h17 = xset h15 o16 (.inl (0, 402, .inl (fun _ => 0))) → ∃ h20, pV h17 a0 2 3 (.ref o16) = some h20 ∧ (((((0 + 1) + 1) + 1) + 1) + 1 ≤ mc ∧ ((((0 + 402) + 402) + 402) + 402) + 402 ≤ ms ∧ ∀ o21, h20 o21 = none → ∀ h22, h22 = xset h20 o21 (.inl (0, 402, .inl (fun _ => 0))) → ∃ h25, pV h22 a0 2 4 (.ref o21) = some h25 ∧ ((((((0 + 1) + 1) + 1) + 1) + 1) + 1 ≤ mc ∧ (((((0 + 402) + 402) + 402) + 402) + 402) + 402 ≤ ms ∧ ∀ o26, h25 o26 = none → ∀ h27, h27 = xset h25 o26 (.inl (0, 402, .inl (fun _ => 0))) → ∃ h30, pV h27 a0 2 5 (.ref o26) = some h30 ∧ Q h30)))))
set_option maxRecDepth 100000 in
set_option maxHeartbeats 4000000 in
theorem t_Likeness_init {l : Launch} {G : xG} {z : Nat → Nat} {mc ms : Nat} {Q : xh → Prop} {a0 : Nat} {hp : xh} (hf : wp_Likeness_init z mc ms Q a0 hp) : xM l G z y_Likeness_init b_Likeness_init 1 none (rm_Likeness_init mc ms) [.ref a0] hp (xqv Q) := by
  refine xM_of (by decide) (Nat.le_of_ble_eq_true rfl) (lv0 := [(0, .ref a0)]) rfl ?_
  intro p e s m args below meth c A Qw X hret
  unfold wp_Likeness_init at hf
  refine x_aload_n X (q := 0) d_Likeness_init_0 rfl 1 rfl ?_
  refine x_objInit X lm_Likeness_3 obj_im obj_cd (Nat.le_of_ble_eq_true rfl) (Nat.le_of_ble_eq_true rfl) d_Likeness_init_1 4 rfl ?_
  refine x_aload_n X (q := 0) d_Likeness_init_4 rfl 5 rfl ?_
  refine x_sipush X (v := 402) d_Likeness_init_5 (by decide) 8 rfl ?_
  have hk3 := hf.1
  have hn4 := hf.2.1
  refine x_new_i X hf rfl ac_int (by decide) (by decide) (by decide) d_Likeness_init_8 10 rfl (fun h2 o1 hf => ?_)
  refine x_putF X hf (ci := 2) (j := 0) (ty := (.array .int)) rfl (by decide) rfl lf_Likeness_11 rfl rfl rfl (by decide +kernel) rfl rfl d_Likeness_init_10 13 rfl (fun h5 hf => ?_)
  refine x_aload_n X (q := 0) d_Likeness_init_13 rfl 14 rfl ?_
  refine x_sipush X (v := 402) d_Likeness_init_14 (by decide) 17 rfl ?_
  have hk8 := hf.1
  have hn9 := hf.2.1
  refine x_new_i X hf rfl ac_int (by decide) (by decide) (by decide) d_Likeness_init_17 19 rfl (fun h7 o6 hf => ?_)
  refine x_putF X hf (ci := 2) (j := 1) (ty := (.array .int)) rfl (by decide) rfl lf_Likeness_15 rfl rfl rfl (by decide +kernel) rfl rfl d_Likeness_init_19 22 rfl (fun h10 hf => ?_)
  refine x_aload_n X (q := 0) d_Likeness_init_22 rfl 23 rfl ?_
  refine x_sipush X (v := 402) d_Likeness_init_23 (by decide) 26 rfl ?_
  have hk13 := hf.1
  have hn14 := hf.2.1
  refine x_new_i X hf rfl ac_int (by decide) (by decide) (by decide) d_Likeness_init_26 28 rfl (fun h12 o11 hf => ?_)
  refine x_putF X hf (ci := 2) (j := 2) (ty := (.array .int)) rfl (by decide) rfl lf_Likeness_18 rfl rfl rfl (by decide +kernel) rfl rfl d_Likeness_init_28 31 rfl (fun h15 hf => ?_)
  refine x_aload_n X (q := 0) d_Likeness_init_31 rfl 32 rfl ?_
  refine x_sipush X (v := 402) d_Likeness_init_32 (by decide) 35 rfl ?_
  have hk18 := hf.1
  have hn19 := hf.2.1
  refine x_new_i X hf rfl ac_int (by decide) (by decide) (by decide) d_Likeness_init_35 37 rfl (fun h17 o16 hf => ?_)
  refine x_putF X hf (ci := 2) (j := 3) (ty := (.array .int)) rfl (by decide) rfl lf_Likeness_21 rfl rfl rfl (by decide +kernel) rfl rfl d_Likeness_init_37 40 rfl (fun h20 hf => ?_)
  refine x_aload_n X (q := 0) d_Likeness_init_40 rfl 41 rfl ?_
  refine x_sipush X (v := 402) d_Likeness_init_41 (by decide) 44 rfl ?_
  have hk23 := hf.1
  have hn24 := hf.2.1
  refine x_new_i X hf rfl ac_int (by decide) (by decide) (by decide) d_Likeness_init_44 46 rfl (fun h22 o21 hf => ?_)
  refine x_putF X hf (ci := 2) (j := 4) (ty := (.array .int)) rfl (by decide) rfl lf_Likeness_24 rfl rfl rfl (by decide +kernel) rfl rfl d_Likeness_init_46 49 rfl (fun h25 hf => ?_)
  refine x_aload_n X (q := 0) d_Likeness_init_49 rfl 50 rfl ?_
  refine x_sipush X (v := 402) d_Likeness_init_50 (by decide) 53 rfl ?_
  have hk28 := hf.1
  have hn29 := hf.2.1
  refine x_new_i X hf rfl ac_int (by decide) (by decide) (by decide) d_Likeness_init_53 55 rfl (fun h27 o26 hf => ?_)
  refine x_putF X hf (ci := 2) (j := 5) (ty := (.array .int)) rfl (by decide) rfl lf_Likeness_27 rfl rfl rfl (by decide +kernel) rfl rfl d_Likeness_init_55 58 rfl (fun h30 hf => ?_)
  exact hret _ _ _ _ _ none hk28 hn29 ⟨rfl, hf⟩ ⟨rfl, d_Likeness_init_58⟩

set_option maxRecDepth 100000 in
def wp_Overlay_init (z : Nat → Nat) (mc ms : Nat) (Q : xh → Prop) (a0 : Nat) (hp : xh) : Prop :=
  0 + 1 ≤ mc ∧ 0 + 300 ≤ ms ∧ ∀ o1, hp o1 = none → ∀ h2, h2 = xset hp o1 (.inl (0, 300, .inl (fun _ => 0))) → ∃ h5, pV h2 a0 3 0 (.ref o1) = some h5 ∧ ((0 + 1) + 1 ≤ mc ∧ (0 + 300) + 300 ≤ ms ∧ ∀ o6, h5 o6 = none → ∀ h7, h7 = xset h5 o6 (.inl (0, 300, .inl (fun _ => 0))) → ∃ h10, pV h7 a0 3 1 (.ref o6) = some h10 ∧ (((0 + 1) + 1) + 1 ≤ mc ∧ ((0 + 300) + 300) + 201 ≤ ms ∧ ∀ o11, h10 o11 = none → ∀ h12, h12 = xset h10 o11 (.inl (0, 201, .inl (fun _ => 0))) → ∃ h15, pV h12 a0 3 2 (.ref o11) = some h15 ∧ Q h15))
set_option maxRecDepth 100000 in
set_option maxHeartbeats 4000000 in
theorem t_Overlay_init {l : Launch} {G : xG} {z : Nat → Nat} {mc ms : Nat} {Q : xh → Prop} {a0 : Nat} {hp : xh} (hf : wp_Overlay_init z mc ms Q a0 hp) : xM l G z y_Overlay_init b_Overlay_init 1 none (rm_Overlay_init mc ms) [.ref a0] hp (xqv Q) := by
  refine xM_of (by decide) (Nat.le_of_ble_eq_true rfl) (lv0 := [(0, .ref a0)]) rfl ?_
  intro p e s m args below meth c A Qw X hret
  unfold wp_Overlay_init at hf
  refine x_aload_n X (q := 0) d_Overlay_init_0 rfl 1 rfl ?_
  refine x_objInit X lm_Overlay_5 obj_im obj_cd (Nat.le_of_ble_eq_true rfl) (Nat.le_of_ble_eq_true rfl) d_Overlay_init_1 4 rfl ?_
  refine x_aload_n X (q := 0) d_Overlay_init_4 rfl 5 rfl ?_
  refine x_sipush X (v := 300) d_Overlay_init_5 (by decide) 8 rfl ?_
  have hk3 := hf.1
  have hn4 := hf.2.1
  refine x_new_i X hf rfl ac_int (by decide) (by decide) (by decide) d_Overlay_init_8 10 rfl (fun h2 o1 hf => ?_)
  refine x_putF X hf (ci := 3) (j := 0) (ty := (.array .int)) rfl (by decide) rfl lf_Overlay_11 rfl rfl rfl (by decide +kernel) rfl rfl d_Overlay_init_10 13 rfl (fun h5 hf => ?_)
  refine x_aload_n X (q := 0) d_Overlay_init_13 rfl 14 rfl ?_
  refine x_sipush X (v := 300) d_Overlay_init_14 (by decide) 17 rfl ?_
  have hk8 := hf.1
  have hn9 := hf.2.1
  refine x_new_i X hf rfl ac_int (by decide) (by decide) (by decide) d_Overlay_init_17 19 rfl (fun h7 o6 hf => ?_)
  refine x_putF X hf (ci := 3) (j := 1) (ty := (.array .int)) rfl (by decide) rfl lf_Overlay_15 rfl rfl rfl (by decide +kernel) rfl rfl d_Overlay_init_19 22 rfl (fun h10 hf => ?_)
  refine x_aload_n X (q := 0) d_Overlay_init_22 rfl 23 rfl ?_
  refine x_sipush X (v := 201) d_Overlay_init_23 (by decide) 26 rfl ?_
  have hk13 := hf.1
  have hn14 := hf.2.1
  refine x_new_i X hf rfl ac_int (by decide) (by decide) (by decide) d_Overlay_init_26 28 rfl (fun h12 o11 hf => ?_)
  refine x_putF X hf (ci := 3) (j := 2) (ty := (.array .int)) rfl (by decide) rfl lf_Overlay_18 rfl rfl rfl (by decide +kernel) rfl rfl d_Overlay_init_28 31 rfl (fun h15 hf => ?_)
  exact hret _ _ _ _ _ none hk13 hn14 ⟨rfl, hf⟩ ⟨rfl, d_Overlay_init_31⟩

set_option maxRecDepth 100000 in
def wp_Works_init (z : Nat → Nat) (mc ms : Nat) (Q : xh → Prop) (a0 : Nat) (a1 : Nat) (hp : xh) : Prop :=
  0 + 1 ≤ mc ∧ 0 + 6 ≤ ms ∧ ∀ o1, hp o1 = none → ∀ h2, h2 = xset hp o1 (.inr (7, xdef 7)) → ∃ mc6 ms7, (0 + 1) + mc6 ≤ mc ∧ (0 + 6) + ms7 ≤ ms ∧ wp_Table_init z mc6 ms7 (fun h5 => ∃ h10, pV h5 a0 10 2 (.ref o1) = some h10 ∧ (((0 + 1) + mc6) + 1 ≤ mc ∧ ((0 + 6) + ms7) + 8 ≤ ms ∧ ∀ o11, h10 o11 = none → ∀ h12, h12 = xset h10 o11 (.inr (9, xdef 9)) → ∃ o15, fR h12 a0 10 2 = some o15 ∧ (∃ mc17 ms18, (((0 + 1) + mc6) + 1) + mc17 ≤ mc ∧ (((0 + 6) + ms7) + 8) + ms18 ≤ ms ∧ wp_Walk_init z mc17 ms18 (fun h16 => ∃ h21, pV h16 a0 10 3 (.ref o11) = some h21 ∧ (((((0 + 1) + mc6) + 1) + mc17) + 1 ≤ mc ∧ ((((0 + 6) + ms7) + 8) + ms18) + 7 ≤ ms ∧ ∀ o22, h21 o22 = none → ∀ h23, h23 = xset h21 o22 (.inr (1, xdef 1)) → ∃ o26, fR h23 a0 10 2 = some o26 ∧ (∃ mc28 ms29, (((((0 + 1) + mc6) + 1) + mc17) + 1) + mc28 ≤ mc ∧ (((((0 + 6) + ms7) + 8) + ms18) + 7) + ms29 ≤ ms ∧ wp_Layers_init z mc28 ms29 (fun h27 => ∃ h32, pV h27 a0 10 4 (.ref o22) = some h32 ∧ (((((((0 + 1) + mc6) + 1) + mc17) + 1) + mc28) + 1 ≤ mc ∧ ((((((0 + 6) + ms7) + 8) + ms18) + 7) + ms29) + 7 ≤ ms ∧ ∀ o33, h32 o33 = none → ∀ h34, h34 = xset h32 o33 (.inr (2, xdef 2)) → ∃ mc38 ms39, (((((((0 + 1) + mc6) + 1) + mc17) + 1) + mc28) + 1) + mc38 ≤ mc ∧ (((((((0 + 6) + ms7) + 8) + ms18) + 7) + ms29) + 7) + ms39 ≤ ms ∧ wp_Likeness_init z mc38 ms39 (fun h37 => ∃ h42, pV h37 a0 10 5 (.ref o33) = some h42 ∧ (((((((((0 + 1) + mc6) + 1) + mc17) + 1) + mc28) + 1) + mc38) + 1 ≤ mc ∧ ((((((((0 + 6) + ms7) + 8) + ms18) + 7) + ms29) + 7) + ms39) + 4 ≤ ms ∧ ∀ o43, h42 o43 = none → ∀ h44, h44 = xset h42 o43 (.inr (3, xdef 3)) → ∃ mc48 ms49, (((((((((0 + 1) + mc6) + 1) + mc17) + 1) + mc28) + 1) + mc38) + 1) + mc48 ≤ mc ∧ (((((((((0 + 6) + ms7) + 8) + ms18) + 7) + ms29) + 7) + ms39) + 4) + ms49 ≤ ms ∧ wp_Overlay_init z mc48 ms49 (fun h47 => ∃ h52, pV h47 a0 10 6 (.ref o43) = some h52 ∧ (∃ h53, pV h52 a0 10 0 (.ref a1) = some h53 ∧ (((((((((((0 + 1) + mc6) + 1) + mc17) + 1) + mc28) + 1) + mc38) + 1) + mc48) + 1 ≤ mc ∧ ((((((((((0 + 6) + ms7) + 8) + ms18) + 7) + ms29) + 7) + ms39) + 4) + ms49) + 4 ≤ ms ∧ ∀ o54, h53 o54 = none → ∀ h55, h55 = xset h53 o54 (.inr (4, xdef 4)) → ∃ mc59 ms60, (((((((((((0 + 1) + mc6) + 1) + mc17) + 1) + mc28) + 1) + mc38) + 1) + mc48) + 1) + mc59 ≤ mc ∧ (((((((((((0 + 6) + ms7) + 8) + ms18) + 7) + ms29) + 7) + ms39) + 4) + ms49) + 4) + ms60 ≤ ms ∧ wp_Player_init z mc59 ms60 (fun h58 => ∃ h63, pV h58 a0 10 1 (.ref o54) = some h63 ∧ Q h63) o54 a1 h55))) o43 h44)) o33 h34)) o22 o26 h23))) o11 o15 h12))) o1 h2
set_option maxRecDepth 100000 in
set_option maxHeartbeats 4000000 in
theorem t_Works_init {l : Launch} {G : xG} {z : Nat → Nat} {mc ms : Nat} {Q : xh → Prop} {a0 : Nat} {a1 : Nat} {hp : xh} (hf : wp_Works_init z mc ms Q a0 a1 hp) : xM l G z y_Works_init b_Works_init 2 none (rm_Works_init mc ms) [.ref a0, .ref a1] hp (xqv Q) := by
  refine xM_of (by decide) (Nat.le_of_ble_eq_true rfl) (lv0 := [(0, .ref a0), (1, .ref a1)]) rfl ?_
  intro p e s m args below meth c A Qw X hret
  unfold wp_Works_init at hf
  refine x_aload_n X (q := 0) d_Works_init_0 rfl 1 rfl ?_
  refine x_objInit X lm_Works_3 obj_im obj_cd (Nat.le_of_ble_eq_true rfl) (Nat.le_of_ble_eq_true rfl) d_Works_init_1 4 rfl ?_
  refine x_aload_n X (q := 0) d_Works_init_4 rfl 5 rfl ?_
  have hk3 := hf.1
  have hn4 := hf.2.1
  refine x_new X hf (ci := 7) rfl lc_Works_9 it_Table in_Table d_Works_init_5 8 rfl (fun h2 o1 hf => ?_)
  refine x_dup X rfl d_Works_init_8 9 rfl ?_
  obtain ⟨mc6, ms7, hk8, hn9, hf⟩ := hf
  refine x_callINv X (t_Table_init hf) lm_Works_11 im_Table_init rfl cd_Table_init in_Table ds_Table_init rfl rfl (Nat.le_of_ble_eq_true rfl) (Nat.le_of_ble_eq_true rfl) (Nat.le_of_ble_eq_true rfl) hk8 hn9 d_Works_init_9 12 rfl (fun h5 hf => ?_)
  refine x_putF X hf (ci := 10) (j := 2) (ty := (.object "TwinJudge$Table")) rfl (by decide) rfl lf_Works_12 rfl rfl rfl (by decide +kernel) rfl rfl d_Works_init_12 15 rfl (fun h10 hf => ?_)
  refine x_aload_n X (q := 0) d_Works_init_15 rfl 16 rfl ?_
  have hk13 := hf.1
  have hn14 := hf.2.1
  refine x_new X hf (ci := 9) rfl lc_Works_18 it_Walk in_Walk d_Works_init_16 19 rfl (fun h12 o11 hf => ?_)
  refine x_dup X rfl d_Works_init_19 20 rfl ?_
  refine x_aload_n X (q := 0) d_Works_init_20 rfl 21 rfl ?_
  refine x_getR X hf (ci := 10) (j := 2) rfl (by decide) rfl lf_Works_12 d_Works_init_21 24 rfl (fun o15 hf => ?_)
  obtain ⟨mc17, ms18, hk19, hn20, hf⟩ := hf
  refine x_callIv X (t_Walk_init hf) lm_Works_20 im_Walk_init rfl cd_Walk_init in_Walk ds_Walk_init rfl rfl (Nat.le_of_ble_eq_true rfl) (Nat.le_of_ble_eq_true rfl) (Nat.le_of_ble_eq_true rfl) hk19 hn20 d_Works_init_24 27 rfl (fun h16 hf => ?_)
  refine x_putF X hf (ci := 10) (j := 3) (ty := (.object "TwinJudge$Walk")) rfl (by decide) rfl lf_Works_23 rfl rfl rfl (by decide +kernel) rfl rfl d_Works_init_27 30 rfl (fun h21 hf => ?_)
  refine x_aload_n X (q := 0) d_Works_init_30 rfl 31 rfl ?_
  have hk24 := hf.1
  have hn25 := hf.2.1
  refine x_new X hf (ci := 1) rfl lc_Works_27 it_Layers in_Layers d_Works_init_31 34 rfl (fun h23 o22 hf => ?_)
  refine x_dup X rfl d_Works_init_34 35 rfl ?_
  refine x_aload_n X (q := 0) d_Works_init_35 rfl 36 rfl ?_
  refine x_getR X hf (ci := 10) (j := 2) rfl (by decide) rfl lf_Works_12 d_Works_init_36 39 rfl (fun o26 hf => ?_)
  obtain ⟨mc28, ms29, hk30, hn31, hf⟩ := hf
  refine x_callIv X (t_Layers_init hf) lm_Works_29 im_Layers_init rfl cd_Layers_init in_Layers ds_Layers_init rfl rfl (Nat.le_of_ble_eq_true rfl) (Nat.le_of_ble_eq_true rfl) (Nat.le_of_ble_eq_true rfl) hk30 hn31 d_Works_init_39 42 rfl (fun h27 hf => ?_)
  refine x_putF X hf (ci := 10) (j := 4) (ty := (.object "TwinJudge$Layers")) rfl (by decide) rfl lf_Works_30 rfl rfl rfl (by decide +kernel) rfl rfl d_Works_init_42 45 rfl (fun h32 hf => ?_)
  refine x_aload_n X (q := 0) d_Works_init_45 rfl 46 rfl ?_
  have hk35 := hf.1
  have hn36 := hf.2.1
  refine x_new X hf (ci := 2) rfl lc_Works_34 it_Likeness in_Likeness d_Works_init_46 49 rfl (fun h34 o33 hf => ?_)
  refine x_dup X rfl d_Works_init_49 50 rfl ?_
  obtain ⟨mc38, ms39, hk40, hn41, hf⟩ := hf
  refine x_callINv X (t_Likeness_init hf) lm_Works_36 im_Likeness_init rfl cd_Likeness_init in_Likeness ds_Likeness_init rfl rfl (Nat.le_of_ble_eq_true rfl) (Nat.le_of_ble_eq_true rfl) (Nat.le_of_ble_eq_true rfl) hk40 hn41 d_Works_init_50 53 rfl (fun h37 hf => ?_)
  refine x_putF X hf (ci := 10) (j := 5) (ty := (.object "TwinJudge$Likeness")) rfl (by decide) rfl lf_Works_37 rfl rfl rfl (by decide +kernel) rfl rfl d_Works_init_53 56 rfl (fun h42 hf => ?_)
  refine x_aload_n X (q := 0) d_Works_init_56 rfl 57 rfl ?_
  have hk45 := hf.1
  have hn46 := hf.2.1
  refine x_new X hf (ci := 3) rfl lc_Works_41 it_Overlay in_Overlay d_Works_init_57 60 rfl (fun h44 o43 hf => ?_)
  refine x_dup X rfl d_Works_init_60 61 rfl ?_
  obtain ⟨mc48, ms49, hk50, hn51, hf⟩ := hf
  refine x_callINv X (t_Overlay_init hf) lm_Works_43 im_Overlay_init rfl cd_Overlay_init in_Overlay ds_Overlay_init rfl rfl (Nat.le_of_ble_eq_true rfl) (Nat.le_of_ble_eq_true rfl) (Nat.le_of_ble_eq_true rfl) hk50 hn51 d_Works_init_61 64 rfl (fun h47 hf => ?_)
  refine x_putF X hf (ci := 10) (j := 6) (ty := (.object "TwinJudge$Overlay")) rfl (by decide) rfl lf_Works_44 rfl rfl rfl (by decide +kernel) rfl rfl d_Works_init_64 67 rfl (fun h52 hf => ?_)
  refine x_aload_n X (q := 0) d_Works_init_67 rfl 68 rfl ?_
  refine x_aload_n X (q := 1) d_Works_init_68 rfl 69 rfl ?_
  refine x_putF X hf (ci := 10) (j := 0) (ty := (.array (.object "TwinJudge$Circuit"))) rfl (by decide) rfl lf_Works_48 rfl rfl rfl (by decide +kernel) rfl rfl d_Works_init_69 72 rfl (fun h53 hf => ?_)
  refine x_aload_n X (q := 0) d_Works_init_72 rfl 73 rfl ?_
  have hk56 := hf.1
  have hn57 := hf.2.1
  refine x_new X hf (ci := 4) rfl lc_Works_52 it_Player in_Player d_Works_init_73 76 rfl (fun h55 o54 hf => ?_)
  refine x_dup X rfl d_Works_init_76 77 rfl ?_
  refine x_aload_n X (q := 1) d_Works_init_77 rfl 78 rfl ?_
  obtain ⟨mc59, ms60, hk61, hn62, hf⟩ := hf
  refine x_callIv X (t_Player_init hf) lm_Works_54 im_Player_init rfl cd_Player_init in_Player ds_Player_init rfl rfl (Nat.le_of_ble_eq_true rfl) (Nat.le_of_ble_eq_true rfl) (Nat.le_of_ble_eq_true rfl) hk61 hn62 d_Works_init_78 81 rfl (fun h58 hf => ?_)
  refine x_putF X hf (ci := 10) (j := 1) (ty := (.object "TwinJudge$Player")) rfl (by decide) rfl lf_Works_57 rfl rfl rfl (by decide +kernel) rfl rfl d_Works_init_81 84 rfl (fun h63 hf => ?_)
  exact hret _ _ _ _ _ none hk61 hn62 ⟨rfl, hf⟩ ⟨rfl, d_Works_init_84⟩

set_option maxRecDepth 100000 in
def wp_Judge_readyWorks_22 (z : Nat → Nat) (mc ms : Nat) (Q : Nat → xh → Prop)  (a0 : Nat) (hp : xh) (kk nn : Nat) : Prop :=
  ∃ o1, fR hp a0 11 4 = some o1 ∧ Q o1 hp
set_option maxRecDepth 100000 in
set_option maxHeartbeats 4000000 in
theorem t_Judge_readyWorks_22 {p : Program} {l : Launch} {e : Env} {s : State} {m : MethodId} {args : Array Value} {below : List Frame} {meth : Method} {c : Code} {G : xG} {z : Nat → Nat} {A : Nat → Prop} {Qw : State → Prop} {mc ms : Nat} {Q : Nat → xh → Prop} {a0 : Nat} {hp : xh} {kk nn : Nat} (X : xX p l e (rm_Judge_readyWorks mc ms) s m args below meth c G z A y_Judge_readyWorks b_Judge_readyWorks 1) (hret : xRet p l e (rm_Judge_readyWorks mc ms) s m args below meth c G A 1 Qw b_Judge_readyWorks (some (.object "TwinJudge$Works")) (xqr Q))  (hkk : kk ≤ mc) (hnn : nn ≤ ms) (hf : wp_Judge_readyWorks_22 z mc ms Q  a0 hp kk nn) : xE p l e (rm_Judge_readyWorks mc ms) s m args below meth c G A 1 Qw kk nn hp 22 [(0, .ref a0)] [] := by
  unfold wp_Judge_readyWorks_22 at hf
  refine x_aload_n X (q := 0) d_Judge_readyWorks_22 rfl 23 rfl ?_
  refine x_getR X hf (ci := 11) (j := 4) rfl (by decide) rfl lf_Judge_78 d_Judge_readyWorks_23 26 rfl (fun o1 hf => ?_)
  exact hret _ _ _ _ _ (some (.ref o1)) hkk hnn ⟨_, rfl, hf⟩ ⟨⟨_, rfl, Or.inl ⟨_, rfl⟩⟩, d_Judge_readyWorks_26⟩
set_option maxRecDepth 100000 in
def wp_Judge_readyWorks (z : Nat → Nat) (mc ms : Nat) (Q : Nat → xh → Prop) (a0 : Nat) (hp : xh) : Prop :=
  ∃ r1, fN hp a0 11 4 = some r1 ∧ ((r1 = none → (0 + 1 ≤ mc ∧ 0 + 11 ≤ ms ∧ ∀ o3, hp o3 = none → ∀ h4, h4 = xset hp o3 (.inr (10, xdef 10)) → ∃ o7, fR h4 a0 11 2 = some o7 ∧ (∃ mc9 ms10, (0 + 1) + mc9 ≤ mc ∧ (0 + 11) + ms10 ≤ ms ∧ wp_Works_init z mc9 ms10 (fun h8 => ∃ h13, pV h8 a0 11 4 (.ref o3) = some h13 ∧ (wp_Judge_readyWorks_22 z mc ms Q a0 h13 ((0 + 1) + mc9) ((0 + 11) + ms10))) o3 o7 h4))) ∧ (∀ r2, r1 = some r2 → wp_Judge_readyWorks_22 z mc ms Q a0 hp 0 0))
set_option maxRecDepth 100000 in
set_option maxHeartbeats 4000000 in
theorem t_Judge_readyWorks {l : Launch} {G : xG} {z : Nat → Nat} {mc ms : Nat} {Q : Nat → xh → Prop} {a0 : Nat} {hp : xh} (hf : wp_Judge_readyWorks z mc ms Q a0 hp) : xM l G z y_Judge_readyWorks b_Judge_readyWorks 1 (some (.object "TwinJudge$Works")) (rm_Judge_readyWorks mc ms) [.ref a0] hp (xqr Q) := by
  refine xM_of (by decide) (Nat.le_of_ble_eq_true rfl) (lv0 := [(0, .ref a0)]) rfl ?_
  intro p e s m args below meth c A Qw X hret
  unfold wp_Judge_readyWorks at hf
  refine x_aload_n X (q := 0) d_Judge_readyWorks_0 rfl 1 rfl ?_
  refine x_getQ X hf (ci := 11) (j := 4) rfl (by decide) rfl lf_Judge_78 d_Judge_readyWorks_1 4 rfl (fun r1 hf => ?_)
  refine x_ifnonnull X hf d_Judge_readyWorks_4 22 7 (by decide) rfl (fun r2 hf => ?_) (fun hf => ?_)
  · exact x_sub [0] rfl (t_Judge_readyWorks_22 X hret (Nat.zero_le _) (Nat.zero_le _) hf)
  · refine x_aload_n X (q := 0) d_Judge_readyWorks_7 rfl 8 rfl ?_
    have hk5 := hf.1
    have hn6 := hf.2.1
    refine x_new X hf (ci := 10) rfl lc_Judge_83 it_Works in_Works d_Judge_readyWorks_8 11 rfl (fun h4 o3 hf => ?_)
    refine x_dup X rfl d_Judge_readyWorks_11 12 rfl ?_
    refine x_aload_n X (q := 0) d_Judge_readyWorks_12 rfl 13 rfl ?_
    refine x_getR X hf (ci := 11) (j := 2) rfl (by decide) rfl lf_Judge_27 d_Judge_readyWorks_13 16 rfl (fun o7 hf => ?_)
    obtain ⟨mc9, ms10, hk11, hn12, hf⟩ := hf
    refine x_callIv X (t_Works_init hf) lm_Judge_200 im_Works_init rfl cd_Works_init in_Works ds_Works_init rfl rfl (Nat.le_of_ble_eq_true rfl) (Nat.le_of_ble_eq_true rfl) (Nat.le_of_ble_eq_true rfl) hk11 hn12 d_Judge_readyWorks_16 19 rfl (fun h8 hf => ?_)
    refine x_put X hf (ci := 11) (j := 4) (ty := (.object "TwinJudge$Works")) rfl (by decide) rfl lf_Judge_78 rfl (by decide +kernel) rfl rfl d_Judge_readyWorks_19 22 rfl (fun h13 hf => ?_)
    exact x_sub [0] rfl (t_Judge_readyWorks_22 X hret hk11 hn12 hf)

set_option maxRecDepth 100000 in
def wp_Overlay_signalOf (z : Nat → Nat) (Q : Int32 → xh → Prop) (a0 : Nat) (x1 : Int32) (hp : xh) : Prop :=
  ∃ o1, fR hp a0 3 2 = some o1 ∧ (∃ v2, aI hp o1 0 (x1 >>> ((1 : Int32) &&& 31)) = some v2 ∧ (Q (v2 ^^^ (x1 &&& 1)) hp))
set_option maxRecDepth 100000 in
set_option maxHeartbeats 4000000 in
theorem t_Overlay_signalOf {l : Launch} {G : xG} {z : Nat → Nat} {Q : Int32 → xh → Prop} {a0 : Nat} {x1 : Int32} {hp : xh} (hf : wp_Overlay_signalOf z Q a0 x1 hp) : xM l G z y_Overlay_signalOf b_Overlay_signalOf 2 (some .int) rm_Overlay_signalOf [.ref a0, .int x1] hp (xqi Q) := by
  refine xM_of (by decide) (Nat.le_of_ble_eq_true rfl) (lv0 := [(0, .ref a0), (1, .int x1)]) rfl ?_
  intro p e s m args below meth c A Qw X hret
  unfold wp_Overlay_signalOf at hf
  refine x_aload_n X (q := 0) d_Overlay_signalOf_0 rfl 1 rfl ?_
  refine x_getR X hf (ci := 3) (j := 2) rfl (by decide) rfl lf_Overlay_18 d_Overlay_signalOf_1 4 rfl (fun o1 hf => ?_)
  refine x_iload_n X (q := 1) d_Overlay_signalOf_4 rfl 5 rfl ?_
  refine x_iconst X (v := 1) d_Overlay_signalOf_5 (by decide) 6 rfl ?_
  refine x_ishr X d_Overlay_signalOf_6 7 rfl ?_
  refine x_iald X hf d_Overlay_signalOf_7 8 rfl (fun v2 hf => ?_)
  refine x_iload_n X (q := 1) d_Overlay_signalOf_8 rfl 9 rfl ?_
  refine x_iconst X (v := 1) d_Overlay_signalOf_9 (by decide) 10 rfl ?_
  refine x_iand X d_Overlay_signalOf_10 11 rfl ?_
  refine x_ixor X d_Overlay_signalOf_11 12 rfl ?_
  exact hret _ _ _ _ _ (some (.int (v2 ^^^ (x1 &&& 1)))) (Nat.le_refl 0) (Nat.le_refl 0) ⟨_, rfl, hf⟩ ⟨⟨_, rfl, rfl⟩, d_Overlay_signalOf_12⟩

set_option maxRecDepth 100000 in
def wp_Overlay_gateOf_68 (z : Nat → Nat) (Q : Int32 → xh → Prop)  (x3 : Int32) (hp : xh) : Prop :=
  Q (2 * (18 + x3)) hp
set_option maxRecDepth 100000 in
set_option maxHeartbeats 4000000 in
theorem t_Overlay_gateOf_68 {p : Program} {l : Launch} {e : Env} {s : State} {m : MethodId} {args : Array Value} {below : List Frame} {meth : Method} {c : Code} {G : xG} {z : Nat → Nat} {A : Nat → Prop} {Qw : State → Prop} {Q : Int32 → xh → Prop} {x3 : Int32} {hp : xh} (X : xX p l e rm_Overlay_gateOf s m args below meth c G z A y_Overlay_gateOf b_Overlay_gateOf 4) (hret : xRet p l e rm_Overlay_gateOf s m args below meth c G A 4 Qw b_Overlay_gateOf (some .int) (xqi Q))  (hf : wp_Overlay_gateOf_68 z Q  x3 hp) : xE p l e rm_Overlay_gateOf s m args below meth c G A 4 Qw 0 0 hp 68 [(3, .int x3)] [] := by
  unfold wp_Overlay_gateOf_68 at hf
  refine x_iconst X (v := 2) d_Overlay_gateOf_68 (by decide) 69 rfl ?_
  refine x_bipush X (v := 18) d_Overlay_gateOf_69 (by decide) 71 rfl ?_
  refine x_iload_n X (q := 0) d_Overlay_gateOf_71 rfl 72 rfl ?_
  refine x_iadd X d_Overlay_gateOf_72 73 rfl ?_
  refine x_imul X d_Overlay_gateOf_73 74 rfl ?_
  exact hret _ _ _ _ _ (some (.int (2 * (18 + x3)))) (Nat.le_refl 0) (Nat.le_refl 0) ⟨_, rfl, hf⟩ ⟨⟨_, rfl, rfl⟩, d_Overlay_gateOf_74⟩
set_option maxRecDepth 100000 in
def wp_Overlay_gateOf_36 (z : Nat → Nat) (Q : Int32 → xh → Prop)  (a0 : Nat) (x1 : Int32) (x2 : Int32) (x3 : Int32) (hp : xh) : Prop :=
  ∃ v1, fI hp a0 3 3 = some v1 ∧ ((¬ x3 = v1 → wp_Overlay_gateOf_68 z Q x3 hp) ∧ (x3 = v1 → (∃ o2, fR hp a0 3 0 = some o2 ∧ (∃ h3, sI hp o2 0 x3 x1 = some h3 ∧ (∃ o4, fR h3 a0 3 1 = some o4 ∧ (∃ h5, sI h3 o4 0 x3 x2 = some h5 ∧ (∃ v6, fI h5 a0 3 3 = some v6 ∧ (∃ h7, pV h5 a0 3 3 (.int (v6 + 1)) = some h7 ∧ wp_Overlay_gateOf_68 z Q x3 h7))))))))
set_option maxRecDepth 100000 in
set_option maxHeartbeats 4000000 in
theorem t_Overlay_gateOf_36 {p : Program} {l : Launch} {e : Env} {s : State} {m : MethodId} {args : Array Value} {below : List Frame} {meth : Method} {c : Code} {G : xG} {z : Nat → Nat} {A : Nat → Prop} {Qw : State → Prop} {Q : Int32 → xh → Prop} {a0 : Nat} {x1 : Int32} {x2 : Int32} {x3 : Int32} {hp : xh} (X : xX p l e rm_Overlay_gateOf s m args below meth c G z A y_Overlay_gateOf b_Overlay_gateOf 4) (hret : xRet p l e rm_Overlay_gateOf s m args below meth c G A 4 Qw b_Overlay_gateOf (some .int) (xqi Q))  (hf : wp_Overlay_gateOf_36 z Q  a0 x1 x2 x3 hp) : xE p l e rm_Overlay_gateOf s m args below meth c G A 4 Qw 0 0 hp 36 [(0, .ref a0), (1, .int x1), (2, .int x2), (3, .int x3)] [] := by
  unfold wp_Overlay_gateOf_36 at hf
  refine x_iload_n X (q := 3) d_Overlay_gateOf_36 rfl 37 rfl ?_
  refine x_aload_n X (q := 0) d_Overlay_gateOf_37 rfl 38 rfl ?_
  refine x_getI X hf (ci := 3) (j := 3) rfl (by decide) rfl lf_Overlay_21 d_Overlay_gateOf_38 41 rfl (fun v1 hf => ?_)
  refine x_icmp_ne X hf d_Overlay_gateOf_41 68 44 (by decide) rfl (fun hf => ?_) (fun hf => ?_)
  · exact x_sub [3] rfl (t_Overlay_gateOf_68 X hret hf)
  · refine x_aload_n X (q := 0) d_Overlay_gateOf_44 rfl 45 rfl ?_
    refine x_getR X hf (ci := 3) (j := 0) rfl (by decide) rfl lf_Overlay_11 d_Overlay_gateOf_45 48 rfl (fun o2 hf => ?_)
    refine x_iload_n X (q := 3) d_Overlay_gateOf_48 rfl 49 rfl ?_
    refine x_iload_n X (q := 1) d_Overlay_gateOf_49 rfl 50 rfl ?_
    refine x_iast X hf d_Overlay_gateOf_50 51 rfl (fun h3 hf => ?_)
    refine x_aload_n X (q := 0) d_Overlay_gateOf_51 rfl 52 rfl ?_
    refine x_getR X hf (ci := 3) (j := 1) rfl (by decide) rfl lf_Overlay_15 d_Overlay_gateOf_52 55 rfl (fun o4 hf => ?_)
    refine x_iload_n X (q := 3) d_Overlay_gateOf_55 rfl 56 rfl ?_
    refine x_iload_n X (q := 2) d_Overlay_gateOf_56 rfl 57 rfl ?_
    refine x_iast X hf d_Overlay_gateOf_57 58 rfl (fun h5 hf => ?_)
    refine x_aload_n X (q := 0) d_Overlay_gateOf_58 rfl 59 rfl ?_
    refine x_dup X rfl d_Overlay_gateOf_59 60 rfl ?_
    refine x_getI X hf (ci := 3) (j := 3) rfl (by decide) rfl lf_Overlay_21 d_Overlay_gateOf_60 63 rfl (fun v6 hf => ?_)
    refine x_iconst X (v := 1) d_Overlay_gateOf_63 (by decide) 64 rfl ?_
    refine x_iadd X d_Overlay_gateOf_64 65 rfl ?_
    refine x_put X hf (ci := 3) (j := 3) (ty := .int) rfl (by decide) rfl lf_Overlay_21 rfl (by decide +kernel) rfl rfl d_Overlay_gateOf_65 68 rfl (fun h7 hf => ?_)
    exact x_sub [3] rfl (t_Overlay_gateOf_68 X hret hf)
set_option maxRecDepth 100000 in
def wp_Overlay_gateOf_30 (z : Nat → Nat) (Q : Int32 → xh → Prop) (k2 : Nat × Int32 × Int32 × Int32 × xh → Prop) (a0 : Nat) (x1 : Int32) (x2 : Int32) (x3 : Int32) (hp : xh) : Prop :=
  k2 (a0, x1, x2, (x3 + 1), hp)
set_option maxRecDepth 100000 in
set_option maxHeartbeats 4000000 in
theorem t_Overlay_gateOf_30 {p : Program} {l : Launch} {e : Env} {s : State} {m : MethodId} {args : Array Value} {below : List Frame} {meth : Method} {c : Code} {G : xG} {z : Nat → Nat} {A : Nat → Prop} {Qw : State → Prop} {Q : Int32 → xh → Prop} {k2 : Nat × Int32 × Int32 × Int32 × xh → Prop} {a0 : Nat} {x1 : Int32} {x2 : Int32} {x3 : Int32} {hp : xh} (X : xX p l e rm_Overlay_gateOf s m args below meth c G z A y_Overlay_gateOf b_Overlay_gateOf 4) (hret : xRet p l e rm_Overlay_gateOf s m args below meth c G A 4 Qw b_Overlay_gateOf (some .int) (xqi Q)) (hk2 : ∀ (a0 : Nat) (x1 : Int32) (x2 : Int32) (x3 : Int32) (hp : xh), k2 (a0, x1, x2, x3, hp) → xE p l e rm_Overlay_gateOf s m args below meth c G A 4 Qw 0 0 hp 2 [(0, .ref a0), (1, .int x1), (2, .int x2), (3, .int x3)] []) (hf : wp_Overlay_gateOf_30 z Q k2 a0 x1 x2 x3 hp) : xE p l e rm_Overlay_gateOf s m args below meth c G A 4 Qw 0 0 hp 30 [(0, .ref a0), (1, .int x1), (2, .int x2), (3, .int x3)] [] := by
  unfold wp_Overlay_gateOf_30 at hf
  refine x_iinc X (q := 3) (v := (x3 + 1)) (lv' := [(3, .int (x3 + 1)), (0, .ref a0), (1, .int x1), (2, .int x2)]) d_Overlay_gateOf_30 rfl (by rfl) (by decide) rfl 33 rfl ?_
  refine x_goto X d_Overlay_gateOf_33 2 (by decide) ?_
  exact x_sub [1, 2, 3, 0] rfl (hk2 _ _ _ _ _ hf)
set_option maxRecDepth 100000 in
def wp_Overlay_gateOf_2_b (z : Nat → Nat) (Q : Int32 → xh → Prop)  (k2 : Nat × Int32 × Int32 × Int32 × xh → Prop) (a0 : Nat) (x1 : Int32) (x2 : Int32) (x3 : Int32) (hp : xh) : Prop :=
  ∃ v1, fI hp a0 3 3 = some v1 ∧ ((v1 ≤ x3 → wp_Overlay_gateOf_36 z Q a0 x1 x2 x3 hp) ∧ (¬ v1 ≤ x3 → (∃ o2, fR hp a0 3 0 = some o2 ∧ (∃ v3, aI hp o2 0 x3 = some v3 ∧ ((¬ v3 = x1 → wp_Overlay_gateOf_30 z Q k2 a0 x1 x2 x3 hp) ∧ (v3 = x1 → (∃ o4, fR hp a0 3 1 = some o4 ∧ (∃ v5, aI hp o4 0 x3 = some v5 ∧ ((v5 = x2 → wp_Overlay_gateOf_36 z Q a0 x1 x2 x3 hp) ∧ (¬ v5 = x2 → wp_Overlay_gateOf_30 z Q k2 a0 x1 x2 x3 hp))))))))))
set_option maxRecDepth 100000 in
def wp_Overlay_gateOf_2 (z : Nat → Nat) (Q : Int32 → xh → Prop)  (a0 : Nat) (x1 : Int32) (x2 : Int32) (x3 : Int32) (hp : xh) : Prop := ∃ f : Nat, xloop (fun k2 a => wp_Overlay_gateOf_2_b z Q  k2 a.1 a.2.1 a.2.2.1 a.2.2.2.1 a.2.2.2.2) f (a0, x1, x2, x3, hp)
set_option maxRecDepth 100000 in
set_option maxHeartbeats 4000000 in
theorem t_Overlay_gateOf_2 {p : Program} {l : Launch} {e : Env} {s : State} {m : MethodId} {args : Array Value} {below : List Frame} {meth : Method} {c : Code} {G : xG} {z : Nat → Nat} {A : Nat → Prop} {Qw : State → Prop} {Q : Int32 → xh → Prop} {a0 : Nat} {x1 : Int32} {x2 : Int32} {x3 : Int32} {hp : xh} (X : xX p l e rm_Overlay_gateOf s m args below meth c G z A y_Overlay_gateOf b_Overlay_gateOf 4) (hret : xRet p l e rm_Overlay_gateOf s m args below meth c G A 4 Qw b_Overlay_gateOf (some .int) (xqi Q))  (hf : wp_Overlay_gateOf_2 z Q  a0 x1 x2 x3 hp) : xE p l e rm_Overlay_gateOf s m args below meth c G A 4 Qw 0 0 hp 2 [(0, .ref a0), (1, .int x1), (2, .int x2), (3, .int x3)] [] := by
  obtain ⟨f, hf⟩ := hf
  refine xloop_ind (F := fun k2 a => wp_Overlay_gateOf_2_b z Q  k2 a.1 a.2.1 a.2.2.1 a.2.2.2.1 a.2.2.2.2) (E := fun a => xE p l e rm_Overlay_gateOf s m args below meth c G A 4 Qw 0 0 a.2.2.2.2 2 [(0, .ref (a.1)), (1, .int (a.2.1)), (2, .int (a.2.2.1)), (3, .int (a.2.2.2.1))] []) ?_ f (a0, x1, x2, x3, hp) hf
  intro k2 hk a hf
  obtain ⟨a0, x1, x2, x3, hp⟩ := a
  have hk2 : ∀ (a0 : Nat) (x1 : Int32) (x2 : Int32) (x3 : Int32) (hp : xh), k2 (a0, x1, x2, x3, hp) → xE p l e rm_Overlay_gateOf s m args below meth c G A 4 Qw 0 0 hp 2 [(0, .ref a0), (1, .int x1), (2, .int x2), (3, .int x3)] [] := fun a0 x1 x2 x3 hp h => hk (a0, x1, x2, x3, hp) h
  have hf : wp_Overlay_gateOf_2_b z Q  k2 a0 x1 x2 x3 hp := hf
  unfold wp_Overlay_gateOf_2_b at hf
  refine x_iload_n X (q := 3) d_Overlay_gateOf_2 rfl 3 rfl ?_
  refine x_aload_n X (q := 0) d_Overlay_gateOf_3 rfl 4 rfl ?_
  refine x_getI X hf (ci := 3) (j := 3) rfl (by decide) rfl lf_Overlay_21 d_Overlay_gateOf_4 7 rfl (fun v1 hf => ?_)
  refine x_icmp_ge X hf d_Overlay_gateOf_7 36 10 (by decide) rfl (fun hf => ?_) (fun hf => ?_)
  · exact x_sub [0, 1, 2, 3] rfl (t_Overlay_gateOf_36 X hret hf)
  · refine x_aload_n X (q := 0) d_Overlay_gateOf_10 rfl 11 rfl ?_
    refine x_getR X hf (ci := 3) (j := 0) rfl (by decide) rfl lf_Overlay_11 d_Overlay_gateOf_11 14 rfl (fun o2 hf => ?_)
    refine x_iload_n X (q := 3) d_Overlay_gateOf_14 rfl 15 rfl ?_
    refine x_iald X hf d_Overlay_gateOf_15 16 rfl (fun v3 hf => ?_)
    refine x_iload_n X (q := 1) d_Overlay_gateOf_16 rfl 17 rfl ?_
    refine x_icmp_ne X hf d_Overlay_gateOf_17 30 20 (by decide) rfl (fun hf => ?_) (fun hf => ?_)
    · exact x_sub [0, 1, 2, 3] rfl (t_Overlay_gateOf_30 X hret hk2 hf)
    · refine x_aload_n X (q := 0) d_Overlay_gateOf_20 rfl 21 rfl ?_
      refine x_getR X hf (ci := 3) (j := 1) rfl (by decide) rfl lf_Overlay_15 d_Overlay_gateOf_21 24 rfl (fun o4 hf => ?_)
      refine x_iload_n X (q := 3) d_Overlay_gateOf_24 rfl 25 rfl ?_
      refine x_iald X hf d_Overlay_gateOf_25 26 rfl (fun v5 hf => ?_)
      refine x_iload_n X (q := 2) d_Overlay_gateOf_26 rfl 27 rfl ?_
      refine x_icmp_eq X hf d_Overlay_gateOf_27 36 30 (by decide) rfl (fun hf => ?_) (fun hf => ?_)
      · exact x_sub [0, 1, 2, 3] rfl (t_Overlay_gateOf_36 X hret hf)
      · exact x_sub [0, 1, 2, 3] rfl (t_Overlay_gateOf_30 X hret hk2 hf)
set_option maxRecDepth 100000 in
def wp_Overlay_gateOf (z : Nat → Nat) (Q : Int32 → xh → Prop) (a0 : Nat) (x1 : Int32) (x2 : Int32) (hp : xh) : Prop :=
  wp_Overlay_gateOf_2 z Q a0 x1 x2 0 hp
set_option maxRecDepth 100000 in
set_option maxHeartbeats 4000000 in
theorem t_Overlay_gateOf {l : Launch} {G : xG} {z : Nat → Nat} {Q : Int32 → xh → Prop} {a0 : Nat} {x1 : Int32} {x2 : Int32} {hp : xh} (hf : wp_Overlay_gateOf z Q a0 x1 x2 hp) : xM l G z y_Overlay_gateOf b_Overlay_gateOf 4 (some .int) rm_Overlay_gateOf [.ref a0, .int x1, .int x2] hp (xqi Q) := by
  refine xM_of (by decide) (Nat.le_of_ble_eq_true rfl) (lv0 := [(0, .ref a0), (1, .int x1), (2, .int x2)]) rfl ?_
  intro p e s m args below meth c A Qw X hret
  unfold wp_Overlay_gateOf at hf
  refine x_iconst X (v := 0) d_Overlay_gateOf_0 (by decide) 1 rfl ?_
  refine x_istore_n X (lv' := [(3, .int 0), (0, .ref a0), (1, .int x1), (2, .int x2)]) d_Overlay_gateOf_1 rfl (by decide) rfl 2 rfl ?_
  exact x_sub [1, 2, 3, 0] rfl (t_Overlay_gateOf_2 X hret hf)

set_option maxRecDepth 100000 in
def wp_Overlay_join_27 (z : Nat → Nat) (Q : Int32 → xh → Prop)  (x2 : Int32) (hp : xh) : Prop :=
  Q x2 hp
set_option maxRecDepth 100000 in
set_option maxHeartbeats 4000000 in
theorem t_Overlay_join_27 {p : Program} {l : Launch} {e : Env} {s : State} {m : MethodId} {args : Array Value} {below : List Frame} {meth : Method} {c : Code} {G : xG} {z : Nat → Nat} {A : Nat → Prop} {Qw : State → Prop} {Q : Int32 → xh → Prop} {x2 : Int32} {hp : xh} (X : xX p l e rm_Overlay_join s m args below meth c G z A y_Overlay_join b_Overlay_join 3) (hret : xRet p l e rm_Overlay_join s m args below meth c G A 3 Qw b_Overlay_join (some .int) (xqi Q))  (hf : wp_Overlay_join_27 z Q  x2 hp) : xE p l e rm_Overlay_join s m args below meth c G A 3 Qw 0 0 hp 27 [(2, .int x2)] [] := by
  unfold wp_Overlay_join_27 at hf
  refine x_iload_n X (q := 0) d_Overlay_join_27 rfl 28 rfl ?_
  exact hret _ _ _ _ _ (some (.int x2)) (Nat.le_refl 0) (Nat.le_refl 0) ⟨_, rfl, hf⟩ ⟨⟨_, rfl, rfl⟩, d_Overlay_join_28⟩
set_option maxRecDepth 100000 in
def wp_Overlay_join (z : Nat → Nat) (Q : Int32 → xh → Prop) (a0 : Nat) (x1 : Int32) (x2 : Int32) (hp : xh) : Prop :=
  (x1 = 0 → Q 0 hp) ∧ (¬ x1 = 0 → ((x2 = 0 → Q 0 hp) ∧ (¬ x2 = 0 → ((¬ x1 = (x2 ^^^ 1) → ((x1 = 1 → wp_Overlay_join_27 z Q x2 hp) ∧ (¬ x1 = 1 → ((¬ x1 = x2 → ((¬ x2 = 1 → (xcls hp a0 3 ∧ wp_Overlay_gateOf z (fun v2 h1 => Q v2 h1) a0 (if x2 < x1 then x2 else x1) (if x1 < x2 then x2 else x1) hp)) ∧ (x2 = 1 → Q x1 hp))) ∧ (x1 = x2 → wp_Overlay_join_27 z Q x2 hp))))) ∧ (x1 = (x2 ^^^ 1) → Q 0 hp)))))
set_option maxRecDepth 100000 in
set_option maxHeartbeats 4000000 in
theorem t_Overlay_join {l : Launch} {G : xG} {z : Nat → Nat} {Q : Int32 → xh → Prop} {a0 : Nat} {x1 : Int32} {x2 : Int32} {hp : xh} (hf : wp_Overlay_join z Q a0 x1 x2 hp) : xM l G z y_Overlay_join b_Overlay_join 3 (some .int) rm_Overlay_join [.ref a0, .int x1, .int x2] hp (xqi Q) := by
  refine xM_of (by decide) (Nat.le_of_ble_eq_true rfl) (lv0 := [(0, .ref a0), (1, .int x1), (2, .int x2)]) rfl ?_
  intro p e s m args below meth c A Qw X hret
  unfold wp_Overlay_join at hf
  refine x_iload_n X (q := 1) d_Overlay_join_0 rfl 1 rfl ?_
  refine x_if_eq X hf d_Overlay_join_1 15 4 (by decide) rfl (fun hf => ?_) (fun hf => ?_)
  · refine x_iconst X (v := 0) d_Overlay_join_15 (by decide) 16 rfl ?_
    exact hret _ _ _ _ _ (some (.int 0)) (Nat.le_refl 0) (Nat.le_refl 0) ⟨_, rfl, hf⟩ ⟨⟨_, rfl, rfl⟩, d_Overlay_join_16⟩
  · refine x_iload_n X (q := 2) d_Overlay_join_4 rfl 5 rfl ?_
    refine x_if_eq X hf d_Overlay_join_5 15 8 (by decide) rfl (fun hf => ?_) (fun hf => ?_)
    · refine x_iconst X (v := 0) d_Overlay_join_15 (by decide) 16 rfl ?_
      exact hret _ _ _ _ _ (some (.int 0)) (Nat.le_refl 0) (Nat.le_refl 0) ⟨_, rfl, hf⟩ ⟨⟨_, rfl, rfl⟩, d_Overlay_join_16⟩
    · refine x_iload_n X (q := 1) d_Overlay_join_8 rfl 9 rfl ?_
      refine x_iload_n X (q := 2) d_Overlay_join_9 rfl 10 rfl ?_
      refine x_iconst X (v := 1) d_Overlay_join_10 (by decide) 11 rfl ?_
      refine x_ixor X d_Overlay_join_11 12 rfl ?_
      refine x_icmp_ne X hf d_Overlay_join_12 17 15 (by decide) rfl (fun hf => ?_) (fun hf => ?_)
      · refine x_iload_n X (q := 1) d_Overlay_join_17 rfl 18 rfl ?_
        refine x_iconst X (v := 1) d_Overlay_join_18 (by decide) 19 rfl ?_
        refine x_icmp_eq X hf d_Overlay_join_19 27 22 (by decide) rfl (fun hf => ?_) (fun hf => ?_)
        · exact x_sub [2] rfl (t_Overlay_join_27 X hret hf)
        · refine x_iload_n X (q := 1) d_Overlay_join_22 rfl 23 rfl ?_
          refine x_iload_n X (q := 2) d_Overlay_join_23 rfl 24 rfl ?_
          refine x_icmp_ne X hf d_Overlay_join_24 29 27 (by decide) rfl (fun hf => ?_) (fun hf => ?_)
          · refine x_iload_n X (q := 2) d_Overlay_join_29 rfl 30 rfl ?_
            refine x_iconst X (v := 1) d_Overlay_join_30 (by decide) 31 rfl ?_
            refine x_icmp_ne X hf d_Overlay_join_31 38 34 (by decide) rfl (fun hf => ?_) (fun hf => ?_)
            · refine x_aload_n X (q := 0) d_Overlay_join_38 rfl 39 rfl ?_
              refine x_iload_n X (q := 1) d_Overlay_join_39 rfl 40 rfl ?_
              refine x_iload_n X (q := 2) d_Overlay_join_40 rfl 41 rfl ?_
              refine x_mmin X lm_Overlay_63 (Nat.le_of_ble_eq_true rfl) (Nat.le_of_ble_eq_true rfl) (Nat.le_refl 0) (Nat.le_refl 0) d_Overlay_join_41 44 rfl ?_
              refine x_iload_n X (q := 1) d_Overlay_join_44 rfl 45 rfl ?_
              refine x_iload_n X (q := 2) d_Overlay_join_45 rfl 46 rfl ?_
              refine x_mmax X lm_Overlay_68 (Nat.le_of_ble_eq_true rfl) (Nat.le_of_ble_eq_true rfl) (Nat.le_refl 0) (Nat.le_refl 0) d_Overlay_join_46 49 rfl ?_
              refine x_callV0i X (t_Overlay_gateOf hf.2) hf.1 (ci := 3) rfl rfl lm_Overlay_71 im_Overlay_gateOf sl_Overlay_gateOf cd_Overlay_gateOf in_Overlay ds_Overlay_gateOf rfl rfl (Nat.le_of_ble_eq_true rfl) (Nat.le_of_ble_eq_true rfl) (Nat.le_of_ble_eq_true rfl) rfl rfl (Nat.le_refl 0) (Nat.le_refl 0) d_Overlay_join_49 52 rfl (fun v2 h1 hf => ?_)
              exact hret _ _ _ _ _ (some (.int v2)) (Nat.le_refl 0) (Nat.le_refl 0) ⟨_, rfl, hf⟩ ⟨⟨_, rfl, rfl⟩, d_Overlay_join_52⟩
            · refine x_iload_n X (q := 1) d_Overlay_join_34 rfl 35 rfl ?_
              refine x_goto X d_Overlay_join_35 52 (by decide) ?_
              exact hret _ _ _ _ _ (some (.int x1)) (Nat.le_refl 0) (Nat.le_refl 0) ⟨_, rfl, hf⟩ ⟨⟨_, rfl, rfl⟩, d_Overlay_join_52⟩
          · exact x_sub [2] rfl (t_Overlay_join_27 X hret hf)
      · refine x_iconst X (v := 0) d_Overlay_join_15 (by decide) 16 rfl ?_
        exact hret _ _ _ _ _ (some (.int 0)) (Nat.le_refl 0) (Nat.le_refl 0) ⟨_, rfl, hf⟩ ⟨⟨_, rfl, rfl⟩, d_Overlay_join_16⟩

set_option maxRecDepth 100000 in
def wp_Overlay_layOver_73_b (z : Nat → Nat) (Q : xh → Prop)  (k73 : Nat × Nat × Int32 × xh → Prop) (a0 : Nat) (a1 : Nat) (x3 : Int32) (hp : xh) : Prop :=
  ∃ v1, fI hp a1 0 5 = some v1 ∧ ((v1 ≤ x3 → Q hp) ∧ (¬ v1 ≤ x3 → (∃ o2, fR hp a1 0 13 = some o2 ∧ (∃ v3, aI hp o2 0 x3 = some v3 ∧ (∃ o4, fR hp a0 3 2 = some o4 ∧ (∃ o5, fR hp a1 0 7 = some o5 ∧ (∃ v6, aI hp o5 0 v3 = some v6 ∧ (xcls hp a0 3 ∧ wp_Overlay_signalOf z (fun v8 h7 => ∃ o9, fR h7 a1 0 8 = some o9 ∧ (∃ v10, aI h7 o9 0 v3 = some v10 ∧ (xcls h7 a0 3 ∧ wp_Overlay_signalOf z (fun v12 h11 => xcls h11 a0 3 ∧ wp_Overlay_join z (fun v14 h13 => ∃ h15, sI h13 o4 0 v3 v14 = some h15 ∧ (k73 (a0, a1, (x3 + 1), h15))) a0 v8 v12 h11) a0 v10 h7))) a0 v6 hp))))))))
set_option maxRecDepth 100000 in
def wp_Overlay_layOver_73 (z : Nat → Nat) (Q : xh → Prop)  (a0 : Nat) (a1 : Nat) (x3 : Int32) (hp : xh) : Prop := ∃ f : Nat, xloop (fun k73 a => wp_Overlay_layOver_73_b z Q  k73 a.1 a.2.1 a.2.2.1 a.2.2.2) f (a0, a1, x3, hp)
set_option maxRecDepth 100000 in
set_option maxHeartbeats 4000000 in
theorem t_Overlay_layOver_73 {p : Program} {l : Launch} {e : Env} {s : State} {m : MethodId} {args : Array Value} {below : List Frame} {meth : Method} {c : Code} {G : xG} {z : Nat → Nat} {A : Nat → Prop} {Qw : State → Prop} {Q : xh → Prop} {a0 : Nat} {a1 : Nat} {x3 : Int32} {hp : xh} (X : xX p l e rm_Overlay_layOver s m args below meth c G z A y_Overlay_layOver b_Overlay_layOver 5) (hret : xRet p l e rm_Overlay_layOver s m args below meth c G A 5 Qw b_Overlay_layOver none (xqv Q))  (hf : wp_Overlay_layOver_73 z Q  a0 a1 x3 hp) : xE p l e rm_Overlay_layOver s m args below meth c G A 5 Qw 0 0 hp 73 [(0, .ref a0), (1, .ref a1), (3, .int x3)] [] := by
  obtain ⟨f, hf⟩ := hf
  refine xloop_ind (F := fun k73 a => wp_Overlay_layOver_73_b z Q  k73 a.1 a.2.1 a.2.2.1 a.2.2.2) (E := fun a => xE p l e rm_Overlay_layOver s m args below meth c G A 5 Qw 0 0 a.2.2.2 73 [(0, .ref (a.1)), (1, .ref (a.2.1)), (3, .int (a.2.2.1))] []) ?_ f (a0, a1, x3, hp) hf
  intro k73 hk a hf
  obtain ⟨a0, a1, x3, hp⟩ := a
  have hk73 : ∀ (a0 : Nat) (a1 : Nat) (x3 : Int32) (hp : xh), k73 (a0, a1, x3, hp) → xE p l e rm_Overlay_layOver s m args below meth c G A 5 Qw 0 0 hp 73 [(0, .ref a0), (1, .ref a1), (3, .int x3)] [] := fun a0 a1 x3 hp h => hk (a0, a1, x3, hp) h
  have hf : wp_Overlay_layOver_73_b z Q  k73 a0 a1 x3 hp := hf
  unfold wp_Overlay_layOver_73_b at hf
  refine x_iload_n X (q := 2) d_Overlay_layOver_73 rfl 74 rfl ?_
  refine x_aload_n X (q := 1) d_Overlay_layOver_74 rfl 75 rfl ?_
  refine x_getI X hf (ci := 0) (j := 5) rfl (by decide) rfl lf_Overlay_43 d_Overlay_layOver_75 78 rfl (fun v1 hf => ?_)
  refine x_icmp_ge X hf d_Overlay_layOver_78 128 81 (by decide) rfl (fun hf => ?_) (fun hf => ?_)
  · exact hret _ _ _ _ _ none (Nat.le_refl 0) (Nat.le_refl 0) ⟨rfl, hf⟩ ⟨rfl, d_Overlay_layOver_128⟩
  · refine x_aload_n X (q := 1) d_Overlay_layOver_81 rfl 82 rfl ?_
    refine x_getR X hf (ci := 0) (j := 13) rfl (by decide) rfl lf_Overlay_46 d_Overlay_layOver_82 85 rfl (fun o2 hf => ?_)
    refine x_iload_n X (q := 2) d_Overlay_layOver_85 rfl 86 rfl ?_
    refine x_iald X hf d_Overlay_layOver_86 87 rfl (fun v3 hf => ?_)
    refine x_istore X (lv' := [(4, .int v3), (0, .ref a0), (1, .ref a1), (3, .int x3)]) d_Overlay_layOver_87 (by decide) rfl 89 rfl ?_
    refine x_aload_n X (q := 1) d_Overlay_layOver_89 rfl 90 rfl ?_
    refine x_getR X hf (ci := 3) (j := 2) rfl (by decide) rfl lf_Overlay_18 d_Overlay_layOver_90 93 rfl (fun o4 hf => ?_)
    refine x_iload X (q := 0) d_Overlay_layOver_93 rfl 95 rfl ?_
    refine x_aload_n X (q := 1) d_Overlay_layOver_95 rfl 96 rfl ?_
    refine x_aload_n X (q := 1) d_Overlay_layOver_96 rfl 97 rfl ?_
    refine x_aload_n X (q := 2) d_Overlay_layOver_97 rfl 98 rfl ?_
    refine x_getR X hf (ci := 0) (j := 7) rfl (by decide) rfl lf_Overlay_49 d_Overlay_layOver_98 101 rfl (fun o5 hf => ?_)
    refine x_iload X (q := 0) d_Overlay_layOver_101 rfl 103 rfl ?_
    refine x_iald X hf d_Overlay_layOver_103 104 rfl (fun v6 hf => ?_)
    refine x_callV0i X (t_Overlay_signalOf hf.2) hf.1 (ci := 3) rfl rfl lm_Overlay_52 im_Overlay_signalOf sl_Overlay_signalOf cd_Overlay_signalOf in_Overlay ds_Overlay_signalOf rfl rfl (Nat.le_of_ble_eq_true rfl) (Nat.le_of_ble_eq_true rfl) (Nat.le_of_ble_eq_true rfl) rfl rfl (Nat.le_refl 0) (Nat.le_refl 0) d_Overlay_layOver_104 107 rfl (fun v8 h7 hf => ?_)
    refine x_aload_n X (q := 1) d_Overlay_layOver_107 rfl 108 rfl ?_
    refine x_aload_n X (q := 2) d_Overlay_layOver_108 rfl 109 rfl ?_
    refine x_getR X hf (ci := 0) (j := 8) rfl (by decide) rfl lf_Overlay_56 d_Overlay_layOver_109 112 rfl (fun o9 hf => ?_)
    refine x_iload X (q := 0) d_Overlay_layOver_112 rfl 114 rfl ?_
    refine x_iald X hf d_Overlay_layOver_114 115 rfl (fun v10 hf => ?_)
    refine x_callV0i X (t_Overlay_signalOf hf.2) hf.1 (ci := 3) rfl rfl lm_Overlay_52 im_Overlay_signalOf sl_Overlay_signalOf cd_Overlay_signalOf in_Overlay ds_Overlay_signalOf rfl rfl (Nat.le_of_ble_eq_true rfl) (Nat.le_of_ble_eq_true rfl) (Nat.le_of_ble_eq_true rfl) rfl rfl (Nat.le_refl 0) (Nat.le_refl 0) d_Overlay_layOver_115 118 rfl (fun v12 h11 hf => ?_)
    refine x_callV0i X (t_Overlay_join hf.2) hf.1 (ci := 3) rfl rfl lm_Overlay_59 im_Overlay_join sl_Overlay_join cd_Overlay_join in_Overlay ds_Overlay_join rfl rfl (Nat.le_of_ble_eq_true rfl) (Nat.le_of_ble_eq_true rfl) (Nat.le_of_ble_eq_true rfl) rfl rfl (Nat.le_refl 0) (Nat.le_refl 0) d_Overlay_layOver_118 121 rfl (fun v14 h13 hf => ?_)
    refine x_iast X hf d_Overlay_layOver_121 122 rfl (fun h15 hf => ?_)
    refine x_iinc X (q := 3) (v := (x3 + 1)) (lv' := [(3, .int (x3 + 1)), (4, .int v3), (0, .ref a0), (1, .ref a1)]) d_Overlay_layOver_122 rfl (by rfl) (by decide) rfl 125 rfl ?_
    refine x_goto X d_Overlay_layOver_125 73 (by decide) ?_
    exact x_sub [2, 3, 0] rfl (hk73 _ _ _ _ hf)
set_option maxRecDepth 100000 in
def wp_Overlay_layOver_41_b (z : Nat → Nat) (Q : xh → Prop)  (k41 : Nat × Nat × Int32 × Int32 × xh → Prop) (a0 : Nat) (a1 : Nat) (x2 : Int32) (x3 : Int32) (hp : xh) : Prop :=
  ∃ v1, fI hp a1 0 3 = some v1 ∧ ((v1 ≤ x3 → wp_Overlay_layOver_73 z Q a0 a1 0 hp) ∧ (¬ v1 ≤ x3 → (∃ o2, fR hp a0 3 2 = some o2 ∧ (∃ o3, fR hp a1 0 10 = some o3 ∧ (∃ v4, aI hp o3 0 x3 = some v4 ∧ (∃ h5, sI hp o2 0 v4 (2 * (x2 + x3)) = some h5 ∧ (k41 (a0, a1, x2, (x3 + 1), h5))))))))
set_option maxRecDepth 100000 in
def wp_Overlay_layOver_41 (z : Nat → Nat) (Q : xh → Prop)  (a0 : Nat) (a1 : Nat) (x2 : Int32) (x3 : Int32) (hp : xh) : Prop := ∃ f : Nat, xloop (fun k41 a => wp_Overlay_layOver_41_b z Q  k41 a.1 a.2.1 a.2.2.1 a.2.2.2.1 a.2.2.2.2) f (a0, a1, x2, x3, hp)
set_option maxRecDepth 100000 in
set_option maxHeartbeats 4000000 in
theorem t_Overlay_layOver_41 {p : Program} {l : Launch} {e : Env} {s : State} {m : MethodId} {args : Array Value} {below : List Frame} {meth : Method} {c : Code} {G : xG} {z : Nat → Nat} {A : Nat → Prop} {Qw : State → Prop} {Q : xh → Prop} {a0 : Nat} {a1 : Nat} {x2 : Int32} {x3 : Int32} {hp : xh} (X : xX p l e rm_Overlay_layOver s m args below meth c G z A y_Overlay_layOver b_Overlay_layOver 5) (hret : xRet p l e rm_Overlay_layOver s m args below meth c G A 5 Qw b_Overlay_layOver none (xqv Q))  (hf : wp_Overlay_layOver_41 z Q  a0 a1 x2 x3 hp) : xE p l e rm_Overlay_layOver s m args below meth c G A 5 Qw 0 0 hp 41 [(0, .ref a0), (1, .ref a1), (2, .int x2), (3, .int x3)] [] := by
  obtain ⟨f, hf⟩ := hf
  refine xloop_ind (F := fun k41 a => wp_Overlay_layOver_41_b z Q  k41 a.1 a.2.1 a.2.2.1 a.2.2.2.1 a.2.2.2.2) (E := fun a => xE p l e rm_Overlay_layOver s m args below meth c G A 5 Qw 0 0 a.2.2.2.2 41 [(0, .ref (a.1)), (1, .ref (a.2.1)), (2, .int (a.2.2.1)), (3, .int (a.2.2.2.1))] []) ?_ f (a0, a1, x2, x3, hp) hf
  intro k41 hk a hf
  obtain ⟨a0, a1, x2, x3, hp⟩ := a
  have hk41 : ∀ (a0 : Nat) (a1 : Nat) (x2 : Int32) (x3 : Int32) (hp : xh), k41 (a0, a1, x2, x3, hp) → xE p l e rm_Overlay_layOver s m args below meth c G A 5 Qw 0 0 hp 41 [(0, .ref a0), (1, .ref a1), (2, .int x2), (3, .int x3)] [] := fun a0 a1 x2 x3 hp h => hk (a0, a1, x2, x3, hp) h
  have hf : wp_Overlay_layOver_41_b z Q  k41 a0 a1 x2 x3 hp := hf
  unfold wp_Overlay_layOver_41_b at hf
  refine x_iload_n X (q := 3) d_Overlay_layOver_41 rfl 42 rfl ?_
  refine x_aload_n X (q := 1) d_Overlay_layOver_42 rfl 43 rfl ?_
  refine x_getI X hf (ci := 0) (j := 3) rfl (by decide) rfl lf_Overlay_37 d_Overlay_layOver_43 46 rfl (fun v1 hf => ?_)
  refine x_icmp_ge X hf d_Overlay_layOver_46 71 49 (by decide) rfl (fun hf => ?_) (fun hf => ?_)
  · refine x_iconst X (v := 0) d_Overlay_layOver_71 (by decide) 72 rfl ?_
    refine x_istore_n X (lv' := [(3, .int 0), (0, .ref a0), (1, .ref a1), (2, .int x2)]) d_Overlay_layOver_72 rfl (by decide) rfl 73 rfl ?_
    exact x_sub [1, 2, 0] rfl (t_Overlay_layOver_73 X hret hf)
  · refine x_aload_n X (q := 0) d_Overlay_layOver_49 rfl 50 rfl ?_
    refine x_getR X hf (ci := 3) (j := 2) rfl (by decide) rfl lf_Overlay_18 d_Overlay_layOver_50 53 rfl (fun o2 hf => ?_)
    refine x_aload_n X (q := 1) d_Overlay_layOver_53 rfl 54 rfl ?_
    refine x_getR X hf (ci := 0) (j := 10) rfl (by decide) rfl lf_Overlay_40 d_Overlay_layOver_54 57 rfl (fun o3 hf => ?_)
    refine x_iload_n X (q := 3) d_Overlay_layOver_57 rfl 58 rfl ?_
    refine x_iald X hf d_Overlay_layOver_58 59 rfl (fun v4 hf => ?_)
    refine x_iconst X (v := 2) d_Overlay_layOver_59 (by decide) 60 rfl ?_
    refine x_iload_n X (q := 2) d_Overlay_layOver_60 rfl 61 rfl ?_
    refine x_iload_n X (q := 3) d_Overlay_layOver_61 rfl 62 rfl ?_
    refine x_iadd X d_Overlay_layOver_62 63 rfl ?_
    refine x_imul X d_Overlay_layOver_63 64 rfl ?_
    refine x_iast X hf d_Overlay_layOver_64 65 rfl (fun h5 hf => ?_)
    refine x_iinc X (q := 3) (v := (x3 + 1)) (lv' := [(3, .int (x3 + 1)), (0, .ref a0), (1, .ref a1), (2, .int x2)]) d_Overlay_layOver_65 rfl (by rfl) (by decide) rfl 68 rfl ?_
    refine x_goto X d_Overlay_layOver_68 41 (by decide) ?_
    exact x_sub [1, 2, 3, 0] rfl (hk41 _ _ _ _ _ hf)
set_option maxRecDepth 100000 in
def wp_Overlay_layOver_9_b (z : Nat → Nat) (Q : xh → Prop)  (k9 : Nat × Nat × Int32 × Int32 × xh → Prop) (a0 : Nat) (a1 : Nat) (x2 : Int32) (x3 : Int32) (hp : xh) : Prop :=
  ∃ v1, fI hp a1 0 2 = some v1 ∧ ((v1 ≤ x3 → wp_Overlay_layOver_41 z Q a0 a1 x2 0 hp) ∧ (¬ v1 ≤ x3 → (∃ o2, fR hp a0 3 2 = some o2 ∧ (∃ o3, fR hp a1 0 9 = some o3 ∧ (∃ v4, aI hp o3 0 x3 = some v4 ∧ (∃ h5, sI hp o2 0 v4 (2 * (1 + x3)) = some h5 ∧ (k9 (a0, a1, x2, (x3 + 1), h5))))))))
set_option maxRecDepth 100000 in
def wp_Overlay_layOver_9 (z : Nat → Nat) (Q : xh → Prop)  (a0 : Nat) (a1 : Nat) (x2 : Int32) (x3 : Int32) (hp : xh) : Prop := ∃ f : Nat, xloop (fun k9 a => wp_Overlay_layOver_9_b z Q  k9 a.1 a.2.1 a.2.2.1 a.2.2.2.1 a.2.2.2.2) f (a0, a1, x2, x3, hp)
set_option maxRecDepth 100000 in
set_option maxHeartbeats 4000000 in
theorem t_Overlay_layOver_9 {p : Program} {l : Launch} {e : Env} {s : State} {m : MethodId} {args : Array Value} {below : List Frame} {meth : Method} {c : Code} {G : xG} {z : Nat → Nat} {A : Nat → Prop} {Qw : State → Prop} {Q : xh → Prop} {a0 : Nat} {a1 : Nat} {x2 : Int32} {x3 : Int32} {hp : xh} (X : xX p l e rm_Overlay_layOver s m args below meth c G z A y_Overlay_layOver b_Overlay_layOver 5) (hret : xRet p l e rm_Overlay_layOver s m args below meth c G A 5 Qw b_Overlay_layOver none (xqv Q))  (hf : wp_Overlay_layOver_9 z Q  a0 a1 x2 x3 hp) : xE p l e rm_Overlay_layOver s m args below meth c G A 5 Qw 0 0 hp 9 [(0, .ref a0), (1, .ref a1), (2, .int x2), (3, .int x3)] [] := by
  obtain ⟨f, hf⟩ := hf
  refine xloop_ind (F := fun k9 a => wp_Overlay_layOver_9_b z Q  k9 a.1 a.2.1 a.2.2.1 a.2.2.2.1 a.2.2.2.2) (E := fun a => xE p l e rm_Overlay_layOver s m args below meth c G A 5 Qw 0 0 a.2.2.2.2 9 [(0, .ref (a.1)), (1, .ref (a.2.1)), (2, .int (a.2.2.1)), (3, .int (a.2.2.2.1))] []) ?_ f (a0, a1, x2, x3, hp) hf
  intro k9 hk a hf
  obtain ⟨a0, a1, x2, x3, hp⟩ := a
  have hk9 : ∀ (a0 : Nat) (a1 : Nat) (x2 : Int32) (x3 : Int32) (hp : xh), k9 (a0, a1, x2, x3, hp) → xE p l e rm_Overlay_layOver s m args below meth c G A 5 Qw 0 0 hp 9 [(0, .ref a0), (1, .ref a1), (2, .int x2), (3, .int x3)] [] := fun a0 a1 x2 x3 hp h => hk (a0, a1, x2, x3, hp) h
  have hf : wp_Overlay_layOver_9_b z Q  k9 a0 a1 x2 x3 hp := hf
  unfold wp_Overlay_layOver_9_b at hf
  refine x_iload_n X (q := 3) d_Overlay_layOver_9 rfl 10 rfl ?_
  refine x_aload_n X (q := 1) d_Overlay_layOver_10 rfl 11 rfl ?_
  refine x_getI X hf (ci := 0) (j := 2) rfl (by decide) rfl lf_Overlay_29 d_Overlay_layOver_11 14 rfl (fun v1 hf => ?_)
  refine x_icmp_ge X hf d_Overlay_layOver_14 39 17 (by decide) rfl (fun hf => ?_) (fun hf => ?_)
  · refine x_iconst X (v := 0) d_Overlay_layOver_39 (by decide) 40 rfl ?_
    refine x_istore_n X (lv' := [(3, .int 0), (0, .ref a0), (1, .ref a1), (2, .int x2)]) d_Overlay_layOver_40 rfl (by decide) rfl 41 rfl ?_
    exact x_sub [1, 2, 3, 0] rfl (t_Overlay_layOver_41 X hret hf)
  · refine x_aload_n X (q := 0) d_Overlay_layOver_17 rfl 18 rfl ?_
    refine x_getR X hf (ci := 3) (j := 2) rfl (by decide) rfl lf_Overlay_18 d_Overlay_layOver_18 21 rfl (fun o2 hf => ?_)
    refine x_aload_n X (q := 1) d_Overlay_layOver_21 rfl 22 rfl ?_
    refine x_getR X hf (ci := 0) (j := 9) rfl (by decide) rfl lf_Overlay_34 d_Overlay_layOver_22 25 rfl (fun o3 hf => ?_)
    refine x_iload_n X (q := 3) d_Overlay_layOver_25 rfl 26 rfl ?_
    refine x_iald X hf d_Overlay_layOver_26 27 rfl (fun v4 hf => ?_)
    refine x_iconst X (v := 2) d_Overlay_layOver_27 (by decide) 28 rfl ?_
    refine x_iconst X (v := 1) d_Overlay_layOver_28 (by decide) 29 rfl ?_
    refine x_iload_n X (q := 3) d_Overlay_layOver_29 rfl 30 rfl ?_
    refine x_iadd X d_Overlay_layOver_30 31 rfl ?_
    refine x_imul X d_Overlay_layOver_31 32 rfl ?_
    refine x_iast X hf d_Overlay_layOver_32 33 rfl (fun h5 hf => ?_)
    refine x_iinc X (q := 3) (v := (x3 + 1)) (lv' := [(3, .int (x3 + 1)), (0, .ref a0), (1, .ref a1), (2, .int x2)]) d_Overlay_layOver_33 rfl (by rfl) (by decide) rfl 36 rfl ?_
    refine x_goto X d_Overlay_layOver_36 9 (by decide) ?_
    exact x_sub [1, 2, 3, 0] rfl (hk9 _ _ _ _ _ hf)
set_option maxRecDepth 100000 in
def wp_Overlay_layOver (z : Nat → Nat) (Q : xh → Prop) (a0 : Nat) (a1 : Nat) (x2 : Int32) (hp : xh) : Prop :=
  ∃ o1, fR hp a0 3 2 = some o1 ∧ (∃ h2, sI hp o1 0 0 0 = some h2 ∧ wp_Overlay_layOver_9 z Q a0 a1 x2 0 h2)
set_option maxRecDepth 100000 in
set_option maxHeartbeats 4000000 in
theorem t_Overlay_layOver {l : Launch} {G : xG} {z : Nat → Nat} {Q : xh → Prop} {a0 : Nat} {a1 : Nat} {x2 : Int32} {hp : xh} (hf : wp_Overlay_layOver z Q a0 a1 x2 hp) : xM l G z y_Overlay_layOver b_Overlay_layOver 5 none rm_Overlay_layOver [.ref a0, .ref a1, .int x2] hp (xqv Q) := by
  refine xM_of (by decide) (Nat.le_of_ble_eq_true rfl) (lv0 := [(0, .ref a0), (1, .ref a1), (2, .int x2)]) rfl ?_
  intro p e s m args below meth c A Qw X hret
  unfold wp_Overlay_layOver at hf
  refine x_aload_n X (q := 0) d_Overlay_layOver_0 rfl 1 rfl ?_
  refine x_getR X hf (ci := 3) (j := 2) rfl (by decide) rfl lf_Overlay_18 d_Overlay_layOver_1 4 rfl (fun o1 hf => ?_)
  refine x_iconst X (v := 0) d_Overlay_layOver_4 (by decide) 5 rfl ?_
  refine x_iconst X (v := 0) d_Overlay_layOver_5 (by decide) 6 rfl ?_
  refine x_iast X hf d_Overlay_layOver_6 7 rfl (fun h2 hf => ?_)
  refine x_iconst X (v := 0) d_Overlay_layOver_7 (by decide) 8 rfl ?_
  refine x_istore_n X (lv' := [(3, .int 0), (0, .ref a0), (1, .ref a1), (2, .int x2)]) d_Overlay_layOver_8 rfl (by decide) rfl 9 rfl ?_
  exact x_sub [1, 2, 3, 0] rfl (t_Overlay_layOver_9 X hret hf)

