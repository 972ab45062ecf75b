set_option maxRecDepth 100000 in
def wp_Model_state (z : Nat → Nat) (Q : Int32 → xh → Prop) (a0 : Nat) (x1 : Int32) (hp : xh) : Prop :=
  ∃ h1, pV hp a0 12 0 (.int 0) = some h1 ∧ (xcls h1 a0 12 ∧ wp_Model_isThere z (fun v3 h2 => (v3 = 0 → (Q (-1) h2)) ∧ (¬ v3 = 0 → (∃ o5, fR h2 a0 12 31 = some o5 ∧ (∃ v6, aI h2 o5 0 x1 = some v6 ∧ Q v6 h2)))) a0 x1 h1)
set_option maxRecDepth 100000 in
set_option maxHeartbeats 4000000 in
theorem t_Model_state {l : Launch} {G : xG} {z : Nat → Nat} {Q : Int32 → xh → Prop} {a0 : Nat} {x1 : Int32} {hp : xh} (hf : wp_Model_state z Q a0 x1 hp) : xM l G z y_Model_state b_Model_state 2 (some .int) rm_Model_state [.ref a0, .int x1] hp (xqi Q) := by
  refine xM_of (by decide) (Nat.le_of_ble_eq_true rfl) (lv0 := [(0, .ref a0), (1, .int x1)]) rfl ?_
  intro p e s m args below meth c A Qw X hret
  unfold wp_Model_state at hf
  refine x_aload_n X (q := 0) d_Model_state_0 rfl 1 rfl ?_
  refine x_iconst X (v := 0) d_Model_state_1 (by decide) 2 rfl ?_
  refine x_put X hf (ci := 12) (j := 0) (ty := .int) rfl (by decide) rfl lf_Model_127 rfl (by decide +kernel) rfl rfl d_Model_state_2 5 rfl (fun h1 hf => ?_)
  refine x_aload_n X (q := 0) d_Model_state_5 rfl 6 rfl ?_
  refine x_iload_n X (q := 1) d_Model_state_6 rfl 7 rfl ?_
  refine x_callV0z X (t_Model_isThere hf.2) hf.1 (ci := 12) rfl rfl lm_Model_234 im_Model_isThere sl_Model_isThere cd_Model_isThere in_Model ds_Model_isThere rfl rfl (Nat.le_of_ble_eq_true rfl) (Nat.le_of_ble_eq_true rfl) (Nat.le_of_ble_eq_true rfl) rfl rfl (Nat.le_refl 0) (Nat.le_refl 0) d_Model_state_7 10 rfl (fun v3 h2 hb4 hf => ?_)
  refine x_if_eq X hf d_Model_state_10 22 13 (by decide) rfl (fun hf => ?_) (fun hf => ?_)
  · refine x_iconst X (v := (-1)) d_Model_state_22 (by decide) 23 rfl ?_
    exact hret _ _ _ _ _ (some (.int (-1))) (Nat.le_refl 0) (Nat.le_refl 0) ⟨_, rfl, hf⟩ ⟨⟨_, rfl, rfl⟩, d_Model_state_23⟩
  · refine x_aload_n X (q := 0) d_Model_state_13 rfl 14 rfl ?_
    refine x_getR X hf (ci := 12) (j := 31) rfl (by decide) rfl lf_Model_82 d_Model_state_14 17 rfl (fun o5 hf => ?_)
    refine x_iload_n X (q := 1) d_Model_state_17 rfl 18 rfl ?_
    refine x_iald X hf d_Model_state_18 19 rfl (fun v6 hf => ?_)
    refine x_goto X d_Model_state_19 23 (by decide) ?_
    exact hret _ _ _ _ _ (some (.int v6)) (Nat.le_refl 0) (Nat.le_refl 0) ⟨_, rfl, hf⟩ ⟨⟨_, rfl, rfl⟩, d_Model_state_23⟩

set_option maxRecDepth 100000 in
def wp_Model_value (z : Nat → Nat) (Q : Int32 → xh → Prop) (a0 : Nat) (x1 : Int32) (x2 : Int32) (x3 : Int32) (hp : xh) : Prop :=
  ∃ h1, pV hp a0 12 0 (.int 0) = some h1 ∧ (xcls h1 a0 12 ∧ wp_Model_isLiteral z (fun v3 h2 => (¬ v3 = 0 → (∃ o5, fR h2 a0 12 31 = some o5 ∧ (∃ v6, aI h2 o5 0 x1 = some v6 ∧ (xcls h2 a0 12 ∧ wp_Model_reckon z (fun h7 => xcls h7 a0 12 ∧ wp_Model_of z (fun v9 h8 => Q (((v9 >>> ((x3 &&& 63).toInt64 &&& 63)) &&& 1).toInt32) h8) a0 x1 x2 h7) a0 x1 v6 h2)))) ∧ (v3 = 0 → (Q (-1) h2))) a0 x1 x2 h1)
set_option maxRecDepth 100000 in
set_option maxHeartbeats 4000000 in
theorem t_Model_value {l : Launch} {G : xG} {z : Nat → Nat} {Q : Int32 → xh → Prop} {a0 : Nat} {x1 : Int32} {x2 : Int32} {x3 : Int32} {hp : xh} (hf : wp_Model_value z Q a0 x1 x2 x3 hp) : xM l G z y_Model_value b_Model_value 4 (some .int) rm_Model_value [.ref a0, .int x1, .int x2, .int x3] hp (xqi Q) := by
  refine xM_of (by decide) (Nat.le_of_ble_eq_true rfl) (lv0 := [(0, .ref a0), (1, .int x1), (2, .int x2), (3, .int x3)]) rfl ?_
  intro p e s m args below meth c A Qw X hret
  unfold wp_Model_value at hf
  refine x_aload_n X (q := 0) d_Model_value_0 rfl 1 rfl ?_
  refine x_iconst X (v := 0) d_Model_value_1 (by decide) 2 rfl ?_
  refine x_put X hf (ci := 12) (j := 0) (ty := .int) rfl (by decide) rfl lf_Model_127 rfl (by decide +kernel) rfl rfl d_Model_value_2 5 rfl (fun h1 hf => ?_)
  refine x_aload_n X (q := 0) d_Model_value_5 rfl 6 rfl ?_
  refine x_iload_n X (q := 1) d_Model_value_6 rfl 7 rfl ?_
  refine x_iload_n X (q := 2) d_Model_value_7 rfl 8 rfl ?_
  refine x_callV0z X (t_Model_isLiteral hf.2) hf.1 (ci := 12) rfl rfl lm_Model_257 im_Model_isLiteral sl_Model_isLiteral cd_Model_isLiteral in_Model ds_Model_isLiteral rfl rfl (Nat.le_of_ble_eq_true rfl) (Nat.le_of_ble_eq_true rfl) (Nat.le_of_ble_eq_true rfl) rfl rfl (Nat.le_refl 0) (Nat.le_refl 0) d_Model_value_8 11 rfl (fun v3 h2 hb4 hf => ?_)
  refine x_if_ne X hf d_Model_value_11 16 14 (by decide) rfl (fun hf => ?_) (fun hf => ?_)
  · refine x_aload_n X (q := 0) d_Model_value_16 rfl 17 rfl ?_
    refine x_iload_n X (q := 1) d_Model_value_17 rfl 18 rfl ?_
    refine x_aload_n X (q := 0) d_Model_value_18 rfl 19 rfl ?_
    refine x_getR X hf (ci := 12) (j := 31) rfl (by decide) rfl lf_Model_82 d_Model_value_19 22 rfl (fun o5 hf => ?_)
    refine x_iload_n X (q := 1) d_Model_value_22 rfl 23 rfl ?_
    refine x_iald X hf d_Model_value_23 24 rfl (fun v6 hf => ?_)
    refine x_callV0v X (t_Model_reckon hf.2) hf.1 (ci := 12) rfl rfl lm_Model_261 im_Model_reckon sl_Model_reckon cd_Model_reckon in_Model ds_Model_reckon rfl rfl (Nat.le_of_ble_eq_true rfl) (Nat.le_of_ble_eq_true rfl) (Nat.le_of_ble_eq_true rfl) rfl rfl (Nat.le_refl 0) (Nat.le_refl 0) d_Model_value_24 27 rfl (fun h7 hf => ?_)
    refine x_aload_n X (q := 0) d_Model_value_27 rfl 28 rfl ?_
    refine x_iload_n X (q := 1) d_Model_value_28 rfl 29 rfl ?_
    refine x_iload_n X (q := 2) d_Model_value_29 rfl 30 rfl ?_
    refine x_callV0l X (t_Model_of hf.2) hf.1 (ci := 12) rfl rfl lm_Model_253 im_Model_of sl_Model_of cd_Model_of in_Model ds_Model_of rfl rfl (Nat.le_of_ble_eq_true rfl) (Nat.le_of_ble_eq_true rfl) (Nat.le_of_ble_eq_true rfl) rfl rfl (Nat.le_refl 0) (Nat.le_refl 0) d_Model_value_30 33 rfl (fun v9 h8 hf => ?_)
    refine x_iload_n X (q := 3) d_Model_value_33 rfl 34 rfl ?_
    refine x_bipush X (v := 63) d_Model_value_34 (by decide) 36 rfl ?_
    refine x_iand X d_Model_value_36 37 rfl ?_
    refine x_lshr X d_Model_value_37 38 rfl ?_
    refine x_lconst X (v := 1) d_Model_value_38 (by decide) 39 rfl ?_
    refine x_land X d_Model_value_39 40 rfl ?_
    refine x_l2i X d_Model_value_40 41 rfl ?_
    exact hret _ _ _ _ _ (some (.int (((v9 >>> ((x3 &&& 63).toInt64 &&& 63)) &&& 1).toInt32))) (Nat.le_refl 0) (Nat.le_refl 0) ⟨_, rfl, hf⟩ ⟨⟨_, rfl, rfl⟩, d_Model_value_41⟩
  · refine x_iconst X (v := (-1)) d_Model_value_14 (by decide) 15 rfl ?_
    exact hret _ _ _ _ _ (some (.int (-1))) (Nat.le_refl 0) (Nat.le_refl 0) ⟨_, rfl, hf⟩ ⟨⟨_, rfl, rfl⟩, d_Model_value_15⟩

set_option maxRecDepth 100000 in
def wp_Model_next_5_b (z : Nat → Nat) (Q : Int32 → xh → Prop)  (k5 : Nat × Int32 × Int32 × Int32 × Int32 × xh → Prop) (a0 : Nat) (x1 : Int32) (x2 : Int32) (x3 : Int32) (x4 : Int32) (hp : xh) : Prop :=
  ∃ o1, fR hp a0 12 10 = some o1 ∧ (∃ v2, aI hp o1 0 ((5 * x1) + 2) = some v2 ∧ ((v2 ≤ x4 → Q x3 hp) ∧ (¬ v2 ≤ x4 → (∃ o3, fR hp a0 12 13 = some o3 ∧ (∃ v4, aI hp o3 0 ((7 * x1) + x4) = some v4 ∧ (xcls hp a0 12 ∧ wp_Model_of z (fun v6 h5 => ∀ v7, v7 = (x3 ||| ((((v6 >>> (x2.toInt64 &&& 63)) &&& 1).toInt32) <<< (x4 &&& 31))) → k5 (a0, x1, x2, v7, (x4 + 1), h5)) a0 x1 v4 hp))))))
set_option maxRecDepth 100000 in
def wp_Model_next_5 (z : Nat → Nat) (Q : Int32 → xh → Prop)  (a0 : Nat) (x1 : Int32) (x2 : Int32) (x3 : Int32) (x4 : Int32) (hp : xh) : Prop := ∃ f : Nat, xloop (fun k5 a => wp_Model_next_5_b z Q  k5 a.1 a.2.1 a.2.2.1 a.2.2.2.1 a.2.2.2.2.1 a.2.2.2.2.2) f (a0, x1, x2, x3, x4, hp)
set_option maxRecDepth 100000 in
set_option maxHeartbeats 4000000 in
theorem t_Model_next_5 {p : Program} {l : Launch} {e : Env} {s : State} {m : MethodId} {args : Array Value} {below : List Frame} {meth : Method} {c : Code} {G : xG} {z : Nat → Nat} {A : Nat → Prop} {Qw : State → Prop} {Q : Int32 → xh → Prop} {a0 : Nat} {x1 : Int32} {x2 : Int32} {x3 : Int32} {x4 : Int32} {hp : xh} (X : xX p l e rm_Model_next s m args below meth c G z A y_Model_next b_Model_next 5) (hret : xRet p l e rm_Model_next s m args below meth c G A 5 Qw b_Model_next (some .int) (xqi Q))  (hf : wp_Model_next_5 z Q  a0 x1 x2 x3 x4 hp) : xE p l e rm_Model_next s m args below meth c G A 5 Qw 0 0 hp 5 [(0, .ref a0), (1, .int x1), (2, .int x2), (3, .int x3), (4, .int x4)] [] := by
  obtain ⟨f, hf⟩ := hf
  refine xloop_ind (F := fun k5 a => wp_Model_next_5_b z Q  k5 a.1 a.2.1 a.2.2.1 a.2.2.2.1 a.2.2.2.2.1 a.2.2.2.2.2) (E := fun a => xE p l e rm_Model_next s m args below meth c G A 5 Qw 0 0 a.2.2.2.2.2 5 [(0, .ref (a.1)), (1, .int (a.2.1)), (2, .int (a.2.2.1)), (3, .int (a.2.2.2.1)), (4, .int (a.2.2.2.2.1))] []) ?_ f (a0, x1, x2, x3, x4, hp) hf
  intro k5 hk a hf
  obtain ⟨a0, x1, x2, x3, x4, hp⟩ := a
  have hk5 : ∀ (a0 : Nat) (x1 : Int32) (x2 : Int32) (x3 : Int32) (x4 : Int32) (hp : xh), k5 (a0, x1, x2, x3, x4, hp) → xE p l e rm_Model_next s m args below meth c G A 5 Qw 0 0 hp 5 [(0, .ref a0), (1, .int x1), (2, .int x2), (3, .int x3), (4, .int x4)] [] := fun a0 x1 x2 x3 x4 hp h => hk (a0, x1, x2, x3, x4, hp) h
  have hf : wp_Model_next_5_b z Q  k5 a0 x1 x2 x3 x4 hp := hf
  unfold wp_Model_next_5_b at hf
  refine x_iload X (q := 4) d_Model_next_5 rfl 7 rfl ?_
  refine x_aload_n X (q := 0) d_Model_next_7 rfl 8 rfl ?_
  refine x_getR X hf (ci := 12) (j := 10) rfl (by decide) rfl lf_Model_20 d_Model_next_8 11 rfl (fun o1 hf => ?_)
  refine x_iconst X (v := 5) d_Model_next_11 (by decide) 12 rfl ?_
  refine x_iload_n X (q := 1) d_Model_next_12 rfl 13 rfl ?_
  refine x_imul X d_Model_next_13 14 rfl ?_
  refine x_iconst X (v := 2) d_Model_next_14 (by decide) 15 rfl ?_
  refine x_iadd X d_Model_next_15 16 rfl ?_
  refine x_iald X hf d_Model_next_16 17 rfl (fun v2 hf => ?_)
  refine x_icmp_ge X hf d_Model_next_17 54 20 (by decide) rfl (fun hf => ?_) (fun hf => ?_)
  · refine x_iload_n X (q := 3) d_Model_next_54 rfl 55 rfl ?_
    exact hret _ _ _ _ _ (some (.int x3)) (Nat.le_refl 0) (Nat.le_refl 0) ⟨_, rfl, hf⟩ ⟨⟨_, rfl, rfl⟩, d_Model_next_55⟩
  · refine x_iload_n X (q := 3) d_Model_next_20 rfl 21 rfl ?_
    refine x_aload_n X (q := 0) d_Model_next_21 rfl 22 rfl ?_
    refine x_iload_n X (q := 1) d_Model_next_22 rfl 23 rfl ?_
    refine x_aload_n X (q := 0) d_Model_next_23 rfl 24 rfl ?_
    refine x_getR X hf (ci := 12) (j := 13) rfl (by decide) rfl lf_Model_30 d_Model_next_24 27 rfl (fun o3 hf => ?_)
    refine x_bipush X (v := 7) d_Model_next_27 (by decide) 29 rfl ?_
    refine x_iload_n X (q := 1) d_Model_next_29 rfl 30 rfl ?_
    refine x_imul X d_Model_next_30 31 rfl ?_
    refine x_iload X (q := 4) d_Model_next_31 rfl 33 rfl ?_
    refine x_iadd X d_Model_next_33 34 rfl ?_
    refine x_iald X hf d_Model_next_34 35 rfl (fun v4 hf => ?_)
    refine x_callV0l X (t_Model_of hf.2) hf.1 (ci := 12) rfl rfl lm_Model_253 im_Model_of sl_Model_of cd_Model_of in_Model ds_Model_of rfl rfl (Nat.le_of_ble_eq_true rfl) (Nat.le_of_ble_eq_true rfl) (Nat.le_of_ble_eq_true rfl) rfl rfl (Nat.le_refl 0) (Nat.le_refl 0) d_Model_next_35 38 rfl (fun v6 h5 hf => ?_)
    refine x_iload_n X (q := 2) d_Model_next_38 rfl 39 rfl ?_
    refine x_lshr X d_Model_next_39 40 rfl ?_
    refine x_lconst X (v := 1) d_Model_next_40 (by decide) 41 rfl ?_
    refine x_land X d_Model_next_41 42 rfl ?_
    refine x_l2i X d_Model_next_42 43 rfl ?_
    refine x_iload X (q := 4) d_Model_next_43 rfl 45 rfl ?_
    refine x_ishl X d_Model_next_45 46 rfl ?_
    refine x_ior X d_Model_next_46 47 rfl ?_
    refine x_istoreN_n X hf d_Model_next_47 rfl (by decide) (lw := fun v7 => [(3, .int v7), (0, .ref a0), (1, .int x1), (2, .int x2), (4, .int x4)]) (fun _ => rfl) 48 rfl (fun v7 hf => ?_)
    refine x_iinc X (q := 4) (v := (x4 + 1)) (lv' := [(4, .int (x4 + 1)), (3, .int v7), (0, .ref a0), (1, .int x1), (2, .int x2)]) d_Model_next_48 rfl (by rfl) (by decide) rfl 51 rfl ?_
    refine x_goto X d_Model_next_51 5 (by decide) ?_
    exact x_sub [2, 3, 4, 1, 0] rfl (hk5 _ _ _ _ _ _ hf)
set_option maxRecDepth 100000 in
def wp_Model_next (z : Nat → Nat) (Q : Int32 → xh → Prop) (a0 : Nat) (x1 : Int32) (x2 : Int32) (hp : xh) : Prop :=
  wp_Model_next_5 z Q a0 x1 x2 0 0 hp
set_option maxRecDepth 100000 in
set_option maxHeartbeats 4000000 in
theorem t_Model_next {l : Launch} {G : xG} {z : Nat → Nat} {Q : Int32 → xh → Prop} {a0 : Nat} {x1 : Int32} {x2 : Int32} {hp : xh} (hf : wp_Model_next z Q a0 x1 x2 hp) : xM l G z y_Model_next b_Model_next 5 (some .int) rm_Model_next [.ref a0, .int x1, .int x2] hp (xqi Q) := by
  refine xM_of (by decide) (Nat.le_of_ble_eq_true rfl) (lv0 := [(0, .ref a0), (1, .int x1), (2, .int x2)]) rfl ?_
  intro p e s m args below meth c A Qw X hret
  unfold wp_Model_next at hf
  refine x_iconst X (v := 0) d_Model_next_0 (by decide) 1 rfl ?_
  refine x_istore_n X (lv' := [(3, .int 0), (0, .ref a0), (1, .int x1), (2, .int x2)]) d_Model_next_1 rfl (by decide) rfl 2 rfl ?_
  refine x_iconst X (v := 0) d_Model_next_2 (by decide) 3 rfl ?_
  refine x_istore X (lv' := [(4, .int 0), (3, .int 0), (0, .ref a0), (1, .int x1), (2, .int x2)]) d_Model_next_3 (by decide) rfl 5 rfl ?_
  exact x_sub [2, 3, 4, 1, 0] rfl (t_Model_next_5 X hret hf)

set_option maxRecDepth 100000 in
def wp_Model_step_112 (z : Nat → Nat) (Q : Int32 → xh → Prop) (k9 : Nat × Int32 × Int32 × Int32 × xh → Prop) (a0 : Nat) (x1 : Int32) (x2 : Int32) (x3 : Int32) (hp : xh) : Prop :=
  k9 (a0, x1, x2, (x3 + 1), hp)
set_option maxRecDepth 100000 in
set_option maxHeartbeats 4000000 in
theorem t_Model_step_112 {p : Program} {l : Launch} {e : Env} {s : State} {m : MethodId} {args : Array Value} {below : List Frame} {meth : Method} {c : Code} {G : xG} {z : Nat → Nat} {A : Nat → Prop} {Qw : State → Prop} {Q : Int32 → xh → Prop} {k9 : Nat × Int32 × Int32 × Int32 × xh → Prop} {a0 : Nat} {x1 : Int32} {x2 : Int32} {x3 : Int32} {hp : xh} (X : xX p l e rm_Model_step s m args below meth c G z A y_Model_step b_Model_step 5) (hret : xRet p l e rm_Model_step s m args below meth c G A 5 Qw b_Model_step (some .int) (xqi Q)) (hk9 : ∀ (a0 : Nat) (x1 : Int32) (x2 : Int32) (x3 : Int32) (hp : xh), k9 (a0, x1, x2, x3, hp) → xE p l e rm_Model_step s m args below meth c G A 5 Qw 0 0 hp 9 [(0, .ref a0), (1, .int x1), (2, .int x2), (3, .int x3)] []) (hf : wp_Model_step_112 z Q k9 a0 x1 x2 x3 hp) : xE p l e rm_Model_step s m args below meth c G A 5 Qw 0 0 hp 112 [(0, .ref a0), (1, .int x1), (2, .int x2), (3, .int x3)] [] := by
  unfold wp_Model_step_112 at hf
  refine x_iinc X (q := 3) (v := (x3 + 1)) (lv' := [(3, .int (x3 + 1)), (0, .ref a0), (1, .int x1), (2, .int x2)]) d_Model_step_112 rfl (by rfl) (by decide) rfl 115 rfl ?_
  refine x_goto X d_Model_step_115 9 (by decide) ?_
  exact x_sub [1, 2, 3, 0] rfl (hk9 _ _ _ _ _ hf)
set_option maxRecDepth 100000 in
def wp_Model_step_40_b (z : Nat → Nat) (Q : Int32 → xh → Prop) (k9 : Nat × Int32 × Int32 × Int32 × xh → Prop) (k40 : Nat × Int32 × Int32 × Int32 × Int32 × xh → Prop) (a0 : Nat) (x1 : Int32) (x2 : Int32) (x3 : Int32) (x4 : Int32) (hp : xh) : Prop :=
  ∃ o1, fR hp a0 12 10 = some o1 ∧ (∃ v2, aI hp o1 0 ((5 * x3) + 3) = some v2 ∧ ((v2 ≤ x4 → (∃ o3, fR hp a0 12 31 = some o3 ∧ (xcls hp a0 12 ∧ wp_Model_next z (fun v5 h4 => ∃ h6, sI h4 o3 0 x3 v5 = some h6 ∧ wp_Model_step_112 z Q k9 a0 x1 x2 x3 h6) a0 x3 (x1 &&& 63) hp))) ∧ (¬ v2 ≤ x4 → (∃ o7, fR hp a0 12 14 = some o7 ∧ (∃ v8, aI hp o7 0 ((8 * x3) + x4) = some v8 ∧ (xcls hp a0 12 ∧ wp_Model_of z (fun v10 h9 => ∀ v11, v11 = (x2 ||| ((((v10 >>> ((x1 &&& 63).toInt64 &&& 63)) &&& 1).toInt32) <<< (((8 * x3) + x4) &&& 31))) → k40 (a0, x1, v11, x3, (x4 + 1), h9)) a0 x3 v8 hp))))))
set_option maxRecDepth 100000 in
def wp_Model_step_40 (z : Nat → Nat) (Q : Int32 → xh → Prop) (k9 : Nat × Int32 × Int32 × Int32 × xh → Prop) (a0 : Nat) (x1 : Int32) (x2 : Int32) (x3 : Int32) (x4 : Int32) (hp : xh) : Prop := ∃ f : Nat, xloop (fun k40 a => wp_Model_step_40_b z Q k9 k40 a.1 a.2.1 a.2.2.1 a.2.2.2.1 a.2.2.2.2.1 a.2.2.2.2.2) f (a0, x1, x2, x3, x4, hp)
set_option maxRecDepth 100000 in
set_option maxHeartbeats 4000000 in
theorem t_Model_step_40 {p : Program} {l : Launch} {e : Env} {s : State} {m : MethodId} {args : Array Value} {below : List Frame} {meth : Method} {c : Code} {G : xG} {z : Nat → Nat} {A : Nat → Prop} {Qw : State → Prop} {Q : Int32 → xh → Prop} {k9 : Nat × Int32 × Int32 × Int32 × xh → Prop} {a0 : Nat} {x1 : Int32} {x2 : Int32} {x3 : Int32} {x4 : Int32} {hp : xh} (X : xX p l e rm_Model_step s m args below meth c G z A y_Model_step b_Model_step 5) (hret : xRet p l e rm_Model_step s m args below meth c G A 5 Qw b_Model_step (some .int) (xqi Q)) (hk9 : ∀ (a0 : Nat) (x1 : Int32) (x2 : Int32) (x3 : Int32) (hp : xh), k9 (a0, x1, x2, x3, hp) → xE p l e rm_Model_step s m args below meth c G A 5 Qw 0 0 hp 9 [(0, .ref a0), (1, .int x1), (2, .int x2), (3, .int x3)] []) (hf : wp_Model_step_40 z Q k9 a0 x1 x2 x3 x4 hp) : xE p l e rm_Model_step s m args below meth c G A 5 Qw 0 0 hp 40 [(0, .ref a0), (1, .int x1), (2, .int x2), (3, .int x3), (4, .int x4)] [] := by
  obtain ⟨f, hf⟩ := hf
  refine xloop_ind (F := fun k40 a => wp_Model_step_40_b z Q k9 k40 a.1 a.2.1 a.2.2.1 a.2.2.2.1 a.2.2.2.2.1 a.2.2.2.2.2) (E := fun a => xE p l e rm_Model_step s m args below meth c G A 5 Qw 0 0 a.2.2.2.2.2 40 [(0, .ref (a.1)), (1, .int (a.2.1)), (2, .int (a.2.2.1)), (3, .int (a.2.2.2.1)), (4, .int (a.2.2.2.2.1))] []) ?_ f (a0, x1, x2, x3, x4, hp) hf
  intro k40 hk a hf
  obtain ⟨a0, x1, x2, x3, x4, hp⟩ := a
  have hk40 : ∀ (a0 : Nat) (x1 : Int32) (x2 : Int32) (x3 : Int32) (x4 : Int32) (hp : xh), k40 (a0, x1, x2, x3, x4, hp) → xE p l e rm_Model_step s m args below meth c G A 5 Qw 0 0 hp 40 [(0, .ref a0), (1, .int x1), (2, .int x2), (3, .int x3), (4, .int x4)] [] := fun a0 x1 x2 x3 x4 hp h => hk (a0, x1, x2, x3, x4, hp) h
  have hf : wp_Model_step_40_b z Q k9 k40 a0 x1 x2 x3 x4 hp := hf
  unfold wp_Model_step_40_b at hf
  refine x_iload X (q := 4) d_Model_step_40 rfl 42 rfl ?_
  refine x_aload_n X (q := 0) d_Model_step_42 rfl 43 rfl ?_
  refine x_getR X hf (ci := 12) (j := 10) rfl (by decide) rfl lf_Model_20 d_Model_step_43 46 rfl (fun o1 hf => ?_)
  refine x_iconst X (v := 5) d_Model_step_46 (by decide) 47 rfl ?_
  refine x_iload_n X (q := 3) d_Model_step_47 rfl 48 rfl ?_
  refine x_imul X d_Model_step_48 49 rfl ?_
  refine x_iconst X (v := 3) d_Model_step_49 (by decide) 50 rfl ?_
  refine x_iadd X d_Model_step_50 51 rfl ?_
  refine x_iald X hf d_Model_step_51 52 rfl (fun v2 hf => ?_)
  refine x_icmp_ge X hf d_Model_step_52 97 55 (by decide) rfl (fun hf => ?_) (fun hf => ?_)
  · refine x_aload_n X (q := 0) d_Model_step_97 rfl 98 rfl ?_
    refine x_getR X hf (ci := 12) (j := 31) rfl (by decide) rfl lf_Model_82 d_Model_step_98 101 rfl (fun o3 hf => ?_)
    refine x_iload_n X (q := 3) d_Model_step_101 rfl 102 rfl ?_
    refine x_aload_n X (q := 0) d_Model_step_102 rfl 103 rfl ?_
    refine x_iload_n X (q := 3) d_Model_step_103 rfl 104 rfl ?_
    refine x_iload_n X (q := 1) d_Model_step_104 rfl 105 rfl ?_
    refine x_bipush X (v := 63) d_Model_step_105 (by decide) 107 rfl ?_
    refine x_iand X d_Model_step_107 108 rfl ?_
    refine x_callV0i X (t_Model_next hf.2) hf.1 (ci := 12) rfl rfl lm_Model_264 im_Model_next sl_Model_next cd_Model_next in_Model ds_Model_next rfl rfl (Nat.le_of_ble_eq_true rfl) (Nat.le_of_ble_eq_true rfl) (Nat.le_of_ble_eq_true rfl) rfl rfl (Nat.le_refl 0) (Nat.le_refl 0) d_Model_step_108 111 rfl (fun v5 h4 hf => ?_)
    refine x_iast X hf d_Model_step_111 112 rfl (fun h6 hf => ?_)
    exact x_sub [0, 1, 2, 3] rfl (t_Model_step_112 X hret hk9 hf)
  · refine x_iload_n X (q := 2) d_Model_step_55 rfl 56 rfl ?_
    refine x_aload_n X (q := 0) d_Model_step_56 rfl 57 rfl ?_
    refine x_iload_n X (q := 3) d_Model_step_57 rfl 58 rfl ?_
    refine x_aload_n X (q := 0) d_Model_step_58 rfl 59 rfl ?_
    refine x_getR X hf (ci := 12) (j := 14) rfl (by decide) rfl lf_Model_33 d_Model_step_59 62 rfl (fun o7 hf => ?_)
    refine x_bipush X (v := 8) d_Model_step_62 (by decide) 64 rfl ?_
    refine x_iload_n X (q := 3) d_Model_step_64 rfl 65 rfl ?_
    refine x_imul X d_Model_step_65 66 rfl ?_
    refine x_iload X (q := 4) d_Model_step_66 rfl 68 rfl ?_
    refine x_iadd X d_Model_step_68 69 rfl ?_
    refine x_iald X hf d_Model_step_69 70 rfl (fun v8 hf => ?_)
    refine x_callV0l X (t_Model_of hf.2) hf.1 (ci := 12) rfl rfl lm_Model_253 im_Model_of sl_Model_of cd_Model_of in_Model ds_Model_of rfl rfl (Nat.le_of_ble_eq_true rfl) (Nat.le_of_ble_eq_true rfl) (Nat.le_of_ble_eq_true rfl) rfl rfl (Nat.le_refl 0) (Nat.le_refl 0) d_Model_step_70 73 rfl (fun v10 h9 hf => ?_)
    refine x_iload_n X (q := 1) d_Model_step_73 rfl 74 rfl ?_
    refine x_bipush X (v := 63) d_Model_step_74 (by decide) 76 rfl ?_
    refine x_iand X d_Model_step_76 77 rfl ?_
    refine x_lshr X d_Model_step_77 78 rfl ?_
    refine x_lconst X (v := 1) d_Model_step_78 (by decide) 79 rfl ?_
    refine x_land X d_Model_step_79 80 rfl ?_
    refine x_l2i X d_Model_step_80 81 rfl ?_
    refine x_bipush X (v := 8) d_Model_step_81 (by decide) 83 rfl ?_
    refine x_iload_n X (q := 3) d_Model_step_83 rfl 84 rfl ?_
    refine x_imul X d_Model_step_84 85 rfl ?_
    refine x_iload X (q := 4) d_Model_step_85 rfl 87 rfl ?_
    refine x_iadd X d_Model_step_87 88 rfl ?_
    refine x_ishl X d_Model_step_88 89 rfl ?_
    refine x_ior X d_Model_step_89 90 rfl ?_
    refine x_istoreN_n X hf d_Model_step_90 rfl (by decide) (lw := fun v11 => [(2, .int v11), (0, .ref a0), (1, .int x1), (3, .int x3), (4, .int x4)]) (fun _ => rfl) 91 rfl (fun v11 hf => ?_)
    refine x_iinc X (q := 4) (v := (x4 + 1)) (lv' := [(4, .int (x4 + 1)), (2, .int v11), (0, .ref a0), (1, .int x1), (3, .int x3)]) d_Model_step_91 rfl (by rfl) (by decide) rfl 94 rfl ?_
    refine x_goto X d_Model_step_94 40 (by decide) ?_
    exact x_sub [2, 3, 1, 4, 0] rfl (hk40 _ _ _ _ _ _ hf)
set_option maxRecDepth 100000 in
def wp_Model_step_9_b (z : Nat → Nat) (Q : Int32 → xh → Prop)  (k9 : Nat × Int32 × Int32 × Int32 × xh → Prop) (a0 : Nat) (x1 : Int32) (x2 : Int32) (x3 : Int32) (hp : xh) : Prop :=
  (2 ≤ x3 → Q x2 hp) ∧ (¬ 2 ≤ x3 → (∃ o1, fR hp a0 12 30 = some o1 ∧ (∃ v2, aI hp o1 2 x3 = some v2 ∧ ((¬ v2 = 0 → (∃ o3, fR hp a0 12 31 = some o3 ∧ (∃ v4, aI hp o3 0 x3 = some v4 ∧ (xcls hp a0 12 ∧ wp_Model_reckon z (fun h5 => wp_Model_step_40 z Q k9 a0 x1 x2 x3 0 h5) a0 x3 v4 hp)))) ∧ (v2 = 0 → wp_Model_step_112 z Q k9 a0 x1 x2 x3 hp)))))
set_option maxRecDepth 100000 in
def wp_Model_step_9 (z : Nat → Nat) (Q : Int32 → xh → Prop)  (a0 : Nat) (x1 : Int32) (x2 : Int32) (x3 : Int32) (hp : xh) : Prop := ∃ f : Nat, xloop (fun k9 a => wp_Model_step_9_b z Q  k9 a.1 a.2.1 a.2.2.1 a.2.2.2.1 a.2.2.2.2) f (a0, x1, x2, x3, hp)
set_option maxRecDepth 100000 in
set_option maxHeartbeats 4000000 in
theorem t_Model_step_9 {p : Program} {l : Launch} {e : Env} {s : State} {m : MethodId} {args : Array Value} {below : List Frame} {meth : Method} {c : Code} {G : xG} {z : Nat → Nat} {A : Nat → Prop} {Qw : State → Prop} {Q : Int32 → xh → Prop} {a0 : Nat} {x1 : Int32} {x2 : Int32} {x3 : Int32} {hp : xh} (X : xX p l e rm_Model_step s m args below meth c G z A y_Model_step b_Model_step 5) (hret : xRet p l e rm_Model_step s m args below meth c G A 5 Qw b_Model_step (some .int) (xqi Q))  (hf : wp_Model_step_9 z Q  a0 x1 x2 x3 hp) : xE p l e rm_Model_step s m args below meth c G A 5 Qw 0 0 hp 9 [(0, .ref a0), (1, .int x1), (2, .int x2), (3, .int x3)] [] := by
  obtain ⟨f, hf⟩ := hf
  refine xloop_ind (F := fun k9 a => wp_Model_step_9_b z Q  k9 a.1 a.2.1 a.2.2.1 a.2.2.2.1 a.2.2.2.2) (E := fun a => xE p l e rm_Model_step s m args below meth c G A 5 Qw 0 0 a.2.2.2.2 9 [(0, .ref (a.1)), (1, .int (a.2.1)), (2, .int (a.2.2.1)), (3, .int (a.2.2.2.1))] []) ?_ f (a0, x1, x2, x3, hp) hf
  intro k9 hk a hf
  obtain ⟨a0, x1, x2, x3, hp⟩ := a
  have hk9 : ∀ (a0 : Nat) (x1 : Int32) (x2 : Int32) (x3 : Int32) (hp : xh), k9 (a0, x1, x2, x3, hp) → xE p l e rm_Model_step s m args below meth c G A 5 Qw 0 0 hp 9 [(0, .ref a0), (1, .int x1), (2, .int x2), (3, .int x3)] [] := fun a0 x1 x2 x3 hp h => hk (a0, x1, x2, x3, hp) h
  have hf : wp_Model_step_9_b z Q  k9 a0 x1 x2 x3 hp := hf
  unfold wp_Model_step_9_b at hf
  refine x_iload_n X (q := 3) d_Model_step_9 rfl 10 rfl ?_
  refine x_iconst X (v := 2) d_Model_step_10 (by decide) 11 rfl ?_
  refine x_icmp_ge X hf d_Model_step_11 118 14 (by decide) rfl (fun hf => ?_) (fun hf => ?_)
  · refine x_iload_n X (q := 2) d_Model_step_118 rfl 119 rfl ?_
    exact hret _ _ _ _ _ (some (.int x2)) (Nat.le_refl 0) (Nat.le_refl 0) ⟨_, rfl, hf⟩ ⟨⟨_, rfl, rfl⟩, d_Model_step_119⟩
  · refine x_aload_n X (q := 0) d_Model_step_14 rfl 15 rfl ?_
    refine x_getR X hf (ci := 12) (j := 30) rfl (by decide) rfl lf_Model_79 d_Model_step_15 18 rfl (fun o1 hf => ?_)
    refine x_iload_n X (q := 3) d_Model_step_18 rfl 19 rfl ?_
    refine x_zald X hf d_Model_step_19 20 rfl (fun v2 hf => ?_)
    refine x_if_ne X hf d_Model_step_20 26 23 (by decide) rfl (fun hf => ?_) (fun hf => ?_)
    · refine x_aload_n X (q := 0) d_Model_step_26 rfl 27 rfl ?_
      refine x_iload_n X (q := 3) d_Model_step_27 rfl 28 rfl ?_
      refine x_aload_n X (q := 0) d_Model_step_28 rfl 29 rfl ?_
      refine x_getR X hf (ci := 12) (j := 31) rfl (by decide) rfl lf_Model_82 d_Model_step_29 32 rfl (fun o3 hf => ?_)
      refine x_iload_n X (q := 3) d_Model_step_32 rfl 33 rfl ?_
      refine x_iald X hf d_Model_step_33 34 rfl (fun v4 hf => ?_)
      refine x_callV0v X (t_Model_reckon hf.2) hf.1 (ci := 12) rfl rfl lm_Model_261 im_Model_reckon sl_Model_reckon cd_Model_reckon in_Model ds_Model_reckon rfl rfl (Nat.le_of_ble_eq_true rfl) (Nat.le_of_ble_eq_true rfl) (Nat.le_of_ble_eq_true rfl) rfl rfl (Nat.le_refl 0) (Nat.le_refl 0) d_Model_step_34 37 rfl (fun h5 hf => ?_)
      refine x_iconst X (v := 0) d_Model_step_37 (by decide) 38 rfl ?_
      refine x_istore X (lv' := [(4, .int 0), (0, .ref a0), (1, .int x1), (2, .int x2), (3, .int x3)]) d_Model_step_38 (by decide) rfl 40 rfl ?_
      exact x_sub [1, 2, 3, 4, 0] rfl (t_Model_step_40 X hret hk9 hf)
    · refine x_goto X d_Model_step_23 112 (by decide) ?_
      exact x_sub [0, 1, 2, 3] rfl (t_Model_step_112 X hret hk9 hf)
set_option maxRecDepth 100000 in
def wp_Model_step (z : Nat → Nat) (Q : Int32 → xh → Prop) (a0 : Nat) (x1 : Int32) (hp : xh) : Prop :=
  ∃ h1, pV hp a0 12 0 (.int 0) = some h1 ∧ wp_Model_step_9 z Q a0 x1 0 0 h1
set_option maxRecDepth 100000 in
set_option maxHeartbeats 4000000 in
theorem t_Model_step {l : Launch} {G : xG} {z : Nat → Nat} {Q : Int32 → xh → Prop} {a0 : Nat} {x1 : Int32} {hp : xh} (hf : wp_Model_step z Q a0 x1 hp) : xM l G z y_Model_step b_Model_step 5 (some .int) rm_Model_step [.ref a0, .int x1] hp (xqi Q) := by
  refine xM_of (by decide) (Nat.le_of_ble_eq_true rfl) (lv0 := [(0, .ref a0), (1, .int x1)]) rfl ?_
  intro p e s m args below meth c A Qw X hret
  unfold wp_Model_step at hf
  refine x_aload_n X (q := 0) d_Model_step_0 rfl 1 rfl ?_
  refine x_iconst X (v := 0) d_Model_step_1 (by decide) 2 rfl ?_
  refine x_put X hf (ci := 12) (j := 0) (ty := .int) rfl (by decide) rfl lf_Model_127 rfl (by decide +kernel) rfl rfl d_Model_step_2 5 rfl (fun h1 hf => ?_)
  refine x_iconst X (v := 0) d_Model_step_5 (by decide) 6 rfl ?_
  refine x_istore_n X (lv' := [(2, .int 0), (0, .ref a0), (1, .int x1)]) d_Model_step_6 rfl (by decide) rfl 7 rfl ?_
  refine x_iconst X (v := 0) d_Model_step_7 (by decide) 8 rfl ?_
  refine x_istore_n X (lv' := [(3, .int 0), (2, .int 0), (0, .ref a0), (1, .int x1)]) d_Model_step_8 rfl (by decide) rfl 9 rfl ?_
  exact x_sub [2, 3, 1, 0] rfl (t_Model_step_9 X hret hf)

set_option maxRecDepth 100000 in
def wp_Model_matches (z : Nat → Nat) (Q : Int32 → xh → Prop) (a0 : Nat) (hp : xh) : Prop :=
  ∃ o1, fR hp a0 12 30 = some o1 ∧ (∃ v2, aI hp o1 2 0 = some v2 ∧ ((v2 = 0 → Q 0 hp) ∧ (¬ v2 = 0 → (∃ o3, fR hp a0 12 30 = some o3 ∧ (∃ v4, aI hp o3 2 1 = some v4 ∧ ((v4 = 0 → Q 0 hp) ∧ (¬ v4 = 0 → (∃ o5, fR hp a0 12 10 = some o5 ∧ (∃ v6, aI hp o5 0 1 = some v6 ∧ (∃ o7, fR hp a0 12 10 = some o7 ∧ (∃ v8, aI hp o7 0 6 = some v8 ∧ ((¬ v6 = v8 → Q 0 hp) ∧ (v6 = v8 → (∃ o9, fR hp a0 12 10 = some o9 ∧ (∃ v10, aI hp o9 0 3 = some v10 ∧ (∃ o11, fR hp a0 12 10 = some o11 ∧ (∃ v12, aI hp o11 0 8 = some v12 ∧ ((¬ v10 = v12 → Q 0 hp) ∧ (v10 = v12 → Q 1 hp)))))))))))))))))))
set_option maxRecDepth 100000 in
set_option maxHeartbeats 4000000 in
theorem t_Model_matches {l : Launch} {G : xG} {z : Nat → Nat} {Q : Int32 → xh → Prop} {a0 : Nat} {hp : xh} (hf : wp_Model_matches z Q a0 hp) : xM l G z y_Model_matches b_Model_matches 1 (some .boolean) rm_Model_matches [.ref a0] hp (xqz Q) := by
  refine xM_of (by decide) (Nat.le_of_ble_eq_true rfl) (lv0 := [(0, .ref a0)]) rfl ?_
  intro p e s m args below meth c A Qw X hret
  unfold wp_Model_matches at hf
  refine x_aload_n X (q := 0) d_Model_matches_0 rfl 1 rfl ?_
  refine x_getR X hf (ci := 12) (j := 30) rfl (by decide) rfl lf_Model_79 d_Model_matches_1 4 rfl (fun o1 hf => ?_)
  refine x_iconst X (v := 0) d_Model_matches_4 (by decide) 5 rfl ?_
  refine x_zald X hf d_Model_matches_5 6 rfl (fun v2 hf => ?_)
  refine x_if_eq X hf d_Model_matches_6 54 9 (by decide) rfl (fun hf => ?_) (fun hf => ?_)
  · refine x_iconst X (v := 0) d_Model_matches_54 (by decide) 55 rfl ?_
    exact hret _ _ _ _ _ (some (.int 0)) (Nat.le_refl 0) (Nat.le_refl 0) ⟨_, rfl, (Or.inl rfl), hf⟩ ⟨⟨_, rfl, xbl_nar (Or.inl rfl)⟩, d_Model_matches_55⟩
  · refine x_aload_n X (q := 0) d_Model_matches_9 rfl 10 rfl ?_
    refine x_getR X hf (ci := 12) (j := 30) rfl (by decide) rfl lf_Model_79 d_Model_matches_10 13 rfl (fun o3 hf => ?_)
    refine x_iconst X (v := 1) d_Model_matches_13 (by decide) 14 rfl ?_
    refine x_zald X hf d_Model_matches_14 15 rfl (fun v4 hf => ?_)
    refine x_if_eq X hf d_Model_matches_15 54 18 (by decide) rfl (fun hf => ?_) (fun hf => ?_)
    · refine x_iconst X (v := 0) d_Model_matches_54 (by decide) 55 rfl ?_
      exact hret _ _ _ _ _ (some (.int 0)) (Nat.le_refl 0) (Nat.le_refl 0) ⟨_, rfl, (Or.inl rfl), hf⟩ ⟨⟨_, rfl, xbl_nar (Or.inl rfl)⟩, d_Model_matches_55⟩
    · refine x_aload_n X (q := 0) d_Model_matches_18 rfl 19 rfl ?_
      refine x_getR X hf (ci := 12) (j := 10) rfl (by decide) rfl lf_Model_20 d_Model_matches_19 22 rfl (fun o5 hf => ?_)
      refine x_iconst X (v := 1) d_Model_matches_22 (by decide) 23 rfl ?_
      refine x_iald X hf d_Model_matches_23 24 rfl (fun v6 hf => ?_)
      refine x_aload_n X (q := 0) d_Model_matches_24 rfl 25 rfl ?_
      refine x_getR X hf (ci := 12) (j := 10) rfl (by decide) rfl lf_Model_20 d_Model_matches_25 28 rfl (fun o7 hf => ?_)
      refine x_bipush X (v := 6) d_Model_matches_28 (by decide) 30 rfl ?_
      refine x_iald X hf d_Model_matches_30 31 rfl (fun v8 hf => ?_)
      refine x_icmp_ne X hf d_Model_matches_31 54 34 (by decide) rfl (fun hf => ?_) (fun hf => ?_)
      · refine x_iconst X (v := 0) d_Model_matches_54 (by decide) 55 rfl ?_
        exact hret _ _ _ _ _ (some (.int 0)) (Nat.le_refl 0) (Nat.le_refl 0) ⟨_, rfl, (Or.inl rfl), hf⟩ ⟨⟨_, rfl, xbl_nar (Or.inl rfl)⟩, d_Model_matches_55⟩
      · refine x_aload_n X (q := 0) d_Model_matches_34 rfl 35 rfl ?_
        refine x_getR X hf (ci := 12) (j := 10) rfl (by decide) rfl lf_Model_20 d_Model_matches_35 38 rfl (fun o9 hf => ?_)
        refine x_iconst X (v := 3) d_Model_matches_38 (by decide) 39 rfl ?_
        refine x_iald X hf d_Model_matches_39 40 rfl (fun v10 hf => ?_)
        refine x_aload_n X (q := 0) d_Model_matches_40 rfl 41 rfl ?_
        refine x_getR X hf (ci := 12) (j := 10) rfl (by decide) rfl lf_Model_20 d_Model_matches_41 44 rfl (fun o11 hf => ?_)
        refine x_bipush X (v := 8) d_Model_matches_44 (by decide) 46 rfl ?_
        refine x_iald X hf d_Model_matches_46 47 rfl (fun v12 hf => ?_)
        refine x_icmp_ne X hf d_Model_matches_47 54 50 (by decide) rfl (fun hf => ?_) (fun hf => ?_)
        · refine x_iconst X (v := 0) d_Model_matches_54 (by decide) 55 rfl ?_
          exact hret _ _ _ _ _ (some (.int 0)) (Nat.le_refl 0) (Nat.le_refl 0) ⟨_, rfl, (Or.inl rfl), hf⟩ ⟨⟨_, rfl, xbl_nar (Or.inl rfl)⟩, d_Model_matches_55⟩
        · refine x_iconst X (v := 1) d_Model_matches_50 (by decide) 51 rfl ?_
          refine x_goto X d_Model_matches_51 55 (by decide) ?_
          exact hret _ _ _ _ _ (some (.int 1)) (Nat.le_refl 0) (Nat.le_refl 0) ⟨_, rfl, (Or.inr rfl), hf⟩ ⟨⟨_, rfl, xbl_nar (Or.inr rfl)⟩, d_Model_matches_55⟩

set_option maxRecDepth 100000 in
def wp_Model_stateOf (z : Nat → Nat) (Q : Int32 → xh → Prop) (a0 : Nat) (x1 : Int32) (x2 : Int32) (hp : xh) : Prop :=
  (¬ x1 = 0 → (∃ o1, fR hp a0 12 10 = some o1 ∧ (∃ v2, aI hp o1 0 2 = some v2 ∧ (Q (x2 >>> (v2 &&& 31)) hp)))) ∧ (x1 = 0 → (∃ o3, fR hp a0 12 10 = some o3 ∧ (∃ v4, aI hp o3 0 2 = some v4 ∧ (Q (x2 &&& (((1 : Int32) <<< (v4 &&& 31)) - 1)) hp))))
set_option maxRecDepth 100000 in
set_option maxHeartbeats 4000000 in
theorem t_Model_stateOf {l : Launch} {G : xG} {z : Nat → Nat} {Q : Int32 → xh → Prop} {a0 : Nat} {x1 : Int32} {x2 : Int32} {hp : xh} (hf : wp_Model_stateOf z Q a0 x1 x2 hp) : xM l G z y_Model_stateOf b_Model_stateOf 3 (some .int) rm_Model_stateOf [.ref a0, .int x1, .int x2] hp (xqi Q) := by
  refine xM_of (by decide) (Nat.le_of_ble_eq_true rfl) (lv0 := [(0, .ref a0), (1, .int x1), (2, .int x2)]) rfl ?_
  intro p e s m args below meth c A Qw X hret
  unfold wp_Model_stateOf at hf
  refine x_iload_n X (q := 1) d_Model_stateOf_0 rfl 1 rfl ?_
  refine x_if_ne X hf d_Model_stateOf_1 19 4 (by decide) rfl (fun hf => ?_) (fun hf => ?_)
  · refine x_iload_n X (q := 2) d_Model_stateOf_19 rfl 20 rfl ?_
    refine x_aload_n X (q := 0) d_Model_stateOf_20 rfl 21 rfl ?_
    refine x_getR X hf (ci := 12) (j := 10) rfl (by decide) rfl lf_Model_20 d_Model_stateOf_21 24 rfl (fun o1 hf => ?_)
    refine x_iconst X (v := 2) d_Model_stateOf_24 (by decide) 25 rfl ?_
    refine x_iald X hf d_Model_stateOf_25 26 rfl (fun v2 hf => ?_)
    refine x_ishr X d_Model_stateOf_26 27 rfl ?_
    exact hret _ _ _ _ _ (some (.int (x2 >>> (v2 &&& 31)))) (Nat.le_refl 0) (Nat.le_refl 0) ⟨_, rfl, hf⟩ ⟨⟨_, rfl, rfl⟩, d_Model_stateOf_27⟩
  · refine x_iload_n X (q := 2) d_Model_stateOf_4 rfl 5 rfl ?_
    refine x_iconst X (v := 1) d_Model_stateOf_5 (by decide) 6 rfl ?_
    refine x_aload_n X (q := 0) d_Model_stateOf_6 rfl 7 rfl ?_
    refine x_getR X hf (ci := 12) (j := 10) rfl (by decide) rfl lf_Model_20 d_Model_stateOf_7 10 rfl (fun o3 hf => ?_)
    refine x_iconst X (v := 2) d_Model_stateOf_10 (by decide) 11 rfl ?_
    refine x_iald X hf d_Model_stateOf_11 12 rfl (fun v4 hf => ?_)
    refine x_ishl X d_Model_stateOf_12 13 rfl ?_
    refine x_iconst X (v := 1) d_Model_stateOf_13 (by decide) 14 rfl ?_
    refine x_isub X d_Model_stateOf_14 15 rfl ?_
    refine x_iand X d_Model_stateOf_15 16 rfl ?_
    refine x_goto X d_Model_stateOf_16 27 (by decide) ?_
    exact hret _ _ _ _ _ (some (.int (x2 &&& (((1 : Int32) <<< (v4 &&& 31)) - 1)))) (Nat.le_refl 0) (Nat.le_refl 0) ⟨_, rfl, hf⟩ ⟨⟨_, rfl, rfl⟩, d_Model_stateOf_27⟩

set_option maxRecDepth 100000 in
def wp_Model_reckonBoth (z : Nat → Nat) (Q : xh → Prop) (a0 : Nat) (x1 : Int32) (hp : xh) : Prop :=
  xcls hp a0 12 ∧ wp_Model_stateOf z (fun v2 h1 => xcls h1 a0 12 ∧ wp_Model_reckon z (fun h3 => xcls h3 a0 12 ∧ wp_Model_stateOf z (fun v5 h4 => xcls h4 a0 12 ∧ wp_Model_reckon z (fun h6 => Q h6) a0 1 v5 h4) a0 1 x1 h3) a0 0 v2 h1) a0 0 x1 hp
set_option maxRecDepth 100000 in
set_option maxHeartbeats 4000000 in
theorem t_Model_reckonBoth {l : Launch} {G : xG} {z : Nat → Nat} {Q : xh → Prop} {a0 : Nat} {x1 : Int32} {hp : xh} (hf : wp_Model_reckonBoth z Q a0 x1 hp) : xM l G z y_Model_reckonBoth b_Model_reckonBoth 2 none rm_Model_reckonBoth [.ref a0, .int x1] hp (xqv Q) := by
  refine xM_of (by decide) (Nat.le_of_ble_eq_true rfl) (lv0 := [(0, .ref a0), (1, .int x1)]) rfl ?_
  intro p e s m args below meth c A Qw X hret
  unfold wp_Model_reckonBoth at hf
  refine x_aload_n X (q := 0) d_Model_reckonBoth_0 rfl 1 rfl ?_
  refine x_iconst X (v := 0) d_Model_reckonBoth_1 (by decide) 2 rfl ?_
  refine x_aload_n X (q := 0) d_Model_reckonBoth_2 rfl 3 rfl ?_
  refine x_iconst X (v := 0) d_Model_reckonBoth_3 (by decide) 4 rfl ?_
  refine x_iload_n X (q := 1) d_Model_reckonBoth_4 rfl 5 rfl ?_
  refine x_callV0i X (t_Model_stateOf hf.2) hf.1 (ci := 12) rfl rfl lm_Model_267 im_Model_stateOf sl_Model_stateOf cd_Model_stateOf in_Model ds_Model_stateOf rfl rfl (Nat.le_of_ble_eq_true rfl) (Nat.le_of_ble_eq_true rfl) (Nat.le_of_ble_eq_true rfl) rfl rfl (Nat.le_refl 0) (Nat.le_refl 0) d_Model_reckonBoth_5 8 rfl (fun v2 h1 hf => ?_)
  refine x_callV0v X (t_Model_reckon hf.2) hf.1 (ci := 12) rfl rfl lm_Model_261 im_Model_reckon sl_Model_reckon cd_Model_reckon in_Model ds_Model_reckon rfl rfl (Nat.le_of_ble_eq_true rfl) (Nat.le_of_ble_eq_true rfl) (Nat.le_of_ble_eq_true rfl) rfl rfl (Nat.le_refl 0) (Nat.le_refl 0) d_Model_reckonBoth_8 11 rfl (fun h3 hf => ?_)
  refine x_aload_n X (q := 0) d_Model_reckonBoth_11 rfl 12 rfl ?_
  refine x_iconst X (v := 1) d_Model_reckonBoth_12 (by decide) 13 rfl ?_
  refine x_aload_n X (q := 0) d_Model_reckonBoth_13 rfl 14 rfl ?_
  refine x_iconst X (v := 1) d_Model_reckonBoth_14 (by decide) 15 rfl ?_
  refine x_iload_n X (q := 1) d_Model_reckonBoth_15 rfl 16 rfl ?_
  refine x_callV0i X (t_Model_stateOf hf.2) hf.1 (ci := 12) rfl rfl lm_Model_267 im_Model_stateOf sl_Model_stateOf cd_Model_stateOf in_Model ds_Model_stateOf rfl rfl (Nat.le_of_ble_eq_true rfl) (Nat.le_of_ble_eq_true rfl) (Nat.le_of_ble_eq_true rfl) rfl rfl (Nat.le_refl 0) (Nat.le_refl 0) d_Model_reckonBoth_16 19 rfl (fun v5 h4 hf => ?_)
  refine x_callV0v X (t_Model_reckon hf.2) hf.1 (ci := 12) rfl rfl lm_Model_261 im_Model_reckon sl_Model_reckon cd_Model_reckon in_Model ds_Model_reckon rfl rfl (Nat.le_of_ble_eq_true rfl) (Nat.le_of_ble_eq_true rfl) (Nat.le_of_ble_eq_true rfl) rfl rfl (Nat.le_refl 0) (Nat.le_refl 0) d_Model_reckonBoth_19 22 rfl (fun h6 hf => ?_)
  exact hret _ _ _ _ _ none (Nat.le_refl 0) (Nat.le_refl 0) ⟨rfl, hf⟩ ⟨rfl, d_Model_reckonBoth_22⟩

set_option maxRecDepth 100000 in
def wp_Model_mask (z : Nat → Nat) (Q : Int64 → xh → Prop) (a0 : Nat) (hp : xh) : Prop :=
  ∃ v1, fI hp a0 12 39 = some v1 ∧ ((¬ v1 = 64 → (∃ v2, fI hp a0 12 39 = some v2 ∧ (Q ((1 <<< (v2.toInt64 &&& 63)) - 1) hp))) ∧ (v1 = 64 → (Q (-1) hp)))
set_option maxRecDepth 100000 in
set_option maxHeartbeats 4000000 in
theorem t_Model_mask {l : Launch} {G : xG} {z : Nat → Nat} {Q : Int64 → xh → Prop} {a0 : Nat} {hp : xh} (hf : wp_Model_mask z Q a0 hp) : xM l G z y_Model_mask b_Model_mask 1 (some .long) rm_Model_mask [.ref a0] hp (xql Q) := by
  refine xM_of (by decide) (Nat.le_of_ble_eq_true rfl) (lv0 := [(0, .ref a0)]) rfl ?_
  intro p e s m args below meth c A Qw X hret
  unfold wp_Model_mask at hf
  refine x_aload_n X (q := 0) d_Model_mask_0 rfl 1 rfl ?_
  refine x_getI X hf (ci := 12) (j := 39) rfl (by decide) rfl lf_Model_274 d_Model_mask_1 4 rfl (fun v1 hf => ?_)
  refine x_bipush X (v := 64) d_Model_mask_4 (by decide) 6 rfl ?_
  refine x_icmp_ne X hf d_Model_mask_6 15 9 (by decide) rfl (fun hf => ?_) (fun hf => ?_)
  · refine x_lconst X (v := 1) d_Model_mask_15 (by decide) 16 rfl ?_
    refine x_aload_n X (q := 0) d_Model_mask_16 rfl 17 rfl ?_
    refine x_getI X hf (ci := 12) (j := 39) rfl (by decide) rfl lf_Model_274 d_Model_mask_17 20 rfl (fun v2 hf => ?_)
    refine x_lshl X d_Model_mask_20 21 rfl ?_
    refine x_lconst X (v := 1) d_Model_mask_21 (by decide) 22 rfl ?_
    refine x_lsub X d_Model_mask_22 23 rfl ?_
    exact hret _ _ _ _ _ (some (.long ((1 <<< (v2.toInt64 &&& 63)) - 1))) (Nat.le_refl 0) (Nat.le_refl 0) ⟨_, rfl, hf⟩ ⟨rfl, d_Model_mask_23⟩
  · refine x_ldc2 X (v := (-1)) cl_Model_247 d_Model_mask_9 12 rfl ?_
    refine x_goto X d_Model_mask_12 23 (by decide) ?_
    exact hret _ _ _ _ _ (some (.long (-1))) (Nat.le_refl 0) (Nat.le_refl 0) ⟨_, rfl, hf⟩ ⟨rfl, d_Model_mask_23⟩

set_option maxRecDepth 100000 in
def wp_Model_tellsBy (z : Nat → Nat) (Q : Int64 → xh → Prop) (a0 : Nat) (x1 : Int32) (hp : xh) : Prop :=
  ∃ o1, fR hp a0 12 14 = some o1 ∧ (∃ v2, aI hp o1 0 x1 = some v2 ∧ (xcls hp a0 12 ∧ wp_Model_of z (fun v4 h3 => ∃ o5, fR h3 a0 12 14 = some o5 ∧ (∃ v6, aI h3 o5 0 (8 + x1) = some v6 ∧ (xcls h3 a0 12 ∧ wp_Model_of z (fun v8 h7 => xcls h7 a0 12 ∧ wp_Model_mask z (fun v10 h9 => Q ((v4 ^^^ v8) &&& v10) h9) a0 h7) a0 1 v6 h3))) a0 0 v2 hp))
set_option maxRecDepth 100000 in
set_option maxHeartbeats 4000000 in
theorem t_Model_tellsBy {l : Launch} {G : xG} {z : Nat → Nat} {Q : Int64 → xh → Prop} {a0 : Nat} {x1 : Int32} {hp : xh} (hf : wp_Model_tellsBy z Q a0 x1 hp) : xM l G z y_Model_tellsBy b_Model_tellsBy 2 (some .long) rm_Model_tellsBy [.ref a0, .int x1] hp (xql Q) := by
  refine xM_of (by decide) (Nat.le_of_ble_eq_true rfl) (lv0 := [(0, .ref a0), (1, .int x1)]) rfl ?_
  intro p e s m args below meth c A Qw X hret
  unfold wp_Model_tellsBy at hf
  refine x_aload_n X (q := 0) d_Model_tellsBy_0 rfl 1 rfl ?_
  refine x_iconst X (v := 0) d_Model_tellsBy_1 (by decide) 2 rfl ?_
  refine x_aload_n X (q := 0) d_Model_tellsBy_2 rfl 3 rfl ?_
  refine x_getR X hf (ci := 12) (j := 14) rfl (by decide) rfl lf_Model_33 d_Model_tellsBy_3 6 rfl (fun o1 hf => ?_)
  refine x_iload_n X (q := 1) d_Model_tellsBy_6 rfl 7 rfl ?_
  refine x_iald X hf d_Model_tellsBy_7 8 rfl (fun v2 hf => ?_)
  refine x_callV0l X (t_Model_of hf.2) hf.1 (ci := 12) rfl rfl lm_Model_253 im_Model_of sl_Model_of cd_Model_of in_Model ds_Model_of rfl rfl (Nat.le_of_ble_eq_true rfl) (Nat.le_of_ble_eq_true rfl) (Nat.le_of_ble_eq_true rfl) rfl rfl (Nat.le_refl 0) (Nat.le_refl 0) d_Model_tellsBy_8 11 rfl (fun v4 h3 hf => ?_)
  refine x_aload_n X (q := 0) d_Model_tellsBy_11 rfl 12 rfl ?_
  refine x_iconst X (v := 1) d_Model_tellsBy_12 (by decide) 13 rfl ?_
  refine x_aload_n X (q := 0) d_Model_tellsBy_13 rfl 14 rfl ?_
  refine x_getR X hf (ci := 12) (j := 14) rfl (by decide) rfl lf_Model_33 d_Model_tellsBy_14 17 rfl (fun o5 hf => ?_)
  refine x_bipush X (v := 8) d_Model_tellsBy_17 (by decide) 19 rfl ?_
  refine x_iload_n X (q := 1) d_Model_tellsBy_19 rfl 20 rfl ?_
  refine x_iadd X d_Model_tellsBy_20 21 rfl ?_
  refine x_iald X hf d_Model_tellsBy_21 22 rfl (fun v6 hf => ?_)
  refine x_callV0l X (t_Model_of hf.2) hf.1 (ci := 12) rfl rfl lm_Model_253 im_Model_of sl_Model_of cd_Model_of in_Model ds_Model_of rfl rfl (Nat.le_of_ble_eq_true rfl) (Nat.le_of_ble_eq_true rfl) (Nat.le_of_ble_eq_true rfl) rfl rfl (Nat.le_refl 0) (Nat.le_refl 0) d_Model_tellsBy_22 25 rfl (fun v8 h7 hf => ?_)
  refine x_lxor X d_Model_tellsBy_25 26 rfl ?_
  refine x_aload_n X (q := 0) d_Model_tellsBy_26 rfl 27 rfl ?_
  refine x_callV0l X (t_Model_mask hf.2) hf.1 (ci := 12) rfl rfl lm_Model_270 im_Model_mask sl_Model_mask cd_Model_mask in_Model ds_Model_mask rfl rfl (Nat.le_of_ble_eq_true rfl) (Nat.le_of_ble_eq_true rfl) (Nat.le_of_ble_eq_true rfl) rfl rfl (Nat.le_refl 0) (Nat.le_refl 0) d_Model_tellsBy_27 30 rfl (fun v10 h9 hf => ?_)
  refine x_land X d_Model_tellsBy_30 31 rfl ?_
  exact hret _ _ _ _ _ (some (.long ((v4 ^^^ v8) &&& v10))) (Nat.le_refl 0) (Nat.le_refl 0) ⟨_, rfl, hf⟩ ⟨rfl, d_Model_tellsBy_31⟩

set_option maxRecDepth 100000 in
def wp_Model_find_328_b (z : Nat → Nat) (Q : xh → Prop)  (k328 : Nat × Int32 × xh → Prop) (a0 : Nat) (x2 : Int32) (hp : xh) : Prop :=
  ∃ v1, fI hp a0 12 46 = some v1 ∧ (xcls hp a0 12 ∧ wp_Model_tellsBy z (fun v3 h2 => (¬ (lg_cmp ((v3 >>> (x2.toInt64 &&& 63)) &&& 1) 0) = 0 → Q h2) ∧ ((lg_cmp ((v3 >>> (x2.toInt64 &&& 63)) &&& 1) 0) = 0 → (∃ v4, fI h2 a0 12 46 = some v4 ∧ (∃ h5, pV h2 a0 12 46 (.int (v4 + 1)) = some h5 ∧ (k328 (a0, x2, h5)))))) a0 v1 hp)
set_option maxRecDepth 100000 in
def wp_Model_find_328 (z : Nat → Nat) (Q : xh → Prop)  (a0 : Nat) (x2 : Int32) (hp : xh) : Prop := ∃ f : Nat, xloop (fun k328 a => wp_Model_find_328_b z Q  k328 a.1 a.2.1 a.2.2) f (a0, x2, hp)
set_option maxRecDepth 100000 in
set_option maxHeartbeats 4000000 in
theorem t_Model_find_328 {p : Program} {l : Launch} {e : Env} {s : State} {m : MethodId} {args : Array Value} {below : List Frame} {meth : Method} {c : Code} {G : xG} {z : Nat → Nat} {A : Nat → Prop} {Qw : State → Prop} {Q : xh → Prop} {a0 : Nat} {x2 : Int32} {hp : xh} (X : xX p l e rm_Model_find s m args below meth c G z A y_Model_find b_Model_find 5) (hret : xRet p l e rm_Model_find s m args below meth c G A 5 Qw b_Model_find none (xqv Q))  (hf : wp_Model_find_328 z Q  a0 x2 hp) : xE p l e rm_Model_find s m args below meth c G A 5 Qw 0 0 hp 328 [(0, .ref a0), (2, .int x2)] [] := by
  obtain ⟨f, hf⟩ := hf
  refine xloop_ind (F := fun k328 a => wp_Model_find_328_b z Q  k328 a.1 a.2.1 a.2.2) (E := fun a => xE p l e rm_Model_find s m args below meth c G A 5 Qw 0 0 a.2.2 328 [(0, .ref (a.1)), (2, .int (a.2.1))] []) ?_ f (a0, x2, hp) hf
  intro k328 hk a hf
  obtain ⟨a0, x2, hp⟩ := a
  have hk328 : ∀ (a0 : Nat) (x2 : Int32) (hp : xh), k328 (a0, x2, hp) → xE p l e rm_Model_find s m args below meth c G A 5 Qw 0 0 hp 328 [(0, .ref a0), (2, .int x2)] [] := fun a0 x2 hp h => hk (a0, x2, hp) h
  have hf : wp_Model_find_328_b z Q  k328 a0 x2 hp := hf
  unfold wp_Model_find_328_b at hf
  refine x_aload_n X (q := 0) d_Model_find_328 rfl 329 rfl ?_
  refine x_aload_n X (q := 0) d_Model_find_329 rfl 330 rfl ?_
  refine x_getI X hf (ci := 12) (j := 46) rfl (by decide) rfl lf_Model_295 d_Model_find_330 333 rfl (fun v1 hf => ?_)
  refine x_callV0l X (t_Model_tellsBy hf.2) hf.1 (ci := 12) rfl rfl lm_Model_283 im_Model_tellsBy sl_Model_tellsBy cd_Model_tellsBy in_Model ds_Model_tellsBy rfl rfl (Nat.le_of_ble_eq_true rfl) (Nat.le_of_ble_eq_true rfl) (Nat.le_of_ble_eq_true rfl) rfl rfl (Nat.le_refl 0) (Nat.le_refl 0) d_Model_find_333 336 rfl (fun v3 h2 hf => ?_)
  refine x_iload_n X (q := 1) d_Model_find_336 rfl 337 rfl ?_
  refine x_lshr X d_Model_find_337 338 rfl ?_
  refine x_lconst X (v := 1) d_Model_find_338 (by decide) 339 rfl ?_
  refine x_land X d_Model_find_339 340 rfl ?_
  refine x_lconst X (v := 0) d_Model_find_340 (by decide) 341 rfl ?_
  refine x_lcmp X d_Model_find_341 342 rfl ?_
  refine x_if_ne X hf d_Model_find_342 358 345 (by decide) rfl (fun hf => ?_) (fun hf => ?_)
  · exact hret _ _ _ _ _ none (Nat.le_refl 0) (Nat.le_refl 0) ⟨rfl, hf⟩ ⟨rfl, d_Model_find_358⟩
  · refine x_aload_n X (q := 0) d_Model_find_345 rfl 346 rfl ?_
    refine x_dup X rfl d_Model_find_346 347 rfl ?_
    refine x_getI X hf (ci := 12) (j := 46) rfl (by decide) rfl lf_Model_295 d_Model_find_347 350 rfl (fun v4 hf => ?_)
    refine x_iconst X (v := 1) d_Model_find_350 (by decide) 351 rfl ?_
    refine x_iadd X d_Model_find_351 352 rfl ?_
    refine x_put X hf (ci := 12) (j := 46) (ty := .int) rfl (by decide) rfl lf_Model_295 rfl (by decide +kernel) rfl rfl d_Model_find_352 355 rfl (fun h5 hf => ?_)
    refine x_goto X d_Model_find_355 328 (by decide) ?_
    exact x_sub [0, 1] rfl (hk328 _ _ _ hf)
set_option maxRecDepth 100000 in
def wp_Model_find_318 (z : Nat → Nat) (Q : xh → Prop)  (a0 : Nat) (x1 : Int32) (x2 : Int32) (hp : xh) : Prop :=
  xcls hp a0 12 ∧ wp_Model_reckonBoth z (fun h1 => ∃ h2, pV h1 a0 12 46 (.int 0) = some h2 ∧ wp_Model_find_328 z Q a0 x2 h2) a0 x1 hp
set_option maxRecDepth 100000 in
set_option maxHeartbeats 4000000 in
theorem t_Model_find_318 {p : Program} {l : Launch} {e : Env} {s : State} {m : MethodId} {args : Array Value} {below : List Frame} {meth : Method} {c : Code} {G : xG} {z : Nat → Nat} {A : Nat → Prop} {Qw : State → Prop} {Q : xh → Prop} {a0 : Nat} {x1 : Int32} {x2 : Int32} {hp : xh} (X : xX p l e rm_Model_find s m args below meth c G z A y_Model_find b_Model_find 5) (hret : xRet p l e rm_Model_find s m args below meth c G A 5 Qw b_Model_find none (xqv Q))  (hf : wp_Model_find_318 z Q  a0 x1 x2 hp) : xE p l e rm_Model_find s m args below meth c G A 5 Qw 0 0 hp 318 [(0, .ref a0), (1, .int x1), (2, .int x2)] [] := by
  unfold wp_Model_find_318 at hf
  refine x_aload_n X (q := 0) d_Model_find_318 rfl 319 rfl ?_
  refine x_iload_n X (q := 1) d_Model_find_319 rfl 320 rfl ?_
  refine x_callV0v X (t_Model_reckonBoth hf.2) hf.1 (ci := 12) rfl rfl lm_Model_280 im_Model_reckonBoth sl_Model_reckonBoth cd_Model_reckonBoth in_Model ds_Model_reckonBoth rfl rfl (Nat.le_of_ble_eq_true rfl) (Nat.le_of_ble_eq_true rfl) (Nat.le_of_ble_eq_true rfl) rfl rfl (Nat.le_refl 0) (Nat.le_refl 0) d_Model_find_320 323 rfl (fun h1 hf => ?_)
  refine x_aload_n X (q := 0) d_Model_find_323 rfl 324 rfl ?_
  refine x_iconst X (v := 0) d_Model_find_324 (by decide) 325 rfl ?_
  refine x_put X hf (ci := 12) (j := 46) (ty := .int) rfl (by decide) rfl lf_Model_295 rfl (by decide +kernel) rfl rfl d_Model_find_325 328 rfl (fun h2 hf => ?_)
  exact x_sub [0, 2] rfl (t_Model_find_328 X hret hf)
set_option maxRecDepth 100000 in
def wp_Model_find_275_b (z : Nat → Nat) (Q : xh → Prop)  (k275 : Nat × Int32 × Int32 × xh → Prop) (a0 : Nat) (x1 : Int32) (x2 : Int32) (hp : xh) : Prop :=
  ∃ o1, fR hp a0 12 34 = some o1 ∧ (∃ v2, aL hp o1 3 x1 = some v2 ∧ ((¬ (lg_cmp ((v2 >>> (x2.toInt64 &&& 63)) &&& 1) 0) = 0 → (∃ v3, fI hp a0 12 41 = some v3 ∧ ((256 < v3 → wp_Model_find_318 z Q a0 x1 x2 hp) ∧ (¬ 256 < v3 → (∃ o4, fR hp a0 12 45 = some o4 ∧ (∃ v5, fI hp a0 12 41 = some v5 ∧ (∃ h6, sI hp o4 0 (v5 - 1) x2 = some h6 ∧ wp_Model_find_318 z Q a0 x1 x2 h6))))))) ∧ ((lg_cmp ((v2 >>> (x2.toInt64 &&& 63)) &&& 1) 0) = 0 → (k275 (a0, x1, (x2 + 1), hp)))))
set_option maxRecDepth 100000 in
def wp_Model_find_275 (z : Nat → Nat) (Q : xh → Prop)  (a0 : Nat) (x1 : Int32) (x2 : Int32) (hp : xh) : Prop := ∃ f : Nat, xloop (fun k275 a => wp_Model_find_275_b z Q  k275 a.1 a.2.1 a.2.2.1 a.2.2.2) f (a0, x1, x2, hp)
set_option maxRecDepth 100000 in
set_option maxHeartbeats 4000000 in
theorem t_Model_find_275 {p : Program} {l : Launch} {e : Env} {s : State} {m : MethodId} {args : Array Value} {below : List Frame} {meth : Method} {c : Code} {G : xG} {z : Nat → Nat} {A : Nat → Prop} {Qw : State → Prop} {Q : xh → Prop} {a0 : Nat} {x1 : Int32} {x2 : Int32} {hp : xh} (X : xX p l e rm_Model_find s m args below meth c G z A y_Model_find b_Model_find 5) (hret : xRet p l e rm_Model_find s m args below meth c G A 5 Qw b_Model_find none (xqv Q))  (hf : wp_Model_find_275 z Q  a0 x1 x2 hp) : xE p l e rm_Model_find s m args below meth c G A 5 Qw 0 0 hp 275 [(0, .ref a0), (1, .int x1), (2, .int x2)] [] := by
  obtain ⟨f, hf⟩ := hf
  refine xloop_ind (F := fun k275 a => wp_Model_find_275_b z Q  k275 a.1 a.2.1 a.2.2.1 a.2.2.2) (E := fun a => xE p l e rm_Model_find s m args below meth c G A 5 Qw 0 0 a.2.2.2 275 [(0, .ref (a.1)), (1, .int (a.2.1)), (2, .int (a.2.2.1))] []) ?_ f (a0, x1, x2, hp) hf
  intro k275 hk a hf
  obtain ⟨a0, x1, x2, hp⟩ := a
  have hk275 : ∀ (a0 : Nat) (x1 : Int32) (x2 : Int32) (hp : xh), k275 (a0, x1, x2, hp) → xE p l e rm_Model_find s m args below meth c G A 5 Qw 0 0 hp 275 [(0, .ref a0), (1, .int x1), (2, .int x2)] [] := fun a0 x1 x2 hp h => hk (a0, x1, x2, hp) h
  have hf : wp_Model_find_275_b z Q  k275 a0 x1 x2 hp := hf
  unfold wp_Model_find_275_b at hf
  refine x_aload_n X (q := 0) d_Model_find_275 rfl 276 rfl ?_
  refine x_getR X hf (ci := 12) (j := 34) rfl (by decide) rfl lf_Model_89 d_Model_find_276 279 rfl (fun o1 hf => ?_)
  refine x_iload_n X (q := 1) d_Model_find_279 rfl 280 rfl ?_
  refine x_lald X hf d_Model_find_280 281 rfl (fun v2 hf => ?_)
  refine x_iload_n X (q := 2) d_Model_find_281 rfl 282 rfl ?_
  refine x_lshr X d_Model_find_282 283 rfl ?_
  refine x_lconst X (v := 1) d_Model_find_283 (by decide) 284 rfl ?_
  refine x_land X d_Model_find_284 285 rfl ?_
  refine x_lconst X (v := 0) d_Model_find_285 (by decide) 286 rfl ?_
  refine x_lcmp X d_Model_find_286 287 rfl ?_
  refine x_if_ne X hf d_Model_find_287 296 290 (by decide) rfl (fun hf => ?_) (fun hf => ?_)
  · refine x_aload_n X (q := 0) d_Model_find_296 rfl 297 rfl ?_
    refine x_getI X hf (ci := 12) (j := 41) rfl (by decide) rfl lf_Model_289 d_Model_find_297 300 rfl (fun v3 hf => ?_)
    refine x_sipush X (v := 256) d_Model_find_300 (by decide) 303 rfl ?_
    refine x_icmp_gt X hf d_Model_find_303 318 306 (by decide) rfl (fun hf => ?_) (fun hf => ?_)
    · exact x_sub [0, 1, 2] rfl (t_Model_find_318 X hret hf)
    · refine x_aload_n X (q := 0) d_Model_find_306 rfl 307 rfl ?_
      refine x_getR X hf (ci := 12) (j := 45) rfl (by decide) rfl lf_Model_112 d_Model_find_307 310 rfl (fun o4 hf => ?_)
      refine x_aload_n X (q := 0) d_Model_find_310 rfl 311 rfl ?_
      refine x_getI X hf (ci := 12) (j := 41) rfl (by decide) rfl lf_Model_289 d_Model_find_311 314 rfl (fun v5 hf => ?_)
      refine x_iconst X (v := 1) d_Model_find_314 (by decide) 315 rfl ?_
      refine x_isub X d_Model_find_315 316 rfl ?_
      refine x_iload_n X (q := 2) d_Model_find_316 rfl 317 rfl ?_
      refine x_iast X hf d_Model_find_317 318 rfl (fun h6 hf => ?_)
      exact x_sub [0, 1, 2] rfl (t_Model_find_318 X hret hf)
  · refine x_iinc X (q := 2) (v := (x2 + 1)) (lv' := [(2, .int (x2 + 1)), (0, .ref a0), (1, .int x1)]) d_Model_find_290 rfl (by rfl) (by decide) rfl 293 rfl ?_
    refine x_goto X d_Model_find_293 275 (by decide) ?_
    exact x_sub [1, 2, 0] rfl (hk275 _ _ _ _ hf)
set_option maxRecDepth 100000 in
def wp_Model_find_255 (z : Nat → Nat) (Q : xh → Prop) (k182 : Nat × Int32 × Int32 × xh → Prop) (a0 : Nat) (x1 : Int32) (x2 : Int32) (x3 : Int32) (hp : xh) : Prop :=
  ∃ o1, fR hp a0 12 35 = some o1 ∧ (∃ v2, aI hp o1 4 ((32 * x1) + x3) = some v2 ∧ (k182 (a0, v2, (x2 + 1), hp)))
set_option maxRecDepth 100000 in
set_option maxHeartbeats 4000000 in
theorem t_Model_find_255 {p : Program} {l : Launch} {e : Env} {s : State} {m : MethodId} {args : Array Value} {below : List Frame} {meth : Method} {c : Code} {G : xG} {z : Nat → Nat} {A : Nat → Prop} {Qw : State → Prop} {Q : xh → Prop} {k182 : Nat × Int32 × Int32 × xh → Prop} {a0 : Nat} {x1 : Int32} {x2 : Int32} {x3 : Int32} {hp : xh} (X : xX p l e rm_Model_find s m args below meth c G z A y_Model_find b_Model_find 5) (hret : xRet p l e rm_Model_find s m args below meth c G A 5 Qw b_Model_find none (xqv Q)) (hk182 : ∀ (a0 : Nat) (x1 : Int32) (x2 : Int32) (hp : xh), k182 (a0, x1, x2, hp) → xE p l e rm_Model_find s m args below meth c G A 5 Qw 0 0 hp 182 [(0, .ref a0), (1, .int x1), (2, .int x2)] []) (hf : wp_Model_find_255 z Q k182 a0 x1 x2 x3 hp) : xE p l e rm_Model_find s m args below meth c G A 5 Qw 0 0 hp 255 [(0, .ref a0), (1, .int x1), (2, .int x2), (3, .int x3)] [] := by
  unfold wp_Model_find_255 at hf
  refine x_aload_n X (q := 0) d_Model_find_255 rfl 256 rfl ?_
  refine x_getR X hf (ci := 12) (j := 35) rfl (by decide) rfl lf_Model_93 d_Model_find_256 259 rfl (fun o1 hf => ?_)
  refine x_bipush X (v := 32) d_Model_find_259 (by decide) 261 rfl ?_
  refine x_iload_n X (q := 1) d_Model_find_261 rfl 262 rfl ?_
  refine x_imul X d_Model_find_262 263 rfl ?_
  refine x_iload_n X (q := 3) d_Model_find_263 rfl 264 rfl ?_
  refine x_iadd X d_Model_find_264 265 rfl ?_
  refine x_cald X hf d_Model_find_265 266 rfl (fun v2 hf => ?_)
  refine x_istore_n X (lv' := [(1, .int v2), (0, .ref a0), (2, .int x2), (3, .int x3)]) d_Model_find_266 rfl (by decide) rfl 267 rfl ?_
  refine x_iinc X (q := 2) (v := (x2 + 1)) (lv' := [(2, .int (x2 + 1)), (1, .int v2), (0, .ref a0), (3, .int x3)]) d_Model_find_267 rfl (by rfl) (by decide) rfl 270 rfl ?_
  refine x_goto X d_Model_find_270 182 (by decide) ?_
  exact x_sub [2, 1, 0] rfl (hk182 _ _ _ _ hf)
set_option maxRecDepth 100000 in
def wp_Model_find_233 (z : Nat → Nat) (Q : xh → Prop) (k182 : Nat × Int32 × Int32 × xh → Prop) (k192 : Nat × Int32 × Int32 × Int32 × xh → Prop) (a0 : Nat) (x1 : Int32) (x2 : Int32) (x3 : Int32) (hp : xh) : Prop :=
  k192 (a0, x1, x2, (x3 + 1), hp)
set_option maxRecDepth 100000 in
set_option maxHeartbeats 4000000 in
theorem t_Model_find_233 {p : Program} {l : Launch} {e : Env} {s : State} {m : MethodId} {args : Array Value} {below : List Frame} {meth : Method} {c : Code} {G : xG} {z : Nat → Nat} {A : Nat → Prop} {Qw : State → Prop} {Q : xh → Prop} {k182 : Nat × Int32 × Int32 × xh → Prop} {k192 : Nat × Int32 × Int32 × Int32 × xh → Prop} {a0 : Nat} {x1 : Int32} {x2 : Int32} {x3 : Int32} {hp : xh} (X : xX p l e rm_Model_find s m args below meth c G z A y_Model_find b_Model_find 5) (hret : xRet p l e rm_Model_find s m args below meth c G A 5 Qw b_Model_find none (xqv Q)) (hk182 : ∀ (a0 : Nat) (x1 : Int32) (x2 : Int32) (hp : xh), k182 (a0, x1, x2, hp) → xE p l e rm_Model_find s m args below meth c G A 5 Qw 0 0 hp 182 [(0, .ref a0), (1, .int x1), (2, .int x2)] []) (hk192 : ∀ (a0 : Nat) (x1 : Int32) (x2 : Int32) (x3 : Int32) (hp : xh), k192 (a0, x1, x2, x3, hp) → xE p l e rm_Model_find s m args below meth c G A 5 Qw 0 0 hp 192 [(0, .ref a0), (1, .int x1), (2, .int x2), (3, .int x3)] []) (hf : wp_Model_find_233 z Q k182 k192 a0 x1 x2 x3 hp) : xE p l e rm_Model_find s m args below meth c G A 5 Qw 0 0 hp 233 [(0, .ref a0), (1, .int x1), (2, .int x2), (3, .int x3)] [] := by
  unfold wp_Model_find_233 at hf
  refine x_iinc X (q := 3) (v := (x3 + 1)) (lv' := [(3, .int (x3 + 1)), (0, .ref a0), (1, .int x1), (2, .int x2)]) d_Model_find_233 rfl (by rfl) (by decide) rfl 236 rfl ?_
  refine x_goto X d_Model_find_236 192 (by decide) ?_
  exact x_sub [1, 2, 3, 0] rfl (hk192 _ _ _ _ _ hf)
set_option maxRecDepth 100000 in
def wp_Model_find_192_b (z : Nat → Nat) (Q : xh → Prop) (k182 : Nat × Int32 × Int32 × xh → Prop) (k192 : Nat × Int32 × Int32 × Int32 × xh → Prop) (a0 : Nat) (x1 : Int32) (x2 : Int32) (x3 : Int32) (hp : xh) : Prop :=
  ∃ o1, fR hp a0 12 42 = some o1 ∧ (∃ o2, fR hp a0 12 35 = some o2 ∧ (∃ v3, aI hp o2 4 ((32 * x1) + x3) = some v3 ∧ (∃ v4, aI hp o1 2 v3 = some v4 ∧ ((v4 = 0 → wp_Model_find_233 z Q k182 k192 a0 x1 x2 x3 hp) ∧ (¬ v4 = 0 → (∃ o5, fR hp a0 12 37 = some o5 ∧ (∃ o6, fR hp a0 12 35 = some o6 ∧ (∃ v7, aI hp o6 4 ((32 * x1) + x3) = some v7 ∧ (∃ v8, aI hp o5 0 v7 = some v8 ∧ ((v8 = (x2 + 1) → ((256 < x2 → wp_Model_find_255 z Q k182 a0 x1 x2 x3 hp) ∧ (¬ 256 < x2 → (∃ o9, fR hp a0 12 45 = some o9 ∧ (∃ h10, sI hp o9 0 (x2 - 1) x3 = some h10 ∧ wp_Model_find_255 z Q k182 a0 x1 x2 x3 h10))))) ∧ (¬ v8 = (x2 + 1) → wp_Model_find_233 z Q k182 k192 a0 x1 x2 x3 hp)))))))))))
set_option maxRecDepth 100000 in
def wp_Model_find_192 (z : Nat → Nat) (Q : xh → Prop) (k182 : Nat × Int32 × Int32 × xh → Prop) (a0 : Nat) (x1 : Int32) (x2 : Int32) (x3 : Int32) (hp : xh) : Prop := ∃ f : Nat, xloop (fun k192 a => wp_Model_find_192_b z Q k182 k192 a.1 a.2.1 a.2.2.1 a.2.2.2.1 a.2.2.2.2) f (a0, x1, x2, x3, hp)
set_option maxRecDepth 100000 in
set_option maxHeartbeats 4000000 in
theorem t_Model_find_192 {p : Program} {l : Launch} {e : Env} {s : State} {m : MethodId} {args : Array Value} {below : List Frame} {meth : Method} {c : Code} {G : xG} {z : Nat → Nat} {A : Nat → Prop} {Qw : State → Prop} {Q : xh → Prop} {k182 : Nat × Int32 × Int32 × xh → Prop} {a0 : Nat} {x1 : Int32} {x2 : Int32} {x3 : Int32} {hp : xh} (X : xX p l e rm_Model_find s m args below meth c G z A y_Model_find b_Model_find 5) (hret : xRet p l e rm_Model_find s m args below meth c G A 5 Qw b_Model_find none (xqv Q)) (hk182 : ∀ (a0 : Nat) (x1 : Int32) (x2 : Int32) (hp : xh), k182 (a0, x1, x2, hp) → xE p l e rm_Model_find s m args below meth c G A 5 Qw 0 0 hp 182 [(0, .ref a0), (1, .int x1), (2, .int x2)] []) (hf : wp_Model_find_192 z Q k182 a0 x1 x2 x3 hp) : xE p l e rm_Model_find s m args below meth c G A 5 Qw 0 0 hp 192 [(0, .ref a0), (1, .int x1), (2, .int x2), (3, .int x3)] [] := by
  obtain ⟨f, hf⟩ := hf
  refine xloop_ind (F := fun k192 a => wp_Model_find_192_b z Q k182 k192 a.1 a.2.1 a.2.2.1 a.2.2.2.1 a.2.2.2.2) (E := fun a => xE p l e rm_Model_find s m args below meth c G A 5 Qw 0 0 a.2.2.2.2 192 [(0, .ref (a.1)), (1, .int (a.2.1)), (2, .int (a.2.2.1)), (3, .int (a.2.2.2.1))] []) ?_ f (a0, x1, x2, x3, hp) hf
  intro k192 hk a hf
  obtain ⟨a0, x1, x2, x3, hp⟩ := a
  have hk192 : ∀ (a0 : Nat) (x1 : Int32) (x2 : Int32) (x3 : Int32) (hp : xh), k192 (a0, x1, x2, x3, hp) → xE p l e rm_Model_find s m args below meth c G A 5 Qw 0 0 hp 192 [(0, .ref a0), (1, .int x1), (2, .int x2), (3, .int x3)] [] := fun a0 x1 x2 x3 hp h => hk (a0, x1, x2, x3, hp) h
  have hf : wp_Model_find_192_b z Q k182 k192 a0 x1 x2 x3 hp := hf
  unfold wp_Model_find_192_b at hf
  refine x_aload_n X (q := 0) d_Model_find_192 rfl 193 rfl ?_
  refine x_getR X hf (ci := 12) (j := 42) rfl (by decide) rfl lf_Model_103 d_Model_find_193 196 rfl (fun o1 hf => ?_)
  refine x_aload_n X (q := 0) d_Model_find_196 rfl 197 rfl ?_
  refine x_getR X hf (ci := 12) (j := 35) rfl (by decide) rfl lf_Model_93 d_Model_find_197 200 rfl (fun o2 hf => ?_)
  refine x_bipush X (v := 32) d_Model_find_200 (by decide) 202 rfl ?_
  refine x_iload_n X (q := 1) d_Model_find_202 rfl 203 rfl ?_
  refine x_imul X d_Model_find_203 204 rfl ?_
  refine x_iload_n X (q := 3) d_Model_find_204 rfl 205 rfl ?_
  refine x_iadd X d_Model_find_205 206 rfl ?_
  refine x_cald X hf d_Model_find_206 207 rfl (fun v3 hf => ?_)
  refine x_zald X hf d_Model_find_207 208 rfl (fun v4 hf => ?_)
  refine x_if_eq X hf d_Model_find_208 233 211 (by decide) rfl (fun hf => ?_) (fun hf => ?_)
  · exact x_sub [0, 1, 2, 3] rfl (t_Model_find_233 X hret hk182 hk192 hf)
  · refine x_aload_n X (q := 0) d_Model_find_211 rfl 212 rfl ?_
    refine x_getR X hf (ci := 12) (j := 37) rfl (by decide) rfl lf_Model_100 d_Model_find_212 215 rfl (fun o5 hf => ?_)
    refine x_aload_n X (q := 0) d_Model_find_215 rfl 216 rfl ?_
    refine x_getR X hf (ci := 12) (j := 35) rfl (by decide) rfl lf_Model_93 d_Model_find_216 219 rfl (fun o6 hf => ?_)
    refine x_bipush X (v := 32) d_Model_find_219 (by decide) 221 rfl ?_
    refine x_iload_n X (q := 1) d_Model_find_221 rfl 222 rfl ?_
    refine x_imul X d_Model_find_222 223 rfl ?_
    refine x_iload_n X (q := 3) d_Model_find_223 rfl 224 rfl ?_
    refine x_iadd X d_Model_find_224 225 rfl ?_
    refine x_cald X hf d_Model_find_225 226 rfl (fun v7 hf => ?_)
    refine x_iald X hf d_Model_find_226 227 rfl (fun v8 hf => ?_)
    refine x_iload_n X (q := 2) d_Model_find_227 rfl 228 rfl ?_
    refine x_iconst X (v := 1) d_Model_find_228 (by decide) 229 rfl ?_
    refine x_iadd X d_Model_find_229 230 rfl ?_
    refine x_icmp_eq X hf d_Model_find_230 239 233 (by decide) rfl (fun hf => ?_) (fun hf => ?_)
    · refine x_iload_n X (q := 2) d_Model_find_239 rfl 240 rfl ?_
      refine x_sipush X (v := 256) d_Model_find_240 (by decide) 243 rfl ?_
      refine x_icmp_gt X hf d_Model_find_243 255 246 (by decide) rfl (fun hf => ?_) (fun hf => ?_)
      · exact x_sub [0, 1, 2, 3] rfl (t_Model_find_255 X hret hk182 hf)
      · refine x_aload_n X (q := 0) d_Model_find_246 rfl 247 rfl ?_
        refine x_getR X hf (ci := 12) (j := 45) rfl (by decide) rfl lf_Model_112 d_Model_find_247 250 rfl (fun o9 hf => ?_)
        refine x_iload_n X (q := 2) d_Model_find_250 rfl 251 rfl ?_
        refine x_iconst X (v := 1) d_Model_find_251 (by decide) 252 rfl ?_
        refine x_isub X d_Model_find_252 253 rfl ?_
        refine x_iload_n X (q := 3) d_Model_find_253 rfl 254 rfl ?_
        refine x_iast X hf d_Model_find_254 255 rfl (fun h10 hf => ?_)
        exact x_sub [0, 1, 2, 3] rfl (t_Model_find_255 X hret hk182 hf)
    · exact x_sub [0, 1, 2, 3] rfl (t_Model_find_233 X hret hk182 hk192 hf)
set_option maxRecDepth 100000 in
def wp_Model_find_182_b (z : Nat → Nat) (Q : xh → Prop)  (k182 : Nat × Int32 × Int32 × xh → Prop) (a0 : Nat) (x1 : Int32) (x2 : Int32) (hp : xh) : Prop :=
  ∃ v1, fI hp a0 12 41 = some v1 ∧ ((v1 ≤ x2 → wp_Model_find_275 z Q a0 x1 0 hp) ∧ (¬ v1 ≤ x2 → wp_Model_find_192 z Q k182 a0 x1 x2 0 hp))
set_option maxRecDepth 100000 in
def wp_Model_find_182 (z : Nat → Nat) (Q : xh → Prop)  (a0 : Nat) (x1 : Int32) (x2 : Int32) (hp : xh) : Prop := ∃ f : Nat, xloop (fun k182 a => wp_Model_find_182_b z Q  k182 a.1 a.2.1 a.2.2.1 a.2.2.2) f (a0, x1, x2, hp)
set_option maxRecDepth 100000 in
set_option maxHeartbeats 4000000 in
theorem t_Model_find_182 {p : Program} {l : Launch} {e : Env} {s : State} {m : MethodId} {args : Array Value} {below : List Frame} {meth : Method} {c : Code} {G : xG} {z : Nat → Nat} {A : Nat → Prop} {Qw : State → Prop} {Q : xh → Prop} {a0 : Nat} {x1 : Int32} {x2 : Int32} {hp : xh} (X : xX p l e rm_Model_find s m args below meth c G z A y_Model_find b_Model_find 5) (hret : xRet p l e rm_Model_find s m args below meth c G A 5 Qw b_Model_find none (xqv Q))  (hf : wp_Model_find_182 z Q  a0 x1 x2 hp) : xE p l e rm_Model_find s m args below meth c G A 5 Qw 0 0 hp 182 [(0, .ref a0), (1, .int x1), (2, .int x2)] [] := by
  obtain ⟨f, hf⟩ := hf
  refine xloop_ind (F := fun k182 a => wp_Model_find_182_b z Q  k182 a.1 a.2.1 a.2.2.1 a.2.2.2) (E := fun a => xE p l e rm_Model_find s m args below meth c G A 5 Qw 0 0 a.2.2.2 182 [(0, .ref (a.1)), (1, .int (a.2.1)), (2, .int (a.2.2.1))] []) ?_ f (a0, x1, x2, hp) hf
  intro k182 hk a hf
  obtain ⟨a0, x1, x2, hp⟩ := a
  have hk182 : ∀ (a0 : Nat) (x1 : Int32) (x2 : Int32) (hp : xh), k182 (a0, x1, x2, hp) → xE p l e rm_Model_find s m args below meth c G A 5 Qw 0 0 hp 182 [(0, .ref a0), (1, .int x1), (2, .int x2)] [] := fun a0 x1 x2 hp h => hk (a0, x1, x2, hp) h
  have hf : wp_Model_find_182_b z Q  k182 a0 x1 x2 hp := hf
  unfold wp_Model_find_182_b at hf
  refine x_iload_n X (q := 2) d_Model_find_182 rfl 183 rfl ?_
  refine x_aload_n X (q := 0) d_Model_find_183 rfl 184 rfl ?_
  refine x_getI X hf (ci := 12) (j := 41) rfl (by decide) rfl lf_Model_289 d_Model_find_184 187 rfl (fun v1 hf => ?_)
  refine x_icmp_ge X hf d_Model_find_187 273 190 (by decide) rfl (fun hf => ?_) (fun hf => ?_)
  · refine x_iconst X (v := 0) d_Model_find_273 (by decide) 274 rfl ?_
    refine x_istore_n X (lv' := [(2, .int 0), (0, .ref a0), (1, .int x1)]) d_Model_find_274 rfl (by decide) rfl 275 rfl ?_
    exact x_sub [1, 2, 0] rfl (t_Model_find_275 X hret hf)
  · refine x_iconst X (v := 0) d_Model_find_190 (by decide) 191 rfl ?_
    refine x_istore_n X (lv' := [(3, .int 0), (0, .ref a0), (1, .int x1), (2, .int x2)]) d_Model_find_191 rfl (by decide) rfl 192 rfl ?_
    exact x_sub [1, 2, 3, 0] rfl (t_Model_find_192 X hret hk182 hf)
set_option maxRecDepth 100000 in
def wp_Model_find_172 (z : Nat → Nat) (Q : xh → Prop) (k30 : Nat × Int32 × xh → Prop) (a0 : Nat) (x1 : Int32) (hp : xh) : Prop :=
  k30 (a0, (x1 + (-1)), hp)
set_option maxRecDepth 100000 in
set_option maxHeartbeats 4000000 in
theorem t_Model_find_172 {p : Program} {l : Launch} {e : Env} {s : State} {m : MethodId} {args : Array Value} {below : List Frame} {meth : Method} {c : Code} {G : xG} {z : Nat → Nat} {A : Nat → Prop} {Qw : State → Prop} {Q : xh → Prop} {k30 : Nat × Int32 × xh → Prop} {a0 : Nat} {x1 : Int32} {hp : xh} (X : xX p l e rm_Model_find s m args below meth c G z A y_Model_find b_Model_find 5) (hret : xRet p l e rm_Model_find s m args below meth c G A 5 Qw b_Model_find none (xqv Q)) (hk30 : ∀ (a0 : Nat) (x1 : Int32) (hp : xh), k30 (a0, x1, hp) → xE p l e rm_Model_find s m args below meth c G A 5 Qw 0 0 hp 30 [(0, .ref a0), (1, .int x1)] []) (hf : wp_Model_find_172 z Q k30 a0 x1 hp) : xE p l e rm_Model_find s m args below meth c G A 5 Qw 0 0 hp 172 [(0, .ref a0), (1, .int x1)] [] := by
  unfold wp_Model_find_172 at hf
  refine x_iinc X (q := 1) (v := (x1 + (-1))) (lv' := [(1, .int (x1 + (-1))), (0, .ref a0)]) d_Model_find_172 rfl (by rfl) (by decide) rfl 175 rfl ?_
  refine x_goto X d_Model_find_175 30 (by decide) ?_
  exact x_sub [1, 0] rfl (hk30 _ _ _ hf)
set_option maxRecDepth 100000 in
def wp_Model_find_165 (z : Nat → Nat) (Q : xh → Prop) (k30 : Nat × Int32 × xh → Prop) (k97 : Nat × Int32 × Int32 × Int32 × xh → Prop) (a0 : Nat) (x1 : Int32) (x2 : Int32) (x3 : Int32) (s2 : Int32) (s1 : Int32) (s0 : Nat) (hp : xh) : Prop :=
  ∃ h1, sI hp s0 2 s1 (vp_nar .boolean s2) = some h1 ∧ (k97 (a0, x1, x2, (x3 + 1), h1))
set_option maxRecDepth 100000 in
set_option maxHeartbeats 4000000 in
theorem t_Model_find_165 {p : Program} {l : Launch} {e : Env} {s : State} {m : MethodId} {args : Array Value} {below : List Frame} {meth : Method} {c : Code} {G : xG} {z : Nat → Nat} {A : Nat → Prop} {Qw : State → Prop} {Q : xh → Prop} {k30 : Nat × Int32 × xh → Prop} {k97 : Nat × Int32 × Int32 × Int32 × xh → Prop} {a0 : Nat} {x1 : Int32} {x2 : Int32} {x3 : Int32} {s2 : Int32} {s1 : Int32} {s0 : Nat} {hp : xh} (X : xX p l e rm_Model_find s m args below meth c G z A y_Model_find b_Model_find 5) (hret : xRet p l e rm_Model_find s m args below meth c G A 5 Qw b_Model_find none (xqv Q)) (hk30 : ∀ (a0 : Nat) (x1 : Int32) (hp : xh), k30 (a0, x1, hp) → xE p l e rm_Model_find s m args below meth c G A 5 Qw 0 0 hp 30 [(0, .ref a0), (1, .int x1)] []) (hk97 : ∀ (a0 : Nat) (x1 : Int32) (x2 : Int32) (x3 : Int32) (hp : xh), k97 (a0, x1, x2, x3, hp) → xE p l e rm_Model_find s m args below meth c G A 5 Qw 0 0 hp 97 [(0, .ref a0), (1, .int x1), (2, .int x2), (3, .int x3)] []) (hf : wp_Model_find_165 z Q k30 k97 a0 x1 x2 x3 s2 s1 s0 hp) : xE p l e rm_Model_find s m args below meth c G A 5 Qw 0 0 hp 165 [(0, .ref a0), (1, .int x1), (2, .int x2), (3, .int x3)] [.int s2, .int s1, .ref s0] := by
  unfold wp_Model_find_165 at hf
  refine x_zast X hf d_Model_find_165 166 rfl (fun h1 hf => ?_)
  refine x_iinc X (q := 3) (v := (x3 + 1)) (lv' := [(3, .int (x3 + 1)), (0, .ref a0), (1, .int x1), (2, .int x2)]) d_Model_find_166 rfl (by rfl) (by decide) rfl 169 rfl ?_
  refine x_goto X d_Model_find_169 97 (by decide) ?_
  exact x_sub [1, 2, 3, 0] rfl (hk97 _ _ _ _ _ hf)
set_option maxRecDepth 100000 in
def wp_Model_find_164 (z : Nat → Nat) (Q : xh → Prop) (k30 : Nat × Int32 × xh → Prop) (k97 : Nat × Int32 × Int32 × Int32 × xh → Prop) (a0 : Nat) (x1 : Int32) (x2 : Int32) (x3 : Int32) (s1 : Int32) (s0 : Nat) (hp : xh) : Prop :=
  wp_Model_find_165 z Q k30 k97 a0 x1 x2 x3 0 s1 s0 hp
set_option maxRecDepth 100000 in
set_option maxHeartbeats 4000000 in
theorem t_Model_find_164 {p : Program} {l : Launch} {e : Env} {s : State} {m : MethodId} {args : Array Value} {below : List Frame} {meth : Method} {c : Code} {G : xG} {z : Nat → Nat} {A : Nat → Prop} {Qw : State → Prop} {Q : xh → Prop} {k30 : Nat × Int32 × xh → Prop} {k97 : Nat × Int32 × Int32 × Int32 × xh → Prop} {a0 : Nat} {x1 : Int32} {x2 : Int32} {x3 : Int32} {s1 : Int32} {s0 : Nat} {hp : xh} (X : xX p l e rm_Model_find s m args below meth c G z A y_Model_find b_Model_find 5) (hret : xRet p l e rm_Model_find s m args below meth c G A 5 Qw b_Model_find none (xqv Q)) (hk30 : ∀ (a0 : Nat) (x1 : Int32) (hp : xh), k30 (a0, x1, hp) → xE p l e rm_Model_find s m args below meth c G A 5 Qw 0 0 hp 30 [(0, .ref a0), (1, .int x1)] []) (hk97 : ∀ (a0 : Nat) (x1 : Int32) (x2 : Int32) (x3 : Int32) (hp : xh), k97 (a0, x1, x2, x3, hp) → xE p l e rm_Model_find s m args below meth c G A 5 Qw 0 0 hp 97 [(0, .ref a0), (1, .int x1), (2, .int x2), (3, .int x3)] []) (hf : wp_Model_find_164 z Q k30 k97 a0 x1 x2 x3 s1 s0 hp) : xE p l e rm_Model_find s m args below meth c G A 5 Qw 0 0 hp 164 [(0, .ref a0), (1, .int x1), (2, .int x2), (3, .int x3)] [.int s1, .ref s0] := by
  unfold wp_Model_find_164 at hf
  refine x_iconst X (v := 0) d_Model_find_164 (by decide) 165 rfl ?_
  exact x_sub [0, 1, 2, 3] rfl (t_Model_find_165 X hret hk30 hk97 hf)
set_option maxRecDepth 100000 in
def wp_Model_find_160 (z : Nat → Nat) (Q : xh → Prop) (k30 : Nat × Int32 × xh → Prop) (k97 : Nat × Int32 × Int32 × Int32 × xh → Prop) (a0 : Nat) (x1 : Int32) (x2 : Int32) (x3 : Int32) (s1 : Int32) (s0 : Nat) (hp : xh) : Prop :=
  wp_Model_find_165 z Q k30 k97 a0 x1 x2 x3 1 s1 s0 hp
set_option maxRecDepth 100000 in
set_option maxHeartbeats 4000000 in
theorem t_Model_find_160 {p : Program} {l : Launch} {e : Env} {s : State} {m : MethodId} {args : Array Value} {below : List Frame} {meth : Method} {c : Code} {G : xG} {z : Nat → Nat} {A : Nat → Prop} {Qw : State → Prop} {Q : xh → Prop} {k30 : Nat × Int32 × xh → Prop} {k97 : Nat × Int32 × Int32 × Int32 × xh → Prop} {a0 : Nat} {x1 : Int32} {x2 : Int32} {x3 : Int32} {s1 : Int32} {s0 : Nat} {hp : xh} (X : xX p l e rm_Model_find s m args below meth c G z A y_Model_find b_Model_find 5) (hret : xRet p l e rm_Model_find s m args below meth c G A 5 Qw b_Model_find none (xqv Q)) (hk30 : ∀ (a0 : Nat) (x1 : Int32) (hp : xh), k30 (a0, x1, hp) → xE p l e rm_Model_find s m args below meth c G A 5 Qw 0 0 hp 30 [(0, .ref a0), (1, .int x1)] []) (hk97 : ∀ (a0 : Nat) (x1 : Int32) (x2 : Int32) (x3 : Int32) (hp : xh), k97 (a0, x1, x2, x3, hp) → xE p l e rm_Model_find s m args below meth c G A 5 Qw 0 0 hp 97 [(0, .ref a0), (1, .int x1), (2, .int x2), (3, .int x3)] []) (hf : wp_Model_find_160 z Q k30 k97 a0 x1 x2 x3 s1 s0 hp) : xE p l e rm_Model_find s m args below meth c G A 5 Qw 0 0 hp 160 [(0, .ref a0), (1, .int x1), (2, .int x2), (3, .int x3)] [.int s1, .ref s0] := by
  unfold wp_Model_find_160 at hf
  refine x_iconst X (v := 1) d_Model_find_160 (by decide) 161 rfl ?_
  refine x_goto X d_Model_find_161 165 (by decide) ?_
  exact x_sub [0, 1, 2, 3] rfl (t_Model_find_165 X hret hk30 hk97 hf)
set_option maxRecDepth 100000 in
def wp_Model_find_97_b (z : Nat → Nat) (Q : xh → Prop) (k30 : Nat × Int32 × xh → Prop) (k97 : Nat × Int32 × Int32 × Int32 × xh → Prop) (a0 : Nat) (x1 : Int32) (x2 : Int32) (x3 : Int32) (hp : xh) : Prop :=
  ∃ v1, fI hp a0 12 39 = some v1 ∧ ((v1 ≤ x3 → wp_Model_find_172 z Q k30 a0 x1 hp) ∧ (¬ v1 ≤ x3 → (∃ o2, fR hp a0 12 35 = some o2 ∧ (∃ v3, aI hp o2 4 ((32 * x2) + x3) = some v3 ∧ (∃ o4, fR hp a0 12 42 = some o4 ∧ (∃ o5, fR hp a0 12 42 = some o5 ∧ (∃ v6, aI hp o5 2 x2 = some v6 ∧ ((¬ v6 = 0 → wp_Model_find_160 z Q k30 k97 a0 x1 x2 x3 x2 o4 hp) ∧ (v6 = 0 → (∃ o7, fR hp a0 12 37 = some o7 ∧ (∃ v8, aI hp o7 0 v3 = some v8 ∧ (∃ o9, fR hp a0 12 37 = some o9 ∧ (∃ v10, aI hp o9 0 x2 = some v10 ∧ ((¬ v8 = (v10 + 1) → wp_Model_find_164 z Q k30 k97 a0 x1 x2 x3 x2 o4 hp) ∧ (v8 = (v10 + 1) → (∃ o11, fR hp a0 12 42 = some o11 ∧ (∃ v12, aI hp o11 2 v3 = some v12 ∧ ((v12 = 0 → wp_Model_find_164 z Q k30 k97 a0 x1 x2 x3 x2 o4 hp) ∧ (¬ v12 = 0 → wp_Model_find_160 z Q k30 k97 a0 x1 x2 x3 x2 o4 hp)))))))))))))))))))
set_option maxRecDepth 100000 in
def wp_Model_find_97 (z : Nat → Nat) (Q : xh → Prop) (k30 : Nat × Int32 × xh → Prop) (a0 : Nat) (x1 : Int32) (x2 : Int32) (x3 : Int32) (hp : xh) : Prop := ∃ f : Nat, xloop (fun k97 a => wp_Model_find_97_b z Q k30 k97 a.1 a.2.1 a.2.2.1 a.2.2.2.1 a.2.2.2.2) f (a0, x1, x2, x3, hp)
set_option maxRecDepth 100000 in
set_option maxHeartbeats 4000000 in
theorem t_Model_find_97 {p : Program} {l : Launch} {e : Env} {s : State} {m : MethodId} {args : Array Value} {below : List Frame} {meth : Method} {c : Code} {G : xG} {z : Nat → Nat} {A : Nat → Prop} {Qw : State → Prop} {Q : xh → Prop} {k30 : Nat × Int32 × xh → Prop} {a0 : Nat} {x1 : Int32} {x2 : Int32} {x3 : Int32} {hp : xh} (X : xX p l e rm_Model_find s m args below meth c G z A y_Model_find b_Model_find 5) (hret : xRet p l e rm_Model_find s m args below meth c G A 5 Qw b_Model_find none (xqv Q)) (hk30 : ∀ (a0 : Nat) (x1 : Int32) (hp : xh), k30 (a0, x1, hp) → xE p l e rm_Model_find s m args below meth c G A 5 Qw 0 0 hp 30 [(0, .ref a0), (1, .int x1)] []) (hf : wp_Model_find_97 z Q k30 a0 x1 x2 x3 hp) : xE p l e rm_Model_find s m args below meth c G A 5 Qw 0 0 hp 97 [(0, .ref a0), (1, .int x1), (2, .int x2), (3, .int x3)] [] := by
  obtain ⟨f, hf⟩ := hf
  refine xloop_ind (F := fun k97 a => wp_Model_find_97_b z Q k30 k97 a.1 a.2.1 a.2.2.1 a.2.2.2.1 a.2.2.2.2) (E := fun a => xE p l e rm_Model_find s m args below meth c G A 5 Qw 0 0 a.2.2.2.2 97 [(0, .ref (a.1)), (1, .int (a.2.1)), (2, .int (a.2.2.1)), (3, .int (a.2.2.2.1))] []) ?_ f (a0, x1, x2, x3, hp) hf
  intro k97 hk a hf
  obtain ⟨a0, x1, x2, x3, hp⟩ := a
  have hk97 : ∀ (a0 : Nat) (x1 : Int32) (x2 : Int32) (x3 : Int32) (hp : xh), k97 (a0, x1, x2, x3, hp) → xE p l e rm_Model_find s m args below meth c G A 5 Qw 0 0 hp 97 [(0, .ref a0), (1, .int x1), (2, .int x2), (3, .int x3)] [] := fun a0 x1 x2 x3 hp h => hk (a0, x1, x2, x3, hp) h
  have hf : wp_Model_find_97_b z Q k30 k97 a0 x1 x2 x3 hp := hf
  unfold wp_Model_find_97_b at hf
  refine x_iload_n X (q := 3) d_Model_find_97 rfl 98 rfl ?_
  refine x_aload_n X (q := 0) d_Model_find_98 rfl 99 rfl ?_
  refine x_getI X hf (ci := 12) (j := 39) rfl (by decide) rfl lf_Model_274 d_Model_find_99 102 rfl (fun v1 hf => ?_)
  refine x_icmp_ge X hf d_Model_find_102 172 105 (by decide) rfl (fun hf => ?_) (fun hf => ?_)
  · exact x_sub [0, 1] rfl (t_Model_find_172 X hret hk30 hf)
  · refine x_aload_n X (q := 0) d_Model_find_105 rfl 106 rfl ?_
    refine x_getR X hf (ci := 12) (j := 35) rfl (by decide) rfl lf_Model_93 d_Model_find_106 109 rfl (fun o2 hf => ?_)
    refine x_bipush X (v := 32) d_Model_find_109 (by decide) 111 rfl ?_
    refine x_iload_n X (q := 2) d_Model_find_111 rfl 112 rfl ?_
    refine x_imul X d_Model_find_112 113 rfl ?_
    refine x_iload_n X (q := 3) d_Model_find_113 rfl 114 rfl ?_
    refine x_iadd X d_Model_find_114 115 rfl ?_
    refine x_cald X hf d_Model_find_115 116 rfl (fun v3 hf => ?_)
    refine x_istore X (lv' := [(4, .int v3), (0, .ref a0), (1, .int x1), (2, .int x2), (3, .int x3)]) d_Model_find_116 (by decide) rfl 118 rfl ?_
    refine x_aload_n X (q := 1) d_Model_find_118 rfl 119 rfl ?_
    refine x_getR X hf (ci := 12) (j := 42) rfl (by decide) rfl lf_Model_103 d_Model_find_119 122 rfl (fun o4 hf => ?_)
    refine x_iload_n X (q := 3) d_Model_find_122 rfl 123 rfl ?_
    refine x_aload_n X (q := 1) d_Model_find_123 rfl 124 rfl ?_
    refine x_getR X hf (ci := 12) (j := 42) rfl (by decide) rfl lf_Model_103 d_Model_find_124 127 rfl (fun o5 hf => ?_)
    refine x_iload_n X (q := 3) d_Model_find_127 rfl 128 rfl ?_
    refine x_zald X hf d_Model_find_128 129 rfl (fun v6 hf => ?_)
    refine x_if_ne X hf d_Model_find_129 160 132 (by decide) rfl (fun hf => ?_) (fun hf => ?_)
    · exact x_sub [1, 2, 3, 4] rfl (t_Model_find_160 X hret hk30 hk97 hf)
    · refine x_aload_n X (q := 1) d_Model_find_132 rfl 133 rfl ?_
      refine x_getR X hf (ci := 12) (j := 37) rfl (by decide) rfl lf_Model_100 d_Model_find_133 136 rfl (fun o7 hf => ?_)
      refine x_iload X (q := 0) d_Model_find_136 rfl 138 rfl ?_
      refine x_iald X hf d_Model_find_138 139 rfl (fun v8 hf => ?_)
      refine x_aload_n X (q := 1) d_Model_find_139 rfl 140 rfl ?_
      refine x_getR X hf (ci := 12) (j := 37) rfl (by decide) rfl lf_Model_100 d_Model_find_140 143 rfl (fun o9 hf => ?_)
      refine x_iload_n X (q := 3) d_Model_find_143 rfl 144 rfl ?_
      refine x_iald X hf d_Model_find_144 145 rfl (fun v10 hf => ?_)
      refine x_iconst X (v := 1) d_Model_find_145 (by decide) 146 rfl ?_
      refine x_iadd X d_Model_find_146 147 rfl ?_
      refine x_icmp_ne X hf d_Model_find_147 164 150 (by decide) rfl (fun hf => ?_) (fun hf => ?_)
      · exact x_sub [1, 2, 3, 4] rfl (t_Model_find_164 X hret hk30 hk97 hf)
      · refine x_aload_n X (q := 1) d_Model_find_150 rfl 151 rfl ?_
        refine x_getR X hf (ci := 12) (j := 42) rfl (by decide) rfl lf_Model_103 d_Model_find_151 154 rfl (fun o11 hf => ?_)
        refine x_iload X (q := 0) d_Model_find_154 rfl 156 rfl ?_
        refine x_zald X hf d_Model_find_156 157 rfl (fun v12 hf => ?_)
        refine x_if_eq X hf d_Model_find_157 164 160 (by decide) rfl (fun hf => ?_) (fun hf => ?_)
        · exact x_sub [1, 2, 3, 4] rfl (t_Model_find_164 X hret hk30 hk97 hf)
        · exact x_sub [1, 2, 3, 4] rfl (t_Model_find_160 X hret hk30 hk97 hf)
set_option maxRecDepth 100000 in
def wp_Model_find_91 (z : Nat → Nat) (Q : xh → Prop) (k30 : Nat × Int32 × xh → Prop) (a0 : Nat) (x1 : Int32) (s2 : Int32) (s1 : Int32) (s0 : Nat) (hp : xh) : Prop :=
  ∃ h1, sI hp s0 2 s1 (vp_nar .boolean s2) = some h1 ∧ wp_Model_find_172 z Q k30 a0 x1 h1
set_option maxRecDepth 100000 in
set_option maxHeartbeats 4000000 in
theorem t_Model_find_91 {p : Program} {l : Launch} {e : Env} {s : State} {m : MethodId} {args : Array Value} {below : List Frame} {meth : Method} {c : Code} {G : xG} {z : Nat → Nat} {A : Nat → Prop} {Qw : State → Prop} {Q : xh → Prop} {k30 : Nat × Int32 × xh → Prop} {a0 : Nat} {x1 : Int32} {s2 : Int32} {s1 : Int32} {s0 : Nat} {hp : xh} (X : xX p l e rm_Model_find s m args below meth c G z A y_Model_find b_Model_find 5) (hret : xRet p l e rm_Model_find s m args below meth c G A 5 Qw b_Model_find none (xqv Q)) (hk30 : ∀ (a0 : Nat) (x1 : Int32) (hp : xh), k30 (a0, x1, hp) → xE p l e rm_Model_find s m args below meth c G A 5 Qw 0 0 hp 30 [(0, .ref a0), (1, .int x1)] []) (hf : wp_Model_find_91 z Q k30 a0 x1 s2 s1 s0 hp) : xE p l e rm_Model_find s m args below meth c G A 5 Qw 0 0 hp 91 [(0, .ref a0), (1, .int x1)] [.int s2, .int s1, .ref s0] := by
  unfold wp_Model_find_91 at hf
  refine x_zast X hf d_Model_find_91 92 rfl (fun h1 hf => ?_)
  refine x_goto X d_Model_find_92 172 (by decide) ?_
  exact x_sub [0, 1] rfl (t_Model_find_172 X hret hk30 hf)
set_option maxRecDepth 100000 in
def wp_Model_find_30_b (z : Nat → Nat) (Q : xh → Prop)  (k30 : Nat × Int32 × xh → Prop) (a0 : Nat) (x1 : Int32) (hp : xh) : Prop :=
  (x1 < 0 → wp_Model_find_182 z Q a0 0 1 hp) ∧ (¬ x1 < 0 → (∃ o1, fR hp a0 12 36 = some o1 ∧ (∃ v2, aI hp o1 0 x1 = some v2 ∧ (∃ o3, fR hp a0 12 37 = some o3 ∧ (∃ v4, aI hp o3 0 v2 = some v4 ∧ (∃ v5, fI hp a0 12 41 = some v5 ∧ ((v4 ≤ v5 → (∃ o6, fR hp a0 12 37 = some o6 ∧ (∃ v7, aI hp o6 0 v2 = some v7 ∧ (∃ v8, fI hp a0 12 41 = some v8 ∧ ((¬ v7 = v8 → wp_Model_find_97 z Q k30 a0 x1 v2 0 hp) ∧ (v7 = v8 → (∃ o9, fR hp a0 12 42 = some o9 ∧ (∃ o10, fR hp a0 12 34 = some o10 ∧ (∃ v11, aL hp o10 3 v2 = some v11 ∧ (((lg_cmp v11 0) = 0 → wp_Model_find_91 z Q k30 a0 x1 0 v2 o9 hp) ∧ (¬ (lg_cmp v11 0) = 0 → wp_Model_find_91 z Q k30 a0 x1 1 v2 o9 hp))))))))))) ∧ (¬ v4 ≤ v5 → wp_Model_find_172 z Q k30 a0 x1 hp))))))))
set_option maxRecDepth 100000 in
def wp_Model_find_30 (z : Nat → Nat) (Q : xh → Prop)  (a0 : Nat) (x1 : Int32) (hp : xh) : Prop := ∃ f : Nat, xloop (fun k30 a => wp_Model_find_30_b z Q  k30 a.1 a.2.1 a.2.2) f (a0, x1, hp)
set_option maxRecDepth 100000 in
set_option maxHeartbeats 4000000 in
theorem t_Model_find_30 {p : Program} {l : Launch} {e : Env} {s : State} {m : MethodId} {args : Array Value} {below : List Frame} {meth : Method} {c : Code} {G : xG} {z : Nat → Nat} {A : Nat → Prop} {Qw : State → Prop} {Q : xh → Prop} {a0 : Nat} {x1 : Int32} {hp : xh} (X : xX p l e rm_Model_find s m args below meth c G z A y_Model_find b_Model_find 5) (hret : xRet p l e rm_Model_find s m args below meth c G A 5 Qw b_Model_find none (xqv Q))  (hf : wp_Model_find_30 z Q  a0 x1 hp) : xE p l e rm_Model_find s m args below meth c G A 5 Qw 0 0 hp 30 [(0, .ref a0), (1, .int x1)] [] := by
  obtain ⟨f, hf⟩ := hf
  refine xloop_ind (F := fun k30 a => wp_Model_find_30_b z Q  k30 a.1 a.2.1 a.2.2) (E := fun a => xE p l e rm_Model_find s m args below meth c G A 5 Qw 0 0 a.2.2 30 [(0, .ref (a.1)), (1, .int (a.2.1))] []) ?_ f (a0, x1, hp) hf
  intro k30 hk a hf
  obtain ⟨a0, x1, hp⟩ := a
  have hk30 : ∀ (a0 : Nat) (x1 : Int32) (hp : xh), k30 (a0, x1, hp) → xE p l e rm_Model_find s m args below meth c G A 5 Qw 0 0 hp 30 [(0, .ref a0), (1, .int x1)] [] := fun a0 x1 hp h => hk (a0, x1, hp) h
  have hf : wp_Model_find_30_b z Q  k30 a0 x1 hp := hf
  unfold wp_Model_find_30_b at hf
  refine x_iload_n X (q := 1) d_Model_find_30 rfl 31 rfl ?_
  refine x_if_lt X hf d_Model_find_31 178 34 (by decide) rfl (fun hf => ?_) (fun hf => ?_)
  · refine x_iconst X (v := 0) d_Model_find_178 (by decide) 179 rfl ?_
    refine x_istore_n X (lv' := [(1, .int 0), (0, .ref a0)]) d_Model_find_179 rfl (by decide) rfl 180 rfl ?_
    refine x_iconst X (v := 1) d_Model_find_180 (by decide) 181 rfl ?_
    refine x_istore_n X (lv' := [(2, .int 1), (1, .int 0), (0, .ref a0)]) d_Model_find_181 rfl (by decide) rfl 182 rfl ?_
    exact x_sub [2, 1, 0] rfl (t_Model_find_182 X hret hf)
  · refine x_aload_n X (q := 0) d_Model_find_34 rfl 35 rfl ?_
    refine x_getR X hf (ci := 12) (j := 36) rfl (by decide) rfl lf_Model_97 d_Model_find_35 38 rfl (fun o1 hf => ?_)
    refine x_iload_n X (q := 1) d_Model_find_38 rfl 39 rfl ?_
    refine x_iald X hf d_Model_find_39 40 rfl (fun v2 hf => ?_)
    refine x_istore_n X (lv' := [(2, .int v2), (0, .ref a0), (1, .int x1)]) d_Model_find_40 rfl (by decide) rfl 41 rfl ?_
    refine x_aload_n X (q := 1) d_Model_find_41 rfl 42 rfl ?_
    refine x_getR X hf (ci := 12) (j := 37) rfl (by decide) rfl lf_Model_100 d_Model_find_42 45 rfl (fun o3 hf => ?_)
    refine x_iload_n X (q := 0) d_Model_find_45 rfl 46 rfl ?_
    refine x_iald X hf d_Model_find_46 47 rfl (fun v4 hf => ?_)
    refine x_aload_n X (q := 1) d_Model_find_47 rfl 48 rfl ?_
    refine x_getI X hf (ci := 12) (j := 41) rfl (by decide) rfl lf_Model_289 d_Model_find_48 51 rfl (fun v5 hf => ?_)
    refine x_icmp_le X hf d_Model_find_51 57 54 (by decide) rfl (fun hf => ?_) (fun hf => ?_)
    · refine x_aload_n X (q := 1) d_Model_find_57 rfl 58 rfl ?_
      refine x_getR X hf (ci := 12) (j := 37) rfl (by decide) rfl lf_Model_100 d_Model_find_58 61 rfl (fun o6 hf => ?_)
      refine x_iload_n X (q := 0) d_Model_find_61 rfl 62 rfl ?_
      refine x_iald X hf d_Model_find_62 63 rfl (fun v7 hf => ?_)
      refine x_aload_n X (q := 1) d_Model_find_63 rfl 64 rfl ?_
      refine x_getI X hf (ci := 12) (j := 41) rfl (by decide) rfl lf_Model_289 d_Model_find_64 67 rfl (fun v8 hf => ?_)
      refine x_icmp_ne X hf d_Model_find_67 95 70 (by decide) rfl (fun hf => ?_) (fun hf => ?_)
      · refine x_iconst X (v := 0) d_Model_find_95 (by decide) 96 rfl ?_
        refine x_istore_n X (lv' := [(3, .int 0), (2, .int v2), (0, .ref a0), (1, .int x1)]) d_Model_find_96 rfl (by decide) rfl 97 rfl ?_
        exact x_sub [2, 3, 1, 0] rfl (t_Model_find_97 X hret hk30 hf)
      · refine x_aload_n X (q := 1) d_Model_find_70 rfl 71 rfl ?_
        refine x_getR X hf (ci := 12) (j := 42) rfl (by decide) rfl lf_Model_103 d_Model_find_71 74 rfl (fun o9 hf => ?_)
        refine x_iload_n X (q := 0) d_Model_find_74 rfl 75 rfl ?_
        refine x_aload_n X (q := 1) d_Model_find_75 rfl 76 rfl ?_
        refine x_getR X hf (ci := 12) (j := 34) rfl (by decide) rfl lf_Model_89 d_Model_find_76 79 rfl (fun o10 hf => ?_)
        refine x_iload_n X (q := 0) d_Model_find_79 rfl 80 rfl ?_
        refine x_lald X hf d_Model_find_80 81 rfl (fun v11 hf => ?_)
        refine x_lconst X (v := 0) d_Model_find_81 (by decide) 82 rfl ?_
        refine x_lcmp X d_Model_find_82 83 rfl ?_
        refine x_if_eq X hf d_Model_find_83 90 86 (by decide) rfl (fun hf => ?_) (fun hf => ?_)
        · refine x_iconst X (v := 0) d_Model_find_90 (by decide) 91 rfl ?_
          exact x_sub [1, 2] rfl (t_Model_find_91 X hret hk30 hf)
        · refine x_iconst X (v := 1) d_Model_find_86 (by decide) 87 rfl ?_
          refine x_goto X d_Model_find_87 91 (by decide) ?_
          exact x_sub [1, 2] rfl (t_Model_find_91 X hret hk30 hf)
    · refine x_goto X d_Model_find_54 172 (by decide) ?_
      exact x_sub [1, 2] rfl (t_Model_find_172 X hret hk30 hf)
set_option maxRecDepth 100000 in
def wp_Model_find_2_b (z : Nat → Nat) (Q : xh → Prop)  (k2 : Nat × Int32 × xh → Prop) (a0 : Nat) (x1 : Int32) (hp : xh) : Prop :=
  ∃ v1, fI hp a0 12 40 = some v1 ∧ ((v1 ≤ x1 → (∃ v2, fI hp a0 12 38 = some v2 ∧ (∀ v3, v3 = (v2 - 1) → wp_Model_find_30 z Q a0 v3 hp))) ∧ (¬ v1 ≤ x1 → (∃ o4, fR hp a0 12 42 = some o4 ∧ (∃ h5, sI hp o4 2 x1 (vp_nar .boolean 0) = some h5 ∧ (k2 (a0, (x1 + 1), h5))))))
set_option maxRecDepth 100000 in
def wp_Model_find_2 (z : Nat → Nat) (Q : xh → Prop)  (a0 : Nat) (x1 : Int32) (hp : xh) : Prop := ∃ f : Nat, xloop (fun k2 a => wp_Model_find_2_b z Q  k2 a.1 a.2.1 a.2.2) f (a0, x1, hp)
set_option maxRecDepth 100000 in
set_option maxHeartbeats 4000000 in
theorem t_Model_find_2 {p : Program} {l : Launch} {e : Env} {s : State} {m : MethodId} {args : Array Value} {below : List Frame} {meth : Method} {c : Code} {G : xG} {z : Nat → Nat} {A : Nat → Prop} {Qw : State → Prop} {Q : xh → Prop} {a0 : Nat} {x1 : Int32} {hp : xh} (X : xX p l e rm_Model_find s m args below meth c G z A y_Model_find b_Model_find 5) (hret : xRet p l e rm_Model_find s m args below meth c G A 5 Qw b_Model_find none (xqv Q))  (hf : wp_Model_find_2 z Q  a0 x1 hp) : xE p l e rm_Model_find s m args below meth c G A 5 Qw 0 0 hp 2 [(0, .ref a0), (1, .int x1)] [] := by
  obtain ⟨f, hf⟩ := hf
  refine xloop_ind (F := fun k2 a => wp_Model_find_2_b z Q  k2 a.1 a.2.1 a.2.2) (E := fun a => xE p l e rm_Model_find s m args below meth c G A 5 Qw 0 0 a.2.2 2 [(0, .ref (a.1)), (1, .int (a.2.1))] []) ?_ f (a0, x1, hp) hf
  intro k2 hk a hf
  obtain ⟨a0, x1, hp⟩ := a
  have hk2 : ∀ (a0 : Nat) (x1 : Int32) (hp : xh), k2 (a0, x1, hp) → xE p l e rm_Model_find s m args below meth c G A 5 Qw 0 0 hp 2 [(0, .ref a0), (1, .int x1)] [] := fun a0 x1 hp h => hk (a0, x1, hp) h
  have hf : wp_Model_find_2_b z Q  k2 a0 x1 hp := hf
  unfold wp_Model_find_2_b at hf
  refine x_iload_n X (q := 1) d_Model_find_2 rfl 3 rfl ?_
  refine x_aload_n X (q := 0) d_Model_find_3 rfl 4 rfl ?_
  refine x_getI X hf (ci := 12) (j := 40) rfl (by decide) rfl lf_Model_277 d_Model_find_4 7 rfl (fun v1 hf => ?_)
  refine x_icmp_ge X hf d_Model_find_7 23 10 (by decide) rfl (fun hf => ?_) (fun hf => ?_)
  · refine x_aload_n X (q := 0) d_Model_find_23 rfl 24 rfl ?_
    refine x_getI X hf (ci := 12) (j := 38) rfl (by decide) rfl lf_Model_286 d_Model_find_24 27 rfl (fun v2 hf => ?_)
    refine x_iconst X (v := 1) d_Model_find_27 (by decide) 28 rfl ?_
    refine x_isub X d_Model_find_28 29 rfl ?_
    refine x_istoreN_n X hf d_Model_find_29 rfl (by decide) (lw := fun v3 => [(1, .int v3), (0, .ref a0)]) (fun _ => rfl) 30 rfl (fun v3 hf => ?_)
    exact x_sub [1, 0] rfl (t_Model_find_30 X hret hf)
  · refine x_aload_n X (q := 0) d_Model_find_10 rfl 11 rfl ?_
    refine x_getR X hf (ci := 12) (j := 42) rfl (by decide) rfl lf_Model_103 d_Model_find_11 14 rfl (fun o4 hf => ?_)
    refine x_iload_n X (q := 1) d_Model_find_14 rfl 15 rfl ?_
    refine x_iconst X (v := 0) d_Model_find_15 (by decide) 16 rfl ?_
    refine x_zast X hf d_Model_find_16 17 rfl (fun h5 hf => ?_)
    refine x_iinc X (q := 1) (v := (x1 + 1)) (lv' := [(1, .int (x1 + 1)), (0, .ref a0)]) d_Model_find_17 rfl (by rfl) (by decide) rfl 20 rfl ?_
    refine x_goto X d_Model_find_20 2 (by decide) ?_
    exact x_sub [1, 0] rfl (hk2 _ _ _ hf)
set_option maxRecDepth 100000 in
def wp_Model_find (z : Nat → Nat) (Q : xh → Prop) (a0 : Nat) (hp : xh) : Prop :=
  wp_Model_find_2 z Q a0 0 hp
set_option maxRecDepth 100000 in
set_option maxHeartbeats 4000000 in
theorem t_Model_find {l : Launch} {G : xG} {z : Nat → Nat} {Q : xh → Prop} {a0 : Nat} {hp : xh} (hf : wp_Model_find z Q a0 hp) : xM l G z y_Model_find b_Model_find 5 none rm_Model_find [.ref a0] hp (xqv Q) := by
  refine xM_of (by decide) (Nat.le_of_ble_eq_true rfl) (lv0 := [(0, .ref a0)]) rfl ?_
  intro p e s m args below meth c A Qw X hret
  unfold wp_Model_find at hf
  refine x_iconst X (v := 0) d_Model_find_0 (by decide) 1 rfl ?_
  refine x_istore_n X (lv' := [(1, .int 0), (0, .ref a0)]) d_Model_find_1 rfl (by decide) rfl 2 rfl ?_
  exact x_sub [1, 0] rfl (t_Model_find_2 X hret hf)

