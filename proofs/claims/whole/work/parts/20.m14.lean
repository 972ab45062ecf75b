set_option maxRecDepth 100000 in
def wp_Model_pairs_22 (z : Nat → Nat) (Q : Int32 → xh → Prop)  (a0 : Nat) (x1 : Int32) (s1 : Int32) (s0 : Nat) (hp : xh) : Prop :=
  xcls hp s0 12 ∧ wp_Model_fails z (fun v2 h1 => (v2 = 0 → ((¬ x1 = 0 → (∃ o4, fR h1 a0 12 37 = some o4 ∧ (∃ o5, fR h1 a0 12 36 = some o5 ∧ (∃ v6, fI h1 a0 12 38 = some v6 ∧ (∃ v7, aI h1 o5 0 (v6 - 1) = some v7 ∧ (∃ v8, aI h1 o4 0 v7 = some v8 ∧ (Q (v8 - 1) h1))))))) ∧ (x1 = 0 → (∃ v9, fI h1 a0 12 38 = some v9 ∧ Q v9 h1)))) ∧ (¬ v2 = 0 → Q 0 h1)) s0 s1 2 hp
set_option maxRecDepth 100000 in
set_option maxHeartbeats 4000000 in
theorem t_Model_pairs_22 {p : Program} {l : Launch} {e : Env} {s : State} {m : MethodId} {args : Array Value} {below : List Frame} {meth : Method} {c : Code} {G : xG} {z : Nat → Nat} {A : Nat → Prop} {Qw : State → Prop} {Q : Int32 → xh → Prop} {a0 : Nat} {x1 : Int32} {s1 : Int32} {s0 : Nat} {hp : xh} (X : xX p l e rm_Model_pairs s m args below meth c G z A y_Model_pairs b_Model_pairs 2) (hret : xRet p l e rm_Model_pairs s m args below meth c G A 2 Qw b_Model_pairs (some .int) (xqi Q))  (hf : wp_Model_pairs_22 z Q  a0 x1 s1 s0 hp) : xE p l e rm_Model_pairs s m args below meth c G A 2 Qw 0 0 hp 22 [(0, .ref a0), (1, .int x1)] [.int s1, .ref s0] := by
  unfold wp_Model_pairs_22 at hf
  refine x_iconst X (v := 2) d_Model_pairs_22 (by decide) 23 rfl ?_
  refine x_callV0z X (t_Model_fails hf.2) hf.1 (ci := 12) rfl rfl lm_Model_301 im_Model_fails sl_Model_fails cd_Model_fails in_Model ds_Model_fails rfl rfl (Nat.le_of_ble_eq_true rfl) (Nat.le_of_ble_eq_true rfl) (Nat.le_of_ble_eq_true rfl) rfl rfl (Nat.le_refl 0) (Nat.le_refl 0) d_Model_pairs_23 26 rfl (fun v2 h1 hb3 hf => ?_)
  refine x_if_eq X hf d_Model_pairs_26 31 29 (by decide) rfl (fun hf => ?_) (fun hf => ?_)
  · refine x_iload_n X (q := 1) d_Model_pairs_31 rfl 32 rfl ?_
    refine x_if_ne X hf d_Model_pairs_32 42 35 (by decide) rfl (fun hf => ?_) (fun hf => ?_)
    · refine x_aload_n X (q := 0) d_Model_pairs_42 rfl 43 rfl ?_
      refine x_getR X hf (ci := 12) (j := 37) rfl (by decide) rfl lf_Model_100 d_Model_pairs_43 46 rfl (fun o4 hf => ?_)
      refine x_aload_n X (q := 0) d_Model_pairs_46 rfl 47 rfl ?_
      refine x_getR X hf (ci := 12) (j := 36) rfl (by decide) rfl lf_Model_97 d_Model_pairs_47 50 rfl (fun o5 hf => ?_)
      refine x_aload_n X (q := 0) d_Model_pairs_50 rfl 51 rfl ?_
      refine x_getI X hf (ci := 12) (j := 38) rfl (by decide) rfl lf_Model_286 d_Model_pairs_51 54 rfl (fun v6 hf => ?_)
      refine x_iconst X (v := 1) d_Model_pairs_54 (by decide) 55 rfl ?_
      refine x_isub X d_Model_pairs_55 56 rfl ?_
      refine x_iald X hf d_Model_pairs_56 57 rfl (fun v7 hf => ?_)
      refine x_iald X hf d_Model_pairs_57 58 rfl (fun v8 hf => ?_)
      refine x_iconst X (v := 1) d_Model_pairs_58 (by decide) 59 rfl ?_
      refine x_isub X d_Model_pairs_59 60 rfl ?_
      exact hret _ _ _ _ _ (some (.int (v8 - 1))) (Nat.le_refl 0) (Nat.le_refl 0) ⟨_, rfl, hf⟩ ⟨⟨_, rfl, rfl⟩, d_Model_pairs_60⟩
    · refine x_aload_n X (q := 0) d_Model_pairs_35 rfl 36 rfl ?_
      refine x_getI X hf (ci := 12) (j := 38) rfl (by decide) rfl lf_Model_286 d_Model_pairs_36 39 rfl (fun v9 hf => ?_)
      refine x_goto X d_Model_pairs_39 60 (by decide) ?_
      exact hret _ _ _ _ _ (some (.int v9)) (Nat.le_refl 0) (Nat.le_refl 0) ⟨_, rfl, hf⟩ ⟨⟨_, rfl, rfl⟩, d_Model_pairs_60⟩
  · refine x_iconst X (v := 0) d_Model_pairs_29 (by decide) 30 rfl ?_
    exact hret _ _ _ _ _ (some (.int 0)) (Nat.le_refl 0) (Nat.le_refl 0) ⟨_, rfl, hf⟩ ⟨⟨_, rfl, rfl⟩, d_Model_pairs_30⟩
set_option maxRecDepth 100000 in
def wp_Model_pairs_17 (z : Nat → Nat) (Q : Int32 → xh → Prop)  (a0 : Nat) (x1 : Int32) (s0 : Nat) (hp : xh) : Prop :=
  wp_Model_pairs_22 z Q a0 x1 1 s0 hp
set_option maxRecDepth 100000 in
set_option maxHeartbeats 4000000 in
theorem t_Model_pairs_17 {p : Program} {l : Launch} {e : Env} {s : State} {m : MethodId} {args : Array Value} {below : List Frame} {meth : Method} {c : Code} {G : xG} {z : Nat → Nat} {A : Nat → Prop} {Qw : State → Prop} {Q : Int32 → xh → Prop} {a0 : Nat} {x1 : Int32} {s0 : Nat} {hp : xh} (X : xX p l e rm_Model_pairs s m args below meth c G z A y_Model_pairs b_Model_pairs 2) (hret : xRet p l e rm_Model_pairs s m args below meth c G A 2 Qw b_Model_pairs (some .int) (xqi Q))  (hf : wp_Model_pairs_17 z Q  a0 x1 s0 hp) : xE p l e rm_Model_pairs s m args below meth c G A 2 Qw 0 0 hp 17 [(0, .ref a0), (1, .int x1)] [.ref s0] := by
  unfold wp_Model_pairs_17 at hf
  refine x_iconst X (v := 1) d_Model_pairs_17 (by decide) 18 rfl ?_
  refine x_goto X d_Model_pairs_18 22 (by decide) ?_
  exact x_sub [0, 1] rfl (t_Model_pairs_22 X hret hf)
set_option maxRecDepth 100000 in
def wp_Model_pairs (z : Nat → Nat) (Q : Int32 → xh → Prop) (a0 : Nat) (x1 : Int32) (hp : xh) : Prop :=
  xcls hp a0 12 ∧ wp_Model_none z (fun v2 h1 => (¬ v2 = 0 → Q 0 h1) ∧ (v2 = 0 → ((x1 < 0 → wp_Model_pairs_17 z Q a0 x1 a0 h1) ∧ (¬ x1 < 0 → ((x1 ≤ 1 → wp_Model_pairs_22 z Q a0 x1 0 a0 h1) ∧ (¬ x1 ≤ 1 → wp_Model_pairs_17 z Q a0 x1 a0 h1)))))) a0 hp
set_option maxRecDepth 100000 in
set_option maxHeartbeats 4000000 in
theorem t_Model_pairs {l : Launch} {G : xG} {z : Nat → Nat} {Q : Int32 → xh → Prop} {a0 : Nat} {x1 : Int32} {hp : xh} (hf : wp_Model_pairs z Q a0 x1 hp) : xM l G z y_Model_pairs b_Model_pairs 2 (some .int) rm_Model_pairs [.ref a0, .int x1] hp (xqi Q) := by
  refine xM_of (by decide) (Nat.le_of_ble_eq_true rfl) (lv0 := [(0, .ref a0), (1, .int x1)]) rfl ?_
  intro p e s m args below meth c A Qw X hret
  unfold wp_Model_pairs at hf
  refine x_aload_n X (q := 0) d_Model_pairs_0 rfl 1 rfl ?_
  refine x_callV0z X (t_Model_none hf.2) hf.1 (ci := 12) rfl rfl lm_Model_308 im_Model_none sl_Model_none cd_Model_none in_Model ds_Model_none rfl rfl (Nat.le_of_ble_eq_true rfl) (Nat.le_of_ble_eq_true rfl) (Nat.le_of_ble_eq_true rfl) rfl rfl (Nat.le_refl 0) (Nat.le_refl 0) d_Model_pairs_1 4 rfl (fun v2 h1 hb3 hf => ?_)
  refine x_if_ne X hf d_Model_pairs_4 29 7 (by decide) rfl (fun hf => ?_) (fun hf => ?_)
  · refine x_iconst X (v := 0) d_Model_pairs_29 (by decide) 30 rfl ?_
    exact hret _ _ _ _ _ (some (.int 0)) (Nat.le_refl 0) (Nat.le_refl 0) ⟨_, rfl, hf⟩ ⟨⟨_, rfl, rfl⟩, d_Model_pairs_30⟩
  · refine x_aload_n X (q := 0) d_Model_pairs_7 rfl 8 rfl ?_
    refine x_iload_n X (q := 1) d_Model_pairs_8 rfl 9 rfl ?_
    refine x_if_lt X hf d_Model_pairs_9 17 12 (by decide) rfl (fun hf => ?_) (fun hf => ?_)
    · exact x_sub [0, 1] rfl (t_Model_pairs_17 X hret hf)
    · refine x_iload_n X (q := 1) d_Model_pairs_12 rfl 13 rfl ?_
      refine x_iconst X (v := 1) d_Model_pairs_13 (by decide) 14 rfl ?_
      refine x_icmp_le X hf d_Model_pairs_14 21 17 (by decide) rfl (fun hf => ?_) (fun hf => ?_)
      · refine x_iconst X (v := 0) d_Model_pairs_21 (by decide) 22 rfl ?_
        exact x_sub [0, 1] rfl (t_Model_pairs_22 X hret hf)
      · exact x_sub [0, 1] rfl (t_Model_pairs_17 X hret hf)

set_option maxRecDepth 100000 in
def wp_Model_depth_44 (z : Nat → Nat) (Q : Int32 → xh → Prop)  (a0 : Nat) (x1 : Int32) (x2 : Int32) (s1 : Int32) (s0 : Nat) (hp : xh) : Prop :=
  xcls hp s0 12 ∧ wp_Model_fails z (fun v2 h1 => (v2 = 0 → (∃ o4, fR h1 a0 12 37 = some o4 ∧ (∃ o5, fR h1 a0 12 10 = some o5 ∧ (∃ v6, aI h1 o5 0 2 = some v6 ∧ (∃ v7, aI h1 o4 0 (x1 ||| (x2 <<< (v6 &&& 31))) = some v7 ∧ (Q (v7 - 1) h1)))))) ∧ (¬ v2 = 0 → Q 0 h1)) s0 s1 2 hp
set_option maxRecDepth 100000 in
set_option maxHeartbeats 4000000 in
theorem t_Model_depth_44 {p : Program} {l : Launch} {e : Env} {s : State} {m : MethodId} {args : Array Value} {below : List Frame} {meth : Method} {c : Code} {G : xG} {z : Nat → Nat} {A : Nat → Prop} {Qw : State → Prop} {Q : Int32 → xh → Prop} {a0 : Nat} {x1 : Int32} {x2 : Int32} {s1 : Int32} {s0 : Nat} {hp : xh} (X : xX p l e rm_Model_depth s m args below meth c G z A y_Model_depth b_Model_depth 3) (hret : xRet p l e rm_Model_depth s m args below meth c G A 3 Qw b_Model_depth (some .int) (xqi Q))  (hf : wp_Model_depth_44 z Q  a0 x1 x2 s1 s0 hp) : xE p l e rm_Model_depth s m args below meth c G A 3 Qw 0 0 hp 44 [(0, .ref a0), (1, .int x1), (2, .int x2)] [.int s1, .ref s0] := by
  unfold wp_Model_depth_44 at hf
  refine x_iconst X (v := 2) d_Model_depth_44 (by decide) 45 rfl ?_
  refine x_callV0z X (t_Model_fails hf.2) hf.1 (ci := 12) rfl rfl lm_Model_301 im_Model_fails sl_Model_fails cd_Model_fails in_Model ds_Model_fails rfl rfl (Nat.le_of_ble_eq_true rfl) (Nat.le_of_ble_eq_true rfl) (Nat.le_of_ble_eq_true rfl) rfl rfl (Nat.le_refl 0) (Nat.le_refl 0) d_Model_depth_45 48 rfl (fun v2 h1 hb3 hf => ?_)
  refine x_if_eq X hf d_Model_depth_48 53 51 (by decide) rfl (fun hf => ?_) (fun hf => ?_)
  · refine x_aload_n X (q := 0) d_Model_depth_53 rfl 54 rfl ?_
    refine x_getR X hf (ci := 12) (j := 37) rfl (by decide) rfl lf_Model_100 d_Model_depth_54 57 rfl (fun o4 hf => ?_)
    refine x_iload_n X (q := 1) d_Model_depth_57 rfl 58 rfl ?_
    refine x_iload_n X (q := 2) d_Model_depth_58 rfl 59 rfl ?_
    refine x_aload_n X (q := 0) d_Model_depth_59 rfl 60 rfl ?_
    refine x_getR X hf (ci := 12) (j := 10) rfl (by decide) rfl lf_Model_20 d_Model_depth_60 63 rfl (fun o5 hf => ?_)
    refine x_iconst X (v := 2) d_Model_depth_63 (by decide) 64 rfl ?_
    refine x_iald X hf d_Model_depth_64 65 rfl (fun v6 hf => ?_)
    refine x_ishl X d_Model_depth_65 66 rfl ?_
    refine x_ior X d_Model_depth_66 67 rfl ?_
    refine x_iald X hf d_Model_depth_67 68 rfl (fun v7 hf => ?_)
    refine x_iconst X (v := 1) d_Model_depth_68 (by decide) 69 rfl ?_
    refine x_isub X d_Model_depth_69 70 rfl ?_
    exact hret _ _ _ _ _ (some (.int (v7 - 1))) (Nat.le_refl 0) (Nat.le_refl 0) ⟨_, rfl, hf⟩ ⟨⟨_, rfl, rfl⟩, d_Model_depth_70⟩
  · refine x_iconst X (v := 0) d_Model_depth_51 (by decide) 52 rfl ?_
    exact hret _ _ _ _ _ (some (.int 0)) (Nat.le_refl 0) (Nat.le_refl 0) ⟨_, rfl, hf⟩ ⟨⟨_, rfl, rfl⟩, d_Model_depth_52⟩
set_option maxRecDepth 100000 in
def wp_Model_depth_39 (z : Nat → Nat) (Q : Int32 → xh → Prop)  (a0 : Nat) (x1 : Int32) (x2 : Int32) (s0 : Nat) (hp : xh) : Prop :=
  wp_Model_depth_44 z Q a0 x1 x2 1 s0 hp
set_option maxRecDepth 100000 in
set_option maxHeartbeats 4000000 in
theorem t_Model_depth_39 {p : Program} {l : Launch} {e : Env} {s : State} {m : MethodId} {args : Array Value} {below : List Frame} {meth : Method} {c : Code} {G : xG} {z : Nat → Nat} {A : Nat → Prop} {Qw : State → Prop} {Q : Int32 → xh → Prop} {a0 : Nat} {x1 : Int32} {x2 : Int32} {s0 : Nat} {hp : xh} (X : xX p l e rm_Model_depth s m args below meth c G z A y_Model_depth b_Model_depth 3) (hret : xRet p l e rm_Model_depth s m args below meth c G A 3 Qw b_Model_depth (some .int) (xqi Q))  (hf : wp_Model_depth_39 z Q  a0 x1 x2 s0 hp) : xE p l e rm_Model_depth s m args below meth c G A 3 Qw 0 0 hp 39 [(0, .ref a0), (1, .int x1), (2, .int x2)] [.ref s0] := by
  unfold wp_Model_depth_39 at hf
  refine x_iconst X (v := 1) d_Model_depth_39 (by decide) 40 rfl ?_
  refine x_goto X d_Model_depth_40 44 (by decide) ?_
  exact x_sub [0, 1, 2] rfl (t_Model_depth_44 X hret hf)
set_option maxRecDepth 100000 in
def wp_Model_depth (z : Nat → Nat) (Q : Int32 → xh → Prop) (a0 : Nat) (x1 : Int32) (x2 : Int32) (hp : xh) : Prop :=
  xcls hp a0 12 ∧ wp_Model_none z (fun v2 h1 => (¬ v2 = 0 → Q 0 h1) ∧ (v2 = 0 → ((x1 < 0 → wp_Model_depth_39 z Q a0 x1 x2 a0 h1) ∧ (¬ x1 < 0 → (∃ o4, fR h1 a0 12 10 = some o4 ∧ (∃ v5, aI h1 o4 0 2 = some v5 ∧ ((¬ (x1 >>> (v5 &&& 31)) = 0 → wp_Model_depth_39 z Q a0 x1 x2 a0 h1) ∧ ((x1 >>> (v5 &&& 31)) = 0 → ((x2 < 0 → wp_Model_depth_39 z Q a0 x1 x2 a0 h1) ∧ (¬ x2 < 0 → (∃ o6, fR h1 a0 12 10 = some o6 ∧ (∃ v7, aI h1 o6 0 7 = some v7 ∧ (((x2 >>> (v7 &&& 31)) = 0 → wp_Model_depth_44 z Q a0 x1 x2 0 a0 h1) ∧ (¬ (x2 >>> (v7 &&& 31)) = 0 → wp_Model_depth_39 z Q a0 x1 x2 a0 h1)))))))))))))) a0 hp
set_option maxRecDepth 100000 in
set_option maxHeartbeats 4000000 in
theorem t_Model_depth {l : Launch} {G : xG} {z : Nat → Nat} {Q : Int32 → xh → Prop} {a0 : Nat} {x1 : Int32} {x2 : Int32} {hp : xh} (hf : wp_Model_depth z Q a0 x1 x2 hp) : xM l G z y_Model_depth b_Model_depth 3 (some .int) rm_Model_depth [.ref a0, .int x1, .int x2] hp (xqi Q) := by
  refine xM_of (by decide) (Nat.le_of_ble_eq_true rfl) (lv0 := [(0, .ref a0), (1, .int x1), (2, .int x2)]) rfl ?_
  intro p e s m args below meth c A Qw X hret
  unfold wp_Model_depth at hf
  refine x_aload_n X (q := 0) d_Model_depth_0 rfl 1 rfl ?_
  refine x_callV0z X (t_Model_none hf.2) hf.1 (ci := 12) rfl rfl lm_Model_308 im_Model_none sl_Model_none cd_Model_none in_Model ds_Model_none rfl rfl (Nat.le_of_ble_eq_true rfl) (Nat.le_of_ble_eq_true rfl) (Nat.le_of_ble_eq_true rfl) rfl rfl (Nat.le_refl 0) (Nat.le_refl 0) d_Model_depth_1 4 rfl (fun v2 h1 hb3 hf => ?_)
  refine x_if_ne X hf d_Model_depth_4 51 7 (by decide) rfl (fun hf => ?_) (fun hf => ?_)
  · refine x_iconst X (v := 0) d_Model_depth_51 (by decide) 52 rfl ?_
    exact hret _ _ _ _ _ (some (.int 0)) (Nat.le_refl 0) (Nat.le_refl 0) ⟨_, rfl, hf⟩ ⟨⟨_, rfl, rfl⟩, d_Model_depth_52⟩
  · refine x_aload_n X (q := 0) d_Model_depth_7 rfl 8 rfl ?_
    refine x_iload_n X (q := 1) d_Model_depth_8 rfl 9 rfl ?_
    refine x_if_lt X hf d_Model_depth_9 39 12 (by decide) rfl (fun hf => ?_) (fun hf => ?_)
    · exact x_sub [0, 1, 2] rfl (t_Model_depth_39 X hret hf)
    · refine x_iload_n X (q := 1) d_Model_depth_12 rfl 13 rfl ?_
      refine x_aload_n X (q := 0) d_Model_depth_13 rfl 14 rfl ?_
      refine x_getR X hf (ci := 12) (j := 10) rfl (by decide) rfl lf_Model_20 d_Model_depth_14 17 rfl (fun o4 hf => ?_)
      refine x_iconst X (v := 2) d_Model_depth_17 (by decide) 18 rfl ?_
      refine x_iald X hf d_Model_depth_18 19 rfl (fun v5 hf => ?_)
      refine x_ishr X d_Model_depth_19 20 rfl ?_
      refine x_if_ne X hf d_Model_depth_20 39 23 (by decide) rfl (fun hf => ?_) (fun hf => ?_)
      · exact x_sub [0, 1, 2] rfl (t_Model_depth_39 X hret hf)
      · refine x_iload_n X (q := 2) d_Model_depth_23 rfl 24 rfl ?_
        refine x_if_lt X hf d_Model_depth_24 39 27 (by decide) rfl (fun hf => ?_) (fun hf => ?_)
        · exact x_sub [0, 1, 2] rfl (t_Model_depth_39 X hret hf)
        · refine x_iload_n X (q := 2) d_Model_depth_27 rfl 28 rfl ?_
          refine x_aload_n X (q := 0) d_Model_depth_28 rfl 29 rfl ?_
          refine x_getR X hf (ci := 12) (j := 10) rfl (by decide) rfl lf_Model_20 d_Model_depth_29 32 rfl (fun o6 hf => ?_)
          refine x_bipush X (v := 7) d_Model_depth_32 (by decide) 34 rfl ?_
          refine x_iald X hf d_Model_depth_34 35 rfl (fun v7 hf => ?_)
          refine x_ishr X d_Model_depth_35 36 rfl ?_
          refine x_if_eq X hf d_Model_depth_36 43 39 (by decide) rfl (fun hf => ?_) (fun hf => ?_)
          · refine x_iconst X (v := 0) d_Model_depth_43 (by decide) 44 rfl ?_
            exact x_sub [0, 1, 2] rfl (t_Model_depth_44 X hret hf)
          · exact x_sub [0, 1, 2] rfl (t_Model_depth_39 X hret hf)

set_option maxRecDepth 100000 in
def wp_Model_same_109 (z : Nat → Nat) (Q : Int32 → xh → Prop)  (x5 : Int32) (hp : xh) : Prop :=
  xbl x5 ∧ Q x5 hp
set_option maxRecDepth 100000 in
set_option maxHeartbeats 4000000 in
theorem t_Model_same_109 {p : Program} {l : Launch} {e : Env} {s : State} {m : MethodId} {args : Array Value} {below : List Frame} {meth : Method} {c : Code} {G : xG} {z : Nat → Nat} {A : Nat → Prop} {Qw : State → Prop} {Q : Int32 → xh → Prop} {x5 : Int32} {hp : xh} (X : xX p l e rm_Model_same s m args below meth c G z A y_Model_same b_Model_same 7) (hret : xRet p l e rm_Model_same s m args below meth c G A 7 Qw b_Model_same (some .boolean) (xqz Q))  (hf : wp_Model_same_109 z Q  x5 hp) : xE p l e rm_Model_same s m args below meth c G A 7 Qw 0 0 hp 109 [(5, .int x5)] [] := by
  unfold wp_Model_same_109 at hf
  refine x_iload X (q := 0) d_Model_same_109 rfl 111 rfl ?_
  exact hret _ _ _ _ _ (some (.int x5)) (Nat.le_refl 0) (Nat.le_refl 0) ⟨_, rfl, hf.1, hf.2⟩ ⟨⟨_, rfl, xbl_nar hf.1⟩, d_Model_same_111⟩
set_option maxRecDepth 100000 in
def wp_Model_same_101 (z : Nat → Nat) (Q : Int32 → xh → Prop) (k47 : Nat × Int32 × Int32 × Int32 × Int32 × Int32 × Int32 × xh → Prop) (a0 : Nat) (x1 : Int32) (x2 : Int32) (x3 : Int32) (x4 : Int32) (x6 : Int32) (s0 : Int32) (hp : xh) : Prop :=
  k47 (a0, x1, x2, x3, x4, s0, (x6 + 1), hp)
set_option maxRecDepth 100000 in
set_option maxHeartbeats 4000000 in
theorem t_Model_same_101 {p : Program} {l : Launch} {e : Env} {s : State} {m : MethodId} {args : Array Value} {below : List Frame} {meth : Method} {c : Code} {G : xG} {z : Nat → Nat} {A : Nat → Prop} {Qw : State → Prop} {Q : Int32 → xh → Prop} {k47 : Nat × Int32 × Int32 × Int32 × Int32 × Int32 × Int32 × xh → Prop} {a0 : Nat} {x1 : Int32} {x2 : Int32} {x3 : Int32} {x4 : Int32} {x6 : Int32} {s0 : Int32} {hp : xh} (X : xX p l e rm_Model_same s m args below meth c G z A y_Model_same b_Model_same 7) (hret : xRet p l e rm_Model_same s m args below meth c G A 7 Qw b_Model_same (some .boolean) (xqz Q)) (hk47 : ∀ (a0 : Nat) (x1 : Int32) (x2 : Int32) (x3 : Int32) (x4 : Int32) (x5 : Int32) (x6 : Int32) (hp : xh), k47 (a0, x1, x2, x3, x4, x5, x6, hp) → xE p l e rm_Model_same s m args below meth c G A 7 Qw 0 0 hp 47 [(0, .ref a0), (1, .int x1), (2, .int x2), (3, .int x3), (4, .int x4), (5, .int x5), (6, .int x6)] []) (hf : wp_Model_same_101 z Q k47 a0 x1 x2 x3 x4 x6 s0 hp) : xE p l e rm_Model_same s m args below meth c G A 7 Qw 0 0 hp 101 [(0, .ref a0), (1, .int x1), (2, .int x2), (3, .int x3), (4, .int x4), (6, .int x6)] [.int s0] := by
  unfold wp_Model_same_101 at hf
  refine x_istore X (lv' := [(5, .int s0), (0, .ref a0), (1, .int x1), (2, .int x2), (3, .int x3), (4, .int x4), (6, .int x6)]) d_Model_same_101 (by decide) rfl 103 rfl ?_
  refine x_iinc X (q := 6) (v := (x6 + 1)) (lv' := [(6, .int (x6 + 1)), (5, .int s0), (0, .ref a0), (1, .int x1), (2, .int x2), (3, .int x3), (4, .int x4)]) d_Model_same_103 rfl (by rfl) (by decide) rfl 106 rfl ?_
  refine x_goto X d_Model_same_106 47 (by decide) ?_
  exact x_sub [2, 3, 4, 5, 6, 1, 0] rfl (hk47 _ _ _ _ _ _ _ _ hf)
set_option maxRecDepth 100000 in
def wp_Model_same_47_b (z : Nat → Nat) (Q : Int32 → xh → Prop)  (k47 : Nat × Int32 × Int32 × Int32 × Int32 × Int32 × Int32 × xh → Prop) (a0 : Nat) (x1 : Int32) (x2 : Int32) (x3 : Int32) (x4 : Int32) (x5 : Int32) (x6 : Int32) (hp : xh) : Prop :=
  ∃ v1, fI hp a0 12 38 = some v1 ∧ ((v1 ≤ x6 → wp_Model_same_109 z Q x5 hp) ∧ (¬ v1 ≤ x6 → ((x5 = 0 → wp_Model_same_109 z Q x5 hp) ∧ (¬ x5 = 0 → (∃ o2, fR hp a0 12 36 = some o2 ∧ (∃ v3, aI hp o2 0 x6 = some v3 ∧ (xcls hp a0 12 ∧ wp_Model_reckonBoth z (fun h4 => xcls h4 a0 12 ∧ wp_Model_of z (fun v6 h5 => xcls h5 a0 12 ∧ wp_Model_of z (fun v8 h7 => xcls h7 a0 12 ∧ wp_Model_mask z (fun v10 h9 => (¬ (lg_cmp ((v6 ^^^ v8) &&& v10) 0) = 0 → wp_Model_same_101 z Q k47 a0 x1 x2 x3 x4 x6 0 h9) ∧ ((lg_cmp ((v6 ^^^ v8) &&& v10) 0) = 0 → wp_Model_same_101 z Q k47 a0 x1 x2 x3 x4 x6 1 h9)) a0 h7) a0 x3 x4 h5) a0 x1 x2 h4) a0 v3 hp)))))))
set_option maxRecDepth 100000 in
def wp_Model_same_47 (z : Nat → Nat) (Q : Int32 → xh → Prop)  (a0 : Nat) (x1 : Int32) (x2 : Int32) (x3 : Int32) (x4 : Int32) (x5 : Int32) (x6 : Int32) (hp : xh) : Prop := ∃ f : Nat, xloop (fun k47 a => wp_Model_same_47_b z Q  k47 a.1 a.2.1 a.2.2.1 a.2.2.2.1 a.2.2.2.2.1 a.2.2.2.2.2.1 a.2.2.2.2.2.2.1 a.2.2.2.2.2.2.2) f (a0, x1, x2, x3, x4, x5, x6, hp)
set_option maxRecDepth 100000 in
set_option maxHeartbeats 4000000 in
theorem t_Model_same_47 {p : Program} {l : Launch} {e : Env} {s : State} {m : MethodId} {args : Array Value} {below : List Frame} {meth : Method} {c : Code} {G : xG} {z : Nat → Nat} {A : Nat → Prop} {Qw : State → Prop} {Q : Int32 → xh → Prop} {a0 : Nat} {x1 : Int32} {x2 : Int32} {x3 : Int32} {x4 : Int32} {x5 : Int32} {x6 : Int32} {hp : xh} (X : xX p l e rm_Model_same s m args below meth c G z A y_Model_same b_Model_same 7) (hret : xRet p l e rm_Model_same s m args below meth c G A 7 Qw b_Model_same (some .boolean) (xqz Q))  (hf : wp_Model_same_47 z Q  a0 x1 x2 x3 x4 x5 x6 hp) : xE p l e rm_Model_same s m args below meth c G A 7 Qw 0 0 hp 47 [(0, .ref a0), (1, .int x1), (2, .int x2), (3, .int x3), (4, .int x4), (5, .int x5), (6, .int x6)] [] := by
  obtain ⟨f, hf⟩ := hf
  refine xloop_ind (F := fun k47 a => wp_Model_same_47_b z Q  k47 a.1 a.2.1 a.2.2.1 a.2.2.2.1 a.2.2.2.2.1 a.2.2.2.2.2.1 a.2.2.2.2.2.2.1 a.2.2.2.2.2.2.2) (E := fun a => xE p l e rm_Model_same s m args below meth c G A 7 Qw 0 0 a.2.2.2.2.2.2.2 47 [(0, .ref (a.1)), (1, .int (a.2.1)), (2, .int (a.2.2.1)), (3, .int (a.2.2.2.1)), (4, .int (a.2.2.2.2.1)), (5, .int (a.2.2.2.2.2.1)), (6, .int (a.2.2.2.2.2.2.1))] []) ?_ f (a0, x1, x2, x3, x4, x5, x6, hp) hf
  intro k47 hk a hf
  obtain ⟨a0, x1, x2, x3, x4, x5, x6, hp⟩ := a
  have hk47 : ∀ (a0 : Nat) (x1 : Int32) (x2 : Int32) (x3 : Int32) (x4 : Int32) (x5 : Int32) (x6 : Int32) (hp : xh), k47 (a0, x1, x2, x3, x4, x5, x6, hp) → xE p l e rm_Model_same s m args below meth c G A 7 Qw 0 0 hp 47 [(0, .ref a0), (1, .int x1), (2, .int x2), (3, .int x3), (4, .int x4), (5, .int x5), (6, .int x6)] [] := fun a0 x1 x2 x3 x4 x5 x6 hp h => hk (a0, x1, x2, x3, x4, x5, x6, hp) h
  have hf : wp_Model_same_47_b z Q  k47 a0 x1 x2 x3 x4 x5 x6 hp := hf
  unfold wp_Model_same_47_b at hf
  refine x_iload X (q := 6) d_Model_same_47 rfl 49 rfl ?_
  refine x_aload_n X (q := 0) d_Model_same_49 rfl 50 rfl ?_
  refine x_getI X hf (ci := 12) (j := 38) rfl (by decide) rfl lf_Model_286 d_Model_same_50 53 rfl (fun v1 hf => ?_)
  refine x_icmp_ge X hf d_Model_same_53 109 56 (by decide) rfl (fun hf => ?_) (fun hf => ?_)
  · exact x_sub [5] rfl (t_Model_same_109 X hret hf)
  · refine x_iload X (q := 5) d_Model_same_56 rfl 58 rfl ?_
    refine x_if_eq X hf d_Model_same_58 109 61 (by decide) rfl (fun hf => ?_) (fun hf => ?_)
    · exact x_sub [5] rfl (t_Model_same_109 X hret hf)
    · refine x_aload_n X (q := 0) d_Model_same_61 rfl 62 rfl ?_
      refine x_aload_n X (q := 0) d_Model_same_62 rfl 63 rfl ?_
      refine x_getR X hf (ci := 12) (j := 36) rfl (by decide) rfl lf_Model_97 d_Model_same_63 66 rfl (fun o2 hf => ?_)
      refine x_iload X (q := 6) d_Model_same_66 rfl 68 rfl ?_
      refine x_iald X hf d_Model_same_68 69 rfl (fun v3 hf => ?_)
      refine x_callV0v X (t_Model_reckonBoth hf.2) hf.1 (ci := 12) rfl rfl lm_Model_280 im_Model_reckonBoth sl_Model_reckonBoth cd_Model_reckonBoth in_Model ds_Model_reckonBoth rfl rfl (Nat.le_of_ble_eq_true rfl) (Nat.le_of_ble_eq_true rfl) (Nat.le_of_ble_eq_true rfl) rfl rfl (Nat.le_refl 0) (Nat.le_refl 0) d_Model_same_69 72 rfl (fun h4 hf => ?_)
      refine x_aload_n X (q := 0) d_Model_same_72 rfl 73 rfl ?_
      refine x_iload_n X (q := 1) d_Model_same_73 rfl 74 rfl ?_
      refine x_iload_n X (q := 2) d_Model_same_74 rfl 75 rfl ?_
      refine x_callV0l X (t_Model_of hf.2) hf.1 (ci := 12) rfl rfl lm_Model_253 im_Model_of sl_Model_of cd_Model_of in_Model ds_Model_of rfl rfl (Nat.le_of_ble_eq_true rfl) (Nat.le_of_ble_eq_true rfl) (Nat.le_of_ble_eq_true rfl) rfl rfl (Nat.le_refl 0) (Nat.le_refl 0) d_Model_same_75 78 rfl (fun v6 h5 hf => ?_)
      refine x_aload_n X (q := 0) d_Model_same_78 rfl 79 rfl ?_
      refine x_iload_n X (q := 3) d_Model_same_79 rfl 80 rfl ?_
      refine x_iload X (q := 4) d_Model_same_80 rfl 82 rfl ?_
      refine x_callV0l X (t_Model_of hf.2) hf.1 (ci := 12) rfl rfl lm_Model_253 im_Model_of sl_Model_of cd_Model_of in_Model ds_Model_of rfl rfl (Nat.le_of_ble_eq_true rfl) (Nat.le_of_ble_eq_true rfl) (Nat.le_of_ble_eq_true rfl) rfl rfl (Nat.le_refl 0) (Nat.le_refl 0) d_Model_same_82 85 rfl (fun v8 h7 hf => ?_)
      refine x_lxor X d_Model_same_85 86 rfl ?_
      refine x_aload_n X (q := 0) d_Model_same_86 rfl 87 rfl ?_
      refine x_callV0l X (t_Model_mask hf.2) hf.1 (ci := 12) rfl rfl lm_Model_270 im_Model_mask sl_Model_mask cd_Model_mask in_Model ds_Model_mask rfl rfl (Nat.le_of_ble_eq_true rfl) (Nat.le_of_ble_eq_true rfl) (Nat.le_of_ble_eq_true rfl) rfl rfl (Nat.le_refl 0) (Nat.le_refl 0) d_Model_same_87 90 rfl (fun v10 h9 hf => ?_)
      refine x_land X d_Model_same_90 91 rfl ?_
      refine x_lconst X (v := 0) d_Model_same_91 (by decide) 92 rfl ?_
      refine x_lcmp X d_Model_same_92 93 rfl ?_
      refine x_if_ne X hf d_Model_same_93 100 96 (by decide) rfl (fun hf => ?_) (fun hf => ?_)
      · refine x_iconst X (v := 0) d_Model_same_100 (by decide) 101 rfl ?_
        exact x_sub [0, 1, 2, 3, 4, 6] rfl (t_Model_same_101 X hret hk47 hf)
      · refine x_iconst X (v := 1) d_Model_same_96 (by decide) 97 rfl ?_
        refine x_goto X d_Model_same_97 101 (by decide) ?_
        exact x_sub [0, 1, 2, 3, 4, 6] rfl (t_Model_same_101 X hret hk47 hf)
set_option maxRecDepth 100000 in
def wp_Model_same_32 (z : Nat → Nat) (Q : Int32 → xh → Prop)  (a0 : Nat) (x1 : Int32) (x2 : Int32) (x3 : Int32) (x4 : Int32) (s1 : Int32) (s0 : Nat) (hp : xh) : Prop :=
  xcls hp s0 12 ∧ wp_Model_fails z (fun v2 h1 => (v2 = 0 → wp_Model_same_47 z Q a0 x1 x2 x3 x4 1 0 h1) ∧ (¬ v2 = 0 → Q 0 h1)) s0 s1 2 hp
set_option maxRecDepth 100000 in
set_option maxHeartbeats 4000000 in
theorem t_Model_same_32 {p : Program} {l : Launch} {e : Env} {s : State} {m : MethodId} {args : Array Value} {below : List Frame} {meth : Method} {c : Code} {G : xG} {z : Nat → Nat} {A : Nat → Prop} {Qw : State → Prop} {Q : Int32 → xh → Prop} {a0 : Nat} {x1 : Int32} {x2 : Int32} {x3 : Int32} {x4 : Int32} {s1 : Int32} {s0 : Nat} {hp : xh} (X : xX p l e rm_Model_same s m args below meth c G z A y_Model_same b_Model_same 7) (hret : xRet p l e rm_Model_same s m args below meth c G A 7 Qw b_Model_same (some .boolean) (xqz Q))  (hf : wp_Model_same_32 z Q  a0 x1 x2 x3 x4 s1 s0 hp) : xE p l e rm_Model_same s m args below meth c G A 7 Qw 0 0 hp 32 [(0, .ref a0), (1, .int x1), (2, .int x2), (3, .int x3), (4, .int x4)] [.int s1, .ref s0] := by
  unfold wp_Model_same_32 at hf
  refine x_iconst X (v := 2) d_Model_same_32 (by decide) 33 rfl ?_
  refine x_callV0z X (t_Model_fails hf.2) hf.1 (ci := 12) rfl rfl lm_Model_301 im_Model_fails sl_Model_fails cd_Model_fails in_Model ds_Model_fails rfl rfl (Nat.le_of_ble_eq_true rfl) (Nat.le_of_ble_eq_true rfl) (Nat.le_of_ble_eq_true rfl) rfl rfl (Nat.le_refl 0) (Nat.le_refl 0) d_Model_same_33 36 rfl (fun v2 h1 hb3 hf => ?_)
  refine x_if_eq X hf d_Model_same_36 41 39 (by decide) rfl (fun hf => ?_) (fun hf => ?_)
  · refine x_iconst X (v := 1) d_Model_same_41 (by decide) 42 rfl ?_
    refine x_istore X (lv' := [(5, .int 1), (0, .ref a0), (1, .int x1), (2, .int x2), (3, .int x3), (4, .int x4)]) d_Model_same_42 (by decide) rfl 44 rfl ?_
    refine x_iconst X (v := 0) d_Model_same_44 (by decide) 45 rfl ?_
    refine x_istore X (lv' := [(6, .int 0), (5, .int 1), (0, .ref a0), (1, .int x1), (2, .int x2), (3, .int x3), (4, .int x4)]) d_Model_same_45 (by decide) rfl 47 rfl ?_
    exact x_sub [2, 3, 4, 5, 6, 1, 0] rfl (t_Model_same_47 X hret hf)
  · refine x_iconst X (v := 0) d_Model_same_39 (by decide) 40 rfl ?_
    exact hret _ _ _ _ _ (some (.int 0)) (Nat.le_refl 0) (Nat.le_refl 0) ⟨_, rfl, (Or.inl rfl), hf⟩ ⟨⟨_, rfl, xbl_nar (Or.inl rfl)⟩, d_Model_same_40⟩
set_option maxRecDepth 100000 in
def wp_Model_same_27 (z : Nat → Nat) (Q : Int32 → xh → Prop)  (a0 : Nat) (x1 : Int32) (x2 : Int32) (x3 : Int32) (x4 : Int32) (s0 : Nat) (hp : xh) : Prop :=
  wp_Model_same_32 z Q a0 x1 x2 x3 x4 1 s0 hp
set_option maxRecDepth 100000 in
set_option maxHeartbeats 4000000 in
theorem t_Model_same_27 {p : Program} {l : Launch} {e : Env} {s : State} {m : MethodId} {args : Array Value} {below : List Frame} {meth : Method} {c : Code} {G : xG} {z : Nat → Nat} {A : Nat → Prop} {Qw : State → Prop} {Q : Int32 → xh → Prop} {a0 : Nat} {x1 : Int32} {x2 : Int32} {x3 : Int32} {x4 : Int32} {s0 : Nat} {hp : xh} (X : xX p l e rm_Model_same s m args below meth c G z A y_Model_same b_Model_same 7) (hret : xRet p l e rm_Model_same s m args below meth c G A 7 Qw b_Model_same (some .boolean) (xqz Q))  (hf : wp_Model_same_27 z Q  a0 x1 x2 x3 x4 s0 hp) : xE p l e rm_Model_same s m args below meth c G A 7 Qw 0 0 hp 27 [(0, .ref a0), (1, .int x1), (2, .int x2), (3, .int x3), (4, .int x4)] [.ref s0] := by
  unfold wp_Model_same_27 at hf
  refine x_iconst X (v := 1) d_Model_same_27 (by decide) 28 rfl ?_
  refine x_goto X d_Model_same_28 32 (by decide) ?_
  exact x_sub [0, 1, 2, 3, 4] rfl (t_Model_same_32 X hret hf)
set_option maxRecDepth 100000 in
def wp_Model_same (z : Nat → Nat) (Q : Int32 → xh → Prop) (a0 : Nat) (x1 : Int32) (x2 : Int32) (x3 : Int32) (x4 : Int32) (hp : xh) : Prop :=
  xcls hp a0 12 ∧ wp_Model_none z (fun v2 h1 => (¬ v2 = 0 → Q 0 h1) ∧ (v2 = 0 → (xcls h1 a0 12 ∧ wp_Model_isLiteral z (fun v5 h4 => (v5 = 0 → wp_Model_same_27 z Q a0 x1 x2 x3 x4 a0 h4) ∧ (¬ v5 = 0 → (xcls h4 a0 12 ∧ wp_Model_isLiteral z (fun v8 h7 => (¬ v8 = 0 → wp_Model_same_32 z Q a0 x1 x2 x3 x4 0 a0 h7) ∧ (v8 = 0 → wp_Model_same_27 z Q a0 x1 x2 x3 x4 a0 h7)) a0 x3 x4 h4))) a0 x1 x2 h1))) a0 hp
set_option maxRecDepth 100000 in
set_option maxHeartbeats 4000000 in
theorem t_Model_same {l : Launch} {G : xG} {z : Nat → Nat} {Q : Int32 → xh → Prop} {a0 : Nat} {x1 : Int32} {x2 : Int32} {x3 : Int32} {x4 : Int32} {hp : xh} (hf : wp_Model_same z Q a0 x1 x2 x3 x4 hp) : xM l G z y_Model_same b_Model_same 7 (some .boolean) rm_Model_same [.ref a0, .int x1, .int x2, .int x3, .int x4] hp (xqz Q) := by
  refine xM_of (by decide) (Nat.le_of_ble_eq_true rfl) (lv0 := [(0, .ref a0), (1, .int x1), (2, .int x2), (3, .int x3), (4, .int x4)]) rfl ?_
  intro p e s m args below meth c A Qw X hret
  unfold wp_Model_same at hf
  refine x_aload_n X (q := 0) d_Model_same_0 rfl 1 rfl ?_
  refine x_callV0z X (t_Model_none hf.2) hf.1 (ci := 12) rfl rfl lm_Model_308 im_Model_none sl_Model_none cd_Model_none in_Model ds_Model_none rfl rfl (Nat.le_of_ble_eq_true rfl) (Nat.le_of_ble_eq_true rfl) (Nat.le_of_ble_eq_true rfl) rfl rfl (Nat.le_refl 0) (Nat.le_refl 0) d_Model_same_1 4 rfl (fun v2 h1 hb3 hf => ?_)
  refine x_if_ne X hf d_Model_same_4 39 7 (by decide) rfl (fun hf => ?_) (fun hf => ?_)
  · refine x_iconst X (v := 0) d_Model_same_39 (by decide) 40 rfl ?_
    exact hret _ _ _ _ _ (some (.int 0)) (Nat.le_refl 0) (Nat.le_refl 0) ⟨_, rfl, (Or.inl rfl), hf⟩ ⟨⟨_, rfl, xbl_nar (Or.inl rfl)⟩, d_Model_same_40⟩
  · refine x_aload_n X (q := 0) d_Model_same_7 rfl 8 rfl ?_
    refine x_aload_n X (q := 0) d_Model_same_8 rfl 9 rfl ?_
    refine x_iload_n X (q := 1) d_Model_same_9 rfl 10 rfl ?_
    refine x_iload_n X (q := 2) d_Model_same_10 rfl 11 rfl ?_
    refine x_callV0z X (t_Model_isLiteral hf.2) hf.1 (ci := 12) rfl rfl lm_Model_257 im_Model_isLiteral sl_Model_isLiteral cd_Model_isLiteral in_Model ds_Model_isLiteral rfl rfl (Nat.le_of_ble_eq_true rfl) (Nat.le_of_ble_eq_true rfl) (Nat.le_of_ble_eq_true rfl) rfl rfl (Nat.le_refl 0) (Nat.le_refl 0) d_Model_same_11 14 rfl (fun v5 h4 hb6 hf => ?_)
    refine x_if_eq X hf d_Model_same_14 27 17 (by decide) rfl (fun hf => ?_) (fun hf => ?_)
    · exact x_sub [0, 1, 2, 3, 4] rfl (t_Model_same_27 X hret hf)
    · refine x_aload_n X (q := 0) d_Model_same_17 rfl 18 rfl ?_
      refine x_iload_n X (q := 3) d_Model_same_18 rfl 19 rfl ?_
      refine x_iload X (q := 4) d_Model_same_19 rfl 21 rfl ?_
      refine x_callV0z X (t_Model_isLiteral hf.2) hf.1 (ci := 12) rfl rfl lm_Model_257 im_Model_isLiteral sl_Model_isLiteral cd_Model_isLiteral in_Model ds_Model_isLiteral rfl rfl (Nat.le_of_ble_eq_true rfl) (Nat.le_of_ble_eq_true rfl) (Nat.le_of_ble_eq_true rfl) rfl rfl (Nat.le_refl 0) (Nat.le_refl 0) d_Model_same_21 24 rfl (fun v8 h7 hb9 hf => ?_)
      refine x_if_ne X hf d_Model_same_24 31 27 (by decide) rfl (fun hf => ?_) (fun hf => ?_)
      · refine x_iconst X (v := 0) d_Model_same_31 (by decide) 32 rfl ?_
        exact x_sub [0, 1, 2, 3, 4] rfl (t_Model_same_32 X hret hf)
      · exact x_sub [0, 1, 2, 3, 4] rfl (t_Model_same_27 X hret hf)

set_option maxRecDepth 100000 in
def wp_Model_twin_166_b (z : Nat → Nat) (Q : Int32 → xh → Prop)  (k166 : Nat × Int32 × xh → Prop) (a0 : Nat) (x3 : Int32) (hp : xh) : Prop :=
  ∃ o1, fR hp a0 12 47 = some o1 ∧ (∃ v2, aI hp o1 2 x3 = some v2 ∧ ((¬ v2 = 0 → ((402 ≤ x3 → (Q ((1000 + x3) - 402) hp)) ∧ (¬ 402 ≤ x3 → Q x3 hp))) ∧ (v2 = 0 → (k166 (a0, (x3 + 1), hp)))))
set_option maxRecDepth 100000 in
def wp_Model_twin_166 (z : Nat → Nat) (Q : Int32 → xh → Prop)  (a0 : Nat) (x3 : Int32) (hp : xh) : Prop := ∃ f : Nat, xloop (fun k166 a => wp_Model_twin_166_b z Q  k166 a.1 a.2.1 a.2.2) f (a0, x3, hp)
set_option maxRecDepth 100000 in
set_option maxHeartbeats 4000000 in
theorem t_Model_twin_166 {p : Program} {l : Launch} {e : Env} {s : State} {m : MethodId} {args : Array Value} {below : List Frame} {meth : Method} {c : Code} {G : xG} {z : Nat → Nat} {A : Nat → Prop} {Qw : State → Prop} {Q : Int32 → xh → Prop} {a0 : Nat} {x3 : Int32} {hp : xh} (X : xX p l e rm_Model_twin s m args below meth c G z A y_Model_twin b_Model_twin 7) (hret : xRet p l e rm_Model_twin s m args below meth c G A 7 Qw b_Model_twin (some .int) (xqi Q))  (hf : wp_Model_twin_166 z Q  a0 x3 hp) : xE p l e rm_Model_twin s m args below meth c G A 7 Qw 0 0 hp 166 [(0, .ref a0), (3, .int x3)] [] := by
  obtain ⟨f, hf⟩ := hf
  refine xloop_ind (F := fun k166 a => wp_Model_twin_166_b z Q  k166 a.1 a.2.1 a.2.2) (E := fun a => xE p l e rm_Model_twin s m args below meth c G A 7 Qw 0 0 a.2.2 166 [(0, .ref (a.1)), (3, .int (a.2.1))] []) ?_ f (a0, x3, hp) hf
  intro k166 hk a hf
  obtain ⟨a0, x3, hp⟩ := a
  have hk166 : ∀ (a0 : Nat) (x3 : Int32) (hp : xh), k166 (a0, x3, hp) → xE p l e rm_Model_twin s m args below meth c G A 7 Qw 0 0 hp 166 [(0, .ref a0), (3, .int x3)] [] := fun a0 x3 hp h => hk (a0, x3, hp) h
  have hf : wp_Model_twin_166_b z Q  k166 a0 x3 hp := hf
  unfold wp_Model_twin_166_b at hf
  refine x_aload_n X (q := 0) d_Model_twin_166 rfl 167 rfl ?_
  refine x_getR X hf (ci := 12) (j := 47) rfl (by decide) rfl lf_Model_115 d_Model_twin_167 170 rfl (fun o1 hf => ?_)
  refine x_iload_n X (q := 1) d_Model_twin_170 rfl 171 rfl ?_
  refine x_zald X hf d_Model_twin_171 172 rfl (fun v2 hf => ?_)
  refine x_if_ne X hf d_Model_twin_172 181 175 (by decide) rfl (fun hf => ?_) (fun hf => ?_)
  · refine x_iload_n X (q := 1) d_Model_twin_181 rfl 182 rfl ?_
    refine x_sipush X (v := 402) d_Model_twin_182 (by decide) 185 rfl ?_
    refine x_icmp_ge X hf d_Model_twin_185 192 188 (by decide) rfl (fun hf => ?_) (fun hf => ?_)
    · refine x_sipush X (v := 1000) d_Model_twin_192 (by decide) 195 rfl ?_
      refine x_iload_n X (q := 1) d_Model_twin_195 rfl 196 rfl ?_
      refine x_iadd X d_Model_twin_196 197 rfl ?_
      refine x_sipush X (v := 402) d_Model_twin_197 (by decide) 200 rfl ?_
      refine x_isub X d_Model_twin_200 201 rfl ?_
      exact hret _ _ _ _ _ (some (.int ((1000 + x3) - 402))) (Nat.le_refl 0) (Nat.le_refl 0) ⟨_, rfl, hf⟩ ⟨⟨_, rfl, rfl⟩, d_Model_twin_201⟩
    · refine x_iload_n X (q := 1) d_Model_twin_188 rfl 189 rfl ?_
      refine x_goto X d_Model_twin_189 201 (by decide) ?_
      exact hret _ _ _ _ _ (some (.int x3)) (Nat.le_refl 0) (Nat.le_refl 0) ⟨_, rfl, hf⟩ ⟨⟨_, rfl, rfl⟩, d_Model_twin_201⟩
  · refine x_iinc X (q := 1) (v := (x3 + 1)) (lv' := [(3, .int (x3 + 1)), (0, .ref a0)]) d_Model_twin_175 rfl (by rfl) (by decide) rfl 178 rfl ?_
    refine x_goto X d_Model_twin_178 166 (by decide) ?_
    exact x_sub [1, 0] rfl (hk166 _ _ _ hf)
set_option maxRecDepth 100000 in
def wp_Model_twin_152 (z : Nat → Nat) (Q : Int32 → xh → Prop) (k68 : Nat × Int32 × Int32 × Int32 × xh → Prop) (k97 : Nat × Int32 × Int32 × Int32 × Int64 × Int32 × xh → Prop) (a0 : Nat) (x1 : Int32) (x2 : Int32) (x3 : Int32) (x4 : Int64) (x6 : Int32) (hp : xh) : Prop :=
  k97 (a0, x1, x2, x3, x4, (x6 + 1), hp)
set_option maxRecDepth 100000 in
set_option maxHeartbeats 4000000 in
theorem t_Model_twin_152 {p : Program} {l : Launch} {e : Env} {s : State} {m : MethodId} {args : Array Value} {below : List Frame} {meth : Method} {c : Code} {G : xG} {z : Nat → Nat} {A : Nat → Prop} {Qw : State → Prop} {Q : Int32 → xh → Prop} {k68 : Nat × Int32 × Int32 × Int32 × xh → Prop} {k97 : Nat × Int32 × Int32 × Int32 × Int64 × Int32 × xh → Prop} {a0 : Nat} {x1 : Int32} {x2 : Int32} {x3 : Int32} {x4 : Int64} {x6 : Int32} {hp : xh} (X : xX p l e rm_Model_twin s m args below meth c G z A y_Model_twin b_Model_twin 7) (hret : xRet p l e rm_Model_twin s m args below meth c G A 7 Qw b_Model_twin (some .int) (xqi Q)) (hk68 : ∀ (a0 : Nat) (x1 : Int32) (x2 : Int32) (x3 : Int32) (hp : xh), k68 (a0, x1, x2, x3, hp) → xE p l e rm_Model_twin s m args below meth c G A 7 Qw 0 0 hp 68 [(0, .ref a0), (1, .int x1), (2, .int x2), (3, .int x3)] []) (hk97 : ∀ (a0 : Nat) (x1 : Int32) (x2 : Int32) (x3 : Int32) (x4 : Int64) (x6 : Int32) (hp : xh), k97 (a0, x1, x2, x3, x4, x6, hp) → xE p l e rm_Model_twin s m args below meth c G A 7 Qw 0 0 hp 97 [(0, .ref a0), (1, .int x1), (2, .int x2), (3, .int x3), (4, .long x4), (6, .int x6)] []) (hf : wp_Model_twin_152 z Q k68 k97 a0 x1 x2 x3 x4 x6 hp) : xE p l e rm_Model_twin s m args below meth c G A 7 Qw 0 0 hp 152 [(0, .ref a0), (1, .int x1), (2, .int x2), (3, .int x3), (4, .long x4), (6, .int x6)] [] := by
  unfold wp_Model_twin_152 at hf
  refine x_iinc X (q := 5) (v := (x6 + 1)) (lv' := [(6, .int (x6 + 1)), (0, .ref a0), (1, .int x1), (2, .int x2), (3, .int x3), (4, .long x4)]) d_Model_twin_152 rfl (by rfl) (by decide) rfl 155 rfl ?_
  refine x_goto X d_Model_twin_155 97 (by decide) ?_
  exact x_sub [1, 2, 3, 4, 5, 0] rfl (hk97 _ _ _ _ _ _ _ hf)
set_option maxRecDepth 100000 in
def wp_Model_twin_97_b (z : Nat → Nat) (Q : Int32 → xh → Prop) (k68 : Nat × Int32 × Int32 × Int32 × xh → Prop) (k97 : Nat × Int32 × Int32 × Int32 × Int64 × Int32 × xh → Prop) (a0 : Nat) (x1 : Int32) (x2 : Int32) (x3 : Int32) (x4 : Int64) (x6 : Int32) (hp : xh) : Prop :=
  (804 ≤ x6 → (k68 (a0, x1, x2, (x3 + 1), hp))) ∧ (¬ 804 ≤ x6 → (∃ o1, fR hp a0 12 47 = some o1 ∧ (∃ v2, aI hp o1 2 x6 = some v2 ∧ ((v2 = 0 → wp_Model_twin_152 z Q k68 k97 a0 x1 x2 x3 x4 x6 hp) ∧ (¬ v2 = 0 → (xcls hp a0 12 ∧ wp_Model_of z (fun v4 h3 => xcls h3 a0 12 ∧ wp_Model_mask z (fun v6 h5 => ((lg_cmp ((v4 ^^^ x4) &&& v6) 0) = 0 → wp_Model_twin_152 z Q k68 k97 a0 x1 x2 x3 x4 x6 h5) ∧ (¬ (lg_cmp ((v4 ^^^ x4) &&& v6) 0) = 0 → (∃ o7, fR h5 a0 12 47 = some o7 ∧ (∃ h8, sI h5 o7 2 x6 (vp_nar .boolean 0) = some h8 ∧ wp_Model_twin_152 z Q k68 k97 a0 x1 x2 x3 x4 x6 h8)))) a0 h3) a0 (x6 / 402) (x6 - x6 / 402 * 402) hp))))))
set_option maxRecDepth 100000 in
def wp_Model_twin_97 (z : Nat → Nat) (Q : Int32 → xh → Prop) (k68 : Nat × Int32 × Int32 × Int32 × xh → Prop) (a0 : Nat) (x1 : Int32) (x2 : Int32) (x3 : Int32) (x4 : Int64) (x6 : Int32) (hp : xh) : Prop := ∃ f : Nat, xloop (fun k97 a => wp_Model_twin_97_b z Q k68 k97 a.1 a.2.1 a.2.2.1 a.2.2.2.1 a.2.2.2.2.1 a.2.2.2.2.2.1 a.2.2.2.2.2.2) f (a0, x1, x2, x3, x4, x6, hp)
set_option maxRecDepth 100000 in
set_option maxHeartbeats 4000000 in
theorem t_Model_twin_97 {p : Program} {l : Launch} {e : Env} {s : State} {m : MethodId} {args : Array Value} {below : List Frame} {meth : Method} {c : Code} {G : xG} {z : Nat → Nat} {A : Nat → Prop} {Qw : State → Prop} {Q : Int32 → xh → Prop} {k68 : Nat × Int32 × Int32 × Int32 × xh → Prop} {a0 : Nat} {x1 : Int32} {x2 : Int32} {x3 : Int32} {x4 : Int64} {x6 : Int32} {hp : xh} (X : xX p l e rm_Model_twin s m args below meth c G z A y_Model_twin b_Model_twin 7) (hret : xRet p l e rm_Model_twin s m args below meth c G A 7 Qw b_Model_twin (some .int) (xqi Q)) (hk68 : ∀ (a0 : Nat) (x1 : Int32) (x2 : Int32) (x3 : Int32) (hp : xh), k68 (a0, x1, x2, x3, hp) → xE p l e rm_Model_twin s m args below meth c G A 7 Qw 0 0 hp 68 [(0, .ref a0), (1, .int x1), (2, .int x2), (3, .int x3)] []) (hf : wp_Model_twin_97 z Q k68 a0 x1 x2 x3 x4 x6 hp) : xE p l e rm_Model_twin s m args below meth c G A 7 Qw 0 0 hp 97 [(0, .ref a0), (1, .int x1), (2, .int x2), (3, .int x3), (4, .long x4), (6, .int x6)] [] := by
  obtain ⟨f, hf⟩ := hf
  refine xloop_ind (F := fun k97 a => wp_Model_twin_97_b z Q k68 k97 a.1 a.2.1 a.2.2.1 a.2.2.2.1 a.2.2.2.2.1 a.2.2.2.2.2.1 a.2.2.2.2.2.2) (E := fun a => xE p l e rm_Model_twin s m args below meth c G A 7 Qw 0 0 a.2.2.2.2.2.2 97 [(0, .ref (a.1)), (1, .int (a.2.1)), (2, .int (a.2.2.1)), (3, .int (a.2.2.2.1)), (4, .long (a.2.2.2.2.1)), (6, .int (a.2.2.2.2.2.1))] []) ?_ f (a0, x1, x2, x3, x4, x6, hp) hf
  intro k97 hk a hf
  obtain ⟨a0, x1, x2, x3, x4, x6, hp⟩ := a
  have hk97 : ∀ (a0 : Nat) (x1 : Int32) (x2 : Int32) (x3 : Int32) (x4 : Int64) (x6 : Int32) (hp : xh), k97 (a0, x1, x2, x3, x4, x6, hp) → xE p l e rm_Model_twin s m args below meth c G A 7 Qw 0 0 hp 97 [(0, .ref a0), (1, .int x1), (2, .int x2), (3, .int x3), (4, .long x4), (6, .int x6)] [] := fun a0 x1 x2 x3 x4 x6 hp h => hk (a0, x1, x2, x3, x4, x6, hp) h
  have hf : wp_Model_twin_97_b z Q k68 k97 a0 x1 x2 x3 x4 x6 hp := hf
  unfold wp_Model_twin_97_b at hf
  refine x_iload X (q := 5) d_Model_twin_97 rfl 99 rfl ?_
  refine x_sipush X (v := 804) d_Model_twin_99 (by decide) 102 rfl ?_
  refine x_icmp_ge X hf d_Model_twin_102 158 105 (by decide) rfl (fun hf => ?_) (fun hf => ?_)
  · refine x_iinc X (q := 3) (v := (x3 + 1)) (lv' := [(3, .int (x3 + 1)), (0, .ref a0), (1, .int x1), (2, .int x2), (4, .long x4), (6, .int x6)]) d_Model_twin_158 rfl (by rfl) (by decide) rfl 161 rfl ?_
    refine x_goto X d_Model_twin_161 68 (by decide) ?_
    exact x_sub [1, 2, 3, 0] rfl (hk68 _ _ _ _ _ hf)
  · refine x_aload_n X (q := 0) d_Model_twin_105 rfl 106 rfl ?_
    refine x_getR X hf (ci := 12) (j := 47) rfl (by decide) rfl lf_Model_115 d_Model_twin_106 109 rfl (fun o1 hf => ?_)
    refine x_iload X (q := 5) d_Model_twin_109 rfl 111 rfl ?_
    refine x_zald X hf d_Model_twin_111 112 rfl (fun v2 hf => ?_)
    refine x_if_eq X hf d_Model_twin_112 152 115 (by decide) rfl (fun hf => ?_) (fun hf => ?_)
    · exact x_sub [0, 1, 2, 3, 4, 5] rfl (t_Model_twin_152 X hret hk68 hk97 hf)
    · refine x_aload_n X (q := 0) d_Model_twin_115 rfl 116 rfl ?_
      refine x_iload X (q := 5) d_Model_twin_116 rfl 118 rfl ?_
      refine x_sipush X (v := 402) d_Model_twin_118 (by decide) 121 rfl ?_
      refine x_idiv X (by decide) d_Model_twin_121 122 rfl ?_
      refine x_iload X (q := 5) d_Model_twin_122 rfl 124 rfl ?_
      refine x_sipush X (v := 402) d_Model_twin_124 (by decide) 127 rfl ?_
      refine x_irem X (by decide) d_Model_twin_127 128 rfl ?_
      refine x_callV0l X (t_Model_of hf.2) hf.1 (ci := 12) rfl rfl lm_Model_253 im_Model_of sl_Model_of cd_Model_of in_Model ds_Model_of rfl rfl (Nat.le_of_ble_eq_true rfl) (Nat.le_of_ble_eq_true rfl) (Nat.le_of_ble_eq_true rfl) rfl rfl (Nat.le_refl 0) (Nat.le_refl 0) d_Model_twin_128 131 rfl (fun v4 h3 hf => ?_)
      refine x_lload X (q := 4) d_Model_twin_131 rfl 133 rfl ?_
      refine x_lxor X d_Model_twin_133 134 rfl ?_
      refine x_aload_n X (q := 0) d_Model_twin_134 rfl 135 rfl ?_
      refine x_callV0l X (t_Model_mask hf.2) hf.1 (ci := 12) rfl rfl lm_Model_270 im_Model_mask sl_Model_mask cd_Model_mask in_Model ds_Model_mask rfl rfl (Nat.le_of_ble_eq_true rfl) (Nat.le_of_ble_eq_true rfl) (Nat.le_of_ble_eq_true rfl) rfl rfl (Nat.le_refl 0) (Nat.le_refl 0) d_Model_twin_135 138 rfl (fun v6 h5 hf => ?_)
      refine x_land X d_Model_twin_138 139 rfl ?_
      refine x_lconst X (v := 0) d_Model_twin_139 (by decide) 140 rfl ?_
      refine x_lcmp X d_Model_twin_140 141 rfl ?_
      refine x_if_eq X hf d_Model_twin_141 152 144 (by decide) rfl (fun hf => ?_) (fun hf => ?_)
      · exact x_sub [0, 1, 2, 3, 4, 5] rfl (t_Model_twin_152 X hret hk68 hk97 hf)
      · refine x_aload_n X (q := 0) d_Model_twin_144 rfl 145 rfl ?_
        refine x_getR X hf (ci := 12) (j := 47) rfl (by decide) rfl lf_Model_115 d_Model_twin_145 148 rfl (fun o7 hf => ?_)
        refine x_iload X (q := 5) d_Model_twin_148 rfl 150 rfl ?_
        refine x_iconst X (v := 0) d_Model_twin_150 (by decide) 151 rfl ?_
        refine x_zast X hf d_Model_twin_151 152 rfl (fun h8 hf => ?_)
        exact x_sub [0, 1, 2, 3, 4, 5] rfl (t_Model_twin_152 X hret hk68 hk97 hf)
set_option maxRecDepth 100000 in
def wp_Model_twin_68_b (z : Nat → Nat) (Q : Int32 → xh → Prop)  (k68 : Nat × Int32 × Int32 × Int32 × xh → Prop) (a0 : Nat) (x1 : Int32) (x2 : Int32) (x3 : Int32) (hp : xh) : Prop :=
  ∃ v1, fI hp a0 12 38 = some v1 ∧ ((v1 ≤ x3 → wp_Model_twin_166 z Q a0 0 hp) ∧ (¬ v1 ≤ x3 → (∃ o2, fR hp a0 12 36 = some o2 ∧ (∃ v3, aI hp o2 0 x3 = some v3 ∧ (xcls hp a0 12 ∧ wp_Model_reckonBoth z (fun h4 => xcls h4 a0 12 ∧ wp_Model_of z (fun v6 h5 => wp_Model_twin_97 z Q k68 a0 x1 x2 x3 v6 0 h5) a0 x1 x2 h4) a0 v3 hp)))))
set_option maxRecDepth 100000 in
def wp_Model_twin_68 (z : Nat → Nat) (Q : Int32 → xh → Prop)  (a0 : Nat) (x1 : Int32) (x2 : Int32) (x3 : Int32) (hp : xh) : Prop := ∃ f : Nat, xloop (fun k68 a => wp_Model_twin_68_b z Q  k68 a.1 a.2.1 a.2.2.1 a.2.2.2.1 a.2.2.2.2) f (a0, x1, x2, x3, hp)
set_option maxRecDepth 100000 in
set_option maxHeartbeats 4000000 in
theorem t_Model_twin_68 {p : Program} {l : Launch} {e : Env} {s : State} {m : MethodId} {args : Array Value} {below : List Frame} {meth : Method} {c : Code} {G : xG} {z : Nat → Nat} {A : Nat → Prop} {Qw : State → Prop} {Q : Int32 → xh → Prop} {a0 : Nat} {x1 : Int32} {x2 : Int32} {x3 : Int32} {hp : xh} (X : xX p l e rm_Model_twin s m args below meth c G z A y_Model_twin b_Model_twin 7) (hret : xRet p l e rm_Model_twin s m args below meth c G A 7 Qw b_Model_twin (some .int) (xqi Q))  (hf : wp_Model_twin_68 z Q  a0 x1 x2 x3 hp) : xE p l e rm_Model_twin s m args below meth c G A 7 Qw 0 0 hp 68 [(0, .ref a0), (1, .int x1), (2, .int x2), (3, .int x3)] [] := by
  obtain ⟨f, hf⟩ := hf
  refine xloop_ind (F := fun k68 a => wp_Model_twin_68_b z Q  k68 a.1 a.2.1 a.2.2.1 a.2.2.2.1 a.2.2.2.2) (E := fun a => xE p l e rm_Model_twin s m args below meth c G A 7 Qw 0 0 a.2.2.2.2 68 [(0, .ref (a.1)), (1, .int (a.2.1)), (2, .int (a.2.2.1)), (3, .int (a.2.2.2.1))] []) ?_ f (a0, x1, x2, x3, hp) hf
  intro k68 hk a hf
  obtain ⟨a0, x1, x2, x3, hp⟩ := a
  have hk68 : ∀ (a0 : Nat) (x1 : Int32) (x2 : Int32) (x3 : Int32) (hp : xh), k68 (a0, x1, x2, x3, hp) → xE p l e rm_Model_twin s m args below meth c G A 7 Qw 0 0 hp 68 [(0, .ref a0), (1, .int x1), (2, .int x2), (3, .int x3)] [] := fun a0 x1 x2 x3 hp h => hk (a0, x1, x2, x3, hp) h
  have hf : wp_Model_twin_68_b z Q  k68 a0 x1 x2 x3 hp := hf
  unfold wp_Model_twin_68_b at hf
  refine x_iload_n X (q := 3) d_Model_twin_68 rfl 69 rfl ?_
  refine x_aload_n X (q := 0) d_Model_twin_69 rfl 70 rfl ?_
  refine x_getI X hf (ci := 12) (j := 38) rfl (by decide) rfl lf_Model_286 d_Model_twin_70 73 rfl (fun v1 hf => ?_)
  refine x_icmp_ge X hf d_Model_twin_73 164 76 (by decide) rfl (fun hf => ?_) (fun hf => ?_)
  · refine x_iconst X (v := 0) d_Model_twin_164 (by decide) 165 rfl ?_
    refine x_istore_n X (lv' := [(3, .int 0), (0, .ref a0), (1, .int x1), (2, .int x2)]) d_Model_twin_165 rfl (by decide) rfl 166 rfl ?_
    exact x_sub [1, 0] rfl (t_Model_twin_166 X hret hf)
  · refine x_aload_n X (q := 0) d_Model_twin_76 rfl 77 rfl ?_
    refine x_aload_n X (q := 0) d_Model_twin_77 rfl 78 rfl ?_
    refine x_getR X hf (ci := 12) (j := 36) rfl (by decide) rfl lf_Model_97 d_Model_twin_78 81 rfl (fun o2 hf => ?_)
    refine x_iload_n X (q := 3) d_Model_twin_81 rfl 82 rfl ?_
    refine x_iald X hf d_Model_twin_82 83 rfl (fun v3 hf => ?_)
    refine x_callV0v X (t_Model_reckonBoth hf.2) hf.1 (ci := 12) rfl rfl lm_Model_280 im_Model_reckonBoth sl_Model_reckonBoth cd_Model_reckonBoth in_Model ds_Model_reckonBoth rfl rfl (Nat.le_of_ble_eq_true rfl) (Nat.le_of_ble_eq_true rfl) (Nat.le_of_ble_eq_true rfl) rfl rfl (Nat.le_refl 0) (Nat.le_refl 0) d_Model_twin_83 86 rfl (fun h4 hf => ?_)
    refine x_aload_n X (q := 0) d_Model_twin_86 rfl 87 rfl ?_
    refine x_iload_n X (q := 1) d_Model_twin_87 rfl 88 rfl ?_
    refine x_iload_n X (q := 2) d_Model_twin_88 rfl 89 rfl ?_
    refine x_callV0l X (t_Model_of hf.2) hf.1 (ci := 12) rfl rfl lm_Model_253 im_Model_of sl_Model_of cd_Model_of in_Model ds_Model_of rfl rfl (Nat.le_of_ble_eq_true rfl) (Nat.le_of_ble_eq_true rfl) (Nat.le_of_ble_eq_true rfl) rfl rfl (Nat.le_refl 0) (Nat.le_refl 0) d_Model_twin_89 92 rfl (fun v6 h5 hf => ?_)
    refine x_lstore X (lv' := [(4, .long v6), (0, .ref a0), (1, .int x1), (2, .int x2), (3, .int x3)]) d_Model_twin_92 (by decide) rfl 94 rfl ?_
    refine x_iconst X (v := 0) d_Model_twin_94 (by decide) 95 rfl ?_
    refine x_istore X (lv' := [(6, .int 0), (4, .long v6), (0, .ref a0), (1, .int x1), (2, .int x2), (3, .int x3)]) d_Model_twin_95 (by decide) rfl 97 rfl ?_
    exact x_sub [2, 3, 4, 5, 1, 0] rfl (t_Model_twin_97 X hret hk68 hf)
set_option maxRecDepth 100000 in
def wp_Model_twin_33_b (z : Nat → Nat) (Q : Int32 → xh → Prop)  (k33 : Nat × Int32 × Int32 × Int32 × xh → Prop) (a0 : Nat) (x1 : Int32) (x2 : Int32) (x3 : Int32) (hp : xh) : Prop :=
  (804 ≤ x3 → wp_Model_twin_68 z Q a0 x1 x2 0 hp) ∧ (¬ 804 ≤ x3 → (∃ o1, fR hp a0 12 47 = some o1 ∧ (xcls hp a0 12 ∧ wp_Model_isLiteral z (fun v3 h2 => ∃ h5, sI h2 o1 2 x3 (vp_nar .boolean v3) = some h5 ∧ (k33 (a0, x1, x2, (x3 + 1), h5))) a0 (x3 / 402) (x3 - x3 / 402 * 402) hp)))
set_option maxRecDepth 100000 in
def wp_Model_twin_33 (z : Nat → Nat) (Q : Int32 → xh → Prop)  (a0 : Nat) (x1 : Int32) (x2 : Int32) (x3 : Int32) (hp : xh) : Prop := ∃ f : Nat, xloop (fun k33 a => wp_Model_twin_33_b z Q  k33 a.1 a.2.1 a.2.2.1 a.2.2.2.1 a.2.2.2.2) f (a0, x1, x2, x3, hp)
set_option maxRecDepth 100000 in
set_option maxHeartbeats 4000000 in
theorem t_Model_twin_33 {p : Program} {l : Launch} {e : Env} {s : State} {m : MethodId} {args : Array Value} {below : List Frame} {meth : Method} {c : Code} {G : xG} {z : Nat → Nat} {A : Nat → Prop} {Qw : State → Prop} {Q : Int32 → xh → Prop} {a0 : Nat} {x1 : Int32} {x2 : Int32} {x3 : Int32} {hp : xh} (X : xX p l e rm_Model_twin s m args below meth c G z A y_Model_twin b_Model_twin 7) (hret : xRet p l e rm_Model_twin s m args below meth c G A 7 Qw b_Model_twin (some .int) (xqi Q))  (hf : wp_Model_twin_33 z Q  a0 x1 x2 x3 hp) : xE p l e rm_Model_twin s m args below meth c G A 7 Qw 0 0 hp 33 [(0, .ref a0), (1, .int x1), (2, .int x2), (3, .int x3)] [] := by
  obtain ⟨f, hf⟩ := hf
  refine xloop_ind (F := fun k33 a => wp_Model_twin_33_b z Q  k33 a.1 a.2.1 a.2.2.1 a.2.2.2.1 a.2.2.2.2) (E := fun a => xE p l e rm_Model_twin s m args below meth c G A 7 Qw 0 0 a.2.2.2.2 33 [(0, .ref (a.1)), (1, .int (a.2.1)), (2, .int (a.2.2.1)), (3, .int (a.2.2.2.1))] []) ?_ f (a0, x1, x2, x3, hp) hf
  intro k33 hk a hf
  obtain ⟨a0, x1, x2, x3, hp⟩ := a
  have hk33 : ∀ (a0 : Nat) (x1 : Int32) (x2 : Int32) (x3 : Int32) (hp : xh), k33 (a0, x1, x2, x3, hp) → xE p l e rm_Model_twin s m args below meth c G A 7 Qw 0 0 hp 33 [(0, .ref a0), (1, .int x1), (2, .int x2), (3, .int x3)] [] := fun a0 x1 x2 x3 hp h => hk (a0, x1, x2, x3, hp) h
  have hf : wp_Model_twin_33_b z Q  k33 a0 x1 x2 x3 hp := hf
  unfold wp_Model_twin_33_b at hf
  refine x_iload_n X (q := 3) d_Model_twin_33 rfl 34 rfl ?_
  refine x_sipush X (v := 804) d_Model_twin_34 (by decide) 37 rfl ?_
  refine x_icmp_ge X hf d_Model_twin_37 66 40 (by decide) rfl (fun hf => ?_) (fun hf => ?_)
  · refine x_iconst X (v := 0) d_Model_twin_66 (by decide) 67 rfl ?_
    refine x_istore_n X (lv' := [(3, .int 0), (0, .ref a0), (1, .int x1), (2, .int x2)]) d_Model_twin_67 rfl (by decide) rfl 68 rfl ?_
    exact x_sub [1, 2, 3, 0] rfl (t_Model_twin_68 X hret hf)
  · refine x_aload_n X (q := 0) d_Model_twin_40 rfl 41 rfl ?_
    refine x_getR X hf (ci := 12) (j := 47) rfl (by decide) rfl lf_Model_115 d_Model_twin_41 44 rfl (fun o1 hf => ?_)
    refine x_iload_n X (q := 3) d_Model_twin_44 rfl 45 rfl ?_
    refine x_aload_n X (q := 0) d_Model_twin_45 rfl 46 rfl ?_
    refine x_iload_n X (q := 3) d_Model_twin_46 rfl 47 rfl ?_
    refine x_sipush X (v := 402) d_Model_twin_47 (by decide) 50 rfl ?_
    refine x_idiv X (by decide) d_Model_twin_50 51 rfl ?_
    refine x_iload_n X (q := 3) d_Model_twin_51 rfl 52 rfl ?_
    refine x_sipush X (v := 402) d_Model_twin_52 (by decide) 55 rfl ?_
    refine x_irem X (by decide) d_Model_twin_55 56 rfl ?_
    refine x_callV0z X (t_Model_isLiteral hf.2) hf.1 (ci := 12) rfl rfl lm_Model_257 im_Model_isLiteral sl_Model_isLiteral cd_Model_isLiteral in_Model ds_Model_isLiteral rfl rfl (Nat.le_of_ble_eq_true rfl) (Nat.le_of_ble_eq_true rfl) (Nat.le_of_ble_eq_true rfl) rfl rfl (Nat.le_refl 0) (Nat.le_refl 0) d_Model_twin_56 59 rfl (fun v3 h2 hb4 hf => ?_)
    refine x_zast X hf d_Model_twin_59 60 rfl (fun h5 hf => ?_)
    refine x_iinc X (q := 3) (v := (x3 + 1)) (lv' := [(3, .int (x3 + 1)), (0, .ref a0), (1, .int x1), (2, .int x2)]) d_Model_twin_60 rfl (by rfl) (by decide) rfl 63 rfl ?_
    refine x_goto X d_Model_twin_63 33 (by decide) ?_
    exact x_sub [1, 2, 3, 0] rfl (hk33 _ _ _ _ _ hf)
set_option maxRecDepth 100000 in
def wp_Model_twin_22 (z : Nat → Nat) (Q : Int32 → xh → Prop)  (a0 : Nat) (x1 : Int32) (x2 : Int32) (s1 : Int32) (s0 : Nat) (hp : xh) : Prop :=
  xcls hp s0 12 ∧ wp_Model_fails z (fun v2 h1 => (v2 = 0 → wp_Model_twin_33 z Q a0 x1 x2 0 h1) ∧ (¬ v2 = 0 → Q 0 h1)) s0 s1 2 hp
set_option maxRecDepth 100000 in
set_option maxHeartbeats 4000000 in
theorem t_Model_twin_22 {p : Program} {l : Launch} {e : Env} {s : State} {m : MethodId} {args : Array Value} {below : List Frame} {meth : Method} {c : Code} {G : xG} {z : Nat → Nat} {A : Nat → Prop} {Qw : State → Prop} {Q : Int32 → xh → Prop} {a0 : Nat} {x1 : Int32} {x2 : Int32} {s1 : Int32} {s0 : Nat} {hp : xh} (X : xX p l e rm_Model_twin s m args below meth c G z A y_Model_twin b_Model_twin 7) (hret : xRet p l e rm_Model_twin s m args below meth c G A 7 Qw b_Model_twin (some .int) (xqi Q))  (hf : wp_Model_twin_22 z Q  a0 x1 x2 s1 s0 hp) : xE p l e rm_Model_twin s m args below meth c G A 7 Qw 0 0 hp 22 [(0, .ref a0), (1, .int x1), (2, .int x2)] [.int s1, .ref s0] := by
  unfold wp_Model_twin_22 at hf
  refine x_iconst X (v := 2) d_Model_twin_22 (by decide) 23 rfl ?_
  refine x_callV0z X (t_Model_fails hf.2) hf.1 (ci := 12) rfl rfl lm_Model_301 im_Model_fails sl_Model_fails cd_Model_fails in_Model ds_Model_fails rfl rfl (Nat.le_of_ble_eq_true rfl) (Nat.le_of_ble_eq_true rfl) (Nat.le_of_ble_eq_true rfl) rfl rfl (Nat.le_refl 0) (Nat.le_refl 0) d_Model_twin_23 26 rfl (fun v2 h1 hb3 hf => ?_)
  refine x_if_eq X hf d_Model_twin_26 31 29 (by decide) rfl (fun hf => ?_) (fun hf => ?_)
  · refine x_iconst X (v := 0) d_Model_twin_31 (by decide) 32 rfl ?_
    refine x_istore_n X (lv' := [(3, .int 0), (0, .ref a0), (1, .int x1), (2, .int x2)]) d_Model_twin_32 rfl (by decide) rfl 33 rfl ?_
    exact x_sub [1, 2, 3, 0] rfl (t_Model_twin_33 X hret hf)
  · refine x_iconst X (v := 0) d_Model_twin_29 (by decide) 30 rfl ?_
    exact hret _ _ _ _ _ (some (.int 0)) (Nat.le_refl 0) (Nat.le_refl 0) ⟨_, rfl, hf⟩ ⟨⟨_, rfl, rfl⟩, d_Model_twin_30⟩
set_option maxRecDepth 100000 in
def wp_Model_twin (z : Nat → Nat) (Q : Int32 → xh → Prop) (a0 : Nat) (x1 : Int32) (x2 : Int32) (hp : xh) : Prop :=
  xcls hp a0 12 ∧ wp_Model_none z (fun v2 h1 => (¬ v2 = 0 → Q 0 h1) ∧ (v2 = 0 → (xcls h1 a0 12 ∧ wp_Model_isLiteral z (fun v5 h4 => (¬ v5 = 0 → wp_Model_twin_22 z Q a0 x1 x2 0 a0 h4) ∧ (v5 = 0 → wp_Model_twin_22 z Q a0 x1 x2 1 a0 h4)) a0 x1 x2 h1))) a0 hp
set_option maxRecDepth 100000 in
set_option maxHeartbeats 4000000 in
theorem t_Model_twin {l : Launch} {G : xG} {z : Nat → Nat} {Q : Int32 → xh → Prop} {a0 : Nat} {x1 : Int32} {x2 : Int32} {hp : xh} (hf : wp_Model_twin z Q a0 x1 x2 hp) : xM l G z y_Model_twin b_Model_twin 7 (some .int) rm_Model_twin [.ref a0, .int x1, .int x2] hp (xqi Q) := by
  refine xM_of (by decide) (Nat.le_of_ble_eq_true rfl) (lv0 := [(0, .ref a0), (1, .int x1), (2, .int x2)]) rfl ?_
  intro p e s m args below meth c A Qw X hret
  unfold wp_Model_twin at hf
  refine x_aload_n X (q := 0) d_Model_twin_0 rfl 1 rfl ?_
  refine x_callV0z X (t_Model_none hf.2) hf.1 (ci := 12) rfl rfl lm_Model_308 im_Model_none sl_Model_none cd_Model_none in_Model ds_Model_none rfl rfl (Nat.le_of_ble_eq_true rfl) (Nat.le_of_ble_eq_true rfl) (Nat.le_of_ble_eq_true rfl) rfl rfl (Nat.le_refl 0) (Nat.le_refl 0) d_Model_twin_1 4 rfl (fun v2 h1 hb3 hf => ?_)
  refine x_if_ne X hf d_Model_twin_4 29 7 (by decide) rfl (fun hf => ?_) (fun hf => ?_)
  · refine x_iconst X (v := 0) d_Model_twin_29 (by decide) 30 rfl ?_
    exact hret _ _ _ _ _ (some (.int 0)) (Nat.le_refl 0) (Nat.le_refl 0) ⟨_, rfl, hf⟩ ⟨⟨_, rfl, rfl⟩, d_Model_twin_30⟩
  · refine x_aload_n X (q := 0) d_Model_twin_7 rfl 8 rfl ?_
    refine x_aload_n X (q := 0) d_Model_twin_8 rfl 9 rfl ?_
    refine x_iload_n X (q := 1) d_Model_twin_9 rfl 10 rfl ?_
    refine x_iload_n X (q := 2) d_Model_twin_10 rfl 11 rfl ?_
    refine x_callV0z X (t_Model_isLiteral hf.2) hf.1 (ci := 12) rfl rfl lm_Model_257 im_Model_isLiteral sl_Model_isLiteral cd_Model_isLiteral in_Model ds_Model_isLiteral rfl rfl (Nat.le_of_ble_eq_true rfl) (Nat.le_of_ble_eq_true rfl) (Nat.le_of_ble_eq_true rfl) rfl rfl (Nat.le_refl 0) (Nat.le_refl 0) d_Model_twin_11 14 rfl (fun v5 h4 hb6 hf => ?_)
    refine x_if_ne X hf d_Model_twin_14 21 17 (by decide) rfl (fun hf => ?_) (fun hf => ?_)
    · refine x_iconst X (v := 0) d_Model_twin_21 (by decide) 22 rfl ?_
      exact x_sub [0, 1, 2] rfl (t_Model_twin_22 X hret hf)
    · refine x_iconst X (v := 1) d_Model_twin_17 (by decide) 18 rfl ?_
      refine x_goto X d_Model_twin_18 22 (by decide) ?_
      exact x_sub [0, 1, 2] rfl (t_Model_twin_22 X hret hf)

set_option maxRecDepth 100000 in
def wp_Model_doubts (z : Nat → Nat) (Q : Int32 → xh → Prop) (a0 : Nat) (hp : xh) : Prop :=
  ∃ h1, pV hp a0 12 0 (.int 0) = some h1 ∧ Q 0 h1
set_option maxRecDepth 100000 in
set_option maxHeartbeats 4000000 in
theorem t_Model_doubts {l : Launch} {G : xG} {z : Nat → Nat} {Q : Int32 → xh → Prop} {a0 : Nat} {hp : xh} (hf : wp_Model_doubts z Q a0 hp) : xM l G z y_Model_doubts b_Model_doubts 1 (some .int) rm_Model_doubts [.ref a0] hp (xqi Q) := by
  refine xM_of (by decide) (Nat.le_of_ble_eq_true rfl) (lv0 := [(0, .ref a0)]) rfl ?_
  intro p e s m args below meth c A Qw X hret
  unfold wp_Model_doubts at hf
  refine x_aload_n X (q := 0) d_Model_doubts_0 rfl 1 rfl ?_
  refine x_iconst X (v := 0) d_Model_doubts_1 (by decide) 2 rfl ?_
  refine x_put X hf (ci := 12) (j := 0) (ty := .int) rfl (by decide) rfl lf_Model_127 rfl (by decide +kernel) rfl rfl d_Model_doubts_2 5 rfl (fun h1 hf => ?_)
  refine x_iconst X (v := 0) d_Model_doubts_5 (by decide) 6 rfl ?_
  exact hret _ _ _ _ _ (some (.int 0)) (Nat.le_refl 0) (Nat.le_refl 0) ⟨_, rfl, hf⟩ ⟨⟨_, rfl, rfl⟩, d_Model_doubts_6⟩

set_option maxRecDepth 100000 in
def wp_Model_signal (z : Nat → Nat) (Q : Int32 → xh → Prop) (a0 : Nat) (x1 : Int32) (x2 : Int32) (hp : xh) : Prop :=
  ∃ o1, fR hp a0 12 48 = some o1 ∧ (∃ v2, aI hp o1 0 ((201 * x1) + (x2 / 2)) = some v2 ∧ (Q (v2 ^^^ (x2 - x2 / 2 * 2)) hp))
set_option maxRecDepth 100000 in
set_option maxHeartbeats 4000000 in
theorem t_Model_signal {l : Launch} {G : xG} {z : Nat → Nat} {Q : Int32 → xh → Prop} {a0 : Nat} {x1 : Int32} {x2 : Int32} {hp : xh} (hf : wp_Model_signal z Q a0 x1 x2 hp) : xM l G z y_Model_signal b_Model_signal 3 (some .int) rm_Model_signal [.ref a0, .int x1, .int x2] hp (xqi Q) := by
  refine xM_of (by decide) (Nat.le_of_ble_eq_true rfl) (lv0 := [(0, .ref a0), (1, .int x1), (2, .int x2)]) rfl ?_
  intro p e s m args below meth c A Qw X hret
  unfold wp_Model_signal at hf
  refine x_aload_n X (q := 0) d_Model_signal_0 rfl 1 rfl ?_
  refine x_getR X hf (ci := 12) (j := 48) rfl (by decide) rfl lf_Model_118 d_Model_signal_1 4 rfl (fun o1 hf => ?_)
  refine x_sipush X (v := 201) d_Model_signal_4 (by decide) 7 rfl ?_
  refine x_iload_n X (q := 1) d_Model_signal_7 rfl 8 rfl ?_
  refine x_imul X d_Model_signal_8 9 rfl ?_
  refine x_iload_n X (q := 2) d_Model_signal_9 rfl 10 rfl ?_
  refine x_iconst X (v := 2) d_Model_signal_10 (by decide) 11 rfl ?_
  refine x_idiv X (by decide) d_Model_signal_11 12 rfl ?_
  refine x_iadd X d_Model_signal_12 13 rfl ?_
  refine x_iald X hf d_Model_signal_13 14 rfl (fun v2 hf => ?_)
  refine x_iload_n X (q := 2) d_Model_signal_14 rfl 15 rfl ?_
  refine x_iconst X (v := 2) d_Model_signal_15 (by decide) 16 rfl ?_
  refine x_irem X (by decide) d_Model_signal_16 17 rfl ?_
  refine x_ixor X d_Model_signal_17 18 rfl ?_
  exact hret _ _ _ _ _ (some (.int (v2 ^^^ (x2 - x2 / 2 * 2)))) (Nat.le_refl 0) (Nat.le_refl 0) ⟨_, rfl, hf⟩ ⟨⟨_, rfl, rfl⟩, d_Model_signal_18⟩

set_option maxRecDepth 100000 in
def wp_Model_gate_99 (z : Nat → Nat) (Q : Int32 → xh → Prop) (k39 : Nat × Int32 × Int32 × Int32 × Int32 × xh → Prop) (a0 : Nat) (x1 : Int32) (x2 : Int32) (x3 : Int32) (x4 : Int32) (hp : xh) : Prop :=
  k39 (a0, x1, x2, x3, (x4 + 1), hp)
set_option maxRecDepth 100000 in
set_option maxHeartbeats 4000000 in
theorem t_Model_gate_99 {p : Program} {l : Launch} {e : Env} {s : State} {m : MethodId} {args : Array Value} {below : List Frame} {meth : Method} {c : Code} {G : xG} {z : Nat → Nat} {A : Nat → Prop} {Qw : State → Prop} {Q : Int32 → xh → Prop} {k39 : Nat × Int32 × Int32 × Int32 × Int32 × xh → Prop} {a0 : Nat} {x1 : Int32} {x2 : Int32} {x3 : Int32} {x4 : Int32} {hp : xh} (X : xX p l e rm_Model_gate s m args below meth c G z A y_Model_gate b_Model_gate 5) (hret : xRet p l e rm_Model_gate s m args below meth c G A 5 Qw b_Model_gate (some .int) (xqi Q)) (hk39 : ∀ (a0 : Nat) (x1 : Int32) (x2 : Int32) (x3 : Int32) (x4 : Int32) (hp : xh), k39 (a0, x1, x2, x3, x4, hp) → xE p l e rm_Model_gate s m args below meth c G A 5 Qw 0 0 hp 39 [(0, .ref a0), (1, .int x1), (2, .int x2), (3, .int x3), (4, .int x4)] []) (hf : wp_Model_gate_99 z Q k39 a0 x1 x2 x3 x4 hp) : xE p l e rm_Model_gate s m args below meth c G A 5 Qw 0 0 hp 99 [(0, .ref a0), (1, .int x1), (2, .int x2), (3, .int x3), (4, .int x4)] [] := by
  unfold wp_Model_gate_99 at hf
  refine x_iinc X (q := 4) (v := (x4 + 1)) (lv' := [(4, .int (x4 + 1)), (0, .ref a0), (1, .int x1), (2, .int x2), (3, .int x3)]) d_Model_gate_99 rfl (by rfl) (by decide) rfl 102 rfl ?_
  refine x_goto X d_Model_gate_102 39 (by decide) ?_
  exact x_sub [1, 2, 3, 4, 0] rfl (hk39 _ _ _ _ _ _ hf)
set_option maxRecDepth 100000 in
def wp_Model_gate_92 (z : Nat → Nat) (Q : Int32 → xh → Prop)  (x3 : Int32) (x4 : Int32) (hp : xh) : Prop :=
  Q (2 * (x3 + x4)) hp
set_option maxRecDepth 100000 in
set_option maxHeartbeats 4000000 in
theorem t_Model_gate_92 {p : Program} {l : Launch} {e : Env} {s : State} {m : MethodId} {args : Array Value} {below : List Frame} {meth : Method} {c : Code} {G : xG} {z : Nat → Nat} {A : Nat → Prop} {Qw : State → Prop} {Q : Int32 → xh → Prop} {x3 : Int32} {x4 : Int32} {hp : xh} (X : xX p l e rm_Model_gate s m args below meth c G z A y_Model_gate b_Model_gate 5) (hret : xRet p l e rm_Model_gate s m args below meth c G A 5 Qw b_Model_gate (some .int) (xqi Q))  (hf : wp_Model_gate_92 z Q  x3 x4 hp) : xE p l e rm_Model_gate s m args below meth c G A 5 Qw 0 0 hp 92 [(3, .int x3), (4, .int x4)] [] := by
  unfold wp_Model_gate_92 at hf
  refine x_iconst X (v := 2) d_Model_gate_92 (by decide) 93 rfl ?_
  refine x_iload_n X (q := 0) d_Model_gate_93 rfl 94 rfl ?_
  refine x_iload X (q := 1) d_Model_gate_94 rfl 96 rfl ?_
  refine x_iadd X d_Model_gate_96 97 rfl ?_
  refine x_imul X d_Model_gate_97 98 rfl ?_
  exact hret _ _ _ _ _ (some (.int (2 * (x3 + x4)))) (Nat.le_refl 0) (Nat.le_refl 0) ⟨_, rfl, hf⟩ ⟨⟨_, rfl, rfl⟩, d_Model_gate_98⟩
set_option maxRecDepth 100000 in
def wp_Model_gate_70 (z : Nat → Nat) (Q : Int32 → xh → Prop) (k39 : Nat × Int32 × Int32 × Int32 × Int32 × xh → Prop) (a0 : Nat) (x1 : Int32) (x2 : Int32) (x3 : Int32) (x4 : Int32) (hp : xh) : Prop :=
  ∃ o1, fR hp a0 12 49 = some o1 ∧ (∃ v2, aI hp o1 0 x4 = some v2 ∧ ((¬ v2 = x2 → wp_Model_gate_99 z Q k39 a0 x1 x2 x3 x4 hp) ∧ (v2 = x2 → (∃ o3, fR hp a0 12 50 = some o3 ∧ (∃ v4, aI hp o3 0 x4 = some v4 ∧ ((¬ v4 = x1 → wp_Model_gate_99 z Q k39 a0 x1 x2 x3 x4 hp) ∧ (v4 = x1 → wp_Model_gate_92 z Q x3 x4 hp)))))))
set_option maxRecDepth 100000 in
set_option maxHeartbeats 4000000 in
theorem t_Model_gate_70 {p : Program} {l : Launch} {e : Env} {s : State} {m : MethodId} {args : Array Value} {below : List Frame} {meth : Method} {c : Code} {G : xG} {z : Nat → Nat} {A : Nat → Prop} {Qw : State → Prop} {Q : Int32 → xh → Prop} {k39 : Nat × Int32 × Int32 × Int32 × Int32 × xh → Prop} {a0 : Nat} {x1 : Int32} {x2 : Int32} {x3 : Int32} {x4 : Int32} {hp : xh} (X : xX p l e rm_Model_gate s m args below meth c G z A y_Model_gate b_Model_gate 5) (hret : xRet p l e rm_Model_gate s m args below meth c G A 5 Qw b_Model_gate (some .int) (xqi Q)) (hk39 : ∀ (a0 : Nat) (x1 : Int32) (x2 : Int32) (x3 : Int32) (x4 : Int32) (hp : xh), k39 (a0, x1, x2, x3, x4, hp) → xE p l e rm_Model_gate s m args below meth c G A 5 Qw 0 0 hp 39 [(0, .ref a0), (1, .int x1), (2, .int x2), (3, .int x3), (4, .int x4)] []) (hf : wp_Model_gate_70 z Q k39 a0 x1 x2 x3 x4 hp) : xE p l e rm_Model_gate s m args below meth c G A 5 Qw 0 0 hp 70 [(0, .ref a0), (1, .int x1), (2, .int x2), (3, .int x3), (4, .int x4)] [] := by
  unfold wp_Model_gate_70 at hf
  refine x_aload_n X (q := 0) d_Model_gate_70 rfl 71 rfl ?_
  refine x_getR X hf (ci := 12) (j := 49) rfl (by decide) rfl lf_Model_121 d_Model_gate_71 74 rfl (fun o1 hf => ?_)
  refine x_iload X (q := 4) d_Model_gate_74 rfl 76 rfl ?_
  refine x_iald X hf d_Model_gate_76 77 rfl (fun v2 hf => ?_)
  refine x_iload_n X (q := 2) d_Model_gate_77 rfl 78 rfl ?_
  refine x_icmp_ne X hf d_Model_gate_78 99 81 (by decide) rfl (fun hf => ?_) (fun hf => ?_)
  · exact x_sub [0, 1, 2, 3, 4] rfl (t_Model_gate_99 X hret hk39 hf)
  · refine x_aload_n X (q := 0) d_Model_gate_81 rfl 82 rfl ?_
    refine x_getR X hf (ci := 12) (j := 50) rfl (by decide) rfl lf_Model_124 d_Model_gate_82 85 rfl (fun o3 hf => ?_)
    refine x_iload X (q := 4) d_Model_gate_85 rfl 87 rfl ?_
    refine x_iald X hf d_Model_gate_87 88 rfl (fun v4 hf => ?_)
    refine x_iload_n X (q := 1) d_Model_gate_88 rfl 89 rfl ?_
    refine x_icmp_ne X hf d_Model_gate_89 99 92 (by decide) rfl (fun hf => ?_) (fun hf => ?_)
    · exact x_sub [0, 1, 2, 3, 4] rfl (t_Model_gate_99 X hret hk39 hf)
    · exact x_sub [3, 4] rfl (t_Model_gate_92 X hret hf)
set_option maxRecDepth 100000 in
def wp_Model_gate_39_b (z : Nat → Nat) (Q : Int32 → xh → Prop)  (k39 : Nat × Int32 × Int32 × Int32 × Int32 × xh → Prop) (a0 : Nat) (x1 : Int32) (x2 : Int32) (x3 : Int32) (x4 : Int32) (hp : xh) : Prop :=
  ∃ v1, fI hp a0 12 51 = some v1 ∧ ((v1 ≤ x4 → (∃ o2, fR hp a0 12 49 = some o2 ∧ (∃ v3, fI hp a0 12 51 = some v3 ∧ (∃ h4, sI hp o2 0 v3 x1 = some h4 ∧ (∃ o5, fR h4 a0 12 50 = some o5 ∧ (∃ v6, fI h4 a0 12 51 = some v6 ∧ (∃ h7, sI h4 o5 0 v6 x2 = some h7 ∧ (∃ v8, fI h7 a0 12 51 = some v8 ∧ (∃ h9, pV h7 a0 12 51 (.int (v8 + 1)) = some h9 ∧ (∃ v10, fI h9 a0 12 51 = some v10 ∧ (Q (2 * ((x3 + v10) - 1)) h9))))))))))) ∧ (¬ v1 ≤ x4 → (∃ o11, fR hp a0 12 49 = some o11 ∧ (∃ v12, aI hp o11 0 x4 = some v12 ∧ ((¬ v12 = x1 → wp_Model_gate_70 z Q k39 a0 x1 x2 x3 x4 hp) ∧ (v12 = x1 → (∃ o13, fR hp a0 12 50 = some o13 ∧ (∃ v14, aI hp o13 0 x4 = some v14 ∧ ((v14 = x2 → wp_Model_gate_92 z Q x3 x4 hp) ∧ (¬ v14 = x2 → wp_Model_gate_70 z Q k39 a0 x1 x2 x3 x4 hp))))))))))
set_option maxRecDepth 100000 in
def wp_Model_gate_39 (z : Nat → Nat) (Q : Int32 → xh → Prop)  (a0 : Nat) (x1 : Int32) (x2 : Int32) (x3 : Int32) (x4 : Int32) (hp : xh) : Prop := ∃ f : Nat, xloop (fun k39 a => wp_Model_gate_39_b z Q  k39 a.1 a.2.1 a.2.2.1 a.2.2.2.1 a.2.2.2.2.1 a.2.2.2.2.2) f (a0, x1, x2, x3, x4, hp)
set_option maxRecDepth 100000 in
set_option maxHeartbeats 4000000 in
theorem t_Model_gate_39 {p : Program} {l : Launch} {e : Env} {s : State} {m : MethodId} {args : Array Value} {below : List Frame} {meth : Method} {c : Code} {G : xG} {z : Nat → Nat} {A : Nat → Prop} {Qw : State → Prop} {Q : Int32 → xh → Prop} {a0 : Nat} {x1 : Int32} {x2 : Int32} {x3 : Int32} {x4 : Int32} {hp : xh} (X : xX p l e rm_Model_gate s m args below meth c G z A y_Model_gate b_Model_gate 5) (hret : xRet p l e rm_Model_gate s m args below meth c G A 5 Qw b_Model_gate (some .int) (xqi Q))  (hf : wp_Model_gate_39 z Q  a0 x1 x2 x3 x4 hp) : xE p l e rm_Model_gate s m args below meth c G A 5 Qw 0 0 hp 39 [(0, .ref a0), (1, .int x1), (2, .int x2), (3, .int x3), (4, .int x4)] [] := by
  obtain ⟨f, hf⟩ := hf
  refine xloop_ind (F := fun k39 a => wp_Model_gate_39_b z Q  k39 a.1 a.2.1 a.2.2.1 a.2.2.2.1 a.2.2.2.2.1 a.2.2.2.2.2) (E := fun a => xE p l e rm_Model_gate s m args below meth c G A 5 Qw 0 0 a.2.2.2.2.2 39 [(0, .ref (a.1)), (1, .int (a.2.1)), (2, .int (a.2.2.1)), (3, .int (a.2.2.2.1)), (4, .int (a.2.2.2.2.1))] []) ?_ f (a0, x1, x2, x3, x4, hp) hf
  intro k39 hk a hf
  obtain ⟨a0, x1, x2, x3, x4, hp⟩ := a
  have hk39 : ∀ (a0 : Nat) (x1 : Int32) (x2 : Int32) (x3 : Int32) (x4 : Int32) (hp : xh), k39 (a0, x1, x2, x3, x4, hp) → xE p l e rm_Model_gate s m args below meth c G A 5 Qw 0 0 hp 39 [(0, .ref a0), (1, .int x1), (2, .int x2), (3, .int x3), (4, .int x4)] [] := fun a0 x1 x2 x3 x4 hp h => hk (a0, x1, x2, x3, x4, hp) h
  have hf : wp_Model_gate_39_b z Q  k39 a0 x1 x2 x3 x4 hp := hf
  unfold wp_Model_gate_39_b at hf
  refine x_iload X (q := 4) d_Model_gate_39 rfl 41 rfl ?_
  refine x_aload_n X (q := 0) d_Model_gate_41 rfl 42 rfl ?_
  refine x_getI X hf (ci := 12) (j := 51) rfl (by decide) rfl lf_Model_311 d_Model_gate_42 45 rfl (fun v1 hf => ?_)
  refine x_icmp_ge X hf d_Model_gate_45 105 48 (by decide) rfl (fun hf => ?_) (fun hf => ?_)
  · refine x_aload_n X (q := 0) d_Model_gate_105 rfl 106 rfl ?_
    refine x_getR X hf (ci := 12) (j := 49) rfl (by decide) rfl lf_Model_121 d_Model_gate_106 109 rfl (fun o2 hf => ?_)
    refine x_aload_n X (q := 0) d_Model_gate_109 rfl 110 rfl ?_
    refine x_getI X hf (ci := 12) (j := 51) rfl (by decide) rfl lf_Model_311 d_Model_gate_110 113 rfl (fun v3 hf => ?_)
    refine x_iload_n X (q := 1) d_Model_gate_113 rfl 114 rfl ?_
    refine x_iast X hf d_Model_gate_114 115 rfl (fun h4 hf => ?_)
    refine x_aload_n X (q := 0) d_Model_gate_115 rfl 116 rfl ?_
    refine x_getR X hf (ci := 12) (j := 50) rfl (by decide) rfl lf_Model_124 d_Model_gate_116 119 rfl (fun o5 hf => ?_)
    refine x_aload_n X (q := 0) d_Model_gate_119 rfl 120 rfl ?_
    refine x_getI X hf (ci := 12) (j := 51) rfl (by decide) rfl lf_Model_311 d_Model_gate_120 123 rfl (fun v6 hf => ?_)
    refine x_iload_n X (q := 2) d_Model_gate_123 rfl 124 rfl ?_
    refine x_iast X hf d_Model_gate_124 125 rfl (fun h7 hf => ?_)
    refine x_aload_n X (q := 0) d_Model_gate_125 rfl 126 rfl ?_
    refine x_dup X rfl d_Model_gate_126 127 rfl ?_
    refine x_getI X hf (ci := 12) (j := 51) rfl (by decide) rfl lf_Model_311 d_Model_gate_127 130 rfl (fun v8 hf => ?_)
    refine x_iconst X (v := 1) d_Model_gate_130 (by decide) 131 rfl ?_
    refine x_iadd X d_Model_gate_131 132 rfl ?_
    refine x_put X hf (ci := 12) (j := 51) (ty := .int) rfl (by decide) rfl lf_Model_311 rfl (by decide +kernel) rfl rfl d_Model_gate_132 135 rfl (fun h9 hf => ?_)
    refine x_iconst X (v := 2) d_Model_gate_135 (by decide) 136 rfl ?_
    refine x_iload_n X (q := 3) d_Model_gate_136 rfl 137 rfl ?_
    refine x_aload_n X (q := 0) d_Model_gate_137 rfl 138 rfl ?_
    refine x_getI X hf (ci := 12) (j := 51) rfl (by decide) rfl lf_Model_311 d_Model_gate_138 141 rfl (fun v10 hf => ?_)
    refine x_iadd X d_Model_gate_141 142 rfl ?_
    refine x_iconst X (v := 1) d_Model_gate_142 (by decide) 143 rfl ?_
    refine x_isub X d_Model_gate_143 144 rfl ?_
    refine x_imul X d_Model_gate_144 145 rfl ?_
    exact hret _ _ _ _ _ (some (.int (2 * ((x3 + v10) - 1)))) (Nat.le_refl 0) (Nat.le_refl 0) ⟨_, rfl, hf⟩ ⟨⟨_, rfl, rfl⟩, d_Model_gate_145⟩
  · refine x_aload_n X (q := 0) d_Model_gate_48 rfl 49 rfl ?_
    refine x_getR X hf (ci := 12) (j := 49) rfl (by decide) rfl lf_Model_121 d_Model_gate_49 52 rfl (fun o11 hf => ?_)
    refine x_iload X (q := 4) d_Model_gate_52 rfl 54 rfl ?_
    refine x_iald X hf d_Model_gate_54 55 rfl (fun v12 hf => ?_)
    refine x_iload_n X (q := 1) d_Model_gate_55 rfl 56 rfl ?_
    refine x_icmp_ne X hf d_Model_gate_56 70 59 (by decide) rfl (fun hf => ?_) (fun hf => ?_)
    · exact x_sub [0, 1, 2, 3, 4] rfl (t_Model_gate_70 X hret hk39 hf)
    · refine x_aload_n X (q := 0) d_Model_gate_59 rfl 60 rfl ?_
      refine x_getR X hf (ci := 12) (j := 50) rfl (by decide) rfl lf_Model_124 d_Model_gate_60 63 rfl (fun o13 hf => ?_)
      refine x_iload X (q := 4) d_Model_gate_63 rfl 65 rfl ?_
      refine x_iald X hf d_Model_gate_65 66 rfl (fun v14 hf => ?_)
      refine x_iload_n X (q := 2) d_Model_gate_66 rfl 67 rfl ?_
      refine x_icmp_eq X hf d_Model_gate_67 92 70 (by decide) rfl (fun hf => ?_) (fun hf => ?_)
      · exact x_sub [3, 4] rfl (t_Model_gate_92 X hret hf)
      · exact x_sub [0, 1, 2, 3, 4] rfl (t_Model_gate_70 X hret hk39 hf)
set_option maxRecDepth 100000 in
def wp_Model_gate_27 (z : Nat → Nat) (Q : Int32 → xh → Prop)  (x2 : Int32) (hp : xh) : Prop :=
  Q x2 hp
set_option maxRecDepth 100000 in
set_option maxHeartbeats 4000000 in
theorem t_Model_gate_27 {p : Program} {l : Launch} {e : Env} {s : State} {m : MethodId} {args : Array Value} {below : List Frame} {meth : Method} {c : Code} {G : xG} {z : Nat → Nat} {A : Nat → Prop} {Qw : State → Prop} {Q : Int32 → xh → Prop} {x2 : Int32} {hp : xh} (X : xX p l e rm_Model_gate s m args below meth c G z A y_Model_gate b_Model_gate 5) (hret : xRet p l e rm_Model_gate s m args below meth c G A 5 Qw b_Model_gate (some .int) (xqi Q))  (hf : wp_Model_gate_27 z Q  x2 hp) : xE p l e rm_Model_gate s m args below meth c G A 5 Qw 0 0 hp 27 [(2, .int x2)] [] := by
  unfold wp_Model_gate_27 at hf
  refine x_iload_n X (q := 0) d_Model_gate_27 rfl 28 rfl ?_
  exact hret _ _ _ _ _ (some (.int x2)) (Nat.le_refl 0) (Nat.le_refl 0) ⟨_, rfl, hf⟩ ⟨⟨_, rfl, rfl⟩, d_Model_gate_28⟩
set_option maxRecDepth 100000 in
def wp_Model_gate (z : Nat → Nat) (Q : Int32 → xh → Prop) (a0 : Nat) (x1 : Int32) (x2 : Int32) (x3 : Int32) (hp : xh) : Prop :=
  (x1 = 0 → Q 0 hp) ∧ (¬ x1 = 0 → ((x2 = 0 → Q 0 hp) ∧ (¬ x2 = 0 → ((¬ (x1 ^^^ x2) = 1 → ((x1 = 1 → wp_Model_gate_27 z Q x2 hp) ∧ (¬ x1 = 1 → ((¬ x1 = x2 → ((¬ x2 = 1 → wp_Model_gate_39 z Q a0 x1 x2 x3 0 hp) ∧ (x2 = 1 → Q x1 hp))) ∧ (x1 = x2 → wp_Model_gate_27 z Q x2 hp))))) ∧ ((x1 ^^^ x2) = 1 → Q 0 hp)))))
set_option maxRecDepth 100000 in
set_option maxHeartbeats 4000000 in
theorem t_Model_gate {l : Launch} {G : xG} {z : Nat → Nat} {Q : Int32 → xh → Prop} {a0 : Nat} {x1 : Int32} {x2 : Int32} {x3 : Int32} {hp : xh} (hf : wp_Model_gate z Q a0 x1 x2 x3 hp) : xM l G z y_Model_gate b_Model_gate 5 (some .int) rm_Model_gate [.ref a0, .int x1, .int x2, .int x3] hp (xqi Q) := by
  refine xM_of (by decide) (Nat.le_of_ble_eq_true rfl) (lv0 := [(0, .ref a0), (1, .int x1), (2, .int x2), (3, .int x3)]) rfl ?_
  intro p e s m args below meth c A Qw X hret
  unfold wp_Model_gate at hf
  refine x_iload_n X (q := 1) d_Model_gate_0 rfl 1 rfl ?_
  refine x_if_eq X hf d_Model_gate_1 15 4 (by decide) rfl (fun hf => ?_) (fun hf => ?_)
  · refine x_iconst X (v := 0) d_Model_gate_15 (by decide) 16 rfl ?_
    exact hret _ _ _ _ _ (some (.int 0)) (Nat.le_refl 0) (Nat.le_refl 0) ⟨_, rfl, hf⟩ ⟨⟨_, rfl, rfl⟩, d_Model_gate_16⟩
  · refine x_iload_n X (q := 2) d_Model_gate_4 rfl 5 rfl ?_
    refine x_if_eq X hf d_Model_gate_5 15 8 (by decide) rfl (fun hf => ?_) (fun hf => ?_)
    · refine x_iconst X (v := 0) d_Model_gate_15 (by decide) 16 rfl ?_
      exact hret _ _ _ _ _ (some (.int 0)) (Nat.le_refl 0) (Nat.le_refl 0) ⟨_, rfl, hf⟩ ⟨⟨_, rfl, rfl⟩, d_Model_gate_16⟩
    · refine x_iload_n X (q := 1) d_Model_gate_8 rfl 9 rfl ?_
      refine x_iload_n X (q := 2) d_Model_gate_9 rfl 10 rfl ?_
      refine x_ixor X d_Model_gate_10 11 rfl ?_
      refine x_iconst X (v := 1) d_Model_gate_11 (by decide) 12 rfl ?_
      refine x_icmp_ne X hf d_Model_gate_12 17 15 (by decide) rfl (fun hf => ?_) (fun hf => ?_)
      · refine x_iload_n X (q := 1) d_Model_gate_17 rfl 18 rfl ?_
        refine x_iconst X (v := 1) d_Model_gate_18 (by decide) 19 rfl ?_
        refine x_icmp_eq X hf d_Model_gate_19 27 22 (by decide) rfl (fun hf => ?_) (fun hf => ?_)
        · exact x_sub [2] rfl (t_Model_gate_27 X hret hf)
        · refine x_iload_n X (q := 1) d_Model_gate_22 rfl 23 rfl ?_
          refine x_iload_n X (q := 2) d_Model_gate_23 rfl 24 rfl ?_
          refine x_icmp_ne X hf d_Model_gate_24 29 27 (by decide) rfl (fun hf => ?_) (fun hf => ?_)
          · refine x_iload_n X (q := 2) d_Model_gate_29 rfl 30 rfl ?_
            refine x_iconst X (v := 1) d_Model_gate_30 (by decide) 31 rfl ?_
            refine x_icmp_ne X hf d_Model_gate_31 36 34 (by decide) rfl (fun hf => ?_) (fun hf => ?_)
            · refine x_iconst X (v := 0) d_Model_gate_36 (by decide) 37 rfl ?_
              refine x_istore X (lv' := [(4, .int 0), (0, .ref a0), (1, .int x1), (2, .int x2), (3, .int x3)]) d_Model_gate_37 (by decide) rfl 39 rfl ?_
              exact x_sub [1, 2, 3, 4, 0] rfl (t_Model_gate_39 X hret hf)
            · refine x_iload_n X (q := 1) d_Model_gate_34 rfl 35 rfl ?_
              exact hret _ _ _ _ _ (some (.int x1)) (Nat.le_refl 0) (Nat.le_refl 0) ⟨_, rfl, hf⟩ ⟨⟨_, rfl, rfl⟩, d_Model_gate_35⟩
          · exact x_sub [2] rfl (t_Model_gate_27 X hret hf)
      · refine x_iconst X (v := 0) d_Model_gate_15 (by decide) 16 rfl ?_
        exact hret _ _ _ _ _ (some (.int 0)) (Nat.le_refl 0) (Nat.le_refl 0) ⟨_, rfl, hf⟩ ⟨⟨_, rfl, rfl⟩, d_Model_gate_16⟩

set_option maxRecDepth 100000 in
def wp_Model_gates_177_b (z : Nat → Nat) (Q : Int32 → xh → Prop) (k40 : Nat × Int32 × Int32 × xh → Prop) (k177 : Nat × Int32 × Int32 × Int32 × xh → Prop) (a0 : Nat) (x1 : Int32) (x2 : Int32) (x3 : Int32) (hp : xh) : Prop :=
  ∃ o1, fR hp a0 12 10 = some o1 ∧ (∃ v2, aI hp o1 0 ((5 * x2) + 4) = some v2 ∧ ((v2 ≤ x3 → (k40 (a0, x1, (x2 + 1), hp))) ∧ (¬ v2 ≤ x3 → (∃ o3, fR hp a0 12 27 = some o3 ∧ (∃ v4, aI hp o3 0 ((150 * x2) + x3) = some v4 ∧ (∀ v5, v5 = ((150 * x2) + v4) → ∃ o6, fR hp a0 12 48 = some o6 ∧ (∃ o7, fR hp a0 12 15 = some o7 ∧ (∃ v8, aI hp o7 0 v5 = some v8 ∧ (∃ o9, fR hp a0 12 16 = some o9 ∧ (∃ v10, aI hp o9 0 v5 = some v10 ∧ (xcls hp a0 12 ∧ wp_Model_signal z (fun v12 h11 => ∃ o13, fR h11 a0 12 17 = some o13 ∧ (∃ v14, aI h11 o13 0 v5 = some v14 ∧ (xcls h11 a0 12 ∧ wp_Model_signal z (fun v16 h15 => xcls h15 a0 12 ∧ wp_Model_gate z (fun v18 h17 => ∃ h19, sI h17 o6 0 ((201 * x2) + (v8 / 2)) v18 = some h19 ∧ (k177 (a0, x1, x2, (x3 + 1), h19))) a0 v12 v16 x1 h15) a0 x2 v14 h11))) a0 x2 v10 hp)))))))))))
set_option maxRecDepth 100000 in
def wp_Model_gates_177 (z : Nat → Nat) (Q : Int32 → xh → Prop) (k40 : Nat × Int32 × Int32 × xh → Prop) (a0 : Nat) (x1 : Int32) (x2 : Int32) (x3 : Int32) (hp : xh) : Prop := ∃ f : Nat, xloop (fun k177 a => wp_Model_gates_177_b z Q k40 k177 a.1 a.2.1 a.2.2.1 a.2.2.2.1 a.2.2.2.2) f (a0, x1, x2, x3, hp)
set_option maxRecDepth 100000 in
set_option maxHeartbeats 4000000 in
theorem t_Model_gates_177 {p : Program} {l : Launch} {e : Env} {s : State} {m : MethodId} {args : Array Value} {below : List Frame} {meth : Method} {c : Code} {G : xG} {z : Nat → Nat} {A : Nat → Prop} {Qw : State → Prop} {Q : Int32 → xh → Prop} {k40 : Nat × Int32 × Int32 × xh → Prop} {a0 : Nat} {x1 : Int32} {x2 : Int32} {x3 : Int32} {hp : xh} (X : xX p l e rm_Model_gates s m args below meth c G z A y_Model_gates b_Model_gates 5) (hret : xRet p l e rm_Model_gates s m args below meth c G A 5 Qw b_Model_gates (some .int) (xqi Q)) (hk40 : ∀ (a0 : Nat) (x1 : Int32) (x2 : Int32) (hp : xh), k40 (a0, x1, x2, hp) → xE p l e rm_Model_gates s m args below meth c G A 5 Qw 0 0 hp 40 [(0, .ref a0), (1, .int x1), (2, .int x2)] []) (hf : wp_Model_gates_177 z Q k40 a0 x1 x2 x3 hp) : xE p l e rm_Model_gates s m args below meth c G A 5 Qw 0 0 hp 177 [(0, .ref a0), (1, .int x1), (2, .int x2), (3, .int x3)] [] := by
  obtain ⟨f, hf⟩ := hf
  refine xloop_ind (F := fun k177 a => wp_Model_gates_177_b z Q k40 k177 a.1 a.2.1 a.2.2.1 a.2.2.2.1 a.2.2.2.2) (E := fun a => xE p l e rm_Model_gates s m args below meth c G A 5 Qw 0 0 a.2.2.2.2 177 [(0, .ref (a.1)), (1, .int (a.2.1)), (2, .int (a.2.2.1)), (3, .int (a.2.2.2.1))] []) ?_ f (a0, x1, x2, x3, hp) hf
  intro k177 hk a hf
  obtain ⟨a0, x1, x2, x3, hp⟩ := a
  have hk177 : ∀ (a0 : Nat) (x1 : Int32) (x2 : Int32) (x3 : Int32) (hp : xh), k177 (a0, x1, x2, x3, hp) → xE p l e rm_Model_gates s m args below meth c G A 5 Qw 0 0 hp 177 [(0, .ref a0), (1, .int x1), (2, .int x2), (3, .int x3)] [] := fun a0 x1 x2 x3 hp h => hk (a0, x1, x2, x3, hp) h
  have hf : wp_Model_gates_177_b z Q k40 k177 a0 x1 x2 x3 hp := hf
  unfold wp_Model_gates_177_b at hf
  refine x_iload_n X (q := 3) d_Model_gates_177 rfl 178 rfl ?_
  refine x_aload_n X (q := 0) d_Model_gates_178 rfl 179 rfl ?_
  refine x_getR X hf (ci := 12) (j := 10) rfl (by decide) rfl lf_Model_20 d_Model_gates_179 182 rfl (fun o1 hf => ?_)
  refine x_iconst X (v := 5) d_Model_gates_182 (by decide) 183 rfl ?_
  refine x_iload_n X (q := 2) d_Model_gates_183 rfl 184 rfl ?_
  refine x_imul X d_Model_gates_184 185 rfl ?_
  refine x_iconst X (v := 4) d_Model_gates_185 (by decide) 186 rfl ?_
  refine x_iadd X d_Model_gates_186 187 rfl ?_
  refine x_iald X hf d_Model_gates_187 188 rfl (fun v2 hf => ?_)
  refine x_icmp_ge X hf d_Model_gates_188 266 191 (by decide) rfl (fun hf => ?_) (fun hf => ?_)
  · refine x_iinc X (q := 2) (v := (x2 + 1)) (lv' := [(2, .int (x2 + 1)), (0, .ref a0), (1, .int x1), (3, .int x3)]) d_Model_gates_266 rfl (by rfl) (by decide) rfl 269 rfl ?_
    refine x_goto X d_Model_gates_269 40 (by decide) ?_
    exact x_sub [1, 2, 0] rfl (hk40 _ _ _ _ hf)
  · refine x_sipush X (v := 150) d_Model_gates_191 (by decide) 194 rfl ?_
    refine x_iload_n X (q := 2) d_Model_gates_194 rfl 195 rfl ?_
    refine x_imul X d_Model_gates_195 196 rfl ?_
    refine x_aload_n X (q := 0) d_Model_gates_196 rfl 197 rfl ?_
    refine x_getR X hf (ci := 12) (j := 27) rfl (by decide) rfl lf_Model_72 d_Model_gates_197 200 rfl (fun o3 hf => ?_)
    refine x_sipush X (v := 150) d_Model_gates_200 (by decide) 203 rfl ?_
    refine x_iload_n X (q := 2) d_Model_gates_203 rfl 204 rfl ?_
    refine x_imul X d_Model_gates_204 205 rfl ?_
    refine x_iload_n X (q := 3) d_Model_gates_205 rfl 206 rfl ?_
    refine x_iadd X d_Model_gates_206 207 rfl ?_
    refine x_iald X hf d_Model_gates_207 208 rfl (fun v4 hf => ?_)
    refine x_iadd X d_Model_gates_208 209 rfl ?_
    refine x_istoreN X hf d_Model_gates_209 (by decide) (lw := fun v5 => [(4, .int v5), (0, .ref a0), (1, .int x1), (2, .int x2), (3, .int x3)]) (fun _ => rfl) 211 rfl (fun v5 hf => ?_)
    refine x_aload_n X (q := 1) d_Model_gates_211 rfl 212 rfl ?_
    refine x_getR X hf (ci := 12) (j := 48) rfl (by decide) rfl lf_Model_118 d_Model_gates_212 215 rfl (fun o6 hf => ?_)
    refine x_sipush X (v := 201) d_Model_gates_215 (by decide) 218 rfl ?_
    refine x_iload_n X (q := 3) d_Model_gates_218 rfl 219 rfl ?_
    refine x_imul X d_Model_gates_219 220 rfl ?_
    refine x_aload_n X (q := 1) d_Model_gates_220 rfl 221 rfl ?_
    refine x_getR X hf (ci := 12) (j := 15) rfl (by decide) rfl lf_Model_36 d_Model_gates_221 224 rfl (fun o7 hf => ?_)
    refine x_iload X (q := 0) d_Model_gates_224 rfl 226 rfl ?_
    refine x_iald X hf d_Model_gates_226 227 rfl (fun v8 hf => ?_)
    refine x_iconst X (v := 2) d_Model_gates_227 (by decide) 228 rfl ?_
    refine x_idiv X (by decide) d_Model_gates_228 229 rfl ?_
    refine x_iadd X d_Model_gates_229 230 rfl ?_
    refine x_aload_n X (q := 1) d_Model_gates_230 rfl 231 rfl ?_
    refine x_aload_n X (q := 1) d_Model_gates_231 rfl 232 rfl ?_
    refine x_iload_n X (q := 3) d_Model_gates_232 rfl 233 rfl ?_
    refine x_aload_n X (q := 1) d_Model_gates_233 rfl 234 rfl ?_
    refine x_getR X hf (ci := 12) (j := 16) rfl (by decide) rfl lf_Model_39 d_Model_gates_234 237 rfl (fun o9 hf => ?_)
    refine x_iload X (q := 0) d_Model_gates_237 rfl 239 rfl ?_
    refine x_iald X hf d_Model_gates_239 240 rfl (fun v10 hf => ?_)
    refine x_callV0i X (t_Model_signal hf.2) hf.1 (ci := 12) rfl rfl lm_Model_314 im_Model_signal sl_Model_signal cd_Model_signal in_Model ds_Model_signal rfl rfl (Nat.le_of_ble_eq_true rfl) (Nat.le_of_ble_eq_true rfl) (Nat.le_of_ble_eq_true rfl) rfl rfl (Nat.le_refl 0) (Nat.le_refl 0) d_Model_gates_240 243 rfl (fun v12 h11 hf => ?_)
    refine x_aload_n X (q := 1) d_Model_gates_243 rfl 244 rfl ?_
    refine x_iload_n X (q := 3) d_Model_gates_244 rfl 245 rfl ?_
    refine x_aload_n X (q := 1) d_Model_gates_245 rfl 246 rfl ?_
    refine x_getR X hf (ci := 12) (j := 17) rfl (by decide) rfl lf_Model_42 d_Model_gates_246 249 rfl (fun o13 hf => ?_)
    refine x_iload X (q := 0) d_Model_gates_249 rfl 251 rfl ?_
    refine x_iald X hf d_Model_gates_251 252 rfl (fun v14 hf => ?_)
    refine x_callV0i X (t_Model_signal hf.2) hf.1 (ci := 12) rfl rfl lm_Model_314 im_Model_signal sl_Model_signal cd_Model_signal in_Model ds_Model_signal rfl rfl (Nat.le_of_ble_eq_true rfl) (Nat.le_of_ble_eq_true rfl) (Nat.le_of_ble_eq_true rfl) rfl rfl (Nat.le_refl 0) (Nat.le_refl 0) d_Model_gates_252 255 rfl (fun v16 h15 hf => ?_)
    refine x_iload_n X (q := 2) d_Model_gates_255 rfl 256 rfl ?_
    refine x_callV0i X (t_Model_gate hf.2) hf.1 (ci := 12) rfl rfl lm_Model_317 im_Model_gate sl_Model_gate cd_Model_gate in_Model ds_Model_gate rfl rfl (Nat.le_of_ble_eq_true rfl) (Nat.le_of_ble_eq_true rfl) (Nat.le_of_ble_eq_true rfl) rfl rfl (Nat.le_refl 0) (Nat.le_refl 0) d_Model_gates_256 259 rfl (fun v18 h17 hf => ?_)
    refine x_iast X hf d_Model_gates_259 260 rfl (fun h19 hf => ?_)
    refine x_iinc X (q := 4) (v := (x3 + 1)) (lv' := [(3, .int (x3 + 1)), (4, .int v5), (0, .ref a0), (1, .int x1), (2, .int x2)]) d_Model_gates_260 rfl (by rfl) (by decide) rfl 263 rfl ?_
    refine x_goto X d_Model_gates_263 177 (by decide) ?_
    exact x_sub [2, 3, 4, 0] rfl (hk177 _ _ _ _ _ hf)
set_option maxRecDepth 100000 in
def wp_Model_gates_164 (z : Nat → Nat) (Q : Int32 → xh → Prop) (k40 : Nat × Int32 × Int32 × xh → Prop) (k104 : Nat × Int32 × Int32 × Int32 × xh → Prop) (a0 : Nat) (x1 : Int32) (x2 : Int32) (x3 : Int32) (s4 : Int32) (s3 : Int32) (s2 : Int32) (s1 : Int32) (s0 : Nat) (hp : xh) : Prop :=
  ∃ h1, sI hp s0 0 s1 (s2 * ((s3 + s4) + x3)) = some h1 ∧ (k104 (a0, x1, x2, (x3 + 1), h1))
set_option maxRecDepth 100000 in
set_option maxHeartbeats 4000000 in
theorem t_Model_gates_164 {p : Program} {l : Launch} {e : Env} {s : State} {m : MethodId} {args : Array Value} {below : List Frame} {meth : Method} {c : Code} {G : xG} {z : Nat → Nat} {A : Nat → Prop} {Qw : State → Prop} {Q : Int32 → xh → Prop} {k40 : Nat × Int32 × Int32 × xh → Prop} {k104 : Nat × Int32 × Int32 × Int32 × xh → Prop} {a0 : Nat} {x1 : Int32} {x2 : Int32} {x3 : Int32} {s4 : Int32} {s3 : Int32} {s2 : Int32} {s1 : Int32} {s0 : Nat} {hp : xh} (X : xX p l e rm_Model_gates s m args below meth c G z A y_Model_gates b_Model_gates 5) (hret : xRet p l e rm_Model_gates s m args below meth c G A 5 Qw b_Model_gates (some .int) (xqi Q)) (hk40 : ∀ (a0 : Nat) (x1 : Int32) (x2 : Int32) (hp : xh), k40 (a0, x1, x2, hp) → xE p l e rm_Model_gates s m args below meth c G A 5 Qw 0 0 hp 40 [(0, .ref a0), (1, .int x1), (2, .int x2)] []) (hk104 : ∀ (a0 : Nat) (x1 : Int32) (x2 : Int32) (x3 : Int32) (hp : xh), k104 (a0, x1, x2, x3, hp) → xE p l e rm_Model_gates s m args below meth c G A 5 Qw 0 0 hp 104 [(0, .ref a0), (1, .int x1), (2, .int x2), (3, .int x3)] []) (hf : wp_Model_gates_164 z Q k40 k104 a0 x1 x2 x3 s4 s3 s2 s1 s0 hp) : xE p l e rm_Model_gates s m args below meth c G A 5 Qw 0 0 hp 164 [(0, .ref a0), (1, .int x1), (2, .int x2), (3, .int x3)] [.int s4, .int s3, .int s2, .int s1, .ref s0] := by
  unfold wp_Model_gates_164 at hf
  refine x_iadd X d_Model_gates_164 165 rfl ?_
  refine x_iload_n X (q := 3) d_Model_gates_165 rfl 166 rfl ?_
  refine x_iadd X d_Model_gates_166 167 rfl ?_
  refine x_imul X d_Model_gates_167 168 rfl ?_
  refine x_iast X hf d_Model_gates_168 169 rfl (fun h1 hf => ?_)
  refine x_iinc X (q := 3) (v := (x3 + 1)) (lv' := [(3, .int (x3 + 1)), (0, .ref a0), (1, .int x1), (2, .int x2)]) d_Model_gates_169 rfl (by rfl) (by decide) rfl 172 rfl ?_
  refine x_goto X d_Model_gates_172 104 (by decide) ?_
  exact x_sub [1, 2, 3, 0] rfl (hk104 _ _ _ _ _ hf)
set_option maxRecDepth 100000 in
def wp_Model_gates_104_b (z : Nat → Nat) (Q : Int32 → xh → Prop) (k40 : Nat × Int32 × Int32 × xh → Prop) (k104 : Nat × Int32 × Int32 × Int32 × xh → Prop) (a0 : Nat) (x1 : Int32) (x2 : Int32) (x3 : Int32) (hp : xh) : Prop :=
  ∃ o1, fR hp a0 12 10 = some o1 ∧ (∃ v2, aI hp o1 0 ((5 * x2) + 2) = some v2 ∧ ((v2 ≤ x3 → wp_Model_gates_177 z Q k40 a0 x1 x2 0 hp) ∧ (¬ v2 ≤ x3 → (∃ o3, fR hp a0 12 48 = some o3 ∧ (∃ o4, fR hp a0 12 12 = some o4 ∧ (∃ v5, aI hp o4 0 ((7 * x2) + x3) = some v5 ∧ (∃ o6, fR hp a0 12 10 = some o6 ∧ (∃ v7, aI hp o6 0 1 = some v7 ∧ ((¬ x2 = 0 → (∃ o8, fR hp a0 12 10 = some o8 ∧ (∃ v9, aI hp o8 0 2 = some v9 ∧ (wp_Model_gates_164 z Q k40 k104 a0 x1 x2 x3 v9 (1 + v7) 2 ((201 * x2) + (v5 / 2)) o3 hp)))) ∧ (x2 = 0 → (wp_Model_gates_164 z Q k40 k104 a0 x1 x2 x3 0 (1 + v7) 2 ((201 * x2) + (v5 / 2)) o3 hp)))))))))))
set_option maxRecDepth 100000 in
def wp_Model_gates_104 (z : Nat → Nat) (Q : Int32 → xh → Prop) (k40 : Nat × Int32 × Int32 × xh → Prop) (a0 : Nat) (x1 : Int32) (x2 : Int32) (x3 : Int32) (hp : xh) : Prop := ∃ f : Nat, xloop (fun k104 a => wp_Model_gates_104_b z Q k40 k104 a.1 a.2.1 a.2.2.1 a.2.2.2.1 a.2.2.2.2) f (a0, x1, x2, x3, hp)
set_option maxRecDepth 100000 in
set_option maxHeartbeats 4000000 in
theorem t_Model_gates_104 {p : Program} {l : Launch} {e : Env} {s : State} {m : MethodId} {args : Array Value} {below : List Frame} {meth : Method} {c : Code} {G : xG} {z : Nat → Nat} {A : Nat → Prop} {Qw : State → Prop} {Q : Int32 → xh → Prop} {k40 : Nat × Int32 × Int32 × xh → Prop} {a0 : Nat} {x1 : Int32} {x2 : Int32} {x3 : Int32} {hp : xh} (X : xX p l e rm_Model_gates s m args below meth c G z A y_Model_gates b_Model_gates 5) (hret : xRet p l e rm_Model_gates s m args below meth c G A 5 Qw b_Model_gates (some .int) (xqi Q)) (hk40 : ∀ (a0 : Nat) (x1 : Int32) (x2 : Int32) (hp : xh), k40 (a0, x1, x2, hp) → xE p l e rm_Model_gates s m args below meth c G A 5 Qw 0 0 hp 40 [(0, .ref a0), (1, .int x1), (2, .int x2)] []) (hf : wp_Model_gates_104 z Q k40 a0 x1 x2 x3 hp) : xE p l e rm_Model_gates s m args below meth c G A 5 Qw 0 0 hp 104 [(0, .ref a0), (1, .int x1), (2, .int x2), (3, .int x3)] [] := by
  obtain ⟨f, hf⟩ := hf
  refine xloop_ind (F := fun k104 a => wp_Model_gates_104_b z Q k40 k104 a.1 a.2.1 a.2.2.1 a.2.2.2.1 a.2.2.2.2) (E := fun a => xE p l e rm_Model_gates s m args below meth c G A 5 Qw 0 0 a.2.2.2.2 104 [(0, .ref (a.1)), (1, .int (a.2.1)), (2, .int (a.2.2.1)), (3, .int (a.2.2.2.1))] []) ?_ f (a0, x1, x2, x3, hp) hf
  intro k104 hk a hf
  obtain ⟨a0, x1, x2, x3, hp⟩ := a
  have hk104 : ∀ (a0 : Nat) (x1 : Int32) (x2 : Int32) (x3 : Int32) (hp : xh), k104 (a0, x1, x2, x3, hp) → xE p l e rm_Model_gates s m args below meth c G A 5 Qw 0 0 hp 104 [(0, .ref a0), (1, .int x1), (2, .int x2), (3, .int x3)] [] := fun a0 x1 x2 x3 hp h => hk (a0, x1, x2, x3, hp) h
  have hf : wp_Model_gates_104_b z Q k40 k104 a0 x1 x2 x3 hp := hf
  unfold wp_Model_gates_104_b at hf
  refine x_iload_n X (q := 3) d_Model_gates_104 rfl 105 rfl ?_
  refine x_aload_n X (q := 0) d_Model_gates_105 rfl 106 rfl ?_
  refine x_getR X hf (ci := 12) (j := 10) rfl (by decide) rfl lf_Model_20 d_Model_gates_106 109 rfl (fun o1 hf => ?_)
  refine x_iconst X (v := 5) d_Model_gates_109 (by decide) 110 rfl ?_
  refine x_iload_n X (q := 2) d_Model_gates_110 rfl 111 rfl ?_
  refine x_imul X d_Model_gates_111 112 rfl ?_
  refine x_iconst X (v := 2) d_Model_gates_112 (by decide) 113 rfl ?_
  refine x_iadd X d_Model_gates_113 114 rfl ?_
  refine x_iald X hf d_Model_gates_114 115 rfl (fun v2 hf => ?_)
  refine x_icmp_ge X hf d_Model_gates_115 175 118 (by decide) rfl (fun hf => ?_) (fun hf => ?_)
  · refine x_iconst X (v := 0) d_Model_gates_175 (by decide) 176 rfl ?_
    refine x_istore_n X (lv' := [(3, .int 0), (0, .ref a0), (1, .int x1), (2, .int x2)]) d_Model_gates_176 rfl (by decide) rfl 177 rfl ?_
    exact x_sub [1, 2, 3, 0] rfl (t_Model_gates_177 X hret hk40 hf)
  · refine x_aload_n X (q := 0) d_Model_gates_118 rfl 119 rfl ?_
    refine x_getR X hf (ci := 12) (j := 48) rfl (by decide) rfl lf_Model_118 d_Model_gates_119 122 rfl (fun o3 hf => ?_)
    refine x_sipush X (v := 201) d_Model_gates_122 (by decide) 125 rfl ?_
    refine x_iload_n X (q := 2) d_Model_gates_125 rfl 126 rfl ?_
    refine x_imul X d_Model_gates_126 127 rfl ?_
    refine x_aload_n X (q := 0) d_Model_gates_127 rfl 128 rfl ?_
    refine x_getR X hf (ci := 12) (j := 12) rfl (by decide) rfl lf_Model_27 d_Model_gates_128 131 rfl (fun o4 hf => ?_)
    refine x_bipush X (v := 7) d_Model_gates_131 (by decide) 133 rfl ?_
    refine x_iload_n X (q := 2) d_Model_gates_133 rfl 134 rfl ?_
    refine x_imul X d_Model_gates_134 135 rfl ?_
    refine x_iload_n X (q := 3) d_Model_gates_135 rfl 136 rfl ?_
    refine x_iadd X d_Model_gates_136 137 rfl ?_
    refine x_iald X hf d_Model_gates_137 138 rfl (fun v5 hf => ?_)
    refine x_iconst X (v := 2) d_Model_gates_138 (by decide) 139 rfl ?_
    refine x_idiv X (by decide) d_Model_gates_139 140 rfl ?_
    refine x_iadd X d_Model_gates_140 141 rfl ?_
    refine x_iconst X (v := 2) d_Model_gates_141 (by decide) 142 rfl ?_
    refine x_iconst X (v := 1) d_Model_gates_142 (by decide) 143 rfl ?_
    refine x_aload_n X (q := 0) d_Model_gates_143 rfl 144 rfl ?_
    refine x_getR X hf (ci := 12) (j := 10) rfl (by decide) rfl lf_Model_20 d_Model_gates_144 147 rfl (fun o6 hf => ?_)
    refine x_iconst X (v := 1) d_Model_gates_147 (by decide) 148 rfl ?_
    refine x_iald X hf d_Model_gates_148 149 rfl (fun v7 hf => ?_)
    refine x_iadd X d_Model_gates_149 150 rfl ?_
    refine x_iload_n X (q := 2) d_Model_gates_150 rfl 151 rfl ?_
    refine x_if_ne X hf d_Model_gates_151 158 154 (by decide) rfl (fun hf => ?_) (fun hf => ?_)
    · refine x_aload_n X (q := 0) d_Model_gates_158 rfl 159 rfl ?_
      refine x_getR X hf (ci := 12) (j := 10) rfl (by decide) rfl lf_Model_20 d_Model_gates_159 162 rfl (fun o8 hf => ?_)
      refine x_iconst X (v := 2) d_Model_gates_162 (by decide) 163 rfl ?_
      refine x_iald X hf d_Model_gates_163 164 rfl (fun v9 hf => ?_)
      exact x_sub [0, 1, 2, 3] rfl (t_Model_gates_164 X hret hk40 hk104 hf)
    · refine x_iconst X (v := 0) d_Model_gates_154 (by decide) 155 rfl ?_
      refine x_goto X d_Model_gates_155 164 (by decide) ?_
      exact x_sub [0, 1, 2, 3] rfl (t_Model_gates_164 X hret hk40 hk104 hf)
set_option maxRecDepth 100000 in
def wp_Model_gates_58_b (z : Nat → Nat) (Q : Int32 → xh → Prop) (k40 : Nat × Int32 × Int32 × xh → Prop) (k58 : Nat × Int32 × Int32 × Int32 × xh → Prop) (a0 : Nat) (x1 : Int32) (x2 : Int32) (x3 : Int32) (hp : xh) : Prop :=
  ∃ o1, fR hp a0 12 10 = some o1 ∧ (∃ v2, aI hp o1 0 1 = some v2 ∧ ((v2 ≤ x3 → wp_Model_gates_104 z Q k40 a0 x1 x2 0 hp) ∧ (¬ v2 ≤ x3 → (∃ o3, fR hp a0 12 48 = some o3 ∧ (∃ o4, fR hp a0 12 11 = some o4 ∧ (∃ v5, aI hp o4 0 ((5 * x2) + x3) = some v5 ∧ (∃ h6, sI hp o3 0 ((201 * x2) + (v5 / 2)) (2 * (1 + x3)) = some h6 ∧ (k58 (a0, x1, x2, (x3 + 1), h6)))))))))
set_option maxRecDepth 100000 in
def wp_Model_gates_58 (z : Nat → Nat) (Q : Int32 → xh → Prop) (k40 : Nat × Int32 × Int32 × xh → Prop) (a0 : Nat) (x1 : Int32) (x2 : Int32) (x3 : Int32) (hp : xh) : Prop := ∃ f : Nat, xloop (fun k58 a => wp_Model_gates_58_b z Q k40 k58 a.1 a.2.1 a.2.2.1 a.2.2.2.1 a.2.2.2.2) f (a0, x1, x2, x3, hp)
set_option maxRecDepth 100000 in
set_option maxHeartbeats 4000000 in
theorem t_Model_gates_58 {p : Program} {l : Launch} {e : Env} {s : State} {m : MethodId} {args : Array Value} {below : List Frame} {meth : Method} {c : Code} {G : xG} {z : Nat → Nat} {A : Nat → Prop} {Qw : State → Prop} {Q : Int32 → xh → Prop} {k40 : Nat × Int32 × Int32 × xh → Prop} {a0 : Nat} {x1 : Int32} {x2 : Int32} {x3 : Int32} {hp : xh} (X : xX p l e rm_Model_gates s m args below meth c G z A y_Model_gates b_Model_gates 5) (hret : xRet p l e rm_Model_gates s m args below meth c G A 5 Qw b_Model_gates (some .int) (xqi Q)) (hk40 : ∀ (a0 : Nat) (x1 : Int32) (x2 : Int32) (hp : xh), k40 (a0, x1, x2, hp) → xE p l e rm_Model_gates s m args below meth c G A 5 Qw 0 0 hp 40 [(0, .ref a0), (1, .int x1), (2, .int x2)] []) (hf : wp_Model_gates_58 z Q k40 a0 x1 x2 x3 hp) : xE p l e rm_Model_gates s m args below meth c G A 5 Qw 0 0 hp 58 [(0, .ref a0), (1, .int x1), (2, .int x2), (3, .int x3)] [] := by
  obtain ⟨f, hf⟩ := hf
  refine xloop_ind (F := fun k58 a => wp_Model_gates_58_b z Q k40 k58 a.1 a.2.1 a.2.2.1 a.2.2.2.1 a.2.2.2.2) (E := fun a => xE p l e rm_Model_gates s m args below meth c G A 5 Qw 0 0 a.2.2.2.2 58 [(0, .ref (a.1)), (1, .int (a.2.1)), (2, .int (a.2.2.1)), (3, .int (a.2.2.2.1))] []) ?_ f (a0, x1, x2, x3, hp) hf
  intro k58 hk a hf
  obtain ⟨a0, x1, x2, x3, hp⟩ := a
  have hk58 : ∀ (a0 : Nat) (x1 : Int32) (x2 : Int32) (x3 : Int32) (hp : xh), k58 (a0, x1, x2, x3, hp) → xE p l e rm_Model_gates s m args below meth c G A 5 Qw 0 0 hp 58 [(0, .ref a0), (1, .int x1), (2, .int x2), (3, .int x3)] [] := fun a0 x1 x2 x3 hp h => hk (a0, x1, x2, x3, hp) h
  have hf : wp_Model_gates_58_b z Q k40 k58 a0 x1 x2 x3 hp := hf
  unfold wp_Model_gates_58_b at hf
  refine x_iload_n X (q := 3) d_Model_gates_58 rfl 59 rfl ?_
  refine x_aload_n X (q := 0) d_Model_gates_59 rfl 60 rfl ?_
  refine x_getR X hf (ci := 12) (j := 10) rfl (by decide) rfl lf_Model_20 d_Model_gates_60 63 rfl (fun o1 hf => ?_)
  refine x_iconst X (v := 1) d_Model_gates_63 (by decide) 64 rfl ?_
  refine x_iald X hf d_Model_gates_64 65 rfl (fun v2 hf => ?_)
  refine x_icmp_ge X hf d_Model_gates_65 102 68 (by decide) rfl (fun hf => ?_) (fun hf => ?_)
  · refine x_iconst X (v := 0) d_Model_gates_102 (by decide) 103 rfl ?_
    refine x_istore_n X (lv' := [(3, .int 0), (0, .ref a0), (1, .int x1), (2, .int x2)]) d_Model_gates_103 rfl (by decide) rfl 104 rfl ?_
    exact x_sub [1, 2, 3, 0] rfl (t_Model_gates_104 X hret hk40 hf)
  · refine x_aload_n X (q := 0) d_Model_gates_68 rfl 69 rfl ?_
    refine x_getR X hf (ci := 12) (j := 48) rfl (by decide) rfl lf_Model_118 d_Model_gates_69 72 rfl (fun o3 hf => ?_)
    refine x_sipush X (v := 201) d_Model_gates_72 (by decide) 75 rfl ?_
    refine x_iload_n X (q := 2) d_Model_gates_75 rfl 76 rfl ?_
    refine x_imul X d_Model_gates_76 77 rfl ?_
    refine x_aload_n X (q := 0) d_Model_gates_77 rfl 78 rfl ?_
    refine x_getR X hf (ci := 12) (j := 11) rfl (by decide) rfl lf_Model_24 d_Model_gates_78 81 rfl (fun o4 hf => ?_)
    refine x_iconst X (v := 5) d_Model_gates_81 (by decide) 82 rfl ?_
    refine x_iload_n X (q := 2) d_Model_gates_82 rfl 83 rfl ?_
    refine x_imul X d_Model_gates_83 84 rfl ?_
    refine x_iload_n X (q := 3) d_Model_gates_84 rfl 85 rfl ?_
    refine x_iadd X d_Model_gates_85 86 rfl ?_
    refine x_iald X hf d_Model_gates_86 87 rfl (fun v5 hf => ?_)
    refine x_iconst X (v := 2) d_Model_gates_87 (by decide) 88 rfl ?_
    refine x_idiv X (by decide) d_Model_gates_88 89 rfl ?_
    refine x_iadd X d_Model_gates_89 90 rfl ?_
    refine x_iconst X (v := 2) d_Model_gates_90 (by decide) 91 rfl ?_
    refine x_iconst X (v := 1) d_Model_gates_91 (by decide) 92 rfl ?_
    refine x_iload_n X (q := 3) d_Model_gates_92 rfl 93 rfl ?_
    refine x_iadd X d_Model_gates_93 94 rfl ?_
    refine x_imul X d_Model_gates_94 95 rfl ?_
    refine x_iast X hf d_Model_gates_95 96 rfl (fun h6 hf => ?_)
    refine x_iinc X (q := 3) (v := (x3 + 1)) (lv' := [(3, .int (x3 + 1)), (0, .ref a0), (1, .int x1), (2, .int x2)]) d_Model_gates_96 rfl (by rfl) (by decide) rfl 99 rfl ?_
    refine x_goto X d_Model_gates_99 58 (by decide) ?_
    exact x_sub [1, 2, 3, 0] rfl (hk58 _ _ _ _ _ hf)
set_option maxRecDepth 100000 in
def wp_Model_gates_40_b (z : Nat → Nat) (Q : Int32 → xh → Prop)  (k40 : Nat × Int32 × Int32 × xh → Prop) (a0 : Nat) (x1 : Int32) (x2 : Int32) (hp : xh) : Prop :=
  (2 ≤ x2 → (∃ v1, fI hp a0 12 51 = some v1 ∧ Q v1 hp)) ∧ (¬ 2 ≤ x2 → (∃ o2, fR hp a0 12 48 = some o2 ∧ (∃ h3, sI hp o2 0 (201 * x2) 0 = some h3 ∧ wp_Model_gates_58 z Q k40 a0 x1 x2 0 h3)))
set_option maxRecDepth 100000 in
def wp_Model_gates_40 (z : Nat → Nat) (Q : Int32 → xh → Prop)  (a0 : Nat) (x1 : Int32) (x2 : Int32) (hp : xh) : Prop := ∃ f : Nat, xloop (fun k40 a => wp_Model_gates_40_b z Q  k40 a.1 a.2.1 a.2.2.1 a.2.2.2) f (a0, x1, x2, hp)
set_option maxRecDepth 100000 in
set_option maxHeartbeats 4000000 in
theorem t_Model_gates_40 {p : Program} {l : Launch} {e : Env} {s : State} {m : MethodId} {args : Array Value} {below : List Frame} {meth : Method} {c : Code} {G : xG} {z : Nat → Nat} {A : Nat → Prop} {Qw : State → Prop} {Q : Int32 → xh → Prop} {a0 : Nat} {x1 : Int32} {x2 : Int32} {hp : xh} (X : xX p l e rm_Model_gates s m args below meth c G z A y_Model_gates b_Model_gates 5) (hret : xRet p l e rm_Model_gates s m args below meth c G A 5 Qw b_Model_gates (some .int) (xqi Q))  (hf : wp_Model_gates_40 z Q  a0 x1 x2 hp) : xE p l e rm_Model_gates s m args below meth c G A 5 Qw 0 0 hp 40 [(0, .ref a0), (1, .int x1), (2, .int x2)] [] := by
  obtain ⟨f, hf⟩ := hf
  refine xloop_ind (F := fun k40 a => wp_Model_gates_40_b z Q  k40 a.1 a.2.1 a.2.2.1 a.2.2.2) (E := fun a => xE p l e rm_Model_gates s m args below meth c G A 5 Qw 0 0 a.2.2.2 40 [(0, .ref (a.1)), (1, .int (a.2.1)), (2, .int (a.2.2.1))] []) ?_ f (a0, x1, x2, hp) hf
  intro k40 hk a hf
  obtain ⟨a0, x1, x2, hp⟩ := a
  have hk40 : ∀ (a0 : Nat) (x1 : Int32) (x2 : Int32) (hp : xh), k40 (a0, x1, x2, hp) → xE p l e rm_Model_gates s m args below meth c G A 5 Qw 0 0 hp 40 [(0, .ref a0), (1, .int x1), (2, .int x2)] [] := fun a0 x1 x2 hp h => hk (a0, x1, x2, hp) h
  have hf : wp_Model_gates_40_b z Q  k40 a0 x1 x2 hp := hf
  unfold wp_Model_gates_40_b at hf
  refine x_iload_n X (q := 2) d_Model_gates_40 rfl 41 rfl ?_
  refine x_iconst X (v := 2) d_Model_gates_41 (by decide) 42 rfl ?_
  refine x_icmp_ge X hf d_Model_gates_42 272 45 (by decide) rfl (fun hf => ?_) (fun hf => ?_)
  · refine x_aload_n X (q := 0) d_Model_gates_272 rfl 273 rfl ?_
    refine x_getI X hf (ci := 12) (j := 51) rfl (by decide) rfl lf_Model_311 d_Model_gates_273 276 rfl (fun v1 hf => ?_)
    exact hret _ _ _ _ _ (some (.int v1)) (Nat.le_refl 0) (Nat.le_refl 0) ⟨_, rfl, hf⟩ ⟨⟨_, rfl, rfl⟩, d_Model_gates_276⟩
  · refine x_aload_n X (q := 0) d_Model_gates_45 rfl 46 rfl ?_
    refine x_getR X hf (ci := 12) (j := 48) rfl (by decide) rfl lf_Model_118 d_Model_gates_46 49 rfl (fun o2 hf => ?_)
    refine x_sipush X (v := 201) d_Model_gates_49 (by decide) 52 rfl ?_
    refine x_iload_n X (q := 2) d_Model_gates_52 rfl 53 rfl ?_
    refine x_imul X d_Model_gates_53 54 rfl ?_
    refine x_iconst X (v := 0) d_Model_gates_54 (by decide) 55 rfl ?_
    refine x_iast X hf d_Model_gates_55 56 rfl (fun h3 hf => ?_)
    refine x_iconst X (v := 0) d_Model_gates_56 (by decide) 57 rfl ?_
    refine x_istore_n X (lv' := [(3, .int 0), (0, .ref a0), (1, .int x1), (2, .int x2)]) d_Model_gates_57 rfl (by decide) rfl 58 rfl ?_
    exact x_sub [1, 2, 3, 0] rfl (t_Model_gates_58 X hret hk40 hf)
set_option maxRecDepth 100000 in
def wp_Model_gates (z : Nat → Nat) (Q : Int32 → xh → Prop) (a0 : Nat) (hp : xh) : Prop :=
  xcls hp a0 12 ∧ wp_Model_none z (fun v2 h1 => (v2 = 0 → (∃ h4, pV h1 a0 12 51 (.int 0) = some h4 ∧ (∃ o5, fR h4 a0 12 10 = some o5 ∧ (∃ v6, aI h4 o5 0 1 = some v6 ∧ (∃ o7, fR h4 a0 12 10 = some o7 ∧ (∃ v8, aI h4 o7 0 2 = some v8 ∧ (∃ o9, fR h4 a0 12 10 = some o9 ∧ (∃ v10, aI h4 o9 0 7 = some v10 ∧ (∀ v11, v11 = (((1 + v6) + v8) + v10) → wp_Model_gates_40 z Q a0 v11 0 h4))))))))) ∧ (¬ v2 = 0 → Q 0 h1)) a0 hp
set_option maxRecDepth 100000 in
set_option maxHeartbeats 4000000 in
theorem t_Model_gates {l : Launch} {G : xG} {z : Nat → Nat} {Q : Int32 → xh → Prop} {a0 : Nat} {hp : xh} (hf : wp_Model_gates z Q a0 hp) : xM l G z y_Model_gates b_Model_gates 5 (some .int) rm_Model_gates [.ref a0] hp (xqi Q) := by
  refine xM_of (by decide) (Nat.le_of_ble_eq_true rfl) (lv0 := [(0, .ref a0)]) rfl ?_
  intro p e s m args below meth c A Qw X hret
  unfold wp_Model_gates at hf
  refine x_aload_n X (q := 0) d_Model_gates_0 rfl 1 rfl ?_
  refine x_callV0z X (t_Model_none hf.2) hf.1 (ci := 12) rfl rfl lm_Model_308 im_Model_none sl_Model_none cd_Model_none in_Model ds_Model_none rfl rfl (Nat.le_of_ble_eq_true rfl) (Nat.le_of_ble_eq_true rfl) (Nat.le_of_ble_eq_true rfl) rfl rfl (Nat.le_refl 0) (Nat.le_refl 0) d_Model_gates_1 4 rfl (fun v2 h1 hb3 hf => ?_)
  refine x_if_eq X hf d_Model_gates_4 9 7 (by decide) rfl (fun hf => ?_) (fun hf => ?_)
  · refine x_aload_n X (q := 0) d_Model_gates_9 rfl 10 rfl ?_
    refine x_iconst X (v := 0) d_Model_gates_10 (by decide) 11 rfl ?_
    refine x_put X hf (ci := 12) (j := 51) (ty := .int) rfl (by decide) rfl lf_Model_311 rfl (by decide +kernel) rfl rfl d_Model_gates_11 14 rfl (fun h4 hf => ?_)
    refine x_iconst X (v := 1) d_Model_gates_14 (by decide) 15 rfl ?_
    refine x_aload_n X (q := 0) d_Model_gates_15 rfl 16 rfl ?_
    refine x_getR X hf (ci := 12) (j := 10) rfl (by decide) rfl lf_Model_20 d_Model_gates_16 19 rfl (fun o5 hf => ?_)
    refine x_iconst X (v := 1) d_Model_gates_19 (by decide) 20 rfl ?_
    refine x_iald X hf d_Model_gates_20 21 rfl (fun v6 hf => ?_)
    refine x_iadd X d_Model_gates_21 22 rfl ?_
    refine x_aload_n X (q := 0) d_Model_gates_22 rfl 23 rfl ?_
    refine x_getR X hf (ci := 12) (j := 10) rfl (by decide) rfl lf_Model_20 d_Model_gates_23 26 rfl (fun o7 hf => ?_)
    refine x_iconst X (v := 2) d_Model_gates_26 (by decide) 27 rfl ?_
    refine x_iald X hf d_Model_gates_27 28 rfl (fun v8 hf => ?_)
    refine x_iadd X d_Model_gates_28 29 rfl ?_
    refine x_aload_n X (q := 0) d_Model_gates_29 rfl 30 rfl ?_
    refine x_getR X hf (ci := 12) (j := 10) rfl (by decide) rfl lf_Model_20 d_Model_gates_30 33 rfl (fun o9 hf => ?_)
    refine x_bipush X (v := 7) d_Model_gates_33 (by decide) 35 rfl ?_
    refine x_iald X hf d_Model_gates_35 36 rfl (fun v10 hf => ?_)
    refine x_iadd X d_Model_gates_36 37 rfl ?_
    refine x_istoreN_n X hf d_Model_gates_37 rfl (by decide) (lw := fun v11 => [(1, .int v11), (0, .ref a0)]) (fun _ => rfl) 38 rfl (fun v11 hf => ?_)
    refine x_iconst X (v := 0) d_Model_gates_38 (by decide) 39 rfl ?_
    refine x_istore_n X (lv' := [(2, .int 0), (1, .int v11), (0, .ref a0)]) d_Model_gates_39 rfl (by decide) rfl 40 rfl ?_
    exact x_sub [2, 1, 0] rfl (t_Model_gates_40 X hret hf)
  · refine x_iconst X (v := 0) d_Model_gates_7 (by decide) 8 rfl ?_
    exact hret _ _ _ _ _ (some (.int 0)) (Nat.le_refl 0) (Nat.le_refl 0) ⟨_, rfl, hf⟩ ⟨⟨_, rfl, rfl⟩, d_Model_gates_8⟩

