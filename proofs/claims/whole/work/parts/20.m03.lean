set_option maxRecDepth 100000 in
def wp_Sorter_reach (z : Nat → Nat) (Q : xh → Prop) (a0 : Nat) (x1 : Int32) (hp : xh) : Prop :=
  ∃ o1, fR hp a0 6 2 = some o1 ∧ (∃ v2, aI hp o1 2 x1 = some v2 ∧ ((¬ v2 = 0 → Q hp) ∧ (v2 = 0 → (∃ o3, fR hp a0 6 2 = some o3 ∧ (∃ h4, sI hp o3 2 x1 (vp_nar .boolean 1) = some h4 ∧ (∃ o5, fR h4 a0 6 3 = some o5 ∧ (∃ v6, fI h4 a0 6 4 = some v6 ∧ (∃ h7, sI h4 o5 0 v6 x1 = some h7 ∧ (∃ v8, fI h7 a0 6 4 = some v8 ∧ (∃ h9, pV h7 a0 6 4 (.int (v8 + 1)) = some h9 ∧ Q h9))))))))))
set_option maxRecDepth 100000 in
set_option maxHeartbeats 4000000 in
theorem t_Sorter_reach {l : Launch} {G : xG} {z : Nat → Nat} {Q : xh → Prop} {a0 : Nat} {x1 : Int32} {hp : xh} (hf : wp_Sorter_reach z Q a0 x1 hp) : xM l G z y_Sorter_reach b_Sorter_reach 2 none rm_Sorter_reach [.ref a0, .int x1] hp (xqv Q) := by
  refine xM_of (by decide) (Nat.le_of_ble_eq_true rfl) (lv0 := [(0, .ref a0), (1, .int x1)]) rfl ?_
  intro p e s m args below meth c A Qw X hret
  unfold wp_Sorter_reach at hf
  refine x_aload_n X (q := 0) d_Sorter_reach_0 rfl 1 rfl ?_
  refine x_getR X hf (ci := 6) (j := 2) rfl (by decide) rfl lf_Sorter_19 d_Sorter_reach_1 4 rfl (fun o1 hf => ?_)
  refine x_iload_n X (q := 1) d_Sorter_reach_4 rfl 5 rfl ?_
  refine x_zald X hf d_Sorter_reach_5 6 rfl (fun v2 hf => ?_)
  refine x_if_ne X hf d_Sorter_reach_6 36 9 (by decide) rfl (fun hf => ?_) (fun hf => ?_)
  · exact hret _ _ _ _ _ none (Nat.le_refl 0) (Nat.le_refl 0) ⟨rfl, hf⟩ ⟨rfl, d_Sorter_reach_36⟩
  · refine x_aload_n X (q := 0) d_Sorter_reach_9 rfl 10 rfl ?_
    refine x_getR X hf (ci := 6) (j := 2) rfl (by decide) rfl lf_Sorter_19 d_Sorter_reach_10 13 rfl (fun o3 hf => ?_)
    refine x_iload_n X (q := 1) d_Sorter_reach_13 rfl 14 rfl ?_
    refine x_iconst X (v := 1) d_Sorter_reach_14 (by decide) 15 rfl ?_
    refine x_zast X hf d_Sorter_reach_15 16 rfl (fun h4 hf => ?_)
    refine x_aload_n X (q := 0) d_Sorter_reach_16 rfl 17 rfl ?_
    refine x_getR X hf (ci := 6) (j := 3) rfl (by decide) rfl lf_Sorter_22 d_Sorter_reach_17 20 rfl (fun o5 hf => ?_)
    refine x_aload_n X (q := 0) d_Sorter_reach_20 rfl 21 rfl ?_
    refine x_getI X hf (ci := 6) (j := 4) rfl (by decide) rfl lf_Sorter_55 d_Sorter_reach_21 24 rfl (fun v6 hf => ?_)
    refine x_iload_n X (q := 1) d_Sorter_reach_24 rfl 25 rfl ?_
    refine x_iast X hf d_Sorter_reach_25 26 rfl (fun h7 hf => ?_)
    refine x_aload_n X (q := 0) d_Sorter_reach_26 rfl 27 rfl ?_
    refine x_dup X rfl d_Sorter_reach_27 28 rfl ?_
    refine x_getI X hf (ci := 6) (j := 4) rfl (by decide) rfl lf_Sorter_55 d_Sorter_reach_28 31 rfl (fun v8 hf => ?_)
    refine x_iconst X (v := 1) d_Sorter_reach_31 (by decide) 32 rfl ?_
    refine x_iadd X d_Sorter_reach_32 33 rfl ?_
    refine x_put X hf (ci := 6) (j := 4) (ty := .int) rfl (by decide) rfl lf_Sorter_55 rfl (by decide +kernel) rfl rfl d_Sorter_reach_33 36 rfl (fun h9 hf => ?_)
    exact hret _ _ _ _ _ none (Nat.le_refl 0) (Nat.le_refl 0) ⟨rfl, hf⟩ ⟨rfl, d_Sorter_reach_36⟩

set_option maxRecDepth 100000 in
def wp_Sorter_reachOperands (z : Nat → Nat) (Q : xh → Prop) (a0 : Nat) (a1 : Nat) (x2 : Int32) (hp : xh) : Prop :=
  ∃ o1, fR hp a1 0 6 = some o1 ∧ (∃ v2, aI hp o1 1 x2 = some v2 ∧ ((¬ v2 = 3 → Q hp) ∧ (v2 = 3 → (∃ o3, fR hp a1 0 7 = some o3 ∧ (∃ v4, aI hp o3 0 x2 = some v4 ∧ (xcls hp a0 6 ∧ wp_Sorter_reach z (fun h5 => ∃ o6, fR h5 a1 0 8 = some o6 ∧ (∃ v7, aI h5 o6 0 x2 = some v7 ∧ (xcls h5 a0 6 ∧ wp_Sorter_reach z (fun h8 => Q h8) a0 (v7 >>> ((1 : Int32) &&& 31)) h5))) a0 (v4 >>> ((1 : Int32) &&& 31)) hp))))))
set_option maxRecDepth 100000 in
set_option maxHeartbeats 4000000 in
theorem t_Sorter_reachOperands {l : Launch} {G : xG} {z : Nat → Nat} {Q : xh → Prop} {a0 : Nat} {a1 : Nat} {x2 : Int32} {hp : xh} (hf : wp_Sorter_reachOperands z Q a0 a1 x2 hp) : xM l G z y_Sorter_reachOperands b_Sorter_reachOperands 3 none rm_Sorter_reachOperands [.ref a0, .ref a1, .int x2] hp (xqv Q) := by
  refine xM_of (by decide) (Nat.le_of_ble_eq_true rfl) (lv0 := [(0, .ref a0), (1, .ref a1), (2, .int x2)]) rfl ?_
  intro p e s m args below meth c A Qw X hret
  unfold wp_Sorter_reachOperands at hf
  refine x_aload_n X (q := 1) d_Sorter_reachOperands_0 rfl 1 rfl ?_
  refine x_getR X hf (ci := 0) (j := 6) rfl (by decide) rfl lf_Sorter_25 d_Sorter_reachOperands_1 4 rfl (fun o1 hf => ?_)
  refine x_iload_n X (q := 2) d_Sorter_reachOperands_4 rfl 5 rfl ?_
  refine x_bald X hf d_Sorter_reachOperands_5 6 rfl (fun v2 hf => ?_)
  refine x_iconst X (v := 3) d_Sorter_reachOperands_6 (by decide) 7 rfl ?_
  refine x_icmp_ne X hf d_Sorter_reachOperands_7 34 10 (by decide) rfl (fun hf => ?_) (fun hf => ?_)
  · exact hret _ _ _ _ _ none (Nat.le_refl 0) (Nat.le_refl 0) ⟨rfl, hf⟩ ⟨rfl, d_Sorter_reachOperands_34⟩
  · refine x_aload_n X (q := 0) d_Sorter_reachOperands_10 rfl 11 rfl ?_
    refine x_aload_n X (q := 1) d_Sorter_reachOperands_11 rfl 12 rfl ?_
    refine x_getR X hf (ci := 0) (j := 7) rfl (by decide) rfl lf_Sorter_42 d_Sorter_reachOperands_12 15 rfl (fun o3 hf => ?_)
    refine x_iload_n X (q := 2) d_Sorter_reachOperands_15 rfl 16 rfl ?_
    refine x_iald X hf d_Sorter_reachOperands_16 17 rfl (fun v4 hf => ?_)
    refine x_iconst X (v := 1) d_Sorter_reachOperands_17 (by decide) 18 rfl ?_
    refine x_ishr X d_Sorter_reachOperands_18 19 rfl ?_
    refine x_callV0v X (t_Sorter_reach hf.2) hf.1 (ci := 6) rfl rfl lm_Sorter_62 im_Sorter_reach sl_Sorter_reach cd_Sorter_reach in_Sorter ds_Sorter_reach rfl rfl (Nat.le_of_ble_eq_true rfl) (Nat.le_of_ble_eq_true rfl) (Nat.le_of_ble_eq_true rfl) rfl rfl (Nat.le_refl 0) (Nat.le_refl 0) d_Sorter_reachOperands_19 22 rfl (fun h5 hf => ?_)
    refine x_aload_n X (q := 0) d_Sorter_reachOperands_22 rfl 23 rfl ?_
    refine x_aload_n X (q := 1) d_Sorter_reachOperands_23 rfl 24 rfl ?_
    refine x_getR X hf (ci := 0) (j := 8) rfl (by decide) rfl lf_Sorter_45 d_Sorter_reachOperands_24 27 rfl (fun o6 hf => ?_)
    refine x_iload_n X (q := 2) d_Sorter_reachOperands_27 rfl 28 rfl ?_
    refine x_iald X hf d_Sorter_reachOperands_28 29 rfl (fun v7 hf => ?_)
    refine x_iconst X (v := 1) d_Sorter_reachOperands_29 (by decide) 30 rfl ?_
    refine x_ishr X d_Sorter_reachOperands_30 31 rfl ?_
    refine x_callV0v X (t_Sorter_reach hf.2) hf.1 (ci := 6) rfl rfl lm_Sorter_62 im_Sorter_reach sl_Sorter_reach cd_Sorter_reach in_Sorter ds_Sorter_reach rfl rfl (Nat.le_of_ble_eq_true rfl) (Nat.le_of_ble_eq_true rfl) (Nat.le_of_ble_eq_true rfl) rfl rfl (Nat.le_refl 0) (Nat.le_refl 0) d_Sorter_reachOperands_31 34 rfl (fun h8 hf => ?_)
    exact hret _ _ _ _ _ none (Nat.le_refl 0) (Nat.le_refl 0) ⟨rfl, hf⟩ ⟨rfl, d_Sorter_reachOperands_34⟩

set_option maxRecDepth 100000 in
def wp_Sorter_comesBack_67 (z : Nat → Nat) (Q : Int32 → xh → Prop)  (a0 : Nat) (x2 : Int32) (hp : xh) : Prop :=
  ∃ o1, fR hp a0 6 2 = some o1 ∧ (∃ v2, aI hp o1 2 x2 = some v2 ∧ (xbl v2 ∧ Q v2 hp))
set_option maxRecDepth 100000 in
set_option maxHeartbeats 4000000 in
theorem t_Sorter_comesBack_67 {p : Program} {l : Launch} {e : Env} {s : State} {m : MethodId} {args : Array Value} {below : List Frame} {meth : Method} {c : Code} {G : xG} {z : Nat → Nat} {A : Nat → Prop} {Qw : State → Prop} {Q : Int32 → xh → Prop} {a0 : Nat} {x2 : Int32} {hp : xh} (X : xX p l e rm_Sorter_comesBack s m args below meth c G z A y_Sorter_comesBack b_Sorter_comesBack 4) (hret : xRet p l e rm_Sorter_comesBack s m args below meth c G A 4 Qw b_Sorter_comesBack (some .boolean) (xqz Q))  (hf : wp_Sorter_comesBack_67 z Q  a0 x2 hp) : xE p l e rm_Sorter_comesBack s m args below meth c G A 4 Qw 0 0 hp 67 [(0, .ref a0), (2, .int x2)] [] := by
  unfold wp_Sorter_comesBack_67 at hf
  refine x_aload_n X (q := 0) d_Sorter_comesBack_67 rfl 68 rfl ?_
  refine x_getR X hf (ci := 6) (j := 2) rfl (by decide) rfl lf_Sorter_19 d_Sorter_comesBack_68 71 rfl (fun o1 hf => ?_)
  refine x_iload_n X (q := 1) d_Sorter_comesBack_71 rfl 72 rfl ?_
  refine x_zald X hf d_Sorter_comesBack_72 73 rfl (fun v2 hf => ?_)
  exact hret _ _ _ _ _ (some (.int v2)) (Nat.le_refl 0) (Nat.le_refl 0) ⟨_, rfl, hf.1, hf.2⟩ ⟨⟨_, rfl, xbl_nar hf.1⟩, d_Sorter_comesBack_73⟩
set_option maxRecDepth 100000 in
def wp_Sorter_comesBack_35_b (z : Nat → Nat) (Q : Int32 → xh → Prop)  (k35 : Nat × Nat × Int32 × Int32 × xh → Prop) (a0 : Nat) (a1 : Nat) (x2 : Int32) (x3 : Int32) (hp : xh) : Prop :=
  ∃ v1, fI hp a0 6 4 = some v1 ∧ ((v1 ≤ x3 → wp_Sorter_comesBack_67 z Q a0 x2 hp) ∧ (¬ v1 ≤ x3 → ((201 ≤ x3 → wp_Sorter_comesBack_67 z Q a0 x2 hp) ∧ (¬ 201 ≤ x3 → (∃ o2, fR hp a0 6 3 = some o2 ∧ (∃ v3, aI hp o2 0 x3 = some v3 ∧ (xcls hp a0 6 ∧ wp_Sorter_reachOperands z (fun h4 => k35 (a0, a1, x2, (x3 + 1), h4)) a0 a1 v3 hp)))))))
set_option maxRecDepth 100000 in
def wp_Sorter_comesBack_35 (z : Nat → Nat) (Q : Int32 → xh → Prop)  (a0 : Nat) (a1 : Nat) (x2 : Int32) (x3 : Int32) (hp : xh) : Prop := ∃ f : Nat, xloop (fun k35 a => wp_Sorter_comesBack_35_b z Q  k35 a.1 a.2.1 a.2.2.1 a.2.2.2.1 a.2.2.2.2) f (a0, a1, x2, x3, hp)
set_option maxRecDepth 100000 in
set_option maxHeartbeats 4000000 in
theorem t_Sorter_comesBack_35 {p : Program} {l : Launch} {e : Env} {s : State} {m : MethodId} {args : Array Value} {below : List Frame} {meth : Method} {c : Code} {G : xG} {z : Nat → Nat} {A : Nat → Prop} {Qw : State → Prop} {Q : Int32 → xh → Prop} {a0 : Nat} {a1 : Nat} {x2 : Int32} {x3 : Int32} {hp : xh} (X : xX p l e rm_Sorter_comesBack s m args below meth c G z A y_Sorter_comesBack b_Sorter_comesBack 4) (hret : xRet p l e rm_Sorter_comesBack s m args below meth c G A 4 Qw b_Sorter_comesBack (some .boolean) (xqz Q))  (hf : wp_Sorter_comesBack_35 z Q  a0 a1 x2 x3 hp) : xE p l e rm_Sorter_comesBack s m args below meth c G A 4 Qw 0 0 hp 35 [(0, .ref a0), (1, .ref a1), (2, .int x2), (3, .int x3)] [] := by
  obtain ⟨f, hf⟩ := hf
  refine xloop_ind (F := fun k35 a => wp_Sorter_comesBack_35_b z Q  k35 a.1 a.2.1 a.2.2.1 a.2.2.2.1 a.2.2.2.2) (E := fun a => xE p l e rm_Sorter_comesBack s m args below meth c G A 4 Qw 0 0 a.2.2.2.2 35 [(0, .ref (a.1)), (1, .ref (a.2.1)), (2, .int (a.2.2.1)), (3, .int (a.2.2.2.1))] []) ?_ f (a0, a1, x2, x3, hp) hf
  intro k35 hk a hf
  obtain ⟨a0, a1, x2, x3, hp⟩ := a
  have hk35 : ∀ (a0 : Nat) (a1 : Nat) (x2 : Int32) (x3 : Int32) (hp : xh), k35 (a0, a1, x2, x3, hp) → xE p l e rm_Sorter_comesBack s m args below meth c G A 4 Qw 0 0 hp 35 [(0, .ref a0), (1, .ref a1), (2, .int x2), (3, .int x3)] [] := fun a0 a1 x2 x3 hp h => hk (a0, a1, x2, x3, hp) h
  have hf : wp_Sorter_comesBack_35_b z Q  k35 a0 a1 x2 x3 hp := hf
  unfold wp_Sorter_comesBack_35_b at hf
  refine x_iload_n X (q := 3) d_Sorter_comesBack_35 rfl 36 rfl ?_
  refine x_aload_n X (q := 0) d_Sorter_comesBack_36 rfl 37 rfl ?_
  refine x_getI X hf (ci := 6) (j := 4) rfl (by decide) rfl lf_Sorter_55 d_Sorter_comesBack_37 40 rfl (fun v1 hf => ?_)
  refine x_icmp_ge X hf d_Sorter_comesBack_40 67 43 (by decide) rfl (fun hf => ?_) (fun hf => ?_)
  · exact x_sub [0, 2] rfl (t_Sorter_comesBack_67 X hret hf)
  · refine x_iload_n X (q := 3) d_Sorter_comesBack_43 rfl 44 rfl ?_
    refine x_sipush X (v := 201) d_Sorter_comesBack_44 (by decide) 47 rfl ?_
    refine x_icmp_ge X hf d_Sorter_comesBack_47 67 50 (by decide) rfl (fun hf => ?_) (fun hf => ?_)
    · exact x_sub [0, 2] rfl (t_Sorter_comesBack_67 X hret hf)
    · refine x_aload_n X (q := 0) d_Sorter_comesBack_50 rfl 51 rfl ?_
      refine x_aload_n X (q := 1) d_Sorter_comesBack_51 rfl 52 rfl ?_
      refine x_aload_n X (q := 0) d_Sorter_comesBack_52 rfl 53 rfl ?_
      refine x_getR X hf (ci := 6) (j := 3) rfl (by decide) rfl lf_Sorter_22 d_Sorter_comesBack_53 56 rfl (fun o2 hf => ?_)
      refine x_iload_n X (q := 3) d_Sorter_comesBack_56 rfl 57 rfl ?_
      refine x_iald X hf d_Sorter_comesBack_57 58 rfl (fun v3 hf => ?_)
      refine x_callV0v X (t_Sorter_reachOperands hf.2) hf.1 (ci := 6) rfl rfl lm_Sorter_58 im_Sorter_reachOperands sl_Sorter_reachOperands cd_Sorter_reachOperands in_Sorter ds_Sorter_reachOperands rfl rfl (Nat.le_of_ble_eq_true rfl) (Nat.le_of_ble_eq_true rfl) (Nat.le_of_ble_eq_true rfl) rfl rfl (Nat.le_refl 0) (Nat.le_refl 0) d_Sorter_comesBack_58 61 rfl (fun h4 hf => ?_)
      refine x_iinc X (q := 3) (v := (x3 + 1)) (lv' := [(3, .int (x3 + 1)), (0, .ref a0), (1, .ref a1), (2, .int x2)]) d_Sorter_comesBack_61 rfl (by rfl) (by decide) rfl 64 rfl ?_
      refine x_goto X d_Sorter_comesBack_64 35 (by decide) ?_
      exact x_sub [1, 2, 3, 0] rfl (hk35 _ _ _ _ _ hf)
set_option maxRecDepth 100000 in
def wp_Sorter_comesBack_2_b (z : Nat → Nat) (Q : Int32 → xh → Prop)  (k2 : Nat × Nat × Int32 × Int32 × xh → Prop) (a0 : Nat) (a1 : Nat) (x2 : Int32) (x3 : Int32) (hp : xh) : Prop :=
  (201 ≤ x3 → (∃ h1, pV hp a0 6 4 (.int 0) = some h1 ∧ (xcls h1 a0 6 ∧ wp_Sorter_reachOperands z (fun h2 => wp_Sorter_comesBack_35 z Q a0 a1 x2 0 h2) a0 a1 x2 h1))) ∧ (¬ 201 ≤ x3 → (∃ o3, fR hp a0 6 2 = some o3 ∧ (∃ h4, sI hp o3 2 x3 (vp_nar .boolean 0) = some h4 ∧ (k2 (a0, a1, x2, (x3 + 1), h4)))))
set_option maxRecDepth 100000 in
def wp_Sorter_comesBack_2 (z : Nat → Nat) (Q : Int32 → xh → Prop)  (a0 : Nat) (a1 : Nat) (x2 : Int32) (x3 : Int32) (hp : xh) : Prop := ∃ f : Nat, xloop (fun k2 a => wp_Sorter_comesBack_2_b z Q  k2 a.1 a.2.1 a.2.2.1 a.2.2.2.1 a.2.2.2.2) f (a0, a1, x2, x3, hp)
set_option maxRecDepth 100000 in
set_option maxHeartbeats 4000000 in
theorem t_Sorter_comesBack_2 {p : Program} {l : Launch} {e : Env} {s : State} {m : MethodId} {args : Array Value} {below : List Frame} {meth : Method} {c : Code} {G : xG} {z : Nat → Nat} {A : Nat → Prop} {Qw : State → Prop} {Q : Int32 → xh → Prop} {a0 : Nat} {a1 : Nat} {x2 : Int32} {x3 : Int32} {hp : xh} (X : xX p l e rm_Sorter_comesBack s m args below meth c G z A y_Sorter_comesBack b_Sorter_comesBack 4) (hret : xRet p l e rm_Sorter_comesBack s m args below meth c G A 4 Qw b_Sorter_comesBack (some .boolean) (xqz Q))  (hf : wp_Sorter_comesBack_2 z Q  a0 a1 x2 x3 hp) : xE p l e rm_Sorter_comesBack s m args below meth c G A 4 Qw 0 0 hp 2 [(0, .ref a0), (1, .ref a1), (2, .int x2), (3, .int x3)] [] := by
  obtain ⟨f, hf⟩ := hf
  refine xloop_ind (F := fun k2 a => wp_Sorter_comesBack_2_b z Q  k2 a.1 a.2.1 a.2.2.1 a.2.2.2.1 a.2.2.2.2) (E := fun a => xE p l e rm_Sorter_comesBack s m args below meth c G A 4 Qw 0 0 a.2.2.2.2 2 [(0, .ref (a.1)), (1, .ref (a.2.1)), (2, .int (a.2.2.1)), (3, .int (a.2.2.2.1))] []) ?_ f (a0, a1, x2, x3, hp) hf
  intro k2 hk a hf
  obtain ⟨a0, a1, x2, x3, hp⟩ := a
  have hk2 : ∀ (a0 : Nat) (a1 : Nat) (x2 : Int32) (x3 : Int32) (hp : xh), k2 (a0, a1, x2, x3, hp) → xE p l e rm_Sorter_comesBack s m args below meth c G A 4 Qw 0 0 hp 2 [(0, .ref a0), (1, .ref a1), (2, .int x2), (3, .int x3)] [] := fun a0 a1 x2 x3 hp h => hk (a0, a1, x2, x3, hp) h
  have hf : wp_Sorter_comesBack_2_b z Q  k2 a0 a1 x2 x3 hp := hf
  unfold wp_Sorter_comesBack_2_b at hf
  refine x_iload_n X (q := 3) d_Sorter_comesBack_2 rfl 3 rfl ?_
  refine x_sipush X (v := 201) d_Sorter_comesBack_3 (by decide) 6 rfl ?_
  refine x_icmp_ge X hf d_Sorter_comesBack_6 22 9 (by decide) rfl (fun hf => ?_) (fun hf => ?_)
  · refine x_aload_n X (q := 0) d_Sorter_comesBack_22 rfl 23 rfl ?_
    refine x_iconst X (v := 0) d_Sorter_comesBack_23 (by decide) 24 rfl ?_
    refine x_put X hf (ci := 6) (j := 4) (ty := .int) rfl (by decide) rfl lf_Sorter_55 rfl (by decide +kernel) rfl rfl d_Sorter_comesBack_24 27 rfl (fun h1 hf => ?_)
    refine x_aload_n X (q := 0) d_Sorter_comesBack_27 rfl 28 rfl ?_
    refine x_aload_n X (q := 1) d_Sorter_comesBack_28 rfl 29 rfl ?_
    refine x_iload_n X (q := 2) d_Sorter_comesBack_29 rfl 30 rfl ?_
    refine x_callV0v X (t_Sorter_reachOperands hf.2) hf.1 (ci := 6) rfl rfl lm_Sorter_58 im_Sorter_reachOperands sl_Sorter_reachOperands cd_Sorter_reachOperands in_Sorter ds_Sorter_reachOperands rfl rfl (Nat.le_of_ble_eq_true rfl) (Nat.le_of_ble_eq_true rfl) (Nat.le_of_ble_eq_true rfl) rfl rfl (Nat.le_refl 0) (Nat.le_refl 0) d_Sorter_comesBack_30 33 rfl (fun h2 hf => ?_)
    refine x_iconst X (v := 0) d_Sorter_comesBack_33 (by decide) 34 rfl ?_
    refine x_istore_n X (lv' := [(3, .int 0), (0, .ref a0), (1, .ref a1), (2, .int x2)]) d_Sorter_comesBack_34 rfl (by decide) rfl 35 rfl ?_
    exact x_sub [1, 2, 3, 0] rfl (t_Sorter_comesBack_35 X hret hf)
  · refine x_aload_n X (q := 0) d_Sorter_comesBack_9 rfl 10 rfl ?_
    refine x_getR X hf (ci := 6) (j := 2) rfl (by decide) rfl lf_Sorter_19 d_Sorter_comesBack_10 13 rfl (fun o3 hf => ?_)
    refine x_iload_n X (q := 3) d_Sorter_comesBack_13 rfl 14 rfl ?_
    refine x_iconst X (v := 0) d_Sorter_comesBack_14 (by decide) 15 rfl ?_
    refine x_zast X hf d_Sorter_comesBack_15 16 rfl (fun h4 hf => ?_)
    refine x_iinc X (q := 3) (v := (x3 + 1)) (lv' := [(3, .int (x3 + 1)), (0, .ref a0), (1, .ref a1), (2, .int x2)]) d_Sorter_comesBack_16 rfl (by rfl) (by decide) rfl 19 rfl ?_
    refine x_goto X d_Sorter_comesBack_19 2 (by decide) ?_
    exact x_sub [1, 2, 3, 0] rfl (hk2 _ _ _ _ _ hf)
set_option maxRecDepth 100000 in
def wp_Sorter_comesBack (z : Nat → Nat) (Q : Int32 → xh → Prop) (a0 : Nat) (a1 : Nat) (x2 : Int32) (hp : xh) : Prop :=
  wp_Sorter_comesBack_2 z Q a0 a1 x2 0 hp
set_option maxRecDepth 100000 in
set_option maxHeartbeats 4000000 in
theorem t_Sorter_comesBack {l : Launch} {G : xG} {z : Nat → Nat} {Q : Int32 → xh → Prop} {a0 : Nat} {a1 : Nat} {x2 : Int32} {hp : xh} (hf : wp_Sorter_comesBack z Q a0 a1 x2 hp) : xM l G z y_Sorter_comesBack b_Sorter_comesBack 4 (some .boolean) rm_Sorter_comesBack [.ref a0, .ref a1, .int x2] hp (xqz Q) := by
  refine xM_of (by decide) (Nat.le_of_ble_eq_true rfl) (lv0 := [(0, .ref a0), (1, .ref a1), (2, .int x2)]) rfl ?_
  intro p e s m args below meth c A Qw X hret
  unfold wp_Sorter_comesBack at hf
  refine x_iconst X (v := 0) d_Sorter_comesBack_0 (by decide) 1 rfl ?_
  refine x_istore_n X (lv' := [(3, .int 0), (0, .ref a0), (1, .ref a1), (2, .int x2)]) d_Sorter_comesBack_1 rfl (by decide) rfl 2 rfl ?_
  exact x_sub [1, 2, 3, 0] rfl (t_Sorter_comesBack_2 X hret hf)

set_option maxRecDepth 100000 in
def wp_Sorter_lowestInLoop_30 (z : Nat → Nat) (Q : Int32 → xh → Prop) (k2 : Nat × Nat × Int32 × xh → Prop) (a0 : Nat) (a1 : Nat) (x2 : Int32) (hp : xh) : Prop :=
  k2 (a0, a1, (x2 + 1), hp)
set_option maxRecDepth 100000 in
set_option maxHeartbeats 4000000 in
theorem t_Sorter_lowestInLoop_30 {p : Program} {l : Launch} {e : Env} {s : State} {m : MethodId} {args : Array Value} {below : List Frame} {meth : Method} {c : Code} {G : xG} {z : Nat → Nat} {A : Nat → Prop} {Qw : State → Prop} {Q : Int32 → xh → Prop} {k2 : Nat × Nat × Int32 × xh → Prop} {a0 : Nat} {a1 : Nat} {x2 : Int32} {hp : xh} (X : xX p l e rm_Sorter_lowestInLoop s m args below meth c G z A y_Sorter_lowestInLoop b_Sorter_lowestInLoop 3) (hret : xRet p l e rm_Sorter_lowestInLoop s m args below meth c G A 3 Qw b_Sorter_lowestInLoop (some .int) (xqi Q)) (hk2 : ∀ (a0 : Nat) (a1 : Nat) (x2 : Int32) (hp : xh), k2 (a0, a1, x2, hp) → xE p l e rm_Sorter_lowestInLoop s m args below meth c G A 3 Qw 0 0 hp 2 [(0, .ref a0), (1, .ref a1), (2, .int x2)] []) (hf : wp_Sorter_lowestInLoop_30 z Q k2 a0 a1 x2 hp) : xE p l e rm_Sorter_lowestInLoop s m args below meth c G A 3 Qw 0 0 hp 30 [(0, .ref a0), (1, .ref a1), (2, .int x2)] [] := by
  unfold wp_Sorter_lowestInLoop_30 at hf
  refine x_iinc X (q := 2) (v := (x2 + 1)) (lv' := [(2, .int (x2 + 1)), (0, .ref a0), (1, .ref a1)]) d_Sorter_lowestInLoop_30 rfl (by rfl) (by decide) rfl 33 rfl ?_
  refine x_goto X d_Sorter_lowestInLoop_33 2 (by decide) ?_
  exact x_sub [1, 2, 0] rfl (hk2 _ _ _ _ hf)
set_option maxRecDepth 100000 in
def wp_Sorter_lowestInLoop_2_b (z : Nat → Nat) (Q : Int32 → xh → Prop)  (k2 : Nat × Nat × Int32 × xh → Prop) (a0 : Nat) (a1 : Nat) (x2 : Int32) (hp : xh) : Prop :=
  ∃ v1, fI hp a1 0 1 = some v1 ∧ ((v1 < x2 → (Q (-1) hp)) ∧ (¬ v1 < x2 → (∃ o2, fR hp a0 6 1 = some o2 ∧ (∃ v3, aI hp o2 2 x2 = some v3 ∧ ((¬ v3 = 0 → wp_Sorter_lowestInLoop_30 z Q k2 a0 a1 x2 hp) ∧ (v3 = 0 → (xcls hp a0 6 ∧ wp_Sorter_comesBack z (fun v5 h4 => (v5 = 0 → wp_Sorter_lowestInLoop_30 z Q k2 a0 a1 x2 h4) ∧ (¬ v5 = 0 → Q x2 h4)) a0 a1 x2 hp)))))))
set_option maxRecDepth 100000 in
def wp_Sorter_lowestInLoop_2 (z : Nat → Nat) (Q : Int32 → xh → Prop)  (a0 : Nat) (a1 : Nat) (x2 : Int32) (hp : xh) : Prop := ∃ f : Nat, xloop (fun k2 a => wp_Sorter_lowestInLoop_2_b z Q  k2 a.1 a.2.1 a.2.2.1 a.2.2.2) f (a0, a1, x2, hp)
set_option maxRecDepth 100000 in
set_option maxHeartbeats 4000000 in
theorem t_Sorter_lowestInLoop_2 {p : Program} {l : Launch} {e : Env} {s : State} {m : MethodId} {args : Array Value} {below : List Frame} {meth : Method} {c : Code} {G : xG} {z : Nat → Nat} {A : Nat → Prop} {Qw : State → Prop} {Q : Int32 → xh → Prop} {a0 : Nat} {a1 : Nat} {x2 : Int32} {hp : xh} (X : xX p l e rm_Sorter_lowestInLoop s m args below meth c G z A y_Sorter_lowestInLoop b_Sorter_lowestInLoop 3) (hret : xRet p l e rm_Sorter_lowestInLoop s m args below meth c G A 3 Qw b_Sorter_lowestInLoop (some .int) (xqi Q))  (hf : wp_Sorter_lowestInLoop_2 z Q  a0 a1 x2 hp) : xE p l e rm_Sorter_lowestInLoop s m args below meth c G A 3 Qw 0 0 hp 2 [(0, .ref a0), (1, .ref a1), (2, .int x2)] [] := by
  obtain ⟨f, hf⟩ := hf
  refine xloop_ind (F := fun k2 a => wp_Sorter_lowestInLoop_2_b z Q  k2 a.1 a.2.1 a.2.2.1 a.2.2.2) (E := fun a => xE p l e rm_Sorter_lowestInLoop s m args below meth c G A 3 Qw 0 0 a.2.2.2 2 [(0, .ref (a.1)), (1, .ref (a.2.1)), (2, .int (a.2.2.1))] []) ?_ f (a0, a1, x2, hp) hf
  intro k2 hk a hf
  obtain ⟨a0, a1, x2, hp⟩ := a
  have hk2 : ∀ (a0 : Nat) (a1 : Nat) (x2 : Int32) (hp : xh), k2 (a0, a1, x2, hp) → xE p l e rm_Sorter_lowestInLoop s m args below meth c G A 3 Qw 0 0 hp 2 [(0, .ref a0), (1, .ref a1), (2, .int x2)] [] := fun a0 a1 x2 hp h => hk (a0, a1, x2, hp) h
  have hf : wp_Sorter_lowestInLoop_2_b z Q  k2 a0 a1 x2 hp := hf
  unfold wp_Sorter_lowestInLoop_2_b at hf
  refine x_iload_n X (q := 2) d_Sorter_lowestInLoop_2 rfl 3 rfl ?_
  refine x_aload_n X (q := 1) d_Sorter_lowestInLoop_3 rfl 4 rfl ?_
  refine x_getI X hf (ci := 0) (j := 1) rfl (by decide) rfl lf_Sorter_48 d_Sorter_lowestInLoop_4 7 rfl (fun v1 hf => ?_)
  refine x_icmp_gt X hf d_Sorter_lowestInLoop_7 36 10 (by decide) rfl (fun hf => ?_) (fun hf => ?_)
  · refine x_iconst X (v := (-1)) d_Sorter_lowestInLoop_36 (by decide) 37 rfl ?_
    exact hret _ _ _ _ _ (some (.int (-1))) (Nat.le_refl 0) (Nat.le_refl 0) ⟨_, rfl, hf⟩ ⟨⟨_, rfl, rfl⟩, d_Sorter_lowestInLoop_37⟩
  · refine x_aload_n X (q := 0) d_Sorter_lowestInLoop_10 rfl 11 rfl ?_
    refine x_getR X hf (ci := 6) (j := 1) rfl (by decide) rfl lf_Sorter_15 d_Sorter_lowestInLoop_11 14 rfl (fun o2 hf => ?_)
    refine x_iload_n X (q := 2) d_Sorter_lowestInLoop_14 rfl 15 rfl ?_
    refine x_zald X hf d_Sorter_lowestInLoop_15 16 rfl (fun v3 hf => ?_)
    refine x_if_ne X hf d_Sorter_lowestInLoop_16 30 19 (by decide) rfl (fun hf => ?_) (fun hf => ?_)
    · exact x_sub [0, 1, 2] rfl (t_Sorter_lowestInLoop_30 X hret hk2 hf)
    · refine x_aload_n X (q := 0) d_Sorter_lowestInLoop_19 rfl 20 rfl ?_
      refine x_aload_n X (q := 1) d_Sorter_lowestInLoop_20 rfl 21 rfl ?_
      refine x_iload_n X (q := 2) d_Sorter_lowestInLoop_21 rfl 22 rfl ?_
      refine x_callV0z X (t_Sorter_comesBack hf.2) hf.1 (ci := 6) rfl rfl lm_Sorter_51 im_Sorter_comesBack sl_Sorter_comesBack cd_Sorter_comesBack in_Sorter ds_Sorter_comesBack rfl rfl (Nat.le_of_ble_eq_true rfl) (Nat.le_of_ble_eq_true rfl) (Nat.le_of_ble_eq_true rfl) rfl rfl (Nat.le_refl 0) (Nat.le_refl 0) d_Sorter_lowestInLoop_22 25 rfl (fun v5 h4 hb6 hf => ?_)
      refine x_if_eq X hf d_Sorter_lowestInLoop_25 30 28 (by decide) rfl (fun hf => ?_) (fun hf => ?_)
      · exact x_sub [0, 1, 2] rfl (t_Sorter_lowestInLoop_30 X hret hk2 hf)
      · refine x_iload_n X (q := 2) d_Sorter_lowestInLoop_28 rfl 29 rfl ?_
        exact hret _ _ _ _ _ (some (.int x2)) (Nat.le_refl 0) (Nat.le_refl 0) ⟨_, rfl, hf⟩ ⟨⟨_, rfl, rfl⟩, d_Sorter_lowestInLoop_29⟩
set_option maxRecDepth 100000 in
def wp_Sorter_lowestInLoop (z : Nat → Nat) (Q : Int32 → xh → Prop) (a0 : Nat) (a1 : Nat) (hp : xh) : Prop :=
  wp_Sorter_lowestInLoop_2 z Q a0 a1 1 hp
set_option maxRecDepth 100000 in
set_option maxHeartbeats 4000000 in
theorem t_Sorter_lowestInLoop {l : Launch} {G : xG} {z : Nat → Nat} {Q : Int32 → xh → Prop} {a0 : Nat} {a1 : Nat} {hp : xh} (hf : wp_Sorter_lowestInLoop z Q a0 a1 hp) : xM l G z y_Sorter_lowestInLoop b_Sorter_lowestInLoop 3 (some .int) rm_Sorter_lowestInLoop [.ref a0, .ref a1] hp (xqi Q) := by
  refine xM_of (by decide) (Nat.le_of_ble_eq_true rfl) (lv0 := [(0, .ref a0), (1, .ref a1)]) rfl ?_
  intro p e s m args below meth c A Qw X hret
  unfold wp_Sorter_lowestInLoop at hf
  refine x_iconst X (v := 1) d_Sorter_lowestInLoop_0 (by decide) 1 rfl ?_
  refine x_istore_n X (lv' := [(2, .int 1), (0, .ref a0), (1, .ref a1)]) d_Sorter_lowestInLoop_1 rfl (by decide) rfl 2 rfl ?_
  exact x_sub [1, 2, 0] rfl (t_Sorter_lowestInLoop_2 X hret hf)

set_option maxRecDepth 100000 in
def wp_Reader_sortAnds_34 (z : Nat → Nat) (Q : Int32 → xh → Prop)   (hp : xh) : Prop :=
  Q 1 hp
set_option maxRecDepth 100000 in
set_option maxHeartbeats 4000000 in
theorem t_Reader_sortAnds_34 {p : Program} {l : Launch} {e : Env} {s : State} {m : MethodId} {args : Array Value} {below : List Frame} {meth : Method} {c : Code} {G : xG} {z : Nat → Nat} {A : Nat → Prop} {Qw : State → Prop} {Q : Int32 → xh → Prop}  {hp : xh} (X : xX p l e rm_Reader_sortAnds s m args below meth c G z A y_Reader_sortAnds b_Reader_sortAnds 1) (hret : xRet p l e rm_Reader_sortAnds s m args below meth c G A 1 Qw b_Reader_sortAnds (some .boolean) (xqz Q))  (hf : wp_Reader_sortAnds_34 z Q  hp) : xE p l e rm_Reader_sortAnds s m args below meth c G A 1 Qw 0 0 hp 34 [] [] := by
  unfold wp_Reader_sortAnds_34 at hf
  refine x_iconst X (v := 1) d_Reader_sortAnds_34 (by decide) 35 rfl ?_
  refine x_goto X d_Reader_sortAnds_35 39 (by decide) ?_
  exact hret _ _ _ _ _ (some (.int 1)) (Nat.le_refl 0) (Nat.le_refl 0) ⟨_, rfl, (Or.inr rfl), hf⟩ ⟨⟨_, rfl, xbl_nar (Or.inr rfl)⟩, d_Reader_sortAnds_39⟩
set_option maxRecDepth 100000 in
def wp_Reader_sortAnds (z : Nat → Nat) (Q : Int32 → xh → Prop) (a0 : Nat) (hp : xh) : Prop :=
  ∃ o1, fR hp a0 5 1 = some o1 ∧ (∃ o2, fR hp a0 5 2 = some o2 ∧ (xcls hp o1 6 ∧ wp_Sorter_sort z (fun v4 h3 => (¬ v4 = 0 → wp_Reader_sortAnds_34 z Q h3) ∧ (v4 = 0 → (∃ o6, fR h3 a0 5 1 = some o6 ∧ (∃ o7, fR h3 a0 5 2 = some o7 ∧ (xcls h3 o6 6 ∧ wp_Sorter_lowestInLoop z (fun v9 h8 => xcls h8 a0 5 ∧ wp_Reader_fail z (fun v11 h10 => (v11 = 0 → Q 0 h10) ∧ (¬ v11 = 0 → wp_Reader_sortAnds_34 z Q h10)) a0 6 v9 h8) o6 o7 h3))))) o1 o2 hp))
set_option maxRecDepth 100000 in
set_option maxHeartbeats 4000000 in
theorem t_Reader_sortAnds {l : Launch} {G : xG} {z : Nat → Nat} {Q : Int32 → xh → Prop} {a0 : Nat} {hp : xh} (hf : wp_Reader_sortAnds z Q a0 hp) : xM l G z y_Reader_sortAnds b_Reader_sortAnds 1 (some .boolean) rm_Reader_sortAnds [.ref a0] hp (xqz Q) := by
  refine xM_of (by decide) (Nat.le_of_ble_eq_true rfl) (lv0 := [(0, .ref a0)]) rfl ?_
  intro p e s m args below meth c A Qw X hret
  unfold wp_Reader_sortAnds at hf
  refine x_aload_n X (q := 0) d_Reader_sortAnds_0 rfl 1 rfl ?_
  refine x_getR X hf (ci := 5) (j := 1) rfl (by decide) rfl lf_Reader_12 d_Reader_sortAnds_1 4 rfl (fun o1 hf => ?_)
  refine x_aload_n X (q := 0) d_Reader_sortAnds_4 rfl 5 rfl ?_
  refine x_getR X hf (ci := 5) (j := 2) rfl (by decide) rfl lf_Reader_21 d_Reader_sortAnds_5 8 rfl (fun o2 hf => ?_)
  refine x_callV0z X (t_Sorter_sort hf.2) hf.1 (ci := 6) rfl rfl lm_Reader_204 im_Sorter_sort sl_Sorter_sort cd_Sorter_sort in_Sorter ds_Sorter_sort rfl rfl (Nat.le_of_ble_eq_true rfl) (Nat.le_of_ble_eq_true rfl) (Nat.le_of_ble_eq_true rfl) rfl rfl (Nat.le_refl 0) (Nat.le_refl 0) d_Reader_sortAnds_8 11 rfl (fun v4 h3 hb5 hf => ?_)
  refine x_if_ne X hf d_Reader_sortAnds_11 34 14 (by decide) rfl (fun hf => ?_) (fun hf => ?_)
  · exact x_sub [] rfl (t_Reader_sortAnds_34 X hret hf)
  · refine x_aload_n X (q := 0) d_Reader_sortAnds_14 rfl 15 rfl ?_
    refine x_bipush X (v := 6) d_Reader_sortAnds_15 (by decide) 17 rfl ?_
    refine x_aload_n X (q := 0) d_Reader_sortAnds_17 rfl 18 rfl ?_
    refine x_getR X hf (ci := 5) (j := 1) rfl (by decide) rfl lf_Reader_12 d_Reader_sortAnds_18 21 rfl (fun o6 hf => ?_)
    refine x_aload_n X (q := 0) d_Reader_sortAnds_21 rfl 22 rfl ?_
    refine x_getR X hf (ci := 5) (j := 2) rfl (by decide) rfl lf_Reader_21 d_Reader_sortAnds_22 25 rfl (fun o7 hf => ?_)
    refine x_callV0i X (t_Sorter_lowestInLoop hf.2) hf.1 (ci := 6) rfl rfl lm_Reader_208 im_Sorter_lowestInLoop sl_Sorter_lowestInLoop cd_Sorter_lowestInLoop in_Sorter ds_Sorter_lowestInLoop rfl rfl (Nat.le_of_ble_eq_true rfl) (Nat.le_of_ble_eq_true rfl) (Nat.le_of_ble_eq_true rfl) rfl rfl (Nat.le_refl 0) (Nat.le_refl 0) d_Reader_sortAnds_25 28 rfl (fun v9 h8 hf => ?_)
    refine x_callV0z X (t_Reader_fail hf.2) hf.1 (ci := 5) rfl rfl lm_Reader_101 im_Reader_fail sl_Reader_fail cd_Reader_fail in_Reader ds_Reader_fail rfl rfl (Nat.le_of_ble_eq_true rfl) (Nat.le_of_ble_eq_true rfl) (Nat.le_of_ble_eq_true rfl) rfl rfl (Nat.le_refl 0) (Nat.le_refl 0) d_Reader_sortAnds_28 31 rfl (fun v11 h10 hb12 hf => ?_)
    refine x_if_eq X hf d_Reader_sortAnds_31 38 34 (by decide) rfl (fun hf => ?_) (fun hf => ?_)
    · refine x_iconst X (v := 0) d_Reader_sortAnds_38 (by decide) 39 rfl ?_
      exact hret _ _ _ _ _ (some (.int 0)) (Nat.le_refl 0) (Nat.le_refl 0) ⟨_, rfl, (Or.inl rfl), hf⟩ ⟨⟨_, rfl, xbl_nar (Or.inl rfl)⟩, d_Reader_sortAnds_39⟩
    · exact x_sub [] rfl (t_Reader_sortAnds_34 X hret hf)

set_option maxRecDepth 100000 in
def wp_Reader_readFile_119 (z : Nat → Nat) (Q : Int32 → xh → Prop)  (a0 : Nat) (s0 : Int32) (hp : xh) : Prop :=
  ∃ o1, fR hp a0 5 2 = some o1 ∧ (xbl s0 ∧ ∃ h2, pV hp o1 0 0 (.int s0) = some h2 ∧ (xbl s0 ∧ Q s0 h2))
set_option maxRecDepth 100000 in
set_option maxHeartbeats 4000000 in
theorem t_Reader_readFile_119 {p : Program} {l : Launch} {e : Env} {s : State} {m : MethodId} {args : Array Value} {below : List Frame} {meth : Method} {c : Code} {G : xG} {z : Nat → Nat} {A : Nat → Prop} {Qw : State → Prop} {Q : Int32 → xh → Prop} {a0 : Nat} {s0 : Int32} {hp : xh} (X : xX p l e rm_Reader_readFile s m args below meth c G z A y_Reader_readFile b_Reader_readFile 2) (hret : xRet p l e rm_Reader_readFile s m args below meth c G A 2 Qw b_Reader_readFile (some .boolean) (xqz Q))  (hf : wp_Reader_readFile_119 z Q  a0 s0 hp) : xE p l e rm_Reader_readFile s m args below meth c G A 2 Qw 0 0 hp 119 [(0, .ref a0)] [.int s0] := by
  unfold wp_Reader_readFile_119 at hf
  refine x_istore_n X (lv' := [(1, .int s0), (0, .ref a0)]) d_Reader_readFile_119 rfl (by decide) rfl 120 rfl ?_
  refine x_aload_n X (q := 1) d_Reader_readFile_120 rfl 121 rfl ?_
  refine x_getR X hf (ci := 5) (j := 2) rfl (by decide) rfl lf_Reader_21 d_Reader_readFile_121 124 rfl (fun o1 hf => ?_)
  refine x_iload_n X (q := 0) d_Reader_readFile_124 rfl 125 rfl ?_
  obtain ⟨hb, hf⟩ := hf
  refine x_put X hf (ci := 0) (j := 0) (ty := .boolean) rfl (by decide) rfl lf_Reader_93 rfl (by decide +kernel) (xbl_nar hb) (xbl_fit hb) d_Reader_readFile_125 128 rfl (fun h2 hf => ?_)
  refine x_iload_n X (q := 0) d_Reader_readFile_128 rfl 129 rfl ?_
  exact hret _ _ _ _ _ (some (.int s0)) (Nat.le_refl 0) (Nat.le_refl 0) ⟨_, rfl, hf.1, hf.2⟩ ⟨⟨_, rfl, xbl_nar hf.1⟩, d_Reader_readFile_129⟩
set_option maxRecDepth 100000 in
def wp_Reader_readFile_118 (z : Nat → Nat) (Q : Int32 → xh → Prop)  (a0 : Nat) (hp : xh) : Prop :=
  wp_Reader_readFile_119 z Q a0 0 hp
set_option maxRecDepth 100000 in
set_option maxHeartbeats 4000000 in
theorem t_Reader_readFile_118 {p : Program} {l : Launch} {e : Env} {s : State} {m : MethodId} {args : Array Value} {below : List Frame} {meth : Method} {c : Code} {G : xG} {z : Nat → Nat} {A : Nat → Prop} {Qw : State → Prop} {Q : Int32 → xh → Prop} {a0 : Nat} {hp : xh} (X : xX p l e rm_Reader_readFile s m args below meth c G z A y_Reader_readFile b_Reader_readFile 2) (hret : xRet p l e rm_Reader_readFile s m args below meth c G A 2 Qw b_Reader_readFile (some .boolean) (xqz Q))  (hf : wp_Reader_readFile_118 z Q  a0 hp) : xE p l e rm_Reader_readFile s m args below meth c G A 2 Qw 0 0 hp 118 [(0, .ref a0)] [] := by
  unfold wp_Reader_readFile_118 at hf
  refine x_iconst X (v := 0) d_Reader_readFile_118 (by decide) 119 rfl ?_
  exact x_sub [0] rfl (t_Reader_readFile_119 X hret hf)
set_option maxRecDepth 100000 in
def wp_Reader_readFile_93 (z : Nat → Nat) (Q : Int32 → xh → Prop)  (a0 : Nat) (hp : xh) : Prop :=
  xcls hp a0 5 ∧ wp_Reader_readSymbols z (fun v2 h1 => (v2 = 0 → wp_Reader_readFile_118 z Q a0 h1) ∧ (¬ v2 = 0 → (xcls h1 a0 5 ∧ wp_Reader_findUndefined z (fun v5 h4 => (v5 = 0 → wp_Reader_readFile_118 z Q a0 h4) ∧ (¬ v5 = 0 → (xcls h4 a0 5 ∧ wp_Reader_sortAnds z (fun v8 h7 => (v8 = 0 → wp_Reader_readFile_118 z Q a0 h7) ∧ (¬ v8 = 0 → wp_Reader_readFile_119 z Q a0 1 h7)) a0 h4))) a0 h1))) a0 hp
set_option maxRecDepth 100000 in
set_option maxHeartbeats 4000000 in
theorem t_Reader_readFile_93 {p : Program} {l : Launch} {e : Env} {s : State} {m : MethodId} {args : Array Value} {below : List Frame} {meth : Method} {c : Code} {G : xG} {z : Nat → Nat} {A : Nat → Prop} {Qw : State → Prop} {Q : Int32 → xh → Prop} {a0 : Nat} {hp : xh} (X : xX p l e rm_Reader_readFile s m args below meth c G z A y_Reader_readFile b_Reader_readFile 2) (hret : xRet p l e rm_Reader_readFile s m args below meth c G A 2 Qw b_Reader_readFile (some .boolean) (xqz Q))  (hf : wp_Reader_readFile_93 z Q  a0 hp) : xE p l e rm_Reader_readFile s m args below meth c G A 2 Qw 0 0 hp 93 [(0, .ref a0)] [] := by
  unfold wp_Reader_readFile_93 at hf
  refine x_aload_n X (q := 0) d_Reader_readFile_93 rfl 94 rfl ?_
  refine x_callV0z X (t_Reader_readSymbols hf.2) hf.1 (ci := 5) rfl rfl lm_Reader_84 im_Reader_readSymbols sl_Reader_readSymbols cd_Reader_readSymbols in_Reader ds_Reader_readSymbols rfl rfl (Nat.le_of_ble_eq_true rfl) (Nat.le_of_ble_eq_true rfl) (Nat.le_of_ble_eq_true rfl) rfl rfl (Nat.le_refl 0) (Nat.le_refl 0) d_Reader_readFile_94 97 rfl (fun v2 h1 hb3 hf => ?_)
  refine x_if_eq X hf d_Reader_readFile_97 118 100 (by decide) rfl (fun hf => ?_) (fun hf => ?_)
  · exact x_sub [0] rfl (t_Reader_readFile_118 X hret hf)
  · refine x_aload_n X (q := 0) d_Reader_readFile_100 rfl 101 rfl ?_
    refine x_callV0z X (t_Reader_findUndefined hf.2) hf.1 (ci := 5) rfl rfl lm_Reader_87 im_Reader_findUndefined sl_Reader_findUndefined cd_Reader_findUndefined in_Reader ds_Reader_findUndefined rfl rfl (Nat.le_of_ble_eq_true rfl) (Nat.le_of_ble_eq_true rfl) (Nat.le_of_ble_eq_true rfl) rfl rfl (Nat.le_refl 0) (Nat.le_refl 0) d_Reader_readFile_101 104 rfl (fun v5 h4 hb6 hf => ?_)
    refine x_if_eq X hf d_Reader_readFile_104 118 107 (by decide) rfl (fun hf => ?_) (fun hf => ?_)
    · exact x_sub [0] rfl (t_Reader_readFile_118 X hret hf)
    · refine x_aload_n X (q := 0) d_Reader_readFile_107 rfl 108 rfl ?_
      refine x_callV0z X (t_Reader_sortAnds hf.2) hf.1 (ci := 5) rfl rfl lm_Reader_90 im_Reader_sortAnds sl_Reader_sortAnds cd_Reader_sortAnds in_Reader ds_Reader_sortAnds rfl rfl (Nat.le_of_ble_eq_true rfl) (Nat.le_of_ble_eq_true rfl) (Nat.le_of_ble_eq_true rfl) rfl rfl (Nat.le_refl 0) (Nat.le_refl 0) d_Reader_readFile_108 111 rfl (fun v8 h7 hb9 hf => ?_)
      refine x_if_eq X hf d_Reader_readFile_111 118 114 (by decide) rfl (fun hf => ?_) (fun hf => ?_)
      · exact x_sub [0] rfl (t_Reader_readFile_118 X hret hf)
      · refine x_iconst X (v := 1) d_Reader_readFile_114 (by decide) 115 rfl ?_
        refine x_goto X d_Reader_readFile_115 119 (by decide) ?_
        exact x_sub [0] rfl (t_Reader_readFile_119 X hret hf)
set_option maxRecDepth 100000 in
def wp_Reader_readFile_55 (z : Nat → Nat) (Q : Int32 → xh → Prop)  (a0 : Nat) (hp : xh) : Prop :=
  xcls hp a0 5 ∧ wp_Reader_readLatches z (fun v2 h1 => (v2 = 0 → wp_Reader_readFile_118 z Q a0 h1) ∧ (¬ v2 = 0 → (xcls h1 a0 5 ∧ wp_Reader_readOutputs z (fun v5 h4 => (v5 = 0 → wp_Reader_readFile_118 z Q a0 h4) ∧ (¬ v5 = 0 → (∃ v7, fI h4 a0 5 7 = some v7 ∧ ((v7 = 0 → (xcls h4 a0 5 ∧ wp_Reader_readAnds z (fun v9 h8 => (v9 = 0 → wp_Reader_readFile_118 z Q a0 h8) ∧ (¬ v9 = 0 → wp_Reader_readFile_93 z Q a0 h8)) a0 h4)) ∧ (¬ v7 = 0 → (xcls h4 a0 5 ∧ wp_Reader_readDeltas z (fun v12 h11 => (v12 = 0 → wp_Reader_readFile_118 z Q a0 h11) ∧ (¬ v12 = 0 → wp_Reader_readFile_93 z Q a0 h11)) a0 h4)))))) a0 h1))) a0 hp
set_option maxRecDepth 100000 in
set_option maxHeartbeats 4000000 in
theorem t_Reader_readFile_55 {p : Program} {l : Launch} {e : Env} {s : State} {m : MethodId} {args : Array Value} {below : List Frame} {meth : Method} {c : Code} {G : xG} {z : Nat → Nat} {A : Nat → Prop} {Qw : State → Prop} {Q : Int32 → xh → Prop} {a0 : Nat} {hp : xh} (X : xX p l e rm_Reader_readFile s m args below meth c G z A y_Reader_readFile b_Reader_readFile 2) (hret : xRet p l e rm_Reader_readFile s m args below meth c G A 2 Qw b_Reader_readFile (some .boolean) (xqz Q))  (hf : wp_Reader_readFile_55 z Q  a0 hp) : xE p l e rm_Reader_readFile s m args below meth c G A 2 Qw 0 0 hp 55 [(0, .ref a0)] [] := by
  unfold wp_Reader_readFile_55 at hf
  refine x_aload_n X (q := 0) d_Reader_readFile_55 rfl 56 rfl ?_
  refine x_callV0z X (t_Reader_readLatches hf.2) hf.1 (ci := 5) rfl rfl lm_Reader_72 im_Reader_readLatches sl_Reader_readLatches cd_Reader_readLatches in_Reader ds_Reader_readLatches rfl rfl (Nat.le_of_ble_eq_true rfl) (Nat.le_of_ble_eq_true rfl) (Nat.le_of_ble_eq_true rfl) rfl rfl (Nat.le_refl 0) (Nat.le_refl 0) d_Reader_readFile_56 59 rfl (fun v2 h1 hb3 hf => ?_)
  refine x_if_eq X hf d_Reader_readFile_59 118 62 (by decide) rfl (fun hf => ?_) (fun hf => ?_)
  · exact x_sub [0] rfl (t_Reader_readFile_118 X hret hf)
  · refine x_aload_n X (q := 0) d_Reader_readFile_62 rfl 63 rfl ?_
    refine x_callV0z X (t_Reader_readOutputs hf.2) hf.1 (ci := 5) rfl rfl lm_Reader_75 im_Reader_readOutputs sl_Reader_readOutputs cd_Reader_readOutputs in_Reader ds_Reader_readOutputs rfl rfl (Nat.le_of_ble_eq_true rfl) (Nat.le_of_ble_eq_true rfl) (Nat.le_of_ble_eq_true rfl) rfl rfl (Nat.le_refl 0) (Nat.le_refl 0) d_Reader_readFile_63 66 rfl (fun v5 h4 hb6 hf => ?_)
    refine x_if_eq X hf d_Reader_readFile_66 118 69 (by decide) rfl (fun hf => ?_) (fun hf => ?_)
    · exact x_sub [0] rfl (t_Reader_readFile_118 X hret hf)
    · refine x_aload_n X (q := 0) d_Reader_readFile_69 rfl 70 rfl ?_
      refine x_getI X hf (ci := 5) (j := 7) rfl (by decide) rfl lf_Reader_62 d_Reader_readFile_70 73 rfl (fun v7 hf => ?_)
      refine x_if_eq X hf d_Reader_readFile_73 86 76 (by decide) rfl (fun hf => ?_) (fun hf => ?_)
      · refine x_aload_n X (q := 0) d_Reader_readFile_86 rfl 87 rfl ?_
        refine x_callV0z X (t_Reader_readAnds hf.2) hf.1 (ci := 5) rfl rfl lm_Reader_81 im_Reader_readAnds sl_Reader_readAnds cd_Reader_readAnds in_Reader ds_Reader_readAnds rfl rfl (Nat.le_of_ble_eq_true rfl) (Nat.le_of_ble_eq_true rfl) (Nat.le_of_ble_eq_true rfl) rfl rfl (Nat.le_refl 0) (Nat.le_refl 0) d_Reader_readFile_87 90 rfl (fun v9 h8 hb10 hf => ?_)
        refine x_if_eq X hf d_Reader_readFile_90 118 93 (by decide) rfl (fun hf => ?_) (fun hf => ?_)
        · exact x_sub [0] rfl (t_Reader_readFile_118 X hret hf)
        · exact x_sub [0] rfl (t_Reader_readFile_93 X hret hf)
      · refine x_aload_n X (q := 0) d_Reader_readFile_76 rfl 77 rfl ?_
        refine x_callV0z X (t_Reader_readDeltas hf.2) hf.1 (ci := 5) rfl rfl lm_Reader_78 im_Reader_readDeltas sl_Reader_readDeltas cd_Reader_readDeltas in_Reader ds_Reader_readDeltas rfl rfl (Nat.le_of_ble_eq_true rfl) (Nat.le_of_ble_eq_true rfl) (Nat.le_of_ble_eq_true rfl) rfl rfl (Nat.le_refl 0) (Nat.le_refl 0) d_Reader_readFile_77 80 rfl (fun v12 h11 hb13 hf => ?_)
        refine x_if_eq X hf d_Reader_readFile_80 118 83 (by decide) rfl (fun hf => ?_) (fun hf => ?_)
        · exact x_sub [0] rfl (t_Reader_readFile_118 X hret hf)
        · refine x_goto X d_Reader_readFile_83 93 (by decide) ?_
          exact x_sub [0] rfl (t_Reader_readFile_93 X hret hf)
set_option maxRecDepth 100000 in
def wp_Reader_readFile (z : Nat → Nat) (Q : Int32 → xh → Prop) (a0 : Nat) (hp : xh) : Prop :=
  ∃ h1, pV hp a0 5 8 (.int 0) = some h1 ∧ (∃ h2, pV h1 a0 5 6 (.int 0) = some h2 ∧ (∃ o3, fR h2 a0 5 2 = some o3 ∧ (xcls h2 o3 0 ∧ wp_Circuit_clear z (fun h4 => xcls h4 a0 5 ∧ wp_Reader_readHeader z (fun v6 h5 => (v6 = 0 → wp_Reader_readFile_118 z Q a0 h5) ∧ (¬ v6 = 0 → (xcls h5 a0 5 ∧ wp_Reader_keepSizes z (fun v9 h8 => (v9 = 0 → wp_Reader_readFile_118 z Q a0 h8) ∧ (¬ v9 = 0 → (∃ v11, fI h8 a0 5 7 = some v11 ∧ ((v11 = 0 → (xcls h8 a0 5 ∧ wp_Reader_readInputs z (fun v13 h12 => (v13 = 0 → wp_Reader_readFile_118 z Q a0 h12) ∧ (¬ v13 = 0 → wp_Reader_readFile_55 z Q a0 h12)) a0 h8)) ∧ (¬ v11 = 0 → (xcls h8 a0 5 ∧ wp_Reader_defineInOrder z (fun v16 h15 => (v16 = 0 → wp_Reader_readFile_118 z Q a0 h15) ∧ (¬ v16 = 0 → wp_Reader_readFile_55 z Q a0 h15)) a0 h8)))))) a0 h5))) a0 h4) o3 h2)))
set_option maxRecDepth 100000 in
set_option maxHeartbeats 4000000 in
theorem t_Reader_readFile {l : Launch} {G : xG} {z : Nat → Nat} {Q : Int32 → xh → Prop} {a0 : Nat} {hp : xh} (hf : wp_Reader_readFile z Q a0 hp) : xM l G z y_Reader_readFile b_Reader_readFile 2 (some .boolean) rm_Reader_readFile [.ref a0] hp (xqz Q) := by
  refine xM_of (by decide) (Nat.le_of_ble_eq_true rfl) (lv0 := [(0, .ref a0)]) rfl ?_
  intro p e s m args below meth c A Qw X hret
  unfold wp_Reader_readFile at hf
  refine x_aload_n X (q := 0) d_Reader_readFile_0 rfl 1 rfl ?_
  refine x_iconst X (v := 0) d_Reader_readFile_1 (by decide) 2 rfl ?_
  refine x_put X hf (ci := 5) (j := 8) (ty := .int) rfl (by decide) rfl lf_Reader_46 rfl (by decide +kernel) rfl rfl d_Reader_readFile_2 5 rfl (fun h1 hf => ?_)
  refine x_aload_n X (q := 0) d_Reader_readFile_5 rfl 6 rfl ?_
  refine x_iconst X (v := 0) d_Reader_readFile_6 (by decide) 7 rfl ?_
  refine x_put X hf (ci := 5) (j := 6) (ty := .int) rfl (by decide) rfl lf_Reader_49 rfl (by decide +kernel) rfl rfl d_Reader_readFile_7 10 rfl (fun h2 hf => ?_)
  refine x_aload_n X (q := 0) d_Reader_readFile_10 rfl 11 rfl ?_
  refine x_getR X hf (ci := 5) (j := 2) rfl (by decide) rfl lf_Reader_21 d_Reader_readFile_11 14 rfl (fun o3 hf => ?_)
  refine x_callV0v X (t_Circuit_clear hf.2) hf.1 (ci := 0) rfl rfl lm_Reader_52 im_Circuit_clear sl_Circuit_clear cd_Circuit_clear in_Circuit ds_Circuit_clear rfl rfl (Nat.le_of_ble_eq_true rfl) (Nat.le_of_ble_eq_true rfl) (Nat.le_of_ble_eq_true rfl) rfl rfl (Nat.le_refl 0) (Nat.le_refl 0) d_Reader_readFile_14 17 rfl (fun h4 hf => ?_)
  refine x_aload_n X (q := 0) d_Reader_readFile_17 rfl 18 rfl ?_
  refine x_callV0z X (t_Reader_readHeader hf.2) hf.1 (ci := 5) rfl rfl lm_Reader_55 im_Reader_readHeader sl_Reader_readHeader cd_Reader_readHeader in_Reader ds_Reader_readHeader rfl rfl (Nat.le_of_ble_eq_true rfl) (Nat.le_of_ble_eq_true rfl) (Nat.le_of_ble_eq_true rfl) rfl rfl (Nat.le_refl 0) (Nat.le_refl 0) d_Reader_readFile_18 21 rfl (fun v6 h5 hb7 hf => ?_)
  refine x_if_eq X hf d_Reader_readFile_21 118 24 (by decide) rfl (fun hf => ?_) (fun hf => ?_)
  · exact x_sub [0] rfl (t_Reader_readFile_118 X hret hf)
  · refine x_aload_n X (q := 0) d_Reader_readFile_24 rfl 25 rfl ?_
    refine x_callV0z X (t_Reader_keepSizes hf.2) hf.1 (ci := 5) rfl rfl lm_Reader_59 im_Reader_keepSizes sl_Reader_keepSizes cd_Reader_keepSizes in_Reader ds_Reader_keepSizes rfl rfl (Nat.le_of_ble_eq_true rfl) (Nat.le_of_ble_eq_true rfl) (Nat.le_of_ble_eq_true rfl) rfl rfl (Nat.le_refl 0) (Nat.le_refl 0) d_Reader_readFile_25 28 rfl (fun v9 h8 hb10 hf => ?_)
    refine x_if_eq X hf d_Reader_readFile_28 118 31 (by decide) rfl (fun hf => ?_) (fun hf => ?_)
    · exact x_sub [0] rfl (t_Reader_readFile_118 X hret hf)
    · refine x_aload_n X (q := 0) d_Reader_readFile_31 rfl 32 rfl ?_
      refine x_getI X hf (ci := 5) (j := 7) rfl (by decide) rfl lf_Reader_62 d_Reader_readFile_32 35 rfl (fun v11 hf => ?_)
      refine x_if_eq X hf d_Reader_readFile_35 48 38 (by decide) rfl (fun hf => ?_) (fun hf => ?_)
      · refine x_aload_n X (q := 0) d_Reader_readFile_48 rfl 49 rfl ?_
        refine x_callV0z X (t_Reader_readInputs hf.2) hf.1 (ci := 5) rfl rfl lm_Reader_69 im_Reader_readInputs sl_Reader_readInputs cd_Reader_readInputs in_Reader ds_Reader_readInputs rfl rfl (Nat.le_of_ble_eq_true rfl) (Nat.le_of_ble_eq_true rfl) (Nat.le_of_ble_eq_true rfl) rfl rfl (Nat.le_refl 0) (Nat.le_refl 0) d_Reader_readFile_49 52 rfl (fun v13 h12 hb14 hf => ?_)
        refine x_if_eq X hf d_Reader_readFile_52 118 55 (by decide) rfl (fun hf => ?_) (fun hf => ?_)
        · exact x_sub [0] rfl (t_Reader_readFile_118 X hret hf)
        · exact x_sub [0] rfl (t_Reader_readFile_55 X hret hf)
      · refine x_aload_n X (q := 0) d_Reader_readFile_38 rfl 39 rfl ?_
        refine x_callV0z X (t_Reader_defineInOrder hf.2) hf.1 (ci := 5) rfl rfl lm_Reader_66 im_Reader_defineInOrder sl_Reader_defineInOrder cd_Reader_defineInOrder in_Reader ds_Reader_defineInOrder rfl rfl (Nat.le_of_ble_eq_true rfl) (Nat.le_of_ble_eq_true rfl) (Nat.le_of_ble_eq_true rfl) rfl rfl (Nat.le_refl 0) (Nat.le_refl 0) d_Reader_readFile_39 42 rfl (fun v16 h15 hb17 hf => ?_)
        refine x_if_eq X hf d_Reader_readFile_42 118 45 (by decide) rfl (fun hf => ?_) (fun hf => ?_)
        · exact x_sub [0] rfl (t_Reader_readFile_118 X hret hf)
        · refine x_goto X d_Reader_readFile_45 55 (by decide) ?_
          exact x_sub [0] rfl (t_Reader_readFile_55 X hret hf)

set_option maxRecDepth 100000 in
def wp_Reader_exchange (z : Nat → Nat) (Q : Nat → xh → Prop) (a0 : Nat) (a1 : Nat) (hp : xh) : Prop :=
  ∃ o1, fR hp a0 5 2 = some o1 ∧ (∃ h2, pV hp a0 5 2 (.ref a1) = some h2 ∧ Q o1 h2)
set_option maxRecDepth 100000 in
set_option maxHeartbeats 4000000 in
theorem t_Reader_exchange {l : Launch} {G : xG} {z : Nat → Nat} {Q : Nat → xh → Prop} {a0 : Nat} {a1 : Nat} {hp : xh} (hf : wp_Reader_exchange z Q a0 a1 hp) : xM l G z y_Reader_exchange b_Reader_exchange 3 (some (.object "TwinJudge$Circuit")) rm_Reader_exchange [.ref a0, .ref a1] hp (xqr Q) := by
  refine xM_of (by decide) (Nat.le_of_ble_eq_true rfl) (lv0 := [(0, .ref a0), (1, .ref a1)]) rfl ?_
  intro p e s m args below meth c A Qw X hret
  unfold wp_Reader_exchange at hf
  refine x_aload_n X (q := 0) d_Reader_exchange_0 rfl 1 rfl ?_
  refine x_getR X hf (ci := 5) (j := 2) rfl (by decide) rfl lf_Reader_21 d_Reader_exchange_1 4 rfl (fun o1 hf => ?_)
  refine x_astore_n X (lv' := [(2, .ref o1), (0, .ref a0), (1, .ref a1)]) d_Reader_exchange_4 rfl (by decide) rfl 5 rfl ?_
  refine x_aload_n X (q := 1) d_Reader_exchange_5 rfl 6 rfl ?_
  refine x_aload_n X (q := 2) d_Reader_exchange_6 rfl 7 rfl ?_
  refine x_put X hf (ci := 5) (j := 2) (ty := (.object "TwinJudge$Circuit")) rfl (by decide) rfl lf_Reader_21 rfl (by decide +kernel) rfl rfl d_Reader_exchange_7 10 rfl (fun h2 hf => ?_)
  refine x_aload_n X (q := 0) d_Reader_exchange_10 rfl 11 rfl ?_
  exact hret _ _ _ _ _ (some (.ref o1)) (Nat.le_refl 0) (Nat.le_refl 0) ⟨_, rfl, hf⟩ ⟨⟨_, rfl, Or.inl ⟨_, rfl⟩⟩, d_Reader_exchange_11⟩

set_option maxRecDepth 100000 in
def wp_Player_rest (z : Nat → Nat) (Q : xh → Prop) (a0 : Nat) (hp : xh) : Prop :=
  ∃ o1, fR hp a0 4 1 = some o1 ∧ (wp_Arrays_fill1 z (fun h2 => Q h2) o1 0 hp)
set_option maxRecDepth 100000 in
set_option maxHeartbeats 4000000 in
theorem t_Player_rest {l : Launch} {G : xG} {z : Nat → Nat} {Q : xh → Prop} {a0 : Nat} {hp : xh} (hf : wp_Player_rest z Q a0 hp) : xM l G z y_Player_rest b_Player_rest 1 none rm_Player_rest [.ref a0] hp (xqv Q) := by
  refine xM_of (by decide) (Nat.le_of_ble_eq_true rfl) (lv0 := [(0, .ref a0)]) rfl ?_
  intro p e s m args below meth c A Qw X hret
  unfold wp_Player_rest at hf
  refine x_aload_n X (q := 0) d_Player_rest_0 rfl 1 rfl ?_
  refine x_getR X hf (ci := 4) (j := 1) rfl (by decide) rfl lf_Player_9 d_Player_rest_1 4 rfl (fun o1 hf => ?_)
  refine x_iconst X (v := 0) d_Player_rest_4 (by decide) 5 rfl ?_
  refine x_callS0v X (t_Arrays_fill1 hf) lm_Player_25 im_Arrays_fill1 cd_Arrays_fill1 in_Arrays ds_Arrays_fill1 rfl rfl (Nat.le_of_ble_eq_true rfl) (Nat.le_of_ble_eq_true rfl) (Nat.le_of_ble_eq_true rfl) rfl rfl (Nat.le_refl 0) (Nat.le_refl 0) d_Player_rest_5 8 rfl (fun h2 hf => ?_)
  exact hret _ _ _ _ _ none (Nat.le_refl 0) (Nat.le_refl 0) ⟨rfl, hf⟩ ⟨rfl, d_Player_rest_8⟩

set_option maxRecDepth 100000 in
def wp_Works_forget (z : Nat → Nat) (Q : xh → Prop) (a0 : Nat) (hp : xh) : Prop :=
  ∃ h1, pV hp a0 10 7 (.int 0) = some h1 ∧ (∃ h2, pV h1 a0 10 8 (.int 0) = some h2 ∧ (∃ h3, pV h2 a0 10 9 (.int 0) = some h3 ∧ Q h3))
set_option maxRecDepth 100000 in
set_option maxHeartbeats 4000000 in
theorem t_Works_forget {l : Launch} {G : xG} {z : Nat → Nat} {Q : xh → Prop} {a0 : Nat} {hp : xh} (hf : wp_Works_forget z Q a0 hp) : xM l G z y_Works_forget b_Works_forget 1 none rm_Works_forget [.ref a0] hp (xqv Q) := by
  refine xM_of (by decide) (Nat.le_of_ble_eq_true rfl) (lv0 := [(0, .ref a0)]) rfl ?_
  intro p e s m args below meth c A Qw X hret
  unfold wp_Works_forget at hf
  refine x_aload_n X (q := 0) d_Works_forget_0 rfl 1 rfl ?_
  refine x_iconst X (v := 0) d_Works_forget_1 (by decide) 2 rfl ?_
  refine x_put X hf (ci := 10) (j := 7) (ty := .boolean) rfl (by decide) rfl lf_Works_61 rfl (by decide +kernel) (xbl_nar (Or.inl rfl)) (xbl_fit (Or.inl rfl)) d_Works_forget_2 5 rfl (fun h1 hf => ?_)
  refine x_aload_n X (q := 0) d_Works_forget_5 rfl 6 rfl ?_
  refine x_iconst X (v := 0) d_Works_forget_6 (by decide) 7 rfl ?_
  refine x_put X hf (ci := 10) (j := 8) (ty := .boolean) rfl (by decide) rfl lf_Works_65 rfl (by decide +kernel) (xbl_nar (Or.inl rfl)) (xbl_fit (Or.inl rfl)) d_Works_forget_7 10 rfl (fun h2 hf => ?_)
  refine x_aload_n X (q := 0) d_Works_forget_10 rfl 11 rfl ?_
  refine x_iconst X (v := 0) d_Works_forget_11 (by decide) 12 rfl ?_
  refine x_put X hf (ci := 10) (j := 9) (ty := .boolean) rfl (by decide) rfl lf_Works_68 rfl (by decide +kernel) (xbl_nar (Or.inl rfl)) (xbl_fit (Or.inl rfl)) d_Works_forget_12 15 rfl (fun h3 hf => ?_)
  exact hret _ _ _ _ _ none (Nat.le_refl 0) (Nat.le_refl 0) ⟨rfl, hf⟩ ⟨rfl, d_Works_forget_15⟩

set_option maxRecDepth 100000 in
def wp_Judge_fault (z : Nat → Nat) (Q : Int32 → xh → Prop) (a0 : Nat) (x1 : Int32) (hp : xh) : Prop :=
  (x1 = 0 → (∃ o1, fR hp a0 11 1 = some o1 ∧ (∃ v2, fI hp o1 5 11 = some v2 ∧ Q v2 hp))) ∧ (¬ x1 = 0 → ((x1 = 1 → (∃ o3, fR hp a0 11 1 = some o3 ∧ (∃ v4, fI hp o3 5 12 = some v4 ∧ Q v4 hp))) ∧ (¬ x1 = 1 → (Q (-1) hp))))
set_option maxRecDepth 100000 in
set_option maxHeartbeats 4000000 in
theorem t_Judge_fault {l : Launch} {G : xG} {z : Nat → Nat} {Q : Int32 → xh → Prop} {a0 : Nat} {x1 : Int32} {hp : xh} (hf : wp_Judge_fault z Q a0 x1 hp) : xM l G z y_Judge_fault b_Judge_fault 2 (some .int) rm_Judge_fault [.ref a0, .int x1] hp (xqi Q) := by
  refine xM_of (by decide) (Nat.le_of_ble_eq_true rfl) (lv0 := [(0, .ref a0), (1, .int x1)]) rfl ?_
  intro p e s m args below meth c A Qw X hret
  unfold wp_Judge_fault at hf
  refine x_iload_n X (q := 1) d_Judge_fault_0 rfl 1 rfl ?_
  refine x_ite hf (fun hx0 hf => ?_) (fun hx0 hf => ?_)
  · refine x_lsw X (off := 27) d_Judge_fault_1 (by decide) (by rw [hx0] <;> rfl) 28 (by decide) ?_
    refine x_aload_n X (q := 0) d_Judge_fault_28 rfl 29 rfl ?_
    refine x_getR X hf (ci := 11) (j := 1) rfl (by decide) rfl lf_Judge_21 d_Judge_fault_29 32 rfl (fun o1 hf => ?_)
    refine x_getI X hf (ci := 5) (j := 11) rfl (by decide) rfl lf_Judge_90 d_Judge_fault_32 35 rfl (fun v2 hf => ?_)
    exact hret _ _ _ _ _ (some (.int v2)) (Nat.le_refl 0) (Nat.le_refl 0) ⟨_, rfl, hf⟩ ⟨⟨_, rfl, rfl⟩, d_Judge_fault_35⟩
  refine x_ite hf (fun hx1 hf => ?_) (fun hx1 hf => ?_)
  · refine x_lsw X (off := 35) d_Judge_fault_1 (by decide) (by rw [hx1] <;> rfl) 36 (by decide) ?_
    refine x_aload_n X (q := 0) d_Judge_fault_36 rfl 37 rfl ?_
    refine x_getR X hf (ci := 11) (j := 1) rfl (by decide) rfl lf_Judge_21 d_Judge_fault_37 40 rfl (fun o3 hf => ?_)
    refine x_getI X hf (ci := 5) (j := 12) rfl (by decide) rfl lf_Judge_93 d_Judge_fault_40 43 rfl (fun v4 hf => ?_)
    exact hret _ _ _ _ _ (some (.int v4)) (Nat.le_refl 0) (Nat.le_refl 0) ⟨_, rfl, hf⟩ ⟨⟨_, rfl, rfl⟩, d_Judge_fault_43⟩
  refine x_lsw X (off := 43) d_Judge_fault_1 (by decide) (by show Op.lookupswitch.offset [(0, 27), (1, 35)] 43 _ = _; rw [lv_osw hx0 (by decide : (0 : Int32).toInt = (0 : Int)), lv_osw hx1 (by decide : (1 : Int32).toInt = (1 : Int))] <;> rfl) 44 (by decide) ?_
  refine x_iconst X (v := (-1)) d_Judge_fault_44 (by decide) 45 rfl ?_
  exact hret _ _ _ _ _ (some (.int (-1))) (Nat.le_refl 0) (Nat.le_refl 0) ⟨_, rfl, hf⟩ ⟨⟨_, rfl, rfl⟩, d_Judge_fault_45⟩

set_option maxRecDepth 100000 in
def wp_Judge_isThere (z : Nat → Nat) (Q : Int32 → xh → Prop) (a0 : Nat) (x1 : Int32) (hp : xh) : Prop :=
  wp_Judge_isCircuit z (fun v2 h1 => (v2 = 0 → Q 0 h1) ∧ (¬ v2 = 0 → (∃ o4, fR h1 a0 11 2 = some o4 ∧ (∃ o5, aR h1 o4 5 x1 = some o5 ∧ (∃ v6, fI h1 o5 0 0 = some v6 ∧ ((v6 = 0 → Q 0 h1) ∧ (¬ v6 = 0 → Q 1 h1))))))) x1 hp
set_option maxRecDepth 100000 in
set_option maxHeartbeats 4000000 in
theorem t_Judge_isThere {l : Launch} {G : xG} {z : Nat → Nat} {Q : Int32 → xh → Prop} {a0 : Nat} {x1 : Int32} {hp : xh} (hf : wp_Judge_isThere z Q a0 x1 hp) : xM l G z y_Judge_isThere b_Judge_isThere 2 (some .boolean) rm_Judge_isThere [.ref a0, .int x1] hp (xqz Q) := by
  refine xM_of (by decide) (Nat.le_of_ble_eq_true rfl) (lv0 := [(0, .ref a0), (1, .int x1)]) rfl ?_
  intro p e s m args below meth c A Qw X hret
  unfold wp_Judge_isThere at hf
  refine x_iload_n X (q := 1) d_Judge_isThere_0 rfl 1 rfl ?_
  refine x_callS0z X (t_Judge_isCircuit hf) lm_Judge_52 im_Judge_isCircuit cd_Judge_isCircuit in_Judge ds_Judge_isCircuit rfl rfl (Nat.le_of_ble_eq_true rfl) (Nat.le_of_ble_eq_true rfl) (Nat.le_of_ble_eq_true rfl) rfl rfl (Nat.le_refl 0) (Nat.le_refl 0) d_Judge_isThere_1 4 rfl (fun v2 h1 hb3 hf => ?_)
  refine x_if_eq X hf d_Judge_isThere_4 23 7 (by decide) rfl (fun hf => ?_) (fun hf => ?_)
  · refine x_iconst X (v := 0) d_Judge_isThere_23 (by decide) 24 rfl ?_
    exact hret _ _ _ _ _ (some (.int 0)) (Nat.le_refl 0) (Nat.le_refl 0) ⟨_, rfl, (Or.inl rfl), hf⟩ ⟨⟨_, rfl, xbl_nar (Or.inl rfl)⟩, d_Judge_isThere_24⟩
  · refine x_aload_n X (q := 0) d_Judge_isThere_7 rfl 8 rfl ?_
    refine x_getR X hf (ci := 11) (j := 2) rfl (by decide) rfl lf_Judge_27 d_Judge_isThere_8 11 rfl (fun o4 hf => ?_)
    refine x_iload_n X (q := 1) d_Judge_isThere_11 rfl 12 rfl ?_
    refine x_aald X hf (t := 5) rfl d_Judge_isThere_12 13 rfl (fun o5 hf => ?_)
    refine x_getI X hf (ci := 0) (j := 0) rfl (by decide) rfl lf_Judge_180 d_Judge_isThere_13 16 rfl (fun v6 hf => ?_)
    refine x_if_eq X hf d_Judge_isThere_16 23 19 (by decide) rfl (fun hf => ?_) (fun hf => ?_)
    · refine x_iconst X (v := 0) d_Judge_isThere_23 (by decide) 24 rfl ?_
      exact hret _ _ _ _ _ (some (.int 0)) (Nat.le_refl 0) (Nat.le_refl 0) ⟨_, rfl, (Or.inl rfl), hf⟩ ⟨⟨_, rfl, xbl_nar (Or.inl rfl)⟩, d_Judge_isThere_24⟩
    · refine x_iconst X (v := 1) d_Judge_isThere_19 (by decide) 20 rfl ?_
      refine x_goto X d_Judge_isThere_20 24 (by decide) ?_
      exact hret _ _ _ _ _ (some (.int 1)) (Nat.le_refl 0) (Nat.le_refl 0) ⟨_, rfl, (Or.inr rfl), hf⟩ ⟨⟨_, rfl, xbl_nar (Or.inr rfl)⟩, d_Judge_isThere_24⟩

set_option maxRecDepth 100000 in
def wp_Judge_many (z : Nat → Nat) (Q : Int32 → xh → Prop) (a0 : Nat) (x1 : Int32) (x2 : Int32) (hp : xh) : Prop :=
  xcls hp a0 11 ∧ wp_Judge_isThere z (fun v2 h1 => (v2 = 0 → (Q (-1) h1)) ∧ (¬ v2 = 0 → (∃ o4, fR h1 a0 11 2 = some o4 ∧ (∃ o5, aR h1 o4 5 x1 = some o5 ∧ (xcls h1 o5 0 ∧ wp_Circuit_size z (fun v7 h6 => Q v7 h6) o5 x2 h1))))) a0 x1 hp
set_option maxRecDepth 100000 in
set_option maxHeartbeats 4000000 in
theorem t_Judge_many {l : Launch} {G : xG} {z : Nat → Nat} {Q : Int32 → xh → Prop} {a0 : Nat} {x1 : Int32} {x2 : Int32} {hp : xh} (hf : wp_Judge_many z Q a0 x1 x2 hp) : xM l G z y_Judge_many b_Judge_many 3 (some .int) rm_Judge_many [.ref a0, .int x1, .int x2] hp (xqi Q) := by
  refine xM_of (by decide) (Nat.le_of_ble_eq_true rfl) (lv0 := [(0, .ref a0), (1, .int x1), (2, .int x2)]) rfl ?_
  intro p e s m args below meth c A Qw X hret
  unfold wp_Judge_many at hf
  refine x_aload_n X (q := 0) d_Judge_many_0 rfl 1 rfl ?_
  refine x_iload_n X (q := 1) d_Judge_many_1 rfl 2 rfl ?_
  refine x_callV0z X (t_Judge_isThere hf.2) hf.1 (ci := 11) rfl rfl lm_Judge_96 im_Judge_isThere sl_Judge_isThere cd_Judge_isThere in_Judge ds_Judge_isThere rfl rfl (Nat.le_of_ble_eq_true rfl) (Nat.le_of_ble_eq_true rfl) (Nat.le_of_ble_eq_true rfl) rfl rfl (Nat.le_refl 0) (Nat.le_refl 0) d_Judge_many_2 5 rfl (fun v2 h1 hb3 hf => ?_)
  refine x_if_eq X hf d_Judge_many_5 21 8 (by decide) rfl (fun hf => ?_) (fun hf => ?_)
  · refine x_iconst X (v := (-1)) d_Judge_many_21 (by decide) 22 rfl ?_
    exact hret _ _ _ _ _ (some (.int (-1))) (Nat.le_refl 0) (Nat.le_refl 0) ⟨_, rfl, hf⟩ ⟨⟨_, rfl, rfl⟩, d_Judge_many_22⟩
  · refine x_aload_n X (q := 0) d_Judge_many_8 rfl 9 rfl ?_
    refine x_getR X hf (ci := 11) (j := 2) rfl (by decide) rfl lf_Judge_27 d_Judge_many_9 12 rfl (fun o4 hf => ?_)
    refine x_iload_n X (q := 1) d_Judge_many_12 rfl 13 rfl ?_
    refine x_aald X hf (t := 5) rfl d_Judge_many_13 14 rfl (fun o5 hf => ?_)
    refine x_iload_n X (q := 2) d_Judge_many_14 rfl 15 rfl ?_
    refine x_callV0i X (t_Circuit_size hf.2) hf.1 (ci := 0) rfl rfl lm_Judge_99 im_Circuit_size sl_Circuit_size cd_Circuit_size in_Circuit ds_Circuit_size rfl rfl (Nat.le_of_ble_eq_true rfl) (Nat.le_of_ble_eq_true rfl) (Nat.le_of_ble_eq_true rfl) rfl rfl (Nat.le_refl 0) (Nat.le_refl 0) d_Judge_many_15 18 rfl (fun v7 h6 hf => ?_)
    refine x_goto X d_Judge_many_18 22 (by decide) ?_
    exact hret _ _ _ _ _ (some (.int v7)) (Nat.le_refl 0) (Nat.le_refl 0) ⟨_, rfl, hf⟩ ⟨⟨_, rfl, rfl⟩, d_Judge_many_22⟩

set_option maxRecDepth 100000 in
def wp_Circuit_nameByte (z : Nat → Nat) (Q : Int32 → xh → Prop) (a0 : Nat) (x1 : Int32) (x2 : Int32) (x3 : Int32) (hp : xh) : Prop :=
  xcls hp a0 0 ∧ wp_Circuit_nameSlot z (fun v2 h1 => (v2 = (-1) → (Q (-1) h1)) ∧ (¬ v2 = (-1) → ((x3 < 0 → (Q (-1) h1)) ∧ (¬ x3 < 0 → (∃ o3, fR h1 a0 0 15 = some o3 ∧ (∃ v4, aI h1 o3 0 v2 = some v4 ∧ ((x3 < v4 → (∃ o5, fR h1 a0 0 14 = some o5 ∧ (∃ v6, aI h1 o5 1 ((v2 * 40) + x3) = some v6 ∧ (Q (v6 &&& 255) h1)))) ∧ (¬ x3 < v4 → (Q (-1) h1))))))))) a0 x1 x2 hp
set_option maxRecDepth 100000 in
set_option maxHeartbeats 4000000 in
theorem t_Circuit_nameByte {l : Launch} {G : xG} {z : Nat → Nat} {Q : Int32 → xh → Prop} {a0 : Nat} {x1 : Int32} {x2 : Int32} {x3 : Int32} {hp : xh} (hf : wp_Circuit_nameByte z Q a0 x1 x2 x3 hp) : xM l G z y_Circuit_nameByte b_Circuit_nameByte 5 (some .int) rm_Circuit_nameByte [.ref a0, .int x1, .int x2, .int x3] hp (xqi Q) := by
  refine xM_of (by decide) (Nat.le_of_ble_eq_true rfl) (lv0 := [(0, .ref a0), (1, .int x1), (2, .int x2), (3, .int x3)]) rfl ?_
  intro p e s m args below meth c A Qw X hret
  unfold wp_Circuit_nameByte at hf
  refine x_aload_n X (q := 0) d_Circuit_nameByte_0 rfl 1 rfl ?_
  refine x_iload_n X (q := 1) d_Circuit_nameByte_1 rfl 2 rfl ?_
  refine x_iload_n X (q := 2) d_Circuit_nameByte_2 rfl 3 rfl ?_
  refine x_callV0i X (t_Circuit_nameSlot hf.2) hf.1 (ci := 0) rfl rfl lm_Circuit_75 im_Circuit_nameSlot sl_Circuit_nameSlot cd_Circuit_nameSlot in_Circuit ds_Circuit_nameSlot rfl rfl (Nat.le_of_ble_eq_true rfl) (Nat.le_of_ble_eq_true rfl) (Nat.le_of_ble_eq_true rfl) rfl rfl (Nat.le_refl 0) (Nat.le_refl 0) d_Circuit_nameByte_3 6 rfl (fun v2 h1 hf => ?_)
  refine x_istore X (lv' := [(4, .int v2), (0, .ref a0), (1, .int x1), (2, .int x2), (3, .int x3)]) d_Circuit_nameByte_6 (by decide) rfl 8 rfl ?_
  refine x_iload X (q := 0) d_Circuit_nameByte_8 rfl 10 rfl ?_
  refine x_iconst X (v := (-1)) d_Circuit_nameByte_10 (by decide) 11 rfl ?_
  refine x_icmp_eq X hf d_Circuit_nameByte_11 29 14 (by decide) rfl (fun hf => ?_) (fun hf => ?_)
  · refine x_iconst X (v := (-1)) d_Circuit_nameByte_29 (by decide) 30 rfl ?_
    exact hret _ _ _ _ _ (some (.int (-1))) (Nat.le_refl 0) (Nat.le_refl 0) ⟨_, rfl, hf⟩ ⟨⟨_, rfl, rfl⟩, d_Circuit_nameByte_30⟩
  · refine x_iload_n X (q := 4) d_Circuit_nameByte_14 rfl 15 rfl ?_
    refine x_if_lt X hf d_Circuit_nameByte_15 29 18 (by decide) rfl (fun hf => ?_) (fun hf => ?_)
    · refine x_iconst X (v := (-1)) d_Circuit_nameByte_29 (by decide) 30 rfl ?_
      exact hret _ _ _ _ _ (some (.int (-1))) (Nat.le_refl 0) (Nat.le_refl 0) ⟨_, rfl, hf⟩ ⟨⟨_, rfl, rfl⟩, d_Circuit_nameByte_30⟩
    · refine x_iload_n X (q := 4) d_Circuit_nameByte_18 rfl 19 rfl ?_
      refine x_aload_n X (q := 1) d_Circuit_nameByte_19 rfl 20 rfl ?_
      refine x_getR X hf (ci := 0) (j := 15) rfl (by decide) rfl lf_Circuit_40 d_Circuit_nameByte_20 23 rfl (fun o3 hf => ?_)
      refine x_iload X (q := 0) d_Circuit_nameByte_23 rfl 25 rfl ?_
      refine x_iald X hf d_Circuit_nameByte_25 26 rfl (fun v4 hf => ?_)
      refine x_icmp_lt X hf d_Circuit_nameByte_26 31 29 (by decide) rfl (fun hf => ?_) (fun hf => ?_)
      · refine x_aload_n X (q := 1) d_Circuit_nameByte_31 rfl 32 rfl ?_
        refine x_getR X hf (ci := 0) (j := 14) rfl (by decide) rfl lf_Circuit_37 d_Circuit_nameByte_32 35 rfl (fun o5 hf => ?_)
        refine x_iload X (q := 0) d_Circuit_nameByte_35 rfl 37 rfl ?_
        refine x_bipush X (v := 40) d_Circuit_nameByte_37 (by decide) 39 rfl ?_
        refine x_imul X d_Circuit_nameByte_39 40 rfl ?_
        refine x_iload_n X (q := 4) d_Circuit_nameByte_40 rfl 41 rfl ?_
        refine x_iadd X d_Circuit_nameByte_41 42 rfl ?_
        refine x_bald X hf d_Circuit_nameByte_42 43 rfl (fun v6 hf => ?_)
        refine x_sipush X (v := 255) d_Circuit_nameByte_43 (by decide) 46 rfl ?_
        refine x_iand X d_Circuit_nameByte_46 47 rfl ?_
        exact hret _ _ _ _ _ (some (.int (v6 &&& 255))) (Nat.le_refl 0) (Nat.le_refl 0) ⟨_, rfl, hf⟩ ⟨⟨_, rfl, rfl⟩, d_Circuit_nameByte_47⟩
      · refine x_iconst X (v := (-1)) d_Circuit_nameByte_29 (by decide) 30 rfl ?_
        exact hret _ _ _ _ _ (some (.int (-1))) (Nat.le_refl 0) (Nat.le_refl 0) ⟨_, rfl, hf⟩ ⟨⟨_, rfl, rfl⟩, d_Circuit_nameByte_30⟩

set_option maxRecDepth 100000 in
def wp_Judge_symbol (z : Nat → Nat) (Q : Int32 → xh → Prop) (a0 : Nat) (x1 : Int32) (x2 : Int32) (x3 : Int32) (x4 : Int32) (hp : xh) : Prop :=
  xcls hp a0 11 ∧ wp_Judge_isThere z (fun v2 h1 => (v2 = 0 → (Q (-1) h1)) ∧ (¬ v2 = 0 → (∃ o4, fR h1 a0 11 2 = some o4 ∧ (∃ o5, aR h1 o4 5 x1 = some o5 ∧ (xcls h1 o5 0 ∧ wp_Circuit_nameByte z (fun v7 h6 => Q v7 h6) o5 x2 x3 x4 h1))))) a0 x1 hp
set_option maxRecDepth 100000 in
set_option maxHeartbeats 4000000 in
theorem t_Judge_symbol {l : Launch} {G : xG} {z : Nat → Nat} {Q : Int32 → xh → Prop} {a0 : Nat} {x1 : Int32} {x2 : Int32} {x3 : Int32} {x4 : Int32} {hp : xh} (hf : wp_Judge_symbol z Q a0 x1 x2 x3 x4 hp) : xM l G z y_Judge_symbol b_Judge_symbol 5 (some .int) rm_Judge_symbol [.ref a0, .int x1, .int x2, .int x3, .int x4] hp (xqi Q) := by
  refine xM_of (by decide) (Nat.le_of_ble_eq_true rfl) (lv0 := [(0, .ref a0), (1, .int x1), (2, .int x2), (3, .int x3), (4, .int x4)]) rfl ?_
  intro p e s m args below meth c A Qw X hret
  unfold wp_Judge_symbol at hf
  refine x_aload_n X (q := 0) d_Judge_symbol_0 rfl 1 rfl ?_
  refine x_iload_n X (q := 1) d_Judge_symbol_1 rfl 2 rfl ?_
  refine x_callV0z X (t_Judge_isThere hf.2) hf.1 (ci := 11) rfl rfl lm_Judge_96 im_Judge_isThere sl_Judge_isThere cd_Judge_isThere in_Judge ds_Judge_isThere rfl rfl (Nat.le_of_ble_eq_true rfl) (Nat.le_of_ble_eq_true rfl) (Nat.le_of_ble_eq_true rfl) rfl rfl (Nat.le_refl 0) (Nat.le_refl 0) d_Judge_symbol_2 5 rfl (fun v2 h1 hb3 hf => ?_)
  refine x_if_eq X hf d_Judge_symbol_5 24 8 (by decide) rfl (fun hf => ?_) (fun hf => ?_)
  · refine x_iconst X (v := (-1)) d_Judge_symbol_24 (by decide) 25 rfl ?_
    exact hret _ _ _ _ _ (some (.int (-1))) (Nat.le_refl 0) (Nat.le_refl 0) ⟨_, rfl, hf⟩ ⟨⟨_, rfl, rfl⟩, d_Judge_symbol_25⟩
  · refine x_aload_n X (q := 0) d_Judge_symbol_8 rfl 9 rfl ?_
    refine x_getR X hf (ci := 11) (j := 2) rfl (by decide) rfl lf_Judge_27 d_Judge_symbol_9 12 rfl (fun o4 hf => ?_)
    refine x_iload_n X (q := 1) d_Judge_symbol_12 rfl 13 rfl ?_
    refine x_aald X hf (t := 5) rfl d_Judge_symbol_13 14 rfl (fun o5 hf => ?_)
    refine x_iload_n X (q := 2) d_Judge_symbol_14 rfl 15 rfl ?_
    refine x_iload_n X (q := 3) d_Judge_symbol_15 rfl 16 rfl ?_
    refine x_iload X (q := 4) d_Judge_symbol_16 rfl 18 rfl ?_
    refine x_callV0i X (t_Circuit_nameByte hf.2) hf.1 (ci := 0) rfl rfl lm_Judge_102 im_Circuit_nameByte sl_Circuit_nameByte cd_Circuit_nameByte in_Circuit ds_Circuit_nameByte rfl rfl (Nat.le_of_ble_eq_true rfl) (Nat.le_of_ble_eq_true rfl) (Nat.le_of_ble_eq_true rfl) rfl rfl (Nat.le_refl 0) (Nat.le_refl 0) d_Judge_symbol_18 21 rfl (fun v7 h6 hf => ?_)
    refine x_goto X d_Judge_symbol_21 25 (by decide) ?_
    exact hret _ _ _ _ _ (some (.int v7)) (Nat.le_refl 0) (Nat.le_refl 0) ⟨_, rfl, hf⟩ ⟨⟨_, rfl, rfl⟩, d_Judge_symbol_25⟩

set_option maxRecDepth 100000 in
def wp_Judge_reset (z : Nat → Nat) (Q : xh → Prop) (a0 : Nat) (hp : xh) : Prop :=
  ∃ o1, fR hp a0 11 3 = some o1 ∧ (xcls hp o1 4 ∧ wp_Player_rest z (fun h2 => Q h2) o1 hp)
set_option maxRecDepth 100000 in
set_option maxHeartbeats 4000000 in
theorem t_Judge_reset {l : Launch} {G : xG} {z : Nat → Nat} {Q : xh → Prop} {a0 : Nat} {hp : xh} (hf : wp_Judge_reset z Q a0 hp) : xM l G z y_Judge_reset b_Judge_reset 1 none rm_Judge_reset [.ref a0] hp (xqv Q) := by
  refine xM_of (by decide) (Nat.le_of_ble_eq_true rfl) (lv0 := [(0, .ref a0)]) rfl ?_
  intro p e s m args below meth c A Qw X hret
  unfold wp_Judge_reset at hf
  refine x_aload_n X (q := 0) d_Judge_reset_0 rfl 1 rfl ?_
  refine x_getR X hf (ci := 11) (j := 3) rfl (by decide) rfl lf_Judge_37 d_Judge_reset_1 4 rfl (fun o1 hf => ?_)
  refine x_callV0v X (t_Player_rest hf.2) hf.1 (ci := 4) rfl rfl lm_Judge_75 im_Player_rest sl_Player_rest cd_Player_rest in_Player ds_Player_rest rfl rfl (Nat.le_of_ble_eq_true rfl) (Nat.le_of_ble_eq_true rfl) (Nat.le_of_ble_eq_true rfl) rfl rfl (Nat.le_refl 0) (Nat.le_refl 0) d_Judge_reset_4 7 rfl (fun h2 hf => ?_)
  exact hret _ _ _ _ _ none (Nat.le_refl 0) (Nat.le_refl 0) ⟨rfl, hf⟩ ⟨rfl, d_Judge_reset_7⟩

set_option maxRecDepth 100000 in
def wp_Judge_state (z : Nat → Nat) (Q : Int32 → xh → Prop) (a0 : Nat) (x1 : Int32) (hp : xh) : Prop :=
  xcls hp a0 11 ∧ wp_Judge_isThere z (fun v2 h1 => (v2 = 0 → (Q (-1) h1)) ∧ (¬ v2 = 0 → (∃ o4, fR h1 a0 11 3 = some o4 ∧ (∃ o5, fR h1 o4 4 1 = some o5 ∧ (∃ v6, aI h1 o5 0 x1 = some v6 ∧ Q v6 h1))))) a0 x1 hp
set_option maxRecDepth 100000 in
set_option maxHeartbeats 4000000 in
theorem t_Judge_state {l : Launch} {G : xG} {z : Nat → Nat} {Q : Int32 → xh → Prop} {a0 : Nat} {x1 : Int32} {hp : xh} (hf : wp_Judge_state z Q a0 x1 hp) : xM l G z y_Judge_state b_Judge_state 2 (some .int) rm_Judge_state [.ref a0, .int x1] hp (xqi Q) := by
  refine xM_of (by decide) (Nat.le_of_ble_eq_true rfl) (lv0 := [(0, .ref a0), (1, .int x1)]) rfl ?_
  intro p e s m args below meth c A Qw X hret
  unfold wp_Judge_state at hf
  refine x_aload_n X (q := 0) d_Judge_state_0 rfl 1 rfl ?_
  refine x_iload_n X (q := 1) d_Judge_state_1 rfl 2 rfl ?_
  refine x_callV0z X (t_Judge_isThere hf.2) hf.1 (ci := 11) rfl rfl lm_Judge_96 im_Judge_isThere sl_Judge_isThere cd_Judge_isThere in_Judge ds_Judge_isThere rfl rfl (Nat.le_of_ble_eq_true rfl) (Nat.le_of_ble_eq_true rfl) (Nat.le_of_ble_eq_true rfl) rfl rfl (Nat.le_refl 0) (Nat.le_refl 0) d_Judge_state_2 5 rfl (fun v2 h1 hb3 hf => ?_)
  refine x_if_eq X hf d_Judge_state_5 20 8 (by decide) rfl (fun hf => ?_) (fun hf => ?_)
  · refine x_iconst X (v := (-1)) d_Judge_state_20 (by decide) 21 rfl ?_
    exact hret _ _ _ _ _ (some (.int (-1))) (Nat.le_refl 0) (Nat.le_refl 0) ⟨_, rfl, hf⟩ ⟨⟨_, rfl, rfl⟩, d_Judge_state_21⟩
  · refine x_aload_n X (q := 0) d_Judge_state_8 rfl 9 rfl ?_
    refine x_getR X hf (ci := 11) (j := 3) rfl (by decide) rfl lf_Judge_37 d_Judge_state_9 12 rfl (fun o4 hf => ?_)
    refine x_getR X hf (ci := 4) (j := 1) rfl (by decide) rfl lf_Judge_106 d_Judge_state_12 15 rfl (fun o5 hf => ?_)
    refine x_iload_n X (q := 1) d_Judge_state_15 rfl 16 rfl ?_
    refine x_iald X hf d_Judge_state_16 17 rfl (fun v6 hf => ?_)
    refine x_goto X d_Judge_state_17 21 (by decide) ?_
    exact hret _ _ _ _ _ (some (.int v6)) (Nat.le_refl 0) (Nat.le_refl 0) ⟨_, rfl, hf⟩ ⟨⟨_, rfl, rfl⟩, d_Judge_state_21⟩

set_option maxRecDepth 100000 in
def wp_Judge_isLiteral (z : Nat → Nat) (Q : Int32 → xh → Prop) (a0 : Nat) (x1 : Int32) (x2 : Int32) (hp : xh) : Prop :=
  xcls hp a0 11 ∧ wp_Judge_isThere z (fun v2 h1 => (v2 = 0 → Q 0 h1) ∧ (¬ v2 = 0 → (∃ o4, fR h1 a0 11 2 = some o4 ∧ (∃ o5, aR h1 o4 5 x1 = some o5 ∧ (xcls h1 o5 0 ∧ wp_Circuit_isDefined z (fun v7 h6 => (v7 = 0 → Q 0 h6) ∧ (¬ v7 = 0 → Q 1 h6)) o5 x2 h1))))) a0 x1 hp
set_option maxRecDepth 100000 in
set_option maxHeartbeats 4000000 in
theorem t_Judge_isLiteral {l : Launch} {G : xG} {z : Nat → Nat} {Q : Int32 → xh → Prop} {a0 : Nat} {x1 : Int32} {x2 : Int32} {hp : xh} (hf : wp_Judge_isLiteral z Q a0 x1 x2 hp) : xM l G z y_Judge_isLiteral b_Judge_isLiteral 3 (some .boolean) rm_Judge_isLiteral [.ref a0, .int x1, .int x2] hp (xqz Q) := by
  refine xM_of (by decide) (Nat.le_of_ble_eq_true rfl) (lv0 := [(0, .ref a0), (1, .int x1), (2, .int x2)]) rfl ?_
  intro p e s m args below meth c A Qw X hret
  unfold wp_Judge_isLiteral at hf
  refine x_aload_n X (q := 0) d_Judge_isLiteral_0 rfl 1 rfl ?_
  refine x_iload_n X (q := 1) d_Judge_isLiteral_1 rfl 2 rfl ?_
  refine x_callV0z X (t_Judge_isThere hf.2) hf.1 (ci := 11) rfl rfl lm_Judge_96 im_Judge_isThere sl_Judge_isThere cd_Judge_isThere in_Judge ds_Judge_isThere rfl rfl (Nat.le_of_ble_eq_true rfl) (Nat.le_of_ble_eq_true rfl) (Nat.le_of_ble_eq_true rfl) rfl rfl (Nat.le_refl 0) (Nat.le_refl 0) d_Judge_isLiteral_2 5 rfl (fun v2 h1 hb3 hf => ?_)
  refine x_if_eq X hf d_Judge_isLiteral_5 25 8 (by decide) rfl (fun hf => ?_) (fun hf => ?_)
  · refine x_iconst X (v := 0) d_Judge_isLiteral_25 (by decide) 26 rfl ?_
    exact hret _ _ _ _ _ (some (.int 0)) (Nat.le_refl 0) (Nat.le_refl 0) ⟨_, rfl, (Or.inl rfl), hf⟩ ⟨⟨_, rfl, xbl_nar (Or.inl rfl)⟩, d_Judge_isLiteral_26⟩
  · refine x_aload_n X (q := 0) d_Judge_isLiteral_8 rfl 9 rfl ?_
    refine x_getR X hf (ci := 11) (j := 2) rfl (by decide) rfl lf_Judge_27 d_Judge_isLiteral_9 12 rfl (fun o4 hf => ?_)
    refine x_iload_n X (q := 1) d_Judge_isLiteral_12 rfl 13 rfl ?_
    refine x_aald X hf (t := 5) rfl d_Judge_isLiteral_13 14 rfl (fun o5 hf => ?_)
    refine x_iload_n X (q := 2) d_Judge_isLiteral_14 rfl 15 rfl ?_
    refine x_callV0z X (t_Circuit_isDefined hf.2) hf.1 (ci := 0) rfl rfl lm_Judge_184 im_Circuit_isDefined sl_Circuit_isDefined cd_Circuit_isDefined in_Circuit ds_Circuit_isDefined rfl rfl (Nat.le_of_ble_eq_true rfl) (Nat.le_of_ble_eq_true rfl) (Nat.le_of_ble_eq_true rfl) rfl rfl (Nat.le_refl 0) (Nat.le_refl 0) d_Judge_isLiteral_15 18 rfl (fun v7 h6 hb8 hf => ?_)
    refine x_if_eq X hf d_Judge_isLiteral_18 25 21 (by decide) rfl (fun hf => ?_) (fun hf => ?_)
    · refine x_iconst X (v := 0) d_Judge_isLiteral_25 (by decide) 26 rfl ?_
      exact hret _ _ _ _ _ (some (.int 0)) (Nat.le_refl 0) (Nat.le_refl 0) ⟨_, rfl, (Or.inl rfl), hf⟩ ⟨⟨_, rfl, xbl_nar (Or.inl rfl)⟩, d_Judge_isLiteral_26⟩
    · refine x_iconst X (v := 1) d_Judge_isLiteral_21 (by decide) 22 rfl ?_
      refine x_goto X d_Judge_isLiteral_22 26 (by decide) ?_
      exact hret _ _ _ _ _ (some (.int 1)) (Nat.le_refl 0) (Nat.le_refl 0) ⟨_, rfl, (Or.inr rfl), hf⟩ ⟨⟨_, rfl, xbl_nar (Or.inr rfl)⟩, d_Judge_isLiteral_26⟩

set_option maxRecDepth 100000 in
def wp_Player_takeVector_2_b (z : Nat → Nat) (Q : xh → Prop)  (k2 : Nat × Int32 × Int32 × xh → Prop) (a0 : Nat) (x1 : Int32) (x2 : Int32) (hp : xh) : Prop :=
  (5 ≤ x2 → Q hp) ∧ (¬ 5 ≤ x2 → (∃ o1, fR hp a0 4 2 = some o1 ∧ (∃ h2, sI hp o1 0 x2 (-((x1 >>> (x2 &&& 31)) &&& 1)) = some h2 ∧ (k2 (a0, x1, (x2 + 1), h2)))))
set_option maxRecDepth 100000 in
def wp_Player_takeVector_2 (z : Nat → Nat) (Q : xh → Prop)  (a0 : Nat) (x1 : Int32) (x2 : Int32) (hp : xh) : Prop := ∃ f : Nat, xloop (fun k2 a => wp_Player_takeVector_2_b z Q  k2 a.1 a.2.1 a.2.2.1 a.2.2.2) f (a0, x1, x2, hp)
set_option maxRecDepth 100000 in
set_option maxHeartbeats 4000000 in
theorem t_Player_takeVector_2 {p : Program} {l : Launch} {e : Env} {s : State} {m : MethodId} {args : Array Value} {below : List Frame} {meth : Method} {c : Code} {G : xG} {z : Nat → Nat} {A : Nat → Prop} {Qw : State → Prop} {Q : xh → Prop} {a0 : Nat} {x1 : Int32} {x2 : Int32} {hp : xh} (X : xX p l e rm_Player_takeVector s m args below meth c G z A y_Player_takeVector b_Player_takeVector 3) (hret : xRet p l e rm_Player_takeVector s m args below meth c G A 3 Qw b_Player_takeVector none (xqv Q))  (hf : wp_Player_takeVector_2 z Q  a0 x1 x2 hp) : xE p l e rm_Player_takeVector s m args below meth c G A 3 Qw 0 0 hp 2 [(0, .ref a0), (1, .int x1), (2, .int x2)] [] := by
  obtain ⟨f, hf⟩ := hf
  refine xloop_ind (F := fun k2 a => wp_Player_takeVector_2_b z Q  k2 a.1 a.2.1 a.2.2.1 a.2.2.2) (E := fun a => xE p l e rm_Player_takeVector s m args below meth c G A 3 Qw 0 0 a.2.2.2 2 [(0, .ref (a.1)), (1, .int (a.2.1)), (2, .int (a.2.2.1))] []) ?_ f (a0, x1, x2, hp) hf
  intro k2 hk a hf
  obtain ⟨a0, x1, x2, hp⟩ := a
  have hk2 : ∀ (a0 : Nat) (x1 : Int32) (x2 : Int32) (hp : xh), k2 (a0, x1, x2, hp) → xE p l e rm_Player_takeVector s m args below meth c G A 3 Qw 0 0 hp 2 [(0, .ref a0), (1, .int x1), (2, .int x2)] [] := fun a0 x1 x2 hp h => hk (a0, x1, x2, hp) h
  have hf : wp_Player_takeVector_2_b z Q  k2 a0 x1 x2 hp := hf
  unfold wp_Player_takeVector_2_b at hf
  refine x_iload_n X (q := 2) d_Player_takeVector_2 rfl 3 rfl ?_
  refine x_iconst X (v := 5) d_Player_takeVector_3 (by decide) 4 rfl ?_
  refine x_icmp_ge X hf d_Player_takeVector_4 25 7 (by decide) rfl (fun hf => ?_) (fun hf => ?_)
  · exact hret _ _ _ _ _ none (Nat.le_refl 0) (Nat.le_refl 0) ⟨rfl, hf⟩ ⟨rfl, d_Player_takeVector_25⟩
  · refine x_aload_n X (q := 0) d_Player_takeVector_7 rfl 8 rfl ?_
    refine x_getR X hf (ci := 4) (j := 2) rfl (by decide) rfl lf_Player_15 d_Player_takeVector_8 11 rfl (fun o1 hf => ?_)
    refine x_iload_n X (q := 2) d_Player_takeVector_11 rfl 12 rfl ?_
    refine x_iload_n X (q := 1) d_Player_takeVector_12 rfl 13 rfl ?_
    refine x_iload_n X (q := 2) d_Player_takeVector_13 rfl 14 rfl ?_
    refine x_ishr X d_Player_takeVector_14 15 rfl ?_
    refine x_iconst X (v := 1) d_Player_takeVector_15 (by decide) 16 rfl ?_
    refine x_iand X d_Player_takeVector_16 17 rfl ?_
    refine x_ineg X d_Player_takeVector_17 18 rfl ?_
    refine x_iast X hf d_Player_takeVector_18 19 rfl (fun h2 hf => ?_)
    refine x_iinc X (q := 2) (v := (x2 + 1)) (lv' := [(2, .int (x2 + 1)), (0, .ref a0), (1, .int x1)]) d_Player_takeVector_19 rfl (by rfl) (by decide) rfl 22 rfl ?_
    refine x_goto X d_Player_takeVector_22 2 (by decide) ?_
    exact x_sub [1, 2, 0] rfl (hk2 _ _ _ _ hf)
set_option maxRecDepth 100000 in
def wp_Player_takeVector (z : Nat → Nat) (Q : xh → Prop) (a0 : Nat) (x1 : Int32) (hp : xh) : Prop :=
  wp_Player_takeVector_2 z Q a0 x1 0 hp
set_option maxRecDepth 100000 in
set_option maxHeartbeats 4000000 in
theorem t_Player_takeVector {l : Launch} {G : xG} {z : Nat → Nat} {Q : xh → Prop} {a0 : Nat} {x1 : Int32} {hp : xh} (hf : wp_Player_takeVector z Q a0 x1 hp) : xM l G z y_Player_takeVector b_Player_takeVector 3 none rm_Player_takeVector [.ref a0, .int x1] hp (xqv Q) := by
  refine xM_of (by decide) (Nat.le_of_ble_eq_true rfl) (lv0 := [(0, .ref a0), (1, .int x1)]) rfl ?_
  intro p e s m args below meth c A Qw X hret
  unfold wp_Player_takeVector at hf
  refine x_iconst X (v := 0) d_Player_takeVector_0 (by decide) 1 rfl ?_
  refine x_istore_n X (lv' := [(2, .int 0), (0, .ref a0), (1, .int x1)]) d_Player_takeVector_1 rfl (by decide) rfl 2 rfl ?_
  exact x_sub [1, 2, 0] rfl (t_Player_takeVector_2 X hret hf)

set_option maxRecDepth 100000 in
def wp_Circuit_word (z : Nat → Nat) (Q : Int32 → xh → Prop) (a0 : Nat) (x1 : Int32) (x2 : Int32) (hp : xh) : Prop :=
  ∃ v1, aI hp a0 0 (x1 + (x2 >>> ((1 : Int32) &&& 31))) = some v1 ∧ (Q (v1 ^^^ (-(x2 &&& 1))) hp)
set_option maxRecDepth 100000 in
set_option maxHeartbeats 4000000 in
theorem t_Circuit_word {l : Launch} {G : xG} {z : Nat → Nat} {Q : Int32 → xh → Prop} {a0 : Nat} {x1 : Int32} {x2 : Int32} {hp : xh} (hf : wp_Circuit_word z Q a0 x1 x2 hp) : xM l G z y_Circuit_word b_Circuit_word 3 (some .int) rm_Circuit_word [.ref a0, .int x1, .int x2] hp (xqi Q) := by
  refine xM_of (by decide) (Nat.le_of_ble_eq_true rfl) (lv0 := [(0, .ref a0), (1, .int x1), (2, .int x2)]) rfl ?_
  intro p e s m args below meth c A Qw X hret
  unfold wp_Circuit_word at hf
  refine x_aload_n X (q := 0) d_Circuit_word_0 rfl 1 rfl ?_
  refine x_iload_n X (q := 1) d_Circuit_word_1 rfl 2 rfl ?_
  refine x_iload_n X (q := 2) d_Circuit_word_2 rfl 3 rfl ?_
  refine x_iconst X (v := 1) d_Circuit_word_3 (by decide) 4 rfl ?_
  refine x_ishr X d_Circuit_word_4 5 rfl ?_
  refine x_iadd X d_Circuit_word_5 6 rfl ?_
  refine x_iald X hf d_Circuit_word_6 7 rfl (fun v1 hf => ?_)
  refine x_iload_n X (q := 2) d_Circuit_word_7 rfl 8 rfl ?_
  refine x_iconst X (v := 1) d_Circuit_word_8 (by decide) 9 rfl ?_
  refine x_iand X d_Circuit_word_9 10 rfl ?_
  refine x_ineg X d_Circuit_word_10 11 rfl ?_
  refine x_ixor X d_Circuit_word_11 12 rfl ?_
  exact hret _ _ _ _ _ (some (.int (v1 ^^^ (-(x2 &&& 1))))) (Nat.le_refl 0) (Nat.le_refl 0) ⟨_, rfl, hf⟩ ⟨⟨_, rfl, rfl⟩, d_Circuit_word_12⟩

set_option maxRecDepth 100000 in
def wp_Circuit_settle_79_b (z : Nat → Nat) (Q : xh → Prop)  (k79 : Nat × Nat × Int32 × Int32 × xh → Prop) (a0 : Nat) (a3 : Nat) (x4 : Int32) (x5 : Int32) (hp : xh) : Prop :=
  ∃ v1, fI hp a0 0 5 = some v1 ∧ ((v1 ≤ x5 → Q hp) ∧ (¬ v1 ≤ x5 → (∃ o2, fR hp a0 0 13 = some o2 ∧ (∃ v3, aI hp o2 0 x5 = some v3 ∧ (∃ o4, fR hp a0 0 7 = some o4 ∧ (∃ v5, aI hp o4 0 v3 = some v5 ∧ (wp_Circuit_word z (fun v7 h6 => ∃ o8, fR h6 a0 0 8 = some o8 ∧ (∃ v9, aI h6 o8 0 v3 = some v9 ∧ (wp_Circuit_word z (fun v11 h10 => ∃ h12, sI h10 a3 0 (x4 + v3) (v7 &&& v11) = some h12 ∧ (k79 (a0, a3, x4, (x5 + 1), h12))) a3 x4 v9 h6))) a3 x4 v5 hp)))))))
set_option maxRecDepth 100000 in
def wp_Circuit_settle_79 (z : Nat → Nat) (Q : xh → Prop)  (a0 : Nat) (a3 : Nat) (x4 : Int32) (x5 : Int32) (hp : xh) : Prop := ∃ f : Nat, xloop (fun k79 a => wp_Circuit_settle_79_b z Q  k79 a.1 a.2.1 a.2.2.1 a.2.2.2.1 a.2.2.2.2) f (a0, a3, x4, x5, hp)
set_option maxRecDepth 100000 in
set_option maxHeartbeats 4000000 in
theorem t_Circuit_settle_79 {p : Program} {l : Launch} {e : Env} {s : State} {m : MethodId} {args : Array Value} {below : List Frame} {meth : Method} {c : Code} {G : xG} {z : Nat → Nat} {A : Nat → Prop} {Qw : State → Prop} {Q : xh → Prop} {a0 : Nat} {a3 : Nat} {x4 : Int32} {x5 : Int32} {hp : xh} (X : xX p l e rm_Circuit_settle s m args below meth c G z A y_Circuit_settle b_Circuit_settle 7) (hret : xRet p l e rm_Circuit_settle s m args below meth c G A 7 Qw b_Circuit_settle none (xqv Q))  (hf : wp_Circuit_settle_79 z Q  a0 a3 x4 x5 hp) : xE p l e rm_Circuit_settle s m args below meth c G A 7 Qw 0 0 hp 79 [(0, .ref a0), (3, .ref a3), (4, .int x4), (5, .int x5)] [] := by
  obtain ⟨f, hf⟩ := hf
  refine xloop_ind (F := fun k79 a => wp_Circuit_settle_79_b z Q  k79 a.1 a.2.1 a.2.2.1 a.2.2.2.1 a.2.2.2.2) (E := fun a => xE p l e rm_Circuit_settle s m args below meth c G A 7 Qw 0 0 a.2.2.2.2 79 [(0, .ref (a.1)), (3, .ref (a.2.1)), (4, .int (a.2.2.1)), (5, .int (a.2.2.2.1))] []) ?_ f (a0, a3, x4, x5, hp) hf
  intro k79 hk a hf
  obtain ⟨a0, a3, x4, x5, hp⟩ := a
  have hk79 : ∀ (a0 : Nat) (a3 : Nat) (x4 : Int32) (x5 : Int32) (hp : xh), k79 (a0, a3, x4, x5, hp) → xE p l e rm_Circuit_settle s m args below meth c G A 7 Qw 0 0 hp 79 [(0, .ref a0), (3, .ref a3), (4, .int x4), (5, .int x5)] [] := fun a0 a3 x4 x5 hp h => hk (a0, a3, x4, x5, hp) h
  have hf : wp_Circuit_settle_79_b z Q  k79 a0 a3 x4 x5 hp := hf
  unfold wp_Circuit_settle_79_b at hf
  refine x_iload X (q := 3) d_Circuit_settle_79 rfl 81 rfl ?_
  refine x_aload_n X (q := 0) d_Circuit_settle_81 rfl 82 rfl ?_
  refine x_getI X hf (ci := 0) (j := 5) rfl (by decide) rfl lf_Circuit_65 d_Circuit_settle_82 85 rfl (fun v1 hf => ?_)
  refine x_icmp_ge X hf d_Circuit_settle_85 137 88 (by decide) rfl (fun hf => ?_) (fun hf => ?_)
  · exact hret _ _ _ _ _ none (Nat.le_refl 0) (Nat.le_refl 0) ⟨rfl, hf⟩ ⟨rfl, d_Circuit_settle_137⟩
  · refine x_aload_n X (q := 0) d_Circuit_settle_88 rfl 89 rfl ?_
    refine x_getR X hf (ci := 0) (j := 13) rfl (by decide) rfl lf_Circuit_34 d_Circuit_settle_89 92 rfl (fun o2 hf => ?_)
    refine x_iload X (q := 3) d_Circuit_settle_92 rfl 94 rfl ?_
    refine x_iald X hf d_Circuit_settle_94 95 rfl (fun v3 hf => ?_)
    refine x_istore X (lv' := [(6, .int v3), (0, .ref a0), (3, .ref a3), (4, .int x4), (5, .int x5)]) d_Circuit_settle_95 (by decide) rfl 97 rfl ?_
    refine x_aload_n X (q := 2) d_Circuit_settle_97 rfl 98 rfl ?_
    refine x_iload X (q := 3) d_Circuit_settle_98 rfl 100 rfl ?_
    refine x_iload X (q := 0) d_Circuit_settle_100 rfl 102 rfl ?_
    refine x_iadd X d_Circuit_settle_102 103 rfl ?_
    refine x_aload_n X (q := 2) d_Circuit_settle_103 rfl 104 rfl ?_
    refine x_iload X (q := 3) d_Circuit_settle_104 rfl 106 rfl ?_
    refine x_aload_n X (q := 1) d_Circuit_settle_106 rfl 107 rfl ?_
    refine x_getR X hf (ci := 0) (j := 7) rfl (by decide) rfl lf_Circuit_15 d_Circuit_settle_107 110 rfl (fun o4 hf => ?_)
    refine x_iload X (q := 0) d_Circuit_settle_110 rfl 112 rfl ?_
    refine x_iald X hf d_Circuit_settle_112 113 rfl (fun v5 hf => ?_)
    refine x_callS0i X (t_Circuit_word hf) lm_Circuit_79 im_Circuit_word cd_Circuit_word in_Circuit ds_Circuit_word rfl rfl (Nat.le_of_ble_eq_true rfl) (Nat.le_of_ble_eq_true rfl) (Nat.le_of_ble_eq_true rfl) rfl rfl (Nat.le_refl 0) (Nat.le_refl 0) d_Circuit_settle_113 116 rfl (fun v7 h6 hf => ?_)
    refine x_aload_n X (q := 2) d_Circuit_settle_116 rfl 117 rfl ?_
    refine x_iload X (q := 3) d_Circuit_settle_117 rfl 119 rfl ?_
    refine x_aload_n X (q := 1) d_Circuit_settle_119 rfl 120 rfl ?_
    refine x_getR X hf (ci := 0) (j := 8) rfl (by decide) rfl lf_Circuit_19 d_Circuit_settle_120 123 rfl (fun o8 hf => ?_)
    refine x_iload X (q := 0) d_Circuit_settle_123 rfl 125 rfl ?_
    refine x_iald X hf d_Circuit_settle_125 126 rfl (fun v9 hf => ?_)
    refine x_callS0i X (t_Circuit_word hf) lm_Circuit_79 im_Circuit_word cd_Circuit_word in_Circuit ds_Circuit_word rfl rfl (Nat.le_of_ble_eq_true rfl) (Nat.le_of_ble_eq_true rfl) (Nat.le_of_ble_eq_true rfl) rfl rfl (Nat.le_refl 0) (Nat.le_refl 0) d_Circuit_settle_126 129 rfl (fun v11 h10 hf => ?_)
    refine x_iand X d_Circuit_settle_129 130 rfl ?_
    refine x_iast X hf d_Circuit_settle_130 131 rfl (fun h12 hf => ?_)
    refine x_iinc X (q := 4) (v := (x5 + 1)) (lv' := [(5, .int (x5 + 1)), (6, .int v3), (0, .ref a0), (3, .ref a3), (4, .int x4)]) d_Circuit_settle_131 rfl (by rfl) (by decide) rfl 134 rfl ?_
    refine x_goto X d_Circuit_settle_134 79 (by decide) ?_
    exact x_sub [2, 3, 4, 0] rfl (hk79 _ _ _ _ _ hf)
set_option maxRecDepth 100000 in
def wp_Circuit_settle_42_b (z : Nat → Nat) (Q : xh → Prop)  (k42 : Nat × Int32 × Nat × Int32 × Int32 × xh → Prop) (a0 : Nat) (x1 : Int32) (a3 : Nat) (x4 : Int32) (x5 : Int32) (hp : xh) : Prop :=
  ∃ v1, fI hp a0 0 3 = some v1 ∧ ((v1 ≤ x5 → wp_Circuit_settle_79 z Q a0 a3 x4 0 hp) ∧ (¬ v1 ≤ x5 → (∃ o2, fR hp a0 0 10 = some o2 ∧ (∃ v3, aI hp o2 0 x5 = some v3 ∧ (∃ h4, sI hp a3 0 (x4 + v3) (-((x1 >>> (x5 &&& 31)) &&& 1)) = some h4 ∧ (k42 (a0, x1, a3, x4, (x5 + 1), h4)))))))
set_option maxRecDepth 100000 in
def wp_Circuit_settle_42 (z : Nat → Nat) (Q : xh → Prop)  (a0 : Nat) (x1 : Int32) (a3 : Nat) (x4 : Int32) (x5 : Int32) (hp : xh) : Prop := ∃ f : Nat, xloop (fun k42 a => wp_Circuit_settle_42_b z Q  k42 a.1 a.2.1 a.2.2.1 a.2.2.2.1 a.2.2.2.2.1 a.2.2.2.2.2) f (a0, x1, a3, x4, x5, hp)
set_option maxRecDepth 100000 in
set_option maxHeartbeats 4000000 in
theorem t_Circuit_settle_42 {p : Program} {l : Launch} {e : Env} {s : State} {m : MethodId} {args : Array Value} {below : List Frame} {meth : Method} {c : Code} {G : xG} {z : Nat → Nat} {A : Nat → Prop} {Qw : State → Prop} {Q : xh → Prop} {a0 : Nat} {x1 : Int32} {a3 : Nat} {x4 : Int32} {x5 : Int32} {hp : xh} (X : xX p l e rm_Circuit_settle s m args below meth c G z A y_Circuit_settle b_Circuit_settle 7) (hret : xRet p l e rm_Circuit_settle s m args below meth c G A 7 Qw b_Circuit_settle none (xqv Q))  (hf : wp_Circuit_settle_42 z Q  a0 x1 a3 x4 x5 hp) : xE p l e rm_Circuit_settle s m args below meth c G A 7 Qw 0 0 hp 42 [(0, .ref a0), (1, .int x1), (3, .ref a3), (4, .int x4), (5, .int x5)] [] := by
  obtain ⟨f, hf⟩ := hf
  refine xloop_ind (F := fun k42 a => wp_Circuit_settle_42_b z Q  k42 a.1 a.2.1 a.2.2.1 a.2.2.2.1 a.2.2.2.2.1 a.2.2.2.2.2) (E := fun a => xE p l e rm_Circuit_settle s m args below meth c G A 7 Qw 0 0 a.2.2.2.2.2 42 [(0, .ref (a.1)), (1, .int (a.2.1)), (3, .ref (a.2.2.1)), (4, .int (a.2.2.2.1)), (5, .int (a.2.2.2.2.1))] []) ?_ f (a0, x1, a3, x4, x5, hp) hf
  intro k42 hk a hf
  obtain ⟨a0, x1, a3, x4, x5, hp⟩ := a
  have hk42 : ∀ (a0 : Nat) (x1 : Int32) (a3 : Nat) (x4 : Int32) (x5 : Int32) (hp : xh), k42 (a0, x1, a3, x4, x5, hp) → xE p l e rm_Circuit_settle s m args below meth c G A 7 Qw 0 0 hp 42 [(0, .ref a0), (1, .int x1), (3, .ref a3), (4, .int x4), (5, .int x5)] [] := fun a0 x1 a3 x4 x5 hp h => hk (a0, x1, a3, x4, x5, hp) h
  have hf : wp_Circuit_settle_42_b z Q  k42 a0 x1 a3 x4 x5 hp := hf
  unfold wp_Circuit_settle_42_b at hf
  refine x_iload X (q := 4) d_Circuit_settle_42 rfl 44 rfl ?_
  refine x_aload_n X (q := 0) d_Circuit_settle_44 rfl 45 rfl ?_
  refine x_getI X hf (ci := 0) (j := 3) rfl (by decide) rfl lf_Circuit_59 d_Circuit_settle_45 48 rfl (fun v1 hf => ?_)
  refine x_icmp_ge X hf d_Circuit_settle_48 76 51 (by decide) rfl (fun hf => ?_) (fun hf => ?_)
  · refine x_iconst X (v := 0) d_Circuit_settle_76 (by decide) 77 rfl ?_
    refine x_istore X (lv' := [(5, .int 0), (0, .ref a0), (1, .int x1), (3, .ref a3), (4, .int x4)]) d_Circuit_settle_77 (by decide) rfl 79 rfl ?_
    exact x_sub [1, 3, 4, 0] rfl (t_Circuit_settle_79 X hret hf)
  · refine x_aload_n X (q := 2) d_Circuit_settle_51 rfl 52 rfl ?_
    refine x_iload X (q := 3) d_Circuit_settle_52 rfl 54 rfl ?_
    refine x_aload_n X (q := 0) d_Circuit_settle_54 rfl 55 rfl ?_
    refine x_getR X hf (ci := 0) (j := 10) rfl (by decide) rfl lf_Circuit_25 d_Circuit_settle_55 58 rfl (fun o2 hf => ?_)
    refine x_iload X (q := 4) d_Circuit_settle_58 rfl 60 rfl ?_
    refine x_iald X hf d_Circuit_settle_60 61 rfl (fun v3 hf => ?_)
    refine x_iadd X d_Circuit_settle_61 62 rfl ?_
    refine x_iload_n X (q := 1) d_Circuit_settle_62 rfl 63 rfl ?_
    refine x_iload X (q := 4) d_Circuit_settle_63 rfl 65 rfl ?_
    refine x_ishr X d_Circuit_settle_65 66 rfl ?_
    refine x_iconst X (v := 1) d_Circuit_settle_66 (by decide) 67 rfl ?_
    refine x_iand X d_Circuit_settle_67 68 rfl ?_
    refine x_ineg X d_Circuit_settle_68 69 rfl ?_
    refine x_iast X hf d_Circuit_settle_69 70 rfl (fun h4 hf => ?_)
    refine x_iinc X (q := 4) (v := (x5 + 1)) (lv' := [(5, .int (x5 + 1)), (0, .ref a0), (1, .int x1), (3, .ref a3), (4, .int x4)]) d_Circuit_settle_70 rfl (by rfl) (by decide) rfl 73 rfl ?_
    refine x_goto X d_Circuit_settle_73 42 (by decide) ?_
    exact x_sub [1, 2, 3, 4, 0] rfl (hk42 _ _ _ _ _ _ hf)
set_option maxRecDepth 100000 in
def wp_Circuit_settle_8_b (z : Nat → Nat) (Q : xh → Prop)  (k8 : Nat × Int32 × Nat × Nat × Int32 × Int32 × xh → Prop) (a0 : Nat) (x1 : Int32) (a2 : Nat) (a3 : Nat) (x4 : Int32) (x5 : Int32) (hp : xh) : Prop :=
  ∃ v1, fI hp a0 0 2 = some v1 ∧ ((v1 ≤ x5 → wp_Circuit_settle_42 z Q a0 x1 a3 x4 0 hp) ∧ (¬ v1 ≤ x5 → (∃ o2, fR hp a0 0 9 = some o2 ∧ (∃ v3, aI hp o2 0 x5 = some v3 ∧ (∃ v4, aI hp a2 0 x5 = some v4 ∧ (∃ h5, sI hp a3 0 (x4 + v3) v4 = some h5 ∧ (k8 (a0, x1, a2, a3, x4, (x5 + 1), h5))))))))
set_option maxRecDepth 100000 in
def wp_Circuit_settle_8 (z : Nat → Nat) (Q : xh → Prop)  (a0 : Nat) (x1 : Int32) (a2 : Nat) (a3 : Nat) (x4 : Int32) (x5 : Int32) (hp : xh) : Prop := ∃ f : Nat, xloop (fun k8 a => wp_Circuit_settle_8_b z Q  k8 a.1 a.2.1 a.2.2.1 a.2.2.2.1 a.2.2.2.2.1 a.2.2.2.2.2.1 a.2.2.2.2.2.2) f (a0, x1, a2, a3, x4, x5, hp)
set_option maxRecDepth 100000 in
set_option maxHeartbeats 4000000 in
theorem t_Circuit_settle_8 {p : Program} {l : Launch} {e : Env} {s : State} {m : MethodId} {args : Array Value} {below : List Frame} {meth : Method} {c : Code} {G : xG} {z : Nat → Nat} {A : Nat → Prop} {Qw : State → Prop} {Q : xh → Prop} {a0 : Nat} {x1 : Int32} {a2 : Nat} {a3 : Nat} {x4 : Int32} {x5 : Int32} {hp : xh} (X : xX p l e rm_Circuit_settle s m args below meth c G z A y_Circuit_settle b_Circuit_settle 7) (hret : xRet p l e rm_Circuit_settle s m args below meth c G A 7 Qw b_Circuit_settle none (xqv Q))  (hf : wp_Circuit_settle_8 z Q  a0 x1 a2 a3 x4 x5 hp) : xE p l e rm_Circuit_settle s m args below meth c G A 7 Qw 0 0 hp 8 [(0, .ref a0), (1, .int x1), (2, .ref a2), (3, .ref a3), (4, .int x4), (5, .int x5)] [] := by
  obtain ⟨f, hf⟩ := hf
  refine xloop_ind (F := fun k8 a => wp_Circuit_settle_8_b z Q  k8 a.1 a.2.1 a.2.2.1 a.2.2.2.1 a.2.2.2.2.1 a.2.2.2.2.2.1 a.2.2.2.2.2.2) (E := fun a => xE p l e rm_Circuit_settle s m args below meth c G A 7 Qw 0 0 a.2.2.2.2.2.2 8 [(0, .ref (a.1)), (1, .int (a.2.1)), (2, .ref (a.2.2.1)), (3, .ref (a.2.2.2.1)), (4, .int (a.2.2.2.2.1)), (5, .int (a.2.2.2.2.2.1))] []) ?_ f (a0, x1, a2, a3, x4, x5, hp) hf
  intro k8 hk a hf
  obtain ⟨a0, x1, a2, a3, x4, x5, hp⟩ := a
  have hk8 : ∀ (a0 : Nat) (x1 : Int32) (a2 : Nat) (a3 : Nat) (x4 : Int32) (x5 : Int32) (hp : xh), k8 (a0, x1, a2, a3, x4, x5, hp) → xE p l e rm_Circuit_settle s m args below meth c G A 7 Qw 0 0 hp 8 [(0, .ref a0), (1, .int x1), (2, .ref a2), (3, .ref a3), (4, .int x4), (5, .int x5)] [] := fun a0 x1 a2 a3 x4 x5 hp h => hk (a0, x1, a2, a3, x4, x5, hp) h
  have hf : wp_Circuit_settle_8_b z Q  k8 a0 x1 a2 a3 x4 x5 hp := hf
  unfold wp_Circuit_settle_8_b at hf
  refine x_iload X (q := 5) d_Circuit_settle_8 rfl 10 rfl ?_
  refine x_aload_n X (q := 0) d_Circuit_settle_10 rfl 11 rfl ?_
  refine x_getI X hf (ci := 0) (j := 2) rfl (by decide) rfl lf_Circuit_56 d_Circuit_settle_11 14 rfl (fun v1 hf => ?_)
  refine x_icmp_ge X hf d_Circuit_settle_14 39 17 (by decide) rfl (fun hf => ?_) (fun hf => ?_)
  · refine x_iconst X (v := 0) d_Circuit_settle_39 (by decide) 40 rfl ?_
    refine x_istore X (lv' := [(5, .int 0), (0, .ref a0), (1, .int x1), (2, .ref a2), (3, .ref a3), (4, .int x4)]) d_Circuit_settle_40 (by decide) rfl 42 rfl ?_
    exact x_sub [1, 2, 4, 5, 0] rfl (t_Circuit_settle_42 X hret hf)
  · refine x_aload_n X (q := 3) d_Circuit_settle_17 rfl 18 rfl ?_
    refine x_iload X (q := 4) d_Circuit_settle_18 rfl 20 rfl ?_
    refine x_aload_n X (q := 0) d_Circuit_settle_20 rfl 21 rfl ?_
    refine x_getR X hf (ci := 0) (j := 9) rfl (by decide) rfl lf_Circuit_22 d_Circuit_settle_21 24 rfl (fun o2 hf => ?_)
    refine x_iload X (q := 5) d_Circuit_settle_24 rfl 26 rfl ?_
    refine x_iald X hf d_Circuit_settle_26 27 rfl (fun v3 hf => ?_)
    refine x_iadd X d_Circuit_settle_27 28 rfl ?_
    refine x_aload_n X (q := 2) d_Circuit_settle_28 rfl 29 rfl ?_
    refine x_iload X (q := 5) d_Circuit_settle_29 rfl 31 rfl ?_
    refine x_iald X hf d_Circuit_settle_31 32 rfl (fun v4 hf => ?_)
    refine x_iast X hf d_Circuit_settle_32 33 rfl (fun h5 hf => ?_)
    refine x_iinc X (q := 5) (v := (x5 + 1)) (lv' := [(5, .int (x5 + 1)), (0, .ref a0), (1, .int x1), (2, .ref a2), (3, .ref a3), (4, .int x4)]) d_Circuit_settle_33 rfl (by rfl) (by decide) rfl 36 rfl ?_
    refine x_goto X d_Circuit_settle_36 8 (by decide) ?_
    exact x_sub [1, 2, 3, 4, 5, 0] rfl (hk8 _ _ _ _ _ _ _ hf)
set_option maxRecDepth 100000 in
def wp_Circuit_settle (z : Nat → Nat) (Q : xh → Prop) (a0 : Nat) (x1 : Int32) (a2 : Nat) (a3 : Nat) (x4 : Int32) (hp : xh) : Prop :=
  ∃ h1, sI hp a3 0 x4 0 = some h1 ∧ wp_Circuit_settle_8 z Q a0 x1 a2 a3 x4 0 h1
set_option maxRecDepth 100000 in
set_option maxHeartbeats 4000000 in
theorem t_Circuit_settle {l : Launch} {G : xG} {z : Nat → Nat} {Q : xh → Prop} {a0 : Nat} {x1 : Int32} {a2 : Nat} {a3 : Nat} {x4 : Int32} {hp : xh} (hf : wp_Circuit_settle z Q a0 x1 a2 a3 x4 hp) : xM l G z y_Circuit_settle b_Circuit_settle 7 none rm_Circuit_settle [.ref a0, .int x1, .ref a2, .ref a3, .int x4] hp (xqv Q) := by
  refine xM_of (by decide) (Nat.le_of_ble_eq_true rfl) (lv0 := [(0, .ref a0), (1, .int x1), (2, .ref a2), (3, .ref a3), (4, .int x4)]) rfl ?_
  intro p e s m args below meth c A Qw X hret
  unfold wp_Circuit_settle at hf
  refine x_aload_n X (q := 3) d_Circuit_settle_0 rfl 1 rfl ?_
  refine x_iload X (q := 4) d_Circuit_settle_1 rfl 3 rfl ?_
  refine x_iconst X (v := 0) d_Circuit_settle_3 (by decide) 4 rfl ?_
  refine x_iast X hf d_Circuit_settle_4 5 rfl (fun h1 hf => ?_)
  refine x_iconst X (v := 0) d_Circuit_settle_5 (by decide) 6 rfl ?_
  refine x_istore X (lv' := [(5, .int 0), (0, .ref a0), (1, .int x1), (2, .ref a2), (3, .ref a3), (4, .int x4)]) d_Circuit_settle_6 (by decide) rfl 8 rfl ?_
  exact x_sub [1, 2, 3, 4, 5, 0] rfl (t_Circuit_settle_8 X hret hf)

set_option maxRecDepth 100000 in
def wp_Player_look (z : Nat → Nat) (Q : Int32 → xh → Prop) (a0 : Nat) (x1 : Int32) (x2 : Int32) (x3 : Int32) (hp : xh) : Prop :=
  xcls hp a0 4 ∧ wp_Player_takeVector z (fun h1 => ∃ o2, fR h1 a0 4 0 = some o2 ∧ (∃ o3, aR h1 o2 5 x1 = some o3 ∧ (∃ o4, fR h1 a0 4 1 = some o4 ∧ (∃ v5, aI h1 o4 0 x1 = some v5 ∧ (∃ o6, fR h1 a0 4 2 = some o6 ∧ (∃ o7, fR h1 a0 4 3 = some o7 ∧ (xcls h1 o3 0 ∧ wp_Circuit_settle z (fun h8 => ∃ o9, fR h8 a0 4 3 = some o9 ∧ (wp_Circuit_word z (fun v11 h10 => Q (v11 &&& 1) h10) o9 0 x2 h8)) o3 v5 o6 o7 0 h1))))))) a0 x3 hp
set_option maxRecDepth 100000 in
set_option maxHeartbeats 4000000 in
theorem t_Player_look {l : Launch} {G : xG} {z : Nat → Nat} {Q : Int32 → xh → Prop} {a0 : Nat} {x1 : Int32} {x2 : Int32} {x3 : Int32} {hp : xh} (hf : wp_Player_look z Q a0 x1 x2 x3 hp) : xM l G z y_Player_look b_Player_look 4 (some .int) rm_Player_look [.ref a0, .int x1, .int x2, .int x3] hp (xqi Q) := by
  refine xM_of (by decide) (Nat.le_of_ble_eq_true rfl) (lv0 := [(0, .ref a0), (1, .int x1), (2, .int x2), (3, .int x3)]) rfl ?_
  intro p e s m args below meth c A Qw X hret
  unfold wp_Player_look at hf
  refine x_aload_n X (q := 0) d_Player_look_0 rfl 1 rfl ?_
  refine x_iload_n X (q := 3) d_Player_look_1 rfl 2 rfl ?_
  refine x_callV0v X (t_Player_takeVector hf.2) hf.1 (ci := 4) rfl rfl lm_Player_31 im_Player_takeVector sl_Player_takeVector cd_Player_takeVector in_Player ds_Player_takeVector rfl rfl (Nat.le_of_ble_eq_true rfl) (Nat.le_of_ble_eq_true rfl) (Nat.le_of_ble_eq_true rfl) rfl rfl (Nat.le_refl 0) (Nat.le_refl 0) d_Player_look_2 5 rfl (fun h1 hf => ?_)
  refine x_aload_n X (q := 0) d_Player_look_5 rfl 6 rfl ?_
  refine x_getR X hf (ci := 4) (j := 0) rfl (by decide) rfl lf_Player_21 d_Player_look_6 9 rfl (fun o2 hf => ?_)
  refine x_iload_n X (q := 1) d_Player_look_9 rfl 10 rfl ?_
  refine x_aald X hf (t := 5) rfl d_Player_look_10 11 rfl (fun o3 hf => ?_)
  refine x_aload_n X (q := 0) d_Player_look_11 rfl 12 rfl ?_
  refine x_getR X hf (ci := 4) (j := 1) rfl (by decide) rfl lf_Player_9 d_Player_look_12 15 rfl (fun o4 hf => ?_)
  refine x_iload_n X (q := 1) d_Player_look_15 rfl 16 rfl ?_
  refine x_iald X hf d_Player_look_16 17 rfl (fun v5 hf => ?_)
  refine x_aload_n X (q := 0) d_Player_look_17 rfl 18 rfl ?_
  refine x_getR X hf (ci := 4) (j := 2) rfl (by decide) rfl lf_Player_15 d_Player_look_18 21 rfl (fun o6 hf => ?_)
  refine x_aload_n X (q := 0) d_Player_look_21 rfl 22 rfl ?_
  refine x_getR X hf (ci := 4) (j := 3) rfl (by decide) rfl lf_Player_18 d_Player_look_22 25 rfl (fun o7 hf => ?_)
  refine x_iconst X (v := 0) d_Player_look_25 (by decide) 26 rfl ?_
  refine x_callV0v X (t_Circuit_settle hf.2) hf.1 (ci := 0) rfl rfl lm_Player_35 im_Circuit_settle sl_Circuit_settle cd_Circuit_settle in_Circuit ds_Circuit_settle rfl rfl (Nat.le_of_ble_eq_true rfl) (Nat.le_of_ble_eq_true rfl) (Nat.le_of_ble_eq_true rfl) rfl rfl (Nat.le_refl 0) (Nat.le_refl 0) d_Player_look_26 29 rfl (fun h8 hf => ?_)
  refine x_aload_n X (q := 0) d_Player_look_29 rfl 30 rfl ?_
  refine x_getR X hf (ci := 4) (j := 3) rfl (by decide) rfl lf_Player_18 d_Player_look_30 33 rfl (fun o9 hf => ?_)
  refine x_iconst X (v := 0) d_Player_look_33 (by decide) 34 rfl ?_
  refine x_iload_n X (q := 2) d_Player_look_34 rfl 35 rfl ?_
  refine x_callS0i X (t_Circuit_word hf) lm_Player_41 im_Circuit_word cd_Circuit_word in_Circuit ds_Circuit_word rfl rfl (Nat.le_of_ble_eq_true rfl) (Nat.le_of_ble_eq_true rfl) (Nat.le_of_ble_eq_true rfl) rfl rfl (Nat.le_refl 0) (Nat.le_refl 0) d_Player_look_35 38 rfl (fun v11 h10 hf => ?_)
  refine x_iconst X (v := 1) d_Player_look_38 (by decide) 39 rfl ?_
  refine x_iand X d_Player_look_39 40 rfl ?_
  exact hret _ _ _ _ _ (some (.int (v11 &&& 1))) (Nat.le_refl 0) (Nat.le_refl 0) ⟨_, rfl, hf⟩ ⟨⟨_, rfl, rfl⟩, d_Player_look_40⟩

