set_option maxRecDepth 100000 in
def wp_Overlay_build_7_b (z : Nat → Nat) (Q : xh → Prop)  (k7 : Nat × Nat × Int32 × xh → Prop) (a0 : Nat) (a1 : Nat) (x2 : Int32) (hp : xh) : Prop :=
  (2 ≤ x2 → Q hp) ∧ (¬ 2 ≤ x2 → (∃ o1, aR hp a1 5 x2 = some o1 ∧ (xcls hp a0 3 ∧ wp_Overlay_layOver z (fun h2 => k7 (a0, a1, (x2 + 1), h2)) a0 o1 (6 + (x2 * 6)) hp)))
set_option maxRecDepth 100000 in
def wp_Overlay_build_7 (z : Nat → Nat) (Q : xh → Prop)  (a0 : Nat) (a1 : Nat) (x2 : Int32) (hp : xh) : Prop := ∃ f : Nat, xloop (fun k7 a => wp_Overlay_build_7_b z Q  k7 a.1 a.2.1 a.2.2.1 a.2.2.2) f (a0, a1, x2, hp)
set_option maxRecDepth 100000 in
set_option maxHeartbeats 4000000 in
theorem t_Overlay_build_7 {p : Program} {l : Launch} {e : Env} {s : State} {m : MethodId} {args : Array Value} {below : List Frame} {meth : Method} {c : Code} {G : xG} {z : Nat → Nat} {A : Nat → Prop} {Qw : State → Prop} {Q : xh → Prop} {a0 : Nat} {a1 : Nat} {x2 : Int32} {hp : xh} (X : xX p l e rm_Overlay_build s m args below meth c G z A y_Overlay_build b_Overlay_build 3) (hret : xRet p l e rm_Overlay_build s m args below meth c G A 3 Qw b_Overlay_build none (xqv Q))  (hf : wp_Overlay_build_7 z Q  a0 a1 x2 hp) : xE p l e rm_Overlay_build s m args below meth c G A 3 Qw 0 0 hp 7 [(0, .ref a0), (1, .ref a1), (2, .int x2)] [] := by
  obtain ⟨f, hf⟩ := hf
  refine xloop_ind (F := fun k7 a => wp_Overlay_build_7_b z Q  k7 a.1 a.2.1 a.2.2.1 a.2.2.2) (E := fun a => xE p l e rm_Overlay_build s m args below meth c G A 3 Qw 0 0 a.2.2.2 7 [(0, .ref (a.1)), (1, .ref (a.2.1)), (2, .int (a.2.2.1))] []) ?_ f (a0, a1, x2, hp) hf
  intro k7 hk a hf
  obtain ⟨a0, a1, x2, hp⟩ := a
  have hk7 : ∀ (a0 : Nat) (a1 : Nat) (x2 : Int32) (hp : xh), k7 (a0, a1, x2, hp) → xE p l e rm_Overlay_build s m args below meth c G A 3 Qw 0 0 hp 7 [(0, .ref a0), (1, .ref a1), (2, .int x2)] [] := fun a0 a1 x2 hp h => hk (a0, a1, x2, hp) h
  have hf : wp_Overlay_build_7_b z Q  k7 a0 a1 x2 hp := hf
  unfold wp_Overlay_build_7_b at hf
  refine x_iload_n X (q := 2) d_Overlay_build_7 rfl 8 rfl ?_
  refine x_iconst X (v := 2) d_Overlay_build_8 (by decide) 9 rfl ?_
  refine x_icmp_ge X hf d_Overlay_build_9 32 12 (by decide) rfl (fun hf => ?_) (fun hf => ?_)
  · exact hret _ _ _ _ _ none (Nat.le_refl 0) (Nat.le_refl 0) ⟨rfl, hf⟩ ⟨rfl, d_Overlay_build_32⟩
  · refine x_aload_n X (q := 0) d_Overlay_build_12 rfl 13 rfl ?_
    refine x_aload_n X (q := 1) d_Overlay_build_13 rfl 14 rfl ?_
    refine x_iload_n X (q := 2) d_Overlay_build_14 rfl 15 rfl ?_
    refine x_aald X hf (t := 5) rfl d_Overlay_build_15 16 rfl (fun o1 hf => ?_)
    refine x_bipush X (v := 6) d_Overlay_build_16 (by decide) 18 rfl ?_
    refine x_iload_n X (q := 2) d_Overlay_build_18 rfl 19 rfl ?_
    refine x_bipush X (v := 6) d_Overlay_build_19 (by decide) 21 rfl ?_
    refine x_imul X d_Overlay_build_21 22 rfl ?_
    refine x_iadd X d_Overlay_build_22 23 rfl ?_
    refine x_callV0v X (t_Overlay_layOver hf.2) hf.1 (ci := 3) rfl rfl lm_Overlay_25 im_Overlay_layOver sl_Overlay_layOver cd_Overlay_layOver in_Overlay ds_Overlay_layOver rfl rfl (Nat.le_of_ble_eq_true rfl) (Nat.le_of_ble_eq_true rfl) (Nat.le_of_ble_eq_true rfl) rfl rfl (Nat.le_refl 0) (Nat.le_refl 0) d_Overlay_build_23 26 rfl (fun h2 hf => ?_)
    refine x_iinc X (q := 2) (v := (x2 + 1)) (lv' := [(2, .int (x2 + 1)), (0, .ref a0), (1, .ref a1)]) d_Overlay_build_26 rfl (by rfl) (by decide) rfl 29 rfl ?_
    refine x_goto X d_Overlay_build_29 7 (by decide) ?_
    exact x_sub [1, 2, 0] rfl (hk7 _ _ _ _ hf)
set_option maxRecDepth 100000 in
def wp_Overlay_build (z : Nat → Nat) (Q : xh → Prop) (a0 : Nat) (a1 : Nat) (hp : xh) : Prop :=
  ∃ h1, pV hp a0 3 3 (.int 0) = some h1 ∧ wp_Overlay_build_7 z Q a0 a1 0 h1
set_option maxRecDepth 100000 in
set_option maxHeartbeats 4000000 in
theorem t_Overlay_build {l : Launch} {G : xG} {z : Nat → Nat} {Q : xh → Prop} {a0 : Nat} {a1 : Nat} {hp : xh} (hf : wp_Overlay_build z Q a0 a1 hp) : xM l G z y_Overlay_build b_Overlay_build 3 none rm_Overlay_build [.ref a0, .ref a1] hp (xqv Q) := by
  refine xM_of (by decide) (Nat.le_of_ble_eq_true rfl) (lv0 := [(0, .ref a0), (1, .ref a1)]) rfl ?_
  intro p e s m args below meth c A Qw X hret
  unfold wp_Overlay_build at hf
  refine x_aload_n X (q := 0) d_Overlay_build_0 rfl 1 rfl ?_
  refine x_iconst X (v := 0) d_Overlay_build_1 (by decide) 2 rfl ?_
  refine x_put X hf (ci := 3) (j := 3) (ty := .int) rfl (by decide) rfl lf_Overlay_21 rfl (by decide +kernel) rfl rfl d_Overlay_build_2 5 rfl (fun h1 hf => ?_)
  refine x_iconst X (v := 0) d_Overlay_build_5 (by decide) 6 rfl ?_
  refine x_istore_n X (lv' := [(2, .int 0), (0, .ref a0), (1, .ref a1)]) d_Overlay_build_6 rfl (by decide) rfl 7 rfl ?_
  exact x_sub [1, 2, 0] rfl (t_Overlay_build_7 X hret hf)

set_option maxRecDepth 100000 in
def wp_Works_countGates_23 (z : Nat → Nat) (Q : Int32 → xh → Prop)  (a0 : Nat) (hp : xh) : Prop :=
  ∃ o1, fR hp a0 10 6 = some o1 ∧ (∃ v2, fI hp o1 3 3 = some v2 ∧ Q v2 hp)
set_option maxRecDepth 100000 in
set_option maxHeartbeats 4000000 in
theorem t_Works_countGates_23 {p : Program} {l : Launch} {e : Env} {s : State} {m : MethodId} {args : Array Value} {below : List Frame} {meth : Method} {c : Code} {G : xG} {z : Nat → Nat} {A : Nat → Prop} {Qw : State → Prop} {Q : Int32 → xh → Prop} {a0 : Nat} {hp : xh} (X : xX p l e rm_Works_countGates s m args below meth c G z A y_Works_countGates b_Works_countGates 1) (hret : xRet p l e rm_Works_countGates s m args below meth c G A 1 Qw b_Works_countGates (some .int) (xqi Q))  (hf : wp_Works_countGates_23 z Q  a0 hp) : xE p l e rm_Works_countGates s m args below meth c G A 1 Qw 0 0 hp 23 [(0, .ref a0)] [] := by
  unfold wp_Works_countGates_23 at hf
  refine x_aload_n X (q := 0) d_Works_countGates_23 rfl 24 rfl ?_
  refine x_getR X hf (ci := 10) (j := 6) rfl (by decide) rfl lf_Works_44 d_Works_countGates_24 27 rfl (fun o1 hf => ?_)
  refine x_getI X hf (ci := 3) (j := 3) rfl (by decide) rfl lf_Works_138 d_Works_countGates_27 30 rfl (fun v2 hf => ?_)
  exact hret _ _ _ _ _ (some (.int v2)) (Nat.le_refl 0) (Nat.le_refl 0) ⟨_, rfl, hf⟩ ⟨⟨_, rfl, rfl⟩, d_Works_countGates_30⟩
set_option maxRecDepth 100000 in
def wp_Works_countGates (z : Nat → Nat) (Q : Int32 → xh → Prop) (a0 : Nat) (hp : xh) : Prop :=
  ∃ v1, fI hp a0 10 9 = some v1 ∧ ((¬ v1 = 0 → wp_Works_countGates_23 z Q a0 hp) ∧ (v1 = 0 → (∃ o2, fR hp a0 10 6 = some o2 ∧ (∃ o3, fR hp a0 10 0 = some o3 ∧ (xcls hp o2 3 ∧ wp_Overlay_build z (fun h4 => ∃ h5, pV h4 a0 10 9 (.int 1) = some h5 ∧ wp_Works_countGates_23 z Q a0 h5) o2 o3 hp)))))
set_option maxRecDepth 100000 in
set_option maxHeartbeats 4000000 in
theorem t_Works_countGates {l : Launch} {G : xG} {z : Nat → Nat} {Q : Int32 → xh → Prop} {a0 : Nat} {hp : xh} (hf : wp_Works_countGates z Q a0 hp) : xM l G z y_Works_countGates b_Works_countGates 1 (some .int) rm_Works_countGates [.ref a0] hp (xqi Q) := by
  refine xM_of (by decide) (Nat.le_of_ble_eq_true rfl) (lv0 := [(0, .ref a0)]) rfl ?_
  intro p e s m args below meth c A Qw X hret
  unfold wp_Works_countGates at hf
  refine x_aload_n X (q := 0) d_Works_countGates_0 rfl 1 rfl ?_
  refine x_getI X hf (ci := 10) (j := 9) rfl (by decide) rfl lf_Works_68 d_Works_countGates_1 4 rfl (fun v1 hf => ?_)
  refine x_if_ne X hf d_Works_countGates_4 23 7 (by decide) rfl (fun hf => ?_) (fun hf => ?_)
  · exact x_sub [0] rfl (t_Works_countGates_23 X hret hf)
  · refine x_aload_n X (q := 0) d_Works_countGates_7 rfl 8 rfl ?_
    refine x_getR X hf (ci := 10) (j := 6) rfl (by decide) rfl lf_Works_44 d_Works_countGates_8 11 rfl (fun o2 hf => ?_)
    refine x_aload_n X (q := 0) d_Works_countGates_11 rfl 12 rfl ?_
    refine x_getR X hf (ci := 10) (j := 0) rfl (by decide) rfl lf_Works_48 d_Works_countGates_12 15 rfl (fun o3 hf => ?_)
    refine x_callV0v X (t_Overlay_build hf.2) hf.1 (ci := 3) rfl rfl lm_Works_135 im_Overlay_build sl_Overlay_build cd_Overlay_build in_Overlay ds_Overlay_build rfl rfl (Nat.le_of_ble_eq_true rfl) (Nat.le_of_ble_eq_true rfl) (Nat.le_of_ble_eq_true rfl) rfl rfl (Nat.le_refl 0) (Nat.le_refl 0) d_Works_countGates_15 18 rfl (fun h4 hf => ?_)
    refine x_aload_n X (q := 0) d_Works_countGates_18 rfl 19 rfl ?_
    refine x_iconst X (v := 1) d_Works_countGates_19 (by decide) 20 rfl ?_
    refine x_put X hf (ci := 10) (j := 9) (ty := .boolean) rfl (by decide) rfl lf_Works_68 rfl (by decide +kernel) (xbl_nar (Or.inr rfl)) (xbl_fit (Or.inr rfl)) d_Works_countGates_20 23 rfl (fun h5 hf => ?_)
    exact x_sub [0] rfl (t_Works_countGates_23 X hret hf)

set_option maxRecDepth 100000 in
def wp_Table_fillLine_102_b (z : Nat → Nat) (Q : xh → Prop) (k69 : Nat × Nat × Int32 × Int32 × xh → Prop) (k102 : Nat × Nat × Int32 × Int32 × Int32 × Int32 × xh → Prop) (a0 : Nat) (a1 : Nat) (x2 : Int32) (x4 : Int32) (x5 : Int32) (x6 : Int32) (hp : xh) : Prop :=
  ∃ v1, fI hp a0 7 5 = some v1 ∧ ((v1 ≤ x6 → (k69 (a0, a1, x2, (x4 + 1), hp))) ∧ (¬ v1 ≤ x6 → (∃ o2, fR hp a0 7 2 = some o2 ∧ (∃ v3, aI hp o2 0 ((x2 * 32) + x6) = some v3 ∧ (∃ h4, sI hp o2 0 ((x2 * 32) + x6) (v3 ||| (((x5 >>> (x6 &&& 31)) &&& 1) <<< (x4 &&& 31))) = some h4 ∧ (k102 (a0, a1, x2, x4, x5, (x6 + 1), h4)))))))
set_option maxRecDepth 100000 in
def wp_Table_fillLine_102 (z : Nat → Nat) (Q : xh → Prop) (k69 : Nat × Nat × Int32 × Int32 × xh → Prop) (a0 : Nat) (a1 : Nat) (x2 : Int32) (x4 : Int32) (x5 : Int32) (x6 : Int32) (hp : xh) : Prop := ∃ f : Nat, xloop (fun k102 a => wp_Table_fillLine_102_b z Q k69 k102 a.1 a.2.1 a.2.2.1 a.2.2.2.1 a.2.2.2.2.1 a.2.2.2.2.2.1 a.2.2.2.2.2.2) f (a0, a1, x2, x4, x5, x6, hp)
set_option maxRecDepth 100000 in
set_option maxHeartbeats 4000000 in
theorem t_Table_fillLine_102 {p : Program} {l : Launch} {e : Env} {s : State} {m : MethodId} {args : Array Value} {below : List Frame} {meth : Method} {c : Code} {G : xG} {z : Nat → Nat} {A : Nat → Prop} {Qw : State → Prop} {Q : xh → Prop} {k69 : Nat × Nat × Int32 × Int32 × xh → Prop} {a0 : Nat} {a1 : Nat} {x2 : Int32} {x4 : Int32} {x5 : Int32} {x6 : Int32} {hp : xh} (X : xX p l e rm_Table_fillLine s m args below meth c G z A y_Table_fillLine b_Table_fillLine 7) (hret : xRet p l e rm_Table_fillLine s m args below meth c G A 7 Qw b_Table_fillLine none (xqv Q)) (hk69 : ∀ (a0 : Nat) (a1 : Nat) (x2 : Int32) (x4 : Int32) (hp : xh), k69 (a0, a1, x2, x4, hp) → xE p l e rm_Table_fillLine s m args below meth c G A 7 Qw 0 0 hp 69 [(0, .ref a0), (1, .ref a1), (2, .int x2), (4, .int x4)] []) (hf : wp_Table_fillLine_102 z Q k69 a0 a1 x2 x4 x5 x6 hp) : xE p l e rm_Table_fillLine s m args below meth c G A 7 Qw 0 0 hp 102 [(0, .ref a0), (1, .ref a1), (2, .int x2), (4, .int x4), (5, .int x5), (6, .int x6)] [] := by
  obtain ⟨f, hf⟩ := hf
  refine xloop_ind (F := fun k102 a => wp_Table_fillLine_102_b z Q k69 k102 a.1 a.2.1 a.2.2.1 a.2.2.2.1 a.2.2.2.2.1 a.2.2.2.2.2.1 a.2.2.2.2.2.2) (E := fun a => xE p l e rm_Table_fillLine s m args below meth c G A 7 Qw 0 0 a.2.2.2.2.2.2 102 [(0, .ref (a.1)), (1, .ref (a.2.1)), (2, .int (a.2.2.1)), (4, .int (a.2.2.2.1)), (5, .int (a.2.2.2.2.1)), (6, .int (a.2.2.2.2.2.1))] []) ?_ f (a0, a1, x2, x4, x5, x6, hp) hf
  intro k102 hk a hf
  obtain ⟨a0, a1, x2, x4, x5, x6, hp⟩ := a
  have hk102 : ∀ (a0 : Nat) (a1 : Nat) (x2 : Int32) (x4 : Int32) (x5 : Int32) (x6 : Int32) (hp : xh), k102 (a0, a1, x2, x4, x5, x6, hp) → xE p l e rm_Table_fillLine s m args below meth c G A 7 Qw 0 0 hp 102 [(0, .ref a0), (1, .ref a1), (2, .int x2), (4, .int x4), (5, .int x5), (6, .int x6)] [] := fun a0 a1 x2 x4 x5 x6 hp h => hk (a0, a1, x2, x4, x5, x6, hp) h
  have hf : wp_Table_fillLine_102_b z Q k69 k102 a0 a1 x2 x4 x5 x6 hp := hf
  unfold wp_Table_fillLine_102_b at hf
  refine x_iload X (q := 5) d_Table_fillLine_102 rfl 104 rfl ?_
  refine x_aload_n X (q := 0) d_Table_fillLine_104 rfl 105 rfl ?_
  refine x_getI X hf (ci := 7) (j := 5) rfl (by decide) rfl lf_Table_30 d_Table_fillLine_105 108 rfl (fun v1 hf => ?_)
  refine x_icmp_ge X hf d_Table_fillLine_108 142 111 (by decide) rfl (fun hf => ?_) (fun hf => ?_)
  · refine x_iinc X (q := 3) (v := (x4 + 1)) (lv' := [(4, .int (x4 + 1)), (0, .ref a0), (1, .ref a1), (2, .int x2), (5, .int x5), (6, .int x6)]) d_Table_fillLine_142 rfl (by rfl) (by decide) rfl 145 rfl ?_
    refine x_goto X d_Table_fillLine_145 69 (by decide) ?_
    exact x_sub [1, 2, 3, 0] rfl (hk69 _ _ _ _ _ hf)
  · refine x_aload_n X (q := 0) d_Table_fillLine_111 rfl 112 rfl ?_
    refine x_getR X hf (ci := 7) (j := 2) rfl (by decide) rfl lf_Table_18 d_Table_fillLine_112 115 rfl (fun o2 hf => ?_)
    refine x_iload_n X (q := 2) d_Table_fillLine_115 rfl 116 rfl ?_
    refine x_bipush X (v := 32) d_Table_fillLine_116 (by decide) 118 rfl ?_
    refine x_imul X d_Table_fillLine_118 119 rfl ?_
    refine x_iload X (q := 5) d_Table_fillLine_119 rfl 121 rfl ?_
    refine x_iadd X d_Table_fillLine_121 122 rfl ?_
    refine x_dup2 X rfl rfl d_Table_fillLine_122 123 rfl ?_
    refine x_iald X hf d_Table_fillLine_123 124 rfl (fun v3 hf => ?_)
    refine x_iload X (q := 4) d_Table_fillLine_124 rfl 126 rfl ?_
    refine x_iload X (q := 5) d_Table_fillLine_126 rfl 128 rfl ?_
    refine x_ishr X d_Table_fillLine_128 129 rfl ?_
    refine x_iconst X (v := 1) d_Table_fillLine_129 (by decide) 130 rfl ?_
    refine x_iand X d_Table_fillLine_130 131 rfl ?_
    refine x_iload X (q := 3) d_Table_fillLine_131 rfl 133 rfl ?_
    refine x_ishl X d_Table_fillLine_133 134 rfl ?_
    refine x_ior X d_Table_fillLine_134 135 rfl ?_
    refine x_iast X hf d_Table_fillLine_135 136 rfl (fun h4 hf => ?_)
    refine x_iinc X (q := 5) (v := (x6 + 1)) (lv' := [(6, .int (x6 + 1)), (0, .ref a0), (1, .ref a1), (2, .int x2), (4, .int x4), (5, .int x5)]) d_Table_fillLine_136 rfl (by rfl) (by decide) rfl 139 rfl ?_
    refine x_goto X d_Table_fillLine_139 102 (by decide) ?_
    exact x_sub [1, 2, 3, 4, 5, 0] rfl (hk102 _ _ _ _ _ _ _ hf)
set_option maxRecDepth 100000 in
def wp_Table_fillLine_69_b (z : Nat → Nat) (Q : xh → Prop)  (k69 : Nat × Nat × Int32 × Int32 × xh → Prop) (a0 : Nat) (a1 : Nat) (x2 : Int32) (x4 : Int32) (hp : xh) : Prop :=
  ∃ v1, fI hp a1 0 3 = some v1 ∧ ((v1 ≤ x4 → Q hp) ∧ (¬ v1 ≤ x4 → (∃ o2, fR hp a0 7 0 = some o2 ∧ (∃ o3, fR hp a1 0 11 = some o3 ∧ (∃ v4, aI hp o3 0 x4 = some v4 ∧ (wp_Circuit_word z (fun v6 h5 => wp_Table_fillLine_102 z Q k69 a0 a1 x2 x4 v6 0 h5) o2 (x2 * 201) v4 hp))))))
set_option maxRecDepth 100000 in
def wp_Table_fillLine_69 (z : Nat → Nat) (Q : xh → Prop)  (a0 : Nat) (a1 : Nat) (x2 : Int32) (x4 : Int32) (hp : xh) : Prop := ∃ f : Nat, xloop (fun k69 a => wp_Table_fillLine_69_b z Q  k69 a.1 a.2.1 a.2.2.1 a.2.2.2.1 a.2.2.2.2) f (a0, a1, x2, x4, hp)
set_option maxRecDepth 100000 in
set_option maxHeartbeats 4000000 in
theorem t_Table_fillLine_69 {p : Program} {l : Launch} {e : Env} {s : State} {m : MethodId} {args : Array Value} {below : List Frame} {meth : Method} {c : Code} {G : xG} {z : Nat → Nat} {A : Nat → Prop} {Qw : State → Prop} {Q : xh → Prop} {a0 : Nat} {a1 : Nat} {x2 : Int32} {x4 : Int32} {hp : xh} (X : xX p l e rm_Table_fillLine s m args below meth c G z A y_Table_fillLine b_Table_fillLine 7) (hret : xRet p l e rm_Table_fillLine s m args below meth c G A 7 Qw b_Table_fillLine none (xqv Q))  (hf : wp_Table_fillLine_69 z Q  a0 a1 x2 x4 hp) : xE p l e rm_Table_fillLine s m args below meth c G A 7 Qw 0 0 hp 69 [(0, .ref a0), (1, .ref a1), (2, .int x2), (4, .int x4)] [] := by
  obtain ⟨f, hf⟩ := hf
  refine xloop_ind (F := fun k69 a => wp_Table_fillLine_69_b z Q  k69 a.1 a.2.1 a.2.2.1 a.2.2.2.1 a.2.2.2.2) (E := fun a => xE p l e rm_Table_fillLine s m args below meth c G A 7 Qw 0 0 a.2.2.2.2 69 [(0, .ref (a.1)), (1, .ref (a.2.1)), (2, .int (a.2.2.1)), (4, .int (a.2.2.2.1))] []) ?_ f (a0, a1, x2, x4, hp) hf
  intro k69 hk a hf
  obtain ⟨a0, a1, x2, x4, hp⟩ := a
  have hk69 : ∀ (a0 : Nat) (a1 : Nat) (x2 : Int32) (x4 : Int32) (hp : xh), k69 (a0, a1, x2, x4, hp) → xE p l e rm_Table_fillLine s m args below meth c G A 7 Qw 0 0 hp 69 [(0, .ref a0), (1, .ref a1), (2, .int x2), (4, .int x4)] [] := fun a0 a1 x2 x4 hp h => hk (a0, a1, x2, x4, hp) h
  have hf : wp_Table_fillLine_69_b z Q  k69 a0 a1 x2 x4 hp := hf
  unfold wp_Table_fillLine_69_b at hf
  refine x_iload X (q := 3) d_Table_fillLine_69 rfl 71 rfl ?_
  refine x_aload_n X (q := 1) d_Table_fillLine_71 rfl 72 rfl ?_
  refine x_getI X hf (ci := 0) (j := 3) rfl (by decide) rfl lf_Table_43 d_Table_fillLine_72 75 rfl (fun v1 hf => ?_)
  refine x_icmp_ge X hf d_Table_fillLine_75 148 78 (by decide) rfl (fun hf => ?_) (fun hf => ?_)
  · exact hret _ _ _ _ _ none (Nat.le_refl 0) (Nat.le_refl 0) ⟨rfl, hf⟩ ⟨rfl, d_Table_fillLine_148⟩
  · refine x_aload_n X (q := 0) d_Table_fillLine_78 rfl 79 rfl ?_
    refine x_getR X hf (ci := 7) (j := 0) rfl (by decide) rfl lf_Table_9 d_Table_fillLine_79 82 rfl (fun o2 hf => ?_)
    refine x_iload_n X (q := 2) d_Table_fillLine_82 rfl 83 rfl ?_
    refine x_sipush X (v := 201) d_Table_fillLine_83 (by decide) 86 rfl ?_
    refine x_imul X d_Table_fillLine_86 87 rfl ?_
    refine x_aload_n X (q := 1) d_Table_fillLine_87 rfl 88 rfl ?_
    refine x_getR X hf (ci := 0) (j := 11) rfl (by decide) rfl lf_Table_64 d_Table_fillLine_88 91 rfl (fun o3 hf => ?_)
    refine x_iload X (q := 3) d_Table_fillLine_91 rfl 93 rfl ?_
    refine x_iald X hf d_Table_fillLine_93 94 rfl (fun v4 hf => ?_)
    refine x_callS0i X (t_Circuit_word hf) lm_Table_60 im_Circuit_word cd_Circuit_word in_Circuit ds_Circuit_word rfl rfl (Nat.le_of_ble_eq_true rfl) (Nat.le_of_ble_eq_true rfl) (Nat.le_of_ble_eq_true rfl) rfl rfl (Nat.le_refl 0) (Nat.le_refl 0) d_Table_fillLine_94 97 rfl (fun v6 h5 hf => ?_)
    refine x_istore X (lv' := [(5, .int v6), (0, .ref a0), (1, .ref a1), (2, .int x2), (4, .int x4)]) d_Table_fillLine_97 (by decide) rfl 99 rfl ?_
    refine x_iconst X (v := 0) d_Table_fillLine_99 (by decide) 100 rfl ?_
    refine x_istore X (lv' := [(6, .int 0), (5, .int v6), (0, .ref a0), (1, .ref a1), (2, .int x2), (4, .int x4)]) d_Table_fillLine_100 (by decide) rfl 102 rfl ?_
    exact x_sub [2, 3, 4, 5, 1, 0] rfl (t_Table_fillLine_102 X hret hk69 hf)
set_option maxRecDepth 100000 in
def wp_Table_fillLine_20_b (z : Nat → Nat) (Q : xh → Prop)  (k20 : Nat × Nat × Int32 × Int32 × xh → Prop) (a0 : Nat) (a1 : Nat) (x2 : Int32) (x4 : Int32) (hp : xh) : Prop :=
  ∃ v1, fI hp a0 7 4 = some v1 ∧ ((v1 ≤ x4 → wp_Table_fillLine_69 z Q a0 a1 x2 0 hp) ∧ (¬ v1 ≤ x4 → (∃ o2, fR hp a0 7 1 = some o2 ∧ (∃ o3, fR hp a0 7 0 = some o3 ∧ (∃ o4, fR hp a1 0 12 = some o4 ∧ (∃ v5, aI hp o4 0 x4 = some v5 ∧ (wp_Circuit_word z (fun v7 h6 => ∃ h8, sI h6 o2 0 ((x2 * 8) + x4) v7 = some h8 ∧ (k20 (a0, a1, x2, (x4 + 1), h8))) o3 (x2 * 201) v5 hp)))))))
set_option maxRecDepth 100000 in
def wp_Table_fillLine_20 (z : Nat → Nat) (Q : xh → Prop)  (a0 : Nat) (a1 : Nat) (x2 : Int32) (x4 : Int32) (hp : xh) : Prop := ∃ f : Nat, xloop (fun k20 a => wp_Table_fillLine_20_b z Q  k20 a.1 a.2.1 a.2.2.1 a.2.2.2.1 a.2.2.2.2) f (a0, a1, x2, x4, hp)
set_option maxRecDepth 100000 in
set_option maxHeartbeats 4000000 in
theorem t_Table_fillLine_20 {p : Program} {l : Launch} {e : Env} {s : State} {m : MethodId} {args : Array Value} {below : List Frame} {meth : Method} {c : Code} {G : xG} {z : Nat → Nat} {A : Nat → Prop} {Qw : State → Prop} {Q : xh → Prop} {a0 : Nat} {a1 : Nat} {x2 : Int32} {x4 : Int32} {hp : xh} (X : xX p l e rm_Table_fillLine s m args below meth c G z A y_Table_fillLine b_Table_fillLine 7) (hret : xRet p l e rm_Table_fillLine s m args below meth c G A 7 Qw b_Table_fillLine none (xqv Q))  (hf : wp_Table_fillLine_20 z Q  a0 a1 x2 x4 hp) : xE p l e rm_Table_fillLine s m args below meth c G A 7 Qw 0 0 hp 20 [(0, .ref a0), (1, .ref a1), (2, .int x2), (4, .int x4)] [] := by
  obtain ⟨f, hf⟩ := hf
  refine xloop_ind (F := fun k20 a => wp_Table_fillLine_20_b z Q  k20 a.1 a.2.1 a.2.2.1 a.2.2.2.1 a.2.2.2.2) (E := fun a => xE p l e rm_Table_fillLine s m args below meth c G A 7 Qw 0 0 a.2.2.2.2 20 [(0, .ref (a.1)), (1, .ref (a.2.1)), (2, .int (a.2.2.1)), (4, .int (a.2.2.2.1))] []) ?_ f (a0, a1, x2, x4, hp) hf
  intro k20 hk a hf
  obtain ⟨a0, a1, x2, x4, hp⟩ := a
  have hk20 : ∀ (a0 : Nat) (a1 : Nat) (x2 : Int32) (x4 : Int32) (hp : xh), k20 (a0, a1, x2, x4, hp) → xE p l e rm_Table_fillLine s m args below meth c G A 7 Qw 0 0 hp 20 [(0, .ref a0), (1, .ref a1), (2, .int x2), (4, .int x4)] [] := fun a0 a1 x2 x4 hp h => hk (a0, a1, x2, x4, hp) h
  have hf : wp_Table_fillLine_20_b z Q  k20 a0 a1 x2 x4 hp := hf
  unfold wp_Table_fillLine_20_b at hf
  refine x_iload X (q := 3) d_Table_fillLine_20 rfl 22 rfl ?_
  refine x_aload_n X (q := 0) d_Table_fillLine_22 rfl 23 rfl ?_
  refine x_getI X hf (ci := 7) (j := 4) rfl (by decide) rfl lf_Table_36 d_Table_fillLine_23 26 rfl (fun v1 hf => ?_)
  refine x_icmp_ge X hf d_Table_fillLine_26 66 29 (by decide) rfl (fun hf => ?_) (fun hf => ?_)
  · refine x_iconst X (v := 0) d_Table_fillLine_66 (by decide) 67 rfl ?_
    refine x_istore X (lv' := [(4, .int 0), (0, .ref a0), (1, .ref a1), (2, .int x2)]) d_Table_fillLine_67 (by decide) rfl 69 rfl ?_
    exact x_sub [1, 2, 3, 0] rfl (t_Table_fillLine_69 X hret hf)
  · refine x_aload_n X (q := 0) d_Table_fillLine_29 rfl 30 rfl ?_
    refine x_getR X hf (ci := 7) (j := 1) rfl (by decide) rfl lf_Table_15 d_Table_fillLine_30 33 rfl (fun o2 hf => ?_)
    refine x_iload_n X (q := 2) d_Table_fillLine_33 rfl 34 rfl ?_
    refine x_bipush X (v := 8) d_Table_fillLine_34 (by decide) 36 rfl ?_
    refine x_imul X d_Table_fillLine_36 37 rfl ?_
    refine x_iload X (q := 3) d_Table_fillLine_37 rfl 39 rfl ?_
    refine x_iadd X d_Table_fillLine_39 40 rfl ?_
    refine x_aload_n X (q := 0) d_Table_fillLine_40 rfl 41 rfl ?_
    refine x_getR X hf (ci := 7) (j := 0) rfl (by decide) rfl lf_Table_9 d_Table_fillLine_41 44 rfl (fun o3 hf => ?_)
    refine x_iload_n X (q := 2) d_Table_fillLine_44 rfl 45 rfl ?_
    refine x_sipush X (v := 201) d_Table_fillLine_45 (by decide) 48 rfl ?_
    refine x_imul X d_Table_fillLine_48 49 rfl ?_
    refine x_aload_n X (q := 1) d_Table_fillLine_49 rfl 50 rfl ?_
    refine x_getR X hf (ci := 0) (j := 12) rfl (by decide) rfl lf_Table_57 d_Table_fillLine_50 53 rfl (fun o4 hf => ?_)
    refine x_iload X (q := 3) d_Table_fillLine_53 rfl 55 rfl ?_
    refine x_iald X hf d_Table_fillLine_55 56 rfl (fun v5 hf => ?_)
    refine x_callS0i X (t_Circuit_word hf) lm_Table_60 im_Circuit_word cd_Circuit_word in_Circuit ds_Circuit_word rfl rfl (Nat.le_of_ble_eq_true rfl) (Nat.le_of_ble_eq_true rfl) (Nat.le_of_ble_eq_true rfl) rfl rfl (Nat.le_refl 0) (Nat.le_refl 0) d_Table_fillLine_56 59 rfl (fun v7 h6 hf => ?_)
    refine x_iast X hf d_Table_fillLine_59 60 rfl (fun h8 hf => ?_)
    refine x_iinc X (q := 3) (v := (x4 + 1)) (lv' := [(4, .int (x4 + 1)), (0, .ref a0), (1, .ref a1), (2, .int x2)]) d_Table_fillLine_60 rfl (by rfl) (by decide) rfl 63 rfl ?_
    refine x_goto X d_Table_fillLine_63 20 (by decide) ?_
    exact x_sub [1, 2, 3, 0] rfl (hk20 _ _ _ _ _ hf)
set_option maxRecDepth 100000 in
def wp_Table_fillLine (z : Nat → Nat) (Q : xh → Prop) (a0 : Nat) (a1 : Nat) (x2 : Int32) (x3 : Int32) (hp : xh) : Prop :=
  ∃ o1, fR hp a0 7 0 = some o1 ∧ (xcls hp a1 0 ∧ wp_Circuit_settle z (fun h2 => wp_Table_fillLine_20 z Q a0 a1 x2 0 h2) a1 x3 (z 1) o1 (x2 * 201) hp)
set_option maxRecDepth 100000 in
set_option maxHeartbeats 4000000 in
theorem t_Table_fillLine {l : Launch} {G : xG} {z : Nat → Nat} {Q : xh → Prop} {a0 : Nat} {a1 : Nat} {x2 : Int32} {x3 : Int32} {hp : xh} (hf : wp_Table_fillLine z Q a0 a1 x2 x3 hp) : xM l G z y_Table_fillLine b_Table_fillLine 7 none rm_Table_fillLine [.ref a0, .ref a1, .int x2, .int x3] hp (xqv Q) := by
  refine xM_of (by decide) (Nat.le_of_ble_eq_true rfl) (lv0 := [(0, .ref a0), (1, .ref a1), (2, .int x2), (3, .int x3)]) rfl ?_
  intro p e s m args below meth c A Qw X hret
  unfold wp_Table_fillLine at hf
  refine x_aload_n X (q := 1) d_Table_fillLine_0 rfl 1 rfl ?_
  refine x_iload_n X (q := 3) d_Table_fillLine_1 rfl 2 rfl ?_
  refine x_getsN X (i := 1) rfl lf_Table_50 d_Table_fillLine_2 5 rfl ?_
  refine x_aload_n X (q := 0) d_Table_fillLine_5 rfl 6 rfl ?_
  refine x_getR X hf (ci := 7) (j := 0) rfl (by decide) rfl lf_Table_9 d_Table_fillLine_6 9 rfl (fun o1 hf => ?_)
  refine x_iload_n X (q := 2) d_Table_fillLine_9 rfl 10 rfl ?_
  refine x_sipush X (v := 201) d_Table_fillLine_10 (by decide) 13 rfl ?_
  refine x_imul X d_Table_fillLine_13 14 rfl ?_
  refine x_callV0v X (t_Circuit_settle hf.2) hf.1 (ci := 0) rfl rfl lm_Table_53 im_Circuit_settle sl_Circuit_settle cd_Circuit_settle in_Circuit ds_Circuit_settle rfl rfl (Nat.le_of_ble_eq_true rfl) (Nat.le_of_ble_eq_true rfl) (Nat.le_of_ble_eq_true rfl) rfl rfl (Nat.le_refl 0) (Nat.le_refl 0) d_Table_fillLine_14 17 rfl (fun h2 hf => ?_)
  refine x_iconst X (v := 0) d_Table_fillLine_17 (by decide) 18 rfl ?_
  refine x_istore X (lv' := [(4, .int 0), (0, .ref a0), (1, .ref a1), (2, .int x2), (3, .int x3)]) d_Table_fillLine_18 (by decide) rfl 20 rfl ?_
  exact x_sub [1, 2, 3, 0] rfl (t_Table_fillLine_20 X hret hf)

set_option maxRecDepth 100000 in
def wp_Table_fill_53_b (z : Nat → Nat) (Q : xh → Prop) (k32 : Nat × Nat × Int32 × xh → Prop) (k53 : Nat × Nat × Int32 × Int32 × xh → Prop) (a0 : Nat) (a1 : Nat) (x2 : Int32) (x3 : Int32) (hp : xh) : Prop :=
  ∃ o1, fR hp a0 7 3 = some o1 ∧ (∃ v2, aI hp o1 0 x2 = some v2 ∧ ((v2 ≤ x3 → (k32 (a0, a1, (x2 + 1), hp))) ∧ (¬ v2 ≤ x3 → (∃ o3, aR hp a1 5 x2 = some o3 ∧ (xcls hp a0 7 ∧ wp_Table_fillLine z (fun h4 => k53 (a0, a1, x2, (x3 + 1), h4)) a0 o3 ((x2 * 64) + x3) x3 hp)))))
set_option maxRecDepth 100000 in
def wp_Table_fill_53 (z : Nat → Nat) (Q : xh → Prop) (k32 : Nat × Nat × Int32 × xh → Prop) (a0 : Nat) (a1 : Nat) (x2 : Int32) (x3 : Int32) (hp : xh) : Prop := ∃ f : Nat, xloop (fun k53 a => wp_Table_fill_53_b z Q k32 k53 a.1 a.2.1 a.2.2.1 a.2.2.2.1 a.2.2.2.2) f (a0, a1, x2, x3, hp)
set_option maxRecDepth 100000 in
set_option maxHeartbeats 4000000 in
theorem t_Table_fill_53 {p : Program} {l : Launch} {e : Env} {s : State} {m : MethodId} {args : Array Value} {below : List Frame} {meth : Method} {c : Code} {G : xG} {z : Nat → Nat} {A : Nat → Prop} {Qw : State → Prop} {Q : xh → Prop} {k32 : Nat × Nat × Int32 × xh → Prop} {a0 : Nat} {a1 : Nat} {x2 : Int32} {x3 : Int32} {hp : xh} (X : xX p l e rm_Table_fill s m args below meth c G z A y_Table_fill b_Table_fill 4) (hret : xRet p l e rm_Table_fill s m args below meth c G A 4 Qw b_Table_fill none (xqv Q)) (hk32 : ∀ (a0 : Nat) (a1 : Nat) (x2 : Int32) (hp : xh), k32 (a0, a1, x2, hp) → xE p l e rm_Table_fill s m args below meth c G A 4 Qw 0 0 hp 32 [(0, .ref a0), (1, .ref a1), (2, .int x2)] []) (hf : wp_Table_fill_53 z Q k32 a0 a1 x2 x3 hp) : xE p l e rm_Table_fill s m args below meth c G A 4 Qw 0 0 hp 53 [(0, .ref a0), (1, .ref a1), (2, .int x2), (3, .int x3)] [] := by
  obtain ⟨f, hf⟩ := hf
  refine xloop_ind (F := fun k53 a => wp_Table_fill_53_b z Q k32 k53 a.1 a.2.1 a.2.2.1 a.2.2.2.1 a.2.2.2.2) (E := fun a => xE p l e rm_Table_fill s m args below meth c G A 4 Qw 0 0 a.2.2.2.2 53 [(0, .ref (a.1)), (1, .ref (a.2.1)), (2, .int (a.2.2.1)), (3, .int (a.2.2.2.1))] []) ?_ f (a0, a1, x2, x3, hp) hf
  intro k53 hk a hf
  obtain ⟨a0, a1, x2, x3, hp⟩ := a
  have hk53 : ∀ (a0 : Nat) (a1 : Nat) (x2 : Int32) (x3 : Int32) (hp : xh), k53 (a0, a1, x2, x3, hp) → xE p l e rm_Table_fill s m args below meth c G A 4 Qw 0 0 hp 53 [(0, .ref a0), (1, .ref a1), (2, .int x2), (3, .int x3)] [] := fun a0 a1 x2 x3 hp h => hk (a0, a1, x2, x3, hp) h
  have hf : wp_Table_fill_53_b z Q k32 k53 a0 a1 x2 x3 hp := hf
  unfold wp_Table_fill_53_b at hf
  refine x_iload_n X (q := 3) d_Table_fill_53 rfl 54 rfl ?_
  refine x_aload_n X (q := 0) d_Table_fill_54 rfl 55 rfl ?_
  refine x_getR X hf (ci := 7) (j := 3) rfl (by decide) rfl lf_Table_21 d_Table_fill_55 58 rfl (fun o1 hf => ?_)
  refine x_iload_n X (q := 2) d_Table_fill_58 rfl 59 rfl ?_
  refine x_iald X hf d_Table_fill_59 60 rfl (fun v2 hf => ?_)
  refine x_icmp_ge X hf d_Table_fill_60 83 63 (by decide) rfl (fun hf => ?_) (fun hf => ?_)
  · refine x_iinc X (q := 2) (v := (x2 + 1)) (lv' := [(2, .int (x2 + 1)), (0, .ref a0), (1, .ref a1), (3, .int x3)]) d_Table_fill_83 rfl (by rfl) (by decide) rfl 86 rfl ?_
    refine x_goto X d_Table_fill_86 32 (by decide) ?_
    exact x_sub [1, 2, 0] rfl (hk32 _ _ _ _ hf)
  · refine x_aload_n X (q := 0) d_Table_fill_63 rfl 64 rfl ?_
    refine x_aload_n X (q := 1) d_Table_fill_64 rfl 65 rfl ?_
    refine x_iload_n X (q := 2) d_Table_fill_65 rfl 66 rfl ?_
    refine x_aald X hf (t := 5) rfl d_Table_fill_66 67 rfl (fun o3 hf => ?_)
    refine x_iload_n X (q := 2) d_Table_fill_67 rfl 68 rfl ?_
    refine x_bipush X (v := 64) d_Table_fill_68 (by decide) 70 rfl ?_
    refine x_imul X d_Table_fill_70 71 rfl ?_
    refine x_iload_n X (q := 3) d_Table_fill_71 rfl 72 rfl ?_
    refine x_iadd X d_Table_fill_72 73 rfl ?_
    refine x_iload_n X (q := 3) d_Table_fill_73 rfl 74 rfl ?_
    refine x_callV0v X (t_Table_fillLine hf.2) hf.1 (ci := 7) rfl rfl lm_Table_46 im_Table_fillLine sl_Table_fillLine cd_Table_fillLine in_Table ds_Table_fillLine rfl rfl (Nat.le_of_ble_eq_true rfl) (Nat.le_of_ble_eq_true rfl) (Nat.le_of_ble_eq_true rfl) rfl rfl (Nat.le_refl 0) (Nat.le_refl 0) d_Table_fill_74 77 rfl (fun h4 hf => ?_)
    refine x_iinc X (q := 3) (v := (x3 + 1)) (lv' := [(3, .int (x3 + 1)), (0, .ref a0), (1, .ref a1), (2, .int x2)]) d_Table_fill_77 rfl (by rfl) (by decide) rfl 80 rfl ?_
    refine x_goto X d_Table_fill_80 53 (by decide) ?_
    exact x_sub [1, 2, 3, 0] rfl (hk53 _ _ _ _ _ hf)
set_option maxRecDepth 100000 in
def wp_Table_fill_32_b (z : Nat → Nat) (Q : xh → Prop)  (k32 : Nat × Nat × Int32 × xh → Prop) (a0 : Nat) (a1 : Nat) (x2 : Int32) (hp : xh) : Prop :=
  (2 ≤ x2 → Q hp) ∧ (¬ 2 ≤ x2 → (∃ o1, fR hp a0 7 3 = some o1 ∧ (∃ o2, aR hp a1 5 x2 = some o2 ∧ (∃ v3, fI hp o2 0 3 = some v3 ∧ (∃ h4, sI hp o1 0 x2 ((1 : Int32) <<< (v3 &&& 31)) = some h4 ∧ wp_Table_fill_53 z Q k32 a0 a1 x2 0 h4)))))
set_option maxRecDepth 100000 in
def wp_Table_fill_32 (z : Nat → Nat) (Q : xh → Prop)  (a0 : Nat) (a1 : Nat) (x2 : Int32) (hp : xh) : Prop := ∃ f : Nat, xloop (fun k32 a => wp_Table_fill_32_b z Q  k32 a.1 a.2.1 a.2.2.1 a.2.2.2) f (a0, a1, x2, hp)
set_option maxRecDepth 100000 in
set_option maxHeartbeats 4000000 in
theorem t_Table_fill_32 {p : Program} {l : Launch} {e : Env} {s : State} {m : MethodId} {args : Array Value} {below : List Frame} {meth : Method} {c : Code} {G : xG} {z : Nat → Nat} {A : Nat → Prop} {Qw : State → Prop} {Q : xh → Prop} {a0 : Nat} {a1 : Nat} {x2 : Int32} {hp : xh} (X : xX p l e rm_Table_fill s m args below meth c G z A y_Table_fill b_Table_fill 4) (hret : xRet p l e rm_Table_fill s m args below meth c G A 4 Qw b_Table_fill none (xqv Q))  (hf : wp_Table_fill_32 z Q  a0 a1 x2 hp) : xE p l e rm_Table_fill s m args below meth c G A 4 Qw 0 0 hp 32 [(0, .ref a0), (1, .ref a1), (2, .int x2)] [] := by
  obtain ⟨f, hf⟩ := hf
  refine xloop_ind (F := fun k32 a => wp_Table_fill_32_b z Q  k32 a.1 a.2.1 a.2.2.1 a.2.2.2) (E := fun a => xE p l e rm_Table_fill s m args below meth c G A 4 Qw 0 0 a.2.2.2 32 [(0, .ref (a.1)), (1, .ref (a.2.1)), (2, .int (a.2.2.1))] []) ?_ f (a0, a1, x2, hp) hf
  intro k32 hk a hf
  obtain ⟨a0, a1, x2, hp⟩ := a
  have hk32 : ∀ (a0 : Nat) (a1 : Nat) (x2 : Int32) (hp : xh), k32 (a0, a1, x2, hp) → xE p l e rm_Table_fill s m args below meth c G A 4 Qw 0 0 hp 32 [(0, .ref a0), (1, .ref a1), (2, .int x2)] [] := fun a0 a1 x2 hp h => hk (a0, a1, x2, hp) h
  have hf : wp_Table_fill_32_b z Q  k32 a0 a1 x2 hp := hf
  unfold wp_Table_fill_32_b at hf
  refine x_iload_n X (q := 2) d_Table_fill_32 rfl 33 rfl ?_
  refine x_iconst X (v := 2) d_Table_fill_33 (by decide) 34 rfl ?_
  refine x_icmp_ge X hf d_Table_fill_34 89 37 (by decide) rfl (fun hf => ?_) (fun hf => ?_)
  · exact hret _ _ _ _ _ none (Nat.le_refl 0) (Nat.le_refl 0) ⟨rfl, hf⟩ ⟨rfl, d_Table_fill_89⟩
  · refine x_aload_n X (q := 0) d_Table_fill_37 rfl 38 rfl ?_
    refine x_getR X hf (ci := 7) (j := 3) rfl (by decide) rfl lf_Table_21 d_Table_fill_38 41 rfl (fun o1 hf => ?_)
    refine x_iload_n X (q := 2) d_Table_fill_41 rfl 42 rfl ?_
    refine x_iconst X (v := 1) d_Table_fill_42 (by decide) 43 rfl ?_
    refine x_aload_n X (q := 1) d_Table_fill_43 rfl 44 rfl ?_
    refine x_iload_n X (q := 2) d_Table_fill_44 rfl 45 rfl ?_
    refine x_aald X hf (t := 5) rfl d_Table_fill_45 46 rfl (fun o2 hf => ?_)
    refine x_getI X hf (ci := 0) (j := 3) rfl (by decide) rfl lf_Table_43 d_Table_fill_46 49 rfl (fun v3 hf => ?_)
    refine x_ishl X d_Table_fill_49 50 rfl ?_
    refine x_iast X hf d_Table_fill_50 51 rfl (fun h4 hf => ?_)
    refine x_iconst X (v := 0) d_Table_fill_51 (by decide) 52 rfl ?_
    refine x_istore_n X (lv' := [(3, .int 0), (0, .ref a0), (1, .ref a1), (2, .int x2)]) d_Table_fill_52 rfl (by decide) rfl 53 rfl ?_
    exact x_sub [1, 2, 3, 0] rfl (t_Table_fill_53 X hret hk32 hf)
set_option maxRecDepth 100000 in
def wp_Table_fill (z : Nat → Nat) (Q : xh → Prop) (a0 : Nat) (a1 : Nat) (hp : xh) : Prop :=
  ∃ o1, aR hp a1 5 0 = some o1 ∧ (∃ v2, fI hp o1 0 2 = some v2 ∧ (∃ h3, pV hp a0 7 5 (.int ((1 : Int32) <<< (v2 &&& 31))) = some h3 ∧ (∃ o4, aR h3 a1 5 0 = some o4 ∧ (∃ v5, fI h3 o4 0 4 = some v5 ∧ (∃ h6, pV h3 a0 7 4 (.int v5) = some h6 ∧ (∃ o7, fR h6 a0 7 2 = some o7 ∧ (wp_Arrays_fill1 z (fun h8 => wp_Table_fill_32 z Q a0 a1 0 h8) o7 0 h6)))))))
set_option maxRecDepth 100000 in
set_option maxHeartbeats 4000000 in
theorem t_Table_fill {l : Launch} {G : xG} {z : Nat → Nat} {Q : xh → Prop} {a0 : Nat} {a1 : Nat} {hp : xh} (hf : wp_Table_fill z Q a0 a1 hp) : xM l G z y_Table_fill b_Table_fill 4 none rm_Table_fill [.ref a0, .ref a1] hp (xqv Q) := by
  refine xM_of (by decide) (Nat.le_of_ble_eq_true rfl) (lv0 := [(0, .ref a0), (1, .ref a1)]) rfl ?_
  intro p e s m args below meth c A Qw X hret
  unfold wp_Table_fill at hf
  refine x_aload_n X (q := 0) d_Table_fill_0 rfl 1 rfl ?_
  refine x_iconst X (v := 1) d_Table_fill_1 (by decide) 2 rfl ?_
  refine x_aload_n X (q := 1) d_Table_fill_2 rfl 3 rfl ?_
  refine x_iconst X (v := 0) d_Table_fill_3 (by decide) 4 rfl ?_
  refine x_aald X hf (t := 5) rfl d_Table_fill_4 5 rfl (fun o1 hf => ?_)
  refine x_getI X hf (ci := 0) (j := 2) rfl (by decide) rfl lf_Table_24 d_Table_fill_5 8 rfl (fun v2 hf => ?_)
  refine x_ishl X d_Table_fill_8 9 rfl ?_
  refine x_put X hf (ci := 7) (j := 5) (ty := .int) rfl (by decide) rfl lf_Table_30 rfl (by decide +kernel) rfl rfl d_Table_fill_9 12 rfl (fun h3 hf => ?_)
  refine x_aload_n X (q := 0) d_Table_fill_12 rfl 13 rfl ?_
  refine x_aload_n X (q := 1) d_Table_fill_13 rfl 14 rfl ?_
  refine x_iconst X (v := 0) d_Table_fill_14 (by decide) 15 rfl ?_
  refine x_aald X hf (t := 5) rfl d_Table_fill_15 16 rfl (fun o4 hf => ?_)
  refine x_getI X hf (ci := 0) (j := 4) rfl (by decide) rfl lf_Table_33 d_Table_fill_16 19 rfl (fun v5 hf => ?_)
  refine x_put X hf (ci := 7) (j := 4) (ty := .int) rfl (by decide) rfl lf_Table_36 rfl (by decide +kernel) rfl rfl d_Table_fill_19 22 rfl (fun h6 hf => ?_)
  refine x_aload_n X (q := 0) d_Table_fill_22 rfl 23 rfl ?_
  refine x_getR X hf (ci := 7) (j := 2) rfl (by decide) rfl lf_Table_18 d_Table_fill_23 26 rfl (fun o7 hf => ?_)
  refine x_iconst X (v := 0) d_Table_fill_26 (by decide) 27 rfl ?_
  refine x_callS0v X (t_Arrays_fill1 hf) lm_Table_37 im_Arrays_fill1 cd_Arrays_fill1 in_Arrays ds_Arrays_fill1 rfl rfl (Nat.le_of_ble_eq_true rfl) (Nat.le_of_ble_eq_true rfl) (Nat.le_of_ble_eq_true rfl) rfl rfl (Nat.le_refl 0) (Nat.le_refl 0) d_Table_fill_27 30 rfl (fun h8 hf => ?_)
  refine x_iconst X (v := 0) d_Table_fill_30 (by decide) 31 rfl ?_
  refine x_istore_n X (lv' := [(2, .int 0), (0, .ref a0), (1, .ref a1)]) d_Table_fill_31 rfl (by decide) rfl 32 rfl ?_
  exact x_sub [1, 2, 0] rfl (t_Table_fill_32 X hret hf)

set_option maxRecDepth 100000 in
def wp_Table_unlike (z : Nat → Nat) (Q : Int32 → xh → Prop) (a0 : Nat) (x1 : Int32) (x2 : Int32) (hp : xh) : Prop :=
  ∀ v1, v1 = (x1 / 64) → ∀ v2, v2 = (64 + (x1 - x1 / 64 * 64)) → ∃ o3, fR hp a0 7 1 = some o3 ∧ (∃ v4, aI hp o3 0 ((v1 * 8) + x2) = some v4 ∧ (∃ o5, fR hp a0 7 1 = some o5 ∧ (∃ v6, aI hp o5 0 ((v2 * 8) + x2) = some v6 ∧ (Q (v4 ^^^ v6) hp))))
set_option maxRecDepth 100000 in
set_option maxHeartbeats 4000000 in
theorem t_Table_unlike {l : Launch} {G : xG} {z : Nat → Nat} {Q : Int32 → xh → Prop} {a0 : Nat} {x1 : Int32} {x2 : Int32} {hp : xh} (hf : wp_Table_unlike z Q a0 x1 x2 hp) : xM l G z y_Table_unlike b_Table_unlike 5 (some .int) rm_Table_unlike [.ref a0, .int x1, .int x2] hp (xqi Q) := by
  refine xM_of (by decide) (Nat.le_of_ble_eq_true rfl) (lv0 := [(0, .ref a0), (1, .int x1), (2, .int x2)]) rfl ?_
  intro p e s m args below meth c A Qw X hret
  unfold wp_Table_unlike at hf
  refine x_iload_n X (q := 1) d_Table_unlike_0 rfl 1 rfl ?_
  refine x_bipush X (v := 64) d_Table_unlike_1 (by decide) 3 rfl ?_
  refine x_idiv X (by decide) d_Table_unlike_3 4 rfl ?_
  refine x_istoreN_n X hf d_Table_unlike_4 rfl (by decide) (lw := fun v1 => [(3, .int v1), (0, .ref a0), (1, .int x1), (2, .int x2)]) (fun _ => rfl) 5 rfl (fun v1 hf => ?_)
  refine x_bipush X (v := 64) d_Table_unlike_5 (by decide) 7 rfl ?_
  refine x_iload_n X (q := 2) d_Table_unlike_7 rfl 8 rfl ?_
  refine x_bipush X (v := 64) d_Table_unlike_8 (by decide) 10 rfl ?_
  refine x_irem X (by decide) d_Table_unlike_10 11 rfl ?_
  refine x_iadd X d_Table_unlike_11 12 rfl ?_
  refine x_istoreN X hf d_Table_unlike_12 (by decide) (lw := fun v2 => [(4, .int v2), (3, .int v1), (0, .ref a0), (1, .int x1), (2, .int x2)]) (fun _ => rfl) 14 rfl (fun v2 hf => ?_)
  refine x_aload_n X (q := 2) d_Table_unlike_14 rfl 15 rfl ?_
  refine x_getR X hf (ci := 7) (j := 1) rfl (by decide) rfl lf_Table_15 d_Table_unlike_15 18 rfl (fun o3 hf => ?_)
  refine x_iload_n X (q := 1) d_Table_unlike_18 rfl 19 rfl ?_
  refine x_bipush X (v := 8) d_Table_unlike_19 (by decide) 21 rfl ?_
  refine x_imul X d_Table_unlike_21 22 rfl ?_
  refine x_iload_n X (q := 4) d_Table_unlike_22 rfl 23 rfl ?_
  refine x_iadd X d_Table_unlike_23 24 rfl ?_
  refine x_iald X hf d_Table_unlike_24 25 rfl (fun v4 hf => ?_)
  refine x_aload_n X (q := 2) d_Table_unlike_25 rfl 26 rfl ?_
  refine x_getR X hf (ci := 7) (j := 1) rfl (by decide) rfl lf_Table_15 d_Table_unlike_26 29 rfl (fun o5 hf => ?_)
  refine x_iload X (q := 0) d_Table_unlike_29 rfl 31 rfl ?_
  refine x_bipush X (v := 8) d_Table_unlike_31 (by decide) 33 rfl ?_
  refine x_imul X d_Table_unlike_33 34 rfl ?_
  refine x_iload_n X (q := 4) d_Table_unlike_34 rfl 35 rfl ?_
  refine x_iadd X d_Table_unlike_35 36 rfl ?_
  refine x_iald X hf d_Table_unlike_36 37 rfl (fun v6 hf => ?_)
  refine x_ixor X d_Table_unlike_37 38 rfl ?_
  exact hret _ _ _ _ _ (some (.int (v4 ^^^ v6))) (Nat.le_refl 0) (Nat.le_refl 0) ⟨_, rfl, hf⟩ ⟨⟨_, rfl, rfl⟩, d_Table_unlike_38⟩

set_option maxRecDepth 100000 in
def wp_Table_telling_4_b (z : Nat → Nat) (Q : Int32 → xh → Prop)  (k4 : Nat × Int32 × Int32 × Int32 × xh → Prop) (a0 : Nat) (x1 : Int32) (x2 : Int32) (x3 : Int32) (hp : xh) : Prop :=
  ∃ v1, fI hp a0 7 4 = some v1 ∧ ((v1 ≤ x3 → Q x2 hp) ∧ (¬ v1 ≤ x3 → (xcls hp a0 7 ∧ wp_Table_unlike z (fun v3 h2 => ∀ v4, v4 = (x2 ||| v3) → k4 (a0, x1, v4, (x3 + 1), h2)) a0 x1 x3 hp)))
set_option maxRecDepth 100000 in
def wp_Table_telling_4 (z : Nat → Nat) (Q : Int32 → xh → Prop)  (a0 : Nat) (x1 : Int32) (x2 : Int32) (x3 : Int32) (hp : xh) : Prop := ∃ f : Nat, xloop (fun k4 a => wp_Table_telling_4_b z Q  k4 a.1 a.2.1 a.2.2.1 a.2.2.2.1 a.2.2.2.2) f (a0, x1, x2, x3, hp)
set_option maxRecDepth 100000 in
set_option maxHeartbeats 4000000 in
theorem t_Table_telling_4 {p : Program} {l : Launch} {e : Env} {s : State} {m : MethodId} {args : Array Value} {below : List Frame} {meth : Method} {c : Code} {G : xG} {z : Nat → Nat} {A : Nat → Prop} {Qw : State → Prop} {Q : Int32 → xh → Prop} {a0 : Nat} {x1 : Int32} {x2 : Int32} {x3 : Int32} {hp : xh} (X : xX p l e rm_Table_telling s m args below meth c G z A y_Table_telling b_Table_telling 4) (hret : xRet p l e rm_Table_telling s m args below meth c G A 4 Qw b_Table_telling (some .int) (xqi Q))  (hf : wp_Table_telling_4 z Q  a0 x1 x2 x3 hp) : xE p l e rm_Table_telling s m args below meth c G A 4 Qw 0 0 hp 4 [(0, .ref a0), (1, .int x1), (2, .int x2), (3, .int x3)] [] := by
  obtain ⟨f, hf⟩ := hf
  refine xloop_ind (F := fun k4 a => wp_Table_telling_4_b z Q  k4 a.1 a.2.1 a.2.2.1 a.2.2.2.1 a.2.2.2.2) (E := fun a => xE p l e rm_Table_telling s m args below meth c G A 4 Qw 0 0 a.2.2.2.2 4 [(0, .ref (a.1)), (1, .int (a.2.1)), (2, .int (a.2.2.1)), (3, .int (a.2.2.2.1))] []) ?_ f (a0, x1, x2, x3, hp) hf
  intro k4 hk a hf
  obtain ⟨a0, x1, x2, x3, hp⟩ := a
  have hk4 : ∀ (a0 : Nat) (x1 : Int32) (x2 : Int32) (x3 : Int32) (hp : xh), k4 (a0, x1, x2, x3, hp) → xE p l e rm_Table_telling s m args below meth c G A 4 Qw 0 0 hp 4 [(0, .ref a0), (1, .int x1), (2, .int x2), (3, .int x3)] [] := fun a0 x1 x2 x3 hp h => hk (a0, x1, x2, x3, hp) h
  have hf : wp_Table_telling_4_b z Q  k4 a0 x1 x2 x3 hp := hf
  unfold wp_Table_telling_4_b at hf
  refine x_iload_n X (q := 3) d_Table_telling_4 rfl 5 rfl ?_
  refine x_aload_n X (q := 0) d_Table_telling_5 rfl 6 rfl ?_
  refine x_getI X hf (ci := 7) (j := 4) rfl (by decide) rfl lf_Table_36 d_Table_telling_6 9 rfl (fun v1 hf => ?_)
  refine x_icmp_ge X hf d_Table_telling_9 27 12 (by decide) rfl (fun hf => ?_) (fun hf => ?_)
  · refine x_iload_n X (q := 2) d_Table_telling_27 rfl 28 rfl ?_
    exact hret _ _ _ _ _ (some (.int x2)) (Nat.le_refl 0) (Nat.le_refl 0) ⟨_, rfl, hf⟩ ⟨⟨_, rfl, rfl⟩, d_Table_telling_28⟩
  · refine x_iload_n X (q := 2) d_Table_telling_12 rfl 13 rfl ?_
    refine x_aload_n X (q := 0) d_Table_telling_13 rfl 14 rfl ?_
    refine x_iload_n X (q := 1) d_Table_telling_14 rfl 15 rfl ?_
    refine x_iload_n X (q := 3) d_Table_telling_15 rfl 16 rfl ?_
    refine x_callV0i X (t_Table_unlike hf.2) hf.1 (ci := 7) rfl rfl lm_Table_65 im_Table_unlike sl_Table_unlike cd_Table_unlike in_Table ds_Table_unlike rfl rfl (Nat.le_of_ble_eq_true rfl) (Nat.le_of_ble_eq_true rfl) (Nat.le_of_ble_eq_true rfl) rfl rfl (Nat.le_refl 0) (Nat.le_refl 0) d_Table_telling_16 19 rfl (fun v3 h2 hf => ?_)
    refine x_ior X d_Table_telling_19 20 rfl ?_
    refine x_istoreN_n X hf d_Table_telling_20 rfl (by decide) (lw := fun v4 => [(2, .int v4), (0, .ref a0), (1, .int x1), (3, .int x3)]) (fun _ => rfl) 21 rfl (fun v4 hf => ?_)
    refine x_iinc X (q := 3) (v := (x3 + 1)) (lv' := [(3, .int (x3 + 1)), (2, .int v4), (0, .ref a0), (1, .int x1)]) d_Table_telling_21 rfl (by rfl) (by decide) rfl 24 rfl ?_
    refine x_goto X d_Table_telling_24 4 (by decide) ?_
    exact x_sub [2, 3, 1, 0] rfl (hk4 _ _ _ _ _ hf)
set_option maxRecDepth 100000 in
def wp_Table_telling (z : Nat → Nat) (Q : Int32 → xh → Prop) (a0 : Nat) (x1 : Int32) (hp : xh) : Prop :=
  wp_Table_telling_4 z Q a0 x1 0 0 hp
set_option maxRecDepth 100000 in
set_option maxHeartbeats 4000000 in
theorem t_Table_telling {l : Launch} {G : xG} {z : Nat → Nat} {Q : Int32 → xh → Prop} {a0 : Nat} {x1 : Int32} {hp : xh} (hf : wp_Table_telling z Q a0 x1 hp) : xM l G z y_Table_telling b_Table_telling 4 (some .int) rm_Table_telling [.ref a0, .int x1] hp (xqi Q) := by
  refine xM_of (by decide) (Nat.le_of_ble_eq_true rfl) (lv0 := [(0, .ref a0), (1, .int x1)]) rfl ?_
  intro p e s m args below meth c A Qw X hret
  unfold wp_Table_telling at hf
  refine x_iconst X (v := 0) d_Table_telling_0 (by decide) 1 rfl ?_
  refine x_istore_n X (lv' := [(2, .int 0), (0, .ref a0), (1, .int x1)]) d_Table_telling_1 rfl (by decide) rfl 2 rfl ?_
  refine x_iconst X (v := 0) d_Table_telling_2 (by decide) 3 rfl ?_
  refine x_istore_n X (lv' := [(3, .int 0), (2, .int 0), (0, .ref a0), (1, .int x1)]) d_Table_telling_3 rfl (by decide) rfl 4 rfl ?_
  exact x_sub [2, 3, 1, 0] rfl (t_Table_telling_4 X hret hf)

set_option maxRecDepth 100000 in
def wp_Integer_numberOfTrailingZeros_74 (z : Nat → Nat) (Q : Int32 → xh → Prop)  (x0 : Int32) (x1 : Int32) (hp : xh) : Prop :=
  Q (x1 + (x0.toUInt32 >>> ((1 : Int32).toUInt32 &&& Int32.toUInt32 31)).toInt32) hp
set_option maxRecDepth 100000 in
set_option maxHeartbeats 4000000 in
theorem t_Integer_numberOfTrailingZeros_74 {p : Program} {l : Launch} {e : Env} {s : State} {m : MethodId} {args : Array Value} {below : List Frame} {meth : Method} {c : Code} {G : xG} {z : Nat → Nat} {A : Nat → Prop} {Qw : State → Prop} {Q : Int32 → xh → Prop} {x0 : Int32} {x1 : Int32} {hp : xh} (X : xX p l e rm_Integer_numberOfTrailingZeros s m args below meth c G z A y_Integer_numberOfTrailingZeros b_Integer_numberOfTrailingZeros 2) (hret : xRet p l e rm_Integer_numberOfTrailingZeros s m args below meth c G A 2 Qw b_Integer_numberOfTrailingZeros (some .int) (xqi Q))  (hf : wp_Integer_numberOfTrailingZeros_74 z Q  x0 x1 hp) : xE p l e rm_Integer_numberOfTrailingZeros s m args below meth c G A 2 Qw 0 0 hp 74 [(0, .int x0), (1, .int x1)] [] := by
  unfold wp_Integer_numberOfTrailingZeros_74 at hf
  refine x_iload_n X (q := 1) d_Integer_numberOfTrailingZeros_74 rfl 75 rfl ?_
  refine x_iload_n X (q := 0) d_Integer_numberOfTrailingZeros_75 rfl 76 rfl ?_
  refine x_iconst X (v := 1) d_Integer_numberOfTrailingZeros_76 (by decide) 77 rfl ?_
  refine x_iushr X d_Integer_numberOfTrailingZeros_77 78 rfl ?_
  refine x_iadd X d_Integer_numberOfTrailingZeros_78 79 rfl ?_
  exact hret _ _ _ _ _ (some (.int (x1 + (x0.toUInt32 >>> ((1 : Int32).toUInt32 &&& Int32.toUInt32 31)).toInt32))) (Nat.le_refl 0) (Nat.le_refl 0) ⟨_, rfl, hf⟩ ⟨⟨_, rfl, rfl⟩, d_Integer_numberOfTrailingZeros_79⟩
set_option maxRecDepth 100000 in
def wp_Integer_numberOfTrailingZeros_62 (z : Nat → Nat) (Q : Int32 → xh → Prop)  (x0 : Int32) (x1 : Int32) (hp : xh) : Prop :=
  (x0 ≤ 4 → wp_Integer_numberOfTrailingZeros_74 z Q x0 x1 hp) ∧ (¬ x0 ≤ 4 → (∀ v1, v1 = (x0.toUInt32 >>> ((2 : Int32).toUInt32 &&& Int32.toUInt32 31)).toInt32 → wp_Integer_numberOfTrailingZeros_74 z Q v1 (x1 + 2) hp))
set_option maxRecDepth 100000 in
set_option maxHeartbeats 4000000 in
theorem t_Integer_numberOfTrailingZeros_62 {p : Program} {l : Launch} {e : Env} {s : State} {m : MethodId} {args : Array Value} {below : List Frame} {meth : Method} {c : Code} {G : xG} {z : Nat → Nat} {A : Nat → Prop} {Qw : State → Prop} {Q : Int32 → xh → Prop} {x0 : Int32} {x1 : Int32} {hp : xh} (X : xX p l e rm_Integer_numberOfTrailingZeros s m args below meth c G z A y_Integer_numberOfTrailingZeros b_Integer_numberOfTrailingZeros 2) (hret : xRet p l e rm_Integer_numberOfTrailingZeros s m args below meth c G A 2 Qw b_Integer_numberOfTrailingZeros (some .int) (xqi Q))  (hf : wp_Integer_numberOfTrailingZeros_62 z Q  x0 x1 hp) : xE p l e rm_Integer_numberOfTrailingZeros s m args below meth c G A 2 Qw 0 0 hp 62 [(0, .int x0), (1, .int x1)] [] := by
  unfold wp_Integer_numberOfTrailingZeros_62 at hf
  refine x_iload_n X (q := 0) d_Integer_numberOfTrailingZeros_62 rfl 63 rfl ?_
  refine x_iconst X (v := 4) d_Integer_numberOfTrailingZeros_63 (by decide) 64 rfl ?_
  refine x_icmp_le X hf d_Integer_numberOfTrailingZeros_64 74 67 (by decide) rfl (fun hf => ?_) (fun hf => ?_)
  · exact x_sub [0, 1] rfl (t_Integer_numberOfTrailingZeros_74 X hret hf)
  · refine x_iinc X (q := 1) (v := (x1 + 2)) (lv' := [(1, .int (x1 + 2)), (0, .int x0)]) d_Integer_numberOfTrailingZeros_67 rfl (by rfl) (by decide) rfl 70 rfl ?_
    refine x_iload_n X (q := 1) d_Integer_numberOfTrailingZeros_70 rfl 71 rfl ?_
    refine x_iconst X (v := 2) d_Integer_numberOfTrailingZeros_71 (by decide) 72 rfl ?_
    refine x_iushr X d_Integer_numberOfTrailingZeros_72 73 rfl ?_
    refine x_istoreN_n X hf d_Integer_numberOfTrailingZeros_73 rfl (by decide) (lw := fun v1 => [(0, .int v1), (1, .int (x1 + 2))]) (fun _ => rfl) 74 rfl (fun v1 hf => ?_)
    exact x_sub [0, 1] rfl (t_Integer_numberOfTrailingZeros_74 X hret hf)
set_option maxRecDepth 100000 in
def wp_Integer_numberOfTrailingZeros_49 (z : Nat → Nat) (Q : Int32 → xh → Prop)  (x0 : Int32) (x1 : Int32) (hp : xh) : Prop :=
  (x0 ≤ 16 → wp_Integer_numberOfTrailingZeros_62 z Q x0 x1 hp) ∧ (¬ x0 ≤ 16 → (∀ v1, v1 = (x0.toUInt32 >>> ((4 : Int32).toUInt32 &&& Int32.toUInt32 31)).toInt32 → wp_Integer_numberOfTrailingZeros_62 z Q v1 (x1 + 4) hp))
set_option maxRecDepth 100000 in
set_option maxHeartbeats 4000000 in
theorem t_Integer_numberOfTrailingZeros_49 {p : Program} {l : Launch} {e : Env} {s : State} {m : MethodId} {args : Array Value} {below : List Frame} {meth : Method} {c : Code} {G : xG} {z : Nat → Nat} {A : Nat → Prop} {Qw : State → Prop} {Q : Int32 → xh → Prop} {x0 : Int32} {x1 : Int32} {hp : xh} (X : xX p l e rm_Integer_numberOfTrailingZeros s m args below meth c G z A y_Integer_numberOfTrailingZeros b_Integer_numberOfTrailingZeros 2) (hret : xRet p l e rm_Integer_numberOfTrailingZeros s m args below meth c G A 2 Qw b_Integer_numberOfTrailingZeros (some .int) (xqi Q))  (hf : wp_Integer_numberOfTrailingZeros_49 z Q  x0 x1 hp) : xE p l e rm_Integer_numberOfTrailingZeros s m args below meth c G A 2 Qw 0 0 hp 49 [(0, .int x0), (1, .int x1)] [] := by
  unfold wp_Integer_numberOfTrailingZeros_49 at hf
  refine x_iload_n X (q := 0) d_Integer_numberOfTrailingZeros_49 rfl 50 rfl ?_
  refine x_bipush X (v := 16) d_Integer_numberOfTrailingZeros_50 (by decide) 52 rfl ?_
  refine x_icmp_le X hf d_Integer_numberOfTrailingZeros_52 62 55 (by decide) rfl (fun hf => ?_) (fun hf => ?_)
  · exact x_sub [0, 1] rfl (t_Integer_numberOfTrailingZeros_62 X hret hf)
  · refine x_iinc X (q := 1) (v := (x1 + 4)) (lv' := [(1, .int (x1 + 4)), (0, .int x0)]) d_Integer_numberOfTrailingZeros_55 rfl (by rfl) (by decide) rfl 58 rfl ?_
    refine x_iload_n X (q := 1) d_Integer_numberOfTrailingZeros_58 rfl 59 rfl ?_
    refine x_iconst X (v := 4) d_Integer_numberOfTrailingZeros_59 (by decide) 60 rfl ?_
    refine x_iushr X d_Integer_numberOfTrailingZeros_60 61 rfl ?_
    refine x_istoreN_n X hf d_Integer_numberOfTrailingZeros_61 rfl (by decide) (lw := fun v1 => [(0, .int v1), (1, .int (x1 + 4))]) (fun _ => rfl) 62 rfl (fun v1 hf => ?_)
    exact x_sub [0, 1] rfl (t_Integer_numberOfTrailingZeros_62 X hret hf)
set_option maxRecDepth 100000 in
def wp_Integer_numberOfTrailingZeros_34 (z : Nat → Nat) (Q : Int32 → xh → Prop)  (x0 : Int32) (x1 : Int32) (hp : xh) : Prop :=
  (x0 ≤ 256 → wp_Integer_numberOfTrailingZeros_49 z Q x0 x1 hp) ∧ (¬ x0 ≤ 256 → (∀ v1, v1 = (x0.toUInt32 >>> ((8 : Int32).toUInt32 &&& Int32.toUInt32 31)).toInt32 → wp_Integer_numberOfTrailingZeros_49 z Q v1 (x1 + 8) hp))
set_option maxRecDepth 100000 in
set_option maxHeartbeats 4000000 in
theorem t_Integer_numberOfTrailingZeros_34 {p : Program} {l : Launch} {e : Env} {s : State} {m : MethodId} {args : Array Value} {below : List Frame} {meth : Method} {c : Code} {G : xG} {z : Nat → Nat} {A : Nat → Prop} {Qw : State → Prop} {Q : Int32 → xh → Prop} {x0 : Int32} {x1 : Int32} {hp : xh} (X : xX p l e rm_Integer_numberOfTrailingZeros s m args below meth c G z A y_Integer_numberOfTrailingZeros b_Integer_numberOfTrailingZeros 2) (hret : xRet p l e rm_Integer_numberOfTrailingZeros s m args below meth c G A 2 Qw b_Integer_numberOfTrailingZeros (some .int) (xqi Q))  (hf : wp_Integer_numberOfTrailingZeros_34 z Q  x0 x1 hp) : xE p l e rm_Integer_numberOfTrailingZeros s m args below meth c G A 2 Qw 0 0 hp 34 [(0, .int x0), (1, .int x1)] [] := by
  unfold wp_Integer_numberOfTrailingZeros_34 at hf
  refine x_iload_n X (q := 0) d_Integer_numberOfTrailingZeros_34 rfl 35 rfl ?_
  refine x_sipush X (v := 256) d_Integer_numberOfTrailingZeros_35 (by decide) 38 rfl ?_
  refine x_icmp_le X hf d_Integer_numberOfTrailingZeros_38 49 41 (by decide) rfl (fun hf => ?_) (fun hf => ?_)
  · exact x_sub [0, 1] rfl (t_Integer_numberOfTrailingZeros_49 X hret hf)
  · refine x_iinc X (q := 1) (v := (x1 + 8)) (lv' := [(1, .int (x1 + 8)), (0, .int x0)]) d_Integer_numberOfTrailingZeros_41 rfl (by rfl) (by decide) rfl 44 rfl ?_
    refine x_iload_n X (q := 1) d_Integer_numberOfTrailingZeros_44 rfl 45 rfl ?_
    refine x_bipush X (v := 8) d_Integer_numberOfTrailingZeros_45 (by decide) 47 rfl ?_
    refine x_iushr X d_Integer_numberOfTrailingZeros_47 48 rfl ?_
    refine x_istoreN_n X hf d_Integer_numberOfTrailingZeros_48 rfl (by decide) (lw := fun v1 => [(0, .int v1), (1, .int (x1 + 8))]) (fun _ => rfl) 49 rfl (fun v1 hf => ?_)
    exact x_sub [0, 1] rfl (t_Integer_numberOfTrailingZeros_49 X hret hf)
set_option maxRecDepth 100000 in
def wp_Integer_numberOfTrailingZeros (z : Nat → Nat) (Q : Int32 → xh → Prop) (x0 : Int32) (hp : xh) : Prop :=
  ∀ v1, v1 = ((x0 ^^^ (-1)) &&& (x0 - 1)) → (0 < v1 → ((v1 ≤ 65536 → wp_Integer_numberOfTrailingZeros_34 z Q v1 1 hp) ∧ (¬ v1 ≤ 65536 → (∀ v2, v2 = (v1.toUInt32 >>> ((16 : Int32).toUInt32 &&& Int32.toUInt32 31)).toInt32 → wp_Integer_numberOfTrailingZeros_34 z Q v2 (1 + 16) hp)))) ∧ (¬ 0 < v1 → (Q (v1 &&& 32) hp))
set_option maxRecDepth 100000 in
set_option maxHeartbeats 4000000 in
theorem t_Integer_numberOfTrailingZeros {l : Launch} {G : xG} {z : Nat → Nat} {Q : Int32 → xh → Prop} {x0 : Int32} {hp : xh} (hf : wp_Integer_numberOfTrailingZeros z Q x0 hp) : xM l G z y_Integer_numberOfTrailingZeros b_Integer_numberOfTrailingZeros 2 (some .int) rm_Integer_numberOfTrailingZeros [.int x0] hp (xqi Q) := by
  refine xM_of (by decide) (Nat.le_of_ble_eq_true rfl) (lv0 := [(0, .int x0)]) rfl ?_
  intro p e s m args below meth c A Qw X hret
  unfold wp_Integer_numberOfTrailingZeros at hf
  refine x_iload_n X (q := 0) d_Integer_numberOfTrailingZeros_0 rfl 1 rfl ?_
  refine x_iconst X (v := (-1)) d_Integer_numberOfTrailingZeros_1 (by decide) 2 rfl ?_
  refine x_ixor X d_Integer_numberOfTrailingZeros_2 3 rfl ?_
  refine x_iload_n X (q := 0) d_Integer_numberOfTrailingZeros_3 rfl 4 rfl ?_
  refine x_iconst X (v := 1) d_Integer_numberOfTrailingZeros_4 (by decide) 5 rfl ?_
  refine x_isub X d_Integer_numberOfTrailingZeros_5 6 rfl ?_
  refine x_iand X d_Integer_numberOfTrailingZeros_6 7 rfl ?_
  refine x_istoreN_n X hf d_Integer_numberOfTrailingZeros_7 rfl (by decide) (lw := fun v1 => [(0, .int v1)]) (fun _ => rfl) 8 rfl (fun v1 hf => ?_)
  refine x_iload_n X (q := 0) d_Integer_numberOfTrailingZeros_8 rfl 9 rfl ?_
  refine x_if_gt X hf d_Integer_numberOfTrailingZeros_9 17 12 (by decide) rfl (fun hf => ?_) (fun hf => ?_)
  · refine x_iconst X (v := 1) d_Integer_numberOfTrailingZeros_17 (by decide) 18 rfl ?_
    refine x_istore_n X (lv' := [(1, .int 1), (0, .int v1)]) d_Integer_numberOfTrailingZeros_18 rfl (by decide) rfl 19 rfl ?_
    refine x_iload_n X (q := 1) d_Integer_numberOfTrailingZeros_19 rfl 20 rfl ?_
    refine x_ldc_w X (v := 65536) co_Integer_264 d_Integer_numberOfTrailingZeros_20 23 rfl ?_
    refine x_icmp_le X hf d_Integer_numberOfTrailingZeros_23 34 26 (by decide) rfl (fun hf => ?_) (fun hf => ?_)
    · exact x_sub [1, 0] rfl (t_Integer_numberOfTrailingZeros_34 X hret hf)
    · refine x_iinc X (q := 0) (v := (1 + 16)) (lv' := [(1, .int (1 + 16)), (0, .int v1)]) d_Integer_numberOfTrailingZeros_26 rfl (by rfl) (by decide) rfl 29 rfl ?_
      refine x_iload_n X (q := 1) d_Integer_numberOfTrailingZeros_29 rfl 30 rfl ?_
      refine x_bipush X (v := 16) d_Integer_numberOfTrailingZeros_30 (by decide) 32 rfl ?_
      refine x_iushr X d_Integer_numberOfTrailingZeros_32 33 rfl ?_
      refine x_istoreN_n X hf d_Integer_numberOfTrailingZeros_33 rfl (by decide) (lw := fun v2 => [(0, .int v2), (1, .int (1 + 16))]) (fun _ => rfl) 34 rfl (fun v2 hf => ?_)
      exact x_sub [0, 1] rfl (t_Integer_numberOfTrailingZeros_34 X hret hf)
  · refine x_iload_n X (q := 0) d_Integer_numberOfTrailingZeros_12 rfl 13 rfl ?_
    refine x_bipush X (v := 32) d_Integer_numberOfTrailingZeros_13 (by decide) 15 rfl ?_
    refine x_iand X d_Integer_numberOfTrailingZeros_15 16 rfl ?_
    exact hret _ _ _ _ _ (some (.int (v1 &&& 32))) (Nat.le_refl 0) (Nat.le_refl 0) ⟨_, rfl, hf⟩ ⟨⟨_, rfl, rfl⟩, d_Integer_numberOfTrailingZeros_16⟩

set_option maxRecDepth 100000 in
def wp_Table_lowestUnlike_31 (z : Nat → Nat) (Q : Int32 → xh → Prop)  (x3 : Int32) (hp : xh) : Prop :=
  Q x3 hp
set_option maxRecDepth 100000 in
set_option maxHeartbeats 4000000 in
theorem t_Table_lowestUnlike_31 {p : Program} {l : Launch} {e : Env} {s : State} {m : MethodId} {args : Array Value} {below : List Frame} {meth : Method} {c : Code} {G : xG} {z : Nat → Nat} {A : Nat → Prop} {Qw : State → Prop} {Q : Int32 → xh → Prop} {x3 : Int32} {hp : xh} (X : xX p l e rm_Table_lowestUnlike s m args below meth c G z A y_Table_lowestUnlike b_Table_lowestUnlike 4) (hret : xRet p l e rm_Table_lowestUnlike s m args below meth c G A 4 Qw b_Table_lowestUnlike (some .int) (xqi Q))  (hf : wp_Table_lowestUnlike_31 z Q  x3 hp) : xE p l e rm_Table_lowestUnlike s m args below meth c G A 4 Qw 0 0 hp 31 [(3, .int x3)] [] := by
  unfold wp_Table_lowestUnlike_31 at hf
  refine x_iload_n X (q := 0) d_Table_lowestUnlike_31 rfl 32 rfl ?_
  exact hret _ _ _ _ _ (some (.int x3)) (Nat.le_refl 0) (Nat.le_refl 0) ⟨_, rfl, hf⟩ ⟨⟨_, rfl, rfl⟩, d_Table_lowestUnlike_32⟩
set_option maxRecDepth 100000 in
def wp_Table_lowestUnlike_2_b (z : Nat → Nat) (Q : Int32 → xh → Prop)  (k2 : Nat × Int32 × Int32 × Int32 × xh → Prop) (a0 : Nat) (x1 : Int32) (x2 : Int32) (x3 : Int32) (hp : xh) : Prop :=
  ∃ v1, fI hp a0 7 4 = some v1 ∧ (((v1 - 1) ≤ x3 → wp_Table_lowestUnlike_31 z Q x3 hp) ∧ (¬ (v1 - 1) ≤ x3 → (xcls hp a0 7 ∧ wp_Table_unlike z (fun v3 h2 => (¬ ((v3 >>> (x2 &&& 31)) &&& 1) = 0 → wp_Table_lowestUnlike_31 z Q x3 h2) ∧ (((v3 >>> (x2 &&& 31)) &&& 1) = 0 → (k2 (a0, x1, x2, (x3 + 1), h2)))) a0 x1 x3 hp)))
set_option maxRecDepth 100000 in
def wp_Table_lowestUnlike_2 (z : Nat → Nat) (Q : Int32 → xh → Prop)  (a0 : Nat) (x1 : Int32) (x2 : Int32) (x3 : Int32) (hp : xh) : Prop := ∃ f : Nat, xloop (fun k2 a => wp_Table_lowestUnlike_2_b z Q  k2 a.1 a.2.1 a.2.2.1 a.2.2.2.1 a.2.2.2.2) f (a0, x1, x2, x3, hp)
set_option maxRecDepth 100000 in
set_option maxHeartbeats 4000000 in
theorem t_Table_lowestUnlike_2 {p : Program} {l : Launch} {e : Env} {s : State} {m : MethodId} {args : Array Value} {below : List Frame} {meth : Method} {c : Code} {G : xG} {z : Nat → Nat} {A : Nat → Prop} {Qw : State → Prop} {Q : Int32 → xh → Prop} {a0 : Nat} {x1 : Int32} {x2 : Int32} {x3 : Int32} {hp : xh} (X : xX p l e rm_Table_lowestUnlike s m args below meth c G z A y_Table_lowestUnlike b_Table_lowestUnlike 4) (hret : xRet p l e rm_Table_lowestUnlike s m args below meth c G A 4 Qw b_Table_lowestUnlike (some .int) (xqi Q))  (hf : wp_Table_lowestUnlike_2 z Q  a0 x1 x2 x3 hp) : xE p l e rm_Table_lowestUnlike s m args below meth c G A 4 Qw 0 0 hp 2 [(0, .ref a0), (1, .int x1), (2, .int x2), (3, .int x3)] [] := by
  obtain ⟨f, hf⟩ := hf
  refine xloop_ind (F := fun k2 a => wp_Table_lowestUnlike_2_b z Q  k2 a.1 a.2.1 a.2.2.1 a.2.2.2.1 a.2.2.2.2) (E := fun a => xE p l e rm_Table_lowestUnlike s m args below meth c G A 4 Qw 0 0 a.2.2.2.2 2 [(0, .ref (a.1)), (1, .int (a.2.1)), (2, .int (a.2.2.1)), (3, .int (a.2.2.2.1))] []) ?_ f (a0, x1, x2, x3, hp) hf
  intro k2 hk a hf
  obtain ⟨a0, x1, x2, x3, hp⟩ := a
  have hk2 : ∀ (a0 : Nat) (x1 : Int32) (x2 : Int32) (x3 : Int32) (hp : xh), k2 (a0, x1, x2, x3, hp) → xE p l e rm_Table_lowestUnlike s m args below meth c G A 4 Qw 0 0 hp 2 [(0, .ref a0), (1, .int x1), (2, .int x2), (3, .int x3)] [] := fun a0 x1 x2 x3 hp h => hk (a0, x1, x2, x3, hp) h
  have hf : wp_Table_lowestUnlike_2_b z Q  k2 a0 x1 x2 x3 hp := hf
  unfold wp_Table_lowestUnlike_2_b at hf
  refine x_iload_n X (q := 3) d_Table_lowestUnlike_2 rfl 3 rfl ?_
  refine x_aload_n X (q := 0) d_Table_lowestUnlike_3 rfl 4 rfl ?_
  refine x_getI X hf (ci := 7) (j := 4) rfl (by decide) rfl lf_Table_36 d_Table_lowestUnlike_4 7 rfl (fun v1 hf => ?_)
  refine x_iconst X (v := 1) d_Table_lowestUnlike_7 (by decide) 8 rfl ?_
  refine x_isub X d_Table_lowestUnlike_8 9 rfl ?_
  refine x_icmp_ge X hf d_Table_lowestUnlike_9 31 12 (by decide) rfl (fun hf => ?_) (fun hf => ?_)
  · exact x_sub [3] rfl (t_Table_lowestUnlike_31 X hret hf)
  · refine x_aload_n X (q := 0) d_Table_lowestUnlike_12 rfl 13 rfl ?_
    refine x_iload_n X (q := 1) d_Table_lowestUnlike_13 rfl 14 rfl ?_
    refine x_iload_n X (q := 3) d_Table_lowestUnlike_14 rfl 15 rfl ?_
    refine x_callV0i X (t_Table_unlike hf.2) hf.1 (ci := 7) rfl rfl lm_Table_65 im_Table_unlike sl_Table_unlike cd_Table_unlike in_Table ds_Table_unlike rfl rfl (Nat.le_of_ble_eq_true rfl) (Nat.le_of_ble_eq_true rfl) (Nat.le_of_ble_eq_true rfl) rfl rfl (Nat.le_refl 0) (Nat.le_refl 0) d_Table_lowestUnlike_15 18 rfl (fun v3 h2 hf => ?_)
    refine x_iload_n X (q := 2) d_Table_lowestUnlike_18 rfl 19 rfl ?_
    refine x_ishr X d_Table_lowestUnlike_19 20 rfl ?_
    refine x_iconst X (v := 1) d_Table_lowestUnlike_20 (by decide) 21 rfl ?_
    refine x_iand X d_Table_lowestUnlike_21 22 rfl ?_
    refine x_if_ne X hf d_Table_lowestUnlike_22 31 25 (by decide) rfl (fun hf => ?_) (fun hf => ?_)
    · exact x_sub [3] rfl (t_Table_lowestUnlike_31 X hret hf)
    · refine x_iinc X (q := 3) (v := (x3 + 1)) (lv' := [(3, .int (x3 + 1)), (0, .ref a0), (1, .int x1), (2, .int x2)]) d_Table_lowestUnlike_25 rfl (by rfl) (by decide) rfl 28 rfl ?_
      refine x_goto X d_Table_lowestUnlike_28 2 (by decide) ?_
      exact x_sub [1, 2, 3, 0] rfl (hk2 _ _ _ _ _ hf)
set_option maxRecDepth 100000 in
def wp_Table_lowestUnlike (z : Nat → Nat) (Q : Int32 → xh → Prop) (a0 : Nat) (x1 : Int32) (x2 : Int32) (hp : xh) : Prop :=
  wp_Table_lowestUnlike_2 z Q a0 x1 x2 0 hp
set_option maxRecDepth 100000 in
set_option maxHeartbeats 4000000 in
theorem t_Table_lowestUnlike {l : Launch} {G : xG} {z : Nat → Nat} {Q : Int32 → xh → Prop} {a0 : Nat} {x1 : Int32} {x2 : Int32} {hp : xh} (hf : wp_Table_lowestUnlike z Q a0 x1 x2 hp) : xM l G z y_Table_lowestUnlike b_Table_lowestUnlike 4 (some .int) rm_Table_lowestUnlike [.ref a0, .int x1, .int x2] hp (xqi Q) := by
  refine xM_of (by decide) (Nat.le_of_ble_eq_true rfl) (lv0 := [(0, .ref a0), (1, .int x1), (2, .int x2)]) rfl ?_
  intro p e s m args below meth c A Qw X hret
  unfold wp_Table_lowestUnlike at hf
  refine x_iconst X (v := 0) d_Table_lowestUnlike_0 (by decide) 1 rfl ?_
  refine x_istore_n X (lv' := [(3, .int 0), (0, .ref a0), (1, .int x1), (2, .int x2)]) d_Table_lowestUnlike_1 rfl (by decide) rfl 2 rfl ?_
  exact x_sub [1, 2, 3, 0] rfl (t_Table_lowestUnlike_2 X hret hf)

set_option maxRecDepth 100000 in
def wp_Walk_traceBack_9_b (z : Nat → Nat) (Q : xh → Prop)  (k9 : Nat × Int32 × Int32 × xh → Prop) (a0 : Nat) (x2 : Int32) (x3 : Int32) (hp : xh) : Prop :=
  (x3 ≤ 0 → Q hp) ∧ (¬ x3 ≤ 0 → (∃ o1, fR hp a0 9 4 = some o1 ∧ (∃ o2, fR hp a0 9 3 = some o2 ∧ (∃ v3, aI hp o2 0 x2 = some v3 ∧ (∃ h4, sI hp o1 0 (x3 - 1) (v3 - v3 / 32 * 32) = some h4 ∧ (∃ o5, fR h4 a0 9 3 = some o5 ∧ (∃ v6, aI h4 o5 0 x2 = some v6 ∧ (∀ v7, v7 = (v6 / 32) → k9 (a0, v7, (x3 + (-1)), h4)))))))))
set_option maxRecDepth 100000 in
def wp_Walk_traceBack_9 (z : Nat → Nat) (Q : xh → Prop)  (a0 : Nat) (x2 : Int32) (x3 : Int32) (hp : xh) : Prop := ∃ f : Nat, xloop (fun k9 a => wp_Walk_traceBack_9_b z Q  k9 a.1 a.2.1 a.2.2.1 a.2.2.2) f (a0, x2, x3, hp)
set_option maxRecDepth 100000 in
set_option maxHeartbeats 4000000 in
theorem t_Walk_traceBack_9 {p : Program} {l : Launch} {e : Env} {s : State} {m : MethodId} {args : Array Value} {below : List Frame} {meth : Method} {c : Code} {G : xG} {z : Nat → Nat} {A : Nat → Prop} {Qw : State → Prop} {Q : xh → Prop} {a0 : Nat} {x2 : Int32} {x3 : Int32} {hp : xh} (X : xX p l e rm_Walk_traceBack s m args below meth c G z A y_Walk_traceBack b_Walk_traceBack 4) (hret : xRet p l e rm_Walk_traceBack s m args below meth c G A 4 Qw b_Walk_traceBack none (xqv Q))  (hf : wp_Walk_traceBack_9 z Q  a0 x2 x3 hp) : xE p l e rm_Walk_traceBack s m args below meth c G A 4 Qw 0 0 hp 9 [(0, .ref a0), (2, .int x2), (3, .int x3)] [] := by
  obtain ⟨f, hf⟩ := hf
  refine xloop_ind (F := fun k9 a => wp_Walk_traceBack_9_b z Q  k9 a.1 a.2.1 a.2.2.1 a.2.2.2) (E := fun a => xE p l e rm_Walk_traceBack s m args below meth c G A 4 Qw 0 0 a.2.2.2 9 [(0, .ref (a.1)), (2, .int (a.2.1)), (3, .int (a.2.2.1))] []) ?_ f (a0, x2, x3, hp) hf
  intro k9 hk a hf
  obtain ⟨a0, x2, x3, hp⟩ := a
  have hk9 : ∀ (a0 : Nat) (x2 : Int32) (x3 : Int32) (hp : xh), k9 (a0, x2, x3, hp) → xE p l e rm_Walk_traceBack s m args below meth c G A 4 Qw 0 0 hp 9 [(0, .ref a0), (2, .int x2), (3, .int x3)] [] := fun a0 x2 x3 hp h => hk (a0, x2, x3, hp) h
  have hf : wp_Walk_traceBack_9_b z Q  k9 a0 x2 x3 hp := hf
  unfold wp_Walk_traceBack_9_b at hf
  refine x_iload_n X (q := 2) d_Walk_traceBack_9 rfl 10 rfl ?_
  refine x_if_le X hf d_Walk_traceBack_10 46 13 (by decide) rfl (fun hf => ?_) (fun hf => ?_)
  · exact hret _ _ _ _ _ none (Nat.le_refl 0) (Nat.le_refl 0) ⟨rfl, hf⟩ ⟨rfl, d_Walk_traceBack_46⟩
  · refine x_aload_n X (q := 0) d_Walk_traceBack_13 rfl 14 rfl ?_
    refine x_getR X hf (ci := 9) (j := 4) rfl (by decide) rfl lf_Walk_21 d_Walk_traceBack_14 17 rfl (fun o1 hf => ?_)
    refine x_iload_n X (q := 2) d_Walk_traceBack_17 rfl 18 rfl ?_
    refine x_iconst X (v := 1) d_Walk_traceBack_18 (by decide) 19 rfl ?_
    refine x_isub X d_Walk_traceBack_19 20 rfl ?_
    refine x_aload_n X (q := 0) d_Walk_traceBack_20 rfl 21 rfl ?_
    refine x_getR X hf (ci := 9) (j := 3) rfl (by decide) rfl lf_Walk_18 d_Walk_traceBack_21 24 rfl (fun o2 hf => ?_)
    refine x_iload_n X (q := 1) d_Walk_traceBack_24 rfl 25 rfl ?_
    refine x_iald X hf d_Walk_traceBack_25 26 rfl (fun v3 hf => ?_)
    refine x_bipush X (v := 32) d_Walk_traceBack_26 (by decide) 28 rfl ?_
    refine x_irem X (by decide) d_Walk_traceBack_28 29 rfl ?_
    refine x_iast X hf d_Walk_traceBack_29 30 rfl (fun h4 hf => ?_)
    refine x_aload_n X (q := 0) d_Walk_traceBack_30 rfl 31 rfl ?_
    refine x_getR X hf (ci := 9) (j := 3) rfl (by decide) rfl lf_Walk_18 d_Walk_traceBack_31 34 rfl (fun o5 hf => ?_)
    refine x_iload_n X (q := 1) d_Walk_traceBack_34 rfl 35 rfl ?_
    refine x_iald X hf d_Walk_traceBack_35 36 rfl (fun v6 hf => ?_)
    refine x_bipush X (v := 32) d_Walk_traceBack_36 (by decide) 38 rfl ?_
    refine x_idiv X (by decide) d_Walk_traceBack_38 39 rfl ?_
    refine x_istoreN_n X hf d_Walk_traceBack_39 rfl (by decide) (lw := fun v7 => [(2, .int v7), (0, .ref a0), (3, .int x3)]) (fun _ => rfl) 40 rfl (fun v7 hf => ?_)
    refine x_iinc X (q := 2) (v := (x3 + (-1))) (lv' := [(3, .int (x3 + (-1))), (2, .int v7), (0, .ref a0)]) d_Walk_traceBack_40 rfl (by rfl) (by decide) rfl 43 rfl ?_
    refine x_goto X d_Walk_traceBack_43 9 (by decide) ?_
    exact x_sub [2, 1, 0] rfl (hk9 _ _ _ _ hf)
set_option maxRecDepth 100000 in
def wp_Walk_traceBack (z : Nat → Nat) (Q : xh → Prop) (a0 : Nat) (x1 : Int32) (hp : xh) : Prop :=
  ∃ o1, fR hp a0 9 2 = some o1 ∧ (∃ v2, aI hp o1 0 x1 = some v2 ∧ wp_Walk_traceBack_9 z Q a0 x1 v2 hp)
set_option maxRecDepth 100000 in
set_option maxHeartbeats 4000000 in
theorem t_Walk_traceBack {l : Launch} {G : xG} {z : Nat → Nat} {Q : xh → Prop} {a0 : Nat} {x1 : Int32} {hp : xh} (hf : wp_Walk_traceBack z Q a0 x1 hp) : xM l G z y_Walk_traceBack b_Walk_traceBack 4 none rm_Walk_traceBack [.ref a0, .int x1] hp (xqv Q) := by
  refine xM_of (by decide) (Nat.le_of_ble_eq_true rfl) (lv0 := [(0, .ref a0), (1, .int x1)]) rfl ?_
  intro p e s m args below meth c A Qw X hret
  unfold wp_Walk_traceBack at hf
  refine x_iload_n X (q := 1) d_Walk_traceBack_0 rfl 1 rfl ?_
  refine x_istore_n X (lv' := [(2, .int x1), (0, .ref a0), (1, .int x1)]) d_Walk_traceBack_1 rfl (by decide) rfl 2 rfl ?_
  refine x_aload_n X (q := 1) d_Walk_traceBack_2 rfl 3 rfl ?_
  refine x_getR X hf (ci := 9) (j := 2) rfl (by decide) rfl lf_Walk_15 d_Walk_traceBack_3 6 rfl (fun o1 hf => ?_)
  refine x_iload_n X (q := 2) d_Walk_traceBack_6 rfl 7 rfl ?_
  refine x_iald X hf d_Walk_traceBack_7 8 rfl (fun v2 hf => ?_)
  refine x_istore_n X (lv' := [(3, .int v2), (2, .int x1), (0, .ref a0), (1, .int x1)]) d_Walk_traceBack_8 rfl (by decide) rfl 9 rfl ?_
  exact x_sub [2, 1, 0] rfl (t_Walk_traceBack_9 X hret hf)

set_option maxRecDepth 100000 in
def wp_Walk_tryToTell (z : Nat → Nat) (Q : xh → Prop) (a0 : Nat) (x1 : Int32) (hp : xh) : Prop :=
  ∃ o1, fR hp a0 9 0 = some o1 ∧ (xcls hp o1 7 ∧ wp_Table_telling z (fun v3 h2 => (v3 = 0 → Q h2) ∧ (¬ v3 = 0 → (wp_Integer_numberOfTrailingZeros z (fun v5 h4 => ∃ o6, fR h4 a0 9 0 = some o6 ∧ (xcls h4 o6 7 ∧ wp_Table_lowestUnlike z (fun v8 h7 => ∃ h9, pV h7 a0 9 7 (.int v8) = some h9 ∧ (∃ o10, fR h9 a0 9 2 = some o10 ∧ (∃ v11, aI h9 o10 0 x1 = some v11 ∧ (∃ h12, pV h9 a0 9 6 (.int (v11 + 1)) = some h12 ∧ (∃ o13, fR h12 a0 9 4 = some o13 ∧ (∃ v14, fI h12 a0 9 6 = some v14 ∧ (∃ h15, sI h12 o13 0 (v14 - 1) v5 = some h15 ∧ (xcls h15 a0 9 ∧ wp_Walk_traceBack z (fun h16 => Q h16) a0 x1 h15)))))))) o6 x1 v5 h4)) v3 h2))) o1 x1 hp)
set_option maxRecDepth 100000 in
set_option maxHeartbeats 4000000 in
theorem t_Walk_tryToTell {l : Launch} {G : xG} {z : Nat → Nat} {Q : xh → Prop} {a0 : Nat} {x1 : Int32} {hp : xh} (hf : wp_Walk_tryToTell z Q a0 x1 hp) : xM l G z y_Walk_tryToTell b_Walk_tryToTell 4 none rm_Walk_tryToTell [.ref a0, .int x1] hp (xqv Q) := by
  refine xM_of (by decide) (Nat.le_of_ble_eq_true rfl) (lv0 := [(0, .ref a0), (1, .int x1)]) rfl ?_
  intro p e s m args below meth c A Qw X hret
  unfold wp_Walk_tryToTell at hf
  refine x_aload_n X (q := 0) d_Walk_tryToTell_0 rfl 1 rfl ?_
  refine x_getR X hf (ci := 9) (j := 0) rfl (by decide) rfl lf_Walk_24 d_Walk_tryToTell_1 4 rfl (fun o1 hf => ?_)
  refine x_iload_n X (q := 1) d_Walk_tryToTell_4 rfl 5 rfl ?_
  refine x_callV0i X (t_Table_telling hf.2) hf.1 (ci := 7) rfl rfl lm_Walk_59 im_Table_telling sl_Table_telling cd_Table_telling in_Table ds_Table_telling rfl rfl (Nat.le_of_ble_eq_true rfl) (Nat.le_of_ble_eq_true rfl) (Nat.le_of_ble_eq_true rfl) rfl rfl (Nat.le_refl 0) (Nat.le_refl 0) d_Walk_tryToTell_5 8 rfl (fun v3 h2 hf => ?_)
  refine x_istore_n X (lv' := [(2, .int v3), (0, .ref a0), (1, .int x1)]) d_Walk_tryToTell_8 rfl (by decide) rfl 9 rfl ?_
  refine x_iload_n X (q := 0) d_Walk_tryToTell_9 rfl 10 rfl ?_
  refine x_if_eq X hf d_Walk_tryToTell_10 60 13 (by decide) rfl (fun hf => ?_) (fun hf => ?_)
  · exact hret _ _ _ _ _ none (Nat.le_refl 0) (Nat.le_refl 0) ⟨rfl, hf⟩ ⟨rfl, d_Walk_tryToTell_60⟩
  · refine x_iload_n X (q := 0) d_Walk_tryToTell_13 rfl 14 rfl ?_
    refine x_callS0i X (t_Integer_numberOfTrailingZeros hf) lm_Walk_63 im_Integer_numberOfTrailingZeros cd_Integer_numberOfTrailingZeros in_Integer ds_Integer_numberOfTrailingZeros rfl rfl (Nat.le_of_ble_eq_true rfl) (Nat.le_of_ble_eq_true rfl) (Nat.le_of_ble_eq_true rfl) rfl rfl (Nat.le_refl 0) (Nat.le_refl 0) d_Walk_tryToTell_14 17 rfl (fun v5 h4 hf => ?_)
    refine x_istore_n X (lv' := [(3, .int v5), (2, .int v3), (0, .ref a0), (1, .int x1)]) d_Walk_tryToTell_17 rfl (by decide) rfl 18 rfl ?_
    refine x_aload_n X (q := 2) d_Walk_tryToTell_18 rfl 19 rfl ?_
    refine x_aload_n X (q := 2) d_Walk_tryToTell_19 rfl 20 rfl ?_
    refine x_getR X hf (ci := 9) (j := 0) rfl (by decide) rfl lf_Walk_24 d_Walk_tryToTell_20 23 rfl (fun o6 hf => ?_)
    refine x_iload_n X (q := 3) d_Walk_tryToTell_23 rfl 24 rfl ?_
    refine x_iload_n X (q := 0) d_Walk_tryToTell_24 rfl 25 rfl ?_
    refine x_callV0i X (t_Table_lowestUnlike hf.2) hf.1 (ci := 7) rfl rfl lm_Walk_68 im_Table_lowestUnlike sl_Table_lowestUnlike cd_Table_lowestUnlike in_Table ds_Table_lowestUnlike rfl rfl (Nat.le_of_ble_eq_true rfl) (Nat.le_of_ble_eq_true rfl) (Nat.le_of_ble_eq_true rfl) rfl rfl (Nat.le_refl 0) (Nat.le_refl 0) d_Walk_tryToTell_25 28 rfl (fun v8 h7 hf => ?_)
    refine x_put X hf (ci := 9) (j := 7) (ty := .int) rfl (by decide) rfl lf_Walk_41 rfl (by decide +kernel) rfl rfl d_Walk_tryToTell_28 31 rfl (fun h9 hf => ?_)
    refine x_aload_n X (q := 2) d_Walk_tryToTell_31 rfl 32 rfl ?_
    refine x_aload_n X (q := 2) d_Walk_tryToTell_32 rfl 33 rfl ?_
    refine x_getR X hf (ci := 9) (j := 2) rfl (by decide) rfl lf_Walk_15 d_Walk_tryToTell_33 36 rfl (fun o10 hf => ?_)
    refine x_iload_n X (q := 3) d_Walk_tryToTell_36 rfl 37 rfl ?_
    refine x_iald X hf d_Walk_tryToTell_37 38 rfl (fun v11 hf => ?_)
    refine x_iconst X (v := 1) d_Walk_tryToTell_38 (by decide) 39 rfl ?_
    refine x_iadd X d_Walk_tryToTell_39 40 rfl ?_
    refine x_put X hf (ci := 9) (j := 6) (ty := .int) rfl (by decide) rfl lf_Walk_38 rfl (by decide +kernel) rfl rfl d_Walk_tryToTell_40 43 rfl (fun h12 hf => ?_)
    refine x_aload_n X (q := 2) d_Walk_tryToTell_43 rfl 44 rfl ?_
    refine x_getR X hf (ci := 9) (j := 4) rfl (by decide) rfl lf_Walk_21 d_Walk_tryToTell_44 47 rfl (fun o13 hf => ?_)
    refine x_aload_n X (q := 2) d_Walk_tryToTell_47 rfl 48 rfl ?_
    refine x_getI X hf (ci := 9) (j := 6) rfl (by decide) rfl lf_Walk_38 d_Walk_tryToTell_48 51 rfl (fun v14 hf => ?_)
    refine x_iconst X (v := 1) d_Walk_tryToTell_51 (by decide) 52 rfl ?_
    refine x_isub X d_Walk_tryToTell_52 53 rfl ?_
    refine x_iload_n X (q := 0) d_Walk_tryToTell_53 rfl 54 rfl ?_
    refine x_iast X hf d_Walk_tryToTell_54 55 rfl (fun h15 hf => ?_)
    refine x_aload_n X (q := 2) d_Walk_tryToTell_55 rfl 56 rfl ?_
    refine x_iload_n X (q := 3) d_Walk_tryToTell_56 rfl 57 rfl ?_
    refine x_callV0v X (t_Walk_traceBack hf.2) hf.1 (ci := 9) rfl rfl lm_Walk_71 im_Walk_traceBack sl_Walk_traceBack cd_Walk_traceBack in_Walk ds_Walk_traceBack rfl rfl (Nat.le_of_ble_eq_true rfl) (Nat.le_of_ble_eq_true rfl) (Nat.le_of_ble_eq_true rfl) rfl rfl (Nat.le_refl 0) (Nat.le_refl 0) d_Walk_tryToTell_57 60 rfl (fun h16 hf => ?_)
    exact hret _ _ _ _ _ none (Nat.le_refl 0) (Nat.le_refl 0) ⟨rfl, hf⟩ ⟨rfl, d_Walk_tryToTell_60⟩

set_option maxRecDepth 100000 in
def wp_Table_next (z : Nat → Nat) (Q : Int32 → xh → Prop) (a0 : Nat) (x1 : Int32) (x2 : Int32) (hp : xh) : Prop :=
  ∀ v1, v1 = (x1 / 64) → ∀ v2, v2 = (64 + (x1 - x1 / 64 * 64)) → ∃ o3, fR hp a0 7 2 = some o3 ∧ (∃ v4, aI hp o3 0 ((v1 * 32) + x2) = some v4 ∧ (∃ o5, fR hp a0 7 2 = some o5 ∧ (∃ v6, aI hp o5 0 ((v2 * 32) + x2) = some v6 ∧ (Q ((v4 * 64) + v6) hp))))
set_option maxRecDepth 100000 in
set_option maxHeartbeats 4000000 in
theorem t_Table_next {l : Launch} {G : xG} {z : Nat → Nat} {Q : Int32 → xh → Prop} {a0 : Nat} {x1 : Int32} {x2 : Int32} {hp : xh} (hf : wp_Table_next z Q a0 x1 x2 hp) : xM l G z y_Table_next b_Table_next 5 (some .int) rm_Table_next [.ref a0, .int x1, .int x2] hp (xqi Q) := by
  refine xM_of (by decide) (Nat.le_of_ble_eq_true rfl) (lv0 := [(0, .ref a0), (1, .int x1), (2, .int x2)]) rfl ?_
  intro p e s m args below meth c A Qw X hret
  unfold wp_Table_next at hf
  refine x_iload_n X (q := 1) d_Table_next_0 rfl 1 rfl ?_
  refine x_bipush X (v := 64) d_Table_next_1 (by decide) 3 rfl ?_
  refine x_idiv X (by decide) d_Table_next_3 4 rfl ?_
  refine x_istoreN_n X hf d_Table_next_4 rfl (by decide) (lw := fun v1 => [(3, .int v1), (0, .ref a0), (1, .int x1), (2, .int x2)]) (fun _ => rfl) 5 rfl (fun v1 hf => ?_)
  refine x_bipush X (v := 64) d_Table_next_5 (by decide) 7 rfl ?_
  refine x_iload_n X (q := 2) d_Table_next_7 rfl 8 rfl ?_
  refine x_bipush X (v := 64) d_Table_next_8 (by decide) 10 rfl ?_
  refine x_irem X (by decide) d_Table_next_10 11 rfl ?_
  refine x_iadd X d_Table_next_11 12 rfl ?_
  refine x_istoreN X hf d_Table_next_12 (by decide) (lw := fun v2 => [(4, .int v2), (3, .int v1), (0, .ref a0), (1, .int x1), (2, .int x2)]) (fun _ => rfl) 14 rfl (fun v2 hf => ?_)
  refine x_aload_n X (q := 2) d_Table_next_14 rfl 15 rfl ?_
  refine x_getR X hf (ci := 7) (j := 2) rfl (by decide) rfl lf_Table_18 d_Table_next_15 18 rfl (fun o3 hf => ?_)
  refine x_iload_n X (q := 1) d_Table_next_18 rfl 19 rfl ?_
  refine x_bipush X (v := 32) d_Table_next_19 (by decide) 21 rfl ?_
  refine x_imul X d_Table_next_21 22 rfl ?_
  refine x_iload_n X (q := 4) d_Table_next_22 rfl 23 rfl ?_
  refine x_iadd X d_Table_next_23 24 rfl ?_
  refine x_iald X hf d_Table_next_24 25 rfl (fun v4 hf => ?_)
  refine x_bipush X (v := 64) d_Table_next_25 (by decide) 27 rfl ?_
  refine x_imul X d_Table_next_27 28 rfl ?_
  refine x_aload_n X (q := 2) d_Table_next_28 rfl 29 rfl ?_
  refine x_getR X hf (ci := 7) (j := 2) rfl (by decide) rfl lf_Table_18 d_Table_next_29 32 rfl (fun o5 hf => ?_)
  refine x_iload X (q := 0) d_Table_next_32 rfl 34 rfl ?_
  refine x_bipush X (v := 32) d_Table_next_34 (by decide) 36 rfl ?_
  refine x_imul X d_Table_next_36 37 rfl ?_
  refine x_iload_n X (q := 4) d_Table_next_37 rfl 38 rfl ?_
  refine x_iadd X d_Table_next_38 39 rfl ?_
  refine x_iald X hf d_Table_next_39 40 rfl (fun v6 hf => ?_)
  refine x_iadd X d_Table_next_40 41 rfl ?_
  exact hret _ _ _ _ _ (some (.int ((v4 * 64) + v6))) (Nat.le_refl 0) (Nat.le_refl 0) ⟨_, rfl, hf⟩ ⟨⟨_, rfl, rfl⟩, d_Table_next_41⟩

set_option maxRecDepth 100000 in
def wp_Walk_expand_79 (z : Nat → Nat) (Q : xh → Prop) (k2 : Nat × Int32 × Int32 × xh → Prop) (a0 : Nat) (x1 : Int32) (x2 : Int32) (hp : xh) : Prop :=
  k2 (a0, x1, (x2 + 1), hp)
set_option maxRecDepth 100000 in
set_option maxHeartbeats 4000000 in
theorem t_Walk_expand_79 {p : Program} {l : Launch} {e : Env} {s : State} {m : MethodId} {args : Array Value} {below : List Frame} {meth : Method} {c : Code} {G : xG} {z : Nat → Nat} {A : Nat → Prop} {Qw : State → Prop} {Q : xh → Prop} {k2 : Nat × Int32 × Int32 × xh → Prop} {a0 : Nat} {x1 : Int32} {x2 : Int32} {hp : xh} (X : xX p l e rm_Walk_expand s m args below meth c G z A y_Walk_expand b_Walk_expand 4) (hret : xRet p l e rm_Walk_expand s m args below meth c G A 4 Qw b_Walk_expand none (xqv Q)) (hk2 : ∀ (a0 : Nat) (x1 : Int32) (x2 : Int32) (hp : xh), k2 (a0, x1, x2, hp) → xE p l e rm_Walk_expand s m args below meth c G A 4 Qw 0 0 hp 2 [(0, .ref a0), (1, .int x1), (2, .int x2)] []) (hf : wp_Walk_expand_79 z Q k2 a0 x1 x2 hp) : xE p l e rm_Walk_expand s m args below meth c G A 4 Qw 0 0 hp 79 [(0, .ref a0), (1, .int x1), (2, .int x2)] [] := by
  unfold wp_Walk_expand_79 at hf
  refine x_iinc X (q := 2) (v := (x2 + 1)) (lv' := [(2, .int (x2 + 1)), (0, .ref a0), (1, .int x1)]) d_Walk_expand_79 rfl (by rfl) (by decide) rfl 82 rfl ?_
  refine x_goto X d_Walk_expand_82 2 (by decide) ?_
  exact x_sub [1, 2, 0] rfl (hk2 _ _ _ _ hf)
set_option maxRecDepth 100000 in
def wp_Walk_expand_2_b (z : Nat → Nat) (Q : xh → Prop)  (k2 : Nat × Int32 × Int32 × xh → Prop) (a0 : Nat) (x1 : Int32) (x2 : Int32) (hp : xh) : Prop :=
  ∃ o1, fR hp a0 9 0 = some o1 ∧ (∃ v2, fI hp o1 7 5 = some v2 ∧ ((v2 ≤ x2 → Q hp) ∧ (¬ v2 ≤ x2 → (∃ o3, fR hp a0 9 0 = some o3 ∧ (xcls hp o3 7 ∧ wp_Table_next z (fun v5 h4 => ∃ o6, fR h4 a0 9 2 = some o6 ∧ (∃ v7, aI h4 o6 0 v5 = some v7 ∧ ((¬ v7 = (-1) → wp_Walk_expand_79 z Q k2 a0 x1 x2 h4) ∧ (v7 = (-1) → (∃ o8, fR h4 a0 9 2 = some o8 ∧ (∃ o9, fR h4 a0 9 2 = some o9 ∧ (∃ v10, aI h4 o9 0 x1 = some v10 ∧ (∃ h11, sI h4 o8 0 v5 (v10 + 1) = some h11 ∧ (∃ o12, fR h11 a0 9 3 = some o12 ∧ (∃ h13, sI h11 o12 0 v5 ((x1 * 32) + x2) = some h13 ∧ (∃ o14, fR h13 a0 9 1 = some o14 ∧ (∃ v15, fI h13 a0 9 5 = some v15 ∧ (∃ h16, sI h13 o14 0 v15 v5 = some h16 ∧ (∃ v17, fI h16 a0 9 5 = some v17 ∧ (∃ h18, pV h16 a0 9 5 (.int (v17 + 1)) = some h18 ∧ wp_Walk_expand_79 z Q k2 a0 x1 x2 h18))))))))))))))) o3 x1 x2 hp)))))
set_option maxRecDepth 100000 in
def wp_Walk_expand_2 (z : Nat → Nat) (Q : xh → Prop)  (a0 : Nat) (x1 : Int32) (x2 : Int32) (hp : xh) : Prop := ∃ f : Nat, xloop (fun k2 a => wp_Walk_expand_2_b z Q  k2 a.1 a.2.1 a.2.2.1 a.2.2.2) f (a0, x1, x2, hp)
set_option maxRecDepth 100000 in
set_option maxHeartbeats 4000000 in
theorem t_Walk_expand_2 {p : Program} {l : Launch} {e : Env} {s : State} {m : MethodId} {args : Array Value} {below : List Frame} {meth : Method} {c : Code} {G : xG} {z : Nat → Nat} {A : Nat → Prop} {Qw : State → Prop} {Q : xh → Prop} {a0 : Nat} {x1 : Int32} {x2 : Int32} {hp : xh} (X : xX p l e rm_Walk_expand s m args below meth c G z A y_Walk_expand b_Walk_expand 4) (hret : xRet p l e rm_Walk_expand s m args below meth c G A 4 Qw b_Walk_expand none (xqv Q))  (hf : wp_Walk_expand_2 z Q  a0 x1 x2 hp) : xE p l e rm_Walk_expand s m args below meth c G A 4 Qw 0 0 hp 2 [(0, .ref a0), (1, .int x1), (2, .int x2)] [] := by
  obtain ⟨f, hf⟩ := hf
  refine xloop_ind (F := fun k2 a => wp_Walk_expand_2_b z Q  k2 a.1 a.2.1 a.2.2.1 a.2.2.2) (E := fun a => xE p l e rm_Walk_expand s m args below meth c G A 4 Qw 0 0 a.2.2.2 2 [(0, .ref (a.1)), (1, .int (a.2.1)), (2, .int (a.2.2.1))] []) ?_ f (a0, x1, x2, hp) hf
  intro k2 hk a hf
  obtain ⟨a0, x1, x2, hp⟩ := a
  have hk2 : ∀ (a0 : Nat) (x1 : Int32) (x2 : Int32) (hp : xh), k2 (a0, x1, x2, hp) → xE p l e rm_Walk_expand s m args below meth c G A 4 Qw 0 0 hp 2 [(0, .ref a0), (1, .int x1), (2, .int x2)] [] := fun a0 x1 x2 hp h => hk (a0, x1, x2, hp) h
  have hf : wp_Walk_expand_2_b z Q  k2 a0 x1 x2 hp := hf
  unfold wp_Walk_expand_2_b at hf
  refine x_iload_n X (q := 2) d_Walk_expand_2 rfl 3 rfl ?_
  refine x_aload_n X (q := 0) d_Walk_expand_3 rfl 4 rfl ?_
  refine x_getR X hf (ci := 9) (j := 0) rfl (by decide) rfl lf_Walk_24 d_Walk_expand_4 7 rfl (fun o1 hf => ?_)
  refine x_getI X hf (ci := 7) (j := 5) rfl (by decide) rfl lf_Walk_51 d_Walk_expand_7 10 rfl (fun v2 hf => ?_)
  refine x_icmp_ge X hf d_Walk_expand_10 85 13 (by decide) rfl (fun hf => ?_) (fun hf => ?_)
  · exact hret _ _ _ _ _ none (Nat.le_refl 0) (Nat.le_refl 0) ⟨rfl, hf⟩ ⟨rfl, d_Walk_expand_85⟩
  · refine x_aload_n X (q := 0) d_Walk_expand_13 rfl 14 rfl ?_
    refine x_getR X hf (ci := 9) (j := 0) rfl (by decide) rfl lf_Walk_24 d_Walk_expand_14 17 rfl (fun o3 hf => ?_)
    refine x_iload_n X (q := 1) d_Walk_expand_17 rfl 18 rfl ?_
    refine x_iload_n X (q := 2) d_Walk_expand_18 rfl 19 rfl ?_
    refine x_callV0i X (t_Table_next hf.2) hf.1 (ci := 7) rfl rfl lm_Walk_55 im_Table_next sl_Table_next cd_Table_next in_Table ds_Table_next rfl rfl (Nat.le_of_ble_eq_true rfl) (Nat.le_of_ble_eq_true rfl) (Nat.le_of_ble_eq_true rfl) rfl rfl (Nat.le_refl 0) (Nat.le_refl 0) d_Walk_expand_19 22 rfl (fun v5 h4 hf => ?_)
    refine x_istore_n X (lv' := [(3, .int v5), (0, .ref a0), (1, .int x1), (2, .int x2)]) d_Walk_expand_22 rfl (by decide) rfl 23 rfl ?_
    refine x_aload_n X (q := 1) d_Walk_expand_23 rfl 24 rfl ?_
    refine x_getR X hf (ci := 9) (j := 2) rfl (by decide) rfl lf_Walk_15 d_Walk_expand_24 27 rfl (fun o6 hf => ?_)
    refine x_iload_n X (q := 0) d_Walk_expand_27 rfl 28 rfl ?_
    refine x_iald X hf d_Walk_expand_28 29 rfl (fun v7 hf => ?_)
    refine x_iconst X (v := (-1)) d_Walk_expand_29 (by decide) 30 rfl ?_
    refine x_icmp_ne X hf d_Walk_expand_30 79 33 (by decide) rfl (fun hf => ?_) (fun hf => ?_)
    · exact x_sub [1, 2, 3] rfl (t_Walk_expand_79 X hret hk2 hf)
    · refine x_aload_n X (q := 1) d_Walk_expand_33 rfl 34 rfl ?_
      refine x_getR X hf (ci := 9) (j := 2) rfl (by decide) rfl lf_Walk_15 d_Walk_expand_34 37 rfl (fun o8 hf => ?_)
      refine x_iload_n X (q := 0) d_Walk_expand_37 rfl 38 rfl ?_
      refine x_aload_n X (q := 1) d_Walk_expand_38 rfl 39 rfl ?_
      refine x_getR X hf (ci := 9) (j := 2) rfl (by decide) rfl lf_Walk_15 d_Walk_expand_39 42 rfl (fun o9 hf => ?_)
      refine x_iload_n X (q := 2) d_Walk_expand_42 rfl 43 rfl ?_
      refine x_iald X hf d_Walk_expand_43 44 rfl (fun v10 hf => ?_)
      refine x_iconst X (v := 1) d_Walk_expand_44 (by decide) 45 rfl ?_
      refine x_iadd X d_Walk_expand_45 46 rfl ?_
      refine x_iast X hf d_Walk_expand_46 47 rfl (fun h11 hf => ?_)
      refine x_aload_n X (q := 1) d_Walk_expand_47 rfl 48 rfl ?_
      refine x_getR X hf (ci := 9) (j := 3) rfl (by decide) rfl lf_Walk_18 d_Walk_expand_48 51 rfl (fun o12 hf => ?_)
      refine x_iload_n X (q := 0) d_Walk_expand_51 rfl 52 rfl ?_
      refine x_iload_n X (q := 2) d_Walk_expand_52 rfl 53 rfl ?_
      refine x_bipush X (v := 32) d_Walk_expand_53 (by decide) 55 rfl ?_
      refine x_imul X d_Walk_expand_55 56 rfl ?_
      refine x_iload_n X (q := 3) d_Walk_expand_56 rfl 57 rfl ?_
      refine x_iadd X d_Walk_expand_57 58 rfl ?_
      refine x_iast X hf d_Walk_expand_58 59 rfl (fun h13 hf => ?_)
      refine x_aload_n X (q := 1) d_Walk_expand_59 rfl 60 rfl ?_
      refine x_getR X hf (ci := 9) (j := 1) rfl (by decide) rfl lf_Walk_9 d_Walk_expand_60 63 rfl (fun o14 hf => ?_)
      refine x_aload_n X (q := 1) d_Walk_expand_63 rfl 64 rfl ?_
      refine x_getI X hf (ci := 9) (j := 5) rfl (by decide) rfl lf_Walk_34 d_Walk_expand_64 67 rfl (fun v15 hf => ?_)
      refine x_iload_n X (q := 0) d_Walk_expand_67 rfl 68 rfl ?_
      refine x_iast X hf d_Walk_expand_68 69 rfl (fun h16 hf => ?_)
      refine x_aload_n X (q := 1) d_Walk_expand_69 rfl 70 rfl ?_
      refine x_dup X rfl d_Walk_expand_70 71 rfl ?_
      refine x_getI X hf (ci := 9) (j := 5) rfl (by decide) rfl lf_Walk_34 d_Walk_expand_71 74 rfl (fun v17 hf => ?_)
      refine x_iconst X (v := 1) d_Walk_expand_74 (by decide) 75 rfl ?_
      refine x_iadd X d_Walk_expand_75 76 rfl ?_
      refine x_put X hf (ci := 9) (j := 5) (ty := .int) rfl (by decide) rfl lf_Walk_34 rfl (by decide +kernel) rfl rfl d_Walk_expand_76 79 rfl (fun h18 hf => ?_)
      exact x_sub [1, 2, 3] rfl (t_Walk_expand_79 X hret hk2 hf)
set_option maxRecDepth 100000 in
def wp_Walk_expand (z : Nat → Nat) (Q : xh → Prop) (a0 : Nat) (x1 : Int32) (hp : xh) : Prop :=
  wp_Walk_expand_2 z Q a0 x1 0 hp
set_option maxRecDepth 100000 in
set_option maxHeartbeats 4000000 in
theorem t_Walk_expand {l : Launch} {G : xG} {z : Nat → Nat} {Q : xh → Prop} {a0 : Nat} {x1 : Int32} {hp : xh} (hf : wp_Walk_expand z Q a0 x1 hp) : xM l G z y_Walk_expand b_Walk_expand 4 none rm_Walk_expand [.ref a0, .int x1] hp (xqv Q) := by
  refine xM_of (by decide) (Nat.le_of_ble_eq_true rfl) (lv0 := [(0, .ref a0), (1, .int x1)]) rfl ?_
  intro p e s m args below meth c A Qw X hret
  unfold wp_Walk_expand at hf
  refine x_iconst X (v := 0) d_Walk_expand_0 (by decide) 1 rfl ?_
  refine x_istore_n X (lv' := [(2, .int 0), (0, .ref a0), (1, .int x1)]) d_Walk_expand_1 rfl (by decide) rfl 2 rfl ?_
  exact x_sub [1, 2, 0] rfl (t_Walk_expand_2 X hret hf)

set_option maxRecDepth 100000 in
def wp_Walk_explore_71 (z : Nat → Nat) (Q : xh → Prop) (k39 : Nat × Int32 × xh → Prop) (a0 : Nat) (x1 : Int32) (hp : xh) : Prop :=
  ∃ o1, fR hp a0 9 1 = some o1 ∧ (∃ v2, aI hp o1 0 x1 = some v2 ∧ (xcls hp a0 9 ∧ wp_Walk_expand z (fun h3 => k39 (a0, (x1 + 1), h3)) a0 v2 hp))
set_option maxRecDepth 100000 in
set_option maxHeartbeats 4000000 in
theorem t_Walk_explore_71 {p : Program} {l : Launch} {e : Env} {s : State} {m : MethodId} {args : Array Value} {below : List Frame} {meth : Method} {c : Code} {G : xG} {z : Nat → Nat} {A : Nat → Prop} {Qw : State → Prop} {Q : xh → Prop} {k39 : Nat × Int32 × xh → Prop} {a0 : Nat} {x1 : Int32} {hp : xh} (X : xX p l e rm_Walk_explore s m args below meth c G z A y_Walk_explore b_Walk_explore 2) (hret : xRet p l e rm_Walk_explore s m args below meth c G A 2 Qw b_Walk_explore none (xqv Q)) (hk39 : ∀ (a0 : Nat) (x1 : Int32) (hp : xh), k39 (a0, x1, hp) → xE p l e rm_Walk_explore s m args below meth c G A 2 Qw 0 0 hp 39 [(0, .ref a0), (1, .int x1)] []) (hf : wp_Walk_explore_71 z Q k39 a0 x1 hp) : xE p l e rm_Walk_explore s m args below meth c G A 2 Qw 0 0 hp 71 [(0, .ref a0), (1, .int x1)] [] := by
  unfold wp_Walk_explore_71 at hf
  refine x_aload_n X (q := 0) d_Walk_explore_71 rfl 72 rfl ?_
  refine x_aload_n X (q := 0) d_Walk_explore_72 rfl 73 rfl ?_
  refine x_getR X hf (ci := 9) (j := 1) rfl (by decide) rfl lf_Walk_9 d_Walk_explore_73 76 rfl (fun o1 hf => ?_)
  refine x_iload_n X (q := 1) d_Walk_explore_76 rfl 77 rfl ?_
  refine x_iald X hf d_Walk_explore_77 78 rfl (fun v2 hf => ?_)
  refine x_callV0v X (t_Walk_expand hf.2) hf.1 (ci := 9) rfl rfl lm_Walk_48 im_Walk_expand sl_Walk_expand cd_Walk_expand in_Walk ds_Walk_expand rfl rfl (Nat.le_of_ble_eq_true rfl) (Nat.le_of_ble_eq_true rfl) (Nat.le_of_ble_eq_true rfl) rfl rfl (Nat.le_refl 0) (Nat.le_refl 0) d_Walk_explore_78 81 rfl (fun h3 hf => ?_)
  refine x_iinc X (q := 1) (v := (x1 + 1)) (lv' := [(1, .int (x1 + 1)), (0, .ref a0)]) d_Walk_explore_81 rfl (by rfl) (by decide) rfl 84 rfl ?_
  refine x_goto X d_Walk_explore_84 39 (by decide) ?_
  exact x_sub [1, 0] rfl (hk39 _ _ _ hf)
set_option maxRecDepth 100000 in
def wp_Walk_explore_39_b (z : Nat → Nat) (Q : xh → Prop)  (k39 : Nat × Int32 × xh → Prop) (a0 : Nat) (x1 : Int32) (hp : xh) : Prop :=
  ∃ v1, fI hp a0 9 5 = some v1 ∧ ((v1 ≤ x1 → Q hp) ∧ (¬ v1 ≤ x1 → ((4096 ≤ x1 → Q hp) ∧ (¬ 4096 ≤ x1 → (∃ v2, fI hp a0 9 6 = some v2 ∧ ((¬ v2 = 0 → wp_Walk_explore_71 z Q k39 a0 x1 hp) ∧ (v2 = 0 → (∃ o3, fR hp a0 9 1 = some o3 ∧ (∃ v4, aI hp o3 0 x1 = some v4 ∧ (xcls hp a0 9 ∧ wp_Walk_tryToTell z (fun h5 => wp_Walk_explore_71 z Q k39 a0 x1 h5) a0 v4 hp))))))))))
set_option maxRecDepth 100000 in
def wp_Walk_explore_39 (z : Nat → Nat) (Q : xh → Prop)  (a0 : Nat) (x1 : Int32) (hp : xh) : Prop := ∃ f : Nat, xloop (fun k39 a => wp_Walk_explore_39_b z Q  k39 a.1 a.2.1 a.2.2) f (a0, x1, hp)
set_option maxRecDepth 100000 in
set_option maxHeartbeats 4000000 in
theorem t_Walk_explore_39 {p : Program} {l : Launch} {e : Env} {s : State} {m : MethodId} {args : Array Value} {below : List Frame} {meth : Method} {c : Code} {G : xG} {z : Nat → Nat} {A : Nat → Prop} {Qw : State → Prop} {Q : xh → Prop} {a0 : Nat} {x1 : Int32} {hp : xh} (X : xX p l e rm_Walk_explore s m args below meth c G z A y_Walk_explore b_Walk_explore 2) (hret : xRet p l e rm_Walk_explore s m args below meth c G A 2 Qw b_Walk_explore none (xqv Q))  (hf : wp_Walk_explore_39 z Q  a0 x1 hp) : xE p l e rm_Walk_explore s m args below meth c G A 2 Qw 0 0 hp 39 [(0, .ref a0), (1, .int x1)] [] := by
  obtain ⟨f, hf⟩ := hf
  refine xloop_ind (F := fun k39 a => wp_Walk_explore_39_b z Q  k39 a.1 a.2.1 a.2.2) (E := fun a => xE p l e rm_Walk_explore s m args below meth c G A 2 Qw 0 0 a.2.2 39 [(0, .ref (a.1)), (1, .int (a.2.1))] []) ?_ f (a0, x1, hp) hf
  intro k39 hk a hf
  obtain ⟨a0, x1, hp⟩ := a
  have hk39 : ∀ (a0 : Nat) (x1 : Int32) (hp : xh), k39 (a0, x1, hp) → xE p l e rm_Walk_explore s m args below meth c G A 2 Qw 0 0 hp 39 [(0, .ref a0), (1, .int x1)] [] := fun a0 x1 hp h => hk (a0, x1, hp) h
  have hf : wp_Walk_explore_39_b z Q  k39 a0 x1 hp := hf
  unfold wp_Walk_explore_39_b at hf
  refine x_iload_n X (q := 1) d_Walk_explore_39 rfl 40 rfl ?_
  refine x_aload_n X (q := 0) d_Walk_explore_40 rfl 41 rfl ?_
  refine x_getI X hf (ci := 9) (j := 5) rfl (by decide) rfl lf_Walk_34 d_Walk_explore_41 44 rfl (fun v1 hf => ?_)
  refine x_icmp_ge X hf d_Walk_explore_44 87 47 (by decide) rfl (fun hf => ?_) (fun hf => ?_)
  · exact hret _ _ _ _ _ none (Nat.le_refl 0) (Nat.le_refl 0) ⟨rfl, hf⟩ ⟨rfl, d_Walk_explore_87⟩
  · refine x_iload_n X (q := 1) d_Walk_explore_47 rfl 48 rfl ?_
    refine x_sipush X (v := 4096) d_Walk_explore_48 (by decide) 51 rfl ?_
    refine x_icmp_ge X hf d_Walk_explore_51 87 54 (by decide) rfl (fun hf => ?_) (fun hf => ?_)
    · exact hret _ _ _ _ _ none (Nat.le_refl 0) (Nat.le_refl 0) ⟨rfl, hf⟩ ⟨rfl, d_Walk_explore_87⟩
    · refine x_aload_n X (q := 0) d_Walk_explore_54 rfl 55 rfl ?_
      refine x_getI X hf (ci := 9) (j := 6) rfl (by decide) rfl lf_Walk_38 d_Walk_explore_55 58 rfl (fun v2 hf => ?_)
      refine x_if_ne X hf d_Walk_explore_58 71 61 (by decide) rfl (fun hf => ?_) (fun hf => ?_)
      · exact x_sub [0, 1] rfl (t_Walk_explore_71 X hret hk39 hf)
      · refine x_aload_n X (q := 0) d_Walk_explore_61 rfl 62 rfl ?_
        refine x_aload_n X (q := 0) d_Walk_explore_62 rfl 63 rfl ?_
        refine x_getR X hf (ci := 9) (j := 1) rfl (by decide) rfl lf_Walk_9 d_Walk_explore_63 66 rfl (fun o3 hf => ?_)
        refine x_iload_n X (q := 1) d_Walk_explore_66 rfl 67 rfl ?_
        refine x_iald X hf d_Walk_explore_67 68 rfl (fun v4 hf => ?_)
        refine x_callV0v X (t_Walk_tryToTell hf.2) hf.1 (ci := 9) rfl rfl lm_Walk_44 im_Walk_tryToTell sl_Walk_tryToTell cd_Walk_tryToTell in_Walk ds_Walk_tryToTell rfl rfl (Nat.le_of_ble_eq_true rfl) (Nat.le_of_ble_eq_true rfl) (Nat.le_of_ble_eq_true rfl) rfl rfl (Nat.le_refl 0) (Nat.le_refl 0) d_Walk_explore_68 71 rfl (fun h5 hf => ?_)
        exact x_sub [0, 1] rfl (t_Walk_explore_71 X hret hk39 hf)
set_option maxRecDepth 100000 in
def wp_Walk_explore (z : Nat → Nat) (Q : xh → Prop) (a0 : Nat) (hp : xh) : Prop :=
  ∃ o1, fR hp a0 9 2 = some o1 ∧ (wp_Arrays_fill1 z (fun h2 => ∃ o3, fR h2 a0 9 2 = some o3 ∧ (∃ h4, sI h2 o3 0 0 0 = some h4 ∧ (∃ o5, fR h4 a0 9 1 = some o5 ∧ (∃ h6, sI h4 o5 0 0 0 = some h6 ∧ (∃ h7, pV h6 a0 9 5 (.int 1) = some h7 ∧ (∃ h8, pV h7 a0 9 6 (.int 0) = some h8 ∧ (∃ h9, pV h8 a0 9 7 (.int (-1)) = some h9 ∧ wp_Walk_explore_39 z Q a0 0 h9))))))) o1 (-1) hp)
set_option maxRecDepth 100000 in
set_option maxHeartbeats 4000000 in
theorem t_Walk_explore {l : Launch} {G : xG} {z : Nat → Nat} {Q : xh → Prop} {a0 : Nat} {hp : xh} (hf : wp_Walk_explore z Q a0 hp) : xM l G z y_Walk_explore b_Walk_explore 2 none rm_Walk_explore [.ref a0] hp (xqv Q) := by
  refine xM_of (by decide) (Nat.le_of_ble_eq_true rfl) (lv0 := [(0, .ref a0)]) rfl ?_
  intro p e s m args below meth c A Qw X hret
  unfold wp_Walk_explore at hf
  refine x_aload_n X (q := 0) d_Walk_explore_0 rfl 1 rfl ?_
  refine x_getR X hf (ci := 9) (j := 2) rfl (by decide) rfl lf_Walk_15 d_Walk_explore_1 4 rfl (fun o1 hf => ?_)
  refine x_iconst X (v := (-1)) d_Walk_explore_4 (by decide) 5 rfl ?_
  refine x_callS0v X (t_Arrays_fill1 hf) lm_Walk_28 im_Arrays_fill1 cd_Arrays_fill1 in_Arrays ds_Arrays_fill1 rfl rfl (Nat.le_of_ble_eq_true rfl) (Nat.le_of_ble_eq_true rfl) (Nat.le_of_ble_eq_true rfl) rfl rfl (Nat.le_refl 0) (Nat.le_refl 0) d_Walk_explore_5 8 rfl (fun h2 hf => ?_)
  refine x_aload_n X (q := 0) d_Walk_explore_8 rfl 9 rfl ?_
  refine x_getR X hf (ci := 9) (j := 2) rfl (by decide) rfl lf_Walk_15 d_Walk_explore_9 12 rfl (fun o3 hf => ?_)
  refine x_iconst X (v := 0) d_Walk_explore_12 (by decide) 13 rfl ?_
  refine x_iconst X (v := 0) d_Walk_explore_13 (by decide) 14 rfl ?_
  refine x_iast X hf d_Walk_explore_14 15 rfl (fun h4 hf => ?_)
  refine x_aload_n X (q := 0) d_Walk_explore_15 rfl 16 rfl ?_
  refine x_getR X hf (ci := 9) (j := 1) rfl (by decide) rfl lf_Walk_9 d_Walk_explore_16 19 rfl (fun o5 hf => ?_)
  refine x_iconst X (v := 0) d_Walk_explore_19 (by decide) 20 rfl ?_
  refine x_iconst X (v := 0) d_Walk_explore_20 (by decide) 21 rfl ?_
  refine x_iast X hf d_Walk_explore_21 22 rfl (fun h6 hf => ?_)
  refine x_aload_n X (q := 0) d_Walk_explore_22 rfl 23 rfl ?_
  refine x_iconst X (v := 1) d_Walk_explore_23 (by decide) 24 rfl ?_
  refine x_put X hf (ci := 9) (j := 5) (ty := .int) rfl (by decide) rfl lf_Walk_34 rfl (by decide +kernel) rfl rfl d_Walk_explore_24 27 rfl (fun h7 hf => ?_)
  refine x_aload_n X (q := 0) d_Walk_explore_27 rfl 28 rfl ?_
  refine x_iconst X (v := 0) d_Walk_explore_28 (by decide) 29 rfl ?_
  refine x_put X hf (ci := 9) (j := 6) (ty := .int) rfl (by decide) rfl lf_Walk_38 rfl (by decide +kernel) rfl rfl d_Walk_explore_29 32 rfl (fun h8 hf => ?_)
  refine x_aload_n X (q := 0) d_Walk_explore_32 rfl 33 rfl ?_
  refine x_iconst X (v := (-1)) d_Walk_explore_33 (by decide) 34 rfl ?_
  refine x_put X hf (ci := 9) (j := 7) (ty := .int) rfl (by decide) rfl lf_Walk_41 rfl (by decide +kernel) rfl rfl d_Walk_explore_34 37 rfl (fun h9 hf => ?_)
  refine x_iconst X (v := 0) d_Walk_explore_37 (by decide) 38 rfl ?_
  refine x_istore_n X (lv' := [(1, .int 0), (0, .ref a0)]) d_Walk_explore_38 rfl (by decide) rfl 39 rfl ?_
  exact x_sub [1, 0] rfl (t_Walk_explore_39 X hret hf)

