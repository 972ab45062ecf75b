set_option maxRecDepth 100000 in
def wp_Model_takeOutputs_2_b (z : Nat → Nat) (Q : xh → Prop)  (k2 : Nat × Int32 × xh → Prop) (a0 : Nat) (x1 : Int32) (hp : xh) : Prop :=
  ∃ o1, fR hp a0 12 10 = some o1 ∧ (∃ v2, aI hp o1 0 13 = some v2 ∧ ((v2 ≤ x1 → Q hp) ∧ (¬ v2 ≤ x1 → (∃ v3, fI hp a0 12 7 = some v3 ∧ ((¬ v3 = 0 → Q hp) ∧ (v3 = 0 → (∃ o4, fR hp a0 12 21 = some o4 ∧ (∃ v5, fI hp a0 12 6 = some v5 ∧ (∃ h6, sI hp o4 0 x1 v5 = some h6 ∧ (∃ o7, fR h6 a0 12 14 = some o7 ∧ (xcls h6 a0 12 ∧ wp_Model_literal z (fun v9 h8 => ∃ h10, sI h8 o7 0 (16 + x1) v9 = some h10 ∧ (xcls h10 a0 12 ∧ wp_Model_take z (fun h11 => k2 (a0, (x1 + 1), h11)) a0 10 h10)) a0 h6)))))))))))
set_option maxRecDepth 100000 in
def wp_Model_takeOutputs_2 (z : Nat → Nat) (Q : xh → Prop)  (a0 : Nat) (x1 : Int32) (hp : xh) : Prop := ∃ f : Nat, xloop (fun k2 a => wp_Model_takeOutputs_2_b z Q  k2 a.1 a.2.1 a.2.2) f (a0, x1, hp)
set_option maxRecDepth 100000 in
set_option maxHeartbeats 4000000 in
theorem t_Model_takeOutputs_2 {p : Program} {l : Launch} {e : Env} {s : State} {m : MethodId} {args : Array Value} {below : List Frame} {meth : Method} {c : Code} {G : xG} {z : Nat → Nat} {A : Nat → Prop} {Qw : State → Prop} {Q : xh → Prop} {a0 : Nat} {x1 : Int32} {hp : xh} (X : xX p l e rm_Model_takeOutputs s m args below meth c G z A y_Model_takeOutputs b_Model_takeOutputs 2) (hret : xRet p l e rm_Model_takeOutputs s m args below meth c G A 2 Qw b_Model_takeOutputs none (xqv Q))  (hf : wp_Model_takeOutputs_2 z Q  a0 x1 hp) : xE p l e rm_Model_takeOutputs s m args below meth c G A 2 Qw 0 0 hp 2 [(0, .ref a0), (1, .int x1)] [] := by
  obtain ⟨f, hf⟩ := hf
  refine xloop_ind (F := fun k2 a => wp_Model_takeOutputs_2_b z Q  k2 a.1 a.2.1 a.2.2) (E := fun a => xE p l e rm_Model_takeOutputs s m args below meth c G A 2 Qw 0 0 a.2.2 2 [(0, .ref (a.1)), (1, .int (a.2.1))] []) ?_ f (a0, x1, hp) hf
  intro k2 hk a hf
  obtain ⟨a0, x1, hp⟩ := a
  have hk2 : ∀ (a0 : Nat) (x1 : Int32) (hp : xh), k2 (a0, x1, hp) → xE p l e rm_Model_takeOutputs s m args below meth c G A 2 Qw 0 0 hp 2 [(0, .ref a0), (1, .int x1)] [] := fun a0 x1 hp h => hk (a0, x1, hp) h
  have hf : wp_Model_takeOutputs_2_b z Q  k2 a0 x1 hp := hf
  unfold wp_Model_takeOutputs_2_b at hf
  refine x_iload_n X (q := 1) d_Model_takeOutputs_2 rfl 3 rfl ?_
  refine x_aload_n X (q := 0) d_Model_takeOutputs_3 rfl 4 rfl ?_
  refine x_getR X hf (ci := 12) (j := 10) rfl (by decide) rfl lf_Model_20 d_Model_takeOutputs_4 7 rfl (fun o1 hf => ?_)
  refine x_bipush X (v := 13) d_Model_takeOutputs_7 (by decide) 9 rfl ?_
  refine x_iald X hf d_Model_takeOutputs_9 10 rfl (fun v2 hf => ?_)
  refine x_icmp_ge X hf d_Model_takeOutputs_10 55 13 (by decide) rfl (fun hf => ?_) (fun hf => ?_)
  · exact hret _ _ _ _ _ none (Nat.le_refl 0) (Nat.le_refl 0) ⟨rfl, hf⟩ ⟨rfl, d_Model_takeOutputs_55⟩
  · refine x_aload_n X (q := 0) d_Model_takeOutputs_13 rfl 14 rfl ?_
    refine x_getI X hf (ci := 12) (j := 7) rfl (by decide) rfl lf_Model_136 d_Model_takeOutputs_14 17 rfl (fun v3 hf => ?_)
    refine x_if_ne X hf d_Model_takeOutputs_17 55 20 (by decide) rfl (fun hf => ?_) (fun hf => ?_)
    · exact hret _ _ _ _ _ none (Nat.le_refl 0) (Nat.le_refl 0) ⟨rfl, hf⟩ ⟨rfl, d_Model_takeOutputs_55⟩
    · refine x_aload_n X (q := 0) d_Model_takeOutputs_20 rfl 21 rfl ?_
      refine x_getR X hf (ci := 12) (j := 21) rfl (by decide) rfl lf_Model_54 d_Model_takeOutputs_21 24 rfl (fun o4 hf => ?_)
      refine x_iload_n X (q := 1) d_Model_takeOutputs_24 rfl 25 rfl ?_
      refine x_aload_n X (q := 0) d_Model_takeOutputs_25 rfl 26 rfl ?_
      refine x_getI X hf (ci := 12) (j := 6) rfl (by decide) rfl lf_Model_133 d_Model_takeOutputs_26 29 rfl (fun v5 hf => ?_)
      refine x_iast X hf d_Model_takeOutputs_29 30 rfl (fun h6 hf => ?_)
      refine x_aload_n X (q := 0) d_Model_takeOutputs_30 rfl 31 rfl ?_
      refine x_getR X hf (ci := 12) (j := 14) rfl (by decide) rfl lf_Model_33 d_Model_takeOutputs_31 34 rfl (fun o7 hf => ?_)
      refine x_bipush X (v := 16) d_Model_takeOutputs_34 (by decide) 36 rfl ?_
      refine x_iload_n X (q := 1) d_Model_takeOutputs_36 rfl 37 rfl ?_
      refine x_iadd X d_Model_takeOutputs_37 38 rfl ?_
      refine x_aload_n X (q := 0) d_Model_takeOutputs_38 rfl 39 rfl ?_
      refine x_callV0i X (t_Model_literal hf.2) hf.1 (ci := 12) rfl rfl lm_Model_160 im_Model_literal sl_Model_literal cd_Model_literal in_Model ds_Model_literal rfl rfl (Nat.le_of_ble_eq_true rfl) (Nat.le_of_ble_eq_true rfl) (Nat.le_of_ble_eq_true rfl) rfl rfl (Nat.le_refl 0) (Nat.le_refl 0) d_Model_takeOutputs_39 42 rfl (fun v9 h8 hf => ?_)
      refine x_iast X hf d_Model_takeOutputs_42 43 rfl (fun h10 hf => ?_)
      refine x_aload_n X (q := 0) d_Model_takeOutputs_43 rfl 44 rfl ?_
      refine x_bipush X (v := 10) d_Model_takeOutputs_44 (by decide) 46 rfl ?_
      refine x_callV0v X (t_Model_take hf.2) hf.1 (ci := 12) rfl rfl lm_Model_167 im_Model_take sl_Model_take cd_Model_take in_Model ds_Model_take rfl rfl (Nat.le_of_ble_eq_true rfl) (Nat.le_of_ble_eq_true rfl) (Nat.le_of_ble_eq_true rfl) rfl rfl (Nat.le_refl 0) (Nat.le_refl 0) d_Model_takeOutputs_46 49 rfl (fun h11 hf => ?_)
      refine x_iinc X (q := 1) (v := (x1 + 1)) (lv' := [(1, .int (x1 + 1)), (0, .ref a0)]) d_Model_takeOutputs_49 rfl (by rfl) (by decide) rfl 52 rfl ?_
      refine x_goto X d_Model_takeOutputs_52 2 (by decide) ?_
      exact x_sub [1, 0] rfl (hk2 _ _ _ hf)
set_option maxRecDepth 100000 in
def wp_Model_takeOutputs (z : Nat → Nat) (Q : xh → Prop) (a0 : Nat) (hp : xh) : Prop :=
  wp_Model_takeOutputs_2 z Q a0 0 hp
set_option maxRecDepth 100000 in
set_option maxHeartbeats 4000000 in
theorem t_Model_takeOutputs {l : Launch} {G : xG} {z : Nat → Nat} {Q : xh → Prop} {a0 : Nat} {hp : xh} (hf : wp_Model_takeOutputs z Q a0 hp) : xM l G z y_Model_takeOutputs b_Model_takeOutputs 2 none rm_Model_takeOutputs [.ref a0] hp (xqv Q) := by
  refine xM_of (by decide) (Nat.le_of_ble_eq_true rfl) (lv0 := [(0, .ref a0)]) rfl ?_
  intro p e s m args below meth c A Qw X hret
  unfold wp_Model_takeOutputs at hf
  refine x_iconst X (v := 0) d_Model_takeOutputs_0 (by decide) 1 rfl ?_
  refine x_istore_n X (lv' := [(1, .int 0), (0, .ref a0)]) d_Model_takeOutputs_1 rfl (by decide) rfl 2 rfl ?_
  exact x_sub [1, 0] rfl (t_Model_takeOutputs_2 X hret hf)

set_option maxRecDepth 100000 in
def wp_Model_takeText_105_b (z : Nat → Nat) (Q : xh → Prop)  (k105 : Nat × Int32 × xh → Prop) (a0 : Nat) (x1 : Int32) (hp : xh) : Prop :=
  ∃ o1, fR hp a0 12 10 = some o1 ∧ (∃ v2, aI hp o1 0 14 = some v2 ∧ ((v2 ≤ x1 → Q hp) ∧ (¬ v2 ≤ x1 → (∃ v3, fI hp a0 12 7 = some v3 ∧ ((¬ v3 = 0 → Q hp) ∧ (v3 = 0 → (∃ o4, fR hp a0 12 15 = some o4 ∧ (xcls hp a0 12 ∧ wp_Model_defines z (fun v6 h5 => ∃ h7, sI h5 o4 0 (300 + x1) v6 = some h7 ∧ (xcls h7 a0 12 ∧ wp_Model_take z (fun h8 => ∃ o9, fR h8 a0 12 22 = some o9 ∧ (∃ v10, fI h8 a0 12 6 = some v10 ∧ (∃ h11, sI h8 o9 0 x1 v10 = some h11 ∧ (∃ o12, fR h11 a0 12 16 = some o12 ∧ (xcls h11 a0 12 ∧ wp_Model_literal z (fun v14 h13 => ∃ h15, sI h13 o12 0 (300 + x1) v14 = some h15 ∧ (xcls h15 a0 12 ∧ wp_Model_take z (fun h16 => ∃ o17, fR h16 a0 12 23 = some o17 ∧ (∃ v18, fI h16 a0 12 6 = some v18 ∧ (∃ h19, sI h16 o17 0 x1 v18 = some h19 ∧ (∃ o20, fR h19 a0 12 17 = some o20 ∧ (xcls h19 a0 12 ∧ wp_Model_literal z (fun v22 h21 => ∃ h23, sI h21 o20 0 (300 + x1) v22 = some h23 ∧ (xcls h23 a0 12 ∧ wp_Model_take z (fun h24 => k105 (a0, (x1 + 1), h24)) a0 10 h23)) a0 h19))))) a0 32 h15)) a0 h11))))) a0 32 h7)) a0 3 x1 hp))))))))
set_option maxRecDepth 100000 in
def wp_Model_takeText_105 (z : Nat → Nat) (Q : xh → Prop)  (a0 : Nat) (x1 : Int32) (hp : xh) : Prop := ∃ f : Nat, xloop (fun k105 a => wp_Model_takeText_105_b z Q  k105 a.1 a.2.1 a.2.2) f (a0, x1, hp)
set_option maxRecDepth 100000 in
set_option maxHeartbeats 4000000 in
theorem t_Model_takeText_105 {p : Program} {l : Launch} {e : Env} {s : State} {m : MethodId} {args : Array Value} {below : List Frame} {meth : Method} {c : Code} {G : xG} {z : Nat → Nat} {A : Nat → Prop} {Qw : State → Prop} {Q : xh → Prop} {a0 : Nat} {x1 : Int32} {hp : xh} (X : xX p l e rm_Model_takeText s m args below meth c G z A y_Model_takeText b_Model_takeText 2) (hret : xRet p l e rm_Model_takeText s m args below meth c G A 2 Qw b_Model_takeText none (xqv Q))  (hf : wp_Model_takeText_105 z Q  a0 x1 hp) : xE p l e rm_Model_takeText s m args below meth c G A 2 Qw 0 0 hp 105 [(0, .ref a0), (1, .int x1)] [] := by
  obtain ⟨f, hf⟩ := hf
  refine xloop_ind (F := fun k105 a => wp_Model_takeText_105_b z Q  k105 a.1 a.2.1 a.2.2) (E := fun a => xE p l e rm_Model_takeText s m args below meth c G A 2 Qw 0 0 a.2.2 105 [(0, .ref (a.1)), (1, .int (a.2.1))] []) ?_ f (a0, x1, hp) hf
  intro k105 hk a hf
  obtain ⟨a0, x1, hp⟩ := a
  have hk105 : ∀ (a0 : Nat) (x1 : Int32) (hp : xh), k105 (a0, x1, hp) → xE p l e rm_Model_takeText s m args below meth c G A 2 Qw 0 0 hp 105 [(0, .ref a0), (1, .int x1)] [] := fun a0 x1 hp h => hk (a0, x1, hp) h
  have hf : wp_Model_takeText_105_b z Q  k105 a0 x1 hp := hf
  unfold wp_Model_takeText_105_b at hf
  refine x_iload_n X (q := 1) d_Model_takeText_105 rfl 106 rfl ?_
  refine x_aload_n X (q := 0) d_Model_takeText_106 rfl 107 rfl ?_
  refine x_getR X hf (ci := 12) (j := 10) rfl (by decide) rfl lf_Model_20 d_Model_takeText_107 110 rfl (fun o1 hf => ?_)
  refine x_bipush X (v := 14) d_Model_takeText_110 (by decide) 112 rfl ?_
  refine x_iald X hf d_Model_takeText_112 113 rfl (fun v2 hf => ?_)
  refine x_icmp_ge X hf d_Model_takeText_113 211 116 (by decide) rfl (fun hf => ?_) (fun hf => ?_)
  · exact hret _ _ _ _ _ none (Nat.le_refl 0) (Nat.le_refl 0) ⟨rfl, hf⟩ ⟨rfl, d_Model_takeText_211⟩
  · refine x_aload_n X (q := 0) d_Model_takeText_116 rfl 117 rfl ?_
    refine x_getI X hf (ci := 12) (j := 7) rfl (by decide) rfl lf_Model_136 d_Model_takeText_117 120 rfl (fun v3 hf => ?_)
    refine x_if_ne X hf d_Model_takeText_120 211 123 (by decide) rfl (fun hf => ?_) (fun hf => ?_)
    · exact hret _ _ _ _ _ none (Nat.le_refl 0) (Nat.le_refl 0) ⟨rfl, hf⟩ ⟨rfl, d_Model_takeText_211⟩
    · refine x_aload_n X (q := 0) d_Model_takeText_123 rfl 124 rfl ?_
      refine x_getR X hf (ci := 12) (j := 15) rfl (by decide) rfl lf_Model_36 d_Model_takeText_124 127 rfl (fun o4 hf => ?_)
      refine x_sipush X (v := 300) d_Model_takeText_127 (by decide) 130 rfl ?_
      refine x_iload_n X (q := 1) d_Model_takeText_130 rfl 131 rfl ?_
      refine x_iadd X d_Model_takeText_131 132 rfl ?_
      refine x_aload_n X (q := 0) d_Model_takeText_132 rfl 133 rfl ?_
      refine x_iconst X (v := 3) d_Model_takeText_133 (by decide) 134 rfl ?_
      refine x_iload_n X (q := 1) d_Model_takeText_134 rfl 135 rfl ?_
      refine x_callV0i X (t_Model_defines hf.2) hf.1 (ci := 12) rfl rfl lm_Model_171 im_Model_defines sl_Model_defines cd_Model_defines in_Model ds_Model_defines rfl rfl (Nat.le_of_ble_eq_true rfl) (Nat.le_of_ble_eq_true rfl) (Nat.le_of_ble_eq_true rfl) rfl rfl (Nat.le_refl 0) (Nat.le_refl 0) d_Model_takeText_135 138 rfl (fun v6 h5 hf => ?_)
      refine x_iast X hf d_Model_takeText_138 139 rfl (fun h7 hf => ?_)
      refine x_aload_n X (q := 0) d_Model_takeText_139 rfl 140 rfl ?_
      refine x_bipush X (v := 32) d_Model_takeText_140 (by decide) 142 rfl ?_
      refine x_callV0v X (t_Model_take hf.2) hf.1 (ci := 12) rfl rfl lm_Model_167 im_Model_take sl_Model_take cd_Model_take in_Model ds_Model_take rfl rfl (Nat.le_of_ble_eq_true rfl) (Nat.le_of_ble_eq_true rfl) (Nat.le_of_ble_eq_true rfl) rfl rfl (Nat.le_refl 0) (Nat.le_refl 0) d_Model_takeText_142 145 rfl (fun h8 hf => ?_)
      refine x_aload_n X (q := 0) d_Model_takeText_145 rfl 146 rfl ?_
      refine x_getR X hf (ci := 12) (j := 22) rfl (by decide) rfl lf_Model_57 d_Model_takeText_146 149 rfl (fun o9 hf => ?_)
      refine x_iload_n X (q := 1) d_Model_takeText_149 rfl 150 rfl ?_
      refine x_aload_n X (q := 0) d_Model_takeText_150 rfl 151 rfl ?_
      refine x_getI X hf (ci := 12) (j := 6) rfl (by decide) rfl lf_Model_133 d_Model_takeText_151 154 rfl (fun v10 hf => ?_)
      refine x_iast X hf d_Model_takeText_154 155 rfl (fun h11 hf => ?_)
      refine x_aload_n X (q := 0) d_Model_takeText_155 rfl 156 rfl ?_
      refine x_getR X hf (ci := 12) (j := 16) rfl (by decide) rfl lf_Model_39 d_Model_takeText_156 159 rfl (fun o12 hf => ?_)
      refine x_sipush X (v := 300) d_Model_takeText_159 (by decide) 162 rfl ?_
      refine x_iload_n X (q := 1) d_Model_takeText_162 rfl 163 rfl ?_
      refine x_iadd X d_Model_takeText_163 164 rfl ?_
      refine x_aload_n X (q := 0) d_Model_takeText_164 rfl 165 rfl ?_
      refine x_callV0i X (t_Model_literal hf.2) hf.1 (ci := 12) rfl rfl lm_Model_160 im_Model_literal sl_Model_literal cd_Model_literal in_Model ds_Model_literal rfl rfl (Nat.le_of_ble_eq_true rfl) (Nat.le_of_ble_eq_true rfl) (Nat.le_of_ble_eq_true rfl) rfl rfl (Nat.le_refl 0) (Nat.le_refl 0) d_Model_takeText_165 168 rfl (fun v14 h13 hf => ?_)
      refine x_iast X hf d_Model_takeText_168 169 rfl (fun h15 hf => ?_)
      refine x_aload_n X (q := 0) d_Model_takeText_169 rfl 170 rfl ?_
      refine x_bipush X (v := 32) d_Model_takeText_170 (by decide) 172 rfl ?_
      refine x_callV0v X (t_Model_take hf.2) hf.1 (ci := 12) rfl rfl lm_Model_167 im_Model_take sl_Model_take cd_Model_take in_Model ds_Model_take rfl rfl (Nat.le_of_ble_eq_true rfl) (Nat.le_of_ble_eq_true rfl) (Nat.le_of_ble_eq_true rfl) rfl rfl (Nat.le_refl 0) (Nat.le_refl 0) d_Model_takeText_172 175 rfl (fun h16 hf => ?_)
      refine x_aload_n X (q := 0) d_Model_takeText_175 rfl 176 rfl ?_
      refine x_getR X hf (ci := 12) (j := 23) rfl (by decide) rfl lf_Model_60 d_Model_takeText_176 179 rfl (fun o17 hf => ?_)
      refine x_iload_n X (q := 1) d_Model_takeText_179 rfl 180 rfl ?_
      refine x_aload_n X (q := 0) d_Model_takeText_180 rfl 181 rfl ?_
      refine x_getI X hf (ci := 12) (j := 6) rfl (by decide) rfl lf_Model_133 d_Model_takeText_181 184 rfl (fun v18 hf => ?_)
      refine x_iast X hf d_Model_takeText_184 185 rfl (fun h19 hf => ?_)
      refine x_aload_n X (q := 0) d_Model_takeText_185 rfl 186 rfl ?_
      refine x_getR X hf (ci := 12) (j := 17) rfl (by decide) rfl lf_Model_42 d_Model_takeText_186 189 rfl (fun o20 hf => ?_)
      refine x_sipush X (v := 300) d_Model_takeText_189 (by decide) 192 rfl ?_
      refine x_iload_n X (q := 1) d_Model_takeText_192 rfl 193 rfl ?_
      refine x_iadd X d_Model_takeText_193 194 rfl ?_
      refine x_aload_n X (q := 0) d_Model_takeText_194 rfl 195 rfl ?_
      refine x_callV0i X (t_Model_literal hf.2) hf.1 (ci := 12) rfl rfl lm_Model_160 im_Model_literal sl_Model_literal cd_Model_literal in_Model ds_Model_literal rfl rfl (Nat.le_of_ble_eq_true rfl) (Nat.le_of_ble_eq_true rfl) (Nat.le_of_ble_eq_true rfl) rfl rfl (Nat.le_refl 0) (Nat.le_refl 0) d_Model_takeText_195 198 rfl (fun v22 h21 hf => ?_)
      refine x_iast X hf d_Model_takeText_198 199 rfl (fun h23 hf => ?_)
      refine x_aload_n X (q := 0) d_Model_takeText_199 rfl 200 rfl ?_
      refine x_bipush X (v := 10) d_Model_takeText_200 (by decide) 202 rfl ?_
      refine x_callV0v X (t_Model_take hf.2) hf.1 (ci := 12) rfl rfl lm_Model_167 im_Model_take sl_Model_take cd_Model_take in_Model ds_Model_take rfl rfl (Nat.le_of_ble_eq_true rfl) (Nat.le_of_ble_eq_true rfl) (Nat.le_of_ble_eq_true rfl) rfl rfl (Nat.le_refl 0) (Nat.le_refl 0) d_Model_takeText_202 205 rfl (fun h24 hf => ?_)
      refine x_iinc X (q := 1) (v := (x1 + 1)) (lv' := [(1, .int (x1 + 1)), (0, .ref a0)]) d_Model_takeText_205 rfl (by rfl) (by decide) rfl 208 rfl ?_
      refine x_goto X d_Model_takeText_208 105 (by decide) ?_
      exact x_sub [1, 0] rfl (hk105 _ _ _ hf)
set_option maxRecDepth 100000 in
def wp_Model_takeText_99 (z : Nat → Nat) (Q : xh → Prop)  (a0 : Nat) (hp : xh) : Prop :=
  xcls hp a0 12 ∧ wp_Model_takeOutputs z (fun h1 => wp_Model_takeText_105 z Q a0 0 h1) a0 hp
set_option maxRecDepth 100000 in
set_option maxHeartbeats 4000000 in
theorem t_Model_takeText_99 {p : Program} {l : Launch} {e : Env} {s : State} {m : MethodId} {args : Array Value} {below : List Frame} {meth : Method} {c : Code} {G : xG} {z : Nat → Nat} {A : Nat → Prop} {Qw : State → Prop} {Q : xh → Prop} {a0 : Nat} {hp : xh} (X : xX p l e rm_Model_takeText s m args below meth c G z A y_Model_takeText b_Model_takeText 2) (hret : xRet p l e rm_Model_takeText s m args below meth c G A 2 Qw b_Model_takeText none (xqv Q))  (hf : wp_Model_takeText_99 z Q  a0 hp) : xE p l e rm_Model_takeText s m args below meth c G A 2 Qw 0 0 hp 99 [(0, .ref a0)] [] := by
  unfold wp_Model_takeText_99 at hf
  refine x_aload_n X (q := 0) d_Model_takeText_99 rfl 100 rfl ?_
  refine x_callV0v X (t_Model_takeOutputs hf.2) hf.1 (ci := 12) rfl rfl lm_Model_178 im_Model_takeOutputs sl_Model_takeOutputs cd_Model_takeOutputs in_Model ds_Model_takeOutputs rfl rfl (Nat.le_of_ble_eq_true rfl) (Nat.le_of_ble_eq_true rfl) (Nat.le_of_ble_eq_true rfl) rfl rfl (Nat.le_refl 0) (Nat.le_refl 0) d_Model_takeText_100 103 rfl (fun h1 hf => ?_)
  refine x_iconst X (v := 0) d_Model_takeText_103 (by decide) 104 rfl ?_
  refine x_istore_n X (lv' := [(1, .int 0), (0, .ref a0)]) d_Model_takeText_104 rfl (by decide) rfl 105 rfl ?_
  exact x_sub [1, 0] rfl (t_Model_takeText_105 X hret hf)
set_option maxRecDepth 100000 in
def wp_Model_takeText_49_b (z : Nat → Nat) (Q : xh → Prop)  (k49 : Nat × Int32 × xh → Prop) (a0 : Nat) (x1 : Int32) (hp : xh) : Prop :=
  ∃ o1, fR hp a0 12 10 = some o1 ∧ (∃ v2, aI hp o1 0 12 = some v2 ∧ ((v2 ≤ x1 → wp_Model_takeText_99 z Q a0 hp) ∧ (¬ v2 ≤ x1 → (∃ v3, fI hp a0 12 7 = some v3 ∧ ((¬ v3 = 0 → wp_Model_takeText_99 z Q a0 hp) ∧ (v3 = 0 → (∃ o4, fR hp a0 12 12 = some o4 ∧ (xcls hp a0 12 ∧ wp_Model_defines z (fun v6 h5 => ∃ h7, sI h5 o4 0 (14 + x1) v6 = some h7 ∧ (xcls h7 a0 12 ∧ wp_Model_take z (fun h8 => xcls h8 a0 12 ∧ wp_Model_takeNext z (fun h9 => k49 (a0, (x1 + 1), h9)) a0 x1 h8) a0 32 h7)) a0 2 x1 hp))))))))
set_option maxRecDepth 100000 in
def wp_Model_takeText_49 (z : Nat → Nat) (Q : xh → Prop)  (a0 : Nat) (x1 : Int32) (hp : xh) : Prop := ∃ f : Nat, xloop (fun k49 a => wp_Model_takeText_49_b z Q  k49 a.1 a.2.1 a.2.2) f (a0, x1, hp)
set_option maxRecDepth 100000 in
set_option maxHeartbeats 4000000 in
theorem t_Model_takeText_49 {p : Program} {l : Launch} {e : Env} {s : State} {m : MethodId} {args : Array Value} {below : List Frame} {meth : Method} {c : Code} {G : xG} {z : Nat → Nat} {A : Nat → Prop} {Qw : State → Prop} {Q : xh → Prop} {a0 : Nat} {x1 : Int32} {hp : xh} (X : xX p l e rm_Model_takeText s m args below meth c G z A y_Model_takeText b_Model_takeText 2) (hret : xRet p l e rm_Model_takeText s m args below meth c G A 2 Qw b_Model_takeText none (xqv Q))  (hf : wp_Model_takeText_49 z Q  a0 x1 hp) : xE p l e rm_Model_takeText s m args below meth c G A 2 Qw 0 0 hp 49 [(0, .ref a0), (1, .int x1)] [] := by
  obtain ⟨f, hf⟩ := hf
  refine xloop_ind (F := fun k49 a => wp_Model_takeText_49_b z Q  k49 a.1 a.2.1 a.2.2) (E := fun a => xE p l e rm_Model_takeText s m args below meth c G A 2 Qw 0 0 a.2.2 49 [(0, .ref (a.1)), (1, .int (a.2.1))] []) ?_ f (a0, x1, hp) hf
  intro k49 hk a hf
  obtain ⟨a0, x1, hp⟩ := a
  have hk49 : ∀ (a0 : Nat) (x1 : Int32) (hp : xh), k49 (a0, x1, hp) → xE p l e rm_Model_takeText s m args below meth c G A 2 Qw 0 0 hp 49 [(0, .ref a0), (1, .int x1)] [] := fun a0 x1 hp h => hk (a0, x1, hp) h
  have hf : wp_Model_takeText_49_b z Q  k49 a0 x1 hp := hf
  unfold wp_Model_takeText_49_b at hf
  refine x_iload_n X (q := 1) d_Model_takeText_49 rfl 50 rfl ?_
  refine x_aload_n X (q := 0) d_Model_takeText_50 rfl 51 rfl ?_
  refine x_getR X hf (ci := 12) (j := 10) rfl (by decide) rfl lf_Model_20 d_Model_takeText_51 54 rfl (fun o1 hf => ?_)
  refine x_bipush X (v := 12) d_Model_takeText_54 (by decide) 56 rfl ?_
  refine x_iald X hf d_Model_takeText_56 57 rfl (fun v2 hf => ?_)
  refine x_icmp_ge X hf d_Model_takeText_57 99 60 (by decide) rfl (fun hf => ?_) (fun hf => ?_)
  · exact x_sub [0] rfl (t_Model_takeText_99 X hret hf)
  · refine x_aload_n X (q := 0) d_Model_takeText_60 rfl 61 rfl ?_
    refine x_getI X hf (ci := 12) (j := 7) rfl (by decide) rfl lf_Model_136 d_Model_takeText_61 64 rfl (fun v3 hf => ?_)
    refine x_if_ne X hf d_Model_takeText_64 99 67 (by decide) rfl (fun hf => ?_) (fun hf => ?_)
    · exact x_sub [0] rfl (t_Model_takeText_99 X hret hf)
    · refine x_aload_n X (q := 0) d_Model_takeText_67 rfl 68 rfl ?_
      refine x_getR X hf (ci := 12) (j := 12) rfl (by decide) rfl lf_Model_27 d_Model_takeText_68 71 rfl (fun o4 hf => ?_)
      refine x_bipush X (v := 14) d_Model_takeText_71 (by decide) 73 rfl ?_
      refine x_iload_n X (q := 1) d_Model_takeText_73 rfl 74 rfl ?_
      refine x_iadd X d_Model_takeText_74 75 rfl ?_
      refine x_aload_n X (q := 0) d_Model_takeText_75 rfl 76 rfl ?_
      refine x_iconst X (v := 2) d_Model_takeText_76 (by decide) 77 rfl ?_
      refine x_iload_n X (q := 1) d_Model_takeText_77 rfl 78 rfl ?_
      refine x_callV0i X (t_Model_defines hf.2) hf.1 (ci := 12) rfl rfl lm_Model_171 im_Model_defines sl_Model_defines cd_Model_defines in_Model ds_Model_defines rfl rfl (Nat.le_of_ble_eq_true rfl) (Nat.le_of_ble_eq_true rfl) (Nat.le_of_ble_eq_true rfl) rfl rfl (Nat.le_refl 0) (Nat.le_refl 0) d_Model_takeText_78 81 rfl (fun v6 h5 hf => ?_)
      refine x_iast X hf d_Model_takeText_81 82 rfl (fun h7 hf => ?_)
      refine x_aload_n X (q := 0) d_Model_takeText_82 rfl 83 rfl ?_
      refine x_bipush X (v := 32) d_Model_takeText_83 (by decide) 85 rfl ?_
      refine x_callV0v X (t_Model_take hf.2) hf.1 (ci := 12) rfl rfl lm_Model_167 im_Model_take sl_Model_take cd_Model_take in_Model ds_Model_take rfl rfl (Nat.le_of_ble_eq_true rfl) (Nat.le_of_ble_eq_true rfl) (Nat.le_of_ble_eq_true rfl) rfl rfl (Nat.le_refl 0) (Nat.le_refl 0) d_Model_takeText_85 88 rfl (fun h8 hf => ?_)
      refine x_aload_n X (q := 0) d_Model_takeText_88 rfl 89 rfl ?_
      refine x_iload_n X (q := 1) d_Model_takeText_89 rfl 90 rfl ?_
      refine x_callV0v X (t_Model_takeNext hf.2) hf.1 (ci := 12) rfl rfl lm_Model_175 im_Model_takeNext sl_Model_takeNext cd_Model_takeNext in_Model ds_Model_takeNext rfl rfl (Nat.le_of_ble_eq_true rfl) (Nat.le_of_ble_eq_true rfl) (Nat.le_of_ble_eq_true rfl) rfl rfl (Nat.le_refl 0) (Nat.le_refl 0) d_Model_takeText_90 93 rfl (fun h9 hf => ?_)
      refine x_iinc X (q := 1) (v := (x1 + 1)) (lv' := [(1, .int (x1 + 1)), (0, .ref a0)]) d_Model_takeText_93 rfl (by rfl) (by decide) rfl 96 rfl ?_
      refine x_goto X d_Model_takeText_96 49 (by decide) ?_
      exact x_sub [1, 0] rfl (hk49 _ _ _ hf)
set_option maxRecDepth 100000 in
def wp_Model_takeText_47 (z : Nat → Nat) (Q : xh → Prop)  (a0 : Nat) (hp : xh) : Prop :=
  wp_Model_takeText_49 z Q a0 0 hp
set_option maxRecDepth 100000 in
set_option maxHeartbeats 4000000 in
theorem t_Model_takeText_47 {p : Program} {l : Launch} {e : Env} {s : State} {m : MethodId} {args : Array Value} {below : List Frame} {meth : Method} {c : Code} {G : xG} {z : Nat → Nat} {A : Nat → Prop} {Qw : State → Prop} {Q : xh → Prop} {a0 : Nat} {hp : xh} (X : xX p l e rm_Model_takeText s m args below meth c G z A y_Model_takeText b_Model_takeText 2) (hret : xRet p l e rm_Model_takeText s m args below meth c G A 2 Qw b_Model_takeText none (xqv Q))  (hf : wp_Model_takeText_47 z Q  a0 hp) : xE p l e rm_Model_takeText s m args below meth c G A 2 Qw 0 0 hp 47 [(0, .ref a0)] [] := by
  unfold wp_Model_takeText_47 at hf
  refine x_iconst X (v := 0) d_Model_takeText_47 (by decide) 48 rfl ?_
  refine x_istore_n X (lv' := [(1, .int 0), (0, .ref a0)]) d_Model_takeText_48 rfl (by decide) rfl 49 rfl ?_
  exact x_sub [1, 0] rfl (t_Model_takeText_49 X hret hf)
set_option maxRecDepth 100000 in
def wp_Model_takeText_2_b (z : Nat → Nat) (Q : xh → Prop)  (k2 : Nat × Int32 × xh → Prop) (a0 : Nat) (x1 : Int32) (hp : xh) : Prop :=
  ∃ o1, fR hp a0 12 10 = some o1 ∧ (∃ v2, aI hp o1 0 11 = some v2 ∧ ((v2 ≤ x1 → wp_Model_takeText_47 z Q a0 hp) ∧ (¬ v2 ≤ x1 → (∃ v3, fI hp a0 12 7 = some v3 ∧ ((¬ v3 = 0 → wp_Model_takeText_47 z Q a0 hp) ∧ (v3 = 0 → (∃ o4, fR hp a0 12 11 = some o4 ∧ (xcls hp a0 12 ∧ wp_Model_defines z (fun v6 h5 => ∃ h7, sI h5 o4 0 (10 + x1) v6 = some h7 ∧ (xcls h7 a0 12 ∧ wp_Model_take z (fun h8 => k2 (a0, (x1 + 1), h8)) a0 10 h7)) a0 1 x1 hp))))))))
set_option maxRecDepth 100000 in
def wp_Model_takeText_2 (z : Nat → Nat) (Q : xh → Prop)  (a0 : Nat) (x1 : Int32) (hp : xh) : Prop := ∃ f : Nat, xloop (fun k2 a => wp_Model_takeText_2_b z Q  k2 a.1 a.2.1 a.2.2) f (a0, x1, hp)
set_option maxRecDepth 100000 in
set_option maxHeartbeats 4000000 in
theorem t_Model_takeText_2 {p : Program} {l : Launch} {e : Env} {s : State} {m : MethodId} {args : Array Value} {below : List Frame} {meth : Method} {c : Code} {G : xG} {z : Nat → Nat} {A : Nat → Prop} {Qw : State → Prop} {Q : xh → Prop} {a0 : Nat} {x1 : Int32} {hp : xh} (X : xX p l e rm_Model_takeText s m args below meth c G z A y_Model_takeText b_Model_takeText 2) (hret : xRet p l e rm_Model_takeText s m args below meth c G A 2 Qw b_Model_takeText none (xqv Q))  (hf : wp_Model_takeText_2 z Q  a0 x1 hp) : xE p l e rm_Model_takeText s m args below meth c G A 2 Qw 0 0 hp 2 [(0, .ref a0), (1, .int x1)] [] := by
  obtain ⟨f, hf⟩ := hf
  refine xloop_ind (F := fun k2 a => wp_Model_takeText_2_b z Q  k2 a.1 a.2.1 a.2.2) (E := fun a => xE p l e rm_Model_takeText s m args below meth c G A 2 Qw 0 0 a.2.2 2 [(0, .ref (a.1)), (1, .int (a.2.1))] []) ?_ f (a0, x1, hp) hf
  intro k2 hk a hf
  obtain ⟨a0, x1, hp⟩ := a
  have hk2 : ∀ (a0 : Nat) (x1 : Int32) (hp : xh), k2 (a0, x1, hp) → xE p l e rm_Model_takeText s m args below meth c G A 2 Qw 0 0 hp 2 [(0, .ref a0), (1, .int x1)] [] := fun a0 x1 hp h => hk (a0, x1, hp) h
  have hf : wp_Model_takeText_2_b z Q  k2 a0 x1 hp := hf
  unfold wp_Model_takeText_2_b at hf
  refine x_iload_n X (q := 1) d_Model_takeText_2 rfl 3 rfl ?_
  refine x_aload_n X (q := 0) d_Model_takeText_3 rfl 4 rfl ?_
  refine x_getR X hf (ci := 12) (j := 10) rfl (by decide) rfl lf_Model_20 d_Model_takeText_4 7 rfl (fun o1 hf => ?_)
  refine x_bipush X (v := 11) d_Model_takeText_7 (by decide) 9 rfl ?_
  refine x_iald X hf d_Model_takeText_9 10 rfl (fun v2 hf => ?_)
  refine x_icmp_ge X hf d_Model_takeText_10 47 13 (by decide) rfl (fun hf => ?_) (fun hf => ?_)
  · exact x_sub [0] rfl (t_Model_takeText_47 X hret hf)
  · refine x_aload_n X (q := 0) d_Model_takeText_13 rfl 14 rfl ?_
    refine x_getI X hf (ci := 12) (j := 7) rfl (by decide) rfl lf_Model_136 d_Model_takeText_14 17 rfl (fun v3 hf => ?_)
    refine x_if_ne X hf d_Model_takeText_17 47 20 (by decide) rfl (fun hf => ?_) (fun hf => ?_)
    · exact x_sub [0] rfl (t_Model_takeText_47 X hret hf)
    · refine x_aload_n X (q := 0) d_Model_takeText_20 rfl 21 rfl ?_
      refine x_getR X hf (ci := 12) (j := 11) rfl (by decide) rfl lf_Model_24 d_Model_takeText_21 24 rfl (fun o4 hf => ?_)
      refine x_bipush X (v := 10) d_Model_takeText_24 (by decide) 26 rfl ?_
      refine x_iload_n X (q := 1) d_Model_takeText_26 rfl 27 rfl ?_
      refine x_iadd X d_Model_takeText_27 28 rfl ?_
      refine x_aload_n X (q := 0) d_Model_takeText_28 rfl 29 rfl ?_
      refine x_iconst X (v := 1) d_Model_takeText_29 (by decide) 30 rfl ?_
      refine x_iload_n X (q := 1) d_Model_takeText_30 rfl 31 rfl ?_
      refine x_callV0i X (t_Model_defines hf.2) hf.1 (ci := 12) rfl rfl lm_Model_171 im_Model_defines sl_Model_defines cd_Model_defines in_Model ds_Model_defines rfl rfl (Nat.le_of_ble_eq_true rfl) (Nat.le_of_ble_eq_true rfl) (Nat.le_of_ble_eq_true rfl) rfl rfl (Nat.le_refl 0) (Nat.le_refl 0) d_Model_takeText_31 34 rfl (fun v6 h5 hf => ?_)
      refine x_iast X hf d_Model_takeText_34 35 rfl (fun h7 hf => ?_)
      refine x_aload_n X (q := 0) d_Model_takeText_35 rfl 36 rfl ?_
      refine x_bipush X (v := 10) d_Model_takeText_36 (by decide) 38 rfl ?_
      refine x_callV0v X (t_Model_take hf.2) hf.1 (ci := 12) rfl rfl lm_Model_167 im_Model_take sl_Model_take cd_Model_take in_Model ds_Model_take rfl rfl (Nat.le_of_ble_eq_true rfl) (Nat.le_of_ble_eq_true rfl) (Nat.le_of_ble_eq_true rfl) rfl rfl (Nat.le_refl 0) (Nat.le_refl 0) d_Model_takeText_38 41 rfl (fun h8 hf => ?_)
      refine x_iinc X (q := 1) (v := (x1 + 1)) (lv' := [(1, .int (x1 + 1)), (0, .ref a0)]) d_Model_takeText_41 rfl (by rfl) (by decide) rfl 44 rfl ?_
      refine x_goto X d_Model_takeText_44 2 (by decide) ?_
      exact x_sub [1, 0] rfl (hk2 _ _ _ hf)
set_option maxRecDepth 100000 in
def wp_Model_takeText (z : Nat → Nat) (Q : xh → Prop) (a0 : Nat) (hp : xh) : Prop :=
  wp_Model_takeText_2 z Q a0 0 hp
set_option maxRecDepth 100000 in
set_option maxHeartbeats 4000000 in
theorem t_Model_takeText {l : Launch} {G : xG} {z : Nat → Nat} {Q : xh → Prop} {a0 : Nat} {hp : xh} (hf : wp_Model_takeText z Q a0 hp) : xM l G z y_Model_takeText b_Model_takeText 2 none rm_Model_takeText [.ref a0] hp (xqv Q) := by
  refine xM_of (by decide) (Nat.le_of_ble_eq_true rfl) (lv0 := [(0, .ref a0)]) rfl ?_
  intro p e s m args below meth c A Qw X hret
  unfold wp_Model_takeText at hf
  refine x_iconst X (v := 0) d_Model_takeText_0 (by decide) 1 rfl ?_
  refine x_istore_n X (lv' := [(1, .int 0), (0, .ref a0)]) d_Model_takeText_1 rfl (by decide) rfl 2 rfl ?_
  exact x_sub [1, 0] rfl (t_Model_takeText_2 X hret hf)

set_option maxRecDepth 100000 in
def wp_Model_delta_144 (z : Nat → Nat) (Q : Int32 → xh → Prop)  (x1 : Int32) (x4 : Int32) (hp : xh) : Prop :=
  Q (x1 - x4) hp
set_option maxRecDepth 100000 in
set_option maxHeartbeats 4000000 in
theorem t_Model_delta_144 {p : Program} {l : Launch} {e : Env} {s : State} {m : MethodId} {args : Array Value} {below : List Frame} {meth : Method} {c : Code} {G : xG} {z : Nat → Nat} {A : Nat → Prop} {Qw : State → Prop} {Q : Int32 → xh → Prop} {x1 : Int32} {x4 : Int32} {hp : xh} (X : xX p l e rm_Model_delta s m args below meth c G z A y_Model_delta b_Model_delta 8) (hret : xRet p l e rm_Model_delta s m args below meth c G A 8 Qw b_Model_delta (some .int) (xqi Q))  (hf : wp_Model_delta_144 z Q  x1 x4 hp) : xE p l e rm_Model_delta s m args below meth c G A 8 Qw 0 0 hp 144 [(1, .int x1), (4, .int x4)] [] := by
  unfold wp_Model_delta_144 at hf
  refine x_iload_n X (q := 0) d_Model_delta_144 rfl 145 rfl ?_
  refine x_iload X (q := 1) d_Model_delta_145 rfl 147 rfl ?_
  refine x_isub X d_Model_delta_147 148 rfl ?_
  exact hret _ _ _ _ _ (some (.int (x1 - x4))) (Nat.le_refl 0) (Nat.le_refl 0) ⟨_, rfl, hf⟩ ⟨⟨_, rfl, rfl⟩, d_Model_delta_148⟩
set_option maxRecDepth 100000 in
def wp_Model_delta_138 (z : Nat → Nat) (Q : Int32 → xh → Prop)  (a0 : Nat) (x1 : Int32) (x3 : Int32) (x4 : Int32) (hp : xh) : Prop :=
  xcls hp a0 12 ∧ wp_Model_wrong z (fun h1 => wp_Model_delta_144 z Q x1 x4 h1) a0 3 x3 hp
set_option maxRecDepth 100000 in
set_option maxHeartbeats 4000000 in
theorem t_Model_delta_138 {p : Program} {l : Launch} {e : Env} {s : State} {m : MethodId} {args : Array Value} {below : List Frame} {meth : Method} {c : Code} {G : xG} {z : Nat → Nat} {A : Nat → Prop} {Qw : State → Prop} {Q : Int32 → xh → Prop} {a0 : Nat} {x1 : Int32} {x3 : Int32} {x4 : Int32} {hp : xh} (X : xX p l e rm_Model_delta s m args below meth c G z A y_Model_delta b_Model_delta 8) (hret : xRet p l e rm_Model_delta s m args below meth c G A 8 Qw b_Model_delta (some .int) (xqi Q))  (hf : wp_Model_delta_138 z Q  a0 x1 x3 x4 hp) : xE p l e rm_Model_delta s m args below meth c G A 8 Qw 0 0 hp 138 [(0, .ref a0), (1, .int x1), (3, .int x3), (4, .int x4)] [] := by
  unfold wp_Model_delta_138 at hf
  refine x_aload_n X (q := 0) d_Model_delta_138 rfl 139 rfl ?_
  refine x_iconst X (v := 3) d_Model_delta_139 (by decide) 140 rfl ?_
  refine x_iload_n X (q := 2) d_Model_delta_140 rfl 141 rfl ?_
  refine x_callV0v X (t_Model_wrong hf.2) hf.1 (ci := 12) rfl rfl lm_Model_146 im_Model_wrong sl_Model_wrong cd_Model_wrong in_Model ds_Model_wrong rfl rfl (Nat.le_of_ble_eq_true rfl) (Nat.le_of_ble_eq_true rfl) (Nat.le_of_ble_eq_true rfl) rfl rfl (Nat.le_refl 0) (Nat.le_refl 0) d_Model_delta_141 144 rfl (fun h1 hf => ?_)
  exact x_sub [1, 3] rfl (t_Model_delta_144 X hret hf)
set_option maxRecDepth 100000 in
def wp_Model_delta_119 (z : Nat → Nat) (Q : Int32 → xh → Prop)  (a0 : Nat) (x1 : Int32) (x2 : Int32) (x3 : Int32) (x4 : Int32) (hp : xh) : Prop :=
  ∃ v1, fI hp a0 12 7 = some v1 ∧ ((¬ v1 = 0 → wp_Model_delta_144 z Q x1 x4 hp) ∧ (v1 = 0 → ((x4 < x2 → wp_Model_delta_138 z Q a0 x1 x3 x4 hp) ∧ (¬ x4 < x2 → ((x4 ≤ x1 → wp_Model_delta_144 z Q x1 x4 hp) ∧ (¬ x4 ≤ x1 → wp_Model_delta_138 z Q a0 x1 x3 x4 hp))))))
set_option maxRecDepth 100000 in
set_option maxHeartbeats 4000000 in
theorem t_Model_delta_119 {p : Program} {l : Launch} {e : Env} {s : State} {m : MethodId} {args : Array Value} {below : List Frame} {meth : Method} {c : Code} {G : xG} {z : Nat → Nat} {A : Nat → Prop} {Qw : State → Prop} {Q : Int32 → xh → Prop} {a0 : Nat} {x1 : Int32} {x2 : Int32} {x3 : Int32} {x4 : Int32} {hp : xh} (X : xX p l e rm_Model_delta s m args below meth c G z A y_Model_delta b_Model_delta 8) (hret : xRet p l e rm_Model_delta s m args below meth c G A 8 Qw b_Model_delta (some .int) (xqi Q))  (hf : wp_Model_delta_119 z Q  a0 x1 x2 x3 x4 hp) : xE p l e rm_Model_delta s m args below meth c G A 8 Qw 0 0 hp 119 [(0, .ref a0), (1, .int x1), (2, .int x2), (3, .int x3), (4, .int x4)] [] := by
  unfold wp_Model_delta_119 at hf
  refine x_aload_n X (q := 0) d_Model_delta_119 rfl 120 rfl ?_
  refine x_getI X hf (ci := 12) (j := 7) rfl (by decide) rfl lf_Model_136 d_Model_delta_120 123 rfl (fun v1 hf => ?_)
  refine x_if_ne X hf d_Model_delta_123 144 126 (by decide) rfl (fun hf => ?_) (fun hf => ?_)
  · exact x_sub [1, 4] rfl (t_Model_delta_144 X hret hf)
  · refine x_iload X (q := 4) d_Model_delta_126 rfl 128 rfl ?_
    refine x_iload_n X (q := 2) d_Model_delta_128 rfl 129 rfl ?_
    refine x_icmp_lt X hf d_Model_delta_129 138 132 (by decide) rfl (fun hf => ?_) (fun hf => ?_)
    · exact x_sub [0, 1, 3, 4] rfl (t_Model_delta_138 X hret hf)
    · refine x_iload X (q := 4) d_Model_delta_132 rfl 134 rfl ?_
      refine x_iload_n X (q := 1) d_Model_delta_134 rfl 135 rfl ?_
      refine x_icmp_le X hf d_Model_delta_135 144 138 (by decide) rfl (fun hf => ?_) (fun hf => ?_)
      · exact x_sub [1, 4] rfl (t_Model_delta_144 X hret hf)
      · exact x_sub [0, 1, 3, 4] rfl (t_Model_delta_138 X hret hf)
set_option maxRecDepth 100000 in
def wp_Model_delta_105 (z : Nat → Nat) (Q : Int32 → xh → Prop)  (a0 : Nat) (x1 : Int32) (x2 : Int32) (x3 : Int32) (x4 : Int32) (x5 : Int32) (hp : xh) : Prop :=
  (x5 = 0 → wp_Model_delta_119 z Q a0 x1 x2 x3 x4 hp) ∧ (¬ x5 = 0 → (∃ v1, fI hp a0 12 6 = some v1 ∧ (xcls hp a0 12 ∧ wp_Model_wrong z (fun h2 => wp_Model_delta_119 z Q a0 x1 x2 x3 x4 h2) a0 1 v1 hp)))
set_option maxRecDepth 100000 in
set_option maxHeartbeats 4000000 in
theorem t_Model_delta_105 {p : Program} {l : Launch} {e : Env} {s : State} {m : MethodId} {args : Array Value} {below : List Frame} {meth : Method} {c : Code} {G : xG} {z : Nat → Nat} {A : Nat → Prop} {Qw : State → Prop} {Q : Int32 → xh → Prop} {a0 : Nat} {x1 : Int32} {x2 : Int32} {x3 : Int32} {x4 : Int32} {x5 : Int32} {hp : xh} (X : xX p l e rm_Model_delta s m args below meth c G z A y_Model_delta b_Model_delta 8) (hret : xRet p l e rm_Model_delta s m args below meth c G A 8 Qw b_Model_delta (some .int) (xqi Q))  (hf : wp_Model_delta_105 z Q  a0 x1 x2 x3 x4 x5 hp) : xE p l e rm_Model_delta s m args below meth c G A 8 Qw 0 0 hp 105 [(0, .ref a0), (1, .int x1), (2, .int x2), (3, .int x3), (4, .int x4), (5, .int x5)] [] := by
  unfold wp_Model_delta_105 at hf
  refine x_iload X (q := 5) d_Model_delta_105 rfl 107 rfl ?_
  refine x_if_eq X hf d_Model_delta_107 119 110 (by decide) rfl (fun hf => ?_) (fun hf => ?_)
  · exact x_sub [0, 1, 2, 3, 4] rfl (t_Model_delta_119 X hret hf)
  · refine x_aload_n X (q := 0) d_Model_delta_110 rfl 111 rfl ?_
    refine x_iconst X (v := 1) d_Model_delta_111 (by decide) 112 rfl ?_
    refine x_aload_n X (q := 0) d_Model_delta_112 rfl 113 rfl ?_
    refine x_getI X hf (ci := 12) (j := 6) rfl (by decide) rfl lf_Model_133 d_Model_delta_113 116 rfl (fun v1 hf => ?_)
    refine x_callV0v X (t_Model_wrong hf.2) hf.1 (ci := 12) rfl rfl lm_Model_146 im_Model_wrong sl_Model_wrong cd_Model_wrong in_Model ds_Model_wrong rfl rfl (Nat.le_of_ble_eq_true rfl) (Nat.le_of_ble_eq_true rfl) (Nat.le_of_ble_eq_true rfl) rfl rfl (Nat.le_refl 0) (Nat.le_refl 0) d_Model_delta_116 119 rfl (fun h2 hf => ?_)
    exact x_sub [0, 1, 2, 3, 4] rfl (t_Model_delta_119 X hret hf)
set_option maxRecDepth 100000 in
def wp_Model_delta_99 (z : Nat → Nat) (Q : Int32 → xh → Prop) (k14 : Nat × Int32 × Int32 × Int32 × Int32 × Int32 × Int32 × xh → Prop) (a0 : Nat) (x1 : Int32) (x2 : Int32) (x3 : Int32) (x4 : Int32) (x5 : Int32) (x6 : Int32) (hp : xh) : Prop :=
  k14 (a0, x1, x2, x3, x4, x5, (x6 + 1), hp)
set_option maxRecDepth 100000 in
set_option maxHeartbeats 4000000 in
theorem t_Model_delta_99 {p : Program} {l : Launch} {e : Env} {s : State} {m : MethodId} {args : Array Value} {below : List Frame} {meth : Method} {c : Code} {G : xG} {z : Nat → Nat} {A : Nat → Prop} {Qw : State → Prop} {Q : Int32 → xh → Prop} {k14 : Nat × Int32 × Int32 × Int32 × Int32 × Int32 × Int32 × xh → Prop} {a0 : Nat} {x1 : Int32} {x2 : Int32} {x3 : Int32} {x4 : Int32} {x5 : Int32} {x6 : Int32} {hp : xh} (X : xX p l e rm_Model_delta s m args below meth c G z A y_Model_delta b_Model_delta 8) (hret : xRet p l e rm_Model_delta s m args below meth c G A 8 Qw b_Model_delta (some .int) (xqi Q)) (hk14 : ∀ (a0 : Nat) (x1 : Int32) (x2 : Int32) (x3 : Int32) (x4 : Int32) (x5 : Int32) (x6 : Int32) (hp : xh), k14 (a0, x1, x2, x3, x4, x5, x6, hp) → xE p l e rm_Model_delta s m args below meth c G A 8 Qw 0 0 hp 14 [(0, .ref a0), (1, .int x1), (2, .int x2), (3, .int x3), (4, .int x4), (5, .int x5), (6, .int x6)] []) (hf : wp_Model_delta_99 z Q k14 a0 x1 x2 x3 x4 x5 x6 hp) : xE p l e rm_Model_delta s m args below meth c G A 8 Qw 0 0 hp 99 [(0, .ref a0), (1, .int x1), (2, .int x2), (3, .int x3), (4, .int x4), (5, .int x5), (6, .int x6)] [] := by
  unfold wp_Model_delta_99 at hf
  refine x_iinc X (q := 6) (v := (x6 + 1)) (lv' := [(6, .int (x6 + 1)), (0, .ref a0), (1, .int x1), (2, .int x2), (3, .int x3), (4, .int x4), (5, .int x5)]) d_Model_delta_99 rfl (by rfl) (by decide) rfl 102 rfl ?_
  refine x_goto X d_Model_delta_102 14 (by decide) ?_
  exact x_sub [1, 2, 3, 4, 5, 6, 0] rfl (hk14 _ _ _ _ _ _ _ _ hf)
set_option maxRecDepth 100000 in
def wp_Model_delta_80 (z : Nat → Nat) (Q : Int32 → xh → Prop) (k14 : Nat × Int32 × Int32 × Int32 × Int32 × Int32 × Int32 × xh → Prop) (a0 : Nat) (x1 : Int32) (x2 : Int32) (x3 : Int32) (x4 : Int32) (x6 : Int32) (s0 : Int32) (hp : xh) : Prop :=
  ∃ v1, fI hp a0 12 7 = some v1 ∧ ((¬ v1 = 0 → wp_Model_delta_99 z Q k14 a0 x1 x2 x3 x4 s0 x6 hp) ∧ (v1 = 0 → (∃ v2, fI hp a0 12 6 = some v2 ∧ (∃ h3, pV hp a0 12 6 (.int (v2 + 1)) = some h3 ∧ wp_Model_delta_99 z Q k14 a0 x1 x2 x3 x4 s0 x6 h3))))
set_option maxRecDepth 100000 in
set_option maxHeartbeats 4000000 in
theorem t_Model_delta_80 {p : Program} {l : Launch} {e : Env} {s : State} {m : MethodId} {args : Array Value} {below : List Frame} {meth : Method} {c : Code} {G : xG} {z : Nat → Nat} {A : Nat → Prop} {Qw : State → Prop} {Q : Int32 → xh → Prop} {k14 : Nat × Int32 × Int32 × Int32 × Int32 × Int32 × Int32 × xh → Prop} {a0 : Nat} {x1 : Int32} {x2 : Int32} {x3 : Int32} {x4 : Int32} {x6 : Int32} {s0 : Int32} {hp : xh} (X : xX p l e rm_Model_delta s m args below meth c G z A y_Model_delta b_Model_delta 8) (hret : xRet p l e rm_Model_delta s m args below meth c G A 8 Qw b_Model_delta (some .int) (xqi Q)) (hk14 : ∀ (a0 : Nat) (x1 : Int32) (x2 : Int32) (x3 : Int32) (x4 : Int32) (x5 : Int32) (x6 : Int32) (hp : xh), k14 (a0, x1, x2, x3, x4, x5, x6, hp) → xE p l e rm_Model_delta s m args below meth c G A 8 Qw 0 0 hp 14 [(0, .ref a0), (1, .int x1), (2, .int x2), (3, .int x3), (4, .int x4), (5, .int x5), (6, .int x6)] []) (hf : wp_Model_delta_80 z Q k14 a0 x1 x2 x3 x4 x6 s0 hp) : xE p l e rm_Model_delta s m args below meth c G A 8 Qw 0 0 hp 80 [(0, .ref a0), (1, .int x1), (2, .int x2), (3, .int x3), (4, .int x4), (6, .int x6)] [.int s0] := by
  unfold wp_Model_delta_80 at hf
  refine x_istore X (lv' := [(5, .int s0), (0, .ref a0), (1, .int x1), (2, .int x2), (3, .int x3), (4, .int x4), (6, .int x6)]) d_Model_delta_80 (by decide) rfl 82 rfl ?_
  refine x_aload_n X (q := 1) d_Model_delta_82 rfl 83 rfl ?_
  refine x_getI X hf (ci := 12) (j := 7) rfl (by decide) rfl lf_Model_136 d_Model_delta_83 86 rfl (fun v1 hf => ?_)
  refine x_if_ne X hf d_Model_delta_86 99 89 (by decide) rfl (fun hf => ?_) (fun hf => ?_)
  · exact x_sub [1, 2, 3, 4, 5, 0, 6] rfl (t_Model_delta_99 X hret hk14 hf)
  · refine x_aload_n X (q := 1) d_Model_delta_89 rfl 90 rfl ?_
    refine x_dup X rfl d_Model_delta_90 91 rfl ?_
    refine x_getI X hf (ci := 12) (j := 6) rfl (by decide) rfl lf_Model_133 d_Model_delta_91 94 rfl (fun v2 hf => ?_)
    refine x_iconst X (v := 1) d_Model_delta_94 (by decide) 95 rfl ?_
    refine x_iadd X d_Model_delta_95 96 rfl ?_
    refine x_put X hf (ci := 12) (j := 6) (ty := .int) rfl (by decide) rfl lf_Model_133 rfl (by decide +kernel) rfl rfl d_Model_delta_96 99 rfl (fun h3 hf => ?_)
    exact x_sub [1, 2, 3, 4, 5, 0, 6] rfl (t_Model_delta_99 X hret hk14 hf)
set_option maxRecDepth 100000 in
def wp_Model_delta_52 (z : Nat → Nat) (Q : Int32 → xh → Prop) (k14 : Nat × Int32 × Int32 × Int32 × Int32 × Int32 × Int32 × xh → Prop) (a0 : Nat) (x1 : Int32) (x2 : Int32) (x3 : Int32) (x4 : Int32) (x6 : Int32) (x7 : Int32) (hp : xh) : Prop :=
  ∀ v1, v1 = (x4 + ((x7 &&& 127) <<< ((7 * x6) &&& 31))) → (x7 ≤ 127 → wp_Model_delta_80 z Q k14 a0 x1 x2 x3 v1 x6 0 hp) ∧ (¬ x7 ≤ 127 → wp_Model_delta_80 z Q k14 a0 x1 x2 x3 v1 x6 1 hp)
set_option maxRecDepth 100000 in
set_option maxHeartbeats 4000000 in
theorem t_Model_delta_52 {p : Program} {l : Launch} {e : Env} {s : State} {m : MethodId} {args : Array Value} {below : List Frame} {meth : Method} {c : Code} {G : xG} {z : Nat → Nat} {A : Nat → Prop} {Qw : State → Prop} {Q : Int32 → xh → Prop} {k14 : Nat × Int32 × Int32 × Int32 × Int32 × Int32 × Int32 × xh → Prop} {a0 : Nat} {x1 : Int32} {x2 : Int32} {x3 : Int32} {x4 : Int32} {x6 : Int32} {x7 : Int32} {hp : xh} (X : xX p l e rm_Model_delta s m args below meth c G z A y_Model_delta b_Model_delta 8) (hret : xRet p l e rm_Model_delta s m args below meth c G A 8 Qw b_Model_delta (some .int) (xqi Q)) (hk14 : ∀ (a0 : Nat) (x1 : Int32) (x2 : Int32) (x3 : Int32) (x4 : Int32) (x5 : Int32) (x6 : Int32) (hp : xh), k14 (a0, x1, x2, x3, x4, x5, x6, hp) → xE p l e rm_Model_delta s m args below meth c G A 8 Qw 0 0 hp 14 [(0, .ref a0), (1, .int x1), (2, .int x2), (3, .int x3), (4, .int x4), (5, .int x5), (6, .int x6)] []) (hf : wp_Model_delta_52 z Q k14 a0 x1 x2 x3 x4 x6 x7 hp) : xE p l e rm_Model_delta s m args below meth c G A 8 Qw 0 0 hp 52 [(0, .ref a0), (1, .int x1), (2, .int x2), (3, .int x3), (4, .int x4), (6, .int x6), (7, .int x7)] [] := by
  unfold wp_Model_delta_52 at hf
  refine x_iload X (q := 4) d_Model_delta_52 rfl 54 rfl ?_
  refine x_iload X (q := 6) d_Model_delta_54 rfl 56 rfl ?_
  refine x_bipush X (v := 127) d_Model_delta_56 (by decide) 58 rfl ?_
  refine x_iand X d_Model_delta_58 59 rfl ?_
  refine x_bipush X (v := 7) d_Model_delta_59 (by decide) 61 rfl ?_
  refine x_iload X (q := 5) d_Model_delta_61 rfl 63 rfl ?_
  refine x_imul X d_Model_delta_63 64 rfl ?_
  refine x_ishl X d_Model_delta_64 65 rfl ?_
  refine x_iadd X d_Model_delta_65 66 rfl ?_
  refine x_istoreN X hf d_Model_delta_66 (by decide) (lw := fun v1 => [(4, .int v1), (0, .ref a0), (1, .int x1), (2, .int x2), (3, .int x3), (6, .int x6), (7, .int x7)]) (fun _ => rfl) 68 rfl (fun v1 hf => ?_)
  refine x_iload X (q := 6) d_Model_delta_68 rfl 70 rfl ?_
  refine x_bipush X (v := 127) d_Model_delta_70 (by decide) 72 rfl ?_
  refine x_icmp_le X hf d_Model_delta_72 79 75 (by decide) rfl (fun hf => ?_) (fun hf => ?_)
  · refine x_iconst X (v := 0) d_Model_delta_79 (by decide) 80 rfl ?_
    exact x_sub [1, 2, 3, 4, 0, 5] rfl (t_Model_delta_80 X hret hk14 hf)
  · refine x_iconst X (v := 1) d_Model_delta_75 (by decide) 76 rfl ?_
    refine x_goto X d_Model_delta_76 80 (by decide) ?_
    exact x_sub [1, 2, 3, 4, 0, 5] rfl (t_Model_delta_80 X hret hk14 hf)
set_option maxRecDepth 100000 in
def wp_Model_delta_14_b (z : Nat → Nat) (Q : Int32 → xh → Prop)  (k14 : Nat × Int32 × Int32 × Int32 × Int32 × Int32 × Int32 × xh → Prop) (a0 : Nat) (x1 : Int32) (x2 : Int32) (x3 : Int32) (x4 : Int32) (x5 : Int32) (x6 : Int32) (hp : xh) : Prop :=
  (3 ≤ x6 → wp_Model_delta_105 z Q a0 x1 x2 x3 x4 x5 hp) ∧ (¬ 3 ≤ x6 → ((x5 = 0 → wp_Model_delta_105 z Q a0 x1 x2 x3 x4 x5 hp) ∧ (¬ x5 = 0 → (∃ v1, fI hp a0 12 7 = some v1 ∧ ((¬ v1 = 0 → wp_Model_delta_105 z Q a0 x1 x2 x3 x4 x5 hp) ∧ (v1 = 0 → (xcls hp a0 12 ∧ wp_Model_here z (fun v3 h2 => (0 ≤ v3 → wp_Model_delta_52 z Q k14 a0 x1 x2 x3 x4 x6 v3 h2) ∧ (¬ 0 ≤ v3 → (∃ v4, fI h2 a0 12 6 = some v4 ∧ (xcls h2 a0 12 ∧ wp_Model_wrong z (fun h5 => wp_Model_delta_52 z Q k14 a0 x1 x2 x3 x4 x6 v3 h5) a0 1 v4 h2)))) a0 hp)))))))
set_option maxRecDepth 100000 in
def wp_Model_delta_14 (z : Nat → Nat) (Q : Int32 → xh → Prop)  (a0 : Nat) (x1 : Int32) (x2 : Int32) (x3 : Int32) (x4 : Int32) (x5 : Int32) (x6 : Int32) (hp : xh) : Prop := ∃ f : Nat, xloop (fun k14 a => wp_Model_delta_14_b z Q  k14 a.1 a.2.1 a.2.2.1 a.2.2.2.1 a.2.2.2.2.1 a.2.2.2.2.2.1 a.2.2.2.2.2.2.1 a.2.2.2.2.2.2.2) f (a0, x1, x2, x3, x4, x5, x6, hp)
set_option maxRecDepth 100000 in
set_option maxHeartbeats 4000000 in
theorem t_Model_delta_14 {p : Program} {l : Launch} {e : Env} {s : State} {m : MethodId} {args : Array Value} {below : List Frame} {meth : Method} {c : Code} {G : xG} {z : Nat → Nat} {A : Nat → Prop} {Qw : State → Prop} {Q : Int32 → xh → Prop} {a0 : Nat} {x1 : Int32} {x2 : Int32} {x3 : Int32} {x4 : Int32} {x5 : Int32} {x6 : Int32} {hp : xh} (X : xX p l e rm_Model_delta s m args below meth c G z A y_Model_delta b_Model_delta 8) (hret : xRet p l e rm_Model_delta s m args below meth c G A 8 Qw b_Model_delta (some .int) (xqi Q))  (hf : wp_Model_delta_14 z Q  a0 x1 x2 x3 x4 x5 x6 hp) : xE p l e rm_Model_delta s m args below meth c G A 8 Qw 0 0 hp 14 [(0, .ref a0), (1, .int x1), (2, .int x2), (3, .int x3), (4, .int x4), (5, .int x5), (6, .int x6)] [] := by
  obtain ⟨f, hf⟩ := hf
  refine xloop_ind (F := fun k14 a => wp_Model_delta_14_b z Q  k14 a.1 a.2.1 a.2.2.1 a.2.2.2.1 a.2.2.2.2.1 a.2.2.2.2.2.1 a.2.2.2.2.2.2.1 a.2.2.2.2.2.2.2) (E := fun a => xE p l e rm_Model_delta s m args below meth c G A 8 Qw 0 0 a.2.2.2.2.2.2.2 14 [(0, .ref (a.1)), (1, .int (a.2.1)), (2, .int (a.2.2.1)), (3, .int (a.2.2.2.1)), (4, .int (a.2.2.2.2.1)), (5, .int (a.2.2.2.2.2.1)), (6, .int (a.2.2.2.2.2.2.1))] []) ?_ f (a0, x1, x2, x3, x4, x5, x6, hp) hf
  intro k14 hk a hf
  obtain ⟨a0, x1, x2, x3, x4, x5, x6, hp⟩ := a
  have hk14 : ∀ (a0 : Nat) (x1 : Int32) (x2 : Int32) (x3 : Int32) (x4 : Int32) (x5 : Int32) (x6 : Int32) (hp : xh), k14 (a0, x1, x2, x3, x4, x5, x6, hp) → xE p l e rm_Model_delta s m args below meth c G A 8 Qw 0 0 hp 14 [(0, .ref a0), (1, .int x1), (2, .int x2), (3, .int x3), (4, .int x4), (5, .int x5), (6, .int x6)] [] := fun a0 x1 x2 x3 x4 x5 x6 hp h => hk (a0, x1, x2, x3, x4, x5, x6, hp) h
  have hf : wp_Model_delta_14_b z Q  k14 a0 x1 x2 x3 x4 x5 x6 hp := hf
  unfold wp_Model_delta_14_b at hf
  refine x_iload X (q := 6) d_Model_delta_14 rfl 16 rfl ?_
  refine x_iconst X (v := 3) d_Model_delta_16 (by decide) 17 rfl ?_
  refine x_icmp_ge X hf d_Model_delta_17 105 20 (by decide) rfl (fun hf => ?_) (fun hf => ?_)
  · exact x_sub [0, 1, 2, 3, 4, 5] rfl (t_Model_delta_105 X hret hf)
  · refine x_iload X (q := 5) d_Model_delta_20 rfl 22 rfl ?_
    refine x_if_eq X hf d_Model_delta_22 105 25 (by decide) rfl (fun hf => ?_) (fun hf => ?_)
    · exact x_sub [0, 1, 2, 3, 4, 5] rfl (t_Model_delta_105 X hret hf)
    · refine x_aload_n X (q := 0) d_Model_delta_25 rfl 26 rfl ?_
      refine x_getI X hf (ci := 12) (j := 7) rfl (by decide) rfl lf_Model_136 d_Model_delta_26 29 rfl (fun v1 hf => ?_)
      refine x_if_ne X hf d_Model_delta_29 105 32 (by decide) rfl (fun hf => ?_) (fun hf => ?_)
      · exact x_sub [0, 1, 2, 3, 4, 5] rfl (t_Model_delta_105 X hret hf)
      · refine x_aload_n X (q := 0) d_Model_delta_32 rfl 33 rfl ?_
        refine x_callV0i X (t_Model_here hf.2) hf.1 (ci := 12) rfl rfl lm_Model_142 im_Model_here sl_Model_here cd_Model_here in_Model ds_Model_here rfl rfl (Nat.le_of_ble_eq_true rfl) (Nat.le_of_ble_eq_true rfl) (Nat.le_of_ble_eq_true rfl) rfl rfl (Nat.le_refl 0) (Nat.le_refl 0) d_Model_delta_33 36 rfl (fun v3 h2 hf => ?_)
        refine x_istore X (lv' := [(7, .int v3), (0, .ref a0), (1, .int x1), (2, .int x2), (3, .int x3), (4, .int x4), (5, .int x5), (6, .int x6)]) d_Model_delta_36 (by decide) rfl 38 rfl ?_
        refine x_iload X (q := 0) d_Model_delta_38 rfl 40 rfl ?_
        refine x_if_ge X hf d_Model_delta_40 52 43 (by decide) rfl (fun hf => ?_) (fun hf => ?_)
        · exact x_sub [1, 2, 3, 4, 5, 7, 0] rfl (t_Model_delta_52 X hret hk14 hf)
        · refine x_aload_n X (q := 1) d_Model_delta_43 rfl 44 rfl ?_
          refine x_iconst X (v := 1) d_Model_delta_44 (by decide) 45 rfl ?_
          refine x_aload_n X (q := 1) d_Model_delta_45 rfl 46 rfl ?_
          refine x_getI X hf (ci := 12) (j := 6) rfl (by decide) rfl lf_Model_133 d_Model_delta_46 49 rfl (fun v4 hf => ?_)
          refine x_callV0v X (t_Model_wrong hf.2) hf.1 (ci := 12) rfl rfl lm_Model_146 im_Model_wrong sl_Model_wrong cd_Model_wrong in_Model ds_Model_wrong rfl rfl (Nat.le_of_ble_eq_true rfl) (Nat.le_of_ble_eq_true rfl) (Nat.le_of_ble_eq_true rfl) rfl rfl (Nat.le_refl 0) (Nat.le_refl 0) d_Model_delta_49 52 rfl (fun h5 hf => ?_)
          exact x_sub [1, 2, 3, 4, 5, 7, 0] rfl (t_Model_delta_52 X hret hk14 hf)
set_option maxRecDepth 100000 in
def wp_Model_delta (z : Nat → Nat) (Q : Int32 → xh → Prop) (a0 : Nat) (x1 : Int32) (x2 : Int32) (hp : xh) : Prop :=
  ∃ v1, fI hp a0 12 6 = some v1 ∧ wp_Model_delta_14 z Q a0 x1 x2 v1 0 1 0 hp
set_option maxRecDepth 100000 in
set_option maxHeartbeats 4000000 in
theorem t_Model_delta {l : Launch} {G : xG} {z : Nat → Nat} {Q : Int32 → xh → Prop} {a0 : Nat} {x1 : Int32} {x2 : Int32} {hp : xh} (hf : wp_Model_delta z Q a0 x1 x2 hp) : xM l G z y_Model_delta b_Model_delta 8 (some .int) rm_Model_delta [.ref a0, .int x1, .int x2] hp (xqi Q) := by
  refine xM_of (by decide) (Nat.le_of_ble_eq_true rfl) (lv0 := [(0, .ref a0), (1, .int x1), (2, .int x2)]) rfl ?_
  intro p e s m args below meth c A Qw X hret
  unfold wp_Model_delta at hf
  refine x_aload_n X (q := 0) d_Model_delta_0 rfl 1 rfl ?_
  refine x_getI X hf (ci := 12) (j := 6) rfl (by decide) rfl lf_Model_133 d_Model_delta_1 4 rfl (fun v1 hf => ?_)
  refine x_istore_n X (lv' := [(3, .int v1), (0, .ref a0), (1, .int x1), (2, .int x2)]) d_Model_delta_4 rfl (by decide) rfl 5 rfl ?_
  refine x_iconst X (v := 0) d_Model_delta_5 (by decide) 6 rfl ?_
  refine x_istore X (lv' := [(4, .int 0), (3, .int v1), (0, .ref a0), (1, .int x1), (2, .int x2)]) d_Model_delta_6 (by decide) rfl 8 rfl ?_
  refine x_iconst X (v := 1) d_Model_delta_8 (by decide) 9 rfl ?_
  refine x_istore X (lv' := [(5, .int 1), (4, .int 0), (3, .int v1), (0, .ref a0), (1, .int x1), (2, .int x2)]) d_Model_delta_9 (by decide) rfl 11 rfl ?_
  refine x_iconst X (v := 0) d_Model_delta_11 (by decide) 12 rfl ?_
  refine x_istore X (lv' := [(6, .int 0), (5, .int 1), (4, .int 0), (3, .int v1), (0, .ref a0), (1, .int x1), (2, .int x2)]) d_Model_delta_12 (by decide) rfl 14 rfl ?_
  exact x_sub [4, 5, 6, 3, 2, 1, 0] rfl (t_Model_delta_14 X hret hf)

set_option maxRecDepth 100000 in
def wp_Model_takeBinary_345 (z : Nat → Nat) (Q : xh → Prop) (k216 : Nat × Int32 × xh → Prop) (a0 : Nat) (x1 : Int32) (s2 : Int32) (s1 : Int32) (s0 : Nat) (hp : xh) : Prop :=
  ∃ h1, sI hp s0 0 s1 s2 = some h1 ∧ (k216 (a0, (x1 + 1), h1))
set_option maxRecDepth 100000 in
set_option maxHeartbeats 4000000 in
theorem t_Model_takeBinary_345 {p : Program} {l : Launch} {e : Env} {s : State} {m : MethodId} {args : Array Value} {below : List Frame} {meth : Method} {c : Code} {G : xG} {z : Nat → Nat} {A : Nat → Prop} {Qw : State → Prop} {Q : xh → Prop} {k216 : Nat × Int32 × xh → Prop} {a0 : Nat} {x1 : Int32} {s2 : Int32} {s1 : Int32} {s0 : Nat} {hp : xh} (X : xX p l e rm_Model_takeBinary s m args below meth c G z A y_Model_takeBinary b_Model_takeBinary 5) (hret : xRet p l e rm_Model_takeBinary s m args below meth c G A 5 Qw b_Model_takeBinary none (xqv Q)) (hk216 : ∀ (a0 : Nat) (x1 : Int32) (hp : xh), k216 (a0, x1, hp) → xE p l e rm_Model_takeBinary s m args below meth c G A 5 Qw 0 0 hp 216 [(0, .ref a0), (1, .int x1)] []) (hf : wp_Model_takeBinary_345 z Q k216 a0 x1 s2 s1 s0 hp) : xE p l e rm_Model_takeBinary s m args below meth c G A 5 Qw 0 0 hp 345 [(0, .ref a0), (1, .int x1)] [.int s2, .int s1, .ref s0] := by
  unfold wp_Model_takeBinary_345 at hf
  refine x_iast X hf d_Model_takeBinary_345 346 rfl (fun h1 hf => ?_)
  refine x_iinc X (q := 1) (v := (x1 + 1)) (lv' := [(1, .int (x1 + 1)), (0, .ref a0)]) d_Model_takeBinary_346 rfl (by rfl) (by decide) rfl 349 rfl ?_
  refine x_goto X d_Model_takeBinary_349 216 (by decide) ?_
  exact x_sub [1, 0] rfl (hk216 _ _ _ hf)
set_option maxRecDepth 100000 in
def wp_Model_takeBinary_216_b (z : Nat → Nat) (Q : xh → Prop)  (k216 : Nat × Int32 × xh → Prop) (a0 : Nat) (x1 : Int32) (hp : xh) : Prop :=
  ∃ o1, fR hp a0 12 10 = some o1 ∧ (∃ v2, aI hp o1 0 14 = some v2 ∧ ((v2 ≤ x1 → Q hp) ∧ (¬ v2 ≤ x1 → (∃ v3, fI hp a0 12 7 = some v3 ∧ ((¬ v3 = 0 → Q hp) ∧ (v3 = 0 → (∃ o4, fR hp a0 12 15 = some o4 ∧ (∃ o5, fR hp a0 12 10 = some o5 ∧ (∃ v6, aI hp o5 0 11 = some v6 ∧ (∃ o7, fR hp a0 12 10 = some o7 ∧ (∃ v8, aI hp o7 0 12 = some v8 ∧ (∃ h9, sI hp o4 0 (300 + x1) (2 * (((v6 + v8) + x1) + 1)) = some h9 ∧ (∃ o10, fR h9 a0 12 22 = some o10 ∧ (∃ v11, fI h9 a0 12 6 = some v11 ∧ (∃ h12, sI h9 o10 0 x1 v11 = some h12 ∧ (∃ o13, fR h12 a0 12 16 = some o13 ∧ (∃ o14, fR h12 a0 12 15 = some o14 ∧ (∃ v15, aI h12 o14 0 (300 + x1) = some v15 ∧ (xcls h12 a0 12 ∧ wp_Model_delta z (fun v17 h16 => ∃ h18, sI h16 o13 0 (300 + x1) v17 = some h18 ∧ (∃ o19, fR h18 a0 12 23 = some o19 ∧ (∃ v20, fI h18 a0 12 6 = some v20 ∧ (∃ h21, sI h18 o19 0 x1 v20 = some h21 ∧ (∃ o22, fR h21 a0 12 17 = some o22 ∧ (∃ v23, fI h21 a0 12 7 = some v23 ∧ ((¬ v23 = 0 → (wp_Model_takeBinary_345 z Q k216 a0 x1 0 (300 + x1) o22 h21)) ∧ (v23 = 0 → (∃ o24, fR h21 a0 12 16 = some o24 ∧ (∃ v25, aI h21 o24 0 (300 + x1) = some v25 ∧ (xcls h21 a0 12 ∧ wp_Model_delta z (fun v27 h26 => wp_Model_takeBinary_345 z Q k216 a0 x1 v27 (300 + x1) o22 h26) a0 v25 0 h21))))))))))) a0 v15 1 h12)))))))))))))))))))
set_option maxRecDepth 100000 in
def wp_Model_takeBinary_216 (z : Nat → Nat) (Q : xh → Prop)  (a0 : Nat) (x1 : Int32) (hp : xh) : Prop := ∃ f : Nat, xloop (fun k216 a => wp_Model_takeBinary_216_b z Q  k216 a.1 a.2.1 a.2.2) f (a0, x1, hp)
set_option maxRecDepth 100000 in
set_option maxHeartbeats 4000000 in
theorem t_Model_takeBinary_216 {p : Program} {l : Launch} {e : Env} {s : State} {m : MethodId} {args : Array Value} {below : List Frame} {meth : Method} {c : Code} {G : xG} {z : Nat → Nat} {A : Nat → Prop} {Qw : State → Prop} {Q : xh → Prop} {a0 : Nat} {x1 : Int32} {hp : xh} (X : xX p l e rm_Model_takeBinary s m args below meth c G z A y_Model_takeBinary b_Model_takeBinary 5) (hret : xRet p l e rm_Model_takeBinary s m args below meth c G A 5 Qw b_Model_takeBinary none (xqv Q))  (hf : wp_Model_takeBinary_216 z Q  a0 x1 hp) : xE p l e rm_Model_takeBinary s m args below meth c G A 5 Qw 0 0 hp 216 [(0, .ref a0), (1, .int x1)] [] := by
  obtain ⟨f, hf⟩ := hf
  refine xloop_ind (F := fun k216 a => wp_Model_takeBinary_216_b z Q  k216 a.1 a.2.1 a.2.2) (E := fun a => xE p l e rm_Model_takeBinary s m args below meth c G A 5 Qw 0 0 a.2.2 216 [(0, .ref (a.1)), (1, .int (a.2.1))] []) ?_ f (a0, x1, hp) hf
  intro k216 hk a hf
  obtain ⟨a0, x1, hp⟩ := a
  have hk216 : ∀ (a0 : Nat) (x1 : Int32) (hp : xh), k216 (a0, x1, hp) → xE p l e rm_Model_takeBinary s m args below meth c G A 5 Qw 0 0 hp 216 [(0, .ref a0), (1, .int x1)] [] := fun a0 x1 hp h => hk (a0, x1, hp) h
  have hf : wp_Model_takeBinary_216_b z Q  k216 a0 x1 hp := hf
  unfold wp_Model_takeBinary_216_b at hf
  refine x_iload_n X (q := 1) d_Model_takeBinary_216 rfl 217 rfl ?_
  refine x_aload_n X (q := 0) d_Model_takeBinary_217 rfl 218 rfl ?_
  refine x_getR X hf (ci := 12) (j := 10) rfl (by decide) rfl lf_Model_20 d_Model_takeBinary_218 221 rfl (fun o1 hf => ?_)
  refine x_bipush X (v := 14) d_Model_takeBinary_221 (by decide) 223 rfl ?_
  refine x_iald X hf d_Model_takeBinary_223 224 rfl (fun v2 hf => ?_)
  refine x_icmp_ge X hf d_Model_takeBinary_224 352 227 (by decide) rfl (fun hf => ?_) (fun hf => ?_)
  · exact hret _ _ _ _ _ none (Nat.le_refl 0) (Nat.le_refl 0) ⟨rfl, hf⟩ ⟨rfl, d_Model_takeBinary_352⟩
  · refine x_aload_n X (q := 0) d_Model_takeBinary_227 rfl 228 rfl ?_
    refine x_getI X hf (ci := 12) (j := 7) rfl (by decide) rfl lf_Model_136 d_Model_takeBinary_228 231 rfl (fun v3 hf => ?_)
    refine x_if_ne X hf d_Model_takeBinary_231 352 234 (by decide) rfl (fun hf => ?_) (fun hf => ?_)
    · exact hret _ _ _ _ _ none (Nat.le_refl 0) (Nat.le_refl 0) ⟨rfl, hf⟩ ⟨rfl, d_Model_takeBinary_352⟩
    · refine x_aload_n X (q := 0) d_Model_takeBinary_234 rfl 235 rfl ?_
      refine x_getR X hf (ci := 12) (j := 15) rfl (by decide) rfl lf_Model_36 d_Model_takeBinary_235 238 rfl (fun o4 hf => ?_)
      refine x_sipush X (v := 300) d_Model_takeBinary_238 (by decide) 241 rfl ?_
      refine x_iload_n X (q := 1) d_Model_takeBinary_241 rfl 242 rfl ?_
      refine x_iadd X d_Model_takeBinary_242 243 rfl ?_
      refine x_iconst X (v := 2) d_Model_takeBinary_243 (by decide) 244 rfl ?_
      refine x_aload_n X (q := 0) d_Model_takeBinary_244 rfl 245 rfl ?_
      refine x_getR X hf (ci := 12) (j := 10) rfl (by decide) rfl lf_Model_20 d_Model_takeBinary_245 248 rfl (fun o5 hf => ?_)
      refine x_bipush X (v := 11) d_Model_takeBinary_248 (by decide) 250 rfl ?_
      refine x_iald X hf d_Model_takeBinary_250 251 rfl (fun v6 hf => ?_)
      refine x_aload_n X (q := 0) d_Model_takeBinary_251 rfl 252 rfl ?_
      refine x_getR X hf (ci := 12) (j := 10) rfl (by decide) rfl lf_Model_20 d_Model_takeBinary_252 255 rfl (fun o7 hf => ?_)
      refine x_bipush X (v := 12) d_Model_takeBinary_255 (by decide) 257 rfl ?_
      refine x_iald X hf d_Model_takeBinary_257 258 rfl (fun v8 hf => ?_)
      refine x_iadd X d_Model_takeBinary_258 259 rfl ?_
      refine x_iload_n X (q := 1) d_Model_takeBinary_259 rfl 260 rfl ?_
      refine x_iadd X d_Model_takeBinary_260 261 rfl ?_
      refine x_iconst X (v := 1) d_Model_takeBinary_261 (by decide) 262 rfl ?_
      refine x_iadd X d_Model_takeBinary_262 263 rfl ?_
      refine x_imul X d_Model_takeBinary_263 264 rfl ?_
      refine x_iast X hf d_Model_takeBinary_264 265 rfl (fun h9 hf => ?_)
      refine x_aload_n X (q := 0) d_Model_takeBinary_265 rfl 266 rfl ?_
      refine x_getR X hf (ci := 12) (j := 22) rfl (by decide) rfl lf_Model_57 d_Model_takeBinary_266 269 rfl (fun o10 hf => ?_)
      refine x_iload_n X (q := 1) d_Model_takeBinary_269 rfl 270 rfl ?_
      refine x_aload_n X (q := 0) d_Model_takeBinary_270 rfl 271 rfl ?_
      refine x_getI X hf (ci := 12) (j := 6) rfl (by decide) rfl lf_Model_133 d_Model_takeBinary_271 274 rfl (fun v11 hf => ?_)
      refine x_iast X hf d_Model_takeBinary_274 275 rfl (fun h12 hf => ?_)
      refine x_aload_n X (q := 0) d_Model_takeBinary_275 rfl 276 rfl ?_
      refine x_getR X hf (ci := 12) (j := 16) rfl (by decide) rfl lf_Model_39 d_Model_takeBinary_276 279 rfl (fun o13 hf => ?_)
      refine x_sipush X (v := 300) d_Model_takeBinary_279 (by decide) 282 rfl ?_
      refine x_iload_n X (q := 1) d_Model_takeBinary_282 rfl 283 rfl ?_
      refine x_iadd X d_Model_takeBinary_283 284 rfl ?_
      refine x_aload_n X (q := 0) d_Model_takeBinary_284 rfl 285 rfl ?_
      refine x_aload_n X (q := 0) d_Model_takeBinary_285 rfl 286 rfl ?_
      refine x_getR X hf (ci := 12) (j := 15) rfl (by decide) rfl lf_Model_36 d_Model_takeBinary_286 289 rfl (fun o14 hf => ?_)
      refine x_sipush X (v := 300) d_Model_takeBinary_289 (by decide) 292 rfl ?_
      refine x_iload_n X (q := 1) d_Model_takeBinary_292 rfl 293 rfl ?_
      refine x_iadd X d_Model_takeBinary_293 294 rfl ?_
      refine x_iald X hf d_Model_takeBinary_294 295 rfl (fun v15 hf => ?_)
      refine x_iconst X (v := 1) d_Model_takeBinary_295 (by decide) 296 rfl ?_
      refine x_callV0i X (t_Model_delta hf.2) hf.1 (ci := 12) rfl rfl lm_Model_181 im_Model_delta sl_Model_delta cd_Model_delta in_Model ds_Model_delta rfl rfl (Nat.le_of_ble_eq_true rfl) (Nat.le_of_ble_eq_true rfl) (Nat.le_of_ble_eq_true rfl) rfl rfl (Nat.le_refl 0) (Nat.le_refl 0) d_Model_takeBinary_296 299 rfl (fun v17 h16 hf => ?_)
      refine x_iast X hf d_Model_takeBinary_299 300 rfl (fun h18 hf => ?_)
      refine x_aload_n X (q := 0) d_Model_takeBinary_300 rfl 301 rfl ?_
      refine x_getR X hf (ci := 12) (j := 23) rfl (by decide) rfl lf_Model_60 d_Model_takeBinary_301 304 rfl (fun o19 hf => ?_)
      refine x_iload_n X (q := 1) d_Model_takeBinary_304 rfl 305 rfl ?_
      refine x_aload_n X (q := 0) d_Model_takeBinary_305 rfl 306 rfl ?_
      refine x_getI X hf (ci := 12) (j := 6) rfl (by decide) rfl lf_Model_133 d_Model_takeBinary_306 309 rfl (fun v20 hf => ?_)
      refine x_iast X hf d_Model_takeBinary_309 310 rfl (fun h21 hf => ?_)
      refine x_aload_n X (q := 0) d_Model_takeBinary_310 rfl 311 rfl ?_
      refine x_getR X hf (ci := 12) (j := 17) rfl (by decide) rfl lf_Model_42 d_Model_takeBinary_311 314 rfl (fun o22 hf => ?_)
      refine x_sipush X (v := 300) d_Model_takeBinary_314 (by decide) 317 rfl ?_
      refine x_iload_n X (q := 1) d_Model_takeBinary_317 rfl 318 rfl ?_
      refine x_iadd X d_Model_takeBinary_318 319 rfl ?_
      refine x_aload_n X (q := 0) d_Model_takeBinary_319 rfl 320 rfl ?_
      refine x_getI X hf (ci := 12) (j := 7) rfl (by decide) rfl lf_Model_136 d_Model_takeBinary_320 323 rfl (fun v23 hf => ?_)
      refine x_if_ne X hf d_Model_takeBinary_323 344 326 (by decide) rfl (fun hf => ?_) (fun hf => ?_)
      · refine x_iconst X (v := 0) d_Model_takeBinary_344 (by decide) 345 rfl ?_
        exact x_sub [0, 1] rfl (t_Model_takeBinary_345 X hret hk216 hf)
      · refine x_aload_n X (q := 0) d_Model_takeBinary_326 rfl 327 rfl ?_
        refine x_aload_n X (q := 0) d_Model_takeBinary_327 rfl 328 rfl ?_
        refine x_getR X hf (ci := 12) (j := 16) rfl (by decide) rfl lf_Model_39 d_Model_takeBinary_328 331 rfl (fun o24 hf => ?_)
        refine x_sipush X (v := 300) d_Model_takeBinary_331 (by decide) 334 rfl ?_
        refine x_iload_n X (q := 1) d_Model_takeBinary_334 rfl 335 rfl ?_
        refine x_iadd X d_Model_takeBinary_335 336 rfl ?_
        refine x_iald X hf d_Model_takeBinary_336 337 rfl (fun v25 hf => ?_)
        refine x_iconst X (v := 0) d_Model_takeBinary_337 (by decide) 338 rfl ?_
        refine x_callV0i X (t_Model_delta hf.2) hf.1 (ci := 12) rfl rfl lm_Model_181 im_Model_delta sl_Model_delta cd_Model_delta in_Model ds_Model_delta rfl rfl (Nat.le_of_ble_eq_true rfl) (Nat.le_of_ble_eq_true rfl) (Nat.le_of_ble_eq_true rfl) rfl rfl (Nat.le_refl 0) (Nat.le_refl 0) d_Model_takeBinary_338 341 rfl (fun v27 h26 hf => ?_)
        refine x_goto X d_Model_takeBinary_341 345 (by decide) ?_
        exact x_sub [0, 1] rfl (t_Model_takeBinary_345 X hret hk216 hf)
set_option maxRecDepth 100000 in
def wp_Model_takeBinary_210 (z : Nat → Nat) (Q : xh → Prop)  (a0 : Nat) (hp : xh) : Prop :=
  xcls hp a0 12 ∧ wp_Model_takeOutputs z (fun h1 => wp_Model_takeBinary_216 z Q a0 0 h1) a0 hp
set_option maxRecDepth 100000 in
set_option maxHeartbeats 4000000 in
theorem t_Model_takeBinary_210 {p : Program} {l : Launch} {e : Env} {s : State} {m : MethodId} {args : Array Value} {below : List Frame} {meth : Method} {c : Code} {G : xG} {z : Nat → Nat} {A : Nat → Prop} {Qw : State → Prop} {Q : xh → Prop} {a0 : Nat} {hp : xh} (X : xX p l e rm_Model_takeBinary s m args below meth c G z A y_Model_takeBinary b_Model_takeBinary 5) (hret : xRet p l e rm_Model_takeBinary s m args below meth c G A 5 Qw b_Model_takeBinary none (xqv Q))  (hf : wp_Model_takeBinary_210 z Q  a0 hp) : xE p l e rm_Model_takeBinary s m args below meth c G A 5 Qw 0 0 hp 210 [(0, .ref a0)] [] := by
  unfold wp_Model_takeBinary_210 at hf
  refine x_aload_n X (q := 0) d_Model_takeBinary_210 rfl 211 rfl ?_
  refine x_callV0v X (t_Model_takeOutputs hf.2) hf.1 (ci := 12) rfl rfl lm_Model_178 im_Model_takeOutputs sl_Model_takeOutputs cd_Model_takeOutputs in_Model ds_Model_takeOutputs rfl rfl (Nat.le_of_ble_eq_true rfl) (Nat.le_of_ble_eq_true rfl) (Nat.le_of_ble_eq_true rfl) rfl rfl (Nat.le_refl 0) (Nat.le_refl 0) d_Model_takeBinary_211 214 rfl (fun h1 hf => ?_)
  refine x_iconst X (v := 0) d_Model_takeBinary_214 (by decide) 215 rfl ?_
  refine x_istore_n X (lv' := [(1, .int 0), (0, .ref a0)]) d_Model_takeBinary_215 rfl (by decide) rfl 216 rfl ?_
  exact x_sub [1, 0] rfl (t_Model_takeBinary_216 X hret hf)
set_option maxRecDepth 100000 in
def wp_Model_takeBinary_181_b (z : Nat → Nat) (Q : xh → Prop)  (k181 : Nat × Int32 × xh → Prop) (a0 : Nat) (x1 : Int32) (hp : xh) : Prop :=
  ∃ o1, fR hp a0 12 10 = some o1 ∧ (∃ v2, aI hp o1 0 12 = some v2 ∧ ((v2 ≤ x1 → wp_Model_takeBinary_210 z Q a0 hp) ∧ (¬ v2 ≤ x1 → (∃ v3, fI hp a0 12 7 = some v3 ∧ ((¬ v3 = 0 → wp_Model_takeBinary_210 z Q a0 hp) ∧ (v3 = 0 → (xcls hp a0 12 ∧ wp_Model_takeNext z (fun h4 => k181 (a0, (x1 + 1), h4)) a0 x1 hp)))))))
set_option maxRecDepth 100000 in
def wp_Model_takeBinary_181 (z : Nat → Nat) (Q : xh → Prop)  (a0 : Nat) (x1 : Int32) (hp : xh) : Prop := ∃ f : Nat, xloop (fun k181 a => wp_Model_takeBinary_181_b z Q  k181 a.1 a.2.1 a.2.2) f (a0, x1, hp)
set_option maxRecDepth 100000 in
set_option maxHeartbeats 4000000 in
theorem t_Model_takeBinary_181 {p : Program} {l : Launch} {e : Env} {s : State} {m : MethodId} {args : Array Value} {below : List Frame} {meth : Method} {c : Code} {G : xG} {z : Nat → Nat} {A : Nat → Prop} {Qw : State → Prop} {Q : xh → Prop} {a0 : Nat} {x1 : Int32} {hp : xh} (X : xX p l e rm_Model_takeBinary s m args below meth c G z A y_Model_takeBinary b_Model_takeBinary 5) (hret : xRet p l e rm_Model_takeBinary s m args below meth c G A 5 Qw b_Model_takeBinary none (xqv Q))  (hf : wp_Model_takeBinary_181 z Q  a0 x1 hp) : xE p l e rm_Model_takeBinary s m args below meth c G A 5 Qw 0 0 hp 181 [(0, .ref a0), (1, .int x1)] [] := by
  obtain ⟨f, hf⟩ := hf
  refine xloop_ind (F := fun k181 a => wp_Model_takeBinary_181_b z Q  k181 a.1 a.2.1 a.2.2) (E := fun a => xE p l e rm_Model_takeBinary s m args below meth c G A 5 Qw 0 0 a.2.2 181 [(0, .ref (a.1)), (1, .int (a.2.1))] []) ?_ f (a0, x1, hp) hf
  intro k181 hk a hf
  obtain ⟨a0, x1, hp⟩ := a
  have hk181 : ∀ (a0 : Nat) (x1 : Int32) (hp : xh), k181 (a0, x1, hp) → xE p l e rm_Model_takeBinary s m args below meth c G A 5 Qw 0 0 hp 181 [(0, .ref a0), (1, .int x1)] [] := fun a0 x1 hp h => hk (a0, x1, hp) h
  have hf : wp_Model_takeBinary_181_b z Q  k181 a0 x1 hp := hf
  unfold wp_Model_takeBinary_181_b at hf
  refine x_iload_n X (q := 1) d_Model_takeBinary_181 rfl 182 rfl ?_
  refine x_aload_n X (q := 0) d_Model_takeBinary_182 rfl 183 rfl ?_
  refine x_getR X hf (ci := 12) (j := 10) rfl (by decide) rfl lf_Model_20 d_Model_takeBinary_183 186 rfl (fun o1 hf => ?_)
  refine x_bipush X (v := 12) d_Model_takeBinary_186 (by decide) 188 rfl ?_
  refine x_iald X hf d_Model_takeBinary_188 189 rfl (fun v2 hf => ?_)
  refine x_icmp_ge X hf d_Model_takeBinary_189 210 192 (by decide) rfl (fun hf => ?_) (fun hf => ?_)
  · exact x_sub [0] rfl (t_Model_takeBinary_210 X hret hf)
  · refine x_aload_n X (q := 0) d_Model_takeBinary_192 rfl 193 rfl ?_
    refine x_getI X hf (ci := 12) (j := 7) rfl (by decide) rfl lf_Model_136 d_Model_takeBinary_193 196 rfl (fun v3 hf => ?_)
    refine x_if_ne X hf d_Model_takeBinary_196 210 199 (by decide) rfl (fun hf => ?_) (fun hf => ?_)
    · exact x_sub [0] rfl (t_Model_takeBinary_210 X hret hf)
    · refine x_aload_n X (q := 0) d_Model_takeBinary_199 rfl 200 rfl ?_
      refine x_iload_n X (q := 1) d_Model_takeBinary_200 rfl 201 rfl ?_
      refine x_callV0v X (t_Model_takeNext hf.2) hf.1 (ci := 12) rfl rfl lm_Model_175 im_Model_takeNext sl_Model_takeNext cd_Model_takeNext in_Model ds_Model_takeNext rfl rfl (Nat.le_of_ble_eq_true rfl) (Nat.le_of_ble_eq_true rfl) (Nat.le_of_ble_eq_true rfl) rfl rfl (Nat.le_refl 0) (Nat.le_refl 0) d_Model_takeBinary_201 204 rfl (fun h4 hf => ?_)
      refine x_iinc X (q := 1) (v := (x1 + 1)) (lv' := [(1, .int (x1 + 1)), (0, .ref a0)]) d_Model_takeBinary_204 rfl (by rfl) (by decide) rfl 207 rfl ?_
      refine x_goto X d_Model_takeBinary_207 181 (by decide) ?_
      exact x_sub [1, 0] rfl (hk181 _ _ _ hf)
set_option maxRecDepth 100000 in
def wp_Model_takeBinary_173 (z : Nat → Nat) (Q : xh → Prop) (k2 : Nat × Int32 × xh → Prop) (a0 : Nat) (x1 : Int32) (hp : xh) : Prop :=
  k2 (a0, (x1 + 1), hp)
set_option maxRecDepth 100000 in
set_option maxHeartbeats 4000000 in
theorem t_Model_takeBinary_173 {p : Program} {l : Launch} {e : Env} {s : State} {m : MethodId} {args : Array Value} {below : List Frame} {meth : Method} {c : Code} {G : xG} {z : Nat → Nat} {A : Nat → Prop} {Qw : State → Prop} {Q : xh → Prop} {k2 : Nat × Int32 × xh → Prop} {a0 : Nat} {x1 : Int32} {hp : xh} (X : xX p l e rm_Model_takeBinary s m args below meth c G z A y_Model_takeBinary b_Model_takeBinary 5) (hret : xRet p l e rm_Model_takeBinary s m args below meth c G A 5 Qw b_Model_takeBinary none (xqv Q)) (hk2 : ∀ (a0 : Nat) (x1 : Int32) (hp : xh), k2 (a0, x1, hp) → xE p l e rm_Model_takeBinary s m args below meth c G A 5 Qw 0 0 hp 2 [(0, .ref a0), (1, .int x1)] []) (hf : wp_Model_takeBinary_173 z Q k2 a0 x1 hp) : xE p l e rm_Model_takeBinary s m args below meth c G A 5 Qw 0 0 hp 173 [(0, .ref a0), (1, .int x1)] [] := by
  unfold wp_Model_takeBinary_173 at hf
  refine x_iinc X (q := 1) (v := (x1 + 1)) (lv' := [(1, .int (x1 + 1)), (0, .ref a0)]) d_Model_takeBinary_173 rfl (by rfl) (by decide) rfl 176 rfl ?_
  refine x_goto X d_Model_takeBinary_176 2 (by decide) ?_
  exact x_sub [1, 0] rfl (hk2 _ _ _ hf)
set_option maxRecDepth 100000 in
def wp_Model_takeBinary_126 (z : Nat → Nat) (Q : xh → Prop) (k2 : Nat × Int32 × xh → Prop) (a0 : Nat) (x1 : Int32) (x2 : Int32) (x3 : Int32) (x4 : Int32) (s3 : Int32) (s2 : Int32) (s1 : Int32) (s0 : Nat) (hp : xh) : Prop :=
  xcls hp s0 12 ∧ wp_Model_define z (fun h1 => (x3 = 0 → ((x4 = 0 → wp_Model_takeBinary_173 z Q k2 a0 x1 h1) ∧ (¬ x4 = 0 → (∃ o2, fR h1 a0 12 12 = some o2 ∧ (∃ o3, fR h1 a0 12 10 = some o3 ∧ (∃ v4, aI h1 o3 0 11 = some v4 ∧ (∃ h5, sI h1 o2 0 ((14 + x2) - v4) (2 * x1) = some h5 ∧ wp_Model_takeBinary_173 z Q k2 a0 x1 h5))))))) ∧ (¬ x3 = 0 → (∃ o6, fR h1 a0 12 11 = some o6 ∧ (∃ h7, sI h1 o6 0 (10 + x2) (2 * x1) = some h7 ∧ wp_Model_takeBinary_173 z Q k2 a0 x1 h7)))) s0 s1 s2 s3 hp
set_option maxRecDepth 100000 in
set_option maxHeartbeats 4000000 in
theorem t_Model_takeBinary_126 {p : Program} {l : Launch} {e : Env} {s : State} {m : MethodId} {args : Array Value} {below : List Frame} {meth : Method} {c : Code} {G : xG} {z : Nat → Nat} {A : Nat → Prop} {Qw : State → Prop} {Q : xh → Prop} {k2 : Nat × Int32 × xh → Prop} {a0 : Nat} {x1 : Int32} {x2 : Int32} {x3 : Int32} {x4 : Int32} {s3 : Int32} {s2 : Int32} {s1 : Int32} {s0 : Nat} {hp : xh} (X : xX p l e rm_Model_takeBinary s m args below meth c G z A y_Model_takeBinary b_Model_takeBinary 5) (hret : xRet p l e rm_Model_takeBinary s m args below meth c G A 5 Qw b_Model_takeBinary none (xqv Q)) (hk2 : ∀ (a0 : Nat) (x1 : Int32) (hp : xh), k2 (a0, x1, hp) → xE p l e rm_Model_takeBinary s m args below meth c G A 5 Qw 0 0 hp 2 [(0, .ref a0), (1, .int x1)] []) (hf : wp_Model_takeBinary_126 z Q k2 a0 x1 x2 x3 x4 s3 s2 s1 s0 hp) : xE p l e rm_Model_takeBinary s m args below meth c G A 5 Qw 0 0 hp 126 [(0, .ref a0), (1, .int x1), (2, .int x2), (3, .int x3), (4, .int x4)] [.int s3, .int s2, .int s1, .ref s0] := by
  unfold wp_Model_takeBinary_126 at hf
  refine x_callV0v X (t_Model_define hf.2) hf.1 (ci := 12) rfl rfl lm_Model_163 im_Model_define sl_Model_define cd_Model_define in_Model ds_Model_define rfl rfl (Nat.le_of_ble_eq_true rfl) (Nat.le_of_ble_eq_true rfl) (Nat.le_of_ble_eq_true rfl) rfl rfl (Nat.le_refl 0) (Nat.le_refl 0) d_Model_takeBinary_126 129 rfl (fun h1 hf => ?_)
  refine x_iload_n X (q := 3) d_Model_takeBinary_129 rfl 130 rfl ?_
  refine x_if_eq X hf d_Model_takeBinary_130 148 133 (by decide) rfl (fun hf => ?_) (fun hf => ?_)
  · refine x_iload X (q := 4) d_Model_takeBinary_148 rfl 150 rfl ?_
    refine x_if_eq X hf d_Model_takeBinary_150 173 153 (by decide) rfl (fun hf => ?_) (fun hf => ?_)
    · exact x_sub [0, 1] rfl (t_Model_takeBinary_173 X hret hk2 hf)
    · refine x_aload_n X (q := 0) d_Model_takeBinary_153 rfl 154 rfl ?_
      refine x_getR X hf (ci := 12) (j := 12) rfl (by decide) rfl lf_Model_27 d_Model_takeBinary_154 157 rfl (fun o2 hf => ?_)
      refine x_bipush X (v := 14) d_Model_takeBinary_157 (by decide) 159 rfl ?_
      refine x_iload_n X (q := 2) d_Model_takeBinary_159 rfl 160 rfl ?_
      refine x_iadd X d_Model_takeBinary_160 161 rfl ?_
      refine x_aload_n X (q := 0) d_Model_takeBinary_161 rfl 162 rfl ?_
      refine x_getR X hf (ci := 12) (j := 10) rfl (by decide) rfl lf_Model_20 d_Model_takeBinary_162 165 rfl (fun o3 hf => ?_)
      refine x_bipush X (v := 11) d_Model_takeBinary_165 (by decide) 167 rfl ?_
      refine x_iald X hf d_Model_takeBinary_167 168 rfl (fun v4 hf => ?_)
      refine x_isub X d_Model_takeBinary_168 169 rfl ?_
      refine x_iconst X (v := 2) d_Model_takeBinary_169 (by decide) 170 rfl ?_
      refine x_iload_n X (q := 1) d_Model_takeBinary_170 rfl 171 rfl ?_
      refine x_imul X d_Model_takeBinary_171 172 rfl ?_
      refine x_iast X hf d_Model_takeBinary_172 173 rfl (fun h5 hf => ?_)
      exact x_sub [0, 1] rfl (t_Model_takeBinary_173 X hret hk2 hf)
  · refine x_aload_n X (q := 0) d_Model_takeBinary_133 rfl 134 rfl ?_
    refine x_getR X hf (ci := 12) (j := 11) rfl (by decide) rfl lf_Model_24 d_Model_takeBinary_134 137 rfl (fun o6 hf => ?_)
    refine x_bipush X (v := 10) d_Model_takeBinary_137 (by decide) 139 rfl ?_
    refine x_iload_n X (q := 2) d_Model_takeBinary_139 rfl 140 rfl ?_
    refine x_iadd X d_Model_takeBinary_140 141 rfl ?_
    refine x_iconst X (v := 2) d_Model_takeBinary_141 (by decide) 142 rfl ?_
    refine x_iload_n X (q := 1) d_Model_takeBinary_142 rfl 143 rfl ?_
    refine x_imul X d_Model_takeBinary_143 144 rfl ?_
    refine x_iast X hf d_Model_takeBinary_144 145 rfl (fun h7 hf => ?_)
    refine x_goto X d_Model_takeBinary_145 173 (by decide) ?_
    exact x_sub [0, 1] rfl (t_Model_takeBinary_173 X hret hk2 hf)
set_option maxRecDepth 100000 in
def wp_Model_takeBinary_84 (z : Nat → Nat) (Q : xh → Prop) (k2 : Nat × Int32 × xh → Prop) (a0 : Nat) (x1 : Int32) (x2 : Int32) (x3 : Int32) (x4 : Int32) (s2 : Int32) (s1 : Int32) (s0 : Nat) (hp : xh) : Prop :=
  (x3 = 0 → ((x4 = 0 → (∃ o1, fR hp a0 12 10 = some o1 ∧ (∃ v2, aI hp o1 0 11 = some v2 ∧ (∃ o3, fR hp a0 12 10 = some o3 ∧ (∃ v4, aI hp o3 0 12 = some v4 ∧ (wp_Model_takeBinary_126 z Q k2 a0 x1 x2 x3 x4 ((x2 - v2) - v4) s2 s1 s0 hp)))))) ∧ (¬ x4 = 0 → (∃ o5, fR hp a0 12 10 = some o5 ∧ (∃ v6, aI hp o5 0 11 = some v6 ∧ (wp_Model_takeBinary_126 z Q k2 a0 x1 x2 x3 x4 (x2 - v6) s2 s1 s0 hp)))))) ∧ (¬ x3 = 0 → wp_Model_takeBinary_126 z Q k2 a0 x1 x2 x3 x4 x2 s2 s1 s0 hp)
set_option maxRecDepth 100000 in
set_option maxHeartbeats 4000000 in
theorem t_Model_takeBinary_84 {p : Program} {l : Launch} {e : Env} {s : State} {m : MethodId} {args : Array Value} {below : List Frame} {meth : Method} {c : Code} {G : xG} {z : Nat → Nat} {A : Nat → Prop} {Qw : State → Prop} {Q : xh → Prop} {k2 : Nat × Int32 × xh → Prop} {a0 : Nat} {x1 : Int32} {x2 : Int32} {x3 : Int32} {x4 : Int32} {s2 : Int32} {s1 : Int32} {s0 : Nat} {hp : xh} (X : xX p l e rm_Model_takeBinary s m args below meth c G z A y_Model_takeBinary b_Model_takeBinary 5) (hret : xRet p l e rm_Model_takeBinary s m args below meth c G A 5 Qw b_Model_takeBinary none (xqv Q)) (hk2 : ∀ (a0 : Nat) (x1 : Int32) (hp : xh), k2 (a0, x1, hp) → xE p l e rm_Model_takeBinary s m args below meth c G A 5 Qw 0 0 hp 2 [(0, .ref a0), (1, .int x1)] []) (hf : wp_Model_takeBinary_84 z Q k2 a0 x1 x2 x3 x4 s2 s1 s0 hp) : xE p l e rm_Model_takeBinary s m args below meth c G A 5 Qw 0 0 hp 84 [(0, .ref a0), (1, .int x1), (2, .int x2), (3, .int x3), (4, .int x4)] [.int s2, .int s1, .ref s0] := by
  unfold wp_Model_takeBinary_84 at hf
  refine x_iload_n X (q := 3) d_Model_takeBinary_84 rfl 85 rfl ?_
  refine x_if_eq X hf d_Model_takeBinary_85 92 88 (by decide) rfl (fun hf => ?_) (fun hf => ?_)
  · refine x_iload X (q := 4) d_Model_takeBinary_92 rfl 94 rfl ?_
    refine x_if_eq X hf d_Model_takeBinary_94 109 97 (by decide) rfl (fun hf => ?_) (fun hf => ?_)
    · refine x_iload_n X (q := 2) d_Model_takeBinary_109 rfl 110 rfl ?_
      refine x_aload_n X (q := 0) d_Model_takeBinary_110 rfl 111 rfl ?_
      refine x_getR X hf (ci := 12) (j := 10) rfl (by decide) rfl lf_Model_20 d_Model_takeBinary_111 114 rfl (fun o1 hf => ?_)
      refine x_bipush X (v := 11) d_Model_takeBinary_114 (by decide) 116 rfl ?_
      refine x_iald X hf d_Model_takeBinary_116 117 rfl (fun v2 hf => ?_)
      refine x_isub X d_Model_takeBinary_117 118 rfl ?_
      refine x_aload_n X (q := 0) d_Model_takeBinary_118 rfl 119 rfl ?_
      refine x_getR X hf (ci := 12) (j := 10) rfl (by decide) rfl lf_Model_20 d_Model_takeBinary_119 122 rfl (fun o3 hf => ?_)
      refine x_bipush X (v := 12) d_Model_takeBinary_122 (by decide) 124 rfl ?_
      refine x_iald X hf d_Model_takeBinary_124 125 rfl (fun v4 hf => ?_)
      refine x_isub X d_Model_takeBinary_125 126 rfl ?_
      exact x_sub [0, 1, 2, 3, 4] rfl (t_Model_takeBinary_126 X hret hk2 hf)
    · refine x_iload_n X (q := 2) d_Model_takeBinary_97 rfl 98 rfl ?_
      refine x_aload_n X (q := 0) d_Model_takeBinary_98 rfl 99 rfl ?_
      refine x_getR X hf (ci := 12) (j := 10) rfl (by decide) rfl lf_Model_20 d_Model_takeBinary_99 102 rfl (fun o5 hf => ?_)
      refine x_bipush X (v := 11) d_Model_takeBinary_102 (by decide) 104 rfl ?_
      refine x_iald X hf d_Model_takeBinary_104 105 rfl (fun v6 hf => ?_)
      refine x_isub X d_Model_takeBinary_105 106 rfl ?_
      refine x_goto X d_Model_takeBinary_106 126 (by decide) ?_
      exact x_sub [0, 1, 2, 3, 4] rfl (t_Model_takeBinary_126 X hret hk2 hf)
  · refine x_iload_n X (q := 2) d_Model_takeBinary_88 rfl 89 rfl ?_
    refine x_goto X d_Model_takeBinary_89 126 (by decide) ?_
    exact x_sub [0, 1, 2, 3, 4] rfl (t_Model_takeBinary_126 X hret hk2 hf)
set_option maxRecDepth 100000 in
def wp_Model_takeBinary_62 (z : Nat → Nat) (Q : xh → Prop) (k2 : Nat × Int32 × xh → Prop) (a0 : Nat) (x1 : Int32) (x2 : Int32) (x3 : Int32) (s0 : Int32) (hp : xh) : Prop :=
  (x3 = 0 → ((s0 = 0 → wp_Model_takeBinary_84 z Q k2 a0 x1 x2 x3 s0 3 x1 a0 hp) ∧ (¬ s0 = 0 → wp_Model_takeBinary_84 z Q k2 a0 x1 x2 x3 s0 2 x1 a0 hp))) ∧ (¬ x3 = 0 → wp_Model_takeBinary_84 z Q k2 a0 x1 x2 x3 s0 1 x1 a0 hp)
set_option maxRecDepth 100000 in
set_option maxHeartbeats 4000000 in
theorem t_Model_takeBinary_62 {p : Program} {l : Launch} {e : Env} {s : State} {m : MethodId} {args : Array Value} {below : List Frame} {meth : Method} {c : Code} {G : xG} {z : Nat → Nat} {A : Nat → Prop} {Qw : State → Prop} {Q : xh → Prop} {k2 : Nat × Int32 × xh → Prop} {a0 : Nat} {x1 : Int32} {x2 : Int32} {x3 : Int32} {s0 : Int32} {hp : xh} (X : xX p l e rm_Model_takeBinary s m args below meth c G z A y_Model_takeBinary b_Model_takeBinary 5) (hret : xRet p l e rm_Model_takeBinary s m args below meth c G A 5 Qw b_Model_takeBinary none (xqv Q)) (hk2 : ∀ (a0 : Nat) (x1 : Int32) (hp : xh), k2 (a0, x1, hp) → xE p l e rm_Model_takeBinary s m args below meth c G A 5 Qw 0 0 hp 2 [(0, .ref a0), (1, .int x1)] []) (hf : wp_Model_takeBinary_62 z Q k2 a0 x1 x2 x3 s0 hp) : xE p l e rm_Model_takeBinary s m args below meth c G A 5 Qw 0 0 hp 62 [(0, .ref a0), (1, .int x1), (2, .int x2), (3, .int x3)] [.int s0] := by
  unfold wp_Model_takeBinary_62 at hf
  refine x_istore X (lv' := [(4, .int s0), (0, .ref a0), (1, .int x1), (2, .int x2), (3, .int x3)]) d_Model_takeBinary_62 (by decide) rfl 64 rfl ?_
  refine x_aload_n X (q := 1) d_Model_takeBinary_64 rfl 65 rfl ?_
  refine x_iload_n X (q := 2) d_Model_takeBinary_65 rfl 66 rfl ?_
  refine x_iload_n X (q := 4) d_Model_takeBinary_66 rfl 67 rfl ?_
  refine x_if_eq X hf d_Model_takeBinary_67 74 70 (by decide) rfl (fun hf => ?_) (fun hf => ?_)
  · refine x_iload X (q := 0) d_Model_takeBinary_74 rfl 76 rfl ?_
    refine x_if_eq X hf d_Model_takeBinary_76 83 79 (by decide) rfl (fun hf => ?_) (fun hf => ?_)
    · refine x_iconst X (v := 3) d_Model_takeBinary_83 (by decide) 84 rfl ?_
      exact x_sub [1, 2, 3, 4, 0] rfl (t_Model_takeBinary_84 X hret hk2 hf)
    · refine x_iconst X (v := 2) d_Model_takeBinary_79 (by decide) 80 rfl ?_
      refine x_goto X d_Model_takeBinary_80 84 (by decide) ?_
      exact x_sub [1, 2, 3, 4, 0] rfl (t_Model_takeBinary_84 X hret hk2 hf)
  · refine x_iconst X (v := 1) d_Model_takeBinary_70 (by decide) 71 rfl ?_
    refine x_goto X d_Model_takeBinary_71 84 (by decide) ?_
    exact x_sub [1, 2, 3, 4, 0] rfl (t_Model_takeBinary_84 X hret hk2 hf)
set_option maxRecDepth 100000 in
def wp_Model_takeBinary_61 (z : Nat → Nat) (Q : xh → Prop) (k2 : Nat × Int32 × xh → Prop) (a0 : Nat) (x1 : Int32) (x2 : Int32) (x3 : Int32) (hp : xh) : Prop :=
  wp_Model_takeBinary_62 z Q k2 a0 x1 x2 x3 0 hp
set_option maxRecDepth 100000 in
set_option maxHeartbeats 4000000 in
theorem t_Model_takeBinary_61 {p : Program} {l : Launch} {e : Env} {s : State} {m : MethodId} {args : Array Value} {below : List Frame} {meth : Method} {c : Code} {G : xG} {z : Nat → Nat} {A : Nat → Prop} {Qw : State → Prop} {Q : xh → Prop} {k2 : Nat × Int32 × xh → Prop} {a0 : Nat} {x1 : Int32} {x2 : Int32} {x3 : Int32} {hp : xh} (X : xX p l e rm_Model_takeBinary s m args below meth c G z A y_Model_takeBinary b_Model_takeBinary 5) (hret : xRet p l e rm_Model_takeBinary s m args below meth c G A 5 Qw b_Model_takeBinary none (xqv Q)) (hk2 : ∀ (a0 : Nat) (x1 : Int32) (hp : xh), k2 (a0, x1, hp) → xE p l e rm_Model_takeBinary s m args below meth c G A 5 Qw 0 0 hp 2 [(0, .ref a0), (1, .int x1)] []) (hf : wp_Model_takeBinary_61 z Q k2 a0 x1 x2 x3 hp) : xE p l e rm_Model_takeBinary s m args below meth c G A 5 Qw 0 0 hp 61 [(0, .ref a0), (1, .int x1), (2, .int x2), (3, .int x3)] [] := by
  unfold wp_Model_takeBinary_61 at hf
  refine x_iconst X (v := 0) d_Model_takeBinary_61 (by decide) 62 rfl ?_
  exact x_sub [0, 1, 2, 3] rfl (t_Model_takeBinary_62 X hret hk2 hf)
set_option maxRecDepth 100000 in
def wp_Model_takeBinary_33 (z : Nat → Nat) (Q : xh → Prop) (k2 : Nat × Int32 × xh → Prop) (a0 : Nat) (x1 : Int32) (x2 : Int32) (s0 : Int32) (hp : xh) : Prop :=
  (¬ s0 = 0 → wp_Model_takeBinary_61 z Q k2 a0 x1 x2 s0 hp) ∧ (s0 = 0 → (∃ o1, fR hp a0 12 10 = some o1 ∧ (∃ v2, aI hp o1 0 11 = some v2 ∧ (∃ o3, fR hp a0 12 10 = some o3 ∧ (∃ v4, aI hp o3 0 12 = some v4 ∧ (((v2 + v4) ≤ x2 → wp_Model_takeBinary_61 z Q k2 a0 x1 x2 s0 hp) ∧ (¬ (v2 + v4) ≤ x2 → wp_Model_takeBinary_62 z Q k2 a0 x1 x2 s0 1 hp)))))))
set_option maxRecDepth 100000 in
set_option maxHeartbeats 4000000 in
theorem t_Model_takeBinary_33 {p : Program} {l : Launch} {e : Env} {s : State} {m : MethodId} {args : Array Value} {below : List Frame} {meth : Method} {c : Code} {G : xG} {z : Nat → Nat} {A : Nat → Prop} {Qw : State → Prop} {Q : xh → Prop} {k2 : Nat × Int32 × xh → Prop} {a0 : Nat} {x1 : Int32} {x2 : Int32} {s0 : Int32} {hp : xh} (X : xX p l e rm_Model_takeBinary s m args below meth c G z A y_Model_takeBinary b_Model_takeBinary 5) (hret : xRet p l e rm_Model_takeBinary s m args below meth c G A 5 Qw b_Model_takeBinary none (xqv Q)) (hk2 : ∀ (a0 : Nat) (x1 : Int32) (hp : xh), k2 (a0, x1, hp) → xE p l e rm_Model_takeBinary s m args below meth c G A 5 Qw 0 0 hp 2 [(0, .ref a0), (1, .int x1)] []) (hf : wp_Model_takeBinary_33 z Q k2 a0 x1 x2 s0 hp) : xE p l e rm_Model_takeBinary s m args below meth c G A 5 Qw 0 0 hp 33 [(0, .ref a0), (1, .int x1), (2, .int x2)] [.int s0] := by
  unfold wp_Model_takeBinary_33 at hf
  refine x_istore_n X (lv' := [(3, .int s0), (0, .ref a0), (1, .int x1), (2, .int x2)]) d_Model_takeBinary_33 rfl (by decide) rfl 34 rfl ?_
  refine x_iload_n X (q := 0) d_Model_takeBinary_34 rfl 35 rfl ?_
  refine x_if_ne X hf d_Model_takeBinary_35 61 38 (by decide) rfl (fun hf => ?_) (fun hf => ?_)
  · exact x_sub [1, 2, 3, 0] rfl (t_Model_takeBinary_61 X hret hk2 hf)
  · refine x_iload_n X (q := 3) d_Model_takeBinary_38 rfl 39 rfl ?_
    refine x_aload_n X (q := 1) d_Model_takeBinary_39 rfl 40 rfl ?_
    refine x_getR X hf (ci := 12) (j := 10) rfl (by decide) rfl lf_Model_20 d_Model_takeBinary_40 43 rfl (fun o1 hf => ?_)
    refine x_bipush X (v := 11) d_Model_takeBinary_43 (by decide) 45 rfl ?_
    refine x_iald X hf d_Model_takeBinary_45 46 rfl (fun v2 hf => ?_)
    refine x_aload_n X (q := 1) d_Model_takeBinary_46 rfl 47 rfl ?_
    refine x_getR X hf (ci := 12) (j := 10) rfl (by decide) rfl lf_Model_20 d_Model_takeBinary_47 50 rfl (fun o3 hf => ?_)
    refine x_bipush X (v := 12) d_Model_takeBinary_50 (by decide) 52 rfl ?_
    refine x_iald X hf d_Model_takeBinary_52 53 rfl (fun v4 hf => ?_)
    refine x_iadd X d_Model_takeBinary_53 54 rfl ?_
    refine x_icmp_ge X hf d_Model_takeBinary_54 61 57 (by decide) rfl (fun hf => ?_) (fun hf => ?_)
    · exact x_sub [1, 2, 3, 0] rfl (t_Model_takeBinary_61 X hret hk2 hf)
    · refine x_iconst X (v := 1) d_Model_takeBinary_57 (by decide) 58 rfl ?_
      refine x_goto X d_Model_takeBinary_58 62 (by decide) ?_
      exact x_sub [1, 2, 3, 0] rfl (t_Model_takeBinary_62 X hret hk2 hf)
set_option maxRecDepth 100000 in
def wp_Model_takeBinary_2_b (z : Nat → Nat) (Q : xh → Prop)  (k2 : Nat × Int32 × xh → Prop) (a0 : Nat) (x1 : Int32) (hp : xh) : Prop :=
  ∃ o1, fR hp a0 12 10 = some o1 ∧ (∃ v2, aI hp o1 0 10 = some v2 ∧ ((v2 < x1 → wp_Model_takeBinary_181 z Q a0 0 hp) ∧ (¬ v2 < x1 → (∀ v3, v3 = (x1 - 1) → ∃ o4, fR hp a0 12 10 = some o4 ∧ (∃ v5, aI hp o4 0 11 = some v5 ∧ ((v5 ≤ v3 → wp_Model_takeBinary_33 z Q k2 a0 x1 v3 0 hp) ∧ (¬ v5 ≤ v3 → wp_Model_takeBinary_33 z Q k2 a0 x1 v3 1 hp)))))))
set_option maxRecDepth 100000 in
def wp_Model_takeBinary_2 (z : Nat → Nat) (Q : xh → Prop)  (a0 : Nat) (x1 : Int32) (hp : xh) : Prop := ∃ f : Nat, xloop (fun k2 a => wp_Model_takeBinary_2_b z Q  k2 a.1 a.2.1 a.2.2) f (a0, x1, hp)
set_option maxRecDepth 100000 in
set_option maxHeartbeats 4000000 in
theorem t_Model_takeBinary_2 {p : Program} {l : Launch} {e : Env} {s : State} {m : MethodId} {args : Array Value} {below : List Frame} {meth : Method} {c : Code} {G : xG} {z : Nat → Nat} {A : Nat → Prop} {Qw : State → Prop} {Q : xh → Prop} {a0 : Nat} {x1 : Int32} {hp : xh} (X : xX p l e rm_Model_takeBinary s m args below meth c G z A y_Model_takeBinary b_Model_takeBinary 5) (hret : xRet p l e rm_Model_takeBinary s m args below meth c G A 5 Qw b_Model_takeBinary none (xqv Q))  (hf : wp_Model_takeBinary_2 z Q  a0 x1 hp) : xE p l e rm_Model_takeBinary s m args below meth c G A 5 Qw 0 0 hp 2 [(0, .ref a0), (1, .int x1)] [] := by
  obtain ⟨f, hf⟩ := hf
  refine xloop_ind (F := fun k2 a => wp_Model_takeBinary_2_b z Q  k2 a.1 a.2.1 a.2.2) (E := fun a => xE p l e rm_Model_takeBinary s m args below meth c G A 5 Qw 0 0 a.2.2 2 [(0, .ref (a.1)), (1, .int (a.2.1))] []) ?_ f (a0, x1, hp) hf
  intro k2 hk a hf
  obtain ⟨a0, x1, hp⟩ := a
  have hk2 : ∀ (a0 : Nat) (x1 : Int32) (hp : xh), k2 (a0, x1, hp) → xE p l e rm_Model_takeBinary s m args below meth c G A 5 Qw 0 0 hp 2 [(0, .ref a0), (1, .int x1)] [] := fun a0 x1 hp h => hk (a0, x1, hp) h
  have hf : wp_Model_takeBinary_2_b z Q  k2 a0 x1 hp := hf
  unfold wp_Model_takeBinary_2_b at hf
  refine x_iload_n X (q := 1) d_Model_takeBinary_2 rfl 3 rfl ?_
  refine x_aload_n X (q := 0) d_Model_takeBinary_3 rfl 4 rfl ?_
  refine x_getR X hf (ci := 12) (j := 10) rfl (by decide) rfl lf_Model_20 d_Model_takeBinary_4 7 rfl (fun o1 hf => ?_)
  refine x_bipush X (v := 10) d_Model_takeBinary_7 (by decide) 9 rfl ?_
  refine x_iald X hf d_Model_takeBinary_9 10 rfl (fun v2 hf => ?_)
  refine x_icmp_gt X hf d_Model_takeBinary_10 179 13 (by decide) rfl (fun hf => ?_) (fun hf => ?_)
  · refine x_iconst X (v := 0) d_Model_takeBinary_179 (by decide) 180 rfl ?_
    refine x_istore_n X (lv' := [(1, .int 0), (0, .ref a0)]) d_Model_takeBinary_180 rfl (by decide) rfl 181 rfl ?_
    exact x_sub [1, 0] rfl (t_Model_takeBinary_181 X hret hf)
  · refine x_iload_n X (q := 1) d_Model_takeBinary_13 rfl 14 rfl ?_
    refine x_iconst X (v := 1) d_Model_takeBinary_14 (by decide) 15 rfl ?_
    refine x_isub X d_Model_takeBinary_15 16 rfl ?_
    refine x_istoreN_n X hf d_Model_takeBinary_16 rfl (by decide) (lw := fun v3 => [(2, .int v3), (0, .ref a0), (1, .int x1)]) (fun _ => rfl) 17 rfl (fun v3 hf => ?_)
    refine x_iload_n X (q := 0) d_Model_takeBinary_17 rfl 18 rfl ?_
    refine x_aload_n X (q := 1) d_Model_takeBinary_18 rfl 19 rfl ?_
    refine x_getR X hf (ci := 12) (j := 10) rfl (by decide) rfl lf_Model_20 d_Model_takeBinary_19 22 rfl (fun o4 hf => ?_)
    refine x_bipush X (v := 11) d_Model_takeBinary_22 (by decide) 24 rfl ?_
    refine x_iald X hf d_Model_takeBinary_24 25 rfl (fun v5 hf => ?_)
    refine x_icmp_ge X hf d_Model_takeBinary_25 32 28 (by decide) rfl (fun hf => ?_) (fun hf => ?_)
    · refine x_iconst X (v := 0) d_Model_takeBinary_32 (by decide) 33 rfl ?_
      exact x_sub [1, 2, 0] rfl (t_Model_takeBinary_33 X hret hk2 hf)
    · refine x_iconst X (v := 1) d_Model_takeBinary_28 (by decide) 29 rfl ?_
      refine x_goto X d_Model_takeBinary_29 33 (by decide) ?_
      exact x_sub [1, 2, 0] rfl (t_Model_takeBinary_33 X hret hk2 hf)
set_option maxRecDepth 100000 in
def wp_Model_takeBinary (z : Nat → Nat) (Q : xh → Prop) (a0 : Nat) (hp : xh) : Prop :=
  wp_Model_takeBinary_2 z Q a0 1 hp
set_option maxRecDepth 100000 in
set_option maxHeartbeats 4000000 in
theorem t_Model_takeBinary {l : Launch} {G : xG} {z : Nat → Nat} {Q : xh → Prop} {a0 : Nat} {hp : xh} (hf : wp_Model_takeBinary z Q a0 hp) : xM l G z y_Model_takeBinary b_Model_takeBinary 5 none rm_Model_takeBinary [.ref a0] hp (xqv Q) := by
  refine xM_of (by decide) (Nat.le_of_ble_eq_true rfl) (lv0 := [(0, .ref a0)]) rfl ?_
  intro p e s m args below meth c A Qw X hret
  unfold wp_Model_takeBinary at hf
  refine x_iconst X (v := 1) d_Model_takeBinary_0 (by decide) 1 rfl ?_
  refine x_istore_n X (lv' := [(1, .int 1), (0, .ref a0)]) d_Model_takeBinary_1 rfl (by decide) rfl 2 rfl ?_
  exact x_sub [1, 0] rfl (t_Model_takeBinary_2 X hret hf)

set_option maxRecDepth 100000 in
def wp_Model_takeSymbols_274 (z : Nat → Nat) (Q : xh → Prop)  (a0 : Nat) (hp : xh) : Prop :=
  ∃ v1, fI hp a0 12 7 = some v1 ∧ ((0 < v1 → Q hp) ∧ (¬ 0 < v1 → (xcls hp a0 12 ∧ wp_Model_here z (fun v3 h2 => (¬ v3 = (-1) → (xcls h2 a0 12 ∧ wp_Model_take z (fun h4 => xcls h4 a0 12 ∧ wp_Model_take z (fun h5 => Q h5) a0 10 h4) a0 99 h2)) ∧ (v3 = (-1) → Q h2)) a0 hp)))
set_option maxRecDepth 100000 in
set_option maxHeartbeats 4000000 in
theorem t_Model_takeSymbols_274 {p : Program} {l : Launch} {e : Env} {s : State} {m : MethodId} {args : Array Value} {below : List Frame} {meth : Method} {c : Code} {G : xG} {z : Nat → Nat} {A : Nat → Prop} {Qw : State → Prop} {Q : xh → Prop} {a0 : Nat} {hp : xh} (X : xX p l e rm_Model_takeSymbols s m args below meth c G z A y_Model_takeSymbols b_Model_takeSymbols 3) (hret : xRet p l e rm_Model_takeSymbols s m args below meth c G A 3 Qw b_Model_takeSymbols none (xqv Q))  (hf : wp_Model_takeSymbols_274 z Q  a0 hp) : xE p l e rm_Model_takeSymbols s m args below meth c G A 3 Qw 0 0 hp 274 [(0, .ref a0)] [] := by
  unfold wp_Model_takeSymbols_274 at hf
  refine x_aload_n X (q := 0) d_Model_takeSymbols_274 rfl 275 rfl ?_
  refine x_getI X hf (ci := 12) (j := 7) rfl (by decide) rfl lf_Model_136 d_Model_takeSymbols_275 278 rfl (fun v1 hf => ?_)
  refine x_if_gt X hf d_Model_takeSymbols_278 289 281 (by decide) rfl (fun hf => ?_) (fun hf => ?_)
  · exact hret _ _ _ _ _ none (Nat.le_refl 0) (Nat.le_refl 0) ⟨rfl, hf⟩ ⟨rfl, d_Model_takeSymbols_289⟩
  · refine x_aload_n X (q := 0) d_Model_takeSymbols_281 rfl 282 rfl ?_
    refine x_callV0i X (t_Model_here hf.2) hf.1 (ci := 12) rfl rfl lm_Model_142 im_Model_here sl_Model_here cd_Model_here in_Model ds_Model_here rfl rfl (Nat.le_of_ble_eq_true rfl) (Nat.le_of_ble_eq_true rfl) (Nat.le_of_ble_eq_true rfl) rfl rfl (Nat.le_refl 0) (Nat.le_refl 0) d_Model_takeSymbols_282 285 rfl (fun v3 h2 hf => ?_)
    refine x_iconst X (v := (-1)) d_Model_takeSymbols_285 (by decide) 286 rfl ?_
    refine x_icmp_ne X hf d_Model_takeSymbols_286 290 289 (by decide) rfl (fun hf => ?_) (fun hf => ?_)
    · refine x_aload_n X (q := 0) d_Model_takeSymbols_290 rfl 291 rfl ?_
      refine x_bipush X (v := 99) d_Model_takeSymbols_291 (by decide) 293 rfl ?_
      refine x_callV0v X (t_Model_take hf.2) hf.1 (ci := 12) rfl rfl lm_Model_167 im_Model_take sl_Model_take cd_Model_take in_Model ds_Model_take rfl rfl (Nat.le_of_ble_eq_true rfl) (Nat.le_of_ble_eq_true rfl) (Nat.le_of_ble_eq_true rfl) rfl rfl (Nat.le_refl 0) (Nat.le_refl 0) d_Model_takeSymbols_293 296 rfl (fun h4 hf => ?_)
      refine x_aload_n X (q := 0) d_Model_takeSymbols_296 rfl 297 rfl ?_
      refine x_bipush X (v := 10) d_Model_takeSymbols_297 (by decide) 299 rfl ?_
      refine x_callV0v X (t_Model_take hf.2) hf.1 (ci := 12) rfl rfl lm_Model_167 im_Model_take sl_Model_take cd_Model_take in_Model ds_Model_take rfl rfl (Nat.le_of_ble_eq_true rfl) (Nat.le_of_ble_eq_true rfl) (Nat.le_of_ble_eq_true rfl) rfl rfl (Nat.le_refl 0) (Nat.le_refl 0) d_Model_takeSymbols_299 302 rfl (fun h5 hf => ?_)
      exact hret _ _ _ _ _ none (Nat.le_refl 0) (Nat.le_refl 0) ⟨rfl, hf⟩ ⟨rfl, d_Model_takeSymbols_302⟩
    · exact hret _ _ _ _ _ none (Nat.le_refl 0) (Nat.le_refl 0) ⟨rfl, hf⟩ ⟨rfl, d_Model_takeSymbols_289⟩
set_option maxRecDepth 100000 in
def wp_Model_takeSymbols_265 (z : Nat → Nat) (Q : xh → Prop) (k0 : Nat × xh → Prop) (a0 : Nat) (hp : xh) : Prop :=
  xcls hp a0 12 ∧ wp_Model_take z (fun h1 => k0 (a0, h1)) a0 10 hp
set_option maxRecDepth 100000 in
set_option maxHeartbeats 4000000 in
theorem t_Model_takeSymbols_265 {p : Program} {l : Launch} {e : Env} {s : State} {m : MethodId} {args : Array Value} {below : List Frame} {meth : Method} {c : Code} {G : xG} {z : Nat → Nat} {A : Nat → Prop} {Qw : State → Prop} {Q : xh → Prop} {k0 : Nat × xh → Prop} {a0 : Nat} {hp : xh} (X : xX p l e rm_Model_takeSymbols s m args below meth c G z A y_Model_takeSymbols b_Model_takeSymbols 3) (hret : xRet p l e rm_Model_takeSymbols s m args below meth c G A 3 Qw b_Model_takeSymbols none (xqv Q)) (hk0 : ∀ (a0 : Nat) (hp : xh), k0 (a0, hp) → xE p l e rm_Model_takeSymbols s m args below meth c G A 3 Qw 0 0 hp 0 [(0, .ref a0)] []) (hf : wp_Model_takeSymbols_265 z Q k0 a0 hp) : xE p l e rm_Model_takeSymbols s m args below meth c G A 3 Qw 0 0 hp 265 [(0, .ref a0)] [] := by
  unfold wp_Model_takeSymbols_265 at hf
  refine x_aload_n X (q := 0) d_Model_takeSymbols_265 rfl 266 rfl ?_
  refine x_bipush X (v := 10) d_Model_takeSymbols_266 (by decide) 268 rfl ?_
  refine x_callV0v X (t_Model_take hf.2) hf.1 (ci := 12) rfl rfl lm_Model_167 im_Model_take sl_Model_take cd_Model_take in_Model ds_Model_take rfl rfl (Nat.le_of_ble_eq_true rfl) (Nat.le_of_ble_eq_true rfl) (Nat.le_of_ble_eq_true rfl) rfl rfl (Nat.le_refl 0) (Nat.le_refl 0) d_Model_takeSymbols_268 271 rfl (fun h1 hf => ?_)
  refine x_goto X d_Model_takeSymbols_271 0 (by decide) ?_
  exact x_sub [0] rfl (hk0 _ _ hf)
set_option maxRecDepth 100000 in
def wp_Model_takeSymbols_240 (z : Nat → Nat) (Q : xh → Prop) (k0 : Nat × xh → Prop) (a0 : Nat) (x2 : Int32) (hp : xh) : Prop :=
  ∃ v1, fI hp a0 12 7 = some v1 ∧ ((¬ v1 = 0 → wp_Model_takeSymbols_265 z Q k0 a0 hp) ∧ (v1 = 0 → (∃ o2, fR hp a0 12 25 = some o2 ∧ (∃ v3, aI hp o2 0 x2 = some v3 ∧ ((¬ v3 = 0 → wp_Model_takeSymbols_265 z Q k0 a0 hp) ∧ (v3 = 0 → (∃ v4, fI hp a0 12 6 = some v4 ∧ (xcls hp a0 12 ∧ wp_Model_wrong z (fun h5 => wp_Model_takeSymbols_265 z Q k0 a0 h5) a0 1 v4 hp))))))))
set_option maxRecDepth 100000 in
set_option maxHeartbeats 4000000 in
theorem t_Model_takeSymbols_240 {p : Program} {l : Launch} {e : Env} {s : State} {m : MethodId} {args : Array Value} {below : List Frame} {meth : Method} {c : Code} {G : xG} {z : Nat → Nat} {A : Nat → Prop} {Qw : State → Prop} {Q : xh → Prop} {k0 : Nat × xh → Prop} {a0 : Nat} {x2 : Int32} {hp : xh} (X : xX p l e rm_Model_takeSymbols s m args below meth c G z A y_Model_takeSymbols b_Model_takeSymbols 3) (hret : xRet p l e rm_Model_takeSymbols s m args below meth c G A 3 Qw b_Model_takeSymbols none (xqv Q)) (hk0 : ∀ (a0 : Nat) (hp : xh), k0 (a0, hp) → xE p l e rm_Model_takeSymbols s m args below meth c G A 3 Qw 0 0 hp 0 [(0, .ref a0)] []) (hf : wp_Model_takeSymbols_240 z Q k0 a0 x2 hp) : xE p l e rm_Model_takeSymbols s m args below meth c G A 3 Qw 0 0 hp 240 [(0, .ref a0), (2, .int x2)] [] := by
  unfold wp_Model_takeSymbols_240 at hf
  refine x_aload_n X (q := 0) d_Model_takeSymbols_240 rfl 241 rfl ?_
  refine x_getI X hf (ci := 12) (j := 7) rfl (by decide) rfl lf_Model_136 d_Model_takeSymbols_241 244 rfl (fun v1 hf => ?_)
  refine x_if_ne X hf d_Model_takeSymbols_244 265 247 (by decide) rfl (fun hf => ?_) (fun hf => ?_)
  · exact x_sub [0] rfl (t_Model_takeSymbols_265 X hret hk0 hf)
  · refine x_aload_n X (q := 0) d_Model_takeSymbols_247 rfl 248 rfl ?_
    refine x_getR X hf (ci := 12) (j := 25) rfl (by decide) rfl lf_Model_66 d_Model_takeSymbols_248 251 rfl (fun o2 hf => ?_)
    refine x_iload_n X (q := 1) d_Model_takeSymbols_251 rfl 252 rfl ?_
    refine x_iald X hf d_Model_takeSymbols_252 253 rfl (fun v3 hf => ?_)
    refine x_if_ne X hf d_Model_takeSymbols_253 265 256 (by decide) rfl (fun hf => ?_) (fun hf => ?_)
    · exact x_sub [0] rfl (t_Model_takeSymbols_265 X hret hk0 hf)
    · refine x_aload_n X (q := 0) d_Model_takeSymbols_256 rfl 257 rfl ?_
      refine x_iconst X (v := 1) d_Model_takeSymbols_257 (by decide) 258 rfl ?_
      refine x_aload_n X (q := 0) d_Model_takeSymbols_258 rfl 259 rfl ?_
      refine x_getI X hf (ci := 12) (j := 6) rfl (by decide) rfl lf_Model_133 d_Model_takeSymbols_259 262 rfl (fun v4 hf => ?_)
      refine x_callV0v X (t_Model_wrong hf.2) hf.1 (ci := 12) rfl rfl lm_Model_146 im_Model_wrong sl_Model_wrong cd_Model_wrong in_Model ds_Model_wrong rfl rfl (Nat.le_of_ble_eq_true rfl) (Nat.le_of_ble_eq_true rfl) (Nat.le_of_ble_eq_true rfl) rfl rfl (Nat.le_refl 0) (Nat.le_refl 0) d_Model_takeSymbols_262 265 rfl (fun h5 hf => ?_)
      exact x_sub [0] rfl (t_Model_takeSymbols_265 X hret hk0 hf)
set_option maxRecDepth 100000 in
def wp_Model_takeSymbols_150_b (z : Nat → Nat) (Q : xh → Prop) (k0 : Nat × xh → Prop) (k150 : Nat × Int32 × xh → Prop) (a0 : Nat) (x2 : Int32) (hp : xh) : Prop :=
  ∃ v1, fI hp a0 12 7 = some v1 ∧ ((¬ v1 = 0 → wp_Model_takeSymbols_240 z Q k0 a0 x2 hp) ∧ (v1 = 0 → (xcls hp a0 12 ∧ wp_Model_here z (fun v3 h2 => (v3 < 0 → wp_Model_takeSymbols_240 z Q k0 a0 x2 h2) ∧ (¬ v3 < 0 → (xcls h2 a0 12 ∧ wp_Model_here z (fun v5 h4 => (v5 = 10 → wp_Model_takeSymbols_240 z Q k0 a0 x2 h4) ∧ (¬ v5 = 10 → (∃ o6, fR h4 a0 12 25 = some o6 ∧ (∃ v7, aI h4 o6 0 x2 = some v7 ∧ ((¬ v7 = 40 → (∃ o8, fR h4 a0 12 24 = some o8 ∧ (∃ o9, fR h4 a0 12 25 = some o9 ∧ (∃ v10, aI h4 o9 0 x2 = some v10 ∧ (xcls h4 a0 12 ∧ wp_Model_here z (fun v12 h11 => ∃ h13, sI h11 o8 1 ((40 * x2) + v10) (vp_nar .byte (v12.toInt8.toInt32)) = some h13 ∧ (∃ o14, fR h13 a0 12 25 = some o14 ∧ (∃ v15, aI h13 o14 0 x2 = some v15 ∧ (∃ h16, sI h13 o14 0 x2 (v15 + 1) = some h16 ∧ (∃ v17, fI h16 a0 12 6 = some v17 ∧ (∃ h18, pV h16 a0 12 6 (.int (v17 + 1)) = some h18 ∧ (k150 (a0, x2, h18)))))))) a0 h4))))) ∧ (v7 = 40 → (∃ v19, fI h4 a0 12 6 = some v19 ∧ (xcls h4 a0 12 ∧ wp_Model_wrong z (fun h20 => k150 (a0, x2, h20)) a0 1 v19 h4)))))))) a0 h2))) a0 hp)))
set_option maxRecDepth 100000 in
def wp_Model_takeSymbols_150 (z : Nat → Nat) (Q : xh → Prop) (k0 : Nat × xh → Prop) (a0 : Nat) (x2 : Int32) (hp : xh) : Prop := ∃ f : Nat, xloop (fun k150 a => wp_Model_takeSymbols_150_b z Q k0 k150 a.1 a.2.1 a.2.2) f (a0, x2, hp)
set_option maxRecDepth 100000 in
set_option maxHeartbeats 4000000 in
theorem t_Model_takeSymbols_150 {p : Program} {l : Launch} {e : Env} {s : State} {m : MethodId} {args : Array Value} {below : List Frame} {meth : Method} {c : Code} {G : xG} {z : Nat → Nat} {A : Nat → Prop} {Qw : State → Prop} {Q : xh → Prop} {k0 : Nat × xh → Prop} {a0 : Nat} {x2 : Int32} {hp : xh} (X : xX p l e rm_Model_takeSymbols s m args below meth c G z A y_Model_takeSymbols b_Model_takeSymbols 3) (hret : xRet p l e rm_Model_takeSymbols s m args below meth c G A 3 Qw b_Model_takeSymbols none (xqv Q)) (hk0 : ∀ (a0 : Nat) (hp : xh), k0 (a0, hp) → xE p l e rm_Model_takeSymbols s m args below meth c G A 3 Qw 0 0 hp 0 [(0, .ref a0)] []) (hf : wp_Model_takeSymbols_150 z Q k0 a0 x2 hp) : xE p l e rm_Model_takeSymbols s m args below meth c G A 3 Qw 0 0 hp 150 [(0, .ref a0), (2, .int x2)] [] := by
  obtain ⟨f, hf⟩ := hf
  refine xloop_ind (F := fun k150 a => wp_Model_takeSymbols_150_b z Q k0 k150 a.1 a.2.1 a.2.2) (E := fun a => xE p l e rm_Model_takeSymbols s m args below meth c G A 3 Qw 0 0 a.2.2 150 [(0, .ref (a.1)), (2, .int (a.2.1))] []) ?_ f (a0, x2, hp) hf
  intro k150 hk a hf
  obtain ⟨a0, x2, hp⟩ := a
  have hk150 : ∀ (a0 : Nat) (x2 : Int32) (hp : xh), k150 (a0, x2, hp) → xE p l e rm_Model_takeSymbols s m args below meth c G A 3 Qw 0 0 hp 150 [(0, .ref a0), (2, .int x2)] [] := fun a0 x2 hp h => hk (a0, x2, hp) h
  have hf : wp_Model_takeSymbols_150_b z Q k0 k150 a0 x2 hp := hf
  unfold wp_Model_takeSymbols_150_b at hf
  refine x_aload_n X (q := 0) d_Model_takeSymbols_150 rfl 151 rfl ?_
  refine x_getI X hf (ci := 12) (j := 7) rfl (by decide) rfl lf_Model_136 d_Model_takeSymbols_151 154 rfl (fun v1 hf => ?_)
  refine x_if_ne X hf d_Model_takeSymbols_154 240 157 (by decide) rfl (fun hf => ?_) (fun hf => ?_)
  · exact x_sub [0, 1] rfl (t_Model_takeSymbols_240 X hret hk0 hf)
  · refine x_aload_n X (q := 0) d_Model_takeSymbols_157 rfl 158 rfl ?_
    refine x_callV0i X (t_Model_here hf.2) hf.1 (ci := 12) rfl rfl lm_Model_142 im_Model_here sl_Model_here cd_Model_here in_Model ds_Model_here rfl rfl (Nat.le_of_ble_eq_true rfl) (Nat.le_of_ble_eq_true rfl) (Nat.le_of_ble_eq_true rfl) rfl rfl (Nat.le_refl 0) (Nat.le_refl 0) d_Model_takeSymbols_158 161 rfl (fun v3 h2 hf => ?_)
    refine x_if_lt X hf d_Model_takeSymbols_161 240 164 (by decide) rfl (fun hf => ?_) (fun hf => ?_)
    · exact x_sub [0, 1] rfl (t_Model_takeSymbols_240 X hret hk0 hf)
    · refine x_aload_n X (q := 0) d_Model_takeSymbols_164 rfl 165 rfl ?_
      refine x_callV0i X (t_Model_here hf.2) hf.1 (ci := 12) rfl rfl lm_Model_142 im_Model_here sl_Model_here cd_Model_here in_Model ds_Model_here rfl rfl (Nat.le_of_ble_eq_true rfl) (Nat.le_of_ble_eq_true rfl) (Nat.le_of_ble_eq_true rfl) rfl rfl (Nat.le_refl 0) (Nat.le_refl 0) d_Model_takeSymbols_165 168 rfl (fun v5 h4 hf => ?_)
      refine x_bipush X (v := 10) d_Model_takeSymbols_168 (by decide) 170 rfl ?_
      refine x_icmp_eq X hf d_Model_takeSymbols_170 240 173 (by decide) rfl (fun hf => ?_) (fun hf => ?_)
      · exact x_sub [0, 1] rfl (t_Model_takeSymbols_240 X hret hk0 hf)
      · refine x_aload_n X (q := 0) d_Model_takeSymbols_173 rfl 174 rfl ?_
        refine x_getR X hf (ci := 12) (j := 25) rfl (by decide) rfl lf_Model_66 d_Model_takeSymbols_174 177 rfl (fun o6 hf => ?_)
        refine x_iload_n X (q := 1) d_Model_takeSymbols_177 rfl 178 rfl ?_
        refine x_iald X hf d_Model_takeSymbols_178 179 rfl (fun v7 hf => ?_)
        refine x_bipush X (v := 40) d_Model_takeSymbols_179 (by decide) 181 rfl ?_
        refine x_icmp_ne X hf d_Model_takeSymbols_181 196 184 (by decide) rfl (fun hf => ?_) (fun hf => ?_)
        · refine x_aload_n X (q := 0) d_Model_takeSymbols_196 rfl 197 rfl ?_
          refine x_getR X hf (ci := 12) (j := 24) rfl (by decide) rfl lf_Model_63 d_Model_takeSymbols_197 200 rfl (fun o8 hf => ?_)
          refine x_bipush X (v := 40) d_Model_takeSymbols_200 (by decide) 202 rfl ?_
          refine x_iload_n X (q := 1) d_Model_takeSymbols_202 rfl 203 rfl ?_
          refine x_imul X d_Model_takeSymbols_203 204 rfl ?_
          refine x_aload_n X (q := 0) d_Model_takeSymbols_204 rfl 205 rfl ?_
          refine x_getR X hf (ci := 12) (j := 25) rfl (by decide) rfl lf_Model_66 d_Model_takeSymbols_205 208 rfl (fun o9 hf => ?_)
          refine x_iload_n X (q := 1) d_Model_takeSymbols_208 rfl 209 rfl ?_
          refine x_iald X hf d_Model_takeSymbols_209 210 rfl (fun v10 hf => ?_)
          refine x_iadd X d_Model_takeSymbols_210 211 rfl ?_
          refine x_aload_n X (q := 0) d_Model_takeSymbols_211 rfl 212 rfl ?_
          refine x_callV0i X (t_Model_here hf.2) hf.1 (ci := 12) rfl rfl lm_Model_142 im_Model_here sl_Model_here cd_Model_here in_Model ds_Model_here rfl rfl (Nat.le_of_ble_eq_true rfl) (Nat.le_of_ble_eq_true rfl) (Nat.le_of_ble_eq_true rfl) rfl rfl (Nat.le_refl 0) (Nat.le_refl 0) d_Model_takeSymbols_212 215 rfl (fun v12 h11 hf => ?_)
          refine x_i2b X d_Model_takeSymbols_215 216 rfl ?_
          refine x_bast X hf d_Model_takeSymbols_216 217 rfl (fun h13 hf => ?_)
          refine x_aload_n X (q := 0) d_Model_takeSymbols_217 rfl 218 rfl ?_
          refine x_getR X hf (ci := 12) (j := 25) rfl (by decide) rfl lf_Model_66 d_Model_takeSymbols_218 221 rfl (fun o14 hf => ?_)
          refine x_iload_n X (q := 1) d_Model_takeSymbols_221 rfl 222 rfl ?_
          refine x_dup2 X rfl rfl d_Model_takeSymbols_222 223 rfl ?_
          refine x_iald X hf d_Model_takeSymbols_223 224 rfl (fun v15 hf => ?_)
          refine x_iconst X (v := 1) d_Model_takeSymbols_224 (by decide) 225 rfl ?_
          refine x_iadd X d_Model_takeSymbols_225 226 rfl ?_
          refine x_iast X hf d_Model_takeSymbols_226 227 rfl (fun h16 hf => ?_)
          refine x_aload_n X (q := 0) d_Model_takeSymbols_227 rfl 228 rfl ?_
          refine x_dup X rfl d_Model_takeSymbols_228 229 rfl ?_
          refine x_getI X hf (ci := 12) (j := 6) rfl (by decide) rfl lf_Model_133 d_Model_takeSymbols_229 232 rfl (fun v17 hf => ?_)
          refine x_iconst X (v := 1) d_Model_takeSymbols_232 (by decide) 233 rfl ?_
          refine x_iadd X d_Model_takeSymbols_233 234 rfl ?_
          refine x_put X hf (ci := 12) (j := 6) (ty := .int) rfl (by decide) rfl lf_Model_133 rfl (by decide +kernel) rfl rfl d_Model_takeSymbols_234 237 rfl (fun h18 hf => ?_)
          refine x_goto X d_Model_takeSymbols_237 150 (by decide) ?_
          exact x_sub [0, 1] rfl (hk150 _ _ _ hf)
        · refine x_aload_n X (q := 0) d_Model_takeSymbols_184 rfl 185 rfl ?_
          refine x_iconst X (v := 1) d_Model_takeSymbols_185 (by decide) 186 rfl ?_
          refine x_aload_n X (q := 0) d_Model_takeSymbols_186 rfl 187 rfl ?_
          refine x_getI X hf (ci := 12) (j := 6) rfl (by decide) rfl lf_Model_133 d_Model_takeSymbols_187 190 rfl (fun v19 hf => ?_)
          refine x_callV0v X (t_Model_wrong hf.2) hf.1 (ci := 12) rfl rfl lm_Model_146 im_Model_wrong sl_Model_wrong cd_Model_wrong in_Model ds_Model_wrong rfl rfl (Nat.le_of_ble_eq_true rfl) (Nat.le_of_ble_eq_true rfl) (Nat.le_of_ble_eq_true rfl) rfl rfl (Nat.le_refl 0) (Nat.le_refl 0) d_Model_takeSymbols_190 193 rfl (fun h20 hf => ?_)
          refine x_goto X d_Model_takeSymbols_193 150 (by decide) ?_
          exact x_sub [0, 1] rfl (hk150 _ _ _ hf)
set_option maxRecDepth 100000 in
def wp_Model_takeSymbols_144 (z : Nat → Nat) (Q : xh → Prop) (k0 : Nat × xh → Prop) (a0 : Nat) (x2 : Int32) (hp : xh) : Prop :=
  xcls hp a0 12 ∧ wp_Model_take z (fun h1 => wp_Model_takeSymbols_150 z Q k0 a0 x2 h1) a0 32 hp
set_option maxRecDepth 100000 in
set_option maxHeartbeats 4000000 in
theorem t_Model_takeSymbols_144 {p : Program} {l : Launch} {e : Env} {s : State} {m : MethodId} {args : Array Value} {below : List Frame} {meth : Method} {c : Code} {G : xG} {z : Nat → Nat} {A : Nat → Prop} {Qw : State → Prop} {Q : xh → Prop} {k0 : Nat × xh → Prop} {a0 : Nat} {x2 : Int32} {hp : xh} (X : xX p l e rm_Model_takeSymbols s m args below meth c G z A y_Model_takeSymbols b_Model_takeSymbols 3) (hret : xRet p l e rm_Model_takeSymbols s m args below meth c G A 3 Qw b_Model_takeSymbols none (xqv Q)) (hk0 : ∀ (a0 : Nat) (hp : xh), k0 (a0, hp) → xE p l e rm_Model_takeSymbols s m args below meth c G A 3 Qw 0 0 hp 0 [(0, .ref a0)] []) (hf : wp_Model_takeSymbols_144 z Q k0 a0 x2 hp) : xE p l e rm_Model_takeSymbols s m args below meth c G A 3 Qw 0 0 hp 144 [(0, .ref a0), (2, .int x2)] [] := by
  unfold wp_Model_takeSymbols_144 at hf
  refine x_aload_n X (q := 0) d_Model_takeSymbols_144 rfl 145 rfl ?_
  refine x_bipush X (v := 32) d_Model_takeSymbols_145 (by decide) 147 rfl ?_
  refine x_callV0v X (t_Model_take hf.2) hf.1 (ci := 12) rfl rfl lm_Model_167 im_Model_take sl_Model_take cd_Model_take in_Model ds_Model_take rfl rfl (Nat.le_of_ble_eq_true rfl) (Nat.le_of_ble_eq_true rfl) (Nat.le_of_ble_eq_true rfl) rfl rfl (Nat.le_refl 0) (Nat.le_refl 0) d_Model_takeSymbols_147 150 rfl (fun h1 hf => ?_)
  exact x_sub [0, 1] rfl (t_Model_takeSymbols_150 X hret hk0 hf)
set_option maxRecDepth 100000 in
def wp_Model_takeSymbols_135 (z : Nat → Nat) (Q : xh → Prop) (k0 : Nat × xh → Prop) (a0 : Nat) (x2 : Int32) (hp : xh) : Prop :=
  ∃ v1, fI hp a0 12 6 = some v1 ∧ (xcls hp a0 12 ∧ wp_Model_wrong z (fun h2 => wp_Model_takeSymbols_144 z Q k0 a0 x2 h2) a0 1 v1 hp)
set_option maxRecDepth 100000 in
set_option maxHeartbeats 4000000 in
theorem t_Model_takeSymbols_135 {p : Program} {l : Launch} {e : Env} {s : State} {m : MethodId} {args : Array Value} {below : List Frame} {meth : Method} {c : Code} {G : xG} {z : Nat → Nat} {A : Nat → Prop} {Qw : State → Prop} {Q : xh → Prop} {k0 : Nat × xh → Prop} {a0 : Nat} {x2 : Int32} {hp : xh} (X : xX p l e rm_Model_takeSymbols s m args below meth c G z A y_Model_takeSymbols b_Model_takeSymbols 3) (hret : xRet p l e rm_Model_takeSymbols s m args below meth c G A 3 Qw b_Model_takeSymbols none (xqv Q)) (hk0 : ∀ (a0 : Nat) (hp : xh), k0 (a0, hp) → xE p l e rm_Model_takeSymbols s m args below meth c G A 3 Qw 0 0 hp 0 [(0, .ref a0)] []) (hf : wp_Model_takeSymbols_135 z Q k0 a0 x2 hp) : xE p l e rm_Model_takeSymbols s m args below meth c G A 3 Qw 0 0 hp 135 [(0, .ref a0), (2, .int x2)] [] := by
  unfold wp_Model_takeSymbols_135 at hf
  refine x_aload_n X (q := 0) d_Model_takeSymbols_135 rfl 136 rfl ?_
  refine x_iconst X (v := 1) d_Model_takeSymbols_136 (by decide) 137 rfl ?_
  refine x_aload_n X (q := 0) d_Model_takeSymbols_137 rfl 138 rfl ?_
  refine x_getI X hf (ci := 12) (j := 6) rfl (by decide) rfl lf_Model_133 d_Model_takeSymbols_138 141 rfl (fun v1 hf => ?_)
  refine x_callV0v X (t_Model_wrong hf.2) hf.1 (ci := 12) rfl rfl lm_Model_146 im_Model_wrong sl_Model_wrong cd_Model_wrong in_Model ds_Model_wrong rfl rfl (Nat.le_of_ble_eq_true rfl) (Nat.le_of_ble_eq_true rfl) (Nat.le_of_ble_eq_true rfl) rfl rfl (Nat.le_refl 0) (Nat.le_refl 0) d_Model_takeSymbols_141 144 rfl (fun h2 hf => ?_)
  exact x_sub [0, 1] rfl (t_Model_takeSymbols_144 X hret hk0 hf)
set_option maxRecDepth 100000 in
def wp_Model_takeSymbols_97 (z : Nat → Nat) (Q : xh → Prop) (k0 : Nat × xh → Prop) (a0 : Nat) (x1 : Int32) (s0 : Int32) (hp : xh) : Prop :=
  ∃ v1, fI hp a0 12 9 = some v1 ∧ (∀ v2, v2 = (s0 + v1) → ∃ v3, fI hp a0 12 7 = some v3 ∧ ((¬ v3 = 0 → wp_Model_takeSymbols_144 z Q k0 a0 v2 hp) ∧ (v3 = 0 → (∃ v4, fI hp a0 12 9 = some v4 ∧ (∃ o5, fR hp a0 12 10 = some o5 ∧ (∃ v6, aI hp o5 0 (11 + x1) = some v6 ∧ ((v6 ≤ v4 → wp_Model_takeSymbols_135 z Q k0 a0 v2 hp) ∧ (¬ v6 ≤ v4 → (∃ o7, fR hp a0 12 25 = some o7 ∧ (∃ v8, aI hp o7 0 v2 = some v8 ∧ ((v8 ≤ 0 → wp_Model_takeSymbols_144 z Q k0 a0 v2 hp) ∧ (¬ v8 ≤ 0 → wp_Model_takeSymbols_135 z Q k0 a0 v2 hp))))))))))))
set_option maxRecDepth 100000 in
set_option maxHeartbeats 4000000 in
theorem t_Model_takeSymbols_97 {p : Program} {l : Launch} {e : Env} {s : State} {m : MethodId} {args : Array Value} {below : List Frame} {meth : Method} {c : Code} {G : xG} {z : Nat → Nat} {A : Nat → Prop} {Qw : State → Prop} {Q : xh → Prop} {k0 : Nat × xh → Prop} {a0 : Nat} {x1 : Int32} {s0 : Int32} {hp : xh} (X : xX p l e rm_Model_takeSymbols s m args below meth c G z A y_Model_takeSymbols b_Model_takeSymbols 3) (hret : xRet p l e rm_Model_takeSymbols s m args below meth c G A 3 Qw b_Model_takeSymbols none (xqv Q)) (hk0 : ∀ (a0 : Nat) (hp : xh), k0 (a0, hp) → xE p l e rm_Model_takeSymbols s m args below meth c G A 3 Qw 0 0 hp 0 [(0, .ref a0)] []) (hf : wp_Model_takeSymbols_97 z Q k0 a0 x1 s0 hp) : xE p l e rm_Model_takeSymbols s m args below meth c G A 3 Qw 0 0 hp 97 [(0, .ref a0), (1, .int x1)] [.int s0] := by
  unfold wp_Model_takeSymbols_97 at hf
  refine x_aload_n X (q := 0) d_Model_takeSymbols_97 rfl 98 rfl ?_
  refine x_getI X hf (ci := 12) (j := 9) rfl (by decide) rfl lf_Model_150 d_Model_takeSymbols_98 101 rfl (fun v1 hf => ?_)
  refine x_iadd X d_Model_takeSymbols_101 102 rfl ?_
  refine x_istoreN_n X hf d_Model_takeSymbols_102 rfl (by decide) (lw := fun v2 => [(2, .int v2), (0, .ref a0), (1, .int x1)]) (fun _ => rfl) 103 rfl (fun v2 hf => ?_)
  refine x_aload_n X (q := 1) d_Model_takeSymbols_103 rfl 104 rfl ?_
  refine x_getI X hf (ci := 12) (j := 7) rfl (by decide) rfl lf_Model_136 d_Model_takeSymbols_104 107 rfl (fun v3 hf => ?_)
  refine x_if_ne X hf d_Model_takeSymbols_107 144 110 (by decide) rfl (fun hf => ?_) (fun hf => ?_)
  · exact x_sub [1, 0] rfl (t_Model_takeSymbols_144 X hret hk0 hf)
  · refine x_aload_n X (q := 1) d_Model_takeSymbols_110 rfl 111 rfl ?_
    refine x_getI X hf (ci := 12) (j := 9) rfl (by decide) rfl lf_Model_150 d_Model_takeSymbols_111 114 rfl (fun v4 hf => ?_)
    refine x_aload_n X (q := 1) d_Model_takeSymbols_114 rfl 115 rfl ?_
    refine x_getR X hf (ci := 12) (j := 10) rfl (by decide) rfl lf_Model_20 d_Model_takeSymbols_115 118 rfl (fun o5 hf => ?_)
    refine x_bipush X (v := 11) d_Model_takeSymbols_118 (by decide) 120 rfl ?_
    refine x_iload_n X (q := 2) d_Model_takeSymbols_120 rfl 121 rfl ?_
    refine x_iadd X d_Model_takeSymbols_121 122 rfl ?_
    refine x_iald X hf d_Model_takeSymbols_122 123 rfl (fun v6 hf => ?_)
    refine x_icmp_ge X hf d_Model_takeSymbols_123 135 126 (by decide) rfl (fun hf => ?_) (fun hf => ?_)
    · exact x_sub [1, 0] rfl (t_Model_takeSymbols_135 X hret hk0 hf)
    · refine x_aload_n X (q := 1) d_Model_takeSymbols_126 rfl 127 rfl ?_
      refine x_getR X hf (ci := 12) (j := 25) rfl (by decide) rfl lf_Model_66 d_Model_takeSymbols_127 130 rfl (fun o7 hf => ?_)
      refine x_iload_n X (q := 0) d_Model_takeSymbols_130 rfl 131 rfl ?_
      refine x_iald X hf d_Model_takeSymbols_131 132 rfl (fun v8 hf => ?_)
      refine x_if_le X hf d_Model_takeSymbols_132 144 135 (by decide) rfl (fun hf => ?_) (fun hf => ?_)
      · exact x_sub [1, 0] rfl (t_Model_takeSymbols_144 X hret hk0 hf)
      · exact x_sub [1, 0] rfl (t_Model_takeSymbols_135 X hret hk0 hf)
set_option maxRecDepth 100000 in
def wp_Model_takeSymbols_61 (z : Nat → Nat) (Q : xh → Prop) (k0 : Nat × xh → Prop) (a0 : Nat) (s0 : Int32) (hp : xh) : Prop :=
  ∃ v1, fI hp a0 12 6 = some v1 ∧ (∃ h2, pV hp a0 12 6 (.int (v1 + 1)) = some h2 ∧ (xcls h2 a0 12 ∧ wp_Model_takeNumber z (fun h3 => (¬ s0 = 0 → ((¬ s0 = 1 → wp_Model_takeSymbols_97 z Q k0 a0 s0 58 h3) ∧ (s0 = 1 → wp_Model_takeSymbols_97 z Q k0 a0 s0 50 h3))) ∧ (s0 = 0 → wp_Model_takeSymbols_97 z Q k0 a0 s0 44 h3)) a0 h2))
set_option maxRecDepth 100000 in
set_option maxHeartbeats 4000000 in
theorem t_Model_takeSymbols_61 {p : Program} {l : Launch} {e : Env} {s : State} {m : MethodId} {args : Array Value} {below : List Frame} {meth : Method} {c : Code} {G : xG} {z : Nat → Nat} {A : Nat → Prop} {Qw : State → Prop} {Q : xh → Prop} {k0 : Nat × xh → Prop} {a0 : Nat} {s0 : Int32} {hp : xh} (X : xX p l e rm_Model_takeSymbols s m args below meth c G z A y_Model_takeSymbols b_Model_takeSymbols 3) (hret : xRet p l e rm_Model_takeSymbols s m args below meth c G A 3 Qw b_Model_takeSymbols none (xqv Q)) (hk0 : ∀ (a0 : Nat) (hp : xh), k0 (a0, hp) → xE p l e rm_Model_takeSymbols s m args below meth c G A 3 Qw 0 0 hp 0 [(0, .ref a0)] []) (hf : wp_Model_takeSymbols_61 z Q k0 a0 s0 hp) : xE p l e rm_Model_takeSymbols s m args below meth c G A 3 Qw 0 0 hp 61 [(0, .ref a0)] [.int s0] := by
  unfold wp_Model_takeSymbols_61 at hf
  refine x_istore_n X (lv' := [(1, .int s0), (0, .ref a0)]) d_Model_takeSymbols_61 rfl (by decide) rfl 62 rfl ?_
  refine x_aload_n X (q := 1) d_Model_takeSymbols_62 rfl 63 rfl ?_
  refine x_dup X rfl d_Model_takeSymbols_63 64 rfl ?_
  refine x_getI X hf (ci := 12) (j := 6) rfl (by decide) rfl lf_Model_133 d_Model_takeSymbols_64 67 rfl (fun v1 hf => ?_)
  refine x_iconst X (v := 1) d_Model_takeSymbols_67 (by decide) 68 rfl ?_
  refine x_iadd X d_Model_takeSymbols_68 69 rfl ?_
  refine x_put X hf (ci := 12) (j := 6) (ty := .int) rfl (by decide) rfl lf_Model_133 rfl (by decide +kernel) rfl rfl d_Model_takeSymbols_69 72 rfl (fun h2 hf => ?_)
  refine x_aload_n X (q := 1) d_Model_takeSymbols_72 rfl 73 rfl ?_
  refine x_callV0v X (t_Model_takeNumber hf.2) hf.1 (ci := 12) rfl rfl lm_Model_157 im_Model_takeNumber sl_Model_takeNumber cd_Model_takeNumber in_Model ds_Model_takeNumber rfl rfl (Nat.le_of_ble_eq_true rfl) (Nat.le_of_ble_eq_true rfl) (Nat.le_of_ble_eq_true rfl) rfl rfl (Nat.le_refl 0) (Nat.le_refl 0) d_Model_takeSymbols_73 76 rfl (fun h3 hf => ?_)
  refine x_iload_n X (q := 0) d_Model_takeSymbols_76 rfl 77 rfl ?_
  refine x_if_ne X hf d_Model_takeSymbols_77 85 80 (by decide) rfl (fun hf => ?_) (fun hf => ?_)
  · refine x_iload_n X (q := 0) d_Model_takeSymbols_85 rfl 86 rfl ?_
    refine x_iconst X (v := 1) d_Model_takeSymbols_86 (by decide) 87 rfl ?_
    refine x_icmp_ne X hf d_Model_takeSymbols_87 95 90 (by decide) rfl (fun hf => ?_) (fun hf => ?_)
    · refine x_bipush X (v := 58) d_Model_takeSymbols_95 (by decide) 97 rfl ?_
      exact x_sub [1, 0] rfl (t_Model_takeSymbols_97 X hret hk0 hf)
    · refine x_bipush X (v := 50) d_Model_takeSymbols_90 (by decide) 92 rfl ?_
      refine x_goto X d_Model_takeSymbols_92 97 (by decide) ?_
      exact x_sub [1, 0] rfl (t_Model_takeSymbols_97 X hret hk0 hf)
  · refine x_bipush X (v := 44) d_Model_takeSymbols_80 (by decide) 82 rfl ?_
    refine x_goto X d_Model_takeSymbols_82 97 (by decide) ?_
    exact x_sub [1, 0] rfl (t_Model_takeSymbols_97 X hret hk0 hf)
set_option maxRecDepth 100000 in
def wp_Model_takeSymbols_34 (z : Nat → Nat) (Q : xh → Prop) (k0 : Nat × xh → Prop) (a0 : Nat) (hp : xh) : Prop :=
  xcls hp a0 12 ∧ wp_Model_here z (fun v2 h1 => (¬ v2 = 105 → (xcls h1 a0 12 ∧ wp_Model_here z (fun v4 h3 => (¬ v4 = 108 → wp_Model_takeSymbols_61 z Q k0 a0 2 h3) ∧ (v4 = 108 → wp_Model_takeSymbols_61 z Q k0 a0 1 h3)) a0 h1)) ∧ (v2 = 105 → wp_Model_takeSymbols_61 z Q k0 a0 0 h1)) a0 hp
set_option maxRecDepth 100000 in
set_option maxHeartbeats 4000000 in
theorem t_Model_takeSymbols_34 {p : Program} {l : Launch} {e : Env} {s : State} {m : MethodId} {args : Array Value} {below : List Frame} {meth : Method} {c : Code} {G : xG} {z : Nat → Nat} {A : Nat → Prop} {Qw : State → Prop} {Q : xh → Prop} {k0 : Nat × xh → Prop} {a0 : Nat} {hp : xh} (X : xX p l e rm_Model_takeSymbols s m args below meth c G z A y_Model_takeSymbols b_Model_takeSymbols 3) (hret : xRet p l e rm_Model_takeSymbols s m args below meth c G A 3 Qw b_Model_takeSymbols none (xqv Q)) (hk0 : ∀ (a0 : Nat) (hp : xh), k0 (a0, hp) → xE p l e rm_Model_takeSymbols s m args below meth c G A 3 Qw 0 0 hp 0 [(0, .ref a0)] []) (hf : wp_Model_takeSymbols_34 z Q k0 a0 hp) : xE p l e rm_Model_takeSymbols s m args below meth c G A 3 Qw 0 0 hp 34 [(0, .ref a0)] [] := by
  unfold wp_Model_takeSymbols_34 at hf
  refine x_aload_n X (q := 0) d_Model_takeSymbols_34 rfl 35 rfl ?_
  refine x_callV0i X (t_Model_here hf.2) hf.1 (ci := 12) rfl rfl lm_Model_142 im_Model_here sl_Model_here cd_Model_here in_Model ds_Model_here rfl rfl (Nat.le_of_ble_eq_true rfl) (Nat.le_of_ble_eq_true rfl) (Nat.le_of_ble_eq_true rfl) rfl rfl (Nat.le_refl 0) (Nat.le_refl 0) d_Model_takeSymbols_35 38 rfl (fun v2 h1 hf => ?_)
  refine x_bipush X (v := 105) d_Model_takeSymbols_38 (by decide) 40 rfl ?_
  refine x_icmp_ne X hf d_Model_takeSymbols_40 47 43 (by decide) rfl (fun hf => ?_) (fun hf => ?_)
  · refine x_aload_n X (q := 0) d_Model_takeSymbols_47 rfl 48 rfl ?_
    refine x_callV0i X (t_Model_here hf.2) hf.1 (ci := 12) rfl rfl lm_Model_142 im_Model_here sl_Model_here cd_Model_here in_Model ds_Model_here rfl rfl (Nat.le_of_ble_eq_true rfl) (Nat.le_of_ble_eq_true rfl) (Nat.le_of_ble_eq_true rfl) rfl rfl (Nat.le_refl 0) (Nat.le_refl 0) d_Model_takeSymbols_48 51 rfl (fun v4 h3 hf => ?_)
    refine x_bipush X (v := 108) d_Model_takeSymbols_51 (by decide) 53 rfl ?_
    refine x_icmp_ne X hf d_Model_takeSymbols_53 60 56 (by decide) rfl (fun hf => ?_) (fun hf => ?_)
    · refine x_iconst X (v := 2) d_Model_takeSymbols_60 (by decide) 61 rfl ?_
      exact x_sub [0] rfl (t_Model_takeSymbols_61 X hret hk0 hf)
    · refine x_iconst X (v := 1) d_Model_takeSymbols_56 (by decide) 57 rfl ?_
      refine x_goto X d_Model_takeSymbols_57 61 (by decide) ?_
      exact x_sub [0] rfl (t_Model_takeSymbols_61 X hret hk0 hf)
  · refine x_iconst X (v := 0) d_Model_takeSymbols_43 (by decide) 44 rfl ?_
    refine x_goto X d_Model_takeSymbols_44 61 (by decide) ?_
    exact x_sub [0] rfl (t_Model_takeSymbols_61 X hret hk0 hf)
set_option maxRecDepth 100000 in
def wp_Model_takeSymbols_0_b (z : Nat → Nat) (Q : xh → Prop)  (k0 : Nat × xh → Prop) (a0 : Nat) (hp : xh) : Prop :=
  ∃ v1, fI hp a0 12 7 = some v1 ∧ ((¬ v1 = 0 → wp_Model_takeSymbols_274 z Q a0 hp) ∧ (v1 = 0 → (xcls hp a0 12 ∧ wp_Model_here z (fun v3 h2 => (v3 = 105 → wp_Model_takeSymbols_34 z Q k0 a0 h2) ∧ (¬ v3 = 105 → (xcls h2 a0 12 ∧ wp_Model_here z (fun v5 h4 => (v5 = 108 → wp_Model_takeSymbols_34 z Q k0 a0 h4) ∧ (¬ v5 = 108 → (xcls h4 a0 12 ∧ wp_Model_here z (fun v7 h6 => (¬ v7 = 111 → wp_Model_takeSymbols_274 z Q a0 h6) ∧ (v7 = 111 → wp_Model_takeSymbols_34 z Q k0 a0 h6)) a0 h4))) a0 h2))) a0 hp)))
set_option maxRecDepth 100000 in
def wp_Model_takeSymbols_0 (z : Nat → Nat) (Q : xh → Prop)  (a0 : Nat) (hp : xh) : Prop := ∃ f : Nat, xloop (fun k0 a => wp_Model_takeSymbols_0_b z Q  k0 a.1 a.2) f (a0, hp)
set_option maxRecDepth 100000 in
set_option maxHeartbeats 4000000 in
theorem t_Model_takeSymbols_0 {p : Program} {l : Launch} {e : Env} {s : State} {m : MethodId} {args : Array Value} {below : List Frame} {meth : Method} {c : Code} {G : xG} {z : Nat → Nat} {A : Nat → Prop} {Qw : State → Prop} {Q : xh → Prop} {a0 : Nat} {hp : xh} (X : xX p l e rm_Model_takeSymbols s m args below meth c G z A y_Model_takeSymbols b_Model_takeSymbols 3) (hret : xRet p l e rm_Model_takeSymbols s m args below meth c G A 3 Qw b_Model_takeSymbols none (xqv Q))  (hf : wp_Model_takeSymbols_0 z Q  a0 hp) : xE p l e rm_Model_takeSymbols s m args below meth c G A 3 Qw 0 0 hp 0 [(0, .ref a0)] [] := by
  obtain ⟨f, hf⟩ := hf
  refine xloop_ind (F := fun k0 a => wp_Model_takeSymbols_0_b z Q  k0 a.1 a.2) (E := fun a => xE p l e rm_Model_takeSymbols s m args below meth c G A 3 Qw 0 0 a.2 0 [(0, .ref (a.1))] []) ?_ f (a0, hp) hf
  intro k0 hk a hf
  obtain ⟨a0, hp⟩ := a
  have hk0 : ∀ (a0 : Nat) (hp : xh), k0 (a0, hp) → xE p l e rm_Model_takeSymbols s m args below meth c G A 3 Qw 0 0 hp 0 [(0, .ref a0)] [] := fun a0 hp h => hk (a0, hp) h
  have hf : wp_Model_takeSymbols_0_b z Q  k0 a0 hp := hf
  unfold wp_Model_takeSymbols_0_b at hf
  refine x_aload_n X (q := 0) d_Model_takeSymbols_0 rfl 1 rfl ?_
  refine x_getI X hf (ci := 12) (j := 7) rfl (by decide) rfl lf_Model_136 d_Model_takeSymbols_1 4 rfl (fun v1 hf => ?_)
  refine x_if_ne X hf d_Model_takeSymbols_4 274 7 (by decide) rfl (fun hf => ?_) (fun hf => ?_)
  · exact x_sub [0] rfl (t_Model_takeSymbols_274 X hret hf)
  · refine x_aload_n X (q := 0) d_Model_takeSymbols_7 rfl 8 rfl ?_
    refine x_callV0i X (t_Model_here hf.2) hf.1 (ci := 12) rfl rfl lm_Model_142 im_Model_here sl_Model_here cd_Model_here in_Model ds_Model_here rfl rfl (Nat.le_of_ble_eq_true rfl) (Nat.le_of_ble_eq_true rfl) (Nat.le_of_ble_eq_true rfl) rfl rfl (Nat.le_refl 0) (Nat.le_refl 0) d_Model_takeSymbols_8 11 rfl (fun v3 h2 hf => ?_)
    refine x_bipush X (v := 105) d_Model_takeSymbols_11 (by decide) 13 rfl ?_
    refine x_icmp_eq X hf d_Model_takeSymbols_13 34 16 (by decide) rfl (fun hf => ?_) (fun hf => ?_)
    · exact x_sub [0] rfl (t_Model_takeSymbols_34 X hret hk0 hf)
    · refine x_aload_n X (q := 0) d_Model_takeSymbols_16 rfl 17 rfl ?_
      refine x_callV0i X (t_Model_here hf.2) hf.1 (ci := 12) rfl rfl lm_Model_142 im_Model_here sl_Model_here cd_Model_here in_Model ds_Model_here rfl rfl (Nat.le_of_ble_eq_true rfl) (Nat.le_of_ble_eq_true rfl) (Nat.le_of_ble_eq_true rfl) rfl rfl (Nat.le_refl 0) (Nat.le_refl 0) d_Model_takeSymbols_17 20 rfl (fun v5 h4 hf => ?_)
      refine x_bipush X (v := 108) d_Model_takeSymbols_20 (by decide) 22 rfl ?_
      refine x_icmp_eq X hf d_Model_takeSymbols_22 34 25 (by decide) rfl (fun hf => ?_) (fun hf => ?_)
      · exact x_sub [0] rfl (t_Model_takeSymbols_34 X hret hk0 hf)
      · refine x_aload_n X (q := 0) d_Model_takeSymbols_25 rfl 26 rfl ?_
        refine x_callV0i X (t_Model_here hf.2) hf.1 (ci := 12) rfl rfl lm_Model_142 im_Model_here sl_Model_here cd_Model_here in_Model ds_Model_here rfl rfl (Nat.le_of_ble_eq_true rfl) (Nat.le_of_ble_eq_true rfl) (Nat.le_of_ble_eq_true rfl) rfl rfl (Nat.le_refl 0) (Nat.le_refl 0) d_Model_takeSymbols_26 29 rfl (fun v7 h6 hf => ?_)
        refine x_bipush X (v := 111) d_Model_takeSymbols_29 (by decide) 31 rfl ?_
        refine x_icmp_ne X hf d_Model_takeSymbols_31 274 34 (by decide) rfl (fun hf => ?_) (fun hf => ?_)
        · exact x_sub [0] rfl (t_Model_takeSymbols_274 X hret hf)
        · exact x_sub [0] rfl (t_Model_takeSymbols_34 X hret hk0 hf)
set_option maxRecDepth 100000 in
def wp_Model_takeSymbols (z : Nat → Nat) (Q : xh → Prop) (a0 : Nat) (hp : xh) : Prop :=
  wp_Model_takeSymbols_0 z Q a0 hp
set_option maxRecDepth 100000 in
set_option maxHeartbeats 4000000 in
theorem t_Model_takeSymbols {l : Launch} {G : xG} {z : Nat → Nat} {Q : xh → Prop} {a0 : Nat} {hp : xh} (hf : wp_Model_takeSymbols z Q a0 hp) : xM l G z y_Model_takeSymbols b_Model_takeSymbols 3 none rm_Model_takeSymbols [.ref a0] hp (xqv Q) := by
  refine xM_of (by decide) (Nat.le_of_ble_eq_true rfl) (lv0 := [(0, .ref a0)]) rfl ?_
  intro p e s m args below meth c A Qw X hret
  unfold wp_Model_takeSymbols at hf
  exact x_sub [0] rfl (t_Model_takeSymbols_0 X hret hf)

