set_option maxRecDepth 100000 in
def wp_Reader_keepSizes_112 (z : Nat → Nat) (Q : Int32 → xh → Prop)  (a0 : Nat) (s0 : Int32) (hp : xh) : Prop :=
  (¬ s0 = 0 → (∃ o1, fR hp a0 5 2 = some o1 ∧ (∃ o2, fR hp a0 5 3 = some o2 ∧ (∃ v3, aI hp o2 0 0 = some v3 ∧ (∃ h4, pV hp o1 0 1 (.int v3) = some h4 ∧ (∃ o5, fR h4 a0 5 2 = some o5 ∧ (∃ o6, fR h4 a0 5 3 = some o6 ∧ (∃ v7, aI h4 o6 0 1 = some v7 ∧ (∃ h8, pV h4 o5 0 2 (.int v7) = some h8 ∧ (∃ o9, fR h8 a0 5 2 = some o9 ∧ (∃ o10, fR h8 a0 5 3 = some o10 ∧ (∃ v11, aI h8 o10 0 2 = some v11 ∧ (∃ h12, pV h8 o9 0 3 (.int v11) = some h12 ∧ (∃ o13, fR h12 a0 5 2 = some o13 ∧ (∃ o14, fR h12 a0 5 3 = some o14 ∧ (∃ v15, aI h12 o14 0 3 = some v15 ∧ (∃ h16, pV h12 o13 0 4 (.int v15) = some h16 ∧ (∃ o17, fR h16 a0 5 2 = some o17 ∧ (∃ o18, fR h16 a0 5 3 = some o18 ∧ (∃ v19, aI h16 o18 0 4 = some v19 ∧ (∃ h20, pV h16 o17 0 5 (.int v19) = some h20 ∧ Q 1 h20))))))))))))))))))))) ∧ (s0 = 0 → (∃ v21, fI hp a0 5 8 = some v21 ∧ (xcls hp a0 5 ∧ wp_Reader_fail z (fun v23 h22 => Q v23 h22) a0 2 v21 hp)))
set_option maxRecDepth 100000 in
set_option maxHeartbeats 4000000 in
theorem t_Reader_keepSizes_112 {p : Program} {l : Launch} {e : Env} {s : State} {m : MethodId} {args : Array Value} {below : List Frame} {meth : Method} {c : Code} {G : xG} {z : Nat → Nat} {A : Nat → Prop} {Qw : State → Prop} {Q : Int32 → xh → Prop} {a0 : Nat} {s0 : Int32} {hp : xh} (X : xX p l e rm_Reader_keepSizes s m args below meth c G z A y_Reader_keepSizes b_Reader_keepSizes 3) (hret : xRet p l e rm_Reader_keepSizes s m args below meth c G A 3 Qw b_Reader_keepSizes (some .boolean) (xqz Q))  (hf : wp_Reader_keepSizes_112 z Q  a0 s0 hp) : xE p l e rm_Reader_keepSizes s m args below meth c G A 3 Qw 0 0 hp 112 [(0, .ref a0)] [.int s0] := by
  unfold wp_Reader_keepSizes_112 at hf
  refine x_istore_n X (lv' := [(2, .int s0), (0, .ref a0)]) d_Reader_keepSizes_112 rfl (by decide) rfl 113 rfl ?_
  refine x_iload_n X (q := 0) d_Reader_keepSizes_113 rfl 114 rfl ?_
  refine x_if_ne X hf d_Reader_keepSizes_114 127 117 (by decide) rfl (fun hf => ?_) (fun hf => ?_)
  · refine x_aload_n X (q := 1) d_Reader_keepSizes_127 rfl 128 rfl ?_
    refine x_getR X hf (ci := 5) (j := 2) rfl (by decide) rfl lf_Reader_21 d_Reader_keepSizes_128 131 rfl (fun o1 hf => ?_)
    refine x_aload_n X (q := 1) d_Reader_keepSizes_131 rfl 132 rfl ?_
    refine x_getR X hf (ci := 5) (j := 3) rfl (by decide) rfl lf_Reader_25 d_Reader_keepSizes_132 135 rfl (fun o2 hf => ?_)
    refine x_iconst X (v := 0) d_Reader_keepSizes_135 (by decide) 136 rfl ?_
    refine x_iald X hf d_Reader_keepSizes_136 137 rfl (fun v3 hf => ?_)
    refine x_put X hf (ci := 0) (j := 1) (ty := .int) rfl (by decide) rfl lf_Reader_121 rfl (by decide +kernel) rfl rfl d_Reader_keepSizes_137 140 rfl (fun h4 hf => ?_)
    refine x_aload_n X (q := 1) d_Reader_keepSizes_140 rfl 141 rfl ?_
    refine x_getR X hf (ci := 5) (j := 2) rfl (by decide) rfl lf_Reader_21 d_Reader_keepSizes_141 144 rfl (fun o5 hf => ?_)
    refine x_aload_n X (q := 1) d_Reader_keepSizes_144 rfl 145 rfl ?_
    refine x_getR X hf (ci := 5) (j := 3) rfl (by decide) rfl lf_Reader_25 d_Reader_keepSizes_145 148 rfl (fun o6 hf => ?_)
    refine x_iconst X (v := 1) d_Reader_keepSizes_148 (by decide) 149 rfl ?_
    refine x_iald X hf d_Reader_keepSizes_149 150 rfl (fun v7 hf => ?_)
    refine x_put X hf (ci := 0) (j := 2) (ty := .int) rfl (by decide) rfl lf_Reader_124 rfl (by decide +kernel) rfl rfl d_Reader_keepSizes_150 153 rfl (fun h8 hf => ?_)
    refine x_aload_n X (q := 1) d_Reader_keepSizes_153 rfl 154 rfl ?_
    refine x_getR X hf (ci := 5) (j := 2) rfl (by decide) rfl lf_Reader_21 d_Reader_keepSizes_154 157 rfl (fun o9 hf => ?_)
    refine x_aload_n X (q := 1) d_Reader_keepSizes_157 rfl 158 rfl ?_
    refine x_getR X hf (ci := 5) (j := 3) rfl (by decide) rfl lf_Reader_25 d_Reader_keepSizes_158 161 rfl (fun o10 hf => ?_)
    refine x_iconst X (v := 2) d_Reader_keepSizes_161 (by decide) 162 rfl ?_
    refine x_iald X hf d_Reader_keepSizes_162 163 rfl (fun v11 hf => ?_)
    refine x_put X hf (ci := 0) (j := 3) (ty := .int) rfl (by decide) rfl lf_Reader_127 rfl (by decide +kernel) rfl rfl d_Reader_keepSizes_163 166 rfl (fun h12 hf => ?_)
    refine x_aload_n X (q := 1) d_Reader_keepSizes_166 rfl 167 rfl ?_
    refine x_getR X hf (ci := 5) (j := 2) rfl (by decide) rfl lf_Reader_21 d_Reader_keepSizes_167 170 rfl (fun o13 hf => ?_)
    refine x_aload_n X (q := 1) d_Reader_keepSizes_170 rfl 171 rfl ?_
    refine x_getR X hf (ci := 5) (j := 3) rfl (by decide) rfl lf_Reader_25 d_Reader_keepSizes_171 174 rfl (fun o14 hf => ?_)
    refine x_iconst X (v := 3) d_Reader_keepSizes_174 (by decide) 175 rfl ?_
    refine x_iald X hf d_Reader_keepSizes_175 176 rfl (fun v15 hf => ?_)
    refine x_put X hf (ci := 0) (j := 4) (ty := .int) rfl (by decide) rfl lf_Reader_130 rfl (by decide +kernel) rfl rfl d_Reader_keepSizes_176 179 rfl (fun h16 hf => ?_)
    refine x_aload_n X (q := 1) d_Reader_keepSizes_179 rfl 180 rfl ?_
    refine x_getR X hf (ci := 5) (j := 2) rfl (by decide) rfl lf_Reader_21 d_Reader_keepSizes_180 183 rfl (fun o17 hf => ?_)
    refine x_aload_n X (q := 1) d_Reader_keepSizes_183 rfl 184 rfl ?_
    refine x_getR X hf (ci := 5) (j := 3) rfl (by decide) rfl lf_Reader_25 d_Reader_keepSizes_184 187 rfl (fun o18 hf => ?_)
    refine x_iconst X (v := 4) d_Reader_keepSizes_187 (by decide) 188 rfl ?_
    refine x_iald X hf d_Reader_keepSizes_188 189 rfl (fun v19 hf => ?_)
    refine x_put X hf (ci := 0) (j := 5) (ty := .int) rfl (by decide) rfl lf_Reader_133 rfl (by decide +kernel) rfl rfl d_Reader_keepSizes_189 192 rfl (fun h20 hf => ?_)
    refine x_iconst X (v := 1) d_Reader_keepSizes_192 (by decide) 193 rfl ?_
    exact hret _ _ _ _ _ (some (.int 1)) (Nat.le_refl 0) (Nat.le_refl 0) ⟨_, rfl, (Or.inr rfl), hf⟩ ⟨⟨_, rfl, xbl_nar (Or.inr rfl)⟩, d_Reader_keepSizes_193⟩
  · refine x_aload_n X (q := 1) d_Reader_keepSizes_117 rfl 118 rfl ?_
    refine x_iconst X (v := 2) d_Reader_keepSizes_118 (by decide) 119 rfl ?_
    refine x_aload_n X (q := 1) d_Reader_keepSizes_119 rfl 120 rfl ?_
    refine x_getI X hf (ci := 5) (j := 8) rfl (by decide) rfl lf_Reader_46 d_Reader_keepSizes_120 123 rfl (fun v21 hf => ?_)
    refine x_callV0z X (t_Reader_fail hf.2) hf.1 (ci := 5) rfl rfl lm_Reader_101 im_Reader_fail sl_Reader_fail cd_Reader_fail in_Reader ds_Reader_fail rfl rfl (Nat.le_of_ble_eq_true rfl) (Nat.le_of_ble_eq_true rfl) (Nat.le_of_ble_eq_true rfl) rfl rfl (Nat.le_refl 0) (Nat.le_refl 0) d_Reader_keepSizes_123 126 rfl (fun v23 h22 hb24 hf => ?_)
    exact hret _ _ _ _ _ (some (.int v23)) (Nat.le_refl 0) (Nat.le_refl 0) ⟨_, rfl, hb24, hf⟩ ⟨⟨_, rfl, xbl_nar hb24⟩, d_Reader_keepSizes_126⟩
set_option maxRecDepth 100000 in
def wp_Reader_keepSizes_111 (z : Nat → Nat) (Q : Int32 → xh → Prop)  (a0 : Nat) (hp : xh) : Prop :=
  wp_Reader_keepSizes_112 z Q a0 0 hp
set_option maxRecDepth 100000 in
set_option maxHeartbeats 4000000 in
theorem t_Reader_keepSizes_111 {p : Program} {l : Launch} {e : Env} {s : State} {m : MethodId} {args : Array Value} {below : List Frame} {meth : Method} {c : Code} {G : xG} {z : Nat → Nat} {A : Nat → Prop} {Qw : State → Prop} {Q : Int32 → xh → Prop} {a0 : Nat} {hp : xh} (X : xX p l e rm_Reader_keepSizes s m args below meth c G z A y_Reader_keepSizes b_Reader_keepSizes 3) (hret : xRet p l e rm_Reader_keepSizes s m args below meth c G A 3 Qw b_Reader_keepSizes (some .boolean) (xqz Q))  (hf : wp_Reader_keepSizes_111 z Q  a0 hp) : xE p l e rm_Reader_keepSizes s m args below meth c G A 3 Qw 0 0 hp 111 [(0, .ref a0)] [] := by
  unfold wp_Reader_keepSizes_111 at hf
  refine x_iconst X (v := 0) d_Reader_keepSizes_111 (by decide) 112 rfl ?_
  exact x_sub [0] rfl (t_Reader_keepSizes_112 X hret hf)
set_option maxRecDepth 100000 in
def wp_Reader_keepSizes_107 (z : Nat → Nat) (Q : Int32 → xh → Prop)  (a0 : Nat) (hp : xh) : Prop :=
  wp_Reader_keepSizes_112 z Q a0 1 hp
set_option maxRecDepth 100000 in
set_option maxHeartbeats 4000000 in
theorem t_Reader_keepSizes_107 {p : Program} {l : Launch} {e : Env} {s : State} {m : MethodId} {args : Array Value} {below : List Frame} {meth : Method} {c : Code} {G : xG} {z : Nat → Nat} {A : Nat → Prop} {Qw : State → Prop} {Q : Int32 → xh → Prop} {a0 : Nat} {hp : xh} (X : xX p l e rm_Reader_keepSizes s m args below meth c G z A y_Reader_keepSizes b_Reader_keepSizes 3) (hret : xRet p l e rm_Reader_keepSizes s m args below meth c G A 3 Qw b_Reader_keepSizes (some .boolean) (xqz Q))  (hf : wp_Reader_keepSizes_107 z Q  a0 hp) : xE p l e rm_Reader_keepSizes s m args below meth c G A 3 Qw 0 0 hp 107 [(0, .ref a0)] [] := by
  unfold wp_Reader_keepSizes_107 at hf
  refine x_iconst X (v := 1) d_Reader_keepSizes_107 (by decide) 108 rfl ?_
  refine x_goto X d_Reader_keepSizes_108 112 (by decide) ?_
  exact x_sub [0] rfl (t_Reader_keepSizes_112 X hret hf)
set_option maxRecDepth 100000 in
def wp_Reader_keepSizes (z : Nat → Nat) (Q : Int32 → xh → Prop) (a0 : Nat) (hp : xh) : Prop :=
  ∃ o1, fR hp a0 5 3 = some o1 ∧ (∃ v2, aI hp o1 0 1 = some v2 ∧ (∃ o3, fR hp a0 5 3 = some o3 ∧ (∃ v4, aI hp o3 0 2 = some v4 ∧ (∃ o5, fR hp a0 5 3 = some o5 ∧ (∃ v6, aI hp o5 0 4 = some v6 ∧ (∀ v7, v7 = ((v2 + v4) + v6) → ∃ o8, fR hp a0 5 3 = some o8 ∧ (∃ v9, aI hp o8 0 0 = some v9 ∧ ((200 < v9 → wp_Reader_keepSizes_111 z Q a0 hp) ∧ (¬ 200 < v9 → (∃ o10, fR hp a0 5 3 = some o10 ∧ (∃ v11, aI hp o10 0 1 = some v11 ∧ ((5 < v11 → wp_Reader_keepSizes_111 z Q a0 hp) ∧ (¬ 5 < v11 → (∃ o12, fR hp a0 5 3 = some o12 ∧ (∃ v13, aI hp o12 0 2 = some v13 ∧ ((6 < v13 → wp_Reader_keepSizes_111 z Q a0 hp) ∧ (¬ 6 < v13 → (∃ o14, fR hp a0 5 3 = some o14 ∧ (∃ v15, aI hp o14 0 3 = some v15 ∧ ((8 < v15 → wp_Reader_keepSizes_111 z Q a0 hp) ∧ (¬ 8 < v15 → (∃ o16, fR hp a0 5 3 = some o16 ∧ (∃ v17, aI hp o16 0 4 = some v17 ∧ ((150 < v17 → wp_Reader_keepSizes_111 z Q a0 hp) ∧ (¬ 150 < v17 → (∃ v18, fI hp a0 5 7 = some v18 ∧ ((v18 = 0 → (∃ o19, fR hp a0 5 3 = some o19 ∧ (∃ v20, aI hp o19 0 0 = some v20 ∧ ((v20 < v7 → wp_Reader_keepSizes_111 z Q a0 hp) ∧ (¬ v20 < v7 → wp_Reader_keepSizes_107 z Q a0 hp))))) ∧ (¬ v18 = 0 → (∃ o21, fR hp a0 5 3 = some o21 ∧ (∃ v22, aI hp o21 0 0 = some v22 ∧ ((¬ v22 = v7 → wp_Reader_keepSizes_111 z Q a0 hp) ∧ (v22 = v7 → wp_Reader_keepSizes_107 z Q a0 hp))))))))))))))))))))))))))))))))
set_option maxRecDepth 100000 in
set_option maxHeartbeats 4000000 in
theorem t_Reader_keepSizes {l : Launch} {G : xG} {z : Nat → Nat} {Q : Int32 → xh → Prop} {a0 : Nat} {hp : xh} (hf : wp_Reader_keepSizes z Q a0 hp) : xM l G z y_Reader_keepSizes b_Reader_keepSizes 3 (some .boolean) rm_Reader_keepSizes [.ref a0] hp (xqz Q) := by
  refine xM_of (by decide) (Nat.le_of_ble_eq_true rfl) (lv0 := [(0, .ref a0)]) rfl ?_
  intro p e s m args below meth c A Qw X hret
  unfold wp_Reader_keepSizes at hf
  refine x_aload_n X (q := 0) d_Reader_keepSizes_0 rfl 1 rfl ?_
  refine x_getR X hf (ci := 5) (j := 3) rfl (by decide) rfl lf_Reader_25 d_Reader_keepSizes_1 4 rfl (fun o1 hf => ?_)
  refine x_iconst X (v := 1) d_Reader_keepSizes_4 (by decide) 5 rfl ?_
  refine x_iald X hf d_Reader_keepSizes_5 6 rfl (fun v2 hf => ?_)
  refine x_aload_n X (q := 0) d_Reader_keepSizes_6 rfl 7 rfl ?_
  refine x_getR X hf (ci := 5) (j := 3) rfl (by decide) rfl lf_Reader_25 d_Reader_keepSizes_7 10 rfl (fun o3 hf => ?_)
  refine x_iconst X (v := 2) d_Reader_keepSizes_10 (by decide) 11 rfl ?_
  refine x_iald X hf d_Reader_keepSizes_11 12 rfl (fun v4 hf => ?_)
  refine x_iadd X d_Reader_keepSizes_12 13 rfl ?_
  refine x_aload_n X (q := 0) d_Reader_keepSizes_13 rfl 14 rfl ?_
  refine x_getR X hf (ci := 5) (j := 3) rfl (by decide) rfl lf_Reader_25 d_Reader_keepSizes_14 17 rfl (fun o5 hf => ?_)
  refine x_iconst X (v := 4) d_Reader_keepSizes_17 (by decide) 18 rfl ?_
  refine x_iald X hf d_Reader_keepSizes_18 19 rfl (fun v6 hf => ?_)
  refine x_iadd X d_Reader_keepSizes_19 20 rfl ?_
  refine x_istoreN_n X hf d_Reader_keepSizes_20 rfl (by decide) (lw := fun v7 => [(1, .int v7), (0, .ref a0)]) (fun _ => rfl) 21 rfl (fun v7 hf => ?_)
  refine x_aload_n X (q := 1) d_Reader_keepSizes_21 rfl 22 rfl ?_
  refine x_getR X hf (ci := 5) (j := 3) rfl (by decide) rfl lf_Reader_25 d_Reader_keepSizes_22 25 rfl (fun o8 hf => ?_)
  refine x_iconst X (v := 0) d_Reader_keepSizes_25 (by decide) 26 rfl ?_
  refine x_iald X hf d_Reader_keepSizes_26 27 rfl (fun v9 hf => ?_)
  refine x_sipush X (v := 200) d_Reader_keepSizes_27 (by decide) 30 rfl ?_
  refine x_icmp_gt X hf d_Reader_keepSizes_30 111 33 (by decide) rfl (fun hf => ?_) (fun hf => ?_)
  · exact x_sub [1] rfl (t_Reader_keepSizes_111 X hret hf)
  · refine x_aload_n X (q := 1) d_Reader_keepSizes_33 rfl 34 rfl ?_
    refine x_getR X hf (ci := 5) (j := 3) rfl (by decide) rfl lf_Reader_25 d_Reader_keepSizes_34 37 rfl (fun o10 hf => ?_)
    refine x_iconst X (v := 1) d_Reader_keepSizes_37 (by decide) 38 rfl ?_
    refine x_iald X hf d_Reader_keepSizes_38 39 rfl (fun v11 hf => ?_)
    refine x_iconst X (v := 5) d_Reader_keepSizes_39 (by decide) 40 rfl ?_
    refine x_icmp_gt X hf d_Reader_keepSizes_40 111 43 (by decide) rfl (fun hf => ?_) (fun hf => ?_)
    · exact x_sub [1] rfl (t_Reader_keepSizes_111 X hret hf)
    · refine x_aload_n X (q := 1) d_Reader_keepSizes_43 rfl 44 rfl ?_
      refine x_getR X hf (ci := 5) (j := 3) rfl (by decide) rfl lf_Reader_25 d_Reader_keepSizes_44 47 rfl (fun o12 hf => ?_)
      refine x_iconst X (v := 2) d_Reader_keepSizes_47 (by decide) 48 rfl ?_
      refine x_iald X hf d_Reader_keepSizes_48 49 rfl (fun v13 hf => ?_)
      refine x_bipush X (v := 6) d_Reader_keepSizes_49 (by decide) 51 rfl ?_
      refine x_icmp_gt X hf d_Reader_keepSizes_51 111 54 (by decide) rfl (fun hf => ?_) (fun hf => ?_)
      · exact x_sub [1] rfl (t_Reader_keepSizes_111 X hret hf)
      · refine x_aload_n X (q := 1) d_Reader_keepSizes_54 rfl 55 rfl ?_
        refine x_getR X hf (ci := 5) (j := 3) rfl (by decide) rfl lf_Reader_25 d_Reader_keepSizes_55 58 rfl (fun o14 hf => ?_)
        refine x_iconst X (v := 3) d_Reader_keepSizes_58 (by decide) 59 rfl ?_
        refine x_iald X hf d_Reader_keepSizes_59 60 rfl (fun v15 hf => ?_)
        refine x_bipush X (v := 8) d_Reader_keepSizes_60 (by decide) 62 rfl ?_
        refine x_icmp_gt X hf d_Reader_keepSizes_62 111 65 (by decide) rfl (fun hf => ?_) (fun hf => ?_)
        · exact x_sub [1] rfl (t_Reader_keepSizes_111 X hret hf)
        · refine x_aload_n X (q := 1) d_Reader_keepSizes_65 rfl 66 rfl ?_
          refine x_getR X hf (ci := 5) (j := 3) rfl (by decide) rfl lf_Reader_25 d_Reader_keepSizes_66 69 rfl (fun o16 hf => ?_)
          refine x_iconst X (v := 4) d_Reader_keepSizes_69 (by decide) 70 rfl ?_
          refine x_iald X hf d_Reader_keepSizes_70 71 rfl (fun v17 hf => ?_)
          refine x_sipush X (v := 150) d_Reader_keepSizes_71 (by decide) 74 rfl ?_
          refine x_icmp_gt X hf d_Reader_keepSizes_74 111 77 (by decide) rfl (fun hf => ?_) (fun hf => ?_)
          · exact x_sub [1] rfl (t_Reader_keepSizes_111 X hret hf)
          · refine x_aload_n X (q := 1) d_Reader_keepSizes_77 rfl 78 rfl ?_
            refine x_getI X hf (ci := 5) (j := 7) rfl (by decide) rfl lf_Reader_62 d_Reader_keepSizes_78 81 rfl (fun v18 hf => ?_)
            refine x_if_eq X hf d_Reader_keepSizes_81 97 84 (by decide) rfl (fun hf => ?_) (fun hf => ?_)
            · refine x_aload_n X (q := 1) d_Reader_keepSizes_97 rfl 98 rfl ?_
              refine x_getR X hf (ci := 5) (j := 3) rfl (by decide) rfl lf_Reader_25 d_Reader_keepSizes_98 101 rfl (fun o19 hf => ?_)
              refine x_iconst X (v := 0) d_Reader_keepSizes_101 (by decide) 102 rfl ?_
              refine x_iald X hf d_Reader_keepSizes_102 103 rfl (fun v20 hf => ?_)
              refine x_iload_n X (q := 0) d_Reader_keepSizes_103 rfl 104 rfl ?_
              refine x_icmp_lt X hf d_Reader_keepSizes_104 111 107 (by decide) rfl (fun hf => ?_) (fun hf => ?_)
              · exact x_sub [1] rfl (t_Reader_keepSizes_111 X hret hf)
              · exact x_sub [1] rfl (t_Reader_keepSizes_107 X hret hf)
            · refine x_aload_n X (q := 1) d_Reader_keepSizes_84 rfl 85 rfl ?_
              refine x_getR X hf (ci := 5) (j := 3) rfl (by decide) rfl lf_Reader_25 d_Reader_keepSizes_85 88 rfl (fun o21 hf => ?_)
              refine x_iconst X (v := 0) d_Reader_keepSizes_88 (by decide) 89 rfl ?_
              refine x_iald X hf d_Reader_keepSizes_89 90 rfl (fun v22 hf => ?_)
              refine x_iload_n X (q := 0) d_Reader_keepSizes_90 rfl 91 rfl ?_
              refine x_icmp_ne X hf d_Reader_keepSizes_91 111 94 (by decide) rfl (fun hf => ?_) (fun hf => ?_)
              · exact x_sub [1] rfl (t_Reader_keepSizes_111 X hret hf)
              · refine x_goto X d_Reader_keepSizes_94 107 (by decide) ?_
                exact x_sub [1] rfl (t_Reader_keepSizes_107 X hret hf)

set_option maxRecDepth 100000 in
def wp_Reader_defineInOrder_108_b (z : Nat → Nat) (Q : Int32 → xh → Prop)  (k108 : Nat × Int32 × Int32 × xh → Prop) (a0 : Nat) (x2 : Int32) (x3 : Int32) (hp : xh) : Prop :=
  ∃ o1, fR hp a0 5 2 = some o1 ∧ (∃ v2, fI hp o1 0 5 = some v2 ∧ ((v2 ≤ x3 → Q 1 hp) ∧ (¬ v2 ≤ x3 → (∃ o3, fR hp a0 5 2 = some o3 ∧ (∃ o4, fR hp o3 0 6 = some o4 ∧ (∃ h5, sI hp o4 1 (x2 + x3) (vp_nar .byte 3) = some h5 ∧ (∃ o6, fR h5 a0 5 1 = some o6 ∧ (∃ o7, fR h5 o6 6 0 = some o7 ∧ (∃ h8, sI h5 o7 0 x3 (x2 + x3) = some h8 ∧ (k108 (a0, x2, (x3 + 1), h8)))))))))))
set_option maxRecDepth 100000 in
def wp_Reader_defineInOrder_108 (z : Nat → Nat) (Q : Int32 → xh → Prop)  (a0 : Nat) (x2 : Int32) (x3 : Int32) (hp : xh) : Prop := ∃ f : Nat, xloop (fun k108 a => wp_Reader_defineInOrder_108_b z Q  k108 a.1 a.2.1 a.2.2.1 a.2.2.2) f (a0, x2, x3, hp)
set_option maxRecDepth 100000 in
set_option maxHeartbeats 4000000 in
theorem t_Reader_defineInOrder_108 {p : Program} {l : Launch} {e : Env} {s : State} {m : MethodId} {args : Array Value} {below : List Frame} {meth : Method} {c : Code} {G : xG} {z : Nat → Nat} {A : Nat → Prop} {Qw : State → Prop} {Q : Int32 → xh → Prop} {a0 : Nat} {x2 : Int32} {x3 : Int32} {hp : xh} (X : xX p l e rm_Reader_defineInOrder s m args below meth c G z A y_Reader_defineInOrder b_Reader_defineInOrder 4) (hret : xRet p l e rm_Reader_defineInOrder s m args below meth c G A 4 Qw b_Reader_defineInOrder (some .boolean) (xqz Q))  (hf : wp_Reader_defineInOrder_108 z Q  a0 x2 x3 hp) : xE p l e rm_Reader_defineInOrder s m args below meth c G A 4 Qw 0 0 hp 108 [(0, .ref a0), (2, .int x2), (3, .int x3)] [] := by
  obtain ⟨f, hf⟩ := hf
  refine xloop_ind (F := fun k108 a => wp_Reader_defineInOrder_108_b z Q  k108 a.1 a.2.1 a.2.2.1 a.2.2.2) (E := fun a => xE p l e rm_Reader_defineInOrder s m args below meth c G A 4 Qw 0 0 a.2.2.2 108 [(0, .ref (a.1)), (2, .int (a.2.1)), (3, .int (a.2.2.1))] []) ?_ f (a0, x2, x3, hp) hf
  intro k108 hk a hf
  obtain ⟨a0, x2, x3, hp⟩ := a
  have hk108 : ∀ (a0 : Nat) (x2 : Int32) (x3 : Int32) (hp : xh), k108 (a0, x2, x3, hp) → xE p l e rm_Reader_defineInOrder s m args below meth c G A 4 Qw 0 0 hp 108 [(0, .ref a0), (2, .int x2), (3, .int x3)] [] := fun a0 x2 x3 hp h => hk (a0, x2, x3, hp) h
  have hf : wp_Reader_defineInOrder_108_b z Q  k108 a0 x2 x3 hp := hf
  unfold wp_Reader_defineInOrder_108_b at hf
  refine x_iload_n X (q := 2) d_Reader_defineInOrder_108 rfl 109 rfl ?_
  refine x_aload_n X (q := 0) d_Reader_defineInOrder_109 rfl 110 rfl ?_
  refine x_getR X hf (ci := 5) (j := 2) rfl (by decide) rfl lf_Reader_21 d_Reader_defineInOrder_110 113 rfl (fun o1 hf => ?_)
  refine x_getI X hf (ci := 0) (j := 5) rfl (by decide) rfl lf_Reader_133 d_Reader_defineInOrder_113 116 rfl (fun v2 hf => ?_)
  refine x_icmp_ge X hf d_Reader_defineInOrder_116 149 119 (by decide) rfl (fun hf => ?_) (fun hf => ?_)
  · refine x_iconst X (v := 1) d_Reader_defineInOrder_149 (by decide) 150 rfl ?_
    exact hret _ _ _ _ _ (some (.int 1)) (Nat.le_refl 0) (Nat.le_refl 0) ⟨_, rfl, (Or.inr rfl), hf⟩ ⟨⟨_, rfl, xbl_nar (Or.inr rfl)⟩, d_Reader_defineInOrder_150⟩
  · refine x_aload_n X (q := 0) d_Reader_defineInOrder_119 rfl 120 rfl ?_
    refine x_getR X hf (ci := 5) (j := 2) rfl (by decide) rfl lf_Reader_21 d_Reader_defineInOrder_120 123 rfl (fun o3 hf => ?_)
    refine x_getR X hf (ci := 0) (j := 6) rfl (by decide) rfl lf_Reader_139 d_Reader_defineInOrder_123 126 rfl (fun o4 hf => ?_)
    refine x_iload_n X (q := 1) d_Reader_defineInOrder_126 rfl 127 rfl ?_
    refine x_iload_n X (q := 2) d_Reader_defineInOrder_127 rfl 128 rfl ?_
    refine x_iadd X d_Reader_defineInOrder_128 129 rfl ?_
    refine x_iconst X (v := 3) d_Reader_defineInOrder_129 (by decide) 130 rfl ?_
    refine x_bast X hf d_Reader_defineInOrder_130 131 rfl (fun h5 hf => ?_)
    refine x_aload_n X (q := 0) d_Reader_defineInOrder_131 rfl 132 rfl ?_
    refine x_getR X hf (ci := 5) (j := 1) rfl (by decide) rfl lf_Reader_12 d_Reader_defineInOrder_132 135 rfl (fun o6 hf => ?_)
    refine x_getR X hf (ci := 6) (j := 0) rfl (by decide) rfl lf_Reader_149 d_Reader_defineInOrder_135 138 rfl (fun o7 hf => ?_)
    refine x_iload_n X (q := 2) d_Reader_defineInOrder_138 rfl 139 rfl ?_
    refine x_iload_n X (q := 1) d_Reader_defineInOrder_139 rfl 140 rfl ?_
    refine x_iload_n X (q := 2) d_Reader_defineInOrder_140 rfl 141 rfl ?_
    refine x_iadd X d_Reader_defineInOrder_141 142 rfl ?_
    refine x_iast X hf d_Reader_defineInOrder_142 143 rfl (fun h8 hf => ?_)
    refine x_iinc X (q := 2) (v := (x3 + 1)) (lv' := [(3, .int (x3 + 1)), (0, .ref a0), (2, .int x2)]) d_Reader_defineInOrder_143 rfl (by rfl) (by decide) rfl 146 rfl ?_
    refine x_goto X d_Reader_defineInOrder_146 108 (by decide) ?_
    exact x_sub [1, 2, 0] rfl (hk108 _ _ _ _ hf)
set_option maxRecDepth 100000 in
def wp_Reader_defineInOrder_65_b (z : Nat → Nat) (Q : Int32 → xh → Prop)  (k65 : Nat × Int32 × Int32 × Int32 × xh → Prop) (a0 : Nat) (x1 : Int32) (x2 : Int32) (x3 : Int32) (hp : xh) : Prop :=
  ∃ o1, fR hp a0 5 2 = some o1 ∧ (∃ v2, fI hp o1 0 3 = some v2 ∧ ((v2 ≤ x3 → wp_Reader_defineInOrder_108 z Q a0 x2 0 hp) ∧ (¬ v2 ≤ x3 → (∃ o3, fR hp a0 5 2 = some o3 ∧ (∃ o4, fR hp o3 0 6 = some o4 ∧ (∃ h5, sI hp o4 1 (x1 + x3) (vp_nar .byte 2) = some h5 ∧ (∃ o6, fR h5 a0 5 2 = some o6 ∧ (∃ o7, fR h5 o6 0 10 = some o7 ∧ (∃ h8, sI h5 o7 0 x3 (x1 + x3) = some h8 ∧ (k65 (a0, x1, x2, (x3 + 1), h8)))))))))))
set_option maxRecDepth 100000 in
def wp_Reader_defineInOrder_65 (z : Nat → Nat) (Q : Int32 → xh → Prop)  (a0 : Nat) (x1 : Int32) (x2 : Int32) (x3 : Int32) (hp : xh) : Prop := ∃ f : Nat, xloop (fun k65 a => wp_Reader_defineInOrder_65_b z Q  k65 a.1 a.2.1 a.2.2.1 a.2.2.2.1 a.2.2.2.2) f (a0, x1, x2, x3, hp)
set_option maxRecDepth 100000 in
set_option maxHeartbeats 4000000 in
theorem t_Reader_defineInOrder_65 {p : Program} {l : Launch} {e : Env} {s : State} {m : MethodId} {args : Array Value} {below : List Frame} {meth : Method} {c : Code} {G : xG} {z : Nat → Nat} {A : Nat → Prop} {Qw : State → Prop} {Q : Int32 → xh → Prop} {a0 : Nat} {x1 : Int32} {x2 : Int32} {x3 : Int32} {hp : xh} (X : xX p l e rm_Reader_defineInOrder s m args below meth c G z A y_Reader_defineInOrder b_Reader_defineInOrder 4) (hret : xRet p l e rm_Reader_defineInOrder s m args below meth c G A 4 Qw b_Reader_defineInOrder (some .boolean) (xqz Q))  (hf : wp_Reader_defineInOrder_65 z Q  a0 x1 x2 x3 hp) : xE p l e rm_Reader_defineInOrder s m args below meth c G A 4 Qw 0 0 hp 65 [(0, .ref a0), (1, .int x1), (2, .int x2), (3, .int x3)] [] := by
  obtain ⟨f, hf⟩ := hf
  refine xloop_ind (F := fun k65 a => wp_Reader_defineInOrder_65_b z Q  k65 a.1 a.2.1 a.2.2.1 a.2.2.2.1 a.2.2.2.2) (E := fun a => xE p l e rm_Reader_defineInOrder s m args below meth c G A 4 Qw 0 0 a.2.2.2.2 65 [(0, .ref (a.1)), (1, .int (a.2.1)), (2, .int (a.2.2.1)), (3, .int (a.2.2.2.1))] []) ?_ f (a0, x1, x2, x3, hp) hf
  intro k65 hk a hf
  obtain ⟨a0, x1, x2, x3, hp⟩ := a
  have hk65 : ∀ (a0 : Nat) (x1 : Int32) (x2 : Int32) (x3 : Int32) (hp : xh), k65 (a0, x1, x2, x3, hp) → xE p l e rm_Reader_defineInOrder s m args below meth c G A 4 Qw 0 0 hp 65 [(0, .ref a0), (1, .int x1), (2, .int x2), (3, .int x3)] [] := fun a0 x1 x2 x3 hp h => hk (a0, x1, x2, x3, hp) h
  have hf : wp_Reader_defineInOrder_65_b z Q  k65 a0 x1 x2 x3 hp := hf
  unfold wp_Reader_defineInOrder_65_b at hf
  refine x_iload_n X (q := 3) d_Reader_defineInOrder_65 rfl 66 rfl ?_
  refine x_aload_n X (q := 0) d_Reader_defineInOrder_66 rfl 67 rfl ?_
  refine x_getR X hf (ci := 5) (j := 2) rfl (by decide) rfl lf_Reader_21 d_Reader_defineInOrder_67 70 rfl (fun o1 hf => ?_)
  refine x_getI X hf (ci := 0) (j := 3) rfl (by decide) rfl lf_Reader_127 d_Reader_defineInOrder_70 73 rfl (fun v2 hf => ?_)
  refine x_icmp_ge X hf d_Reader_defineInOrder_73 106 76 (by decide) rfl (fun hf => ?_) (fun hf => ?_)
  · refine x_iconst X (v := 0) d_Reader_defineInOrder_106 (by decide) 107 rfl ?_
    refine x_istore_n X (lv' := [(3, .int 0), (0, .ref a0), (1, .int x1), (2, .int x2)]) d_Reader_defineInOrder_107 rfl (by decide) rfl 108 rfl ?_
    exact x_sub [1, 3, 0] rfl (t_Reader_defineInOrder_108 X hret hf)
  · refine x_aload_n X (q := 0) d_Reader_defineInOrder_76 rfl 77 rfl ?_
    refine x_getR X hf (ci := 5) (j := 2) rfl (by decide) rfl lf_Reader_21 d_Reader_defineInOrder_77 80 rfl (fun o3 hf => ?_)
    refine x_getR X hf (ci := 0) (j := 6) rfl (by decide) rfl lf_Reader_139 d_Reader_defineInOrder_80 83 rfl (fun o4 hf => ?_)
    refine x_iload_n X (q := 1) d_Reader_defineInOrder_83 rfl 84 rfl ?_
    refine x_iload_n X (q := 3) d_Reader_defineInOrder_84 rfl 85 rfl ?_
    refine x_iadd X d_Reader_defineInOrder_85 86 rfl ?_
    refine x_iconst X (v := 2) d_Reader_defineInOrder_86 (by decide) 87 rfl ?_
    refine x_bast X hf d_Reader_defineInOrder_87 88 rfl (fun h5 hf => ?_)
    refine x_aload_n X (q := 0) d_Reader_defineInOrder_88 rfl 89 rfl ?_
    refine x_getR X hf (ci := 5) (j := 2) rfl (by decide) rfl lf_Reader_21 d_Reader_defineInOrder_89 92 rfl (fun o6 hf => ?_)
    refine x_getR X hf (ci := 0) (j := 10) rfl (by decide) rfl lf_Reader_146 d_Reader_defineInOrder_92 95 rfl (fun o7 hf => ?_)
    refine x_iload_n X (q := 3) d_Reader_defineInOrder_95 rfl 96 rfl ?_
    refine x_iload_n X (q := 1) d_Reader_defineInOrder_96 rfl 97 rfl ?_
    refine x_iload_n X (q := 3) d_Reader_defineInOrder_97 rfl 98 rfl ?_
    refine x_iadd X d_Reader_defineInOrder_98 99 rfl ?_
    refine x_iast X hf d_Reader_defineInOrder_99 100 rfl (fun h8 hf => ?_)
    refine x_iinc X (q := 3) (v := (x3 + 1)) (lv' := [(3, .int (x3 + 1)), (0, .ref a0), (1, .int x1), (2, .int x2)]) d_Reader_defineInOrder_100 rfl (by rfl) (by decide) rfl 103 rfl ?_
    refine x_goto X d_Reader_defineInOrder_103 65 (by decide) ?_
    exact x_sub [1, 2, 3, 0] rfl (hk65 _ _ _ _ _ hf)
set_option maxRecDepth 100000 in
def wp_Reader_defineInOrder_22_b (z : Nat → Nat) (Q : Int32 → xh → Prop)  (k22 : Nat × Int32 × Int32 × Int32 × xh → Prop) (a0 : Nat) (x1 : Int32) (x2 : Int32) (x3 : Int32) (hp : xh) : Prop :=
  ∃ o1, fR hp a0 5 2 = some o1 ∧ (∃ v2, fI hp o1 0 2 = some v2 ∧ ((v2 ≤ x3 → wp_Reader_defineInOrder_65 z Q a0 x1 x2 0 hp) ∧ (¬ v2 ≤ x3 → (∃ o3, fR hp a0 5 2 = some o3 ∧ (∃ o4, fR hp o3 0 6 = some o4 ∧ (∃ h5, sI hp o4 1 (1 + x3) (vp_nar .byte 1) = some h5 ∧ (∃ o6, fR h5 a0 5 2 = some o6 ∧ (∃ o7, fR h5 o6 0 9 = some o7 ∧ (∃ h8, sI h5 o7 0 x3 (1 + x3) = some h8 ∧ (k22 (a0, x1, x2, (x3 + 1), h8)))))))))))
set_option maxRecDepth 100000 in
def wp_Reader_defineInOrder_22 (z : Nat → Nat) (Q : Int32 → xh → Prop)  (a0 : Nat) (x1 : Int32) (x2 : Int32) (x3 : Int32) (hp : xh) : Prop := ∃ f : Nat, xloop (fun k22 a => wp_Reader_defineInOrder_22_b z Q  k22 a.1 a.2.1 a.2.2.1 a.2.2.2.1 a.2.2.2.2) f (a0, x1, x2, x3, hp)
set_option maxRecDepth 100000 in
set_option maxHeartbeats 4000000 in
theorem t_Reader_defineInOrder_22 {p : Program} {l : Launch} {e : Env} {s : State} {m : MethodId} {args : Array Value} {below : List Frame} {meth : Method} {c : Code} {G : xG} {z : Nat → Nat} {A : Nat → Prop} {Qw : State → Prop} {Q : Int32 → xh → Prop} {a0 : Nat} {x1 : Int32} {x2 : Int32} {x3 : Int32} {hp : xh} (X : xX p l e rm_Reader_defineInOrder s m args below meth c G z A y_Reader_defineInOrder b_Reader_defineInOrder 4) (hret : xRet p l e rm_Reader_defineInOrder s m args below meth c G A 4 Qw b_Reader_defineInOrder (some .boolean) (xqz Q))  (hf : wp_Reader_defineInOrder_22 z Q  a0 x1 x2 x3 hp) : xE p l e rm_Reader_defineInOrder s m args below meth c G A 4 Qw 0 0 hp 22 [(0, .ref a0), (1, .int x1), (2, .int x2), (3, .int x3)] [] := by
  obtain ⟨f, hf⟩ := hf
  refine xloop_ind (F := fun k22 a => wp_Reader_defineInOrder_22_b z Q  k22 a.1 a.2.1 a.2.2.1 a.2.2.2.1 a.2.2.2.2) (E := fun a => xE p l e rm_Reader_defineInOrder s m args below meth c G A 4 Qw 0 0 a.2.2.2.2 22 [(0, .ref (a.1)), (1, .int (a.2.1)), (2, .int (a.2.2.1)), (3, .int (a.2.2.2.1))] []) ?_ f (a0, x1, x2, x3, hp) hf
  intro k22 hk a hf
  obtain ⟨a0, x1, x2, x3, hp⟩ := a
  have hk22 : ∀ (a0 : Nat) (x1 : Int32) (x2 : Int32) (x3 : Int32) (hp : xh), k22 (a0, x1, x2, x3, hp) → xE p l e rm_Reader_defineInOrder s m args below meth c G A 4 Qw 0 0 hp 22 [(0, .ref a0), (1, .int x1), (2, .int x2), (3, .int x3)] [] := fun a0 x1 x2 x3 hp h => hk (a0, x1, x2, x3, hp) h
  have hf : wp_Reader_defineInOrder_22_b z Q  k22 a0 x1 x2 x3 hp := hf
  unfold wp_Reader_defineInOrder_22_b at hf
  refine x_iload_n X (q := 3) d_Reader_defineInOrder_22 rfl 23 rfl ?_
  refine x_aload_n X (q := 0) d_Reader_defineInOrder_23 rfl 24 rfl ?_
  refine x_getR X hf (ci := 5) (j := 2) rfl (by decide) rfl lf_Reader_21 d_Reader_defineInOrder_24 27 rfl (fun o1 hf => ?_)
  refine x_getI X hf (ci := 0) (j := 2) rfl (by decide) rfl lf_Reader_124 d_Reader_defineInOrder_27 30 rfl (fun v2 hf => ?_)
  refine x_icmp_ge X hf d_Reader_defineInOrder_30 63 33 (by decide) rfl (fun hf => ?_) (fun hf => ?_)
  · refine x_iconst X (v := 0) d_Reader_defineInOrder_63 (by decide) 64 rfl ?_
    refine x_istore_n X (lv' := [(3, .int 0), (0, .ref a0), (1, .int x1), (2, .int x2)]) d_Reader_defineInOrder_64 rfl (by decide) rfl 65 rfl ?_
    exact x_sub [1, 2, 3, 0] rfl (t_Reader_defineInOrder_65 X hret hf)
  · refine x_aload_n X (q := 0) d_Reader_defineInOrder_33 rfl 34 rfl ?_
    refine x_getR X hf (ci := 5) (j := 2) rfl (by decide) rfl lf_Reader_21 d_Reader_defineInOrder_34 37 rfl (fun o3 hf => ?_)
    refine x_getR X hf (ci := 0) (j := 6) rfl (by decide) rfl lf_Reader_139 d_Reader_defineInOrder_37 40 rfl (fun o4 hf => ?_)
    refine x_iconst X (v := 1) d_Reader_defineInOrder_40 (by decide) 41 rfl ?_
    refine x_iload_n X (q := 3) d_Reader_defineInOrder_41 rfl 42 rfl ?_
    refine x_iadd X d_Reader_defineInOrder_42 43 rfl ?_
    refine x_iconst X (v := 1) d_Reader_defineInOrder_43 (by decide) 44 rfl ?_
    refine x_bast X hf d_Reader_defineInOrder_44 45 rfl (fun h5 hf => ?_)
    refine x_aload_n X (q := 0) d_Reader_defineInOrder_45 rfl 46 rfl ?_
    refine x_getR X hf (ci := 5) (j := 2) rfl (by decide) rfl lf_Reader_21 d_Reader_defineInOrder_46 49 rfl (fun o6 hf => ?_)
    refine x_getR X hf (ci := 0) (j := 9) rfl (by decide) rfl lf_Reader_143 d_Reader_defineInOrder_49 52 rfl (fun o7 hf => ?_)
    refine x_iload_n X (q := 3) d_Reader_defineInOrder_52 rfl 53 rfl ?_
    refine x_iconst X (v := 1) d_Reader_defineInOrder_53 (by decide) 54 rfl ?_
    refine x_iload_n X (q := 3) d_Reader_defineInOrder_54 rfl 55 rfl ?_
    refine x_iadd X d_Reader_defineInOrder_55 56 rfl ?_
    refine x_iast X hf d_Reader_defineInOrder_56 57 rfl (fun h8 hf => ?_)
    refine x_iinc X (q := 3) (v := (x3 + 1)) (lv' := [(3, .int (x3 + 1)), (0, .ref a0), (1, .int x1), (2, .int x2)]) d_Reader_defineInOrder_57 rfl (by rfl) (by decide) rfl 60 rfl ?_
    refine x_goto X d_Reader_defineInOrder_60 22 (by decide) ?_
    exact x_sub [1, 2, 3, 0] rfl (hk22 _ _ _ _ _ hf)
set_option maxRecDepth 100000 in
def wp_Reader_defineInOrder (z : Nat → Nat) (Q : Int32 → xh → Prop) (a0 : Nat) (hp : xh) : Prop :=
  ∃ o1, fR hp a0 5 2 = some o1 ∧ (∃ v2, fI hp o1 0 2 = some v2 ∧ (∀ v3, v3 = (1 + v2) → ∃ o4, fR hp a0 5 2 = some o4 ∧ (∃ v5, fI hp o4 0 3 = some v5 ∧ (∀ v6, v6 = (v3 + v5) → wp_Reader_defineInOrder_22 z Q a0 v3 v6 0 hp))))
set_option maxRecDepth 100000 in
set_option maxHeartbeats 4000000 in
theorem t_Reader_defineInOrder {l : Launch} {G : xG} {z : Nat → Nat} {Q : Int32 → xh → Prop} {a0 : Nat} {hp : xh} (hf : wp_Reader_defineInOrder z Q a0 hp) : xM l G z y_Reader_defineInOrder b_Reader_defineInOrder 4 (some .boolean) rm_Reader_defineInOrder [.ref a0] hp (xqz Q) := by
  refine xM_of (by decide) (Nat.le_of_ble_eq_true rfl) (lv0 := [(0, .ref a0)]) rfl ?_
  intro p e s m args below meth c A Qw X hret
  unfold wp_Reader_defineInOrder at hf
  refine x_iconst X (v := 1) d_Reader_defineInOrder_0 (by decide) 1 rfl ?_
  refine x_aload_n X (q := 0) d_Reader_defineInOrder_1 rfl 2 rfl ?_
  refine x_getR X hf (ci := 5) (j := 2) rfl (by decide) rfl lf_Reader_21 d_Reader_defineInOrder_2 5 rfl (fun o1 hf => ?_)
  refine x_getI X hf (ci := 0) (j := 2) rfl (by decide) rfl lf_Reader_124 d_Reader_defineInOrder_5 8 rfl (fun v2 hf => ?_)
  refine x_iadd X d_Reader_defineInOrder_8 9 rfl ?_
  refine x_istoreN_n X hf d_Reader_defineInOrder_9 rfl (by decide) (lw := fun v3 => [(1, .int v3), (0, .ref a0)]) (fun _ => rfl) 10 rfl (fun v3 hf => ?_)
  refine x_iload_n X (q := 0) d_Reader_defineInOrder_10 rfl 11 rfl ?_
  refine x_aload_n X (q := 1) d_Reader_defineInOrder_11 rfl 12 rfl ?_
  refine x_getR X hf (ci := 5) (j := 2) rfl (by decide) rfl lf_Reader_21 d_Reader_defineInOrder_12 15 rfl (fun o4 hf => ?_)
  refine x_getI X hf (ci := 0) (j := 3) rfl (by decide) rfl lf_Reader_127 d_Reader_defineInOrder_15 18 rfl (fun v5 hf => ?_)
  refine x_iadd X d_Reader_defineInOrder_18 19 rfl ?_
  refine x_istoreN_n X hf d_Reader_defineInOrder_19 rfl (by decide) (lw := fun v6 => [(2, .int v6), (1, .int v3), (0, .ref a0)]) (fun _ => rfl) 20 rfl (fun v6 hf => ?_)
  refine x_iconst X (v := 0) d_Reader_defineInOrder_20 (by decide) 21 rfl ?_
  refine x_istore_n X (lv' := [(3, .int 0), (2, .int v6), (1, .int v3), (0, .ref a0)]) d_Reader_defineInOrder_21 rfl (by decide) rfl 22 rfl ?_
  exact x_sub [3, 2, 1, 0] rfl (t_Reader_defineInOrder_22 X hret hf)

set_option maxRecDepth 100000 in
def wp_Reader_isInRange_30 (z : Nat → Nat) (Q : Int32 → xh → Prop)   (hp : xh) : Prop :=
  Q 1 hp
set_option maxRecDepth 100000 in
set_option maxHeartbeats 4000000 in
theorem t_Reader_isInRange_30 {p : Program} {l : Launch} {e : Env} {s : State} {m : MethodId} {args : Array Value} {below : List Frame} {meth : Method} {c : Code} {G : xG} {z : Nat → Nat} {A : Nat → Prop} {Qw : State → Prop} {Q : Int32 → xh → Prop}  {hp : xh} (X : xX p l e rm_Reader_isInRange s m args below meth c G z A y_Reader_isInRange b_Reader_isInRange 1) (hret : xRet p l e rm_Reader_isInRange s m args below meth c G A 1 Qw b_Reader_isInRange (some .boolean) (xqz Q))  (hf : wp_Reader_isInRange_30 z Q  hp) : xE p l e rm_Reader_isInRange s m args below meth c G A 1 Qw 0 0 hp 30 [] [] := by
  unfold wp_Reader_isInRange_30 at hf
  refine x_iconst X (v := 1) d_Reader_isInRange_30 (by decide) 31 rfl ?_
  refine x_goto X d_Reader_isInRange_31 35 (by decide) ?_
  exact hret _ _ _ _ _ (some (.int 1)) (Nat.le_refl 0) (Nat.le_refl 0) ⟨_, rfl, (Or.inr rfl), hf⟩ ⟨⟨_, rfl, xbl_nar (Or.inr rfl)⟩, d_Reader_isInRange_35⟩
set_option maxRecDepth 100000 in
def wp_Reader_isInRange (z : Nat → Nat) (Q : Int32 → xh → Prop) (a0 : Nat) (hp : xh) : Prop :=
  ∃ v1, fI hp a0 5 9 = some v1 ∧ (∃ o2, fR hp a0 5 2 = some o2 ∧ (∃ v3, fI hp o2 0 1 = some v3 ∧ ((v1 ≤ ((2 * v3) + 1) → wp_Reader_isInRange_30 z Q hp) ∧ (¬ v1 ≤ ((2 * v3) + 1) → (∃ v4, fI hp a0 5 10 = some v4 ∧ (xcls hp a0 5 ∧ wp_Reader_fail z (fun v6 h5 => (v6 = 0 → Q 0 h5) ∧ (¬ v6 = 0 → wp_Reader_isInRange_30 z Q h5)) a0 3 v4 hp))))))
set_option maxRecDepth 100000 in
set_option maxHeartbeats 4000000 in
theorem t_Reader_isInRange {l : Launch} {G : xG} {z : Nat → Nat} {Q : Int32 → xh → Prop} {a0 : Nat} {hp : xh} (hf : wp_Reader_isInRange z Q a0 hp) : xM l G z y_Reader_isInRange b_Reader_isInRange 1 (some .boolean) rm_Reader_isInRange [.ref a0] hp (xqz Q) := by
  refine xM_of (by decide) (Nat.le_of_ble_eq_true rfl) (lv0 := [(0, .ref a0)]) rfl ?_
  intro p e s m args below meth c A Qw X hret
  unfold wp_Reader_isInRange at hf
  refine x_aload_n X (q := 0) d_Reader_isInRange_0 rfl 1 rfl ?_
  refine x_getI X hf (ci := 5) (j := 9) rfl (by decide) rfl lf_Reader_108 d_Reader_isInRange_1 4 rfl (fun v1 hf => ?_)
  refine x_iconst X (v := 2) d_Reader_isInRange_4 (by decide) 5 rfl ?_
  refine x_aload_n X (q := 0) d_Reader_isInRange_5 rfl 6 rfl ?_
  refine x_getR X hf (ci := 5) (j := 2) rfl (by decide) rfl lf_Reader_21 d_Reader_isInRange_6 9 rfl (fun o2 hf => ?_)
  refine x_getI X hf (ci := 0) (j := 1) rfl (by decide) rfl lf_Reader_121 d_Reader_isInRange_9 12 rfl (fun v3 hf => ?_)
  refine x_imul X d_Reader_isInRange_12 13 rfl ?_
  refine x_iconst X (v := 1) d_Reader_isInRange_13 (by decide) 14 rfl ?_
  refine x_iadd X d_Reader_isInRange_14 15 rfl ?_
  refine x_icmp_le X hf d_Reader_isInRange_15 30 18 (by decide) rfl (fun hf => ?_) (fun hf => ?_)
  · exact x_sub [] rfl (t_Reader_isInRange_30 X hret hf)
  · refine x_aload_n X (q := 0) d_Reader_isInRange_18 rfl 19 rfl ?_
    refine x_iconst X (v := 3) d_Reader_isInRange_19 (by decide) 20 rfl ?_
    refine x_aload_n X (q := 0) d_Reader_isInRange_20 rfl 21 rfl ?_
    refine x_getI X hf (ci := 5) (j := 10) rfl (by decide) rfl lf_Reader_105 d_Reader_isInRange_21 24 rfl (fun v4 hf => ?_)
    refine x_callV0z X (t_Reader_fail hf.2) hf.1 (ci := 5) rfl rfl lm_Reader_101 im_Reader_fail sl_Reader_fail cd_Reader_fail in_Reader ds_Reader_fail rfl rfl (Nat.le_of_ble_eq_true rfl) (Nat.le_of_ble_eq_true rfl) (Nat.le_of_ble_eq_true rfl) rfl rfl (Nat.le_refl 0) (Nat.le_refl 0) d_Reader_isInRange_24 27 rfl (fun v6 h5 hb7 hf => ?_)
    refine x_if_eq X hf d_Reader_isInRange_27 34 30 (by decide) rfl (fun hf => ?_) (fun hf => ?_)
    · refine x_iconst X (v := 0) d_Reader_isInRange_34 (by decide) 35 rfl ?_
      exact hret _ _ _ _ _ (some (.int 0)) (Nat.le_refl 0) (Nat.le_refl 0) ⟨_, rfl, (Or.inl rfl), hf⟩ ⟨⟨_, rfl, xbl_nar (Or.inl rfl)⟩, d_Reader_isInRange_35⟩
    · exact x_sub [] rfl (t_Reader_isInRange_30 X hret hf)

set_option maxRecDepth 100000 in
def wp_Reader_readDefinition_51 (z : Nat → Nat) (Q : Int32 → xh → Prop)  (a0 : Nat) (hp : xh) : Prop :=
  ∃ v1, fI hp a0 5 10 = some v1 ∧ (xcls hp a0 5 ∧ wp_Reader_fail z (fun v3 h2 => Q v3 h2) a0 4 v1 hp)
set_option maxRecDepth 100000 in
set_option maxHeartbeats 4000000 in
theorem t_Reader_readDefinition_51 {p : Program} {l : Launch} {e : Env} {s : State} {m : MethodId} {args : Array Value} {below : List Frame} {meth : Method} {c : Code} {G : xG} {z : Nat → Nat} {A : Nat → Prop} {Qw : State → Prop} {Q : Int32 → xh → Prop} {a0 : Nat} {hp : xh} (X : xX p l e rm_Reader_readDefinition s m args below meth c G z A y_Reader_readDefinition b_Reader_readDefinition 2) (hret : xRet p l e rm_Reader_readDefinition s m args below meth c G A 2 Qw b_Reader_readDefinition (some .boolean) (xqz Q))  (hf : wp_Reader_readDefinition_51 z Q  a0 hp) : xE p l e rm_Reader_readDefinition s m args below meth c G A 2 Qw 0 0 hp 51 [(0, .ref a0)] [] := by
  unfold wp_Reader_readDefinition_51 at hf
  refine x_aload_n X (q := 0) d_Reader_readDefinition_51 rfl 52 rfl ?_
  refine x_iconst X (v := 4) d_Reader_readDefinition_52 (by decide) 53 rfl ?_
  refine x_aload_n X (q := 0) d_Reader_readDefinition_53 rfl 54 rfl ?_
  refine x_getI X hf (ci := 5) (j := 10) rfl (by decide) rfl lf_Reader_105 d_Reader_readDefinition_54 57 rfl (fun v1 hf => ?_)
  refine x_callV0z X (t_Reader_fail hf.2) hf.1 (ci := 5) rfl rfl lm_Reader_101 im_Reader_fail sl_Reader_fail cd_Reader_fail in_Reader ds_Reader_fail rfl rfl (Nat.le_of_ble_eq_true rfl) (Nat.le_of_ble_eq_true rfl) (Nat.le_of_ble_eq_true rfl) rfl rfl (Nat.le_refl 0) (Nat.le_refl 0) d_Reader_readDefinition_57 60 rfl (fun v3 h2 hb4 hf => ?_)
  exact hret _ _ _ _ _ (some (.int v3)) (Nat.le_refl 0) (Nat.le_refl 0) ⟨_, rfl, hb4, hf⟩ ⟨⟨_, rfl, xbl_nar hb4⟩, d_Reader_readDefinition_60⟩
set_option maxRecDepth 100000 in
def wp_Reader_readDefinition (z : Nat → Nat) (Q : Int32 → xh → Prop) (a0 : Nat) (x1 : Int32) (hp : xh) : Prop :=
  xcls hp a0 5 ∧ wp_Reader_readNumber z (fun v2 h1 => (v2 = 0 → Q 0 h1) ∧ (¬ v2 = 0 → (xcls h1 a0 5 ∧ wp_Reader_isInRange z (fun v5 h4 => (¬ v5 = 0 → (∃ v7, fI h4 a0 5 9 = some v7 ∧ ((v7 < 2 → wp_Reader_readDefinition_51 z Q a0 h4) ∧ (¬ v7 < 2 → (∃ v8, fI h4 a0 5 9 = some v8 ∧ (((v8 &&& 1) = 1 → wp_Reader_readDefinition_51 z Q a0 h4) ∧ (¬ (v8 &&& 1) = 1 → (∃ o9, fR h4 a0 5 2 = some o9 ∧ (∃ o10, fR h4 o9 0 6 = some o10 ∧ (∃ v11, fI h4 a0 5 9 = some v11 ∧ (∃ v12, aI h4 o10 1 (v11 >>> ((1 : Int32) &&& 31)) = some v12 ∧ ((v12 = 0 → (∃ o13, fR h4 a0 5 2 = some o13 ∧ (∃ o14, fR h4 o13 0 6 = some o14 ∧ (∃ v15, fI h4 a0 5 9 = some v15 ∧ (∃ h16, sI h4 o14 1 (v15 >>> ((1 : Int32) &&& 31)) (vp_nar .byte (x1.toInt8.toInt32)) = some h16 ∧ Q 1 h16))))) ∧ (¬ v12 = 0 → wp_Reader_readDefinition_51 z Q a0 h4))))))))))))) ∧ (v5 = 0 → Q 0 h4)) a0 h1))) a0 hp
set_option maxRecDepth 100000 in
set_option maxHeartbeats 4000000 in
theorem t_Reader_readDefinition {l : Launch} {G : xG} {z : Nat → Nat} {Q : Int32 → xh → Prop} {a0 : Nat} {x1 : Int32} {hp : xh} (hf : wp_Reader_readDefinition z Q a0 x1 hp) : xM l G z y_Reader_readDefinition b_Reader_readDefinition 2 (some .boolean) rm_Reader_readDefinition [.ref a0, .int x1] hp (xqz Q) := by
  refine xM_of (by decide) (Nat.le_of_ble_eq_true rfl) (lv0 := [(0, .ref a0), (1, .int x1)]) rfl ?_
  intro p e s m args below meth c A Qw X hret
  unfold wp_Reader_readDefinition at hf
  refine x_aload_n X (q := 0) d_Reader_readDefinition_0 rfl 1 rfl ?_
  refine x_callV0z X (t_Reader_readNumber hf.2) hf.1 (ci := 5) rfl rfl lm_Reader_118 im_Reader_readNumber sl_Reader_readNumber cd_Reader_readNumber in_Reader ds_Reader_readNumber rfl rfl (Nat.le_of_ble_eq_true rfl) (Nat.le_of_ble_eq_true rfl) (Nat.le_of_ble_eq_true rfl) rfl rfl (Nat.le_refl 0) (Nat.le_refl 0) d_Reader_readDefinition_1 4 rfl (fun v2 h1 hb3 hf => ?_)
  refine x_if_eq X hf d_Reader_readDefinition_4 14 7 (by decide) rfl (fun hf => ?_) (fun hf => ?_)
  · refine x_iconst X (v := 0) d_Reader_readDefinition_14 (by decide) 15 rfl ?_
    exact hret _ _ _ _ _ (some (.int 0)) (Nat.le_refl 0) (Nat.le_refl 0) ⟨_, rfl, (Or.inl rfl), hf⟩ ⟨⟨_, rfl, xbl_nar (Or.inl rfl)⟩, d_Reader_readDefinition_15⟩
  · refine x_aload_n X (q := 0) d_Reader_readDefinition_7 rfl 8 rfl ?_
    refine x_callV0z X (t_Reader_isInRange hf.2) hf.1 (ci := 5) rfl rfl lm_Reader_136 im_Reader_isInRange sl_Reader_isInRange cd_Reader_isInRange in_Reader ds_Reader_isInRange rfl rfl (Nat.le_of_ble_eq_true rfl) (Nat.le_of_ble_eq_true rfl) (Nat.le_of_ble_eq_true rfl) rfl rfl (Nat.le_refl 0) (Nat.le_refl 0) d_Reader_readDefinition_8 11 rfl (fun v5 h4 hb6 hf => ?_)
    refine x_if_ne X hf d_Reader_readDefinition_11 16 14 (by decide) rfl (fun hf => ?_) (fun hf => ?_)
    · refine x_aload_n X (q := 0) d_Reader_readDefinition_16 rfl 17 rfl ?_
      refine x_getI X hf (ci := 5) (j := 9) rfl (by decide) rfl lf_Reader_108 d_Reader_readDefinition_17 20 rfl (fun v7 hf => ?_)
      refine x_iconst X (v := 2) d_Reader_readDefinition_20 (by decide) 21 rfl ?_
      refine x_icmp_lt X hf d_Reader_readDefinition_21 51 24 (by decide) rfl (fun hf => ?_) (fun hf => ?_)
      · exact x_sub [0] rfl (t_Reader_readDefinition_51 X hret hf)
      · refine x_aload_n X (q := 0) d_Reader_readDefinition_24 rfl 25 rfl ?_
        refine x_getI X hf (ci := 5) (j := 9) rfl (by decide) rfl lf_Reader_108 d_Reader_readDefinition_25 28 rfl (fun v8 hf => ?_)
        refine x_iconst X (v := 1) d_Reader_readDefinition_28 (by decide) 29 rfl ?_
        refine x_iand X d_Reader_readDefinition_29 30 rfl ?_
        refine x_iconst X (v := 1) d_Reader_readDefinition_30 (by decide) 31 rfl ?_
        refine x_icmp_eq X hf d_Reader_readDefinition_31 51 34 (by decide) rfl (fun hf => ?_) (fun hf => ?_)
        · exact x_sub [0] rfl (t_Reader_readDefinition_51 X hret hf)
        · refine x_aload_n X (q := 0) d_Reader_readDefinition_34 rfl 35 rfl ?_
          refine x_getR X hf (ci := 5) (j := 2) rfl (by decide) rfl lf_Reader_21 d_Reader_readDefinition_35 38 rfl (fun o9 hf => ?_)
          refine x_getR X hf (ci := 0) (j := 6) rfl (by decide) rfl lf_Reader_139 d_Reader_readDefinition_38 41 rfl (fun o10 hf => ?_)
          refine x_aload_n X (q := 0) d_Reader_readDefinition_41 rfl 42 rfl ?_
          refine x_getI X hf (ci := 5) (j := 9) rfl (by decide) rfl lf_Reader_108 d_Reader_readDefinition_42 45 rfl (fun v11 hf => ?_)
          refine x_iconst X (v := 1) d_Reader_readDefinition_45 (by decide) 46 rfl ?_
          refine x_ishr X d_Reader_readDefinition_46 47 rfl ?_
          refine x_bald X hf d_Reader_readDefinition_47 48 rfl (fun v12 hf => ?_)
          refine x_if_eq X hf d_Reader_readDefinition_48 61 51 (by decide) rfl (fun hf => ?_) (fun hf => ?_)
          · refine x_aload_n X (q := 0) d_Reader_readDefinition_61 rfl 62 rfl ?_
            refine x_getR X hf (ci := 5) (j := 2) rfl (by decide) rfl lf_Reader_21 d_Reader_readDefinition_62 65 rfl (fun o13 hf => ?_)
            refine x_getR X hf (ci := 0) (j := 6) rfl (by decide) rfl lf_Reader_139 d_Reader_readDefinition_65 68 rfl (fun o14 hf => ?_)
            refine x_aload_n X (q := 0) d_Reader_readDefinition_68 rfl 69 rfl ?_
            refine x_getI X hf (ci := 5) (j := 9) rfl (by decide) rfl lf_Reader_108 d_Reader_readDefinition_69 72 rfl (fun v15 hf => ?_)
            refine x_iconst X (v := 1) d_Reader_readDefinition_72 (by decide) 73 rfl ?_
            refine x_ishr X d_Reader_readDefinition_73 74 rfl ?_
            refine x_iload_n X (q := 1) d_Reader_readDefinition_74 rfl 75 rfl ?_
            refine x_i2b X d_Reader_readDefinition_75 76 rfl ?_
            refine x_bast X hf d_Reader_readDefinition_76 77 rfl (fun h16 hf => ?_)
            refine x_iconst X (v := 1) d_Reader_readDefinition_77 (by decide) 78 rfl ?_
            exact hret _ _ _ _ _ (some (.int 1)) (Nat.le_refl 0) (Nat.le_refl 0) ⟨_, rfl, (Or.inr rfl), hf⟩ ⟨⟨_, rfl, xbl_nar (Or.inr rfl)⟩, d_Reader_readDefinition_78⟩
          · exact x_sub [0] rfl (t_Reader_readDefinition_51 X hret hf)
    · refine x_iconst X (v := 0) d_Reader_readDefinition_14 (by decide) 15 rfl ?_
      exact hret _ _ _ _ _ (some (.int 0)) (Nat.le_refl 0) (Nat.le_refl 0) ⟨_, rfl, (Or.inl rfl), hf⟩ ⟨⟨_, rfl, xbl_nar (Or.inl rfl)⟩, d_Reader_readDefinition_15⟩

set_option maxRecDepth 100000 in
def wp_Reader_readInputs_2_b (z : Nat → Nat) (Q : Int32 → xh → Prop)  (k2 : Nat × Int32 × xh → Prop) (a0 : Nat) (x1 : Int32) (hp : xh) : Prop :=
  ∃ o1, fR hp a0 5 2 = some o1 ∧ (∃ v2, fI hp o1 0 2 = some v2 ∧ ((v2 ≤ x1 → Q 1 hp) ∧ (¬ v2 ≤ x1 → (xcls hp a0 5 ∧ wp_Reader_readDefinition z (fun v4 h3 => (¬ v4 = 0 → (∃ o6, fR h3 a0 5 2 = some o6 ∧ (∃ o7, fR h3 o6 0 9 = some o7 ∧ (∃ v8, fI h3 a0 5 9 = some v8 ∧ (∃ h9, sI h3 o7 0 x1 (v8 >>> ((1 : Int32) &&& 31)) = some h9 ∧ (xcls h9 a0 5 ∧ wp_Reader_pass z (fun v11 h10 => (¬ v11 = 0 → (k2 (a0, (x1 + 1), h10))) ∧ (v11 = 0 → Q 0 h10)) a0 10 h9)))))) ∧ (v4 = 0 → Q 0 h3)) a0 1 hp))))
set_option maxRecDepth 100000 in
def wp_Reader_readInputs_2 (z : Nat → Nat) (Q : Int32 → xh → Prop)  (a0 : Nat) (x1 : Int32) (hp : xh) : Prop := ∃ f : Nat, xloop (fun k2 a => wp_Reader_readInputs_2_b z Q  k2 a.1 a.2.1 a.2.2) f (a0, x1, hp)
set_option maxRecDepth 100000 in
set_option maxHeartbeats 4000000 in
theorem t_Reader_readInputs_2 {p : Program} {l : Launch} {e : Env} {s : State} {m : MethodId} {args : Array Value} {below : List Frame} {meth : Method} {c : Code} {G : xG} {z : Nat → Nat} {A : Nat → Prop} {Qw : State → Prop} {Q : Int32 → xh → Prop} {a0 : Nat} {x1 : Int32} {hp : xh} (X : xX p l e rm_Reader_readInputs s m args below meth c G z A y_Reader_readInputs b_Reader_readInputs 2) (hret : xRet p l e rm_Reader_readInputs s m args below meth c G A 2 Qw b_Reader_readInputs (some .boolean) (xqz Q))  (hf : wp_Reader_readInputs_2 z Q  a0 x1 hp) : xE p l e rm_Reader_readInputs s m args below meth c G A 2 Qw 0 0 hp 2 [(0, .ref a0), (1, .int x1)] [] := by
  obtain ⟨f, hf⟩ := hf
  refine xloop_ind (F := fun k2 a => wp_Reader_readInputs_2_b z Q  k2 a.1 a.2.1 a.2.2) (E := fun a => xE p l e rm_Reader_readInputs s m args below meth c G A 2 Qw 0 0 a.2.2 2 [(0, .ref (a.1)), (1, .int (a.2.1))] []) ?_ f (a0, x1, hp) hf
  intro k2 hk a hf
  obtain ⟨a0, x1, hp⟩ := a
  have hk2 : ∀ (a0 : Nat) (x1 : Int32) (hp : xh), k2 (a0, x1, hp) → xE p l e rm_Reader_readInputs s m args below meth c G A 2 Qw 0 0 hp 2 [(0, .ref a0), (1, .int x1)] [] := fun a0 x1 hp h => hk (a0, x1, hp) h
  have hf : wp_Reader_readInputs_2_b z Q  k2 a0 x1 hp := hf
  unfold wp_Reader_readInputs_2_b at hf
  refine x_iload_n X (q := 1) d_Reader_readInputs_2 rfl 3 rfl ?_
  refine x_aload_n X (q := 0) d_Reader_readInputs_3 rfl 4 rfl ?_
  refine x_getR X hf (ci := 5) (j := 2) rfl (by decide) rfl lf_Reader_21 d_Reader_readInputs_4 7 rfl (fun o1 hf => ?_)
  refine x_getI X hf (ci := 0) (j := 2) rfl (by decide) rfl lf_Reader_124 d_Reader_readInputs_7 10 rfl (fun v2 hf => ?_)
  refine x_icmp_ge X hf d_Reader_readInputs_10 55 13 (by decide) rfl (fun hf => ?_) (fun hf => ?_)
  · refine x_iconst X (v := 1) d_Reader_readInputs_55 (by decide) 56 rfl ?_
    exact hret _ _ _ _ _ (some (.int 1)) (Nat.le_refl 0) (Nat.le_refl 0) ⟨_, rfl, (Or.inr rfl), hf⟩ ⟨⟨_, rfl, xbl_nar (Or.inr rfl)⟩, d_Reader_readInputs_56⟩
  · refine x_aload_n X (q := 0) d_Reader_readInputs_13 rfl 14 rfl ?_
    refine x_iconst X (v := 1) d_Reader_readInputs_14 (by decide) 15 rfl ?_
    refine x_callV0z X (t_Reader_readDefinition hf.2) hf.1 (ci := 5) rfl rfl lm_Reader_152 im_Reader_readDefinition sl_Reader_readDefinition cd_Reader_readDefinition in_Reader ds_Reader_readDefinition rfl rfl (Nat.le_of_ble_eq_true rfl) (Nat.le_of_ble_eq_true rfl) (Nat.le_of_ble_eq_true rfl) rfl rfl (Nat.le_refl 0) (Nat.le_refl 0) d_Reader_readInputs_15 18 rfl (fun v4 h3 hb5 hf => ?_)
    refine x_if_ne X hf d_Reader_readInputs_18 23 21 (by decide) rfl (fun hf => ?_) (fun hf => ?_)
    · refine x_aload_n X (q := 0) d_Reader_readInputs_23 rfl 24 rfl ?_
      refine x_getR X hf (ci := 5) (j := 2) rfl (by decide) rfl lf_Reader_21 d_Reader_readInputs_24 27 rfl (fun o6 hf => ?_)
      refine x_getR X hf (ci := 0) (j := 9) rfl (by decide) rfl lf_Reader_143 d_Reader_readInputs_27 30 rfl (fun o7 hf => ?_)
      refine x_iload_n X (q := 1) d_Reader_readInputs_30 rfl 31 rfl ?_
      refine x_aload_n X (q := 0) d_Reader_readInputs_31 rfl 32 rfl ?_
      refine x_getI X hf (ci := 5) (j := 9) rfl (by decide) rfl lf_Reader_108 d_Reader_readInputs_32 35 rfl (fun v8 hf => ?_)
      refine x_iconst X (v := 1) d_Reader_readInputs_35 (by decide) 36 rfl ?_
      refine x_ishr X d_Reader_readInputs_36 37 rfl ?_
      refine x_iast X hf d_Reader_readInputs_37 38 rfl (fun h9 hf => ?_)
      refine x_aload_n X (q := 0) d_Reader_readInputs_38 rfl 39 rfl ?_
      refine x_bipush X (v := 10) d_Reader_readInputs_39 (by decide) 41 rfl ?_
      refine x_callV0z X (t_Reader_pass hf.2) hf.1 (ci := 5) rfl rfl lm_Reader_115 im_Reader_pass sl_Reader_pass cd_Reader_pass in_Reader ds_Reader_pass rfl rfl (Nat.le_of_ble_eq_true rfl) (Nat.le_of_ble_eq_true rfl) (Nat.le_of_ble_eq_true rfl) rfl rfl (Nat.le_refl 0) (Nat.le_refl 0) d_Reader_readInputs_41 44 rfl (fun v11 h10 hb12 hf => ?_)
      refine x_if_ne X hf d_Reader_readInputs_44 49 47 (by decide) rfl (fun hf => ?_) (fun hf => ?_)
      · refine x_iinc X (q := 1) (v := (x1 + 1)) (lv' := [(1, .int (x1 + 1)), (0, .ref a0)]) d_Reader_readInputs_49 rfl (by rfl) (by decide) rfl 52 rfl ?_
        refine x_goto X d_Reader_readInputs_52 2 (by decide) ?_
        exact x_sub [1, 0] rfl (hk2 _ _ _ hf)
      · refine x_iconst X (v := 0) d_Reader_readInputs_47 (by decide) 48 rfl ?_
        exact hret _ _ _ _ _ (some (.int 0)) (Nat.le_refl 0) (Nat.le_refl 0) ⟨_, rfl, (Or.inl rfl), hf⟩ ⟨⟨_, rfl, xbl_nar (Or.inl rfl)⟩, d_Reader_readInputs_48⟩
    · refine x_iconst X (v := 0) d_Reader_readInputs_21 (by decide) 22 rfl ?_
      exact hret _ _ _ _ _ (some (.int 0)) (Nat.le_refl 0) (Nat.le_refl 0) ⟨_, rfl, (Or.inl rfl), hf⟩ ⟨⟨_, rfl, xbl_nar (Or.inl rfl)⟩, d_Reader_readInputs_22⟩
set_option maxRecDepth 100000 in
def wp_Reader_readInputs (z : Nat → Nat) (Q : Int32 → xh → Prop) (a0 : Nat) (hp : xh) : Prop :=
  wp_Reader_readInputs_2 z Q a0 0 hp
set_option maxRecDepth 100000 in
set_option maxHeartbeats 4000000 in
theorem t_Reader_readInputs {l : Launch} {G : xG} {z : Nat → Nat} {Q : Int32 → xh → Prop} {a0 : Nat} {hp : xh} (hf : wp_Reader_readInputs z Q a0 hp) : xM l G z y_Reader_readInputs b_Reader_readInputs 2 (some .boolean) rm_Reader_readInputs [.ref a0] hp (xqz Q) := by
  refine xM_of (by decide) (Nat.le_of_ble_eq_true rfl) (lv0 := [(0, .ref a0)]) rfl ?_
  intro p e s m args below meth c A Qw X hret
  unfold wp_Reader_readInputs at hf
  refine x_iconst X (v := 0) d_Reader_readInputs_0 (by decide) 1 rfl ?_
  refine x_istore_n X (lv' := [(1, .int 0), (0, .ref a0)]) d_Reader_readInputs_1 rfl (by decide) rfl 2 rfl ?_
  exact x_sub [1, 0] rfl (t_Reader_readInputs_2 X hret hf)

set_option maxRecDepth 100000 in
def wp_Reader_readLatchVariable (z : Nat → Nat) (Q : Int32 → xh → Prop) (a0 : Nat) (x1 : Int32) (hp : xh) : Prop :=
  xcls hp a0 5 ∧ wp_Reader_readDefinition z (fun v2 h1 => (¬ v2 = 0 → (∃ o4, fR h1 a0 5 2 = some o4 ∧ (∃ o5, fR h1 o4 0 10 = some o5 ∧ (∃ v6, fI h1 a0 5 9 = some v6 ∧ (∃ h7, sI h1 o5 0 x1 (v6 >>> ((1 : Int32) &&& 31)) = some h7 ∧ (xcls h7 a0 5 ∧ wp_Reader_pass z (fun v9 h8 => Q v9 h8) a0 32 h7)))))) ∧ (v2 = 0 → Q 0 h1)) a0 2 hp
set_option maxRecDepth 100000 in
set_option maxHeartbeats 4000000 in
theorem t_Reader_readLatchVariable {l : Launch} {G : xG} {z : Nat → Nat} {Q : Int32 → xh → Prop} {a0 : Nat} {x1 : Int32} {hp : xh} (hf : wp_Reader_readLatchVariable z Q a0 x1 hp) : xM l G z y_Reader_readLatchVariable b_Reader_readLatchVariable 2 (some .boolean) rm_Reader_readLatchVariable [.ref a0, .int x1] hp (xqz Q) := by
  refine xM_of (by decide) (Nat.le_of_ble_eq_true rfl) (lv0 := [(0, .ref a0), (1, .int x1)]) rfl ?_
  intro p e s m args below meth c A Qw X hret
  unfold wp_Reader_readLatchVariable at hf
  refine x_aload_n X (q := 0) d_Reader_readLatchVariable_0 rfl 1 rfl ?_
  refine x_iconst X (v := 2) d_Reader_readLatchVariable_1 (by decide) 2 rfl ?_
  refine x_callV0z X (t_Reader_readDefinition hf.2) hf.1 (ci := 5) rfl rfl lm_Reader_152 im_Reader_readDefinition sl_Reader_readDefinition cd_Reader_readDefinition in_Reader ds_Reader_readDefinition rfl rfl (Nat.le_of_ble_eq_true rfl) (Nat.le_of_ble_eq_true rfl) (Nat.le_of_ble_eq_true rfl) rfl rfl (Nat.le_refl 0) (Nat.le_refl 0) d_Reader_readLatchVariable_2 5 rfl (fun v2 h1 hb3 hf => ?_)
  refine x_if_ne X hf d_Reader_readLatchVariable_5 10 8 (by decide) rfl (fun hf => ?_) (fun hf => ?_)
  · refine x_aload_n X (q := 0) d_Reader_readLatchVariable_10 rfl 11 rfl ?_
    refine x_getR X hf (ci := 5) (j := 2) rfl (by decide) rfl lf_Reader_21 d_Reader_readLatchVariable_11 14 rfl (fun o4 hf => ?_)
    refine x_getR X hf (ci := 0) (j := 10) rfl (by decide) rfl lf_Reader_146 d_Reader_readLatchVariable_14 17 rfl (fun o5 hf => ?_)
    refine x_iload_n X (q := 1) d_Reader_readLatchVariable_17 rfl 18 rfl ?_
    refine x_aload_n X (q := 0) d_Reader_readLatchVariable_18 rfl 19 rfl ?_
    refine x_getI X hf (ci := 5) (j := 9) rfl (by decide) rfl lf_Reader_108 d_Reader_readLatchVariable_19 22 rfl (fun v6 hf => ?_)
    refine x_iconst X (v := 1) d_Reader_readLatchVariable_22 (by decide) 23 rfl ?_
    refine x_ishr X d_Reader_readLatchVariable_23 24 rfl ?_
    refine x_iast X hf d_Reader_readLatchVariable_24 25 rfl (fun h7 hf => ?_)
    refine x_aload_n X (q := 0) d_Reader_readLatchVariable_25 rfl 26 rfl ?_
    refine x_bipush X (v := 32) d_Reader_readLatchVariable_26 (by decide) 28 rfl ?_
    refine x_callV0z X (t_Reader_pass hf.2) hf.1 (ci := 5) rfl rfl lm_Reader_115 im_Reader_pass sl_Reader_pass cd_Reader_pass in_Reader ds_Reader_pass rfl rfl (Nat.le_of_ble_eq_true rfl) (Nat.le_of_ble_eq_true rfl) (Nat.le_of_ble_eq_true rfl) rfl rfl (Nat.le_refl 0) (Nat.le_refl 0) d_Reader_readLatchVariable_28 31 rfl (fun v9 h8 hb10 hf => ?_)
    exact hret _ _ _ _ _ (some (.int v9)) (Nat.le_refl 0) (Nat.le_refl 0) ⟨_, rfl, hb10, hf⟩ ⟨⟨_, rfl, xbl_nar hb10⟩, d_Reader_readLatchVariable_31⟩
  · refine x_iconst X (v := 0) d_Reader_readLatchVariable_8 (by decide) 9 rfl ?_
    exact hret _ _ _ _ _ (some (.int 0)) (Nat.le_refl 0) (Nat.le_refl 0) ⟨_, rfl, (Or.inl rfl), hf⟩ ⟨⟨_, rfl, xbl_nar (Or.inl rfl)⟩, d_Reader_readLatchVariable_9⟩

set_option maxRecDepth 100000 in
def wp_Reader_readUse (z : Nat → Nat) (Q : Int32 → xh → Prop) (a0 : Nat) (hp : xh) : Prop :=
  xcls hp a0 5 ∧ wp_Reader_readNumber z (fun v2 h1 => (v2 = 0 → Q 0 h1) ∧ (¬ v2 = 0 → (xcls h1 a0 5 ∧ wp_Reader_isInRange z (fun v5 h4 => (¬ v5 = 0 → (∃ o7, fR h4 a0 5 4 = some o7 ∧ (∃ v8, fI h4 a0 5 6 = some v8 ∧ (∃ v9, fI h4 a0 5 9 = some v9 ∧ (∃ h10, sI h4 o7 0 v8 v9 = some h10 ∧ (∃ o11, fR h10 a0 5 5 = some o11 ∧ (∃ v12, fI h10 a0 5 6 = some v12 ∧ (∃ v13, fI h10 a0 5 10 = some v13 ∧ (∃ h14, sI h10 o11 0 v12 v13 = some h14 ∧ (∃ v15, fI h14 a0 5 6 = some v15 ∧ (∃ h16, pV h14 a0 5 6 (.int (v15 + 1)) = some h16 ∧ Q 1 h16))))))))))) ∧ (v5 = 0 → Q 0 h4)) a0 h1))) a0 hp
set_option maxRecDepth 100000 in
set_option maxHeartbeats 4000000 in
theorem t_Reader_readUse {l : Launch} {G : xG} {z : Nat → Nat} {Q : Int32 → xh → Prop} {a0 : Nat} {hp : xh} (hf : wp_Reader_readUse z Q a0 hp) : xM l G z y_Reader_readUse b_Reader_readUse 1 (some .boolean) rm_Reader_readUse [.ref a0] hp (xqz Q) := by
  refine xM_of (by decide) (Nat.le_of_ble_eq_true rfl) (lv0 := [(0, .ref a0)]) rfl ?_
  intro p e s m args below meth c A Qw X hret
  unfold wp_Reader_readUse at hf
  refine x_aload_n X (q := 0) d_Reader_readUse_0 rfl 1 rfl ?_
  refine x_callV0z X (t_Reader_readNumber hf.2) hf.1 (ci := 5) rfl rfl lm_Reader_118 im_Reader_readNumber sl_Reader_readNumber cd_Reader_readNumber in_Reader ds_Reader_readNumber rfl rfl (Nat.le_of_ble_eq_true rfl) (Nat.le_of_ble_eq_true rfl) (Nat.le_of_ble_eq_true rfl) rfl rfl (Nat.le_refl 0) (Nat.le_refl 0) d_Reader_readUse_1 4 rfl (fun v2 h1 hb3 hf => ?_)
  refine x_if_eq X hf d_Reader_readUse_4 14 7 (by decide) rfl (fun hf => ?_) (fun hf => ?_)
  · refine x_iconst X (v := 0) d_Reader_readUse_14 (by decide) 15 rfl ?_
    exact hret _ _ _ _ _ (some (.int 0)) (Nat.le_refl 0) (Nat.le_refl 0) ⟨_, rfl, (Or.inl rfl), hf⟩ ⟨⟨_, rfl, xbl_nar (Or.inl rfl)⟩, d_Reader_readUse_15⟩
  · refine x_aload_n X (q := 0) d_Reader_readUse_7 rfl 8 rfl ?_
    refine x_callV0z X (t_Reader_isInRange hf.2) hf.1 (ci := 5) rfl rfl lm_Reader_136 im_Reader_isInRange sl_Reader_isInRange cd_Reader_isInRange in_Reader ds_Reader_isInRange rfl rfl (Nat.le_of_ble_eq_true rfl) (Nat.le_of_ble_eq_true rfl) (Nat.le_of_ble_eq_true rfl) rfl rfl (Nat.le_refl 0) (Nat.le_refl 0) d_Reader_readUse_8 11 rfl (fun v5 h4 hb6 hf => ?_)
    refine x_if_ne X hf d_Reader_readUse_11 16 14 (by decide) rfl (fun hf => ?_) (fun hf => ?_)
    · refine x_aload_n X (q := 0) d_Reader_readUse_16 rfl 17 rfl ?_
      refine x_getR X hf (ci := 5) (j := 4) rfl (by decide) rfl lf_Reader_29 d_Reader_readUse_17 20 rfl (fun o7 hf => ?_)
      refine x_aload_n X (q := 0) d_Reader_readUse_20 rfl 21 rfl ?_
      refine x_getI X hf (ci := 5) (j := 6) rfl (by decide) rfl lf_Reader_49 d_Reader_readUse_21 24 rfl (fun v8 hf => ?_)
      refine x_aload_n X (q := 0) d_Reader_readUse_24 rfl 25 rfl ?_
      refine x_getI X hf (ci := 5) (j := 9) rfl (by decide) rfl lf_Reader_108 d_Reader_readUse_25 28 rfl (fun v9 hf => ?_)
      refine x_iast X hf d_Reader_readUse_28 29 rfl (fun h10 hf => ?_)
      refine x_aload_n X (q := 0) d_Reader_readUse_29 rfl 30 rfl ?_
      refine x_getR X hf (ci := 5) (j := 5) rfl (by decide) rfl lf_Reader_32 d_Reader_readUse_30 33 rfl (fun o11 hf => ?_)
      refine x_aload_n X (q := 0) d_Reader_readUse_33 rfl 34 rfl ?_
      refine x_getI X hf (ci := 5) (j := 6) rfl (by decide) rfl lf_Reader_49 d_Reader_readUse_34 37 rfl (fun v12 hf => ?_)
      refine x_aload_n X (q := 0) d_Reader_readUse_37 rfl 38 rfl ?_
      refine x_getI X hf (ci := 5) (j := 10) rfl (by decide) rfl lf_Reader_105 d_Reader_readUse_38 41 rfl (fun v13 hf => ?_)
      refine x_iast X hf d_Reader_readUse_41 42 rfl (fun h14 hf => ?_)
      refine x_aload_n X (q := 0) d_Reader_readUse_42 rfl 43 rfl ?_
      refine x_dup X rfl d_Reader_readUse_43 44 rfl ?_
      refine x_getI X hf (ci := 5) (j := 6) rfl (by decide) rfl lf_Reader_49 d_Reader_readUse_44 47 rfl (fun v15 hf => ?_)
      refine x_iconst X (v := 1) d_Reader_readUse_47 (by decide) 48 rfl ?_
      refine x_iadd X d_Reader_readUse_48 49 rfl ?_
      refine x_put X hf (ci := 5) (j := 6) (ty := .int) rfl (by decide) rfl lf_Reader_49 rfl (by decide +kernel) rfl rfl d_Reader_readUse_49 52 rfl (fun h16 hf => ?_)
      refine x_iconst X (v := 1) d_Reader_readUse_52 (by decide) 53 rfl ?_
      exact hret _ _ _ _ _ (some (.int 1)) (Nat.le_refl 0) (Nat.le_refl 0) ⟨_, rfl, (Or.inr rfl), hf⟩ ⟨⟨_, rfl, xbl_nar (Or.inr rfl)⟩, d_Reader_readUse_53⟩
    · refine x_iconst X (v := 0) d_Reader_readUse_14 (by decide) 15 rfl ?_
      exact hret _ _ _ _ _ (some (.int 0)) (Nat.le_refl 0) (Nat.le_refl 0) ⟨_, rfl, (Or.inl rfl), hf⟩ ⟨⟨_, rfl, xbl_nar (Or.inl rfl)⟩, d_Reader_readUse_15⟩

set_option maxRecDepth 100000 in
def wp_Reader_readNext (z : Nat → Nat) (Q : Int32 → xh → Prop) (a0 : Nat) (x1 : Int32) (hp : xh) : Prop :=
  xcls hp a0 5 ∧ wp_Reader_readUse z (fun v2 h1 => (¬ v2 = 0 → (∃ o4, fR h1 a0 5 2 = some o4 ∧ (∃ o5, fR h1 o4 0 11 = some o5 ∧ (∃ v6, fI h1 a0 5 9 = some v6 ∧ (∃ h7, sI h1 o5 0 x1 v6 = some h7 ∧ (xcls h7 a0 5 ∧ wp_Reader_pass z (fun v9 h8 => Q v9 h8) a0 10 h7)))))) ∧ (v2 = 0 → Q 0 h1)) a0 hp
set_option maxRecDepth 100000 in
set_option maxHeartbeats 4000000 in
theorem t_Reader_readNext {l : Launch} {G : xG} {z : Nat → Nat} {Q : Int32 → xh → Prop} {a0 : Nat} {x1 : Int32} {hp : xh} (hf : wp_Reader_readNext z Q a0 x1 hp) : xM l G z y_Reader_readNext b_Reader_readNext 2 (some .boolean) rm_Reader_readNext [.ref a0, .int x1] hp (xqz Q) := by
  refine xM_of (by decide) (Nat.le_of_ble_eq_true rfl) (lv0 := [(0, .ref a0), (1, .int x1)]) rfl ?_
  intro p e s m args below meth c A Qw X hret
  unfold wp_Reader_readNext at hf
  refine x_aload_n X (q := 0) d_Reader_readNext_0 rfl 1 rfl ?_
  refine x_callV0z X (t_Reader_readUse hf.2) hf.1 (ci := 5) rfl rfl lm_Reader_161 im_Reader_readUse sl_Reader_readUse cd_Reader_readUse in_Reader ds_Reader_readUse rfl rfl (Nat.le_of_ble_eq_true rfl) (Nat.le_of_ble_eq_true rfl) (Nat.le_of_ble_eq_true rfl) rfl rfl (Nat.le_refl 0) (Nat.le_refl 0) d_Reader_readNext_1 4 rfl (fun v2 h1 hb3 hf => ?_)
  refine x_if_ne X hf d_Reader_readNext_4 9 7 (by decide) rfl (fun hf => ?_) (fun hf => ?_)
  · refine x_aload_n X (q := 0) d_Reader_readNext_9 rfl 10 rfl ?_
    refine x_getR X hf (ci := 5) (j := 2) rfl (by decide) rfl lf_Reader_21 d_Reader_readNext_10 13 rfl (fun o4 hf => ?_)
    refine x_getR X hf (ci := 0) (j := 11) rfl (by decide) rfl lf_Reader_164 d_Reader_readNext_13 16 rfl (fun o5 hf => ?_)
    refine x_iload_n X (q := 1) d_Reader_readNext_16 rfl 17 rfl ?_
    refine x_aload_n X (q := 0) d_Reader_readNext_17 rfl 18 rfl ?_
    refine x_getI X hf (ci := 5) (j := 9) rfl (by decide) rfl lf_Reader_108 d_Reader_readNext_18 21 rfl (fun v6 hf => ?_)
    refine x_iast X hf d_Reader_readNext_21 22 rfl (fun h7 hf => ?_)
    refine x_aload_n X (q := 0) d_Reader_readNext_22 rfl 23 rfl ?_
    refine x_bipush X (v := 10) d_Reader_readNext_23 (by decide) 25 rfl ?_
    refine x_callV0z X (t_Reader_pass hf.2) hf.1 (ci := 5) rfl rfl lm_Reader_115 im_Reader_pass sl_Reader_pass cd_Reader_pass in_Reader ds_Reader_pass rfl rfl (Nat.le_of_ble_eq_true rfl) (Nat.le_of_ble_eq_true rfl) (Nat.le_of_ble_eq_true rfl) rfl rfl (Nat.le_refl 0) (Nat.le_refl 0) d_Reader_readNext_25 28 rfl (fun v9 h8 hb10 hf => ?_)
    exact hret _ _ _ _ _ (some (.int v9)) (Nat.le_refl 0) (Nat.le_refl 0) ⟨_, rfl, hb10, hf⟩ ⟨⟨_, rfl, xbl_nar hb10⟩, d_Reader_readNext_28⟩
  · refine x_iconst X (v := 0) d_Reader_readNext_7 (by decide) 8 rfl ?_
    exact hret _ _ _ _ _ (some (.int 0)) (Nat.le_refl 0) (Nat.le_refl 0) ⟨_, rfl, (Or.inl rfl), hf⟩ ⟨⟨_, rfl, xbl_nar (Or.inl rfl)⟩, d_Reader_readNext_8⟩

set_option maxRecDepth 100000 in
def wp_Reader_readLatches_28 (z : Nat → Nat) (Q : Int32 → xh → Prop) (k2 : Nat × Int32 × xh → Prop) (a0 : Nat) (x1 : Int32) (hp : xh) : Prop :=
  xcls hp a0 5 ∧ wp_Reader_readNext z (fun v2 h1 => (¬ v2 = 0 → (k2 (a0, (x1 + 1), h1))) ∧ (v2 = 0 → Q 0 h1)) a0 x1 hp
set_option maxRecDepth 100000 in
set_option maxHeartbeats 4000000 in
theorem t_Reader_readLatches_28 {p : Program} {l : Launch} {e : Env} {s : State} {m : MethodId} {args : Array Value} {below : List Frame} {meth : Method} {c : Code} {G : xG} {z : Nat → Nat} {A : Nat → Prop} {Qw : State → Prop} {Q : Int32 → xh → Prop} {k2 : Nat × Int32 × xh → Prop} {a0 : Nat} {x1 : Int32} {hp : xh} (X : xX p l e rm_Reader_readLatches s m args below meth c G z A y_Reader_readLatches b_Reader_readLatches 2) (hret : xRet p l e rm_Reader_readLatches s m args below meth c G A 2 Qw b_Reader_readLatches (some .boolean) (xqz Q)) (hk2 : ∀ (a0 : Nat) (x1 : Int32) (hp : xh), k2 (a0, x1, hp) → xE p l e rm_Reader_readLatches s m args below meth c G A 2 Qw 0 0 hp 2 [(0, .ref a0), (1, .int x1)] []) (hf : wp_Reader_readLatches_28 z Q k2 a0 x1 hp) : xE p l e rm_Reader_readLatches s m args below meth c G A 2 Qw 0 0 hp 28 [(0, .ref a0), (1, .int x1)] [] := by
  unfold wp_Reader_readLatches_28 at hf
  refine x_aload_n X (q := 0) d_Reader_readLatches_28 rfl 29 rfl ?_
  refine x_iload_n X (q := 1) d_Reader_readLatches_29 rfl 30 rfl ?_
  refine x_callV0z X (t_Reader_readNext hf.2) hf.1 (ci := 5) rfl rfl lm_Reader_158 im_Reader_readNext sl_Reader_readNext cd_Reader_readNext in_Reader ds_Reader_readNext rfl rfl (Nat.le_of_ble_eq_true rfl) (Nat.le_of_ble_eq_true rfl) (Nat.le_of_ble_eq_true rfl) rfl rfl (Nat.le_refl 0) (Nat.le_refl 0) d_Reader_readLatches_30 33 rfl (fun v2 h1 hb3 hf => ?_)
  refine x_if_ne X hf d_Reader_readLatches_33 38 36 (by decide) rfl (fun hf => ?_) (fun hf => ?_)
  · refine x_iinc X (q := 1) (v := (x1 + 1)) (lv' := [(1, .int (x1 + 1)), (0, .ref a0)]) d_Reader_readLatches_38 rfl (by rfl) (by decide) rfl 41 rfl ?_
    refine x_goto X d_Reader_readLatches_41 2 (by decide) ?_
    exact x_sub [1, 0] rfl (hk2 _ _ _ hf)
  · refine x_iconst X (v := 0) d_Reader_readLatches_36 (by decide) 37 rfl ?_
    exact hret _ _ _ _ _ (some (.int 0)) (Nat.le_refl 0) (Nat.le_refl 0) ⟨_, rfl, (Or.inl rfl), hf⟩ ⟨⟨_, rfl, xbl_nar (Or.inl rfl)⟩, d_Reader_readLatches_37⟩
set_option maxRecDepth 100000 in
def wp_Reader_readLatches_2_b (z : Nat → Nat) (Q : Int32 → xh → Prop)  (k2 : Nat × Int32 × xh → Prop) (a0 : Nat) (x1 : Int32) (hp : xh) : Prop :=
  ∃ o1, fR hp a0 5 2 = some o1 ∧ (∃ v2, fI hp o1 0 3 = some v2 ∧ ((v2 ≤ x1 → Q 1 hp) ∧ (¬ v2 ≤ x1 → (∃ v3, fI hp a0 5 7 = some v3 ∧ ((¬ v3 = 0 → wp_Reader_readLatches_28 z Q k2 a0 x1 hp) ∧ (v3 = 0 → (xcls hp a0 5 ∧ wp_Reader_readLatchVariable z (fun v5 h4 => (v5 = 0 → Q 0 h4) ∧ (¬ v5 = 0 → wp_Reader_readLatches_28 z Q k2 a0 x1 h4)) a0 x1 hp)))))))
set_option maxRecDepth 100000 in
def wp_Reader_readLatches_2 (z : Nat → Nat) (Q : Int32 → xh → Prop)  (a0 : Nat) (x1 : Int32) (hp : xh) : Prop := ∃ f : Nat, xloop (fun k2 a => wp_Reader_readLatches_2_b z Q  k2 a.1 a.2.1 a.2.2) f (a0, x1, hp)
set_option maxRecDepth 100000 in
set_option maxHeartbeats 4000000 in
theorem t_Reader_readLatches_2 {p : Program} {l : Launch} {e : Env} {s : State} {m : MethodId} {args : Array Value} {below : List Frame} {meth : Method} {c : Code} {G : xG} {z : Nat → Nat} {A : Nat → Prop} {Qw : State → Prop} {Q : Int32 → xh → Prop} {a0 : Nat} {x1 : Int32} {hp : xh} (X : xX p l e rm_Reader_readLatches s m args below meth c G z A y_Reader_readLatches b_Reader_readLatches 2) (hret : xRet p l e rm_Reader_readLatches s m args below meth c G A 2 Qw b_Reader_readLatches (some .boolean) (xqz Q))  (hf : wp_Reader_readLatches_2 z Q  a0 x1 hp) : xE p l e rm_Reader_readLatches s m args below meth c G A 2 Qw 0 0 hp 2 [(0, .ref a0), (1, .int x1)] [] := by
  obtain ⟨f, hf⟩ := hf
  refine xloop_ind (F := fun k2 a => wp_Reader_readLatches_2_b z Q  k2 a.1 a.2.1 a.2.2) (E := fun a => xE p l e rm_Reader_readLatches s m args below meth c G A 2 Qw 0 0 a.2.2 2 [(0, .ref (a.1)), (1, .int (a.2.1))] []) ?_ f (a0, x1, hp) hf
  intro k2 hk a hf
  obtain ⟨a0, x1, hp⟩ := a
  have hk2 : ∀ (a0 : Nat) (x1 : Int32) (hp : xh), k2 (a0, x1, hp) → xE p l e rm_Reader_readLatches s m args below meth c G A 2 Qw 0 0 hp 2 [(0, .ref a0), (1, .int x1)] [] := fun a0 x1 hp h => hk (a0, x1, hp) h
  have hf : wp_Reader_readLatches_2_b z Q  k2 a0 x1 hp := hf
  unfold wp_Reader_readLatches_2_b at hf
  refine x_iload_n X (q := 1) d_Reader_readLatches_2 rfl 3 rfl ?_
  refine x_aload_n X (q := 0) d_Reader_readLatches_3 rfl 4 rfl ?_
  refine x_getR X hf (ci := 5) (j := 2) rfl (by decide) rfl lf_Reader_21 d_Reader_readLatches_4 7 rfl (fun o1 hf => ?_)
  refine x_getI X hf (ci := 0) (j := 3) rfl (by decide) rfl lf_Reader_127 d_Reader_readLatches_7 10 rfl (fun v2 hf => ?_)
  refine x_icmp_ge X hf d_Reader_readLatches_10 44 13 (by decide) rfl (fun hf => ?_) (fun hf => ?_)
  · refine x_iconst X (v := 1) d_Reader_readLatches_44 (by decide) 45 rfl ?_
    exact hret _ _ _ _ _ (some (.int 1)) (Nat.le_refl 0) (Nat.le_refl 0) ⟨_, rfl, (Or.inr rfl), hf⟩ ⟨⟨_, rfl, xbl_nar (Or.inr rfl)⟩, d_Reader_readLatches_45⟩
  · refine x_aload_n X (q := 0) d_Reader_readLatches_13 rfl 14 rfl ?_
    refine x_getI X hf (ci := 5) (j := 7) rfl (by decide) rfl lf_Reader_62 d_Reader_readLatches_14 17 rfl (fun v3 hf => ?_)
    refine x_if_ne X hf d_Reader_readLatches_17 28 20 (by decide) rfl (fun hf => ?_) (fun hf => ?_)
    · exact x_sub [0, 1] rfl (t_Reader_readLatches_28 X hret hk2 hf)
    · refine x_aload_n X (q := 0) d_Reader_readLatches_20 rfl 21 rfl ?_
      refine x_iload_n X (q := 1) d_Reader_readLatches_21 rfl 22 rfl ?_
      refine x_callV0z X (t_Reader_readLatchVariable hf.2) hf.1 (ci := 5) rfl rfl lm_Reader_155 im_Reader_readLatchVariable sl_Reader_readLatchVariable cd_Reader_readLatchVariable in_Reader ds_Reader_readLatchVariable rfl rfl (Nat.le_of_ble_eq_true rfl) (Nat.le_of_ble_eq_true rfl) (Nat.le_of_ble_eq_true rfl) rfl rfl (Nat.le_refl 0) (Nat.le_refl 0) d_Reader_readLatches_22 25 rfl (fun v5 h4 hb6 hf => ?_)
      refine x_if_eq X hf d_Reader_readLatches_25 36 28 (by decide) rfl (fun hf => ?_) (fun hf => ?_)
      · refine x_iconst X (v := 0) d_Reader_readLatches_36 (by decide) 37 rfl ?_
        exact hret _ _ _ _ _ (some (.int 0)) (Nat.le_refl 0) (Nat.le_refl 0) ⟨_, rfl, (Or.inl rfl), hf⟩ ⟨⟨_, rfl, xbl_nar (Or.inl rfl)⟩, d_Reader_readLatches_37⟩
      · exact x_sub [0, 1] rfl (t_Reader_readLatches_28 X hret hk2 hf)
set_option maxRecDepth 100000 in
def wp_Reader_readLatches (z : Nat → Nat) (Q : Int32 → xh → Prop) (a0 : Nat) (hp : xh) : Prop :=
  wp_Reader_readLatches_2 z Q a0 0 hp
set_option maxRecDepth 100000 in
set_option maxHeartbeats 4000000 in
theorem t_Reader_readLatches {l : Launch} {G : xG} {z : Nat → Nat} {Q : Int32 → xh → Prop} {a0 : Nat} {hp : xh} (hf : wp_Reader_readLatches z Q a0 hp) : xM l G z y_Reader_readLatches b_Reader_readLatches 2 (some .boolean) rm_Reader_readLatches [.ref a0] hp (xqz Q) := by
  refine xM_of (by decide) (Nat.le_of_ble_eq_true rfl) (lv0 := [(0, .ref a0)]) rfl ?_
  intro p e s m args below meth c A Qw X hret
  unfold wp_Reader_readLatches at hf
  refine x_iconst X (v := 0) d_Reader_readLatches_0 (by decide) 1 rfl ?_
  refine x_istore_n X (lv' := [(1, .int 0), (0, .ref a0)]) d_Reader_readLatches_1 rfl (by decide) rfl 2 rfl ?_
  exact x_sub [1, 0] rfl (t_Reader_readLatches_2 X hret hf)

set_option maxRecDepth 100000 in
def wp_Reader_readOutputs_2_b (z : Nat → Nat) (Q : Int32 → xh → Prop)  (k2 : Nat × Int32 × xh → Prop) (a0 : Nat) (x1 : Int32) (hp : xh) : Prop :=
  ∃ o1, fR hp a0 5 2 = some o1 ∧ (∃ v2, fI hp o1 0 4 = some v2 ∧ ((v2 ≤ x1 → Q 1 hp) ∧ (¬ v2 ≤ x1 → (xcls hp a0 5 ∧ wp_Reader_readUse z (fun v4 h3 => (¬ v4 = 0 → (∃ o6, fR h3 a0 5 2 = some o6 ∧ (∃ o7, fR h3 o6 0 12 = some o7 ∧ (∃ v8, fI h3 a0 5 9 = some v8 ∧ (∃ h9, sI h3 o7 0 x1 v8 = some h9 ∧ (xcls h9 a0 5 ∧ wp_Reader_pass z (fun v11 h10 => (¬ v11 = 0 → (k2 (a0, (x1 + 1), h10))) ∧ (v11 = 0 → Q 0 h10)) a0 10 h9)))))) ∧ (v4 = 0 → Q 0 h3)) a0 hp))))
set_option maxRecDepth 100000 in
def wp_Reader_readOutputs_2 (z : Nat → Nat) (Q : Int32 → xh → Prop)  (a0 : Nat) (x1 : Int32) (hp : xh) : Prop := ∃ f : Nat, xloop (fun k2 a => wp_Reader_readOutputs_2_b z Q  k2 a.1 a.2.1 a.2.2) f (a0, x1, hp)
set_option maxRecDepth 100000 in
set_option maxHeartbeats 4000000 in
theorem t_Reader_readOutputs_2 {p : Program} {l : Launch} {e : Env} {s : State} {m : MethodId} {args : Array Value} {below : List Frame} {meth : Method} {c : Code} {G : xG} {z : Nat → Nat} {A : Nat → Prop} {Qw : State → Prop} {Q : Int32 → xh → Prop} {a0 : Nat} {x1 : Int32} {hp : xh} (X : xX p l e rm_Reader_readOutputs s m args below meth c G z A y_Reader_readOutputs b_Reader_readOutputs 2) (hret : xRet p l e rm_Reader_readOutputs s m args below meth c G A 2 Qw b_Reader_readOutputs (some .boolean) (xqz Q))  (hf : wp_Reader_readOutputs_2 z Q  a0 x1 hp) : xE p l e rm_Reader_readOutputs s m args below meth c G A 2 Qw 0 0 hp 2 [(0, .ref a0), (1, .int x1)] [] := by
  obtain ⟨f, hf⟩ := hf
  refine xloop_ind (F := fun k2 a => wp_Reader_readOutputs_2_b z Q  k2 a.1 a.2.1 a.2.2) (E := fun a => xE p l e rm_Reader_readOutputs s m args below meth c G A 2 Qw 0 0 a.2.2 2 [(0, .ref (a.1)), (1, .int (a.2.1))] []) ?_ f (a0, x1, hp) hf
  intro k2 hk a hf
  obtain ⟨a0, x1, hp⟩ := a
  have hk2 : ∀ (a0 : Nat) (x1 : Int32) (hp : xh), k2 (a0, x1, hp) → xE p l e rm_Reader_readOutputs s m args below meth c G A 2 Qw 0 0 hp 2 [(0, .ref a0), (1, .int x1)] [] := fun a0 x1 hp h => hk (a0, x1, hp) h
  have hf : wp_Reader_readOutputs_2_b z Q  k2 a0 x1 hp := hf
  unfold wp_Reader_readOutputs_2_b at hf
  refine x_iload_n X (q := 1) d_Reader_readOutputs_2 rfl 3 rfl ?_
  refine x_aload_n X (q := 0) d_Reader_readOutputs_3 rfl 4 rfl ?_
  refine x_getR X hf (ci := 5) (j := 2) rfl (by decide) rfl lf_Reader_21 d_Reader_readOutputs_4 7 rfl (fun o1 hf => ?_)
  refine x_getI X hf (ci := 0) (j := 4) rfl (by decide) rfl lf_Reader_130 d_Reader_readOutputs_7 10 rfl (fun v2 hf => ?_)
  refine x_icmp_ge X hf d_Reader_readOutputs_10 52 13 (by decide) rfl (fun hf => ?_) (fun hf => ?_)
  · refine x_iconst X (v := 1) d_Reader_readOutputs_52 (by decide) 53 rfl ?_
    exact hret _ _ _ _ _ (some (.int 1)) (Nat.le_refl 0) (Nat.le_refl 0) ⟨_, rfl, (Or.inr rfl), hf⟩ ⟨⟨_, rfl, xbl_nar (Or.inr rfl)⟩, d_Reader_readOutputs_53⟩
  · refine x_aload_n X (q := 0) d_Reader_readOutputs_13 rfl 14 rfl ?_
    refine x_callV0z X (t_Reader_readUse hf.2) hf.1 (ci := 5) rfl rfl lm_Reader_161 im_Reader_readUse sl_Reader_readUse cd_Reader_readUse in_Reader ds_Reader_readUse rfl rfl (Nat.le_of_ble_eq_true rfl) (Nat.le_of_ble_eq_true rfl) (Nat.le_of_ble_eq_true rfl) rfl rfl (Nat.le_refl 0) (Nat.le_refl 0) d_Reader_readOutputs_14 17 rfl (fun v4 h3 hb5 hf => ?_)
    refine x_if_ne X hf d_Reader_readOutputs_17 22 20 (by decide) rfl (fun hf => ?_) (fun hf => ?_)
    · refine x_aload_n X (q := 0) d_Reader_readOutputs_22 rfl 23 rfl ?_
      refine x_getR X hf (ci := 5) (j := 2) rfl (by decide) rfl lf_Reader_21 d_Reader_readOutputs_23 26 rfl (fun o6 hf => ?_)
      refine x_getR X hf (ci := 0) (j := 12) rfl (by decide) rfl lf_Reader_167 d_Reader_readOutputs_26 29 rfl (fun o7 hf => ?_)
      refine x_iload_n X (q := 1) d_Reader_readOutputs_29 rfl 30 rfl ?_
      refine x_aload_n X (q := 0) d_Reader_readOutputs_30 rfl 31 rfl ?_
      refine x_getI X hf (ci := 5) (j := 9) rfl (by decide) rfl lf_Reader_108 d_Reader_readOutputs_31 34 rfl (fun v8 hf => ?_)
      refine x_iast X hf d_Reader_readOutputs_34 35 rfl (fun h9 hf => ?_)
      refine x_aload_n X (q := 0) d_Reader_readOutputs_35 rfl 36 rfl ?_
      refine x_bipush X (v := 10) d_Reader_readOutputs_36 (by decide) 38 rfl ?_
      refine x_callV0z X (t_Reader_pass hf.2) hf.1 (ci := 5) rfl rfl lm_Reader_115 im_Reader_pass sl_Reader_pass cd_Reader_pass in_Reader ds_Reader_pass rfl rfl (Nat.le_of_ble_eq_true rfl) (Nat.le_of_ble_eq_true rfl) (Nat.le_of_ble_eq_true rfl) rfl rfl (Nat.le_refl 0) (Nat.le_refl 0) d_Reader_readOutputs_38 41 rfl (fun v11 h10 hb12 hf => ?_)
      refine x_if_ne X hf d_Reader_readOutputs_41 46 44 (by decide) rfl (fun hf => ?_) (fun hf => ?_)
      · refine x_iinc X (q := 1) (v := (x1 + 1)) (lv' := [(1, .int (x1 + 1)), (0, .ref a0)]) d_Reader_readOutputs_46 rfl (by rfl) (by decide) rfl 49 rfl ?_
        refine x_goto X d_Reader_readOutputs_49 2 (by decide) ?_
        exact x_sub [1, 0] rfl (hk2 _ _ _ hf)
      · refine x_iconst X (v := 0) d_Reader_readOutputs_44 (by decide) 45 rfl ?_
        exact hret _ _ _ _ _ (some (.int 0)) (Nat.le_refl 0) (Nat.le_refl 0) ⟨_, rfl, (Or.inl rfl), hf⟩ ⟨⟨_, rfl, xbl_nar (Or.inl rfl)⟩, d_Reader_readOutputs_45⟩
    · refine x_iconst X (v := 0) d_Reader_readOutputs_20 (by decide) 21 rfl ?_
      exact hret _ _ _ _ _ (some (.int 0)) (Nat.le_refl 0) (Nat.le_refl 0) ⟨_, rfl, (Or.inl rfl), hf⟩ ⟨⟨_, rfl, xbl_nar (Or.inl rfl)⟩, d_Reader_readOutputs_21⟩
set_option maxRecDepth 100000 in
def wp_Reader_readOutputs (z : Nat → Nat) (Q : Int32 → xh → Prop) (a0 : Nat) (hp : xh) : Prop :=
  wp_Reader_readOutputs_2 z Q a0 0 hp
set_option maxRecDepth 100000 in
set_option maxHeartbeats 4000000 in
theorem t_Reader_readOutputs {l : Launch} {G : xG} {z : Nat → Nat} {Q : Int32 → xh → Prop} {a0 : Nat} {hp : xh} (hf : wp_Reader_readOutputs z Q a0 hp) : xM l G z y_Reader_readOutputs b_Reader_readOutputs 2 (some .boolean) rm_Reader_readOutputs [.ref a0] hp (xqz Q) := by
  refine xM_of (by decide) (Nat.le_of_ble_eq_true rfl) (lv0 := [(0, .ref a0)]) rfl ?_
  intro p e s m args below meth c A Qw X hret
  unfold wp_Reader_readOutputs at hf
  refine x_iconst X (v := 0) d_Reader_readOutputs_0 (by decide) 1 rfl ?_
  refine x_istore_n X (lv' := [(1, .int 0), (0, .ref a0)]) d_Reader_readOutputs_1 rfl (by decide) rfl 2 rfl ?_
  exact x_sub [1, 0] rfl (t_Reader_readOutputs_2 X hret hf)

set_option maxRecDepth 100000 in
def wp_Reader_readDelta_15_b (z : Nat → Nat) (Q : Int32 → xh → Prop)  (k15 : Nat × Int32 × xh → Prop) (a0 : Nat) (x1 : Int32) (hp : xh) : Prop :=
  (3 ≤ x1 → (∃ v1, fI hp a0 5 8 = some v1 ∧ (xcls hp a0 5 ∧ wp_Reader_fail z (fun v3 h2 => Q v3 h2) a0 1 v1 hp))) ∧ (¬ 3 ≤ x1 → (∃ o5, fR hp a0 5 0 = some o5 ∧ (∃ v6, fI hp a0 5 8 = some v6 ∧ (xcls hp o5 8 ∧ wp_Tape_at z (fun v8 h7 => (¬ v8 = (-1) → (∃ v9, fI h7 a0 5 8 = some v9 ∧ (∃ h10, pV h7 a0 5 8 (.int (v9 + 1)) = some h10 ∧ (∃ v11, fI h10 a0 5 9 = some v11 ∧ (∃ h12, pV h10 a0 5 9 (.int (v11 ||| ((v8 &&& 127) <<< ((7 * x1) &&& 31)))) = some h12 ∧ ((128 ≤ v8 → (k15 (a0, (x1 + 1), h12))) ∧ (¬ 128 ≤ v8 → Q 1 h12))))))) ∧ (v8 = (-1) → (∃ v13, fI h7 a0 5 8 = some v13 ∧ (xcls h7 a0 5 ∧ wp_Reader_fail z (fun v15 h14 => Q v15 h14) a0 1 v13 h7)))) o5 v6 hp))))
set_option maxRecDepth 100000 in
def wp_Reader_readDelta_15 (z : Nat → Nat) (Q : Int32 → xh → Prop)  (a0 : Nat) (x1 : Int32) (hp : xh) : Prop := ∃ f : Nat, xloop (fun k15 a => wp_Reader_readDelta_15_b z Q  k15 a.1 a.2.1 a.2.2) f (a0, x1, hp)
set_option maxRecDepth 100000 in
set_option maxHeartbeats 4000000 in
theorem t_Reader_readDelta_15 {p : Program} {l : Launch} {e : Env} {s : State} {m : MethodId} {args : Array Value} {below : List Frame} {meth : Method} {c : Code} {G : xG} {z : Nat → Nat} {A : Nat → Prop} {Qw : State → Prop} {Q : Int32 → xh → Prop} {a0 : Nat} {x1 : Int32} {hp : xh} (X : xX p l e rm_Reader_readDelta s m args below meth c G z A y_Reader_readDelta b_Reader_readDelta 3) (hret : xRet p l e rm_Reader_readDelta s m args below meth c G A 3 Qw b_Reader_readDelta (some .boolean) (xqz Q))  (hf : wp_Reader_readDelta_15 z Q  a0 x1 hp) : xE p l e rm_Reader_readDelta s m args below meth c G A 3 Qw 0 0 hp 15 [(0, .ref a0), (1, .int x1)] [] := by
  obtain ⟨f, hf⟩ := hf
  refine xloop_ind (F := fun k15 a => wp_Reader_readDelta_15_b z Q  k15 a.1 a.2.1 a.2.2) (E := fun a => xE p l e rm_Reader_readDelta s m args below meth c G A 3 Qw 0 0 a.2.2 15 [(0, .ref (a.1)), (1, .int (a.2.1))] []) ?_ f (a0, x1, hp) hf
  intro k15 hk a hf
  obtain ⟨a0, x1, hp⟩ := a
  have hk15 : ∀ (a0 : Nat) (x1 : Int32) (hp : xh), k15 (a0, x1, hp) → xE p l e rm_Reader_readDelta s m args below meth c G A 3 Qw 0 0 hp 15 [(0, .ref a0), (1, .int x1)] [] := fun a0 x1 hp h => hk (a0, x1, hp) h
  have hf : wp_Reader_readDelta_15_b z Q  k15 a0 x1 hp := hf
  unfold wp_Reader_readDelta_15_b at hf
  refine x_iload_n X (q := 1) d_Reader_readDelta_15 rfl 16 rfl ?_
  refine x_iconst X (v := 3) d_Reader_readDelta_16 (by decide) 17 rfl ?_
  refine x_icmp_ge X hf d_Reader_readDelta_17 90 20 (by decide) rfl (fun hf => ?_) (fun hf => ?_)
  · refine x_aload_n X (q := 0) d_Reader_readDelta_90 rfl 91 rfl ?_
    refine x_iconst X (v := 1) d_Reader_readDelta_91 (by decide) 92 rfl ?_
    refine x_aload_n X (q := 0) d_Reader_readDelta_92 rfl 93 rfl ?_
    refine x_getI X hf (ci := 5) (j := 8) rfl (by decide) rfl lf_Reader_46 d_Reader_readDelta_93 96 rfl (fun v1 hf => ?_)
    refine x_callV0z X (t_Reader_fail hf.2) hf.1 (ci := 5) rfl rfl lm_Reader_101 im_Reader_fail sl_Reader_fail cd_Reader_fail in_Reader ds_Reader_fail rfl rfl (Nat.le_of_ble_eq_true rfl) (Nat.le_of_ble_eq_true rfl) (Nat.le_of_ble_eq_true rfl) rfl rfl (Nat.le_refl 0) (Nat.le_refl 0) d_Reader_readDelta_96 99 rfl (fun v3 h2 hb4 hf => ?_)
    exact hret _ _ _ _ _ (some (.int v3)) (Nat.le_refl 0) (Nat.le_refl 0) ⟨_, rfl, hb4, hf⟩ ⟨⟨_, rfl, xbl_nar hb4⟩, d_Reader_readDelta_99⟩
  · refine x_aload_n X (q := 0) d_Reader_readDelta_20 rfl 21 rfl ?_
    refine x_getR X hf (ci := 5) (j := 0) rfl (by decide) rfl lf_Reader_39 d_Reader_readDelta_21 24 rfl (fun o5 hf => ?_)
    refine x_aload_n X (q := 0) d_Reader_readDelta_24 rfl 25 rfl ?_
    refine x_getI X hf (ci := 5) (j := 8) rfl (by decide) rfl lf_Reader_46 d_Reader_readDelta_25 28 rfl (fun v6 hf => ?_)
    refine x_callV0i X (t_Tape_at hf.2) hf.1 (ci := 8) rfl rfl lm_Reader_96 im_Tape_at sl_Tape_at cd_Tape_at in_Tape ds_Tape_at rfl rfl (Nat.le_of_ble_eq_true rfl) (Nat.le_of_ble_eq_true rfl) (Nat.le_of_ble_eq_true rfl) rfl rfl (Nat.le_refl 0) (Nat.le_refl 0) d_Reader_readDelta_28 31 rfl (fun v8 h7 hf => ?_)
    refine x_istore_n X (lv' := [(2, .int v8), (0, .ref a0), (1, .int x1)]) d_Reader_readDelta_31 rfl (by decide) rfl 32 rfl ?_
    refine x_iload_n X (q := 0) d_Reader_readDelta_32 rfl 33 rfl ?_
    refine x_iconst X (v := (-1)) d_Reader_readDelta_33 (by decide) 34 rfl ?_
    refine x_icmp_ne X hf d_Reader_readDelta_34 47 37 (by decide) rfl (fun hf => ?_) (fun hf => ?_)
    · refine x_aload_n X (q := 1) d_Reader_readDelta_47 rfl 48 rfl ?_
      refine x_dup X rfl d_Reader_readDelta_48 49 rfl ?_
      refine x_getI X hf (ci := 5) (j := 8) rfl (by decide) rfl lf_Reader_46 d_Reader_readDelta_49 52 rfl (fun v9 hf => ?_)
      refine x_iconst X (v := 1) d_Reader_readDelta_52 (by decide) 53 rfl ?_
      refine x_iadd X d_Reader_readDelta_53 54 rfl ?_
      refine x_put X hf (ci := 5) (j := 8) (ty := .int) rfl (by decide) rfl lf_Reader_46 rfl (by decide +kernel) rfl rfl d_Reader_readDelta_54 57 rfl (fun h10 hf => ?_)
      refine x_aload_n X (q := 1) d_Reader_readDelta_57 rfl 58 rfl ?_
      refine x_dup X rfl d_Reader_readDelta_58 59 rfl ?_
      refine x_getI X hf (ci := 5) (j := 9) rfl (by decide) rfl lf_Reader_108 d_Reader_readDelta_59 62 rfl (fun v11 hf => ?_)
      refine x_iload_n X (q := 0) d_Reader_readDelta_62 rfl 63 rfl ?_
      refine x_bipush X (v := 127) d_Reader_readDelta_63 (by decide) 65 rfl ?_
      refine x_iand X d_Reader_readDelta_65 66 rfl ?_
      refine x_bipush X (v := 7) d_Reader_readDelta_66 (by decide) 68 rfl ?_
      refine x_iload_n X (q := 2) d_Reader_readDelta_68 rfl 69 rfl ?_
      refine x_imul X d_Reader_readDelta_69 70 rfl ?_
      refine x_ishl X d_Reader_readDelta_70 71 rfl ?_
      refine x_ior X d_Reader_readDelta_71 72 rfl ?_
      refine x_put X hf (ci := 5) (j := 9) (ty := .int) rfl (by decide) rfl lf_Reader_108 rfl (by decide +kernel) rfl rfl d_Reader_readDelta_72 75 rfl (fun h12 hf => ?_)
      refine x_iload_n X (q := 0) d_Reader_readDelta_75 rfl 76 rfl ?_
      refine x_sipush X (v := 128) d_Reader_readDelta_76 (by decide) 79 rfl ?_
      refine x_icmp_ge X hf d_Reader_readDelta_79 84 82 (by decide) rfl (fun hf => ?_) (fun hf => ?_)
      · refine x_iinc X (q := 2) (v := (x1 + 1)) (lv' := [(1, .int (x1 + 1)), (2, .int v8), (0, .ref a0)]) d_Reader_readDelta_84 rfl (by rfl) (by decide) rfl 87 rfl ?_
        refine x_goto X d_Reader_readDelta_87 15 (by decide) ?_
        exact x_sub [2, 0] rfl (hk15 _ _ _ hf)
      · refine x_iconst X (v := 1) d_Reader_readDelta_82 (by decide) 83 rfl ?_
        exact hret _ _ _ _ _ (some (.int 1)) (Nat.le_refl 0) (Nat.le_refl 0) ⟨_, rfl, (Or.inr rfl), hf⟩ ⟨⟨_, rfl, xbl_nar (Or.inr rfl)⟩, d_Reader_readDelta_83⟩
    · refine x_aload_n X (q := 1) d_Reader_readDelta_37 rfl 38 rfl ?_
      refine x_iconst X (v := 1) d_Reader_readDelta_38 (by decide) 39 rfl ?_
      refine x_aload_n X (q := 1) d_Reader_readDelta_39 rfl 40 rfl ?_
      refine x_getI X hf (ci := 5) (j := 8) rfl (by decide) rfl lf_Reader_46 d_Reader_readDelta_40 43 rfl (fun v13 hf => ?_)
      refine x_callV0z X (t_Reader_fail hf.2) hf.1 (ci := 5) rfl rfl lm_Reader_101 im_Reader_fail sl_Reader_fail cd_Reader_fail in_Reader ds_Reader_fail rfl rfl (Nat.le_of_ble_eq_true rfl) (Nat.le_of_ble_eq_true rfl) (Nat.le_of_ble_eq_true rfl) rfl rfl (Nat.le_refl 0) (Nat.le_refl 0) d_Reader_readDelta_43 46 rfl (fun v15 h14 hb16 hf => ?_)
      exact hret _ _ _ _ _ (some (.int v15)) (Nat.le_refl 0) (Nat.le_refl 0) ⟨_, rfl, hb16, hf⟩ ⟨⟨_, rfl, xbl_nar hb16⟩, d_Reader_readDelta_46⟩
set_option maxRecDepth 100000 in
def wp_Reader_readDelta (z : Nat → Nat) (Q : Int32 → xh → Prop) (a0 : Nat) (hp : xh) : Prop :=
  ∃ v1, fI hp a0 5 8 = some v1 ∧ (∃ h2, pV hp a0 5 10 (.int v1) = some h2 ∧ (∃ h3, pV h2 a0 5 9 (.int 0) = some h3 ∧ wp_Reader_readDelta_15 z Q a0 0 h3))
set_option maxRecDepth 100000 in
set_option maxHeartbeats 4000000 in
theorem t_Reader_readDelta {l : Launch} {G : xG} {z : Nat → Nat} {Q : Int32 → xh → Prop} {a0 : Nat} {hp : xh} (hf : wp_Reader_readDelta z Q a0 hp) : xM l G z y_Reader_readDelta b_Reader_readDelta 3 (some .boolean) rm_Reader_readDelta [.ref a0] hp (xqz Q) := by
  refine xM_of (by decide) (Nat.le_of_ble_eq_true rfl) (lv0 := [(0, .ref a0)]) rfl ?_
  intro p e s m args below meth c A Qw X hret
  unfold wp_Reader_readDelta at hf
  refine x_aload_n X (q := 0) d_Reader_readDelta_0 rfl 1 rfl ?_
  refine x_aload_n X (q := 0) d_Reader_readDelta_1 rfl 2 rfl ?_
  refine x_getI X hf (ci := 5) (j := 8) rfl (by decide) rfl lf_Reader_46 d_Reader_readDelta_2 5 rfl (fun v1 hf => ?_)
  refine x_put X hf (ci := 5) (j := 10) (ty := .int) rfl (by decide) rfl lf_Reader_105 rfl (by decide +kernel) rfl rfl d_Reader_readDelta_5 8 rfl (fun h2 hf => ?_)
  refine x_aload_n X (q := 0) d_Reader_readDelta_8 rfl 9 rfl ?_
  refine x_iconst X (v := 0) d_Reader_readDelta_9 (by decide) 10 rfl ?_
  refine x_put X hf (ci := 5) (j := 9) (ty := .int) rfl (by decide) rfl lf_Reader_108 rfl (by decide +kernel) rfl rfl d_Reader_readDelta_10 13 rfl (fun h3 hf => ?_)
  refine x_iconst X (v := 0) d_Reader_readDelta_13 (by decide) 14 rfl ?_
  refine x_istore_n X (lv' := [(1, .int 0), (0, .ref a0)]) d_Reader_readDelta_14 rfl (by decide) rfl 15 rfl ?_
  exact x_sub [1, 0] rfl (t_Reader_readDelta_15 X hret hf)

