set_option maxRecDepth 100000 in
def wp_Reader_readDeltas_49 (z : Nat → Nat) (Q : Int32 → xh → Prop)  (a0 : Nat) (hp : xh) : Prop :=
  ∃ v1, fI hp a0 5 10 = some v1 ∧ (xcls hp a0 5 ∧ wp_Reader_fail z (fun v3 h2 => Q v3 h2) a0 3 v1 hp)
set_option maxRecDepth 100000 in
set_option maxHeartbeats 4000000 in
theorem t_Reader_readDeltas_49 {p : Program} {l : Launch} {e : Env} {s : State} {m : MethodId} {args : Array Value} {below : List Frame} {meth : Method} {c : Code} {G : xG} {z : Nat → Nat} {A : Nat → Prop} {Qw : State → Prop} {Q : Int32 → xh → Prop} {a0 : Nat} {hp : xh} (X : xX p l e rm_Reader_readDeltas s m args below meth c G z A y_Reader_readDeltas b_Reader_readDeltas 3) (hret : xRet p l e rm_Reader_readDeltas s m args below meth c G A 3 Qw b_Reader_readDeltas (some .boolean) (xqz Q))  (hf : wp_Reader_readDeltas_49 z Q  a0 hp) : xE p l e rm_Reader_readDeltas s m args below meth c G A 3 Qw 0 0 hp 49 [(0, .ref a0)] [] := by
  unfold wp_Reader_readDeltas_49 at hf
  refine x_aload_n X (q := 0) d_Reader_readDeltas_49 rfl 50 rfl ?_
  refine x_iconst X (v := 3) d_Reader_readDeltas_50 (by decide) 51 rfl ?_
  refine x_aload_n X (q := 0) d_Reader_readDeltas_51 rfl 52 rfl ?_
  refine x_getI X hf (ci := 5) (j := 10) rfl (by decide) rfl lf_Reader_105 d_Reader_readDeltas_52 55 rfl (fun v1 hf => ?_)
  refine x_callV0z X (t_Reader_fail hf.2) hf.1 (ci := 5) rfl rfl lm_Reader_101 im_Reader_fail sl_Reader_fail cd_Reader_fail in_Reader ds_Reader_fail rfl rfl (Nat.le_of_ble_eq_true rfl) (Nat.le_of_ble_eq_true rfl) (Nat.le_of_ble_eq_true rfl) rfl rfl (Nat.le_refl 0) (Nat.le_refl 0) d_Reader_readDeltas_55 58 rfl (fun v3 h2 hb4 hf => ?_)
  exact hret _ _ _ _ _ (some (.int v3)) (Nat.le_refl 0) (Nat.le_refl 0) ⟨_, rfl, hb4, hf⟩ ⟨⟨_, rfl, xbl_nar hb4⟩, d_Reader_readDeltas_58⟩
set_option maxRecDepth 100000 in
def wp_Reader_readDeltas_2_b (z : Nat → Nat) (Q : Int32 → xh → Prop)  (k2 : Nat × Int32 × xh → Prop) (a0 : Nat) (x1 : Int32) (hp : xh) : Prop :=
  ∃ o1, fR hp a0 5 2 = some o1 ∧ (∃ v2, fI hp o1 0 5 = some v2 ∧ ((v2 ≤ x1 → Q 1 hp) ∧ (¬ v2 ≤ x1 → (∃ o3, fR hp a0 5 1 = some o3 ∧ (∃ o4, fR hp o3 6 0 = some o4 ∧ (∃ v5, aI hp o4 0 x1 = some v5 ∧ (xcls hp a0 5 ∧ wp_Reader_readDelta z (fun v7 h6 => (¬ v7 = 0 → (∃ v9, fI h6 a0 5 9 = some v9 ∧ ((v9 = 0 → wp_Reader_readDeltas_49 z Q a0 h6) ∧ (¬ v9 = 0 → (∃ v10, fI h6 a0 5 9 = some v10 ∧ ((v10 ≤ (2 * v5) → (∃ o11, fR h6 a0 5 2 = some o11 ∧ (∃ o12, fR h6 o11 0 7 = some o12 ∧ (∃ v13, fI h6 a0 5 9 = some v13 ∧ (∃ h14, sI h6 o12 0 v5 ((2 * v5) - v13) = some h14 ∧ (xcls h14 a0 5 ∧ wp_Reader_readDelta z (fun v16 h15 => (¬ v16 = 0 → (∃ v18, fI h15 a0 5 9 = some v18 ∧ (∃ o19, fR h15 a0 5 2 = some o19 ∧ (∃ o20, fR h15 o19 0 7 = some o20 ∧ (∃ v21, aI h15 o20 0 v5 = some v21 ∧ ((v18 ≤ v21 → (∃ o22, fR h15 a0 5 2 = some o22 ∧ (∃ o23, fR h15 o22 0 8 = some o23 ∧ (∃ o24, fR h15 a0 5 2 = some o24 ∧ (∃ o25, fR h15 o24 0 7 = some o25 ∧ (∃ v26, aI h15 o25 0 v5 = some v26 ∧ (∃ v27, fI h15 a0 5 9 = some v27 ∧ (∃ h28, sI h15 o23 0 v5 (v26 - v27) = some h28 ∧ (k2 (a0, (x1 + 1), h28)))))))))) ∧ (¬ v18 ≤ v21 → (∃ v29, fI h15 a0 5 10 = some v29 ∧ (xcls h15 a0 5 ∧ wp_Reader_fail z (fun v31 h30 => Q v31 h30) a0 3 v29 h15))))))))) ∧ (v16 = 0 → Q 0 h15)) a0 h14)))))) ∧ (¬ v10 ≤ (2 * v5) → wp_Reader_readDeltas_49 z Q a0 h6))))))) ∧ (v7 = 0 → Q 0 h6)) a0 hp)))))))
set_option maxRecDepth 100000 in
def wp_Reader_readDeltas_2 (z : Nat → Nat) (Q : Int32 → xh → Prop)  (a0 : Nat) (x1 : Int32) (hp : xh) : Prop := ∃ f : Nat, xloop (fun k2 a => wp_Reader_readDeltas_2_b z Q  k2 a.1 a.2.1 a.2.2) f (a0, x1, hp)
set_option maxRecDepth 100000 in
set_option maxHeartbeats 4000000 in
theorem t_Reader_readDeltas_2 {p : Program} {l : Launch} {e : Env} {s : State} {m : MethodId} {args : Array Value} {below : List Frame} {meth : Method} {c : Code} {G : xG} {z : Nat → Nat} {A : Nat → Prop} {Qw : State → Prop} {Q : Int32 → xh → Prop} {a0 : Nat} {x1 : Int32} {hp : xh} (X : xX p l e rm_Reader_readDeltas s m args below meth c G z A y_Reader_readDeltas b_Reader_readDeltas 3) (hret : xRet p l e rm_Reader_readDeltas s m args below meth c G A 3 Qw b_Reader_readDeltas (some .boolean) (xqz Q))  (hf : wp_Reader_readDeltas_2 z Q  a0 x1 hp) : xE p l e rm_Reader_readDeltas s m args below meth c G A 3 Qw 0 0 hp 2 [(0, .ref a0), (1, .int x1)] [] := by
  obtain ⟨f, hf⟩ := hf
  refine xloop_ind (F := fun k2 a => wp_Reader_readDeltas_2_b z Q  k2 a.1 a.2.1 a.2.2) (E := fun a => xE p l e rm_Reader_readDeltas s m args below meth c G A 3 Qw 0 0 a.2.2 2 [(0, .ref (a.1)), (1, .int (a.2.1))] []) ?_ f (a0, x1, hp) hf
  intro k2 hk a hf
  obtain ⟨a0, x1, hp⟩ := a
  have hk2 : ∀ (a0 : Nat) (x1 : Int32) (hp : xh), k2 (a0, x1, hp) → xE p l e rm_Reader_readDeltas s m args below meth c G A 3 Qw 0 0 hp 2 [(0, .ref a0), (1, .int x1)] [] := fun a0 x1 hp h => hk (a0, x1, hp) h
  have hf : wp_Reader_readDeltas_2_b z Q  k2 a0 x1 hp := hf
  unfold wp_Reader_readDeltas_2_b at hf
  refine x_iload_n X (q := 1) d_Reader_readDeltas_2 rfl 3 rfl ?_
  refine x_aload_n X (q := 0) d_Reader_readDeltas_3 rfl 4 rfl ?_
  refine x_getR X hf (ci := 5) (j := 2) rfl (by decide) rfl lf_Reader_21 d_Reader_readDeltas_4 7 rfl (fun o1 hf => ?_)
  refine x_getI X hf (ci := 0) (j := 5) rfl (by decide) rfl lf_Reader_133 d_Reader_readDeltas_7 10 rfl (fun v2 hf => ?_)
  refine x_icmp_ge X hf d_Reader_readDeltas_10 140 13 (by decide) rfl (fun hf => ?_) (fun hf => ?_)
  · refine x_iconst X (v := 1) d_Reader_readDeltas_140 (by decide) 141 rfl ?_
    exact hret _ _ _ _ _ (some (.int 1)) (Nat.le_refl 0) (Nat.le_refl 0) ⟨_, rfl, (Or.inr rfl), hf⟩ ⟨⟨_, rfl, xbl_nar (Or.inr rfl)⟩, d_Reader_readDeltas_141⟩
  · refine x_aload_n X (q := 0) d_Reader_readDeltas_13 rfl 14 rfl ?_
    refine x_getR X hf (ci := 5) (j := 1) rfl (by decide) rfl lf_Reader_12 d_Reader_readDeltas_14 17 rfl (fun o3 hf => ?_)
    refine x_getR X hf (ci := 6) (j := 0) rfl (by decide) rfl lf_Reader_149 d_Reader_readDeltas_17 20 rfl (fun o4 hf => ?_)
    refine x_iload_n X (q := 1) d_Reader_readDeltas_20 rfl 21 rfl ?_
    refine x_iald X hf d_Reader_readDeltas_21 22 rfl (fun v5 hf => ?_)
    refine x_istore_n X (lv' := [(2, .int v5), (0, .ref a0), (1, .int x1)]) d_Reader_readDeltas_22 rfl (by decide) rfl 23 rfl ?_
    refine x_aload_n X (q := 1) d_Reader_readDeltas_23 rfl 24 rfl ?_
    refine x_callV0z X (t_Reader_readDelta hf.2) hf.1 (ci := 5) rfl rfl lm_Reader_176 im_Reader_readDelta sl_Reader_readDelta cd_Reader_readDelta in_Reader ds_Reader_readDelta rfl rfl (Nat.le_of_ble_eq_true rfl) (Nat.le_of_ble_eq_true rfl) (Nat.le_of_ble_eq_true rfl) rfl rfl (Nat.le_refl 0) (Nat.le_refl 0) d_Reader_readDeltas_24 27 rfl (fun v7 h6 hb8 hf => ?_)
    refine x_if_ne X hf d_Reader_readDeltas_27 32 30 (by decide) rfl (fun hf => ?_) (fun hf => ?_)
    · refine x_aload_n X (q := 1) d_Reader_readDeltas_32 rfl 33 rfl ?_
      refine x_getI X hf (ci := 5) (j := 9) rfl (by decide) rfl lf_Reader_108 d_Reader_readDeltas_33 36 rfl (fun v9 hf => ?_)
      refine x_if_eq X hf d_Reader_readDeltas_36 49 39 (by decide) rfl (fun hf => ?_) (fun hf => ?_)
      · exact x_sub [1] rfl (t_Reader_readDeltas_49 X hret hf)
      · refine x_aload_n X (q := 1) d_Reader_readDeltas_39 rfl 40 rfl ?_
        refine x_getI X hf (ci := 5) (j := 9) rfl (by decide) rfl lf_Reader_108 d_Reader_readDeltas_40 43 rfl (fun v10 hf => ?_)
        refine x_iconst X (v := 2) d_Reader_readDeltas_43 (by decide) 44 rfl ?_
        refine x_iload_n X (q := 0) d_Reader_readDeltas_44 rfl 45 rfl ?_
        refine x_imul X d_Reader_readDeltas_45 46 rfl ?_
        refine x_icmp_le X hf d_Reader_readDeltas_46 59 49 (by decide) rfl (fun hf => ?_) (fun hf => ?_)
        · refine x_aload_n X (q := 1) d_Reader_readDeltas_59 rfl 60 rfl ?_
          refine x_getR X hf (ci := 5) (j := 2) rfl (by decide) rfl lf_Reader_21 d_Reader_readDeltas_60 63 rfl (fun o11 hf => ?_)
          refine x_getR X hf (ci := 0) (j := 7) rfl (by decide) rfl lf_Reader_170 d_Reader_readDeltas_63 66 rfl (fun o12 hf => ?_)
          refine x_iload_n X (q := 0) d_Reader_readDeltas_66 rfl 67 rfl ?_
          refine x_iconst X (v := 2) d_Reader_readDeltas_67 (by decide) 68 rfl ?_
          refine x_iload_n X (q := 0) d_Reader_readDeltas_68 rfl 69 rfl ?_
          refine x_imul X d_Reader_readDeltas_69 70 rfl ?_
          refine x_aload_n X (q := 1) d_Reader_readDeltas_70 rfl 71 rfl ?_
          refine x_getI X hf (ci := 5) (j := 9) rfl (by decide) rfl lf_Reader_108 d_Reader_readDeltas_71 74 rfl (fun v13 hf => ?_)
          refine x_isub X d_Reader_readDeltas_74 75 rfl ?_
          refine x_iast X hf d_Reader_readDeltas_75 76 rfl (fun h14 hf => ?_)
          refine x_aload_n X (q := 1) d_Reader_readDeltas_76 rfl 77 rfl ?_
          refine x_callV0z X (t_Reader_readDelta hf.2) hf.1 (ci := 5) rfl rfl lm_Reader_176 im_Reader_readDelta sl_Reader_readDelta cd_Reader_readDelta in_Reader ds_Reader_readDelta rfl rfl (Nat.le_of_ble_eq_true rfl) (Nat.le_of_ble_eq_true rfl) (Nat.le_of_ble_eq_true rfl) rfl rfl (Nat.le_refl 0) (Nat.le_refl 0) d_Reader_readDeltas_77 80 rfl (fun v16 h15 hb17 hf => ?_)
          refine x_if_ne X hf d_Reader_readDeltas_80 85 83 (by decide) rfl (fun hf => ?_) (fun hf => ?_)
          · refine x_aload_n X (q := 1) d_Reader_readDeltas_85 rfl 86 rfl ?_
            refine x_getI X hf (ci := 5) (j := 9) rfl (by decide) rfl lf_Reader_108 d_Reader_readDeltas_86 89 rfl (fun v18 hf => ?_)
            refine x_aload_n X (q := 1) d_Reader_readDeltas_89 rfl 90 rfl ?_
            refine x_getR X hf (ci := 5) (j := 2) rfl (by decide) rfl lf_Reader_21 d_Reader_readDeltas_90 93 rfl (fun o19 hf => ?_)
            refine x_getR X hf (ci := 0) (j := 7) rfl (by decide) rfl lf_Reader_170 d_Reader_readDeltas_93 96 rfl (fun o20 hf => ?_)
            refine x_iload_n X (q := 0) d_Reader_readDeltas_96 rfl 97 rfl ?_
            refine x_iald X hf d_Reader_readDeltas_97 98 rfl (fun v21 hf => ?_)
            refine x_icmp_le X hf d_Reader_readDeltas_98 111 101 (by decide) rfl (fun hf => ?_) (fun hf => ?_)
            · refine x_aload_n X (q := 1) d_Reader_readDeltas_111 rfl 112 rfl ?_
              refine x_getR X hf (ci := 5) (j := 2) rfl (by decide) rfl lf_Reader_21 d_Reader_readDeltas_112 115 rfl (fun o22 hf => ?_)
              refine x_getR X hf (ci := 0) (j := 8) rfl (by decide) rfl lf_Reader_173 d_Reader_readDeltas_115 118 rfl (fun o23 hf => ?_)
              refine x_iload_n X (q := 0) d_Reader_readDeltas_118 rfl 119 rfl ?_
              refine x_aload_n X (q := 1) d_Reader_readDeltas_119 rfl 120 rfl ?_
              refine x_getR X hf (ci := 5) (j := 2) rfl (by decide) rfl lf_Reader_21 d_Reader_readDeltas_120 123 rfl (fun o24 hf => ?_)
              refine x_getR X hf (ci := 0) (j := 7) rfl (by decide) rfl lf_Reader_170 d_Reader_readDeltas_123 126 rfl (fun o25 hf => ?_)
              refine x_iload_n X (q := 0) d_Reader_readDeltas_126 rfl 127 rfl ?_
              refine x_iald X hf d_Reader_readDeltas_127 128 rfl (fun v26 hf => ?_)
              refine x_aload_n X (q := 1) d_Reader_readDeltas_128 rfl 129 rfl ?_
              refine x_getI X hf (ci := 5) (j := 9) rfl (by decide) rfl lf_Reader_108 d_Reader_readDeltas_129 132 rfl (fun v27 hf => ?_)
              refine x_isub X d_Reader_readDeltas_132 133 rfl ?_
              refine x_iast X hf d_Reader_readDeltas_133 134 rfl (fun h28 hf => ?_)
              refine x_iinc X (q := 2) (v := (x1 + 1)) (lv' := [(1, .int (x1 + 1)), (2, .int v5), (0, .ref a0)]) d_Reader_readDeltas_134 rfl (by rfl) (by decide) rfl 137 rfl ?_
              refine x_goto X d_Reader_readDeltas_137 2 (by decide) ?_
              exact x_sub [2, 0] rfl (hk2 _ _ _ hf)
            · refine x_aload_n X (q := 1) d_Reader_readDeltas_101 rfl 102 rfl ?_
              refine x_iconst X (v := 3) d_Reader_readDeltas_102 (by decide) 103 rfl ?_
              refine x_aload_n X (q := 1) d_Reader_readDeltas_103 rfl 104 rfl ?_
              refine x_getI X hf (ci := 5) (j := 10) rfl (by decide) rfl lf_Reader_105 d_Reader_readDeltas_104 107 rfl (fun v29 hf => ?_)
              refine x_callV0z X (t_Reader_fail hf.2) hf.1 (ci := 5) rfl rfl lm_Reader_101 im_Reader_fail sl_Reader_fail cd_Reader_fail in_Reader ds_Reader_fail rfl rfl (Nat.le_of_ble_eq_true rfl) (Nat.le_of_ble_eq_true rfl) (Nat.le_of_ble_eq_true rfl) rfl rfl (Nat.le_refl 0) (Nat.le_refl 0) d_Reader_readDeltas_107 110 rfl (fun v31 h30 hb32 hf => ?_)
              exact hret _ _ _ _ _ (some (.int v31)) (Nat.le_refl 0) (Nat.le_refl 0) ⟨_, rfl, hb32, hf⟩ ⟨⟨_, rfl, xbl_nar hb32⟩, d_Reader_readDeltas_110⟩
          · refine x_iconst X (v := 0) d_Reader_readDeltas_83 (by decide) 84 rfl ?_
            exact hret _ _ _ _ _ (some (.int 0)) (Nat.le_refl 0) (Nat.le_refl 0) ⟨_, rfl, (Or.inl rfl), hf⟩ ⟨⟨_, rfl, xbl_nar (Or.inl rfl)⟩, d_Reader_readDeltas_84⟩
        · exact x_sub [1] rfl (t_Reader_readDeltas_49 X hret hf)
    · refine x_iconst X (v := 0) d_Reader_readDeltas_30 (by decide) 31 rfl ?_
      exact hret _ _ _ _ _ (some (.int 0)) (Nat.le_refl 0) (Nat.le_refl 0) ⟨_, rfl, (Or.inl rfl), hf⟩ ⟨⟨_, rfl, xbl_nar (Or.inl rfl)⟩, d_Reader_readDeltas_31⟩
set_option maxRecDepth 100000 in
def wp_Reader_readDeltas (z : Nat → Nat) (Q : Int32 → xh → Prop) (a0 : Nat) (hp : xh) : Prop :=
  wp_Reader_readDeltas_2 z Q a0 0 hp
set_option maxRecDepth 100000 in
set_option maxHeartbeats 4000000 in
theorem t_Reader_readDeltas {l : Launch} {G : xG} {z : Nat → Nat} {Q : Int32 → xh → Prop} {a0 : Nat} {hp : xh} (hf : wp_Reader_readDeltas z Q a0 hp) : xM l G z y_Reader_readDeltas b_Reader_readDeltas 3 (some .boolean) rm_Reader_readDeltas [.ref a0] hp (xqz Q) := by
  refine xM_of (by decide) (Nat.le_of_ble_eq_true rfl) (lv0 := [(0, .ref a0)]) rfl ?_
  intro p e s m args below meth c A Qw X hret
  unfold wp_Reader_readDeltas at hf
  refine x_iconst X (v := 0) d_Reader_readDeltas_0 (by decide) 1 rfl ?_
  refine x_istore_n X (lv' := [(1, .int 0), (0, .ref a0)]) d_Reader_readDeltas_1 rfl (by decide) rfl 2 rfl ?_
  exact x_sub [1, 0] rfl (t_Reader_readDeltas_2 X hret hf)

set_option maxRecDepth 100000 in
def wp_Reader_readAnds_2_b (z : Nat → Nat) (Q : Int32 → xh → Prop)  (k2 : Nat × Int32 × xh → Prop) (a0 : Nat) (x1 : Int32) (hp : xh) : Prop :=
  ∃ o1, fR hp a0 5 2 = some o1 ∧ (∃ v2, fI hp o1 0 5 = some v2 ∧ ((v2 ≤ x1 → Q 1 hp) ∧ (¬ v2 ≤ x1 → (xcls hp a0 5 ∧ wp_Reader_readDefinition z (fun v4 h3 => (¬ v4 = 0 → (∃ v6, fI h3 a0 5 9 = some v6 ∧ (∀ v7, v7 = (v6 >>> ((1 : Int32) &&& 31)) → ∃ o8, fR h3 a0 5 1 = some o8 ∧ (∃ o9, fR h3 o8 6 0 = some o9 ∧ (∃ h10, sI h3 o9 0 x1 v7 = some h10 ∧ (xcls h10 a0 5 ∧ wp_Reader_pass z (fun v12 h11 => (v12 = 0 → Q 0 h11) ∧ (¬ v12 = 0 → (xcls h11 a0 5 ∧ wp_Reader_readUse z (fun v15 h14 => (¬ v15 = 0 → (∃ o17, fR h14 a0 5 2 = some o17 ∧ (∃ o18, fR h14 o17 0 7 = some o18 ∧ (∃ v19, fI h14 a0 5 9 = some v19 ∧ (∃ h20, sI h14 o18 0 v7 v19 = some h20 ∧ (xcls h20 a0 5 ∧ wp_Reader_pass z (fun v22 h21 => (v22 = 0 → Q 0 h21) ∧ (¬ v22 = 0 → (xcls h21 a0 5 ∧ wp_Reader_readUse z (fun v25 h24 => (¬ v25 = 0 → (∃ o27, fR h24 a0 5 2 = some o27 ∧ (∃ o28, fR h24 o27 0 8 = some o28 ∧ (∃ v29, fI h24 a0 5 9 = some v29 ∧ (∃ h30, sI h24 o28 0 v7 v29 = some h30 ∧ (xcls h30 a0 5 ∧ wp_Reader_pass z (fun v32 h31 => (¬ v32 = 0 → (k2 (a0, (x1 + 1), h31))) ∧ (v32 = 0 → Q 0 h31)) a0 10 h30)))))) ∧ (v25 = 0 → Q 0 h24)) a0 h21))) a0 32 h20)))))) ∧ (v15 = 0 → Q 0 h14)) a0 h11))) a0 32 h10)))))) ∧ (v4 = 0 → Q 0 h3)) a0 3 hp))))
set_option maxRecDepth 100000 in
def wp_Reader_readAnds_2 (z : Nat → Nat) (Q : Int32 → xh → Prop)  (a0 : Nat) (x1 : Int32) (hp : xh) : Prop := ∃ f : Nat, xloop (fun k2 a => wp_Reader_readAnds_2_b z Q  k2 a.1 a.2.1 a.2.2) f (a0, x1, hp)
set_option maxRecDepth 100000 in
set_option maxHeartbeats 4000000 in
theorem t_Reader_readAnds_2 {p : Program} {l : Launch} {e : Env} {s : State} {m : MethodId} {args : Array Value} {below : List Frame} {meth : Method} {c : Code} {G : xG} {z : Nat → Nat} {A : Nat → Prop} {Qw : State → Prop} {Q : Int32 → xh → Prop} {a0 : Nat} {x1 : Int32} {hp : xh} (X : xX p l e rm_Reader_readAnds s m args below meth c G z A y_Reader_readAnds b_Reader_readAnds 3) (hret : xRet p l e rm_Reader_readAnds s m args below meth c G A 3 Qw b_Reader_readAnds (some .boolean) (xqz Q))  (hf : wp_Reader_readAnds_2 z Q  a0 x1 hp) : xE p l e rm_Reader_readAnds s m args below meth c G A 3 Qw 0 0 hp 2 [(0, .ref a0), (1, .int x1)] [] := by
  obtain ⟨f, hf⟩ := hf
  refine xloop_ind (F := fun k2 a => wp_Reader_readAnds_2_b z Q  k2 a.1 a.2.1 a.2.2) (E := fun a => xE p l e rm_Reader_readAnds s m args below meth c G A 3 Qw 0 0 a.2.2 2 [(0, .ref (a.1)), (1, .int (a.2.1))] []) ?_ f (a0, x1, hp) hf
  intro k2 hk a hf
  obtain ⟨a0, x1, hp⟩ := a
  have hk2 : ∀ (a0 : Nat) (x1 : Int32) (hp : xh), k2 (a0, x1, hp) → xE p l e rm_Reader_readAnds s m args below meth c G A 3 Qw 0 0 hp 2 [(0, .ref a0), (1, .int x1)] [] := fun a0 x1 hp h => hk (a0, x1, hp) h
  have hf : wp_Reader_readAnds_2_b z Q  k2 a0 x1 hp := hf
  unfold wp_Reader_readAnds_2_b at hf
  refine x_iload_n X (q := 1) d_Reader_readAnds_2 rfl 3 rfl ?_
  refine x_aload_n X (q := 0) d_Reader_readAnds_3 rfl 4 rfl ?_
  refine x_getR X hf (ci := 5) (j := 2) rfl (by decide) rfl lf_Reader_21 d_Reader_readAnds_4 7 rfl (fun o1 hf => ?_)
  refine x_getI X hf (ci := 0) (j := 5) rfl (by decide) rfl lf_Reader_133 d_Reader_readAnds_7 10 rfl (fun v2 hf => ?_)
  refine x_icmp_ge X hf d_Reader_readAnds_10 119 13 (by decide) rfl (fun hf => ?_) (fun hf => ?_)
  · refine x_iconst X (v := 1) d_Reader_readAnds_119 (by decide) 120 rfl ?_
    exact hret _ _ _ _ _ (some (.int 1)) (Nat.le_refl 0) (Nat.le_refl 0) ⟨_, rfl, (Or.inr rfl), hf⟩ ⟨⟨_, rfl, xbl_nar (Or.inr rfl)⟩, d_Reader_readAnds_120⟩
  · refine x_aload_n X (q := 0) d_Reader_readAnds_13 rfl 14 rfl ?_
    refine x_iconst X (v := 3) d_Reader_readAnds_14 (by decide) 15 rfl ?_
    refine x_callV0z X (t_Reader_readDefinition hf.2) hf.1 (ci := 5) rfl rfl lm_Reader_152 im_Reader_readDefinition sl_Reader_readDefinition cd_Reader_readDefinition in_Reader ds_Reader_readDefinition rfl rfl (Nat.le_of_ble_eq_true rfl) (Nat.le_of_ble_eq_true rfl) (Nat.le_of_ble_eq_true rfl) rfl rfl (Nat.le_refl 0) (Nat.le_refl 0) d_Reader_readAnds_15 18 rfl (fun v4 h3 hb5 hf => ?_)
    refine x_if_ne X hf d_Reader_readAnds_18 23 21 (by decide) rfl (fun hf => ?_) (fun hf => ?_)
    · refine x_aload_n X (q := 0) d_Reader_readAnds_23 rfl 24 rfl ?_
      refine x_getI X hf (ci := 5) (j := 9) rfl (by decide) rfl lf_Reader_108 d_Reader_readAnds_24 27 rfl (fun v6 hf => ?_)
      refine x_iconst X (v := 1) d_Reader_readAnds_27 (by decide) 28 rfl ?_
      refine x_ishr X d_Reader_readAnds_28 29 rfl ?_
      refine x_istoreN_n X hf d_Reader_readAnds_29 rfl (by decide) (lw := fun v7 => [(2, .int v7), (0, .ref a0), (1, .int x1)]) (fun _ => rfl) 30 rfl (fun v7 hf => ?_)
      refine x_aload_n X (q := 1) d_Reader_readAnds_30 rfl 31 rfl ?_
      refine x_getR X hf (ci := 5) (j := 1) rfl (by decide) rfl lf_Reader_12 d_Reader_readAnds_31 34 rfl (fun o8 hf => ?_)
      refine x_getR X hf (ci := 6) (j := 0) rfl (by decide) rfl lf_Reader_149 d_Reader_readAnds_34 37 rfl (fun o9 hf => ?_)
      refine x_iload_n X (q := 2) d_Reader_readAnds_37 rfl 38 rfl ?_
      refine x_iload_n X (q := 0) d_Reader_readAnds_38 rfl 39 rfl ?_
      refine x_iast X hf d_Reader_readAnds_39 40 rfl (fun h10 hf => ?_)
      refine x_aload_n X (q := 1) d_Reader_readAnds_40 rfl 41 rfl ?_
      refine x_bipush X (v := 32) d_Reader_readAnds_41 (by decide) 43 rfl ?_
      refine x_callV0z X (t_Reader_pass hf.2) hf.1 (ci := 5) rfl rfl lm_Reader_115 im_Reader_pass sl_Reader_pass cd_Reader_pass in_Reader ds_Reader_pass rfl rfl (Nat.le_of_ble_eq_true rfl) (Nat.le_of_ble_eq_true rfl) (Nat.le_of_ble_eq_true rfl) rfl rfl (Nat.le_refl 0) (Nat.le_refl 0) d_Reader_readAnds_43 46 rfl (fun v12 h11 hb13 hf => ?_)
      refine x_if_eq X hf d_Reader_readAnds_46 56 49 (by decide) rfl (fun hf => ?_) (fun hf => ?_)
      · refine x_iconst X (v := 0) d_Reader_readAnds_56 (by decide) 57 rfl ?_
        exact hret _ _ _ _ _ (some (.int 0)) (Nat.le_refl 0) (Nat.le_refl 0) ⟨_, rfl, (Or.inl rfl), hf⟩ ⟨⟨_, rfl, xbl_nar (Or.inl rfl)⟩, d_Reader_readAnds_57⟩
      · refine x_aload_n X (q := 1) d_Reader_readAnds_49 rfl 50 rfl ?_
        refine x_callV0z X (t_Reader_readUse hf.2) hf.1 (ci := 5) rfl rfl lm_Reader_161 im_Reader_readUse sl_Reader_readUse cd_Reader_readUse in_Reader ds_Reader_readUse rfl rfl (Nat.le_of_ble_eq_true rfl) (Nat.le_of_ble_eq_true rfl) (Nat.le_of_ble_eq_true rfl) rfl rfl (Nat.le_refl 0) (Nat.le_refl 0) d_Reader_readAnds_50 53 rfl (fun v15 h14 hb16 hf => ?_)
        refine x_if_ne X hf d_Reader_readAnds_53 58 56 (by decide) rfl (fun hf => ?_) (fun hf => ?_)
        · refine x_aload_n X (q := 1) d_Reader_readAnds_58 rfl 59 rfl ?_
          refine x_getR X hf (ci := 5) (j := 2) rfl (by decide) rfl lf_Reader_21 d_Reader_readAnds_59 62 rfl (fun o17 hf => ?_)
          refine x_getR X hf (ci := 0) (j := 7) rfl (by decide) rfl lf_Reader_170 d_Reader_readAnds_62 65 rfl (fun o18 hf => ?_)
          refine x_iload_n X (q := 0) d_Reader_readAnds_65 rfl 66 rfl ?_
          refine x_aload_n X (q := 1) d_Reader_readAnds_66 rfl 67 rfl ?_
          refine x_getI X hf (ci := 5) (j := 9) rfl (by decide) rfl lf_Reader_108 d_Reader_readAnds_67 70 rfl (fun v19 hf => ?_)
          refine x_iast X hf d_Reader_readAnds_70 71 rfl (fun h20 hf => ?_)
          refine x_aload_n X (q := 1) d_Reader_readAnds_71 rfl 72 rfl ?_
          refine x_bipush X (v := 32) d_Reader_readAnds_72 (by decide) 74 rfl ?_
          refine x_callV0z X (t_Reader_pass hf.2) hf.1 (ci := 5) rfl rfl lm_Reader_115 im_Reader_pass sl_Reader_pass cd_Reader_pass in_Reader ds_Reader_pass rfl rfl (Nat.le_of_ble_eq_true rfl) (Nat.le_of_ble_eq_true rfl) (Nat.le_of_ble_eq_true rfl) rfl rfl (Nat.le_refl 0) (Nat.le_refl 0) d_Reader_readAnds_74 77 rfl (fun v22 h21 hb23 hf => ?_)
          refine x_if_eq X hf d_Reader_readAnds_77 87 80 (by decide) rfl (fun hf => ?_) (fun hf => ?_)
          · refine x_iconst X (v := 0) d_Reader_readAnds_87 (by decide) 88 rfl ?_
            exact hret _ _ _ _ _ (some (.int 0)) (Nat.le_refl 0) (Nat.le_refl 0) ⟨_, rfl, (Or.inl rfl), hf⟩ ⟨⟨_, rfl, xbl_nar (Or.inl rfl)⟩, d_Reader_readAnds_88⟩
          · refine x_aload_n X (q := 1) d_Reader_readAnds_80 rfl 81 rfl ?_
            refine x_callV0z X (t_Reader_readUse hf.2) hf.1 (ci := 5) rfl rfl lm_Reader_161 im_Reader_readUse sl_Reader_readUse cd_Reader_readUse in_Reader ds_Reader_readUse rfl rfl (Nat.le_of_ble_eq_true rfl) (Nat.le_of_ble_eq_true rfl) (Nat.le_of_ble_eq_true rfl) rfl rfl (Nat.le_refl 0) (Nat.le_refl 0) d_Reader_readAnds_81 84 rfl (fun v25 h24 hb26 hf => ?_)
            refine x_if_ne X hf d_Reader_readAnds_84 89 87 (by decide) rfl (fun hf => ?_) (fun hf => ?_)
            · refine x_aload_n X (q := 1) d_Reader_readAnds_89 rfl 90 rfl ?_
              refine x_getR X hf (ci := 5) (j := 2) rfl (by decide) rfl lf_Reader_21 d_Reader_readAnds_90 93 rfl (fun o27 hf => ?_)
              refine x_getR X hf (ci := 0) (j := 8) rfl (by decide) rfl lf_Reader_173 d_Reader_readAnds_93 96 rfl (fun o28 hf => ?_)
              refine x_iload_n X (q := 0) d_Reader_readAnds_96 rfl 97 rfl ?_
              refine x_aload_n X (q := 1) d_Reader_readAnds_97 rfl 98 rfl ?_
              refine x_getI X hf (ci := 5) (j := 9) rfl (by decide) rfl lf_Reader_108 d_Reader_readAnds_98 101 rfl (fun v29 hf => ?_)
              refine x_iast X hf d_Reader_readAnds_101 102 rfl (fun h30 hf => ?_)
              refine x_aload_n X (q := 1) d_Reader_readAnds_102 rfl 103 rfl ?_
              refine x_bipush X (v := 10) d_Reader_readAnds_103 (by decide) 105 rfl ?_
              refine x_callV0z X (t_Reader_pass hf.2) hf.1 (ci := 5) rfl rfl lm_Reader_115 im_Reader_pass sl_Reader_pass cd_Reader_pass in_Reader ds_Reader_pass rfl rfl (Nat.le_of_ble_eq_true rfl) (Nat.le_of_ble_eq_true rfl) (Nat.le_of_ble_eq_true rfl) rfl rfl (Nat.le_refl 0) (Nat.le_refl 0) d_Reader_readAnds_105 108 rfl (fun v32 h31 hb33 hf => ?_)
              refine x_if_ne X hf d_Reader_readAnds_108 113 111 (by decide) rfl (fun hf => ?_) (fun hf => ?_)
              · refine x_iinc X (q := 2) (v := (x1 + 1)) (lv' := [(1, .int (x1 + 1)), (2, .int v7), (0, .ref a0)]) d_Reader_readAnds_113 rfl (by rfl) (by decide) rfl 116 rfl ?_
                refine x_goto X d_Reader_readAnds_116 2 (by decide) ?_
                exact x_sub [2, 0] rfl (hk2 _ _ _ hf)
              · refine x_iconst X (v := 0) d_Reader_readAnds_111 (by decide) 112 rfl ?_
                exact hret _ _ _ _ _ (some (.int 0)) (Nat.le_refl 0) (Nat.le_refl 0) ⟨_, rfl, (Or.inl rfl), hf⟩ ⟨⟨_, rfl, xbl_nar (Or.inl rfl)⟩, d_Reader_readAnds_112⟩
            · refine x_iconst X (v := 0) d_Reader_readAnds_87 (by decide) 88 rfl ?_
              exact hret _ _ _ _ _ (some (.int 0)) (Nat.le_refl 0) (Nat.le_refl 0) ⟨_, rfl, (Or.inl rfl), hf⟩ ⟨⟨_, rfl, xbl_nar (Or.inl rfl)⟩, d_Reader_readAnds_88⟩
        · refine x_iconst X (v := 0) d_Reader_readAnds_56 (by decide) 57 rfl ?_
          exact hret _ _ _ _ _ (some (.int 0)) (Nat.le_refl 0) (Nat.le_refl 0) ⟨_, rfl, (Or.inl rfl), hf⟩ ⟨⟨_, rfl, xbl_nar (Or.inl rfl)⟩, d_Reader_readAnds_57⟩
    · refine x_iconst X (v := 0) d_Reader_readAnds_21 (by decide) 22 rfl ?_
      exact hret _ _ _ _ _ (some (.int 0)) (Nat.le_refl 0) (Nat.le_refl 0) ⟨_, rfl, (Or.inl rfl), hf⟩ ⟨⟨_, rfl, xbl_nar (Or.inl rfl)⟩, d_Reader_readAnds_22⟩
set_option maxRecDepth 100000 in
def wp_Reader_readAnds (z : Nat → Nat) (Q : Int32 → xh → Prop) (a0 : Nat) (hp : xh) : Prop :=
  wp_Reader_readAnds_2 z Q a0 0 hp
set_option maxRecDepth 100000 in
set_option maxHeartbeats 4000000 in
theorem t_Reader_readAnds {l : Launch} {G : xG} {z : Nat → Nat} {Q : Int32 → xh → Prop} {a0 : Nat} {hp : xh} (hf : wp_Reader_readAnds z Q a0 hp) : xM l G z y_Reader_readAnds b_Reader_readAnds 3 (some .boolean) rm_Reader_readAnds [.ref a0] hp (xqz Q) := by
  refine xM_of (by decide) (Nat.le_of_ble_eq_true rfl) (lv0 := [(0, .ref a0)]) rfl ?_
  intro p e s m args below meth c A Qw X hret
  unfold wp_Reader_readAnds at hf
  refine x_iconst X (v := 0) d_Reader_readAnds_0 (by decide) 1 rfl ?_
  refine x_istore_n X (lv' := [(1, .int 0), (0, .ref a0)]) d_Reader_readAnds_1 rfl (by decide) rfl 2 rfl ?_
  exact x_sub [1, 0] rfl (t_Reader_readAnds_2 X hret hf)

set_option maxRecDepth 100000 in
def wp_Reader_kindOf (z : Nat → Nat) (Q : Int32 → xh → Prop) (x0 : Int32) (hp : xh) : Prop :=
  (x0 = 105 → Q 0 hp) ∧ (¬ x0 = 105 → ((x0 = 108 → Q 1 hp) ∧ (¬ x0 = 108 → ((x0 = 111 → Q 2 hp) ∧ (¬ x0 = 111 → (Q (-1) hp))))))
set_option maxRecDepth 100000 in
set_option maxHeartbeats 4000000 in
theorem t_Reader_kindOf {l : Launch} {G : xG} {z : Nat → Nat} {Q : Int32 → xh → Prop} {x0 : Int32} {hp : xh} (hf : wp_Reader_kindOf z Q x0 hp) : xM l G z y_Reader_kindOf b_Reader_kindOf 1 (some .int) rm_Reader_kindOf [.int x0] hp (xqi Q) := by
  refine xM_of (by decide) (Nat.le_of_ble_eq_true rfl) (lv0 := [(0, .int x0)]) rfl ?_
  intro p e s m args below meth c A Qw X hret
  unfold wp_Reader_kindOf at hf
  refine x_iload_n X (q := 0) d_Reader_kindOf_0 rfl 1 rfl ?_
  refine x_ite hf (fun hx0 hf => ?_) (fun hx0 hf => ?_)
  · refine x_lsw X (off := 35) d_Reader_kindOf_1 (by decide) (by rw [hx0] <;> rfl) 36 (by decide) ?_
    refine x_iconst X (v := 0) d_Reader_kindOf_36 (by decide) 37 rfl ?_
    exact hret _ _ _ _ _ (some (.int 0)) (Nat.le_refl 0) (Nat.le_refl 0) ⟨_, rfl, hf⟩ ⟨⟨_, rfl, rfl⟩, d_Reader_kindOf_37⟩
  refine x_ite hf (fun hx1 hf => ?_) (fun hx1 hf => ?_)
  · refine x_lsw X (off := 37) d_Reader_kindOf_1 (by decide) (by rw [hx1] <;> rfl) 38 (by decide) ?_
    refine x_iconst X (v := 1) d_Reader_kindOf_38 (by decide) 39 rfl ?_
    exact hret _ _ _ _ _ (some (.int 1)) (Nat.le_refl 0) (Nat.le_refl 0) ⟨_, rfl, hf⟩ ⟨⟨_, rfl, rfl⟩, d_Reader_kindOf_39⟩
  refine x_ite hf (fun hx2 hf => ?_) (fun hx2 hf => ?_)
  · refine x_lsw X (off := 39) d_Reader_kindOf_1 (by decide) (by rw [hx2] <;> rfl) 40 (by decide) ?_
    refine x_iconst X (v := 2) d_Reader_kindOf_40 (by decide) 41 rfl ?_
    exact hret _ _ _ _ _ (some (.int 2)) (Nat.le_refl 0) (Nat.le_refl 0) ⟨_, rfl, hf⟩ ⟨⟨_, rfl, rfl⟩, d_Reader_kindOf_41⟩
  refine x_lsw X (off := 41) d_Reader_kindOf_1 (by decide) (by show Op.lookupswitch.offset [(105, 35), (108, 37), (111, 39)] 41 _ = _; rw [lv_osw hx0 (by decide : (105 : Int32).toInt = (105 : Int)), lv_osw hx1 (by decide : (108 : Int32).toInt = (108 : Int)), lv_osw hx2 (by decide : (111 : Int32).toInt = (111 : Int))] <;> rfl) 42 (by decide) ?_
  refine x_iconst X (v := (-1)) d_Reader_kindOf_42 (by decide) 43 rfl ?_
  exact hret _ _ _ _ _ (some (.int (-1))) (Nat.le_refl 0) (Nat.le_refl 0) ⟨_, rfl, hf⟩ ⟨⟨_, rfl, rfl⟩, d_Reader_kindOf_43⟩

set_option maxRecDepth 100000 in
def wp_Circuit_size (z : Nat → Nat) (Q : Int32 → xh → Prop) (a0 : Nat) (x1 : Int32) (hp : xh) : Prop :=
  (x1 = 0 → (∃ v1, fI hp a0 0 1 = some v1 ∧ Q v1 hp)) ∧ (¬ x1 = 0 → ((x1 = 1 → (∃ v2, fI hp a0 0 2 = some v2 ∧ Q v2 hp)) ∧ (¬ x1 = 1 → ((x1 = 2 → (∃ v3, fI hp a0 0 3 = some v3 ∧ Q v3 hp)) ∧ (¬ x1 = 2 → ((x1 = 3 → (∃ v4, fI hp a0 0 4 = some v4 ∧ Q v4 hp)) ∧ (¬ x1 = 3 → ((x1 = 4 → (∃ v5, fI hp a0 0 5 = some v5 ∧ Q v5 hp)) ∧ (¬ x1 = 4 → (Q (-1) hp))))))))))
set_option maxRecDepth 100000 in
set_option maxHeartbeats 4000000 in
theorem t_Circuit_size {l : Launch} {G : xG} {z : Nat → Nat} {Q : Int32 → xh → Prop} {a0 : Nat} {x1 : Int32} {hp : xh} (hf : wp_Circuit_size z Q a0 x1 hp) : xM l G z y_Circuit_size b_Circuit_size 2 (some .int) rm_Circuit_size [.ref a0, .int x1] hp (xqi Q) := by
  refine xM_of (by decide) (Nat.le_of_ble_eq_true rfl) (lv0 := [(0, .ref a0), (1, .int x1)]) rfl ?_
  intro p e s m args below meth c A Qw X hret
  unfold wp_Circuit_size at hf
  refine x_iload_n X (q := 1) d_Circuit_size_0 rfl 1 rfl ?_
  refine x_ite hf (fun hx0 hf => ?_) (fun hx0 hf => ?_)
  · refine x_tswIn X hx0 (off := 35) d_Circuit_size_1 (by decide) (by decide) (by decide) 36 (by decide) ?_
    refine x_aload_n X (q := 0) d_Circuit_size_36 rfl 37 rfl ?_
    refine x_getI X hf (ci := 0) (j := 1) rfl (by decide) rfl lf_Circuit_52 d_Circuit_size_37 40 rfl (fun v1 hf => ?_)
    exact hret _ _ _ _ _ (some (.int v1)) (Nat.le_refl 0) (Nat.le_refl 0) ⟨_, rfl, hf⟩ ⟨⟨_, rfl, rfl⟩, d_Circuit_size_40⟩
  refine x_ite hf (fun hx1 hf => ?_) (fun hx1 hf => ?_)
  · refine x_tswIn X hx1 (off := 40) d_Circuit_size_1 (by decide) (by decide) (by decide) 41 (by decide) ?_
    refine x_aload_n X (q := 0) d_Circuit_size_41 rfl 42 rfl ?_
    refine x_getI X hf (ci := 0) (j := 2) rfl (by decide) rfl lf_Circuit_56 d_Circuit_size_42 45 rfl (fun v2 hf => ?_)
    exact hret _ _ _ _ _ (some (.int v2)) (Nat.le_refl 0) (Nat.le_refl 0) ⟨_, rfl, hf⟩ ⟨⟨_, rfl, rfl⟩, d_Circuit_size_45⟩
  refine x_ite hf (fun hx2 hf => ?_) (fun hx2 hf => ?_)
  · refine x_tswIn X hx2 (off := 45) d_Circuit_size_1 (by decide) (by decide) (by decide) 46 (by decide) ?_
    refine x_aload_n X (q := 0) d_Circuit_size_46 rfl 47 rfl ?_
    refine x_getI X hf (ci := 0) (j := 3) rfl (by decide) rfl lf_Circuit_59 d_Circuit_size_47 50 rfl (fun v3 hf => ?_)
    exact hret _ _ _ _ _ (some (.int v3)) (Nat.le_refl 0) (Nat.le_refl 0) ⟨_, rfl, hf⟩ ⟨⟨_, rfl, rfl⟩, d_Circuit_size_50⟩
  refine x_ite hf (fun hx3 hf => ?_) (fun hx3 hf => ?_)
  · refine x_tswIn X hx3 (off := 50) d_Circuit_size_1 (by decide) (by decide) (by decide) 51 (by decide) ?_
    refine x_aload_n X (q := 0) d_Circuit_size_51 rfl 52 rfl ?_
    refine x_getI X hf (ci := 0) (j := 4) rfl (by decide) rfl lf_Circuit_62 d_Circuit_size_52 55 rfl (fun v4 hf => ?_)
    exact hret _ _ _ _ _ (some (.int v4)) (Nat.le_refl 0) (Nat.le_refl 0) ⟨_, rfl, hf⟩ ⟨⟨_, rfl, rfl⟩, d_Circuit_size_55⟩
  refine x_ite hf (fun hx4 hf => ?_) (fun hx4 hf => ?_)
  · refine x_tswIn X hx4 (off := 55) d_Circuit_size_1 (by decide) (by decide) (by decide) 56 (by decide) ?_
    refine x_aload_n X (q := 0) d_Circuit_size_56 rfl 57 rfl ?_
    refine x_getI X hf (ci := 0) (j := 5) rfl (by decide) rfl lf_Circuit_65 d_Circuit_size_57 60 rfl (fun v5 hf => ?_)
    exact hret _ _ _ _ _ (some (.int v5)) (Nat.le_refl 0) (Nat.le_refl 0) ⟨_, rfl, hf⟩ ⟨⟨_, rfl, rfl⟩, d_Circuit_size_60⟩
  refine x_tswOut X d_Circuit_size_1 (by have e0 := lv_neT hx0 (by decide : (0 : Int32).toInt = (0 : Int)); have e1 := lv_neT hx1 (by decide : (1 : Int32).toInt = (1 : Int)); have e2 := lv_neT hx2 (by decide : (2 : Int32).toInt = (2 : Int)); have e3 := lv_neT hx3 (by decide : (3 : Int32).toInt = (3 : Int)); have e4 := lv_neT hx4 (by decide : (4 : Int32).toInt = (4 : Int)); omega) 61 (by decide) ?_
  refine x_iconst X (v := (-1)) d_Circuit_size_61 (by decide) 62 rfl ?_
  exact hret _ _ _ _ _ (some (.int (-1))) (Nat.le_refl 0) (Nat.le_refl 0) ⟨_, rfl, hf⟩ ⟨⟨_, rfl, rfl⟩, d_Circuit_size_62⟩

set_option maxRecDepth 100000 in
def wp_Circuit_nameSlot (z : Nat → Nat) (Q : Int32 → xh → Prop) (a0 : Nat) (x1 : Int32) (x2 : Int32) (hp : xh) : Prop :=
  (x1 < 0 → (Q (-1) hp)) ∧ (¬ x1 < 0 → ((2 < x1 → (Q (-1) hp)) ∧ (¬ 2 < x1 → ((x2 < 0 → (Q (-1) hp)) ∧ (¬ x2 < 0 → (xcls hp a0 0 ∧ wp_Circuit_size z (fun v2 h1 => (x2 < v2 → (∃ v3, aI h1 (z 0) 0 x1 = some v3 ∧ (Q (v3 + x2) h1))) ∧ (¬ x2 < v2 → (Q (-1) h1))) a0 (x1 + 1) hp))))))
set_option maxRecDepth 100000 in
set_option maxHeartbeats 4000000 in
theorem t_Circuit_nameSlot {l : Launch} {G : xG} {z : Nat → Nat} {Q : Int32 → xh → Prop} {a0 : Nat} {x1 : Int32} {x2 : Int32} {hp : xh} (hf : wp_Circuit_nameSlot z Q a0 x1 x2 hp) : xM l G z y_Circuit_nameSlot b_Circuit_nameSlot 3 (some .int) rm_Circuit_nameSlot [.ref a0, .int x1, .int x2] hp (xqi Q) := by
  refine xM_of (by decide) (Nat.le_of_ble_eq_true rfl) (lv0 := [(0, .ref a0), (1, .int x1), (2, .int x2)]) rfl ?_
  intro p e s m args below meth c A Qw X hret
  unfold wp_Circuit_nameSlot at hf
  refine x_iload_n X (q := 1) d_Circuit_nameSlot_0 rfl 1 rfl ?_
  refine x_if_lt X hf d_Circuit_nameSlot_1 24 4 (by decide) rfl (fun hf => ?_) (fun hf => ?_)
  · refine x_iconst X (v := (-1)) d_Circuit_nameSlot_24 (by decide) 25 rfl ?_
    exact hret _ _ _ _ _ (some (.int (-1))) (Nat.le_refl 0) (Nat.le_refl 0) ⟨_, rfl, hf⟩ ⟨⟨_, rfl, rfl⟩, d_Circuit_nameSlot_25⟩
  · refine x_iload_n X (q := 1) d_Circuit_nameSlot_4 rfl 5 rfl ?_
    refine x_iconst X (v := 2) d_Circuit_nameSlot_5 (by decide) 6 rfl ?_
    refine x_icmp_gt X hf d_Circuit_nameSlot_6 24 9 (by decide) rfl (fun hf => ?_) (fun hf => ?_)
    · refine x_iconst X (v := (-1)) d_Circuit_nameSlot_24 (by decide) 25 rfl ?_
      exact hret _ _ _ _ _ (some (.int (-1))) (Nat.le_refl 0) (Nat.le_refl 0) ⟨_, rfl, hf⟩ ⟨⟨_, rfl, rfl⟩, d_Circuit_nameSlot_25⟩
    · refine x_iload_n X (q := 2) d_Circuit_nameSlot_9 rfl 10 rfl ?_
      refine x_if_lt X hf d_Circuit_nameSlot_10 24 13 (by decide) rfl (fun hf => ?_) (fun hf => ?_)
      · refine x_iconst X (v := (-1)) d_Circuit_nameSlot_24 (by decide) 25 rfl ?_
        exact hret _ _ _ _ _ (some (.int (-1))) (Nat.le_refl 0) (Nat.le_refl 0) ⟨_, rfl, hf⟩ ⟨⟨_, rfl, rfl⟩, d_Circuit_nameSlot_25⟩
      · refine x_iload_n X (q := 2) d_Circuit_nameSlot_13 rfl 14 rfl ?_
        refine x_aload_n X (q := 0) d_Circuit_nameSlot_14 rfl 15 rfl ?_
        refine x_iload_n X (q := 1) d_Circuit_nameSlot_15 rfl 16 rfl ?_
        refine x_iconst X (v := 1) d_Circuit_nameSlot_16 (by decide) 17 rfl ?_
        refine x_iadd X d_Circuit_nameSlot_17 18 rfl ?_
        refine x_callV0i X (t_Circuit_size hf.2) hf.1 (ci := 0) rfl rfl lm_Circuit_68 im_Circuit_size sl_Circuit_size cd_Circuit_size in_Circuit ds_Circuit_size rfl rfl (Nat.le_of_ble_eq_true rfl) (Nat.le_of_ble_eq_true rfl) (Nat.le_of_ble_eq_true rfl) rfl rfl (Nat.le_refl 0) (Nat.le_refl 0) d_Circuit_nameSlot_18 21 rfl (fun v2 h1 hf => ?_)
        refine x_icmp_lt X hf d_Circuit_nameSlot_21 26 24 (by decide) rfl (fun hf => ?_) (fun hf => ?_)
        · refine x_getsN X (i := 0) rfl lf_Circuit_72 d_Circuit_nameSlot_26 29 rfl ?_
          refine x_iload_n X (q := 1) d_Circuit_nameSlot_29 rfl 30 rfl ?_
          refine x_iald X hf d_Circuit_nameSlot_30 31 rfl (fun v3 hf => ?_)
          refine x_iload_n X (q := 2) d_Circuit_nameSlot_31 rfl 32 rfl ?_
          refine x_iadd X d_Circuit_nameSlot_32 33 rfl ?_
          exact hret _ _ _ _ _ (some (.int (v3 + x2))) (Nat.le_refl 0) (Nat.le_refl 0) ⟨_, rfl, hf⟩ ⟨⟨_, rfl, rfl⟩, d_Circuit_nameSlot_33⟩
        · refine x_iconst X (v := (-1)) d_Circuit_nameSlot_24 (by decide) 25 rfl ?_
          exact hret _ _ _ _ _ (some (.int (-1))) (Nat.le_refl 0) (Nat.le_refl 0) ⟨_, rfl, hf⟩ ⟨⟨_, rfl, rfl⟩, d_Circuit_nameSlot_25⟩

set_option maxRecDepth 100000 in
def wp_Reader_readName_66 (z : Nat → Nat) (Q : Int32 → xh → Prop)  (a0 : Nat) (x1 : Int32) (x2 : Int32) (hp : xh) : Prop :=
  ∃ o1, fR hp a0 5 2 = some o1 ∧ (∃ o2, fR hp o1 0 15 = some o2 ∧ (∃ h3, sI hp o2 0 x1 x2 = some h3 ∧ ((x2 ≤ 0 → (∃ v4, fI h3 a0 5 8 = some v4 ∧ (xcls h3 a0 5 ∧ wp_Reader_fail z (fun v6 h5 => Q v6 h5) a0 1 v4 h3))) ∧ (¬ x2 ≤ 0 → (xcls h3 a0 5 ∧ wp_Reader_pass z (fun v9 h8 => Q v9 h8) a0 10 h3)))))
set_option maxRecDepth 100000 in
set_option maxHeartbeats 4000000 in
theorem t_Reader_readName_66 {p : Program} {l : Launch} {e : Env} {s : State} {m : MethodId} {args : Array Value} {below : List Frame} {meth : Method} {c : Code} {G : xG} {z : Nat → Nat} {A : Nat → Prop} {Qw : State → Prop} {Q : Int32 → xh → Prop} {a0 : Nat} {x1 : Int32} {x2 : Int32} {hp : xh} (X : xX p l e rm_Reader_readName s m args below meth c G z A y_Reader_readName b_Reader_readName 4) (hret : xRet p l e rm_Reader_readName s m args below meth c G A 4 Qw b_Reader_readName (some .boolean) (xqz Q))  (hf : wp_Reader_readName_66 z Q  a0 x1 x2 hp) : xE p l e rm_Reader_readName s m args below meth c G A 4 Qw 0 0 hp 66 [(0, .ref a0), (1, .int x1), (2, .int x2)] [] := by
  unfold wp_Reader_readName_66 at hf
  refine x_aload_n X (q := 0) d_Reader_readName_66 rfl 67 rfl ?_
  refine x_getR X hf (ci := 5) (j := 2) rfl (by decide) rfl lf_Reader_21 d_Reader_readName_67 70 rfl (fun o1 hf => ?_)
  refine x_getR X hf (ci := 0) (j := 15) rfl (by decide) rfl lf_Reader_192 d_Reader_readName_70 73 rfl (fun o2 hf => ?_)
  refine x_iload_n X (q := 1) d_Reader_readName_73 rfl 74 rfl ?_
  refine x_iload_n X (q := 2) d_Reader_readName_74 rfl 75 rfl ?_
  refine x_iast X hf d_Reader_readName_75 76 rfl (fun h3 hf => ?_)
  refine x_iload_n X (q := 2) d_Reader_readName_76 rfl 77 rfl ?_
  refine x_if_le X hf d_Reader_readName_77 89 80 (by decide) rfl (fun hf => ?_) (fun hf => ?_)
  · refine x_aload_n X (q := 0) d_Reader_readName_89 rfl 90 rfl ?_
    refine x_iconst X (v := 1) d_Reader_readName_90 (by decide) 91 rfl ?_
    refine x_aload_n X (q := 0) d_Reader_readName_91 rfl 92 rfl ?_
    refine x_getI X hf (ci := 5) (j := 8) rfl (by decide) rfl lf_Reader_46 d_Reader_readName_92 95 rfl (fun v4 hf => ?_)
    refine x_callV0z X (t_Reader_fail hf.2) hf.1 (ci := 5) rfl rfl lm_Reader_101 im_Reader_fail sl_Reader_fail cd_Reader_fail in_Reader ds_Reader_fail rfl rfl (Nat.le_of_ble_eq_true rfl) (Nat.le_of_ble_eq_true rfl) (Nat.le_of_ble_eq_true rfl) rfl rfl (Nat.le_refl 0) (Nat.le_refl 0) d_Reader_readName_95 98 rfl (fun v6 h5 hb7 hf => ?_)
    exact hret _ _ _ _ _ (some (.int v6)) (Nat.le_refl 0) (Nat.le_refl 0) ⟨_, rfl, hb7, hf⟩ ⟨⟨_, rfl, xbl_nar hb7⟩, d_Reader_readName_98⟩
  · refine x_aload_n X (q := 0) d_Reader_readName_80 rfl 81 rfl ?_
    refine x_bipush X (v := 10) d_Reader_readName_81 (by decide) 83 rfl ?_
    refine x_callV0z X (t_Reader_pass hf.2) hf.1 (ci := 5) rfl rfl lm_Reader_115 im_Reader_pass sl_Reader_pass cd_Reader_pass in_Reader ds_Reader_pass rfl rfl (Nat.le_of_ble_eq_true rfl) (Nat.le_of_ble_eq_true rfl) (Nat.le_of_ble_eq_true rfl) rfl rfl (Nat.le_refl 0) (Nat.le_refl 0) d_Reader_readName_83 86 rfl (fun v9 h8 hb10 hf => ?_)
    refine x_goto X d_Reader_readName_86 98 (by decide) ?_
    exact hret _ _ _ _ _ (some (.int v9)) (Nat.le_refl 0) (Nat.le_refl 0) ⟨_, rfl, hb10, hf⟩ ⟨⟨_, rfl, xbl_nar hb10⟩, d_Reader_readName_98⟩
set_option maxRecDepth 100000 in
def wp_Reader_readName_2_b (z : Nat → Nat) (Q : Int32 → xh → Prop)  (k2 : Nat × Int32 × Int32 × xh → Prop) (a0 : Nat) (x1 : Int32) (x2 : Int32) (hp : xh) : Prop :=
  (40 ≤ x2 → wp_Reader_readName_66 z Q a0 x1 x2 hp) ∧ (¬ 40 ≤ x2 → (∃ o1, fR hp a0 5 0 = some o1 ∧ (∃ v2, fI hp a0 5 8 = some v2 ∧ (xcls hp o1 8 ∧ wp_Tape_at z (fun v4 h3 => (v4 = (-1) → wp_Reader_readName_66 z Q a0 x1 x2 h3) ∧ (¬ v4 = (-1) → ((¬ v4 = 10 → (∃ o5, fR h3 a0 5 2 = some o5 ∧ (∃ o6, fR h3 o5 0 14 = some o6 ∧ (∃ h7, sI h3 o6 1 ((x1 * 40) + x2) (vp_nar .byte (v4.toInt8.toInt32)) = some h7 ∧ (∃ v8, fI h7 a0 5 8 = some v8 ∧ (∃ h9, pV h7 a0 5 8 (.int (v8 + 1)) = some h9 ∧ (k2 (a0, x1, (x2 + 1), h9)))))))) ∧ (v4 = 10 → wp_Reader_readName_66 z Q a0 x1 x2 h3)))) o1 v2 hp))))
set_option maxRecDepth 100000 in
def wp_Reader_readName_2 (z : Nat → Nat) (Q : Int32 → xh → Prop)  (a0 : Nat) (x1 : Int32) (x2 : Int32) (hp : xh) : Prop := ∃ f : Nat, xloop (fun k2 a => wp_Reader_readName_2_b z Q  k2 a.1 a.2.1 a.2.2.1 a.2.2.2) f (a0, x1, x2, hp)
set_option maxRecDepth 100000 in
set_option maxHeartbeats 4000000 in
theorem t_Reader_readName_2 {p : Program} {l : Launch} {e : Env} {s : State} {m : MethodId} {args : Array Value} {below : List Frame} {meth : Method} {c : Code} {G : xG} {z : Nat → Nat} {A : Nat → Prop} {Qw : State → Prop} {Q : Int32 → xh → Prop} {a0 : Nat} {x1 : Int32} {x2 : Int32} {hp : xh} (X : xX p l e rm_Reader_readName s m args below meth c G z A y_Reader_readName b_Reader_readName 4) (hret : xRet p l e rm_Reader_readName s m args below meth c G A 4 Qw b_Reader_readName (some .boolean) (xqz Q))  (hf : wp_Reader_readName_2 z Q  a0 x1 x2 hp) : xE p l e rm_Reader_readName s m args below meth c G A 4 Qw 0 0 hp 2 [(0, .ref a0), (1, .int x1), (2, .int x2)] [] := by
  obtain ⟨f, hf⟩ := hf
  refine xloop_ind (F := fun k2 a => wp_Reader_readName_2_b z Q  k2 a.1 a.2.1 a.2.2.1 a.2.2.2) (E := fun a => xE p l e rm_Reader_readName s m args below meth c G A 4 Qw 0 0 a.2.2.2 2 [(0, .ref (a.1)), (1, .int (a.2.1)), (2, .int (a.2.2.1))] []) ?_ f (a0, x1, x2, hp) hf
  intro k2 hk a hf
  obtain ⟨a0, x1, x2, hp⟩ := a
  have hk2 : ∀ (a0 : Nat) (x1 : Int32) (x2 : Int32) (hp : xh), k2 (a0, x1, x2, hp) → xE p l e rm_Reader_readName s m args below meth c G A 4 Qw 0 0 hp 2 [(0, .ref a0), (1, .int x1), (2, .int x2)] [] := fun a0 x1 x2 hp h => hk (a0, x1, x2, hp) h
  have hf : wp_Reader_readName_2_b z Q  k2 a0 x1 x2 hp := hf
  unfold wp_Reader_readName_2_b at hf
  refine x_iload_n X (q := 2) d_Reader_readName_2 rfl 3 rfl ?_
  refine x_bipush X (v := 40) d_Reader_readName_3 (by decide) 5 rfl ?_
  refine x_icmp_ge X hf d_Reader_readName_5 66 8 (by decide) rfl (fun hf => ?_) (fun hf => ?_)
  · exact x_sub [0, 1, 2] rfl (t_Reader_readName_66 X hret hf)
  · refine x_aload_n X (q := 0) d_Reader_readName_8 rfl 9 rfl ?_
    refine x_getR X hf (ci := 5) (j := 0) rfl (by decide) rfl lf_Reader_39 d_Reader_readName_9 12 rfl (fun o1 hf => ?_)
    refine x_aload_n X (q := 0) d_Reader_readName_12 rfl 13 rfl ?_
    refine x_getI X hf (ci := 5) (j := 8) rfl (by decide) rfl lf_Reader_46 d_Reader_readName_13 16 rfl (fun v2 hf => ?_)
    refine x_callV0i X (t_Tape_at hf.2) hf.1 (ci := 8) rfl rfl lm_Reader_96 im_Tape_at sl_Tape_at cd_Tape_at in_Tape ds_Tape_at rfl rfl (Nat.le_of_ble_eq_true rfl) (Nat.le_of_ble_eq_true rfl) (Nat.le_of_ble_eq_true rfl) rfl rfl (Nat.le_refl 0) (Nat.le_refl 0) d_Reader_readName_16 19 rfl (fun v4 h3 hf => ?_)
    refine x_istore_n X (lv' := [(3, .int v4), (0, .ref a0), (1, .int x1), (2, .int x2)]) d_Reader_readName_19 rfl (by decide) rfl 20 rfl ?_
    refine x_iload_n X (q := 0) d_Reader_readName_20 rfl 21 rfl ?_
    refine x_iconst X (v := (-1)) d_Reader_readName_21 (by decide) 22 rfl ?_
    refine x_icmp_eq X hf d_Reader_readName_22 66 25 (by decide) rfl (fun hf => ?_) (fun hf => ?_)
    · exact x_sub [1, 2, 3] rfl (t_Reader_readName_66 X hret hf)
    · refine x_iload_n X (q := 0) d_Reader_readName_25 rfl 26 rfl ?_
      refine x_bipush X (v := 10) d_Reader_readName_26 (by decide) 28 rfl ?_
      refine x_icmp_ne X hf d_Reader_readName_28 34 31 (by decide) rfl (fun hf => ?_) (fun hf => ?_)
      · refine x_aload_n X (q := 1) d_Reader_readName_34 rfl 35 rfl ?_
        refine x_getR X hf (ci := 5) (j := 2) rfl (by decide) rfl lf_Reader_21 d_Reader_readName_35 38 rfl (fun o5 hf => ?_)
        refine x_getR X hf (ci := 0) (j := 14) rfl (by decide) rfl lf_Reader_198 d_Reader_readName_38 41 rfl (fun o6 hf => ?_)
        refine x_iload_n X (q := 2) d_Reader_readName_41 rfl 42 rfl ?_
        refine x_bipush X (v := 40) d_Reader_readName_42 (by decide) 44 rfl ?_
        refine x_imul X d_Reader_readName_44 45 rfl ?_
        refine x_iload_n X (q := 3) d_Reader_readName_45 rfl 46 rfl ?_
        refine x_iadd X d_Reader_readName_46 47 rfl ?_
        refine x_iload_n X (q := 0) d_Reader_readName_47 rfl 48 rfl ?_
        refine x_i2b X d_Reader_readName_48 49 rfl ?_
        refine x_bast X hf d_Reader_readName_49 50 rfl (fun h7 hf => ?_)
        refine x_aload_n X (q := 1) d_Reader_readName_50 rfl 51 rfl ?_
        refine x_dup X rfl d_Reader_readName_51 52 rfl ?_
        refine x_getI X hf (ci := 5) (j := 8) rfl (by decide) rfl lf_Reader_46 d_Reader_readName_52 55 rfl (fun v8 hf => ?_)
        refine x_iconst X (v := 1) d_Reader_readName_55 (by decide) 56 rfl ?_
        refine x_iadd X d_Reader_readName_56 57 rfl ?_
        refine x_put X hf (ci := 5) (j := 8) (ty := .int) rfl (by decide) rfl lf_Reader_46 rfl (by decide +kernel) rfl rfl d_Reader_readName_57 60 rfl (fun h9 hf => ?_)
        refine x_iinc X (q := 3) (v := (x2 + 1)) (lv' := [(2, .int (x2 + 1)), (3, .int v4), (0, .ref a0), (1, .int x1)]) d_Reader_readName_60 rfl (by rfl) (by decide) rfl 63 rfl ?_
        refine x_goto X d_Reader_readName_63 2 (by decide) ?_
        exact x_sub [2, 3, 0] rfl (hk2 _ _ _ _ hf)
      · refine x_goto X d_Reader_readName_31 66 (by decide) ?_
        exact x_sub [1, 2, 3] rfl (t_Reader_readName_66 X hret hf)
set_option maxRecDepth 100000 in
def wp_Reader_readName (z : Nat → Nat) (Q : Int32 → xh → Prop) (a0 : Nat) (x1 : Int32) (hp : xh) : Prop :=
  wp_Reader_readName_2 z Q a0 x1 0 hp
set_option maxRecDepth 100000 in
set_option maxHeartbeats 4000000 in
theorem t_Reader_readName {l : Launch} {G : xG} {z : Nat → Nat} {Q : Int32 → xh → Prop} {a0 : Nat} {x1 : Int32} {hp : xh} (hf : wp_Reader_readName z Q a0 x1 hp) : xM l G z y_Reader_readName b_Reader_readName 4 (some .boolean) rm_Reader_readName [.ref a0, .int x1] hp (xqz Q) := by
  refine xM_of (by decide) (Nat.le_of_ble_eq_true rfl) (lv0 := [(0, .ref a0), (1, .int x1)]) rfl ?_
  intro p e s m args below meth c A Qw X hret
  unfold wp_Reader_readName at hf
  refine x_iconst X (v := 0) d_Reader_readName_0 (by decide) 1 rfl ?_
  refine x_istore_n X (lv' := [(2, .int 0), (0, .ref a0), (1, .int x1)]) d_Reader_readName_1 rfl (by decide) rfl 2 rfl ?_
  exact x_sub [1, 2, 0] rfl (t_Reader_readName_2 X hret hf)

set_option maxRecDepth 100000 in
def wp_Reader_readSymbol_79 (z : Nat → Nat) (Q : Int32 → xh → Prop)  (a0 : Nat) (hp : xh) : Prop :=
  ∃ v1, fI hp a0 5 8 = some v1 ∧ (xcls hp a0 5 ∧ wp_Reader_fail z (fun v3 h2 => Q v3 h2) a0 1 v1 hp)
set_option maxRecDepth 100000 in
set_option maxHeartbeats 4000000 in
theorem t_Reader_readSymbol_79 {p : Program} {l : Launch} {e : Env} {s : State} {m : MethodId} {args : Array Value} {below : List Frame} {meth : Method} {c : Code} {G : xG} {z : Nat → Nat} {A : Nat → Prop} {Qw : State → Prop} {Q : Int32 → xh → Prop} {a0 : Nat} {hp : xh} (X : xX p l e rm_Reader_readSymbol s m args below meth c G z A y_Reader_readSymbol b_Reader_readSymbol 3) (hret : xRet p l e rm_Reader_readSymbol s m args below meth c G A 3 Qw b_Reader_readSymbol (some .boolean) (xqz Q))  (hf : wp_Reader_readSymbol_79 z Q  a0 hp) : xE p l e rm_Reader_readSymbol s m args below meth c G A 3 Qw 0 0 hp 79 [(0, .ref a0)] [] := by
  unfold wp_Reader_readSymbol_79 at hf
  refine x_aload_n X (q := 0) d_Reader_readSymbol_79 rfl 80 rfl ?_
  refine x_iconst X (v := 1) d_Reader_readSymbol_80 (by decide) 81 rfl ?_
  refine x_aload_n X (q := 0) d_Reader_readSymbol_81 rfl 82 rfl ?_
  refine x_getI X hf (ci := 5) (j := 8) rfl (by decide) rfl lf_Reader_46 d_Reader_readSymbol_82 85 rfl (fun v1 hf => ?_)
  refine x_callV0z X (t_Reader_fail hf.2) hf.1 (ci := 5) rfl rfl lm_Reader_101 im_Reader_fail sl_Reader_fail cd_Reader_fail in_Reader ds_Reader_fail rfl rfl (Nat.le_of_ble_eq_true rfl) (Nat.le_of_ble_eq_true rfl) (Nat.le_of_ble_eq_true rfl) rfl rfl (Nat.le_refl 0) (Nat.le_refl 0) d_Reader_readSymbol_85 88 rfl (fun v3 h2 hb4 hf => ?_)
  exact hret _ _ _ _ _ (some (.int v3)) (Nat.le_refl 0) (Nat.le_refl 0) ⟨_, rfl, hb4, hf⟩ ⟨⟨_, rfl, xbl_nar hb4⟩, d_Reader_readSymbol_88⟩
set_option maxRecDepth 100000 in
def wp_Reader_readSymbol (z : Nat → Nat) (Q : Int32 → xh → Prop) (a0 : Nat) (hp : xh) : Prop :=
  ∃ o1, fR hp a0 5 0 = some o1 ∧ (∃ v2, fI hp a0 5 8 = some v2 ∧ (xcls hp o1 8 ∧ wp_Tape_at z (fun v4 h3 => wp_Reader_kindOf z (fun v6 h5 => (¬ v6 = (-1) → (∃ v7, fI h5 a0 5 8 = some v7 ∧ (∃ h8, pV h5 a0 5 8 (.int (v7 + 1)) = some h8 ∧ (xcls h8 a0 5 ∧ wp_Reader_readNumber z (fun v10 h9 => (¬ v10 = 0 → (∃ o12, fR h9 a0 5 2 = some o12 ∧ (∃ v13, fI h9 a0 5 9 = some v13 ∧ (xcls h9 o12 0 ∧ wp_Circuit_nameSlot z (fun v15 h14 => (v15 = (-1) → wp_Reader_readSymbol_79 z Q a0 h14) ∧ (¬ v15 = (-1) → (∃ o16, fR h14 a0 5 2 = some o16 ∧ (∃ o17, fR h14 o16 0 15 = some o17 ∧ (∃ v18, aI h14 o17 0 v15 = some v18 ∧ ((v18 ≤ 0 → (xcls h14 a0 5 ∧ wp_Reader_pass z (fun v20 h19 => (v20 = 0 → Q 0 h19) ∧ (¬ v20 = 0 → (xcls h19 a0 5 ∧ wp_Reader_readName z (fun v23 h22 => (v23 = 0 → Q 0 h22) ∧ (¬ v23 = 0 → Q 1 h22)) a0 v15 h19))) a0 32 h14)) ∧ (¬ v18 ≤ 0 → wp_Reader_readSymbol_79 z Q a0 h14))))))) o12 v6 v13 h9)))) ∧ (v10 = 0 → Q 0 h9)) a0 h8)))) ∧ (v6 = (-1) → (∃ v25, fI h5 a0 5 8 = some v25 ∧ (xcls h5 a0 5 ∧ wp_Reader_fail z (fun v27 h26 => Q v27 h26) a0 1 v25 h5)))) v4 h3) o1 v2 hp))
set_option maxRecDepth 100000 in
set_option maxHeartbeats 4000000 in
theorem t_Reader_readSymbol {l : Launch} {G : xG} {z : Nat → Nat} {Q : Int32 → xh → Prop} {a0 : Nat} {hp : xh} (hf : wp_Reader_readSymbol z Q a0 hp) : xM l G z y_Reader_readSymbol b_Reader_readSymbol 3 (some .boolean) rm_Reader_readSymbol [.ref a0] hp (xqz Q) := by
  refine xM_of (by decide) (Nat.le_of_ble_eq_true rfl) (lv0 := [(0, .ref a0)]) rfl ?_
  intro p e s m args below meth c A Qw X hret
  unfold wp_Reader_readSymbol at hf
  refine x_aload_n X (q := 0) d_Reader_readSymbol_0 rfl 1 rfl ?_
  refine x_getR X hf (ci := 5) (j := 0) rfl (by decide) rfl lf_Reader_39 d_Reader_readSymbol_1 4 rfl (fun o1 hf => ?_)
  refine x_aload_n X (q := 0) d_Reader_readSymbol_4 rfl 5 rfl ?_
  refine x_getI X hf (ci := 5) (j := 8) rfl (by decide) rfl lf_Reader_46 d_Reader_readSymbol_5 8 rfl (fun v2 hf => ?_)
  refine x_callV0i X (t_Tape_at hf.2) hf.1 (ci := 8) rfl rfl lm_Reader_96 im_Tape_at sl_Tape_at cd_Tape_at in_Tape ds_Tape_at rfl rfl (Nat.le_of_ble_eq_true rfl) (Nat.le_of_ble_eq_true rfl) (Nat.le_of_ble_eq_true rfl) rfl rfl (Nat.le_refl 0) (Nat.le_refl 0) d_Reader_readSymbol_8 11 rfl (fun v4 h3 hf => ?_)
  refine x_callS0i X (t_Reader_kindOf hf) lm_Reader_185 im_Reader_kindOf cd_Reader_kindOf in_Reader ds_Reader_kindOf rfl rfl (Nat.le_of_ble_eq_true rfl) (Nat.le_of_ble_eq_true rfl) (Nat.le_of_ble_eq_true rfl) rfl rfl (Nat.le_refl 0) (Nat.le_refl 0) d_Reader_readSymbol_11 14 rfl (fun v6 h5 hf => ?_)
  refine x_istore_n X (lv' := [(1, .int v6), (0, .ref a0)]) d_Reader_readSymbol_14 rfl (by decide) rfl 15 rfl ?_
  refine x_iload_n X (q := 0) d_Reader_readSymbol_15 rfl 16 rfl ?_
  refine x_iconst X (v := (-1)) d_Reader_readSymbol_16 (by decide) 17 rfl ?_
  refine x_icmp_ne X hf d_Reader_readSymbol_17 30 20 (by decide) rfl (fun hf => ?_) (fun hf => ?_)
  · refine x_aload_n X (q := 1) d_Reader_readSymbol_30 rfl 31 rfl ?_
    refine x_dup X rfl d_Reader_readSymbol_31 32 rfl ?_
    refine x_getI X hf (ci := 5) (j := 8) rfl (by decide) rfl lf_Reader_46 d_Reader_readSymbol_32 35 rfl (fun v7 hf => ?_)
    refine x_iconst X (v := 1) d_Reader_readSymbol_35 (by decide) 36 rfl ?_
    refine x_iadd X d_Reader_readSymbol_36 37 rfl ?_
    refine x_put X hf (ci := 5) (j := 8) (ty := .int) rfl (by decide) rfl lf_Reader_46 rfl (by decide +kernel) rfl rfl d_Reader_readSymbol_37 40 rfl (fun h8 hf => ?_)
    refine x_aload_n X (q := 1) d_Reader_readSymbol_40 rfl 41 rfl ?_
    refine x_callV0z X (t_Reader_readNumber hf.2) hf.1 (ci := 5) rfl rfl lm_Reader_118 im_Reader_readNumber sl_Reader_readNumber cd_Reader_readNumber in_Reader ds_Reader_readNumber rfl rfl (Nat.le_of_ble_eq_true rfl) (Nat.le_of_ble_eq_true rfl) (Nat.le_of_ble_eq_true rfl) rfl rfl (Nat.le_refl 0) (Nat.le_refl 0) d_Reader_readSymbol_41 44 rfl (fun v10 h9 hb11 hf => ?_)
    refine x_if_ne X hf d_Reader_readSymbol_44 49 47 (by decide) rfl (fun hf => ?_) (fun hf => ?_)
    · refine x_aload_n X (q := 1) d_Reader_readSymbol_49 rfl 50 rfl ?_
      refine x_getR X hf (ci := 5) (j := 2) rfl (by decide) rfl lf_Reader_21 d_Reader_readSymbol_50 53 rfl (fun o12 hf => ?_)
      refine x_iload_n X (q := 0) d_Reader_readSymbol_53 rfl 54 rfl ?_
      refine x_aload_n X (q := 1) d_Reader_readSymbol_54 rfl 55 rfl ?_
      refine x_getI X hf (ci := 5) (j := 9) rfl (by decide) rfl lf_Reader_108 d_Reader_readSymbol_55 58 rfl (fun v13 hf => ?_)
      refine x_callV0i X (t_Circuit_nameSlot hf.2) hf.1 (ci := 0) rfl rfl lm_Reader_188 im_Circuit_nameSlot sl_Circuit_nameSlot cd_Circuit_nameSlot in_Circuit ds_Circuit_nameSlot rfl rfl (Nat.le_of_ble_eq_true rfl) (Nat.le_of_ble_eq_true rfl) (Nat.le_of_ble_eq_true rfl) rfl rfl (Nat.le_refl 0) (Nat.le_refl 0) d_Reader_readSymbol_58 61 rfl (fun v15 h14 hf => ?_)
      refine x_istore_n X (lv' := [(2, .int v15), (1, .int v6), (0, .ref a0)]) d_Reader_readSymbol_61 rfl (by decide) rfl 62 rfl ?_
      refine x_iload_n X (q := 0) d_Reader_readSymbol_62 rfl 63 rfl ?_
      refine x_iconst X (v := (-1)) d_Reader_readSymbol_63 (by decide) 64 rfl ?_
      refine x_icmp_eq X hf d_Reader_readSymbol_64 79 67 (by decide) rfl (fun hf => ?_) (fun hf => ?_)
      · exact x_sub [2] rfl (t_Reader_readSymbol_79 X hret hf)
      · refine x_aload_n X (q := 2) d_Reader_readSymbol_67 rfl 68 rfl ?_
        refine x_getR X hf (ci := 5) (j := 2) rfl (by decide) rfl lf_Reader_21 d_Reader_readSymbol_68 71 rfl (fun o16 hf => ?_)
        refine x_getR X hf (ci := 0) (j := 15) rfl (by decide) rfl lf_Reader_192 d_Reader_readSymbol_71 74 rfl (fun o17 hf => ?_)
        refine x_iload_n X (q := 0) d_Reader_readSymbol_74 rfl 75 rfl ?_
        refine x_iald X hf d_Reader_readSymbol_75 76 rfl (fun v18 hf => ?_)
        refine x_if_le X hf d_Reader_readSymbol_76 89 79 (by decide) rfl (fun hf => ?_) (fun hf => ?_)
        · refine x_aload_n X (q := 2) d_Reader_readSymbol_89 rfl 90 rfl ?_
          refine x_bipush X (v := 32) d_Reader_readSymbol_90 (by decide) 92 rfl ?_
          refine x_callV0z X (t_Reader_pass hf.2) hf.1 (ci := 5) rfl rfl lm_Reader_115 im_Reader_pass sl_Reader_pass cd_Reader_pass in_Reader ds_Reader_pass rfl rfl (Nat.le_of_ble_eq_true rfl) (Nat.le_of_ble_eq_true rfl) (Nat.le_of_ble_eq_true rfl) rfl rfl (Nat.le_refl 0) (Nat.le_refl 0) d_Reader_readSymbol_92 95 rfl (fun v20 h19 hb21 hf => ?_)
          refine x_if_eq X hf d_Reader_readSymbol_95 110 98 (by decide) rfl (fun hf => ?_) (fun hf => ?_)
          · refine x_iconst X (v := 0) d_Reader_readSymbol_110 (by decide) 111 rfl ?_
            exact hret _ _ _ _ _ (some (.int 0)) (Nat.le_refl 0) (Nat.le_refl 0) ⟨_, rfl, (Or.inl rfl), hf⟩ ⟨⟨_, rfl, xbl_nar (Or.inl rfl)⟩, d_Reader_readSymbol_111⟩
          · refine x_aload_n X (q := 2) d_Reader_readSymbol_98 rfl 99 rfl ?_
            refine x_iload_n X (q := 0) d_Reader_readSymbol_99 rfl 100 rfl ?_
            refine x_callV0z X (t_Reader_readName hf.2) hf.1 (ci := 5) rfl rfl lm_Reader_195 im_Reader_readName sl_Reader_readName cd_Reader_readName in_Reader ds_Reader_readName rfl rfl (Nat.le_of_ble_eq_true rfl) (Nat.le_of_ble_eq_true rfl) (Nat.le_of_ble_eq_true rfl) rfl rfl (Nat.le_refl 0) (Nat.le_refl 0) d_Reader_readSymbol_100 103 rfl (fun v23 h22 hb24 hf => ?_)
            refine x_if_eq X hf d_Reader_readSymbol_103 110 106 (by decide) rfl (fun hf => ?_) (fun hf => ?_)
            · refine x_iconst X (v := 0) d_Reader_readSymbol_110 (by decide) 111 rfl ?_
              exact hret _ _ _ _ _ (some (.int 0)) (Nat.le_refl 0) (Nat.le_refl 0) ⟨_, rfl, (Or.inl rfl), hf⟩ ⟨⟨_, rfl, xbl_nar (Or.inl rfl)⟩, d_Reader_readSymbol_111⟩
            · refine x_iconst X (v := 1) d_Reader_readSymbol_106 (by decide) 107 rfl ?_
              refine x_goto X d_Reader_readSymbol_107 111 (by decide) ?_
              exact hret _ _ _ _ _ (some (.int 1)) (Nat.le_refl 0) (Nat.le_refl 0) ⟨_, rfl, (Or.inr rfl), hf⟩ ⟨⟨_, rfl, xbl_nar (Or.inr rfl)⟩, d_Reader_readSymbol_111⟩
        · exact x_sub [2] rfl (t_Reader_readSymbol_79 X hret hf)
    · refine x_iconst X (v := 0) d_Reader_readSymbol_47 (by decide) 48 rfl ?_
      exact hret _ _ _ _ _ (some (.int 0)) (Nat.le_refl 0) (Nat.le_refl 0) ⟨_, rfl, (Or.inl rfl), hf⟩ ⟨⟨_, rfl, xbl_nar (Or.inl rfl)⟩, d_Reader_readSymbol_48⟩
  · refine x_aload_n X (q := 1) d_Reader_readSymbol_20 rfl 21 rfl ?_
    refine x_iconst X (v := 1) d_Reader_readSymbol_21 (by decide) 22 rfl ?_
    refine x_aload_n X (q := 1) d_Reader_readSymbol_22 rfl 23 rfl ?_
    refine x_getI X hf (ci := 5) (j := 8) rfl (by decide) rfl lf_Reader_46 d_Reader_readSymbol_23 26 rfl (fun v25 hf => ?_)
    refine x_callV0z X (t_Reader_fail hf.2) hf.1 (ci := 5) rfl rfl lm_Reader_101 im_Reader_fail sl_Reader_fail cd_Reader_fail in_Reader ds_Reader_fail rfl rfl (Nat.le_of_ble_eq_true rfl) (Nat.le_of_ble_eq_true rfl) (Nat.le_of_ble_eq_true rfl) rfl rfl (Nat.le_refl 0) (Nat.le_refl 0) d_Reader_readSymbol_26 29 rfl (fun v27 h26 hb28 hf => ?_)
    exact hret _ _ _ _ _ (some (.int v27)) (Nat.le_refl 0) (Nat.le_refl 0) ⟨_, rfl, hb28, hf⟩ ⟨⟨_, rfl, xbl_nar hb28⟩, d_Reader_readSymbol_29⟩

set_option maxRecDepth 100000 in
def wp_Reader_readSymbols_2_b (z : Nat → Nat) (Q : Int32 → xh → Prop)  (k2 : Nat × Int32 × xh → Prop) (a0 : Nat) (x1 : Int32) (hp : xh) : Prop :=
  (6000 ≤ x1 → Q 1 hp) ∧ (¬ 6000 ≤ x1 → (∃ v1, fI hp a0 5 8 = some v1 ∧ (∃ o2, fR hp a0 5 0 = some o2 ∧ (∃ v3, fI hp o2 8 2 = some v3 ∧ ((v3 ≤ v1 → Q 1 hp) ∧ (¬ v3 ≤ v1 → (∃ o4, fR hp a0 5 0 = some o4 ∧ (∃ v5, fI hp a0 5 8 = some v5 ∧ (xcls hp o4 8 ∧ wp_Tape_at z (fun v7 h6 => (¬ v7 = 99 → (xcls h6 a0 5 ∧ wp_Reader_readSymbol z (fun v9 h8 => (¬ v9 = 0 → (k2 (a0, (x1 + 1), h8))) ∧ (v9 = 0 → Q 0 h8)) a0 h6)) ∧ (v7 = 99 → (∃ v11, fI h6 a0 5 8 = some v11 ∧ (∃ h12, pV h6 a0 5 8 (.int (v11 + 1)) = some h12 ∧ (xcls h12 a0 5 ∧ wp_Reader_pass z (fun v14 h13 => Q v14 h13) a0 10 h12))))) o4 v5 hp)))))))))
set_option maxRecDepth 100000 in
def wp_Reader_readSymbols_2 (z : Nat → Nat) (Q : Int32 → xh → Prop)  (a0 : Nat) (x1 : Int32) (hp : xh) : Prop := ∃ f : Nat, xloop (fun k2 a => wp_Reader_readSymbols_2_b z Q  k2 a.1 a.2.1 a.2.2) f (a0, x1, hp)
set_option maxRecDepth 100000 in
set_option maxHeartbeats 4000000 in
theorem t_Reader_readSymbols_2 {p : Program} {l : Launch} {e : Env} {s : State} {m : MethodId} {args : Array Value} {below : List Frame} {meth : Method} {c : Code} {G : xG} {z : Nat → Nat} {A : Nat → Prop} {Qw : State → Prop} {Q : Int32 → xh → Prop} {a0 : Nat} {x1 : Int32} {hp : xh} (X : xX p l e rm_Reader_readSymbols s m args below meth c G z A y_Reader_readSymbols b_Reader_readSymbols 2) (hret : xRet p l e rm_Reader_readSymbols s m args below meth c G A 2 Qw b_Reader_readSymbols (some .boolean) (xqz Q))  (hf : wp_Reader_readSymbols_2 z Q  a0 x1 hp) : xE p l e rm_Reader_readSymbols s m args below meth c G A 2 Qw 0 0 hp 2 [(0, .ref a0), (1, .int x1)] [] := by
  obtain ⟨f, hf⟩ := hf
  refine xloop_ind (F := fun k2 a => wp_Reader_readSymbols_2_b z Q  k2 a.1 a.2.1 a.2.2) (E := fun a => xE p l e rm_Reader_readSymbols s m args below meth c G A 2 Qw 0 0 a.2.2 2 [(0, .ref (a.1)), (1, .int (a.2.1))] []) ?_ f (a0, x1, hp) hf
  intro k2 hk a hf
  obtain ⟨a0, x1, hp⟩ := a
  have hk2 : ∀ (a0 : Nat) (x1 : Int32) (hp : xh), k2 (a0, x1, hp) → xE p l e rm_Reader_readSymbols s m args below meth c G A 2 Qw 0 0 hp 2 [(0, .ref a0), (1, .int x1)] [] := fun a0 x1 hp h => hk (a0, x1, hp) h
  have hf : wp_Reader_readSymbols_2_b z Q  k2 a0 x1 hp := hf
  unfold wp_Reader_readSymbols_2_b at hf
  refine x_iload_n X (q := 1) d_Reader_readSymbols_2 rfl 3 rfl ?_
  refine x_sipush X (v := 6000) d_Reader_readSymbols_3 (by decide) 6 rfl ?_
  refine x_icmp_ge X hf d_Reader_readSymbols_6 71 9 (by decide) rfl (fun hf => ?_) (fun hf => ?_)
  · refine x_iconst X (v := 1) d_Reader_readSymbols_71 (by decide) 72 rfl ?_
    exact hret _ _ _ _ _ (some (.int 1)) (Nat.le_refl 0) (Nat.le_refl 0) ⟨_, rfl, (Or.inr rfl), hf⟩ ⟨⟨_, rfl, xbl_nar (Or.inr rfl)⟩, d_Reader_readSymbols_72⟩
  · refine x_aload_n X (q := 0) d_Reader_readSymbols_9 rfl 10 rfl ?_
    refine x_getI X hf (ci := 5) (j := 8) rfl (by decide) rfl lf_Reader_46 d_Reader_readSymbols_10 13 rfl (fun v1 hf => ?_)
    refine x_aload_n X (q := 0) d_Reader_readSymbols_13 rfl 14 rfl ?_
    refine x_getR X hf (ci := 5) (j := 0) rfl (by decide) rfl lf_Reader_39 d_Reader_readSymbols_14 17 rfl (fun o2 hf => ?_)
    refine x_getI X hf (ci := 8) (j := 2) rfl (by decide) rfl lf_Reader_179 d_Reader_readSymbols_17 20 rfl (fun v3 hf => ?_)
    refine x_icmp_ge X hf d_Reader_readSymbols_20 71 23 (by decide) rfl (fun hf => ?_) (fun hf => ?_)
    · refine x_iconst X (v := 1) d_Reader_readSymbols_71 (by decide) 72 rfl ?_
      exact hret _ _ _ _ _ (some (.int 1)) (Nat.le_refl 0) (Nat.le_refl 0) ⟨_, rfl, (Or.inr rfl), hf⟩ ⟨⟨_, rfl, xbl_nar (Or.inr rfl)⟩, d_Reader_readSymbols_72⟩
    · refine x_aload_n X (q := 0) d_Reader_readSymbols_23 rfl 24 rfl ?_
      refine x_getR X hf (ci := 5) (j := 0) rfl (by decide) rfl lf_Reader_39 d_Reader_readSymbols_24 27 rfl (fun o4 hf => ?_)
      refine x_aload_n X (q := 0) d_Reader_readSymbols_27 rfl 28 rfl ?_
      refine x_getI X hf (ci := 5) (j := 8) rfl (by decide) rfl lf_Reader_46 d_Reader_readSymbols_28 31 rfl (fun v5 hf => ?_)
      refine x_callV0i X (t_Tape_at hf.2) hf.1 (ci := 8) rfl rfl lm_Reader_96 im_Tape_at sl_Tape_at cd_Tape_at in_Tape ds_Tape_at rfl rfl (Nat.le_of_ble_eq_true rfl) (Nat.le_of_ble_eq_true rfl) (Nat.le_of_ble_eq_true rfl) rfl rfl (Nat.le_refl 0) (Nat.le_refl 0) d_Reader_readSymbols_31 34 rfl (fun v7 h6 hf => ?_)
      refine x_bipush X (v := 99) d_Reader_readSymbols_34 (by decide) 36 rfl ?_
      refine x_icmp_ne X hf d_Reader_readSymbols_36 56 39 (by decide) rfl (fun hf => ?_) (fun hf => ?_)
      · refine x_aload_n X (q := 0) d_Reader_readSymbols_56 rfl 57 rfl ?_
        refine x_callV0z X (t_Reader_readSymbol hf.2) hf.1 (ci := 5) rfl rfl lm_Reader_182 im_Reader_readSymbol sl_Reader_readSymbol cd_Reader_readSymbol in_Reader ds_Reader_readSymbol rfl rfl (Nat.le_of_ble_eq_true rfl) (Nat.le_of_ble_eq_true rfl) (Nat.le_of_ble_eq_true rfl) rfl rfl (Nat.le_refl 0) (Nat.le_refl 0) d_Reader_readSymbols_57 60 rfl (fun v9 h8 hb10 hf => ?_)
        refine x_if_ne X hf d_Reader_readSymbols_60 65 63 (by decide) rfl (fun hf => ?_) (fun hf => ?_)
        · refine x_iinc X (q := 1) (v := (x1 + 1)) (lv' := [(1, .int (x1 + 1)), (0, .ref a0)]) d_Reader_readSymbols_65 rfl (by rfl) (by decide) rfl 68 rfl ?_
          refine x_goto X d_Reader_readSymbols_68 2 (by decide) ?_
          exact x_sub [1, 0] rfl (hk2 _ _ _ hf)
        · refine x_iconst X (v := 0) d_Reader_readSymbols_63 (by decide) 64 rfl ?_
          exact hret _ _ _ _ _ (some (.int 0)) (Nat.le_refl 0) (Nat.le_refl 0) ⟨_, rfl, (Or.inl rfl), hf⟩ ⟨⟨_, rfl, xbl_nar (Or.inl rfl)⟩, d_Reader_readSymbols_64⟩
      · refine x_aload_n X (q := 0) d_Reader_readSymbols_39 rfl 40 rfl ?_
        refine x_dup X rfl d_Reader_readSymbols_40 41 rfl ?_
        refine x_getI X hf (ci := 5) (j := 8) rfl (by decide) rfl lf_Reader_46 d_Reader_readSymbols_41 44 rfl (fun v11 hf => ?_)
        refine x_iconst X (v := 1) d_Reader_readSymbols_44 (by decide) 45 rfl ?_
        refine x_iadd X d_Reader_readSymbols_45 46 rfl ?_
        refine x_put X hf (ci := 5) (j := 8) (ty := .int) rfl (by decide) rfl lf_Reader_46 rfl (by decide +kernel) rfl rfl d_Reader_readSymbols_46 49 rfl (fun h12 hf => ?_)
        refine x_aload_n X (q := 0) d_Reader_readSymbols_49 rfl 50 rfl ?_
        refine x_bipush X (v := 10) d_Reader_readSymbols_50 (by decide) 52 rfl ?_
        refine x_callV0z X (t_Reader_pass hf.2) hf.1 (ci := 5) rfl rfl lm_Reader_115 im_Reader_pass sl_Reader_pass cd_Reader_pass in_Reader ds_Reader_pass rfl rfl (Nat.le_of_ble_eq_true rfl) (Nat.le_of_ble_eq_true rfl) (Nat.le_of_ble_eq_true rfl) rfl rfl (Nat.le_refl 0) (Nat.le_refl 0) d_Reader_readSymbols_52 55 rfl (fun v14 h13 hb15 hf => ?_)
        exact hret _ _ _ _ _ (some (.int v14)) (Nat.le_refl 0) (Nat.le_refl 0) ⟨_, rfl, hb15, hf⟩ ⟨⟨_, rfl, xbl_nar hb15⟩, d_Reader_readSymbols_55⟩
set_option maxRecDepth 100000 in
def wp_Reader_readSymbols (z : Nat → Nat) (Q : Int32 → xh → Prop) (a0 : Nat) (hp : xh) : Prop :=
  wp_Reader_readSymbols_2 z Q a0 0 hp
set_option maxRecDepth 100000 in
set_option maxHeartbeats 4000000 in
theorem t_Reader_readSymbols {l : Launch} {G : xG} {z : Nat → Nat} {Q : Int32 → xh → Prop} {a0 : Nat} {hp : xh} (hf : wp_Reader_readSymbols z Q a0 hp) : xM l G z y_Reader_readSymbols b_Reader_readSymbols 2 (some .boolean) rm_Reader_readSymbols [.ref a0] hp (xqz Q) := by
  refine xM_of (by decide) (Nat.le_of_ble_eq_true rfl) (lv0 := [(0, .ref a0)]) rfl ?_
  intro p e s m args below meth c A Qw X hret
  unfold wp_Reader_readSymbols at hf
  refine x_iconst X (v := 0) d_Reader_readSymbols_0 (by decide) 1 rfl ?_
  refine x_istore_n X (lv' := [(1, .int 0), (0, .ref a0)]) d_Reader_readSymbols_1 rfl (by decide) rfl 2 rfl ?_
  exact x_sub [1, 0] rfl (t_Reader_readSymbols_2 X hret hf)

set_option maxRecDepth 100000 in
def wp_Circuit_isDefined_32 (z : Nat → Nat) (Q : Int32 → xh → Prop)   (hp : xh) : Prop :=
  Q 1 hp
set_option maxRecDepth 100000 in
set_option maxHeartbeats 4000000 in
theorem t_Circuit_isDefined_32 {p : Program} {l : Launch} {e : Env} {s : State} {m : MethodId} {args : Array Value} {below : List Frame} {meth : Method} {c : Code} {G : xG} {z : Nat → Nat} {A : Nat → Prop} {Qw : State → Prop} {Q : Int32 → xh → Prop}  {hp : xh} (X : xX p l e rm_Circuit_isDefined s m args below meth c G z A y_Circuit_isDefined b_Circuit_isDefined 2) (hret : xRet p l e rm_Circuit_isDefined s m args below meth c G A 2 Qw b_Circuit_isDefined (some .boolean) (xqz Q))  (hf : wp_Circuit_isDefined_32 z Q  hp) : xE p l e rm_Circuit_isDefined s m args below meth c G A 2 Qw 0 0 hp 32 [] [] := by
  unfold wp_Circuit_isDefined_32 at hf
  refine x_iconst X (v := 1) d_Circuit_isDefined_32 (by decide) 33 rfl ?_
  refine x_goto X d_Circuit_isDefined_33 37 (by decide) ?_
  exact hret _ _ _ _ _ (some (.int 1)) (Nat.le_refl 0) (Nat.le_refl 0) ⟨_, rfl, (Or.inr rfl), hf⟩ ⟨⟨_, rfl, xbl_nar (Or.inr rfl)⟩, d_Circuit_isDefined_37⟩
set_option maxRecDepth 100000 in
def wp_Circuit_isDefined (z : Nat → Nat) (Q : Int32 → xh → Prop) (a0 : Nat) (x1 : Int32) (hp : xh) : Prop :=
  (x1 < 0 → Q 0 hp) ∧ (¬ x1 < 0 → (∃ v1, fI hp a0 0 1 = some v1 ∧ ((((2 * v1) + 1) < x1 → Q 0 hp) ∧ (¬ ((2 * v1) + 1) < x1 → ((x1 < 2 → wp_Circuit_isDefined_32 z Q hp) ∧ (¬ x1 < 2 → (∃ o2, fR hp a0 0 6 = some o2 ∧ (∃ v3, aI hp o2 1 (x1 >>> ((1 : Int32) &&& 31)) = some v3 ∧ ((v3 = 0 → Q 0 hp) ∧ (¬ v3 = 0 → wp_Circuit_isDefined_32 z Q hp))))))))))
set_option maxRecDepth 100000 in
set_option maxHeartbeats 4000000 in
theorem t_Circuit_isDefined {l : Launch} {G : xG} {z : Nat → Nat} {Q : Int32 → xh → Prop} {a0 : Nat} {x1 : Int32} {hp : xh} (hf : wp_Circuit_isDefined z Q a0 x1 hp) : xM l G z y_Circuit_isDefined b_Circuit_isDefined 2 (some .boolean) rm_Circuit_isDefined [.ref a0, .int x1] hp (xqz Q) := by
  refine xM_of (by decide) (Nat.le_of_ble_eq_true rfl) (lv0 := [(0, .ref a0), (1, .int x1)]) rfl ?_
  intro p e s m args below meth c A Qw X hret
  unfold wp_Circuit_isDefined at hf
  refine x_iload_n X (q := 1) d_Circuit_isDefined_0 rfl 1 rfl ?_
  refine x_if_lt X hf d_Circuit_isDefined_1 36 4 (by decide) rfl (fun hf => ?_) (fun hf => ?_)
  · refine x_iconst X (v := 0) d_Circuit_isDefined_36 (by decide) 37 rfl ?_
    exact hret _ _ _ _ _ (some (.int 0)) (Nat.le_refl 0) (Nat.le_refl 0) ⟨_, rfl, (Or.inl rfl), hf⟩ ⟨⟨_, rfl, xbl_nar (Or.inl rfl)⟩, d_Circuit_isDefined_37⟩
  · refine x_iload_n X (q := 1) d_Circuit_isDefined_4 rfl 5 rfl ?_
    refine x_iconst X (v := 2) d_Circuit_isDefined_5 (by decide) 6 rfl ?_
    refine x_aload_n X (q := 0) d_Circuit_isDefined_6 rfl 7 rfl ?_
    refine x_getI X hf (ci := 0) (j := 1) rfl (by decide) rfl lf_Circuit_52 d_Circuit_isDefined_7 10 rfl (fun v1 hf => ?_)
    refine x_imul X d_Circuit_isDefined_10 11 rfl ?_
    refine x_iconst X (v := 1) d_Circuit_isDefined_11 (by decide) 12 rfl ?_
    refine x_iadd X d_Circuit_isDefined_12 13 rfl ?_
    refine x_icmp_gt X hf d_Circuit_isDefined_13 36 16 (by decide) rfl (fun hf => ?_) (fun hf => ?_)
    · refine x_iconst X (v := 0) d_Circuit_isDefined_36 (by decide) 37 rfl ?_
      exact hret _ _ _ _ _ (some (.int 0)) (Nat.le_refl 0) (Nat.le_refl 0) ⟨_, rfl, (Or.inl rfl), hf⟩ ⟨⟨_, rfl, xbl_nar (Or.inl rfl)⟩, d_Circuit_isDefined_37⟩
    · refine x_iload_n X (q := 1) d_Circuit_isDefined_16 rfl 17 rfl ?_
      refine x_iconst X (v := 2) d_Circuit_isDefined_17 (by decide) 18 rfl ?_
      refine x_icmp_lt X hf d_Circuit_isDefined_18 32 21 (by decide) rfl (fun hf => ?_) (fun hf => ?_)
      · exact x_sub [] rfl (t_Circuit_isDefined_32 X hret hf)
      · refine x_aload_n X (q := 0) d_Circuit_isDefined_21 rfl 22 rfl ?_
        refine x_getR X hf (ci := 0) (j := 6) rfl (by decide) rfl lf_Circuit_9 d_Circuit_isDefined_22 25 rfl (fun o2 hf => ?_)
        refine x_iload_n X (q := 1) d_Circuit_isDefined_25 rfl 26 rfl ?_
        refine x_iconst X (v := 1) d_Circuit_isDefined_26 (by decide) 27 rfl ?_
        refine x_ishr X d_Circuit_isDefined_27 28 rfl ?_
        refine x_bald X hf d_Circuit_isDefined_28 29 rfl (fun v3 hf => ?_)
        refine x_if_eq X hf d_Circuit_isDefined_29 36 32 (by decide) rfl (fun hf => ?_) (fun hf => ?_)
        · refine x_iconst X (v := 0) d_Circuit_isDefined_36 (by decide) 37 rfl ?_
          exact hret _ _ _ _ _ (some (.int 0)) (Nat.le_refl 0) (Nat.le_refl 0) ⟨_, rfl, (Or.inl rfl), hf⟩ ⟨⟨_, rfl, xbl_nar (Or.inl rfl)⟩, d_Circuit_isDefined_37⟩
        · exact x_sub [] rfl (t_Circuit_isDefined_32 X hret hf)

set_option maxRecDepth 100000 in
def wp_Reader_findUndefined_2_b (z : Nat → Nat) (Q : Int32 → xh → Prop)  (k2 : Nat × Int32 × xh → Prop) (a0 : Nat) (x1 : Int32) (hp : xh) : Prop :=
  ∃ v1, fI hp a0 5 6 = some v1 ∧ ((v1 ≤ x1 → Q 1 hp) ∧ (¬ v1 ≤ x1 → (∃ o2, fR hp a0 5 2 = some o2 ∧ (∃ o3, fR hp a0 5 4 = some o3 ∧ (∃ v4, aI hp o3 0 x1 = some v4 ∧ (xcls hp o2 0 ∧ wp_Circuit_isDefined z (fun v6 h5 => (¬ v6 = 0 → (k2 (a0, (x1 + 1), h5))) ∧ (v6 = 0 → (∃ o8, fR h5 a0 5 5 = some o8 ∧ (∃ v9, aI h5 o8 0 x1 = some v9 ∧ (xcls h5 a0 5 ∧ wp_Reader_fail z (fun v11 h10 => Q v11 h10) a0 5 v9 h5))))) o2 v4 hp))))))
set_option maxRecDepth 100000 in
def wp_Reader_findUndefined_2 (z : Nat → Nat) (Q : Int32 → xh → Prop)  (a0 : Nat) (x1 : Int32) (hp : xh) : Prop := ∃ f : Nat, xloop (fun k2 a => wp_Reader_findUndefined_2_b z Q  k2 a.1 a.2.1 a.2.2) f (a0, x1, hp)
set_option maxRecDepth 100000 in
set_option maxHeartbeats 4000000 in
theorem t_Reader_findUndefined_2 {p : Program} {l : Launch} {e : Env} {s : State} {m : MethodId} {args : Array Value} {below : List Frame} {meth : Method} {c : Code} {G : xG} {z : Nat → Nat} {A : Nat → Prop} {Qw : State → Prop} {Q : Int32 → xh → Prop} {a0 : Nat} {x1 : Int32} {hp : xh} (X : xX p l e rm_Reader_findUndefined s m args below meth c G z A y_Reader_findUndefined b_Reader_findUndefined 2) (hret : xRet p l e rm_Reader_findUndefined s m args below meth c G A 2 Qw b_Reader_findUndefined (some .boolean) (xqz Q))  (hf : wp_Reader_findUndefined_2 z Q  a0 x1 hp) : xE p l e rm_Reader_findUndefined s m args below meth c G A 2 Qw 0 0 hp 2 [(0, .ref a0), (1, .int x1)] [] := by
  obtain ⟨f, hf⟩ := hf
  refine xloop_ind (F := fun k2 a => wp_Reader_findUndefined_2_b z Q  k2 a.1 a.2.1 a.2.2) (E := fun a => xE p l e rm_Reader_findUndefined s m args below meth c G A 2 Qw 0 0 a.2.2 2 [(0, .ref (a.1)), (1, .int (a.2.1))] []) ?_ f (a0, x1, hp) hf
  intro k2 hk a hf
  obtain ⟨a0, x1, hp⟩ := a
  have hk2 : ∀ (a0 : Nat) (x1 : Int32) (hp : xh), k2 (a0, x1, hp) → xE p l e rm_Reader_findUndefined s m args below meth c G A 2 Qw 0 0 hp 2 [(0, .ref a0), (1, .int x1)] [] := fun a0 x1 hp h => hk (a0, x1, hp) h
  have hf : wp_Reader_findUndefined_2_b z Q  k2 a0 x1 hp := hf
  unfold wp_Reader_findUndefined_2_b at hf
  refine x_iload_n X (q := 1) d_Reader_findUndefined_2 rfl 3 rfl ?_
  refine x_aload_n X (q := 0) d_Reader_findUndefined_3 rfl 4 rfl ?_
  refine x_getI X hf (ci := 5) (j := 6) rfl (by decide) rfl lf_Reader_49 d_Reader_findUndefined_4 7 rfl (fun v1 hf => ?_)
  refine x_icmp_ge X hf d_Reader_findUndefined_7 44 10 (by decide) rfl (fun hf => ?_) (fun hf => ?_)
  · refine x_iconst X (v := 1) d_Reader_findUndefined_44 (by decide) 45 rfl ?_
    exact hret _ _ _ _ _ (some (.int 1)) (Nat.le_refl 0) (Nat.le_refl 0) ⟨_, rfl, (Or.inr rfl), hf⟩ ⟨⟨_, rfl, xbl_nar (Or.inr rfl)⟩, d_Reader_findUndefined_45⟩
  · refine x_aload_n X (q := 0) d_Reader_findUndefined_10 rfl 11 rfl ?_
    refine x_getR X hf (ci := 5) (j := 2) rfl (by decide) rfl lf_Reader_21 d_Reader_findUndefined_11 14 rfl (fun o2 hf => ?_)
    refine x_aload_n X (q := 0) d_Reader_findUndefined_14 rfl 15 rfl ?_
    refine x_getR X hf (ci := 5) (j := 4) rfl (by decide) rfl lf_Reader_29 d_Reader_findUndefined_15 18 rfl (fun o3 hf => ?_)
    refine x_iload_n X (q := 1) d_Reader_findUndefined_18 rfl 19 rfl ?_
    refine x_iald X hf d_Reader_findUndefined_19 20 rfl (fun v4 hf => ?_)
    refine x_callV0z X (t_Circuit_isDefined hf.2) hf.1 (ci := 0) rfl rfl lm_Reader_201 im_Circuit_isDefined sl_Circuit_isDefined cd_Circuit_isDefined in_Circuit ds_Circuit_isDefined rfl rfl (Nat.le_of_ble_eq_true rfl) (Nat.le_of_ble_eq_true rfl) (Nat.le_of_ble_eq_true rfl) rfl rfl (Nat.le_refl 0) (Nat.le_refl 0) d_Reader_findUndefined_20 23 rfl (fun v6 h5 hb7 hf => ?_)
    refine x_if_ne X hf d_Reader_findUndefined_23 38 26 (by decide) rfl (fun hf => ?_) (fun hf => ?_)
    · refine x_iinc X (q := 1) (v := (x1 + 1)) (lv' := [(1, .int (x1 + 1)), (0, .ref a0)]) d_Reader_findUndefined_38 rfl (by rfl) (by decide) rfl 41 rfl ?_
      refine x_goto X d_Reader_findUndefined_41 2 (by decide) ?_
      exact x_sub [1, 0] rfl (hk2 _ _ _ hf)
    · refine x_aload_n X (q := 0) d_Reader_findUndefined_26 rfl 27 rfl ?_
      refine x_iconst X (v := 5) d_Reader_findUndefined_27 (by decide) 28 rfl ?_
      refine x_aload_n X (q := 0) d_Reader_findUndefined_28 rfl 29 rfl ?_
      refine x_getR X hf (ci := 5) (j := 5) rfl (by decide) rfl lf_Reader_32 d_Reader_findUndefined_29 32 rfl (fun o8 hf => ?_)
      refine x_iload_n X (q := 1) d_Reader_findUndefined_32 rfl 33 rfl ?_
      refine x_iald X hf d_Reader_findUndefined_33 34 rfl (fun v9 hf => ?_)
      refine x_callV0z X (t_Reader_fail hf.2) hf.1 (ci := 5) rfl rfl lm_Reader_101 im_Reader_fail sl_Reader_fail cd_Reader_fail in_Reader ds_Reader_fail rfl rfl (Nat.le_of_ble_eq_true rfl) (Nat.le_of_ble_eq_true rfl) (Nat.le_of_ble_eq_true rfl) rfl rfl (Nat.le_refl 0) (Nat.le_refl 0) d_Reader_findUndefined_34 37 rfl (fun v11 h10 hb12 hf => ?_)
      exact hret _ _ _ _ _ (some (.int v11)) (Nat.le_refl 0) (Nat.le_refl 0) ⟨_, rfl, hb12, hf⟩ ⟨⟨_, rfl, xbl_nar hb12⟩, d_Reader_findUndefined_37⟩
set_option maxRecDepth 100000 in
def wp_Reader_findUndefined (z : Nat → Nat) (Q : Int32 → xh → Prop) (a0 : Nat) (hp : xh) : Prop :=
  wp_Reader_findUndefined_2 z Q a0 0 hp
set_option maxRecDepth 100000 in
set_option maxHeartbeats 4000000 in
theorem t_Reader_findUndefined {l : Launch} {G : xG} {z : Nat → Nat} {Q : Int32 → xh → Prop} {a0 : Nat} {hp : xh} (hf : wp_Reader_findUndefined z Q a0 hp) : xM l G z y_Reader_findUndefined b_Reader_findUndefined 2 (some .boolean) rm_Reader_findUndefined [.ref a0] hp (xqz Q) := by
  refine xM_of (by decide) (Nat.le_of_ble_eq_true rfl) (lv0 := [(0, .ref a0)]) rfl ?_
  intro p e s m args below meth c A Qw X hret
  unfold wp_Reader_findUndefined at hf
  refine x_iconst X (v := 0) d_Reader_findUndefined_0 (by decide) 1 rfl ?_
  refine x_istore_n X (lv' := [(1, .int 0), (0, .ref a0)]) d_Reader_findUndefined_1 rfl (by decide) rfl 2 rfl ?_
  exact x_sub [1, 0] rfl (t_Reader_findUndefined_2 X hret hf)

set_option maxRecDepth 100000 in
def wp_Sorter_firstReady_60 (z : Nat → Nat) (Q : Int32 → xh → Prop) (k2 : Nat × Nat × Int32 × xh → Prop) (a0 : Nat) (a1 : Nat) (x2 : Int32) (hp : xh) : Prop :=
  k2 (a0, a1, (x2 + 1), hp)
set_option maxRecDepth 100000 in
set_option maxHeartbeats 4000000 in
theorem t_Sorter_firstReady_60 {p : Program} {l : Launch} {e : Env} {s : State} {m : MethodId} {args : Array Value} {below : List Frame} {meth : Method} {c : Code} {G : xG} {z : Nat → Nat} {A : Nat → Prop} {Qw : State → Prop} {Q : Int32 → xh → Prop} {k2 : Nat × Nat × Int32 × xh → Prop} {a0 : Nat} {a1 : Nat} {x2 : Int32} {hp : xh} (X : xX p l e rm_Sorter_firstReady s m args below meth c G z A y_Sorter_firstReady b_Sorter_firstReady 4) (hret : xRet p l e rm_Sorter_firstReady s m args below meth c G A 4 Qw b_Sorter_firstReady (some .int) (xqi Q)) (hk2 : ∀ (a0 : Nat) (a1 : Nat) (x2 : Int32) (hp : xh), k2 (a0, a1, x2, hp) → xE p l e rm_Sorter_firstReady s m args below meth c G A 4 Qw 0 0 hp 2 [(0, .ref a0), (1, .ref a1), (2, .int x2)] []) (hf : wp_Sorter_firstReady_60 z Q k2 a0 a1 x2 hp) : xE p l e rm_Sorter_firstReady s m args below meth c G A 4 Qw 0 0 hp 60 [(0, .ref a0), (1, .ref a1), (2, .int x2)] [] := by
  unfold wp_Sorter_firstReady_60 at hf
  refine x_iinc X (q := 2) (v := (x2 + 1)) (lv' := [(2, .int (x2 + 1)), (0, .ref a0), (1, .ref a1)]) d_Sorter_firstReady_60 rfl (by rfl) (by decide) rfl 63 rfl ?_
  refine x_goto X d_Sorter_firstReady_63 2 (by decide) ?_
  exact x_sub [1, 2, 0] rfl (hk2 _ _ _ _ hf)
set_option maxRecDepth 100000 in
def wp_Sorter_firstReady_2_b (z : Nat → Nat) (Q : Int32 → xh → Prop)  (k2 : Nat × Nat × Int32 × xh → Prop) (a0 : Nat) (a1 : Nat) (x2 : Int32) (hp : xh) : Prop :=
  ∃ v1, fI hp a1 0 5 = some v1 ∧ ((v1 ≤ x2 → (Q (-1) hp)) ∧ (¬ v1 ≤ x2 → (∃ o2, fR hp a0 6 0 = some o2 ∧ (∃ v3, aI hp o2 0 x2 = some v3 ∧ (∃ o4, fR hp a0 6 1 = some o4 ∧ (∃ v5, aI hp o4 2 v3 = some v5 ∧ ((¬ v5 = 0 → wp_Sorter_firstReady_60 z Q k2 a0 a1 x2 hp) ∧ (v5 = 0 → (∃ o6, fR hp a0 6 1 = some o6 ∧ (∃ o7, fR hp a1 0 7 = some o7 ∧ (∃ v8, aI hp o7 0 v3 = some v8 ∧ (∃ v9, aI hp o6 2 (v8 >>> ((1 : Int32) &&& 31)) = some v9 ∧ ((v9 = 0 → wp_Sorter_firstReady_60 z Q k2 a0 a1 x2 hp) ∧ (¬ v9 = 0 → (∃ o10, fR hp a0 6 1 = some o10 ∧ (∃ o11, fR hp a1 0 8 = some o11 ∧ (∃ v12, aI hp o11 0 v3 = some v12 ∧ (∃ v13, aI hp o10 2 (v12 >>> ((1 : Int32) &&& 31)) = some v13 ∧ ((v13 = 0 → wp_Sorter_firstReady_60 z Q k2 a0 a1 x2 hp) ∧ (¬ v13 = 0 → Q x2 hp))))))))))))))))))))
set_option maxRecDepth 100000 in
def wp_Sorter_firstReady_2 (z : Nat → Nat) (Q : Int32 → xh → Prop)  (a0 : Nat) (a1 : Nat) (x2 : Int32) (hp : xh) : Prop := ∃ f : Nat, xloop (fun k2 a => wp_Sorter_firstReady_2_b z Q  k2 a.1 a.2.1 a.2.2.1 a.2.2.2) f (a0, a1, x2, hp)
set_option maxRecDepth 100000 in
set_option maxHeartbeats 4000000 in
theorem t_Sorter_firstReady_2 {p : Program} {l : Launch} {e : Env} {s : State} {m : MethodId} {args : Array Value} {below : List Frame} {meth : Method} {c : Code} {G : xG} {z : Nat → Nat} {A : Nat → Prop} {Qw : State → Prop} {Q : Int32 → xh → Prop} {a0 : Nat} {a1 : Nat} {x2 : Int32} {hp : xh} (X : xX p l e rm_Sorter_firstReady s m args below meth c G z A y_Sorter_firstReady b_Sorter_firstReady 4) (hret : xRet p l e rm_Sorter_firstReady s m args below meth c G A 4 Qw b_Sorter_firstReady (some .int) (xqi Q))  (hf : wp_Sorter_firstReady_2 z Q  a0 a1 x2 hp) : xE p l e rm_Sorter_firstReady s m args below meth c G A 4 Qw 0 0 hp 2 [(0, .ref a0), (1, .ref a1), (2, .int x2)] [] := by
  obtain ⟨f, hf⟩ := hf
  refine xloop_ind (F := fun k2 a => wp_Sorter_firstReady_2_b z Q  k2 a.1 a.2.1 a.2.2.1 a.2.2.2) (E := fun a => xE p l e rm_Sorter_firstReady s m args below meth c G A 4 Qw 0 0 a.2.2.2 2 [(0, .ref (a.1)), (1, .ref (a.2.1)), (2, .int (a.2.2.1))] []) ?_ f (a0, a1, x2, hp) hf
  intro k2 hk a hf
  obtain ⟨a0, a1, x2, hp⟩ := a
  have hk2 : ∀ (a0 : Nat) (a1 : Nat) (x2 : Int32) (hp : xh), k2 (a0, a1, x2, hp) → xE p l e rm_Sorter_firstReady s m args below meth c G A 4 Qw 0 0 hp 2 [(0, .ref a0), (1, .ref a1), (2, .int x2)] [] := fun a0 a1 x2 hp h => hk (a0, a1, x2, hp) h
  have hf : wp_Sorter_firstReady_2_b z Q  k2 a0 a1 x2 hp := hf
  unfold wp_Sorter_firstReady_2_b at hf
  refine x_iload_n X (q := 2) d_Sorter_firstReady_2 rfl 3 rfl ?_
  refine x_aload_n X (q := 1) d_Sorter_firstReady_3 rfl 4 rfl ?_
  refine x_getI X hf (ci := 0) (j := 5) rfl (by decide) rfl lf_Sorter_31 d_Sorter_firstReady_4 7 rfl (fun v1 hf => ?_)
  refine x_icmp_ge X hf d_Sorter_firstReady_7 66 10 (by decide) rfl (fun hf => ?_) (fun hf => ?_)
  · refine x_iconst X (v := (-1)) d_Sorter_firstReady_66 (by decide) 67 rfl ?_
    exact hret _ _ _ _ _ (some (.int (-1))) (Nat.le_refl 0) (Nat.le_refl 0) ⟨_, rfl, hf⟩ ⟨⟨_, rfl, rfl⟩, d_Sorter_firstReady_67⟩
  · refine x_aload_n X (q := 0) d_Sorter_firstReady_10 rfl 11 rfl ?_
    refine x_getR X hf (ci := 6) (j := 0) rfl (by decide) rfl lf_Sorter_9 d_Sorter_firstReady_11 14 rfl (fun o2 hf => ?_)
    refine x_iload_n X (q := 2) d_Sorter_firstReady_14 rfl 15 rfl ?_
    refine x_iald X hf d_Sorter_firstReady_15 16 rfl (fun v3 hf => ?_)
    refine x_istore_n X (lv' := [(3, .int v3), (0, .ref a0), (1, .ref a1), (2, .int x2)]) d_Sorter_firstReady_16 rfl (by decide) rfl 17 rfl ?_
    refine x_aload_n X (q := 1) d_Sorter_firstReady_17 rfl 18 rfl ?_
    refine x_getR X hf (ci := 6) (j := 1) rfl (by decide) rfl lf_Sorter_15 d_Sorter_firstReady_18 21 rfl (fun o4 hf => ?_)
    refine x_iload_n X (q := 0) d_Sorter_firstReady_21 rfl 22 rfl ?_
    refine x_zald X hf d_Sorter_firstReady_22 23 rfl (fun v5 hf => ?_)
    refine x_if_ne X hf d_Sorter_firstReady_23 60 26 (by decide) rfl (fun hf => ?_) (fun hf => ?_)
    · exact x_sub [1, 2, 3] rfl (t_Sorter_firstReady_60 X hret hk2 hf)
    · refine x_aload_n X (q := 1) d_Sorter_firstReady_26 rfl 27 rfl ?_
      refine x_getR X hf (ci := 6) (j := 1) rfl (by decide) rfl lf_Sorter_15 d_Sorter_firstReady_27 30 rfl (fun o6 hf => ?_)
      refine x_aload_n X (q := 2) d_Sorter_firstReady_30 rfl 31 rfl ?_
      refine x_getR X hf (ci := 0) (j := 7) rfl (by decide) rfl lf_Sorter_42 d_Sorter_firstReady_31 34 rfl (fun o7 hf => ?_)
      refine x_iload_n X (q := 0) d_Sorter_firstReady_34 rfl 35 rfl ?_
      refine x_iald X hf d_Sorter_firstReady_35 36 rfl (fun v8 hf => ?_)
      refine x_iconst X (v := 1) d_Sorter_firstReady_36 (by decide) 37 rfl ?_
      refine x_ishr X d_Sorter_firstReady_37 38 rfl ?_
      refine x_zald X hf d_Sorter_firstReady_38 39 rfl (fun v9 hf => ?_)
      refine x_if_eq X hf d_Sorter_firstReady_39 60 42 (by decide) rfl (fun hf => ?_) (fun hf => ?_)
      · exact x_sub [1, 2, 3] rfl (t_Sorter_firstReady_60 X hret hk2 hf)
      · refine x_aload_n X (q := 1) d_Sorter_firstReady_42 rfl 43 rfl ?_
        refine x_getR X hf (ci := 6) (j := 1) rfl (by decide) rfl lf_Sorter_15 d_Sorter_firstReady_43 46 rfl (fun o10 hf => ?_)
        refine x_aload_n X (q := 2) d_Sorter_firstReady_46 rfl 47 rfl ?_
        refine x_getR X hf (ci := 0) (j := 8) rfl (by decide) rfl lf_Sorter_45 d_Sorter_firstReady_47 50 rfl (fun o11 hf => ?_)
        refine x_iload_n X (q := 0) d_Sorter_firstReady_50 rfl 51 rfl ?_
        refine x_iald X hf d_Sorter_firstReady_51 52 rfl (fun v12 hf => ?_)
        refine x_iconst X (v := 1) d_Sorter_firstReady_52 (by decide) 53 rfl ?_
        refine x_ishr X d_Sorter_firstReady_53 54 rfl ?_
        refine x_zald X hf d_Sorter_firstReady_54 55 rfl (fun v13 hf => ?_)
        refine x_if_eq X hf d_Sorter_firstReady_55 60 58 (by decide) rfl (fun hf => ?_) (fun hf => ?_)
        · exact x_sub [1, 2, 3] rfl (t_Sorter_firstReady_60 X hret hk2 hf)
        · refine x_iload_n X (q := 3) d_Sorter_firstReady_58 rfl 59 rfl ?_
          exact hret _ _ _ _ _ (some (.int x2)) (Nat.le_refl 0) (Nat.le_refl 0) ⟨_, rfl, hf⟩ ⟨⟨_, rfl, rfl⟩, d_Sorter_firstReady_59⟩
set_option maxRecDepth 100000 in
def wp_Sorter_firstReady (z : Nat → Nat) (Q : Int32 → xh → Prop) (a0 : Nat) (a1 : Nat) (hp : xh) : Prop :=
  wp_Sorter_firstReady_2 z Q a0 a1 0 hp
set_option maxRecDepth 100000 in
set_option maxHeartbeats 4000000 in
theorem t_Sorter_firstReady {l : Launch} {G : xG} {z : Nat → Nat} {Q : Int32 → xh → Prop} {a0 : Nat} {a1 : Nat} {hp : xh} (hf : wp_Sorter_firstReady z Q a0 a1 hp) : xM l G z y_Sorter_firstReady b_Sorter_firstReady 4 (some .int) rm_Sorter_firstReady [.ref a0, .ref a1] hp (xqi Q) := by
  refine xM_of (by decide) (Nat.le_of_ble_eq_true rfl) (lv0 := [(0, .ref a0), (1, .ref a1)]) rfl ?_
  intro p e s m args below meth c A Qw X hret
  unfold wp_Sorter_firstReady at hf
  refine x_iconst X (v := 0) d_Sorter_firstReady_0 (by decide) 1 rfl ?_
  refine x_istore_n X (lv' := [(2, .int 0), (0, .ref a0), (1, .ref a1)]) d_Sorter_firstReady_1 rfl (by decide) rfl 2 rfl ?_
  exact x_sub [1, 2, 0] rfl (t_Sorter_firstReady_2 X hret hf)

set_option maxRecDepth 100000 in
def wp_Sorter_sort_38_b (z : Nat → Nat) (Q : Int32 → xh → Prop)  (k38 : Nat × Nat × Int32 × xh → Prop) (a0 : Nat) (a1 : Nat) (x2 : Int32) (hp : xh) : Prop :=
  ∃ v1, fI hp a1 0 5 = some v1 ∧ ((v1 ≤ x2 → Q 1 hp) ∧ (¬ v1 ≤ x2 → (xcls hp a0 6 ∧ wp_Sorter_firstReady z (fun v3 h2 => (¬ v3 = (-1) → (∃ o4, fR h2 a1 0 13 = some o4 ∧ (∃ o5, fR h2 a0 6 0 = some o5 ∧ (∃ v6, aI h2 o5 0 v3 = some v6 ∧ (∃ h7, sI h2 o4 0 x2 v6 = some h7 ∧ (∃ o8, fR h7 a0 6 1 = some o8 ∧ (∃ o9, fR h7 a0 6 0 = some o9 ∧ (∃ v10, aI h7 o9 0 v3 = some v10 ∧ (∃ h11, sI h7 o8 2 v10 (vp_nar .boolean 1) = some h11 ∧ (k38 (a0, a1, (x2 + 1), h11))))))))))) ∧ (v3 = (-1) → Q 0 h2)) a0 a1 hp)))
set_option maxRecDepth 100000 in
def wp_Sorter_sort_38 (z : Nat → Nat) (Q : Int32 → xh → Prop)  (a0 : Nat) (a1 : Nat) (x2 : Int32) (hp : xh) : Prop := ∃ f : Nat, xloop (fun k38 a => wp_Sorter_sort_38_b z Q  k38 a.1 a.2.1 a.2.2.1 a.2.2.2) f (a0, a1, x2, hp)
set_option maxRecDepth 100000 in
set_option maxHeartbeats 4000000 in
theorem t_Sorter_sort_38 {p : Program} {l : Launch} {e : Env} {s : State} {m : MethodId} {args : Array Value} {below : List Frame} {meth : Method} {c : Code} {G : xG} {z : Nat → Nat} {A : Nat → Prop} {Qw : State → Prop} {Q : Int32 → xh → Prop} {a0 : Nat} {a1 : Nat} {x2 : Int32} {hp : xh} (X : xX p l e rm_Sorter_sort s m args below meth c G z A y_Sorter_sort b_Sorter_sort 4) (hret : xRet p l e rm_Sorter_sort s m args below meth c G A 4 Qw b_Sorter_sort (some .boolean) (xqz Q))  (hf : wp_Sorter_sort_38 z Q  a0 a1 x2 hp) : xE p l e rm_Sorter_sort s m args below meth c G A 4 Qw 0 0 hp 38 [(0, .ref a0), (1, .ref a1), (2, .int x2)] [] := by
  obtain ⟨f, hf⟩ := hf
  refine xloop_ind (F := fun k38 a => wp_Sorter_sort_38_b z Q  k38 a.1 a.2.1 a.2.2.1 a.2.2.2) (E := fun a => xE p l e rm_Sorter_sort s m args below meth c G A 4 Qw 0 0 a.2.2.2 38 [(0, .ref (a.1)), (1, .ref (a.2.1)), (2, .int (a.2.2.1))] []) ?_ f (a0, a1, x2, hp) hf
  intro k38 hk a hf
  obtain ⟨a0, a1, x2, hp⟩ := a
  have hk38 : ∀ (a0 : Nat) (a1 : Nat) (x2 : Int32) (hp : xh), k38 (a0, a1, x2, hp) → xE p l e rm_Sorter_sort s m args below meth c G A 4 Qw 0 0 hp 38 [(0, .ref a0), (1, .ref a1), (2, .int x2)] [] := fun a0 a1 x2 hp h => hk (a0, a1, x2, hp) h
  have hf : wp_Sorter_sort_38_b z Q  k38 a0 a1 x2 hp := hf
  unfold wp_Sorter_sort_38_b at hf
  refine x_iload_n X (q := 2) d_Sorter_sort_38 rfl 39 rfl ?_
  refine x_aload_n X (q := 1) d_Sorter_sort_39 rfl 40 rfl ?_
  refine x_getI X hf (ci := 0) (j := 5) rfl (by decide) rfl lf_Sorter_31 d_Sorter_sort_40 43 rfl (fun v1 hf => ?_)
  refine x_icmp_ge X hf d_Sorter_sort_43 89 46 (by decide) rfl (fun hf => ?_) (fun hf => ?_)
  · refine x_iconst X (v := 1) d_Sorter_sort_89 (by decide) 90 rfl ?_
    exact hret _ _ _ _ _ (some (.int 1)) (Nat.le_refl 0) (Nat.le_refl 0) ⟨_, rfl, (Or.inr rfl), hf⟩ ⟨⟨_, rfl, xbl_nar (Or.inr rfl)⟩, d_Sorter_sort_90⟩
  · refine x_aload_n X (q := 0) d_Sorter_sort_46 rfl 47 rfl ?_
    refine x_aload_n X (q := 1) d_Sorter_sort_47 rfl 48 rfl ?_
    refine x_callV0i X (t_Sorter_firstReady hf.2) hf.1 (ci := 6) rfl rfl lm_Sorter_35 im_Sorter_firstReady sl_Sorter_firstReady cd_Sorter_firstReady in_Sorter ds_Sorter_firstReady rfl rfl (Nat.le_of_ble_eq_true rfl) (Nat.le_of_ble_eq_true rfl) (Nat.le_of_ble_eq_true rfl) rfl rfl (Nat.le_refl 0) (Nat.le_refl 0) d_Sorter_sort_48 51 rfl (fun v3 h2 hf => ?_)
    refine x_istore_n X (lv' := [(3, .int v3), (0, .ref a0), (1, .ref a1), (2, .int x2)]) d_Sorter_sort_51 rfl (by decide) rfl 52 rfl ?_
    refine x_iload_n X (q := 0) d_Sorter_sort_52 rfl 53 rfl ?_
    refine x_iconst X (v := (-1)) d_Sorter_sort_53 (by decide) 54 rfl ?_
    refine x_icmp_ne X hf d_Sorter_sort_54 59 57 (by decide) rfl (fun hf => ?_) (fun hf => ?_)
    · refine x_aload_n X (q := 2) d_Sorter_sort_59 rfl 60 rfl ?_
      refine x_getR X hf (ci := 0) (j := 13) rfl (by decide) rfl lf_Sorter_39 d_Sorter_sort_60 63 rfl (fun o4 hf => ?_)
      refine x_iload_n X (q := 3) d_Sorter_sort_63 rfl 64 rfl ?_
      refine x_aload_n X (q := 1) d_Sorter_sort_64 rfl 65 rfl ?_
      refine x_getR X hf (ci := 6) (j := 0) rfl (by decide) rfl lf_Sorter_9 d_Sorter_sort_65 68 rfl (fun o5 hf => ?_)
      refine x_iload_n X (q := 0) d_Sorter_sort_68 rfl 69 rfl ?_
      refine x_iald X hf d_Sorter_sort_69 70 rfl (fun v6 hf => ?_)
      refine x_iast X hf d_Sorter_sort_70 71 rfl (fun h7 hf => ?_)
      refine x_aload_n X (q := 1) d_Sorter_sort_71 rfl 72 rfl ?_
      refine x_getR X hf (ci := 6) (j := 1) rfl (by decide) rfl lf_Sorter_15 d_Sorter_sort_72 75 rfl (fun o8 hf => ?_)
      refine x_aload_n X (q := 1) d_Sorter_sort_75 rfl 76 rfl ?_
      refine x_getR X hf (ci := 6) (j := 0) rfl (by decide) rfl lf_Sorter_9 d_Sorter_sort_76 79 rfl (fun o9 hf => ?_)
      refine x_iload_n X (q := 0) d_Sorter_sort_79 rfl 80 rfl ?_
      refine x_iald X hf d_Sorter_sort_80 81 rfl (fun v10 hf => ?_)
      refine x_iconst X (v := 1) d_Sorter_sort_81 (by decide) 82 rfl ?_
      refine x_zast X hf d_Sorter_sort_82 83 rfl (fun h11 hf => ?_)
      refine x_iinc X (q := 3) (v := (x2 + 1)) (lv' := [(2, .int (x2 + 1)), (3, .int v3), (0, .ref a0), (1, .ref a1)]) d_Sorter_sort_83 rfl (by rfl) (by decide) rfl 86 rfl ?_
      refine x_goto X d_Sorter_sort_86 38 (by decide) ?_
      exact x_sub [2, 3, 0] rfl (hk38 _ _ _ _ hf)
    · refine x_iconst X (v := 0) d_Sorter_sort_57 (by decide) 58 rfl ?_
      exact hret _ _ _ _ _ (some (.int 0)) (Nat.le_refl 0) (Nat.le_refl 0) ⟨_, rfl, (Or.inl rfl), hf⟩ ⟨⟨_, rfl, xbl_nar (Or.inl rfl)⟩, d_Sorter_sort_58⟩
set_option maxRecDepth 100000 in
def wp_Sorter_sort_29 (z : Nat → Nat) (Q : Int32 → xh → Prop) (k2 : Nat × Nat × Int32 × xh → Prop) (a0 : Nat) (a1 : Nat) (x2 : Int32) (s2 : Int32) (s1 : Int32) (s0 : Nat) (hp : xh) : Prop :=
  ∃ h1, sI hp s0 2 s1 (vp_nar .boolean s2) = some h1 ∧ (k2 (a0, a1, (x2 + 1), h1))
set_option maxRecDepth 100000 in
set_option maxHeartbeats 4000000 in
theorem t_Sorter_sort_29 {p : Program} {l : Launch} {e : Env} {s : State} {m : MethodId} {args : Array Value} {below : List Frame} {meth : Method} {c : Code} {G : xG} {z : Nat → Nat} {A : Nat → Prop} {Qw : State → Prop} {Q : Int32 → xh → Prop} {k2 : Nat × Nat × Int32 × xh → Prop} {a0 : Nat} {a1 : Nat} {x2 : Int32} {s2 : Int32} {s1 : Int32} {s0 : Nat} {hp : xh} (X : xX p l e rm_Sorter_sort s m args below meth c G z A y_Sorter_sort b_Sorter_sort 4) (hret : xRet p l e rm_Sorter_sort s m args below meth c G A 4 Qw b_Sorter_sort (some .boolean) (xqz Q)) (hk2 : ∀ (a0 : Nat) (a1 : Nat) (x2 : Int32) (hp : xh), k2 (a0, a1, x2, hp) → xE p l e rm_Sorter_sort s m args below meth c G A 4 Qw 0 0 hp 2 [(0, .ref a0), (1, .ref a1), (2, .int x2)] []) (hf : wp_Sorter_sort_29 z Q k2 a0 a1 x2 s2 s1 s0 hp) : xE p l e rm_Sorter_sort s m args below meth c G A 4 Qw 0 0 hp 29 [(0, .ref a0), (1, .ref a1), (2, .int x2)] [.int s2, .int s1, .ref s0] := by
  unfold wp_Sorter_sort_29 at hf
  refine x_zast X hf d_Sorter_sort_29 30 rfl (fun h1 hf => ?_)
  refine x_iinc X (q := 2) (v := (x2 + 1)) (lv' := [(2, .int (x2 + 1)), (0, .ref a0), (1, .ref a1)]) d_Sorter_sort_30 rfl (by rfl) (by decide) rfl 33 rfl ?_
  refine x_goto X d_Sorter_sort_33 2 (by decide) ?_
  exact x_sub [1, 2, 0] rfl (hk2 _ _ _ _ hf)
set_option maxRecDepth 100000 in
def wp_Sorter_sort_2_b (z : Nat → Nat) (Q : Int32 → xh → Prop)  (k2 : Nat × Nat × Int32 × xh → Prop) (a0 : Nat) (a1 : Nat) (x2 : Int32) (hp : xh) : Prop :=
  (201 ≤ x2 → wp_Sorter_sort_38 z Q a0 a1 0 hp) ∧ (¬ 201 ≤ x2 → (∃ o1, fR hp a0 6 1 = some o1 ∧ (∃ o2, fR hp a1 0 6 = some o2 ∧ (∃ v3, aI hp o2 1 x2 = some v3 ∧ ((v3 = 3 → wp_Sorter_sort_29 z Q k2 a0 a1 x2 0 x2 o1 hp) ∧ (¬ v3 = 3 → wp_Sorter_sort_29 z Q k2 a0 a1 x2 1 x2 o1 hp))))))
set_option maxRecDepth 100000 in
def wp_Sorter_sort_2 (z : Nat → Nat) (Q : Int32 → xh → Prop)  (a0 : Nat) (a1 : Nat) (x2 : Int32) (hp : xh) : Prop := ∃ f : Nat, xloop (fun k2 a => wp_Sorter_sort_2_b z Q  k2 a.1 a.2.1 a.2.2.1 a.2.2.2) f (a0, a1, x2, hp)
set_option maxRecDepth 100000 in
set_option maxHeartbeats 4000000 in
theorem t_Sorter_sort_2 {p : Program} {l : Launch} {e : Env} {s : State} {m : MethodId} {args : Array Value} {below : List Frame} {meth : Method} {c : Code} {G : xG} {z : Nat → Nat} {A : Nat → Prop} {Qw : State → Prop} {Q : Int32 → xh → Prop} {a0 : Nat} {a1 : Nat} {x2 : Int32} {hp : xh} (X : xX p l e rm_Sorter_sort s m args below meth c G z A y_Sorter_sort b_Sorter_sort 4) (hret : xRet p l e rm_Sorter_sort s m args below meth c G A 4 Qw b_Sorter_sort (some .boolean) (xqz Q))  (hf : wp_Sorter_sort_2 z Q  a0 a1 x2 hp) : xE p l e rm_Sorter_sort s m args below meth c G A 4 Qw 0 0 hp 2 [(0, .ref a0), (1, .ref a1), (2, .int x2)] [] := by
  obtain ⟨f, hf⟩ := hf
  refine xloop_ind (F := fun k2 a => wp_Sorter_sort_2_b z Q  k2 a.1 a.2.1 a.2.2.1 a.2.2.2) (E := fun a => xE p l e rm_Sorter_sort s m args below meth c G A 4 Qw 0 0 a.2.2.2 2 [(0, .ref (a.1)), (1, .ref (a.2.1)), (2, .int (a.2.2.1))] []) ?_ f (a0, a1, x2, hp) hf
  intro k2 hk a hf
  obtain ⟨a0, a1, x2, hp⟩ := a
  have hk2 : ∀ (a0 : Nat) (a1 : Nat) (x2 : Int32) (hp : xh), k2 (a0, a1, x2, hp) → xE p l e rm_Sorter_sort s m args below meth c G A 4 Qw 0 0 hp 2 [(0, .ref a0), (1, .ref a1), (2, .int x2)] [] := fun a0 a1 x2 hp h => hk (a0, a1, x2, hp) h
  have hf : wp_Sorter_sort_2_b z Q  k2 a0 a1 x2 hp := hf
  unfold wp_Sorter_sort_2_b at hf
  refine x_iload_n X (q := 2) d_Sorter_sort_2 rfl 3 rfl ?_
  refine x_sipush X (v := 201) d_Sorter_sort_3 (by decide) 6 rfl ?_
  refine x_icmp_ge X hf d_Sorter_sort_6 36 9 (by decide) rfl (fun hf => ?_) (fun hf => ?_)
  · refine x_iconst X (v := 0) d_Sorter_sort_36 (by decide) 37 rfl ?_
    refine x_istore_n X (lv' := [(2, .int 0), (0, .ref a0), (1, .ref a1)]) d_Sorter_sort_37 rfl (by decide) rfl 38 rfl ?_
    exact x_sub [1, 2, 0] rfl (t_Sorter_sort_38 X hret hf)
  · refine x_aload_n X (q := 0) d_Sorter_sort_9 rfl 10 rfl ?_
    refine x_getR X hf (ci := 6) (j := 1) rfl (by decide) rfl lf_Sorter_15 d_Sorter_sort_10 13 rfl (fun o1 hf => ?_)
    refine x_iload_n X (q := 2) d_Sorter_sort_13 rfl 14 rfl ?_
    refine x_aload_n X (q := 1) d_Sorter_sort_14 rfl 15 rfl ?_
    refine x_getR X hf (ci := 0) (j := 6) rfl (by decide) rfl lf_Sorter_25 d_Sorter_sort_15 18 rfl (fun o2 hf => ?_)
    refine x_iload_n X (q := 2) d_Sorter_sort_18 rfl 19 rfl ?_
    refine x_bald X hf d_Sorter_sort_19 20 rfl (fun v3 hf => ?_)
    refine x_iconst X (v := 3) d_Sorter_sort_20 (by decide) 21 rfl ?_
    refine x_icmp_eq X hf d_Sorter_sort_21 28 24 (by decide) rfl (fun hf => ?_) (fun hf => ?_)
    · refine x_iconst X (v := 0) d_Sorter_sort_28 (by decide) 29 rfl ?_
      exact x_sub [0, 1, 2] rfl (t_Sorter_sort_29 X hret hk2 hf)
    · refine x_iconst X (v := 1) d_Sorter_sort_24 (by decide) 25 rfl ?_
      refine x_goto X d_Sorter_sort_25 29 (by decide) ?_
      exact x_sub [0, 1, 2] rfl (t_Sorter_sort_29 X hret hk2 hf)
set_option maxRecDepth 100000 in
def wp_Sorter_sort (z : Nat → Nat) (Q : Int32 → xh → Prop) (a0 : Nat) (a1 : Nat) (hp : xh) : Prop :=
  wp_Sorter_sort_2 z Q a0 a1 0 hp
set_option maxRecDepth 100000 in
set_option maxHeartbeats 4000000 in
theorem t_Sorter_sort {l : Launch} {G : xG} {z : Nat → Nat} {Q : Int32 → xh → Prop} {a0 : Nat} {a1 : Nat} {hp : xh} (hf : wp_Sorter_sort z Q a0 a1 hp) : xM l G z y_Sorter_sort b_Sorter_sort 4 (some .boolean) rm_Sorter_sort [.ref a0, .ref a1] hp (xqz Q) := by
  refine xM_of (by decide) (Nat.le_of_ble_eq_true rfl) (lv0 := [(0, .ref a0), (1, .ref a1)]) rfl ?_
  intro p e s m args below meth c A Qw X hret
  unfold wp_Sorter_sort at hf
  refine x_iconst X (v := 0) d_Sorter_sort_0 (by decide) 1 rfl ?_
  refine x_istore_n X (lv' := [(2, .int 0), (0, .ref a0), (1, .ref a1)]) d_Sorter_sort_1 rfl (by decide) rfl 2 rfl ?_
  exact x_sub [1, 2, 0] rfl (t_Sorter_sort_2 X hret hf)

