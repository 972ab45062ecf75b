set_option maxRecDepth 100000 in
def wp_Model_isNowhere (z : Nat → Nat) (Q : Int32 → xh → Prop) (a0 : Nat) (x1 : Int32) (hp : xh) : Prop :=
  (x1 ≤ 1 → Q 0 hp) ∧ (¬ x1 ≤ 1 → (∃ o1, fR hp a0 12 18 = some o1 ∧ (∃ v2, aI hp o1 0 (402 + (x1 / 2)) = some v2 ∧ ((¬ v2 = 0 → Q 0 hp) ∧ (v2 = 0 → Q 1 hp)))))
set_option maxRecDepth 100000 in
set_option maxHeartbeats 4000000 in
theorem t_Model_isNowhere {l : Launch} {G : xG} {z : Nat → Nat} {Q : Int32 → xh → Prop} {a0 : Nat} {x1 : Int32} {hp : xh} (hf : wp_Model_isNowhere z Q a0 x1 hp) : xM l G z y_Model_isNowhere b_Model_isNowhere 2 (some .boolean) rm_Model_isNowhere [.ref a0, .int x1] hp (xqz Q) := by
  refine xM_of (by decide) (Nat.le_of_ble_eq_true rfl) (lv0 := [(0, .ref a0), (1, .int x1)]) rfl ?_
  intro p e s m args below meth c A Qw X hret
  unfold wp_Model_isNowhere at hf
  refine x_iload_n X (q := 1) d_Model_isNowhere_0 rfl 1 rfl ?_
  refine x_iconst X (v := 1) d_Model_isNowhere_1 (by decide) 2 rfl ?_
  refine x_icmp_le X hf d_Model_isNowhere_2 24 5 (by decide) rfl (fun hf => ?_) (fun hf => ?_)
  · refine x_iconst X (v := 0) d_Model_isNowhere_24 (by decide) 25 rfl ?_
    exact hret _ _ _ _ _ (some (.int 0)) (Nat.le_refl 0) (Nat.le_refl 0) ⟨_, rfl, (Or.inl rfl), hf⟩ ⟨⟨_, rfl, xbl_nar (Or.inl rfl)⟩, d_Model_isNowhere_25⟩
  · refine x_aload_n X (q := 0) d_Model_isNowhere_5 rfl 6 rfl ?_
    refine x_getR X hf (ci := 12) (j := 18) rfl (by decide) rfl lf_Model_45 d_Model_isNowhere_6 9 rfl (fun o1 hf => ?_)
    refine x_sipush X (v := 402) d_Model_isNowhere_9 (by decide) 12 rfl ?_
    refine x_iload_n X (q := 1) d_Model_isNowhere_12 rfl 13 rfl ?_
    refine x_iconst X (v := 2) d_Model_isNowhere_13 (by decide) 14 rfl ?_
    refine x_idiv X (by decide) d_Model_isNowhere_14 15 rfl ?_
    refine x_iadd X d_Model_isNowhere_15 16 rfl ?_
    refine x_iald X hf d_Model_isNowhere_16 17 rfl (fun v2 hf => ?_)
    refine x_if_ne X hf d_Model_isNowhere_17 24 20 (by decide) rfl (fun hf => ?_) (fun hf => ?_)
    · refine x_iconst X (v := 0) d_Model_isNowhere_24 (by decide) 25 rfl ?_
      exact hret _ _ _ _ _ (some (.int 0)) (Nat.le_refl 0) (Nat.le_refl 0) ⟨_, rfl, (Or.inl rfl), hf⟩ ⟨⟨_, rfl, xbl_nar (Or.inl rfl)⟩, d_Model_isNowhere_25⟩
    · refine x_iconst X (v := 1) d_Model_isNowhere_20 (by decide) 21 rfl ?_
      refine x_goto X d_Model_isNowhere_21 25 (by decide) ?_
      exact hret _ _ _ _ _ (some (.int 1)) (Nat.le_refl 0) (Nat.le_refl 0) ⟨_, rfl, (Or.inr rfl), hf⟩ ⟨⟨_, rfl, xbl_nar (Or.inr rfl)⟩, d_Model_isNowhere_25⟩

set_option maxRecDepth 100000 in
def wp_Model_findNowhere_161 (z : Nat → Nat) (Q : xh → Prop) (k94 : Nat × Int32 × xh → Prop) (a0 : Nat) (x1 : Int32) (hp : xh) : Prop :=
  k94 (a0, (x1 + 1), hp)
set_option maxRecDepth 100000 in
set_option maxHeartbeats 4000000 in
theorem t_Model_findNowhere_161 {p : Program} {l : Launch} {e : Env} {s : State} {m : MethodId} {args : Array Value} {below : List Frame} {meth : Method} {c : Code} {G : xG} {z : Nat → Nat} {A : Nat → Prop} {Qw : State → Prop} {Q : xh → Prop} {k94 : Nat × Int32 × xh → Prop} {a0 : Nat} {x1 : Int32} {hp : xh} (X : xX p l e rm_Model_findNowhere s m args below meth c G z A y_Model_findNowhere b_Model_findNowhere 2) (hret : xRet p l e rm_Model_findNowhere s m args below meth c G A 2 Qw b_Model_findNowhere none (xqv Q)) (hk94 : ∀ (a0 : Nat) (x1 : Int32) (hp : xh), k94 (a0, x1, hp) → xE p l e rm_Model_findNowhere s m args below meth c G A 2 Qw 0 0 hp 94 [(0, .ref a0), (1, .int x1)] []) (hf : wp_Model_findNowhere_161 z Q k94 a0 x1 hp) : xE p l e rm_Model_findNowhere s m args below meth c G A 2 Qw 0 0 hp 161 [(0, .ref a0), (1, .int x1)] [] := by
  unfold wp_Model_findNowhere_161 at hf
  refine x_iinc X (q := 1) (v := (x1 + 1)) (lv' := [(1, .int (x1 + 1)), (0, .ref a0)]) d_Model_findNowhere_161 rfl (by rfl) (by decide) rfl 164 rfl ?_
  refine x_goto X d_Model_findNowhere_164 94 (by decide) ?_
  exact x_sub [1, 0] rfl (hk94 _ _ _ hf)
set_option maxRecDepth 100000 in
def wp_Model_findNowhere_133 (z : Nat → Nat) (Q : xh → Prop) (k94 : Nat × Int32 × xh → Prop) (a0 : Nat) (x1 : Int32) (hp : xh) : Prop :=
  ∃ o1, fR hp a0 12 17 = some o1 ∧ (∃ v2, aI hp o1 0 (300 + x1) = some v2 ∧ (xcls hp a0 12 ∧ wp_Model_isNowhere z (fun v4 h3 => (v4 = 0 → wp_Model_findNowhere_161 z Q k94 a0 x1 h3) ∧ (¬ v4 = 0 → (∃ o6, fR h3 a0 12 23 = some o6 ∧ (∃ v7, aI h3 o6 0 x1 = some v7 ∧ (xcls h3 a0 12 ∧ wp_Model_wrong z (fun h8 => wp_Model_findNowhere_161 z Q k94 a0 x1 h8) a0 5 v7 h3))))) a0 v2 hp))
set_option maxRecDepth 100000 in
set_option maxHeartbeats 4000000 in
theorem t_Model_findNowhere_133 {p : Program} {l : Launch} {e : Env} {s : State} {m : MethodId} {args : Array Value} {below : List Frame} {meth : Method} {c : Code} {G : xG} {z : Nat → Nat} {A : Nat → Prop} {Qw : State → Prop} {Q : xh → Prop} {k94 : Nat × Int32 × xh → Prop} {a0 : Nat} {x1 : Int32} {hp : xh} (X : xX p l e rm_Model_findNowhere s m args below meth c G z A y_Model_findNowhere b_Model_findNowhere 2) (hret : xRet p l e rm_Model_findNowhere s m args below meth c G A 2 Qw b_Model_findNowhere none (xqv Q)) (hk94 : ∀ (a0 : Nat) (x1 : Int32) (hp : xh), k94 (a0, x1, hp) → xE p l e rm_Model_findNowhere s m args below meth c G A 2 Qw 0 0 hp 94 [(0, .ref a0), (1, .int x1)] []) (hf : wp_Model_findNowhere_133 z Q k94 a0 x1 hp) : xE p l e rm_Model_findNowhere s m args below meth c G A 2 Qw 0 0 hp 133 [(0, .ref a0), (1, .int x1)] [] := by
  unfold wp_Model_findNowhere_133 at hf
  refine x_aload_n X (q := 0) d_Model_findNowhere_133 rfl 134 rfl ?_
  refine x_aload_n X (q := 0) d_Model_findNowhere_134 rfl 135 rfl ?_
  refine x_getR X hf (ci := 12) (j := 17) rfl (by decide) rfl lf_Model_42 d_Model_findNowhere_135 138 rfl (fun o1 hf => ?_)
  refine x_sipush X (v := 300) d_Model_findNowhere_138 (by decide) 141 rfl ?_
  refine x_iload_n X (q := 1) d_Model_findNowhere_141 rfl 142 rfl ?_
  refine x_iadd X d_Model_findNowhere_142 143 rfl ?_
  refine x_iald X hf d_Model_findNowhere_143 144 rfl (fun v2 hf => ?_)
  refine x_callV0z X (t_Model_isNowhere hf.2) hf.1 (ci := 12) rfl rfl lm_Model_184 im_Model_isNowhere sl_Model_isNowhere cd_Model_isNowhere in_Model ds_Model_isNowhere rfl rfl (Nat.le_of_ble_eq_true rfl) (Nat.le_of_ble_eq_true rfl) (Nat.le_of_ble_eq_true rfl) rfl rfl (Nat.le_refl 0) (Nat.le_refl 0) d_Model_findNowhere_144 147 rfl (fun v4 h3 hb5 hf => ?_)
  refine x_if_eq X hf d_Model_findNowhere_147 161 150 (by decide) rfl (fun hf => ?_) (fun hf => ?_)
  · exact x_sub [0, 1] rfl (t_Model_findNowhere_161 X hret hk94 hf)
  · refine x_aload_n X (q := 0) d_Model_findNowhere_150 rfl 151 rfl ?_
    refine x_iconst X (v := 5) d_Model_findNowhere_151 (by decide) 152 rfl ?_
    refine x_aload_n X (q := 0) d_Model_findNowhere_152 rfl 153 rfl ?_
    refine x_getR X hf (ci := 12) (j := 23) rfl (by decide) rfl lf_Model_60 d_Model_findNowhere_153 156 rfl (fun o6 hf => ?_)
    refine x_iload_n X (q := 1) d_Model_findNowhere_156 rfl 157 rfl ?_
    refine x_iald X hf d_Model_findNowhere_157 158 rfl (fun v7 hf => ?_)
    refine x_callV0v X (t_Model_wrong hf.2) hf.1 (ci := 12) rfl rfl lm_Model_146 im_Model_wrong sl_Model_wrong cd_Model_wrong in_Model ds_Model_wrong rfl rfl (Nat.le_of_ble_eq_true rfl) (Nat.le_of_ble_eq_true rfl) (Nat.le_of_ble_eq_true rfl) rfl rfl (Nat.le_refl 0) (Nat.le_refl 0) d_Model_findNowhere_158 161 rfl (fun h8 hf => ?_)
    exact x_sub [0, 1] rfl (t_Model_findNowhere_161 X hret hk94 hf)
set_option maxRecDepth 100000 in
def wp_Model_findNowhere_94_b (z : Nat → Nat) (Q : xh → Prop)  (k94 : Nat × Int32 × xh → Prop) (a0 : Nat) (x1 : Int32) (hp : xh) : Prop :=
  ∃ o1, fR hp a0 12 10 = some o1 ∧ (∃ v2, aI hp o1 0 14 = some v2 ∧ ((v2 ≤ x1 → Q hp) ∧ (¬ v2 ≤ x1 → (∃ o3, fR hp a0 12 16 = some o3 ∧ (∃ v4, aI hp o3 0 (300 + x1) = some v4 ∧ (xcls hp a0 12 ∧ wp_Model_isNowhere z (fun v6 h5 => (v6 = 0 → wp_Model_findNowhere_133 z Q k94 a0 x1 h5) ∧ (¬ v6 = 0 → (∃ o8, fR h5 a0 12 22 = some o8 ∧ (∃ v9, aI h5 o8 0 x1 = some v9 ∧ (xcls h5 a0 12 ∧ wp_Model_wrong z (fun h10 => wp_Model_findNowhere_133 z Q k94 a0 x1 h10) a0 5 v9 h5))))) a0 v4 hp))))))
set_option maxRecDepth 100000 in
def wp_Model_findNowhere_94 (z : Nat → Nat) (Q : xh → Prop)  (a0 : Nat) (x1 : Int32) (hp : xh) : Prop := ∃ f : Nat, xloop (fun k94 a => wp_Model_findNowhere_94_b z Q  k94 a.1 a.2.1 a.2.2) f (a0, x1, hp)
set_option maxRecDepth 100000 in
set_option maxHeartbeats 4000000 in
theorem t_Model_findNowhere_94 {p : Program} {l : Launch} {e : Env} {s : State} {m : MethodId} {args : Array Value} {below : List Frame} {meth : Method} {c : Code} {G : xG} {z : Nat → Nat} {A : Nat → Prop} {Qw : State → Prop} {Q : xh → Prop} {a0 : Nat} {x1 : Int32} {hp : xh} (X : xX p l e rm_Model_findNowhere s m args below meth c G z A y_Model_findNowhere b_Model_findNowhere 2) (hret : xRet p l e rm_Model_findNowhere s m args below meth c G A 2 Qw b_Model_findNowhere none (xqv Q))  (hf : wp_Model_findNowhere_94 z Q  a0 x1 hp) : xE p l e rm_Model_findNowhere s m args below meth c G A 2 Qw 0 0 hp 94 [(0, .ref a0), (1, .int x1)] [] := by
  obtain ⟨f, hf⟩ := hf
  refine xloop_ind (F := fun k94 a => wp_Model_findNowhere_94_b z Q  k94 a.1 a.2.1 a.2.2) (E := fun a => xE p l e rm_Model_findNowhere s m args below meth c G A 2 Qw 0 0 a.2.2 94 [(0, .ref (a.1)), (1, .int (a.2.1))] []) ?_ f (a0, x1, hp) hf
  intro k94 hk a hf
  obtain ⟨a0, x1, hp⟩ := a
  have hk94 : ∀ (a0 : Nat) (x1 : Int32) (hp : xh), k94 (a0, x1, hp) → xE p l e rm_Model_findNowhere s m args below meth c G A 2 Qw 0 0 hp 94 [(0, .ref a0), (1, .int x1)] [] := fun a0 x1 hp h => hk (a0, x1, hp) h
  have hf : wp_Model_findNowhere_94_b z Q  k94 a0 x1 hp := hf
  unfold wp_Model_findNowhere_94_b at hf
  refine x_iload_n X (q := 1) d_Model_findNowhere_94 rfl 95 rfl ?_
  refine x_aload_n X (q := 0) d_Model_findNowhere_95 rfl 96 rfl ?_
  refine x_getR X hf (ci := 12) (j := 10) rfl (by decide) rfl lf_Model_20 d_Model_findNowhere_96 99 rfl (fun o1 hf => ?_)
  refine x_bipush X (v := 14) d_Model_findNowhere_99 (by decide) 101 rfl ?_
  refine x_iald X hf d_Model_findNowhere_101 102 rfl (fun v2 hf => ?_)
  refine x_icmp_ge X hf d_Model_findNowhere_102 167 105 (by decide) rfl (fun hf => ?_) (fun hf => ?_)
  · exact hret _ _ _ _ _ none (Nat.le_refl 0) (Nat.le_refl 0) ⟨rfl, hf⟩ ⟨rfl, d_Model_findNowhere_167⟩
  · refine x_aload_n X (q := 0) d_Model_findNowhere_105 rfl 106 rfl ?_
    refine x_aload_n X (q := 0) d_Model_findNowhere_106 rfl 107 rfl ?_
    refine x_getR X hf (ci := 12) (j := 16) rfl (by decide) rfl lf_Model_39 d_Model_findNowhere_107 110 rfl (fun o3 hf => ?_)
    refine x_sipush X (v := 300) d_Model_findNowhere_110 (by decide) 113 rfl ?_
    refine x_iload_n X (q := 1) d_Model_findNowhere_113 rfl 114 rfl ?_
    refine x_iadd X d_Model_findNowhere_114 115 rfl ?_
    refine x_iald X hf d_Model_findNowhere_115 116 rfl (fun v4 hf => ?_)
    refine x_callV0z X (t_Model_isNowhere hf.2) hf.1 (ci := 12) rfl rfl lm_Model_184 im_Model_isNowhere sl_Model_isNowhere cd_Model_isNowhere in_Model ds_Model_isNowhere rfl rfl (Nat.le_of_ble_eq_true rfl) (Nat.le_of_ble_eq_true rfl) (Nat.le_of_ble_eq_true rfl) rfl rfl (Nat.le_refl 0) (Nat.le_refl 0) d_Model_findNowhere_116 119 rfl (fun v6 h5 hb7 hf => ?_)
    refine x_if_eq X hf d_Model_findNowhere_119 133 122 (by decide) rfl (fun hf => ?_) (fun hf => ?_)
    · exact x_sub [0, 1] rfl (t_Model_findNowhere_133 X hret hk94 hf)
    · refine x_aload_n X (q := 0) d_Model_findNowhere_122 rfl 123 rfl ?_
      refine x_iconst X (v := 5) d_Model_findNowhere_123 (by decide) 124 rfl ?_
      refine x_aload_n X (q := 0) d_Model_findNowhere_124 rfl 125 rfl ?_
      refine x_getR X hf (ci := 12) (j := 22) rfl (by decide) rfl lf_Model_57 d_Model_findNowhere_125 128 rfl (fun o8 hf => ?_)
      refine x_iload_n X (q := 1) d_Model_findNowhere_128 rfl 129 rfl ?_
      refine x_iald X hf d_Model_findNowhere_129 130 rfl (fun v9 hf => ?_)
      refine x_callV0v X (t_Model_wrong hf.2) hf.1 (ci := 12) rfl rfl lm_Model_146 im_Model_wrong sl_Model_wrong cd_Model_wrong in_Model ds_Model_wrong rfl rfl (Nat.le_of_ble_eq_true rfl) (Nat.le_of_ble_eq_true rfl) (Nat.le_of_ble_eq_true rfl) rfl rfl (Nat.le_refl 0) (Nat.le_refl 0) d_Model_findNowhere_130 133 rfl (fun h10 hf => ?_)
      exact x_sub [0, 1] rfl (t_Model_findNowhere_133 X hret hk94 hf)
set_option maxRecDepth 100000 in
def wp_Model_findNowhere_86 (z : Nat → Nat) (Q : xh → Prop) (k48 : Nat × Int32 × xh → Prop) (a0 : Nat) (x1 : Int32) (hp : xh) : Prop :=
  k48 (a0, (x1 + 1), hp)
set_option maxRecDepth 100000 in
set_option maxHeartbeats 4000000 in
theorem t_Model_findNowhere_86 {p : Program} {l : Launch} {e : Env} {s : State} {m : MethodId} {args : Array Value} {below : List Frame} {meth : Method} {c : Code} {G : xG} {z : Nat → Nat} {A : Nat → Prop} {Qw : State → Prop} {Q : xh → Prop} {k48 : Nat × Int32 × xh → Prop} {a0 : Nat} {x1 : Int32} {hp : xh} (X : xX p l e rm_Model_findNowhere s m args below meth c G z A y_Model_findNowhere b_Model_findNowhere 2) (hret : xRet p l e rm_Model_findNowhere s m args below meth c G A 2 Qw b_Model_findNowhere none (xqv Q)) (hk48 : ∀ (a0 : Nat) (x1 : Int32) (hp : xh), k48 (a0, x1, hp) → xE p l e rm_Model_findNowhere s m args below meth c G A 2 Qw 0 0 hp 48 [(0, .ref a0), (1, .int x1)] []) (hf : wp_Model_findNowhere_86 z Q k48 a0 x1 hp) : xE p l e rm_Model_findNowhere s m args below meth c G A 2 Qw 0 0 hp 86 [(0, .ref a0), (1, .int x1)] [] := by
  unfold wp_Model_findNowhere_86 at hf
  refine x_iinc X (q := 1) (v := (x1 + 1)) (lv' := [(1, .int (x1 + 1)), (0, .ref a0)]) d_Model_findNowhere_86 rfl (by rfl) (by decide) rfl 89 rfl ?_
  refine x_goto X d_Model_findNowhere_89 48 (by decide) ?_
  exact x_sub [1, 0] rfl (hk48 _ _ _ hf)
set_option maxRecDepth 100000 in
def wp_Model_findNowhere_48_b (z : Nat → Nat) (Q : xh → Prop)  (k48 : Nat × Int32 × xh → Prop) (a0 : Nat) (x1 : Int32) (hp : xh) : Prop :=
  ∃ o1, fR hp a0 12 10 = some o1 ∧ (∃ v2, aI hp o1 0 13 = some v2 ∧ ((v2 ≤ x1 → wp_Model_findNowhere_94 z Q a0 0 hp) ∧ (¬ v2 ≤ x1 → (∃ o3, fR hp a0 12 14 = some o3 ∧ (∃ v4, aI hp o3 0 (16 + x1) = some v4 ∧ (xcls hp a0 12 ∧ wp_Model_isNowhere z (fun v6 h5 => (v6 = 0 → wp_Model_findNowhere_86 z Q k48 a0 x1 h5) ∧ (¬ v6 = 0 → (∃ o8, fR h5 a0 12 21 = some o8 ∧ (∃ v9, aI h5 o8 0 x1 = some v9 ∧ (xcls h5 a0 12 ∧ wp_Model_wrong z (fun h10 => wp_Model_findNowhere_86 z Q k48 a0 x1 h10) a0 5 v9 h5))))) a0 v4 hp))))))
set_option maxRecDepth 100000 in
def wp_Model_findNowhere_48 (z : Nat → Nat) (Q : xh → Prop)  (a0 : Nat) (x1 : Int32) (hp : xh) : Prop := ∃ f : Nat, xloop (fun k48 a => wp_Model_findNowhere_48_b z Q  k48 a.1 a.2.1 a.2.2) f (a0, x1, hp)
set_option maxRecDepth 100000 in
set_option maxHeartbeats 4000000 in
theorem t_Model_findNowhere_48 {p : Program} {l : Launch} {e : Env} {s : State} {m : MethodId} {args : Array Value} {below : List Frame} {meth : Method} {c : Code} {G : xG} {z : Nat → Nat} {A : Nat → Prop} {Qw : State → Prop} {Q : xh → Prop} {a0 : Nat} {x1 : Int32} {hp : xh} (X : xX p l e rm_Model_findNowhere s m args below meth c G z A y_Model_findNowhere b_Model_findNowhere 2) (hret : xRet p l e rm_Model_findNowhere s m args below meth c G A 2 Qw b_Model_findNowhere none (xqv Q))  (hf : wp_Model_findNowhere_48 z Q  a0 x1 hp) : xE p l e rm_Model_findNowhere s m args below meth c G A 2 Qw 0 0 hp 48 [(0, .ref a0), (1, .int x1)] [] := by
  obtain ⟨f, hf⟩ := hf
  refine xloop_ind (F := fun k48 a => wp_Model_findNowhere_48_b z Q  k48 a.1 a.2.1 a.2.2) (E := fun a => xE p l e rm_Model_findNowhere s m args below meth c G A 2 Qw 0 0 a.2.2 48 [(0, .ref (a.1)), (1, .int (a.2.1))] []) ?_ f (a0, x1, hp) hf
  intro k48 hk a hf
  obtain ⟨a0, x1, hp⟩ := a
  have hk48 : ∀ (a0 : Nat) (x1 : Int32) (hp : xh), k48 (a0, x1, hp) → xE p l e rm_Model_findNowhere s m args below meth c G A 2 Qw 0 0 hp 48 [(0, .ref a0), (1, .int x1)] [] := fun a0 x1 hp h => hk (a0, x1, hp) h
  have hf : wp_Model_findNowhere_48_b z Q  k48 a0 x1 hp := hf
  unfold wp_Model_findNowhere_48_b at hf
  refine x_iload_n X (q := 1) d_Model_findNowhere_48 rfl 49 rfl ?_
  refine x_aload_n X (q := 0) d_Model_findNowhere_49 rfl 50 rfl ?_
  refine x_getR X hf (ci := 12) (j := 10) rfl (by decide) rfl lf_Model_20 d_Model_findNowhere_50 53 rfl (fun o1 hf => ?_)
  refine x_bipush X (v := 13) d_Model_findNowhere_53 (by decide) 55 rfl ?_
  refine x_iald X hf d_Model_findNowhere_55 56 rfl (fun v2 hf => ?_)
  refine x_icmp_ge X hf d_Model_findNowhere_56 92 59 (by decide) rfl (fun hf => ?_) (fun hf => ?_)
  · refine x_iconst X (v := 0) d_Model_findNowhere_92 (by decide) 93 rfl ?_
    refine x_istore_n X (lv' := [(1, .int 0), (0, .ref a0)]) d_Model_findNowhere_93 rfl (by decide) rfl 94 rfl ?_
    exact x_sub [1, 0] rfl (t_Model_findNowhere_94 X hret hf)
  · refine x_aload_n X (q := 0) d_Model_findNowhere_59 rfl 60 rfl ?_
    refine x_aload_n X (q := 0) d_Model_findNowhere_60 rfl 61 rfl ?_
    refine x_getR X hf (ci := 12) (j := 14) rfl (by decide) rfl lf_Model_33 d_Model_findNowhere_61 64 rfl (fun o3 hf => ?_)
    refine x_bipush X (v := 16) d_Model_findNowhere_64 (by decide) 66 rfl ?_
    refine x_iload_n X (q := 1) d_Model_findNowhere_66 rfl 67 rfl ?_
    refine x_iadd X d_Model_findNowhere_67 68 rfl ?_
    refine x_iald X hf d_Model_findNowhere_68 69 rfl (fun v4 hf => ?_)
    refine x_callV0z X (t_Model_isNowhere hf.2) hf.1 (ci := 12) rfl rfl lm_Model_184 im_Model_isNowhere sl_Model_isNowhere cd_Model_isNowhere in_Model ds_Model_isNowhere rfl rfl (Nat.le_of_ble_eq_true rfl) (Nat.le_of_ble_eq_true rfl) (Nat.le_of_ble_eq_true rfl) rfl rfl (Nat.le_refl 0) (Nat.le_refl 0) d_Model_findNowhere_69 72 rfl (fun v6 h5 hb7 hf => ?_)
    refine x_if_eq X hf d_Model_findNowhere_72 86 75 (by decide) rfl (fun hf => ?_) (fun hf => ?_)
    · exact x_sub [0, 1] rfl (t_Model_findNowhere_86 X hret hk48 hf)
    · refine x_aload_n X (q := 0) d_Model_findNowhere_75 rfl 76 rfl ?_
      refine x_iconst X (v := 5) d_Model_findNowhere_76 (by decide) 77 rfl ?_
      refine x_aload_n X (q := 0) d_Model_findNowhere_77 rfl 78 rfl ?_
      refine x_getR X hf (ci := 12) (j := 21) rfl (by decide) rfl lf_Model_54 d_Model_findNowhere_78 81 rfl (fun o8 hf => ?_)
      refine x_iload_n X (q := 1) d_Model_findNowhere_81 rfl 82 rfl ?_
      refine x_iald X hf d_Model_findNowhere_82 83 rfl (fun v9 hf => ?_)
      refine x_callV0v X (t_Model_wrong hf.2) hf.1 (ci := 12) rfl rfl lm_Model_146 im_Model_wrong sl_Model_wrong cd_Model_wrong in_Model ds_Model_wrong rfl rfl (Nat.le_of_ble_eq_true rfl) (Nat.le_of_ble_eq_true rfl) (Nat.le_of_ble_eq_true rfl) rfl rfl (Nat.le_refl 0) (Nat.le_refl 0) d_Model_findNowhere_83 86 rfl (fun h10 hf => ?_)
      exact x_sub [0, 1] rfl (t_Model_findNowhere_86 X hret hk48 hf)
set_option maxRecDepth 100000 in
def wp_Model_findNowhere_40 (z : Nat → Nat) (Q : xh → Prop) (k2 : Nat × Int32 × xh → Prop) (a0 : Nat) (x1 : Int32) (hp : xh) : Prop :=
  k2 (a0, (x1 + 1), hp)
set_option maxRecDepth 100000 in
set_option maxHeartbeats 4000000 in
theorem t_Model_findNowhere_40 {p : Program} {l : Launch} {e : Env} {s : State} {m : MethodId} {args : Array Value} {below : List Frame} {meth : Method} {c : Code} {G : xG} {z : Nat → Nat} {A : Nat → Prop} {Qw : State → Prop} {Q : xh → Prop} {k2 : Nat × Int32 × xh → Prop} {a0 : Nat} {x1 : Int32} {hp : xh} (X : xX p l e rm_Model_findNowhere s m args below meth c G z A y_Model_findNowhere b_Model_findNowhere 2) (hret : xRet p l e rm_Model_findNowhere s m args below meth c G A 2 Qw b_Model_findNowhere none (xqv Q)) (hk2 : ∀ (a0 : Nat) (x1 : Int32) (hp : xh), k2 (a0, x1, hp) → xE p l e rm_Model_findNowhere s m args below meth c G A 2 Qw 0 0 hp 2 [(0, .ref a0), (1, .int x1)] []) (hf : wp_Model_findNowhere_40 z Q k2 a0 x1 hp) : xE p l e rm_Model_findNowhere s m args below meth c G A 2 Qw 0 0 hp 40 [(0, .ref a0), (1, .int x1)] [] := by
  unfold wp_Model_findNowhere_40 at hf
  refine x_iinc X (q := 1) (v := (x1 + 1)) (lv' := [(1, .int (x1 + 1)), (0, .ref a0)]) d_Model_findNowhere_40 rfl (by rfl) (by decide) rfl 43 rfl ?_
  refine x_goto X d_Model_findNowhere_43 2 (by decide) ?_
  exact x_sub [1, 0] rfl (hk2 _ _ _ hf)
set_option maxRecDepth 100000 in
def wp_Model_findNowhere_2_b (z : Nat → Nat) (Q : xh → Prop)  (k2 : Nat × Int32 × xh → Prop) (a0 : Nat) (x1 : Int32) (hp : xh) : Prop :=
  ∃ o1, fR hp a0 12 10 = some o1 ∧ (∃ v2, aI hp o1 0 12 = some v2 ∧ ((v2 ≤ x1 → wp_Model_findNowhere_48 z Q a0 0 hp) ∧ (¬ v2 ≤ x1 → (∃ o3, fR hp a0 12 13 = some o3 ∧ (∃ v4, aI hp o3 0 (14 + x1) = some v4 ∧ (xcls hp a0 12 ∧ wp_Model_isNowhere z (fun v6 h5 => (v6 = 0 → wp_Model_findNowhere_40 z Q k2 a0 x1 h5) ∧ (¬ v6 = 0 → (∃ o8, fR h5 a0 12 20 = some o8 ∧ (∃ v9, aI h5 o8 0 x1 = some v9 ∧ (xcls h5 a0 12 ∧ wp_Model_wrong z (fun h10 => wp_Model_findNowhere_40 z Q k2 a0 x1 h10) a0 5 v9 h5))))) a0 v4 hp))))))
set_option maxRecDepth 100000 in
def wp_Model_findNowhere_2 (z : Nat → Nat) (Q : xh → Prop)  (a0 : Nat) (x1 : Int32) (hp : xh) : Prop := ∃ f : Nat, xloop (fun k2 a => wp_Model_findNowhere_2_b z Q  k2 a.1 a.2.1 a.2.2) f (a0, x1, hp)
set_option maxRecDepth 100000 in
set_option maxHeartbeats 4000000 in
theorem t_Model_findNowhere_2 {p : Program} {l : Launch} {e : Env} {s : State} {m : MethodId} {args : Array Value} {below : List Frame} {meth : Method} {c : Code} {G : xG} {z : Nat → Nat} {A : Nat → Prop} {Qw : State → Prop} {Q : xh → Prop} {a0 : Nat} {x1 : Int32} {hp : xh} (X : xX p l e rm_Model_findNowhere s m args below meth c G z A y_Model_findNowhere b_Model_findNowhere 2) (hret : xRet p l e rm_Model_findNowhere s m args below meth c G A 2 Qw b_Model_findNowhere none (xqv Q))  (hf : wp_Model_findNowhere_2 z Q  a0 x1 hp) : xE p l e rm_Model_findNowhere s m args below meth c G A 2 Qw 0 0 hp 2 [(0, .ref a0), (1, .int x1)] [] := by
  obtain ⟨f, hf⟩ := hf
  refine xloop_ind (F := fun k2 a => wp_Model_findNowhere_2_b z Q  k2 a.1 a.2.1 a.2.2) (E := fun a => xE p l e rm_Model_findNowhere s m args below meth c G A 2 Qw 0 0 a.2.2 2 [(0, .ref (a.1)), (1, .int (a.2.1))] []) ?_ f (a0, x1, hp) hf
  intro k2 hk a hf
  obtain ⟨a0, x1, hp⟩ := a
  have hk2 : ∀ (a0 : Nat) (x1 : Int32) (hp : xh), k2 (a0, x1, hp) → xE p l e rm_Model_findNowhere s m args below meth c G A 2 Qw 0 0 hp 2 [(0, .ref a0), (1, .int x1)] [] := fun a0 x1 hp h => hk (a0, x1, hp) h
  have hf : wp_Model_findNowhere_2_b z Q  k2 a0 x1 hp := hf
  unfold wp_Model_findNowhere_2_b at hf
  refine x_iload_n X (q := 1) d_Model_findNowhere_2 rfl 3 rfl ?_
  refine x_aload_n X (q := 0) d_Model_findNowhere_3 rfl 4 rfl ?_
  refine x_getR X hf (ci := 12) (j := 10) rfl (by decide) rfl lf_Model_20 d_Model_findNowhere_4 7 rfl (fun o1 hf => ?_)
  refine x_bipush X (v := 12) d_Model_findNowhere_7 (by decide) 9 rfl ?_
  refine x_iald X hf d_Model_findNowhere_9 10 rfl (fun v2 hf => ?_)
  refine x_icmp_ge X hf d_Model_findNowhere_10 46 13 (by decide) rfl (fun hf => ?_) (fun hf => ?_)
  · refine x_iconst X (v := 0) d_Model_findNowhere_46 (by decide) 47 rfl ?_
    refine x_istore_n X (lv' := [(1, .int 0), (0, .ref a0)]) d_Model_findNowhere_47 rfl (by decide) rfl 48 rfl ?_
    exact x_sub [1, 0] rfl (t_Model_findNowhere_48 X hret hf)
  · refine x_aload_n X (q := 0) d_Model_findNowhere_13 rfl 14 rfl ?_
    refine x_aload_n X (q := 0) d_Model_findNowhere_14 rfl 15 rfl ?_
    refine x_getR X hf (ci := 12) (j := 13) rfl (by decide) rfl lf_Model_30 d_Model_findNowhere_15 18 rfl (fun o3 hf => ?_)
    refine x_bipush X (v := 14) d_Model_findNowhere_18 (by decide) 20 rfl ?_
    refine x_iload_n X (q := 1) d_Model_findNowhere_20 rfl 21 rfl ?_
    refine x_iadd X d_Model_findNowhere_21 22 rfl ?_
    refine x_iald X hf d_Model_findNowhere_22 23 rfl (fun v4 hf => ?_)
    refine x_callV0z X (t_Model_isNowhere hf.2) hf.1 (ci := 12) rfl rfl lm_Model_184 im_Model_isNowhere sl_Model_isNowhere cd_Model_isNowhere in_Model ds_Model_isNowhere rfl rfl (Nat.le_of_ble_eq_true rfl) (Nat.le_of_ble_eq_true rfl) (Nat.le_of_ble_eq_true rfl) rfl rfl (Nat.le_refl 0) (Nat.le_refl 0) d_Model_findNowhere_23 26 rfl (fun v6 h5 hb7 hf => ?_)
    refine x_if_eq X hf d_Model_findNowhere_26 40 29 (by decide) rfl (fun hf => ?_) (fun hf => ?_)
    · exact x_sub [0, 1] rfl (t_Model_findNowhere_40 X hret hk2 hf)
    · refine x_aload_n X (q := 0) d_Model_findNowhere_29 rfl 30 rfl ?_
      refine x_iconst X (v := 5) d_Model_findNowhere_30 (by decide) 31 rfl ?_
      refine x_aload_n X (q := 0) d_Model_findNowhere_31 rfl 32 rfl ?_
      refine x_getR X hf (ci := 12) (j := 20) rfl (by decide) rfl lf_Model_51 d_Model_findNowhere_32 35 rfl (fun o8 hf => ?_)
      refine x_iload_n X (q := 1) d_Model_findNowhere_35 rfl 36 rfl ?_
      refine x_iald X hf d_Model_findNowhere_36 37 rfl (fun v9 hf => ?_)
      refine x_callV0v X (t_Model_wrong hf.2) hf.1 (ci := 12) rfl rfl lm_Model_146 im_Model_wrong sl_Model_wrong cd_Model_wrong in_Model ds_Model_wrong rfl rfl (Nat.le_of_ble_eq_true rfl) (Nat.le_of_ble_eq_true rfl) (Nat.le_of_ble_eq_true rfl) rfl rfl (Nat.le_refl 0) (Nat.le_refl 0) d_Model_findNowhere_37 40 rfl (fun h10 hf => ?_)
      exact x_sub [0, 1] rfl (t_Model_findNowhere_40 X hret hk2 hf)
set_option maxRecDepth 100000 in
def wp_Model_findNowhere (z : Nat → Nat) (Q : xh → Prop) (a0 : Nat) (hp : xh) : Prop :=
  wp_Model_findNowhere_2 z Q a0 0 hp
set_option maxRecDepth 100000 in
set_option maxHeartbeats 4000000 in
theorem t_Model_findNowhere {l : Launch} {G : xG} {z : Nat → Nat} {Q : xh → Prop} {a0 : Nat} {hp : xh} (hf : wp_Model_findNowhere z Q a0 hp) : xM l G z y_Model_findNowhere b_Model_findNowhere 2 none rm_Model_findNowhere [.ref a0] hp (xqv Q) := by
  refine xM_of (by decide) (Nat.le_of_ble_eq_true rfl) (lv0 := [(0, .ref a0)]) rfl ?_
  intro p e s m args below meth c A Qw X hret
  unfold wp_Model_findNowhere at hf
  refine x_iconst X (v := 0) d_Model_findNowhere_0 (by decide) 1 rfl ?_
  refine x_istore_n X (lv' := [(1, .int 0), (0, .ref a0)]) d_Model_findNowhere_1 rfl (by decide) rfl 2 rfl ?_
  exact x_sub [1, 0] rfl (t_Model_findNowhere_2 X hret hf)

set_option maxRecDepth 100000 in
def wp_Model_hasCome_16 (z : Nat → Nat) (Q : Int32 → xh → Prop)   (hp : xh) : Prop :=
  Q 1 hp
set_option maxRecDepth 100000 in
set_option maxHeartbeats 4000000 in
theorem t_Model_hasCome_16 {p : Program} {l : Launch} {e : Env} {s : State} {m : MethodId} {args : Array Value} {below : List Frame} {meth : Method} {c : Code} {G : xG} {z : Nat → Nat} {A : Nat → Prop} {Qw : State → Prop} {Q : Int32 → xh → Prop}  {hp : xh} (X : xX p l e rm_Model_hasCome s m args below meth c G z A y_Model_hasCome b_Model_hasCome 2) (hret : xRet p l e rm_Model_hasCome s m args below meth c G A 2 Qw b_Model_hasCome (some .boolean) (xqz Q))  (hf : wp_Model_hasCome_16 z Q  hp) : xE p l e rm_Model_hasCome s m args below meth c G A 2 Qw 0 0 hp 16 [] [] := by
  unfold wp_Model_hasCome_16 at hf
  refine x_iconst X (v := 1) d_Model_hasCome_16 (by decide) 17 rfl ?_
  refine x_goto X d_Model_hasCome_17 21 (by decide) ?_
  exact hret _ _ _ _ _ (some (.int 1)) (Nat.le_refl 0) (Nat.le_refl 0) ⟨_, rfl, (Or.inr rfl), hf⟩ ⟨⟨_, rfl, xbl_nar (Or.inr rfl)⟩, d_Model_hasCome_21⟩
set_option maxRecDepth 100000 in
def wp_Model_hasCome (z : Nat → Nat) (Q : Int32 → xh → Prop) (a0 : Nat) (x1 : Int32) (hp : xh) : Prop :=
  (x1 < 2 → wp_Model_hasCome_16 z Q hp) ∧ (¬ x1 < 2 → (∃ o1, fR hp a0 12 28 = some o1 ∧ (∃ v2, aI hp o1 2 (x1 / 2) = some v2 ∧ ((v2 = 0 → Q 0 hp) ∧ (¬ v2 = 0 → wp_Model_hasCome_16 z Q hp)))))
set_option maxRecDepth 100000 in
set_option maxHeartbeats 4000000 in
theorem t_Model_hasCome {l : Launch} {G : xG} {z : Nat → Nat} {Q : Int32 → xh → Prop} {a0 : Nat} {x1 : Int32} {hp : xh} (hf : wp_Model_hasCome z Q a0 x1 hp) : xM l G z y_Model_hasCome b_Model_hasCome 2 (some .boolean) rm_Model_hasCome [.ref a0, .int x1] hp (xqz Q) := by
  refine xM_of (by decide) (Nat.le_of_ble_eq_true rfl) (lv0 := [(0, .ref a0), (1, .int x1)]) rfl ?_
  intro p e s m args below meth c A Qw X hret
  unfold wp_Model_hasCome at hf
  refine x_iload_n X (q := 1) d_Model_hasCome_0 rfl 1 rfl ?_
  refine x_iconst X (v := 2) d_Model_hasCome_1 (by decide) 2 rfl ?_
  refine x_icmp_lt X hf d_Model_hasCome_2 16 5 (by decide) rfl (fun hf => ?_) (fun hf => ?_)
  · exact x_sub [] rfl (t_Model_hasCome_16 X hret hf)
  · refine x_aload_n X (q := 0) d_Model_hasCome_5 rfl 6 rfl ?_
    refine x_getR X hf (ci := 12) (j := 28) rfl (by decide) rfl lf_Model_75 d_Model_hasCome_6 9 rfl (fun o1 hf => ?_)
    refine x_iload_n X (q := 1) d_Model_hasCome_9 rfl 10 rfl ?_
    refine x_iconst X (v := 2) d_Model_hasCome_10 (by decide) 11 rfl ?_
    refine x_idiv X (by decide) d_Model_hasCome_11 12 rfl ?_
    refine x_zald X hf d_Model_hasCome_12 13 rfl (fun v2 hf => ?_)
    refine x_if_eq X hf d_Model_hasCome_13 20 16 (by decide) rfl (fun hf => ?_) (fun hf => ?_)
    · refine x_iconst X (v := 0) d_Model_hasCome_20 (by decide) 21 rfl ?_
      exact hret _ _ _ _ _ (some (.int 0)) (Nat.le_refl 0) (Nat.le_refl 0) ⟨_, rfl, (Or.inl rfl), hf⟩ ⟨⟨_, rfl, xbl_nar (Or.inl rfl)⟩, d_Model_hasCome_21⟩
    · exact x_sub [] rfl (t_Model_hasCome_16 X hret hf)

set_option maxRecDepth 100000 in
def wp_Model_sort_163 (z : Nat → Nat) (Q : xh → Prop) (k61 : Nat × Int32 × xh → Prop) (a0 : Nat) (x1 : Int32) (hp : xh) : Prop :=
  k61 (a0, x1, hp)
set_option maxRecDepth 100000 in
set_option maxHeartbeats 4000000 in
theorem t_Model_sort_163 {p : Program} {l : Launch} {e : Env} {s : State} {m : MethodId} {args : Array Value} {below : List Frame} {meth : Method} {c : Code} {G : xG} {z : Nat → Nat} {A : Nat → Prop} {Qw : State → Prop} {Q : xh → Prop} {k61 : Nat × Int32 × xh → Prop} {a0 : Nat} {x1 : Int32} {hp : xh} (X : xX p l e rm_Model_sort s m args below meth c G z A y_Model_sort b_Model_sort 3) (hret : xRet p l e rm_Model_sort s m args below meth c G A 3 Qw b_Model_sort none (xqv Q)) (hk61 : ∀ (a0 : Nat) (x1 : Int32) (hp : xh), k61 (a0, x1, hp) → xE p l e rm_Model_sort s m args below meth c G A 3 Qw 0 0 hp 61 [(0, .ref a0), (1, .int x1)] []) (hf : wp_Model_sort_163 z Q k61 a0 x1 hp) : xE p l e rm_Model_sort s m args below meth c G A 3 Qw 0 0 hp 163 [(0, .ref a0), (1, .int x1)] [] := by
  unfold wp_Model_sort_163 at hf
  refine x_goto X d_Model_sort_163 61 (by decide) ?_
  exact x_sub [0, 1] rfl (hk61 _ _ _ hf)
set_option maxRecDepth 100000 in
def wp_Model_sort_160 (z : Nat → Nat) (Q : xh → Prop) (k61 : Nat × Int32 × xh → Prop) (a0 : Nat) (x1 : Int32) (hp : xh) : Prop :=
  wp_Model_sort_163 z Q k61 a0 (x1 + 1) hp
set_option maxRecDepth 100000 in
set_option maxHeartbeats 4000000 in
theorem t_Model_sort_160 {p : Program} {l : Launch} {e : Env} {s : State} {m : MethodId} {args : Array Value} {below : List Frame} {meth : Method} {c : Code} {G : xG} {z : Nat → Nat} {A : Nat → Prop} {Qw : State → Prop} {Q : xh → Prop} {k61 : Nat × Int32 × xh → Prop} {a0 : Nat} {x1 : Int32} {hp : xh} (X : xX p l e rm_Model_sort s m args below meth c G z A y_Model_sort b_Model_sort 3) (hret : xRet p l e rm_Model_sort s m args below meth c G A 3 Qw b_Model_sort none (xqv Q)) (hk61 : ∀ (a0 : Nat) (x1 : Int32) (hp : xh), k61 (a0, x1, hp) → xE p l e rm_Model_sort s m args below meth c G A 3 Qw 0 0 hp 61 [(0, .ref a0), (1, .int x1)] []) (hf : wp_Model_sort_160 z Q k61 a0 x1 hp) : xE p l e rm_Model_sort s m args below meth c G A 3 Qw 0 0 hp 160 [(0, .ref a0), (1, .int x1)] [] := by
  unfold wp_Model_sort_160 at hf
  refine x_iinc X (q := 1) (v := (x1 + 1)) (lv' := [(1, .int (x1 + 1)), (0, .ref a0)]) d_Model_sort_160 rfl (by rfl) (by decide) rfl 163 rfl ?_
  exact x_sub [1, 0] rfl (t_Model_sort_163 X hret hk61 hf)
set_option maxRecDepth 100000 in
def wp_Model_sort_61_b (z : Nat → Nat) (Q : xh → Prop)  (k61 : Nat × Int32 × xh → Prop) (a0 : Nat) (x1 : Int32) (hp : xh) : Prop :=
  ∃ o1, fR hp a0 12 10 = some o1 ∧ (∃ v2, aI hp o1 0 14 = some v2 ∧ ((v2 ≤ x1 → Q hp) ∧ (¬ v2 ≤ x1 → (∃ o3, fR hp a0 12 15 = some o3 ∧ (∃ v4, aI hp o3 0 (300 + x1) = some v4 ∧ (∀ v5, v5 = (v4 / 2) → ∃ o6, fR hp a0 12 28 = some o6 ∧ (∃ v7, aI hp o6 2 v5 = some v7 ∧ ((¬ v7 = 0 → wp_Model_sort_160 z Q k61 a0 x1 hp) ∧ (v7 = 0 → (∃ o8, fR hp a0 12 16 = some o8 ∧ (∃ v9, aI hp o8 0 (300 + x1) = some v9 ∧ (xcls hp a0 12 ∧ wp_Model_hasCome z (fun v11 h10 => (v11 = 0 → wp_Model_sort_160 z Q k61 a0 x1 h10) ∧ (¬ v11 = 0 → (∃ o13, fR h10 a0 12 17 = some o13 ∧ (∃ v14, aI h10 o13 0 (300 + x1) = some v14 ∧ (xcls h10 a0 12 ∧ wp_Model_hasCome z (fun v16 h15 => (v16 = 0 → wp_Model_sort_160 z Q k61 a0 x1 h15) ∧ (¬ v16 = 0 → (∃ o18, fR h15 a0 12 28 = some o18 ∧ (∃ h19, sI h15 o18 2 v5 (vp_nar .boolean 1) = some h19 ∧ (∃ o20, fR h19 a0 12 26 = some o20 ∧ (∃ v21, fI h19 a0 12 29 = some v21 ∧ (∃ h22, sI h19 o20 0 v21 x1 = some h22 ∧ (∃ v23, fI h22 a0 12 29 = some v23 ∧ (∃ h24, pV h22 a0 12 29 (.int (v23 + 1)) = some h24 ∧ wp_Model_sort_163 z Q k61 a0 0 h24))))))))) a0 v14 h10))))) a0 v9 hp))))))))))))
set_option maxRecDepth 100000 in
def wp_Model_sort_61 (z : Nat → Nat) (Q : xh → Prop)  (a0 : Nat) (x1 : Int32) (hp : xh) : Prop := ∃ f : Nat, xloop (fun k61 a => wp_Model_sort_61_b z Q  k61 a.1 a.2.1 a.2.2) f (a0, x1, hp)
set_option maxRecDepth 100000 in
set_option maxHeartbeats 4000000 in
theorem t_Model_sort_61 {p : Program} {l : Launch} {e : Env} {s : State} {m : MethodId} {args : Array Value} {below : List Frame} {meth : Method} {c : Code} {G : xG} {z : Nat → Nat} {A : Nat → Prop} {Qw : State → Prop} {Q : xh → Prop} {a0 : Nat} {x1 : Int32} {hp : xh} (X : xX p l e rm_Model_sort s m args below meth c G z A y_Model_sort b_Model_sort 3) (hret : xRet p l e rm_Model_sort s m args below meth c G A 3 Qw b_Model_sort none (xqv Q))  (hf : wp_Model_sort_61 z Q  a0 x1 hp) : xE p l e rm_Model_sort s m args below meth c G A 3 Qw 0 0 hp 61 [(0, .ref a0), (1, .int x1)] [] := by
  obtain ⟨f, hf⟩ := hf
  refine xloop_ind (F := fun k61 a => wp_Model_sort_61_b z Q  k61 a.1 a.2.1 a.2.2) (E := fun a => xE p l e rm_Model_sort s m args below meth c G A 3 Qw 0 0 a.2.2 61 [(0, .ref (a.1)), (1, .int (a.2.1))] []) ?_ f (a0, x1, hp) hf
  intro k61 hk a hf
  obtain ⟨a0, x1, hp⟩ := a
  have hk61 : ∀ (a0 : Nat) (x1 : Int32) (hp : xh), k61 (a0, x1, hp) → xE p l e rm_Model_sort s m args below meth c G A 3 Qw 0 0 hp 61 [(0, .ref a0), (1, .int x1)] [] := fun a0 x1 hp h => hk (a0, x1, hp) h
  have hf : wp_Model_sort_61_b z Q  k61 a0 x1 hp := hf
  unfold wp_Model_sort_61_b at hf
  refine x_iload_n X (q := 1) d_Model_sort_61 rfl 62 rfl ?_
  refine x_aload_n X (q := 0) d_Model_sort_62 rfl 63 rfl ?_
  refine x_getR X hf (ci := 12) (j := 10) rfl (by decide) rfl lf_Model_20 d_Model_sort_63 66 rfl (fun o1 hf => ?_)
  refine x_bipush X (v := 14) d_Model_sort_66 (by decide) 68 rfl ?_
  refine x_iald X hf d_Model_sort_68 69 rfl (fun v2 hf => ?_)
  refine x_icmp_ge X hf d_Model_sort_69 166 72 (by decide) rfl (fun hf => ?_) (fun hf => ?_)
  · exact hret _ _ _ _ _ none (Nat.le_refl 0) (Nat.le_refl 0) ⟨rfl, hf⟩ ⟨rfl, d_Model_sort_166⟩
  · refine x_aload_n X (q := 0) d_Model_sort_72 rfl 73 rfl ?_
    refine x_getR X hf (ci := 12) (j := 15) rfl (by decide) rfl lf_Model_36 d_Model_sort_73 76 rfl (fun o3 hf => ?_)
    refine x_sipush X (v := 300) d_Model_sort_76 (by decide) 79 rfl ?_
    refine x_iload_n X (q := 1) d_Model_sort_79 rfl 80 rfl ?_
    refine x_iadd X d_Model_sort_80 81 rfl ?_
    refine x_iald X hf d_Model_sort_81 82 rfl (fun v4 hf => ?_)
    refine x_iconst X (v := 2) d_Model_sort_82 (by decide) 83 rfl ?_
    refine x_idiv X (by decide) d_Model_sort_83 84 rfl ?_
    refine x_istoreN_n X hf d_Model_sort_84 rfl (by decide) (lw := fun v5 => [(2, .int v5), (0, .ref a0), (1, .int x1)]) (fun _ => rfl) 85 rfl (fun v5 hf => ?_)
    refine x_aload_n X (q := 1) d_Model_sort_85 rfl 86 rfl ?_
    refine x_getR X hf (ci := 12) (j := 28) rfl (by decide) rfl lf_Model_75 d_Model_sort_86 89 rfl (fun o6 hf => ?_)
    refine x_iload_n X (q := 0) d_Model_sort_89 rfl 90 rfl ?_
    refine x_zald X hf d_Model_sort_90 91 rfl (fun v7 hf => ?_)
    refine x_if_ne X hf d_Model_sort_91 160 94 (by decide) rfl (fun hf => ?_) (fun hf => ?_)
    · exact x_sub [1, 2] rfl (t_Model_sort_160 X hret hk61 hf)
    · refine x_aload_n X (q := 1) d_Model_sort_94 rfl 95 rfl ?_
      refine x_aload_n X (q := 1) d_Model_sort_95 rfl 96 rfl ?_
      refine x_getR X hf (ci := 12) (j := 16) rfl (by decide) rfl lf_Model_39 d_Model_sort_96 99 rfl (fun o8 hf => ?_)
      refine x_sipush X (v := 300) d_Model_sort_99 (by decide) 102 rfl ?_
      refine x_iload_n X (q := 2) d_Model_sort_102 rfl 103 rfl ?_
      refine x_iadd X d_Model_sort_103 104 rfl ?_
      refine x_iald X hf d_Model_sort_104 105 rfl (fun v9 hf => ?_)
      refine x_callV0z X (t_Model_hasCome hf.2) hf.1 (ci := 12) rfl rfl lm_Model_191 im_Model_hasCome sl_Model_hasCome cd_Model_hasCome in_Model ds_Model_hasCome rfl rfl (Nat.le_of_ble_eq_true rfl) (Nat.le_of_ble_eq_true rfl) (Nat.le_of_ble_eq_true rfl) rfl rfl (Nat.le_refl 0) (Nat.le_refl 0) d_Model_sort_105 108 rfl (fun v11 h10 hb12 hf => ?_)
      refine x_if_eq X hf d_Model_sort_108 160 111 (by decide) rfl (fun hf => ?_) (fun hf => ?_)
      · exact x_sub [1, 2] rfl (t_Model_sort_160 X hret hk61 hf)
      · refine x_aload_n X (q := 1) d_Model_sort_111 rfl 112 rfl ?_
        refine x_aload_n X (q := 1) d_Model_sort_112 rfl 113 rfl ?_
        refine x_getR X hf (ci := 12) (j := 17) rfl (by decide) rfl lf_Model_42 d_Model_sort_113 116 rfl (fun o13 hf => ?_)
        refine x_sipush X (v := 300) d_Model_sort_116 (by decide) 119 rfl ?_
        refine x_iload_n X (q := 2) d_Model_sort_119 rfl 120 rfl ?_
        refine x_iadd X d_Model_sort_120 121 rfl ?_
        refine x_iald X hf d_Model_sort_121 122 rfl (fun v14 hf => ?_)
        refine x_callV0z X (t_Model_hasCome hf.2) hf.1 (ci := 12) rfl rfl lm_Model_191 im_Model_hasCome sl_Model_hasCome cd_Model_hasCome in_Model ds_Model_hasCome rfl rfl (Nat.le_of_ble_eq_true rfl) (Nat.le_of_ble_eq_true rfl) (Nat.le_of_ble_eq_true rfl) rfl rfl (Nat.le_refl 0) (Nat.le_refl 0) d_Model_sort_122 125 rfl (fun v16 h15 hb17 hf => ?_)
        refine x_if_eq X hf d_Model_sort_125 160 128 (by decide) rfl (fun hf => ?_) (fun hf => ?_)
        · exact x_sub [1, 2] rfl (t_Model_sort_160 X hret hk61 hf)
        · refine x_aload_n X (q := 1) d_Model_sort_128 rfl 129 rfl ?_
          refine x_getR X hf (ci := 12) (j := 28) rfl (by decide) rfl lf_Model_75 d_Model_sort_129 132 rfl (fun o18 hf => ?_)
          refine x_iload_n X (q := 0) d_Model_sort_132 rfl 133 rfl ?_
          refine x_iconst X (v := 1) d_Model_sort_133 (by decide) 134 rfl ?_
          refine x_zast X hf d_Model_sort_134 135 rfl (fun h19 hf => ?_)
          refine x_aload_n X (q := 1) d_Model_sort_135 rfl 136 rfl ?_
          refine x_getR X hf (ci := 12) (j := 26) rfl (by decide) rfl lf_Model_69 d_Model_sort_136 139 rfl (fun o20 hf => ?_)
          refine x_aload_n X (q := 1) d_Model_sort_139 rfl 140 rfl ?_
          refine x_getI X hf (ci := 12) (j := 29) rfl (by decide) rfl lf_Model_188 d_Model_sort_140 143 rfl (fun v21 hf => ?_)
          refine x_iload_n X (q := 2) d_Model_sort_143 rfl 144 rfl ?_
          refine x_iast X hf d_Model_sort_144 145 rfl (fun h22 hf => ?_)
          refine x_aload_n X (q := 1) d_Model_sort_145 rfl 146 rfl ?_
          refine x_dup X rfl d_Model_sort_146 147 rfl ?_
          refine x_getI X hf (ci := 12) (j := 29) rfl (by decide) rfl lf_Model_188 d_Model_sort_147 150 rfl (fun v23 hf => ?_)
          refine x_iconst X (v := 1) d_Model_sort_150 (by decide) 151 rfl ?_
          refine x_iadd X d_Model_sort_151 152 rfl ?_
          refine x_put X hf (ci := 12) (j := 29) (ty := .int) rfl (by decide) rfl lf_Model_188 rfl (by decide +kernel) rfl rfl d_Model_sort_152 155 rfl (fun h24 hf => ?_)
          refine x_iconst X (v := 0) d_Model_sort_155 (by decide) 156 rfl ?_
          refine x_istore_n X (lv' := [(1, .int 0), (2, .int v5), (0, .ref a0)]) d_Model_sort_156 rfl (by decide) rfl 157 rfl ?_
          refine x_goto X d_Model_sort_157 163 (by decide) ?_
          exact x_sub [2, 0] rfl (t_Model_sort_163 X hret hk61 hf)
set_option maxRecDepth 100000 in
def wp_Model_sort_47 (z : Nat → Nat) (Q : xh → Prop) (k2 : Nat × Int32 × xh → Prop) (a0 : Nat) (x1 : Int32) (s2 : Int32) (s1 : Int32) (s0 : Nat) (hp : xh) : Prop :=
  ∃ h1, sI hp s0 2 s1 (vp_nar .boolean s2) = some h1 ∧ (k2 (a0, (x1 + 1), h1))
set_option maxRecDepth 100000 in
set_option maxHeartbeats 4000000 in
theorem t_Model_sort_47 {p : Program} {l : Launch} {e : Env} {s : State} {m : MethodId} {args : Array Value} {below : List Frame} {meth : Method} {c : Code} {G : xG} {z : Nat → Nat} {A : Nat → Prop} {Qw : State → Prop} {Q : xh → Prop} {k2 : Nat × Int32 × xh → Prop} {a0 : Nat} {x1 : Int32} {s2 : Int32} {s1 : Int32} {s0 : Nat} {hp : xh} (X : xX p l e rm_Model_sort s m args below meth c G z A y_Model_sort b_Model_sort 3) (hret : xRet p l e rm_Model_sort s m args below meth c G A 3 Qw b_Model_sort none (xqv Q)) (hk2 : ∀ (a0 : Nat) (x1 : Int32) (hp : xh), k2 (a0, x1, hp) → xE p l e rm_Model_sort s m args below meth c G A 3 Qw 0 0 hp 2 [(0, .ref a0), (1, .int x1)] []) (hf : wp_Model_sort_47 z Q k2 a0 x1 s2 s1 s0 hp) : xE p l e rm_Model_sort s m args below meth c G A 3 Qw 0 0 hp 47 [(0, .ref a0), (1, .int x1)] [.int s2, .int s1, .ref s0] := by
  unfold wp_Model_sort_47 at hf
  refine x_zast X hf d_Model_sort_47 48 rfl (fun h1 hf => ?_)
  refine x_iinc X (q := 1) (v := (x1 + 1)) (lv' := [(1, .int (x1 + 1)), (0, .ref a0)]) d_Model_sort_48 rfl (by rfl) (by decide) rfl 51 rfl ?_
  refine x_goto X d_Model_sort_51 2 (by decide) ?_
  exact x_sub [1, 0] rfl (hk2 _ _ _ hf)
set_option maxRecDepth 100000 in
def wp_Model_sort_42 (z : Nat → Nat) (Q : xh → Prop) (k2 : Nat × Int32 × xh → Prop) (a0 : Nat) (x1 : Int32) (s1 : Int32) (s0 : Nat) (hp : xh) : Prop :=
  wp_Model_sort_47 z Q k2 a0 x1 1 s1 s0 hp
set_option maxRecDepth 100000 in
set_option maxHeartbeats 4000000 in
theorem t_Model_sort_42 {p : Program} {l : Launch} {e : Env} {s : State} {m : MethodId} {args : Array Value} {below : List Frame} {meth : Method} {c : Code} {G : xG} {z : Nat → Nat} {A : Nat → Prop} {Qw : State → Prop} {Q : xh → Prop} {k2 : Nat × Int32 × xh → Prop} {a0 : Nat} {x1 : Int32} {s1 : Int32} {s0 : Nat} {hp : xh} (X : xX p l e rm_Model_sort s m args below meth c G z A y_Model_sort b_Model_sort 3) (hret : xRet p l e rm_Model_sort s m args below meth c G A 3 Qw b_Model_sort none (xqv Q)) (hk2 : ∀ (a0 : Nat) (x1 : Int32) (hp : xh), k2 (a0, x1, hp) → xE p l e rm_Model_sort s m args below meth c G A 3 Qw 0 0 hp 2 [(0, .ref a0), (1, .int x1)] []) (hf : wp_Model_sort_42 z Q k2 a0 x1 s1 s0 hp) : xE p l e rm_Model_sort s m args below meth c G A 3 Qw 0 0 hp 42 [(0, .ref a0), (1, .int x1)] [.int s1, .ref s0] := by
  unfold wp_Model_sort_42 at hf
  refine x_iconst X (v := 1) d_Model_sort_42 (by decide) 43 rfl ?_
  refine x_goto X d_Model_sort_43 47 (by decide) ?_
  exact x_sub [0, 1] rfl (t_Model_sort_47 X hret hk2 hf)
set_option maxRecDepth 100000 in
def wp_Model_sort_2_b (z : Nat → Nat) (Q : xh → Prop)  (k2 : Nat × Int32 × xh → Prop) (a0 : Nat) (x1 : Int32) (hp : xh) : Prop :=
  (201 ≤ x1 → (∃ h1, pV hp a0 12 29 (.int 0) = some h1 ∧ wp_Model_sort_61 z Q a0 0 h1)) ∧ (¬ 201 ≤ x1 → (∃ o2, fR hp a0 12 28 = some o2 ∧ (∃ o3, fR hp a0 12 18 = some o3 ∧ (∃ v4, aI hp o3 0 (402 + x1) = some v4 ∧ ((v4 = 1 → wp_Model_sort_42 z Q k2 a0 x1 x1 o2 hp) ∧ (¬ v4 = 1 → (∃ o5, fR hp a0 12 18 = some o5 ∧ (∃ v6, aI hp o5 0 (402 + x1) = some v6 ∧ ((¬ v6 = 2 → wp_Model_sort_47 z Q k2 a0 x1 0 x1 o2 hp) ∧ (v6 = 2 → wp_Model_sort_42 z Q k2 a0 x1 x1 o2 hp))))))))))
set_option maxRecDepth 100000 in
def wp_Model_sort_2 (z : Nat → Nat) (Q : xh → Prop)  (a0 : Nat) (x1 : Int32) (hp : xh) : Prop := ∃ f : Nat, xloop (fun k2 a => wp_Model_sort_2_b z Q  k2 a.1 a.2.1 a.2.2) f (a0, x1, hp)
set_option maxRecDepth 100000 in
set_option maxHeartbeats 4000000 in
theorem t_Model_sort_2 {p : Program} {l : Launch} {e : Env} {s : State} {m : MethodId} {args : Array Value} {below : List Frame} {meth : Method} {c : Code} {G : xG} {z : Nat → Nat} {A : Nat → Prop} {Qw : State → Prop} {Q : xh → Prop} {a0 : Nat} {x1 : Int32} {hp : xh} (X : xX p l e rm_Model_sort s m args below meth c G z A y_Model_sort b_Model_sort 3) (hret : xRet p l e rm_Model_sort s m args below meth c G A 3 Qw b_Model_sort none (xqv Q))  (hf : wp_Model_sort_2 z Q  a0 x1 hp) : xE p l e rm_Model_sort s m args below meth c G A 3 Qw 0 0 hp 2 [(0, .ref a0), (1, .int x1)] [] := by
  obtain ⟨f, hf⟩ := hf
  refine xloop_ind (F := fun k2 a => wp_Model_sort_2_b z Q  k2 a.1 a.2.1 a.2.2) (E := fun a => xE p l e rm_Model_sort s m args below meth c G A 3 Qw 0 0 a.2.2 2 [(0, .ref (a.1)), (1, .int (a.2.1))] []) ?_ f (a0, x1, hp) hf
  intro k2 hk a hf
  obtain ⟨a0, x1, hp⟩ := a
  have hk2 : ∀ (a0 : Nat) (x1 : Int32) (hp : xh), k2 (a0, x1, hp) → xE p l e rm_Model_sort s m args below meth c G A 3 Qw 0 0 hp 2 [(0, .ref a0), (1, .int x1)] [] := fun a0 x1 hp h => hk (a0, x1, hp) h
  have hf : wp_Model_sort_2_b z Q  k2 a0 x1 hp := hf
  unfold wp_Model_sort_2_b at hf
  refine x_iload_n X (q := 1) d_Model_sort_2 rfl 3 rfl ?_
  refine x_sipush X (v := 201) d_Model_sort_3 (by decide) 6 rfl ?_
  refine x_icmp_ge X hf d_Model_sort_6 54 9 (by decide) rfl (fun hf => ?_) (fun hf => ?_)
  · refine x_aload_n X (q := 0) d_Model_sort_54 rfl 55 rfl ?_
    refine x_iconst X (v := 0) d_Model_sort_55 (by decide) 56 rfl ?_
    refine x_put X hf (ci := 12) (j := 29) (ty := .int) rfl (by decide) rfl lf_Model_188 rfl (by decide +kernel) rfl rfl d_Model_sort_56 59 rfl (fun h1 hf => ?_)
    refine x_iconst X (v := 0) d_Model_sort_59 (by decide) 60 rfl ?_
    refine x_istore_n X (lv' := [(1, .int 0), (0, .ref a0)]) d_Model_sort_60 rfl (by decide) rfl 61 rfl ?_
    exact x_sub [1, 0] rfl (t_Model_sort_61 X hret hf)
  · refine x_aload_n X (q := 0) d_Model_sort_9 rfl 10 rfl ?_
    refine x_getR X hf (ci := 12) (j := 28) rfl (by decide) rfl lf_Model_75 d_Model_sort_10 13 rfl (fun o2 hf => ?_)
    refine x_iload_n X (q := 1) d_Model_sort_13 rfl 14 rfl ?_
    refine x_aload_n X (q := 0) d_Model_sort_14 rfl 15 rfl ?_
    refine x_getR X hf (ci := 12) (j := 18) rfl (by decide) rfl lf_Model_45 d_Model_sort_15 18 rfl (fun o3 hf => ?_)
    refine x_sipush X (v := 402) d_Model_sort_18 (by decide) 21 rfl ?_
    refine x_iload_n X (q := 1) d_Model_sort_21 rfl 22 rfl ?_
    refine x_iadd X d_Model_sort_22 23 rfl ?_
    refine x_iald X hf d_Model_sort_23 24 rfl (fun v4 hf => ?_)
    refine x_iconst X (v := 1) d_Model_sort_24 (by decide) 25 rfl ?_
    refine x_icmp_eq X hf d_Model_sort_25 42 28 (by decide) rfl (fun hf => ?_) (fun hf => ?_)
    · exact x_sub [0, 1] rfl (t_Model_sort_42 X hret hk2 hf)
    · refine x_aload_n X (q := 0) d_Model_sort_28 rfl 29 rfl ?_
      refine x_getR X hf (ci := 12) (j := 18) rfl (by decide) rfl lf_Model_45 d_Model_sort_29 32 rfl (fun o5 hf => ?_)
      refine x_sipush X (v := 402) d_Model_sort_32 (by decide) 35 rfl ?_
      refine x_iload_n X (q := 1) d_Model_sort_35 rfl 36 rfl ?_
      refine x_iadd X d_Model_sort_36 37 rfl ?_
      refine x_iald X hf d_Model_sort_37 38 rfl (fun v6 hf => ?_)
      refine x_iconst X (v := 2) d_Model_sort_38 (by decide) 39 rfl ?_
      refine x_icmp_ne X hf d_Model_sort_39 46 42 (by decide) rfl (fun hf => ?_) (fun hf => ?_)
      · refine x_iconst X (v := 0) d_Model_sort_46 (by decide) 47 rfl ?_
        exact x_sub [0, 1] rfl (t_Model_sort_47 X hret hk2 hf)
      · exact x_sub [0, 1] rfl (t_Model_sort_42 X hret hk2 hf)
set_option maxRecDepth 100000 in
def wp_Model_sort (z : Nat → Nat) (Q : xh → Prop) (a0 : Nat) (hp : xh) : Prop :=
  wp_Model_sort_2 z Q a0 0 hp
set_option maxRecDepth 100000 in
set_option maxHeartbeats 4000000 in
theorem t_Model_sort {l : Launch} {G : xG} {z : Nat → Nat} {Q : xh → Prop} {a0 : Nat} {hp : xh} (hf : wp_Model_sort z Q a0 hp) : xM l G z y_Model_sort b_Model_sort 3 none rm_Model_sort [.ref a0] hp (xqv Q) := by
  refine xM_of (by decide) (Nat.le_of_ble_eq_true rfl) (lv0 := [(0, .ref a0)]) rfl ?_
  intro p e s m args below meth c A Qw X hret
  unfold wp_Model_sort at hf
  refine x_iconst X (v := 0) d_Model_sort_0 (by decide) 1 rfl ?_
  refine x_istore_n X (lv' := [(1, .int 0), (0, .ref a0)]) d_Model_sort_1 rfl (by decide) rfl 2 rfl ?_
  exact x_sub [1, 0] rfl (t_Model_sort_2 X hret hf)

set_option maxRecDepth 100000 in
def wp_Model_hangs_155 (z : Nat → Nat) (Q : Int32 → xh → Prop) (k29 : Nat × Int32 × Nat × Int32 × Int32 × xh → Prop) (k38 : Nat × Int32 × Nat × Int32 × Int32 × Int32 × xh → Prop) (a0 : Nat) (x1 : Int32) (a2 : Nat) (x3 : Int32) (x4 : Int32) (x5 : Int32) (hp : xh) : Prop :=
  k38 (a0, x1, a2, x3, x4, (x5 + 1), hp)
set_option maxRecDepth 100000 in
set_option maxHeartbeats 4000000 in
theorem t_Model_hangs_155 {p : Program} {l : Launch} {e : Env} {s : State} {m : MethodId} {args : Array Value} {below : List Frame} {meth : Method} {c : Code} {G : xG} {z : Nat → Nat} {A : Nat → Prop} {Qw : State → Prop} {Q : Int32 → xh → Prop} {k29 : Nat × Int32 × Nat × Int32 × Int32 × xh → Prop} {k38 : Nat × Int32 × Nat × Int32 × Int32 × Int32 × xh → Prop} {a0 : Nat} {x1 : Int32} {a2 : Nat} {x3 : Int32} {x4 : Int32} {x5 : Int32} {hp : xh} (X : xX p l e rm_Model_hangs s m args below meth c G z A y_Model_hangs b_Model_hangs 9) (hret : xRet p l e rm_Model_hangs s m args below meth c G A 9 Qw b_Model_hangs (some .boolean) (xqz Q)) (hk29 : ∀ (a0 : Nat) (x1 : Int32) (a2 : Nat) (x3 : Int32) (x4 : Int32) (hp : xh), k29 (a0, x1, a2, x3, x4, hp) → xE p l e rm_Model_hangs s m args below meth c G A 9 Qw 0 0 hp 29 [(0, .ref a0), (1, .int x1), (2, .ref a2), (3, .int x3), (4, .int x4)] []) (hk38 : ∀ (a0 : Nat) (x1 : Int32) (a2 : Nat) (x3 : Int32) (x4 : Int32) (x5 : Int32) (hp : xh), k38 (a0, x1, a2, x3, x4, x5, hp) → xE p l e rm_Model_hangs s m args below meth c G A 9 Qw 0 0 hp 38 [(0, .ref a0), (1, .int x1), (2, .ref a2), (3, .int x3), (4, .int x4), (5, .int x5)] []) (hf : wp_Model_hangs_155 z Q k29 k38 a0 x1 a2 x3 x4 x5 hp) : xE p l e rm_Model_hangs s m args below meth c G A 9 Qw 0 0 hp 155 [(0, .ref a0), (1, .int x1), (2, .ref a2), (3, .int x3), (4, .int x4), (5, .int x5)] [] := by
  unfold wp_Model_hangs_155 at hf
  refine x_iinc X (q := 5) (v := (x5 + 1)) (lv' := [(5, .int (x5 + 1)), (0, .ref a0), (1, .int x1), (2, .ref a2), (3, .int x3), (4, .int x4)]) d_Model_hangs_155 rfl (by rfl) (by decide) rfl 158 rfl ?_
  refine x_goto X d_Model_hangs_158 38 (by decide) ?_
  exact x_sub [1, 2, 3, 4, 5, 0] rfl (hk38 _ _ _ _ _ _ _ hf)
set_option maxRecDepth 100000 in
def wp_Model_hangs_145 (z : Nat → Nat) (Q : Int32 → xh → Prop) (k29 : Nat × Int32 × Nat × Int32 × Int32 × xh → Prop) (k38 : Nat × Int32 × Nat × Int32 × Int32 × Int32 × xh → Prop) (a0 : Nat) (x1 : Int32) (a2 : Nat) (x3 : Int32) (x4 : Int32) (x5 : Int32) (x7 : Int32) (x8 : Int32) (hp : xh) : Prop :=
  ∃ h1, sI hp a2 2 x7 (vp_nar .boolean 1) = some h1 ∧ (∃ h2, sI h1 a2 2 x8 (vp_nar .boolean 1) = some h2 ∧ wp_Model_hangs_155 z Q k29 k38 a0 x1 a2 x3 x4 x5 h2)
set_option maxRecDepth 100000 in
set_option maxHeartbeats 4000000 in
theorem t_Model_hangs_145 {p : Program} {l : Launch} {e : Env} {s : State} {m : MethodId} {args : Array Value} {below : List Frame} {meth : Method} {c : Code} {G : xG} {z : Nat → Nat} {A : Nat → Prop} {Qw : State → Prop} {Q : Int32 → xh → Prop} {k29 : Nat × Int32 × Nat × Int32 × Int32 × xh → Prop} {k38 : Nat × Int32 × Nat × Int32 × Int32 × Int32 × xh → Prop} {a0 : Nat} {x1 : Int32} {a2 : Nat} {x3 : Int32} {x4 : Int32} {x5 : Int32} {x7 : Int32} {x8 : Int32} {hp : xh} (X : xX p l e rm_Model_hangs s m args below meth c G z A y_Model_hangs b_Model_hangs 9) (hret : xRet p l e rm_Model_hangs s m args below meth c G A 9 Qw b_Model_hangs (some .boolean) (xqz Q)) (hk29 : ∀ (a0 : Nat) (x1 : Int32) (a2 : Nat) (x3 : Int32) (x4 : Int32) (hp : xh), k29 (a0, x1, a2, x3, x4, hp) → xE p l e rm_Model_hangs s m args below meth c G A 9 Qw 0 0 hp 29 [(0, .ref a0), (1, .int x1), (2, .ref a2), (3, .int x3), (4, .int x4)] []) (hk38 : ∀ (a0 : Nat) (x1 : Int32) (a2 : Nat) (x3 : Int32) (x4 : Int32) (x5 : Int32) (hp : xh), k38 (a0, x1, a2, x3, x4, x5, hp) → xE p l e rm_Model_hangs s m args below meth c G A 9 Qw 0 0 hp 38 [(0, .ref a0), (1, .int x1), (2, .ref a2), (3, .int x3), (4, .int x4), (5, .int x5)] []) (hf : wp_Model_hangs_145 z Q k29 k38 a0 x1 a2 x3 x4 x5 x7 x8 hp) : xE p l e rm_Model_hangs s m args below meth c G A 9 Qw 0 0 hp 145 [(0, .ref a0), (1, .int x1), (2, .ref a2), (3, .int x3), (4, .int x4), (5, .int x5), (7, .int x7), (8, .int x8)] [] := by
  unfold wp_Model_hangs_145 at hf
  refine x_aload_n X (q := 2) d_Model_hangs_145 rfl 146 rfl ?_
  refine x_iload X (q := 6) d_Model_hangs_146 rfl 148 rfl ?_
  refine x_iconst X (v := 1) d_Model_hangs_148 (by decide) 149 rfl ?_
  refine x_zast X hf d_Model_hangs_149 150 rfl (fun h1 hf => ?_)
  refine x_aload_n X (q := 2) d_Model_hangs_150 rfl 151 rfl ?_
  refine x_iload X (q := 7) d_Model_hangs_151 rfl 153 rfl ?_
  refine x_iconst X (v := 1) d_Model_hangs_153 (by decide) 154 rfl ?_
  refine x_zast X hf d_Model_hangs_154 155 rfl (fun h2 hf => ?_)
  exact x_sub [0, 1, 2, 3, 4, 5] rfl (t_Model_hangs_155 X hret hk29 hk38 hf)
set_option maxRecDepth 100000 in
def wp_Model_hangs_143 (z : Nat → Nat) (Q : Int32 → xh → Prop) (k29 : Nat × Int32 × Nat × Int32 × Int32 × xh → Prop) (k38 : Nat × Int32 × Nat × Int32 × Int32 × Int32 × xh → Prop) (a0 : Nat) (x1 : Int32) (a2 : Nat) (x4 : Int32) (x5 : Int32) (x7 : Int32) (x8 : Int32) (hp : xh) : Prop :=
  wp_Model_hangs_145 z Q k29 k38 a0 x1 a2 1 x4 x5 x7 x8 hp
set_option maxRecDepth 100000 in
set_option maxHeartbeats 4000000 in
theorem t_Model_hangs_143 {p : Program} {l : Launch} {e : Env} {s : State} {m : MethodId} {args : Array Value} {below : List Frame} {meth : Method} {c : Code} {G : xG} {z : Nat → Nat} {A : Nat → Prop} {Qw : State → Prop} {Q : Int32 → xh → Prop} {k29 : Nat × Int32 × Nat × Int32 × Int32 × xh → Prop} {k38 : Nat × Int32 × Nat × Int32 × Int32 × Int32 × xh → Prop} {a0 : Nat} {x1 : Int32} {a2 : Nat} {x4 : Int32} {x5 : Int32} {x7 : Int32} {x8 : Int32} {hp : xh} (X : xX p l e rm_Model_hangs s m args below meth c G z A y_Model_hangs b_Model_hangs 9) (hret : xRet p l e rm_Model_hangs s m args below meth c G A 9 Qw b_Model_hangs (some .boolean) (xqz Q)) (hk29 : ∀ (a0 : Nat) (x1 : Int32) (a2 : Nat) (x3 : Int32) (x4 : Int32) (hp : xh), k29 (a0, x1, a2, x3, x4, hp) → xE p l e rm_Model_hangs s m args below meth c G A 9 Qw 0 0 hp 29 [(0, .ref a0), (1, .int x1), (2, .ref a2), (3, .int x3), (4, .int x4)] []) (hk38 : ∀ (a0 : Nat) (x1 : Int32) (a2 : Nat) (x3 : Int32) (x4 : Int32) (x5 : Int32) (hp : xh), k38 (a0, x1, a2, x3, x4, x5, hp) → xE p l e rm_Model_hangs s m args below meth c G A 9 Qw 0 0 hp 38 [(0, .ref a0), (1, .int x1), (2, .ref a2), (3, .int x3), (4, .int x4), (5, .int x5)] []) (hf : wp_Model_hangs_143 z Q k29 k38 a0 x1 a2 x4 x5 x7 x8 hp) : xE p l e rm_Model_hangs s m args below meth c G A 9 Qw 0 0 hp 143 [(0, .ref a0), (1, .int x1), (2, .ref a2), (4, .int x4), (5, .int x5), (7, .int x7), (8, .int x8)] [] := by
  unfold wp_Model_hangs_143 at hf
  refine x_iconst X (v := 1) d_Model_hangs_143 (by decide) 144 rfl ?_
  refine x_istore_n X (lv' := [(3, .int 1), (0, .ref a0), (1, .int x1), (2, .ref a2), (4, .int x4), (5, .int x5), (7, .int x7), (8, .int x8)]) d_Model_hangs_144 rfl (by decide) rfl 145 rfl ?_
  exact x_sub [1, 2, 3, 0, 4, 5, 6, 7] rfl (t_Model_hangs_145 X hret hk29 hk38 hf)
set_option maxRecDepth 100000 in
def wp_Model_hangs_99 (z : Nat → Nat) (Q : Int32 → xh → Prop) (k29 : Nat × Int32 × Nat × Int32 × Int32 × xh → Prop) (k38 : Nat × Int32 × Nat × Int32 × Int32 × Int32 × xh → Prop) (a0 : Nat) (x1 : Int32) (a2 : Nat) (x3 : Int32) (x4 : Int32) (x5 : Int32) (hp : xh) : Prop :=
  ∃ o1, fR hp a0 12 16 = some o1 ∧ (∃ v2, aI hp o1 0 (300 + x5) = some v2 ∧ (∀ v3, v3 = (v2 / 2) → ∃ o4, fR hp a0 12 17 = some o4 ∧ (∃ v5, aI hp o4 0 (300 + x5) = some v5 ∧ (∀ v6, v6 = (v5 / 2) → ∃ v7, aI hp a2 2 v3 = some v7 ∧ ((v7 = 0 → wp_Model_hangs_143 z Q k29 k38 a0 x1 a2 x4 x5 v3 v6 hp) ∧ (¬ v7 = 0 → (∃ v8, aI hp a2 2 v6 = some v8 ∧ ((¬ v8 = 0 → wp_Model_hangs_145 z Q k29 k38 a0 x1 a2 x3 x4 x5 v3 v6 hp) ∧ (v8 = 0 → wp_Model_hangs_143 z Q k29 k38 a0 x1 a2 x4 x5 v3 v6 hp)))))))))
set_option maxRecDepth 100000 in
set_option maxHeartbeats 4000000 in
theorem t_Model_hangs_99 {p : Program} {l : Launch} {e : Env} {s : State} {m : MethodId} {args : Array Value} {below : List Frame} {meth : Method} {c : Code} {G : xG} {z : Nat → Nat} {A : Nat → Prop} {Qw : State → Prop} {Q : Int32 → xh → Prop} {k29 : Nat × Int32 × Nat × Int32 × Int32 × xh → Prop} {k38 : Nat × Int32 × Nat × Int32 × Int32 × Int32 × xh → Prop} {a0 : Nat} {x1 : Int32} {a2 : Nat} {x3 : Int32} {x4 : Int32} {x5 : Int32} {hp : xh} (X : xX p l e rm_Model_hangs s m args below meth c G z A y_Model_hangs b_Model_hangs 9) (hret : xRet p l e rm_Model_hangs s m args below meth c G A 9 Qw b_Model_hangs (some .boolean) (xqz Q)) (hk29 : ∀ (a0 : Nat) (x1 : Int32) (a2 : Nat) (x3 : Int32) (x4 : Int32) (hp : xh), k29 (a0, x1, a2, x3, x4, hp) → xE p l e rm_Model_hangs s m args below meth c G A 9 Qw 0 0 hp 29 [(0, .ref a0), (1, .int x1), (2, .ref a2), (3, .int x3), (4, .int x4)] []) (hk38 : ∀ (a0 : Nat) (x1 : Int32) (a2 : Nat) (x3 : Int32) (x4 : Int32) (x5 : Int32) (hp : xh), k38 (a0, x1, a2, x3, x4, x5, hp) → xE p l e rm_Model_hangs s m args below meth c G A 9 Qw 0 0 hp 38 [(0, .ref a0), (1, .int x1), (2, .ref a2), (3, .int x3), (4, .int x4), (5, .int x5)] []) (hf : wp_Model_hangs_99 z Q k29 k38 a0 x1 a2 x3 x4 x5 hp) : xE p l e rm_Model_hangs s m args below meth c G A 9 Qw 0 0 hp 99 [(0, .ref a0), (1, .int x1), (2, .ref a2), (3, .int x3), (4, .int x4), (5, .int x5)] [] := by
  unfold wp_Model_hangs_99 at hf
  refine x_aload_n X (q := 0) d_Model_hangs_99 rfl 100 rfl ?_
  refine x_getR X hf (ci := 12) (j := 16) rfl (by decide) rfl lf_Model_39 d_Model_hangs_100 103 rfl (fun o1 hf => ?_)
  refine x_sipush X (v := 300) d_Model_hangs_103 (by decide) 106 rfl ?_
  refine x_iload X (q := 5) d_Model_hangs_106 rfl 108 rfl ?_
  refine x_iadd X d_Model_hangs_108 109 rfl ?_
  refine x_iald X hf d_Model_hangs_109 110 rfl (fun v2 hf => ?_)
  refine x_iconst X (v := 2) d_Model_hangs_110 (by decide) 111 rfl ?_
  refine x_idiv X (by decide) d_Model_hangs_111 112 rfl ?_
  refine x_istoreN X hf d_Model_hangs_112 (by decide) (lw := fun v3 => [(7, .int v3), (0, .ref a0), (1, .int x1), (2, .ref a2), (3, .int x3), (4, .int x4), (5, .int x5)]) (fun _ => rfl) 114 rfl (fun v3 hf => ?_)
  refine x_aload_n X (q := 1) d_Model_hangs_114 rfl 115 rfl ?_
  refine x_getR X hf (ci := 12) (j := 17) rfl (by decide) rfl lf_Model_42 d_Model_hangs_115 118 rfl (fun o4 hf => ?_)
  refine x_sipush X (v := 300) d_Model_hangs_118 (by decide) 121 rfl ?_
  refine x_iload X (q := 6) d_Model_hangs_121 rfl 123 rfl ?_
  refine x_iadd X d_Model_hangs_123 124 rfl ?_
  refine x_iald X hf d_Model_hangs_124 125 rfl (fun v5 hf => ?_)
  refine x_iconst X (v := 2) d_Model_hangs_125 (by decide) 126 rfl ?_
  refine x_idiv X (by decide) d_Model_hangs_126 127 rfl ?_
  refine x_istoreN X hf d_Model_hangs_127 (by decide) (lw := fun v6 => [(8, .int v6), (7, .int v3), (0, .ref a0), (1, .int x1), (2, .ref a2), (3, .int x3), (4, .int x4), (5, .int x5)]) (fun _ => rfl) 129 rfl (fun v6 hf => ?_)
  refine x_aload_n X (q := 4) d_Model_hangs_129 rfl 130 rfl ?_
  refine x_iload X (q := 1) d_Model_hangs_130 rfl 132 rfl ?_
  refine x_zald X hf d_Model_hangs_132 133 rfl (fun v7 hf => ?_)
  refine x_if_eq X hf d_Model_hangs_133 143 136 (by decide) rfl (fun hf => ?_) (fun hf => ?_)
  · exact x_sub [2, 3, 4, 6, 7, 1, 0] rfl (t_Model_hangs_143 X hret hk29 hk38 hf)
  · refine x_aload_n X (q := 4) d_Model_hangs_136 rfl 137 rfl ?_
    refine x_iload X (q := 0) d_Model_hangs_137 rfl 139 rfl ?_
    refine x_zald X hf d_Model_hangs_139 140 rfl (fun v8 hf => ?_)
    refine x_if_ne X hf d_Model_hangs_140 145 143 (by decide) rfl (fun hf => ?_) (fun hf => ?_)
    · exact x_sub [2, 3, 4, 5, 6, 7, 1, 0] rfl (t_Model_hangs_145 X hret hk29 hk38 hf)
    · exact x_sub [2, 3, 4, 6, 7, 1, 0] rfl (t_Model_hangs_143 X hret hk29 hk38 hf)
set_option maxRecDepth 100000 in
def wp_Model_hangs_78 (z : Nat → Nat) (Q : Int32 → xh → Prop) (k29 : Nat × Int32 × Nat × Int32 × Int32 × xh → Prop) (k38 : Nat × Int32 × Nat × Int32 × Int32 × Int32 × xh → Prop) (a0 : Nat) (x1 : Int32) (a2 : Nat) (x3 : Int32) (x4 : Int32) (x5 : Int32) (x6 : Int32) (hp : xh) : Prop :=
  (¬ x6 = x1 → wp_Model_hangs_99 z Q k29 k38 a0 x1 a2 x3 x4 x5 hp) ∧ (x6 = x1 → ((x4 = 0 → wp_Model_hangs_99 z Q k29 k38 a0 x1 a2 x3 x4 x5 hp) ∧ (¬ x4 = 0 → (∃ v1, aI hp a2 2 x6 = some v1 ∧ ((¬ v1 = 0 → wp_Model_hangs_99 z Q k29 k38 a0 x1 a2 x3 x4 x5 hp) ∧ (v1 = 0 → wp_Model_hangs_155 z Q k29 k38 a0 x1 a2 x3 x4 x5 hp))))))
set_option maxRecDepth 100000 in
set_option maxHeartbeats 4000000 in
theorem t_Model_hangs_78 {p : Program} {l : Launch} {e : Env} {s : State} {m : MethodId} {args : Array Value} {below : List Frame} {meth : Method} {c : Code} {G : xG} {z : Nat → Nat} {A : Nat → Prop} {Qw : State → Prop} {Q : Int32 → xh → Prop} {k29 : Nat × Int32 × Nat × Int32 × Int32 × xh → Prop} {k38 : Nat × Int32 × Nat × Int32 × Int32 × Int32 × xh → Prop} {a0 : Nat} {x1 : Int32} {a2 : Nat} {x3 : Int32} {x4 : Int32} {x5 : Int32} {x6 : Int32} {hp : xh} (X : xX p l e rm_Model_hangs s m args below meth c G z A y_Model_hangs b_Model_hangs 9) (hret : xRet p l e rm_Model_hangs s m args below meth c G A 9 Qw b_Model_hangs (some .boolean) (xqz Q)) (hk29 : ∀ (a0 : Nat) (x1 : Int32) (a2 : Nat) (x3 : Int32) (x4 : Int32) (hp : xh), k29 (a0, x1, a2, x3, x4, hp) → xE p l e rm_Model_hangs s m args below meth c G A 9 Qw 0 0 hp 29 [(0, .ref a0), (1, .int x1), (2, .ref a2), (3, .int x3), (4, .int x4)] []) (hk38 : ∀ (a0 : Nat) (x1 : Int32) (a2 : Nat) (x3 : Int32) (x4 : Int32) (x5 : Int32) (hp : xh), k38 (a0, x1, a2, x3, x4, x5, hp) → xE p l e rm_Model_hangs s m args below meth c G A 9 Qw 0 0 hp 38 [(0, .ref a0), (1, .int x1), (2, .ref a2), (3, .int x3), (4, .int x4), (5, .int x5)] []) (hf : wp_Model_hangs_78 z Q k29 k38 a0 x1 a2 x3 x4 x5 x6 hp) : xE p l e rm_Model_hangs s m args below meth c G A 9 Qw 0 0 hp 78 [(0, .ref a0), (1, .int x1), (2, .ref a2), (3, .int x3), (4, .int x4), (5, .int x5), (6, .int x6)] [] := by
  unfold wp_Model_hangs_78 at hf
  refine x_iload X (q := 6) d_Model_hangs_78 rfl 80 rfl ?_
  refine x_iload_n X (q := 1) d_Model_hangs_80 rfl 81 rfl ?_
  refine x_icmp_ne X hf d_Model_hangs_81 99 84 (by decide) rfl (fun hf => ?_) (fun hf => ?_)
  · exact x_sub [0, 1, 2, 3, 4, 5] rfl (t_Model_hangs_99 X hret hk29 hk38 hf)
  · refine x_iload X (q := 4) d_Model_hangs_84 rfl 86 rfl ?_
    refine x_if_eq X hf d_Model_hangs_86 99 89 (by decide) rfl (fun hf => ?_) (fun hf => ?_)
    · exact x_sub [0, 1, 2, 3, 4, 5] rfl (t_Model_hangs_99 X hret hk29 hk38 hf)
    · refine x_aload_n X (q := 2) d_Model_hangs_89 rfl 90 rfl ?_
      refine x_iload X (q := 6) d_Model_hangs_90 rfl 92 rfl ?_
      refine x_zald X hf d_Model_hangs_92 93 rfl (fun v1 hf => ?_)
      refine x_if_ne X hf d_Model_hangs_93 99 96 (by decide) rfl (fun hf => ?_) (fun hf => ?_)
      · exact x_sub [0, 1, 2, 3, 4, 5] rfl (t_Model_hangs_99 X hret hk29 hk38 hf)
      · refine x_goto X d_Model_hangs_96 155 (by decide) ?_
        exact x_sub [0, 1, 2, 3, 4, 5] rfl (t_Model_hangs_155 X hret hk29 hk38 hf)
set_option maxRecDepth 100000 in
def wp_Model_hangs_38_b (z : Nat → Nat) (Q : Int32 → xh → Prop) (k29 : Nat × Int32 × Nat × Int32 × Int32 × xh → Prop) (k38 : Nat × Int32 × Nat × Int32 × Int32 × Int32 × xh → Prop) (a0 : Nat) (x1 : Int32) (a2 : Nat) (x3 : Int32) (x4 : Int32) (x5 : Int32) (hp : xh) : Prop :=
  ∃ o1, fR hp a0 12 10 = some o1 ∧ (∃ v2, aI hp o1 0 14 = some v2 ∧ ((v2 ≤ x5 → (k29 (a0, x1, a2, x3, 1, hp))) ∧ (¬ v2 ≤ x5 → (∃ o3, fR hp a0 12 15 = some o3 ∧ (∃ v4, aI hp o3 0 (300 + x5) = some v4 ∧ (∀ v5, v5 = (v4 / 2) → (v5 = x1 → wp_Model_hangs_78 z Q k29 k38 a0 x1 a2 x3 x4 x5 v5 hp) ∧ (¬ v5 = x1 → (∃ v6, aI hp a2 2 v5 = some v6 ∧ ((v6 = 0 → wp_Model_hangs_155 z Q k29 k38 a0 x1 a2 x3 x4 x5 hp) ∧ (¬ v6 = 0 → wp_Model_hangs_78 z Q k29 k38 a0 x1 a2 x3 x4 x5 v5 hp))))))))))
set_option maxRecDepth 100000 in
def wp_Model_hangs_38 (z : Nat → Nat) (Q : Int32 → xh → Prop) (k29 : Nat × Int32 × Nat × Int32 × Int32 × xh → Prop) (a0 : Nat) (x1 : Int32) (a2 : Nat) (x3 : Int32) (x4 : Int32) (x5 : Int32) (hp : xh) : Prop := ∃ f : Nat, xloop (fun k38 a => wp_Model_hangs_38_b z Q k29 k38 a.1 a.2.1 a.2.2.1 a.2.2.2.1 a.2.2.2.2.1 a.2.2.2.2.2.1 a.2.2.2.2.2.2) f (a0, x1, a2, x3, x4, x5, hp)
set_option maxRecDepth 100000 in
set_option maxHeartbeats 4000000 in
theorem t_Model_hangs_38 {p : Program} {l : Launch} {e : Env} {s : State} {m : MethodId} {args : Array Value} {below : List Frame} {meth : Method} {c : Code} {G : xG} {z : Nat → Nat} {A : Nat → Prop} {Qw : State → Prop} {Q : Int32 → xh → Prop} {k29 : Nat × Int32 × Nat × Int32 × Int32 × xh → Prop} {a0 : Nat} {x1 : Int32} {a2 : Nat} {x3 : Int32} {x4 : Int32} {x5 : Int32} {hp : xh} (X : xX p l e rm_Model_hangs s m args below meth c G z A y_Model_hangs b_Model_hangs 9) (hret : xRet p l e rm_Model_hangs s m args below meth c G A 9 Qw b_Model_hangs (some .boolean) (xqz Q)) (hk29 : ∀ (a0 : Nat) (x1 : Int32) (a2 : Nat) (x3 : Int32) (x4 : Int32) (hp : xh), k29 (a0, x1, a2, x3, x4, hp) → xE p l e rm_Model_hangs s m args below meth c G A 9 Qw 0 0 hp 29 [(0, .ref a0), (1, .int x1), (2, .ref a2), (3, .int x3), (4, .int x4)] []) (hf : wp_Model_hangs_38 z Q k29 a0 x1 a2 x3 x4 x5 hp) : xE p l e rm_Model_hangs s m args below meth c G A 9 Qw 0 0 hp 38 [(0, .ref a0), (1, .int x1), (2, .ref a2), (3, .int x3), (4, .int x4), (5, .int x5)] [] := by
  obtain ⟨f, hf⟩ := hf
  refine xloop_ind (F := fun k38 a => wp_Model_hangs_38_b z Q k29 k38 a.1 a.2.1 a.2.2.1 a.2.2.2.1 a.2.2.2.2.1 a.2.2.2.2.2.1 a.2.2.2.2.2.2) (E := fun a => xE p l e rm_Model_hangs s m args below meth c G A 9 Qw 0 0 a.2.2.2.2.2.2 38 [(0, .ref (a.1)), (1, .int (a.2.1)), (2, .ref (a.2.2.1)), (3, .int (a.2.2.2.1)), (4, .int (a.2.2.2.2.1)), (5, .int (a.2.2.2.2.2.1))] []) ?_ f (a0, x1, a2, x3, x4, x5, hp) hf
  intro k38 hk a hf
  obtain ⟨a0, x1, a2, x3, x4, x5, hp⟩ := a
  have hk38 : ∀ (a0 : Nat) (x1 : Int32) (a2 : Nat) (x3 : Int32) (x4 : Int32) (x5 : Int32) (hp : xh), k38 (a0, x1, a2, x3, x4, x5, hp) → xE p l e rm_Model_hangs s m args below meth c G A 9 Qw 0 0 hp 38 [(0, .ref a0), (1, .int x1), (2, .ref a2), (3, .int x3), (4, .int x4), (5, .int x5)] [] := fun a0 x1 a2 x3 x4 x5 hp h => hk (a0, x1, a2, x3, x4, x5, hp) h
  have hf : wp_Model_hangs_38_b z Q k29 k38 a0 x1 a2 x3 x4 x5 hp := hf
  unfold wp_Model_hangs_38_b at hf
  refine x_iload X (q := 5) d_Model_hangs_38 rfl 40 rfl ?_
  refine x_aload_n X (q := 0) d_Model_hangs_40 rfl 41 rfl ?_
  refine x_getR X hf (ci := 12) (j := 10) rfl (by decide) rfl lf_Model_20 d_Model_hangs_41 44 rfl (fun o1 hf => ?_)
  refine x_bipush X (v := 14) d_Model_hangs_44 (by decide) 46 rfl ?_
  refine x_iald X hf d_Model_hangs_46 47 rfl (fun v2 hf => ?_)
  refine x_icmp_ge X hf d_Model_hangs_47 161 50 (by decide) rfl (fun hf => ?_) (fun hf => ?_)
  · refine x_iconst X (v := 1) d_Model_hangs_161 (by decide) 162 rfl ?_
    refine x_istore X (lv' := [(4, .int 1), (0, .ref a0), (1, .int x1), (2, .ref a2), (3, .int x3), (5, .int x5)]) d_Model_hangs_162 (by decide) rfl 164 rfl ?_
    refine x_goto X d_Model_hangs_164 29 (by decide) ?_
    exact x_sub [1, 2, 3, 4, 0] rfl (hk29 _ _ _ _ _ _ hf)
  · refine x_aload_n X (q := 0) d_Model_hangs_50 rfl 51 rfl ?_
    refine x_getR X hf (ci := 12) (j := 15) rfl (by decide) rfl lf_Model_36 d_Model_hangs_51 54 rfl (fun o3 hf => ?_)
    refine x_sipush X (v := 300) d_Model_hangs_54 (by decide) 57 rfl ?_
    refine x_iload X (q := 5) d_Model_hangs_57 rfl 59 rfl ?_
    refine x_iadd X d_Model_hangs_59 60 rfl ?_
    refine x_iald X hf d_Model_hangs_60 61 rfl (fun v4 hf => ?_)
    refine x_iconst X (v := 2) d_Model_hangs_61 (by decide) 62 rfl ?_
    refine x_idiv X (by decide) d_Model_hangs_62 63 rfl ?_
    refine x_istoreN X hf d_Model_hangs_63 (by decide) (lw := fun v5 => [(6, .int v5), (0, .ref a0), (1, .int x1), (2, .ref a2), (3, .int x3), (4, .int x4), (5, .int x5)]) (fun _ => rfl) 65 rfl (fun v5 hf => ?_)
    refine x_iload X (q := 0) d_Model_hangs_65 rfl 67 rfl ?_
    refine x_iload_n X (q := 2) d_Model_hangs_67 rfl 68 rfl ?_
    refine x_icmp_eq X hf d_Model_hangs_68 78 71 (by decide) rfl (fun hf => ?_) (fun hf => ?_)
    · exact x_sub [1, 2, 3, 4, 5, 6, 0] rfl (t_Model_hangs_78 X hret hk29 hk38 hf)
    · refine x_aload_n X (q := 3) d_Model_hangs_71 rfl 72 rfl ?_
      refine x_iload X (q := 0) d_Model_hangs_72 rfl 74 rfl ?_
      refine x_zald X hf d_Model_hangs_74 75 rfl (fun v6 hf => ?_)
      refine x_if_eq X hf d_Model_hangs_75 155 78 (by decide) rfl (fun hf => ?_) (fun hf => ?_)
      · exact x_sub [1, 2, 3, 4, 5, 6] rfl (t_Model_hangs_155 X hret hk29 hk38 hf)
      · exact x_sub [1, 2, 3, 4, 5, 6, 0] rfl (t_Model_hangs_78 X hret hk29 hk38 hf)
set_option maxRecDepth 100000 in
def wp_Model_hangs_29_b (z : Nat → Nat) (Q : Int32 → xh → Prop)  (k29 : Nat × Int32 × Nat × Int32 × Int32 × xh → Prop) (a0 : Nat) (x1 : Int32) (a2 : Nat) (x3 : Int32) (x4 : Int32) (hp : xh) : Prop :=
  (x3 = 0 → (∃ v1, aI hp a2 2 x1 = some v1 ∧ (xbl v1 ∧ Q v1 hp))) ∧ (¬ x3 = 0 → wp_Model_hangs_38 z Q k29 a0 x1 a2 0 x4 0 hp)
set_option maxRecDepth 100000 in
def wp_Model_hangs_29 (z : Nat → Nat) (Q : Int32 → xh → Prop)  (a0 : Nat) (x1 : Int32) (a2 : Nat) (x3 : Int32) (x4 : Int32) (hp : xh) : Prop := ∃ f : Nat, xloop (fun k29 a => wp_Model_hangs_29_b z Q  k29 a.1 a.2.1 a.2.2.1 a.2.2.2.1 a.2.2.2.2.1 a.2.2.2.2.2) f (a0, x1, a2, x3, x4, hp)
set_option maxRecDepth 100000 in
set_option maxHeartbeats 4000000 in
theorem t_Model_hangs_29 {p : Program} {l : Launch} {e : Env} {s : State} {m : MethodId} {args : Array Value} {below : List Frame} {meth : Method} {c : Code} {G : xG} {z : Nat → Nat} {A : Nat → Prop} {Qw : State → Prop} {Q : Int32 → xh → Prop} {a0 : Nat} {x1 : Int32} {a2 : Nat} {x3 : Int32} {x4 : Int32} {hp : xh} (X : xX p l e rm_Model_hangs s m args below meth c G z A y_Model_hangs b_Model_hangs 9) (hret : xRet p l e rm_Model_hangs s m args below meth c G A 9 Qw b_Model_hangs (some .boolean) (xqz Q))  (hf : wp_Model_hangs_29 z Q  a0 x1 a2 x3 x4 hp) : xE p l e rm_Model_hangs s m args below meth c G A 9 Qw 0 0 hp 29 [(0, .ref a0), (1, .int x1), (2, .ref a2), (3, .int x3), (4, .int x4)] [] := by
  obtain ⟨f, hf⟩ := hf
  refine xloop_ind (F := fun k29 a => wp_Model_hangs_29_b z Q  k29 a.1 a.2.1 a.2.2.1 a.2.2.2.1 a.2.2.2.2.1 a.2.2.2.2.2) (E := fun a => xE p l e rm_Model_hangs s m args below meth c G A 9 Qw 0 0 a.2.2.2.2.2 29 [(0, .ref (a.1)), (1, .int (a.2.1)), (2, .ref (a.2.2.1)), (3, .int (a.2.2.2.1)), (4, .int (a.2.2.2.2.1))] []) ?_ f (a0, x1, a2, x3, x4, hp) hf
  intro k29 hk a hf
  obtain ⟨a0, x1, a2, x3, x4, hp⟩ := a
  have hk29 : ∀ (a0 : Nat) (x1 : Int32) (a2 : Nat) (x3 : Int32) (x4 : Int32) (hp : xh), k29 (a0, x1, a2, x3, x4, hp) → xE p l e rm_Model_hangs s m args below meth c G A 9 Qw 0 0 hp 29 [(0, .ref a0), (1, .int x1), (2, .ref a2), (3, .int x3), (4, .int x4)] [] := fun a0 x1 a2 x3 x4 hp h => hk (a0, x1, a2, x3, x4, hp) h
  have hf : wp_Model_hangs_29_b z Q  k29 a0 x1 a2 x3 x4 hp := hf
  unfold wp_Model_hangs_29_b at hf
  refine x_iload_n X (q := 3) d_Model_hangs_29 rfl 30 rfl ?_
  refine x_if_eq X hf d_Model_hangs_30 167 33 (by decide) rfl (fun hf => ?_) (fun hf => ?_)
  · refine x_aload_n X (q := 2) d_Model_hangs_167 rfl 168 rfl ?_
    refine x_iload_n X (q := 1) d_Model_hangs_168 rfl 169 rfl ?_
    refine x_zald X hf d_Model_hangs_169 170 rfl (fun v1 hf => ?_)
    exact hret _ _ _ _ _ (some (.int v1)) (Nat.le_refl 0) (Nat.le_refl 0) ⟨_, rfl, hf.1, hf.2⟩ ⟨⟨_, rfl, xbl_nar hf.1⟩, d_Model_hangs_170⟩
  · refine x_iconst X (v := 0) d_Model_hangs_33 (by decide) 34 rfl ?_
    refine x_istore_n X (lv' := [(3, .int 0), (0, .ref a0), (1, .int x1), (2, .ref a2), (4, .int x4)]) d_Model_hangs_34 rfl (by decide) rfl 35 rfl ?_
    refine x_iconst X (v := 0) d_Model_hangs_35 (by decide) 36 rfl ?_
    refine x_istore X (lv' := [(5, .int 0), (3, .int 0), (0, .ref a0), (1, .int x1), (2, .ref a2), (4, .int x4)]) d_Model_hangs_36 (by decide) rfl 38 rfl ?_
    exact x_sub [2, 3, 4, 1, 5, 0] rfl (t_Model_hangs_38 X hret hk29 hf)
set_option maxRecDepth 100000 in
def wp_Model_hangs_7_b (z : Nat → Nat) (Q : Int32 → xh → Prop)  (k7 : Nat × Int32 × Nat × Int32 × xh → Prop) (a0 : Nat) (x1 : Int32) (a2 : Nat) (x3 : Int32) (hp : xh) : Prop :=
  (201 ≤ x3 → wp_Model_hangs_29 z Q a0 x1 a2 1 0 hp) ∧ (¬ 201 ≤ x3 → (∃ h1, sI hp a2 2 x3 (vp_nar .boolean 0) = some h1 ∧ (k7 (a0, x1, a2, (x3 + 1), h1))))
set_option maxRecDepth 100000 in
def wp_Model_hangs_7 (z : Nat → Nat) (Q : Int32 → xh → Prop)  (a0 : Nat) (x1 : Int32) (a2 : Nat) (x3 : Int32) (hp : xh) : Prop := ∃ f : Nat, xloop (fun k7 a => wp_Model_hangs_7_b z Q  k7 a.1 a.2.1 a.2.2.1 a.2.2.2.1 a.2.2.2.2) f (a0, x1, a2, x3, hp)
set_option maxRecDepth 100000 in
set_option maxHeartbeats 4000000 in
theorem t_Model_hangs_7 {p : Program} {l : Launch} {e : Env} {s : State} {m : MethodId} {args : Array Value} {below : List Frame} {meth : Method} {c : Code} {G : xG} {z : Nat → Nat} {A : Nat → Prop} {Qw : State → Prop} {Q : Int32 → xh → Prop} {a0 : Nat} {x1 : Int32} {a2 : Nat} {x3 : Int32} {hp : xh} (X : xX p l e rm_Model_hangs s m args below meth c G z A y_Model_hangs b_Model_hangs 9) (hret : xRet p l e rm_Model_hangs s m args below meth c G A 9 Qw b_Model_hangs (some .boolean) (xqz Q))  (hf : wp_Model_hangs_7 z Q  a0 x1 a2 x3 hp) : xE p l e rm_Model_hangs s m args below meth c G A 9 Qw 0 0 hp 7 [(0, .ref a0), (1, .int x1), (2, .ref a2), (3, .int x3)] [] := by
  obtain ⟨f, hf⟩ := hf
  refine xloop_ind (F := fun k7 a => wp_Model_hangs_7_b z Q  k7 a.1 a.2.1 a.2.2.1 a.2.2.2.1 a.2.2.2.2) (E := fun a => xE p l e rm_Model_hangs s m args below meth c G A 9 Qw 0 0 a.2.2.2.2 7 [(0, .ref (a.1)), (1, .int (a.2.1)), (2, .ref (a.2.2.1)), (3, .int (a.2.2.2.1))] []) ?_ f (a0, x1, a2, x3, hp) hf
  intro k7 hk a hf
  obtain ⟨a0, x1, a2, x3, hp⟩ := a
  have hk7 : ∀ (a0 : Nat) (x1 : Int32) (a2 : Nat) (x3 : Int32) (hp : xh), k7 (a0, x1, a2, x3, hp) → xE p l e rm_Model_hangs s m args below meth c G A 9 Qw 0 0 hp 7 [(0, .ref a0), (1, .int x1), (2, .ref a2), (3, .int x3)] [] := fun a0 x1 a2 x3 hp h => hk (a0, x1, a2, x3, hp) h
  have hf : wp_Model_hangs_7_b z Q  k7 a0 x1 a2 x3 hp := hf
  unfold wp_Model_hangs_7_b at hf
  refine x_iload_n X (q := 3) d_Model_hangs_7 rfl 8 rfl ?_
  refine x_sipush X (v := 201) d_Model_hangs_8 (by decide) 11 rfl ?_
  refine x_icmp_ge X hf d_Model_hangs_11 24 14 (by decide) rfl (fun hf => ?_) (fun hf => ?_)
  · refine x_iconst X (v := 1) d_Model_hangs_24 (by decide) 25 rfl ?_
    refine x_istore_n X (lv' := [(3, .int 1), (0, .ref a0), (1, .int x1), (2, .ref a2)]) d_Model_hangs_25 rfl (by decide) rfl 26 rfl ?_
    refine x_iconst X (v := 0) d_Model_hangs_26 (by decide) 27 rfl ?_
    refine x_istore X (lv' := [(4, .int 0), (3, .int 1), (0, .ref a0), (1, .int x1), (2, .ref a2)]) d_Model_hangs_27 (by decide) rfl 29 rfl ?_
    exact x_sub [2, 3, 4, 1, 0] rfl (t_Model_hangs_29 X hret hf)
  · refine x_aload_n X (q := 2) d_Model_hangs_14 rfl 15 rfl ?_
    refine x_iload_n X (q := 3) d_Model_hangs_15 rfl 16 rfl ?_
    refine x_iconst X (v := 0) d_Model_hangs_16 (by decide) 17 rfl ?_
    refine x_zast X hf d_Model_hangs_17 18 rfl (fun h1 hf => ?_)
    refine x_iinc X (q := 3) (v := (x3 + 1)) (lv' := [(3, .int (x3 + 1)), (0, .ref a0), (1, .int x1), (2, .ref a2)]) d_Model_hangs_18 rfl (by rfl) (by decide) rfl 21 rfl ?_
    refine x_goto X d_Model_hangs_21 7 (by decide) ?_
    exact x_sub [1, 2, 3, 0] rfl (hk7 _ _ _ _ _ hf)
set_option maxRecDepth 100000 in
def wp_Model_hangs (z : Nat → Nat) (Q : Int32 → xh → Prop) (a0 : Nat) (x1 : Int32) (hp : xh) : Prop :=
  ∃ o1, fR hp a0 12 28 = some o1 ∧ wp_Model_hangs_7 z Q a0 x1 o1 0 hp
set_option maxRecDepth 100000 in
set_option maxHeartbeats 4000000 in
theorem t_Model_hangs {l : Launch} {G : xG} {z : Nat → Nat} {Q : Int32 → xh → Prop} {a0 : Nat} {x1 : Int32} {hp : xh} (hf : wp_Model_hangs z Q a0 x1 hp) : xM l G z y_Model_hangs b_Model_hangs 9 (some .boolean) rm_Model_hangs [.ref a0, .int x1] hp (xqz Q) := by
  refine xM_of (by decide) (Nat.le_of_ble_eq_true rfl) (lv0 := [(0, .ref a0), (1, .int x1)]) rfl ?_
  intro p e s m args below meth c A Qw X hret
  unfold wp_Model_hangs at hf
  refine x_aload_n X (q := 0) d_Model_hangs_0 rfl 1 rfl ?_
  refine x_getR X hf (ci := 12) (j := 28) rfl (by decide) rfl lf_Model_75 d_Model_hangs_1 4 rfl (fun o1 hf => ?_)
  refine x_astore_n X (lv' := [(2, .ref o1), (0, .ref a0), (1, .int x1)]) d_Model_hangs_4 rfl (by decide) rfl 5 rfl ?_
  refine x_iconst X (v := 0) d_Model_hangs_5 (by decide) 6 rfl ?_
  refine x_istore_n X (lv' := [(3, .int 0), (2, .ref o1), (0, .ref a0), (1, .int x1)]) d_Model_hangs_6 rfl (by decide) rfl 7 rfl ?_
  exact x_sub [2, 3, 1, 0] rfl (t_Model_hangs_7 X hret hf)

set_option maxRecDepth 100000 in
def wp_Model_findRing_68 (z : Nat → Nat) (Q : xh → Prop) (k21 : Nat × Int32 × xh → Prop) (a0 : Nat) (x1 : Int32) (hp : xh) : Prop :=
  k21 (a0, (x1 + 1), hp)
set_option maxRecDepth 100000 in
set_option maxHeartbeats 4000000 in
theorem t_Model_findRing_68 {p : Program} {l : Launch} {e : Env} {s : State} {m : MethodId} {args : Array Value} {below : List Frame} {meth : Method} {c : Code} {G : xG} {z : Nat → Nat} {A : Nat → Prop} {Qw : State → Prop} {Q : xh → Prop} {k21 : Nat × Int32 × xh → Prop} {a0 : Nat} {x1 : Int32} {hp : xh} (X : xX p l e rm_Model_findRing s m args below meth c G z A y_Model_findRing b_Model_findRing 2) (hret : xRet p l e rm_Model_findRing s m args below meth c G A 2 Qw b_Model_findRing none (xqv Q)) (hk21 : ∀ (a0 : Nat) (x1 : Int32) (hp : xh), k21 (a0, x1, hp) → xE p l e rm_Model_findRing s m args below meth c G A 2 Qw 0 0 hp 21 [(0, .ref a0), (1, .int x1)] []) (hf : wp_Model_findRing_68 z Q k21 a0 x1 hp) : xE p l e rm_Model_findRing s m args below meth c G A 2 Qw 0 0 hp 68 [(0, .ref a0), (1, .int x1)] [] := by
  unfold wp_Model_findRing_68 at hf
  refine x_iinc X (q := 1) (v := (x1 + 1)) (lv' := [(1, .int (x1 + 1)), (0, .ref a0)]) d_Model_findRing_68 rfl (by rfl) (by decide) rfl 71 rfl ?_
  refine x_goto X d_Model_findRing_71 21 (by decide) ?_
  exact x_sub [1, 0] rfl (hk21 _ _ _ hf)
set_option maxRecDepth 100000 in
def wp_Model_findRing_21_b (z : Nat → Nat) (Q : xh → Prop)  (k21 : Nat × Int32 × xh → Prop) (a0 : Nat) (x1 : Int32) (hp : xh) : Prop :=
  ∃ o1, fR hp a0 12 10 = some o1 ∧ (∃ v2, aI hp o1 0 10 = some v2 ∧ ((v2 < x1 → Q hp) ∧ (¬ v2 < x1 → (∃ v3, fI hp a0 12 7 = some v3 ∧ ((¬ v3 = 0 → Q hp) ∧ (v3 = 0 → (∃ o4, fR hp a0 12 18 = some o4 ∧ (∃ v5, aI hp o4 0 (402 + x1) = some v5 ∧ ((¬ v5 = 3 → wp_Model_findRing_68 z Q k21 a0 x1 hp) ∧ (v5 = 3 → (xcls hp a0 12 ∧ wp_Model_hangs z (fun v7 h6 => (v7 = 0 → wp_Model_findRing_68 z Q k21 a0 x1 h6) ∧ (¬ v7 = 0 → (xcls h6 a0 12 ∧ wp_Model_wrong z (fun h9 => wp_Model_findRing_68 z Q k21 a0 x1 h9) a0 6 x1 h6))) a0 x1 hp)))))))))))
set_option maxRecDepth 100000 in
def wp_Model_findRing_21 (z : Nat → Nat) (Q : xh → Prop)  (a0 : Nat) (x1 : Int32) (hp : xh) : Prop := ∃ f : Nat, xloop (fun k21 a => wp_Model_findRing_21_b z Q  k21 a.1 a.2.1 a.2.2) f (a0, x1, hp)
set_option maxRecDepth 100000 in
set_option maxHeartbeats 4000000 in
theorem t_Model_findRing_21 {p : Program} {l : Launch} {e : Env} {s : State} {m : MethodId} {args : Array Value} {below : List Frame} {meth : Method} {c : Code} {G : xG} {z : Nat → Nat} {A : Nat → Prop} {Qw : State → Prop} {Q : xh → Prop} {a0 : Nat} {x1 : Int32} {hp : xh} (X : xX p l e rm_Model_findRing s m args below meth c G z A y_Model_findRing b_Model_findRing 2) (hret : xRet p l e rm_Model_findRing s m args below meth c G A 2 Qw b_Model_findRing none (xqv Q))  (hf : wp_Model_findRing_21 z Q  a0 x1 hp) : xE p l e rm_Model_findRing s m args below meth c G A 2 Qw 0 0 hp 21 [(0, .ref a0), (1, .int x1)] [] := by
  obtain ⟨f, hf⟩ := hf
  refine xloop_ind (F := fun k21 a => wp_Model_findRing_21_b z Q  k21 a.1 a.2.1 a.2.2) (E := fun a => xE p l e rm_Model_findRing s m args below meth c G A 2 Qw 0 0 a.2.2 21 [(0, .ref (a.1)), (1, .int (a.2.1))] []) ?_ f (a0, x1, hp) hf
  intro k21 hk a hf
  obtain ⟨a0, x1, hp⟩ := a
  have hk21 : ∀ (a0 : Nat) (x1 : Int32) (hp : xh), k21 (a0, x1, hp) → xE p l e rm_Model_findRing s m args below meth c G A 2 Qw 0 0 hp 21 [(0, .ref a0), (1, .int x1)] [] := fun a0 x1 hp h => hk (a0, x1, hp) h
  have hf : wp_Model_findRing_21_b z Q  k21 a0 x1 hp := hf
  unfold wp_Model_findRing_21_b at hf
  refine x_iload_n X (q := 1) d_Model_findRing_21 rfl 22 rfl ?_
  refine x_aload_n X (q := 0) d_Model_findRing_22 rfl 23 rfl ?_
  refine x_getR X hf (ci := 12) (j := 10) rfl (by decide) rfl lf_Model_20 d_Model_findRing_23 26 rfl (fun o1 hf => ?_)
  refine x_bipush X (v := 10) d_Model_findRing_26 (by decide) 28 rfl ?_
  refine x_iald X hf d_Model_findRing_28 29 rfl (fun v2 hf => ?_)
  refine x_icmp_gt X hf d_Model_findRing_29 74 32 (by decide) rfl (fun hf => ?_) (fun hf => ?_)
  · exact hret _ _ _ _ _ none (Nat.le_refl 0) (Nat.le_refl 0) ⟨rfl, hf⟩ ⟨rfl, d_Model_findRing_74⟩
  · refine x_aload_n X (q := 0) d_Model_findRing_32 rfl 33 rfl ?_
    refine x_getI X hf (ci := 12) (j := 7) rfl (by decide) rfl lf_Model_136 d_Model_findRing_33 36 rfl (fun v3 hf => ?_)
    refine x_if_ne X hf d_Model_findRing_36 74 39 (by decide) rfl (fun hf => ?_) (fun hf => ?_)
    · exact hret _ _ _ _ _ none (Nat.le_refl 0) (Nat.le_refl 0) ⟨rfl, hf⟩ ⟨rfl, d_Model_findRing_74⟩
    · refine x_aload_n X (q := 0) d_Model_findRing_39 rfl 40 rfl ?_
      refine x_getR X hf (ci := 12) (j := 18) rfl (by decide) rfl lf_Model_45 d_Model_findRing_40 43 rfl (fun o4 hf => ?_)
      refine x_sipush X (v := 402) d_Model_findRing_43 (by decide) 46 rfl ?_
      refine x_iload_n X (q := 1) d_Model_findRing_46 rfl 47 rfl ?_
      refine x_iadd X d_Model_findRing_47 48 rfl ?_
      refine x_iald X hf d_Model_findRing_48 49 rfl (fun v5 hf => ?_)
      refine x_iconst X (v := 3) d_Model_findRing_49 (by decide) 50 rfl ?_
      refine x_icmp_ne X hf d_Model_findRing_50 68 53 (by decide) rfl (fun hf => ?_) (fun hf => ?_)
      · exact x_sub [0, 1] rfl (t_Model_findRing_68 X hret hk21 hf)
      · refine x_aload_n X (q := 0) d_Model_findRing_53 rfl 54 rfl ?_
        refine x_iload_n X (q := 1) d_Model_findRing_54 rfl 55 rfl ?_
        refine x_callV0z X (t_Model_hangs hf.2) hf.1 (ci := 12) rfl rfl lm_Model_197 im_Model_hangs sl_Model_hangs cd_Model_hangs in_Model ds_Model_hangs rfl rfl (Nat.le_of_ble_eq_true rfl) (Nat.le_of_ble_eq_true rfl) (Nat.le_of_ble_eq_true rfl) rfl rfl (Nat.le_refl 0) (Nat.le_refl 0) d_Model_findRing_55 58 rfl (fun v7 h6 hb8 hf => ?_)
        refine x_if_eq X hf d_Model_findRing_58 68 61 (by decide) rfl (fun hf => ?_) (fun hf => ?_)
        · exact x_sub [0, 1] rfl (t_Model_findRing_68 X hret hk21 hf)
        · refine x_aload_n X (q := 0) d_Model_findRing_61 rfl 62 rfl ?_
          refine x_bipush X (v := 6) d_Model_findRing_62 (by decide) 64 rfl ?_
          refine x_iload_n X (q := 1) d_Model_findRing_64 rfl 65 rfl ?_
          refine x_callV0v X (t_Model_wrong hf.2) hf.1 (ci := 12) rfl rfl lm_Model_146 im_Model_wrong sl_Model_wrong cd_Model_wrong in_Model ds_Model_wrong rfl rfl (Nat.le_of_ble_eq_true rfl) (Nat.le_of_ble_eq_true rfl) (Nat.le_of_ble_eq_true rfl) rfl rfl (Nat.le_refl 0) (Nat.le_refl 0) d_Model_findRing_65 68 rfl (fun h9 hf => ?_)
          exact x_sub [0, 1] rfl (t_Model_findRing_68 X hret hk21 hf)
set_option maxRecDepth 100000 in
def wp_Model_findRing (z : Nat → Nat) (Q : xh → Prop) (a0 : Nat) (hp : xh) : Prop :=
  xcls hp a0 12 ∧ wp_Model_sort z (fun h1 => ∃ v2, fI h1 a0 12 29 = some v2 ∧ (∃ o3, fR h1 a0 12 10 = some o3 ∧ (∃ v4, aI h1 o3 0 14 = some v4 ∧ ((¬ v2 = v4 → wp_Model_findRing_21 z Q a0 1 h1) ∧ (v2 = v4 → Q h1))))) a0 hp
set_option maxRecDepth 100000 in
set_option maxHeartbeats 4000000 in
theorem t_Model_findRing {l : Launch} {G : xG} {z : Nat → Nat} {Q : xh → Prop} {a0 : Nat} {hp : xh} (hf : wp_Model_findRing z Q a0 hp) : xM l G z y_Model_findRing b_Model_findRing 2 none rm_Model_findRing [.ref a0] hp (xqv Q) := by
  refine xM_of (by decide) (Nat.le_of_ble_eq_true rfl) (lv0 := [(0, .ref a0)]) rfl ?_
  intro p e s m args below meth c A Qw X hret
  unfold wp_Model_findRing at hf
  refine x_aload_n X (q := 0) d_Model_findRing_0 rfl 1 rfl ?_
  refine x_callV0v X (t_Model_sort hf.2) hf.1 (ci := 12) rfl rfl lm_Model_194 im_Model_sort sl_Model_sort cd_Model_sort in_Model ds_Model_sort rfl rfl (Nat.le_of_ble_eq_true rfl) (Nat.le_of_ble_eq_true rfl) (Nat.le_of_ble_eq_true rfl) rfl rfl (Nat.le_refl 0) (Nat.le_refl 0) d_Model_findRing_1 4 rfl (fun h1 hf => ?_)
  refine x_aload_n X (q := 0) d_Model_findRing_4 rfl 5 rfl ?_
  refine x_getI X hf (ci := 12) (j := 29) rfl (by decide) rfl lf_Model_188 d_Model_findRing_5 8 rfl (fun v2 hf => ?_)
  refine x_aload_n X (q := 0) d_Model_findRing_8 rfl 9 rfl ?_
  refine x_getR X hf (ci := 12) (j := 10) rfl (by decide) rfl lf_Model_20 d_Model_findRing_9 12 rfl (fun o3 hf => ?_)
  refine x_bipush X (v := 14) d_Model_findRing_12 (by decide) 14 rfl ?_
  refine x_iald X hf d_Model_findRing_14 15 rfl (fun v4 hf => ?_)
  refine x_icmp_ne X hf d_Model_findRing_15 19 18 (by decide) rfl (fun hf => ?_) (fun hf => ?_)
  · refine x_iconst X (v := 1) d_Model_findRing_19 (by decide) 20 rfl ?_
    refine x_istore_n X (lv' := [(1, .int 1), (0, .ref a0)]) d_Model_findRing_20 rfl (by decide) rfl 21 rfl ?_
    exact x_sub [1, 0] rfl (t_Model_findRing_21 X hret hf)
  · exact hret _ _ _ _ _ none (Nat.le_refl 0) (Nat.le_refl 0) ⟨rfl, hf⟩ ⟨rfl, d_Model_findRing_18⟩

set_option maxRecDepth 100000 in
def wp_Model_keep_324_b (z : Nat → Nat) (Q : xh → Prop)  (k324 : Nat × Int32 × Int32 × xh → Prop) (a0 : Nat) (x1 : Int32) (x2 : Int32) (hp : xh) : Prop :=
  (880 ≤ x2 → (∃ o1, fR hp a0 12 30 = some o1 ∧ (∃ h2, sI hp o1 2 x1 (vp_nar .boolean 1) = some h2 ∧ (∃ o3, fR h2 a0 12 31 = some o3 ∧ (∃ h4, sI h2 o3 0 0 0 = some h4 ∧ (∃ o5, fR h4 a0 12 31 = some o5 ∧ (∃ h6, sI h4 o5 0 1 0 = some h6 ∧ (∃ h7, pV h6 a0 12 33 (.int 0) = some h7 ∧ Q h7)))))))) ∧ (¬ 880 ≤ x2 → (∃ o8, fR hp a0 12 24 = some o8 ∧ (∃ o9, fR hp a0 12 24 = some o9 ∧ (∃ v10, aI hp o9 1 (1760 + x2) = some v10 ∧ (∃ h11, sI hp o8 1 ((880 * x1) + x2) (vp_nar .byte v10) = some h11 ∧ (k324 (a0, x1, (x2 + 1), h11)))))))
set_option maxRecDepth 100000 in
def wp_Model_keep_324 (z : Nat → Nat) (Q : xh → Prop)  (a0 : Nat) (x1 : Int32) (x2 : Int32) (hp : xh) : Prop := ∃ f : Nat, xloop (fun k324 a => wp_Model_keep_324_b z Q  k324 a.1 a.2.1 a.2.2.1 a.2.2.2) f (a0, x1, x2, hp)
set_option maxRecDepth 100000 in
set_option maxHeartbeats 4000000 in
theorem t_Model_keep_324 {p : Program} {l : Launch} {e : Env} {s : State} {m : MethodId} {args : Array Value} {below : List Frame} {meth : Method} {c : Code} {G : xG} {z : Nat → Nat} {A : Nat → Prop} {Qw : State → Prop} {Q : xh → Prop} {a0 : Nat} {x1 : Int32} {x2 : Int32} {hp : xh} (X : xX p l e rm_Model_keep s m args below meth c G z A y_Model_keep b_Model_keep 3) (hret : xRet p l e rm_Model_keep s m args below meth c G A 3 Qw b_Model_keep none (xqv Q))  (hf : wp_Model_keep_324 z Q  a0 x1 x2 hp) : xE p l e rm_Model_keep s m args below meth c G A 3 Qw 0 0 hp 324 [(0, .ref a0), (1, .int x1), (2, .int x2)] [] := by
  obtain ⟨f, hf⟩ := hf
  refine xloop_ind (F := fun k324 a => wp_Model_keep_324_b z Q  k324 a.1 a.2.1 a.2.2.1 a.2.2.2) (E := fun a => xE p l e rm_Model_keep s m args below meth c G A 3 Qw 0 0 a.2.2.2 324 [(0, .ref (a.1)), (1, .int (a.2.1)), (2, .int (a.2.2.1))] []) ?_ f (a0, x1, x2, hp) hf
  intro k324 hk a hf
  obtain ⟨a0, x1, x2, hp⟩ := a
  have hk324 : ∀ (a0 : Nat) (x1 : Int32) (x2 : Int32) (hp : xh), k324 (a0, x1, x2, hp) → xE p l e rm_Model_keep s m args below meth c G A 3 Qw 0 0 hp 324 [(0, .ref a0), (1, .int x1), (2, .int x2)] [] := fun a0 x1 x2 hp h => hk (a0, x1, x2, hp) h
  have hf : wp_Model_keep_324_b z Q  k324 a0 x1 x2 hp := hf
  unfold wp_Model_keep_324_b at hf
  refine x_iload_n X (q := 2) d_Model_keep_324 rfl 325 rfl ?_
  refine x_sipush X (v := 880) d_Model_keep_325 (by decide) 328 rfl ?_
  refine x_icmp_ge X hf d_Model_keep_328 359 331 (by decide) rfl (fun hf => ?_) (fun hf => ?_)
  · refine x_aload_n X (q := 0) d_Model_keep_359 rfl 360 rfl ?_
    refine x_getR X hf (ci := 12) (j := 30) rfl (by decide) rfl lf_Model_79 d_Model_keep_360 363 rfl (fun o1 hf => ?_)
    refine x_iload_n X (q := 1) d_Model_keep_363 rfl 364 rfl ?_
    refine x_iconst X (v := 1) d_Model_keep_364 (by decide) 365 rfl ?_
    refine x_zast X hf d_Model_keep_365 366 rfl (fun h2 hf => ?_)
    refine x_aload_n X (q := 0) d_Model_keep_366 rfl 367 rfl ?_
    refine x_getR X hf (ci := 12) (j := 31) rfl (by decide) rfl lf_Model_82 d_Model_keep_367 370 rfl (fun o3 hf => ?_)
    refine x_iconst X (v := 0) d_Model_keep_370 (by decide) 371 rfl ?_
    refine x_iconst X (v := 0) d_Model_keep_371 (by decide) 372 rfl ?_
    refine x_iast X hf d_Model_keep_372 373 rfl (fun h4 hf => ?_)
    refine x_aload_n X (q := 0) d_Model_keep_373 rfl 374 rfl ?_
    refine x_getR X hf (ci := 12) (j := 31) rfl (by decide) rfl lf_Model_82 d_Model_keep_374 377 rfl (fun o5 hf => ?_)
    refine x_iconst X (v := 1) d_Model_keep_377 (by decide) 378 rfl ?_
    refine x_iconst X (v := 0) d_Model_keep_378 (by decide) 379 rfl ?_
    refine x_iast X hf d_Model_keep_379 380 rfl (fun h6 hf => ?_)
    refine x_aload_n X (q := 0) d_Model_keep_380 rfl 381 rfl ?_
    refine x_iconst X (v := 0) d_Model_keep_381 (by decide) 382 rfl ?_
    refine x_put X hf (ci := 12) (j := 33) (ty := .boolean) rfl (by decide) rfl lf_Model_200 rfl (by decide +kernel) (xbl_nar (Or.inl rfl)) (xbl_fit (Or.inl rfl)) d_Model_keep_382 385 rfl (fun h7 hf => ?_)
    exact hret _ _ _ _ _ none (Nat.le_refl 0) (Nat.le_refl 0) ⟨rfl, hf⟩ ⟨rfl, d_Model_keep_385⟩
  · refine x_aload_n X (q := 0) d_Model_keep_331 rfl 332 rfl ?_
    refine x_getR X hf (ci := 12) (j := 24) rfl (by decide) rfl lf_Model_63 d_Model_keep_332 335 rfl (fun o8 hf => ?_)
    refine x_sipush X (v := 880) d_Model_keep_335 (by decide) 338 rfl ?_
    refine x_iload_n X (q := 1) d_Model_keep_338 rfl 339 rfl ?_
    refine x_imul X d_Model_keep_339 340 rfl ?_
    refine x_iload_n X (q := 2) d_Model_keep_340 rfl 341 rfl ?_
    refine x_iadd X d_Model_keep_341 342 rfl ?_
    refine x_aload_n X (q := 0) d_Model_keep_342 rfl 343 rfl ?_
    refine x_getR X hf (ci := 12) (j := 24) rfl (by decide) rfl lf_Model_63 d_Model_keep_343 346 rfl (fun o9 hf => ?_)
    refine x_sipush X (v := 1760) d_Model_keep_346 (by decide) 349 rfl ?_
    refine x_iload_n X (q := 2) d_Model_keep_349 rfl 350 rfl ?_
    refine x_iadd X d_Model_keep_350 351 rfl ?_
    refine x_bald X hf d_Model_keep_351 352 rfl (fun v10 hf => ?_)
    refine x_bast X hf d_Model_keep_352 353 rfl (fun h11 hf => ?_)
    refine x_iinc X (q := 2) (v := (x2 + 1)) (lv' := [(2, .int (x2 + 1)), (0, .ref a0), (1, .int x1)]) d_Model_keep_353 rfl (by rfl) (by decide) rfl 356 rfl ?_
    refine x_goto X d_Model_keep_356 324 (by decide) ?_
    exact x_sub [1, 2, 0] rfl (hk324 _ _ _ _ hf)
set_option maxRecDepth 100000 in
def wp_Model_keep_290_b (z : Nat → Nat) (Q : xh → Prop)  (k290 : Nat × Int32 × Int32 × xh → Prop) (a0 : Nat) (x1 : Int32) (x2 : Int32) (hp : xh) : Prop :=
  (22 ≤ x2 → wp_Model_keep_324 z Q a0 x1 0 hp) ∧ (¬ 22 ≤ x2 → (∃ o1, fR hp a0 12 25 = some o1 ∧ (∃ o2, fR hp a0 12 25 = some o2 ∧ (∃ v3, aI hp o2 0 (44 + x2) = some v3 ∧ (∃ h4, sI hp o1 0 ((22 * x1) + x2) v3 = some h4 ∧ (k290 (a0, x1, (x2 + 1), h4)))))))
set_option maxRecDepth 100000 in
def wp_Model_keep_290 (z : Nat → Nat) (Q : xh → Prop)  (a0 : Nat) (x1 : Int32) (x2 : Int32) (hp : xh) : Prop := ∃ f : Nat, xloop (fun k290 a => wp_Model_keep_290_b z Q  k290 a.1 a.2.1 a.2.2.1 a.2.2.2) f (a0, x1, x2, hp)
set_option maxRecDepth 100000 in
set_option maxHeartbeats 4000000 in
theorem t_Model_keep_290 {p : Program} {l : Launch} {e : Env} {s : State} {m : MethodId} {args : Array Value} {below : List Frame} {meth : Method} {c : Code} {G : xG} {z : Nat → Nat} {A : Nat → Prop} {Qw : State → Prop} {Q : xh → Prop} {a0 : Nat} {x1 : Int32} {x2 : Int32} {hp : xh} (X : xX p l e rm_Model_keep s m args below meth c G z A y_Model_keep b_Model_keep 3) (hret : xRet p l e rm_Model_keep s m args below meth c G A 3 Qw b_Model_keep none (xqv Q))  (hf : wp_Model_keep_290 z Q  a0 x1 x2 hp) : xE p l e rm_Model_keep s m args below meth c G A 3 Qw 0 0 hp 290 [(0, .ref a0), (1, .int x1), (2, .int x2)] [] := by
  obtain ⟨f, hf⟩ := hf
  refine xloop_ind (F := fun k290 a => wp_Model_keep_290_b z Q  k290 a.1 a.2.1 a.2.2.1 a.2.2.2) (E := fun a => xE p l e rm_Model_keep s m args below meth c G A 3 Qw 0 0 a.2.2.2 290 [(0, .ref (a.1)), (1, .int (a.2.1)), (2, .int (a.2.2.1))] []) ?_ f (a0, x1, x2, hp) hf
  intro k290 hk a hf
  obtain ⟨a0, x1, x2, hp⟩ := a
  have hk290 : ∀ (a0 : Nat) (x1 : Int32) (x2 : Int32) (hp : xh), k290 (a0, x1, x2, hp) → xE p l e rm_Model_keep s m args below meth c G A 3 Qw 0 0 hp 290 [(0, .ref a0), (1, .int x1), (2, .int x2)] [] := fun a0 x1 x2 hp h => hk (a0, x1, x2, hp) h
  have hf : wp_Model_keep_290_b z Q  k290 a0 x1 x2 hp := hf
  unfold wp_Model_keep_290_b at hf
  refine x_iload_n X (q := 2) d_Model_keep_290 rfl 291 rfl ?_
  refine x_bipush X (v := 22) d_Model_keep_291 (by decide) 293 rfl ?_
  refine x_icmp_ge X hf d_Model_keep_293 322 296 (by decide) rfl (fun hf => ?_) (fun hf => ?_)
  · refine x_iconst X (v := 0) d_Model_keep_322 (by decide) 323 rfl ?_
    refine x_istore_n X (lv' := [(2, .int 0), (0, .ref a0), (1, .int x1)]) d_Model_keep_323 rfl (by decide) rfl 324 rfl ?_
    exact x_sub [1, 2, 0] rfl (t_Model_keep_324 X hret hf)
  · refine x_aload_n X (q := 0) d_Model_keep_296 rfl 297 rfl ?_
    refine x_getR X hf (ci := 12) (j := 25) rfl (by decide) rfl lf_Model_66 d_Model_keep_297 300 rfl (fun o1 hf => ?_)
    refine x_bipush X (v := 22) d_Model_keep_300 (by decide) 302 rfl ?_
    refine x_iload_n X (q := 1) d_Model_keep_302 rfl 303 rfl ?_
    refine x_imul X d_Model_keep_303 304 rfl ?_
    refine x_iload_n X (q := 2) d_Model_keep_304 rfl 305 rfl ?_
    refine x_iadd X d_Model_keep_305 306 rfl ?_
    refine x_aload_n X (q := 0) d_Model_keep_306 rfl 307 rfl ?_
    refine x_getR X hf (ci := 12) (j := 25) rfl (by decide) rfl lf_Model_66 d_Model_keep_307 310 rfl (fun o2 hf => ?_)
    refine x_bipush X (v := 44) d_Model_keep_310 (by decide) 312 rfl ?_
    refine x_iload_n X (q := 2) d_Model_keep_312 rfl 313 rfl ?_
    refine x_iadd X d_Model_keep_313 314 rfl ?_
    refine x_iald X hf d_Model_keep_314 315 rfl (fun v3 hf => ?_)
    refine x_iast X hf d_Model_keep_315 316 rfl (fun h4 hf => ?_)
    refine x_iinc X (q := 2) (v := (x2 + 1)) (lv' := [(2, .int (x2 + 1)), (0, .ref a0), (1, .int x1)]) d_Model_keep_316 rfl (by rfl) (by decide) rfl 319 rfl ?_
    refine x_goto X d_Model_keep_319 290 (by decide) ?_
    exact x_sub [1, 2, 0] rfl (hk290 _ _ _ _ hf)
set_option maxRecDepth 100000 in
def wp_Model_keep_253_b (z : Nat → Nat) (Q : xh → Prop)  (k253 : Nat × Int32 × Int32 × xh → Prop) (a0 : Nat) (x1 : Int32) (x2 : Int32) (hp : xh) : Prop :=
  (201 ≤ x2 → wp_Model_keep_290 z Q a0 x1 0 hp) ∧ (¬ 201 ≤ x2 → (∃ o1, fR hp a0 12 18 = some o1 ∧ (∃ o2, fR hp a0 12 18 = some o2 ∧ (∃ v3, aI hp o2 0 (402 + x2) = some v3 ∧ (∃ h4, sI hp o1 0 ((201 * x1) + x2) v3 = some h4 ∧ (k253 (a0, x1, (x2 + 1), h4)))))))
set_option maxRecDepth 100000 in
def wp_Model_keep_253 (z : Nat → Nat) (Q : xh → Prop)  (a0 : Nat) (x1 : Int32) (x2 : Int32) (hp : xh) : Prop := ∃ f : Nat, xloop (fun k253 a => wp_Model_keep_253_b z Q  k253 a.1 a.2.1 a.2.2.1 a.2.2.2) f (a0, x1, x2, hp)
set_option maxRecDepth 100000 in
set_option maxHeartbeats 4000000 in
theorem t_Model_keep_253 {p : Program} {l : Launch} {e : Env} {s : State} {m : MethodId} {args : Array Value} {below : List Frame} {meth : Method} {c : Code} {G : xG} {z : Nat → Nat} {A : Nat → Prop} {Qw : State → Prop} {Q : xh → Prop} {a0 : Nat} {x1 : Int32} {x2 : Int32} {hp : xh} (X : xX p l e rm_Model_keep s m args below meth c G z A y_Model_keep b_Model_keep 3) (hret : xRet p l e rm_Model_keep s m args below meth c G A 3 Qw b_Model_keep none (xqv Q))  (hf : wp_Model_keep_253 z Q  a0 x1 x2 hp) : xE p l e rm_Model_keep s m args below meth c G A 3 Qw 0 0 hp 253 [(0, .ref a0), (1, .int x1), (2, .int x2)] [] := by
  obtain ⟨f, hf⟩ := hf
  refine xloop_ind (F := fun k253 a => wp_Model_keep_253_b z Q  k253 a.1 a.2.1 a.2.2.1 a.2.2.2) (E := fun a => xE p l e rm_Model_keep s m args below meth c G A 3 Qw 0 0 a.2.2.2 253 [(0, .ref (a.1)), (1, .int (a.2.1)), (2, .int (a.2.2.1))] []) ?_ f (a0, x1, x2, hp) hf
  intro k253 hk a hf
  obtain ⟨a0, x1, x2, hp⟩ := a
  have hk253 : ∀ (a0 : Nat) (x1 : Int32) (x2 : Int32) (hp : xh), k253 (a0, x1, x2, hp) → xE p l e rm_Model_keep s m args below meth c G A 3 Qw 0 0 hp 253 [(0, .ref a0), (1, .int x1), (2, .int x2)] [] := fun a0 x1 x2 hp h => hk (a0, x1, x2, hp) h
  have hf : wp_Model_keep_253_b z Q  k253 a0 x1 x2 hp := hf
  unfold wp_Model_keep_253_b at hf
  refine x_iload_n X (q := 2) d_Model_keep_253 rfl 254 rfl ?_
  refine x_sipush X (v := 201) d_Model_keep_254 (by decide) 257 rfl ?_
  refine x_icmp_ge X hf d_Model_keep_257 288 260 (by decide) rfl (fun hf => ?_) (fun hf => ?_)
  · refine x_iconst X (v := 0) d_Model_keep_288 (by decide) 289 rfl ?_
    refine x_istore_n X (lv' := [(2, .int 0), (0, .ref a0), (1, .int x1)]) d_Model_keep_289 rfl (by decide) rfl 290 rfl ?_
    exact x_sub [1, 2, 0] rfl (t_Model_keep_290 X hret hf)
  · refine x_aload_n X (q := 0) d_Model_keep_260 rfl 261 rfl ?_
    refine x_getR X hf (ci := 12) (j := 18) rfl (by decide) rfl lf_Model_45 d_Model_keep_261 264 rfl (fun o1 hf => ?_)
    refine x_sipush X (v := 201) d_Model_keep_264 (by decide) 267 rfl ?_
    refine x_iload_n X (q := 1) d_Model_keep_267 rfl 268 rfl ?_
    refine x_imul X d_Model_keep_268 269 rfl ?_
    refine x_iload_n X (q := 2) d_Model_keep_269 rfl 270 rfl ?_
    refine x_iadd X d_Model_keep_270 271 rfl ?_
    refine x_aload_n X (q := 0) d_Model_keep_271 rfl 272 rfl ?_
    refine x_getR X hf (ci := 12) (j := 18) rfl (by decide) rfl lf_Model_45 d_Model_keep_272 275 rfl (fun o2 hf => ?_)
    refine x_sipush X (v := 402) d_Model_keep_275 (by decide) 278 rfl ?_
    refine x_iload_n X (q := 2) d_Model_keep_278 rfl 279 rfl ?_
    refine x_iadd X d_Model_keep_279 280 rfl ?_
    refine x_iald X hf d_Model_keep_280 281 rfl (fun v3 hf => ?_)
    refine x_iast X hf d_Model_keep_281 282 rfl (fun h4 hf => ?_)
    refine x_iinc X (q := 2) (v := (x2 + 1)) (lv' := [(2, .int (x2 + 1)), (0, .ref a0), (1, .int x1)]) d_Model_keep_282 rfl (by rfl) (by decide) rfl 285 rfl ?_
    refine x_goto X d_Model_keep_285 253 (by decide) ?_
    exact x_sub [1, 2, 0] rfl (hk253 _ _ _ _ hf)
set_option maxRecDepth 100000 in
def wp_Model_keep_154_b (z : Nat → Nat) (Q : xh → Prop)  (k154 : Nat × Int32 × Int32 × xh → Prop) (a0 : Nat) (x1 : Int32) (x2 : Int32) (hp : xh) : Prop :=
  (150 ≤ x2 → wp_Model_keep_253 z Q a0 x1 0 hp) ∧ (¬ 150 ≤ x2 → (∃ o1, fR hp a0 12 15 = some o1 ∧ (∃ o2, fR hp a0 12 15 = some o2 ∧ (∃ v3, aI hp o2 0 (300 + x2) = some v3 ∧ (∃ h4, sI hp o1 0 ((150 * x1) + x2) v3 = some h4 ∧ (∃ o5, fR h4 a0 12 16 = some o5 ∧ (∃ o6, fR h4 a0 12 16 = some o6 ∧ (∃ v7, aI h4 o6 0 (300 + x2) = some v7 ∧ (∃ h8, sI h4 o5 0 ((150 * x1) + x2) v7 = some h8 ∧ (∃ o9, fR h8 a0 12 17 = some o9 ∧ (∃ o10, fR h8 a0 12 17 = some o10 ∧ (∃ v11, aI h8 o10 0 (300 + x2) = some v11 ∧ (∃ h12, sI h8 o9 0 ((150 * x1) + x2) v11 = some h12 ∧ (∃ o13, fR h12 a0 12 27 = some o13 ∧ (∃ o14, fR h12 a0 12 26 = some o14 ∧ (∃ v15, aI h12 o14 0 x2 = some v15 ∧ (∃ h16, sI h12 o13 0 ((150 * x1) + x2) v15 = some h16 ∧ (k154 (a0, x1, (x2 + 1), h16)))))))))))))))))))
set_option maxRecDepth 100000 in
def wp_Model_keep_154 (z : Nat → Nat) (Q : xh → Prop)  (a0 : Nat) (x1 : Int32) (x2 : Int32) (hp : xh) : Prop := ∃ f : Nat, xloop (fun k154 a => wp_Model_keep_154_b z Q  k154 a.1 a.2.1 a.2.2.1 a.2.2.2) f (a0, x1, x2, hp)
set_option maxRecDepth 100000 in
set_option maxHeartbeats 4000000 in
theorem t_Model_keep_154 {p : Program} {l : Launch} {e : Env} {s : State} {m : MethodId} {args : Array Value} {below : List Frame} {meth : Method} {c : Code} {G : xG} {z : Nat → Nat} {A : Nat → Prop} {Qw : State → Prop} {Q : xh → Prop} {a0 : Nat} {x1 : Int32} {x2 : Int32} {hp : xh} (X : xX p l e rm_Model_keep s m args below meth c G z A y_Model_keep b_Model_keep 3) (hret : xRet p l e rm_Model_keep s m args below meth c G A 3 Qw b_Model_keep none (xqv Q))  (hf : wp_Model_keep_154 z Q  a0 x1 x2 hp) : xE p l e rm_Model_keep s m args below meth c G A 3 Qw 0 0 hp 154 [(0, .ref a0), (1, .int x1), (2, .int x2)] [] := by
  obtain ⟨f, hf⟩ := hf
  refine xloop_ind (F := fun k154 a => wp_Model_keep_154_b z Q  k154 a.1 a.2.1 a.2.2.1 a.2.2.2) (E := fun a => xE p l e rm_Model_keep s m args below meth c G A 3 Qw 0 0 a.2.2.2 154 [(0, .ref (a.1)), (1, .int (a.2.1)), (2, .int (a.2.2.1))] []) ?_ f (a0, x1, x2, hp) hf
  intro k154 hk a hf
  obtain ⟨a0, x1, x2, hp⟩ := a
  have hk154 : ∀ (a0 : Nat) (x1 : Int32) (x2 : Int32) (hp : xh), k154 (a0, x1, x2, hp) → xE p l e rm_Model_keep s m args below meth c G A 3 Qw 0 0 hp 154 [(0, .ref a0), (1, .int x1), (2, .int x2)] [] := fun a0 x1 x2 hp h => hk (a0, x1, x2, hp) h
  have hf : wp_Model_keep_154_b z Q  k154 a0 x1 x2 hp := hf
  unfold wp_Model_keep_154_b at hf
  refine x_iload_n X (q := 2) d_Model_keep_154 rfl 155 rfl ?_
  refine x_sipush X (v := 150) d_Model_keep_155 (by decide) 158 rfl ?_
  refine x_icmp_ge X hf d_Model_keep_158 251 161 (by decide) rfl (fun hf => ?_) (fun hf => ?_)
  · refine x_iconst X (v := 0) d_Model_keep_251 (by decide) 252 rfl ?_
    refine x_istore_n X (lv' := [(2, .int 0), (0, .ref a0), (1, .int x1)]) d_Model_keep_252 rfl (by decide) rfl 253 rfl ?_
    exact x_sub [1, 2, 0] rfl (t_Model_keep_253 X hret hf)
  · refine x_aload_n X (q := 0) d_Model_keep_161 rfl 162 rfl ?_
    refine x_getR X hf (ci := 12) (j := 15) rfl (by decide) rfl lf_Model_36 d_Model_keep_162 165 rfl (fun o1 hf => ?_)
    refine x_sipush X (v := 150) d_Model_keep_165 (by decide) 168 rfl ?_
    refine x_iload_n X (q := 1) d_Model_keep_168 rfl 169 rfl ?_
    refine x_imul X d_Model_keep_169 170 rfl ?_
    refine x_iload_n X (q := 2) d_Model_keep_170 rfl 171 rfl ?_
    refine x_iadd X d_Model_keep_171 172 rfl ?_
    refine x_aload_n X (q := 0) d_Model_keep_172 rfl 173 rfl ?_
    refine x_getR X hf (ci := 12) (j := 15) rfl (by decide) rfl lf_Model_36 d_Model_keep_173 176 rfl (fun o2 hf => ?_)
    refine x_sipush X (v := 300) d_Model_keep_176 (by decide) 179 rfl ?_
    refine x_iload_n X (q := 2) d_Model_keep_179 rfl 180 rfl ?_
    refine x_iadd X d_Model_keep_180 181 rfl ?_
    refine x_iald X hf d_Model_keep_181 182 rfl (fun v3 hf => ?_)
    refine x_iast X hf d_Model_keep_182 183 rfl (fun h4 hf => ?_)
    refine x_aload_n X (q := 0) d_Model_keep_183 rfl 184 rfl ?_
    refine x_getR X hf (ci := 12) (j := 16) rfl (by decide) rfl lf_Model_39 d_Model_keep_184 187 rfl (fun o5 hf => ?_)
    refine x_sipush X (v := 150) d_Model_keep_187 (by decide) 190 rfl ?_
    refine x_iload_n X (q := 1) d_Model_keep_190 rfl 191 rfl ?_
    refine x_imul X d_Model_keep_191 192 rfl ?_
    refine x_iload_n X (q := 2) d_Model_keep_192 rfl 193 rfl ?_
    refine x_iadd X d_Model_keep_193 194 rfl ?_
    refine x_aload_n X (q := 0) d_Model_keep_194 rfl 195 rfl ?_
    refine x_getR X hf (ci := 12) (j := 16) rfl (by decide) rfl lf_Model_39 d_Model_keep_195 198 rfl (fun o6 hf => ?_)
    refine x_sipush X (v := 300) d_Model_keep_198 (by decide) 201 rfl ?_
    refine x_iload_n X (q := 2) d_Model_keep_201 rfl 202 rfl ?_
    refine x_iadd X d_Model_keep_202 203 rfl ?_
    refine x_iald X hf d_Model_keep_203 204 rfl (fun v7 hf => ?_)
    refine x_iast X hf d_Model_keep_204 205 rfl (fun h8 hf => ?_)
    refine x_aload_n X (q := 0) d_Model_keep_205 rfl 206 rfl ?_
    refine x_getR X hf (ci := 12) (j := 17) rfl (by decide) rfl lf_Model_42 d_Model_keep_206 209 rfl (fun o9 hf => ?_)
    refine x_sipush X (v := 150) d_Model_keep_209 (by decide) 212 rfl ?_
    refine x_iload_n X (q := 1) d_Model_keep_212 rfl 213 rfl ?_
    refine x_imul X d_Model_keep_213 214 rfl ?_
    refine x_iload_n X (q := 2) d_Model_keep_214 rfl 215 rfl ?_
    refine x_iadd X d_Model_keep_215 216 rfl ?_
    refine x_aload_n X (q := 0) d_Model_keep_216 rfl 217 rfl ?_
    refine x_getR X hf (ci := 12) (j := 17) rfl (by decide) rfl lf_Model_42 d_Model_keep_217 220 rfl (fun o10 hf => ?_)
    refine x_sipush X (v := 300) d_Model_keep_220 (by decide) 223 rfl ?_
    refine x_iload_n X (q := 2) d_Model_keep_223 rfl 224 rfl ?_
    refine x_iadd X d_Model_keep_224 225 rfl ?_
    refine x_iald X hf d_Model_keep_225 226 rfl (fun v11 hf => ?_)
    refine x_iast X hf d_Model_keep_226 227 rfl (fun h12 hf => ?_)
    refine x_aload_n X (q := 0) d_Model_keep_227 rfl 228 rfl ?_
    refine x_getR X hf (ci := 12) (j := 27) rfl (by decide) rfl lf_Model_72 d_Model_keep_228 231 rfl (fun o13 hf => ?_)
    refine x_sipush X (v := 150) d_Model_keep_231 (by decide) 234 rfl ?_
    refine x_iload_n X (q := 1) d_Model_keep_234 rfl 235 rfl ?_
    refine x_imul X d_Model_keep_235 236 rfl ?_
    refine x_iload_n X (q := 2) d_Model_keep_236 rfl 237 rfl ?_
    refine x_iadd X d_Model_keep_237 238 rfl ?_
    refine x_aload_n X (q := 0) d_Model_keep_238 rfl 239 rfl ?_
    refine x_getR X hf (ci := 12) (j := 26) rfl (by decide) rfl lf_Model_69 d_Model_keep_239 242 rfl (fun o14 hf => ?_)
    refine x_iload_n X (q := 2) d_Model_keep_242 rfl 243 rfl ?_
    refine x_iald X hf d_Model_keep_243 244 rfl (fun v15 hf => ?_)
    refine x_iast X hf d_Model_keep_244 245 rfl (fun h16 hf => ?_)
    refine x_iinc X (q := 2) (v := (x2 + 1)) (lv' := [(2, .int (x2 + 1)), (0, .ref a0), (1, .int x1)]) d_Model_keep_245 rfl (by rfl) (by decide) rfl 248 rfl ?_
    refine x_goto X d_Model_keep_248 154 (by decide) ?_
    exact x_sub [1, 2, 0] rfl (hk154 _ _ _ _ hf)
set_option maxRecDepth 100000 in
def wp_Model_keep_120_b (z : Nat → Nat) (Q : xh → Prop)  (k120 : Nat × Int32 × Int32 × xh → Prop) (a0 : Nat) (x1 : Int32) (x2 : Int32) (hp : xh) : Prop :=
  (8 ≤ x2 → wp_Model_keep_154 z Q a0 x1 0 hp) ∧ (¬ 8 ≤ x2 → (∃ o1, fR hp a0 12 14 = some o1 ∧ (∃ o2, fR hp a0 12 14 = some o2 ∧ (∃ v3, aI hp o2 0 (16 + x2) = some v3 ∧ (∃ h4, sI hp o1 0 ((8 * x1) + x2) v3 = some h4 ∧ (k120 (a0, x1, (x2 + 1), h4)))))))
set_option maxRecDepth 100000 in
def wp_Model_keep_120 (z : Nat → Nat) (Q : xh → Prop)  (a0 : Nat) (x1 : Int32) (x2 : Int32) (hp : xh) : Prop := ∃ f : Nat, xloop (fun k120 a => wp_Model_keep_120_b z Q  k120 a.1 a.2.1 a.2.2.1 a.2.2.2) f (a0, x1, x2, hp)
set_option maxRecDepth 100000 in
set_option maxHeartbeats 4000000 in
theorem t_Model_keep_120 {p : Program} {l : Launch} {e : Env} {s : State} {m : MethodId} {args : Array Value} {below : List Frame} {meth : Method} {c : Code} {G : xG} {z : Nat → Nat} {A : Nat → Prop} {Qw : State → Prop} {Q : xh → Prop} {a0 : Nat} {x1 : Int32} {x2 : Int32} {hp : xh} (X : xX p l e rm_Model_keep s m args below meth c G z A y_Model_keep b_Model_keep 3) (hret : xRet p l e rm_Model_keep s m args below meth c G A 3 Qw b_Model_keep none (xqv Q))  (hf : wp_Model_keep_120 z Q  a0 x1 x2 hp) : xE p l e rm_Model_keep s m args below meth c G A 3 Qw 0 0 hp 120 [(0, .ref a0), (1, .int x1), (2, .int x2)] [] := by
  obtain ⟨f, hf⟩ := hf
  refine xloop_ind (F := fun k120 a => wp_Model_keep_120_b z Q  k120 a.1 a.2.1 a.2.2.1 a.2.2.2) (E := fun a => xE p l e rm_Model_keep s m args below meth c G A 3 Qw 0 0 a.2.2.2 120 [(0, .ref (a.1)), (1, .int (a.2.1)), (2, .int (a.2.2.1))] []) ?_ f (a0, x1, x2, hp) hf
  intro k120 hk a hf
  obtain ⟨a0, x1, x2, hp⟩ := a
  have hk120 : ∀ (a0 : Nat) (x1 : Int32) (x2 : Int32) (hp : xh), k120 (a0, x1, x2, hp) → xE p l e rm_Model_keep s m args below meth c G A 3 Qw 0 0 hp 120 [(0, .ref a0), (1, .int x1), (2, .int x2)] [] := fun a0 x1 x2 hp h => hk (a0, x1, x2, hp) h
  have hf : wp_Model_keep_120_b z Q  k120 a0 x1 x2 hp := hf
  unfold wp_Model_keep_120_b at hf
  refine x_iload_n X (q := 2) d_Model_keep_120 rfl 121 rfl ?_
  refine x_bipush X (v := 8) d_Model_keep_121 (by decide) 123 rfl ?_
  refine x_icmp_ge X hf d_Model_keep_123 152 126 (by decide) rfl (fun hf => ?_) (fun hf => ?_)
  · refine x_iconst X (v := 0) d_Model_keep_152 (by decide) 153 rfl ?_
    refine x_istore_n X (lv' := [(2, .int 0), (0, .ref a0), (1, .int x1)]) d_Model_keep_153 rfl (by decide) rfl 154 rfl ?_
    exact x_sub [1, 2, 0] rfl (t_Model_keep_154 X hret hf)
  · refine x_aload_n X (q := 0) d_Model_keep_126 rfl 127 rfl ?_
    refine x_getR X hf (ci := 12) (j := 14) rfl (by decide) rfl lf_Model_33 d_Model_keep_127 130 rfl (fun o1 hf => ?_)
    refine x_bipush X (v := 8) d_Model_keep_130 (by decide) 132 rfl ?_
    refine x_iload_n X (q := 1) d_Model_keep_132 rfl 133 rfl ?_
    refine x_imul X d_Model_keep_133 134 rfl ?_
    refine x_iload_n X (q := 2) d_Model_keep_134 rfl 135 rfl ?_
    refine x_iadd X d_Model_keep_135 136 rfl ?_
    refine x_aload_n X (q := 0) d_Model_keep_136 rfl 137 rfl ?_
    refine x_getR X hf (ci := 12) (j := 14) rfl (by decide) rfl lf_Model_33 d_Model_keep_137 140 rfl (fun o2 hf => ?_)
    refine x_bipush X (v := 16) d_Model_keep_140 (by decide) 142 rfl ?_
    refine x_iload_n X (q := 2) d_Model_keep_142 rfl 143 rfl ?_
    refine x_iadd X d_Model_keep_143 144 rfl ?_
    refine x_iald X hf d_Model_keep_144 145 rfl (fun v3 hf => ?_)
    refine x_iast X hf d_Model_keep_145 146 rfl (fun h4 hf => ?_)
    refine x_iinc X (q := 2) (v := (x2 + 1)) (lv' := [(2, .int (x2 + 1)), (0, .ref a0), (1, .int x1)]) d_Model_keep_146 rfl (by rfl) (by decide) rfl 149 rfl ?_
    refine x_goto X d_Model_keep_149 120 (by decide) ?_
    exact x_sub [1, 2, 0] rfl (hk120 _ _ _ _ hf)
set_option maxRecDepth 100000 in
def wp_Model_keep_66_b (z : Nat → Nat) (Q : xh → Prop)  (k66 : Nat × Int32 × Int32 × xh → Prop) (a0 : Nat) (x1 : Int32) (x2 : Int32) (hp : xh) : Prop :=
  (7 ≤ x2 → wp_Model_keep_120 z Q a0 x1 0 hp) ∧ (¬ 7 ≤ x2 → (∃ o1, fR hp a0 12 12 = some o1 ∧ (∃ o2, fR hp a0 12 12 = some o2 ∧ (∃ v3, aI hp o2 0 (14 + x2) = some v3 ∧ (∃ h4, sI hp o1 0 ((7 * x1) + x2) v3 = some h4 ∧ (∃ o5, fR h4 a0 12 13 = some o5 ∧ (∃ o6, fR h4 a0 12 13 = some o6 ∧ (∃ v7, aI h4 o6 0 (14 + x2) = some v7 ∧ (∃ h8, sI h4 o5 0 ((7 * x1) + x2) v7 = some h8 ∧ (k66 (a0, x1, (x2 + 1), h8)))))))))))
set_option maxRecDepth 100000 in
def wp_Model_keep_66 (z : Nat → Nat) (Q : xh → Prop)  (a0 : Nat) (x1 : Int32) (x2 : Int32) (hp : xh) : Prop := ∃ f : Nat, xloop (fun k66 a => wp_Model_keep_66_b z Q  k66 a.1 a.2.1 a.2.2.1 a.2.2.2) f (a0, x1, x2, hp)
set_option maxRecDepth 100000 in
set_option maxHeartbeats 4000000 in
theorem t_Model_keep_66 {p : Program} {l : Launch} {e : Env} {s : State} {m : MethodId} {args : Array Value} {below : List Frame} {meth : Method} {c : Code} {G : xG} {z : Nat → Nat} {A : Nat → Prop} {Qw : State → Prop} {Q : xh → Prop} {a0 : Nat} {x1 : Int32} {x2 : Int32} {hp : xh} (X : xX p l e rm_Model_keep s m args below meth c G z A y_Model_keep b_Model_keep 3) (hret : xRet p l e rm_Model_keep s m args below meth c G A 3 Qw b_Model_keep none (xqv Q))  (hf : wp_Model_keep_66 z Q  a0 x1 x2 hp) : xE p l e rm_Model_keep s m args below meth c G A 3 Qw 0 0 hp 66 [(0, .ref a0), (1, .int x1), (2, .int x2)] [] := by
  obtain ⟨f, hf⟩ := hf
  refine xloop_ind (F := fun k66 a => wp_Model_keep_66_b z Q  k66 a.1 a.2.1 a.2.2.1 a.2.2.2) (E := fun a => xE p l e rm_Model_keep s m args below meth c G A 3 Qw 0 0 a.2.2.2 66 [(0, .ref (a.1)), (1, .int (a.2.1)), (2, .int (a.2.2.1))] []) ?_ f (a0, x1, x2, hp) hf
  intro k66 hk a hf
  obtain ⟨a0, x1, x2, hp⟩ := a
  have hk66 : ∀ (a0 : Nat) (x1 : Int32) (x2 : Int32) (hp : xh), k66 (a0, x1, x2, hp) → xE p l e rm_Model_keep s m args below meth c G A 3 Qw 0 0 hp 66 [(0, .ref a0), (1, .int x1), (2, .int x2)] [] := fun a0 x1 x2 hp h => hk (a0, x1, x2, hp) h
  have hf : wp_Model_keep_66_b z Q  k66 a0 x1 x2 hp := hf
  unfold wp_Model_keep_66_b at hf
  refine x_iload_n X (q := 2) d_Model_keep_66 rfl 67 rfl ?_
  refine x_bipush X (v := 7) d_Model_keep_67 (by decide) 69 rfl ?_
  refine x_icmp_ge X hf d_Model_keep_69 118 72 (by decide) rfl (fun hf => ?_) (fun hf => ?_)
  · refine x_iconst X (v := 0) d_Model_keep_118 (by decide) 119 rfl ?_
    refine x_istore_n X (lv' := [(2, .int 0), (0, .ref a0), (1, .int x1)]) d_Model_keep_119 rfl (by decide) rfl 120 rfl ?_
    exact x_sub [1, 2, 0] rfl (t_Model_keep_120 X hret hf)
  · refine x_aload_n X (q := 0) d_Model_keep_72 rfl 73 rfl ?_
    refine x_getR X hf (ci := 12) (j := 12) rfl (by decide) rfl lf_Model_27 d_Model_keep_73 76 rfl (fun o1 hf => ?_)
    refine x_bipush X (v := 7) d_Model_keep_76 (by decide) 78 rfl ?_
    refine x_iload_n X (q := 1) d_Model_keep_78 rfl 79 rfl ?_
    refine x_imul X d_Model_keep_79 80 rfl ?_
    refine x_iload_n X (q := 2) d_Model_keep_80 rfl 81 rfl ?_
    refine x_iadd X d_Model_keep_81 82 rfl ?_
    refine x_aload_n X (q := 0) d_Model_keep_82 rfl 83 rfl ?_
    refine x_getR X hf (ci := 12) (j := 12) rfl (by decide) rfl lf_Model_27 d_Model_keep_83 86 rfl (fun o2 hf => ?_)
    refine x_bipush X (v := 14) d_Model_keep_86 (by decide) 88 rfl ?_
    refine x_iload_n X (q := 2) d_Model_keep_88 rfl 89 rfl ?_
    refine x_iadd X d_Model_keep_89 90 rfl ?_
    refine x_iald X hf d_Model_keep_90 91 rfl (fun v3 hf => ?_)
    refine x_iast X hf d_Model_keep_91 92 rfl (fun h4 hf => ?_)
    refine x_aload_n X (q := 0) d_Model_keep_92 rfl 93 rfl ?_
    refine x_getR X hf (ci := 12) (j := 13) rfl (by decide) rfl lf_Model_30 d_Model_keep_93 96 rfl (fun o5 hf => ?_)
    refine x_bipush X (v := 7) d_Model_keep_96 (by decide) 98 rfl ?_
    refine x_iload_n X (q := 1) d_Model_keep_98 rfl 99 rfl ?_
    refine x_imul X d_Model_keep_99 100 rfl ?_
    refine x_iload_n X (q := 2) d_Model_keep_100 rfl 101 rfl ?_
    refine x_iadd X d_Model_keep_101 102 rfl ?_
    refine x_aload_n X (q := 0) d_Model_keep_102 rfl 103 rfl ?_
    refine x_getR X hf (ci := 12) (j := 13) rfl (by decide) rfl lf_Model_30 d_Model_keep_103 106 rfl (fun o6 hf => ?_)
    refine x_bipush X (v := 14) d_Model_keep_106 (by decide) 108 rfl ?_
    refine x_iload_n X (q := 2) d_Model_keep_108 rfl 109 rfl ?_
    refine x_iadd X d_Model_keep_109 110 rfl ?_
    refine x_iald X hf d_Model_keep_110 111 rfl (fun v7 hf => ?_)
    refine x_iast X hf d_Model_keep_111 112 rfl (fun h8 hf => ?_)
    refine x_iinc X (q := 2) (v := (x2 + 1)) (lv' := [(2, .int (x2 + 1)), (0, .ref a0), (1, .int x1)]) d_Model_keep_112 rfl (by rfl) (by decide) rfl 115 rfl ?_
    refine x_goto X d_Model_keep_115 66 (by decide) ?_
    exact x_sub [1, 2, 0] rfl (hk66 _ _ _ _ hf)
set_option maxRecDepth 100000 in
def wp_Model_keep_34_b (z : Nat → Nat) (Q : xh → Prop)  (k34 : Nat × Int32 × Int32 × xh → Prop) (a0 : Nat) (x1 : Int32) (x2 : Int32) (hp : xh) : Prop :=
  (5 ≤ x2 → wp_Model_keep_66 z Q a0 x1 0 hp) ∧ (¬ 5 ≤ x2 → (∃ o1, fR hp a0 12 11 = some o1 ∧ (∃ o2, fR hp a0 12 11 = some o2 ∧ (∃ v3, aI hp o2 0 (10 + x2) = some v3 ∧ (∃ h4, sI hp o1 0 ((5 * x1) + x2) v3 = some h4 ∧ (k34 (a0, x1, (x2 + 1), h4)))))))
set_option maxRecDepth 100000 in
def wp_Model_keep_34 (z : Nat → Nat) (Q : xh → Prop)  (a0 : Nat) (x1 : Int32) (x2 : Int32) (hp : xh) : Prop := ∃ f : Nat, xloop (fun k34 a => wp_Model_keep_34_b z Q  k34 a.1 a.2.1 a.2.2.1 a.2.2.2) f (a0, x1, x2, hp)
set_option maxRecDepth 100000 in
set_option maxHeartbeats 4000000 in
theorem t_Model_keep_34 {p : Program} {l : Launch} {e : Env} {s : State} {m : MethodId} {args : Array Value} {below : List Frame} {meth : Method} {c : Code} {G : xG} {z : Nat → Nat} {A : Nat → Prop} {Qw : State → Prop} {Q : xh → Prop} {a0 : Nat} {x1 : Int32} {x2 : Int32} {hp : xh} (X : xX p l e rm_Model_keep s m args below meth c G z A y_Model_keep b_Model_keep 3) (hret : xRet p l e rm_Model_keep s m args below meth c G A 3 Qw b_Model_keep none (xqv Q))  (hf : wp_Model_keep_34 z Q  a0 x1 x2 hp) : xE p l e rm_Model_keep s m args below meth c G A 3 Qw 0 0 hp 34 [(0, .ref a0), (1, .int x1), (2, .int x2)] [] := by
  obtain ⟨f, hf⟩ := hf
  refine xloop_ind (F := fun k34 a => wp_Model_keep_34_b z Q  k34 a.1 a.2.1 a.2.2.1 a.2.2.2) (E := fun a => xE p l e rm_Model_keep s m args below meth c G A 3 Qw 0 0 a.2.2.2 34 [(0, .ref (a.1)), (1, .int (a.2.1)), (2, .int (a.2.2.1))] []) ?_ f (a0, x1, x2, hp) hf
  intro k34 hk a hf
  obtain ⟨a0, x1, x2, hp⟩ := a
  have hk34 : ∀ (a0 : Nat) (x1 : Int32) (x2 : Int32) (hp : xh), k34 (a0, x1, x2, hp) → xE p l e rm_Model_keep s m args below meth c G A 3 Qw 0 0 hp 34 [(0, .ref a0), (1, .int x1), (2, .int x2)] [] := fun a0 x1 x2 hp h => hk (a0, x1, x2, hp) h
  have hf : wp_Model_keep_34_b z Q  k34 a0 x1 x2 hp := hf
  unfold wp_Model_keep_34_b at hf
  refine x_iload_n X (q := 2) d_Model_keep_34 rfl 35 rfl ?_
  refine x_iconst X (v := 5) d_Model_keep_35 (by decide) 36 rfl ?_
  refine x_icmp_ge X hf d_Model_keep_36 64 39 (by decide) rfl (fun hf => ?_) (fun hf => ?_)
  · refine x_iconst X (v := 0) d_Model_keep_64 (by decide) 65 rfl ?_
    refine x_istore_n X (lv' := [(2, .int 0), (0, .ref a0), (1, .int x1)]) d_Model_keep_65 rfl (by decide) rfl 66 rfl ?_
    exact x_sub [1, 2, 0] rfl (t_Model_keep_66 X hret hf)
  · refine x_aload_n X (q := 0) d_Model_keep_39 rfl 40 rfl ?_
    refine x_getR X hf (ci := 12) (j := 11) rfl (by decide) rfl lf_Model_24 d_Model_keep_40 43 rfl (fun o1 hf => ?_)
    refine x_iconst X (v := 5) d_Model_keep_43 (by decide) 44 rfl ?_
    refine x_iload_n X (q := 1) d_Model_keep_44 rfl 45 rfl ?_
    refine x_imul X d_Model_keep_45 46 rfl ?_
    refine x_iload_n X (q := 2) d_Model_keep_46 rfl 47 rfl ?_
    refine x_iadd X d_Model_keep_47 48 rfl ?_
    refine x_aload_n X (q := 0) d_Model_keep_48 rfl 49 rfl ?_
    refine x_getR X hf (ci := 12) (j := 11) rfl (by decide) rfl lf_Model_24 d_Model_keep_49 52 rfl (fun o2 hf => ?_)
    refine x_bipush X (v := 10) d_Model_keep_52 (by decide) 54 rfl ?_
    refine x_iload_n X (q := 2) d_Model_keep_54 rfl 55 rfl ?_
    refine x_iadd X d_Model_keep_55 56 rfl ?_
    refine x_iald X hf d_Model_keep_56 57 rfl (fun v3 hf => ?_)
    refine x_iast X hf d_Model_keep_57 58 rfl (fun h4 hf => ?_)
    refine x_iinc X (q := 2) (v := (x2 + 1)) (lv' := [(2, .int (x2 + 1)), (0, .ref a0), (1, .int x1)]) d_Model_keep_58 rfl (by rfl) (by decide) rfl 61 rfl ?_
    refine x_goto X d_Model_keep_61 34 (by decide) ?_
    exact x_sub [1, 2, 0] rfl (hk34 _ _ _ _ hf)
set_option maxRecDepth 100000 in
def wp_Model_keep_2_b (z : Nat → Nat) (Q : xh → Prop)  (k2 : Nat × Int32 × Int32 × xh → Prop) (a0 : Nat) (x1 : Int32) (x2 : Int32) (hp : xh) : Prop :=
  (5 ≤ x2 → wp_Model_keep_34 z Q a0 x1 0 hp) ∧ (¬ 5 ≤ x2 → (∃ o1, fR hp a0 12 10 = some o1 ∧ (∃ o2, fR hp a0 12 10 = some o2 ∧ (∃ v3, aI hp o2 0 (10 + x2) = some v3 ∧ (∃ h4, sI hp o1 0 ((5 * x1) + x2) v3 = some h4 ∧ (k2 (a0, x1, (x2 + 1), h4)))))))
set_option maxRecDepth 100000 in
def wp_Model_keep_2 (z : Nat → Nat) (Q : xh → Prop)  (a0 : Nat) (x1 : Int32) (x2 : Int32) (hp : xh) : Prop := ∃ f : Nat, xloop (fun k2 a => wp_Model_keep_2_b z Q  k2 a.1 a.2.1 a.2.2.1 a.2.2.2) f (a0, x1, x2, hp)
set_option maxRecDepth 100000 in
set_option maxHeartbeats 4000000 in
theorem t_Model_keep_2 {p : Program} {l : Launch} {e : Env} {s : State} {m : MethodId} {args : Array Value} {below : List Frame} {meth : Method} {c : Code} {G : xG} {z : Nat → Nat} {A : Nat → Prop} {Qw : State → Prop} {Q : xh → Prop} {a0 : Nat} {x1 : Int32} {x2 : Int32} {hp : xh} (X : xX p l e rm_Model_keep s m args below meth c G z A y_Model_keep b_Model_keep 3) (hret : xRet p l e rm_Model_keep s m args below meth c G A 3 Qw b_Model_keep none (xqv Q))  (hf : wp_Model_keep_2 z Q  a0 x1 x2 hp) : xE p l e rm_Model_keep s m args below meth c G A 3 Qw 0 0 hp 2 [(0, .ref a0), (1, .int x1), (2, .int x2)] [] := by
  obtain ⟨f, hf⟩ := hf
  refine xloop_ind (F := fun k2 a => wp_Model_keep_2_b z Q  k2 a.1 a.2.1 a.2.2.1 a.2.2.2) (E := fun a => xE p l e rm_Model_keep s m args below meth c G A 3 Qw 0 0 a.2.2.2 2 [(0, .ref (a.1)), (1, .int (a.2.1)), (2, .int (a.2.2.1))] []) ?_ f (a0, x1, x2, hp) hf
  intro k2 hk a hf
  obtain ⟨a0, x1, x2, hp⟩ := a
  have hk2 : ∀ (a0 : Nat) (x1 : Int32) (x2 : Int32) (hp : xh), k2 (a0, x1, x2, hp) → xE p l e rm_Model_keep s m args below meth c G A 3 Qw 0 0 hp 2 [(0, .ref a0), (1, .int x1), (2, .int x2)] [] := fun a0 x1 x2 hp h => hk (a0, x1, x2, hp) h
  have hf : wp_Model_keep_2_b z Q  k2 a0 x1 x2 hp := hf
  unfold wp_Model_keep_2_b at hf
  refine x_iload_n X (q := 2) d_Model_keep_2 rfl 3 rfl ?_
  refine x_iconst X (v := 5) d_Model_keep_3 (by decide) 4 rfl ?_
  refine x_icmp_ge X hf d_Model_keep_4 32 7 (by decide) rfl (fun hf => ?_) (fun hf => ?_)
  · refine x_iconst X (v := 0) d_Model_keep_32 (by decide) 33 rfl ?_
    refine x_istore_n X (lv' := [(2, .int 0), (0, .ref a0), (1, .int x1)]) d_Model_keep_33 rfl (by decide) rfl 34 rfl ?_
    exact x_sub [1, 2, 0] rfl (t_Model_keep_34 X hret hf)
  · refine x_aload_n X (q := 0) d_Model_keep_7 rfl 8 rfl ?_
    refine x_getR X hf (ci := 12) (j := 10) rfl (by decide) rfl lf_Model_20 d_Model_keep_8 11 rfl (fun o1 hf => ?_)
    refine x_iconst X (v := 5) d_Model_keep_11 (by decide) 12 rfl ?_
    refine x_iload_n X (q := 1) d_Model_keep_12 rfl 13 rfl ?_
    refine x_imul X d_Model_keep_13 14 rfl ?_
    refine x_iload_n X (q := 2) d_Model_keep_14 rfl 15 rfl ?_
    refine x_iadd X d_Model_keep_15 16 rfl ?_
    refine x_aload_n X (q := 0) d_Model_keep_16 rfl 17 rfl ?_
    refine x_getR X hf (ci := 12) (j := 10) rfl (by decide) rfl lf_Model_20 d_Model_keep_17 20 rfl (fun o2 hf => ?_)
    refine x_bipush X (v := 10) d_Model_keep_20 (by decide) 22 rfl ?_
    refine x_iload_n X (q := 2) d_Model_keep_22 rfl 23 rfl ?_
    refine x_iadd X d_Model_keep_23 24 rfl ?_
    refine x_iald X hf d_Model_keep_24 25 rfl (fun v3 hf => ?_)
    refine x_iast X hf d_Model_keep_25 26 rfl (fun h4 hf => ?_)
    refine x_iinc X (q := 2) (v := (x2 + 1)) (lv' := [(2, .int (x2 + 1)), (0, .ref a0), (1, .int x1)]) d_Model_keep_26 rfl (by rfl) (by decide) rfl 29 rfl ?_
    refine x_goto X d_Model_keep_29 2 (by decide) ?_
    exact x_sub [1, 2, 0] rfl (hk2 _ _ _ _ hf)
set_option maxRecDepth 100000 in
def wp_Model_keep (z : Nat → Nat) (Q : xh → Prop) (a0 : Nat) (x1 : Int32) (hp : xh) : Prop :=
  wp_Model_keep_2 z Q a0 x1 0 hp
set_option maxRecDepth 100000 in
set_option maxHeartbeats 4000000 in
theorem t_Model_keep {l : Launch} {G : xG} {z : Nat → Nat} {Q : xh → Prop} {a0 : Nat} {x1 : Int32} {hp : xh} (hf : wp_Model_keep z Q a0 x1 hp) : xM l G z y_Model_keep b_Model_keep 3 none rm_Model_keep [.ref a0, .int x1] hp (xqv Q) := by
  refine xM_of (by decide) (Nat.le_of_ble_eq_true rfl) (lv0 := [(0, .ref a0), (1, .int x1)]) rfl ?_
  intro p e s m args below meth c A Qw X hret
  unfold wp_Model_keep at hf
  refine x_iconst X (v := 0) d_Model_keep_0 (by decide) 1 rfl ?_
  refine x_istore_n X (lv' := [(2, .int 0), (0, .ref a0), (1, .int x1)]) d_Model_keep_1 rfl (by decide) rfl 2 rfl ?_
  exact x_sub [1, 2, 0] rfl (t_Model_keep_2 X hret hf)

