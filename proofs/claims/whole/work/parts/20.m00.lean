set_option maxRecDepth 100000 in
def wp_Tape_init (z : Nat → Nat) (mc ms : Nat) (Q : xh → Prop) (a0 : Nat) (hp : xh) : Prop :=
  0 + 1 ≤ mc ∧ 0 + 20 ≤ ms ∧ ∀ o1, hp o1 = none → ∀ h2, h2 = xset hp o1 (.inl (1, 20, .inl (fun _ => 0))) → ∃ h5, pV h2 a0 8 0 (.ref o1) = some h5 ∧ ((0 + 1) + 1 ≤ mc ∧ (0 + 20) + 6000 ≤ ms ∧ ∀ o6, h5 o6 = none → ∀ h7, h7 = xset h5 o6 (.inl (1, 6000, .inl (fun _ => 0))) → ∃ h10, pV h7 a0 8 1 (.ref o6) = some h10 ∧ Q h10)
set_option maxRecDepth 100000 in
set_option maxHeartbeats 4000000 in
theorem t_Tape_init {l : Launch} {G : xG} {z : Nat → Nat} {mc ms : Nat} {Q : xh → Prop} {a0 : Nat} {hp : xh} (hf : wp_Tape_init z mc ms Q a0 hp) : xM l G z y_Tape_init b_Tape_init 1 none (rm_Tape_init mc ms) [.ref a0] hp (xqv Q) := by
  refine xM_of (by decide) (Nat.le_of_ble_eq_true rfl) (lv0 := [(0, .ref a0)]) rfl ?_
  intro p e s m args below meth c A Qw X hret
  unfold wp_Tape_init at hf
  refine x_aload_n X (q := 0) d_Tape_init_0 rfl 1 rfl ?_
  refine x_objInit X lm_Tape_3 obj_im obj_cd (Nat.le_of_ble_eq_true rfl) (Nat.le_of_ble_eq_true rfl) d_Tape_init_1 4 rfl ?_
  refine x_aload_n X (q := 0) d_Tape_init_4 rfl 5 rfl ?_
  refine x_bipush X (v := 20) d_Tape_init_5 (by decide) 7 rfl ?_
  have hk3 := hf.1
  have hn4 := hf.2.1
  refine x_new_b X hf rfl ac_byte (by decide) (by decide) (by decide) d_Tape_init_7 9 rfl (fun h2 o1 hf => ?_)
  refine x_putF X hf (ci := 8) (j := 0) (ty := (.array .byte)) rfl (by decide) rfl lf_Tape_9 rfl rfl rfl (by decide +kernel) rfl rfl d_Tape_init_9 12 rfl (fun h5 hf => ?_)
  refine x_aload_n X (q := 0) d_Tape_init_12 rfl 13 rfl ?_
  refine x_sipush X (v := 6000) d_Tape_init_13 (by decide) 16 rfl ?_
  have hk8 := hf.1
  have hn9 := hf.2.1
  refine x_new_b X hf rfl ac_byte (by decide) (by decide) (by decide) d_Tape_init_16 18 rfl (fun h7 o6 hf => ?_)
  refine x_putF X hf (ci := 8) (j := 1) (ty := (.array .byte)) rfl (by decide) rfl lf_Tape_15 rfl rfl rfl (by decide +kernel) rfl rfl d_Tape_init_18 21 rfl (fun h10 hf => ?_)
  exact hret _ _ _ _ _ none hk8 hn9 ⟨rfl, hf⟩ ⟨rfl, d_Tape_init_21⟩

set_option maxRecDepth 100000 in
def wp_Sorter_init (z : Nat → Nat) (mc ms : Nat) (Q : xh → Prop) (a0 : Nat) (hp : xh) : Prop :=
  0 + 1 ≤ mc ∧ 0 + 150 ≤ ms ∧ ∀ o1, hp o1 = none → ∀ h2, h2 = xset hp o1 (.inl (0, 150, .inl (fun _ => 0))) → ∃ h5, pV h2 a0 6 0 (.ref o1) = some h5 ∧ ((0 + 1) + 1 ≤ mc ∧ (0 + 150) + 201 ≤ ms ∧ ∀ o6, h5 o6 = none → ∀ h7, h7 = xset h5 o6 (.inl (2, 201, .inl (fun _ => 0))) → ∃ h10, pV h7 a0 6 1 (.ref o6) = some h10 ∧ (((0 + 1) + 1) + 1 ≤ mc ∧ ((0 + 150) + 201) + 201 ≤ ms ∧ ∀ o11, h10 o11 = none → ∀ h12, h12 = xset h10 o11 (.inl (2, 201, .inl (fun _ => 0))) → ∃ h15, pV h12 a0 6 2 (.ref o11) = some h15 ∧ ((((0 + 1) + 1) + 1) + 1 ≤ mc ∧ (((0 + 150) + 201) + 201) + 201 ≤ ms ∧ ∀ o16, h15 o16 = none → ∀ h17, h17 = xset h15 o16 (.inl (0, 201, .inl (fun _ => 0))) → ∃ h20, pV h17 a0 6 3 (.ref o16) = some h20 ∧ Q h20)))
set_option maxRecDepth 100000 in
set_option maxHeartbeats 4000000 in
theorem t_Sorter_init {l : Launch} {G : xG} {z : Nat → Nat} {mc ms : Nat} {Q : xh → Prop} {a0 : Nat} {hp : xh} (hf : wp_Sorter_init z mc ms Q a0 hp) : xM l G z y_Sorter_init b_Sorter_init 1 none (rm_Sorter_init mc ms) [.ref a0] hp (xqv Q) := by
  refine xM_of (by decide) (Nat.le_of_ble_eq_true rfl) (lv0 := [(0, .ref a0)]) rfl ?_
  intro p e s m args below meth c A Qw X hret
  unfold wp_Sorter_init at hf
  refine x_aload_n X (q := 0) d_Sorter_init_0 rfl 1 rfl ?_
  refine x_objInit X lm_Sorter_3 obj_im obj_cd (Nat.le_of_ble_eq_true rfl) (Nat.le_of_ble_eq_true rfl) d_Sorter_init_1 4 rfl ?_
  refine x_aload_n X (q := 0) d_Sorter_init_4 rfl 5 rfl ?_
  refine x_sipush X (v := 150) d_Sorter_init_5 (by decide) 8 rfl ?_
  have hk3 := hf.1
  have hn4 := hf.2.1
  refine x_new_i X hf rfl ac_int (by decide) (by decide) (by decide) d_Sorter_init_8 10 rfl (fun h2 o1 hf => ?_)
  refine x_putF X hf (ci := 6) (j := 0) (ty := (.array .int)) rfl (by decide) rfl lf_Sorter_9 rfl rfl rfl (by decide +kernel) rfl rfl d_Sorter_init_10 13 rfl (fun h5 hf => ?_)
  refine x_aload_n X (q := 0) d_Sorter_init_13 rfl 14 rfl ?_
  refine x_sipush X (v := 201) d_Sorter_init_14 (by decide) 17 rfl ?_
  have hk8 := hf.1
  have hn9 := hf.2.1
  refine x_new_z X hf rfl ac_boolean (by decide) (by decide) (by decide) d_Sorter_init_17 19 rfl (fun h7 o6 hf => ?_)
  refine x_putF X hf (ci := 6) (j := 1) (ty := (.array .boolean)) rfl (by decide) rfl lf_Sorter_15 rfl rfl rfl (by decide +kernel) rfl rfl d_Sorter_init_19 22 rfl (fun h10 hf => ?_)
  refine x_aload_n X (q := 0) d_Sorter_init_22 rfl 23 rfl ?_
  refine x_sipush X (v := 201) d_Sorter_init_23 (by decide) 26 rfl ?_
  have hk13 := hf.1
  have hn14 := hf.2.1
  refine x_new_z X hf rfl ac_boolean (by decide) (by decide) (by decide) d_Sorter_init_26 28 rfl (fun h12 o11 hf => ?_)
  refine x_putF X hf (ci := 6) (j := 2) (ty := (.array .boolean)) rfl (by decide) rfl lf_Sorter_19 rfl rfl rfl (by decide +kernel) rfl rfl d_Sorter_init_28 31 rfl (fun h15 hf => ?_)
  refine x_aload_n X (q := 0) d_Sorter_init_31 rfl 32 rfl ?_
  refine x_sipush X (v := 201) d_Sorter_init_32 (by decide) 35 rfl ?_
  have hk18 := hf.1
  have hn19 := hf.2.1
  refine x_new_i X hf rfl ac_int (by decide) (by decide) (by decide) d_Sorter_init_35 37 rfl (fun h17 o16 hf => ?_)
  refine x_putF X hf (ci := 6) (j := 3) (ty := (.array .int)) rfl (by decide) rfl lf_Sorter_22 rfl rfl rfl (by decide +kernel) rfl rfl d_Sorter_init_37 40 rfl (fun h20 hf => ?_)
  exact hret _ _ _ _ _ none hk18 hn19 ⟨rfl, hf⟩ ⟨rfl, d_Sorter_init_40⟩

set_option maxRecDepth 100000 in
def wp_Circuit_init (z : Nat → Nat) (mc ms : Nat) (Q : xh → Prop) (a0 : Nat) (hp : xh) : Prop :=
  0 + 1 ≤ mc ∧ 0 + 201 ≤ ms ∧ ∀ o1, hp o1 = none → ∀ h2, h2 = xset hp o1 (.inl (1, 201, .inl (fun _ => 0))) → ∃ h5, pV h2 a0 0 6 (.ref o1) = some h5 ∧ ((0 + 1) + 1 ≤ mc ∧ (0 + 201) + 201 ≤ ms ∧ ∀ o6, h5 o6 = none → ∀ h7, h7 = xset h5 o6 (.inl (0, 201, .inl (fun _ => 0))) → ∃ h10, pV h7 a0 0 7 (.ref o6) = some h10 ∧ (((0 + 1) + 1) + 1 ≤ mc ∧ ((0 + 201) + 201) + 201 ≤ ms ∧ ∀ o11, h10 o11 = none → ∀ h12, h12 = xset h10 o11 (.inl (0, 201, .inl (fun _ => 0))) → ∃ h15, pV h12 a0 0 8 (.ref o11) = some h15 ∧ ((((0 + 1) + 1) + 1) + 1 ≤ mc ∧ (((0 + 201) + 201) + 201) + 5 ≤ ms ∧ ∀ o16, h15 o16 = none → ∀ h17, h17 = xset h15 o16 (.inl (0, 5, .inl (fun _ => 0))) → ∃ h20, pV h17 a0 0 9 (.ref o16) = some h20 ∧ (((((0 + 1) + 1) + 1) + 1) + 1 ≤ mc ∧ ((((0 + 201) + 201) + 201) + 5) + 6 ≤ ms ∧ ∀ o21, h20 o21 = none → ∀ h22, h22 = xset h20 o21 (.inl (0, 6, .inl (fun _ => 0))) → ∃ h25, pV h22 a0 0 10 (.ref o21) = some h25 ∧ ((((((0 + 1) + 1) + 1) + 1) + 1) + 1 ≤ mc ∧ (((((0 + 201) + 201) + 201) + 5) + 6) + 6 ≤ ms ∧ ∀ o26, h25 o26 = none → ∀ h27, h27 = xset h25 o26 (.inl (0, 6, .inl (fun _ => 0))) → ∃ h30, pV h27 a0 0 11 (.ref o26) = some h30 ∧ (((((((0 + 1) + 1) + 1) + 1) + 1) + 1) + 1 ≤ mc ∧ ((((((0 + 201) + 201) + 201) + 5) + 6) + 6) + 8 ≤ ms ∧ ∀ o31, h30 o31 = none → ∀ h32, h32 = xset h30 o31 (.inl (0, 8, .inl (fun _ => 0))) → ∃ h35, pV h32 a0 0 12 (.ref o31) = some h35 ∧ ((((((((0 + 1) + 1) + 1) + 1) + 1) + 1) + 1) + 1 ≤ mc ∧ (((((((0 + 201) + 201) + 201) + 5) + 6) + 6) + 8) + 150 ≤ ms ∧ ∀ o36, h35 o36 = none → ∀ h37, h37 = xset h35 o36 (.inl (0, 150, .inl (fun _ => 0))) → ∃ h40, pV h37 a0 0 13 (.ref o36) = some h40 ∧ (((((((((0 + 1) + 1) + 1) + 1) + 1) + 1) + 1) + 1) + 1 ≤ mc ∧ ((((((((0 + 201) + 201) + 201) + 5) + 6) + 6) + 8) + 150) + 760 ≤ ms ∧ ∀ o41, h40 o41 = none → ∀ h42, h42 = xset h40 o41 (.inl (1, 760, .inl (fun _ => 0))) → ∃ h45, pV h42 a0 0 14 (.ref o41) = some h45 ∧ ((((((((((0 + 1) + 1) + 1) + 1) + 1) + 1) + 1) + 1) + 1) + 1 ≤ mc ∧ (((((((((0 + 201) + 201) + 201) + 5) + 6) + 6) + 8) + 150) + 760) + 19 ≤ ms ∧ ∀ o46, h45 o46 = none → ∀ h47, h47 = xset h45 o46 (.inl (0, 19, .inl (fun _ => 0))) → ∃ h50, pV h47 a0 0 15 (.ref o46) = some h50 ∧ Q h50)))))))))
set_option maxRecDepth 100000 in
set_option maxHeartbeats 4000000 in
theorem t_Circuit_init {l : Launch} {G : xG} {z : Nat → Nat} {mc ms : Nat} {Q : xh → Prop} {a0 : Nat} {hp : xh} (hf : wp_Circuit_init z mc ms Q a0 hp) : xM l G z y_Circuit_init b_Circuit_init 1 none (rm_Circuit_init mc ms) [.ref a0] hp (xqv Q) := by
  refine xM_of (by decide) (Nat.le_of_ble_eq_true rfl) (lv0 := [(0, .ref a0)]) rfl ?_
  intro p e s m args below meth c A Qw X hret
  unfold wp_Circuit_init at hf
  refine x_aload_n X (q := 0) d_Circuit_init_0 rfl 1 rfl ?_
  refine x_objInit X lm_Circuit_3 obj_im obj_cd (Nat.le_of_ble_eq_true rfl) (Nat.le_of_ble_eq_true rfl) d_Circuit_init_1 4 rfl ?_
  refine x_aload_n X (q := 0) d_Circuit_init_4 rfl 5 rfl ?_
  refine x_sipush X (v := 201) d_Circuit_init_5 (by decide) 8 rfl ?_
  have hk3 := hf.1
  have hn4 := hf.2.1
  refine x_new_b X hf rfl ac_byte (by decide) (by decide) (by decide) d_Circuit_init_8 10 rfl (fun h2 o1 hf => ?_)
  refine x_putF X hf (ci := 0) (j := 6) (ty := (.array .byte)) rfl (by decide) rfl lf_Circuit_9 rfl rfl rfl (by decide +kernel) rfl rfl d_Circuit_init_10 13 rfl (fun h5 hf => ?_)
  refine x_aload_n X (q := 0) d_Circuit_init_13 rfl 14 rfl ?_
  refine x_sipush X (v := 201) d_Circuit_init_14 (by decide) 17 rfl ?_
  have hk8 := hf.1
  have hn9 := hf.2.1
  refine x_new_i X hf rfl ac_int (by decide) (by decide) (by decide) d_Circuit_init_17 19 rfl (fun h7 o6 hf => ?_)
  refine x_putF X hf (ci := 0) (j := 7) (ty := (.array .int)) rfl (by decide) rfl lf_Circuit_15 rfl rfl rfl (by decide +kernel) rfl rfl d_Circuit_init_19 22 rfl (fun h10 hf => ?_)
  refine x_aload_n X (q := 0) d_Circuit_init_22 rfl 23 rfl ?_
  refine x_sipush X (v := 201) d_Circuit_init_23 (by decide) 26 rfl ?_
  have hk13 := hf.1
  have hn14 := hf.2.1
  refine x_new_i X hf rfl ac_int (by decide) (by decide) (by decide) d_Circuit_init_26 28 rfl (fun h12 o11 hf => ?_)
  refine x_putF X hf (ci := 0) (j := 8) (ty := (.array .int)) rfl (by decide) rfl lf_Circuit_19 rfl rfl rfl (by decide +kernel) rfl rfl d_Circuit_init_28 31 rfl (fun h15 hf => ?_)
  refine x_aload_n X (q := 0) d_Circuit_init_31 rfl 32 rfl ?_
  refine x_iconst X (v := 5) d_Circuit_init_32 (by decide) 33 rfl ?_
  have hk18 := hf.1
  have hn19 := hf.2.1
  refine x_new_i X hf rfl ac_int (by decide) (by decide) (by decide) d_Circuit_init_33 35 rfl (fun h17 o16 hf => ?_)
  refine x_putF X hf (ci := 0) (j := 9) (ty := (.array .int)) rfl (by decide) rfl lf_Circuit_22 rfl rfl rfl (by decide +kernel) rfl rfl d_Circuit_init_35 38 rfl (fun h20 hf => ?_)
  refine x_aload_n X (q := 0) d_Circuit_init_38 rfl 39 rfl ?_
  refine x_bipush X (v := 6) d_Circuit_init_39 (by decide) 41 rfl ?_
  have hk23 := hf.1
  have hn24 := hf.2.1
  refine x_new_i X hf rfl ac_int (by decide) (by decide) (by decide) d_Circuit_init_41 43 rfl (fun h22 o21 hf => ?_)
  refine x_putF X hf (ci := 0) (j := 10) (ty := (.array .int)) rfl (by decide) rfl lf_Circuit_25 rfl rfl rfl (by decide +kernel) rfl rfl d_Circuit_init_43 46 rfl (fun h25 hf => ?_)
  refine x_aload_n X (q := 0) d_Circuit_init_46 rfl 47 rfl ?_
  refine x_bipush X (v := 6) d_Circuit_init_47 (by decide) 49 rfl ?_
  have hk28 := hf.1
  have hn29 := hf.2.1
  refine x_new_i X hf rfl ac_int (by decide) (by decide) (by decide) d_Circuit_init_49 51 rfl (fun h27 o26 hf => ?_)
  refine x_putF X hf (ci := 0) (j := 11) (ty := (.array .int)) rfl (by decide) rfl lf_Circuit_28 rfl rfl rfl (by decide +kernel) rfl rfl d_Circuit_init_51 54 rfl (fun h30 hf => ?_)
  refine x_aload_n X (q := 0) d_Circuit_init_54 rfl 55 rfl ?_
  refine x_bipush X (v := 8) d_Circuit_init_55 (by decide) 57 rfl ?_
  have hk33 := hf.1
  have hn34 := hf.2.1
  refine x_new_i X hf rfl ac_int (by decide) (by decide) (by decide) d_Circuit_init_57 59 rfl (fun h32 o31 hf => ?_)
  refine x_putF X hf (ci := 0) (j := 12) (ty := (.array .int)) rfl (by decide) rfl lf_Circuit_31 rfl rfl rfl (by decide +kernel) rfl rfl d_Circuit_init_59 62 rfl (fun h35 hf => ?_)
  refine x_aload_n X (q := 0) d_Circuit_init_62 rfl 63 rfl ?_
  refine x_sipush X (v := 150) d_Circuit_init_63 (by decide) 66 rfl ?_
  have hk38 := hf.1
  have hn39 := hf.2.1
  refine x_new_i X hf rfl ac_int (by decide) (by decide) (by decide) d_Circuit_init_66 68 rfl (fun h37 o36 hf => ?_)
  refine x_putF X hf (ci := 0) (j := 13) (ty := (.array .int)) rfl (by decide) rfl lf_Circuit_34 rfl rfl rfl (by decide +kernel) rfl rfl d_Circuit_init_68 71 rfl (fun h40 hf => ?_)
  refine x_aload_n X (q := 0) d_Circuit_init_71 rfl 72 rfl ?_
  refine x_sipush X (v := 760) d_Circuit_init_72 (by decide) 75 rfl ?_
  have hk43 := hf.1
  have hn44 := hf.2.1
  refine x_new_b X hf rfl ac_byte (by decide) (by decide) (by decide) d_Circuit_init_75 77 rfl (fun h42 o41 hf => ?_)
  refine x_putF X hf (ci := 0) (j := 14) (ty := (.array .byte)) rfl (by decide) rfl lf_Circuit_37 rfl rfl rfl (by decide +kernel) rfl rfl d_Circuit_init_77 80 rfl (fun h45 hf => ?_)
  refine x_aload_n X (q := 0) d_Circuit_init_80 rfl 81 rfl ?_
  refine x_bipush X (v := 19) d_Circuit_init_81 (by decide) 83 rfl ?_
  have hk48 := hf.1
  have hn49 := hf.2.1
  refine x_new_i X hf rfl ac_int (by decide) (by decide) (by decide) d_Circuit_init_83 85 rfl (fun h47 o46 hf => ?_)
  refine x_putF X hf (ci := 0) (j := 15) (ty := (.array .int)) rfl (by decide) rfl lf_Circuit_40 rfl rfl rfl (by decide +kernel) rfl rfl d_Circuit_init_85 88 rfl (fun h50 hf => ?_)
  exact hret _ _ _ _ _ none hk48 hn49 ⟨rfl, hf⟩ ⟨rfl, d_Circuit_init_88⟩

set_option maxRecDepth 100000 in
def wp_Reader_init (z : Nat → Nat) (mc ms : Nat) (Q : xh → Prop) (a0 : Nat) (a1 : Nat) (hp : xh) : Prop :=
  0 + 1 ≤ mc ∧ 0 + 5 ≤ ms ∧ ∀ o1, hp o1 = none → ∀ h2, h2 = xset hp o1 (.inr (6, xdef 6)) → ∃ mc6 ms7, (0 + 1) + mc6 ≤ mc ∧ (0 + 5) + ms7 ≤ ms ∧ wp_Sorter_init z mc6 ms7 (fun h5 => ∃ h10, pV h5 a0 5 1 (.ref o1) = some h10 ∧ (((0 + 1) + mc6) + 1 ≤ mc ∧ ((0 + 5) + ms7) + 16 ≤ ms ∧ ∀ o11, h10 o11 = none → ∀ h12, h12 = xset h10 o11 (.inr (0, xdef 0)) → ∃ mc16 ms17, (((0 + 1) + mc6) + 1) + mc16 ≤ mc ∧ (((0 + 5) + ms7) + 16) + ms17 ≤ ms ∧ wp_Circuit_init z mc16 ms17 (fun h15 => ∃ h20, pV h15 a0 5 2 (.ref o11) = some h20 ∧ (((((0 + 1) + mc6) + 1) + mc16) + 1 ≤ mc ∧ ((((0 + 5) + ms7) + 16) + ms17) + 5 ≤ ms ∧ ∀ o21, h20 o21 = none → ∀ h22, h22 = xset h20 o21 (.inl (0, 5, .inl (fun _ => 0))) → ∃ h25, pV h22 a0 5 3 (.ref o21) = some h25 ∧ ((((((0 + 1) + mc6) + 1) + mc16) + 1) + 1 ≤ mc ∧ (((((0 + 5) + ms7) + 16) + ms17) + 5) + 314 ≤ ms ∧ ∀ o26, h25 o26 = none → ∀ h27, h27 = xset h25 o26 (.inl (0, 314, .inl (fun _ => 0))) → ∃ h30, pV h27 a0 5 4 (.ref o26) = some h30 ∧ (((((((0 + 1) + mc6) + 1) + mc16) + 1) + 1) + 1 ≤ mc ∧ ((((((0 + 5) + ms7) + 16) + ms17) + 5) + 314) + 314 ≤ ms ∧ ∀ o31, h30 o31 = none → ∀ h32, h32 = xset h30 o31 (.inl (0, 314, .inl (fun _ => 0))) → ∃ h35, pV h32 a0 5 5 (.ref o31) = some h35 ∧ (∃ h36, pV h35 a0 5 12 (.int (-1)) = some h36 ∧ (∃ h37, pV h36 a0 5 0 (.ref a1) = some h37 ∧ Q h37)))))) o11 h12)) o1 h2
set_option maxRecDepth 100000 in
set_option maxHeartbeats 4000000 in
theorem t_Reader_init {l : Launch} {G : xG} {z : Nat → Nat} {mc ms : Nat} {Q : xh → Prop} {a0 : Nat} {a1 : Nat} {hp : xh} (hf : wp_Reader_init z mc ms Q a0 a1 hp) : xM l G z y_Reader_init b_Reader_init 2 none (rm_Reader_init mc ms) [.ref a0, .ref a1] hp (xqv Q) := by
  refine xM_of (by decide) (Nat.le_of_ble_eq_true rfl) (lv0 := [(0, .ref a0), (1, .ref a1)]) rfl ?_
  intro p e s m args below meth c A Qw X hret
  unfold wp_Reader_init at hf
  refine x_aload_n X (q := 0) d_Reader_init_0 rfl 1 rfl ?_
  refine x_objInit X lm_Reader_3 obj_im obj_cd (Nat.le_of_ble_eq_true rfl) (Nat.le_of_ble_eq_true rfl) d_Reader_init_1 4 rfl ?_
  refine x_aload_n X (q := 0) d_Reader_init_4 rfl 5 rfl ?_
  have hk3 := hf.1
  have hn4 := hf.2.1
  refine x_new X hf (ci := 6) rfl lc_Reader_9 it_Sorter in_Sorter d_Reader_init_5 8 rfl (fun h2 o1 hf => ?_)
  refine x_dup X rfl d_Reader_init_8 9 rfl ?_
  obtain ⟨mc6, ms7, hk8, hn9, hf⟩ := hf
  refine x_callINv X (t_Sorter_init hf) lm_Reader_11 im_Sorter_init rfl cd_Sorter_init in_Sorter ds_Sorter_init rfl rfl (Nat.le_of_ble_eq_true rfl) (Nat.le_of_ble_eq_true rfl) (Nat.le_of_ble_eq_true rfl) hk8 hn9 d_Reader_init_9 12 rfl (fun h5 hf => ?_)
  refine x_putF X hf (ci := 5) (j := 1) (ty := (.object "TwinJudge$Sorter")) rfl (by decide) rfl lf_Reader_12 rfl rfl rfl (by decide +kernel) rfl rfl d_Reader_init_12 15 rfl (fun h10 hf => ?_)
  refine x_aload_n X (q := 0) d_Reader_init_15 rfl 16 rfl ?_
  have hk13 := hf.1
  have hn14 := hf.2.1
  refine x_new X hf (ci := 0) rfl lc_Reader_18 it_Circuit in_Circuit d_Reader_init_16 19 rfl (fun h12 o11 hf => ?_)
  refine x_dup X rfl d_Reader_init_19 20 rfl ?_
  obtain ⟨mc16, ms17, hk18, hn19, hf⟩ := hf
  refine x_callINv X (t_Circuit_init hf) lm_Reader_20 im_Circuit_init rfl cd_Circuit_init in_Circuit ds_Circuit_init rfl rfl (Nat.le_of_ble_eq_true rfl) (Nat.le_of_ble_eq_true rfl) (Nat.le_of_ble_eq_true rfl) hk18 hn19 d_Reader_init_20 23 rfl (fun h15 hf => ?_)
  refine x_put X hf (ci := 5) (j := 2) (ty := (.object "TwinJudge$Circuit")) rfl (by decide) rfl lf_Reader_21 rfl (by decide +kernel) rfl rfl d_Reader_init_23 26 rfl (fun h20 hf => ?_)
  refine x_aload_n X (q := 0) d_Reader_init_26 rfl 27 rfl ?_
  refine x_iconst X (v := 5) d_Reader_init_27 (by decide) 28 rfl ?_
  have hk23 := hf.1
  have hn24 := hf.2.1
  refine x_new_i X hf rfl ac_int (by decide) (by decide) (by decide) d_Reader_init_28 30 rfl (fun h22 o21 hf => ?_)
  refine x_putF X hf (ci := 5) (j := 3) (ty := (.array .int)) rfl (by decide) rfl lf_Reader_25 rfl rfl rfl (by decide +kernel) rfl rfl d_Reader_init_30 33 rfl (fun h25 hf => ?_)
  refine x_aload_n X (q := 0) d_Reader_init_33 rfl 34 rfl ?_
  refine x_sipush X (v := 314) d_Reader_init_34 (by decide) 37 rfl ?_
  have hk28 := hf.1
  have hn29 := hf.2.1
  refine x_new_i X hf rfl ac_int (by decide) (by decide) (by decide) d_Reader_init_37 39 rfl (fun h27 o26 hf => ?_)
  refine x_putF X hf (ci := 5) (j := 4) (ty := (.array .int)) rfl (by decide) rfl lf_Reader_29 rfl rfl rfl (by decide +kernel) rfl rfl d_Reader_init_39 42 rfl (fun h30 hf => ?_)
  refine x_aload_n X (q := 0) d_Reader_init_42 rfl 43 rfl ?_
  refine x_sipush X (v := 314) d_Reader_init_43 (by decide) 46 rfl ?_
  have hk33 := hf.1
  have hn34 := hf.2.1
  refine x_new_i X hf rfl ac_int (by decide) (by decide) (by decide) d_Reader_init_46 48 rfl (fun h32 o31 hf => ?_)
  refine x_putF X hf (ci := 5) (j := 5) (ty := (.array .int)) rfl (by decide) rfl lf_Reader_32 rfl rfl rfl (by decide +kernel) rfl rfl d_Reader_init_48 51 rfl (fun h35 hf => ?_)
  refine x_aload_n X (q := 0) d_Reader_init_51 rfl 52 rfl ?_
  refine x_iconst X (v := (-1)) d_Reader_init_52 (by decide) 53 rfl ?_
  refine x_put X hf (ci := 5) (j := 12) (ty := .int) rfl (by decide) rfl lf_Reader_35 rfl (by decide +kernel) rfl rfl d_Reader_init_53 56 rfl (fun h36 hf => ?_)
  refine x_aload_n X (q := 0) d_Reader_init_56 rfl 57 rfl ?_
  refine x_aload_n X (q := 1) d_Reader_init_57 rfl 58 rfl ?_
  refine x_putF X hf (ci := 5) (j := 0) (ty := (.object "TwinJudge$Tape")) rfl (by decide) rfl lf_Reader_39 rfl rfl rfl (by decide +kernel) rfl rfl d_Reader_init_58 61 rfl (fun h37 hf => ?_)
  exact hret _ _ _ _ _ none hk33 hn34 ⟨rfl, hf⟩ ⟨rfl, d_Reader_init_61⟩

set_option maxRecDepth 100000 in
def wp_Player_init (z : Nat → Nat) (mc ms : Nat) (Q : xh → Prop) (a0 : Nat) (a1 : Nat) (hp : xh) : Prop :=
  0 + 1 ≤ mc ∧ 0 + 2 ≤ ms ∧ ∀ o1, hp o1 = none → ∀ h2, h2 = xset hp o1 (.inl (0, 2, .inl (fun _ => 0))) → ∃ h5, pV h2 a0 4 1 (.ref o1) = some h5 ∧ ((0 + 1) + 1 ≤ mc ∧ (0 + 2) + 5 ≤ ms ∧ ∀ o6, h5 o6 = none → ∀ h7, h7 = xset h5 o6 (.inl (0, 5, .inl (fun _ => 0))) → ∃ h10, pV h7 a0 4 2 (.ref o6) = some h10 ∧ (((0 + 1) + 1) + 1 ≤ mc ∧ ((0 + 2) + 5) + 201 ≤ ms ∧ ∀ o11, h10 o11 = none → ∀ h12, h12 = xset h10 o11 (.inl (0, 201, .inl (fun _ => 0))) → ∃ h15, pV h12 a0 4 3 (.ref o11) = some h15 ∧ (∃ h16, pV h15 a0 4 0 (.ref a1) = some h16 ∧ Q h16)))
set_option maxRecDepth 100000 in
set_option maxHeartbeats 4000000 in
theorem t_Player_init {l : Launch} {G : xG} {z : Nat → Nat} {mc ms : Nat} {Q : xh → Prop} {a0 : Nat} {a1 : Nat} {hp : xh} (hf : wp_Player_init z mc ms Q a0 a1 hp) : xM l G z y_Player_init b_Player_init 2 none (rm_Player_init mc ms) [.ref a0, .ref a1] hp (xqv Q) := by
  refine xM_of (by decide) (Nat.le_of_ble_eq_true rfl) (lv0 := [(0, .ref a0), (1, .ref a1)]) rfl ?_
  intro p e s m args below meth c A Qw X hret
  unfold wp_Player_init at hf
  refine x_aload_n X (q := 0) d_Player_init_0 rfl 1 rfl ?_
  refine x_objInit X lm_Player_3 obj_im obj_cd (Nat.le_of_ble_eq_true rfl) (Nat.le_of_ble_eq_true rfl) d_Player_init_1 4 rfl ?_
  refine x_aload_n X (q := 0) d_Player_init_4 rfl 5 rfl ?_
  refine x_iconst X (v := 2) d_Player_init_5 (by decide) 6 rfl ?_
  have hk3 := hf.1
  have hn4 := hf.2.1
  refine x_new_i X hf rfl ac_int (by decide) (by decide) (by decide) d_Player_init_6 8 rfl (fun h2 o1 hf => ?_)
  refine x_putF X hf (ci := 4) (j := 1) (ty := (.array .int)) rfl (by decide) rfl lf_Player_9 rfl rfl rfl (by decide +kernel) rfl rfl d_Player_init_8 11 rfl (fun h5 hf => ?_)
  refine x_aload_n X (q := 0) d_Player_init_11 rfl 12 rfl ?_
  refine x_iconst X (v := 5) d_Player_init_12 (by decide) 13 rfl ?_
  have hk8 := hf.1
  have hn9 := hf.2.1
  refine x_new_i X hf rfl ac_int (by decide) (by decide) (by decide) d_Player_init_13 15 rfl (fun h7 o6 hf => ?_)
  refine x_putF X hf (ci := 4) (j := 2) (ty := (.array .int)) rfl (by decide) rfl lf_Player_15 rfl rfl rfl (by decide +kernel) rfl rfl d_Player_init_15 18 rfl (fun h10 hf => ?_)
  refine x_aload_n X (q := 0) d_Player_init_18 rfl 19 rfl ?_
  refine x_sipush X (v := 201) d_Player_init_19 (by decide) 22 rfl ?_
  have hk13 := hf.1
  have hn14 := hf.2.1
  refine x_new_i X hf rfl ac_int (by decide) (by decide) (by decide) d_Player_init_22 24 rfl (fun h12 o11 hf => ?_)
  refine x_putF X hf (ci := 4) (j := 3) (ty := (.array .int)) rfl (by decide) rfl lf_Player_18 rfl rfl rfl (by decide +kernel) rfl rfl d_Player_init_24 27 rfl (fun h15 hf => ?_)
  refine x_aload_n X (q := 0) d_Player_init_27 rfl 28 rfl ?_
  refine x_aload_n X (q := 1) d_Player_init_28 rfl 29 rfl ?_
  refine x_putF X hf (ci := 4) (j := 0) (ty := (.array (.object "TwinJudge$Circuit"))) rfl (by decide) rfl lf_Player_21 rfl rfl rfl (by decide +kernel) rfl rfl d_Player_init_29 32 rfl (fun h16 hf => ?_)
  exact hret _ _ _ _ _ none hk13 hn14 ⟨rfl, hf⟩ ⟨rfl, d_Player_init_32⟩

set_option maxRecDepth 100000 in
def wp_Judge_init_40_b (z : Nat → Nat) (mc ms : Nat) (Q : xh → Prop)  (k40 : Nat × Int32 × xh × Nat × Nat → Prop) (a0 : Nat) (x1 : Int32) (hp : xh) (kk nn : Nat) : Prop :=
  (2 ≤ x1 → (kk + 1 ≤ mc ∧ nn + 4 ≤ ms ∧ ∀ o1, hp o1 = none → ∀ h2, h2 = xset hp o1 (.inr (4, xdef 4)) → ∃ o5, fR h2 a0 11 2 = some o5 ∧ (∃ mc7 ms8, (kk + 1) + mc7 ≤ mc ∧ (nn + 4) + ms8 ≤ ms ∧ wp_Player_init z mc7 ms8 (fun h6 => ∃ h11, pV h6 a0 11 3 (.ref o1) = some h11 ∧ Q h11) o1 o5 h2))) ∧ (¬ 2 ≤ x1 → (∃ o12, fR hp a0 11 2 = some o12 ∧ (kk + 1 ≤ mc ∧ nn + 16 ≤ ms ∧ ∀ o13, hp o13 = none → ∀ h14, h14 = xset hp o13 (.inr (0, xdef 0)) → ∃ mc18 ms19, (kk + 1) + mc18 ≤ mc ∧ (nn + 16) + ms19 ≤ ms ∧ wp_Circuit_init z mc18 ms19 (fun h17 => xcls h17 o13 0 ∧ ∃ h22, sR h17 o12 5 x1 o13 = some h22 ∧ (k40 (a0, (x1 + 1), h22, ((kk + 1) + mc18), ((nn + 16) + ms19)))) o13 h14)))
set_option maxRecDepth 100000 in
def wp_Judge_init_40 (z : Nat → Nat) (mc ms : Nat) (Q : xh → Prop)  (a0 : Nat) (x1 : Int32) (hp : xh) (kk nn : Nat) : Prop := ∃ f : Nat, xloop (fun k40 a => wp_Judge_init_40_b z mc ms Q  k40 a.1 a.2.1 a.2.2.1 a.2.2.2.1 a.2.2.2.2) f (a0, x1, hp, kk, nn)
set_option maxRecDepth 100000 in
set_option maxHeartbeats 4000000 in
theorem t_Judge_init_40 {p : Program} {l : Launch} {e : Env} {s : State} {m : MethodId} {args : Array Value} {below : List Frame} {meth : Method} {c : Code} {G : xG} {z : Nat → Nat} {A : Nat → Prop} {Qw : State → Prop} {mc ms : Nat} {Q : xh → Prop} {a0 : Nat} {x1 : Int32} {hp : xh} {kk nn : Nat} (X : xX p l e (rm_Judge_init mc ms) s m args below meth c G z A y_Judge_init b_Judge_init 2) (hret : xRet p l e (rm_Judge_init mc ms) s m args below meth c G A 2 Qw b_Judge_init none (xqv Q))  (hkk : kk ≤ mc) (hnn : nn ≤ ms) (hf : wp_Judge_init_40 z mc ms Q  a0 x1 hp kk nn) : xE p l e (rm_Judge_init mc ms) s m args below meth c G A 2 Qw kk nn hp 40 [(0, .ref a0), (1, .int x1)] [] := by
  obtain ⟨f, hf⟩ := hf
  refine xloop_ind (F := fun k40 a => wp_Judge_init_40_b z mc ms Q  k40 a.1 a.2.1 a.2.2.1 a.2.2.2.1 a.2.2.2.2) (E := fun a => a.2.2.2.1 ≤ mc → a.2.2.2.2 ≤ ms → xE p l e (rm_Judge_init mc ms) s m args below meth c G A 2 Qw a.2.2.2.1 a.2.2.2.2 a.2.2.1 40 [(0, .ref (a.1)), (1, .int (a.2.1))] []) ?_ f (a0, x1, hp, kk, nn) hf hkk hnn
  intro k40 hk a hf hkk hnn
  obtain ⟨a0, x1, hp, kk, nn⟩ := a
  have hk40 : ∀ (a0 : Nat) (x1 : Int32) (hp : xh) (kk nn : Nat), k40 (a0, x1, hp, kk, nn) → kk ≤ mc → nn ≤ ms → xE p l e (rm_Judge_init mc ms) s m args below meth c G A 2 Qw kk nn hp 40 [(0, .ref a0), (1, .int x1)] [] := fun a0 x1 hp kk nn h => hk (a0, x1, hp, kk, nn) h
  have hf : wp_Judge_init_40_b z mc ms Q  k40 a0 x1 hp kk nn := hf
  unfold wp_Judge_init_40_b at hf
  refine x_iload_n X (q := 1) d_Judge_init_40 rfl 41 rfl ?_
  refine x_iconst X (v := 2) d_Judge_init_41 (by decide) 42 rfl ?_
  refine x_icmp_ge X hf d_Judge_init_42 64 45 (by decide) rfl (fun hf => ?_) (fun hf => ?_)
  · refine x_aload_n X (q := 0) d_Judge_init_64 rfl 65 rfl ?_
    have hk3 := hf.1
    have hn4 := hf.2.1
    refine x_new X hf (ci := 4) rfl lc_Judge_32 it_Player in_Player d_Judge_init_65 68 rfl (fun h2 o1 hf => ?_)
    refine x_dup X rfl d_Judge_init_68 69 rfl ?_
    refine x_aload_n X (q := 0) d_Judge_init_69 rfl 70 rfl ?_
    refine x_getR X hf (ci := 11) (j := 2) rfl (by decide) rfl lf_Judge_27 d_Judge_init_70 73 rfl (fun o5 hf => ?_)
    obtain ⟨mc7, ms8, hk9, hn10, hf⟩ := hf
    refine x_callIv X (t_Player_init hf) lm_Judge_34 im_Player_init rfl cd_Player_init in_Player ds_Player_init rfl rfl (Nat.le_of_ble_eq_true rfl) (Nat.le_of_ble_eq_true rfl) (Nat.le_of_ble_eq_true rfl) hk9 hn10 d_Judge_init_73 76 rfl (fun h6 hf => ?_)
    refine x_putF X hf (ci := 11) (j := 3) (ty := (.object "TwinJudge$Player")) rfl (by decide) rfl lf_Judge_37 rfl rfl rfl (by decide +kernel) rfl rfl d_Judge_init_76 79 rfl (fun h11 hf => ?_)
    exact hret _ _ _ _ _ none hk9 hn10 ⟨rfl, hf⟩ ⟨rfl, d_Judge_init_79⟩
  · refine x_aload_n X (q := 0) d_Judge_init_45 rfl 46 rfl ?_
    refine x_getR X hf (ci := 11) (j := 2) rfl (by decide) rfl lf_Judge_27 d_Judge_init_46 49 rfl (fun o12 hf => ?_)
    refine x_iload_n X (q := 1) d_Judge_init_49 rfl 50 rfl ?_
    have hk15 := hf.1
    have hn16 := hf.2.1
    refine x_new X hf (ci := 0) rfl lc_Judge_25 it_Circuit in_Circuit d_Judge_init_50 53 rfl (fun h14 o13 hf => ?_)
    refine x_dup X rfl d_Judge_init_53 54 rfl ?_
    obtain ⟨mc18, ms19, hk20, hn21, hf⟩ := hf
    refine x_callINv X (t_Circuit_init hf) lm_Judge_31 im_Circuit_init rfl cd_Circuit_init in_Circuit ds_Circuit_init rfl rfl (Nat.le_of_ble_eq_true rfl) (Nat.le_of_ble_eq_true rfl) (Nat.le_of_ble_eq_true rfl) hk20 hn21 d_Judge_init_54 57 rfl (fun h17 hf => ?_)
    refine x_aast X hf (t := 5) (ci := 0) (by decide) rfl rfl d_Judge_init_57 58 rfl (fun h22 hf => ?_)
    refine x_iinc X (q := 1) (v := (x1 + 1)) (lv' := [(1, .int (x1 + 1)), (0, .ref a0)]) d_Judge_init_58 rfl (by rfl) (by decide) rfl 61 rfl ?_
    refine x_goto X d_Judge_init_61 40 (by decide) ?_
    exact x_sub [1, 0] rfl (hk40 _ _ _ _ _ hf hk20 hn21)
set_option maxRecDepth 100000 in
def wp_Judge_init (z : Nat → Nat) (mc ms : Nat) (Q : xh → Prop) (a0 : Nat) (hp : xh) : Prop :=
  0 + 1 ≤ mc ∧ 0 + 3 ≤ ms ∧ ∀ o1, hp o1 = none → ∀ h2, h2 = xset hp o1 (.inr (8, xdef 8)) → ∃ mc6 ms7, (0 + 1) + mc6 ≤ mc ∧ (0 + 3) + ms7 ≤ ms ∧ wp_Tape_init z mc6 ms7 (fun h5 => ∃ h10, pV h5 a0 11 0 (.ref o1) = some h10 ∧ (((0 + 1) + mc6) + 1 ≤ mc ∧ ((0 + 3) + ms7) + 13 ≤ ms ∧ ∀ o11, h10 o11 = none → ∀ h12, h12 = xset h10 o11 (.inr (5, xdef 5)) → ∃ o15, fR h12 a0 11 0 = some o15 ∧ (∃ mc17 ms18, (((0 + 1) + mc6) + 1) + mc17 ≤ mc ∧ (((0 + 3) + ms7) + 13) + ms18 ≤ ms ∧ wp_Reader_init z mc17 ms18 (fun h16 => ∃ h21, pV h16 a0 11 1 (.ref o11) = some h21 ∧ (((((0 + 1) + mc6) + 1) + mc17) + 1 ≤ mc ∧ ((((0 + 3) + ms7) + 13) + ms18) + 2 ≤ ms ∧ ∀ o22, h21 o22 = none → ∀ h23, h23 = xset h21 o22 (.inl (5, 2, .inr (.inr (.inr (.inr (fun _ => none)))))) → ∃ h26, pV h23 a0 11 2 (.ref o22) = some h26 ∧ (wp_Judge_init_40 z mc ms Q a0 0 h26 (((((0 + 1) + mc6) + 1) + mc17) + 1) (((((0 + 3) + ms7) + 13) + ms18) + 2)))) o11 o15 h12))) o1 h2
set_option maxRecDepth 100000 in
set_option maxHeartbeats 4000000 in
theorem t_Judge_init {l : Launch} {G : xG} {z : Nat → Nat} {mc ms : Nat} {Q : xh → Prop} {a0 : Nat} {hp : xh} (hf : wp_Judge_init z mc ms Q a0 hp) : xM l G z y_Judge_init b_Judge_init 2 none (rm_Judge_init mc ms) [.ref a0] hp (xqv Q) := by
  refine xM_of (by decide) (Nat.le_of_ble_eq_true rfl) (lv0 := [(0, .ref a0)]) rfl ?_
  intro p e s m args below meth c A Qw X hret
  unfold wp_Judge_init at hf
  refine x_aload_n X (q := 0) d_Judge_init_0 rfl 1 rfl ?_
  refine x_objInit X lm_Judge_3 obj_im obj_cd (Nat.le_of_ble_eq_true rfl) (Nat.le_of_ble_eq_true rfl) d_Judge_init_1 4 rfl ?_
  refine x_aload_n X (q := 0) d_Judge_init_4 rfl 5 rfl ?_
  have hk3 := hf.1
  have hn4 := hf.2.1
  refine x_new X hf (ci := 8) rfl lc_Judge_9 it_Tape in_Tape d_Judge_init_5 8 rfl (fun h2 o1 hf => ?_)
  refine x_dup X rfl d_Judge_init_8 9 rfl ?_
  obtain ⟨mc6, ms7, hk8, hn9, hf⟩ := hf
  refine x_callINv X (t_Tape_init hf) lm_Judge_11 im_Tape_init rfl cd_Tape_init in_Tape ds_Tape_init rfl rfl (Nat.le_of_ble_eq_true rfl) (Nat.le_of_ble_eq_true rfl) (Nat.le_of_ble_eq_true rfl) hk8 hn9 d_Judge_init_9 12 rfl (fun h5 hf => ?_)
  refine x_putF X hf (ci := 11) (j := 0) (ty := (.object "TwinJudge$Tape")) rfl (by decide) rfl lf_Judge_12 rfl rfl rfl (by decide +kernel) rfl rfl d_Judge_init_12 15 rfl (fun h10 hf => ?_)
  refine x_aload_n X (q := 0) d_Judge_init_15 rfl 16 rfl ?_
  have hk13 := hf.1
  have hn14 := hf.2.1
  refine x_new X hf (ci := 5) rfl lc_Judge_16 it_Reader in_Reader d_Judge_init_16 19 rfl (fun h12 o11 hf => ?_)
  refine x_dup X rfl d_Judge_init_19 20 rfl ?_
  refine x_aload_n X (q := 0) d_Judge_init_20 rfl 21 rfl ?_
  refine x_getR X hf (ci := 11) (j := 0) rfl (by decide) rfl lf_Judge_12 d_Judge_init_21 24 rfl (fun o15 hf => ?_)
  obtain ⟨mc17, ms18, hk19, hn20, hf⟩ := hf
  refine x_callIv X (t_Reader_init hf) lm_Judge_18 im_Reader_init rfl cd_Reader_init in_Reader ds_Reader_init rfl rfl (Nat.le_of_ble_eq_true rfl) (Nat.le_of_ble_eq_true rfl) (Nat.le_of_ble_eq_true rfl) hk19 hn20 d_Judge_init_24 27 rfl (fun h16 hf => ?_)
  refine x_putF X hf (ci := 11) (j := 1) (ty := (.object "TwinJudge$Reader")) rfl (by decide) rfl lf_Judge_21 rfl rfl rfl (by decide +kernel) rfl rfl d_Judge_init_27 30 rfl (fun h21 hf => ?_)
  refine x_aload_n X (q := 0) d_Judge_init_30 rfl 31 rfl ?_
  refine x_iconst X (v := 2) d_Judge_init_31 (by decide) 32 rfl ?_
  have hk24 := hf.1
  have hn25 := hf.2.1
  refine x_new_q X hf (t := 5) rfl (by decide) lc_Judge_25 rfl (by decide) (by decide) (by decide) d_Judge_init_32 35 rfl (fun h23 o22 hf => ?_)
  refine x_putF X hf (ci := 11) (j := 2) (ty := (.array (.object "TwinJudge$Circuit"))) rfl (by decide) rfl lf_Judge_27 rfl rfl rfl (by decide +kernel) rfl rfl d_Judge_init_35 38 rfl (fun h26 hf => ?_)
  refine x_iconst X (v := 0) d_Judge_init_38 (by decide) 39 rfl ?_
  refine x_istore_n X (lv' := [(1, .int 0), (0, .ref a0)]) d_Judge_init_39 rfl (by decide) rfl 40 rfl ?_
  exact x_sub [1, 0] rfl (t_Judge_init_40 X hret hk24 hn25 hf)

set_option maxRecDepth 100000 in
def wp_Tape_prepare_2_b (z : Nat → Nat) (Q : xh → Prop)  (k2 : Nat × Int32 × Int32 × Int32 × xh → Prop) (a0 : Nat) (x1 : Int32) (x2 : Int32) (x3 : Int32) (hp : xh) : Prop :=
  (4 ≤ x3 → Q hp) ∧ (¬ 4 ≤ x3 → (∃ o1, fR hp a0 8 0 = some o1 ∧ (∃ h2, sI hp o1 1 (x1 + x3) (vp_nar .byte ((x2 >>> ((24 - (8 * x3)) &&& 31)).toInt8.toInt32)) = some h2 ∧ (k2 (a0, x1, x2, (x3 + 1), h2)))))
set_option maxRecDepth 100000 in
def wp_Tape_prepare_2 (z : Nat → Nat) (Q : xh → Prop)  (a0 : Nat) (x1 : Int32) (x2 : Int32) (x3 : Int32) (hp : xh) : Prop := ∃ f : Nat, xloop (fun k2 a => wp_Tape_prepare_2_b z Q  k2 a.1 a.2.1 a.2.2.1 a.2.2.2.1 a.2.2.2.2) f (a0, x1, x2, x3, hp)
set_option maxRecDepth 100000 in
set_option maxHeartbeats 4000000 in
theorem t_Tape_prepare_2 {p : Program} {l : Launch} {e : Env} {s : State} {m : MethodId} {args : Array Value} {below : List Frame} {meth : Method} {c : Code} {G : xG} {z : Nat → Nat} {A : Nat → Prop} {Qw : State → Prop} {Q : xh → Prop} {a0 : Nat} {x1 : Int32} {x2 : Int32} {x3 : Int32} {hp : xh} (X : xX p l e rm_Tape_prepare s m args below meth c G z A y_Tape_prepare b_Tape_prepare 4) (hret : xRet p l e rm_Tape_prepare s m args below meth c G A 4 Qw b_Tape_prepare none (xqv Q))  (hf : wp_Tape_prepare_2 z Q  a0 x1 x2 x3 hp) : xE p l e rm_Tape_prepare s m args below meth c G A 4 Qw 0 0 hp 2 [(0, .ref a0), (1, .int x1), (2, .int x2), (3, .int x3)] [] := by
  obtain ⟨f, hf⟩ := hf
  refine xloop_ind (F := fun k2 a => wp_Tape_prepare_2_b z Q  k2 a.1 a.2.1 a.2.2.1 a.2.2.2.1 a.2.2.2.2) (E := fun a => xE p l e rm_Tape_prepare s m args below meth c G A 4 Qw 0 0 a.2.2.2.2 2 [(0, .ref (a.1)), (1, .int (a.2.1)), (2, .int (a.2.2.1)), (3, .int (a.2.2.2.1))] []) ?_ f (a0, x1, x2, x3, hp) hf
  intro k2 hk a hf
  obtain ⟨a0, x1, x2, x3, hp⟩ := a
  have hk2 : ∀ (a0 : Nat) (x1 : Int32) (x2 : Int32) (x3 : Int32) (hp : xh), k2 (a0, x1, x2, x3, hp) → xE p l e rm_Tape_prepare s m args below meth c G A 4 Qw 0 0 hp 2 [(0, .ref a0), (1, .int x1), (2, .int x2), (3, .int x3)] [] := fun a0 x1 x2 x3 hp h => hk (a0, x1, x2, x3, hp) h
  have hf : wp_Tape_prepare_2_b z Q  k2 a0 x1 x2 x3 hp := hf
  unfold wp_Tape_prepare_2_b at hf
  refine x_iload_n X (q := 3) d_Tape_prepare_2 rfl 3 rfl ?_
  refine x_iconst X (v := 4) d_Tape_prepare_3 (by decide) 4 rfl ?_
  refine x_icmp_ge X hf d_Tape_prepare_4 31 7 (by decide) rfl (fun hf => ?_) (fun hf => ?_)
  · exact hret _ _ _ _ _ none (Nat.le_refl 0) (Nat.le_refl 0) ⟨rfl, hf⟩ ⟨rfl, d_Tape_prepare_31⟩
  · refine x_aload_n X (q := 0) d_Tape_prepare_7 rfl 8 rfl ?_
    refine x_getR X hf (ci := 8) (j := 0) rfl (by decide) rfl lf_Tape_9 d_Tape_prepare_8 11 rfl (fun o1 hf => ?_)
    refine x_iload_n X (q := 1) d_Tape_prepare_11 rfl 12 rfl ?_
    refine x_iload_n X (q := 3) d_Tape_prepare_12 rfl 13 rfl ?_
    refine x_iadd X d_Tape_prepare_13 14 rfl ?_
    refine x_iload_n X (q := 2) d_Tape_prepare_14 rfl 15 rfl ?_
    refine x_bipush X (v := 24) d_Tape_prepare_15 (by decide) 17 rfl ?_
    refine x_bipush X (v := 8) d_Tape_prepare_17 (by decide) 19 rfl ?_
    refine x_iload_n X (q := 3) d_Tape_prepare_19 rfl 20 rfl ?_
    refine x_imul X d_Tape_prepare_20 21 rfl ?_
    refine x_isub X d_Tape_prepare_21 22 rfl ?_
    refine x_ishr X d_Tape_prepare_22 23 rfl ?_
    refine x_i2b X d_Tape_prepare_23 24 rfl ?_
    refine x_bast X hf d_Tape_prepare_24 25 rfl (fun h2 hf => ?_)
    refine x_iinc X (q := 3) (v := (x3 + 1)) (lv' := [(3, .int (x3 + 1)), (0, .ref a0), (1, .int x1), (2, .int x2)]) d_Tape_prepare_25 rfl (by rfl) (by decide) rfl 28 rfl ?_
    refine x_goto X d_Tape_prepare_28 2 (by decide) ?_
    exact x_sub [1, 2, 3, 0] rfl (hk2 _ _ _ _ _ hf)
set_option maxRecDepth 100000 in
def wp_Tape_prepare (z : Nat → Nat) (Q : xh → Prop) (a0 : Nat) (x1 : Int32) (x2 : Int32) (hp : xh) : Prop :=
  wp_Tape_prepare_2 z Q a0 x1 x2 0 hp
set_option maxRecDepth 100000 in
set_option maxHeartbeats 4000000 in
theorem t_Tape_prepare {l : Launch} {G : xG} {z : Nat → Nat} {Q : xh → Prop} {a0 : Nat} {x1 : Int32} {x2 : Int32} {hp : xh} (hf : wp_Tape_prepare z Q a0 x1 x2 hp) : xM l G z y_Tape_prepare b_Tape_prepare 4 none rm_Tape_prepare [.ref a0, .int x1, .int x2] hp (xqv Q) := by
  refine xM_of (by decide) (Nat.le_of_ble_eq_true rfl) (lv0 := [(0, .ref a0), (1, .int x1), (2, .int x2)]) rfl ?_
  intro p e s m args below meth c A Qw X hret
  unfold wp_Tape_prepare at hf
  refine x_iconst X (v := 0) d_Tape_prepare_0 (by decide) 1 rfl ?_
  refine x_istore_n X (lv' := [(3, .int 0), (0, .ref a0), (1, .int x1), (2, .int x2)]) d_Tape_prepare_1 rfl (by decide) rfl 2 rfl ?_
  exact x_sub [1, 2, 3, 0] rfl (t_Tape_prepare_2 X hret hf)

set_option maxRecDepth 100000 in
def wp_Judge_feed (z : Nat → Nat) (Q : xh → Prop) (a0 : Nat) (x1 : Int32) (x2 : Int32) (x3 : Int32) (x4 : Int32) (x5 : Int32) (hp : xh) : Prop :=
  ∃ o1, fR hp a0 11 0 = some o1 ∧ (xcls hp o1 8 ∧ wp_Tape_prepare z (fun h2 => ∃ o3, fR h2 a0 11 0 = some o3 ∧ (xcls h2 o3 8 ∧ wp_Tape_prepare z (fun h4 => ∃ o5, fR h4 a0 11 0 = some o5 ∧ (xcls h4 o5 8 ∧ wp_Tape_prepare z (fun h6 => ∃ o7, fR h6 a0 11 0 = some o7 ∧ (xcls h6 o7 8 ∧ wp_Tape_prepare z (fun h8 => ∃ o9, fR h8 a0 11 0 = some o9 ∧ (xcls h8 o9 8 ∧ wp_Tape_prepare z (fun h10 => Q h10) o9 16 x5 h8)) o7 12 x4 h6)) o5 8 x3 h4)) o3 4 x2 h2)) o1 0 x1 hp)
set_option maxRecDepth 100000 in
set_option maxHeartbeats 4000000 in
theorem t_Judge_feed {l : Launch} {G : xG} {z : Nat → Nat} {Q : xh → Prop} {a0 : Nat} {x1 : Int32} {x2 : Int32} {x3 : Int32} {x4 : Int32} {x5 : Int32} {hp : xh} (hf : wp_Judge_feed z Q a0 x1 x2 x3 x4 x5 hp) : xM l G z y_Judge_feed b_Judge_feed 6 none rm_Judge_feed [.ref a0, .int x1, .int x2, .int x3, .int x4, .int x5] hp (xqv Q) := by
  refine xM_of (by decide) (Nat.le_of_ble_eq_true rfl) (lv0 := [(0, .ref a0), (1, .int x1), (2, .int x2), (3, .int x3), (4, .int x4), (5, .int x5)]) rfl ?_
  intro p e s m args below meth c A Qw X hret
  unfold wp_Judge_feed at hf
  refine x_aload_n X (q := 0) d_Judge_feed_0 rfl 1 rfl ?_
  refine x_getR X hf (ci := 11) (j := 0) rfl (by decide) rfl lf_Judge_12 d_Judge_feed_1 4 rfl (fun o1 hf => ?_)
  refine x_iconst X (v := 0) d_Judge_feed_4 (by decide) 5 rfl ?_
  refine x_iload_n X (q := 1) d_Judge_feed_5 rfl 6 rfl ?_
  refine x_callV0v X (t_Tape_prepare hf.2) hf.1 (ci := 8) rfl rfl lm_Judge_41 im_Tape_prepare sl_Tape_prepare cd_Tape_prepare in_Tape ds_Tape_prepare rfl rfl (Nat.le_of_ble_eq_true rfl) (Nat.le_of_ble_eq_true rfl) (Nat.le_of_ble_eq_true rfl) rfl rfl (Nat.le_refl 0) (Nat.le_refl 0) d_Judge_feed_6 9 rfl (fun h2 hf => ?_)
  refine x_aload_n X (q := 0) d_Judge_feed_9 rfl 10 rfl ?_
  refine x_getR X hf (ci := 11) (j := 0) rfl (by decide) rfl lf_Judge_12 d_Judge_feed_10 13 rfl (fun o3 hf => ?_)
  refine x_iconst X (v := 4) d_Judge_feed_13 (by decide) 14 rfl ?_
  refine x_iload_n X (q := 2) d_Judge_feed_14 rfl 15 rfl ?_
  refine x_callV0v X (t_Tape_prepare hf.2) hf.1 (ci := 8) rfl rfl lm_Judge_41 im_Tape_prepare sl_Tape_prepare cd_Tape_prepare in_Tape ds_Tape_prepare rfl rfl (Nat.le_of_ble_eq_true rfl) (Nat.le_of_ble_eq_true rfl) (Nat.le_of_ble_eq_true rfl) rfl rfl (Nat.le_refl 0) (Nat.le_refl 0) d_Judge_feed_15 18 rfl (fun h4 hf => ?_)
  refine x_aload_n X (q := 0) d_Judge_feed_18 rfl 19 rfl ?_
  refine x_getR X hf (ci := 11) (j := 0) rfl (by decide) rfl lf_Judge_12 d_Judge_feed_19 22 rfl (fun o5 hf => ?_)
  refine x_bipush X (v := 8) d_Judge_feed_22 (by decide) 24 rfl ?_
  refine x_iload_n X (q := 3) d_Judge_feed_24 rfl 25 rfl ?_
  refine x_callV0v X (t_Tape_prepare hf.2) hf.1 (ci := 8) rfl rfl lm_Judge_41 im_Tape_prepare sl_Tape_prepare cd_Tape_prepare in_Tape ds_Tape_prepare rfl rfl (Nat.le_of_ble_eq_true rfl) (Nat.le_of_ble_eq_true rfl) (Nat.le_of_ble_eq_true rfl) rfl rfl (Nat.le_refl 0) (Nat.le_refl 0) d_Judge_feed_25 28 rfl (fun h6 hf => ?_)
  refine x_aload_n X (q := 0) d_Judge_feed_28 rfl 29 rfl ?_
  refine x_getR X hf (ci := 11) (j := 0) rfl (by decide) rfl lf_Judge_12 d_Judge_feed_29 32 rfl (fun o7 hf => ?_)
  refine x_bipush X (v := 12) d_Judge_feed_32 (by decide) 34 rfl ?_
  refine x_iload X (q := 4) d_Judge_feed_34 rfl 36 rfl ?_
  refine x_callV0v X (t_Tape_prepare hf.2) hf.1 (ci := 8) rfl rfl lm_Judge_41 im_Tape_prepare sl_Tape_prepare cd_Tape_prepare in_Tape ds_Tape_prepare rfl rfl (Nat.le_of_ble_eq_true rfl) (Nat.le_of_ble_eq_true rfl) (Nat.le_of_ble_eq_true rfl) rfl rfl (Nat.le_refl 0) (Nat.le_refl 0) d_Judge_feed_36 39 rfl (fun h8 hf => ?_)
  refine x_aload_n X (q := 0) d_Judge_feed_39 rfl 40 rfl ?_
  refine x_getR X hf (ci := 11) (j := 0) rfl (by decide) rfl lf_Judge_12 d_Judge_feed_40 43 rfl (fun o9 hf => ?_)
  refine x_bipush X (v := 16) d_Judge_feed_43 (by decide) 45 rfl ?_
  refine x_iload X (q := 5) d_Judge_feed_45 rfl 47 rfl ?_
  refine x_callV0v X (t_Tape_prepare hf.2) hf.1 (ci := 8) rfl rfl lm_Judge_41 im_Tape_prepare sl_Tape_prepare cd_Tape_prepare in_Tape ds_Tape_prepare rfl rfl (Nat.le_of_ble_eq_true rfl) (Nat.le_of_ble_eq_true rfl) (Nat.le_of_ble_eq_true rfl) rfl rfl (Nat.le_refl 0) (Nat.le_refl 0) d_Judge_feed_47 50 rfl (fun h10 hf => ?_)
  exact hret _ _ _ _ _ none (Nat.le_refl 0) (Nat.le_refl 0) ⟨rfl, hf⟩ ⟨rfl, d_Judge_feed_50⟩

set_option maxRecDepth 100000 in
def wp_Arrays_fill_5_b (z : Nat → Nat) (Q : xh → Prop)  (k5 : Nat × Int32 × Int32 × Int32 × xh → Prop) (a0 : Nat) (x1 : Int32) (x2 : Int32) (x3 : Int32) (hp : xh) : Prop :=
  (x3 ≤ x2 → Q hp) ∧ (¬ x3 ≤ x2 → (∃ h1, sI hp a0 1 x2 (vp_nar .byte x1) = some h1 ∧ (k5 (a0, x1, (x2 + 1), x3, h1))))
set_option maxRecDepth 100000 in
def wp_Arrays_fill_5 (z : Nat → Nat) (Q : xh → Prop)  (a0 : Nat) (x1 : Int32) (x2 : Int32) (x3 : Int32) (hp : xh) : Prop := ∃ f : Nat, xloop (fun k5 a => wp_Arrays_fill_5_b z Q  k5 a.1 a.2.1 a.2.2.1 a.2.2.2.1 a.2.2.2.2) f (a0, x1, x2, x3, hp)
set_option maxRecDepth 100000 in
set_option maxHeartbeats 4000000 in
theorem t_Arrays_fill_5 {p : Program} {l : Launch} {e : Env} {s : State} {m : MethodId} {args : Array Value} {below : List Frame} {meth : Method} {c : Code} {G : xG} {z : Nat → Nat} {A : Nat → Prop} {Qw : State → Prop} {Q : xh → Prop} {a0 : Nat} {x1 : Int32} {x2 : Int32} {x3 : Int32} {hp : xh} (X : xX p l e rm_Arrays_fill s m args below meth c G z A y_Arrays_fill b_Arrays_fill 4) (hret : xRet p l e rm_Arrays_fill s m args below meth c G A 4 Qw b_Arrays_fill none (xqv Q))  (hf : wp_Arrays_fill_5 z Q  a0 x1 x2 x3 hp) : xE p l e rm_Arrays_fill s m args below meth c G A 4 Qw 0 0 hp 5 [(0, .ref a0), (1, .int x1), (2, .int x2), (3, .int x3)] [] := by
  obtain ⟨f, hf⟩ := hf
  refine xloop_ind (F := fun k5 a => wp_Arrays_fill_5_b z Q  k5 a.1 a.2.1 a.2.2.1 a.2.2.2.1 a.2.2.2.2) (E := fun a => xE p l e rm_Arrays_fill s m args below meth c G A 4 Qw 0 0 a.2.2.2.2 5 [(0, .ref (a.1)), (1, .int (a.2.1)), (2, .int (a.2.2.1)), (3, .int (a.2.2.2.1))] []) ?_ f (a0, x1, x2, x3, hp) hf
  intro k5 hk a hf
  obtain ⟨a0, x1, x2, x3, hp⟩ := a
  have hk5 : ∀ (a0 : Nat) (x1 : Int32) (x2 : Int32) (x3 : Int32) (hp : xh), k5 (a0, x1, x2, x3, hp) → xE p l e rm_Arrays_fill s m args below meth c G A 4 Qw 0 0 hp 5 [(0, .ref a0), (1, .int x1), (2, .int x2), (3, .int x3)] [] := fun a0 x1 x2 x3 hp h => hk (a0, x1, x2, x3, hp) h
  have hf : wp_Arrays_fill_5_b z Q  k5 a0 x1 x2 x3 hp := hf
  unfold wp_Arrays_fill_5_b at hf
  refine x_iload_n X (q := 2) d_Arrays_fill_5 rfl 6 rfl ?_
  refine x_iload_n X (q := 3) d_Arrays_fill_6 rfl 7 rfl ?_
  refine x_icmp_ge X hf d_Arrays_fill_7 20 10 (by decide) rfl (fun hf => ?_) (fun hf => ?_)
  · exact hret _ _ _ _ _ none (Nat.le_refl 0) (Nat.le_refl 0) ⟨rfl, hf⟩ ⟨rfl, d_Arrays_fill_20⟩
  · refine x_aload_n X (q := 0) d_Arrays_fill_10 rfl 11 rfl ?_
    refine x_iload_n X (q := 2) d_Arrays_fill_11 rfl 12 rfl ?_
    refine x_iload_n X (q := 1) d_Arrays_fill_12 rfl 13 rfl ?_
    refine x_bast X hf d_Arrays_fill_13 14 rfl (fun h1 hf => ?_)
    refine x_iinc X (q := 2) (v := (x2 + 1)) (lv' := [(2, .int (x2 + 1)), (0, .ref a0), (1, .int x1), (3, .int x3)]) d_Arrays_fill_14 rfl (by rfl) (by decide) rfl 17 rfl ?_
    refine x_goto X d_Arrays_fill_17 5 (by decide) ?_
    exact x_sub [1, 2, 0, 3] rfl (hk5 _ _ _ _ _ hf)
set_option maxRecDepth 100000 in
def wp_Arrays_fill (z : Nat → Nat) (Q : xh → Prop) (a0 : Nat) (x1 : Int32) (hp : xh) : Prop :=
  ∃ n2, aN hp a0 1 = some n2 ∧ ∀ v1, v1 = Int32.ofNat n2 → wp_Arrays_fill_5 z Q a0 x1 0 v1 hp
set_option maxRecDepth 100000 in
set_option maxHeartbeats 4000000 in
theorem t_Arrays_fill {l : Launch} {G : xG} {z : Nat → Nat} {Q : xh → Prop} {a0 : Nat} {x1 : Int32} {hp : xh} (hf : wp_Arrays_fill z Q a0 x1 hp) : xM l G z y_Arrays_fill b_Arrays_fill 4 none rm_Arrays_fill [.ref a0, .int x1] hp (xqv Q) := by
  refine xM_of (by decide) (Nat.le_of_ble_eq_true rfl) (lv0 := [(0, .ref a0), (1, .int x1)]) rfl ?_
  intro p e s m args below meth c A Qw X hret
  unfold wp_Arrays_fill at hf
  refine x_iconst X (v := 0) d_Arrays_fill_0 (by decide) 1 rfl ?_
  refine x_istore_n X (lv' := [(2, .int 0), (0, .ref a0), (1, .int x1)]) d_Arrays_fill_1 rfl (by decide) rfl 2 rfl ?_
  refine x_aload_n X (q := 1) d_Arrays_fill_2 rfl 3 rfl ?_
  refine x_alen X hf (t := 1) rfl d_Arrays_fill_3 4 rfl (fun v1 hf => ?_)
  refine x_istore_n X (lv' := [(3, .int v1), (2, .int 0), (0, .ref a0), (1, .int x1)]) d_Arrays_fill_4 rfl (by decide) rfl 5 rfl ?_
  exact x_sub [2, 3, 1, 0] rfl (t_Arrays_fill_5 X hret hf)

set_option maxRecDepth 100000 in
def wp_Tape_append (z : Nat → Nat) (Q : Int32 → xh → Prop) (a0 : Nat) (x1 : Int32) (hp : xh) : Prop :=
  (x1 < 0 → (Q (-1) hp)) ∧ (¬ x1 < 0 → ((20 < x1 → (Q (-1) hp)) ∧ (¬ 20 < x1 → (∃ v1, fI hp a0 8 2 = some v1 ∧ ((x1 ≤ (6000 - v1) → (∃ o2, fR hp a0 8 0 = some o2 ∧ (∃ o3, fR hp a0 8 1 = some o3 ∧ (∃ v4, fI hp a0 8 2 = some v4 ∧ (∃ h5, xcpB hp o2 0 o3 v4 x1 = some h5 ∧ (∃ v6, fI h5 a0 8 2 = some v6 ∧ (∃ h7, pV h5 a0 8 2 (.int (v6 + x1)) = some h7 ∧ (∃ o8, fR h7 a0 8 0 = some o8 ∧ (wp_Arrays_fill z (fun h9 => ∃ v10, fI h9 a0 8 2 = some v10 ∧ Q v10 h9) o8 0 h7))))))))) ∧ (¬ x1 ≤ (6000 - v1) → (Q (-1) hp)))))))
set_option maxRecDepth 100000 in
set_option maxHeartbeats 4000000 in
theorem t_Tape_append {l : Launch} {G : xG} {z : Nat → Nat} {Q : Int32 → xh → Prop} {a0 : Nat} {x1 : Int32} {hp : xh} (hf : wp_Tape_append z Q a0 x1 hp) : xM l G z y_Tape_append b_Tape_append 2 (some .int) rm_Tape_append [.ref a0, .int x1] hp (xqi Q) := by
  refine xM_of (by decide) (Nat.le_of_ble_eq_true rfl) (lv0 := [(0, .ref a0), (1, .int x1)]) rfl ?_
  intro p e s m args below meth c A Qw X hret
  unfold wp_Tape_append at hf
  refine x_iload_n X (q := 1) d_Tape_append_0 rfl 1 rfl ?_
  refine x_if_lt X hf d_Tape_append_1 22 4 (by decide) rfl (fun hf => ?_) (fun hf => ?_)
  · refine x_iconst X (v := (-1)) d_Tape_append_22 (by decide) 23 rfl ?_
    exact hret _ _ _ _ _ (some (.int (-1))) (Nat.le_refl 0) (Nat.le_refl 0) ⟨_, rfl, hf⟩ ⟨⟨_, rfl, rfl⟩, d_Tape_append_23⟩
  · refine x_iload_n X (q := 1) d_Tape_append_4 rfl 5 rfl ?_
    refine x_bipush X (v := 20) d_Tape_append_5 (by decide) 7 rfl ?_
    refine x_icmp_gt X hf d_Tape_append_7 22 10 (by decide) rfl (fun hf => ?_) (fun hf => ?_)
    · refine x_iconst X (v := (-1)) d_Tape_append_22 (by decide) 23 rfl ?_
      exact hret _ _ _ _ _ (some (.int (-1))) (Nat.le_refl 0) (Nat.le_refl 0) ⟨_, rfl, hf⟩ ⟨⟨_, rfl, rfl⟩, d_Tape_append_23⟩
    · refine x_iload_n X (q := 1) d_Tape_append_10 rfl 11 rfl ?_
      refine x_sipush X (v := 6000) d_Tape_append_11 (by decide) 14 rfl ?_
      refine x_aload_n X (q := 0) d_Tape_append_14 rfl 15 rfl ?_
      refine x_getI X hf (ci := 8) (j := 2) rfl (by decide) rfl lf_Tape_18 d_Tape_append_15 18 rfl (fun v1 hf => ?_)
      refine x_isub X d_Tape_append_18 19 rfl ?_
      refine x_icmp_le X hf d_Tape_append_19 24 22 (by decide) rfl (fun hf => ?_) (fun hf => ?_)
      · refine x_aload_n X (q := 0) d_Tape_append_24 rfl 25 rfl ?_
        refine x_getR X hf (ci := 8) (j := 0) rfl (by decide) rfl lf_Tape_9 d_Tape_append_25 28 rfl (fun o2 hf => ?_)
        refine x_iconst X (v := 0) d_Tape_append_28 (by decide) 29 rfl ?_
        refine x_aload_n X (q := 0) d_Tape_append_29 rfl 30 rfl ?_
        refine x_getR X hf (ci := 8) (j := 1) rfl (by decide) rfl lf_Tape_15 d_Tape_append_30 33 rfl (fun o3 hf => ?_)
        refine x_aload_n X (q := 0) d_Tape_append_33 rfl 34 rfl ?_
        refine x_getI X hf (ci := 8) (j := 2) rfl (by decide) rfl lf_Tape_18 d_Tape_append_34 37 rfl (fun v4 hf => ?_)
        refine x_iload_n X (q := 1) d_Tape_append_37 rfl 38 rfl ?_
        refine x_copyb X hf lm_Tape_22 acp_nat acp_st acp_in (Nat.le_of_ble_eq_true rfl) (Nat.le_of_ble_eq_true rfl) d_Tape_append_38 41 rfl (fun h5 hf => ?_)
        refine x_aload_n X (q := 0) d_Tape_append_41 rfl 42 rfl ?_
        refine x_dup X rfl d_Tape_append_42 43 rfl ?_
        refine x_getI X hf (ci := 8) (j := 2) rfl (by decide) rfl lf_Tape_18 d_Tape_append_43 46 rfl (fun v6 hf => ?_)
        refine x_iload_n X (q := 1) d_Tape_append_46 rfl 47 rfl ?_
        refine x_iadd X d_Tape_append_47 48 rfl ?_
        refine x_put X hf (ci := 8) (j := 2) (ty := .int) rfl (by decide) rfl lf_Tape_18 rfl (by decide +kernel) rfl rfl d_Tape_append_48 51 rfl (fun h7 hf => ?_)
        refine x_aload_n X (q := 0) d_Tape_append_51 rfl 52 rfl ?_
        refine x_getR X hf (ci := 8) (j := 0) rfl (by decide) rfl lf_Tape_9 d_Tape_append_52 55 rfl (fun o8 hf => ?_)
        refine x_iconst X (v := 0) d_Tape_append_55 (by decide) 56 rfl ?_
        refine x_callS0v X (t_Arrays_fill hf) lm_Tape_28 im_Arrays_fill cd_Arrays_fill in_Arrays ds_Arrays_fill rfl rfl (Nat.le_of_ble_eq_true rfl) (Nat.le_of_ble_eq_true rfl) (Nat.le_of_ble_eq_true rfl) rfl rfl (Nat.le_refl 0) (Nat.le_refl 0) d_Tape_append_56 59 rfl (fun h9 hf => ?_)
        refine x_aload_n X (q := 0) d_Tape_append_59 rfl 60 rfl ?_
        refine x_getI X hf (ci := 8) (j := 2) rfl (by decide) rfl lf_Tape_18 d_Tape_append_60 63 rfl (fun v10 hf => ?_)
        exact hret _ _ _ _ _ (some (.int v10)) (Nat.le_refl 0) (Nat.le_refl 0) ⟨_, rfl, hf⟩ ⟨⟨_, rfl, rfl⟩, d_Tape_append_63⟩
      · refine x_iconst X (v := (-1)) d_Tape_append_22 (by decide) 23 rfl ?_
        exact hret _ _ _ _ _ (some (.int (-1))) (Nat.le_refl 0) (Nat.le_refl 0) ⟨_, rfl, hf⟩ ⟨⟨_, rfl, rfl⟩, d_Tape_append_23⟩

set_option maxRecDepth 100000 in
def wp_Judge_end (z : Nat → Nat) (Q : Int32 → xh → Prop) (a0 : Nat) (x1 : Int32) (hp : xh) : Prop :=
  ∃ o1, fR hp a0 11 0 = some o1 ∧ (xcls hp o1 8 ∧ wp_Tape_append z (fun v3 h2 => Q v3 h2) o1 x1 hp)
set_option maxRecDepth 100000 in
set_option maxHeartbeats 4000000 in
theorem t_Judge_end {l : Launch} {G : xG} {z : Nat → Nat} {Q : Int32 → xh → Prop} {a0 : Nat} {x1 : Int32} {hp : xh} (hf : wp_Judge_end z Q a0 x1 hp) : xM l G z y_Judge_end b_Judge_end 2 (some .int) rm_Judge_end [.ref a0, .int x1] hp (xqi Q) := by
  refine xM_of (by decide) (Nat.le_of_ble_eq_true rfl) (lv0 := [(0, .ref a0), (1, .int x1)]) rfl ?_
  intro p e s m args below meth c A Qw X hret
  unfold wp_Judge_end at hf
  refine x_aload_n X (q := 0) d_Judge_end_0 rfl 1 rfl ?_
  refine x_getR X hf (ci := 11) (j := 0) rfl (by decide) rfl lf_Judge_12 d_Judge_end_1 4 rfl (fun o1 hf => ?_)
  refine x_iload_n X (q := 1) d_Judge_end_4 rfl 5 rfl ?_
  refine x_callV0i X (t_Tape_append hf.2) hf.1 (ci := 8) rfl rfl lm_Judge_45 im_Tape_append sl_Tape_append cd_Tape_append in_Tape ds_Tape_append rfl rfl (Nat.le_of_ble_eq_true rfl) (Nat.le_of_ble_eq_true rfl) (Nat.le_of_ble_eq_true rfl) rfl rfl (Nat.le_refl 0) (Nat.le_refl 0) d_Judge_end_5 8 rfl (fun v3 h2 hf => ?_)
  exact hret _ _ _ _ _ (some (.int v3)) (Nat.le_refl 0) (Nat.le_refl 0) ⟨_, rfl, hf⟩ ⟨⟨_, rfl, rfl⟩, d_Judge_end_8⟩

set_option maxRecDepth 100000 in
def wp_Reader_forgetFault (z : Nat → Nat) (Q : xh → Prop) (a0 : Nat) (hp : xh) : Prop :=
  ∃ h1, pV hp a0 5 11 (.int 0) = some h1 ∧ (∃ h2, pV h1 a0 5 12 (.int (-1)) = some h2 ∧ Q h2)
set_option maxRecDepth 100000 in
set_option maxHeartbeats 4000000 in
theorem t_Reader_forgetFault {l : Launch} {G : xG} {z : Nat → Nat} {Q : xh → Prop} {a0 : Nat} {hp : xh} (hf : wp_Reader_forgetFault z Q a0 hp) : xM l G z y_Reader_forgetFault b_Reader_forgetFault 1 none rm_Reader_forgetFault [.ref a0] hp (xqv Q) := by
  refine xM_of (by decide) (Nat.le_of_ble_eq_true rfl) (lv0 := [(0, .ref a0)]) rfl ?_
  intro p e s m args below meth c A Qw X hret
  unfold wp_Reader_forgetFault at hf
  refine x_aload_n X (q := 0) d_Reader_forgetFault_0 rfl 1 rfl ?_
  refine x_iconst X (v := 0) d_Reader_forgetFault_1 (by decide) 2 rfl ?_
  refine x_put X hf (ci := 5) (j := 11) (ty := .int) rfl (by decide) rfl lf_Reader_43 rfl (by decide +kernel) rfl rfl d_Reader_forgetFault_2 5 rfl (fun h1 hf => ?_)
  refine x_aload_n X (q := 0) d_Reader_forgetFault_5 rfl 6 rfl ?_
  refine x_iconst X (v := (-1)) d_Reader_forgetFault_6 (by decide) 7 rfl ?_
  refine x_put X hf (ci := 5) (j := 12) (ty := .int) rfl (by decide) rfl lf_Reader_35 rfl (by decide +kernel) rfl rfl d_Reader_forgetFault_7 10 rfl (fun h2 hf => ?_)
  exact hret _ _ _ _ _ none (Nat.le_refl 0) (Nat.le_refl 0) ⟨rfl, hf⟩ ⟨rfl, d_Reader_forgetFault_10⟩

set_option maxRecDepth 100000 in
def wp_Judge_isCircuit (z : Nat → Nat) (Q : Int32 → xh → Prop) (x0 : Int32) (hp : xh) : Prop :=
  (x0 < 0 → Q 0 hp) ∧ (¬ x0 < 0 → ((2 ≤ x0 → Q 0 hp) ∧ (¬ 2 ≤ x0 → Q 1 hp)))
set_option maxRecDepth 100000 in
set_option maxHeartbeats 4000000 in
theorem t_Judge_isCircuit {l : Launch} {G : xG} {z : Nat → Nat} {Q : Int32 → xh → Prop} {x0 : Int32} {hp : xh} (hf : wp_Judge_isCircuit z Q x0 hp) : xM l G z y_Judge_isCircuit b_Judge_isCircuit 1 (some .boolean) rm_Judge_isCircuit [.int x0] hp (xqz Q) := by
  refine xM_of (by decide) (Nat.le_of_ble_eq_true rfl) (lv0 := [(0, .int x0)]) rfl ?_
  intro p e s m args below meth c A Qw X hret
  unfold wp_Judge_isCircuit at hf
  refine x_iload_n X (q := 0) d_Judge_isCircuit_0 rfl 1 rfl ?_
  refine x_if_lt X hf d_Judge_isCircuit_1 13 4 (by decide) rfl (fun hf => ?_) (fun hf => ?_)
  · refine x_iconst X (v := 0) d_Judge_isCircuit_13 (by decide) 14 rfl ?_
    exact hret _ _ _ _ _ (some (.int 0)) (Nat.le_refl 0) (Nat.le_refl 0) ⟨_, rfl, (Or.inl rfl), hf⟩ ⟨⟨_, rfl, xbl_nar (Or.inl rfl)⟩, d_Judge_isCircuit_14⟩
  · refine x_iload_n X (q := 0) d_Judge_isCircuit_4 rfl 5 rfl ?_
    refine x_iconst X (v := 2) d_Judge_isCircuit_5 (by decide) 6 rfl ?_
    refine x_icmp_ge X hf d_Judge_isCircuit_6 13 9 (by decide) rfl (fun hf => ?_) (fun hf => ?_)
    · refine x_iconst X (v := 0) d_Judge_isCircuit_13 (by decide) 14 rfl ?_
      exact hret _ _ _ _ _ (some (.int 0)) (Nat.le_refl 0) (Nat.le_refl 0) ⟨_, rfl, (Or.inl rfl), hf⟩ ⟨⟨_, rfl, xbl_nar (Or.inl rfl)⟩, d_Judge_isCircuit_14⟩
    · refine x_iconst X (v := 1) d_Judge_isCircuit_9 (by decide) 10 rfl ?_
      refine x_goto X d_Judge_isCircuit_10 14 (by decide) ?_
      exact hret _ _ _ _ _ (some (.int 1)) (Nat.le_refl 0) (Nat.le_refl 0) ⟨_, rfl, (Or.inr rfl), hf⟩ ⟨⟨_, rfl, xbl_nar (Or.inr rfl)⟩, d_Judge_isCircuit_14⟩

set_option maxRecDepth 100000 in
def wp_Arrays_fill1_5_b (z : Nat → Nat) (Q : xh → Prop)  (k5 : Nat × Int32 × Int32 × Int32 × xh → Prop) (a0 : Nat) (x1 : Int32) (x2 : Int32) (x3 : Int32) (hp : xh) : Prop :=
  (x3 ≤ x2 → Q hp) ∧ (¬ x3 ≤ x2 → (∃ h1, sI hp a0 0 x2 x1 = some h1 ∧ (k5 (a0, x1, (x2 + 1), x3, h1))))
set_option maxRecDepth 100000 in
def wp_Arrays_fill1_5 (z : Nat → Nat) (Q : xh → Prop)  (a0 : Nat) (x1 : Int32) (x2 : Int32) (x3 : Int32) (hp : xh) : Prop := ∃ f : Nat, xloop (fun k5 a => wp_Arrays_fill1_5_b z Q  k5 a.1 a.2.1 a.2.2.1 a.2.2.2.1 a.2.2.2.2) f (a0, x1, x2, x3, hp)
set_option maxRecDepth 100000 in
set_option maxHeartbeats 4000000 in
theorem t_Arrays_fill1_5 {p : Program} {l : Launch} {e : Env} {s : State} {m : MethodId} {args : Array Value} {below : List Frame} {meth : Method} {c : Code} {G : xG} {z : Nat → Nat} {A : Nat → Prop} {Qw : State → Prop} {Q : xh → Prop} {a0 : Nat} {x1 : Int32} {x2 : Int32} {x3 : Int32} {hp : xh} (X : xX p l e rm_Arrays_fill1 s m args below meth c G z A y_Arrays_fill1 b_Arrays_fill1 4) (hret : xRet p l e rm_Arrays_fill1 s m args below meth c G A 4 Qw b_Arrays_fill1 none (xqv Q))  (hf : wp_Arrays_fill1_5 z Q  a0 x1 x2 x3 hp) : xE p l e rm_Arrays_fill1 s m args below meth c G A 4 Qw 0 0 hp 5 [(0, .ref a0), (1, .int x1), (2, .int x2), (3, .int x3)] [] := by
  obtain ⟨f, hf⟩ := hf
  refine xloop_ind (F := fun k5 a => wp_Arrays_fill1_5_b z Q  k5 a.1 a.2.1 a.2.2.1 a.2.2.2.1 a.2.2.2.2) (E := fun a => xE p l e rm_Arrays_fill1 s m args below meth c G A 4 Qw 0 0 a.2.2.2.2 5 [(0, .ref (a.1)), (1, .int (a.2.1)), (2, .int (a.2.2.1)), (3, .int (a.2.2.2.1))] []) ?_ f (a0, x1, x2, x3, hp) hf
  intro k5 hk a hf
  obtain ⟨a0, x1, x2, x3, hp⟩ := a
  have hk5 : ∀ (a0 : Nat) (x1 : Int32) (x2 : Int32) (x3 : Int32) (hp : xh), k5 (a0, x1, x2, x3, hp) → xE p l e rm_Arrays_fill1 s m args below meth c G A 4 Qw 0 0 hp 5 [(0, .ref a0), (1, .int x1), (2, .int x2), (3, .int x3)] [] := fun a0 x1 x2 x3 hp h => hk (a0, x1, x2, x3, hp) h
  have hf : wp_Arrays_fill1_5_b z Q  k5 a0 x1 x2 x3 hp := hf
  unfold wp_Arrays_fill1_5_b at hf
  refine x_iload_n X (q := 2) d_Arrays_fill1_5 rfl 6 rfl ?_
  refine x_iload_n X (q := 3) d_Arrays_fill1_6 rfl 7 rfl ?_
  refine x_icmp_ge X hf d_Arrays_fill1_7 20 10 (by decide) rfl (fun hf => ?_) (fun hf => ?_)
  · exact hret _ _ _ _ _ none (Nat.le_refl 0) (Nat.le_refl 0) ⟨rfl, hf⟩ ⟨rfl, d_Arrays_fill1_20⟩
  · refine x_aload_n X (q := 0) d_Arrays_fill1_10 rfl 11 rfl ?_
    refine x_iload_n X (q := 2) d_Arrays_fill1_11 rfl 12 rfl ?_
    refine x_iload_n X (q := 1) d_Arrays_fill1_12 rfl 13 rfl ?_
    refine x_iast X hf d_Arrays_fill1_13 14 rfl (fun h1 hf => ?_)
    refine x_iinc X (q := 2) (v := (x2 + 1)) (lv' := [(2, .int (x2 + 1)), (0, .ref a0), (1, .int x1), (3, .int x3)]) d_Arrays_fill1_14 rfl (by rfl) (by decide) rfl 17 rfl ?_
    refine x_goto X d_Arrays_fill1_17 5 (by decide) ?_
    exact x_sub [1, 2, 0, 3] rfl (hk5 _ _ _ _ _ hf)
set_option maxRecDepth 100000 in
def wp_Arrays_fill1 (z : Nat → Nat) (Q : xh → Prop) (a0 : Nat) (x1 : Int32) (hp : xh) : Prop :=
  ∃ n2, aN hp a0 0 = some n2 ∧ ∀ v1, v1 = Int32.ofNat n2 → wp_Arrays_fill1_5 z Q a0 x1 0 v1 hp
set_option maxRecDepth 100000 in
set_option maxHeartbeats 4000000 in
theorem t_Arrays_fill1 {l : Launch} {G : xG} {z : Nat → Nat} {Q : xh → Prop} {a0 : Nat} {x1 : Int32} {hp : xh} (hf : wp_Arrays_fill1 z Q a0 x1 hp) : xM l G z y_Arrays_fill1 b_Arrays_fill1 4 none rm_Arrays_fill1 [.ref a0, .int x1] hp (xqv Q) := by
  refine xM_of (by decide) (Nat.le_of_ble_eq_true rfl) (lv0 := [(0, .ref a0), (1, .int x1)]) rfl ?_
  intro p e s m args below meth c A Qw X hret
  unfold wp_Arrays_fill1 at hf
  refine x_iconst X (v := 0) d_Arrays_fill1_0 (by decide) 1 rfl ?_
  refine x_istore_n X (lv' := [(2, .int 0), (0, .ref a0), (1, .int x1)]) d_Arrays_fill1_1 rfl (by decide) rfl 2 rfl ?_
  refine x_aload_n X (q := 1) d_Arrays_fill1_2 rfl 3 rfl ?_
  refine x_alen X hf (t := 0) rfl d_Arrays_fill1_3 4 rfl (fun v1 hf => ?_)
  refine x_istore_n X (lv' := [(3, .int v1), (2, .int 0), (0, .ref a0), (1, .int x1)]) d_Arrays_fill1_4 rfl (by decide) rfl 5 rfl ?_
  exact x_sub [2, 3, 1, 0] rfl (t_Arrays_fill1_5 X hret hf)

set_option maxRecDepth 100000 in
def wp_Circuit_clear (z : Nat → Nat) (Q : xh → Prop) (a0 : Nat) (hp : xh) : Prop :=
  ∃ o1, fR hp a0 0 6 = some o1 ∧ (wp_Arrays_fill z (fun h2 => ∃ o3, fR h2 a0 0 15 = some o3 ∧ (wp_Arrays_fill1 z (fun h4 => Q h4) o3 0 h2)) o1 0 hp)
set_option maxRecDepth 100000 in
set_option maxHeartbeats 4000000 in
theorem t_Circuit_clear {l : Launch} {G : xG} {z : Nat → Nat} {Q : xh → Prop} {a0 : Nat} {hp : xh} (hf : wp_Circuit_clear z Q a0 hp) : xM l G z y_Circuit_clear b_Circuit_clear 1 none rm_Circuit_clear [.ref a0] hp (xqv Q) := by
  refine xM_of (by decide) (Nat.le_of_ble_eq_true rfl) (lv0 := [(0, .ref a0)]) rfl ?_
  intro p e s m args below meth c A Qw X hret
  unfold wp_Circuit_clear at hf
  refine x_aload_n X (q := 0) d_Circuit_clear_0 rfl 1 rfl ?_
  refine x_getR X hf (ci := 0) (j := 6) rfl (by decide) rfl lf_Circuit_9 d_Circuit_clear_1 4 rfl (fun o1 hf => ?_)
  refine x_iconst X (v := 0) d_Circuit_clear_4 (by decide) 5 rfl ?_
  refine x_callS0v X (t_Arrays_fill hf) lm_Circuit_43 im_Arrays_fill cd_Arrays_fill in_Arrays ds_Arrays_fill rfl rfl (Nat.le_of_ble_eq_true rfl) (Nat.le_of_ble_eq_true rfl) (Nat.le_of_ble_eq_true rfl) rfl rfl (Nat.le_refl 0) (Nat.le_refl 0) d_Circuit_clear_5 8 rfl (fun h2 hf => ?_)
  refine x_aload_n X (q := 0) d_Circuit_clear_8 rfl 9 rfl ?_
  refine x_getR X hf (ci := 0) (j := 15) rfl (by decide) rfl lf_Circuit_40 d_Circuit_clear_9 12 rfl (fun o3 hf => ?_)
  refine x_iconst X (v := 0) d_Circuit_clear_12 (by decide) 13 rfl ?_
  refine x_callS0v X (t_Arrays_fill1 hf) lm_Circuit_49 im_Arrays_fill1 cd_Arrays_fill1 in_Arrays ds_Arrays_fill1 rfl rfl (Nat.le_of_ble_eq_true rfl) (Nat.le_of_ble_eq_true rfl) (Nat.le_of_ble_eq_true rfl) rfl rfl (Nat.le_refl 0) (Nat.le_refl 0) d_Circuit_clear_13 16 rfl (fun h4 hf => ?_)
  exact hret _ _ _ _ _ none (Nat.le_refl 0) (Nat.le_refl 0) ⟨rfl, hf⟩ ⟨rfl, d_Circuit_clear_16⟩

set_option maxRecDepth 100000 in
def wp_Tape_at (z : Nat → Nat) (Q : Int32 → xh → Prop) (a0 : Nat) (x1 : Int32) (hp : xh) : Prop :=
  (x1 < 0 → (Q (-1) hp)) ∧ (¬ x1 < 0 → (∃ v1, fI hp a0 8 2 = some v1 ∧ ((v1 ≤ x1 → (Q (-1) hp)) ∧ (¬ v1 ≤ x1 → (∃ o2, fR hp a0 8 1 = some o2 ∧ (∃ v3, aI hp o2 1 x1 = some v3 ∧ (Q (v3 &&& 255) hp)))))))
set_option maxRecDepth 100000 in
set_option maxHeartbeats 4000000 in
theorem t_Tape_at {l : Launch} {G : xG} {z : Nat → Nat} {Q : Int32 → xh → Prop} {a0 : Nat} {x1 : Int32} {hp : xh} (hf : wp_Tape_at z Q a0 x1 hp) : xM l G z y_Tape_at b_Tape_at 2 (some .int) rm_Tape_at [.ref a0, .int x1] hp (xqi Q) := by
  refine xM_of (by decide) (Nat.le_of_ble_eq_true rfl) (lv0 := [(0, .ref a0), (1, .int x1)]) rfl ?_
  intro p e s m args below meth c A Qw X hret
  unfold wp_Tape_at at hf
  refine x_iload_n X (q := 1) d_Tape_at_0 rfl 1 rfl ?_
  refine x_if_lt X hf d_Tape_at_1 25 4 (by decide) rfl (fun hf => ?_) (fun hf => ?_)
  · refine x_iconst X (v := (-1)) d_Tape_at_25 (by decide) 26 rfl ?_
    exact hret _ _ _ _ _ (some (.int (-1))) (Nat.le_refl 0) (Nat.le_refl 0) ⟨_, rfl, hf⟩ ⟨⟨_, rfl, rfl⟩, d_Tape_at_26⟩
  · refine x_iload_n X (q := 1) d_Tape_at_4 rfl 5 rfl ?_
    refine x_aload_n X (q := 0) d_Tape_at_5 rfl 6 rfl ?_
    refine x_getI X hf (ci := 8) (j := 2) rfl (by decide) rfl lf_Tape_18 d_Tape_at_6 9 rfl (fun v1 hf => ?_)
    refine x_icmp_ge X hf d_Tape_at_9 25 12 (by decide) rfl (fun hf => ?_) (fun hf => ?_)
    · refine x_iconst X (v := (-1)) d_Tape_at_25 (by decide) 26 rfl ?_
      exact hret _ _ _ _ _ (some (.int (-1))) (Nat.le_refl 0) (Nat.le_refl 0) ⟨_, rfl, hf⟩ ⟨⟨_, rfl, rfl⟩, d_Tape_at_26⟩
    · refine x_aload_n X (q := 0) d_Tape_at_12 rfl 13 rfl ?_
      refine x_getR X hf (ci := 8) (j := 1) rfl (by decide) rfl lf_Tape_15 d_Tape_at_13 16 rfl (fun o2 hf => ?_)
      refine x_iload_n X (q := 1) d_Tape_at_16 rfl 17 rfl ?_
      refine x_bald X hf d_Tape_at_17 18 rfl (fun v3 hf => ?_)
      refine x_sipush X (v := 255) d_Tape_at_18 (by decide) 21 rfl ?_
      refine x_iand X d_Tape_at_21 22 rfl ?_
      refine x_goto X d_Tape_at_22 26 (by decide) ?_
      exact hret _ _ _ _ _ (some (.int (v3 &&& 255))) (Nat.le_refl 0) (Nat.le_refl 0) ⟨_, rfl, hf⟩ ⟨⟨_, rfl, rfl⟩, d_Tape_at_26⟩

set_option maxRecDepth 100000 in
def wp_Reader_fail (z : Nat → Nat) (Q : Int32 → xh → Prop) (a0 : Nat) (x1 : Int32) (x2 : Int32) (hp : xh) : Prop :=
  ∃ h1, pV hp a0 5 11 (.int x1) = some h1 ∧ (∃ h2, pV h1 a0 5 12 (.int x2) = some h2 ∧ Q 0 h2)
set_option maxRecDepth 100000 in
set_option maxHeartbeats 4000000 in
theorem t_Reader_fail {l : Launch} {G : xG} {z : Nat → Nat} {Q : Int32 → xh → Prop} {a0 : Nat} {x1 : Int32} {x2 : Int32} {hp : xh} (hf : wp_Reader_fail z Q a0 x1 x2 hp) : xM l G z y_Reader_fail b_Reader_fail 3 (some .boolean) rm_Reader_fail [.ref a0, .int x1, .int x2] hp (xqz Q) := by
  refine xM_of (by decide) (Nat.le_of_ble_eq_true rfl) (lv0 := [(0, .ref a0), (1, .int x1), (2, .int x2)]) rfl ?_
  intro p e s m args below meth c A Qw X hret
  unfold wp_Reader_fail at hf
  refine x_aload_n X (q := 0) d_Reader_fail_0 rfl 1 rfl ?_
  refine x_iload_n X (q := 1) d_Reader_fail_1 rfl 2 rfl ?_
  refine x_put X hf (ci := 5) (j := 11) (ty := .int) rfl (by decide) rfl lf_Reader_43 rfl (by decide +kernel) rfl rfl d_Reader_fail_2 5 rfl (fun h1 hf => ?_)
  refine x_aload_n X (q := 0) d_Reader_fail_5 rfl 6 rfl ?_
  refine x_iload_n X (q := 2) d_Reader_fail_6 rfl 7 rfl ?_
  refine x_put X hf (ci := 5) (j := 12) (ty := .int) rfl (by decide) rfl lf_Reader_35 rfl (by decide +kernel) rfl rfl d_Reader_fail_7 10 rfl (fun h2 hf => ?_)
  refine x_iconst X (v := 0) d_Reader_fail_10 (by decide) 11 rfl ?_
  exact hret _ _ _ _ _ (some (.int 0)) (Nat.le_refl 0) (Nat.le_refl 0) ⟨_, rfl, (Or.inl rfl), hf⟩ ⟨⟨_, rfl, xbl_nar (Or.inl rfl)⟩, d_Reader_fail_11⟩

set_option maxRecDepth 100000 in
def wp_Reader_pass (z : Nat → Nat) (Q : Int32 → xh → Prop) (a0 : Nat) (x1 : Int32) (hp : xh) : Prop :=
  ∃ o1, fR hp a0 5 0 = some o1 ∧ (∃ v2, fI hp a0 5 8 = some v2 ∧ (xcls hp o1 8 ∧ wp_Tape_at z (fun v4 h3 => (v4 = x1 → (∃ v5, fI h3 a0 5 8 = some v5 ∧ (∃ h6, pV h3 a0 5 8 (.int (v5 + 1)) = some h6 ∧ Q 1 h6))) ∧ (¬ v4 = x1 → (∃ v7, fI h3 a0 5 8 = some v7 ∧ (xcls h3 a0 5 ∧ wp_Reader_fail z (fun v9 h8 => Q v9 h8) a0 1 v7 h3)))) o1 v2 hp))
set_option maxRecDepth 100000 in
set_option maxHeartbeats 4000000 in
theorem t_Reader_pass {l : Launch} {G : xG} {z : Nat → Nat} {Q : Int32 → xh → Prop} {a0 : Nat} {x1 : Int32} {hp : xh} (hf : wp_Reader_pass z Q a0 x1 hp) : xM l G z y_Reader_pass b_Reader_pass 2 (some .boolean) rm_Reader_pass [.ref a0, .int x1] hp (xqz Q) := by
  refine xM_of (by decide) (Nat.le_of_ble_eq_true rfl) (lv0 := [(0, .ref a0), (1, .int x1)]) rfl ?_
  intro p e s m args below meth c A Qw X hret
  unfold wp_Reader_pass at hf
  refine x_aload_n X (q := 0) d_Reader_pass_0 rfl 1 rfl ?_
  refine x_getR X hf (ci := 5) (j := 0) rfl (by decide) rfl lf_Reader_39 d_Reader_pass_1 4 rfl (fun o1 hf => ?_)
  refine x_aload_n X (q := 0) d_Reader_pass_4 rfl 5 rfl ?_
  refine x_getI X hf (ci := 5) (j := 8) rfl (by decide) rfl lf_Reader_46 d_Reader_pass_5 8 rfl (fun v2 hf => ?_)
  refine x_callV0i X (t_Tape_at hf.2) hf.1 (ci := 8) rfl rfl lm_Reader_96 im_Tape_at sl_Tape_at cd_Tape_at in_Tape ds_Tape_at rfl rfl (Nat.le_of_ble_eq_true rfl) (Nat.le_of_ble_eq_true rfl) (Nat.le_of_ble_eq_true rfl) rfl rfl (Nat.le_refl 0) (Nat.le_refl 0) d_Reader_pass_8 11 rfl (fun v4 h3 hf => ?_)
  refine x_iload_n X (q := 1) d_Reader_pass_11 rfl 12 rfl ?_
  refine x_icmp_eq X hf d_Reader_pass_12 25 15 (by decide) rfl (fun hf => ?_) (fun hf => ?_)
  · refine x_aload_n X (q := 0) d_Reader_pass_25 rfl 26 rfl ?_
    refine x_dup X rfl d_Reader_pass_26 27 rfl ?_
    refine x_getI X hf (ci := 5) (j := 8) rfl (by decide) rfl lf_Reader_46 d_Reader_pass_27 30 rfl (fun v5 hf => ?_)
    refine x_iconst X (v := 1) d_Reader_pass_30 (by decide) 31 rfl ?_
    refine x_iadd X d_Reader_pass_31 32 rfl ?_
    refine x_put X hf (ci := 5) (j := 8) (ty := .int) rfl (by decide) rfl lf_Reader_46 rfl (by decide +kernel) rfl rfl d_Reader_pass_32 35 rfl (fun h6 hf => ?_)
    refine x_iconst X (v := 1) d_Reader_pass_35 (by decide) 36 rfl ?_
    exact hret _ _ _ _ _ (some (.int 1)) (Nat.le_refl 0) (Nat.le_refl 0) ⟨_, rfl, (Or.inr rfl), hf⟩ ⟨⟨_, rfl, xbl_nar (Or.inr rfl)⟩, d_Reader_pass_36⟩
  · refine x_aload_n X (q := 0) d_Reader_pass_15 rfl 16 rfl ?_
    refine x_iconst X (v := 1) d_Reader_pass_16 (by decide) 17 rfl ?_
    refine x_aload_n X (q := 0) d_Reader_pass_17 rfl 18 rfl ?_
    refine x_getI X hf (ci := 5) (j := 8) rfl (by decide) rfl lf_Reader_46 d_Reader_pass_18 21 rfl (fun v7 hf => ?_)
    refine x_callV0z X (t_Reader_fail hf.2) hf.1 (ci := 5) rfl rfl lm_Reader_101 im_Reader_fail sl_Reader_fail cd_Reader_fail in_Reader ds_Reader_fail rfl rfl (Nat.le_of_ble_eq_true rfl) (Nat.le_of_ble_eq_true rfl) (Nat.le_of_ble_eq_true rfl) rfl rfl (Nat.le_refl 0) (Nat.le_refl 0) d_Reader_pass_21 24 rfl (fun v9 h8 hb10 hf => ?_)
    exact hret _ _ _ _ _ (some (.int v9)) (Nat.le_refl 0) (Nat.le_refl 0) ⟨_, rfl, hb10, hf⟩ ⟨⟨_, rfl, xbl_nar hb10⟩, d_Reader_pass_24⟩

set_option maxRecDepth 100000 in
def wp_Reader_isDigit (z : Nat → Nat) (Q : Int32 → xh → Prop) (x0 : Int32) (hp : xh) : Prop :=
  (x0 < 48 → Q 0 hp) ∧ (¬ x0 < 48 → ((57 < x0 → Q 0 hp) ∧ (¬ 57 < x0 → Q 1 hp)))
set_option maxRecDepth 100000 in
set_option maxHeartbeats 4000000 in
theorem t_Reader_isDigit {l : Launch} {G : xG} {z : Nat → Nat} {Q : Int32 → xh → Prop} {x0 : Int32} {hp : xh} (hf : wp_Reader_isDigit z Q x0 hp) : xM l G z y_Reader_isDigit b_Reader_isDigit 1 (some .boolean) rm_Reader_isDigit [.int x0] hp (xqz Q) := by
  refine xM_of (by decide) (Nat.le_of_ble_eq_true rfl) (lv0 := [(0, .int x0)]) rfl ?_
  intro p e s m args below meth c A Qw X hret
  unfold wp_Reader_isDigit at hf
  refine x_iload_n X (q := 0) d_Reader_isDigit_0 rfl 1 rfl ?_
  refine x_bipush X (v := 48) d_Reader_isDigit_1 (by decide) 3 rfl ?_
  refine x_icmp_lt X hf d_Reader_isDigit_3 16 6 (by decide) rfl (fun hf => ?_) (fun hf => ?_)
  · refine x_iconst X (v := 0) d_Reader_isDigit_16 (by decide) 17 rfl ?_
    exact hret _ _ _ _ _ (some (.int 0)) (Nat.le_refl 0) (Nat.le_refl 0) ⟨_, rfl, (Or.inl rfl), hf⟩ ⟨⟨_, rfl, xbl_nar (Or.inl rfl)⟩, d_Reader_isDigit_17⟩
  · refine x_iload_n X (q := 0) d_Reader_isDigit_6 rfl 7 rfl ?_
    refine x_bipush X (v := 57) d_Reader_isDigit_7 (by decide) 9 rfl ?_
    refine x_icmp_gt X hf d_Reader_isDigit_9 16 12 (by decide) rfl (fun hf => ?_) (fun hf => ?_)
    · refine x_iconst X (v := 0) d_Reader_isDigit_16 (by decide) 17 rfl ?_
      exact hret _ _ _ _ _ (some (.int 0)) (Nat.le_refl 0) (Nat.le_refl 0) ⟨_, rfl, (Or.inl rfl), hf⟩ ⟨⟨_, rfl, xbl_nar (Or.inl rfl)⟩, d_Reader_isDigit_17⟩
    · refine x_iconst X (v := 1) d_Reader_isDigit_12 (by decide) 13 rfl ?_
      refine x_goto X d_Reader_isDigit_13 17 (by decide) ?_
      exact hret _ _ _ _ _ (some (.int 1)) (Nat.le_refl 0) (Nat.le_refl 0) ⟨_, rfl, (Or.inr rfl), hf⟩ ⟨⟨_, rfl, xbl_nar (Or.inr rfl)⟩, d_Reader_isDigit_17⟩

set_option maxRecDepth 100000 in
def wp_Reader_readNumber_130 (z : Nat → Nat) (Q : Int32 → xh → Prop)   (hp : xh) : Prop :=
  Q 1 hp
set_option maxRecDepth 100000 in
set_option maxHeartbeats 4000000 in
theorem t_Reader_readNumber_130 {p : Program} {l : Launch} {e : Env} {s : State} {m : MethodId} {args : Array Value} {below : List Frame} {meth : Method} {c : Code} {G : xG} {z : Nat → Nat} {A : Nat → Prop} {Qw : State → Prop} {Q : Int32 → xh → Prop}  {hp : xh} (X : xX p l e rm_Reader_readNumber s m args below meth c G z A y_Reader_readNumber b_Reader_readNumber 3) (hret : xRet p l e rm_Reader_readNumber s m args below meth c G A 3 Qw b_Reader_readNumber (some .boolean) (xqz Q))  (hf : wp_Reader_readNumber_130 z Q  hp) : xE p l e rm_Reader_readNumber s m args below meth c G A 3 Qw 0 0 hp 130 [] [] := by
  unfold wp_Reader_readNumber_130 at hf
  refine x_iconst X (v := 1) d_Reader_readNumber_130 (by decide) 131 rfl ?_
  refine x_goto X d_Reader_readNumber_131 135 (by decide) ?_
  exact hret _ _ _ _ _ (some (.int 1)) (Nat.le_refl 0) (Nat.le_refl 0) ⟨_, rfl, (Or.inr rfl), hf⟩ ⟨⟨_, rfl, xbl_nar (Or.inr rfl)⟩, d_Reader_readNumber_135⟩
set_option maxRecDepth 100000 in
def wp_Reader_readNumber_111 (z : Nat → Nat) (Q : Int32 → xh → Prop)  (a0 : Nat) (x1 : Int32) (hp : xh) : Prop :=
  wp_Reader_isDigit z (fun v2 h1 => (v2 = 0 → wp_Reader_readNumber_130 z Q h1) ∧ (¬ v2 = 0 → (∃ v4, fI h1 a0 5 8 = some v4 ∧ (xcls h1 a0 5 ∧ wp_Reader_fail z (fun v6 h5 => (v6 = 0 → Q 0 h5) ∧ (¬ v6 = 0 → wp_Reader_readNumber_130 z Q h5)) a0 1 v4 h1)))) x1 hp
set_option maxRecDepth 100000 in
set_option maxHeartbeats 4000000 in
theorem t_Reader_readNumber_111 {p : Program} {l : Launch} {e : Env} {s : State} {m : MethodId} {args : Array Value} {below : List Frame} {meth : Method} {c : Code} {G : xG} {z : Nat → Nat} {A : Nat → Prop} {Qw : State → Prop} {Q : Int32 → xh → Prop} {a0 : Nat} {x1 : Int32} {hp : xh} (X : xX p l e rm_Reader_readNumber s m args below meth c G z A y_Reader_readNumber b_Reader_readNumber 3) (hret : xRet p l e rm_Reader_readNumber s m args below meth c G A 3 Qw b_Reader_readNumber (some .boolean) (xqz Q))  (hf : wp_Reader_readNumber_111 z Q  a0 x1 hp) : xE p l e rm_Reader_readNumber s m args below meth c G A 3 Qw 0 0 hp 111 [(0, .ref a0), (1, .int x1)] [] := by
  unfold wp_Reader_readNumber_111 at hf
  refine x_iload_n X (q := 1) d_Reader_readNumber_111 rfl 112 rfl ?_
  refine x_callS0z X (t_Reader_isDigit hf) lm_Reader_111 im_Reader_isDigit cd_Reader_isDigit in_Reader ds_Reader_isDigit rfl rfl (Nat.le_of_ble_eq_true rfl) (Nat.le_of_ble_eq_true rfl) (Nat.le_of_ble_eq_true rfl) rfl rfl (Nat.le_refl 0) (Nat.le_refl 0) d_Reader_readNumber_112 115 rfl (fun v2 h1 hb3 hf => ?_)
  refine x_if_eq X hf d_Reader_readNumber_115 130 118 (by decide) rfl (fun hf => ?_) (fun hf => ?_)
  · exact x_sub [] rfl (t_Reader_readNumber_130 X hret hf)
  · refine x_aload_n X (q := 0) d_Reader_readNumber_118 rfl 119 rfl ?_
    refine x_iconst X (v := 1) d_Reader_readNumber_119 (by decide) 120 rfl ?_
    refine x_aload_n X (q := 0) d_Reader_readNumber_120 rfl 121 rfl ?_
    refine x_getI X hf (ci := 5) (j := 8) rfl (by decide) rfl lf_Reader_46 d_Reader_readNumber_121 124 rfl (fun v4 hf => ?_)
    refine x_callV0z X (t_Reader_fail hf.2) hf.1 (ci := 5) rfl rfl lm_Reader_101 im_Reader_fail sl_Reader_fail cd_Reader_fail in_Reader ds_Reader_fail rfl rfl (Nat.le_of_ble_eq_true rfl) (Nat.le_of_ble_eq_true rfl) (Nat.le_of_ble_eq_true rfl) rfl rfl (Nat.le_refl 0) (Nat.le_refl 0) d_Reader_readNumber_124 127 rfl (fun v6 h5 hb7 hf => ?_)
    refine x_if_eq X hf d_Reader_readNumber_127 134 130 (by decide) rfl (fun hf => ?_) (fun hf => ?_)
    · refine x_iconst X (v := 0) d_Reader_readNumber_134 (by decide) 135 rfl ?_
      exact hret _ _ _ _ _ (some (.int 0)) (Nat.le_refl 0) (Nat.le_refl 0) ⟨_, rfl, (Or.inl rfl), hf⟩ ⟨⟨_, rfl, xbl_nar (Or.inl rfl)⟩, d_Reader_readNumber_135⟩
    · exact x_sub [] rfl (t_Reader_readNumber_130 X hret hf)
set_option maxRecDepth 100000 in
def wp_Reader_readNumber_67 (z : Nat → Nat) (Q : Int32 → xh → Prop) (k44 : Nat × Int32 × Int32 × xh → Prop) (a0 : Nat) (x1 : Int32) (x2 : Int32) (hp : xh) : Prop :=
  ∃ v1, fI hp a0 5 9 = some v1 ∧ (∃ h2, pV hp a0 5 9 (.int (((10 * v1) + x1) - 48)) = some h2 ∧ (∃ v3, fI h2 a0 5 8 = some v3 ∧ (∃ h4, pV h2 a0 5 8 (.int (v3 + 1)) = some h4 ∧ (∃ o5, fR h4 a0 5 0 = some o5 ∧ (∃ v6, fI h4 a0 5 8 = some v6 ∧ (xcls h4 o5 8 ∧ wp_Tape_at z (fun v8 h7 => k44 (a0, v8, (x2 + 1), h7)) o5 v6 h4))))))
set_option maxRecDepth 100000 in
set_option maxHeartbeats 4000000 in
theorem t_Reader_readNumber_67 {p : Program} {l : Launch} {e : Env} {s : State} {m : MethodId} {args : Array Value} {below : List Frame} {meth : Method} {c : Code} {G : xG} {z : Nat → Nat} {A : Nat → Prop} {Qw : State → Prop} {Q : Int32 → xh → Prop} {k44 : Nat × Int32 × Int32 × xh → Prop} {a0 : Nat} {x1 : Int32} {x2 : Int32} {hp : xh} (X : xX p l e rm_Reader_readNumber s m args below meth c G z A y_Reader_readNumber b_Reader_readNumber 3) (hret : xRet p l e rm_Reader_readNumber s m args below meth c G A 3 Qw b_Reader_readNumber (some .boolean) (xqz Q)) (hk44 : ∀ (a0 : Nat) (x1 : Int32) (x2 : Int32) (hp : xh), k44 (a0, x1, x2, hp) → xE p l e rm_Reader_readNumber s m args below meth c G A 3 Qw 0 0 hp 44 [(0, .ref a0), (1, .int x1), (2, .int x2)] []) (hf : wp_Reader_readNumber_67 z Q k44 a0 x1 x2 hp) : xE p l e rm_Reader_readNumber s m args below meth c G A 3 Qw 0 0 hp 67 [(0, .ref a0), (1, .int x1), (2, .int x2)] [] := by
  unfold wp_Reader_readNumber_67 at hf
  refine x_aload_n X (q := 0) d_Reader_readNumber_67 rfl 68 rfl ?_
  refine x_bipush X (v := 10) d_Reader_readNumber_68 (by decide) 70 rfl ?_
  refine x_aload_n X (q := 0) d_Reader_readNumber_70 rfl 71 rfl ?_
  refine x_getI X hf (ci := 5) (j := 9) rfl (by decide) rfl lf_Reader_108 d_Reader_readNumber_71 74 rfl (fun v1 hf => ?_)
  refine x_imul X d_Reader_readNumber_74 75 rfl ?_
  refine x_iload_n X (q := 1) d_Reader_readNumber_75 rfl 76 rfl ?_
  refine x_iadd X d_Reader_readNumber_76 77 rfl ?_
  refine x_bipush X (v := 48) d_Reader_readNumber_77 (by decide) 79 rfl ?_
  refine x_isub X d_Reader_readNumber_79 80 rfl ?_
  refine x_put X hf (ci := 5) (j := 9) (ty := .int) rfl (by decide) rfl lf_Reader_108 rfl (by decide +kernel) rfl rfl d_Reader_readNumber_80 83 rfl (fun h2 hf => ?_)
  refine x_aload_n X (q := 0) d_Reader_readNumber_83 rfl 84 rfl ?_
  refine x_dup X rfl d_Reader_readNumber_84 85 rfl ?_
  refine x_getI X hf (ci := 5) (j := 8) rfl (by decide) rfl lf_Reader_46 d_Reader_readNumber_85 88 rfl (fun v3 hf => ?_)
  refine x_iconst X (v := 1) d_Reader_readNumber_88 (by decide) 89 rfl ?_
  refine x_iadd X d_Reader_readNumber_89 90 rfl ?_
  refine x_put X hf (ci := 5) (j := 8) (ty := .int) rfl (by decide) rfl lf_Reader_46 rfl (by decide +kernel) rfl rfl d_Reader_readNumber_90 93 rfl (fun h4 hf => ?_)
  refine x_aload_n X (q := 0) d_Reader_readNumber_93 rfl 94 rfl ?_
  refine x_getR X hf (ci := 5) (j := 0) rfl (by decide) rfl lf_Reader_39 d_Reader_readNumber_94 97 rfl (fun o5 hf => ?_)
  refine x_aload_n X (q := 0) d_Reader_readNumber_97 rfl 98 rfl ?_
  refine x_getI X hf (ci := 5) (j := 8) rfl (by decide) rfl lf_Reader_46 d_Reader_readNumber_98 101 rfl (fun v6 hf => ?_)
  refine x_callV0i X (t_Tape_at hf.2) hf.1 (ci := 8) rfl rfl lm_Reader_96 im_Tape_at sl_Tape_at cd_Tape_at in_Tape ds_Tape_at rfl rfl (Nat.le_of_ble_eq_true rfl) (Nat.le_of_ble_eq_true rfl) (Nat.le_of_ble_eq_true rfl) rfl rfl (Nat.le_refl 0) (Nat.le_refl 0) d_Reader_readNumber_101 104 rfl (fun v8 h7 hf => ?_)
  refine x_istore_n X (lv' := [(1, .int v8), (0, .ref a0), (2, .int x2)]) d_Reader_readNumber_104 rfl (by decide) rfl 105 rfl ?_
  refine x_iinc X (q := 2) (v := (x2 + 1)) (lv' := [(2, .int (x2 + 1)), (1, .int v8), (0, .ref a0)]) d_Reader_readNumber_105 rfl (by rfl) (by decide) rfl 108 rfl ?_
  refine x_goto X d_Reader_readNumber_108 44 (by decide) ?_
  exact x_sub [2, 1, 0] rfl (hk44 _ _ _ _ hf)
set_option maxRecDepth 100000 in
def wp_Reader_readNumber_44_b (z : Nat → Nat) (Q : Int32 → xh → Prop)  (k44 : Nat × Int32 × Int32 × xh → Prop) (a0 : Nat) (x1 : Int32) (x2 : Int32) (hp : xh) : Prop :=
  (4 ≤ x2 → wp_Reader_readNumber_111 z Q a0 x1 hp) ∧ (¬ 4 ≤ x2 → (wp_Reader_isDigit z (fun v2 h1 => (v2 = 0 → wp_Reader_readNumber_111 z Q a0 x1 h1) ∧ (¬ v2 = 0 → ((x2 = 0 → wp_Reader_readNumber_67 z Q k44 a0 x1 x2 h1) ∧ (¬ x2 = 0 → (∃ v4, fI h1 a0 5 9 = some v4 ∧ ((v4 ≤ 0 → wp_Reader_readNumber_111 z Q a0 x1 h1) ∧ (¬ v4 ≤ 0 → wp_Reader_readNumber_67 z Q k44 a0 x1 x2 h1))))))) x1 hp))
set_option maxRecDepth 100000 in
def wp_Reader_readNumber_44 (z : Nat → Nat) (Q : Int32 → xh → Prop)  (a0 : Nat) (x1 : Int32) (x2 : Int32) (hp : xh) : Prop := ∃ f : Nat, xloop (fun k44 a => wp_Reader_readNumber_44_b z Q  k44 a.1 a.2.1 a.2.2.1 a.2.2.2) f (a0, x1, x2, hp)
set_option maxRecDepth 100000 in
set_option maxHeartbeats 4000000 in
theorem t_Reader_readNumber_44 {p : Program} {l : Launch} {e : Env} {s : State} {m : MethodId} {args : Array Value} {below : List Frame} {meth : Method} {c : Code} {G : xG} {z : Nat → Nat} {A : Nat → Prop} {Qw : State → Prop} {Q : Int32 → xh → Prop} {a0 : Nat} {x1 : Int32} {x2 : Int32} {hp : xh} (X : xX p l e rm_Reader_readNumber s m args below meth c G z A y_Reader_readNumber b_Reader_readNumber 3) (hret : xRet p l e rm_Reader_readNumber s m args below meth c G A 3 Qw b_Reader_readNumber (some .boolean) (xqz Q))  (hf : wp_Reader_readNumber_44 z Q  a0 x1 x2 hp) : xE p l e rm_Reader_readNumber s m args below meth c G A 3 Qw 0 0 hp 44 [(0, .ref a0), (1, .int x1), (2, .int x2)] [] := by
  obtain ⟨f, hf⟩ := hf
  refine xloop_ind (F := fun k44 a => wp_Reader_readNumber_44_b z Q  k44 a.1 a.2.1 a.2.2.1 a.2.2.2) (E := fun a => xE p l e rm_Reader_readNumber s m args below meth c G A 3 Qw 0 0 a.2.2.2 44 [(0, .ref (a.1)), (1, .int (a.2.1)), (2, .int (a.2.2.1))] []) ?_ f (a0, x1, x2, hp) hf
  intro k44 hk a hf
  obtain ⟨a0, x1, x2, hp⟩ := a
  have hk44 : ∀ (a0 : Nat) (x1 : Int32) (x2 : Int32) (hp : xh), k44 (a0, x1, x2, hp) → xE p l e rm_Reader_readNumber s m args below meth c G A 3 Qw 0 0 hp 44 [(0, .ref a0), (1, .int x1), (2, .int x2)] [] := fun a0 x1 x2 hp h => hk (a0, x1, x2, hp) h
  have hf : wp_Reader_readNumber_44_b z Q  k44 a0 x1 x2 hp := hf
  unfold wp_Reader_readNumber_44_b at hf
  refine x_iload_n X (q := 2) d_Reader_readNumber_44 rfl 45 rfl ?_
  refine x_iconst X (v := 4) d_Reader_readNumber_45 (by decide) 46 rfl ?_
  refine x_icmp_ge X hf d_Reader_readNumber_46 111 49 (by decide) rfl (fun hf => ?_) (fun hf => ?_)
  · exact x_sub [0, 1] rfl (t_Reader_readNumber_111 X hret hf)
  · refine x_iload_n X (q := 1) d_Reader_readNumber_49 rfl 50 rfl ?_
    refine x_callS0z X (t_Reader_isDigit hf) lm_Reader_111 im_Reader_isDigit cd_Reader_isDigit in_Reader ds_Reader_isDigit rfl rfl (Nat.le_of_ble_eq_true rfl) (Nat.le_of_ble_eq_true rfl) (Nat.le_of_ble_eq_true rfl) rfl rfl (Nat.le_refl 0) (Nat.le_refl 0) d_Reader_readNumber_50 53 rfl (fun v2 h1 hb3 hf => ?_)
    refine x_if_eq X hf d_Reader_readNumber_53 111 56 (by decide) rfl (fun hf => ?_) (fun hf => ?_)
    · exact x_sub [0, 1] rfl (t_Reader_readNumber_111 X hret hf)
    · refine x_iload_n X (q := 2) d_Reader_readNumber_56 rfl 57 rfl ?_
      refine x_if_eq X hf d_Reader_readNumber_57 67 60 (by decide) rfl (fun hf => ?_) (fun hf => ?_)
      · exact x_sub [0, 1, 2] rfl (t_Reader_readNumber_67 X hret hk44 hf)
      · refine x_aload_n X (q := 0) d_Reader_readNumber_60 rfl 61 rfl ?_
        refine x_getI X hf (ci := 5) (j := 9) rfl (by decide) rfl lf_Reader_108 d_Reader_readNumber_61 64 rfl (fun v4 hf => ?_)
        refine x_if_le X hf d_Reader_readNumber_64 111 67 (by decide) rfl (fun hf => ?_) (fun hf => ?_)
        · exact x_sub [0, 1] rfl (t_Reader_readNumber_111 X hret hf)
        · exact x_sub [0, 1, 2] rfl (t_Reader_readNumber_67 X hret hk44 hf)
set_option maxRecDepth 100000 in
def wp_Reader_readNumber (z : Nat → Nat) (Q : Int32 → xh → Prop) (a0 : Nat) (hp : xh) : Prop :=
  ∃ v1, fI hp a0 5 8 = some v1 ∧ (∃ h2, pV hp a0 5 10 (.int v1) = some h2 ∧ (∃ h3, pV h2 a0 5 9 (.int 0) = some h3 ∧ (∃ o4, fR h3 a0 5 0 = some o4 ∧ (∃ v5, fI h3 a0 5 8 = some v5 ∧ (xcls h3 o4 8 ∧ wp_Tape_at z (fun v7 h6 => wp_Reader_isDigit z (fun v9 h8 => (¬ v9 = 0 → wp_Reader_readNumber_44 z Q a0 v7 0 h8) ∧ (v9 = 0 → (∃ v11, fI h8 a0 5 8 = some v11 ∧ (xcls h8 a0 5 ∧ wp_Reader_fail z (fun v13 h12 => Q v13 h12) a0 1 v11 h8)))) v7 h6) o4 v5 h3)))))
set_option maxRecDepth 100000 in
set_option maxHeartbeats 4000000 in
theorem t_Reader_readNumber {l : Launch} {G : xG} {z : Nat → Nat} {Q : Int32 → xh → Prop} {a0 : Nat} {hp : xh} (hf : wp_Reader_readNumber z Q a0 hp) : xM l G z y_Reader_readNumber b_Reader_readNumber 3 (some .boolean) rm_Reader_readNumber [.ref a0] hp (xqz Q) := by
  refine xM_of (by decide) (Nat.le_of_ble_eq_true rfl) (lv0 := [(0, .ref a0)]) rfl ?_
  intro p e s m args below meth c A Qw X hret
  unfold wp_Reader_readNumber at hf
  refine x_aload_n X (q := 0) d_Reader_readNumber_0 rfl 1 rfl ?_
  refine x_aload_n X (q := 0) d_Reader_readNumber_1 rfl 2 rfl ?_
  refine x_getI X hf (ci := 5) (j := 8) rfl (by decide) rfl lf_Reader_46 d_Reader_readNumber_2 5 rfl (fun v1 hf => ?_)
  refine x_put X hf (ci := 5) (j := 10) (ty := .int) rfl (by decide) rfl lf_Reader_105 rfl (by decide +kernel) rfl rfl d_Reader_readNumber_5 8 rfl (fun h2 hf => ?_)
  refine x_aload_n X (q := 0) d_Reader_readNumber_8 rfl 9 rfl ?_
  refine x_iconst X (v := 0) d_Reader_readNumber_9 (by decide) 10 rfl ?_
  refine x_put X hf (ci := 5) (j := 9) (ty := .int) rfl (by decide) rfl lf_Reader_108 rfl (by decide +kernel) rfl rfl d_Reader_readNumber_10 13 rfl (fun h3 hf => ?_)
  refine x_aload_n X (q := 0) d_Reader_readNumber_13 rfl 14 rfl ?_
  refine x_getR X hf (ci := 5) (j := 0) rfl (by decide) rfl lf_Reader_39 d_Reader_readNumber_14 17 rfl (fun o4 hf => ?_)
  refine x_aload_n X (q := 0) d_Reader_readNumber_17 rfl 18 rfl ?_
  refine x_getI X hf (ci := 5) (j := 8) rfl (by decide) rfl lf_Reader_46 d_Reader_readNumber_18 21 rfl (fun v5 hf => ?_)
  refine x_callV0i X (t_Tape_at hf.2) hf.1 (ci := 8) rfl rfl lm_Reader_96 im_Tape_at sl_Tape_at cd_Tape_at in_Tape ds_Tape_at rfl rfl (Nat.le_of_ble_eq_true rfl) (Nat.le_of_ble_eq_true rfl) (Nat.le_of_ble_eq_true rfl) rfl rfl (Nat.le_refl 0) (Nat.le_refl 0) d_Reader_readNumber_21 24 rfl (fun v7 h6 hf => ?_)
  refine x_istore_n X (lv' := [(1, .int v7), (0, .ref a0)]) d_Reader_readNumber_24 rfl (by decide) rfl 25 rfl ?_
  refine x_iload_n X (q := 0) d_Reader_readNumber_25 rfl 26 rfl ?_
  refine x_callS0z X (t_Reader_isDigit hf) lm_Reader_111 im_Reader_isDigit cd_Reader_isDigit in_Reader ds_Reader_isDigit rfl rfl (Nat.le_of_ble_eq_true rfl) (Nat.le_of_ble_eq_true rfl) (Nat.le_of_ble_eq_true rfl) rfl rfl (Nat.le_refl 0) (Nat.le_refl 0) d_Reader_readNumber_26 29 rfl (fun v9 h8 hb10 hf => ?_)
  refine x_if_ne X hf d_Reader_readNumber_29 42 32 (by decide) rfl (fun hf => ?_) (fun hf => ?_)
  · refine x_iconst X (v := 0) d_Reader_readNumber_42 (by decide) 43 rfl ?_
    refine x_istore_n X (lv' := [(2, .int 0), (1, .int v7), (0, .ref a0)]) d_Reader_readNumber_43 rfl (by decide) rfl 44 rfl ?_
    exact x_sub [2, 1, 0] rfl (t_Reader_readNumber_44 X hret hf)
  · refine x_aload_n X (q := 1) d_Reader_readNumber_32 rfl 33 rfl ?_
    refine x_iconst X (v := 1) d_Reader_readNumber_33 (by decide) 34 rfl ?_
    refine x_aload_n X (q := 1) d_Reader_readNumber_34 rfl 35 rfl ?_
    refine x_getI X hf (ci := 5) (j := 8) rfl (by decide) rfl lf_Reader_46 d_Reader_readNumber_35 38 rfl (fun v11 hf => ?_)
    refine x_callV0z X (t_Reader_fail hf.2) hf.1 (ci := 5) rfl rfl lm_Reader_101 im_Reader_fail sl_Reader_fail cd_Reader_fail in_Reader ds_Reader_fail rfl rfl (Nat.le_of_ble_eq_true rfl) (Nat.le_of_ble_eq_true rfl) (Nat.le_of_ble_eq_true rfl) rfl rfl (Nat.le_refl 0) (Nat.le_refl 0) d_Reader_readNumber_38 41 rfl (fun v13 h12 hb14 hf => ?_)
    exact hret _ _ _ _ _ (some (.int v13)) (Nat.le_refl 0) (Nat.le_refl 0) ⟨_, rfl, hb14, hf⟩ ⟨⟨_, rfl, xbl_nar hb14⟩, d_Reader_readNumber_41⟩

set_option maxRecDepth 100000 in
def wp_Reader_readHeader_70_b (z : Nat → Nat) (Q : Int32 → xh → Prop)  (k70 : Nat × Int32 × xh → Prop) (a0 : Nat) (x1 : Int32) (hp : xh) : Prop :=
  ∃ o1, fR hp a0 5 3 = some o1 ∧ (∃ n3, aN hp o1 0 = some n3 ∧ ∀ v2, v2 = Int32.ofNat n3 → (v2 ≤ x1 → (xcls hp a0 5 ∧ wp_Reader_pass z (fun v5 h4 => Q v5 h4) a0 10 hp)) ∧ (¬ v2 ≤ x1 → (xcls hp a0 5 ∧ wp_Reader_pass z (fun v8 h7 => (v8 = 0 → Q 0 h7) ∧ (¬ v8 = 0 → (xcls h7 a0 5 ∧ wp_Reader_readNumber z (fun v11 h10 => (¬ v11 = 0 → (∃ o13, fR h10 a0 5 3 = some o13 ∧ (∃ v14, fI h10 a0 5 9 = some v14 ∧ (∃ h15, sI h10 o13 0 x1 v14 = some h15 ∧ (k70 (a0, (x1 + 1), h15)))))) ∧ (v11 = 0 → Q 0 h10)) a0 h7))) a0 32 hp)))
set_option maxRecDepth 100000 in
def wp_Reader_readHeader_70 (z : Nat → Nat) (Q : Int32 → xh → Prop)  (a0 : Nat) (x1 : Int32) (hp : xh) : Prop := ∃ f : Nat, xloop (fun k70 a => wp_Reader_readHeader_70_b z Q  k70 a.1 a.2.1 a.2.2) f (a0, x1, hp)
set_option maxRecDepth 100000 in
set_option maxHeartbeats 4000000 in
theorem t_Reader_readHeader_70 {p : Program} {l : Launch} {e : Env} {s : State} {m : MethodId} {args : Array Value} {below : List Frame} {meth : Method} {c : Code} {G : xG} {z : Nat → Nat} {A : Nat → Prop} {Qw : State → Prop} {Q : Int32 → xh → Prop} {a0 : Nat} {x1 : Int32} {hp : xh} (X : xX p l e rm_Reader_readHeader s m args below meth c G z A y_Reader_readHeader b_Reader_readHeader 2) (hret : xRet p l e rm_Reader_readHeader s m args below meth c G A 2 Qw b_Reader_readHeader (some .boolean) (xqz Q))  (hf : wp_Reader_readHeader_70 z Q  a0 x1 hp) : xE p l e rm_Reader_readHeader s m args below meth c G A 2 Qw 0 0 hp 70 [(0, .ref a0), (1, .int x1)] [] := by
  obtain ⟨f, hf⟩ := hf
  refine xloop_ind (F := fun k70 a => wp_Reader_readHeader_70_b z Q  k70 a.1 a.2.1 a.2.2) (E := fun a => xE p l e rm_Reader_readHeader s m args below meth c G A 2 Qw 0 0 a.2.2 70 [(0, .ref (a.1)), (1, .int (a.2.1))] []) ?_ f (a0, x1, hp) hf
  intro k70 hk a hf
  obtain ⟨a0, x1, hp⟩ := a
  have hk70 : ∀ (a0 : Nat) (x1 : Int32) (hp : xh), k70 (a0, x1, hp) → xE p l e rm_Reader_readHeader s m args below meth c G A 2 Qw 0 0 hp 70 [(0, .ref a0), (1, .int x1)] [] := fun a0 x1 hp h => hk (a0, x1, hp) h
  have hf : wp_Reader_readHeader_70_b z Q  k70 a0 x1 hp := hf
  unfold wp_Reader_readHeader_70_b at hf
  refine x_iload_n X (q := 1) d_Reader_readHeader_70 rfl 71 rfl ?_
  refine x_aload_n X (q := 0) d_Reader_readHeader_71 rfl 72 rfl ?_
  refine x_getR X hf (ci := 5) (j := 3) rfl (by decide) rfl lf_Reader_25 d_Reader_readHeader_72 75 rfl (fun o1 hf => ?_)
  refine x_alen X hf (t := 0) rfl d_Reader_readHeader_75 76 rfl (fun v2 hf => ?_)
  refine x_icmp_ge X hf d_Reader_readHeader_76 113 79 (by decide) rfl (fun hf => ?_) (fun hf => ?_)
  · refine x_aload_n X (q := 0) d_Reader_readHeader_113 rfl 114 rfl ?_
    refine x_bipush X (v := 10) d_Reader_readHeader_114 (by decide) 116 rfl ?_
    refine x_callV0z X (t_Reader_pass hf.2) hf.1 (ci := 5) rfl rfl lm_Reader_115 im_Reader_pass sl_Reader_pass cd_Reader_pass in_Reader ds_Reader_pass rfl rfl (Nat.le_of_ble_eq_true rfl) (Nat.le_of_ble_eq_true rfl) (Nat.le_of_ble_eq_true rfl) rfl rfl (Nat.le_refl 0) (Nat.le_refl 0) d_Reader_readHeader_116 119 rfl (fun v5 h4 hb6 hf => ?_)
    exact hret _ _ _ _ _ (some (.int v5)) (Nat.le_refl 0) (Nat.le_refl 0) ⟨_, rfl, hb6, hf⟩ ⟨⟨_, rfl, xbl_nar hb6⟩, d_Reader_readHeader_119⟩
  · refine x_aload_n X (q := 0) d_Reader_readHeader_79 rfl 80 rfl ?_
    refine x_bipush X (v := 32) d_Reader_readHeader_80 (by decide) 82 rfl ?_
    refine x_callV0z X (t_Reader_pass hf.2) hf.1 (ci := 5) rfl rfl lm_Reader_115 im_Reader_pass sl_Reader_pass cd_Reader_pass in_Reader ds_Reader_pass rfl rfl (Nat.le_of_ble_eq_true rfl) (Nat.le_of_ble_eq_true rfl) (Nat.le_of_ble_eq_true rfl) rfl rfl (Nat.le_refl 0) (Nat.le_refl 0) d_Reader_readHeader_82 85 rfl (fun v8 h7 hb9 hf => ?_)
    refine x_if_eq X hf d_Reader_readHeader_85 95 88 (by decide) rfl (fun hf => ?_) (fun hf => ?_)
    · refine x_iconst X (v := 0) d_Reader_readHeader_95 (by decide) 96 rfl ?_
      exact hret _ _ _ _ _ (some (.int 0)) (Nat.le_refl 0) (Nat.le_refl 0) ⟨_, rfl, (Or.inl rfl), hf⟩ ⟨⟨_, rfl, xbl_nar (Or.inl rfl)⟩, d_Reader_readHeader_96⟩
    · refine x_aload_n X (q := 0) d_Reader_readHeader_88 rfl 89 rfl ?_
      refine x_callV0z X (t_Reader_readNumber hf.2) hf.1 (ci := 5) rfl rfl lm_Reader_118 im_Reader_readNumber sl_Reader_readNumber cd_Reader_readNumber in_Reader ds_Reader_readNumber rfl rfl (Nat.le_of_ble_eq_true rfl) (Nat.le_of_ble_eq_true rfl) (Nat.le_of_ble_eq_true rfl) rfl rfl (Nat.le_refl 0) (Nat.le_refl 0) d_Reader_readHeader_89 92 rfl (fun v11 h10 hb12 hf => ?_)
      refine x_if_ne X hf d_Reader_readHeader_92 97 95 (by decide) rfl (fun hf => ?_) (fun hf => ?_)
      · refine x_aload_n X (q := 0) d_Reader_readHeader_97 rfl 98 rfl ?_
        refine x_getR X hf (ci := 5) (j := 3) rfl (by decide) rfl lf_Reader_25 d_Reader_readHeader_98 101 rfl (fun o13 hf => ?_)
        refine x_iload_n X (q := 1) d_Reader_readHeader_101 rfl 102 rfl ?_
        refine x_aload_n X (q := 0) d_Reader_readHeader_102 rfl 103 rfl ?_
        refine x_getI X hf (ci := 5) (j := 9) rfl (by decide) rfl lf_Reader_108 d_Reader_readHeader_103 106 rfl (fun v14 hf => ?_)
        refine x_iast X hf d_Reader_readHeader_106 107 rfl (fun h15 hf => ?_)
        refine x_iinc X (q := 1) (v := (x1 + 1)) (lv' := [(1, .int (x1 + 1)), (0, .ref a0)]) d_Reader_readHeader_107 rfl (by rfl) (by decide) rfl 110 rfl ?_
        refine x_goto X d_Reader_readHeader_110 70 (by decide) ?_
        exact x_sub [1, 0] rfl (hk70 _ _ _ hf)
      · refine x_iconst X (v := 0) d_Reader_readHeader_95 (by decide) 96 rfl ?_
        exact hret _ _ _ _ _ (some (.int 0)) (Nat.le_refl 0) (Nat.le_refl 0) ⟨_, rfl, (Or.inl rfl), hf⟩ ⟨⟨_, rfl, xbl_nar (Or.inl rfl)⟩, d_Reader_readHeader_96⟩
set_option maxRecDepth 100000 in
def wp_Reader_readHeader_51 (z : Nat → Nat) (Q : Int32 → xh → Prop)  (a0 : Nat) (s1 : Int32) (s0 : Nat) (hp : xh) : Prop :=
  xcls hp s0 5 ∧ wp_Reader_pass z (fun v2 h1 => (v2 = 0 → Q 0 h1) ∧ (¬ v2 = 0 → (xcls h1 a0 5 ∧ wp_Reader_pass z (fun v5 h4 => (¬ v5 = 0 → wp_Reader_readHeader_70 z Q a0 0 h4) ∧ (v5 = 0 → Q 0 h4)) a0 103 h1))) s0 s1 hp
set_option maxRecDepth 100000 in
set_option maxHeartbeats 4000000 in
theorem t_Reader_readHeader_51 {p : Program} {l : Launch} {e : Env} {s : State} {m : MethodId} {args : Array Value} {below : List Frame} {meth : Method} {c : Code} {G : xG} {z : Nat → Nat} {A : Nat → Prop} {Qw : State → Prop} {Q : Int32 → xh → Prop} {a0 : Nat} {s1 : Int32} {s0 : Nat} {hp : xh} (X : xX p l e rm_Reader_readHeader s m args below meth c G z A y_Reader_readHeader b_Reader_readHeader 2) (hret : xRet p l e rm_Reader_readHeader s m args below meth c G A 2 Qw b_Reader_readHeader (some .boolean) (xqz Q))  (hf : wp_Reader_readHeader_51 z Q  a0 s1 s0 hp) : xE p l e rm_Reader_readHeader s m args below meth c G A 2 Qw 0 0 hp 51 [(0, .ref a0)] [.int s1, .ref s0] := by
  unfold wp_Reader_readHeader_51 at hf
  refine x_callV0z X (t_Reader_pass hf.2) hf.1 (ci := 5) rfl rfl lm_Reader_115 im_Reader_pass sl_Reader_pass cd_Reader_pass in_Reader ds_Reader_pass rfl rfl (Nat.le_of_ble_eq_true rfl) (Nat.le_of_ble_eq_true rfl) (Nat.le_of_ble_eq_true rfl) rfl rfl (Nat.le_refl 0) (Nat.le_refl 0) d_Reader_readHeader_51 54 rfl (fun v2 h1 hb3 hf => ?_)
  refine x_if_eq X hf d_Reader_readHeader_54 66 57 (by decide) rfl (fun hf => ?_) (fun hf => ?_)
  · refine x_iconst X (v := 0) d_Reader_readHeader_66 (by decide) 67 rfl ?_
    exact hret _ _ _ _ _ (some (.int 0)) (Nat.le_refl 0) (Nat.le_refl 0) ⟨_, rfl, (Or.inl rfl), hf⟩ ⟨⟨_, rfl, xbl_nar (Or.inl rfl)⟩, d_Reader_readHeader_67⟩
  · refine x_aload_n X (q := 0) d_Reader_readHeader_57 rfl 58 rfl ?_
    refine x_bipush X (v := 103) d_Reader_readHeader_58 (by decide) 60 rfl ?_
    refine x_callV0z X (t_Reader_pass hf.2) hf.1 (ci := 5) rfl rfl lm_Reader_115 im_Reader_pass sl_Reader_pass cd_Reader_pass in_Reader ds_Reader_pass rfl rfl (Nat.le_of_ble_eq_true rfl) (Nat.le_of_ble_eq_true rfl) (Nat.le_of_ble_eq_true rfl) rfl rfl (Nat.le_refl 0) (Nat.le_refl 0) d_Reader_readHeader_60 63 rfl (fun v5 h4 hb6 hf => ?_)
    refine x_if_ne X hf d_Reader_readHeader_63 68 66 (by decide) rfl (fun hf => ?_) (fun hf => ?_)
    · refine x_iconst X (v := 0) d_Reader_readHeader_68 (by decide) 69 rfl ?_
      refine x_istore_n X (lv' := [(1, .int 0), (0, .ref a0)]) d_Reader_readHeader_69 rfl (by decide) rfl 70 rfl ?_
      exact x_sub [1, 0] rfl (t_Reader_readHeader_70 X hret hf)
    · refine x_iconst X (v := 0) d_Reader_readHeader_66 (by decide) 67 rfl ?_
      exact hret _ _ _ _ _ (some (.int 0)) (Nat.le_refl 0) (Nat.le_refl 0) ⟨_, rfl, (Or.inl rfl), hf⟩ ⟨⟨_, rfl, xbl_nar (Or.inl rfl)⟩, d_Reader_readHeader_67⟩
set_option maxRecDepth 100000 in
def wp_Reader_readHeader_33 (z : Nat → Nat) (Q : Int32 → xh → Prop)  (a0 : Nat) (s1 : Int32) (s0 : Nat) (hp : xh) : Prop :=
  xbl s1 ∧ ∃ h1, pV hp s0 5 7 (.int s1) = some h1 ∧ (∃ v2, fI h1 a0 5 7 = some v2 ∧ ((v2 = 0 → wp_Reader_readHeader_51 z Q a0 97 a0 h1) ∧ (¬ v2 = 0 → wp_Reader_readHeader_51 z Q a0 105 a0 h1)))
set_option maxRecDepth 100000 in
set_option maxHeartbeats 4000000 in
theorem t_Reader_readHeader_33 {p : Program} {l : Launch} {e : Env} {s : State} {m : MethodId} {args : Array Value} {below : List Frame} {meth : Method} {c : Code} {G : xG} {z : Nat → Nat} {A : Nat → Prop} {Qw : State → Prop} {Q : Int32 → xh → Prop} {a0 : Nat} {s1 : Int32} {s0 : Nat} {hp : xh} (X : xX p l e rm_Reader_readHeader s m args below meth c G z A y_Reader_readHeader b_Reader_readHeader 2) (hret : xRet p l e rm_Reader_readHeader s m args below meth c G A 2 Qw b_Reader_readHeader (some .boolean) (xqz Q))  (hf : wp_Reader_readHeader_33 z Q  a0 s1 s0 hp) : xE p l e rm_Reader_readHeader s m args below meth c G A 2 Qw 0 0 hp 33 [(0, .ref a0)] [.int s1, .ref s0] := by
  unfold wp_Reader_readHeader_33 at hf
  obtain ⟨hb, hf⟩ := hf
  refine x_put X hf (ci := 5) (j := 7) (ty := .boolean) rfl (by decide) rfl lf_Reader_62 rfl (by decide +kernel) (xbl_nar hb) (xbl_fit hb) d_Reader_readHeader_33 36 rfl (fun h1 hf => ?_)
  refine x_aload_n X (q := 0) d_Reader_readHeader_36 rfl 37 rfl ?_
  refine x_aload_n X (q := 0) d_Reader_readHeader_37 rfl 38 rfl ?_
  refine x_getI X hf (ci := 5) (j := 7) rfl (by decide) rfl lf_Reader_62 d_Reader_readHeader_38 41 rfl (fun v2 hf => ?_)
  refine x_if_eq X hf d_Reader_readHeader_41 49 44 (by decide) rfl (fun hf => ?_) (fun hf => ?_)
  · refine x_bipush X (v := 97) d_Reader_readHeader_49 (by decide) 51 rfl ?_
    exact x_sub [0] rfl (t_Reader_readHeader_51 X hret hf)
  · refine x_bipush X (v := 105) d_Reader_readHeader_44 (by decide) 46 rfl ?_
    refine x_goto X d_Reader_readHeader_46 51 (by decide) ?_
    exact x_sub [0] rfl (t_Reader_readHeader_51 X hret hf)
set_option maxRecDepth 100000 in
def wp_Reader_readHeader (z : Nat → Nat) (Q : Int32 → xh → Prop) (a0 : Nat) (hp : xh) : Prop :=
  xcls hp a0 5 ∧ wp_Reader_pass z (fun v2 h1 => (¬ v2 = 0 → (∃ o4, fR h1 a0 5 0 = some o4 ∧ (∃ v5, fI h1 a0 5 8 = some v5 ∧ (xcls h1 o4 8 ∧ wp_Tape_at z (fun v7 h6 => (¬ v7 = 105 → wp_Reader_readHeader_33 z Q a0 0 a0 h6) ∧ (v7 = 105 → wp_Reader_readHeader_33 z Q a0 1 a0 h6)) o4 v5 h1)))) ∧ (v2 = 0 → Q 0 h1)) a0 97 hp
set_option maxRecDepth 100000 in
set_option maxHeartbeats 4000000 in
theorem t_Reader_readHeader {l : Launch} {G : xG} {z : Nat → Nat} {Q : Int32 → xh → Prop} {a0 : Nat} {hp : xh} (hf : wp_Reader_readHeader z Q a0 hp) : xM l G z y_Reader_readHeader b_Reader_readHeader 2 (some .boolean) rm_Reader_readHeader [.ref a0] hp (xqz Q) := by
  refine xM_of (by decide) (Nat.le_of_ble_eq_true rfl) (lv0 := [(0, .ref a0)]) rfl ?_
  intro p e s m args below meth c A Qw X hret
  unfold wp_Reader_readHeader at hf
  refine x_aload_n X (q := 0) d_Reader_readHeader_0 rfl 1 rfl ?_
  refine x_bipush X (v := 97) d_Reader_readHeader_1 (by decide) 3 rfl ?_
  refine x_callV0z X (t_Reader_pass hf.2) hf.1 (ci := 5) rfl rfl lm_Reader_115 im_Reader_pass sl_Reader_pass cd_Reader_pass in_Reader ds_Reader_pass rfl rfl (Nat.le_of_ble_eq_true rfl) (Nat.le_of_ble_eq_true rfl) (Nat.le_of_ble_eq_true rfl) rfl rfl (Nat.le_refl 0) (Nat.le_refl 0) d_Reader_readHeader_3 6 rfl (fun v2 h1 hb3 hf => ?_)
  refine x_if_ne X hf d_Reader_readHeader_6 11 9 (by decide) rfl (fun hf => ?_) (fun hf => ?_)
  · refine x_aload_n X (q := 0) d_Reader_readHeader_11 rfl 12 rfl ?_
    refine x_aload_n X (q := 0) d_Reader_readHeader_12 rfl 13 rfl ?_
    refine x_getR X hf (ci := 5) (j := 0) rfl (by decide) rfl lf_Reader_39 d_Reader_readHeader_13 16 rfl (fun o4 hf => ?_)
    refine x_aload_n X (q := 0) d_Reader_readHeader_16 rfl 17 rfl ?_
    refine x_getI X hf (ci := 5) (j := 8) rfl (by decide) rfl lf_Reader_46 d_Reader_readHeader_17 20 rfl (fun v5 hf => ?_)
    refine x_callV0i X (t_Tape_at hf.2) hf.1 (ci := 8) rfl rfl lm_Reader_96 im_Tape_at sl_Tape_at cd_Tape_at in_Tape ds_Tape_at rfl rfl (Nat.le_of_ble_eq_true rfl) (Nat.le_of_ble_eq_true rfl) (Nat.le_of_ble_eq_true rfl) rfl rfl (Nat.le_refl 0) (Nat.le_refl 0) d_Reader_readHeader_20 23 rfl (fun v7 h6 hf => ?_)
    refine x_bipush X (v := 105) d_Reader_readHeader_23 (by decide) 25 rfl ?_
    refine x_icmp_ne X hf d_Reader_readHeader_25 32 28 (by decide) rfl (fun hf => ?_) (fun hf => ?_)
    · refine x_iconst X (v := 0) d_Reader_readHeader_32 (by decide) 33 rfl ?_
      exact x_sub [0] rfl (t_Reader_readHeader_33 X hret hf)
    · refine x_iconst X (v := 1) d_Reader_readHeader_28 (by decide) 29 rfl ?_
      refine x_goto X d_Reader_readHeader_29 33 (by decide) ?_
      exact x_sub [0] rfl (t_Reader_readHeader_33 X hret hf)
  · refine x_iconst X (v := 0) d_Reader_readHeader_9 (by decide) 10 rfl ?_
    exact hret _ _ _ _ _ (some (.int 0)) (Nat.le_refl 0) (Nat.le_refl 0) ⟨_, rfl, (Or.inl rfl), hf⟩ ⟨⟨_, rfl, xbl_nar (Or.inl rfl)⟩, d_Reader_readHeader_10⟩

