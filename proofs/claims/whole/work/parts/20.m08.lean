set_option maxRecDepth 100000 in
def wp_Model_thrown (z : Nat → Nat) (Q : Int32 → xh → Prop) (a0 : Nat) (hp : xh) : Prop :=
  ∃ v1, fI hp a0 12 0 = some v1 ∧ Q v1 hp
set_option maxRecDepth 100000 in
set_option maxHeartbeats 4000000 in
theorem t_Model_thrown {l : Launch} {G : xG} {z : Nat → Nat} {Q : Int32 → xh → Prop} {a0 : Nat} {hp : xh} (hf : wp_Model_thrown z Q a0 hp) : xM l G z y_Model_thrown b_Model_thrown 1 (some .int) rm_Model_thrown [.ref a0] hp (xqi Q) := by
  refine xM_of (by decide) (Nat.le_of_ble_eq_true rfl) (lv0 := [(0, .ref a0)]) rfl ?_
  intro p e s m args below meth c A Qw X hret
  unfold wp_Model_thrown at hf
  refine x_aload_n X (q := 0) d_Model_thrown_0 rfl 1 rfl ?_
  refine x_getI X hf (ci := 12) (j := 0) rfl (by decide) rfl lf_Model_127 d_Model_thrown_1 4 rfl (fun v1 hf => ?_)
  exact hret _ _ _ _ _ (some (.int v1)) (Nat.le_refl 0) (Nat.le_refl 0) ⟨_, rfl, hf⟩ ⟨⟨_, rfl, rfl⟩, d_Model_thrown_4⟩

set_option maxRecDepth 100000 in
def wp_Model_fails_16 (z : Nat → Nat) (Q : Int32 → xh → Prop)  (a0 : Nat) (hp : xh) : Prop :=
  ∃ v1, fI hp a0 12 0 = some v1 ∧ ((v1 = 0 → Q 0 hp) ∧ (¬ v1 = 0 → Q 1 hp))
set_option maxRecDepth 100000 in
set_option maxHeartbeats 4000000 in
theorem t_Model_fails_16 {p : Program} {l : Launch} {e : Env} {s : State} {m : MethodId} {args : Array Value} {below : List Frame} {meth : Method} {c : Code} {G : xG} {z : Nat → Nat} {A : Nat → Prop} {Qw : State → Prop} {Q : Int32 → xh → Prop} {a0 : Nat} {hp : xh} (X : xX p l e rm_Model_fails s m args below meth c G z A y_Model_fails b_Model_fails 3) (hret : xRet p l e rm_Model_fails s m args below meth c G A 3 Qw b_Model_fails (some .boolean) (xqz Q))  (hf : wp_Model_fails_16 z Q  a0 hp) : xE p l e rm_Model_fails s m args below meth c G A 3 Qw 0 0 hp 16 [(0, .ref a0)] [] := by
  unfold wp_Model_fails_16 at hf
  refine x_aload_n X (q := 0) d_Model_fails_16 rfl 17 rfl ?_
  refine x_getI X hf (ci := 12) (j := 0) rfl (by decide) rfl lf_Model_127 d_Model_fails_17 20 rfl (fun v1 hf => ?_)
  refine x_if_eq X hf d_Model_fails_20 27 23 (by decide) rfl (fun hf => ?_) (fun hf => ?_)
  · refine x_iconst X (v := 0) d_Model_fails_27 (by decide) 28 rfl ?_
    exact hret _ _ _ _ _ (some (.int 0)) (Nat.le_refl 0) (Nat.le_refl 0) ⟨_, rfl, (Or.inl rfl), hf⟩ ⟨⟨_, rfl, xbl_nar (Or.inl rfl)⟩, d_Model_fails_28⟩
  · refine x_iconst X (v := 1) d_Model_fails_23 (by decide) 24 rfl ?_
    refine x_goto X d_Model_fails_24 28 (by decide) ?_
    exact hret _ _ _ _ _ (some (.int 1)) (Nat.le_refl 0) (Nat.le_refl 0) ⟨_, rfl, (Or.inr rfl), hf⟩ ⟨⟨_, rfl, xbl_nar (Or.inr rfl)⟩, d_Model_fails_28⟩
set_option maxRecDepth 100000 in
def wp_Model_fails (z : Nat → Nat) (Q : Int32 → xh → Prop) (a0 : Nat) (x1 : Int32) (x2 : Int32) (hp : xh) : Prop :=
  (x1 = 0 → wp_Model_fails_16 z Q a0 hp) ∧ (¬ x1 = 0 → (∃ v1, fI hp a0 12 0 = some v1 ∧ ((¬ v1 = 0 → wp_Model_fails_16 z Q a0 hp) ∧ (v1 = 0 → (∃ h2, pV hp a0 12 0 (.int x2) = some h2 ∧ wp_Model_fails_16 z Q a0 h2)))))
set_option maxRecDepth 100000 in
set_option maxHeartbeats 4000000 in
theorem t_Model_fails {l : Launch} {G : xG} {z : Nat → Nat} {Q : Int32 → xh → Prop} {a0 : Nat} {x1 : Int32} {x2 : Int32} {hp : xh} (hf : wp_Model_fails z Q a0 x1 x2 hp) : xM l G z y_Model_fails b_Model_fails 3 (some .boolean) rm_Model_fails [.ref a0, .int x1, .int x2] hp (xqz Q) := by
  refine xM_of (by decide) (Nat.le_of_ble_eq_true rfl) (lv0 := [(0, .ref a0), (1, .int x1), (2, .int x2)]) rfl ?_
  intro p e s m args below meth c A Qw X hret
  unfold wp_Model_fails at hf
  refine x_iload_n X (q := 1) d_Model_fails_0 rfl 1 rfl ?_
  refine x_if_eq X hf d_Model_fails_1 16 4 (by decide) rfl (fun hf => ?_) (fun hf => ?_)
  · exact x_sub [0] rfl (t_Model_fails_16 X hret hf)
  · refine x_aload_n X (q := 0) d_Model_fails_4 rfl 5 rfl ?_
    refine x_getI X hf (ci := 12) (j := 0) rfl (by decide) rfl lf_Model_127 d_Model_fails_5 8 rfl (fun v1 hf => ?_)
    refine x_if_ne X hf d_Model_fails_8 16 11 (by decide) rfl (fun hf => ?_) (fun hf => ?_)
    · exact x_sub [0] rfl (t_Model_fails_16 X hret hf)
    · refine x_aload_n X (q := 0) d_Model_fails_11 rfl 12 rfl ?_
      refine x_iload_n X (q := 2) d_Model_fails_12 rfl 13 rfl ?_
      refine x_put X hf (ci := 12) (j := 0) (ty := .int) rfl (by decide) rfl lf_Model_127 rfl (by decide +kernel) rfl rfl d_Model_fails_13 16 rfl (fun h2 hf => ?_)
      exact x_sub [0] rfl (t_Model_fails_16 X hret hf)

set_option maxRecDepth 100000 in
def wp_Model_feed_61 (z : Nat → Nat) (Q : xh → Prop) (k8 : Nat × Int32 × Int32 × Int32 × Int32 × Int32 × Int32 × xh → Prop) (a0 : Nat) (x1 : Int32) (x2 : Int32) (x3 : Int32) (x4 : Int32) (x5 : Int32) (x6 : Int32) (s0 : Int32) (hp : xh) : Prop :=
  ∃ o1, fR hp a0 12 2 = some o1 ∧ (∃ h2, sI hp o1 1 x6 (vp_nar .byte ((s0 >>> ((24 - (8 * (x6 - x6 / 4 * 4))) &&& 31)).toInt8.toInt32)) = some h2 ∧ (k8 (a0, x1, x2, x3, x4, x5, (x6 + 1), h2)))
set_option maxRecDepth 100000 in
set_option maxHeartbeats 4000000 in
theorem t_Model_feed_61 {p : Program} {l : Launch} {e : Env} {s : State} {m : MethodId} {args : Array Value} {below : List Frame} {meth : Method} {c : Code} {G : xG} {z : Nat → Nat} {A : Nat → Prop} {Qw : State → Prop} {Q : xh → Prop} {k8 : Nat × Int32 × Int32 × Int32 × Int32 × Int32 × Int32 × xh → Prop} {a0 : Nat} {x1 : Int32} {x2 : Int32} {x3 : Int32} {x4 : Int32} {x5 : Int32} {x6 : Int32} {s0 : Int32} {hp : xh} (X : xX p l e rm_Model_feed s m args below meth c G z A y_Model_feed b_Model_feed 8) (hret : xRet p l e rm_Model_feed s m args below meth c G A 8 Qw b_Model_feed none (xqv Q)) (hk8 : ∀ (a0 : Nat) (x1 : Int32) (x2 : Int32) (x3 : Int32) (x4 : Int32) (x5 : Int32) (x6 : Int32) (hp : xh), k8 (a0, x1, x2, x3, x4, x5, x6, hp) → xE p l e rm_Model_feed s m args below meth c G A 8 Qw 0 0 hp 8 [(0, .ref a0), (1, .int x1), (2, .int x2), (3, .int x3), (4, .int x4), (5, .int x5), (6, .int x6)] []) (hf : wp_Model_feed_61 z Q k8 a0 x1 x2 x3 x4 x5 x6 s0 hp) : xE p l e rm_Model_feed s m args below meth c G A 8 Qw 0 0 hp 61 [(0, .ref a0), (1, .int x1), (2, .int x2), (3, .int x3), (4, .int x4), (5, .int x5), (6, .int x6)] [.int s0] := by
  unfold wp_Model_feed_61 at hf
  refine x_istore X (lv' := [(7, .int s0), (0, .ref a0), (1, .int x1), (2, .int x2), (3, .int x3), (4, .int x4), (5, .int x5), (6, .int x6)]) d_Model_feed_61 (by decide) rfl 63 rfl ?_
  refine x_aload_n X (q := 1) d_Model_feed_63 rfl 64 rfl ?_
  refine x_getR X hf (ci := 12) (j := 2) rfl (by decide) rfl lf_Model_13 d_Model_feed_64 67 rfl (fun o1 hf => ?_)
  refine x_iload X (q := 7) d_Model_feed_67 rfl 69 rfl ?_
  refine x_iload X (q := 0) d_Model_feed_69 rfl 71 rfl ?_
  refine x_bipush X (v := 24) d_Model_feed_71 (by decide) 73 rfl ?_
  refine x_bipush X (v := 8) d_Model_feed_73 (by decide) 75 rfl ?_
  refine x_iload X (q := 7) d_Model_feed_75 rfl 77 rfl ?_
  refine x_iconst X (v := 4) d_Model_feed_77 (by decide) 78 rfl ?_
  refine x_irem X (by decide) d_Model_feed_78 79 rfl ?_
  refine x_imul X d_Model_feed_79 80 rfl ?_
  refine x_isub X d_Model_feed_80 81 rfl ?_
  refine x_ishr X d_Model_feed_81 82 rfl ?_
  refine x_i2b X d_Model_feed_82 83 rfl ?_
  refine x_bast X hf d_Model_feed_83 84 rfl (fun h2 hf => ?_)
  refine x_iinc X (q := 7) (v := (x6 + 1)) (lv' := [(6, .int (x6 + 1)), (7, .int s0), (0, .ref a0), (1, .int x1), (2, .int x2), (3, .int x3), (4, .int x4), (5, .int x5)]) d_Model_feed_84 rfl (by rfl) (by decide) rfl 87 rfl ?_
  refine x_goto X d_Model_feed_87 8 (by decide) ?_
  exact x_sub [2, 3, 4, 5, 6, 7, 0] rfl (hk8 _ _ _ _ _ _ _ _ hf)
set_option maxRecDepth 100000 in
def wp_Model_feed_8_b (z : Nat → Nat) (Q : xh → Prop)  (k8 : Nat × Int32 × Int32 × Int32 × Int32 × Int32 × Int32 × xh → Prop) (a0 : Nat) (x1 : Int32) (x2 : Int32) (x3 : Int32) (x4 : Int32) (x5 : Int32) (x6 : Int32) (hp : xh) : Prop :=
  (20 ≤ x6 → Q hp) ∧ (¬ 20 ≤ x6 → ((4 ≤ x6 → ((8 ≤ x6 → ((12 ≤ x6 → ((16 ≤ x6 → wp_Model_feed_61 z Q k8 a0 x1 x2 x3 x4 x5 x6 x5 hp) ∧ (¬ 16 ≤ x6 → wp_Model_feed_61 z Q k8 a0 x1 x2 x3 x4 x5 x6 x4 hp))) ∧ (¬ 12 ≤ x6 → wp_Model_feed_61 z Q k8 a0 x1 x2 x3 x4 x5 x6 x3 hp))) ∧ (¬ 8 ≤ x6 → wp_Model_feed_61 z Q k8 a0 x1 x2 x3 x4 x5 x6 x2 hp))) ∧ (¬ 4 ≤ x6 → wp_Model_feed_61 z Q k8 a0 x1 x2 x3 x4 x5 x6 x1 hp)))
set_option maxRecDepth 100000 in
def wp_Model_feed_8 (z : Nat → Nat) (Q : xh → Prop)  (a0 : Nat) (x1 : Int32) (x2 : Int32) (x3 : Int32) (x4 : Int32) (x5 : Int32) (x6 : Int32) (hp : xh) : Prop := ∃ f : Nat, xloop (fun k8 a => wp_Model_feed_8_b z Q  k8 a.1 a.2.1 a.2.2.1 a.2.2.2.1 a.2.2.2.2.1 a.2.2.2.2.2.1 a.2.2.2.2.2.2.1 a.2.2.2.2.2.2.2) f (a0, x1, x2, x3, x4, x5, x6, hp)
set_option maxRecDepth 100000 in
set_option maxHeartbeats 4000000 in
theorem t_Model_feed_8 {p : Program} {l : Launch} {e : Env} {s : State} {m : MethodId} {args : Array Value} {below : List Frame} {meth : Method} {c : Code} {G : xG} {z : Nat → Nat} {A : Nat → Prop} {Qw : State → Prop} {Q : xh → Prop} {a0 : Nat} {x1 : Int32} {x2 : Int32} {x3 : Int32} {x4 : Int32} {x5 : Int32} {x6 : Int32} {hp : xh} (X : xX p l e rm_Model_feed s m args below meth c G z A y_Model_feed b_Model_feed 8) (hret : xRet p l e rm_Model_feed s m args below meth c G A 8 Qw b_Model_feed none (xqv Q))  (hf : wp_Model_feed_8 z Q  a0 x1 x2 x3 x4 x5 x6 hp) : xE p l e rm_Model_feed s m args below meth c G A 8 Qw 0 0 hp 8 [(0, .ref a0), (1, .int x1), (2, .int x2), (3, .int x3), (4, .int x4), (5, .int x5), (6, .int x6)] [] := by
  obtain ⟨f, hf⟩ := hf
  refine xloop_ind (F := fun k8 a => wp_Model_feed_8_b z Q  k8 a.1 a.2.1 a.2.2.1 a.2.2.2.1 a.2.2.2.2.1 a.2.2.2.2.2.1 a.2.2.2.2.2.2.1 a.2.2.2.2.2.2.2) (E := fun a => xE p l e rm_Model_feed s m args below meth c G A 8 Qw 0 0 a.2.2.2.2.2.2.2 8 [(0, .ref (a.1)), (1, .int (a.2.1)), (2, .int (a.2.2.1)), (3, .int (a.2.2.2.1)), (4, .int (a.2.2.2.2.1)), (5, .int (a.2.2.2.2.2.1)), (6, .int (a.2.2.2.2.2.2.1))] []) ?_ f (a0, x1, x2, x3, x4, x5, x6, hp) hf
  intro k8 hk a hf
  obtain ⟨a0, x1, x2, x3, x4, x5, x6, hp⟩ := a
  have hk8 : ∀ (a0 : Nat) (x1 : Int32) (x2 : Int32) (x3 : Int32) (x4 : Int32) (x5 : Int32) (x6 : Int32) (hp : xh), k8 (a0, x1, x2, x3, x4, x5, x6, hp) → xE p l e rm_Model_feed s m args below meth c G A 8 Qw 0 0 hp 8 [(0, .ref a0), (1, .int x1), (2, .int x2), (3, .int x3), (4, .int x4), (5, .int x5), (6, .int x6)] [] := fun a0 x1 x2 x3 x4 x5 x6 hp h => hk (a0, x1, x2, x3, x4, x5, x6, hp) h
  have hf : wp_Model_feed_8_b z Q  k8 a0 x1 x2 x3 x4 x5 x6 hp := hf
  unfold wp_Model_feed_8_b at hf
  refine x_iload X (q := 6) d_Model_feed_8 rfl 10 rfl ?_
  refine x_bipush X (v := 20) d_Model_feed_10 (by decide) 12 rfl ?_
  refine x_icmp_ge X hf d_Model_feed_12 90 15 (by decide) rfl (fun hf => ?_) (fun hf => ?_)
  · exact hret _ _ _ _ _ none (Nat.le_refl 0) (Nat.le_refl 0) ⟨rfl, hf⟩ ⟨rfl, d_Model_feed_90⟩
  · refine x_iload X (q := 6) d_Model_feed_15 rfl 17 rfl ?_
    refine x_iconst X (v := 4) d_Model_feed_17 (by decide) 18 rfl ?_
    refine x_icmp_ge X hf d_Model_feed_18 25 21 (by decide) rfl (fun hf => ?_) (fun hf => ?_)
    · refine x_iload X (q := 6) d_Model_feed_25 rfl 27 rfl ?_
      refine x_bipush X (v := 8) d_Model_feed_27 (by decide) 29 rfl ?_
      refine x_icmp_ge X hf d_Model_feed_29 36 32 (by decide) rfl (fun hf => ?_) (fun hf => ?_)
      · refine x_iload X (q := 6) d_Model_feed_36 rfl 38 rfl ?_
        refine x_bipush X (v := 12) d_Model_feed_38 (by decide) 40 rfl ?_
        refine x_icmp_ge X hf d_Model_feed_40 47 43 (by decide) rfl (fun hf => ?_) (fun hf => ?_)
        · refine x_iload X (q := 6) d_Model_feed_47 rfl 49 rfl ?_
          refine x_bipush X (v := 16) d_Model_feed_49 (by decide) 51 rfl ?_
          refine x_icmp_ge X hf d_Model_feed_51 59 54 (by decide) rfl (fun hf => ?_) (fun hf => ?_)
          · refine x_iload X (q := 5) d_Model_feed_59 rfl 61 rfl ?_
            exact x_sub [0, 1, 2, 3, 4, 5, 6] rfl (t_Model_feed_61 X hret hk8 hf)
          · refine x_iload X (q := 4) d_Model_feed_54 rfl 56 rfl ?_
            refine x_goto X d_Model_feed_56 61 (by decide) ?_
            exact x_sub [0, 1, 2, 3, 4, 5, 6] rfl (t_Model_feed_61 X hret hk8 hf)
        · refine x_iload_n X (q := 3) d_Model_feed_43 rfl 44 rfl ?_
          refine x_goto X d_Model_feed_44 61 (by decide) ?_
          exact x_sub [0, 1, 2, 3, 4, 5, 6] rfl (t_Model_feed_61 X hret hk8 hf)
      · refine x_iload_n X (q := 2) d_Model_feed_32 rfl 33 rfl ?_
        refine x_goto X d_Model_feed_33 61 (by decide) ?_
        exact x_sub [0, 1, 2, 3, 4, 5, 6] rfl (t_Model_feed_61 X hret hk8 hf)
    · refine x_iload_n X (q := 1) d_Model_feed_21 rfl 22 rfl ?_
      refine x_goto X d_Model_feed_22 61 (by decide) ?_
      exact x_sub [0, 1, 2, 3, 4, 5, 6] rfl (t_Model_feed_61 X hret hk8 hf)
set_option maxRecDepth 100000 in
def wp_Model_feed (z : Nat → Nat) (Q : xh → Prop) (a0 : Nat) (x1 : Int32) (x2 : Int32) (x3 : Int32) (x4 : Int32) (x5 : Int32) (hp : xh) : Prop :=
  ∃ h1, pV hp a0 12 0 (.int 0) = some h1 ∧ wp_Model_feed_8 z Q a0 x1 x2 x3 x4 x5 0 h1
set_option maxRecDepth 100000 in
set_option maxHeartbeats 4000000 in
theorem t_Model_feed {l : Launch} {G : xG} {z : Nat → Nat} {Q : xh → Prop} {a0 : Nat} {x1 : Int32} {x2 : Int32} {x3 : Int32} {x4 : Int32} {x5 : Int32} {hp : xh} (hf : wp_Model_feed z Q a0 x1 x2 x3 x4 x5 hp) : xM l G z y_Model_feed b_Model_feed 8 none rm_Model_feed [.ref a0, .int x1, .int x2, .int x3, .int x4, .int x5] hp (xqv Q) := by
  refine xM_of (by decide) (Nat.le_of_ble_eq_true rfl) (lv0 := [(0, .ref a0), (1, .int x1), (2, .int x2), (3, .int x3), (4, .int x4), (5, .int x5)]) rfl ?_
  intro p e s m args below meth c A Qw X hret
  unfold wp_Model_feed at hf
  refine x_aload_n X (q := 0) d_Model_feed_0 rfl 1 rfl ?_
  refine x_iconst X (v := 0) d_Model_feed_1 (by decide) 2 rfl ?_
  refine x_put X hf (ci := 12) (j := 0) (ty := .int) rfl (by decide) rfl lf_Model_127 rfl (by decide +kernel) rfl rfl d_Model_feed_2 5 rfl (fun h1 hf => ?_)
  refine x_iconst X (v := 0) d_Model_feed_5 (by decide) 6 rfl ?_
  refine x_istore X (lv' := [(6, .int 0), (0, .ref a0), (1, .int x1), (2, .int x2), (3, .int x3), (4, .int x4), (5, .int x5)]) d_Model_feed_6 (by decide) rfl 8 rfl ?_
  exact x_sub [1, 2, 3, 4, 5, 6, 0] rfl (t_Model_feed_8 X hret hf)

set_option maxRecDepth 100000 in
def wp_Model_end_61_b (z : Nat → Nat) (Q : Int32 → xh → Prop)  (k61 : Nat × Int32 × Int32 × xh → Prop) (a0 : Nat) (x1 : Int32) (x2 : Int32) (hp : xh) : Prop :=
  (20 ≤ x2 → (∃ v1, fI hp a0 12 3 = some v1 ∧ (∃ h2, pV hp a0 12 3 (.int (v1 + x1)) = some h2 ∧ (∃ v3, fI h2 a0 12 3 = some v3 ∧ Q v3 h2)))) ∧ (¬ 20 ≤ x2 → (∃ o4, fR hp a0 12 2 = some o4 ∧ (∃ h5, sI hp o4 1 x2 (vp_nar .byte 0) = some h5 ∧ (k61 (a0, x1, (x2 + 1), h5)))))
set_option maxRecDepth 100000 in
def wp_Model_end_61 (z : Nat → Nat) (Q : Int32 → xh → Prop)  (a0 : Nat) (x1 : Int32) (x2 : Int32) (hp : xh) : Prop := ∃ f : Nat, xloop (fun k61 a => wp_Model_end_61_b z Q  k61 a.1 a.2.1 a.2.2.1 a.2.2.2) f (a0, x1, x2, hp)
set_option maxRecDepth 100000 in
set_option maxHeartbeats 4000000 in
theorem t_Model_end_61 {p : Program} {l : Launch} {e : Env} {s : State} {m : MethodId} {args : Array Value} {below : List Frame} {meth : Method} {c : Code} {G : xG} {z : Nat → Nat} {A : Nat → Prop} {Qw : State → Prop} {Q : Int32 → xh → Prop} {a0 : Nat} {x1 : Int32} {x2 : Int32} {hp : xh} (X : xX p l e rm_Model_end s m args below meth c G z A y_Model_end b_Model_end 3) (hret : xRet p l e rm_Model_end s m args below meth c G A 3 Qw b_Model_end (some .int) (xqi Q))  (hf : wp_Model_end_61 z Q  a0 x1 x2 hp) : xE p l e rm_Model_end s m args below meth c G A 3 Qw 0 0 hp 61 [(0, .ref a0), (1, .int x1), (2, .int x2)] [] := by
  obtain ⟨f, hf⟩ := hf
  refine xloop_ind (F := fun k61 a => wp_Model_end_61_b z Q  k61 a.1 a.2.1 a.2.2.1 a.2.2.2) (E := fun a => xE p l e rm_Model_end s m args below meth c G A 3 Qw 0 0 a.2.2.2 61 [(0, .ref (a.1)), (1, .int (a.2.1)), (2, .int (a.2.2.1))] []) ?_ f (a0, x1, x2, hp) hf
  intro k61 hk a hf
  obtain ⟨a0, x1, x2, hp⟩ := a
  have hk61 : ∀ (a0 : Nat) (x1 : Int32) (x2 : Int32) (hp : xh), k61 (a0, x1, x2, hp) → xE p l e rm_Model_end s m args below meth c G A 3 Qw 0 0 hp 61 [(0, .ref a0), (1, .int x1), (2, .int x2)] [] := fun a0 x1 x2 hp h => hk (a0, x1, x2, hp) h
  have hf : wp_Model_end_61_b z Q  k61 a0 x1 x2 hp := hf
  unfold wp_Model_end_61_b at hf
  refine x_iload_n X (q := 2) d_Model_end_61 rfl 62 rfl ?_
  refine x_bipush X (v := 20) d_Model_end_62 (by decide) 64 rfl ?_
  refine x_icmp_ge X hf d_Model_end_64 80 67 (by decide) rfl (fun hf => ?_) (fun hf => ?_)
  · refine x_aload_n X (q := 0) d_Model_end_80 rfl 81 rfl ?_
    refine x_dup X rfl d_Model_end_81 82 rfl ?_
    refine x_getI X hf (ci := 12) (j := 3) rfl (by decide) rfl lf_Model_130 d_Model_end_82 85 rfl (fun v1 hf => ?_)
    refine x_iload_n X (q := 1) d_Model_end_85 rfl 86 rfl ?_
    refine x_iadd X d_Model_end_86 87 rfl ?_
    refine x_put X hf (ci := 12) (j := 3) (ty := .int) rfl (by decide) rfl lf_Model_130 rfl (by decide +kernel) rfl rfl d_Model_end_87 90 rfl (fun h2 hf => ?_)
    refine x_aload_n X (q := 0) d_Model_end_90 rfl 91 rfl ?_
    refine x_getI X hf (ci := 12) (j := 3) rfl (by decide) rfl lf_Model_130 d_Model_end_91 94 rfl (fun v3 hf => ?_)
    exact hret _ _ _ _ _ (some (.int v3)) (Nat.le_refl 0) (Nat.le_refl 0) ⟨_, rfl, hf⟩ ⟨⟨_, rfl, rfl⟩, d_Model_end_94⟩
  · refine x_aload_n X (q := 0) d_Model_end_67 rfl 68 rfl ?_
    refine x_getR X hf (ci := 12) (j := 2) rfl (by decide) rfl lf_Model_13 d_Model_end_68 71 rfl (fun o4 hf => ?_)
    refine x_iload_n X (q := 2) d_Model_end_71 rfl 72 rfl ?_
    refine x_iconst X (v := 0) d_Model_end_72 (by decide) 73 rfl ?_
    refine x_bast X hf d_Model_end_73 74 rfl (fun h5 hf => ?_)
    refine x_iinc X (q := 2) (v := (x2 + 1)) (lv' := [(2, .int (x2 + 1)), (0, .ref a0), (1, .int x1)]) d_Model_end_74 rfl (by rfl) (by decide) rfl 77 rfl ?_
    refine x_goto X d_Model_end_77 61 (by decide) ?_
    exact x_sub [1, 2, 0] rfl (hk61 _ _ _ _ hf)
set_option maxRecDepth 100000 in
def wp_Model_end_31_b (z : Nat → Nat) (Q : Int32 → xh → Prop)  (k31 : Nat × Int32 × Int32 × xh → Prop) (a0 : Nat) (x1 : Int32) (x2 : Int32) (hp : xh) : Prop :=
  (x1 ≤ x2 → wp_Model_end_61 z Q a0 x1 0 hp) ∧ (¬ x1 ≤ x2 → (∃ o1, fR hp a0 12 1 = some o1 ∧ (∃ v2, fI hp a0 12 3 = some v2 ∧ (∃ o3, fR hp a0 12 2 = some o3 ∧ (∃ v4, aI hp o3 1 x2 = some v4 ∧ (∃ h5, sI hp o1 1 (v2 + x2) (vp_nar .byte v4) = some h5 ∧ (k31 (a0, x1, (x2 + 1), h5))))))))
set_option maxRecDepth 100000 in
def wp_Model_end_31 (z : Nat → Nat) (Q : Int32 → xh → Prop)  (a0 : Nat) (x1 : Int32) (x2 : Int32) (hp : xh) : Prop := ∃ f : Nat, xloop (fun k31 a => wp_Model_end_31_b z Q  k31 a.1 a.2.1 a.2.2.1 a.2.2.2) f (a0, x1, x2, hp)
set_option maxRecDepth 100000 in
set_option maxHeartbeats 4000000 in
theorem t_Model_end_31 {p : Program} {l : Launch} {e : Env} {s : State} {m : MethodId} {args : Array Value} {below : List Frame} {meth : Method} {c : Code} {G : xG} {z : Nat → Nat} {A : Nat → Prop} {Qw : State → Prop} {Q : Int32 → xh → Prop} {a0 : Nat} {x1 : Int32} {x2 : Int32} {hp : xh} (X : xX p l e rm_Model_end s m args below meth c G z A y_Model_end b_Model_end 3) (hret : xRet p l e rm_Model_end s m args below meth c G A 3 Qw b_Model_end (some .int) (xqi Q))  (hf : wp_Model_end_31 z Q  a0 x1 x2 hp) : xE p l e rm_Model_end s m args below meth c G A 3 Qw 0 0 hp 31 [(0, .ref a0), (1, .int x1), (2, .int x2)] [] := by
  obtain ⟨f, hf⟩ := hf
  refine xloop_ind (F := fun k31 a => wp_Model_end_31_b z Q  k31 a.1 a.2.1 a.2.2.1 a.2.2.2) (E := fun a => xE p l e rm_Model_end s m args below meth c G A 3 Qw 0 0 a.2.2.2 31 [(0, .ref (a.1)), (1, .int (a.2.1)), (2, .int (a.2.2.1))] []) ?_ f (a0, x1, x2, hp) hf
  intro k31 hk a hf
  obtain ⟨a0, x1, x2, hp⟩ := a
  have hk31 : ∀ (a0 : Nat) (x1 : Int32) (x2 : Int32) (hp : xh), k31 (a0, x1, x2, hp) → xE p l e rm_Model_end s m args below meth c G A 3 Qw 0 0 hp 31 [(0, .ref a0), (1, .int x1), (2, .int x2)] [] := fun a0 x1 x2 hp h => hk (a0, x1, x2, hp) h
  have hf : wp_Model_end_31_b z Q  k31 a0 x1 x2 hp := hf
  unfold wp_Model_end_31_b at hf
  refine x_iload_n X (q := 2) d_Model_end_31 rfl 32 rfl ?_
  refine x_iload_n X (q := 1) d_Model_end_32 rfl 33 rfl ?_
  refine x_icmp_ge X hf d_Model_end_33 59 36 (by decide) rfl (fun hf => ?_) (fun hf => ?_)
  · refine x_iconst X (v := 0) d_Model_end_59 (by decide) 60 rfl ?_
    refine x_istore_n X (lv' := [(2, .int 0), (0, .ref a0), (1, .int x1)]) d_Model_end_60 rfl (by decide) rfl 61 rfl ?_
    exact x_sub [1, 2, 0] rfl (t_Model_end_61 X hret hf)
  · refine x_aload_n X (q := 0) d_Model_end_36 rfl 37 rfl ?_
    refine x_getR X hf (ci := 12) (j := 1) rfl (by decide) rfl lf_Model_7 d_Model_end_37 40 rfl (fun o1 hf => ?_)
    refine x_aload_n X (q := 0) d_Model_end_40 rfl 41 rfl ?_
    refine x_getI X hf (ci := 12) (j := 3) rfl (by decide) rfl lf_Model_130 d_Model_end_41 44 rfl (fun v2 hf => ?_)
    refine x_iload_n X (q := 2) d_Model_end_44 rfl 45 rfl ?_
    refine x_iadd X d_Model_end_45 46 rfl ?_
    refine x_aload_n X (q := 0) d_Model_end_46 rfl 47 rfl ?_
    refine x_getR X hf (ci := 12) (j := 2) rfl (by decide) rfl lf_Model_13 d_Model_end_47 50 rfl (fun o3 hf => ?_)
    refine x_iload_n X (q := 2) d_Model_end_50 rfl 51 rfl ?_
    refine x_bald X hf d_Model_end_51 52 rfl (fun v4 hf => ?_)
    refine x_bast X hf d_Model_end_52 53 rfl (fun h5 hf => ?_)
    refine x_iinc X (q := 2) (v := (x2 + 1)) (lv' := [(2, .int (x2 + 1)), (0, .ref a0), (1, .int x1)]) d_Model_end_53 rfl (by rfl) (by decide) rfl 56 rfl ?_
    refine x_goto X d_Model_end_56 31 (by decide) ?_
    exact x_sub [1, 2, 0] rfl (hk31 _ _ _ _ hf)
set_option maxRecDepth 100000 in
def wp_Model_end (z : Nat → Nat) (Q : Int32 → xh → Prop) (a0 : Nat) (x1 : Int32) (hp : xh) : Prop :=
  ∃ h1, pV hp a0 12 0 (.int 0) = some h1 ∧ ((x1 < 0 → (Q (-1) h1)) ∧ (¬ x1 < 0 → ((20 < x1 → (Q (-1) h1)) ∧ (¬ 20 < x1 → (∃ v2, fI h1 a0 12 3 = some v2 ∧ (((v2 + x1) ≤ 6000 → wp_Model_end_31 z Q a0 x1 0 h1) ∧ (¬ (v2 + x1) ≤ 6000 → (Q (-1) h1))))))))
set_option maxRecDepth 100000 in
set_option maxHeartbeats 4000000 in
theorem t_Model_end {l : Launch} {G : xG} {z : Nat → Nat} {Q : Int32 → xh → Prop} {a0 : Nat} {x1 : Int32} {hp : xh} (hf : wp_Model_end z Q a0 x1 hp) : xM l G z y_Model_end b_Model_end 3 (some .int) rm_Model_end [.ref a0, .int x1] hp (xqi Q) := by
  refine xM_of (by decide) (Nat.le_of_ble_eq_true rfl) (lv0 := [(0, .ref a0), (1, .int x1)]) rfl ?_
  intro p e s m args below meth c A Qw X hret
  unfold wp_Model_end at hf
  refine x_aload_n X (q := 0) d_Model_end_0 rfl 1 rfl ?_
  refine x_iconst X (v := 0) d_Model_end_1 (by decide) 2 rfl ?_
  refine x_put X hf (ci := 12) (j := 0) (ty := .int) rfl (by decide) rfl lf_Model_127 rfl (by decide +kernel) rfl rfl d_Model_end_2 5 rfl (fun h1 hf => ?_)
  refine x_iload_n X (q := 1) d_Model_end_5 rfl 6 rfl ?_
  refine x_if_lt X hf d_Model_end_6 27 9 (by decide) rfl (fun hf => ?_) (fun hf => ?_)
  · refine x_iconst X (v := (-1)) d_Model_end_27 (by decide) 28 rfl ?_
    exact hret _ _ _ _ _ (some (.int (-1))) (Nat.le_refl 0) (Nat.le_refl 0) ⟨_, rfl, hf⟩ ⟨⟨_, rfl, rfl⟩, d_Model_end_28⟩
  · refine x_iload_n X (q := 1) d_Model_end_9 rfl 10 rfl ?_
    refine x_bipush X (v := 20) d_Model_end_10 (by decide) 12 rfl ?_
    refine x_icmp_gt X hf d_Model_end_12 27 15 (by decide) rfl (fun hf => ?_) (fun hf => ?_)
    · refine x_iconst X (v := (-1)) d_Model_end_27 (by decide) 28 rfl ?_
      exact hret _ _ _ _ _ (some (.int (-1))) (Nat.le_refl 0) (Nat.le_refl 0) ⟨_, rfl, hf⟩ ⟨⟨_, rfl, rfl⟩, d_Model_end_28⟩
    · refine x_aload_n X (q := 0) d_Model_end_15 rfl 16 rfl ?_
      refine x_getI X hf (ci := 12) (j := 3) rfl (by decide) rfl lf_Model_130 d_Model_end_16 19 rfl (fun v2 hf => ?_)
      refine x_iload_n X (q := 1) d_Model_end_19 rfl 20 rfl ?_
      refine x_iadd X d_Model_end_20 21 rfl ?_
      refine x_sipush X (v := 6000) d_Model_end_21 (by decide) 24 rfl ?_
      refine x_icmp_le X hf d_Model_end_24 29 27 (by decide) rfl (fun hf => ?_) (fun hf => ?_)
      · refine x_iconst X (v := 0) d_Model_end_29 (by decide) 30 rfl ?_
        refine x_istore_n X (lv' := [(2, .int 0), (0, .ref a0), (1, .int x1)]) d_Model_end_30 rfl (by decide) rfl 31 rfl ?_
        exact x_sub [1, 2, 0] rfl (t_Model_end_31 X hret hf)
      · refine x_iconst X (v := (-1)) d_Model_end_27 (by decide) 28 rfl ?_
        exact hret _ _ _ _ _ (some (.int (-1))) (Nat.le_refl 0) (Nat.le_refl 0) ⟨_, rfl, hf⟩ ⟨⟨_, rfl, rfl⟩, d_Model_end_28⟩

set_option maxRecDepth 100000 in
def wp_Model_here (z : Nat → Nat) (Q : Int32 → xh → Prop) (a0 : Nat) (hp : xh) : Prop :=
  ∃ v1, fI hp a0 12 6 = some v1 ∧ (∃ v2, fI hp a0 12 3 = some v2 ∧ ((v2 ≤ v1 → (Q (-1) hp)) ∧ (¬ v2 ≤ v1 → (∃ o3, fR hp a0 12 1 = some o3 ∧ (∃ v4, fI hp a0 12 6 = some v4 ∧ (∃ v5, aI hp o3 1 v4 = some v5 ∧ (Q (v5 &&& 255) hp)))))))
set_option maxRecDepth 100000 in
set_option maxHeartbeats 4000000 in
theorem t_Model_here {l : Launch} {G : xG} {z : Nat → Nat} {Q : Int32 → xh → Prop} {a0 : Nat} {hp : xh} (hf : wp_Model_here z Q a0 hp) : xM l G z y_Model_here b_Model_here 1 (some .int) rm_Model_here [.ref a0] hp (xqi Q) := by
  refine xM_of (by decide) (Nat.le_of_ble_eq_true rfl) (lv0 := [(0, .ref a0)]) rfl ?_
  intro p e s m args below meth c A Qw X hret
  unfold wp_Model_here at hf
  refine x_aload_n X (q := 0) d_Model_here_0 rfl 1 rfl ?_
  refine x_getI X hf (ci := 12) (j := 6) rfl (by decide) rfl lf_Model_133 d_Model_here_1 4 rfl (fun v1 hf => ?_)
  refine x_aload_n X (q := 0) d_Model_here_4 rfl 5 rfl ?_
  refine x_getI X hf (ci := 12) (j := 3) rfl (by decide) rfl lf_Model_130 d_Model_here_5 8 rfl (fun v2 hf => ?_)
  refine x_icmp_ge X hf d_Model_here_8 27 11 (by decide) rfl (fun hf => ?_) (fun hf => ?_)
  · refine x_iconst X (v := (-1)) d_Model_here_27 (by decide) 28 rfl ?_
    exact hret _ _ _ _ _ (some (.int (-1))) (Nat.le_refl 0) (Nat.le_refl 0) ⟨_, rfl, hf⟩ ⟨⟨_, rfl, rfl⟩, d_Model_here_28⟩
  · refine x_aload_n X (q := 0) d_Model_here_11 rfl 12 rfl ?_
    refine x_getR X hf (ci := 12) (j := 1) rfl (by decide) rfl lf_Model_7 d_Model_here_12 15 rfl (fun o3 hf => ?_)
    refine x_aload_n X (q := 0) d_Model_here_15 rfl 16 rfl ?_
    refine x_getI X hf (ci := 12) (j := 6) rfl (by decide) rfl lf_Model_133 d_Model_here_16 19 rfl (fun v4 hf => ?_)
    refine x_bald X hf d_Model_here_19 20 rfl (fun v5 hf => ?_)
    refine x_sipush X (v := 255) d_Model_here_20 (by decide) 23 rfl ?_
    refine x_iand X d_Model_here_23 24 rfl ?_
    refine x_goto X d_Model_here_24 28 (by decide) ?_
    exact hret _ _ _ _ _ (some (.int (v5 &&& 255))) (Nat.le_refl 0) (Nat.le_refl 0) ⟨_, rfl, hf⟩ ⟨⟨_, rfl, rfl⟩, d_Model_here_28⟩

set_option maxRecDepth 100000 in
def wp_Model_wrong (z : Nat → Nat) (Q : xh → Prop) (a0 : Nat) (x1 : Int32) (x2 : Int32) (hp : xh) : Prop :=
  ∃ v1, fI hp a0 12 7 = some v1 ∧ ((v1 ≤ 0 → (∃ h2, pV hp a0 12 7 (.int x1) = some h2 ∧ (∃ h3, pV h2 a0 12 8 (.int x2) = some h3 ∧ Q h3))) ∧ (¬ v1 ≤ 0 → Q hp))
set_option maxRecDepth 100000 in
set_option maxHeartbeats 4000000 in
theorem t_Model_wrong {l : Launch} {G : xG} {z : Nat → Nat} {Q : xh → Prop} {a0 : Nat} {x1 : Int32} {x2 : Int32} {hp : xh} (hf : wp_Model_wrong z Q a0 x1 x2 hp) : xM l G z y_Model_wrong b_Model_wrong 3 none rm_Model_wrong [.ref a0, .int x1, .int x2] hp (xqv Q) := by
  refine xM_of (by decide) (Nat.le_of_ble_eq_true rfl) (lv0 := [(0, .ref a0), (1, .int x1), (2, .int x2)]) rfl ?_
  intro p e s m args below meth c A Qw X hret
  unfold wp_Model_wrong at hf
  refine x_aload_n X (q := 0) d_Model_wrong_0 rfl 1 rfl ?_
  refine x_getI X hf (ci := 12) (j := 7) rfl (by decide) rfl lf_Model_136 d_Model_wrong_1 4 rfl (fun v1 hf => ?_)
  refine x_if_le X hf d_Model_wrong_4 8 7 (by decide) rfl (fun hf => ?_) (fun hf => ?_)
  · refine x_aload_n X (q := 0) d_Model_wrong_8 rfl 9 rfl ?_
    refine x_iload_n X (q := 1) d_Model_wrong_9 rfl 10 rfl ?_
    refine x_put X hf (ci := 12) (j := 7) (ty := .int) rfl (by decide) rfl lf_Model_136 rfl (by decide +kernel) rfl rfl d_Model_wrong_10 13 rfl (fun h2 hf => ?_)
    refine x_aload_n X (q := 0) d_Model_wrong_13 rfl 14 rfl ?_
    refine x_iload_n X (q := 2) d_Model_wrong_14 rfl 15 rfl ?_
    refine x_put X hf (ci := 12) (j := 8) (ty := .int) rfl (by decide) rfl lf_Model_139 rfl (by decide +kernel) rfl rfl d_Model_wrong_15 18 rfl (fun h3 hf => ?_)
    exact hret _ _ _ _ _ none (Nat.le_refl 0) (Nat.le_refl 0) ⟨rfl, hf⟩ ⟨rfl, d_Model_wrong_18⟩
  · exact hret _ _ _ _ _ none (Nat.le_refl 0) (Nat.le_refl 0) ⟨rfl, hf⟩ ⟨rfl, d_Model_wrong_7⟩

set_option maxRecDepth 100000 in
def wp_Model_take (z : Nat → Nat) (Q : xh → Prop) (a0 : Nat) (x1 : Int32) (hp : xh) : Prop :=
  ∃ v1, fI hp a0 12 7 = some v1 ∧ ((v1 ≤ 0 → (xcls hp a0 12 ∧ wp_Model_here z (fun v3 h2 => (¬ v3 = x1 → (∃ v4, fI h2 a0 12 6 = some v4 ∧ (xcls h2 a0 12 ∧ wp_Model_wrong z (fun h5 => Q h5) a0 1 v4 h2))) ∧ (v3 = x1 → (∃ v6, fI h2 a0 12 6 = some v6 ∧ (∃ h7, pV h2 a0 12 6 (.int (v6 + 1)) = some h7 ∧ Q h7)))) a0 hp)) ∧ (¬ v1 ≤ 0 → Q hp))
set_option maxRecDepth 100000 in
set_option maxHeartbeats 4000000 in
theorem t_Model_take {l : Launch} {G : xG} {z : Nat → Nat} {Q : xh → Prop} {a0 : Nat} {x1 : Int32} {hp : xh} (hf : wp_Model_take z Q a0 x1 hp) : xM l G z y_Model_take b_Model_take 2 none rm_Model_take [.ref a0, .int x1] hp (xqv Q) := by
  refine xM_of (by decide) (Nat.le_of_ble_eq_true rfl) (lv0 := [(0, .ref a0), (1, .int x1)]) rfl ?_
  intro p e s m args below meth c A Qw X hret
  unfold wp_Model_take at hf
  refine x_aload_n X (q := 0) d_Model_take_0 rfl 1 rfl ?_
  refine x_getI X hf (ci := 12) (j := 7) rfl (by decide) rfl lf_Model_136 d_Model_take_1 4 rfl (fun v1 hf => ?_)
  refine x_if_le X hf d_Model_take_4 8 7 (by decide) rfl (fun hf => ?_) (fun hf => ?_)
  · refine x_aload_n X (q := 0) d_Model_take_8 rfl 9 rfl ?_
    refine x_callV0i X (t_Model_here hf.2) hf.1 (ci := 12) rfl rfl lm_Model_142 im_Model_here sl_Model_here cd_Model_here in_Model ds_Model_here rfl rfl (Nat.le_of_ble_eq_true rfl) (Nat.le_of_ble_eq_true rfl) (Nat.le_of_ble_eq_true rfl) rfl rfl (Nat.le_refl 0) (Nat.le_refl 0) d_Model_take_9 12 rfl (fun v3 h2 hf => ?_)
    refine x_iload_n X (q := 1) d_Model_take_12 rfl 13 rfl ?_
    refine x_icmp_ne X hf d_Model_take_13 29 16 (by decide) rfl (fun hf => ?_) (fun hf => ?_)
    · refine x_aload_n X (q := 0) d_Model_take_29 rfl 30 rfl ?_
      refine x_iconst X (v := 1) d_Model_take_30 (by decide) 31 rfl ?_
      refine x_aload_n X (q := 0) d_Model_take_31 rfl 32 rfl ?_
      refine x_getI X hf (ci := 12) (j := 6) rfl (by decide) rfl lf_Model_133 d_Model_take_32 35 rfl (fun v4 hf => ?_)
      refine x_callV0v X (t_Model_wrong hf.2) hf.1 (ci := 12) rfl rfl lm_Model_146 im_Model_wrong sl_Model_wrong cd_Model_wrong in_Model ds_Model_wrong rfl rfl (Nat.le_of_ble_eq_true rfl) (Nat.le_of_ble_eq_true rfl) (Nat.le_of_ble_eq_true rfl) rfl rfl (Nat.le_refl 0) (Nat.le_refl 0) d_Model_take_35 38 rfl (fun h5 hf => ?_)
      exact hret _ _ _ _ _ none (Nat.le_refl 0) (Nat.le_refl 0) ⟨rfl, hf⟩ ⟨rfl, d_Model_take_38⟩
    · refine x_aload_n X (q := 0) d_Model_take_16 rfl 17 rfl ?_
      refine x_dup X rfl d_Model_take_17 18 rfl ?_
      refine x_getI X hf (ci := 12) (j := 6) rfl (by decide) rfl lf_Model_133 d_Model_take_18 21 rfl (fun v6 hf => ?_)
      refine x_iconst X (v := 1) d_Model_take_21 (by decide) 22 rfl ?_
      refine x_iadd X d_Model_take_22 23 rfl ?_
      refine x_put X hf (ci := 12) (j := 6) (ty := .int) rfl (by decide) rfl lf_Model_133 rfl (by decide +kernel) rfl rfl d_Model_take_23 26 rfl (fun h7 hf => ?_)
      refine x_goto X d_Model_take_26 38 (by decide) ?_
      exact hret _ _ _ _ _ none (Nat.le_refl 0) (Nat.le_refl 0) ⟨rfl, hf⟩ ⟨rfl, d_Model_take_38⟩
  · exact hret _ _ _ _ _ none (Nat.le_refl 0) (Nat.le_refl 0) ⟨rfl, hf⟩ ⟨rfl, d_Model_take_7⟩

set_option maxRecDepth 100000 in
def wp_Model_isDigit (z : Nat → Nat) (Q : Int32 → xh → Prop) (a0 : Nat) (hp : xh) : Prop :=
  xcls hp a0 12 ∧ wp_Model_here z (fun v2 h1 => (v2 < 48 → Q 0 h1) ∧ (¬ v2 < 48 → (xcls h1 a0 12 ∧ wp_Model_here z (fun v4 h3 => (57 < v4 → Q 0 h3) ∧ (¬ 57 < v4 → Q 1 h3)) a0 h1))) a0 hp
set_option maxRecDepth 100000 in
set_option maxHeartbeats 4000000 in
theorem t_Model_isDigit {l : Launch} {G : xG} {z : Nat → Nat} {Q : Int32 → xh → Prop} {a0 : Nat} {hp : xh} (hf : wp_Model_isDigit z Q a0 hp) : xM l G z y_Model_isDigit b_Model_isDigit 1 (some .boolean) rm_Model_isDigit [.ref a0] hp (xqz Q) := by
  refine xM_of (by decide) (Nat.le_of_ble_eq_true rfl) (lv0 := [(0, .ref a0)]) rfl ?_
  intro p e s m args below meth c A Qw X hret
  unfold wp_Model_isDigit at hf
  refine x_aload_n X (q := 0) d_Model_isDigit_0 rfl 1 rfl ?_
  refine x_callV0i X (t_Model_here hf.2) hf.1 (ci := 12) rfl rfl lm_Model_142 im_Model_here sl_Model_here cd_Model_here in_Model ds_Model_here rfl rfl (Nat.le_of_ble_eq_true rfl) (Nat.le_of_ble_eq_true rfl) (Nat.le_of_ble_eq_true rfl) rfl rfl (Nat.le_refl 0) (Nat.le_refl 0) d_Model_isDigit_1 4 rfl (fun v2 h1 hf => ?_)
  refine x_bipush X (v := 48) d_Model_isDigit_4 (by decide) 6 rfl ?_
  refine x_icmp_lt X hf d_Model_isDigit_6 22 9 (by decide) rfl (fun hf => ?_) (fun hf => ?_)
  · refine x_iconst X (v := 0) d_Model_isDigit_22 (by decide) 23 rfl ?_
    exact hret _ _ _ _ _ (some (.int 0)) (Nat.le_refl 0) (Nat.le_refl 0) ⟨_, rfl, (Or.inl rfl), hf⟩ ⟨⟨_, rfl, xbl_nar (Or.inl rfl)⟩, d_Model_isDigit_23⟩
  · refine x_aload_n X (q := 0) d_Model_isDigit_9 rfl 10 rfl ?_
    refine x_callV0i X (t_Model_here hf.2) hf.1 (ci := 12) rfl rfl lm_Model_142 im_Model_here sl_Model_here cd_Model_here in_Model ds_Model_here rfl rfl (Nat.le_of_ble_eq_true rfl) (Nat.le_of_ble_eq_true rfl) (Nat.le_of_ble_eq_true rfl) rfl rfl (Nat.le_refl 0) (Nat.le_refl 0) d_Model_isDigit_10 13 rfl (fun v4 h3 hf => ?_)
    refine x_bipush X (v := 57) d_Model_isDigit_13 (by decide) 15 rfl ?_
    refine x_icmp_gt X hf d_Model_isDigit_15 22 18 (by decide) rfl (fun hf => ?_) (fun hf => ?_)
    · refine x_iconst X (v := 0) d_Model_isDigit_22 (by decide) 23 rfl ?_
      exact hret _ _ _ _ _ (some (.int 0)) (Nat.le_refl 0) (Nat.le_refl 0) ⟨_, rfl, (Or.inl rfl), hf⟩ ⟨⟨_, rfl, xbl_nar (Or.inl rfl)⟩, d_Model_isDigit_23⟩
    · refine x_iconst X (v := 1) d_Model_isDigit_18 (by decide) 19 rfl ?_
      refine x_goto X d_Model_isDigit_19 23 (by decide) ?_
      exact hret _ _ _ _ _ (some (.int 1)) (Nat.le_refl 0) (Nat.le_refl 0) ⟨_, rfl, (Or.inr rfl), hf⟩ ⟨⟨_, rfl, xbl_nar (Or.inr rfl)⟩, d_Model_isDigit_23⟩

set_option maxRecDepth 100000 in
def wp_Model_takeNumber_74 (z : Nat → Nat) (Q : xh → Prop) (k31 : Nat × Int32 × xh → Prop) (a0 : Nat) (x1 : Int32) (hp : xh) : Prop :=
  ∃ v1, fI hp a0 12 9 = some v1 ∧ (xcls hp a0 12 ∧ wp_Model_here z (fun v3 h2 => ∃ h4, pV h2 a0 12 9 (.int (((10 * v1) + v3) - 48)) = some h4 ∧ (∃ v5, fI h4 a0 12 6 = some v5 ∧ (∃ h6, pV h4 a0 12 6 (.int (v5 + 1)) = some h6 ∧ (k31 (a0, (x1 + 1), h6))))) a0 hp)
set_option maxRecDepth 100000 in
set_option maxHeartbeats 4000000 in
theorem t_Model_takeNumber_74 {p : Program} {l : Launch} {e : Env} {s : State} {m : MethodId} {args : Array Value} {below : List Frame} {meth : Method} {c : Code} {G : xG} {z : Nat → Nat} {A : Nat → Prop} {Qw : State → Prop} {Q : xh → Prop} {k31 : Nat × Int32 × xh → Prop} {a0 : Nat} {x1 : Int32} {hp : xh} (X : xX p l e rm_Model_takeNumber s m args below meth c G z A y_Model_takeNumber b_Model_takeNumber 2) (hret : xRet p l e rm_Model_takeNumber s m args below meth c G A 2 Qw b_Model_takeNumber none (xqv Q)) (hk31 : ∀ (a0 : Nat) (x1 : Int32) (hp : xh), k31 (a0, x1, hp) → xE p l e rm_Model_takeNumber s m args below meth c G A 2 Qw 0 0 hp 31 [(0, .ref a0), (1, .int x1)] []) (hf : wp_Model_takeNumber_74 z Q k31 a0 x1 hp) : xE p l e rm_Model_takeNumber s m args below meth c G A 2 Qw 0 0 hp 74 [(0, .ref a0), (1, .int x1)] [] := by
  unfold wp_Model_takeNumber_74 at hf
  refine x_aload_n X (q := 0) d_Model_takeNumber_74 rfl 75 rfl ?_
  refine x_bipush X (v := 10) d_Model_takeNumber_75 (by decide) 77 rfl ?_
  refine x_aload_n X (q := 0) d_Model_takeNumber_77 rfl 78 rfl ?_
  refine x_getI X hf (ci := 12) (j := 9) rfl (by decide) rfl lf_Model_150 d_Model_takeNumber_78 81 rfl (fun v1 hf => ?_)
  refine x_imul X d_Model_takeNumber_81 82 rfl ?_
  refine x_aload_n X (q := 0) d_Model_takeNumber_82 rfl 83 rfl ?_
  refine x_callV0i X (t_Model_here hf.2) hf.1 (ci := 12) rfl rfl lm_Model_142 im_Model_here sl_Model_here cd_Model_here in_Model ds_Model_here rfl rfl (Nat.le_of_ble_eq_true rfl) (Nat.le_of_ble_eq_true rfl) (Nat.le_of_ble_eq_true rfl) rfl rfl (Nat.le_refl 0) (Nat.le_refl 0) d_Model_takeNumber_83 86 rfl (fun v3 h2 hf => ?_)
  refine x_iadd X d_Model_takeNumber_86 87 rfl ?_
  refine x_bipush X (v := 48) d_Model_takeNumber_87 (by decide) 89 rfl ?_
  refine x_isub X d_Model_takeNumber_89 90 rfl ?_
  refine x_put X hf (ci := 12) (j := 9) (ty := .int) rfl (by decide) rfl lf_Model_150 rfl (by decide +kernel) rfl rfl d_Model_takeNumber_90 93 rfl (fun h4 hf => ?_)
  refine x_iinc X (q := 1) (v := (x1 + 1)) (lv' := [(1, .int (x1 + 1)), (0, .ref a0)]) d_Model_takeNumber_93 rfl (by rfl) (by decide) rfl 96 rfl ?_
  refine x_aload_n X (q := 1) d_Model_takeNumber_96 rfl 97 rfl ?_
  refine x_dup X rfl d_Model_takeNumber_97 98 rfl ?_
  refine x_getI X hf (ci := 12) (j := 6) rfl (by decide) rfl lf_Model_133 d_Model_takeNumber_98 101 rfl (fun v5 hf => ?_)
  refine x_iconst X (v := 1) d_Model_takeNumber_101 (by decide) 102 rfl ?_
  refine x_iadd X d_Model_takeNumber_102 103 rfl ?_
  refine x_put X hf (ci := 12) (j := 6) (ty := .int) rfl (by decide) rfl lf_Model_133 rfl (by decide +kernel) rfl rfl d_Model_takeNumber_103 106 rfl (fun h6 hf => ?_)
  refine x_goto X d_Model_takeNumber_106 31 (by decide) ?_
  exact x_sub [1, 0] rfl (hk31 _ _ _ hf)
set_option maxRecDepth 100000 in
def wp_Model_takeNumber_62 (z : Nat → Nat) (Q : xh → Prop) (k31 : Nat × Int32 × xh → Prop) (a0 : Nat) (x1 : Int32) (hp : xh) : Prop :=
  ∃ v1, fI hp a0 12 6 = some v1 ∧ (xcls hp a0 12 ∧ wp_Model_wrong z (fun h2 => k31 (a0, x1, h2)) a0 1 v1 hp)
set_option maxRecDepth 100000 in
set_option maxHeartbeats 4000000 in
theorem t_Model_takeNumber_62 {p : Program} {l : Launch} {e : Env} {s : State} {m : MethodId} {args : Array Value} {below : List Frame} {meth : Method} {c : Code} {G : xG} {z : Nat → Nat} {A : Nat → Prop} {Qw : State → Prop} {Q : xh → Prop} {k31 : Nat × Int32 × xh → Prop} {a0 : Nat} {x1 : Int32} {hp : xh} (X : xX p l e rm_Model_takeNumber s m args below meth c G z A y_Model_takeNumber b_Model_takeNumber 2) (hret : xRet p l e rm_Model_takeNumber s m args below meth c G A 2 Qw b_Model_takeNumber none (xqv Q)) (hk31 : ∀ (a0 : Nat) (x1 : Int32) (hp : xh), k31 (a0, x1, hp) → xE p l e rm_Model_takeNumber s m args below meth c G A 2 Qw 0 0 hp 31 [(0, .ref a0), (1, .int x1)] []) (hf : wp_Model_takeNumber_62 z Q k31 a0 x1 hp) : xE p l e rm_Model_takeNumber s m args below meth c G A 2 Qw 0 0 hp 62 [(0, .ref a0), (1, .int x1)] [] := by
  unfold wp_Model_takeNumber_62 at hf
  refine x_aload_n X (q := 0) d_Model_takeNumber_62 rfl 63 rfl ?_
  refine x_iconst X (v := 1) d_Model_takeNumber_63 (by decide) 64 rfl ?_
  refine x_aload_n X (q := 0) d_Model_takeNumber_64 rfl 65 rfl ?_
  refine x_getI X hf (ci := 12) (j := 6) rfl (by decide) rfl lf_Model_133 d_Model_takeNumber_65 68 rfl (fun v1 hf => ?_)
  refine x_callV0v X (t_Model_wrong hf.2) hf.1 (ci := 12) rfl rfl lm_Model_146 im_Model_wrong sl_Model_wrong cd_Model_wrong in_Model ds_Model_wrong rfl rfl (Nat.le_of_ble_eq_true rfl) (Nat.le_of_ble_eq_true rfl) (Nat.le_of_ble_eq_true rfl) rfl rfl (Nat.le_refl 0) (Nat.le_refl 0) d_Model_takeNumber_68 71 rfl (fun h2 hf => ?_)
  refine x_goto X d_Model_takeNumber_71 31 (by decide) ?_
  exact x_sub [0, 1] rfl (hk31 _ _ _ hf)
set_option maxRecDepth 100000 in
def wp_Model_takeNumber_31_b (z : Nat → Nat) (Q : xh → Prop)  (k31 : Nat × Int32 × xh → Prop) (a0 : Nat) (x1 : Int32) (hp : xh) : Prop :=
  xcls hp a0 12 ∧ wp_Model_isDigit z (fun v2 h1 => (v2 = 0 → Q h1) ∧ (¬ v2 = 0 → (∃ v4, fI h1 a0 12 7 = some v4 ∧ ((¬ v4 = 0 → Q h1) ∧ (v4 = 0 → ((x1 = 4 → wp_Model_takeNumber_62 z Q k31 a0 x1 h1) ∧ (¬ x1 = 4 → ((¬ x1 = 1 → wp_Model_takeNumber_74 z Q k31 a0 x1 h1) ∧ (x1 = 1 → (∃ v5, fI h1 a0 12 9 = some v5 ∧ ((¬ v5 = 0 → wp_Model_takeNumber_74 z Q k31 a0 x1 h1) ∧ (v5 = 0 → wp_Model_takeNumber_62 z Q k31 a0 x1 h1)))))))))))) a0 hp
set_option maxRecDepth 100000 in
def wp_Model_takeNumber_31 (z : Nat → Nat) (Q : xh → Prop)  (a0 : Nat) (x1 : Int32) (hp : xh) : Prop := ∃ f : Nat, xloop (fun k31 a => wp_Model_takeNumber_31_b z Q  k31 a.1 a.2.1 a.2.2) f (a0, x1, hp)
set_option maxRecDepth 100000 in
set_option maxHeartbeats 4000000 in
theorem t_Model_takeNumber_31 {p : Program} {l : Launch} {e : Env} {s : State} {m : MethodId} {args : Array Value} {below : List Frame} {meth : Method} {c : Code} {G : xG} {z : Nat → Nat} {A : Nat → Prop} {Qw : State → Prop} {Q : xh → Prop} {a0 : Nat} {x1 : Int32} {hp : xh} (X : xX p l e rm_Model_takeNumber s m args below meth c G z A y_Model_takeNumber b_Model_takeNumber 2) (hret : xRet p l e rm_Model_takeNumber s m args below meth c G A 2 Qw b_Model_takeNumber none (xqv Q))  (hf : wp_Model_takeNumber_31 z Q  a0 x1 hp) : xE p l e rm_Model_takeNumber s m args below meth c G A 2 Qw 0 0 hp 31 [(0, .ref a0), (1, .int x1)] [] := by
  obtain ⟨f, hf⟩ := hf
  refine xloop_ind (F := fun k31 a => wp_Model_takeNumber_31_b z Q  k31 a.1 a.2.1 a.2.2) (E := fun a => xE p l e rm_Model_takeNumber s m args below meth c G A 2 Qw 0 0 a.2.2 31 [(0, .ref (a.1)), (1, .int (a.2.1))] []) ?_ f (a0, x1, hp) hf
  intro k31 hk a hf
  obtain ⟨a0, x1, hp⟩ := a
  have hk31 : ∀ (a0 : Nat) (x1 : Int32) (hp : xh), k31 (a0, x1, hp) → xE p l e rm_Model_takeNumber s m args below meth c G A 2 Qw 0 0 hp 31 [(0, .ref a0), (1, .int x1)] [] := fun a0 x1 hp h => hk (a0, x1, hp) h
  have hf : wp_Model_takeNumber_31_b z Q  k31 a0 x1 hp := hf
  unfold wp_Model_takeNumber_31_b at hf
  refine x_aload_n X (q := 0) d_Model_takeNumber_31 rfl 32 rfl ?_
  refine x_callV0z X (t_Model_isDigit hf.2) hf.1 (ci := 12) rfl rfl lm_Model_153 im_Model_isDigit sl_Model_isDigit cd_Model_isDigit in_Model ds_Model_isDigit rfl rfl (Nat.le_of_ble_eq_true rfl) (Nat.le_of_ble_eq_true rfl) (Nat.le_of_ble_eq_true rfl) rfl rfl (Nat.le_refl 0) (Nat.le_refl 0) d_Model_takeNumber_32 35 rfl (fun v2 h1 hb3 hf => ?_)
  refine x_if_eq X hf d_Model_takeNumber_35 109 38 (by decide) rfl (fun hf => ?_) (fun hf => ?_)
  · exact hret _ _ _ _ _ none (Nat.le_refl 0) (Nat.le_refl 0) ⟨rfl, hf⟩ ⟨rfl, d_Model_takeNumber_109⟩
  · refine x_aload_n X (q := 0) d_Model_takeNumber_38 rfl 39 rfl ?_
    refine x_getI X hf (ci := 12) (j := 7) rfl (by decide) rfl lf_Model_136 d_Model_takeNumber_39 42 rfl (fun v4 hf => ?_)
    refine x_if_ne X hf d_Model_takeNumber_42 109 45 (by decide) rfl (fun hf => ?_) (fun hf => ?_)
    · exact hret _ _ _ _ _ none (Nat.le_refl 0) (Nat.le_refl 0) ⟨rfl, hf⟩ ⟨rfl, d_Model_takeNumber_109⟩
    · refine x_iload_n X (q := 1) d_Model_takeNumber_45 rfl 46 rfl ?_
      refine x_iconst X (v := 4) d_Model_takeNumber_46 (by decide) 47 rfl ?_
      refine x_icmp_eq X hf d_Model_takeNumber_47 62 50 (by decide) rfl (fun hf => ?_) (fun hf => ?_)
      · exact x_sub [0, 1] rfl (t_Model_takeNumber_62 X hret hk31 hf)
      · refine x_iload_n X (q := 1) d_Model_takeNumber_50 rfl 51 rfl ?_
        refine x_iconst X (v := 1) d_Model_takeNumber_51 (by decide) 52 rfl ?_
        refine x_icmp_ne X hf d_Model_takeNumber_52 74 55 (by decide) rfl (fun hf => ?_) (fun hf => ?_)
        · exact x_sub [0, 1] rfl (t_Model_takeNumber_74 X hret hk31 hf)
        · refine x_aload_n X (q := 0) d_Model_takeNumber_55 rfl 56 rfl ?_
          refine x_getI X hf (ci := 12) (j := 9) rfl (by decide) rfl lf_Model_150 d_Model_takeNumber_56 59 rfl (fun v5 hf => ?_)
          refine x_if_ne X hf d_Model_takeNumber_59 74 62 (by decide) rfl (fun hf => ?_) (fun hf => ?_)
          · exact x_sub [0, 1] rfl (t_Model_takeNumber_74 X hret hk31 hf)
          · exact x_sub [0, 1] rfl (t_Model_takeNumber_62 X hret hk31 hf)
set_option maxRecDepth 100000 in
def wp_Model_takeNumber (z : Nat → Nat) (Q : xh → Prop) (a0 : Nat) (hp : xh) : Prop :=
  ∃ v1, fI hp a0 12 7 = some v1 ∧ ((v1 ≤ 0 → (∃ h2, pV hp a0 12 9 (.int 0) = some h2 ∧ (xcls h2 a0 12 ∧ wp_Model_isDigit z (fun v4 h3 => (¬ v4 = 0 → wp_Model_takeNumber_31 z Q a0 0 h3) ∧ (v4 = 0 → (∃ v6, fI h3 a0 12 6 = some v6 ∧ (xcls h3 a0 12 ∧ wp_Model_wrong z (fun h7 => wp_Model_takeNumber_31 z Q a0 0 h7) a0 1 v6 h3)))) a0 h2))) ∧ (¬ v1 ≤ 0 → Q hp))
set_option maxRecDepth 100000 in
set_option maxHeartbeats 4000000 in
theorem t_Model_takeNumber {l : Launch} {G : xG} {z : Nat → Nat} {Q : xh → Prop} {a0 : Nat} {hp : xh} (hf : wp_Model_takeNumber z Q a0 hp) : xM l G z y_Model_takeNumber b_Model_takeNumber 2 none rm_Model_takeNumber [.ref a0] hp (xqv Q) := by
  refine xM_of (by decide) (Nat.le_of_ble_eq_true rfl) (lv0 := [(0, .ref a0)]) rfl ?_
  intro p e s m args below meth c A Qw X hret
  unfold wp_Model_takeNumber at hf
  refine x_aload_n X (q := 0) d_Model_takeNumber_0 rfl 1 rfl ?_
  refine x_getI X hf (ci := 12) (j := 7) rfl (by decide) rfl lf_Model_136 d_Model_takeNumber_1 4 rfl (fun v1 hf => ?_)
  refine x_if_le X hf d_Model_takeNumber_4 8 7 (by decide) rfl (fun hf => ?_) (fun hf => ?_)
  · refine x_iconst X (v := 0) d_Model_takeNumber_8 (by decide) 9 rfl ?_
    refine x_istore_n X (lv' := [(1, .int 0), (0, .ref a0)]) d_Model_takeNumber_9 rfl (by decide) rfl 10 rfl ?_
    refine x_aload_n X (q := 1) d_Model_takeNumber_10 rfl 11 rfl ?_
    refine x_iconst X (v := 0) d_Model_takeNumber_11 (by decide) 12 rfl ?_
    refine x_put X hf (ci := 12) (j := 9) (ty := .int) rfl (by decide) rfl lf_Model_150 rfl (by decide +kernel) rfl rfl d_Model_takeNumber_12 15 rfl (fun h2 hf => ?_)
    refine x_aload_n X (q := 1) d_Model_takeNumber_15 rfl 16 rfl ?_
    refine x_callV0z X (t_Model_isDigit hf.2) hf.1 (ci := 12) rfl rfl lm_Model_153 im_Model_isDigit sl_Model_isDigit cd_Model_isDigit in_Model ds_Model_isDigit rfl rfl (Nat.le_of_ble_eq_true rfl) (Nat.le_of_ble_eq_true rfl) (Nat.le_of_ble_eq_true rfl) rfl rfl (Nat.le_refl 0) (Nat.le_refl 0) d_Model_takeNumber_16 19 rfl (fun v4 h3 hb5 hf => ?_)
    refine x_if_ne X hf d_Model_takeNumber_19 31 22 (by decide) rfl (fun hf => ?_) (fun hf => ?_)
    · exact x_sub [1, 0] rfl (t_Model_takeNumber_31 X hret hf)
    · refine x_aload_n X (q := 1) d_Model_takeNumber_22 rfl 23 rfl ?_
      refine x_iconst X (v := 1) d_Model_takeNumber_23 (by decide) 24 rfl ?_
      refine x_aload_n X (q := 1) d_Model_takeNumber_24 rfl 25 rfl ?_
      refine x_getI X hf (ci := 12) (j := 6) rfl (by decide) rfl lf_Model_133 d_Model_takeNumber_25 28 rfl (fun v6 hf => ?_)
      refine x_callV0v X (t_Model_wrong hf.2) hf.1 (ci := 12) rfl rfl lm_Model_146 im_Model_wrong sl_Model_wrong cd_Model_wrong in_Model ds_Model_wrong rfl rfl (Nat.le_of_ble_eq_true rfl) (Nat.le_of_ble_eq_true rfl) (Nat.le_of_ble_eq_true rfl) rfl rfl (Nat.le_refl 0) (Nat.le_refl 0) d_Model_takeNumber_28 31 rfl (fun h7 hf => ?_)
      exact x_sub [1, 0] rfl (t_Model_takeNumber_31 X hret hf)
  · exact hret _ _ _ _ _ none (Nat.le_refl 0) (Nat.le_refl 0) ⟨rfl, hf⟩ ⟨rfl, d_Model_takeNumber_7⟩

set_option maxRecDepth 100000 in
def wp_Model_literal_40 (z : Nat → Nat) (Q : Int32 → xh → Prop)  (a0 : Nat) (hp : xh) : Prop :=
  ∃ v1, fI hp a0 12 9 = some v1 ∧ Q v1 hp
set_option maxRecDepth 100000 in
set_option maxHeartbeats 4000000 in
theorem t_Model_literal_40 {p : Program} {l : Launch} {e : Env} {s : State} {m : MethodId} {args : Array Value} {below : List Frame} {meth : Method} {c : Code} {G : xG} {z : Nat → Nat} {A : Nat → Prop} {Qw : State → Prop} {Q : Int32 → xh → Prop} {a0 : Nat} {hp : xh} (X : xX p l e rm_Model_literal s m args below meth c G z A y_Model_literal b_Model_literal 2) (hret : xRet p l e rm_Model_literal s m args below meth c G A 2 Qw b_Model_literal (some .int) (xqi Q))  (hf : wp_Model_literal_40 z Q  a0 hp) : xE p l e rm_Model_literal s m args below meth c G A 2 Qw 0 0 hp 40 [(0, .ref a0)] [] := by
  unfold wp_Model_literal_40 at hf
  refine x_aload_n X (q := 0) d_Model_literal_40 rfl 41 rfl ?_
  refine x_getI X hf (ci := 12) (j := 9) rfl (by decide) rfl lf_Model_150 d_Model_literal_41 44 rfl (fun v1 hf => ?_)
  exact hret _ _ _ _ _ (some (.int v1)) (Nat.le_refl 0) (Nat.le_refl 0) ⟨_, rfl, hf⟩ ⟨⟨_, rfl, rfl⟩, d_Model_literal_44⟩
set_option maxRecDepth 100000 in
def wp_Model_literal (z : Nat → Nat) (Q : Int32 → xh → Prop) (a0 : Nat) (hp : xh) : Prop :=
  ∃ v1, fI hp a0 12 6 = some v1 ∧ (xcls hp a0 12 ∧ wp_Model_takeNumber z (fun h2 => ∃ v3, fI h2 a0 12 7 = some v3 ∧ ((¬ v3 = 0 → wp_Model_literal_40 z Q a0 h2) ∧ (v3 = 0 → (∃ v4, fI h2 a0 12 9 = some v4 ∧ (∃ o5, fR h2 a0 12 10 = some o5 ∧ (∃ v6, aI h2 o5 0 10 = some v6 ∧ ((v4 ≤ ((2 * v6) + 1) → wp_Model_literal_40 z Q a0 h2) ∧ (¬ v4 ≤ ((2 * v6) + 1) → (xcls h2 a0 12 ∧ wp_Model_wrong z (fun h7 => wp_Model_literal_40 z Q a0 h7) a0 3 v1 h2))))))))) a0 hp)
set_option maxRecDepth 100000 in
set_option maxHeartbeats 4000000 in
theorem t_Model_literal {l : Launch} {G : xG} {z : Nat → Nat} {Q : Int32 → xh → Prop} {a0 : Nat} {hp : xh} (hf : wp_Model_literal z Q a0 hp) : xM l G z y_Model_literal b_Model_literal 2 (some .int) rm_Model_literal [.ref a0] hp (xqi Q) := by
  refine xM_of (by decide) (Nat.le_of_ble_eq_true rfl) (lv0 := [(0, .ref a0)]) rfl ?_
  intro p e s m args below meth c A Qw X hret
  unfold wp_Model_literal at hf
  refine x_aload_n X (q := 0) d_Model_literal_0 rfl 1 rfl ?_
  refine x_getI X hf (ci := 12) (j := 6) rfl (by decide) rfl lf_Model_133 d_Model_literal_1 4 rfl (fun v1 hf => ?_)
  refine x_istore_n X (lv' := [(1, .int v1), (0, .ref a0)]) d_Model_literal_4 rfl (by decide) rfl 5 rfl ?_
  refine x_aload_n X (q := 1) d_Model_literal_5 rfl 6 rfl ?_
  refine x_callV0v X (t_Model_takeNumber hf.2) hf.1 (ci := 12) rfl rfl lm_Model_157 im_Model_takeNumber sl_Model_takeNumber cd_Model_takeNumber in_Model ds_Model_takeNumber rfl rfl (Nat.le_of_ble_eq_true rfl) (Nat.le_of_ble_eq_true rfl) (Nat.le_of_ble_eq_true rfl) rfl rfl (Nat.le_refl 0) (Nat.le_refl 0) d_Model_literal_6 9 rfl (fun h2 hf => ?_)
  refine x_aload_n X (q := 1) d_Model_literal_9 rfl 10 rfl ?_
  refine x_getI X hf (ci := 12) (j := 7) rfl (by decide) rfl lf_Model_136 d_Model_literal_10 13 rfl (fun v3 hf => ?_)
  refine x_if_ne X hf d_Model_literal_13 40 16 (by decide) rfl (fun hf => ?_) (fun hf => ?_)
  · exact x_sub [1] rfl (t_Model_literal_40 X hret hf)
  · refine x_aload_n X (q := 1) d_Model_literal_16 rfl 17 rfl ?_
    refine x_getI X hf (ci := 12) (j := 9) rfl (by decide) rfl lf_Model_150 d_Model_literal_17 20 rfl (fun v4 hf => ?_)
    refine x_iconst X (v := 2) d_Model_literal_20 (by decide) 21 rfl ?_
    refine x_aload_n X (q := 1) d_Model_literal_21 rfl 22 rfl ?_
    refine x_getR X hf (ci := 12) (j := 10) rfl (by decide) rfl lf_Model_20 d_Model_literal_22 25 rfl (fun o5 hf => ?_)
    refine x_bipush X (v := 10) d_Model_literal_25 (by decide) 27 rfl ?_
    refine x_iald X hf d_Model_literal_27 28 rfl (fun v6 hf => ?_)
    refine x_imul X d_Model_literal_28 29 rfl ?_
    refine x_iconst X (v := 1) d_Model_literal_29 (by decide) 30 rfl ?_
    refine x_iadd X d_Model_literal_30 31 rfl ?_
    refine x_icmp_le X hf d_Model_literal_31 40 34 (by decide) rfl (fun hf => ?_) (fun hf => ?_)
    · exact x_sub [1] rfl (t_Model_literal_40 X hret hf)
    · refine x_aload_n X (q := 1) d_Model_literal_34 rfl 35 rfl ?_
      refine x_iconst X (v := 3) d_Model_literal_35 (by decide) 36 rfl ?_
      refine x_iload_n X (q := 0) d_Model_literal_36 rfl 37 rfl ?_
      refine x_callV0v X (t_Model_wrong hf.2) hf.1 (ci := 12) rfl rfl lm_Model_146 im_Model_wrong sl_Model_wrong cd_Model_wrong in_Model ds_Model_wrong rfl rfl (Nat.le_of_ble_eq_true rfl) (Nat.le_of_ble_eq_true rfl) (Nat.le_of_ble_eq_true rfl) rfl rfl (Nat.le_refl 0) (Nat.le_refl 0) d_Model_literal_37 40 rfl (fun h7 hf => ?_)
      exact x_sub [1] rfl (t_Model_literal_40 X hret hf)

set_option maxRecDepth 100000 in
def wp_Model_define (z : Nat → Nat) (Q : xh → Prop) (a0 : Nat) (x1 : Int32) (x2 : Int32) (x3 : Int32) (hp : xh) : Prop :=
  ∃ o1, fR hp a0 12 18 = some o1 ∧ (∃ h2, sI hp o1 0 (402 + x1) x2 = some h2 ∧ (∃ o3, fR h2 a0 12 19 = some o3 ∧ (∃ h4, sI h2 o3 0 (402 + x1) x3 = some h4 ∧ Q h4)))
set_option maxRecDepth 100000 in
set_option maxHeartbeats 4000000 in
theorem t_Model_define {l : Launch} {G : xG} {z : Nat → Nat} {Q : xh → Prop} {a0 : Nat} {x1 : Int32} {x2 : Int32} {x3 : Int32} {hp : xh} (hf : wp_Model_define z Q a0 x1 x2 x3 hp) : xM l G z y_Model_define b_Model_define 4 none rm_Model_define [.ref a0, .int x1, .int x2, .int x3] hp (xqv Q) := by
  refine xM_of (by decide) (Nat.le_of_ble_eq_true rfl) (lv0 := [(0, .ref a0), (1, .int x1), (2, .int x2), (3, .int x3)]) rfl ?_
  intro p e s m args below meth c A Qw X hret
  unfold wp_Model_define at hf
  refine x_aload_n X (q := 0) d_Model_define_0 rfl 1 rfl ?_
  refine x_getR X hf (ci := 12) (j := 18) rfl (by decide) rfl lf_Model_45 d_Model_define_1 4 rfl (fun o1 hf => ?_)
  refine x_sipush X (v := 402) d_Model_define_4 (by decide) 7 rfl ?_
  refine x_iload_n X (q := 1) d_Model_define_7 rfl 8 rfl ?_
  refine x_iadd X d_Model_define_8 9 rfl ?_
  refine x_iload_n X (q := 2) d_Model_define_9 rfl 10 rfl ?_
  refine x_iast X hf d_Model_define_10 11 rfl (fun h2 hf => ?_)
  refine x_aload_n X (q := 0) d_Model_define_11 rfl 12 rfl ?_
  refine x_getR X hf (ci := 12) (j := 19) rfl (by decide) rfl lf_Model_48 d_Model_define_12 15 rfl (fun o3 hf => ?_)
  refine x_sipush X (v := 402) d_Model_define_15 (by decide) 18 rfl ?_
  refine x_iload_n X (q := 1) d_Model_define_18 rfl 19 rfl ?_
  refine x_iadd X d_Model_define_19 20 rfl ?_
  refine x_iload_n X (q := 3) d_Model_define_20 rfl 21 rfl ?_
  refine x_iast X hf d_Model_define_21 22 rfl (fun h4 hf => ?_)
  exact hret _ _ _ _ _ none (Nat.le_refl 0) (Nat.le_refl 0) ⟨rfl, hf⟩ ⟨rfl, d_Model_define_22⟩

set_option maxRecDepth 100000 in
def wp_Model_defines_71 (z : Nat → Nat) (Q : Int32 → xh → Prop)  (x4 : Int32) (hp : xh) : Prop :=
  Q x4 hp
set_option maxRecDepth 100000 in
set_option maxHeartbeats 4000000 in
theorem t_Model_defines_71 {p : Program} {l : Launch} {e : Env} {s : State} {m : MethodId} {args : Array Value} {below : List Frame} {meth : Method} {c : Code} {G : xG} {z : Nat → Nat} {A : Nat → Prop} {Qw : State → Prop} {Q : Int32 → xh → Prop} {x4 : Int32} {hp : xh} (X : xX p l e rm_Model_defines s m args below meth c G z A y_Model_defines b_Model_defines 5) (hret : xRet p l e rm_Model_defines s m args below meth c G A 5 Qw b_Model_defines (some .int) (xqi Q))  (hf : wp_Model_defines_71 z Q  x4 hp) : xE p l e rm_Model_defines s m args below meth c G A 5 Qw 0 0 hp 71 [(4, .int x4)] [] := by
  unfold wp_Model_defines_71 at hf
  refine x_iload X (q := 0) d_Model_defines_71 rfl 73 rfl ?_
  exact hret _ _ _ _ _ (some (.int x4)) (Nat.le_refl 0) (Nat.le_refl 0) ⟨_, rfl, hf⟩ ⟨⟨_, rfl, rfl⟩, d_Model_defines_73⟩
set_option maxRecDepth 100000 in
def wp_Model_defines_54 (z : Nat → Nat) (Q : Int32 → xh → Prop)  (a0 : Nat) (x1 : Int32) (x2 : Int32) (x4 : Int32) (hp : xh) : Prop :=
  ∃ v1, fI hp a0 12 7 = some v1 ∧ ((¬ v1 = 0 → wp_Model_defines_71 z Q x4 hp) ∧ (v1 = 0 → (xcls hp a0 12 ∧ wp_Model_define z (fun h2 => wp_Model_defines_71 z Q x4 h2) a0 (x4 / 2) x1 x2 hp)))
set_option maxRecDepth 100000 in
set_option maxHeartbeats 4000000 in
theorem t_Model_defines_54 {p : Program} {l : Launch} {e : Env} {s : State} {m : MethodId} {args : Array Value} {below : List Frame} {meth : Method} {c : Code} {G : xG} {z : Nat → Nat} {A : Nat → Prop} {Qw : State → Prop} {Q : Int32 → xh → Prop} {a0 : Nat} {x1 : Int32} {x2 : Int32} {x4 : Int32} {hp : xh} (X : xX p l e rm_Model_defines s m args below meth c G z A y_Model_defines b_Model_defines 5) (hret : xRet p l e rm_Model_defines s m args below meth c G A 5 Qw b_Model_defines (some .int) (xqi Q))  (hf : wp_Model_defines_54 z Q  a0 x1 x2 x4 hp) : xE p l e rm_Model_defines s m args below meth c G A 5 Qw 0 0 hp 54 [(0, .ref a0), (1, .int x1), (2, .int x2), (4, .int x4)] [] := by
  unfold wp_Model_defines_54 at hf
  refine x_aload_n X (q := 0) d_Model_defines_54 rfl 55 rfl ?_
  refine x_getI X hf (ci := 12) (j := 7) rfl (by decide) rfl lf_Model_136 d_Model_defines_55 58 rfl (fun v1 hf => ?_)
  refine x_if_ne X hf d_Model_defines_58 71 61 (by decide) rfl (fun hf => ?_) (fun hf => ?_)
  · exact x_sub [3] rfl (t_Model_defines_71 X hret hf)
  · refine x_aload_n X (q := 0) d_Model_defines_61 rfl 62 rfl ?_
    refine x_iload X (q := 3) d_Model_defines_62 rfl 64 rfl ?_
    refine x_iconst X (v := 2) d_Model_defines_64 (by decide) 65 rfl ?_
    refine x_idiv X (by decide) d_Model_defines_65 66 rfl ?_
    refine x_iload_n X (q := 1) d_Model_defines_66 rfl 67 rfl ?_
    refine x_iload_n X (q := 2) d_Model_defines_67 rfl 68 rfl ?_
    refine x_callV0v X (t_Model_define hf.2) hf.1 (ci := 12) rfl rfl lm_Model_163 im_Model_define sl_Model_define cd_Model_define in_Model ds_Model_define rfl rfl (Nat.le_of_ble_eq_true rfl) (Nat.le_of_ble_eq_true rfl) (Nat.le_of_ble_eq_true rfl) rfl rfl (Nat.le_refl 0) (Nat.le_refl 0) d_Model_defines_68 71 rfl (fun h2 hf => ?_)
    exact x_sub [3] rfl (t_Model_defines_71 X hret hf)
set_option maxRecDepth 100000 in
def wp_Model_defines_48 (z : Nat → Nat) (Q : Int32 → xh → Prop)  (a0 : Nat) (x1 : Int32) (x2 : Int32) (x3 : Int32) (x4 : Int32) (hp : xh) : Prop :=
  xcls hp a0 12 ∧ wp_Model_wrong z (fun h1 => wp_Model_defines_54 z Q a0 x1 x2 x4 h1) a0 4 x3 hp
set_option maxRecDepth 100000 in
set_option maxHeartbeats 4000000 in
theorem t_Model_defines_48 {p : Program} {l : Launch} {e : Env} {s : State} {m : MethodId} {args : Array Value} {below : List Frame} {meth : Method} {c : Code} {G : xG} {z : Nat → Nat} {A : Nat → Prop} {Qw : State → Prop} {Q : Int32 → xh → Prop} {a0 : Nat} {x1 : Int32} {x2 : Int32} {x3 : Int32} {x4 : Int32} {hp : xh} (X : xX p l e rm_Model_defines s m args below meth c G z A y_Model_defines b_Model_defines 5) (hret : xRet p l e rm_Model_defines s m args below meth c G A 5 Qw b_Model_defines (some .int) (xqi Q))  (hf : wp_Model_defines_48 z Q  a0 x1 x2 x3 x4 hp) : xE p l e rm_Model_defines s m args below meth c G A 5 Qw 0 0 hp 48 [(0, .ref a0), (1, .int x1), (2, .int x2), (3, .int x3), (4, .int x4)] [] := by
  unfold wp_Model_defines_48 at hf
  refine x_aload_n X (q := 0) d_Model_defines_48 rfl 49 rfl ?_
  refine x_iconst X (v := 4) d_Model_defines_49 (by decide) 50 rfl ?_
  refine x_iload_n X (q := 3) d_Model_defines_50 rfl 51 rfl ?_
  refine x_callV0v X (t_Model_wrong hf.2) hf.1 (ci := 12) rfl rfl lm_Model_146 im_Model_wrong sl_Model_wrong cd_Model_wrong in_Model ds_Model_wrong rfl rfl (Nat.le_of_ble_eq_true rfl) (Nat.le_of_ble_eq_true rfl) (Nat.le_of_ble_eq_true rfl) rfl rfl (Nat.le_refl 0) (Nat.le_refl 0) d_Model_defines_51 54 rfl (fun h1 hf => ?_)
  exact x_sub [0, 1, 2, 4] rfl (t_Model_defines_54 X hret hf)
set_option maxRecDepth 100000 in
def wp_Model_defines (z : Nat → Nat) (Q : Int32 → xh → Prop) (a0 : Nat) (x1 : Int32) (x2 : Int32) (hp : xh) : Prop :=
  ∃ v1, fI hp a0 12 6 = some v1 ∧ (xcls hp a0 12 ∧ wp_Model_literal z (fun v3 h2 => ∃ v4, fI h2 a0 12 7 = some v4 ∧ ((¬ v4 = 0 → wp_Model_defines_54 z Q a0 x1 x2 v3 h2) ∧ (v4 = 0 → ((v3 < 2 → wp_Model_defines_48 z Q a0 x1 x2 v1 v3 h2) ∧ (¬ v3 < 2 → (((v3 - v3 / 2 * 2) = 1 → wp_Model_defines_48 z Q a0 x1 x2 v1 v3 h2) ∧ (¬ (v3 - v3 / 2 * 2) = 1 → (∃ o5, fR h2 a0 12 18 = some o5 ∧ (∃ v6, aI h2 o5 0 (402 + (v3 / 2)) = some v6 ∧ ((v6 = 0 → wp_Model_defines_54 z Q a0 x1 x2 v3 h2) ∧ (¬ v6 = 0 → wp_Model_defines_48 z Q a0 x1 x2 v1 v3 h2))))))))))) a0 hp)
set_option maxRecDepth 100000 in
set_option maxHeartbeats 4000000 in
theorem t_Model_defines {l : Launch} {G : xG} {z : Nat → Nat} {Q : Int32 → xh → Prop} {a0 : Nat} {x1 : Int32} {x2 : Int32} {hp : xh} (hf : wp_Model_defines z Q a0 x1 x2 hp) : xM l G z y_Model_defines b_Model_defines 5 (some .int) rm_Model_defines [.ref a0, .int x1, .int x2] hp (xqi Q) := by
  refine xM_of (by decide) (Nat.le_of_ble_eq_true rfl) (lv0 := [(0, .ref a0), (1, .int x1), (2, .int x2)]) rfl ?_
  intro p e s m args below meth c A Qw X hret
  unfold wp_Model_defines at hf
  refine x_aload_n X (q := 0) d_Model_defines_0 rfl 1 rfl ?_
  refine x_getI X hf (ci := 12) (j := 6) rfl (by decide) rfl lf_Model_133 d_Model_defines_1 4 rfl (fun v1 hf => ?_)
  refine x_istore_n X (lv' := [(3, .int v1), (0, .ref a0), (1, .int x1), (2, .int x2)]) d_Model_defines_4 rfl (by decide) rfl 5 rfl ?_
  refine x_aload_n X (q := 1) d_Model_defines_5 rfl 6 rfl ?_
  refine x_callV0i X (t_Model_literal hf.2) hf.1 (ci := 12) rfl rfl lm_Model_160 im_Model_literal sl_Model_literal cd_Model_literal in_Model ds_Model_literal rfl rfl (Nat.le_of_ble_eq_true rfl) (Nat.le_of_ble_eq_true rfl) (Nat.le_of_ble_eq_true rfl) rfl rfl (Nat.le_refl 0) (Nat.le_refl 0) d_Model_defines_6 9 rfl (fun v3 h2 hf => ?_)
  refine x_istore X (lv' := [(4, .int v3), (3, .int v1), (0, .ref a0), (1, .int x1), (2, .int x2)]) d_Model_defines_9 (by decide) rfl 11 rfl ?_
  refine x_aload_n X (q := 2) d_Model_defines_11 rfl 12 rfl ?_
  refine x_getI X hf (ci := 12) (j := 7) rfl (by decide) rfl lf_Model_136 d_Model_defines_12 15 rfl (fun v4 hf => ?_)
  refine x_if_ne X hf d_Model_defines_15 54 18 (by decide) rfl (fun hf => ?_) (fun hf => ?_)
  · exact x_sub [2, 3, 4, 0] rfl (t_Model_defines_54 X hret hf)
  · refine x_iload X (q := 0) d_Model_defines_18 rfl 20 rfl ?_
    refine x_iconst X (v := 2) d_Model_defines_20 (by decide) 21 rfl ?_
    refine x_icmp_lt X hf d_Model_defines_21 48 24 (by decide) rfl (fun hf => ?_) (fun hf => ?_)
    · exact x_sub [2, 3, 4, 1, 0] rfl (t_Model_defines_48 X hret hf)
    · refine x_iload X (q := 0) d_Model_defines_24 rfl 26 rfl ?_
      refine x_iconst X (v := 2) d_Model_defines_26 (by decide) 27 rfl ?_
      refine x_irem X (by decide) d_Model_defines_27 28 rfl ?_
      refine x_iconst X (v := 1) d_Model_defines_28 (by decide) 29 rfl ?_
      refine x_icmp_eq X hf d_Model_defines_29 48 32 (by decide) rfl (fun hf => ?_) (fun hf => ?_)
      · exact x_sub [2, 3, 4, 1, 0] rfl (t_Model_defines_48 X hret hf)
      · refine x_aload_n X (q := 2) d_Model_defines_32 rfl 33 rfl ?_
        refine x_getR X hf (ci := 12) (j := 18) rfl (by decide) rfl lf_Model_45 d_Model_defines_33 36 rfl (fun o5 hf => ?_)
        refine x_sipush X (v := 402) d_Model_defines_36 (by decide) 39 rfl ?_
        refine x_iload X (q := 0) d_Model_defines_39 rfl 41 rfl ?_
        refine x_iconst X (v := 2) d_Model_defines_41 (by decide) 42 rfl ?_
        refine x_idiv X (by decide) d_Model_defines_42 43 rfl ?_
        refine x_iadd X d_Model_defines_43 44 rfl ?_
        refine x_iald X hf d_Model_defines_44 45 rfl (fun v6 hf => ?_)
        refine x_if_eq X hf d_Model_defines_45 54 48 (by decide) rfl (fun hf => ?_) (fun hf => ?_)
        · exact x_sub [2, 3, 4, 0] rfl (t_Model_defines_54 X hret hf)
        · exact x_sub [2, 3, 4, 1, 0] rfl (t_Model_defines_48 X hret hf)

set_option maxRecDepth 100000 in
def wp_Model_takeHead_224 (z : Nat → Nat) (Q : Int32 → xh → Prop)  (x1 : Int32) (hp : xh) : Prop :=
  xbl x1 ∧ Q x1 hp
set_option maxRecDepth 100000 in
set_option maxHeartbeats 4000000 in
theorem t_Model_takeHead_224 {p : Program} {l : Launch} {e : Env} {s : State} {m : MethodId} {args : Array Value} {below : List Frame} {meth : Method} {c : Code} {G : xG} {z : Nat → Nat} {A : Nat → Prop} {Qw : State → Prop} {Q : Int32 → xh → Prop} {x1 : Int32} {hp : xh} (X : xX p l e rm_Model_takeHead s m args below meth c G z A y_Model_takeHead b_Model_takeHead 4) (hret : xRet p l e rm_Model_takeHead s m args below meth c G A 4 Qw b_Model_takeHead (some .boolean) (xqz Q))  (hf : wp_Model_takeHead_224 z Q  x1 hp) : xE p l e rm_Model_takeHead s m args below meth c G A 4 Qw 0 0 hp 224 [(1, .int x1)] [] := by
  unfold wp_Model_takeHead_224 at hf
  refine x_iload_n X (q := 0) d_Model_takeHead_224 rfl 225 rfl ?_
  exact hret _ _ _ _ _ (some (.int x1)) (Nat.le_refl 0) (Nat.le_refl 0) ⟨_, rfl, hf.1, hf.2⟩ ⟨⟨_, rfl, xbl_nar hf.1⟩, d_Model_takeHead_225⟩
set_option maxRecDepth 100000 in
def wp_Model_takeHead_203 (z : Nat → Nat) (Q : Int32 → xh → Prop)  (a0 : Nat) (x1 : Int32) (s0 : Int32) (hp : xh) : Prop :=
  ∃ v1, fI hp a0 12 7 = some v1 ∧ ((¬ v1 = 0 → wp_Model_takeHead_224 z Q x1 hp) ∧ (v1 = 0 → ((¬ s0 = 0 → wp_Model_takeHead_224 z Q x1 hp) ∧ (s0 = 0 → (∃ v2, fI hp a0 12 6 = some v2 ∧ (xcls hp a0 12 ∧ wp_Model_wrong z (fun h3 => wp_Model_takeHead_224 z Q x1 h3) a0 2 v2 hp))))))
set_option maxRecDepth 100000 in
set_option maxHeartbeats 4000000 in
theorem t_Model_takeHead_203 {p : Program} {l : Launch} {e : Env} {s : State} {m : MethodId} {args : Array Value} {below : List Frame} {meth : Method} {c : Code} {G : xG} {z : Nat → Nat} {A : Nat → Prop} {Qw : State → Prop} {Q : Int32 → xh → Prop} {a0 : Nat} {x1 : Int32} {s0 : Int32} {hp : xh} (X : xX p l e rm_Model_takeHead s m args below meth c G z A y_Model_takeHead b_Model_takeHead 4) (hret : xRet p l e rm_Model_takeHead s m args below meth c G A 4 Qw b_Model_takeHead (some .boolean) (xqz Q))  (hf : wp_Model_takeHead_203 z Q  a0 x1 s0 hp) : xE p l e rm_Model_takeHead s m args below meth c G A 4 Qw 0 0 hp 203 [(0, .ref a0), (1, .int x1)] [.int s0] := by
  unfold wp_Model_takeHead_203 at hf
  refine x_istore_n X (lv' := [(3, .int s0), (0, .ref a0), (1, .int x1)]) d_Model_takeHead_203 rfl (by decide) rfl 204 rfl ?_
  refine x_aload_n X (q := 1) d_Model_takeHead_204 rfl 205 rfl ?_
  refine x_getI X hf (ci := 12) (j := 7) rfl (by decide) rfl lf_Model_136 d_Model_takeHead_205 208 rfl (fun v1 hf => ?_)
  refine x_if_ne X hf d_Model_takeHead_208 224 211 (by decide) rfl (fun hf => ?_) (fun hf => ?_)
  · exact x_sub [2] rfl (t_Model_takeHead_224 X hret hf)
  · refine x_iload_n X (q := 0) d_Model_takeHead_211 rfl 212 rfl ?_
    refine x_if_ne X hf d_Model_takeHead_212 224 215 (by decide) rfl (fun hf => ?_) (fun hf => ?_)
    · exact x_sub [2] rfl (t_Model_takeHead_224 X hret hf)
    · refine x_aload_n X (q := 1) d_Model_takeHead_215 rfl 216 rfl ?_
      refine x_iconst X (v := 2) d_Model_takeHead_216 (by decide) 217 rfl ?_
      refine x_aload_n X (q := 1) d_Model_takeHead_217 rfl 218 rfl ?_
      refine x_getI X hf (ci := 12) (j := 6) rfl (by decide) rfl lf_Model_133 d_Model_takeHead_218 221 rfl (fun v2 hf => ?_)
      refine x_callV0v X (t_Model_wrong hf.2) hf.1 (ci := 12) rfl rfl lm_Model_146 im_Model_wrong sl_Model_wrong cd_Model_wrong in_Model ds_Model_wrong rfl rfl (Nat.le_of_ble_eq_true rfl) (Nat.le_of_ble_eq_true rfl) (Nat.le_of_ble_eq_true rfl) rfl rfl (Nat.le_refl 0) (Nat.le_refl 0) d_Model_takeHead_221 224 rfl (fun h3 hf => ?_)
      exact x_sub [2] rfl (t_Model_takeHead_224 X hret hf)
set_option maxRecDepth 100000 in
def wp_Model_takeHead_202 (z : Nat → Nat) (Q : Int32 → xh → Prop)  (a0 : Nat) (x1 : Int32) (hp : xh) : Prop :=
  wp_Model_takeHead_203 z Q a0 x1 0 hp
set_option maxRecDepth 100000 in
set_option maxHeartbeats 4000000 in
theorem t_Model_takeHead_202 {p : Program} {l : Launch} {e : Env} {s : State} {m : MethodId} {args : Array Value} {below : List Frame} {meth : Method} {c : Code} {G : xG} {z : Nat → Nat} {A : Nat → Prop} {Qw : State → Prop} {Q : Int32 → xh → Prop} {a0 : Nat} {x1 : Int32} {hp : xh} (X : xX p l e rm_Model_takeHead s m args below meth c G z A y_Model_takeHead b_Model_takeHead 4) (hret : xRet p l e rm_Model_takeHead s m args below meth c G A 4 Qw b_Model_takeHead (some .boolean) (xqz Q))  (hf : wp_Model_takeHead_202 z Q  a0 x1 hp) : xE p l e rm_Model_takeHead s m args below meth c G A 4 Qw 0 0 hp 202 [(0, .ref a0), (1, .int x1)] [] := by
  unfold wp_Model_takeHead_202 at hf
  refine x_iconst X (v := 0) d_Model_takeHead_202 (by decide) 203 rfl ?_
  exact x_sub [0, 1] rfl (t_Model_takeHead_203 X hret hf)
set_option maxRecDepth 100000 in
def wp_Model_takeHead_198 (z : Nat → Nat) (Q : Int32 → xh → Prop)  (a0 : Nat) (x1 : Int32) (hp : xh) : Prop :=
  wp_Model_takeHead_203 z Q a0 x1 1 hp
set_option maxRecDepth 100000 in
set_option maxHeartbeats 4000000 in
theorem t_Model_takeHead_198 {p : Program} {l : Launch} {e : Env} {s : State} {m : MethodId} {args : Array Value} {below : List Frame} {meth : Method} {c : Code} {G : xG} {z : Nat → Nat} {A : Nat → Prop} {Qw : State → Prop} {Q : Int32 → xh → Prop} {a0 : Nat} {x1 : Int32} {hp : xh} (X : xX p l e rm_Model_takeHead s m args below meth c G z A y_Model_takeHead b_Model_takeHead 4) (hret : xRet p l e rm_Model_takeHead s m args below meth c G A 4 Qw b_Model_takeHead (some .boolean) (xqz Q))  (hf : wp_Model_takeHead_198 z Q  a0 x1 hp) : xE p l e rm_Model_takeHead s m args below meth c G A 4 Qw 0 0 hp 198 [(0, .ref a0), (1, .int x1)] [] := by
  unfold wp_Model_takeHead_198 at hf
  refine x_iconst X (v := 1) d_Model_takeHead_198 (by decide) 199 rfl ?_
  refine x_goto X d_Model_takeHead_199 203 (by decide) ?_
  exact x_sub [0, 1] rfl (t_Model_takeHead_203 X hret hf)
set_option maxRecDepth 100000 in
def wp_Model_takeHead_44_b (z : Nat → Nat) (Q : Int32 → xh → Prop)  (k44 : Nat × Int32 × Int32 × xh → Prop) (a0 : Nat) (x1 : Int32) (x2 : Int32) (hp : xh) : Prop :=
  (5 ≤ x2 → (xcls hp a0 12 ∧ wp_Model_take z (fun h1 => ∃ o2, fR h1 a0 12 10 = some o2 ∧ (∃ v3, aI h1 o2 0 11 = some v3 ∧ (∃ o4, fR h1 a0 12 10 = some o4 ∧ (∃ v5, aI h1 o4 0 12 = some v5 ∧ (∃ o6, fR h1 a0 12 10 = some o6 ∧ (∃ v7, aI h1 o6 0 14 = some v7 ∧ (∀ v8, v8 = ((v3 + v5) + v7) → ∃ o9, fR h1 a0 12 10 = some o9 ∧ (∃ v10, aI h1 o9 0 10 = some v10 ∧ ((200 < v10 → wp_Model_takeHead_202 z Q a0 x1 h1) ∧ (¬ 200 < v10 → (∃ o11, fR h1 a0 12 10 = some o11 ∧ (∃ v12, aI h1 o11 0 11 = some v12 ∧ ((5 < v12 → wp_Model_takeHead_202 z Q a0 x1 h1) ∧ (¬ 5 < v12 → (∃ o13, fR h1 a0 12 10 = some o13 ∧ (∃ v14, aI h1 o13 0 12 = some v14 ∧ ((6 < v14 → wp_Model_takeHead_202 z Q a0 x1 h1) ∧ (¬ 6 < v14 → (∃ o15, fR h1 a0 12 10 = some o15 ∧ (∃ v16, aI h1 o15 0 13 = some v16 ∧ ((8 < v16 → wp_Model_takeHead_202 z Q a0 x1 h1) ∧ (¬ 8 < v16 → (∃ o17, fR h1 a0 12 10 = some o17 ∧ (∃ v18, aI h1 o17 0 14 = some v18 ∧ ((150 < v18 → wp_Model_takeHead_202 z Q a0 x1 h1) ∧ (¬ 150 < v18 → ((x1 = 0 → (∃ o19, fR h1 a0 12 10 = some o19 ∧ (∃ v20, aI h1 o19 0 10 = some v20 ∧ ((v20 < v8 → wp_Model_takeHead_202 z Q a0 x1 h1) ∧ (¬ v20 < v8 → wp_Model_takeHead_198 z Q a0 x1 h1))))) ∧ (¬ x1 = 0 → (∃ o21, fR h1 a0 12 10 = some o21 ∧ (∃ v22, aI h1 o21 0 10 = some v22 ∧ ((¬ v22 = v8 → wp_Model_takeHead_202 z Q a0 x1 h1) ∧ (v22 = v8 → wp_Model_takeHead_198 z Q a0 x1 h1)))))))))))))))))))))))))))))))) a0 10 hp)) ∧ (¬ 5 ≤ x2 → (xcls hp a0 12 ∧ wp_Model_take z (fun h23 => xcls h23 a0 12 ∧ wp_Model_takeNumber z (fun h24 => ∃ o25, fR h24 a0 12 10 = some o25 ∧ (∃ v26, fI h24 a0 12 9 = some v26 ∧ (∃ h27, sI h24 o25 0 (10 + x2) v26 = some h27 ∧ (k44 (a0, x1, (x2 + 1), h27))))) a0 h23) a0 32 hp))
set_option maxRecDepth 100000 in
def wp_Model_takeHead_44 (z : Nat → Nat) (Q : Int32 → xh → Prop)  (a0 : Nat) (x1 : Int32) (x2 : Int32) (hp : xh) : Prop := ∃ f : Nat, xloop (fun k44 a => wp_Model_takeHead_44_b z Q  k44 a.1 a.2.1 a.2.2.1 a.2.2.2) f (a0, x1, x2, hp)
set_option maxRecDepth 100000 in
set_option maxHeartbeats 4000000 in
theorem t_Model_takeHead_44 {p : Program} {l : Launch} {e : Env} {s : State} {m : MethodId} {args : Array Value} {below : List Frame} {meth : Method} {c : Code} {G : xG} {z : Nat → Nat} {A : Nat → Prop} {Qw : State → Prop} {Q : Int32 → xh → Prop} {a0 : Nat} {x1 : Int32} {x2 : Int32} {hp : xh} (X : xX p l e rm_Model_takeHead s m args below meth c G z A y_Model_takeHead b_Model_takeHead 4) (hret : xRet p l e rm_Model_takeHead s m args below meth c G A 4 Qw b_Model_takeHead (some .boolean) (xqz Q))  (hf : wp_Model_takeHead_44 z Q  a0 x1 x2 hp) : xE p l e rm_Model_takeHead s m args below meth c G A 4 Qw 0 0 hp 44 [(0, .ref a0), (1, .int x1), (2, .int x2)] [] := by
  obtain ⟨f, hf⟩ := hf
  refine xloop_ind (F := fun k44 a => wp_Model_takeHead_44_b z Q  k44 a.1 a.2.1 a.2.2.1 a.2.2.2) (E := fun a => xE p l e rm_Model_takeHead s m args below meth c G A 4 Qw 0 0 a.2.2.2 44 [(0, .ref (a.1)), (1, .int (a.2.1)), (2, .int (a.2.2.1))] []) ?_ f (a0, x1, x2, hp) hf
  intro k44 hk a hf
  obtain ⟨a0, x1, x2, hp⟩ := a
  have hk44 : ∀ (a0 : Nat) (x1 : Int32) (x2 : Int32) (hp : xh), k44 (a0, x1, x2, hp) → xE p l e rm_Model_takeHead s m args below meth c G A 4 Qw 0 0 hp 44 [(0, .ref a0), (1, .int x1), (2, .int x2)] [] := fun a0 x1 x2 hp h => hk (a0, x1, x2, hp) h
  have hf : wp_Model_takeHead_44_b z Q  k44 a0 x1 x2 hp := hf
  unfold wp_Model_takeHead_44_b at hf
  refine x_iload_n X (q := 2) d_Model_takeHead_44 rfl 45 rfl ?_
  refine x_iconst X (v := 5) d_Model_takeHead_45 (by decide) 46 rfl ?_
  refine x_icmp_ge X hf d_Model_takeHead_46 78 49 (by decide) rfl (fun hf => ?_) (fun hf => ?_)
  · refine x_aload_n X (q := 0) d_Model_takeHead_78 rfl 79 rfl ?_
    refine x_bipush X (v := 10) d_Model_takeHead_79 (by decide) 81 rfl ?_
    refine x_callV0v X (t_Model_take hf.2) hf.1 (ci := 12) rfl rfl lm_Model_167 im_Model_take sl_Model_take cd_Model_take in_Model ds_Model_take rfl rfl (Nat.le_of_ble_eq_true rfl) (Nat.le_of_ble_eq_true rfl) (Nat.le_of_ble_eq_true rfl) rfl rfl (Nat.le_refl 0) (Nat.le_refl 0) d_Model_takeHead_81 84 rfl (fun h1 hf => ?_)
    refine x_aload_n X (q := 0) d_Model_takeHead_84 rfl 85 rfl ?_
    refine x_getR X hf (ci := 12) (j := 10) rfl (by decide) rfl lf_Model_20 d_Model_takeHead_85 88 rfl (fun o2 hf => ?_)
    refine x_bipush X (v := 11) d_Model_takeHead_88 (by decide) 90 rfl ?_
    refine x_iald X hf d_Model_takeHead_90 91 rfl (fun v3 hf => ?_)
    refine x_aload_n X (q := 0) d_Model_takeHead_91 rfl 92 rfl ?_
    refine x_getR X hf (ci := 12) (j := 10) rfl (by decide) rfl lf_Model_20 d_Model_takeHead_92 95 rfl (fun o4 hf => ?_)
    refine x_bipush X (v := 12) d_Model_takeHead_95 (by decide) 97 rfl ?_
    refine x_iald X hf d_Model_takeHead_97 98 rfl (fun v5 hf => ?_)
    refine x_iadd X d_Model_takeHead_98 99 rfl ?_
    refine x_aload_n X (q := 0) d_Model_takeHead_99 rfl 100 rfl ?_
    refine x_getR X hf (ci := 12) (j := 10) rfl (by decide) rfl lf_Model_20 d_Model_takeHead_100 103 rfl (fun o6 hf => ?_)
    refine x_bipush X (v := 14) d_Model_takeHead_103 (by decide) 105 rfl ?_
    refine x_iald X hf d_Model_takeHead_105 106 rfl (fun v7 hf => ?_)
    refine x_iadd X d_Model_takeHead_106 107 rfl ?_
    refine x_istoreN_n X hf d_Model_takeHead_107 rfl (by decide) (lw := fun v8 => [(2, .int v8), (0, .ref a0), (1, .int x1)]) (fun _ => rfl) 108 rfl (fun v8 hf => ?_)
    refine x_aload_n X (q := 1) d_Model_takeHead_108 rfl 109 rfl ?_
    refine x_getR X hf (ci := 12) (j := 10) rfl (by decide) rfl lf_Model_20 d_Model_takeHead_109 112 rfl (fun o9 hf => ?_)
    refine x_bipush X (v := 10) d_Model_takeHead_112 (by decide) 114 rfl ?_
    refine x_iald X hf d_Model_takeHead_114 115 rfl (fun v10 hf => ?_)
    refine x_sipush X (v := 200) d_Model_takeHead_115 (by decide) 118 rfl ?_
    refine x_icmp_gt X hf d_Model_takeHead_118 202 121 (by decide) rfl (fun hf => ?_) (fun hf => ?_)
    · exact x_sub [1, 2] rfl (t_Model_takeHead_202 X hret hf)
    · refine x_aload_n X (q := 1) d_Model_takeHead_121 rfl 122 rfl ?_
      refine x_getR X hf (ci := 12) (j := 10) rfl (by decide) rfl lf_Model_20 d_Model_takeHead_122 125 rfl (fun o11 hf => ?_)
      refine x_bipush X (v := 11) d_Model_takeHead_125 (by decide) 127 rfl ?_
      refine x_iald X hf d_Model_takeHead_127 128 rfl (fun v12 hf => ?_)
      refine x_iconst X (v := 5) d_Model_takeHead_128 (by decide) 129 rfl ?_
      refine x_icmp_gt X hf d_Model_takeHead_129 202 132 (by decide) rfl (fun hf => ?_) (fun hf => ?_)
      · exact x_sub [1, 2] rfl (t_Model_takeHead_202 X hret hf)
      · refine x_aload_n X (q := 1) d_Model_takeHead_132 rfl 133 rfl ?_
        refine x_getR X hf (ci := 12) (j := 10) rfl (by decide) rfl lf_Model_20 d_Model_takeHead_133 136 rfl (fun o13 hf => ?_)
        refine x_bipush X (v := 12) d_Model_takeHead_136 (by decide) 138 rfl ?_
        refine x_iald X hf d_Model_takeHead_138 139 rfl (fun v14 hf => ?_)
        refine x_bipush X (v := 6) d_Model_takeHead_139 (by decide) 141 rfl ?_
        refine x_icmp_gt X hf d_Model_takeHead_141 202 144 (by decide) rfl (fun hf => ?_) (fun hf => ?_)
        · exact x_sub [1, 2] rfl (t_Model_takeHead_202 X hret hf)
        · refine x_aload_n X (q := 1) d_Model_takeHead_144 rfl 145 rfl ?_
          refine x_getR X hf (ci := 12) (j := 10) rfl (by decide) rfl lf_Model_20 d_Model_takeHead_145 148 rfl (fun o15 hf => ?_)
          refine x_bipush X (v := 13) d_Model_takeHead_148 (by decide) 150 rfl ?_
          refine x_iald X hf d_Model_takeHead_150 151 rfl (fun v16 hf => ?_)
          refine x_bipush X (v := 8) d_Model_takeHead_151 (by decide) 153 rfl ?_
          refine x_icmp_gt X hf d_Model_takeHead_153 202 156 (by decide) rfl (fun hf => ?_) (fun hf => ?_)
          · exact x_sub [1, 2] rfl (t_Model_takeHead_202 X hret hf)
          · refine x_aload_n X (q := 1) d_Model_takeHead_156 rfl 157 rfl ?_
            refine x_getR X hf (ci := 12) (j := 10) rfl (by decide) rfl lf_Model_20 d_Model_takeHead_157 160 rfl (fun o17 hf => ?_)
            refine x_bipush X (v := 14) d_Model_takeHead_160 (by decide) 162 rfl ?_
            refine x_iald X hf d_Model_takeHead_162 163 rfl (fun v18 hf => ?_)
            refine x_sipush X (v := 150) d_Model_takeHead_163 (by decide) 166 rfl ?_
            refine x_icmp_gt X hf d_Model_takeHead_166 202 169 (by decide) rfl (fun hf => ?_) (fun hf => ?_)
            · exact x_sub [1, 2] rfl (t_Model_takeHead_202 X hret hf)
            · refine x_iload_n X (q := 2) d_Model_takeHead_169 rfl 170 rfl ?_
              refine x_if_eq X hf d_Model_takeHead_170 187 173 (by decide) rfl (fun hf => ?_) (fun hf => ?_)
              · refine x_aload_n X (q := 1) d_Model_takeHead_187 rfl 188 rfl ?_
                refine x_getR X hf (ci := 12) (j := 10) rfl (by decide) rfl lf_Model_20 d_Model_takeHead_188 191 rfl (fun o19 hf => ?_)
                refine x_bipush X (v := 10) d_Model_takeHead_191 (by decide) 193 rfl ?_
                refine x_iald X hf d_Model_takeHead_193 194 rfl (fun v20 hf => ?_)
                refine x_iload_n X (q := 0) d_Model_takeHead_194 rfl 195 rfl ?_
                refine x_icmp_lt X hf d_Model_takeHead_195 202 198 (by decide) rfl (fun hf => ?_) (fun hf => ?_)
                · exact x_sub [1, 2] rfl (t_Model_takeHead_202 X hret hf)
                · exact x_sub [1, 2] rfl (t_Model_takeHead_198 X hret hf)
              · refine x_aload_n X (q := 1) d_Model_takeHead_173 rfl 174 rfl ?_
                refine x_getR X hf (ci := 12) (j := 10) rfl (by decide) rfl lf_Model_20 d_Model_takeHead_174 177 rfl (fun o21 hf => ?_)
                refine x_bipush X (v := 10) d_Model_takeHead_177 (by decide) 179 rfl ?_
                refine x_iald X hf d_Model_takeHead_179 180 rfl (fun v22 hf => ?_)
                refine x_iload_n X (q := 0) d_Model_takeHead_180 rfl 181 rfl ?_
                refine x_icmp_ne X hf d_Model_takeHead_181 202 184 (by decide) rfl (fun hf => ?_) (fun hf => ?_)
                · exact x_sub [1, 2] rfl (t_Model_takeHead_202 X hret hf)
                · refine x_goto X d_Model_takeHead_184 198 (by decide) ?_
                  exact x_sub [1, 2] rfl (t_Model_takeHead_198 X hret hf)
  · refine x_aload_n X (q := 0) d_Model_takeHead_49 rfl 50 rfl ?_
    refine x_bipush X (v := 32) d_Model_takeHead_50 (by decide) 52 rfl ?_
    refine x_callV0v X (t_Model_take hf.2) hf.1 (ci := 12) rfl rfl lm_Model_167 im_Model_take sl_Model_take cd_Model_take in_Model ds_Model_take rfl rfl (Nat.le_of_ble_eq_true rfl) (Nat.le_of_ble_eq_true rfl) (Nat.le_of_ble_eq_true rfl) rfl rfl (Nat.le_refl 0) (Nat.le_refl 0) d_Model_takeHead_52 55 rfl (fun h23 hf => ?_)
    refine x_aload_n X (q := 0) d_Model_takeHead_55 rfl 56 rfl ?_
    refine x_callV0v X (t_Model_takeNumber hf.2) hf.1 (ci := 12) rfl rfl lm_Model_157 im_Model_takeNumber sl_Model_takeNumber cd_Model_takeNumber in_Model ds_Model_takeNumber rfl rfl (Nat.le_of_ble_eq_true rfl) (Nat.le_of_ble_eq_true rfl) (Nat.le_of_ble_eq_true rfl) rfl rfl (Nat.le_refl 0) (Nat.le_refl 0) d_Model_takeHead_56 59 rfl (fun h24 hf => ?_)
    refine x_aload_n X (q := 0) d_Model_takeHead_59 rfl 60 rfl ?_
    refine x_getR X hf (ci := 12) (j := 10) rfl (by decide) rfl lf_Model_20 d_Model_takeHead_60 63 rfl (fun o25 hf => ?_)
    refine x_bipush X (v := 10) d_Model_takeHead_63 (by decide) 65 rfl ?_
    refine x_iload_n X (q := 2) d_Model_takeHead_65 rfl 66 rfl ?_
    refine x_iadd X d_Model_takeHead_66 67 rfl ?_
    refine x_aload_n X (q := 0) d_Model_takeHead_67 rfl 68 rfl ?_
    refine x_getI X hf (ci := 12) (j := 9) rfl (by decide) rfl lf_Model_150 d_Model_takeHead_68 71 rfl (fun v26 hf => ?_)
    refine x_iast X hf d_Model_takeHead_71 72 rfl (fun h27 hf => ?_)
    refine x_iinc X (q := 2) (v := (x2 + 1)) (lv' := [(2, .int (x2 + 1)), (0, .ref a0), (1, .int x1)]) d_Model_takeHead_72 rfl (by rfl) (by decide) rfl 75 rfl ?_
    refine x_goto X d_Model_takeHead_75 44 (by decide) ?_
    exact x_sub [1, 2, 0] rfl (hk44 _ _ _ _ hf)
set_option maxRecDepth 100000 in
def wp_Model_takeHead_33 (z : Nat → Nat) (Q : Int32 → xh → Prop)  (a0 : Nat) (x1 : Int32) (s1 : Int32) (s0 : Nat) (hp : xh) : Prop :=
  xcls hp s0 12 ∧ wp_Model_take z (fun h1 => xcls h1 a0 12 ∧ wp_Model_take z (fun h2 => wp_Model_takeHead_44 z Q a0 x1 0 h2) a0 103 h1) s0 s1 hp
set_option maxRecDepth 100000 in
set_option maxHeartbeats 4000000 in
theorem t_Model_takeHead_33 {p : Program} {l : Launch} {e : Env} {s : State} {m : MethodId} {args : Array Value} {below : List Frame} {meth : Method} {c : Code} {G : xG} {z : Nat → Nat} {A : Nat → Prop} {Qw : State → Prop} {Q : Int32 → xh → Prop} {a0 : Nat} {x1 : Int32} {s1 : Int32} {s0 : Nat} {hp : xh} (X : xX p l e rm_Model_takeHead s m args below meth c G z A y_Model_takeHead b_Model_takeHead 4) (hret : xRet p l e rm_Model_takeHead s m args below meth c G A 4 Qw b_Model_takeHead (some .boolean) (xqz Q))  (hf : wp_Model_takeHead_33 z Q  a0 x1 s1 s0 hp) : xE p l e rm_Model_takeHead s m args below meth c G A 4 Qw 0 0 hp 33 [(0, .ref a0), (1, .int x1)] [.int s1, .ref s0] := by
  unfold wp_Model_takeHead_33 at hf
  refine x_callV0v X (t_Model_take hf.2) hf.1 (ci := 12) rfl rfl lm_Model_167 im_Model_take sl_Model_take cd_Model_take in_Model ds_Model_take rfl rfl (Nat.le_of_ble_eq_true rfl) (Nat.le_of_ble_eq_true rfl) (Nat.le_of_ble_eq_true rfl) rfl rfl (Nat.le_refl 0) (Nat.le_refl 0) d_Model_takeHead_33 36 rfl (fun h1 hf => ?_)
  refine x_aload_n X (q := 0) d_Model_takeHead_36 rfl 37 rfl ?_
  refine x_bipush X (v := 103) d_Model_takeHead_37 (by decide) 39 rfl ?_
  refine x_callV0v X (t_Model_take hf.2) hf.1 (ci := 12) rfl rfl lm_Model_167 im_Model_take sl_Model_take cd_Model_take in_Model ds_Model_take rfl rfl (Nat.le_of_ble_eq_true rfl) (Nat.le_of_ble_eq_true rfl) (Nat.le_of_ble_eq_true rfl) rfl rfl (Nat.le_refl 0) (Nat.le_refl 0) d_Model_takeHead_39 42 rfl (fun h2 hf => ?_)
  refine x_iconst X (v := 0) d_Model_takeHead_42 (by decide) 43 rfl ?_
  refine x_istore_n X (lv' := [(2, .int 0), (0, .ref a0), (1, .int x1)]) d_Model_takeHead_43 rfl (by decide) rfl 44 rfl ?_
  exact x_sub [1, 2, 0] rfl (t_Model_takeHead_44 X hret hf)
set_option maxRecDepth 100000 in
def wp_Model_takeHead_20 (z : Nat → Nat) (Q : Int32 → xh → Prop)  (a0 : Nat) (s0 : Int32) (hp : xh) : Prop :=
  (s0 = 0 → wp_Model_takeHead_33 z Q a0 s0 97 a0 hp) ∧ (¬ s0 = 0 → wp_Model_takeHead_33 z Q a0 s0 105 a0 hp)
set_option maxRecDepth 100000 in
set_option maxHeartbeats 4000000 in
theorem t_Model_takeHead_20 {p : Program} {l : Launch} {e : Env} {s : State} {m : MethodId} {args : Array Value} {below : List Frame} {meth : Method} {c : Code} {G : xG} {z : Nat → Nat} {A : Nat → Prop} {Qw : State → Prop} {Q : Int32 → xh → Prop} {a0 : Nat} {s0 : Int32} {hp : xh} (X : xX p l e rm_Model_takeHead s m args below meth c G z A y_Model_takeHead b_Model_takeHead 4) (hret : xRet p l e rm_Model_takeHead s m args below meth c G A 4 Qw b_Model_takeHead (some .boolean) (xqz Q))  (hf : wp_Model_takeHead_20 z Q  a0 s0 hp) : xE p l e rm_Model_takeHead s m args below meth c G A 4 Qw 0 0 hp 20 [(0, .ref a0)] [.int s0] := by
  unfold wp_Model_takeHead_20 at hf
  refine x_istore_n X (lv' := [(1, .int s0), (0, .ref a0)]) d_Model_takeHead_20 rfl (by decide) rfl 21 rfl ?_
  refine x_aload_n X (q := 1) d_Model_takeHead_21 rfl 22 rfl ?_
  refine x_iload_n X (q := 0) d_Model_takeHead_22 rfl 23 rfl ?_
  refine x_if_eq X hf d_Model_takeHead_23 31 26 (by decide) rfl (fun hf => ?_) (fun hf => ?_)
  · refine x_bipush X (v := 97) d_Model_takeHead_31 (by decide) 33 rfl ?_
    exact x_sub [1, 0] rfl (t_Model_takeHead_33 X hret hf)
  · refine x_bipush X (v := 105) d_Model_takeHead_26 (by decide) 28 rfl ?_
    refine x_goto X d_Model_takeHead_28 33 (by decide) ?_
    exact x_sub [1, 0] rfl (t_Model_takeHead_33 X hret hf)
set_option maxRecDepth 100000 in
def wp_Model_takeHead (z : Nat → Nat) (Q : Int32 → xh → Prop) (a0 : Nat) (hp : xh) : Prop :=
  xcls hp a0 12 ∧ wp_Model_take z (fun h1 => xcls h1 a0 12 ∧ wp_Model_here z (fun v3 h2 => (¬ v3 = 105 → wp_Model_takeHead_20 z Q a0 0 h2) ∧ (v3 = 105 → wp_Model_takeHead_20 z Q a0 1 h2)) a0 h1) a0 97 hp
set_option maxRecDepth 100000 in
set_option maxHeartbeats 4000000 in
theorem t_Model_takeHead {l : Launch} {G : xG} {z : Nat → Nat} {Q : Int32 → xh → Prop} {a0 : Nat} {hp : xh} (hf : wp_Model_takeHead z Q a0 hp) : xM l G z y_Model_takeHead b_Model_takeHead 4 (some .boolean) rm_Model_takeHead [.ref a0] hp (xqz Q) := by
  refine xM_of (by decide) (Nat.le_of_ble_eq_true rfl) (lv0 := [(0, .ref a0)]) rfl ?_
  intro p e s m args below meth c A Qw X hret
  unfold wp_Model_takeHead at hf
  refine x_aload_n X (q := 0) d_Model_takeHead_0 rfl 1 rfl ?_
  refine x_bipush X (v := 97) d_Model_takeHead_1 (by decide) 3 rfl ?_
  refine x_callV0v X (t_Model_take hf.2) hf.1 (ci := 12) rfl rfl lm_Model_167 im_Model_take sl_Model_take cd_Model_take in_Model ds_Model_take rfl rfl (Nat.le_of_ble_eq_true rfl) (Nat.le_of_ble_eq_true rfl) (Nat.le_of_ble_eq_true rfl) rfl rfl (Nat.le_refl 0) (Nat.le_refl 0) d_Model_takeHead_3 6 rfl (fun h1 hf => ?_)
  refine x_aload_n X (q := 0) d_Model_takeHead_6 rfl 7 rfl ?_
  refine x_callV0i X (t_Model_here hf.2) hf.1 (ci := 12) rfl rfl lm_Model_142 im_Model_here sl_Model_here cd_Model_here in_Model ds_Model_here rfl rfl (Nat.le_of_ble_eq_true rfl) (Nat.le_of_ble_eq_true rfl) (Nat.le_of_ble_eq_true rfl) rfl rfl (Nat.le_refl 0) (Nat.le_refl 0) d_Model_takeHead_7 10 rfl (fun v3 h2 hf => ?_)
  refine x_bipush X (v := 105) d_Model_takeHead_10 (by decide) 12 rfl ?_
  refine x_icmp_ne X hf d_Model_takeHead_12 19 15 (by decide) rfl (fun hf => ?_) (fun hf => ?_)
  · refine x_iconst X (v := 0) d_Model_takeHead_19 (by decide) 20 rfl ?_
    exact x_sub [0] rfl (t_Model_takeHead_20 X hret hf)
  · refine x_iconst X (v := 1) d_Model_takeHead_15 (by decide) 16 rfl ?_
    refine x_goto X d_Model_takeHead_16 20 (by decide) ?_
    exact x_sub [0] rfl (t_Model_takeHead_20 X hret hf)

set_option maxRecDepth 100000 in
def wp_Model_takeNext (z : Nat → Nat) (Q : xh → Prop) (a0 : Nat) (x1 : Int32) (hp : xh) : Prop :=
  ∃ o1, fR hp a0 12 20 = some o1 ∧ (∃ v2, fI hp a0 12 6 = some v2 ∧ (∃ h3, sI hp o1 0 x1 v2 = some h3 ∧ (∃ o4, fR h3 a0 12 13 = some o4 ∧ (xcls h3 a0 12 ∧ wp_Model_literal z (fun v6 h5 => ∃ h7, sI h5 o4 0 (14 + x1) v6 = some h7 ∧ (xcls h7 a0 12 ∧ wp_Model_take z (fun h8 => Q h8) a0 10 h7)) a0 h3))))
set_option maxRecDepth 100000 in
set_option maxHeartbeats 4000000 in
theorem t_Model_takeNext {l : Launch} {G : xG} {z : Nat → Nat} {Q : xh → Prop} {a0 : Nat} {x1 : Int32} {hp : xh} (hf : wp_Model_takeNext z Q a0 x1 hp) : xM l G z y_Model_takeNext b_Model_takeNext 2 none rm_Model_takeNext [.ref a0, .int x1] hp (xqv Q) := by
  refine xM_of (by decide) (Nat.le_of_ble_eq_true rfl) (lv0 := [(0, .ref a0), (1, .int x1)]) rfl ?_
  intro p e s m args below meth c A Qw X hret
  unfold wp_Model_takeNext at hf
  refine x_aload_n X (q := 0) d_Model_takeNext_0 rfl 1 rfl ?_
  refine x_getR X hf (ci := 12) (j := 20) rfl (by decide) rfl lf_Model_51 d_Model_takeNext_1 4 rfl (fun o1 hf => ?_)
  refine x_iload_n X (q := 1) d_Model_takeNext_4 rfl 5 rfl ?_
  refine x_aload_n X (q := 0) d_Model_takeNext_5 rfl 6 rfl ?_
  refine x_getI X hf (ci := 12) (j := 6) rfl (by decide) rfl lf_Model_133 d_Model_takeNext_6 9 rfl (fun v2 hf => ?_)
  refine x_iast X hf d_Model_takeNext_9 10 rfl (fun h3 hf => ?_)
  refine x_aload_n X (q := 0) d_Model_takeNext_10 rfl 11 rfl ?_
  refine x_getR X hf (ci := 12) (j := 13) rfl (by decide) rfl lf_Model_30 d_Model_takeNext_11 14 rfl (fun o4 hf => ?_)
  refine x_bipush X (v := 14) d_Model_takeNext_14 (by decide) 16 rfl ?_
  refine x_iload_n X (q := 1) d_Model_takeNext_16 rfl 17 rfl ?_
  refine x_iadd X d_Model_takeNext_17 18 rfl ?_
  refine x_aload_n X (q := 0) d_Model_takeNext_18 rfl 19 rfl ?_
  refine x_callV0i X (t_Model_literal hf.2) hf.1 (ci := 12) rfl rfl lm_Model_160 im_Model_literal sl_Model_literal cd_Model_literal in_Model ds_Model_literal rfl rfl (Nat.le_of_ble_eq_true rfl) (Nat.le_of_ble_eq_true rfl) (Nat.le_of_ble_eq_true rfl) rfl rfl (Nat.le_refl 0) (Nat.le_refl 0) d_Model_takeNext_19 22 rfl (fun v6 h5 hf => ?_)
  refine x_iast X hf d_Model_takeNext_22 23 rfl (fun h7 hf => ?_)
  refine x_aload_n X (q := 0) d_Model_takeNext_23 rfl 24 rfl ?_
  refine x_bipush X (v := 10) d_Model_takeNext_24 (by decide) 26 rfl ?_
  refine x_callV0v X (t_Model_take hf.2) hf.1 (ci := 12) rfl rfl lm_Model_167 im_Model_take sl_Model_take cd_Model_take in_Model ds_Model_take rfl rfl (Nat.le_of_ble_eq_true rfl) (Nat.le_of_ble_eq_true rfl) (Nat.le_of_ble_eq_true rfl) rfl rfl (Nat.le_refl 0) (Nat.le_refl 0) d_Model_takeNext_26 29 rfl (fun h8 hf => ?_)
  exact hret _ _ _ _ _ none (Nat.le_refl 0) (Nat.le_refl 0) ⟨rfl, hf⟩ ⟨rfl, d_Model_takeNext_29⟩

