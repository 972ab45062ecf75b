set_option maxRecDepth 100000 in
def wp_Model_isCircuit_9 (z : Nat → Nat) (Q : Int32 → xh → Prop)   (hp : xh) : Prop :=
  Q 1 hp
set_option maxRecDepth 100000 in
set_option maxHeartbeats 4000000 in
theorem t_Model_isCircuit_9 {p : Program} {l : Launch} {e : Env} {s : State} {m : MethodId} {args : Array Value} {below : List Frame} {meth : Method} {c : Code} {G : xG} {z : Nat → Nat} {A : Nat → Prop} {Qw : State → Prop} {Q : Int32 → xh → Prop}  {hp : xh} (X : xX p l e rm_Model_isCircuit s m args below meth c G z A y_Model_isCircuit b_Model_isCircuit 1) (hret : xRet p l e rm_Model_isCircuit s m args below meth c G A 1 Qw b_Model_isCircuit (some .boolean) (xqz Q))  (hf : wp_Model_isCircuit_9 z Q  hp) : xE p l e rm_Model_isCircuit s m args below meth c G A 1 Qw 0 0 hp 9 [] [] := by
  unfold wp_Model_isCircuit_9 at hf
  refine x_iconst X (v := 1) d_Model_isCircuit_9 (by decide) 10 rfl ?_
  refine x_goto X d_Model_isCircuit_10 14 (by decide) ?_
  exact hret _ _ _ _ _ (some (.int 1)) (Nat.le_refl 0) (Nat.le_refl 0) ⟨_, rfl, (Or.inr rfl), hf⟩ ⟨⟨_, rfl, xbl_nar (Or.inr rfl)⟩, d_Model_isCircuit_14⟩
set_option maxRecDepth 100000 in
def wp_Model_isCircuit (z : Nat → Nat) (Q : Int32 → xh → Prop) (x0 : Int32) (hp : xh) : Prop :=
  (x0 = 0 → wp_Model_isCircuit_9 z Q hp) ∧ (¬ x0 = 0 → ((¬ x0 = 1 → Q 0 hp) ∧ (x0 = 1 → wp_Model_isCircuit_9 z Q hp)))
set_option maxRecDepth 100000 in
set_option maxHeartbeats 4000000 in
theorem t_Model_isCircuit {l : Launch} {G : xG} {z : Nat → Nat} {Q : Int32 → xh → Prop} {x0 : Int32} {hp : xh} (hf : wp_Model_isCircuit z Q x0 hp) : xM l G z y_Model_isCircuit b_Model_isCircuit 1 (some .boolean) rm_Model_isCircuit [.int x0] hp (xqz Q) := by
  refine xM_of (by decide) (Nat.le_of_ble_eq_true rfl) (lv0 := [(0, .int x0)]) rfl ?_
  intro p e s m args below meth c A Qw X hret
  unfold wp_Model_isCircuit at hf
  refine x_iload_n X (q := 0) d_Model_isCircuit_0 rfl 1 rfl ?_
  refine x_if_eq X hf d_Model_isCircuit_1 9 4 (by decide) rfl (fun hf => ?_) (fun hf => ?_)
  · exact x_sub [] rfl (t_Model_isCircuit_9 X hret hf)
  · refine x_iload_n X (q := 0) d_Model_isCircuit_4 rfl 5 rfl ?_
    refine x_iconst X (v := 1) d_Model_isCircuit_5 (by decide) 6 rfl ?_
    refine x_icmp_ne X hf d_Model_isCircuit_6 13 9 (by decide) rfl (fun hf => ?_) (fun hf => ?_)
    · refine x_iconst X (v := 0) d_Model_isCircuit_13 (by decide) 14 rfl ?_
      exact hret _ _ _ _ _ (some (.int 0)) (Nat.le_refl 0) (Nat.le_refl 0) ⟨_, rfl, (Or.inl rfl), hf⟩ ⟨⟨_, rfl, xbl_nar (Or.inl rfl)⟩, d_Model_isCircuit_14⟩
    · exact x_sub [] rfl (t_Model_isCircuit_9 X hret hf)

set_option maxRecDepth 100000 in
def wp_Model_read_104 (z : Nat → Nat) (Q : xh → Prop)  (a0 : Nat) (hp : xh) : Prop :=
  ∃ v1, fI hp a0 12 7 = some v1 ∧ ((¬ v1 = 0 → Q hp) ∧ (v1 = 0 → (xcls hp a0 12 ∧ wp_Model_findRing z (fun h2 => Q h2) a0 hp)))
set_option maxRecDepth 100000 in
set_option maxHeartbeats 4000000 in
theorem t_Model_read_104 {p : Program} {l : Launch} {e : Env} {s : State} {m : MethodId} {args : Array Value} {below : List Frame} {meth : Method} {c : Code} {G : xG} {z : Nat → Nat} {A : Nat → Prop} {Qw : State → Prop} {Q : xh → Prop} {a0 : Nat} {hp : xh} (X : xX p l e rm_Model_read s m args below meth c G z A y_Model_read b_Model_read 2) (hret : xRet p l e rm_Model_read s m args below meth c G A 2 Qw b_Model_read none (xqv Q))  (hf : wp_Model_read_104 z Q  a0 hp) : xE p l e rm_Model_read s m args below meth c G A 2 Qw 0 0 hp 104 [(0, .ref a0)] [] := by
  unfold wp_Model_read_104 at hf
  refine x_aload_n X (q := 0) d_Model_read_104 rfl 105 rfl ?_
  refine x_getI X hf (ci := 12) (j := 7) rfl (by decide) rfl lf_Model_136 d_Model_read_105 108 rfl (fun v1 hf => ?_)
  refine x_if_ne X hf d_Model_read_108 115 111 (by decide) rfl (fun hf => ?_) (fun hf => ?_)
  · exact hret _ _ _ _ _ none (Nat.le_refl 0) (Nat.le_refl 0) ⟨rfl, hf⟩ ⟨rfl, d_Model_read_115⟩
  · refine x_aload_n X (q := 0) d_Model_read_111 rfl 112 rfl ?_
    refine x_callV0v X (t_Model_findRing hf.2) hf.1 (ci := 12) rfl rfl lm_Model_231 im_Model_findRing sl_Model_findRing cd_Model_findRing in_Model ds_Model_findRing rfl rfl (Nat.le_of_ble_eq_true rfl) (Nat.le_of_ble_eq_true rfl) (Nat.le_of_ble_eq_true rfl) rfl rfl (Nat.le_refl 0) (Nat.le_refl 0) d_Model_read_112 115 rfl (fun h2 hf => ?_)
    exact hret _ _ _ _ _ none (Nat.le_refl 0) (Nat.le_refl 0) ⟨rfl, hf⟩ ⟨rfl, d_Model_read_115⟩
set_option maxRecDepth 100000 in
def wp_Model_read_93 (z : Nat → Nat) (Q : xh → Prop)  (a0 : Nat) (hp : xh) : Prop :=
  ∃ v1, fI hp a0 12 7 = some v1 ∧ ((¬ v1 = 0 → wp_Model_read_104 z Q a0 hp) ∧ (v1 = 0 → (xcls hp a0 12 ∧ wp_Model_findNowhere z (fun h2 => wp_Model_read_104 z Q a0 h2) a0 hp)))
set_option maxRecDepth 100000 in
set_option maxHeartbeats 4000000 in
theorem t_Model_read_93 {p : Program} {l : Launch} {e : Env} {s : State} {m : MethodId} {args : Array Value} {below : List Frame} {meth : Method} {c : Code} {G : xG} {z : Nat → Nat} {A : Nat → Prop} {Qw : State → Prop} {Q : xh → Prop} {a0 : Nat} {hp : xh} (X : xX p l e rm_Model_read s m args below meth c G z A y_Model_read b_Model_read 2) (hret : xRet p l e rm_Model_read s m args below meth c G A 2 Qw b_Model_read none (xqv Q))  (hf : wp_Model_read_93 z Q  a0 hp) : xE p l e rm_Model_read s m args below meth c G A 2 Qw 0 0 hp 93 [(0, .ref a0)] [] := by
  unfold wp_Model_read_93 at hf
  refine x_aload_n X (q := 0) d_Model_read_93 rfl 94 rfl ?_
  refine x_getI X hf (ci := 12) (j := 7) rfl (by decide) rfl lf_Model_136 d_Model_read_94 97 rfl (fun v1 hf => ?_)
  refine x_if_ne X hf d_Model_read_97 104 100 (by decide) rfl (fun hf => ?_) (fun hf => ?_)
  · exact x_sub [0] rfl (t_Model_read_104 X hret hf)
  · refine x_aload_n X (q := 0) d_Model_read_100 rfl 101 rfl ?_
    refine x_callV0v X (t_Model_findNowhere hf.2) hf.1 (ci := 12) rfl rfl lm_Model_228 im_Model_findNowhere sl_Model_findNowhere cd_Model_findNowhere in_Model ds_Model_findNowhere rfl rfl (Nat.le_of_ble_eq_true rfl) (Nat.le_of_ble_eq_true rfl) (Nat.le_of_ble_eq_true rfl) rfl rfl (Nat.le_refl 0) (Nat.le_refl 0) d_Model_read_101 104 rfl (fun h2 hf => ?_)
    exact x_sub [0] rfl (t_Model_read_104 X hret hf)
set_option maxRecDepth 100000 in
def wp_Model_read_82 (z : Nat → Nat) (Q : xh → Prop)  (a0 : Nat) (hp : xh) : Prop :=
  ∃ v1, fI hp a0 12 7 = some v1 ∧ ((¬ v1 = 0 → wp_Model_read_93 z Q a0 hp) ∧ (v1 = 0 → (xcls hp a0 12 ∧ wp_Model_takeSymbols z (fun h2 => wp_Model_read_93 z Q a0 h2) a0 hp)))
set_option maxRecDepth 100000 in
set_option maxHeartbeats 4000000 in
theorem t_Model_read_82 {p : Program} {l : Launch} {e : Env} {s : State} {m : MethodId} {args : Array Value} {below : List Frame} {meth : Method} {c : Code} {G : xG} {z : Nat → Nat} {A : Nat → Prop} {Qw : State → Prop} {Q : xh → Prop} {a0 : Nat} {hp : xh} (X : xX p l e rm_Model_read s m args below meth c G z A y_Model_read b_Model_read 2) (hret : xRet p l e rm_Model_read s m args below meth c G A 2 Qw b_Model_read none (xqv Q))  (hf : wp_Model_read_82 z Q  a0 hp) : xE p l e rm_Model_read s m args below meth c G A 2 Qw 0 0 hp 82 [(0, .ref a0)] [] := by
  unfold wp_Model_read_82 at hf
  refine x_aload_n X (q := 0) d_Model_read_82 rfl 83 rfl ?_
  refine x_getI X hf (ci := 12) (j := 7) rfl (by decide) rfl lf_Model_136 d_Model_read_83 86 rfl (fun v1 hf => ?_)
  refine x_if_ne X hf d_Model_read_86 93 89 (by decide) rfl (fun hf => ?_) (fun hf => ?_)
  · exact x_sub [0] rfl (t_Model_read_93 X hret hf)
  · refine x_aload_n X (q := 0) d_Model_read_89 rfl 90 rfl ?_
    refine x_callV0v X (t_Model_takeSymbols hf.2) hf.1 (ci := 12) rfl rfl lm_Model_225 im_Model_takeSymbols sl_Model_takeSymbols cd_Model_takeSymbols in_Model ds_Model_takeSymbols rfl rfl (Nat.le_of_ble_eq_true rfl) (Nat.le_of_ble_eq_true rfl) (Nat.le_of_ble_eq_true rfl) rfl rfl (Nat.le_refl 0) (Nat.le_refl 0) d_Model_read_90 93 rfl (fun h2 hf => ?_)
    exact x_sub [0] rfl (t_Model_read_93 X hret hf)
set_option maxRecDepth 100000 in
def wp_Model_read_71 (z : Nat → Nat) (Q : xh → Prop)  (a0 : Nat) (hp : xh) : Prop :=
  ∃ v1, fI hp a0 12 7 = some v1 ∧ ((¬ v1 = 0 → wp_Model_read_82 z Q a0 hp) ∧ (v1 = 0 → (xcls hp a0 12 ∧ wp_Model_takeText z (fun h2 => wp_Model_read_82 z Q a0 h2) a0 hp)))
set_option maxRecDepth 100000 in
set_option maxHeartbeats 4000000 in
theorem t_Model_read_71 {p : Program} {l : Launch} {e : Env} {s : State} {m : MethodId} {args : Array Value} {below : List Frame} {meth : Method} {c : Code} {G : xG} {z : Nat → Nat} {A : Nat → Prop} {Qw : State → Prop} {Q : xh → Prop} {a0 : Nat} {hp : xh} (X : xX p l e rm_Model_read s m args below meth c G z A y_Model_read b_Model_read 2) (hret : xRet p l e rm_Model_read s m args below meth c G A 2 Qw b_Model_read none (xqv Q))  (hf : wp_Model_read_71 z Q  a0 hp) : xE p l e rm_Model_read s m args below meth c G A 2 Qw 0 0 hp 71 [(0, .ref a0)] [] := by
  unfold wp_Model_read_71 at hf
  refine x_aload_n X (q := 0) d_Model_read_71 rfl 72 rfl ?_
  refine x_getI X hf (ci := 12) (j := 7) rfl (by decide) rfl lf_Model_136 d_Model_read_72 75 rfl (fun v1 hf => ?_)
  refine x_if_ne X hf d_Model_read_75 82 78 (by decide) rfl (fun hf => ?_) (fun hf => ?_)
  · exact x_sub [0] rfl (t_Model_read_82 X hret hf)
  · refine x_aload_n X (q := 0) d_Model_read_78 rfl 79 rfl ?_
    refine x_callV0v X (t_Model_takeText hf.2) hf.1 (ci := 12) rfl rfl lm_Model_222 im_Model_takeText sl_Model_takeText cd_Model_takeText in_Model ds_Model_takeText rfl rfl (Nat.le_of_ble_eq_true rfl) (Nat.le_of_ble_eq_true rfl) (Nat.le_of_ble_eq_true rfl) rfl rfl (Nat.le_refl 0) (Nat.le_refl 0) d_Model_read_79 82 rfl (fun h2 hf => ?_)
    exact x_sub [0] rfl (t_Model_read_82 X hret hf)
set_option maxRecDepth 100000 in
def wp_Model_read_29_b (z : Nat → Nat) (Q : xh → Prop)  (k29 : Nat × Int32 × xh → Prop) (a0 : Nat) (x1 : Int32) (hp : xh) : Prop :=
  (66 ≤ x1 → (xcls hp a0 12 ∧ wp_Model_takeHead z (fun v2 h1 => ∃ v4, fI h1 a0 12 7 = some v4 ∧ ((¬ v4 = 0 → wp_Model_read_71 z Q a0 h1) ∧ (v4 = 0 → ((v2 = 0 → wp_Model_read_71 z Q a0 h1) ∧ (¬ v2 = 0 → (xcls h1 a0 12 ∧ wp_Model_takeBinary z (fun h5 => wp_Model_read_82 z Q a0 h5) a0 h1)))))) a0 hp)) ∧ (¬ 66 ≤ x1 → (∃ o6, fR hp a0 12 25 = some o6 ∧ (∃ h7, sI hp o6 0 x1 0 = some h7 ∧ (k29 (a0, (x1 + 1), h7)))))
set_option maxRecDepth 100000 in
def wp_Model_read_29 (z : Nat → Nat) (Q : xh → Prop)  (a0 : Nat) (x1 : Int32) (hp : xh) : Prop := ∃ f : Nat, xloop (fun k29 a => wp_Model_read_29_b z Q  k29 a.1 a.2.1 a.2.2) f (a0, x1, hp)
set_option maxRecDepth 100000 in
set_option maxHeartbeats 4000000 in
theorem t_Model_read_29 {p : Program} {l : Launch} {e : Env} {s : State} {m : MethodId} {args : Array Value} {below : List Frame} {meth : Method} {c : Code} {G : xG} {z : Nat → Nat} {A : Nat → Prop} {Qw : State → Prop} {Q : xh → Prop} {a0 : Nat} {x1 : Int32} {hp : xh} (X : xX p l e rm_Model_read s m args below meth c G z A y_Model_read b_Model_read 2) (hret : xRet p l e rm_Model_read s m args below meth c G A 2 Qw b_Model_read none (xqv Q))  (hf : wp_Model_read_29 z Q  a0 x1 hp) : xE p l e rm_Model_read s m args below meth c G A 2 Qw 0 0 hp 29 [(0, .ref a0), (1, .int x1)] [] := by
  obtain ⟨f, hf⟩ := hf
  refine xloop_ind (F := fun k29 a => wp_Model_read_29_b z Q  k29 a.1 a.2.1 a.2.2) (E := fun a => xE p l e rm_Model_read s m args below meth c G A 2 Qw 0 0 a.2.2 29 [(0, .ref (a.1)), (1, .int (a.2.1))] []) ?_ f (a0, x1, hp) hf
  intro k29 hk a hf
  obtain ⟨a0, x1, hp⟩ := a
  have hk29 : ∀ (a0 : Nat) (x1 : Int32) (hp : xh), k29 (a0, x1, hp) → xE p l e rm_Model_read s m args below meth c G A 2 Qw 0 0 hp 29 [(0, .ref a0), (1, .int x1)] [] := fun a0 x1 hp h => hk (a0, x1, hp) h
  have hf : wp_Model_read_29_b z Q  k29 a0 x1 hp := hf
  unfold wp_Model_read_29_b at hf
  refine x_iload_n X (q := 1) d_Model_read_29 rfl 30 rfl ?_
  refine x_bipush X (v := 66) d_Model_read_30 (by decide) 32 rfl ?_
  refine x_icmp_ge X hf d_Model_read_32 48 35 (by decide) rfl (fun hf => ?_) (fun hf => ?_)
  · refine x_aload_n X (q := 0) d_Model_read_48 rfl 49 rfl ?_
    refine x_callV0z X (t_Model_takeHead hf.2) hf.1 (ci := 12) rfl rfl lm_Model_216 im_Model_takeHead sl_Model_takeHead cd_Model_takeHead in_Model ds_Model_takeHead rfl rfl (Nat.le_of_ble_eq_true rfl) (Nat.le_of_ble_eq_true rfl) (Nat.le_of_ble_eq_true rfl) rfl rfl (Nat.le_refl 0) (Nat.le_refl 0) d_Model_read_49 52 rfl (fun v2 h1 hb3 hf => ?_)
    refine x_istore_n X (lv' := [(1, .int v2), (0, .ref a0)]) d_Model_read_52 rfl (by decide) rfl 53 rfl ?_
    refine x_aload_n X (q := 1) d_Model_read_53 rfl 54 rfl ?_
    refine x_getI X hf (ci := 12) (j := 7) rfl (by decide) rfl lf_Model_136 d_Model_read_54 57 rfl (fun v4 hf => ?_)
    refine x_if_ne X hf d_Model_read_57 71 60 (by decide) rfl (fun hf => ?_) (fun hf => ?_)
    · exact x_sub [1] rfl (t_Model_read_71 X hret hf)
    · refine x_iload_n X (q := 0) d_Model_read_60 rfl 61 rfl ?_
      refine x_if_eq X hf d_Model_read_61 71 64 (by decide) rfl (fun hf => ?_) (fun hf => ?_)
      · exact x_sub [1] rfl (t_Model_read_71 X hret hf)
      · refine x_aload_n X (q := 1) d_Model_read_64 rfl 65 rfl ?_
        refine x_callV0v X (t_Model_takeBinary hf.2) hf.1 (ci := 12) rfl rfl lm_Model_219 im_Model_takeBinary sl_Model_takeBinary cd_Model_takeBinary in_Model ds_Model_takeBinary rfl rfl (Nat.le_of_ble_eq_true rfl) (Nat.le_of_ble_eq_true rfl) (Nat.le_of_ble_eq_true rfl) rfl rfl (Nat.le_refl 0) (Nat.le_refl 0) d_Model_read_65 68 rfl (fun h5 hf => ?_)
        refine x_goto X d_Model_read_68 82 (by decide) ?_
        exact x_sub [1] rfl (t_Model_read_82 X hret hf)
  · refine x_aload_n X (q := 0) d_Model_read_35 rfl 36 rfl ?_
    refine x_getR X hf (ci := 12) (j := 25) rfl (by decide) rfl lf_Model_66 d_Model_read_36 39 rfl (fun o6 hf => ?_)
    refine x_iload_n X (q := 1) d_Model_read_39 rfl 40 rfl ?_
    refine x_iconst X (v := 0) d_Model_read_40 (by decide) 41 rfl ?_
    refine x_iast X hf d_Model_read_41 42 rfl (fun h7 hf => ?_)
    refine x_iinc X (q := 1) (v := (x1 + 1)) (lv' := [(1, .int (x1 + 1)), (0, .ref a0)]) d_Model_read_42 rfl (by rfl) (by decide) rfl 45 rfl ?_
    refine x_goto X d_Model_read_45 29 (by decide) ?_
    exact x_sub [1, 0] rfl (hk29 _ _ _ hf)
set_option maxRecDepth 100000 in
def wp_Model_read_2_b (z : Nat → Nat) (Q : xh → Prop)  (k2 : Nat × Int32 × xh → Prop) (a0 : Nat) (x1 : Int32) (hp : xh) : Prop :=
  (201 ≤ x1 → wp_Model_read_29 z Q a0 44 hp) ∧ (¬ 201 ≤ x1 → (∃ o1, fR hp a0 12 18 = some o1 ∧ (∃ h2, sI hp o1 0 (402 + x1) 0 = some h2 ∧ (k2 (a0, (x1 + 1), h2)))))
set_option maxRecDepth 100000 in
def wp_Model_read_2 (z : Nat → Nat) (Q : xh → Prop)  (a0 : Nat) (x1 : Int32) (hp : xh) : Prop := ∃ f : Nat, xloop (fun k2 a => wp_Model_read_2_b z Q  k2 a.1 a.2.1 a.2.2) f (a0, x1, hp)
set_option maxRecDepth 100000 in
set_option maxHeartbeats 4000000 in
theorem t_Model_read_2 {p : Program} {l : Launch} {e : Env} {s : State} {m : MethodId} {args : Array Value} {below : List Frame} {meth : Method} {c : Code} {G : xG} {z : Nat → Nat} {A : Nat → Prop} {Qw : State → Prop} {Q : xh → Prop} {a0 : Nat} {x1 : Int32} {hp : xh} (X : xX p l e rm_Model_read s m args below meth c G z A y_Model_read b_Model_read 2) (hret : xRet p l e rm_Model_read s m args below meth c G A 2 Qw b_Model_read none (xqv Q))  (hf : wp_Model_read_2 z Q  a0 x1 hp) : xE p l e rm_Model_read s m args below meth c G A 2 Qw 0 0 hp 2 [(0, .ref a0), (1, .int x1)] [] := by
  obtain ⟨f, hf⟩ := hf
  refine xloop_ind (F := fun k2 a => wp_Model_read_2_b z Q  k2 a.1 a.2.1 a.2.2) (E := fun a => xE p l e rm_Model_read s m args below meth c G A 2 Qw 0 0 a.2.2 2 [(0, .ref (a.1)), (1, .int (a.2.1))] []) ?_ f (a0, x1, hp) hf
  intro k2 hk a hf
  obtain ⟨a0, x1, hp⟩ := a
  have hk2 : ∀ (a0 : Nat) (x1 : Int32) (hp : xh), k2 (a0, x1, hp) → xE p l e rm_Model_read s m args below meth c G A 2 Qw 0 0 hp 2 [(0, .ref a0), (1, .int x1)] [] := fun a0 x1 hp h => hk (a0, x1, hp) h
  have hf : wp_Model_read_2_b z Q  k2 a0 x1 hp := hf
  unfold wp_Model_read_2_b at hf
  refine x_iload_n X (q := 1) d_Model_read_2 rfl 3 rfl ?_
  refine x_sipush X (v := 201) d_Model_read_3 (by decide) 6 rfl ?_
  refine x_icmp_ge X hf d_Model_read_6 26 9 (by decide) rfl (fun hf => ?_) (fun hf => ?_)
  · refine x_bipush X (v := 44) d_Model_read_26 (by decide) 28 rfl ?_
    refine x_istore_n X (lv' := [(1, .int 44), (0, .ref a0)]) d_Model_read_28 rfl (by decide) rfl 29 rfl ?_
    exact x_sub [1, 0] rfl (t_Model_read_29 X hret hf)
  · refine x_aload_n X (q := 0) d_Model_read_9 rfl 10 rfl ?_
    refine x_getR X hf (ci := 12) (j := 18) rfl (by decide) rfl lf_Model_45 d_Model_read_10 13 rfl (fun o1 hf => ?_)
    refine x_sipush X (v := 402) d_Model_read_13 (by decide) 16 rfl ?_
    refine x_iload_n X (q := 1) d_Model_read_16 rfl 17 rfl ?_
    refine x_iadd X d_Model_read_17 18 rfl ?_
    refine x_iconst X (v := 0) d_Model_read_18 (by decide) 19 rfl ?_
    refine x_iast X hf d_Model_read_19 20 rfl (fun h2 hf => ?_)
    refine x_iinc X (q := 1) (v := (x1 + 1)) (lv' := [(1, .int (x1 + 1)), (0, .ref a0)]) d_Model_read_20 rfl (by rfl) (by decide) rfl 23 rfl ?_
    refine x_goto X d_Model_read_23 2 (by decide) ?_
    exact x_sub [1, 0] rfl (hk2 _ _ _ hf)
set_option maxRecDepth 100000 in
def wp_Model_read (z : Nat → Nat) (Q : xh → Prop) (a0 : Nat) (hp : xh) : Prop :=
  wp_Model_read_2 z Q a0 0 hp
set_option maxRecDepth 100000 in
set_option maxHeartbeats 4000000 in
theorem t_Model_read {l : Launch} {G : xG} {z : Nat → Nat} {Q : xh → Prop} {a0 : Nat} {hp : xh} (hf : wp_Model_read z Q a0 hp) : xM l G z y_Model_read b_Model_read 2 none rm_Model_read [.ref a0] hp (xqv Q) := by
  refine xM_of (by decide) (Nat.le_of_ble_eq_true rfl) (lv0 := [(0, .ref a0)]) rfl ?_
  intro p e s m args below meth c A Qw X hret
  unfold wp_Model_read at hf
  refine x_iconst X (v := 0) d_Model_read_0 (by decide) 1 rfl ?_
  refine x_istore_n X (lv' := [(1, .int 0), (0, .ref a0)]) d_Model_read_1 rfl (by decide) rfl 2 rfl ?_
  exact x_sub [1, 0] rfl (t_Model_read_2 X hret hf)

set_option maxRecDepth 100000 in
def wp_Model_load_66 (z : Nat → Nat) (Q : Int32 → xh → Prop)  (a0 : Nat) (x1 : Int32) (s1 : Int32) (s0 : Nat) (hp : xh) : Prop :=
  ∃ h1, pV hp s0 12 0 (.int s1) = some h1 ∧ (∃ v2, fI h1 a0 12 0 = some v2 ∧ ((v2 ≤ 0 → (xcls h1 a0 12 ∧ wp_Model_keep z (fun h3 => ∃ o4, fR h3 a0 12 10 = some o4 ∧ (∃ v5, aI h3 o4 0 14 = some v5 ∧ Q v5 h3)) a0 x1 h1)) ∧ (¬ v2 ≤ 0 → Q 0 h1)))
set_option maxRecDepth 100000 in
set_option maxHeartbeats 4000000 in
theorem t_Model_load_66 {p : Program} {l : Launch} {e : Env} {s : State} {m : MethodId} {args : Array Value} {below : List Frame} {meth : Method} {c : Code} {G : xG} {z : Nat → Nat} {A : Nat → Prop} {Qw : State → Prop} {Q : Int32 → xh → Prop} {a0 : Nat} {x1 : Int32} {s1 : Int32} {s0 : Nat} {hp : xh} (X : xX p l e rm_Model_load s m args below meth c G z A y_Model_load b_Model_load 3) (hret : xRet p l e rm_Model_load s m args below meth c G A 3 Qw b_Model_load (some .int) (xqi Q))  (hf : wp_Model_load_66 z Q  a0 x1 s1 s0 hp) : xE p l e rm_Model_load s m args below meth c G A 3 Qw 0 0 hp 66 [(0, .ref a0), (1, .int x1)] [.int s1, .ref s0] := by
  unfold wp_Model_load_66 at hf
  refine x_put X hf (ci := 12) (j := 0) (ty := .int) rfl (by decide) rfl lf_Model_127 rfl (by decide +kernel) rfl rfl d_Model_load_66 69 rfl (fun h1 hf => ?_)
  refine x_aload_n X (q := 0) d_Model_load_69 rfl 70 rfl ?_
  refine x_getI X hf (ci := 12) (j := 0) rfl (by decide) rfl lf_Model_127 d_Model_load_70 73 rfl (fun v2 hf => ?_)
  refine x_if_le X hf d_Model_load_73 78 76 (by decide) rfl (fun hf => ?_) (fun hf => ?_)
  · refine x_aload_n X (q := 0) d_Model_load_78 rfl 79 rfl ?_
    refine x_iload_n X (q := 1) d_Model_load_79 rfl 80 rfl ?_
    refine x_callV0v X (t_Model_keep hf.2) hf.1 (ci := 12) rfl rfl lm_Model_213 im_Model_keep sl_Model_keep cd_Model_keep in_Model ds_Model_keep rfl rfl (Nat.le_of_ble_eq_true rfl) (Nat.le_of_ble_eq_true rfl) (Nat.le_of_ble_eq_true rfl) rfl rfl (Nat.le_refl 0) (Nat.le_refl 0) d_Model_load_80 83 rfl (fun h3 hf => ?_)
    refine x_aload_n X (q := 0) d_Model_load_83 rfl 84 rfl ?_
    refine x_getR X hf (ci := 12) (j := 10) rfl (by decide) rfl lf_Model_20 d_Model_load_84 87 rfl (fun o4 hf => ?_)
    refine x_bipush X (v := 14) d_Model_load_87 (by decide) 89 rfl ?_
    refine x_iald X hf d_Model_load_89 90 rfl (fun v5 hf => ?_)
    exact hret _ _ _ _ _ (some (.int v5)) (Nat.le_refl 0) (Nat.le_refl 0) ⟨_, rfl, hf⟩ ⟨⟨_, rfl, rfl⟩, d_Model_load_90⟩
  · refine x_iconst X (v := 0) d_Model_load_76 (by decide) 77 rfl ?_
    exact hret _ _ _ _ _ (some (.int 0)) (Nat.le_refl 0) (Nat.le_refl 0) ⟨_, rfl, hf⟩ ⟨⟨_, rfl, rfl⟩, d_Model_load_77⟩
set_option maxRecDepth 100000 in
def wp_Model_load_61 (z : Nat → Nat) (Q : Int32 → xh → Prop)  (a0 : Nat) (x1 : Int32) (s0 : Nat) (hp : xh) : Prop :=
  wp_Model_load_66 z Q a0 x1 1 s0 hp
set_option maxRecDepth 100000 in
set_option maxHeartbeats 4000000 in
theorem t_Model_load_61 {p : Program} {l : Launch} {e : Env} {s : State} {m : MethodId} {args : Array Value} {below : List Frame} {meth : Method} {c : Code} {G : xG} {z : Nat → Nat} {A : Nat → Prop} {Qw : State → Prop} {Q : Int32 → xh → Prop} {a0 : Nat} {x1 : Int32} {s0 : Nat} {hp : xh} (X : xX p l e rm_Model_load s m args below meth c G z A y_Model_load b_Model_load 3) (hret : xRet p l e rm_Model_load s m args below meth c G A 3 Qw b_Model_load (some .int) (xqi Q))  (hf : wp_Model_load_61 z Q  a0 x1 s0 hp) : xE p l e rm_Model_load s m args below meth c G A 3 Qw 0 0 hp 61 [(0, .ref a0), (1, .int x1)] [.ref s0] := by
  unfold wp_Model_load_61 at hf
  refine x_iconst X (v := 1) d_Model_load_61 (by decide) 62 rfl ?_
  refine x_goto X d_Model_load_62 66 (by decide) ?_
  exact x_sub [0, 1] rfl (t_Model_load_66 X hret hf)
set_option maxRecDepth 100000 in
def wp_Model_load_28 (z : Nat → Nat) (Q : Int32 → xh → Prop)  (a0 : Nat) (x1 : Int32) (x2 : Int32) (hp : xh) : Prop :=
  ∃ h1, pV hp a0 12 3 (.int 0) = some h1 ∧ (∃ v2, fI h1 a0 12 7 = some v2 ∧ (∃ h3, pV h1 a0 12 4 (.int v2) = some h3 ∧ (∃ v4, fI h3 a0 12 8 = some v4 ∧ (∃ h5, pV h3 a0 12 5 (.int v4) = some h5 ∧ ((x2 = 0 → wp_Model_load_61 z Q a0 x1 a0 h5) ∧ (¬ x2 = 0 → (∃ v6, fI h5 a0 12 7 = some v6 ∧ ((v6 ≤ 0 → wp_Model_load_66 z Q a0 x1 0 a0 h5) ∧ (¬ v6 ≤ 0 → wp_Model_load_61 z Q a0 x1 a0 h5)))))))))
set_option maxRecDepth 100000 in
set_option maxHeartbeats 4000000 in
theorem t_Model_load_28 {p : Program} {l : Launch} {e : Env} {s : State} {m : MethodId} {args : Array Value} {below : List Frame} {meth : Method} {c : Code} {G : xG} {z : Nat → Nat} {A : Nat → Prop} {Qw : State → Prop} {Q : Int32 → xh → Prop} {a0 : Nat} {x1 : Int32} {x2 : Int32} {hp : xh} (X : xX p l e rm_Model_load s m args below meth c G z A y_Model_load b_Model_load 3) (hret : xRet p l e rm_Model_load s m args below meth c G A 3 Qw b_Model_load (some .int) (xqi Q))  (hf : wp_Model_load_28 z Q  a0 x1 x2 hp) : xE p l e rm_Model_load s m args below meth c G A 3 Qw 0 0 hp 28 [(0, .ref a0), (1, .int x1), (2, .int x2)] [] := by
  unfold wp_Model_load_28 at hf
  refine x_aload_n X (q := 0) d_Model_load_28 rfl 29 rfl ?_
  refine x_iconst X (v := 0) d_Model_load_29 (by decide) 30 rfl ?_
  refine x_put X hf (ci := 12) (j := 3) (ty := .int) rfl (by decide) rfl lf_Model_130 rfl (by decide +kernel) rfl rfl d_Model_load_30 33 rfl (fun h1 hf => ?_)
  refine x_aload_n X (q := 0) d_Model_load_33 rfl 34 rfl ?_
  refine x_aload_n X (q := 0) d_Model_load_34 rfl 35 rfl ?_
  refine x_getI X hf (ci := 12) (j := 7) rfl (by decide) rfl lf_Model_136 d_Model_load_35 38 rfl (fun v2 hf => ?_)
  refine x_put X hf (ci := 12) (j := 4) (ty := .int) rfl (by decide) rfl lf_Model_210 rfl (by decide +kernel) rfl rfl d_Model_load_38 41 rfl (fun h3 hf => ?_)
  refine x_aload_n X (q := 0) d_Model_load_41 rfl 42 rfl ?_
  refine x_aload_n X (q := 0) d_Model_load_42 rfl 43 rfl ?_
  refine x_getI X hf (ci := 12) (j := 8) rfl (by decide) rfl lf_Model_139 d_Model_load_43 46 rfl (fun v4 hf => ?_)
  refine x_put X hf (ci := 12) (j := 5) (ty := .int) rfl (by decide) rfl lf_Model_16 rfl (by decide +kernel) rfl rfl d_Model_load_46 49 rfl (fun h5 hf => ?_)
  refine x_aload_n X (q := 0) d_Model_load_49 rfl 50 rfl ?_
  refine x_iload_n X (q := 2) d_Model_load_50 rfl 51 rfl ?_
  refine x_if_eq X hf d_Model_load_51 61 54 (by decide) rfl (fun hf => ?_) (fun hf => ?_)
  · exact x_sub [0, 1] rfl (t_Model_load_61 X hret hf)
  · refine x_aload_n X (q := 0) d_Model_load_54 rfl 55 rfl ?_
    refine x_getI X hf (ci := 12) (j := 7) rfl (by decide) rfl lf_Model_136 d_Model_load_55 58 rfl (fun v6 hf => ?_)
    refine x_if_le X hf d_Model_load_58 65 61 (by decide) rfl (fun hf => ?_) (fun hf => ?_)
    · refine x_iconst X (v := 0) d_Model_load_65 (by decide) 66 rfl ?_
      exact x_sub [0, 1] rfl (t_Model_load_66 X hret hf)
    · exact x_sub [0, 1] rfl (t_Model_load_61 X hret hf)
set_option maxRecDepth 100000 in
def wp_Model_load (z : Nat → Nat) (Q : Int32 → xh → Prop) (a0 : Nat) (x1 : Int32) (hp : xh) : Prop :=
  ∃ h1, pV hp a0 12 6 (.int 0) = some h1 ∧ (∃ h2, pV h1 a0 12 7 (.int 0) = some h2 ∧ (∃ h3, pV h2 a0 12 8 (.int (-1)) = some h3 ∧ (wp_Model_isCircuit z (fun v5 h4 => (v5 = 0 → wp_Model_load_28 z Q a0 x1 v5 h4) ∧ (¬ v5 = 0 → (xcls h4 a0 12 ∧ wp_Model_read z (fun h7 => wp_Model_load_28 z Q a0 x1 v5 h7) a0 h4))) x1 h3)))
set_option maxRecDepth 100000 in
set_option maxHeartbeats 4000000 in
theorem t_Model_load {l : Launch} {G : xG} {z : Nat → Nat} {Q : Int32 → xh → Prop} {a0 : Nat} {x1 : Int32} {hp : xh} (hf : wp_Model_load z Q a0 x1 hp) : xM l G z y_Model_load b_Model_load 3 (some .int) rm_Model_load [.ref a0, .int x1] hp (xqi Q) := by
  refine xM_of (by decide) (Nat.le_of_ble_eq_true rfl) (lv0 := [(0, .ref a0), (1, .int x1)]) rfl ?_
  intro p e s m args below meth c A Qw X hret
  unfold wp_Model_load at hf
  refine x_aload_n X (q := 0) d_Model_load_0 rfl 1 rfl ?_
  refine x_iconst X (v := 0) d_Model_load_1 (by decide) 2 rfl ?_
  refine x_put X hf (ci := 12) (j := 6) (ty := .int) rfl (by decide) rfl lf_Model_133 rfl (by decide +kernel) rfl rfl d_Model_load_2 5 rfl (fun h1 hf => ?_)
  refine x_aload_n X (q := 0) d_Model_load_5 rfl 6 rfl ?_
  refine x_iconst X (v := 0) d_Model_load_6 (by decide) 7 rfl ?_
  refine x_put X hf (ci := 12) (j := 7) (ty := .int) rfl (by decide) rfl lf_Model_136 rfl (by decide +kernel) rfl rfl d_Model_load_7 10 rfl (fun h2 hf => ?_)
  refine x_aload_n X (q := 0) d_Model_load_10 rfl 11 rfl ?_
  refine x_iconst X (v := (-1)) d_Model_load_11 (by decide) 12 rfl ?_
  refine x_put X hf (ci := 12) (j := 8) (ty := .int) rfl (by decide) rfl lf_Model_139 rfl (by decide +kernel) rfl rfl d_Model_load_12 15 rfl (fun h3 hf => ?_)
  refine x_iload_n X (q := 1) d_Model_load_15 rfl 16 rfl ?_
  refine x_callS0z X (t_Model_isCircuit hf) lm_Model_204 im_Model_isCircuit cd_Model_isCircuit in_Model ds_Model_isCircuit rfl rfl (Nat.le_of_ble_eq_true rfl) (Nat.le_of_ble_eq_true rfl) (Nat.le_of_ble_eq_true rfl) rfl rfl (Nat.le_refl 0) (Nat.le_refl 0) d_Model_load_16 19 rfl (fun v5 h4 hb6 hf => ?_)
  refine x_istore_n X (lv' := [(2, .int v5), (0, .ref a0), (1, .int x1)]) d_Model_load_19 rfl (by decide) rfl 20 rfl ?_
  refine x_iload_n X (q := 0) d_Model_load_20 rfl 21 rfl ?_
  refine x_if_eq X hf d_Model_load_21 28 24 (by decide) rfl (fun hf => ?_) (fun hf => ?_)
  · exact x_sub [1, 2, 0] rfl (t_Model_load_28 X hret hf)
  · refine x_aload_n X (q := 1) d_Model_load_24 rfl 25 rfl ?_
    refine x_callV0v X (t_Model_read hf.2) hf.1 (ci := 12) rfl rfl lm_Model_207 im_Model_read sl_Model_read cd_Model_read in_Model ds_Model_read rfl rfl (Nat.le_of_ble_eq_true rfl) (Nat.le_of_ble_eq_true rfl) (Nat.le_of_ble_eq_true rfl) rfl rfl (Nat.le_refl 0) (Nat.le_refl 0) d_Model_load_25 28 rfl (fun h7 hf => ?_)
    exact x_sub [1, 2, 0] rfl (t_Model_load_28 X hret hf)

set_option maxRecDepth 100000 in
def wp_Model_fault (z : Nat → Nat) (Q : Int32 → xh → Prop) (a0 : Nat) (x1 : Int32) (hp : xh) : Prop :=
  ∃ h1, pV hp a0 12 0 (.int 0) = some h1 ∧ ((¬ x1 = 0 → ((¬ x1 = 1 → (Q (-1) h1)) ∧ (x1 = 1 → (∃ v2, fI h1 a0 12 5 = some v2 ∧ Q v2 h1)))) ∧ (x1 = 0 → (∃ v3, fI h1 a0 12 4 = some v3 ∧ Q v3 h1)))
set_option maxRecDepth 100000 in
set_option maxHeartbeats 4000000 in
theorem t_Model_fault {l : Launch} {G : xG} {z : Nat → Nat} {Q : Int32 → xh → Prop} {a0 : Nat} {x1 : Int32} {hp : xh} (hf : wp_Model_fault z Q a0 x1 hp) : xM l G z y_Model_fault b_Model_fault 2 (some .int) rm_Model_fault [.ref a0, .int x1] hp (xqi Q) := by
  refine xM_of (by decide) (Nat.le_of_ble_eq_true rfl) (lv0 := [(0, .ref a0), (1, .int x1)]) rfl ?_
  intro p e s m args below meth c A Qw X hret
  unfold wp_Model_fault at hf
  refine x_aload_n X (q := 0) d_Model_fault_0 rfl 1 rfl ?_
  refine x_iconst X (v := 0) d_Model_fault_1 (by decide) 2 rfl ?_
  refine x_put X hf (ci := 12) (j := 0) (ty := .int) rfl (by decide) rfl lf_Model_127 rfl (by decide +kernel) rfl rfl d_Model_fault_2 5 rfl (fun h1 hf => ?_)
  refine x_iload_n X (q := 1) d_Model_fault_5 rfl 6 rfl ?_
  refine x_if_ne X hf d_Model_fault_6 16 9 (by decide) rfl (fun hf => ?_) (fun hf => ?_)
  · refine x_iload_n X (q := 1) d_Model_fault_16 rfl 17 rfl ?_
    refine x_iconst X (v := 1) d_Model_fault_17 (by decide) 18 rfl ?_
    refine x_icmp_ne X hf d_Model_fault_18 28 21 (by decide) rfl (fun hf => ?_) (fun hf => ?_)
    · refine x_iconst X (v := (-1)) d_Model_fault_28 (by decide) 29 rfl ?_
      exact hret _ _ _ _ _ (some (.int (-1))) (Nat.le_refl 0) (Nat.le_refl 0) ⟨_, rfl, hf⟩ ⟨⟨_, rfl, rfl⟩, d_Model_fault_29⟩
    · refine x_aload_n X (q := 0) d_Model_fault_21 rfl 22 rfl ?_
      refine x_getI X hf (ci := 12) (j := 5) rfl (by decide) rfl lf_Model_16 d_Model_fault_22 25 rfl (fun v2 hf => ?_)
      refine x_goto X d_Model_fault_25 29 (by decide) ?_
      exact hret _ _ _ _ _ (some (.int v2)) (Nat.le_refl 0) (Nat.le_refl 0) ⟨_, rfl, hf⟩ ⟨⟨_, rfl, rfl⟩, d_Model_fault_29⟩
  · refine x_aload_n X (q := 0) d_Model_fault_9 rfl 10 rfl ?_
    refine x_getI X hf (ci := 12) (j := 4) rfl (by decide) rfl lf_Model_210 d_Model_fault_10 13 rfl (fun v3 hf => ?_)
    refine x_goto X d_Model_fault_13 29 (by decide) ?_
    exact hret _ _ _ _ _ (some (.int v3)) (Nat.le_refl 0) (Nat.le_refl 0) ⟨_, rfl, hf⟩ ⟨⟨_, rfl, rfl⟩, d_Model_fault_29⟩

set_option maxRecDepth 100000 in
def wp_Model_isThere (z : Nat → Nat) (Q : Int32 → xh → Prop) (a0 : Nat) (x1 : Int32) (hp : xh) : Prop :=
  wp_Model_isCircuit z (fun v2 h1 => (v2 = 0 → Q 0 h1) ∧ (¬ v2 = 0 → (∃ o4, fR h1 a0 12 30 = some o4 ∧ (∃ v5, aI h1 o4 2 x1 = some v5 ∧ ((v5 = 0 → Q 0 h1) ∧ (¬ v5 = 0 → Q 1 h1)))))) x1 hp
set_option maxRecDepth 100000 in
set_option maxHeartbeats 4000000 in
theorem t_Model_isThere {l : Launch} {G : xG} {z : Nat → Nat} {Q : Int32 → xh → Prop} {a0 : Nat} {x1 : Int32} {hp : xh} (hf : wp_Model_isThere z Q a0 x1 hp) : xM l G z y_Model_isThere b_Model_isThere 2 (some .boolean) rm_Model_isThere [.ref a0, .int x1] hp (xqz Q) := by
  refine xM_of (by decide) (Nat.le_of_ble_eq_true rfl) (lv0 := [(0, .ref a0), (1, .int x1)]) rfl ?_
  intro p e s m args below meth c A Qw X hret
  unfold wp_Model_isThere at hf
  refine x_iload_n X (q := 1) d_Model_isThere_0 rfl 1 rfl ?_
  refine x_callS0z X (t_Model_isCircuit hf) lm_Model_204 im_Model_isCircuit cd_Model_isCircuit in_Model ds_Model_isCircuit rfl rfl (Nat.le_of_ble_eq_true rfl) (Nat.le_of_ble_eq_true rfl) (Nat.le_of_ble_eq_true rfl) rfl rfl (Nat.le_refl 0) (Nat.le_refl 0) d_Model_isThere_1 4 rfl (fun v2 h1 hb3 hf => ?_)
  refine x_if_eq X hf d_Model_isThere_4 20 7 (by decide) rfl (fun hf => ?_) (fun hf => ?_)
  · refine x_iconst X (v := 0) d_Model_isThere_20 (by decide) 21 rfl ?_
    exact hret _ _ _ _ _ (some (.int 0)) (Nat.le_refl 0) (Nat.le_refl 0) ⟨_, rfl, (Or.inl rfl), hf⟩ ⟨⟨_, rfl, xbl_nar (Or.inl rfl)⟩, d_Model_isThere_21⟩
  · refine x_aload_n X (q := 0) d_Model_isThere_7 rfl 8 rfl ?_
    refine x_getR X hf (ci := 12) (j := 30) rfl (by decide) rfl lf_Model_79 d_Model_isThere_8 11 rfl (fun o4 hf => ?_)
    refine x_iload_n X (q := 1) d_Model_isThere_11 rfl 12 rfl ?_
    refine x_zald X hf d_Model_isThere_12 13 rfl (fun v5 hf => ?_)
    refine x_if_eq X hf d_Model_isThere_13 20 16 (by decide) rfl (fun hf => ?_) (fun hf => ?_)
    · refine x_iconst X (v := 0) d_Model_isThere_20 (by decide) 21 rfl ?_
      exact hret _ _ _ _ _ (some (.int 0)) (Nat.le_refl 0) (Nat.le_refl 0) ⟨_, rfl, (Or.inl rfl), hf⟩ ⟨⟨_, rfl, xbl_nar (Or.inl rfl)⟩, d_Model_isThere_21⟩
    · refine x_iconst X (v := 1) d_Model_isThere_16 (by decide) 17 rfl ?_
      refine x_goto X d_Model_isThere_17 21 (by decide) ?_
      exact hret _ _ _ _ _ (some (.int 1)) (Nat.le_refl 0) (Nat.le_refl 0) ⟨_, rfl, (Or.inr rfl), hf⟩ ⟨⟨_, rfl, xbl_nar (Or.inr rfl)⟩, d_Model_isThere_21⟩

set_option maxRecDepth 100000 in
def wp_Model_many_22 (z : Nat → Nat) (Q : Int32 → xh → Prop)   (hp : xh) : Prop :=
  Q (-1) hp
set_option maxRecDepth 100000 in
set_option maxHeartbeats 4000000 in
theorem t_Model_many_22 {p : Program} {l : Launch} {e : Env} {s : State} {m : MethodId} {args : Array Value} {below : List Frame} {meth : Method} {c : Code} {G : xG} {z : Nat → Nat} {A : Nat → Prop} {Qw : State → Prop} {Q : Int32 → xh → Prop}  {hp : xh} (X : xX p l e rm_Model_many s m args below meth c G z A y_Model_many b_Model_many 3) (hret : xRet p l e rm_Model_many s m args below meth c G A 3 Qw b_Model_many (some .int) (xqi Q))  (hf : wp_Model_many_22 z Q  hp) : xE p l e rm_Model_many s m args below meth c G A 3 Qw 0 0 hp 22 [] [] := by
  unfold wp_Model_many_22 at hf
  refine x_iconst X (v := (-1)) d_Model_many_22 (by decide) 23 rfl ?_
  refine x_goto X d_Model_many_23 36 (by decide) ?_
  exact hret _ _ _ _ _ (some (.int (-1))) (Nat.le_refl 0) (Nat.le_refl 0) ⟨_, rfl, hf⟩ ⟨⟨_, rfl, rfl⟩, d_Model_many_36⟩
set_option maxRecDepth 100000 in
def wp_Model_many (z : Nat → Nat) (Q : Int32 → xh → Prop) (a0 : Nat) (x1 : Int32) (x2 : Int32) (hp : xh) : Prop :=
  ∃ h1, pV hp a0 12 0 (.int 0) = some h1 ∧ (xcls h1 a0 12 ∧ wp_Model_isThere z (fun v3 h2 => (v3 = 0 → wp_Model_many_22 z Q h2) ∧ (¬ v3 = 0 → ((x2 < 0 → wp_Model_many_22 z Q h2) ∧ (¬ x2 < 0 → ((x2 ≤ 4 → (∃ o5, fR h2 a0 12 10 = some o5 ∧ (∃ v6, aI h2 o5 0 ((5 * x1) + x2) = some v6 ∧ Q v6 h2))) ∧ (¬ x2 ≤ 4 → wp_Model_many_22 z Q h2)))))) a0 x1 h1)
set_option maxRecDepth 100000 in
set_option maxHeartbeats 4000000 in
theorem t_Model_many {l : Launch} {G : xG} {z : Nat → Nat} {Q : Int32 → xh → Prop} {a0 : Nat} {x1 : Int32} {x2 : Int32} {hp : xh} (hf : wp_Model_many z Q a0 x1 x2 hp) : xM l G z y_Model_many b_Model_many 3 (some .int) rm_Model_many [.ref a0, .int x1, .int x2] hp (xqi Q) := by
  refine xM_of (by decide) (Nat.le_of_ble_eq_true rfl) (lv0 := [(0, .ref a0), (1, .int x1), (2, .int x2)]) rfl ?_
  intro p e s m args below meth c A Qw X hret
  unfold wp_Model_many at hf
  refine x_aload_n X (q := 0) d_Model_many_0 rfl 1 rfl ?_
  refine x_iconst X (v := 0) d_Model_many_1 (by decide) 2 rfl ?_
  refine x_put X hf (ci := 12) (j := 0) (ty := .int) rfl (by decide) rfl lf_Model_127 rfl (by decide +kernel) rfl rfl d_Model_many_2 5 rfl (fun h1 hf => ?_)
  refine x_aload_n X (q := 0) d_Model_many_5 rfl 6 rfl ?_
  refine x_iload_n X (q := 1) d_Model_many_6 rfl 7 rfl ?_
  refine x_callV0z X (t_Model_isThere hf.2) hf.1 (ci := 12) rfl rfl lm_Model_234 im_Model_isThere sl_Model_isThere cd_Model_isThere in_Model ds_Model_isThere rfl rfl (Nat.le_of_ble_eq_true rfl) (Nat.le_of_ble_eq_true rfl) (Nat.le_of_ble_eq_true rfl) rfl rfl (Nat.le_refl 0) (Nat.le_refl 0) d_Model_many_7 10 rfl (fun v3 h2 hb4 hf => ?_)
  refine x_if_eq X hf d_Model_many_10 22 13 (by decide) rfl (fun hf => ?_) (fun hf => ?_)
  · exact x_sub [] rfl (t_Model_many_22 X hret hf)
  · refine x_iload_n X (q := 2) d_Model_many_13 rfl 14 rfl ?_
    refine x_if_lt X hf d_Model_many_14 22 17 (by decide) rfl (fun hf => ?_) (fun hf => ?_)
    · exact x_sub [] rfl (t_Model_many_22 X hret hf)
    · refine x_iload_n X (q := 2) d_Model_many_17 rfl 18 rfl ?_
      refine x_iconst X (v := 4) d_Model_many_18 (by decide) 19 rfl ?_
      refine x_icmp_le X hf d_Model_many_19 26 22 (by decide) rfl (fun hf => ?_) (fun hf => ?_)
      · refine x_aload_n X (q := 0) d_Model_many_26 rfl 27 rfl ?_
        refine x_getR X hf (ci := 12) (j := 10) rfl (by decide) rfl lf_Model_20 d_Model_many_27 30 rfl (fun o5 hf => ?_)
        refine x_iconst X (v := 5) d_Model_many_30 (by decide) 31 rfl ?_
        refine x_iload_n X (q := 1) d_Model_many_31 rfl 32 rfl ?_
        refine x_imul X d_Model_many_32 33 rfl ?_
        refine x_iload_n X (q := 2) d_Model_many_33 rfl 34 rfl ?_
        refine x_iadd X d_Model_many_34 35 rfl ?_
        refine x_iald X hf d_Model_many_35 36 rfl (fun v6 hf => ?_)
        exact hret _ _ _ _ _ (some (.int v6)) (Nat.le_refl 0) (Nat.le_refl 0) ⟨_, rfl, hf⟩ ⟨⟨_, rfl, rfl⟩, d_Model_many_36⟩
      · exact x_sub [] rfl (t_Model_many_22 X hret hf)

set_option maxRecDepth 100000 in
def wp_Model_symbol_90 (z : Nat → Nat) (Q : Int32 → xh → Prop)   (hp : xh) : Prop :=
  Q (-1) hp
set_option maxRecDepth 100000 in
set_option maxHeartbeats 4000000 in
theorem t_Model_symbol_90 {p : Program} {l : Launch} {e : Env} {s : State} {m : MethodId} {args : Array Value} {below : List Frame} {meth : Method} {c : Code} {G : xG} {z : Nat → Nat} {A : Nat → Prop} {Qw : State → Prop} {Q : Int32 → xh → Prop}  {hp : xh} (X : xX p l e rm_Model_symbol s m args below meth c G z A y_Model_symbol b_Model_symbol 6) (hret : xRet p l e rm_Model_symbol s m args below meth c G A 6 Qw b_Model_symbol (some .int) (xqi Q))  (hf : wp_Model_symbol_90 z Q  hp) : xE p l e rm_Model_symbol s m args below meth c G A 6 Qw 0 0 hp 90 [] [] := by
  unfold wp_Model_symbol_90 at hf
  refine x_iconst X (v := (-1)) d_Model_symbol_90 (by decide) 91 rfl ?_
  refine x_goto X d_Model_symbol_91 111 (by decide) ?_
  exact hret _ _ _ _ _ (some (.int (-1))) (Nat.le_refl 0) (Nat.le_refl 0) ⟨_, rfl, hf⟩ ⟨⟨_, rfl, rfl⟩, d_Model_symbol_111⟩
set_option maxRecDepth 100000 in
def wp_Model_symbol_68 (z : Nat → Nat) (Q : Int32 → xh → Prop)  (a0 : Nat) (x3 : Int32) (x4 : Int32) (s1 : Int32) (s0 : Int32) (hp : xh) : Prop :=
  ∀ v1, v1 = ((s0 + s1) + x3) → (x4 < 0 → wp_Model_symbol_90 z Q hp) ∧ (¬ x4 < 0 → (∃ o2, fR hp a0 12 25 = some o2 ∧ (∃ v3, aI hp o2 0 v1 = some v3 ∧ ((x4 < v3 → (∃ o4, fR hp a0 12 24 = some o4 ∧ (∃ v5, aI hp o4 1 ((40 * v1) + x4) = some v5 ∧ (Q (v5 &&& 255) hp)))) ∧ (¬ x4 < v3 → wp_Model_symbol_90 z Q hp)))))
set_option maxRecDepth 100000 in
set_option maxHeartbeats 4000000 in
theorem t_Model_symbol_68 {p : Program} {l : Launch} {e : Env} {s : State} {m : MethodId} {args : Array Value} {below : List Frame} {meth : Method} {c : Code} {G : xG} {z : Nat → Nat} {A : Nat → Prop} {Qw : State → Prop} {Q : Int32 → xh → Prop} {a0 : Nat} {x3 : Int32} {x4 : Int32} {s1 : Int32} {s0 : Int32} {hp : xh} (X : xX p l e rm_Model_symbol s m args below meth c G z A y_Model_symbol b_Model_symbol 6) (hret : xRet p l e rm_Model_symbol s m args below meth c G A 6 Qw b_Model_symbol (some .int) (xqi Q))  (hf : wp_Model_symbol_68 z Q  a0 x3 x4 s1 s0 hp) : xE p l e rm_Model_symbol s m args below meth c G A 6 Qw 0 0 hp 68 [(0, .ref a0), (3, .int x3), (4, .int x4)] [.int s1, .int s0] := by
  unfold wp_Model_symbol_68 at hf
  refine x_iadd X d_Model_symbol_68 69 rfl ?_
  refine x_iload_n X (q := 1) d_Model_symbol_69 rfl 70 rfl ?_
  refine x_iadd X d_Model_symbol_70 71 rfl ?_
  refine x_istoreN X hf d_Model_symbol_71 (by decide) (lw := fun v1 => [(5, .int v1), (0, .ref a0), (3, .int x3), (4, .int x4)]) (fun _ => rfl) 73 rfl (fun v1 hf => ?_)
  refine x_iload X (q := 3) d_Model_symbol_73 rfl 75 rfl ?_
  refine x_if_lt X hf d_Model_symbol_75 90 78 (by decide) rfl (fun hf => ?_) (fun hf => ?_)
  · exact x_sub [] rfl (t_Model_symbol_90 X hret hf)
  · refine x_iload X (q := 3) d_Model_symbol_78 rfl 80 rfl ?_
    refine x_aload_n X (q := 1) d_Model_symbol_80 rfl 81 rfl ?_
    refine x_getR X hf (ci := 12) (j := 25) rfl (by decide) rfl lf_Model_66 d_Model_symbol_81 84 rfl (fun o2 hf => ?_)
    refine x_iload X (q := 0) d_Model_symbol_84 rfl 86 rfl ?_
    refine x_iald X hf d_Model_symbol_86 87 rfl (fun v3 hf => ?_)
    refine x_icmp_lt X hf d_Model_symbol_87 94 90 (by decide) rfl (fun hf => ?_) (fun hf => ?_)
    · refine x_aload_n X (q := 1) d_Model_symbol_94 rfl 95 rfl ?_
      refine x_getR X hf (ci := 12) (j := 24) rfl (by decide) rfl lf_Model_63 d_Model_symbol_95 98 rfl (fun o4 hf => ?_)
      refine x_bipush X (v := 40) d_Model_symbol_98 (by decide) 100 rfl ?_
      refine x_iload X (q := 0) d_Model_symbol_100 rfl 102 rfl ?_
      refine x_imul X d_Model_symbol_102 103 rfl ?_
      refine x_iload X (q := 3) d_Model_symbol_103 rfl 105 rfl ?_
      refine x_iadd X d_Model_symbol_105 106 rfl ?_
      refine x_bald X hf d_Model_symbol_106 107 rfl (fun v5 hf => ?_)
      refine x_sipush X (v := 255) d_Model_symbol_107 (by decide) 110 rfl ?_
      refine x_iand X d_Model_symbol_110 111 rfl ?_
      exact hret _ _ _ _ _ (some (.int (v5 &&& 255))) (Nat.le_refl 0) (Nat.le_refl 0) ⟨_, rfl, hf⟩ ⟨⟨_, rfl, rfl⟩, d_Model_symbol_111⟩
    · exact x_sub [] rfl (t_Model_symbol_90 X hret hf)
set_option maxRecDepth 100000 in
def wp_Model_symbol (z : Nat → Nat) (Q : Int32 → xh → Prop) (a0 : Nat) (x1 : Int32) (x2 : Int32) (x3 : Int32) (x4 : Int32) (hp : xh) : Prop :=
  ∃ h1, pV hp a0 12 0 (.int 0) = some h1 ∧ (xcls h1 a0 12 ∧ wp_Model_isThere z (fun v3 h2 => (v3 = 0 → (Q (-1) h2)) ∧ (¬ v3 = 0 → ((x2 < 0 → (Q (-1) h2)) ∧ (¬ x2 < 0 → ((2 < x2 → (Q (-1) h2)) ∧ (¬ 2 < x2 → ((x3 < 0 → (Q (-1) h2)) ∧ (¬ x3 < 0 → (∃ o5, fR h2 a0 12 10 = some o5 ∧ (∃ v6, aI h2 o5 0 (((5 * x1) + 1) + x2) = some v6 ∧ ((x3 < v6 → ((¬ x2 = 0 → ((¬ x2 = 1 → (wp_Model_symbol_68 z Q a0 x3 x4 14 (22 * x1) h2)) ∧ (x2 = 1 → (wp_Model_symbol_68 z Q a0 x3 x4 6 (22 * x1) h2)))) ∧ (x2 = 0 → (wp_Model_symbol_68 z Q a0 x3 x4 0 (22 * x1) h2)))) ∧ (¬ x3 < v6 → (Q (-1) h2))))))))))))) a0 x1 h1)
set_option maxRecDepth 100000 in
set_option maxHeartbeats 4000000 in
theorem t_Model_symbol {l : Launch} {G : xG} {z : Nat → Nat} {Q : Int32 → xh → Prop} {a0 : Nat} {x1 : Int32} {x2 : Int32} {x3 : Int32} {x4 : Int32} {hp : xh} (hf : wp_Model_symbol z Q a0 x1 x2 x3 x4 hp) : xM l G z y_Model_symbol b_Model_symbol 6 (some .int) rm_Model_symbol [.ref a0, .int x1, .int x2, .int x3, .int x4] hp (xqi Q) := by
  refine xM_of (by decide) (Nat.le_of_ble_eq_true rfl) (lv0 := [(0, .ref a0), (1, .int x1), (2, .int x2), (3, .int x3), (4, .int x4)]) rfl ?_
  intro p e s m args below meth c A Qw X hret
  unfold wp_Model_symbol at hf
  refine x_aload_n X (q := 0) d_Model_symbol_0 rfl 1 rfl ?_
  refine x_iconst X (v := 0) d_Model_symbol_1 (by decide) 2 rfl ?_
  refine x_put X hf (ci := 12) (j := 0) (ty := .int) rfl (by decide) rfl lf_Model_127 rfl (by decide +kernel) rfl rfl d_Model_symbol_2 5 rfl (fun h1 hf => ?_)
  refine x_aload_n X (q := 0) d_Model_symbol_5 rfl 6 rfl ?_
  refine x_iload_n X (q := 1) d_Model_symbol_6 rfl 7 rfl ?_
  refine x_callV0z X (t_Model_isThere hf.2) hf.1 (ci := 12) rfl rfl lm_Model_234 im_Model_isThere sl_Model_isThere cd_Model_isThere in_Model ds_Model_isThere rfl rfl (Nat.le_of_ble_eq_true rfl) (Nat.le_of_ble_eq_true rfl) (Nat.le_of_ble_eq_true rfl) rfl rfl (Nat.le_refl 0) (Nat.le_refl 0) d_Model_symbol_7 10 rfl (fun v3 h2 hb4 hf => ?_)
  refine x_if_eq X hf d_Model_symbol_10 42 13 (by decide) rfl (fun hf => ?_) (fun hf => ?_)
  · refine x_iconst X (v := (-1)) d_Model_symbol_42 (by decide) 43 rfl ?_
    exact hret _ _ _ _ _ (some (.int (-1))) (Nat.le_refl 0) (Nat.le_refl 0) ⟨_, rfl, hf⟩ ⟨⟨_, rfl, rfl⟩, d_Model_symbol_43⟩
  · refine x_iload_n X (q := 2) d_Model_symbol_13 rfl 14 rfl ?_
    refine x_if_lt X hf d_Model_symbol_14 42 17 (by decide) rfl (fun hf => ?_) (fun hf => ?_)
    · refine x_iconst X (v := (-1)) d_Model_symbol_42 (by decide) 43 rfl ?_
      exact hret _ _ _ _ _ (some (.int (-1))) (Nat.le_refl 0) (Nat.le_refl 0) ⟨_, rfl, hf⟩ ⟨⟨_, rfl, rfl⟩, d_Model_symbol_43⟩
    · refine x_iload_n X (q := 2) d_Model_symbol_17 rfl 18 rfl ?_
      refine x_iconst X (v := 2) d_Model_symbol_18 (by decide) 19 rfl ?_
      refine x_icmp_gt X hf d_Model_symbol_19 42 22 (by decide) rfl (fun hf => ?_) (fun hf => ?_)
      · refine x_iconst X (v := (-1)) d_Model_symbol_42 (by decide) 43 rfl ?_
        exact hret _ _ _ _ _ (some (.int (-1))) (Nat.le_refl 0) (Nat.le_refl 0) ⟨_, rfl, hf⟩ ⟨⟨_, rfl, rfl⟩, d_Model_symbol_43⟩
      · refine x_iload_n X (q := 3) d_Model_symbol_22 rfl 23 rfl ?_
        refine x_if_lt X hf d_Model_symbol_23 42 26 (by decide) rfl (fun hf => ?_) (fun hf => ?_)
        · refine x_iconst X (v := (-1)) d_Model_symbol_42 (by decide) 43 rfl ?_
          exact hret _ _ _ _ _ (some (.int (-1))) (Nat.le_refl 0) (Nat.le_refl 0) ⟨_, rfl, hf⟩ ⟨⟨_, rfl, rfl⟩, d_Model_symbol_43⟩
        · refine x_iload_n X (q := 3) d_Model_symbol_26 rfl 27 rfl ?_
          refine x_aload_n X (q := 0) d_Model_symbol_27 rfl 28 rfl ?_
          refine x_getR X hf (ci := 12) (j := 10) rfl (by decide) rfl lf_Model_20 d_Model_symbol_28 31 rfl (fun o5 hf => ?_)
          refine x_iconst X (v := 5) d_Model_symbol_31 (by decide) 32 rfl ?_
          refine x_iload_n X (q := 1) d_Model_symbol_32 rfl 33 rfl ?_
          refine x_imul X d_Model_symbol_33 34 rfl ?_
          refine x_iconst X (v := 1) d_Model_symbol_34 (by decide) 35 rfl ?_
          refine x_iadd X d_Model_symbol_35 36 rfl ?_
          refine x_iload_n X (q := 2) d_Model_symbol_36 rfl 37 rfl ?_
          refine x_iadd X d_Model_symbol_37 38 rfl ?_
          refine x_iald X hf d_Model_symbol_38 39 rfl (fun v6 hf => ?_)
          refine x_icmp_lt X hf d_Model_symbol_39 44 42 (by decide) rfl (fun hf => ?_) (fun hf => ?_)
          · refine x_bipush X (v := 22) d_Model_symbol_44 (by decide) 46 rfl ?_
            refine x_iload_n X (q := 1) d_Model_symbol_46 rfl 47 rfl ?_
            refine x_imul X d_Model_symbol_47 48 rfl ?_
            refine x_iload_n X (q := 2) d_Model_symbol_48 rfl 49 rfl ?_
            refine x_if_ne X hf d_Model_symbol_49 56 52 (by decide) rfl (fun hf => ?_) (fun hf => ?_)
            · refine x_iload_n X (q := 2) d_Model_symbol_56 rfl 57 rfl ?_
              refine x_iconst X (v := 1) d_Model_symbol_57 (by decide) 58 rfl ?_
              refine x_icmp_ne X hf d_Model_symbol_58 66 61 (by decide) rfl (fun hf => ?_) (fun hf => ?_)
              · refine x_bipush X (v := 14) d_Model_symbol_66 (by decide) 68 rfl ?_
                exact x_sub [0, 3, 4] rfl (t_Model_symbol_68 X hret hf)
              · refine x_bipush X (v := 6) d_Model_symbol_61 (by decide) 63 rfl ?_
                refine x_goto X d_Model_symbol_63 68 (by decide) ?_
                exact x_sub [0, 3, 4] rfl (t_Model_symbol_68 X hret hf)
            · refine x_iconst X (v := 0) d_Model_symbol_52 (by decide) 53 rfl ?_
              refine x_goto X d_Model_symbol_53 68 (by decide) ?_
              exact x_sub [0, 3, 4] rfl (t_Model_symbol_68 X hret hf)
          · refine x_iconst X (v := (-1)) d_Model_symbol_42 (by decide) 43 rfl ?_
            exact hret _ _ _ _ _ (some (.int (-1))) (Nat.le_refl 0) (Nat.le_refl 0) ⟨_, rfl, hf⟩ ⟨⟨_, rfl, rfl⟩, d_Model_symbol_43⟩

set_option maxRecDepth 100000 in
def wp_Model_vectors (z : Nat → Nat) (Q : Int64 → xh → Prop) (x0 : Int32) (hp : xh) : Prop :=
  (x0 = 0 → (Q (-6148914691236517206) hp)) ∧ (¬ x0 = 0 → ((x0 = 1 → (Q (-3689348814741910324) hp)) ∧ (¬ x0 = 1 → ((x0 = 2 → (Q (-1085102592571150096) hp)) ∧ (¬ x0 = 2 → ((x0 = 3 → (Q (-71777214294589696) hp)) ∧ (¬ x0 = 3 → (Q (-281470681808896) hp))))))))
set_option maxRecDepth 100000 in
set_option maxHeartbeats 4000000 in
theorem t_Model_vectors {l : Launch} {G : xG} {z : Nat → Nat} {Q : Int64 → xh → Prop} {x0 : Int32} {hp : xh} (hf : wp_Model_vectors z Q x0 hp) : xM l G z y_Model_vectors b_Model_vectors 1 (some .long) rm_Model_vectors [.int x0] hp (xql Q) := by
  refine xM_of (by decide) (Nat.le_of_ble_eq_true rfl) (lv0 := [(0, .int x0)]) rfl ?_
  intro p e s m args below meth c A Qw X hret
  unfold wp_Model_vectors at hf
  refine x_iload_n X (q := 0) d_Model_vectors_0 rfl 1 rfl ?_
  refine x_ite hf (fun hx0 hf => ?_) (fun hx0 hf => ?_)
  · refine x_tswIn X hx0 (off := 31) d_Model_vectors_1 (by decide) (by decide) (by decide) 32 (by decide) ?_
    refine x_ldc2 X (v := (-6148914691236517206)) cl_Model_237 d_Model_vectors_32 35 rfl ?_
    exact hret _ _ _ _ _ (some (.long (-6148914691236517206))) (Nat.le_refl 0) (Nat.le_refl 0) ⟨_, rfl, hf⟩ ⟨rfl, d_Model_vectors_35⟩
  refine x_ite hf (fun hx1 hf => ?_) (fun hx1 hf => ?_)
  · refine x_tswIn X hx1 (off := 35) d_Model_vectors_1 (by decide) (by decide) (by decide) 36 (by decide) ?_
    refine x_ldc2 X (v := (-3689348814741910324)) cl_Model_239 d_Model_vectors_36 39 rfl ?_
    exact hret _ _ _ _ _ (some (.long (-3689348814741910324))) (Nat.le_refl 0) (Nat.le_refl 0) ⟨_, rfl, hf⟩ ⟨rfl, d_Model_vectors_39⟩
  refine x_ite hf (fun hx2 hf => ?_) (fun hx2 hf => ?_)
  · refine x_tswIn X hx2 (off := 39) d_Model_vectors_1 (by decide) (by decide) (by decide) 40 (by decide) ?_
    refine x_ldc2 X (v := (-1085102592571150096)) cl_Model_241 d_Model_vectors_40 43 rfl ?_
    exact hret _ _ _ _ _ (some (.long (-1085102592571150096))) (Nat.le_refl 0) (Nat.le_refl 0) ⟨_, rfl, hf⟩ ⟨rfl, d_Model_vectors_43⟩
  refine x_ite hf (fun hx3 hf => ?_) (fun hx3 hf => ?_)
  · refine x_tswIn X hx3 (off := 43) d_Model_vectors_1 (by decide) (by decide) (by decide) 44 (by decide) ?_
    refine x_ldc2 X (v := (-71777214294589696)) cl_Model_243 d_Model_vectors_44 47 rfl ?_
    exact hret _ _ _ _ _ (some (.long (-71777214294589696))) (Nat.le_refl 0) (Nat.le_refl 0) ⟨_, rfl, hf⟩ ⟨rfl, d_Model_vectors_47⟩
  refine x_tswOut X d_Model_vectors_1 (by have e0 := lv_neT hx0 (by decide : (0 : Int32).toInt = (0 : Int)); have e1 := lv_neT hx1 (by decide : (1 : Int32).toInt = (1 : Int)); have e2 := lv_neT hx2 (by decide : (2 : Int32).toInt = (2 : Int)); have e3 := lv_neT hx3 (by decide : (3 : Int32).toInt = (3 : Int)); omega) 48 (by decide) ?_
  refine x_ldc2 X (v := (-281470681808896)) cl_Model_245 d_Model_vectors_48 51 rfl ?_
  exact hret _ _ _ _ _ (some (.long (-281470681808896))) (Nat.le_refl 0) (Nat.le_refl 0) ⟨_, rfl, hf⟩ ⟨rfl, d_Model_vectors_51⟩

set_option maxRecDepth 100000 in
def wp_Model_of (z : Nat → Nat) (Q : Int64 → xh → Prop) (a0 : Nat) (x1 : Int32) (x2 : Int32) (hp : xh) : Prop :=
  (¬ (x2 - x2 / 2 * 2) = 1 → (∃ o1, fR hp a0 12 32 = some o1 ∧ (∃ v2, aL hp o1 3 ((201 * x1) + (x2 / 2)) = some v2 ∧ Q v2 hp))) ∧ ((x2 - x2 / 2 * 2) = 1 → (∃ o3, fR hp a0 12 32 = some o3 ∧ (∃ v4, aL hp o3 3 ((201 * x1) + (x2 / 2)) = some v4 ∧ (Q (v4 ^^^ (-1)) hp))))
set_option maxRecDepth 100000 in
set_option maxHeartbeats 4000000 in
theorem t_Model_of {l : Launch} {G : xG} {z : Nat → Nat} {Q : Int64 → xh → Prop} {a0 : Nat} {x1 : Int32} {x2 : Int32} {hp : xh} (hf : wp_Model_of z Q a0 x1 x2 hp) : xM l G z y_Model_of b_Model_of 3 (some .long) rm_Model_of [.ref a0, .int x1, .int x2] hp (xql Q) := by
  refine xM_of (by decide) (Nat.le_of_ble_eq_true rfl) (lv0 := [(0, .ref a0), (1, .int x1), (2, .int x2)]) rfl ?_
  intro p e s m args below meth c A Qw X hret
  unfold wp_Model_of at hf
  refine x_iload_n X (q := 2) d_Model_of_0 rfl 1 rfl ?_
  refine x_iconst X (v := 2) d_Model_of_1 (by decide) 2 rfl ?_
  refine x_irem X (by decide) d_Model_of_2 3 rfl ?_
  refine x_iconst X (v := 1) d_Model_of_3 (by decide) 4 rfl ?_
  refine x_icmp_ne X hf d_Model_of_4 28 7 (by decide) rfl (fun hf => ?_) (fun hf => ?_)
  · refine x_aload_n X (q := 0) d_Model_of_28 rfl 29 rfl ?_
    refine x_getR X hf (ci := 12) (j := 32) rfl (by decide) rfl lf_Model_85 d_Model_of_29 32 rfl (fun o1 hf => ?_)
    refine x_sipush X (v := 201) d_Model_of_32 (by decide) 35 rfl ?_
    refine x_iload_n X (q := 1) d_Model_of_35 rfl 36 rfl ?_
    refine x_imul X d_Model_of_36 37 rfl ?_
    refine x_iload_n X (q := 2) d_Model_of_37 rfl 38 rfl ?_
    refine x_iconst X (v := 2) d_Model_of_38 (by decide) 39 rfl ?_
    refine x_idiv X (by decide) d_Model_of_39 40 rfl ?_
    refine x_iadd X d_Model_of_40 41 rfl ?_
    refine x_lald X hf d_Model_of_41 42 rfl (fun v2 hf => ?_)
    exact hret _ _ _ _ _ (some (.long v2)) (Nat.le_refl 0) (Nat.le_refl 0) ⟨_, rfl, hf⟩ ⟨rfl, d_Model_of_42⟩
  · refine x_aload_n X (q := 0) d_Model_of_7 rfl 8 rfl ?_
    refine x_getR X hf (ci := 12) (j := 32) rfl (by decide) rfl lf_Model_85 d_Model_of_8 11 rfl (fun o3 hf => ?_)
    refine x_sipush X (v := 201) d_Model_of_11 (by decide) 14 rfl ?_
    refine x_iload_n X (q := 1) d_Model_of_14 rfl 15 rfl ?_
    refine x_imul X d_Model_of_15 16 rfl ?_
    refine x_iload_n X (q := 2) d_Model_of_16 rfl 17 rfl ?_
    refine x_iconst X (v := 2) d_Model_of_17 (by decide) 18 rfl ?_
    refine x_idiv X (by decide) d_Model_of_18 19 rfl ?_
    refine x_iadd X d_Model_of_19 20 rfl ?_
    refine x_lald X hf d_Model_of_20 21 rfl (fun v4 hf => ?_)
    refine x_ldc2 X (v := (-1)) cl_Model_247 d_Model_of_21 24 rfl ?_
    refine x_lxor X d_Model_of_24 25 rfl ?_
    refine x_goto X d_Model_of_25 42 (by decide) ?_
    exact hret _ _ _ _ _ (some (.long (v4 ^^^ (-1)))) (Nat.le_refl 0) (Nat.le_refl 0) ⟨_, rfl, hf⟩ ⟨rfl, d_Model_of_42⟩

set_option maxRecDepth 100000 in
def wp_Model_reckon_124_b (z : Nat → Nat) (Q : xh → Prop)  (k124 : Nat × Int32 × Int32 × xh → Prop) (a0 : Nat) (x1 : Int32) (x3 : Int32) (hp : xh) : Prop :=
  ∃ o1, fR hp a0 12 10 = some o1 ∧ (∃ v2, aI hp o1 0 ((5 * x1) + 4) = some v2 ∧ ((v2 ≤ x3 → Q hp) ∧ (¬ v2 ≤ x3 → (∃ o3, fR hp a0 12 27 = some o3 ∧ (∃ v4, aI hp o3 0 ((150 * x1) + x3) = some v4 ∧ (∀ v5, v5 = ((150 * x1) + v4) → ∃ o6, fR hp a0 12 32 = some o6 ∧ (∃ o7, fR hp a0 12 15 = some o7 ∧ (∃ v8, aI hp o7 0 v5 = some v8 ∧ (∃ o9, fR hp a0 12 16 = some o9 ∧ (∃ v10, aI hp o9 0 v5 = some v10 ∧ (xcls hp a0 12 ∧ wp_Model_of z (fun v12 h11 => ∃ o13, fR h11 a0 12 17 = some o13 ∧ (∃ v14, aI h11 o13 0 v5 = some v14 ∧ (xcls h11 a0 12 ∧ wp_Model_of z (fun v16 h15 => ∃ h17, sL h15 o6 3 ((201 * x1) + (v8 / 2)) (v12 &&& v16) = some h17 ∧ (k124 (a0, x1, (x3 + 1), h17))) a0 x1 v14 h11))) a0 x1 v10 hp)))))))))))
set_option maxRecDepth 100000 in
def wp_Model_reckon_124 (z : Nat → Nat) (Q : xh → Prop)  (a0 : Nat) (x1 : Int32) (x3 : Int32) (hp : xh) : Prop := ∃ f : Nat, xloop (fun k124 a => wp_Model_reckon_124_b z Q  k124 a.1 a.2.1 a.2.2.1 a.2.2.2) f (a0, x1, x3, hp)
set_option maxRecDepth 100000 in
set_option maxHeartbeats 4000000 in
theorem t_Model_reckon_124 {p : Program} {l : Launch} {e : Env} {s : State} {m : MethodId} {args : Array Value} {below : List Frame} {meth : Method} {c : Code} {G : xG} {z : Nat → Nat} {A : Nat → Prop} {Qw : State → Prop} {Q : xh → Prop} {a0 : Nat} {x1 : Int32} {x3 : Int32} {hp : xh} (X : xX p l e rm_Model_reckon s m args below meth c G z A y_Model_reckon b_Model_reckon 5) (hret : xRet p l e rm_Model_reckon s m args below meth c G A 5 Qw b_Model_reckon none (xqv Q))  (hf : wp_Model_reckon_124 z Q  a0 x1 x3 hp) : xE p l e rm_Model_reckon s m args below meth c G A 5 Qw 0 0 hp 124 [(0, .ref a0), (1, .int x1), (3, .int x3)] [] := by
  obtain ⟨f, hf⟩ := hf
  refine xloop_ind (F := fun k124 a => wp_Model_reckon_124_b z Q  k124 a.1 a.2.1 a.2.2.1 a.2.2.2) (E := fun a => xE p l e rm_Model_reckon s m args below meth c G A 5 Qw 0 0 a.2.2.2 124 [(0, .ref (a.1)), (1, .int (a.2.1)), (3, .int (a.2.2.1))] []) ?_ f (a0, x1, x3, hp) hf
  intro k124 hk a hf
  obtain ⟨a0, x1, x3, hp⟩ := a
  have hk124 : ∀ (a0 : Nat) (x1 : Int32) (x3 : Int32) (hp : xh), k124 (a0, x1, x3, hp) → xE p l e rm_Model_reckon s m args below meth c G A 5 Qw 0 0 hp 124 [(0, .ref a0), (1, .int x1), (3, .int x3)] [] := fun a0 x1 x3 hp h => hk (a0, x1, x3, hp) h
  have hf : wp_Model_reckon_124_b z Q  k124 a0 x1 x3 hp := hf
  unfold wp_Model_reckon_124_b at hf
  refine x_iload_n X (q := 2) d_Model_reckon_124 rfl 125 rfl ?_
  refine x_aload_n X (q := 0) d_Model_reckon_125 rfl 126 rfl ?_
  refine x_getR X hf (ci := 12) (j := 10) rfl (by decide) rfl lf_Model_20 d_Model_reckon_126 129 rfl (fun o1 hf => ?_)
  refine x_iconst X (v := 5) d_Model_reckon_129 (by decide) 130 rfl ?_
  refine x_iload_n X (q := 1) d_Model_reckon_130 rfl 131 rfl ?_
  refine x_imul X d_Model_reckon_131 132 rfl ?_
  refine x_iconst X (v := 4) d_Model_reckon_132 (by decide) 133 rfl ?_
  refine x_iadd X d_Model_reckon_133 134 rfl ?_
  refine x_iald X hf d_Model_reckon_134 135 rfl (fun v2 hf => ?_)
  refine x_icmp_ge X hf d_Model_reckon_135 209 138 (by decide) rfl (fun hf => ?_) (fun hf => ?_)
  · exact hret _ _ _ _ _ none (Nat.le_refl 0) (Nat.le_refl 0) ⟨rfl, hf⟩ ⟨rfl, d_Model_reckon_209⟩
  · refine x_sipush X (v := 150) d_Model_reckon_138 (by decide) 141 rfl ?_
    refine x_iload_n X (q := 1) d_Model_reckon_141 rfl 142 rfl ?_
    refine x_imul X d_Model_reckon_142 143 rfl ?_
    refine x_aload_n X (q := 0) d_Model_reckon_143 rfl 144 rfl ?_
    refine x_getR X hf (ci := 12) (j := 27) rfl (by decide) rfl lf_Model_72 d_Model_reckon_144 147 rfl (fun o3 hf => ?_)
    refine x_sipush X (v := 150) d_Model_reckon_147 (by decide) 150 rfl ?_
    refine x_iload_n X (q := 1) d_Model_reckon_150 rfl 151 rfl ?_
    refine x_imul X d_Model_reckon_151 152 rfl ?_
    refine x_iload_n X (q := 2) d_Model_reckon_152 rfl 153 rfl ?_
    refine x_iadd X d_Model_reckon_153 154 rfl ?_
    refine x_iald X hf d_Model_reckon_154 155 rfl (fun v4 hf => ?_)
    refine x_iadd X d_Model_reckon_155 156 rfl ?_
    refine x_istoreN X hf d_Model_reckon_156 (by decide) (lw := fun v5 => [(4, .int v5), (0, .ref a0), (1, .int x1), (3, .int x3)]) (fun _ => rfl) 158 rfl (fun v5 hf => ?_)
    refine x_aload_n X (q := 1) d_Model_reckon_158 rfl 159 rfl ?_
    refine x_getR X hf (ci := 12) (j := 32) rfl (by decide) rfl lf_Model_85 d_Model_reckon_159 162 rfl (fun o6 hf => ?_)
    refine x_sipush X (v := 201) d_Model_reckon_162 (by decide) 165 rfl ?_
    refine x_iload_n X (q := 2) d_Model_reckon_165 rfl 166 rfl ?_
    refine x_imul X d_Model_reckon_166 167 rfl ?_
    refine x_aload_n X (q := 1) d_Model_reckon_167 rfl 168 rfl ?_
    refine x_getR X hf (ci := 12) (j := 15) rfl (by decide) rfl lf_Model_36 d_Model_reckon_168 171 rfl (fun o7 hf => ?_)
    refine x_iload X (q := 0) d_Model_reckon_171 rfl 173 rfl ?_
    refine x_iald X hf d_Model_reckon_173 174 rfl (fun v8 hf => ?_)
    refine x_iconst X (v := 2) d_Model_reckon_174 (by decide) 175 rfl ?_
    refine x_idiv X (by decide) d_Model_reckon_175 176 rfl ?_
    refine x_iadd X d_Model_reckon_176 177 rfl ?_
    refine x_aload_n X (q := 1) d_Model_reckon_177 rfl 178 rfl ?_
    refine x_iload_n X (q := 2) d_Model_reckon_178 rfl 179 rfl ?_
    refine x_aload_n X (q := 1) d_Model_reckon_179 rfl 180 rfl ?_
    refine x_getR X hf (ci := 12) (j := 16) rfl (by decide) rfl lf_Model_39 d_Model_reckon_180 183 rfl (fun o9 hf => ?_)
    refine x_iload X (q := 0) d_Model_reckon_183 rfl 185 rfl ?_
    refine x_iald X hf d_Model_reckon_185 186 rfl (fun v10 hf => ?_)
    refine x_callV0l X (t_Model_of hf.2) hf.1 (ci := 12) rfl rfl lm_Model_253 im_Model_of sl_Model_of cd_Model_of in_Model ds_Model_of rfl rfl (Nat.le_of_ble_eq_true rfl) (Nat.le_of_ble_eq_true rfl) (Nat.le_of_ble_eq_true rfl) rfl rfl (Nat.le_refl 0) (Nat.le_refl 0) d_Model_reckon_186 189 rfl (fun v12 h11 hf => ?_)
    refine x_aload_n X (q := 1) d_Model_reckon_189 rfl 190 rfl ?_
    refine x_iload_n X (q := 2) d_Model_reckon_190 rfl 191 rfl ?_
    refine x_aload_n X (q := 1) d_Model_reckon_191 rfl 192 rfl ?_
    refine x_getR X hf (ci := 12) (j := 17) rfl (by decide) rfl lf_Model_42 d_Model_reckon_192 195 rfl (fun o13 hf => ?_)
    refine x_iload X (q := 0) d_Model_reckon_195 rfl 197 rfl ?_
    refine x_iald X hf d_Model_reckon_197 198 rfl (fun v14 hf => ?_)
    refine x_callV0l X (t_Model_of hf.2) hf.1 (ci := 12) rfl rfl lm_Model_253 im_Model_of sl_Model_of cd_Model_of in_Model ds_Model_of rfl rfl (Nat.le_of_ble_eq_true rfl) (Nat.le_of_ble_eq_true rfl) (Nat.le_of_ble_eq_true rfl) rfl rfl (Nat.le_refl 0) (Nat.le_refl 0) d_Model_reckon_198 201 rfl (fun v16 h15 hf => ?_)
    refine x_land X d_Model_reckon_201 202 rfl ?_
    refine x_last X hf d_Model_reckon_202 203 rfl (fun h17 hf => ?_)
    refine x_iinc X (q := 3) (v := (x3 + 1)) (lv' := [(3, .int (x3 + 1)), (4, .int v5), (0, .ref a0), (1, .int x1)]) d_Model_reckon_203 rfl (by rfl) (by decide) rfl 206 rfl ?_
    refine x_goto X d_Model_reckon_206 124 (by decide) ?_
    exact x_sub [2, 3, 0] rfl (hk124 _ _ _ _ hf)
set_option maxRecDepth 100000 in
def wp_Model_reckon_115 (z : Nat → Nat) (Q : xh → Prop) (k62 : Nat × Int32 × Int32 × Int32 × xh → Prop) (a0 : Nat) (x1 : Int32) (x2 : Int32) (x3 : Int32) (s2 : Int64) (s1 : Int32) (s0 : Nat) (hp : xh) : Prop :=
  ∃ h1, sL hp s0 3 s1 s2 = some h1 ∧ (k62 (a0, x1, x2, (x3 + 1), h1))
set_option maxRecDepth 100000 in
set_option maxHeartbeats 4000000 in
theorem t_Model_reckon_115 {p : Program} {l : Launch} {e : Env} {s : State} {m : MethodId} {args : Array Value} {below : List Frame} {meth : Method} {c : Code} {G : xG} {z : Nat → Nat} {A : Nat → Prop} {Qw : State → Prop} {Q : xh → Prop} {k62 : Nat × Int32 × Int32 × Int32 × xh → Prop} {a0 : Nat} {x1 : Int32} {x2 : Int32} {x3 : Int32} {s2 : Int64} {s1 : Int32} {s0 : Nat} {hp : xh} (X : xX p l e rm_Model_reckon s m args below meth c G z A y_Model_reckon b_Model_reckon 5) (hret : xRet p l e rm_Model_reckon s m args below meth c G A 5 Qw b_Model_reckon none (xqv Q)) (hk62 : ∀ (a0 : Nat) (x1 : Int32) (x2 : Int32) (x3 : Int32) (hp : xh), k62 (a0, x1, x2, x3, hp) → xE p l e rm_Model_reckon s m args below meth c G A 5 Qw 0 0 hp 62 [(0, .ref a0), (1, .int x1), (2, .int x2), (3, .int x3)] []) (hf : wp_Model_reckon_115 z Q k62 a0 x1 x2 x3 s2 s1 s0 hp) : xE p l e rm_Model_reckon s m args below meth c G A 5 Qw 0 0 hp 115 [(0, .ref a0), (1, .int x1), (2, .int x2), (3, .int x3)] [.long s2, .int s1, .ref s0] := by
  unfold wp_Model_reckon_115 at hf
  refine x_last X hf d_Model_reckon_115 116 rfl (fun h1 hf => ?_)
  refine x_iinc X (q := 3) (v := (x3 + 1)) (lv' := [(3, .int (x3 + 1)), (0, .ref a0), (1, .int x1), (2, .int x2)]) d_Model_reckon_116 rfl (by rfl) (by decide) rfl 119 rfl ?_
  refine x_goto X d_Model_reckon_119 62 (by decide) ?_
  exact x_sub [1, 2, 3, 0] rfl (hk62 _ _ _ _ _ hf)
set_option maxRecDepth 100000 in
def wp_Model_reckon_62_b (z : Nat → Nat) (Q : xh → Prop)  (k62 : Nat × Int32 × Int32 × Int32 × xh → Prop) (a0 : Nat) (x1 : Int32) (x2 : Int32) (x3 : Int32) (hp : xh) : Prop :=
  ∃ o1, fR hp a0 12 10 = some o1 ∧ (∃ v2, aI hp o1 0 ((5 * x1) + 2) = some v2 ∧ ((v2 ≤ x3 → wp_Model_reckon_124 z Q a0 x1 0 hp) ∧ (¬ v2 ≤ x3 → (∃ o3, fR hp a0 12 32 = some o3 ∧ (∃ o4, fR hp a0 12 12 = some o4 ∧ (∃ v5, aI hp o4 0 ((7 * x1) + x3) = some v5 ∧ ((¬ ((x2 >>> (x3 &&& 31)) &&& 1) = 1 → (wp_Model_reckon_115 z Q k62 a0 x1 x2 x3 0 ((201 * x1) + (v5 / 2)) o3 hp)) ∧ (((x2 >>> (x3 &&& 31)) &&& 1) = 1 → (wp_Model_reckon_115 z Q k62 a0 x1 x2 x3 (-1) ((201 * x1) + (v5 / 2)) o3 hp)))))))))
set_option maxRecDepth 100000 in
def wp_Model_reckon_62 (z : Nat → Nat) (Q : xh → Prop)  (a0 : Nat) (x1 : Int32) (x2 : Int32) (x3 : Int32) (hp : xh) : Prop := ∃ f : Nat, xloop (fun k62 a => wp_Model_reckon_62_b z Q  k62 a.1 a.2.1 a.2.2.1 a.2.2.2.1 a.2.2.2.2) f (a0, x1, x2, x3, hp)
set_option maxRecDepth 100000 in
set_option maxHeartbeats 4000000 in
theorem t_Model_reckon_62 {p : Program} {l : Launch} {e : Env} {s : State} {m : MethodId} {args : Array Value} {below : List Frame} {meth : Method} {c : Code} {G : xG} {z : Nat → Nat} {A : Nat → Prop} {Qw : State → Prop} {Q : xh → Prop} {a0 : Nat} {x1 : Int32} {x2 : Int32} {x3 : Int32} {hp : xh} (X : xX p l e rm_Model_reckon s m args below meth c G z A y_Model_reckon b_Model_reckon 5) (hret : xRet p l e rm_Model_reckon s m args below meth c G A 5 Qw b_Model_reckon none (xqv Q))  (hf : wp_Model_reckon_62 z Q  a0 x1 x2 x3 hp) : xE p l e rm_Model_reckon s m args below meth c G A 5 Qw 0 0 hp 62 [(0, .ref a0), (1, .int x1), (2, .int x2), (3, .int x3)] [] := by
  obtain ⟨f, hf⟩ := hf
  refine xloop_ind (F := fun k62 a => wp_Model_reckon_62_b z Q  k62 a.1 a.2.1 a.2.2.1 a.2.2.2.1 a.2.2.2.2) (E := fun a => xE p l e rm_Model_reckon s m args below meth c G A 5 Qw 0 0 a.2.2.2.2 62 [(0, .ref (a.1)), (1, .int (a.2.1)), (2, .int (a.2.2.1)), (3, .int (a.2.2.2.1))] []) ?_ f (a0, x1, x2, x3, hp) hf
  intro k62 hk a hf
  obtain ⟨a0, x1, x2, x3, hp⟩ := a
  have hk62 : ∀ (a0 : Nat) (x1 : Int32) (x2 : Int32) (x3 : Int32) (hp : xh), k62 (a0, x1, x2, x3, hp) → xE p l e rm_Model_reckon s m args below meth c G A 5 Qw 0 0 hp 62 [(0, .ref a0), (1, .int x1), (2, .int x2), (3, .int x3)] [] := fun a0 x1 x2 x3 hp h => hk (a0, x1, x2, x3, hp) h
  have hf : wp_Model_reckon_62_b z Q  k62 a0 x1 x2 x3 hp := hf
  unfold wp_Model_reckon_62_b at hf
  refine x_iload_n X (q := 3) d_Model_reckon_62 rfl 63 rfl ?_
  refine x_aload_n X (q := 0) d_Model_reckon_63 rfl 64 rfl ?_
  refine x_getR X hf (ci := 12) (j := 10) rfl (by decide) rfl lf_Model_20 d_Model_reckon_64 67 rfl (fun o1 hf => ?_)
  refine x_iconst X (v := 5) d_Model_reckon_67 (by decide) 68 rfl ?_
  refine x_iload_n X (q := 1) d_Model_reckon_68 rfl 69 rfl ?_
  refine x_imul X d_Model_reckon_69 70 rfl ?_
  refine x_iconst X (v := 2) d_Model_reckon_70 (by decide) 71 rfl ?_
  refine x_iadd X d_Model_reckon_71 72 rfl ?_
  refine x_iald X hf d_Model_reckon_72 73 rfl (fun v2 hf => ?_)
  refine x_icmp_ge X hf d_Model_reckon_73 122 76 (by decide) rfl (fun hf => ?_) (fun hf => ?_)
  · refine x_iconst X (v := 0) d_Model_reckon_122 (by decide) 123 rfl ?_
    refine x_istore_n X (lv' := [(3, .int 0), (0, .ref a0), (1, .int x1), (2, .int x2)]) d_Model_reckon_123 rfl (by decide) rfl 124 rfl ?_
    exact x_sub [1, 2, 0] rfl (t_Model_reckon_124 X hret hf)
  · refine x_aload_n X (q := 0) d_Model_reckon_76 rfl 77 rfl ?_
    refine x_getR X hf (ci := 12) (j := 32) rfl (by decide) rfl lf_Model_85 d_Model_reckon_77 80 rfl (fun o3 hf => ?_)
    refine x_sipush X (v := 201) d_Model_reckon_80 (by decide) 83 rfl ?_
    refine x_iload_n X (q := 1) d_Model_reckon_83 rfl 84 rfl ?_
    refine x_imul X d_Model_reckon_84 85 rfl ?_
    refine x_aload_n X (q := 0) d_Model_reckon_85 rfl 86 rfl ?_
    refine x_getR X hf (ci := 12) (j := 12) rfl (by decide) rfl lf_Model_27 d_Model_reckon_86 89 rfl (fun o4 hf => ?_)
    refine x_bipush X (v := 7) d_Model_reckon_89 (by decide) 91 rfl ?_
    refine x_iload_n X (q := 1) d_Model_reckon_91 rfl 92 rfl ?_
    refine x_imul X d_Model_reckon_92 93 rfl ?_
    refine x_iload_n X (q := 3) d_Model_reckon_93 rfl 94 rfl ?_
    refine x_iadd X d_Model_reckon_94 95 rfl ?_
    refine x_iald X hf d_Model_reckon_95 96 rfl (fun v5 hf => ?_)
    refine x_iconst X (v := 2) d_Model_reckon_96 (by decide) 97 rfl ?_
    refine x_idiv X (by decide) d_Model_reckon_97 98 rfl ?_
    refine x_iadd X d_Model_reckon_98 99 rfl ?_
    refine x_iload_n X (q := 2) d_Model_reckon_99 rfl 100 rfl ?_
    refine x_iload_n X (q := 3) d_Model_reckon_100 rfl 101 rfl ?_
    refine x_ishr X d_Model_reckon_101 102 rfl ?_
    refine x_iconst X (v := 1) d_Model_reckon_102 (by decide) 103 rfl ?_
    refine x_iand X d_Model_reckon_103 104 rfl ?_
    refine x_iconst X (v := 1) d_Model_reckon_104 (by decide) 105 rfl ?_
    refine x_icmp_ne X hf d_Model_reckon_105 114 108 (by decide) rfl (fun hf => ?_) (fun hf => ?_)
    · refine x_lconst X (v := 0) d_Model_reckon_114 (by decide) 115 rfl ?_
      exact x_sub [0, 1, 2, 3] rfl (t_Model_reckon_115 X hret hk62 hf)
    · refine x_ldc2 X (v := (-1)) cl_Model_247 d_Model_reckon_108 111 rfl ?_
      refine x_goto X d_Model_reckon_111 115 (by decide) ?_
      exact x_sub [0, 1, 2, 3] rfl (t_Model_reckon_115 X hret hk62 hf)
set_option maxRecDepth 100000 in
def wp_Model_reckon_13_b (z : Nat → Nat) (Q : xh → Prop)  (k13 : Nat × Int32 × Int32 × Int32 × xh → Prop) (a0 : Nat) (x1 : Int32) (x2 : Int32) (x3 : Int32) (hp : xh) : Prop :=
  ∃ o1, fR hp a0 12 10 = some o1 ∧ (∃ v2, aI hp o1 0 ((5 * x1) + 1) = some v2 ∧ ((v2 ≤ x3 → wp_Model_reckon_62 z Q a0 x1 x2 0 hp) ∧ (¬ v2 ≤ x3 → (∃ o3, fR hp a0 12 32 = some o3 ∧ (∃ o4, fR hp a0 12 11 = some o4 ∧ (∃ v5, aI hp o4 0 ((5 * x1) + x3) = some v5 ∧ (wp_Model_vectors z (fun v7 h6 => ∃ h8, sL h6 o3 3 ((201 * x1) + (v5 / 2)) v7 = some h8 ∧ (k13 (a0, x1, x2, (x3 + 1), h8))) x3 hp)))))))
set_option maxRecDepth 100000 in
def wp_Model_reckon_13 (z : Nat → Nat) (Q : xh → Prop)  (a0 : Nat) (x1 : Int32) (x2 : Int32) (x3 : Int32) (hp : xh) : Prop := ∃ f : Nat, xloop (fun k13 a => wp_Model_reckon_13_b z Q  k13 a.1 a.2.1 a.2.2.1 a.2.2.2.1 a.2.2.2.2) f (a0, x1, x2, x3, hp)
set_option maxRecDepth 100000 in
set_option maxHeartbeats 4000000 in
theorem t_Model_reckon_13 {p : Program} {l : Launch} {e : Env} {s : State} {m : MethodId} {args : Array Value} {below : List Frame} {meth : Method} {c : Code} {G : xG} {z : Nat → Nat} {A : Nat → Prop} {Qw : State → Prop} {Q : xh → Prop} {a0 : Nat} {x1 : Int32} {x2 : Int32} {x3 : Int32} {hp : xh} (X : xX p l e rm_Model_reckon s m args below meth c G z A y_Model_reckon b_Model_reckon 5) (hret : xRet p l e rm_Model_reckon s m args below meth c G A 5 Qw b_Model_reckon none (xqv Q))  (hf : wp_Model_reckon_13 z Q  a0 x1 x2 x3 hp) : xE p l e rm_Model_reckon s m args below meth c G A 5 Qw 0 0 hp 13 [(0, .ref a0), (1, .int x1), (2, .int x2), (3, .int x3)] [] := by
  obtain ⟨f, hf⟩ := hf
  refine xloop_ind (F := fun k13 a => wp_Model_reckon_13_b z Q  k13 a.1 a.2.1 a.2.2.1 a.2.2.2.1 a.2.2.2.2) (E := fun a => xE p l e rm_Model_reckon s m args below meth c G A 5 Qw 0 0 a.2.2.2.2 13 [(0, .ref (a.1)), (1, .int (a.2.1)), (2, .int (a.2.2.1)), (3, .int (a.2.2.2.1))] []) ?_ f (a0, x1, x2, x3, hp) hf
  intro k13 hk a hf
  obtain ⟨a0, x1, x2, x3, hp⟩ := a
  have hk13 : ∀ (a0 : Nat) (x1 : Int32) (x2 : Int32) (x3 : Int32) (hp : xh), k13 (a0, x1, x2, x3, hp) → xE p l e rm_Model_reckon s m args below meth c G A 5 Qw 0 0 hp 13 [(0, .ref a0), (1, .int x1), (2, .int x2), (3, .int x3)] [] := fun a0 x1 x2 x3 hp h => hk (a0, x1, x2, x3, hp) h
  have hf : wp_Model_reckon_13_b z Q  k13 a0 x1 x2 x3 hp := hf
  unfold wp_Model_reckon_13_b at hf
  refine x_iload_n X (q := 3) d_Model_reckon_13 rfl 14 rfl ?_
  refine x_aload_n X (q := 0) d_Model_reckon_14 rfl 15 rfl ?_
  refine x_getR X hf (ci := 12) (j := 10) rfl (by decide) rfl lf_Model_20 d_Model_reckon_15 18 rfl (fun o1 hf => ?_)
  refine x_iconst X (v := 5) d_Model_reckon_18 (by decide) 19 rfl ?_
  refine x_iload_n X (q := 1) d_Model_reckon_19 rfl 20 rfl ?_
  refine x_imul X d_Model_reckon_20 21 rfl ?_
  refine x_iconst X (v := 1) d_Model_reckon_21 (by decide) 22 rfl ?_
  refine x_iadd X d_Model_reckon_22 23 rfl ?_
  refine x_iald X hf d_Model_reckon_23 24 rfl (fun v2 hf => ?_)
  refine x_icmp_ge X hf d_Model_reckon_24 60 27 (by decide) rfl (fun hf => ?_) (fun hf => ?_)
  · refine x_iconst X (v := 0) d_Model_reckon_60 (by decide) 61 rfl ?_
    refine x_istore_n X (lv' := [(3, .int 0), (0, .ref a0), (1, .int x1), (2, .int x2)]) d_Model_reckon_61 rfl (by decide) rfl 62 rfl ?_
    exact x_sub [1, 2, 3, 0] rfl (t_Model_reckon_62 X hret hf)
  · refine x_aload_n X (q := 0) d_Model_reckon_27 rfl 28 rfl ?_
    refine x_getR X hf (ci := 12) (j := 32) rfl (by decide) rfl lf_Model_85 d_Model_reckon_28 31 rfl (fun o3 hf => ?_)
    refine x_sipush X (v := 201) d_Model_reckon_31 (by decide) 34 rfl ?_
    refine x_iload_n X (q := 1) d_Model_reckon_34 rfl 35 rfl ?_
    refine x_imul X d_Model_reckon_35 36 rfl ?_
    refine x_aload_n X (q := 0) d_Model_reckon_36 rfl 37 rfl ?_
    refine x_getR X hf (ci := 12) (j := 11) rfl (by decide) rfl lf_Model_24 d_Model_reckon_37 40 rfl (fun o4 hf => ?_)
    refine x_iconst X (v := 5) d_Model_reckon_40 (by decide) 41 rfl ?_
    refine x_iload_n X (q := 1) d_Model_reckon_41 rfl 42 rfl ?_
    refine x_imul X d_Model_reckon_42 43 rfl ?_
    refine x_iload_n X (q := 3) d_Model_reckon_43 rfl 44 rfl ?_
    refine x_iadd X d_Model_reckon_44 45 rfl ?_
    refine x_iald X hf d_Model_reckon_45 46 rfl (fun v5 hf => ?_)
    refine x_iconst X (v := 2) d_Model_reckon_46 (by decide) 47 rfl ?_
    refine x_idiv X (by decide) d_Model_reckon_47 48 rfl ?_
    refine x_iadd X d_Model_reckon_48 49 rfl ?_
    refine x_iload_n X (q := 3) d_Model_reckon_49 rfl 50 rfl ?_
    refine x_callS0l X (t_Model_vectors hf) lm_Model_249 im_Model_vectors cd_Model_vectors in_Model ds_Model_vectors rfl rfl (Nat.le_of_ble_eq_true rfl) (Nat.le_of_ble_eq_true rfl) (Nat.le_of_ble_eq_true rfl) rfl rfl (Nat.le_refl 0) (Nat.le_refl 0) d_Model_reckon_50 53 rfl (fun v7 h6 hf => ?_)
    refine x_last X hf d_Model_reckon_53 54 rfl (fun h8 hf => ?_)
    refine x_iinc X (q := 3) (v := (x3 + 1)) (lv' := [(3, .int (x3 + 1)), (0, .ref a0), (1, .int x1), (2, .int x2)]) d_Model_reckon_54 rfl (by rfl) (by decide) rfl 57 rfl ?_
    refine x_goto X d_Model_reckon_57 13 (by decide) ?_
    exact x_sub [1, 2, 3, 0] rfl (hk13 _ _ _ _ _ hf)
set_option maxRecDepth 100000 in
def wp_Model_reckon (z : Nat → Nat) (Q : xh → Prop) (a0 : Nat) (x1 : Int32) (x2 : Int32) (hp : xh) : Prop :=
  ∃ o1, fR hp a0 12 32 = some o1 ∧ (∃ h2, sL hp o1 3 (201 * x1) 0 = some h2 ∧ wp_Model_reckon_13 z Q a0 x1 x2 0 h2)
set_option maxRecDepth 100000 in
set_option maxHeartbeats 4000000 in
theorem t_Model_reckon {l : Launch} {G : xG} {z : Nat → Nat} {Q : xh → Prop} {a0 : Nat} {x1 : Int32} {x2 : Int32} {hp : xh} (hf : wp_Model_reckon z Q a0 x1 x2 hp) : xM l G z y_Model_reckon b_Model_reckon 5 none rm_Model_reckon [.ref a0, .int x1, .int x2] hp (xqv Q) := by
  refine xM_of (by decide) (Nat.le_of_ble_eq_true rfl) (lv0 := [(0, .ref a0), (1, .int x1), (2, .int x2)]) rfl ?_
  intro p e s m args below meth c A Qw X hret
  unfold wp_Model_reckon at hf
  refine x_aload_n X (q := 0) d_Model_reckon_0 rfl 1 rfl ?_
  refine x_getR X hf (ci := 12) (j := 32) rfl (by decide) rfl lf_Model_85 d_Model_reckon_1 4 rfl (fun o1 hf => ?_)
  refine x_sipush X (v := 201) d_Model_reckon_4 (by decide) 7 rfl ?_
  refine x_iload_n X (q := 1) d_Model_reckon_7 rfl 8 rfl ?_
  refine x_imul X d_Model_reckon_8 9 rfl ?_
  refine x_lconst X (v := 0) d_Model_reckon_9 (by decide) 10 rfl ?_
  refine x_last X hf d_Model_reckon_10 11 rfl (fun h2 hf => ?_)
  refine x_iconst X (v := 0) d_Model_reckon_11 (by decide) 12 rfl ?_
  refine x_istore_n X (lv' := [(3, .int 0), (0, .ref a0), (1, .int x1), (2, .int x2)]) d_Model_reckon_12 rfl (by decide) rfl 13 rfl ?_
  exact x_sub [1, 2, 3, 0] rfl (t_Model_reckon_13 X hret hf)

set_option maxRecDepth 100000 in
def wp_Model_isLiteral_50 (z : Nat → Nat) (Q : Int32 → xh → Prop)   (hp : xh) : Prop :=
  Q 1 hp
set_option maxRecDepth 100000 in
set_option maxHeartbeats 4000000 in
theorem t_Model_isLiteral_50 {p : Program} {l : Launch} {e : Env} {s : State} {m : MethodId} {args : Array Value} {below : List Frame} {meth : Method} {c : Code} {G : xG} {z : Nat → Nat} {A : Nat → Prop} {Qw : State → Prop} {Q : Int32 → xh → Prop}  {hp : xh} (X : xX p l e rm_Model_isLiteral s m args below meth c G z A y_Model_isLiteral b_Model_isLiteral 3) (hret : xRet p l e rm_Model_isLiteral s m args below meth c G A 3 Qw b_Model_isLiteral (some .boolean) (xqz Q))  (hf : wp_Model_isLiteral_50 z Q  hp) : xE p l e rm_Model_isLiteral s m args below meth c G A 3 Qw 0 0 hp 50 [] [] := by
  unfold wp_Model_isLiteral_50 at hf
  refine x_iconst X (v := 1) d_Model_isLiteral_50 (by decide) 51 rfl ?_
  refine x_goto X d_Model_isLiteral_51 55 (by decide) ?_
  exact hret _ _ _ _ _ (some (.int 1)) (Nat.le_refl 0) (Nat.le_refl 0) ⟨_, rfl, (Or.inr rfl), hf⟩ ⟨⟨_, rfl, xbl_nar (Or.inr rfl)⟩, d_Model_isLiteral_55⟩
set_option maxRecDepth 100000 in
def wp_Model_isLiteral (z : Nat → Nat) (Q : Int32 → xh → Prop) (a0 : Nat) (x1 : Int32) (x2 : Int32) (hp : xh) : Prop :=
  xcls hp a0 12 ∧ wp_Model_isThere z (fun v2 h1 => (v2 = 0 → Q 0 h1) ∧ (¬ v2 = 0 → ((x2 < 0 → Q 0 h1) ∧ (¬ x2 < 0 → (∃ o4, fR h1 a0 12 10 = some o4 ∧ (∃ v5, aI h1 o4 0 (5 * x1) = some v5 ∧ ((((2 * v5) + 1) < x2 → Q 0 h1) ∧ (¬ ((2 * v5) + 1) < x2 → ((x2 < 2 → wp_Model_isLiteral_50 z Q h1) ∧ (¬ x2 < 2 → (∃ o6, fR h1 a0 12 18 = some o6 ∧ (∃ v7, aI h1 o6 0 ((201 * x1) + (x2 / 2)) = some v7 ∧ ((v7 = 0 → Q 0 h1) ∧ (¬ v7 = 0 → wp_Model_isLiteral_50 z Q h1)))))))))))))) a0 x1 hp
set_option maxRecDepth 100000 in
set_option maxHeartbeats 4000000 in
theorem t_Model_isLiteral {l : Launch} {G : xG} {z : Nat → Nat} {Q : Int32 → xh → Prop} {a0 : Nat} {x1 : Int32} {x2 : Int32} {hp : xh} (hf : wp_Model_isLiteral z Q a0 x1 x2 hp) : xM l G z y_Model_isLiteral b_Model_isLiteral 3 (some .boolean) rm_Model_isLiteral [.ref a0, .int x1, .int x2] hp (xqz Q) := by
  refine xM_of (by decide) (Nat.le_of_ble_eq_true rfl) (lv0 := [(0, .ref a0), (1, .int x1), (2, .int x2)]) rfl ?_
  intro p e s m args below meth c A Qw X hret
  unfold wp_Model_isLiteral at hf
  refine x_aload_n X (q := 0) d_Model_isLiteral_0 rfl 1 rfl ?_
  refine x_iload_n X (q := 1) d_Model_isLiteral_1 rfl 2 rfl ?_
  refine x_callV0z X (t_Model_isThere hf.2) hf.1 (ci := 12) rfl rfl lm_Model_234 im_Model_isThere sl_Model_isThere cd_Model_isThere in_Model ds_Model_isThere rfl rfl (Nat.le_of_ble_eq_true rfl) (Nat.le_of_ble_eq_true rfl) (Nat.le_of_ble_eq_true rfl) rfl rfl (Nat.le_refl 0) (Nat.le_refl 0) d_Model_isLiteral_2 5 rfl (fun v2 h1 hb3 hf => ?_)
  refine x_if_eq X hf d_Model_isLiteral_5 54 8 (by decide) rfl (fun hf => ?_) (fun hf => ?_)
  · refine x_iconst X (v := 0) d_Model_isLiteral_54 (by decide) 55 rfl ?_
    exact hret _ _ _ _ _ (some (.int 0)) (Nat.le_refl 0) (Nat.le_refl 0) ⟨_, rfl, (Or.inl rfl), hf⟩ ⟨⟨_, rfl, xbl_nar (Or.inl rfl)⟩, d_Model_isLiteral_55⟩
  · refine x_iload_n X (q := 2) d_Model_isLiteral_8 rfl 9 rfl ?_
    refine x_if_lt X hf d_Model_isLiteral_9 54 12 (by decide) rfl (fun hf => ?_) (fun hf => ?_)
    · refine x_iconst X (v := 0) d_Model_isLiteral_54 (by decide) 55 rfl ?_
      exact hret _ _ _ _ _ (some (.int 0)) (Nat.le_refl 0) (Nat.le_refl 0) ⟨_, rfl, (Or.inl rfl), hf⟩ ⟨⟨_, rfl, xbl_nar (Or.inl rfl)⟩, d_Model_isLiteral_55⟩
    · refine x_iload_n X (q := 2) d_Model_isLiteral_12 rfl 13 rfl ?_
      refine x_iconst X (v := 2) d_Model_isLiteral_13 (by decide) 14 rfl ?_
      refine x_aload_n X (q := 0) d_Model_isLiteral_14 rfl 15 rfl ?_
      refine x_getR X hf (ci := 12) (j := 10) rfl (by decide) rfl lf_Model_20 d_Model_isLiteral_15 18 rfl (fun o4 hf => ?_)
      refine x_iconst X (v := 5) d_Model_isLiteral_18 (by decide) 19 rfl ?_
      refine x_iload_n X (q := 1) d_Model_isLiteral_19 rfl 20 rfl ?_
      refine x_imul X d_Model_isLiteral_20 21 rfl ?_
      refine x_iald X hf d_Model_isLiteral_21 22 rfl (fun v5 hf => ?_)
      refine x_imul X d_Model_isLiteral_22 23 rfl ?_
      refine x_iconst X (v := 1) d_Model_isLiteral_23 (by decide) 24 rfl ?_
      refine x_iadd X d_Model_isLiteral_24 25 rfl ?_
      refine x_icmp_gt X hf d_Model_isLiteral_25 54 28 (by decide) rfl (fun hf => ?_) (fun hf => ?_)
      · refine x_iconst X (v := 0) d_Model_isLiteral_54 (by decide) 55 rfl ?_
        exact hret _ _ _ _ _ (some (.int 0)) (Nat.le_refl 0) (Nat.le_refl 0) ⟨_, rfl, (Or.inl rfl), hf⟩ ⟨⟨_, rfl, xbl_nar (Or.inl rfl)⟩, d_Model_isLiteral_55⟩
      · refine x_iload_n X (q := 2) d_Model_isLiteral_28 rfl 29 rfl ?_
        refine x_iconst X (v := 2) d_Model_isLiteral_29 (by decide) 30 rfl ?_
        refine x_icmp_lt X hf d_Model_isLiteral_30 50 33 (by decide) rfl (fun hf => ?_) (fun hf => ?_)
        · exact x_sub [] rfl (t_Model_isLiteral_50 X hret hf)
        · refine x_aload_n X (q := 0) d_Model_isLiteral_33 rfl 34 rfl ?_
          refine x_getR X hf (ci := 12) (j := 18) rfl (by decide) rfl lf_Model_45 d_Model_isLiteral_34 37 rfl (fun o6 hf => ?_)
          refine x_sipush X (v := 201) d_Model_isLiteral_37 (by decide) 40 rfl ?_
          refine x_iload_n X (q := 1) d_Model_isLiteral_40 rfl 41 rfl ?_
          refine x_imul X d_Model_isLiteral_41 42 rfl ?_
          refine x_iload_n X (q := 2) d_Model_isLiteral_42 rfl 43 rfl ?_
          refine x_iconst X (v := 2) d_Model_isLiteral_43 (by decide) 44 rfl ?_
          refine x_idiv X (by decide) d_Model_isLiteral_44 45 rfl ?_
          refine x_iadd X d_Model_isLiteral_45 46 rfl ?_
          refine x_iald X hf d_Model_isLiteral_46 47 rfl (fun v7 hf => ?_)
          refine x_if_eq X hf d_Model_isLiteral_47 54 50 (by decide) rfl (fun hf => ?_) (fun hf => ?_)
          · refine x_iconst X (v := 0) d_Model_isLiteral_54 (by decide) 55 rfl ?_
            exact hret _ _ _ _ _ (some (.int 0)) (Nat.le_refl 0) (Nat.le_refl 0) ⟨_, rfl, (Or.inl rfl), hf⟩ ⟨⟨_, rfl, xbl_nar (Or.inl rfl)⟩, d_Model_isLiteral_55⟩
          · exact x_sub [] rfl (t_Model_isLiteral_50 X hret hf)

set_option maxRecDepth 100000 in
def wp_Model_reset (z : Nat → Nat) (Q : xh → Prop) (a0 : Nat) (hp : xh) : Prop :=
  ∃ h1, pV hp a0 12 0 (.int 0) = some h1 ∧ (∃ o2, fR h1 a0 12 31 = some o2 ∧ (∃ h3, sI h1 o2 0 0 0 = some h3 ∧ (∃ o4, fR h3 a0 12 31 = some o4 ∧ (∃ h5, sI h3 o4 0 1 0 = some h5 ∧ Q h5))))
set_option maxRecDepth 100000 in
set_option maxHeartbeats 4000000 in
theorem t_Model_reset {l : Launch} {G : xG} {z : Nat → Nat} {Q : xh → Prop} {a0 : Nat} {hp : xh} (hf : wp_Model_reset z Q a0 hp) : xM l G z y_Model_reset b_Model_reset 1 none rm_Model_reset [.ref a0] hp (xqv Q) := by
  refine xM_of (by decide) (Nat.le_of_ble_eq_true rfl) (lv0 := [(0, .ref a0)]) rfl ?_
  intro p e s m args below meth c A Qw X hret
  unfold wp_Model_reset at hf
  refine x_aload_n X (q := 0) d_Model_reset_0 rfl 1 rfl ?_
  refine x_iconst X (v := 0) d_Model_reset_1 (by decide) 2 rfl ?_
  refine x_put X hf (ci := 12) (j := 0) (ty := .int) rfl (by decide) rfl lf_Model_127 rfl (by decide +kernel) rfl rfl d_Model_reset_2 5 rfl (fun h1 hf => ?_)
  refine x_aload_n X (q := 0) d_Model_reset_5 rfl 6 rfl ?_
  refine x_getR X hf (ci := 12) (j := 31) rfl (by decide) rfl lf_Model_82 d_Model_reset_6 9 rfl (fun o2 hf => ?_)
  refine x_iconst X (v := 0) d_Model_reset_9 (by decide) 10 rfl ?_
  refine x_iconst X (v := 0) d_Model_reset_10 (by decide) 11 rfl ?_
  refine x_iast X hf d_Model_reset_11 12 rfl (fun h3 hf => ?_)
  refine x_aload_n X (q := 0) d_Model_reset_12 rfl 13 rfl ?_
  refine x_getR X hf (ci := 12) (j := 31) rfl (by decide) rfl lf_Model_82 d_Model_reset_13 16 rfl (fun o4 hf => ?_)
  refine x_iconst X (v := 1) d_Model_reset_16 (by decide) 17 rfl ?_
  refine x_iconst X (v := 0) d_Model_reset_17 (by decide) 18 rfl ?_
  refine x_iast X hf d_Model_reset_18 19 rfl (fun h5 hf => ?_)
  exact hret _ _ _ _ _ none (Nat.le_refl 0) (Nat.le_refl 0) ⟨rfl, hf⟩ ⟨rfl, d_Model_reset_19⟩

