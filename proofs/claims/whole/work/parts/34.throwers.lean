set_option maxRecDepth 100000 in
def wp_Judge_load_92 (z : Nat → Nat) (mc ms : Nat) (Q : Int32 → xh → Prop) (QX : Nat → xh → Prop)  (a0 : Nat) (x1 : Int32) (hp : xh) (kk nn : Nat) : Prop :=
  ∃ o1, fR hp a0 11 2 = some o1 ∧ (∃ o2, aR hp o1 5 x1 = some o2 ∧ (∃ v3, fI hp o2 0 5 = some v3 ∧ Q v3 hp))
set_option maxRecDepth 100000 in
set_option maxHeartbeats 4000000 in
theorem t_Judge_load_92 {p : Program} {l : Launch} {e : Env} {s : State} {m : MethodId} {args : Array Value} {below : List Frame} {meth : Method} {c : Code} {G : xG} {z : Nat → Nat} {A : Nat → Prop} {Qw : State → Prop} {mc ms : Nat} {Q : Int32 → xh → Prop} {QX : Nat → xh → Prop} {a0 : Nat} {x1 : Int32} {hp : xh} {kk nn : Nat} (hfl : l.flags = flags0) (X : xX p l e (rt_Judge_load mc ms) s m args below meth c G z A y_Judge_load b_Judge_load 3) (XT : xXT e s meth A) (hnh : c.exceptionTable.toList = []) (hthr : xThr (rt_Judge_load mc ms) s below G A Qw QX) (hret : xRet p l e (rt_Judge_load mc ms) s m args below meth c G A 3 Qw b_Judge_load (some .int) (xqi Q))  (hkk : kk ≤ mc) (hnn : nn ≤ ms) (hf : wp_Judge_load_92 z mc ms Q QX  a0 x1 hp kk nn) : xE p l e (rt_Judge_load mc ms) s m args below meth c G A 3 Qw kk nn hp 92 [(0, .ref a0), (1, .int x1)] [] := by
  unfold wp_Judge_load_92 at hf
  refine x_aload_n X (q := 0) d_Judge_load_92 rfl 93 rfl ?_
  refine x_getR X hf (ci := 11) (j := 2) rfl (by decide) rfl lf_Judge_27 d_Judge_load_93 96 rfl (fun o1 hf => ?_)
  refine x_iload_n X (q := 1) d_Judge_load_96 rfl 97 rfl ?_
  refine x_aald X hf (t := 5) rfl d_Judge_load_97 98 rfl (fun o2 hf => ?_)
  refine x_getI X hf (ci := 0) (j := 5) rfl (by decide) rfl lf_Judge_87 d_Judge_load_98 101 rfl (fun v3 hf => ?_)
  exact hret _ _ _ _ _ (some (.int v3)) hkk hnn ⟨_, rfl, hf⟩ ⟨⟨_, rfl, rfl⟩, d_Judge_load_101⟩
set_option maxRecDepth 100000 in
def wp_Judge_load_29 (z : Nat → Nat) (mc ms : Nat) (Q : Int32 → xh → Prop) (QX : Nat → xh → Prop)  (a0 : Nat) (x1 : Int32) (s0 : Int32) (hp : xh) (kk nn : Nat) : Prop :=
  ∃ o1, fR hp a0 11 0 = some o1 ∧ (∃ h2, pV hp o1 8 2 (.int 0) = some h2 ∧ ((¬ s0 = 0 → (∃ o3, fR h2 a0 11 2 = some o3 ∧ (∃ o4, fR h2 a0 11 1 = some o4 ∧ (∃ o5, fR h2 a0 11 2 = some o5 ∧ (∃ o6, aR h2 o5 5 x1 = some o6 ∧ (xcls h2 o4 5 ∧ wp_Reader_exchange z (fun o8 h7 => xcls h7 o8 0 ∧ ∃ h9, sR h7 o3 5 x1 o8 = some h9 ∧ (∃ o10, fR h9 a0 11 3 = some o10 ∧ (xcls h9 o10 4 ∧ wp_Player_rest z (fun h11 => ∃ r12, fN h11 a0 11 4 = some r12 ∧ ((r12 = none → wp_Judge_load_92 z mc ms Q QX a0 x1 h11 kk nn) ∧ (∀ r13, r12 = some r13 → (∃ o14, fR h11 a0 11 4 = some o14 ∧ (xcls h11 o14 10 ∧ wp_Works_forget z (fun h15 => wp_Judge_load_92 z mc ms Q QX a0 x1 h15 kk nn) o14 h11))))) o10 h9))) o4 o6 h2)))))) ∧ (s0 = 0 → (kk + 1 ≤ mc ∧ nn + 6 ≤ ms ∧ QX 1 h2))))
set_option maxRecDepth 100000 in
set_option maxHeartbeats 4000000 in
theorem t_Judge_load_29 {p : Program} {l : Launch} {e : Env} {s : State} {m : MethodId} {args : Array Value} {below : List Frame} {meth : Method} {c : Code} {G : xG} {z : Nat → Nat} {A : Nat → Prop} {Qw : State → Prop} {mc ms : Nat} {Q : Int32 → xh → Prop} {QX : Nat → xh → Prop} {a0 : Nat} {x1 : Int32} {s0 : Int32} {hp : xh} {kk nn : Nat} (hfl : l.flags = flags0) (X : xX p l e (rt_Judge_load mc ms) s m args below meth c G z A y_Judge_load b_Judge_load 3) (XT : xXT e s meth A) (hnh : c.exceptionTable.toList = []) (hthr : xThr (rt_Judge_load mc ms) s below G A Qw QX) (hret : xRet p l e (rt_Judge_load mc ms) s m args below meth c G A 3 Qw b_Judge_load (some .int) (xqi Q))  (hkk : kk ≤ mc) (hnn : nn ≤ ms) (hf : wp_Judge_load_29 z mc ms Q QX  a0 x1 s0 hp kk nn) : xE p l e (rt_Judge_load mc ms) s m args below meth c G A 3 Qw kk nn hp 29 [(0, .ref a0), (1, .int x1)] [.int s0] := by
  unfold wp_Judge_load_29 at hf
  refine x_istore_n X (lv' := [(2, .int s0), (0, .ref a0), (1, .int x1)]) d_Judge_load_29 rfl (by decide) rfl 30 rfl ?_
  refine x_aload_n X (q := 1) d_Judge_load_30 rfl 31 rfl ?_
  refine x_getR X hf (ci := 11) (j := 0) rfl (by decide) rfl lf_Judge_12 d_Judge_load_31 34 rfl (fun o1 hf => ?_)
  refine x_iconst X (v := 0) d_Judge_load_34 (by decide) 35 rfl ?_
  refine x_put X hf (ci := 8) (j := 2) (ty := .int) rfl (by decide) rfl lf_Judge_60 rfl (by decide +kernel) rfl rfl d_Judge_load_35 38 rfl (fun h2 hf => ?_)
  refine x_iload_n X (q := 0) d_Judge_load_38 rfl 39 rfl ?_
  refine x_if_ne X hf d_Judge_load_39 52 42 (by decide) rfl (fun hf => ?_) (fun hf => ?_)
  · refine x_aload_n X (q := 1) d_Judge_load_52 rfl 53 rfl ?_
    refine x_getR X hf (ci := 11) (j := 2) rfl (by decide) rfl lf_Judge_27 d_Judge_load_53 56 rfl (fun o3 hf => ?_)
    refine x_iload_n X (q := 2) d_Judge_load_56 rfl 57 rfl ?_
    refine x_aload_n X (q := 1) d_Judge_load_57 rfl 58 rfl ?_
    refine x_getR X hf (ci := 11) (j := 1) rfl (by decide) rfl lf_Judge_21 d_Judge_load_58 61 rfl (fun o4 hf => ?_)
    refine x_aload_n X (q := 1) d_Judge_load_61 rfl 62 rfl ?_
    refine x_getR X hf (ci := 11) (j := 2) rfl (by decide) rfl lf_Judge_27 d_Judge_load_62 65 rfl (fun o5 hf => ?_)
    refine x_iload_n X (q := 2) d_Judge_load_65 rfl 66 rfl ?_
    refine x_aald X hf (t := 5) rfl d_Judge_load_66 67 rfl (fun o6 hf => ?_)
    refine x_callV0r X (t_Reader_exchange hf.2) hf.1 (ci := 5) rfl rfl lm_Judge_71 im_Reader_exchange sl_Reader_exchange cd_Reader_exchange in_Reader ds_Reader_exchange rfl rfl (Nat.le_of_ble_eq_true rfl) (Nat.le_of_ble_eq_true rfl) (Nat.le_of_ble_eq_true rfl) rfl rfl hkk hnn d_Judge_load_67 70 rfl (fun o8 h7 hf => ?_)
    refine x_aast X hf (t := 5) (ci := 0) (by decide) rfl rfl d_Judge_load_70 71 rfl (fun h9 hf => ?_)
    refine x_aload_n X (q := 1) d_Judge_load_71 rfl 72 rfl ?_
    refine x_getR X hf (ci := 11) (j := 3) rfl (by decide) rfl lf_Judge_37 d_Judge_load_72 75 rfl (fun o10 hf => ?_)
    refine x_callV0v X (t_Player_rest hf.2) hf.1 (ci := 4) rfl rfl lm_Judge_75 im_Player_rest sl_Player_rest cd_Player_rest in_Player ds_Player_rest rfl rfl (Nat.le_of_ble_eq_true rfl) (Nat.le_of_ble_eq_true rfl) (Nat.le_of_ble_eq_true rfl) rfl rfl hkk hnn d_Judge_load_75 78 rfl (fun h11 hf => ?_)
    refine x_aload_n X (q := 1) d_Judge_load_78 rfl 79 rfl ?_
    refine x_getQ X hf (ci := 11) (j := 4) rfl (by decide) rfl lf_Judge_78 d_Judge_load_79 82 rfl (fun r12 hf => ?_)
    refine x_ifnull X hf d_Judge_load_82 92 85 (by decide) rfl (fun hf => ?_) (fun r13 hf => ?_)
    · exact x_sub [1, 2] rfl (t_Judge_load_92 hfl X XT hnh hthr hret hkk hnn hf)
    · refine x_aload_n X (q := 1) d_Judge_load_85 rfl 86 rfl ?_
      refine x_getR X hf (ci := 11) (j := 4) rfl (by decide) rfl lf_Judge_78 d_Judge_load_86 89 rfl (fun o14 hf => ?_)
      refine x_callV0v X (t_Works_forget hf.2) hf.1 (ci := 10) rfl rfl lm_Judge_82 im_Works_forget sl_Works_forget cd_Works_forget in_Works ds_Works_forget rfl rfl (Nat.le_of_ble_eq_true rfl) (Nat.le_of_ble_eq_true rfl) (Nat.le_of_ble_eq_true rfl) rfl rfl hkk hnn d_Judge_load_89 92 rfl (fun h15 hf => ?_)
      exact x_sub [1, 2] rfl (t_Judge_load_92 hfl X XT hnh hthr hret hkk hnn hf)
  · exact x_throw X XT rfl hnh hthr (i := 1) hf lc_Judge_64 it_IllegalArgumentException in_IllegalArgumentException (fun B U H h => h.2.2.2.2.2.1) ow_1_68 (by decide +kernel) (Nat.le_of_ble_eq_true rfl) (Nat.le_of_ble_eq_true rfl) d_Judge_load_42 d_Judge_load_45 d_Judge_load_46 d_Judge_load_48 d_Judge_load_51
set_option maxRecDepth 100000 in
def wp_Judge_load_28 (z : Nat → Nat) (mc ms : Nat) (Q : Int32 → xh → Prop) (QX : Nat → xh → Prop)  (a0 : Nat) (x1 : Int32) (hp : xh) (kk nn : Nat) : Prop :=
  wp_Judge_load_29 z mc ms Q QX a0 x1 0 hp kk nn
set_option maxRecDepth 100000 in
set_option maxHeartbeats 4000000 in
theorem t_Judge_load_28 {p : Program} {l : Launch} {e : Env} {s : State} {m : MethodId} {args : Array Value} {below : List Frame} {meth : Method} {c : Code} {G : xG} {z : Nat → Nat} {A : Nat → Prop} {Qw : State → Prop} {mc ms : Nat} {Q : Int32 → xh → Prop} {QX : Nat → xh → Prop} {a0 : Nat} {x1 : Int32} {hp : xh} {kk nn : Nat} (hfl : l.flags = flags0) (X : xX p l e (rt_Judge_load mc ms) s m args below meth c G z A y_Judge_load b_Judge_load 3) (XT : xXT e s meth A) (hnh : c.exceptionTable.toList = []) (hthr : xThr (rt_Judge_load mc ms) s below G A Qw QX) (hret : xRet p l e (rt_Judge_load mc ms) s m args below meth c G A 3 Qw b_Judge_load (some .int) (xqi Q))  (hkk : kk ≤ mc) (hnn : nn ≤ ms) (hf : wp_Judge_load_28 z mc ms Q QX  a0 x1 hp kk nn) : xE p l e (rt_Judge_load mc ms) s m args below meth c G A 3 Qw kk nn hp 28 [(0, .ref a0), (1, .int x1)] [] := by
  unfold wp_Judge_load_28 at hf
  refine x_iconst X (v := 0) d_Judge_load_28 (by decide) 29 rfl ?_
  exact x_sub [0, 1] rfl (t_Judge_load_29 hfl X XT hnh hthr hret hkk hnn hf)
set_option maxRecDepth 100000 in
def wp_Judge_load (z : Nat → Nat) (mc ms : Nat) (Q : Int32 → xh → Prop) (QX : Nat → xh → Prop) (a0 : Nat) (x1 : Int32) (hp : xh) : Prop :=
  ∃ o1, fR hp a0 11 1 = some o1 ∧ (xcls hp o1 5 ∧ wp_Reader_forgetFault z (fun h2 => wp_Judge_isCircuit z (fun v4 h3 => (v4 = 0 → wp_Judge_load_28 z mc ms Q QX a0 x1 h3 0 0) ∧ (¬ v4 = 0 → (∃ o6, fR h3 a0 11 1 = some o6 ∧ (xcls h3 o6 5 ∧ wp_Reader_readFile z (fun v8 h7 => (v8 = 0 → wp_Judge_load_28 z mc ms Q QX a0 x1 h7 0 0) ∧ (¬ v8 = 0 → wp_Judge_load_29 z mc ms Q QX a0 x1 1 h7 0 0)) o6 h3)))) x1 h2) o1 hp)
set_option maxRecDepth 100000 in
set_option maxHeartbeats 4000000 in
theorem t_Judge_load {l : Launch} {G : xG} {z : Nat → Nat} {mc ms : Nat} {Q : Int32 → xh → Prop} {QX : Nat → xh → Prop} {a0 : Nat} {x1 : Int32} {hp : xh} (hfl : l.flags = flags0) (hf : wp_Judge_load z mc ms Q QX a0 x1 hp) : xMT l G z y_Judge_load b_Judge_load 3 (some .int) (rt_Judge_load mc ms) [.ref a0, .int x1] hp (xqi Q) QX := by
  refine xMT_of hfl (by decide) (Nat.le_of_ble_eq_true rfl) (lv0 := [(0, .ref a0), (1, .int x1)]) rfl ?_
  intro p e s m args below meth c A Qw X XT hnh hret hthr
  unfold wp_Judge_load at hf
  refine x_aload_n X (q := 0) d_Judge_load_0 rfl 1 rfl ?_
  refine x_getR X hf (ci := 11) (j := 1) rfl (by decide) rfl lf_Judge_21 d_Judge_load_1 4 rfl (fun o1 hf => ?_)
  refine x_callV0v X (t_Reader_forgetFault hf.2) hf.1 (ci := 5) rfl rfl lm_Judge_49 im_Reader_forgetFault sl_Reader_forgetFault cd_Reader_forgetFault in_Reader ds_Reader_forgetFault rfl rfl (Nat.le_of_ble_eq_true rfl) (Nat.le_of_ble_eq_true rfl) (Nat.le_of_ble_eq_true rfl) rfl rfl (Nat.zero_le _) (Nat.zero_le _) d_Judge_load_4 7 rfl (fun h2 hf => ?_)
  refine x_iload_n X (q := 1) d_Judge_load_7 rfl 8 rfl ?_
  refine x_callS0z X (t_Judge_isCircuit hf) lm_Judge_52 im_Judge_isCircuit cd_Judge_isCircuit in_Judge ds_Judge_isCircuit rfl rfl (Nat.le_of_ble_eq_true rfl) (Nat.le_of_ble_eq_true rfl) (Nat.le_of_ble_eq_true rfl) rfl rfl (Nat.zero_le _) (Nat.zero_le _) d_Judge_load_8 11 rfl (fun v4 h3 hb5 hf => ?_)
  refine x_if_eq X hf d_Judge_load_11 28 14 (by decide) rfl (fun hf => ?_) (fun hf => ?_)
  · exact x_sub [0, 1] rfl (t_Judge_load_28 hfl X XT hnh hthr hret (Nat.zero_le _) (Nat.zero_le _) hf)
  · refine x_aload_n X (q := 0) d_Judge_load_14 rfl 15 rfl ?_
    refine x_getR X hf (ci := 11) (j := 1) rfl (by decide) rfl lf_Judge_21 d_Judge_load_15 18 rfl (fun o6 hf => ?_)
    refine x_callV0z X (t_Reader_readFile hf.2) hf.1 (ci := 5) rfl rfl lm_Judge_56 im_Reader_readFile sl_Reader_readFile cd_Reader_readFile in_Reader ds_Reader_readFile rfl rfl (Nat.le_of_ble_eq_true rfl) (Nat.le_of_ble_eq_true rfl) (Nat.le_of_ble_eq_true rfl) rfl rfl (Nat.zero_le _) (Nat.zero_le _) d_Judge_load_18 21 rfl (fun v8 h7 hb9 hf => ?_)
    refine x_if_eq X hf d_Judge_load_21 28 24 (by decide) rfl (fun hf => ?_) (fun hf => ?_)
    · exact x_sub [0, 1] rfl (t_Judge_load_28 hfl X XT hnh hthr hret (Nat.zero_le _) (Nat.zero_le _) hf)
    · refine x_iconst X (v := 1) d_Judge_load_24 (by decide) 25 rfl ?_
      refine x_goto X d_Judge_load_25 29 (by decide) ?_
      exact x_sub [0, 1] rfl (t_Judge_load_29 hfl X XT hnh hthr hret (Nat.zero_le _) (Nat.zero_le _) hf)

set_option maxRecDepth 100000 in
def wp_Judge_mustMatch (z : Nat → Nat) (mc ms : Nat) (Q : xh → Prop) (QX : Nat → xh → Prop) (a0 : Nat) (hp : xh) : Prop :=
  xcls hp a0 11 ∧ wp_Judge_matching z (fun v2 h1 => (¬ v2 = 0 → Q h1) ∧ (v2 = 0 → (0 + 1 ≤ mc ∧ 0 + 6 ≤ ms ∧ QX 0 h1))) a0 hp
set_option maxRecDepth 100000 in
set_option maxHeartbeats 4000000 in
theorem t_Judge_mustMatch {l : Launch} {G : xG} {z : Nat → Nat} {mc ms : Nat} {Q : xh → Prop} {QX : Nat → xh → Prop} {a0 : Nat} {hp : xh} (hfl : l.flags = flags0) (hf : wp_Judge_mustMatch z mc ms Q QX a0 hp) : xMT l G z y_Judge_mustMatch b_Judge_mustMatch 1 none (rt_Judge_mustMatch mc ms) [.ref a0] hp (xqv Q) QX := by
  refine xMT_of hfl (by decide) (Nat.le_of_ble_eq_true rfl) (lv0 := [(0, .ref a0)]) rfl ?_
  intro p e s m args below meth c A Qw X XT hnh hret hthr
  unfold wp_Judge_mustMatch at hf
  refine x_aload_n X (q := 0) d_Judge_mustMatch_0 rfl 1 rfl ?_
  refine x_callV0z X (t_Judge_matching hf.2) hf.1 (ci := 11) rfl rfl lm_Judge_141 im_Judge_matching sl_Judge_matching cd_Judge_matching in_Judge ds_Judge_matching rfl rfl (Nat.le_of_ble_eq_true rfl) (Nat.le_of_ble_eq_true rfl) (Nat.le_of_ble_eq_true rfl) rfl rfl (Nat.zero_le _) (Nat.zero_le _) d_Judge_mustMatch_1 4 rfl (fun v2 h1 hb3 hf => ?_)
  refine x_if_ne X hf d_Judge_mustMatch_4 17 7 (by decide) rfl (fun hf => ?_) (fun hf => ?_)
  · exact hret _ _ _ _ _ none (Nat.zero_le _) (Nat.zero_le _) ⟨rfl, hf⟩ ⟨rfl, d_Judge_mustMatch_17⟩
  · exact x_throw X XT rfl hnh hthr (i := 0) hf lc_Judge_193 it_IllegalStateException in_IllegalStateException (fun B U H h => h.2.2.2.2.2.2.1) ow_0_197 (by decide +kernel) (Nat.le_of_ble_eq_true rfl) (Nat.le_of_ble_eq_true rfl) d_Judge_mustMatch_7 d_Judge_mustMatch_10 d_Judge_mustMatch_11 d_Judge_mustMatch_13 d_Judge_mustMatch_16

set_option maxRecDepth 100000 in
def wp_Judge_gates (z : Nat → Nat) (mc ms : Nat) (Q : Int32 → xh → Prop) (QX : Nat → xh → Prop) (a0 : Nat) (hp : xh) : Prop :=
  ∃ mc2 ms3, 0 + mc2 ≤ mc ∧ 0 + ms3 ≤ ms ∧ xcls hp a0 11 ∧ wp_Judge_mustMatch z mc2 ms3 (fun h1 => ∃ mc8 ms9, (0 + mc2) + mc8 ≤ mc ∧ (0 + ms3) + ms9 ≤ ms ∧ xcls h1 a0 11 ∧ wp_Judge_readyWorks z mc8 ms9 (fun o7 h6 => xcls h6 o7 10 ∧ wp_Works_countGates z (fun v13 h12 => Q v13 h12) o7 h6) a0 h1) QX a0 hp
set_option maxRecDepth 100000 in
set_option maxHeartbeats 4000000 in
theorem t_Judge_gates {l : Launch} {G : xG} {z : Nat → Nat} {mc ms : Nat} {Q : Int32 → xh → Prop} {QX : Nat → xh → Prop} {a0 : Nat} {hp : xh} (hfl : l.flags = flags0) (hf : wp_Judge_gates z mc ms Q QX a0 hp) : xMT l G z y_Judge_gates b_Judge_gates 1 (some .int) (rt_Judge_gates mc ms) [.ref a0] hp (xqi Q) QX := by
  refine xMT_of hfl (by decide) (Nat.le_of_ble_eq_true rfl) (lv0 := [(0, .ref a0)]) rfl ?_
  intro p e s m args below meth c A Qw X XT hnh hret hthr
  unfold wp_Judge_gates at hf
  refine x_aload_n X (q := 0) d_Judge_gates_0 rfl 1 rfl ?_
  obtain ⟨mc2, ms3, hk4, hn5, hf⟩ := hf
  refine x_tcallVv X XT (t_Judge_mustMatch hfl hf.2) hf.1 (ci := 11) rfl rfl lm_Judge_120 im_Judge_mustMatch sl_Judge_mustMatch cd_Judge_mustMatch in_Judge ds_Judge_mustMatch rfl rfl (Nat.le_of_ble_eq_true rfl) (Nat.le_of_ble_eq_true rfl) (Nat.le_of_ble_eq_true rfl) hk4 hn5 d_Judge_gates_1 4 rfl (fun h1 hf => ?_) (x_prop XT hnh hthr hk4 hn5)
  refine x_aload_n X (q := 0) d_Judge_gates_4 rfl 5 rfl ?_
  obtain ⟨mc8, ms9, hk10, hn11, hf⟩ := hf
  refine x_callVr X (t_Judge_readyWorks hf.2) hf.1 (ci := 11) rfl rfl lm_Judge_123 im_Judge_readyWorks sl_Judge_readyWorks cd_Judge_readyWorks in_Judge ds_Judge_readyWorks rfl rfl (Nat.le_of_ble_eq_true rfl) (Nat.le_of_ble_eq_true rfl) (Nat.le_of_ble_eq_true rfl) hk10 hn11 d_Judge_gates_5 8 rfl (fun o7 h6 hf => ?_)
  refine x_callV0i X (t_Works_countGates hf.2) hf.1 (ci := 10) rfl rfl lm_Judge_127 im_Works_countGates sl_Works_countGates cd_Works_countGates in_Works ds_Works_countGates rfl rfl (Nat.le_of_ble_eq_true rfl) (Nat.le_of_ble_eq_true rfl) (Nat.le_of_ble_eq_true rfl) rfl rfl hk10 hn11 d_Judge_gates_8 11 rfl (fun v13 h12 hf => ?_)
  exact hret _ _ _ _ _ (some (.int v13)) hk10 hn11 ⟨_, rfl, hf⟩ ⟨⟨_, rfl, rfl⟩, d_Judge_gates_11⟩

set_option maxRecDepth 100000 in
def wp_Judge_judge (z : Nat → Nat) (mc ms : Nat) (Q : Int32 → xh → Prop) (QX : Nat → xh → Prop) (a0 : Nat) (hp : xh) : Prop :=
  ∃ mc2 ms3, 0 + mc2 ≤ mc ∧ 0 + ms3 ≤ ms ∧ xcls hp a0 11 ∧ wp_Judge_mustMatch z mc2 ms3 (fun h1 => ∃ mc8 ms9, (0 + mc2) + mc8 ≤ mc ∧ (0 + ms3) + ms9 ≤ ms ∧ xcls h1 a0 11 ∧ wp_Judge_exploredWorks z mc8 ms9 (fun o7 h6 => ∃ o12, fR h6 o7 10 3 = some o12 ∧ (∃ v13, fI h6 o12 9 6 = some v13 ∧ Q v13 h6)) a0 h1) QX a0 hp
set_option maxRecDepth 100000 in
set_option maxHeartbeats 4000000 in
theorem t_Judge_judge {l : Launch} {G : xG} {z : Nat → Nat} {mc ms : Nat} {Q : Int32 → xh → Prop} {QX : Nat → xh → Prop} {a0 : Nat} {hp : xh} (hfl : l.flags = flags0) (hf : wp_Judge_judge z mc ms Q QX a0 hp) : xMT l G z y_Judge_judge b_Judge_judge 1 (some .int) (rt_Judge_judge mc ms) [.ref a0] hp (xqi Q) QX := by
  refine xMT_of hfl (by decide) (Nat.le_of_ble_eq_true rfl) (lv0 := [(0, .ref a0)]) rfl ?_
  intro p e s m args below meth c A Qw X XT hnh hret hthr
  unfold wp_Judge_judge at hf
  refine x_aload_n X (q := 0) d_Judge_judge_0 rfl 1 rfl ?_
  obtain ⟨mc2, ms3, hk4, hn5, hf⟩ := hf
  refine x_tcallVv X XT (t_Judge_mustMatch hfl hf.2) hf.1 (ci := 11) rfl rfl lm_Judge_120 im_Judge_mustMatch sl_Judge_mustMatch cd_Judge_mustMatch in_Judge ds_Judge_mustMatch rfl rfl (Nat.le_of_ble_eq_true rfl) (Nat.le_of_ble_eq_true rfl) (Nat.le_of_ble_eq_true rfl) hk4 hn5 d_Judge_judge_1 4 rfl (fun h1 hf => ?_) (x_prop XT hnh hthr hk4 hn5)
  refine x_aload_n X (q := 0) d_Judge_judge_4 rfl 5 rfl ?_
  obtain ⟨mc8, ms9, hk10, hn11, hf⟩ := hf
  refine x_callVr X (t_Judge_exploredWorks hf.2) hf.1 (ci := 11) rfl rfl lm_Judge_131 im_Judge_exploredWorks sl_Judge_exploredWorks cd_Judge_exploredWorks in_Judge ds_Judge_exploredWorks rfl rfl (Nat.le_of_ble_eq_true rfl) (Nat.le_of_ble_eq_true rfl) (Nat.le_of_ble_eq_true rfl) hk10 hn11 d_Judge_judge_5 8 rfl (fun o7 h6 hf => ?_)
  refine x_getR X hf (ci := 10) (j := 3) rfl (by decide) rfl lf_Judge_134 d_Judge_judge_8 11 rfl (fun o12 hf => ?_)
  refine x_getI X hf (ci := 9) (j := 6) rfl (by decide) rfl lf_Judge_138 d_Judge_judge_11 14 rfl (fun v13 hf => ?_)
  exact hret _ _ _ _ _ (some (.int v13)) hk10 hn11 ⟨_, rfl, hf⟩ ⟨⟨_, rfl, rfl⟩, d_Judge_judge_14⟩

set_option maxRecDepth 100000 in
def wp_Judge_must (z : Nat → Nat) (mc ms : Nat) (Q : xh → Prop) (QX : Nat → xh → Prop) (x0 : Int32) (hp : xh) : Prop :=
  (¬ x0 = 0 → Q hp) ∧ (x0 = 0 → (0 + 1 ≤ mc ∧ 0 + 6 ≤ ms ∧ QX 1 hp))
set_option maxRecDepth 100000 in
set_option maxHeartbeats 4000000 in
theorem t_Judge_must {l : Launch} {G : xG} {z : Nat → Nat} {mc ms : Nat} {Q : xh → Prop} {QX : Nat → xh → Prop} {x0 : Int32} {hp : xh} (hfl : l.flags = flags0) (hf : wp_Judge_must z mc ms Q QX x0 hp) : xMT l G z y_Judge_must b_Judge_must 1 none (rt_Judge_must mc ms) [.int x0] hp (xqv Q) QX := by
  refine xMT_of hfl (by decide) (Nat.le_of_ble_eq_true rfl) (lv0 := [(0, .int x0)]) rfl ?_
  intro p e s m args below meth c A Qw X XT hnh hret hthr
  unfold wp_Judge_must at hf
  refine x_iload_n X (q := 0) d_Judge_must_0 rfl 1 rfl ?_
  refine x_if_ne X hf d_Judge_must_1 14 4 (by decide) rfl (fun hf => ?_) (fun hf => ?_)
  · exact hret _ _ _ _ _ none (Nat.zero_le _) (Nat.zero_le _) ⟨rfl, hf⟩ ⟨rfl, d_Judge_must_14⟩
  · exact x_throw X XT rfl hnh hthr (i := 1) hf lc_Judge_64 it_IllegalArgumentException in_IllegalArgumentException (fun B U H h => h.2.2.2.2.2.2.2) ow_1_68 (by decide +kernel) (Nat.le_of_ble_eq_true rfl) (Nat.le_of_ble_eq_true rfl) d_Judge_must_4 d_Judge_must_7 d_Judge_must_8 d_Judge_must_10 d_Judge_must_13

set_option maxRecDepth 100000 in
def wp_Judge_differs_20 (z : Nat → Nat) (mc ms : Nat) (Q : Int32 → xh → Prop) (QX : Nat → xh → Prop)  (a0 : Nat) (x1 : Int32) (s0 : Int32) (hp : xh) (kk nn : Nat) : Prop :=
  ∃ mc2 ms3, kk + mc2 ≤ mc ∧ nn + ms3 ≤ ms ∧ wp_Judge_must z mc2 ms3 (fun h1 => ∃ mc8 ms9, (kk + mc2) + mc8 ≤ mc ∧ (nn + ms3) + ms9 ≤ ms ∧ xcls h1 a0 11 ∧ wp_Judge_exploredWorks z mc8 ms9 (fun o7 h6 => ∃ o12, fR h6 o7 10 3 = some o12 ∧ (∃ v13, fI h6 o12 9 6 = some v13 ∧ ((x1 < v13 → Q 0 h6) ∧ (¬ x1 < v13 → Q v13 h6)))) a0 h1) QX s0 hp
set_option maxRecDepth 100000 in
set_option maxHeartbeats 4000000 in
theorem t_Judge_differs_20 {p : Program} {l : Launch} {e : Env} {s : State} {m : MethodId} {args : Array Value} {below : List Frame} {meth : Method} {c : Code} {G : xG} {z : Nat → Nat} {A : Nat → Prop} {Qw : State → Prop} {mc ms : Nat} {Q : Int32 → xh → Prop} {QX : Nat → xh → Prop} {a0 : Nat} {x1 : Int32} {s0 : Int32} {hp : xh} {kk nn : Nat} (hfl : l.flags = flags0) (X : xX p l e (rt_Judge_differs mc ms) s m args below meth c G z A y_Judge_differs b_Judge_differs 3) (XT : xXT e s meth A) (hnh : c.exceptionTable.toList = []) (hthr : xThr (rt_Judge_differs mc ms) s below G A Qw QX) (hret : xRet p l e (rt_Judge_differs mc ms) s m args below meth c G A 3 Qw b_Judge_differs (some .int) (xqi Q))  (hkk : kk ≤ mc) (hnn : nn ≤ ms) (hf : wp_Judge_differs_20 z mc ms Q QX  a0 x1 s0 hp kk nn) : xE p l e (rt_Judge_differs mc ms) s m args below meth c G A 3 Qw kk nn hp 20 [(0, .ref a0), (1, .int x1)] [.int s0] := by
  unfold wp_Judge_differs_20 at hf
  obtain ⟨mc2, ms3, hk4, hn5, hf⟩ := hf
  refine x_tcallSv X XT (t_Judge_must hfl hf) lm_Judge_150 im_Judge_must cd_Judge_must in_Judge ds_Judge_must rfl rfl (Nat.le_of_ble_eq_true rfl) (Nat.le_of_ble_eq_true rfl) (Nat.le_of_ble_eq_true rfl) hk4 hn5 d_Judge_differs_20 23 rfl (fun h1 hf => ?_) (x_prop XT hnh hthr hk4 hn5)
  refine x_aload_n X (q := 0) d_Judge_differs_23 rfl 24 rfl ?_
  obtain ⟨mc8, ms9, hk10, hn11, hf⟩ := hf
  refine x_callVr X (t_Judge_exploredWorks hf.2) hf.1 (ci := 11) rfl rfl lm_Judge_131 im_Judge_exploredWorks sl_Judge_exploredWorks cd_Judge_exploredWorks in_Judge ds_Judge_exploredWorks rfl rfl (Nat.le_of_ble_eq_true rfl) (Nat.le_of_ble_eq_true rfl) (Nat.le_of_ble_eq_true rfl) hk10 hn11 d_Judge_differs_24 27 rfl (fun o7 h6 hf => ?_)
  refine x_getR X hf (ci := 10) (j := 3) rfl (by decide) rfl lf_Judge_134 d_Judge_differs_27 30 rfl (fun o12 hf => ?_)
  refine x_getI X hf (ci := 9) (j := 6) rfl (by decide) rfl lf_Judge_138 d_Judge_differs_30 33 rfl (fun v13 hf => ?_)
  refine x_istore_n X (lv' := [(2, .int v13), (0, .ref a0), (1, .int x1)]) d_Judge_differs_33 rfl (by decide) rfl 34 rfl ?_
  refine x_iload_n X (q := 0) d_Judge_differs_34 rfl 35 rfl ?_
  refine x_iload_n X (q := 2) d_Judge_differs_35 rfl 36 rfl ?_
  refine x_icmp_gt X hf d_Judge_differs_36 43 39 (by decide) rfl (fun hf => ?_) (fun hf => ?_)
  · refine x_iconst X (v := 0) d_Judge_differs_43 (by decide) 44 rfl ?_
    exact hret _ _ _ _ _ (some (.int 0)) hk10 hn11 ⟨_, rfl, hf⟩ ⟨⟨_, rfl, rfl⟩, d_Judge_differs_44⟩
  · refine x_iload_n X (q := 0) d_Judge_differs_39 rfl 40 rfl ?_
    refine x_goto X d_Judge_differs_40 44 (by decide) ?_
    exact hret _ _ _ _ _ (some (.int v13)) hk10 hn11 ⟨_, rfl, hf⟩ ⟨⟨_, rfl, rfl⟩, d_Judge_differs_44⟩
set_option maxRecDepth 100000 in
def wp_Judge_differs_19 (z : Nat → Nat) (mc ms : Nat) (Q : Int32 → xh → Prop) (QX : Nat → xh → Prop)  (a0 : Nat) (x1 : Int32) (hp : xh) (kk nn : Nat) : Prop :=
  wp_Judge_differs_20 z mc ms Q QX a0 x1 0 hp kk nn
set_option maxRecDepth 100000 in
set_option maxHeartbeats 4000000 in
theorem t_Judge_differs_19 {p : Program} {l : Launch} {e : Env} {s : State} {m : MethodId} {args : Array Value} {below : List Frame} {meth : Method} {c : Code} {G : xG} {z : Nat → Nat} {A : Nat → Prop} {Qw : State → Prop} {mc ms : Nat} {Q : Int32 → xh → Prop} {QX : Nat → xh → Prop} {a0 : Nat} {x1 : Int32} {hp : xh} {kk nn : Nat} (hfl : l.flags = flags0) (X : xX p l e (rt_Judge_differs mc ms) s m args below meth c G z A y_Judge_differs b_Judge_differs 3) (XT : xXT e s meth A) (hnh : c.exceptionTable.toList = []) (hthr : xThr (rt_Judge_differs mc ms) s below G A Qw QX) (hret : xRet p l e (rt_Judge_differs mc ms) s m args below meth c G A 3 Qw b_Judge_differs (some .int) (xqi Q))  (hkk : kk ≤ mc) (hnn : nn ≤ ms) (hf : wp_Judge_differs_19 z mc ms Q QX  a0 x1 hp kk nn) : xE p l e (rt_Judge_differs mc ms) s m args below meth c G A 3 Qw kk nn hp 19 [(0, .ref a0), (1, .int x1)] [] := by
  unfold wp_Judge_differs_19 at hf
  refine x_iconst X (v := 0) d_Judge_differs_19 (by decide) 20 rfl ?_
  exact x_sub [0, 1] rfl (t_Judge_differs_20 hfl X XT hnh hthr hret hkk hnn hf)
set_option maxRecDepth 100000 in
def wp_Judge_differs (z : Nat → Nat) (mc ms : Nat) (Q : Int32 → xh → Prop) (QX : Nat → xh → Prop) (a0 : Nat) (x1 : Int32) (hp : xh) : Prop :=
  ∃ mc2 ms3, 0 + mc2 ≤ mc ∧ 0 + ms3 ≤ ms ∧ xcls hp a0 11 ∧ wp_Judge_mustMatch z mc2 ms3 (fun h1 => (x1 < 1 → (wp_Judge_differs_19 z mc ms Q QX a0 x1 h1 (0 + mc2) (0 + ms3))) ∧ (¬ x1 < 1 → ((16 < x1 → (wp_Judge_differs_19 z mc ms Q QX a0 x1 h1 (0 + mc2) (0 + ms3))) ∧ (¬ 16 < x1 → (wp_Judge_differs_20 z mc ms Q QX a0 x1 1 h1 (0 + mc2) (0 + ms3)))))) QX a0 hp
set_option maxRecDepth 100000 in
set_option maxHeartbeats 4000000 in
theorem t_Judge_differs {l : Launch} {G : xG} {z : Nat → Nat} {mc ms : Nat} {Q : Int32 → xh → Prop} {QX : Nat → xh → Prop} {a0 : Nat} {x1 : Int32} {hp : xh} (hfl : l.flags = flags0) (hf : wp_Judge_differs z mc ms Q QX a0 x1 hp) : xMT l G z y_Judge_differs b_Judge_differs 3 (some .int) (rt_Judge_differs mc ms) [.ref a0, .int x1] hp (xqi Q) QX := by
  refine xMT_of hfl (by decide) (Nat.le_of_ble_eq_true rfl) (lv0 := [(0, .ref a0), (1, .int x1)]) rfl ?_
  intro p e s m args below meth c A Qw X XT hnh hret hthr
  unfold wp_Judge_differs at hf
  refine x_aload_n X (q := 0) d_Judge_differs_0 rfl 1 rfl ?_
  obtain ⟨mc2, ms3, hk4, hn5, hf⟩ := hf
  refine x_tcallVv X XT (t_Judge_mustMatch hfl hf.2) hf.1 (ci := 11) rfl rfl lm_Judge_120 im_Judge_mustMatch sl_Judge_mustMatch cd_Judge_mustMatch in_Judge ds_Judge_mustMatch rfl rfl (Nat.le_of_ble_eq_true rfl) (Nat.le_of_ble_eq_true rfl) (Nat.le_of_ble_eq_true rfl) hk4 hn5 d_Judge_differs_1 4 rfl (fun h1 hf => ?_) (x_prop XT hnh hthr hk4 hn5)
  refine x_iload_n X (q := 1) d_Judge_differs_4 rfl 5 rfl ?_
  refine x_iconst X (v := 1) d_Judge_differs_5 (by decide) 6 rfl ?_
  refine x_icmp_lt X hf d_Judge_differs_6 19 9 (by decide) rfl (fun hf => ?_) (fun hf => ?_)
  · exact x_sub [0, 1] rfl (t_Judge_differs_19 hfl X XT hnh hthr hret hk4 hn5 hf)
  · refine x_iload_n X (q := 1) d_Judge_differs_9 rfl 10 rfl ?_
    refine x_bipush X (v := 16) d_Judge_differs_10 (by decide) 12 rfl ?_
    refine x_icmp_gt X hf d_Judge_differs_12 19 15 (by decide) rfl (fun hf => ?_) (fun hf => ?_)
    · exact x_sub [0, 1] rfl (t_Judge_differs_19 hfl X XT hnh hthr hret hk4 hn5 hf)
    · refine x_iconst X (v := 1) d_Judge_differs_15 (by decide) 16 rfl ?_
      refine x_goto X d_Judge_differs_16 20 (by decide) ?_
      exact x_sub [0, 1] rfl (t_Judge_differs_20 hfl X XT hnh hthr hret hk4 hn5 hf)

set_option maxRecDepth 100000 in
def wp_Judge_inductive_19 (z : Nat → Nat) (mc ms : Nat) (Q : Int32 → xh → Prop) (QX : Nat → xh → Prop)  (a0 : Nat) (x1 : Int32) (s0 : Int32) (hp : xh) (kk nn : Nat) : Prop :=
  ∃ mc2 ms3, kk + mc2 ≤ mc ∧ nn + ms3 ≤ ms ∧ wp_Judge_must z mc2 ms3 (fun h1 => ∃ mc8 ms9, (kk + mc2) + mc8 ≤ mc ∧ (nn + ms3) + ms9 ≤ ms ∧ xcls h1 a0 11 ∧ wp_Judge_exploredWorks z mc8 ms9 (fun o7 h6 => xcls h6 o7 10 ∧ wp_Works_holdsByInduction z (fun v13 h12 => Q v13 h12) o7 x1 h6) a0 h1) QX s0 hp
set_option maxRecDepth 100000 in
set_option maxHeartbeats 4000000 in
theorem t_Judge_inductive_19 {p : Program} {l : Launch} {e : Env} {s : State} {m : MethodId} {args : Array Value} {below : List Frame} {meth : Method} {c : Code} {G : xG} {z : Nat → Nat} {A : Nat → Prop} {Qw : State → Prop} {mc ms : Nat} {Q : Int32 → xh → Prop} {QX : Nat → xh → Prop} {a0 : Nat} {x1 : Int32} {s0 : Int32} {hp : xh} {kk nn : Nat} (hfl : l.flags = flags0) (X : xX p l e (rt_Judge_inductive mc ms) s m args below meth c G z A y_Judge_inductive b_Judge_inductive 2) (XT : xXT e s meth A) (hnh : c.exceptionTable.toList = []) (hthr : xThr (rt_Judge_inductive mc ms) s below G A Qw QX) (hret : xRet p l e (rt_Judge_inductive mc ms) s m args below meth c G A 2 Qw b_Judge_inductive (some .boolean) (xqz Q))  (hkk : kk ≤ mc) (hnn : nn ≤ ms) (hf : wp_Judge_inductive_19 z mc ms Q QX  a0 x1 s0 hp kk nn) : xE p l e (rt_Judge_inductive mc ms) s m args below meth c G A 2 Qw kk nn hp 19 [(0, .ref a0), (1, .int x1)] [.int s0] := by
  unfold wp_Judge_inductive_19 at hf
  obtain ⟨mc2, ms3, hk4, hn5, hf⟩ := hf
  refine x_tcallSv X XT (t_Judge_must hfl hf) lm_Judge_150 im_Judge_must cd_Judge_must in_Judge ds_Judge_must rfl rfl (Nat.le_of_ble_eq_true rfl) (Nat.le_of_ble_eq_true rfl) (Nat.le_of_ble_eq_true rfl) hk4 hn5 d_Judge_inductive_19 22 rfl (fun h1 hf => ?_) (x_prop XT hnh hthr hk4 hn5)
  refine x_aload_n X (q := 0) d_Judge_inductive_22 rfl 23 rfl ?_
  obtain ⟨mc8, ms9, hk10, hn11, hf⟩ := hf
  refine x_callVr X (t_Judge_exploredWorks hf.2) hf.1 (ci := 11) rfl rfl lm_Judge_131 im_Judge_exploredWorks sl_Judge_exploredWorks cd_Judge_exploredWorks in_Judge ds_Judge_exploredWorks rfl rfl (Nat.le_of_ble_eq_true rfl) (Nat.le_of_ble_eq_true rfl) (Nat.le_of_ble_eq_true rfl) hk10 hn11 d_Judge_inductive_23 26 rfl (fun o7 h6 hf => ?_)
  refine x_iload_n X (q := 1) d_Judge_inductive_26 rfl 27 rfl ?_
  refine x_callV0z X (t_Works_holdsByInduction hf.2) hf.1 (ci := 10) rfl rfl lm_Judge_154 im_Works_holdsByInduction sl_Works_holdsByInduction cd_Works_holdsByInduction in_Works ds_Works_holdsByInduction rfl rfl (Nat.le_of_ble_eq_true rfl) (Nat.le_of_ble_eq_true rfl) (Nat.le_of_ble_eq_true rfl) rfl rfl hk10 hn11 d_Judge_inductive_27 30 rfl (fun v13 h12 hb14 hf => ?_)
  exact hret _ _ _ _ _ (some (.int v13)) hk10 hn11 ⟨_, rfl, hb14, hf⟩ ⟨⟨_, rfl, xbl_nar hb14⟩, d_Judge_inductive_30⟩
set_option maxRecDepth 100000 in
def wp_Judge_inductive_18 (z : Nat → Nat) (mc ms : Nat) (Q : Int32 → xh → Prop) (QX : Nat → xh → Prop)  (a0 : Nat) (x1 : Int32) (hp : xh) (kk nn : Nat) : Prop :=
  wp_Judge_inductive_19 z mc ms Q QX a0 x1 0 hp kk nn
set_option maxRecDepth 100000 in
set_option maxHeartbeats 4000000 in
theorem t_Judge_inductive_18 {p : Program} {l : Launch} {e : Env} {s : State} {m : MethodId} {args : Array Value} {below : List Frame} {meth : Method} {c : Code} {G : xG} {z : Nat → Nat} {A : Nat → Prop} {Qw : State → Prop} {mc ms : Nat} {Q : Int32 → xh → Prop} {QX : Nat → xh → Prop} {a0 : Nat} {x1 : Int32} {hp : xh} {kk nn : Nat} (hfl : l.flags = flags0) (X : xX p l e (rt_Judge_inductive mc ms) s m args below meth c G z A y_Judge_inductive b_Judge_inductive 2) (XT : xXT e s meth A) (hnh : c.exceptionTable.toList = []) (hthr : xThr (rt_Judge_inductive mc ms) s below G A Qw QX) (hret : xRet p l e (rt_Judge_inductive mc ms) s m args below meth c G A 2 Qw b_Judge_inductive (some .boolean) (xqz Q))  (hkk : kk ≤ mc) (hnn : nn ≤ ms) (hf : wp_Judge_inductive_18 z mc ms Q QX  a0 x1 hp kk nn) : xE p l e (rt_Judge_inductive mc ms) s m args below meth c G A 2 Qw kk nn hp 18 [(0, .ref a0), (1, .int x1)] [] := by
  unfold wp_Judge_inductive_18 at hf
  refine x_iconst X (v := 0) d_Judge_inductive_18 (by decide) 19 rfl ?_
  exact x_sub [0, 1] rfl (t_Judge_inductive_19 hfl X XT hnh hthr hret hkk hnn hf)
set_option maxRecDepth 100000 in
def wp_Judge_inductive (z : Nat → Nat) (mc ms : Nat) (Q : Int32 → xh → Prop) (QX : Nat → xh → Prop) (a0 : Nat) (x1 : Int32) (hp : xh) : Prop :=
  ∃ mc2 ms3, 0 + mc2 ≤ mc ∧ 0 + ms3 ≤ ms ∧ xcls hp a0 11 ∧ wp_Judge_mustMatch z mc2 ms3 (fun h1 => (x1 < 0 → (wp_Judge_inductive_18 z mc ms Q QX a0 x1 h1 (0 + mc2) (0 + ms3))) ∧ (¬ x1 < 0 → ((8 < x1 → (wp_Judge_inductive_18 z mc ms Q QX a0 x1 h1 (0 + mc2) (0 + ms3))) ∧ (¬ 8 < x1 → (wp_Judge_inductive_19 z mc ms Q QX a0 x1 1 h1 (0 + mc2) (0 + ms3)))))) QX a0 hp
set_option maxRecDepth 100000 in
set_option maxHeartbeats 4000000 in
theorem t_Judge_inductive {l : Launch} {G : xG} {z : Nat → Nat} {mc ms : Nat} {Q : Int32 → xh → Prop} {QX : Nat → xh → Prop} {a0 : Nat} {x1 : Int32} {hp : xh} (hfl : l.flags = flags0) (hf : wp_Judge_inductive z mc ms Q QX a0 x1 hp) : xMT l G z y_Judge_inductive b_Judge_inductive 2 (some .boolean) (rt_Judge_inductive mc ms) [.ref a0, .int x1] hp (xqz Q) QX := by
  refine xMT_of hfl (by decide) (Nat.le_of_ble_eq_true rfl) (lv0 := [(0, .ref a0), (1, .int x1)]) rfl ?_
  intro p e s m args below meth c A Qw X XT hnh hret hthr
  unfold wp_Judge_inductive at hf
  refine x_aload_n X (q := 0) d_Judge_inductive_0 rfl 1 rfl ?_
  obtain ⟨mc2, ms3, hk4, hn5, hf⟩ := hf
  refine x_tcallVv X XT (t_Judge_mustMatch hfl hf.2) hf.1 (ci := 11) rfl rfl lm_Judge_120 im_Judge_mustMatch sl_Judge_mustMatch cd_Judge_mustMatch in_Judge ds_Judge_mustMatch rfl rfl (Nat.le_of_ble_eq_true rfl) (Nat.le_of_ble_eq_true rfl) (Nat.le_of_ble_eq_true rfl) hk4 hn5 d_Judge_inductive_1 4 rfl (fun h1 hf => ?_) (x_prop XT hnh hthr hk4 hn5)
  refine x_iload_n X (q := 1) d_Judge_inductive_4 rfl 5 rfl ?_
  refine x_if_lt X hf d_Judge_inductive_5 18 8 (by decide) rfl (fun hf => ?_) (fun hf => ?_)
  · exact x_sub [0, 1] rfl (t_Judge_inductive_18 hfl X XT hnh hthr hret hk4 hn5 hf)
  · refine x_iload_n X (q := 1) d_Judge_inductive_8 rfl 9 rfl ?_
    refine x_bipush X (v := 8) d_Judge_inductive_9 (by decide) 11 rfl ?_
    refine x_icmp_gt X hf d_Judge_inductive_11 18 14 (by decide) rfl (fun hf => ?_) (fun hf => ?_)
    · exact x_sub [0, 1] rfl (t_Judge_inductive_18 hfl X XT hnh hthr hret hk4 hn5 hf)
    · refine x_iconst X (v := 1) d_Judge_inductive_14 (by decide) 15 rfl ?_
      refine x_goto X d_Judge_inductive_15 19 (by decide) ?_
      exact x_sub [0, 1] rfl (t_Judge_inductive_19 hfl X XT hnh hthr hret hk4 hn5 hf)

set_option maxRecDepth 100000 in
def wp_Judge_pairs_18 (z : Nat → Nat) (mc ms : Nat) (Q : Int32 → xh → Prop) (QX : Nat → xh → Prop)  (a0 : Nat) (x1 : Int32) (s0 : Int32) (hp : xh) (kk nn : Nat) : Prop :=
  ∃ mc2 ms3, kk + mc2 ≤ mc ∧ nn + ms3 ≤ ms ∧ wp_Judge_must z mc2 ms3 (fun h1 => ∃ mc8 ms9, (kk + mc2) + mc8 ≤ mc ∧ (nn + ms3) + ms9 ≤ ms ∧ xcls h1 a0 11 ∧ wp_Judge_exploredWorks z mc8 ms9 (fun o7 h6 => ∃ o12, fR h6 o7 10 3 = some o12 ∧ ((¬ x1 = 0 → (xcls h6 o12 9 ∧ wp_Walk_greatestDepth z (fun v14 h13 => Q v14 h13) o12 h6)) ∧ (x1 = 0 → (∃ v15, fI h6 o12 9 5 = some v15 ∧ Q v15 h6)))) a0 h1) QX s0 hp
set_option maxRecDepth 100000 in
set_option maxHeartbeats 4000000 in
theorem t_Judge_pairs_18 {p : Program} {l : Launch} {e : Env} {s : State} {m : MethodId} {args : Array Value} {below : List Frame} {meth : Method} {c : Code} {G : xG} {z : Nat → Nat} {A : Nat → Prop} {Qw : State → Prop} {mc ms : Nat} {Q : Int32 → xh → Prop} {QX : Nat → xh → Prop} {a0 : Nat} {x1 : Int32} {s0 : Int32} {hp : xh} {kk nn : Nat} (hfl : l.flags = flags0) (X : xX p l e (rt_Judge_pairs mc ms) s m args below meth c G z A y_Judge_pairs b_Judge_pairs 3) (XT : xXT e s meth A) (hnh : c.exceptionTable.toList = []) (hthr : xThr (rt_Judge_pairs mc ms) s below G A Qw QX) (hret : xRet p l e (rt_Judge_pairs mc ms) s m args below meth c G A 3 Qw b_Judge_pairs (some .int) (xqi Q))  (hkk : kk ≤ mc) (hnn : nn ≤ ms) (hf : wp_Judge_pairs_18 z mc ms Q QX  a0 x1 s0 hp kk nn) : xE p l e (rt_Judge_pairs mc ms) s m args below meth c G A 3 Qw kk nn hp 18 [(0, .ref a0), (1, .int x1)] [.int s0] := by
  unfold wp_Judge_pairs_18 at hf
  obtain ⟨mc2, ms3, hk4, hn5, hf⟩ := hf
  refine x_tcallSv X XT (t_Judge_must hfl hf) lm_Judge_150 im_Judge_must cd_Judge_must in_Judge ds_Judge_must rfl rfl (Nat.le_of_ble_eq_true rfl) (Nat.le_of_ble_eq_true rfl) (Nat.le_of_ble_eq_true rfl) hk4 hn5 d_Judge_pairs_18 21 rfl (fun h1 hf => ?_) (x_prop XT hnh hthr hk4 hn5)
  refine x_aload_n X (q := 0) d_Judge_pairs_21 rfl 22 rfl ?_
  obtain ⟨mc8, ms9, hk10, hn11, hf⟩ := hf
  refine x_callVr X (t_Judge_exploredWorks hf.2) hf.1 (ci := 11) rfl rfl lm_Judge_131 im_Judge_exploredWorks sl_Judge_exploredWorks cd_Judge_exploredWorks in_Judge ds_Judge_exploredWorks rfl rfl (Nat.le_of_ble_eq_true rfl) (Nat.le_of_ble_eq_true rfl) (Nat.le_of_ble_eq_true rfl) hk10 hn11 d_Judge_pairs_22 25 rfl (fun o7 h6 hf => ?_)
  refine x_getR X hf (ci := 10) (j := 3) rfl (by decide) rfl lf_Judge_134 d_Judge_pairs_25 28 rfl (fun o12 hf => ?_)
  refine x_astore_n X (lv' := [(2, .ref o12), (0, .ref a0), (1, .int x1)]) d_Judge_pairs_28 rfl (by decide) rfl 29 rfl ?_
  refine x_iload_n X (q := 2) d_Judge_pairs_29 rfl 30 rfl ?_
  refine x_if_ne X hf d_Judge_pairs_30 40 33 (by decide) rfl (fun hf => ?_) (fun hf => ?_)
  · refine x_aload_n X (q := 0) d_Judge_pairs_40 rfl 41 rfl ?_
    refine x_callV0i X (t_Walk_greatestDepth hf.2) hf.1 (ci := 9) rfl rfl lm_Judge_160 im_Walk_greatestDepth sl_Walk_greatestDepth cd_Walk_greatestDepth in_Walk ds_Walk_greatestDepth rfl rfl (Nat.le_of_ble_eq_true rfl) (Nat.le_of_ble_eq_true rfl) (Nat.le_of_ble_eq_true rfl) rfl rfl hk10 hn11 d_Judge_pairs_41 44 rfl (fun v14 h13 hf => ?_)
    exact hret _ _ _ _ _ (some (.int v14)) hk10 hn11 ⟨_, rfl, hf⟩ ⟨⟨_, rfl, rfl⟩, d_Judge_pairs_44⟩
  · refine x_aload_n X (q := 0) d_Judge_pairs_33 rfl 34 rfl ?_
    refine x_getI X hf (ci := 9) (j := 5) rfl (by decide) rfl lf_Judge_157 d_Judge_pairs_34 37 rfl (fun v15 hf => ?_)
    refine x_goto X d_Judge_pairs_37 44 (by decide) ?_
    exact hret _ _ _ _ _ (some (.int v15)) hk10 hn11 ⟨_, rfl, hf⟩ ⟨⟨_, rfl, rfl⟩, d_Judge_pairs_44⟩
set_option maxRecDepth 100000 in
def wp_Judge_pairs_13 (z : Nat → Nat) (mc ms : Nat) (Q : Int32 → xh → Prop) (QX : Nat → xh → Prop)  (a0 : Nat) (x1 : Int32) (hp : xh) (kk nn : Nat) : Prop :=
  wp_Judge_pairs_18 z mc ms Q QX a0 x1 1 hp kk nn
set_option maxRecDepth 100000 in
set_option maxHeartbeats 4000000 in
theorem t_Judge_pairs_13 {p : Program} {l : Launch} {e : Env} {s : State} {m : MethodId} {args : Array Value} {below : List Frame} {meth : Method} {c : Code} {G : xG} {z : Nat → Nat} {A : Nat → Prop} {Qw : State → Prop} {mc ms : Nat} {Q : Int32 → xh → Prop} {QX : Nat → xh → Prop} {a0 : Nat} {x1 : Int32} {hp : xh} {kk nn : Nat} (hfl : l.flags = flags0) (X : xX p l e (rt_Judge_pairs mc ms) s m args below meth c G z A y_Judge_pairs b_Judge_pairs 3) (XT : xXT e s meth A) (hnh : c.exceptionTable.toList = []) (hthr : xThr (rt_Judge_pairs mc ms) s below G A Qw QX) (hret : xRet p l e (rt_Judge_pairs mc ms) s m args below meth c G A 3 Qw b_Judge_pairs (some .int) (xqi Q))  (hkk : kk ≤ mc) (hnn : nn ≤ ms) (hf : wp_Judge_pairs_13 z mc ms Q QX  a0 x1 hp kk nn) : xE p l e (rt_Judge_pairs mc ms) s m args below meth c G A 3 Qw kk nn hp 13 [(0, .ref a0), (1, .int x1)] [] := by
  unfold wp_Judge_pairs_13 at hf
  refine x_iconst X (v := 1) d_Judge_pairs_13 (by decide) 14 rfl ?_
  refine x_goto X d_Judge_pairs_14 18 (by decide) ?_
  exact x_sub [0, 1] rfl (t_Judge_pairs_18 hfl X XT hnh hthr hret hkk hnn hf)
set_option maxRecDepth 100000 in
def wp_Judge_pairs (z : Nat → Nat) (mc ms : Nat) (Q : Int32 → xh → Prop) (QX : Nat → xh → Prop) (a0 : Nat) (x1 : Int32) (hp : xh) : Prop :=
  ∃ mc2 ms3, 0 + mc2 ≤ mc ∧ 0 + ms3 ≤ ms ∧ xcls hp a0 11 ∧ wp_Judge_mustMatch z mc2 ms3 (fun h1 => (x1 = 0 → (wp_Judge_pairs_13 z mc ms Q QX a0 x1 h1 (0 + mc2) (0 + ms3))) ∧ (¬ x1 = 0 → ((¬ x1 = 1 → (wp_Judge_pairs_18 z mc ms Q QX a0 x1 0 h1 (0 + mc2) (0 + ms3))) ∧ (x1 = 1 → (wp_Judge_pairs_13 z mc ms Q QX a0 x1 h1 (0 + mc2) (0 + ms3)))))) QX a0 hp
set_option maxRecDepth 100000 in
set_option maxHeartbeats 4000000 in
theorem t_Judge_pairs {l : Launch} {G : xG} {z : Nat → Nat} {mc ms : Nat} {Q : Int32 → xh → Prop} {QX : Nat → xh → Prop} {a0 : Nat} {x1 : Int32} {hp : xh} (hfl : l.flags = flags0) (hf : wp_Judge_pairs z mc ms Q QX a0 x1 hp) : xMT l G z y_Judge_pairs b_Judge_pairs 3 (some .int) (rt_Judge_pairs mc ms) [.ref a0, .int x1] hp (xqi Q) QX := by
  refine xMT_of hfl (by decide) (Nat.le_of_ble_eq_true rfl) (lv0 := [(0, .ref a0), (1, .int x1)]) rfl ?_
  intro p e s m args below meth c A Qw X XT hnh hret hthr
  unfold wp_Judge_pairs at hf
  refine x_aload_n X (q := 0) d_Judge_pairs_0 rfl 1 rfl ?_
  obtain ⟨mc2, ms3, hk4, hn5, hf⟩ := hf
  refine x_tcallVv X XT (t_Judge_mustMatch hfl hf.2) hf.1 (ci := 11) rfl rfl lm_Judge_120 im_Judge_mustMatch sl_Judge_mustMatch cd_Judge_mustMatch in_Judge ds_Judge_mustMatch rfl rfl (Nat.le_of_ble_eq_true rfl) (Nat.le_of_ble_eq_true rfl) (Nat.le_of_ble_eq_true rfl) hk4 hn5 d_Judge_pairs_1 4 rfl (fun h1 hf => ?_) (x_prop XT hnh hthr hk4 hn5)
  refine x_iload_n X (q := 1) d_Judge_pairs_4 rfl 5 rfl ?_
  refine x_if_eq X hf d_Judge_pairs_5 13 8 (by decide) rfl (fun hf => ?_) (fun hf => ?_)
  · exact x_sub [0, 1] rfl (t_Judge_pairs_13 hfl X XT hnh hthr hret hk4 hn5 hf)
  · refine x_iload_n X (q := 1) d_Judge_pairs_8 rfl 9 rfl ?_
    refine x_iconst X (v := 1) d_Judge_pairs_9 (by decide) 10 rfl ?_
    refine x_icmp_ne X hf d_Judge_pairs_10 17 13 (by decide) rfl (fun hf => ?_) (fun hf => ?_)
    · refine x_iconst X (v := 0) d_Judge_pairs_17 (by decide) 18 rfl ?_
      exact x_sub [0, 1] rfl (t_Judge_pairs_18 hfl X XT hnh hthr hret hk4 hn5 hf)
    · exact x_sub [0, 1] rfl (t_Judge_pairs_13 hfl X XT hnh hthr hret hk4 hn5 hf)

set_option maxRecDepth 100000 in
def wp_Judge_depth_35 (z : Nat → Nat) (mc ms : Nat) (Q : Int32 → xh → Prop) (QX : Nat → xh → Prop)  (a0 : Nat) (x1 : Int32) (x2 : Int32) (s0 : Int32) (hp : xh) (kk nn : Nat) : Prop :=
  ∃ mc2 ms3, kk + mc2 ≤ mc ∧ nn + ms3 ≤ ms ∧ wp_Judge_must z mc2 ms3 (fun h1 => ∃ mc8 ms9, (kk + mc2) + mc8 ≤ mc ∧ (nn + ms3) + ms9 ≤ ms ∧ xcls h1 a0 11 ∧ wp_Judge_exploredWorks z mc8 ms9 (fun o7 h6 => ∃ o12, fR h6 o7 10 3 = some o12 ∧ (∃ o13, fR h6 o12 9 2 = some o13 ∧ (∃ v14, aI h6 o13 0 ((x1 * 64) + x2) = some v14 ∧ Q v14 h6))) a0 h1) QX s0 hp
set_option maxRecDepth 100000 in
set_option maxHeartbeats 4000000 in
theorem t_Judge_depth_35 {p : Program} {l : Launch} {e : Env} {s : State} {m : MethodId} {args : Array Value} {below : List Frame} {meth : Method} {c : Code} {G : xG} {z : Nat → Nat} {A : Nat → Prop} {Qw : State → Prop} {mc ms : Nat} {Q : Int32 → xh → Prop} {QX : Nat → xh → Prop} {a0 : Nat} {x1 : Int32} {x2 : Int32} {s0 : Int32} {hp : xh} {kk nn : Nat} (hfl : l.flags = flags0) (X : xX p l e (rt_Judge_depth mc ms) s m args below meth c G z A y_Judge_depth b_Judge_depth 3) (XT : xXT e s meth A) (hnh : c.exceptionTable.toList = []) (hthr : xThr (rt_Judge_depth mc ms) s below G A Qw QX) (hret : xRet p l e (rt_Judge_depth mc ms) s m args below meth c G A 3 Qw b_Judge_depth (some .int) (xqi Q))  (hkk : kk ≤ mc) (hnn : nn ≤ ms) (hf : wp_Judge_depth_35 z mc ms Q QX  a0 x1 x2 s0 hp kk nn) : xE p l e (rt_Judge_depth mc ms) s m args below meth c G A 3 Qw kk nn hp 35 [(0, .ref a0), (1, .int x1), (2, .int x2)] [.int s0] := by
  unfold wp_Judge_depth_35 at hf
  obtain ⟨mc2, ms3, hk4, hn5, hf⟩ := hf
  refine x_tcallSv X XT (t_Judge_must hfl hf) lm_Judge_150 im_Judge_must cd_Judge_must in_Judge ds_Judge_must rfl rfl (Nat.le_of_ble_eq_true rfl) (Nat.le_of_ble_eq_true rfl) (Nat.le_of_ble_eq_true rfl) hk4 hn5 d_Judge_depth_35 38 rfl (fun h1 hf => ?_) (x_prop XT hnh hthr hk4 hn5)
  refine x_aload_n X (q := 0) d_Judge_depth_38 rfl 39 rfl ?_
  obtain ⟨mc8, ms9, hk10, hn11, hf⟩ := hf
  refine x_callVr X (t_Judge_exploredWorks hf.2) hf.1 (ci := 11) rfl rfl lm_Judge_131 im_Judge_exploredWorks sl_Judge_exploredWorks cd_Judge_exploredWorks in_Judge ds_Judge_exploredWorks rfl rfl (Nat.le_of_ble_eq_true rfl) (Nat.le_of_ble_eq_true rfl) (Nat.le_of_ble_eq_true rfl) hk10 hn11 d_Judge_depth_39 42 rfl (fun o7 h6 hf => ?_)
  refine x_getR X hf (ci := 10) (j := 3) rfl (by decide) rfl lf_Judge_134 d_Judge_depth_42 45 rfl (fun o12 hf => ?_)
  refine x_getR X hf (ci := 9) (j := 2) rfl (by decide) rfl lf_Judge_166 d_Judge_depth_45 48 rfl (fun o13 hf => ?_)
  refine x_iload_n X (q := 1) d_Judge_depth_48 rfl 49 rfl ?_
  refine x_bipush X (v := 64) d_Judge_depth_49 (by decide) 51 rfl ?_
  refine x_imul X d_Judge_depth_51 52 rfl ?_
  refine x_iload_n X (q := 2) d_Judge_depth_52 rfl 53 rfl ?_
  refine x_iadd X d_Judge_depth_53 54 rfl ?_
  refine x_iald X hf d_Judge_depth_54 55 rfl (fun v14 hf => ?_)
  exact hret _ _ _ _ _ (some (.int v14)) hk10 hn11 ⟨_, rfl, hf⟩ ⟨⟨_, rfl, rfl⟩, d_Judge_depth_55⟩
set_option maxRecDepth 100000 in
def wp_Judge_depth_34 (z : Nat → Nat) (mc ms : Nat) (Q : Int32 → xh → Prop) (QX : Nat → xh → Prop)  (a0 : Nat) (x1 : Int32) (x2 : Int32) (hp : xh) (kk nn : Nat) : Prop :=
  wp_Judge_depth_35 z mc ms Q QX a0 x1 x2 0 hp kk nn
set_option maxRecDepth 100000 in
set_option maxHeartbeats 4000000 in
theorem t_Judge_depth_34 {p : Program} {l : Launch} {e : Env} {s : State} {m : MethodId} {args : Array Value} {below : List Frame} {meth : Method} {c : Code} {G : xG} {z : Nat → Nat} {A : Nat → Prop} {Qw : State → Prop} {mc ms : Nat} {Q : Int32 → xh → Prop} {QX : Nat → xh → Prop} {a0 : Nat} {x1 : Int32} {x2 : Int32} {hp : xh} {kk nn : Nat} (hfl : l.flags = flags0) (X : xX p l e (rt_Judge_depth mc ms) s m args below meth c G z A y_Judge_depth b_Judge_depth 3) (XT : xXT e s meth A) (hnh : c.exceptionTable.toList = []) (hthr : xThr (rt_Judge_depth mc ms) s below G A Qw QX) (hret : xRet p l e (rt_Judge_depth mc ms) s m args below meth c G A 3 Qw b_Judge_depth (some .int) (xqi Q))  (hkk : kk ≤ mc) (hnn : nn ≤ ms) (hf : wp_Judge_depth_34 z mc ms Q QX  a0 x1 x2 hp kk nn) : xE p l e (rt_Judge_depth mc ms) s m args below meth c G A 3 Qw kk nn hp 34 [(0, .ref a0), (1, .int x1), (2, .int x2)] [] := by
  unfold wp_Judge_depth_34 at hf
  refine x_iconst X (v := 0) d_Judge_depth_34 (by decide) 35 rfl ?_
  exact x_sub [0, 1, 2] rfl (t_Judge_depth_35 hfl X XT hnh hthr hret hkk hnn hf)
set_option maxRecDepth 100000 in
def wp_Judge_depth (z : Nat → Nat) (mc ms : Nat) (Q : Int32 → xh → Prop) (QX : Nat → xh → Prop) (a0 : Nat) (x1 : Int32) (x2 : Int32) (hp : xh) : Prop :=
  ∃ mc2 ms3, 0 + mc2 ≤ mc ∧ 0 + ms3 ≤ ms ∧ xcls hp a0 11 ∧ wp_Judge_mustMatch z mc2 ms3 (fun h1 => ∃ o6, fR h1 a0 11 2 = some o6 ∧ (∃ o7, aR h1 o6 5 0 = some o7 ∧ (xcls h1 o7 0 ∧ wp_Circuit_isState z (fun v9 h8 => (v9 = 0 → (wp_Judge_depth_34 z mc ms Q QX a0 x1 x2 h8 (0 + mc2) (0 + ms3))) ∧ (¬ v9 = 0 → (∃ o11, fR h8 a0 11 2 = some o11 ∧ (∃ o12, aR h8 o11 5 1 = some o12 ∧ (xcls h8 o12 0 ∧ wp_Circuit_isState z (fun v14 h13 => (v14 = 0 → (wp_Judge_depth_34 z mc ms Q QX a0 x1 x2 h13 (0 + mc2) (0 + ms3))) ∧ (¬ v14 = 0 → (wp_Judge_depth_35 z mc ms Q QX a0 x1 x2 1 h13 (0 + mc2) (0 + ms3)))) o12 x2 h8))))) o7 x1 h1))) QX a0 hp
set_option maxRecDepth 100000 in
set_option maxHeartbeats 4000000 in
theorem t_Judge_depth {l : Launch} {G : xG} {z : Nat → Nat} {mc ms : Nat} {Q : Int32 → xh → Prop} {QX : Nat → xh → Prop} {a0 : Nat} {x1 : Int32} {x2 : Int32} {hp : xh} (hfl : l.flags = flags0) (hf : wp_Judge_depth z mc ms Q QX a0 x1 x2 hp) : xMT l G z y_Judge_depth b_Judge_depth 3 (some .int) (rt_Judge_depth mc ms) [.ref a0, .int x1, .int x2] hp (xqi Q) QX := by
  refine xMT_of hfl (by decide) (Nat.le_of_ble_eq_true rfl) (lv0 := [(0, .ref a0), (1, .int x1), (2, .int x2)]) rfl ?_
  intro p e s m args below meth c A Qw X XT hnh hret hthr
  unfold wp_Judge_depth at hf
  refine x_aload_n X (q := 0) d_Judge_depth_0 rfl 1 rfl ?_
  obtain ⟨mc2, ms3, hk4, hn5, hf⟩ := hf
  refine x_tcallVv X XT (t_Judge_mustMatch hfl hf.2) hf.1 (ci := 11) rfl rfl lm_Judge_120 im_Judge_mustMatch sl_Judge_mustMatch cd_Judge_mustMatch in_Judge ds_Judge_mustMatch rfl rfl (Nat.le_of_ble_eq_true rfl) (Nat.le_of_ble_eq_true rfl) (Nat.le_of_ble_eq_true rfl) hk4 hn5 d_Judge_depth_1 4 rfl (fun h1 hf => ?_) (x_prop XT hnh hthr hk4 hn5)
  refine x_aload_n X (q := 0) d_Judge_depth_4 rfl 5 rfl ?_
  refine x_getR X hf (ci := 11) (j := 2) rfl (by decide) rfl lf_Judge_27 d_Judge_depth_5 8 rfl (fun o6 hf => ?_)
  refine x_iconst X (v := 0) d_Judge_depth_8 (by decide) 9 rfl ?_
  refine x_aald X hf (t := 5) rfl d_Judge_depth_9 10 rfl (fun o7 hf => ?_)
  refine x_iload_n X (q := 1) d_Judge_depth_10 rfl 11 rfl ?_
  refine x_callV0z X (t_Circuit_isState hf.2) hf.1 (ci := 0) rfl rfl lm_Judge_163 im_Circuit_isState sl_Circuit_isState cd_Circuit_isState in_Circuit ds_Circuit_isState rfl rfl (Nat.le_of_ble_eq_true rfl) (Nat.le_of_ble_eq_true rfl) (Nat.le_of_ble_eq_true rfl) rfl rfl hk4 hn5 d_Judge_depth_11 14 rfl (fun v9 h8 hb10 hf => ?_)
  refine x_if_eq X hf d_Judge_depth_14 34 17 (by decide) rfl (fun hf => ?_) (fun hf => ?_)
  · exact x_sub [0, 1, 2] rfl (t_Judge_depth_34 hfl X XT hnh hthr hret hk4 hn5 hf)
  · refine x_aload_n X (q := 0) d_Judge_depth_17 rfl 18 rfl ?_
    refine x_getR X hf (ci := 11) (j := 2) rfl (by decide) rfl lf_Judge_27 d_Judge_depth_18 21 rfl (fun o11 hf => ?_)
    refine x_iconst X (v := 1) d_Judge_depth_21 (by decide) 22 rfl ?_
    refine x_aald X hf (t := 5) rfl d_Judge_depth_22 23 rfl (fun o12 hf => ?_)
    refine x_iload_n X (q := 2) d_Judge_depth_23 rfl 24 rfl ?_
    refine x_callV0z X (t_Circuit_isState hf.2) hf.1 (ci := 0) rfl rfl lm_Judge_163 im_Circuit_isState sl_Circuit_isState cd_Circuit_isState in_Circuit ds_Circuit_isState rfl rfl (Nat.le_of_ble_eq_true rfl) (Nat.le_of_ble_eq_true rfl) (Nat.le_of_ble_eq_true rfl) rfl rfl hk4 hn5 d_Judge_depth_24 27 rfl (fun v14 h13 hb15 hf => ?_)
    refine x_if_eq X hf d_Judge_depth_27 34 30 (by decide) rfl (fun hf => ?_) (fun hf => ?_)
    · exact x_sub [0, 1, 2] rfl (t_Judge_depth_34 hfl X XT hnh hthr hret hk4 hn5 hf)
    · refine x_iconst X (v := 1) d_Judge_depth_30 (by decide) 31 rfl ?_
      refine x_goto X d_Judge_depth_31 35 (by decide) ?_
      exact x_sub [0, 1, 2] rfl (t_Judge_depth_35 hfl X XT hnh hthr hret hk4 hn5 hf)

set_option maxRecDepth 100000 in
def wp_Judge_same_28 (z : Nat → Nat) (mc ms : Nat) (Q : Int32 → xh → Prop) (QX : Nat → xh → Prop)  (a0 : Nat) (x1 : Int32) (x2 : Int32) (x3 : Int32) (x4 : Int32) (s0 : Int32) (hp : xh) (kk nn : Nat) : Prop :=
  ∃ mc2 ms3, kk + mc2 ≤ mc ∧ nn + ms3 ≤ ms ∧ wp_Judge_must z mc2 ms3 (fun h1 => ∃ mc8 ms9, (kk + mc2) + mc8 ≤ mc ∧ (nn + ms3) + ms9 ≤ ms ∧ xcls h1 a0 11 ∧ wp_Judge_exploredWorks z mc8 ms9 (fun o7 h6 => xcls h6 o7 10 ∧ wp_Works_agree z (fun v13 h12 => Q v13 h12) o7 x1 x2 x3 x4 h6) a0 h1) QX s0 hp
set_option maxRecDepth 100000 in
set_option maxHeartbeats 4000000 in
theorem t_Judge_same_28 {p : Program} {l : Launch} {e : Env} {s : State} {m : MethodId} {args : Array Value} {below : List Frame} {meth : Method} {c : Code} {G : xG} {z : Nat → Nat} {A : Nat → Prop} {Qw : State → Prop} {mc ms : Nat} {Q : Int32 → xh → Prop} {QX : Nat → xh → Prop} {a0 : Nat} {x1 : Int32} {x2 : Int32} {x3 : Int32} {x4 : Int32} {s0 : Int32} {hp : xh} {kk nn : Nat} (hfl : l.flags = flags0) (X : xX p l e (rt_Judge_same mc ms) s m args below meth c G z A y_Judge_same b_Judge_same 5) (XT : xXT e s meth A) (hnh : c.exceptionTable.toList = []) (hthr : xThr (rt_Judge_same mc ms) s below G A Qw QX) (hret : xRet p l e (rt_Judge_same mc ms) s m args below meth c G A 5 Qw b_Judge_same (some .boolean) (xqz Q))  (hkk : kk ≤ mc) (hnn : nn ≤ ms) (hf : wp_Judge_same_28 z mc ms Q QX  a0 x1 x2 x3 x4 s0 hp kk nn) : xE p l e (rt_Judge_same mc ms) s m args below meth c G A 5 Qw kk nn hp 28 [(0, .ref a0), (1, .int x1), (2, .int x2), (3, .int x3), (4, .int x4)] [.int s0] := by
  unfold wp_Judge_same_28 at hf
  obtain ⟨mc2, ms3, hk4, hn5, hf⟩ := hf
  refine x_tcallSv X XT (t_Judge_must hfl hf) lm_Judge_150 im_Judge_must cd_Judge_must in_Judge ds_Judge_must rfl rfl (Nat.le_of_ble_eq_true rfl) (Nat.le_of_ble_eq_true rfl) (Nat.le_of_ble_eq_true rfl) hk4 hn5 d_Judge_same_28 31 rfl (fun h1 hf => ?_) (x_prop XT hnh hthr hk4 hn5)
  refine x_aload_n X (q := 0) d_Judge_same_31 rfl 32 rfl ?_
  obtain ⟨mc8, ms9, hk10, hn11, hf⟩ := hf
  refine x_callVr X (t_Judge_exploredWorks hf.2) hf.1 (ci := 11) rfl rfl lm_Judge_131 im_Judge_exploredWorks sl_Judge_exploredWorks cd_Judge_exploredWorks in_Judge ds_Judge_exploredWorks rfl rfl (Nat.le_of_ble_eq_true rfl) (Nat.le_of_ble_eq_true rfl) (Nat.le_of_ble_eq_true rfl) hk10 hn11 d_Judge_same_32 35 rfl (fun o7 h6 hf => ?_)
  refine x_iload_n X (q := 1) d_Judge_same_35 rfl 36 rfl ?_
  refine x_iload_n X (q := 2) d_Judge_same_36 rfl 37 rfl ?_
  refine x_iload_n X (q := 3) d_Judge_same_37 rfl 38 rfl ?_
  refine x_iload X (q := 4) d_Judge_same_38 rfl 40 rfl ?_
  refine x_callV0z X (t_Works_agree hf.2) hf.1 (ci := 10) rfl rfl lm_Judge_169 im_Works_agree sl_Works_agree cd_Works_agree in_Works ds_Works_agree rfl rfl (Nat.le_of_ble_eq_true rfl) (Nat.le_of_ble_eq_true rfl) (Nat.le_of_ble_eq_true rfl) rfl rfl hk10 hn11 d_Judge_same_40 43 rfl (fun v13 h12 hb14 hf => ?_)
  exact hret _ _ _ _ _ (some (.int v13)) hk10 hn11 ⟨_, rfl, hb14, hf⟩ ⟨⟨_, rfl, xbl_nar hb14⟩, d_Judge_same_43⟩
set_option maxRecDepth 100000 in
def wp_Judge_same_27 (z : Nat → Nat) (mc ms : Nat) (Q : Int32 → xh → Prop) (QX : Nat → xh → Prop)  (a0 : Nat) (x1 : Int32) (x2 : Int32) (x3 : Int32) (x4 : Int32) (hp : xh) (kk nn : Nat) : Prop :=
  wp_Judge_same_28 z mc ms Q QX a0 x1 x2 x3 x4 0 hp kk nn
set_option maxRecDepth 100000 in
set_option maxHeartbeats 4000000 in
theorem t_Judge_same_27 {p : Program} {l : Launch} {e : Env} {s : State} {m : MethodId} {args : Array Value} {below : List Frame} {meth : Method} {c : Code} {G : xG} {z : Nat → Nat} {A : Nat → Prop} {Qw : State → Prop} {mc ms : Nat} {Q : Int32 → xh → Prop} {QX : Nat → xh → Prop} {a0 : Nat} {x1 : Int32} {x2 : Int32} {x3 : Int32} {x4 : Int32} {hp : xh} {kk nn : Nat} (hfl : l.flags = flags0) (X : xX p l e (rt_Judge_same mc ms) s m args below meth c G z A y_Judge_same b_Judge_same 5) (XT : xXT e s meth A) (hnh : c.exceptionTable.toList = []) (hthr : xThr (rt_Judge_same mc ms) s below G A Qw QX) (hret : xRet p l e (rt_Judge_same mc ms) s m args below meth c G A 5 Qw b_Judge_same (some .boolean) (xqz Q))  (hkk : kk ≤ mc) (hnn : nn ≤ ms) (hf : wp_Judge_same_27 z mc ms Q QX  a0 x1 x2 x3 x4 hp kk nn) : xE p l e (rt_Judge_same mc ms) s m args below meth c G A 5 Qw kk nn hp 27 [(0, .ref a0), (1, .int x1), (2, .int x2), (3, .int x3), (4, .int x4)] [] := by
  unfold wp_Judge_same_27 at hf
  refine x_iconst X (v := 0) d_Judge_same_27 (by decide) 28 rfl ?_
  exact x_sub [0, 1, 2, 3, 4] rfl (t_Judge_same_28 hfl X XT hnh hthr hret hkk hnn hf)
set_option maxRecDepth 100000 in
def wp_Judge_same (z : Nat → Nat) (mc ms : Nat) (Q : Int32 → xh → Prop) (QX : Nat → xh → Prop) (a0 : Nat) (x1 : Int32) (x2 : Int32) (x3 : Int32) (x4 : Int32) (hp : xh) : Prop :=
  ∃ mc2 ms3, 0 + mc2 ≤ mc ∧ 0 + ms3 ≤ ms ∧ xcls hp a0 11 ∧ wp_Judge_mustMatch z mc2 ms3 (fun h1 => xcls h1 a0 11 ∧ wp_Judge_isLiteral z (fun v7 h6 => (v7 = 0 → (wp_Judge_same_27 z mc ms Q QX a0 x1 x2 x3 x4 h6 (0 + mc2) (0 + ms3))) ∧ (¬ v7 = 0 → (xcls h6 a0 11 ∧ wp_Judge_isLiteral z (fun v10 h9 => (v10 = 0 → (wp_Judge_same_27 z mc ms Q QX a0 x1 x2 x3 x4 h9 (0 + mc2) (0 + ms3))) ∧ (¬ v10 = 0 → (wp_Judge_same_28 z mc ms Q QX a0 x1 x2 x3 x4 1 h9 (0 + mc2) (0 + ms3)))) a0 x3 x4 h6))) a0 x1 x2 h1) QX a0 hp
set_option maxRecDepth 100000 in
set_option maxHeartbeats 4000000 in
theorem t_Judge_same {l : Launch} {G : xG} {z : Nat → Nat} {mc ms : Nat} {Q : Int32 → xh → Prop} {QX : Nat → xh → Prop} {a0 : Nat} {x1 : Int32} {x2 : Int32} {x3 : Int32} {x4 : Int32} {hp : xh} (hfl : l.flags = flags0) (hf : wp_Judge_same z mc ms Q QX a0 x1 x2 x3 x4 hp) : xMT l G z y_Judge_same b_Judge_same 5 (some .boolean) (rt_Judge_same mc ms) [.ref a0, .int x1, .int x2, .int x3, .int x4] hp (xqz Q) QX := by
  refine xMT_of hfl (by decide) (Nat.le_of_ble_eq_true rfl) (lv0 := [(0, .ref a0), (1, .int x1), (2, .int x2), (3, .int x3), (4, .int x4)]) rfl ?_
  intro p e s m args below meth c A Qw X XT hnh hret hthr
  unfold wp_Judge_same at hf
  refine x_aload_n X (q := 0) d_Judge_same_0 rfl 1 rfl ?_
  obtain ⟨mc2, ms3, hk4, hn5, hf⟩ := hf
  refine x_tcallVv X XT (t_Judge_mustMatch hfl hf.2) hf.1 (ci := 11) rfl rfl lm_Judge_120 im_Judge_mustMatch sl_Judge_mustMatch cd_Judge_mustMatch in_Judge ds_Judge_mustMatch rfl rfl (Nat.le_of_ble_eq_true rfl) (Nat.le_of_ble_eq_true rfl) (Nat.le_of_ble_eq_true rfl) hk4 hn5 d_Judge_same_1 4 rfl (fun h1 hf => ?_) (x_prop XT hnh hthr hk4 hn5)
  refine x_aload_n X (q := 0) d_Judge_same_4 rfl 5 rfl ?_
  refine x_iload_n X (q := 1) d_Judge_same_5 rfl 6 rfl ?_
  refine x_iload_n X (q := 2) d_Judge_same_6 rfl 7 rfl ?_
  refine x_callV0z X (t_Judge_isLiteral hf.2) hf.1 (ci := 11) rfl rfl lm_Judge_110 im_Judge_isLiteral sl_Judge_isLiteral cd_Judge_isLiteral in_Judge ds_Judge_isLiteral rfl rfl (Nat.le_of_ble_eq_true rfl) (Nat.le_of_ble_eq_true rfl) (Nat.le_of_ble_eq_true rfl) rfl rfl hk4 hn5 d_Judge_same_7 10 rfl (fun v7 h6 hb8 hf => ?_)
  refine x_if_eq X hf d_Judge_same_10 27 13 (by decide) rfl (fun hf => ?_) (fun hf => ?_)
  · exact x_sub [0, 1, 2, 3, 4] rfl (t_Judge_same_27 hfl X XT hnh hthr hret hk4 hn5 hf)
  · refine x_aload_n X (q := 0) d_Judge_same_13 rfl 14 rfl ?_
    refine x_iload_n X (q := 3) d_Judge_same_14 rfl 15 rfl ?_
    refine x_iload X (q := 4) d_Judge_same_15 rfl 17 rfl ?_
    refine x_callV0z X (t_Judge_isLiteral hf.2) hf.1 (ci := 11) rfl rfl lm_Judge_110 im_Judge_isLiteral sl_Judge_isLiteral cd_Judge_isLiteral in_Judge ds_Judge_isLiteral rfl rfl (Nat.le_of_ble_eq_true rfl) (Nat.le_of_ble_eq_true rfl) (Nat.le_of_ble_eq_true rfl) rfl rfl hk4 hn5 d_Judge_same_17 20 rfl (fun v10 h9 hb11 hf => ?_)
    refine x_if_eq X hf d_Judge_same_20 27 23 (by decide) rfl (fun hf => ?_) (fun hf => ?_)
    · exact x_sub [0, 1, 2, 3, 4] rfl (t_Judge_same_27 hfl X XT hnh hthr hret hk4 hn5 hf)
    · refine x_iconst X (v := 1) d_Judge_same_23 (by decide) 24 rfl ?_
      refine x_goto X d_Judge_same_24 28 (by decide) ?_
      exact x_sub [0, 1, 2, 3, 4] rfl (t_Judge_same_28 hfl X XT hnh hthr hret hk4 hn5 hf)

set_option maxRecDepth 100000 in
def wp_Judge_twin (z : Nat → Nat) (mc ms : Nat) (Q : Int32 → xh → Prop) (QX : Nat → xh → Prop) (a0 : Nat) (x1 : Int32) (x2 : Int32) (hp : xh) : Prop :=
  ∃ mc2 ms3, 0 + mc2 ≤ mc ∧ 0 + ms3 ≤ ms ∧ xcls hp a0 11 ∧ wp_Judge_mustMatch z mc2 ms3 (fun h1 => xcls h1 a0 11 ∧ wp_Judge_isLiteral z (fun v7 h6 => ∃ mc10 ms11, (0 + mc2) + mc10 ≤ mc ∧ (0 + ms3) + ms11 ≤ ms ∧ wp_Judge_must z mc10 ms11 (fun h9 => ∃ mc16 ms17, ((0 + mc2) + mc10) + mc16 ≤ mc ∧ ((0 + ms3) + ms11) + ms17 ≤ ms ∧ xcls h9 a0 11 ∧ wp_Judge_exploredWorks z mc16 ms17 (fun o15 h14 => xcls h14 o15 10 ∧ wp_Works_firstLike z (fun v21 h20 => Q v21 h20) o15 x1 x2 h14) a0 h9) QX v7 h6) a0 x1 x2 h1) QX a0 hp
set_option maxRecDepth 100000 in
set_option maxHeartbeats 4000000 in
theorem t_Judge_twin {l : Launch} {G : xG} {z : Nat → Nat} {mc ms : Nat} {Q : Int32 → xh → Prop} {QX : Nat → xh → Prop} {a0 : Nat} {x1 : Int32} {x2 : Int32} {hp : xh} (hfl : l.flags = flags0) (hf : wp_Judge_twin z mc ms Q QX a0 x1 x2 hp) : xMT l G z y_Judge_twin b_Judge_twin 3 (some .int) (rt_Judge_twin mc ms) [.ref a0, .int x1, .int x2] hp (xqi Q) QX := by
  refine xMT_of hfl (by decide) (Nat.le_of_ble_eq_true rfl) (lv0 := [(0, .ref a0), (1, .int x1), (2, .int x2)]) rfl ?_
  intro p e s m args below meth c A Qw X XT hnh hret hthr
  unfold wp_Judge_twin at hf
  refine x_aload_n X (q := 0) d_Judge_twin_0 rfl 1 rfl ?_
  obtain ⟨mc2, ms3, hk4, hn5, hf⟩ := hf
  refine x_tcallVv X XT (t_Judge_mustMatch hfl hf.2) hf.1 (ci := 11) rfl rfl lm_Judge_120 im_Judge_mustMatch sl_Judge_mustMatch cd_Judge_mustMatch in_Judge ds_Judge_mustMatch rfl rfl (Nat.le_of_ble_eq_true rfl) (Nat.le_of_ble_eq_true rfl) (Nat.le_of_ble_eq_true rfl) hk4 hn5 d_Judge_twin_1 4 rfl (fun h1 hf => ?_) (x_prop XT hnh hthr hk4 hn5)
  refine x_aload_n X (q := 0) d_Judge_twin_4 rfl 5 rfl ?_
  refine x_iload_n X (q := 1) d_Judge_twin_5 rfl 6 rfl ?_
  refine x_iload_n X (q := 2) d_Judge_twin_6 rfl 7 rfl ?_
  refine x_callV0z X (t_Judge_isLiteral hf.2) hf.1 (ci := 11) rfl rfl lm_Judge_110 im_Judge_isLiteral sl_Judge_isLiteral cd_Judge_isLiteral in_Judge ds_Judge_isLiteral rfl rfl (Nat.le_of_ble_eq_true rfl) (Nat.le_of_ble_eq_true rfl) (Nat.le_of_ble_eq_true rfl) rfl rfl hk4 hn5 d_Judge_twin_7 10 rfl (fun v7 h6 hb8 hf => ?_)
  obtain ⟨mc10, ms11, hk12, hn13, hf⟩ := hf
  refine x_tcallSv X XT (t_Judge_must hfl hf) lm_Judge_150 im_Judge_must cd_Judge_must in_Judge ds_Judge_must rfl rfl (Nat.le_of_ble_eq_true rfl) (Nat.le_of_ble_eq_true rfl) (Nat.le_of_ble_eq_true rfl) hk12 hn13 d_Judge_twin_10 13 rfl (fun h9 hf => ?_) (x_prop XT hnh hthr hk12 hn13)
  refine x_aload_n X (q := 0) d_Judge_twin_13 rfl 14 rfl ?_
  obtain ⟨mc16, ms17, hk18, hn19, hf⟩ := hf
  refine x_callVr X (t_Judge_exploredWorks hf.2) hf.1 (ci := 11) rfl rfl lm_Judge_131 im_Judge_exploredWorks sl_Judge_exploredWorks cd_Judge_exploredWorks in_Judge ds_Judge_exploredWorks rfl rfl (Nat.le_of_ble_eq_true rfl) (Nat.le_of_ble_eq_true rfl) (Nat.le_of_ble_eq_true rfl) hk18 hn19 d_Judge_twin_14 17 rfl (fun o15 h14 hf => ?_)
  refine x_iload_n X (q := 1) d_Judge_twin_17 rfl 18 rfl ?_
  refine x_iload_n X (q := 2) d_Judge_twin_18 rfl 19 rfl ?_
  refine x_callV0i X (t_Works_firstLike hf.2) hf.1 (ci := 10) rfl rfl lm_Judge_173 im_Works_firstLike sl_Works_firstLike cd_Works_firstLike in_Works ds_Works_firstLike rfl rfl (Nat.le_of_ble_eq_true rfl) (Nat.le_of_ble_eq_true rfl) (Nat.le_of_ble_eq_true rfl) rfl rfl hk18 hn19 d_Judge_twin_19 22 rfl (fun v21 h20 hf => ?_)
  exact hret _ _ _ _ _ (some (.int v21)) hk18 hn19 ⟨_, rfl, hf⟩ ⟨⟨_, rfl, rfl⟩, d_Judge_twin_22⟩

