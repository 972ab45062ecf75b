set_option maxRecDepth 100000 in
def wp_Law_load (z : Nat → Nat) (mc ms : Nat) (Q : Int32 → xh → Prop) (a0 : Nat) (x1 : Int32) (a2 : Nat) (hp : xh) : Prop :=
  ∃ mc3 ms4, 0 + mc3 ≤ mc ∧ 0 + ms4 ≤ ms ∧ xcls hp a0 11 ∧ wp_Judge_load z mc3 ms4 (fun v2 h1 => ∃ h7, sL h1 a2 3 0 (v2.toInt64) = some h7 ∧ Q 0 h7) (fun i h8 => (i = 1 ∧ Q 1 h8)) a0 x1 hp
set_option maxRecDepth 100000 in
set_option maxHeartbeats 4000000 in
theorem t_Law_load {l : Launch} {G : xG} {z : Nat → Nat} {mc ms : Nat} {Q : Int32 → xh → Prop} {a0 : Nat} {x1 : Int32} {a2 : Nat} {hp : xh} (hfl : l.flags = flags0) (hf : wp_Law_load z mc ms Q a0 x1 a2 hp) : xMW l G z y_Law_load b_Law_load 4 (some .int) hh_Law_load (rt_Law_load mc ms) [.ref a0, .int x1, .ref a2] hp (xqi Q) := by
  refine xMW_of hfl (by decide) (Nat.le_of_ble_eq_true rfl) (lv0 := [(0, .ref a0), (1, .int x1), (2, .ref a2)]) rfl ?_
  intro p e s m args below meth c A Qw X XT htab hret
  unfold wp_Law_load at hf
  refine x_aload_n X (q := 2) d_Law_load_0 rfl 1 rfl ?_
  refine x_iconst X (v := 0) d_Law_load_1 (by decide) 2 rfl ?_
  refine x_aload_n X (q := 0) d_Law_load_2 rfl 3 rfl ?_
  refine x_iload_n X (q := 1) d_Law_load_3 rfl 4 rfl ?_
  obtain ⟨mc3, ms4, hk5, hn6, hf⟩ := hf
  refine x_tcallVi X XT (t_Judge_load hfl hf.2) hf.1 (ci := 11) rfl rfl lm_Law_7 im_Judge_load sl_Judge_load cd_Judge_load in_Judge ds_Judge_load rfl rfl (Nat.le_of_ble_eq_true rfl) (Nat.le_of_ble_eq_true rfl) (Nat.le_of_ble_eq_true rfl) hk5 hn6 d_Law_load_4 7 rfl (fun v2 h1 hf => ?_) ?_
  · refine x_i2l X d_Law_load_7 8 rfl ?_
    refine x_last X hf d_Law_load_8 9 rfl (fun h7 hf => ?_)
    refine x_goto X d_Law_load_9 15 (by decide) ?_
    refine x_iconst X (v := 0) d_Law_load_15 (by decide) 16 rfl ?_
    exact hret _ _ _ _ _ (some (.int 0)) hk5 hn6 ⟨_, rfl, hf⟩ ⟨⟨_, rfl, rfl⟩, d_Law_load_16⟩
  · intro i a h8 locs ls T1 hQ hH hS hl XS hx
    rcases hQ with ⟨rfl, hf⟩
    refine x_catch X [] htab (i := 1) (by decide) (by decide) (by decide) lc_Law_13 (XT.2.2.1.1 _ ca_1 rfl) (by intro q hq; cases hq) (fun oX => ?_) hH hS hl XS hx
    refine x_astore_n X (lv' := [(3, .ref oX), (0, .ref a0), (1, .int x1), (2, .ref a2)]) d_Law_load_12 rfl (by decide) rfl 13 rfl ?_
    refine x_iconst X (v := 1) d_Law_load_13 (by decide) 14 rfl ?_
    exact hret _ _ _ _ _ (some (.int 1)) hk5 hn6 ⟨_, rfl, hf⟩ ⟨⟨_, rfl, rfl⟩, d_Law_load_14⟩

set_option maxRecDepth 100000 in
def wp_Law_gates (z : Nat → Nat) (mc ms : Nat) (Q : Int32 → xh → Prop) (a0 : Nat) (a1 : Nat) (hp : xh) : Prop :=
  ∃ mc3 ms4, 0 + mc3 ≤ mc ∧ 0 + ms4 ≤ ms ∧ xcls hp a0 11 ∧ wp_Judge_gates z mc3 ms4 (fun v2 h1 => ∃ h7, sL h1 a1 3 0 (v2.toInt64) = some h7 ∧ Q 0 h7) (fun i h8 => (i = 0 ∧ Q 1 h8)) a0 hp
set_option maxRecDepth 100000 in
set_option maxHeartbeats 4000000 in
theorem t_Law_gates {l : Launch} {G : xG} {z : Nat → Nat} {mc ms : Nat} {Q : Int32 → xh → Prop} {a0 : Nat} {a1 : Nat} {hp : xh} (hfl : l.flags = flags0) (hf : wp_Law_gates z mc ms Q a0 a1 hp) : xMW l G z y_Law_gates b_Law_gates 3 (some .int) hh_Law_gates (rt_Law_gates mc ms) [.ref a0, .ref a1] hp (xqi Q) := by
  refine xMW_of hfl (by decide) (Nat.le_of_ble_eq_true rfl) (lv0 := [(0, .ref a0), (1, .ref a1)]) rfl ?_
  intro p e s m args below meth c A Qw X XT htab hret
  unfold wp_Law_gates at hf
  refine x_aload_n X (q := 1) d_Law_gates_0 rfl 1 rfl ?_
  refine x_iconst X (v := 0) d_Law_gates_1 (by decide) 2 rfl ?_
  refine x_aload_n X (q := 0) d_Law_gates_2 rfl 3 rfl ?_
  obtain ⟨mc3, ms4, hk5, hn6, hf⟩ := hf
  refine x_tcallVi X XT (t_Judge_gates hfl hf.2) hf.1 (ci := 11) rfl rfl lm_Law_15 im_Judge_gates sl_Judge_gates cd_Judge_gates in_Judge ds_Judge_gates rfl rfl (Nat.le_of_ble_eq_true rfl) (Nat.le_of_ble_eq_true rfl) (Nat.le_of_ble_eq_true rfl) hk5 hn6 d_Law_gates_3 6 rfl (fun v2 h1 hf => ?_) ?_
  · refine x_i2l X d_Law_gates_6 7 rfl ?_
    refine x_last X hf d_Law_gates_7 8 rfl (fun h7 hf => ?_)
    refine x_goto X d_Law_gates_8 14 (by decide) ?_
    refine x_iconst X (v := 0) d_Law_gates_14 (by decide) 15 rfl ?_
    exact hret _ _ _ _ _ (some (.int 0)) hk5 hn6 ⟨_, rfl, hf⟩ ⟨⟨_, rfl, rfl⟩, d_Law_gates_15⟩
  · intro i a h8 locs ls T1 hQ hH hS hl XS hx
    rcases hQ with ⟨rfl, hf⟩
    refine x_catch X [] htab (i := 0) (by decide) (by decide) (by decide) lc_Law_19 (XT.2.2.1.1 _ ca_0 rfl) (by intro q hq; cases hq) (fun oX => ?_) hH hS hl XS hx
    refine x_astore_n X (lv' := [(2, .ref oX), (0, .ref a0), (1, .ref a1)]) d_Law_gates_11 rfl (by decide) rfl 12 rfl ?_
    refine x_iconst X (v := 1) d_Law_gates_12 (by decide) 13 rfl ?_
    exact hret _ _ _ _ _ (some (.int 1)) hk5 hn6 ⟨_, rfl, hf⟩ ⟨⟨_, rfl, rfl⟩, d_Law_gates_13⟩

set_option maxRecDepth 100000 in
def wp_Law_judge (z : Nat → Nat) (mc ms : Nat) (Q : Int32 → xh → Prop) (a0 : Nat) (a1 : Nat) (hp : xh) : Prop :=
  ∃ mc3 ms4, 0 + mc3 ≤ mc ∧ 0 + ms4 ≤ ms ∧ xcls hp a0 11 ∧ wp_Judge_judge z mc3 ms4 (fun v2 h1 => ∃ h7, sL h1 a1 3 0 (v2.toInt64) = some h7 ∧ Q 0 h7) (fun i h8 => (i = 0 ∧ Q 1 h8)) a0 hp
set_option maxRecDepth 100000 in
set_option maxHeartbeats 4000000 in
theorem t_Law_judge {l : Launch} {G : xG} {z : Nat → Nat} {mc ms : Nat} {Q : Int32 → xh → Prop} {a0 : Nat} {a1 : Nat} {hp : xh} (hfl : l.flags = flags0) (hf : wp_Law_judge z mc ms Q a0 a1 hp) : xMW l G z y_Law_judge b_Law_judge 3 (some .int) hh_Law_judge (rt_Law_judge mc ms) [.ref a0, .ref a1] hp (xqi Q) := by
  refine xMW_of hfl (by decide) (Nat.le_of_ble_eq_true rfl) (lv0 := [(0, .ref a0), (1, .ref a1)]) rfl ?_
  intro p e s m args below meth c A Qw X XT htab hret
  unfold wp_Law_judge at hf
  refine x_aload_n X (q := 1) d_Law_judge_0 rfl 1 rfl ?_
  refine x_iconst X (v := 0) d_Law_judge_1 (by decide) 2 rfl ?_
  refine x_aload_n X (q := 0) d_Law_judge_2 rfl 3 rfl ?_
  obtain ⟨mc3, ms4, hk5, hn6, hf⟩ := hf
  refine x_tcallVi X XT (t_Judge_judge hfl hf.2) hf.1 (ci := 11) rfl rfl lm_Law_21 im_Judge_judge sl_Judge_judge cd_Judge_judge in_Judge ds_Judge_judge rfl rfl (Nat.le_of_ble_eq_true rfl) (Nat.le_of_ble_eq_true rfl) (Nat.le_of_ble_eq_true rfl) hk5 hn6 d_Law_judge_3 6 rfl (fun v2 h1 hf => ?_) ?_
  · refine x_i2l X d_Law_judge_6 7 rfl ?_
    refine x_last X hf d_Law_judge_7 8 rfl (fun h7 hf => ?_)
    refine x_goto X d_Law_judge_8 14 (by decide) ?_
    refine x_iconst X (v := 0) d_Law_judge_14 (by decide) 15 rfl ?_
    exact hret _ _ _ _ _ (some (.int 0)) hk5 hn6 ⟨_, rfl, hf⟩ ⟨⟨_, rfl, rfl⟩, d_Law_judge_15⟩
  · intro i a h8 locs ls T1 hQ hH hS hl XS hx
    rcases hQ with ⟨rfl, hf⟩
    refine x_catch X [] htab (i := 0) (by decide) (by decide) (by decide) lc_Law_19 (XT.2.2.1.1 _ ca_0 rfl) (by intro q hq; cases hq) (fun oX => ?_) hH hS hl XS hx
    refine x_astore_n X (lv' := [(2, .ref oX), (0, .ref a0), (1, .ref a1)]) d_Law_judge_11 rfl (by decide) rfl 12 rfl ?_
    refine x_iconst X (v := 1) d_Law_judge_12 (by decide) 13 rfl ?_
    exact hret _ _ _ _ _ (some (.int 1)) hk5 hn6 ⟨_, rfl, hf⟩ ⟨⟨_, rfl, rfl⟩, d_Law_judge_13⟩

set_option maxRecDepth 100000 in
def wp_Law_differs (z : Nat → Nat) (mc ms : Nat) (Q : Int32 → xh → Prop) (a0 : Nat) (x1 : Int32) (a2 : Nat) (hp : xh) : Prop :=
  ∃ mc3 ms4, 0 + mc3 ≤ mc ∧ 0 + ms4 ≤ ms ∧ xcls hp a0 11 ∧ wp_Judge_differs z mc3 ms4 (fun v2 h1 => ∃ h7, sL h1 a2 3 0 (v2.toInt64) = some h7 ∧ Q 0 h7) (fun i h8 => (i = 0 ∧ Q 1 h8) ∨ (i = 1 ∧ Q 2 h8)) a0 x1 hp
set_option maxRecDepth 100000 in
set_option maxHeartbeats 4000000 in
theorem t_Law_differs {l : Launch} {G : xG} {z : Nat → Nat} {mc ms : Nat} {Q : Int32 → xh → Prop} {a0 : Nat} {x1 : Int32} {a2 : Nat} {hp : xh} (hfl : l.flags = flags0) (hf : wp_Law_differs z mc ms Q a0 x1 a2 hp) : xMW l G z y_Law_differs b_Law_differs 4 (some .int) hh_Law_differs (rt_Law_differs mc ms) [.ref a0, .int x1, .ref a2] hp (xqi Q) := by
  refine xMW_of hfl (by decide) (Nat.le_of_ble_eq_true rfl) (lv0 := [(0, .ref a0), (1, .int x1), (2, .ref a2)]) rfl ?_
  intro p e s m args below meth c A Qw X XT htab hret
  unfold wp_Law_differs at hf
  refine x_aload_n X (q := 2) d_Law_differs_0 rfl 1 rfl ?_
  refine x_iconst X (v := 0) d_Law_differs_1 (by decide) 2 rfl ?_
  refine x_aload_n X (q := 0) d_Law_differs_2 rfl 3 rfl ?_
  refine x_iload_n X (q := 1) d_Law_differs_3 rfl 4 rfl ?_
  obtain ⟨mc3, ms4, hk5, hn6, hf⟩ := hf
  refine x_tcallVi X XT (t_Judge_differs hfl hf.2) hf.1 (ci := 11) rfl rfl lm_Law_24 im_Judge_differs sl_Judge_differs cd_Judge_differs in_Judge ds_Judge_differs rfl rfl (Nat.le_of_ble_eq_true rfl) (Nat.le_of_ble_eq_true rfl) (Nat.le_of_ble_eq_true rfl) hk5 hn6 d_Law_differs_4 7 rfl (fun v2 h1 hf => ?_) ?_
  · refine x_i2l X d_Law_differs_7 8 rfl ?_
    refine x_last X hf d_Law_differs_8 9 rfl (fun h7 hf => ?_)
    refine x_goto X d_Law_differs_9 18 (by decide) ?_
    refine x_iconst X (v := 0) d_Law_differs_18 (by decide) 19 rfl ?_
    exact hret _ _ _ _ _ (some (.int 0)) hk5 hn6 ⟨_, rfl, hf⟩ ⟨⟨_, rfl, rfl⟩, d_Law_differs_19⟩
  · intro i a h8 locs ls T1 hQ hH hS hl XS hx
    rcases hQ with ⟨rfl, hf⟩ | ⟨rfl, hf⟩
    · refine x_catch X [] htab (i := 0) (by decide) (by decide) (by decide) lc_Law_19 (XT.2.2.1.1 _ ca_0 rfl) (by intro q hq; cases hq) (fun oX => ?_) hH hS hl XS hx
      refine x_astore_n X (lv' := [(3, .ref oX), (0, .ref a0), (1, .int x1), (2, .ref a2)]) d_Law_differs_12 rfl (by decide) rfl 13 rfl ?_
      refine x_iconst X (v := 1) d_Law_differs_13 (by decide) 14 rfl ?_
      exact hret _ _ _ _ _ (some (.int 1)) hk5 hn6 ⟨_, rfl, hf⟩ ⟨⟨_, rfl, rfl⟩, d_Law_differs_14⟩
    · refine x_catch X [(0, 9, 12, 19)] htab (i := 1) (by decide) (by decide) (by decide) lc_Law_13 (XT.2.2.1.1 _ ca_1 rfl) (by intro q hq; rcases List.mem_singleton.mp hq with rfl; exact ⟨by decide, _, lc_Law_19, XT.2.2.1.2.1⟩) (fun oX => ?_) hH hS hl XS hx
      refine x_astore_n X (lv' := [(3, .ref oX), (0, .ref a0), (1, .int x1), (2, .ref a2)]) d_Law_differs_15 rfl (by decide) rfl 16 rfl ?_
      refine x_iconst X (v := 2) d_Law_differs_16 (by decide) 17 rfl ?_
      exact hret _ _ _ _ _ (some (.int 2)) hk5 hn6 ⟨_, rfl, hf⟩ ⟨⟨_, rfl, rfl⟩, d_Law_differs_17⟩

set_option maxRecDepth 100000 in
def wp_Law_inductive_15 (z : Nat → Nat) (mc ms : Nat) (Q : Int32 → xh → Prop)  (s2 : Int64) (s1 : Int32) (s0 : Nat) (hp : xh) (kk nn : Nat) : Prop :=
  ∃ h1, sL hp s0 3 s1 s2 = some h1 ∧ Q 0 h1
set_option maxRecDepth 100000 in
set_option maxHeartbeats 4000000 in
theorem t_Law_inductive_15 {p : Program} {l : Launch} {e : Env} {s : State} {m : MethodId} {args : Array Value} {below : List Frame} {meth : Method} {c : Code} {G : xG} {z : Nat → Nat} {A : Nat → Prop} {Qw : State → Prop} {mc ms : Nat} {Q : Int32 → xh → Prop} {s2 : Int64} {s1 : Int32} {s0 : Nat} {hp : xh} {kk nn : Nat} (hfl : l.flags = flags0) (X : xX p l e (rt_Law_inductive mc ms) s m args below meth c G z A y_Law_inductive b_Law_inductive 4) (XT : xXT e s meth A) (htab : c.exceptionTable.toList.map (fun h => (h.startPc, h.endPc, h.handlerPc, h.catchType)) = hh_Law_inductive) (hret : xRet p l e (rt_Law_inductive mc ms) s m args below meth c G A 4 Qw b_Law_inductive (some .int) (xqi Q))  (hkk : kk ≤ mc) (hnn : nn ≤ ms) (hf : wp_Law_inductive_15 z mc ms Q  s2 s1 s0 hp kk nn) : xE p l e (rt_Law_inductive mc ms) s m args below meth c G A 4 Qw kk nn hp 15 [] [.long s2, .int s1, .ref s0] := by
  unfold wp_Law_inductive_15 at hf
  refine x_last X hf d_Law_inductive_15 16 rfl (fun h1 hf => ?_)
  refine x_goto X d_Law_inductive_16 25 (by decide) ?_
  refine x_iconst X (v := 0) d_Law_inductive_25 (by decide) 26 rfl ?_
  exact hret _ _ _ _ _ (some (.int 0)) hkk hnn ⟨_, rfl, hf⟩ ⟨⟨_, rfl, rfl⟩, d_Law_inductive_26⟩
set_option maxRecDepth 100000 in
def wp_Law_inductive (z : Nat → Nat) (mc ms : Nat) (Q : Int32 → xh → Prop) (a0 : Nat) (x1 : Int32) (a2 : Nat) (hp : xh) : Prop :=
  ∃ mc4 ms5, 0 + mc4 ≤ mc ∧ 0 + ms5 ≤ ms ∧ xcls hp a0 11 ∧ wp_Judge_inductive z mc4 ms5 (fun v2 h1 => (v2 = 0 → (wp_Law_inductive_15 z mc ms Q 0 0 a2 h1 (0 + mc4) (0 + ms5))) ∧ (¬ v2 = 0 → (wp_Law_inductive_15 z mc ms Q 1 0 a2 h1 (0 + mc4) (0 + ms5)))) (fun i h8 => (i = 0 ∧ Q 1 h8) ∨ (i = 1 ∧ Q 2 h8)) a0 x1 hp
set_option maxRecDepth 100000 in
set_option maxHeartbeats 4000000 in
theorem t_Law_inductive {l : Launch} {G : xG} {z : Nat → Nat} {mc ms : Nat} {Q : Int32 → xh → Prop} {a0 : Nat} {x1 : Int32} {a2 : Nat} {hp : xh} (hfl : l.flags = flags0) (hf : wp_Law_inductive z mc ms Q a0 x1 a2 hp) : xMW l G z y_Law_inductive b_Law_inductive 4 (some .int) hh_Law_inductive (rt_Law_inductive mc ms) [.ref a0, .int x1, .ref a2] hp (xqi Q) := by
  refine xMW_of hfl (by decide) (Nat.le_of_ble_eq_true rfl) (lv0 := [(0, .ref a0), (1, .int x1), (2, .ref a2)]) rfl ?_
  intro p e s m args below meth c A Qw X XT htab hret
  unfold wp_Law_inductive at hf
  refine x_aload_n X (q := 2) d_Law_inductive_0 rfl 1 rfl ?_
  refine x_iconst X (v := 0) d_Law_inductive_1 (by decide) 2 rfl ?_
  refine x_aload_n X (q := 0) d_Law_inductive_2 rfl 3 rfl ?_
  refine x_iload_n X (q := 1) d_Law_inductive_3 rfl 4 rfl ?_
  obtain ⟨mc4, ms5, hk6, hn7, hf⟩ := hf
  refine x_tcallVz X XT (t_Judge_inductive hfl hf.2) hf.1 (ci := 11) rfl rfl lm_Law_27 im_Judge_inductive sl_Judge_inductive cd_Judge_inductive in_Judge ds_Judge_inductive rfl rfl (Nat.le_of_ble_eq_true rfl) (Nat.le_of_ble_eq_true rfl) (Nat.le_of_ble_eq_true rfl) hk6 hn7 d_Law_inductive_4 7 rfl (fun v2 h1 hb3 hf => ?_) ?_
  · refine x_if_eq X hf d_Law_inductive_7 14 10 (by decide) rfl (fun hf => ?_) (fun hf => ?_)
    · refine x_lconst X (v := 0) d_Law_inductive_14 (by decide) 15 rfl ?_
      exact x_sub [] rfl (t_Law_inductive_15 hfl X XT htab hret hk6 hn7 hf)
    · refine x_lconst X (v := 1) d_Law_inductive_10 (by decide) 11 rfl ?_
      refine x_goto X d_Law_inductive_11 15 (by decide) ?_
      exact x_sub [] rfl (t_Law_inductive_15 hfl X XT htab hret hk6 hn7 hf)
  · intro i a h8 locs ls T1 hQ hH hS hl XS hx
    rcases hQ with ⟨rfl, hf⟩ | ⟨rfl, hf⟩
    · refine x_catch X [] htab (i := 0) (by decide) (by decide) (by decide) lc_Law_19 (XT.2.2.1.1 _ ca_0 rfl) (by intro q hq; cases hq) (fun oX => ?_) hH hS hl XS hx
      refine x_astore_n X (lv' := [(3, .ref oX), (0, .ref a0), (1, .int x1), (2, .ref a2)]) d_Law_inductive_19 rfl (by decide) rfl 20 rfl ?_
      refine x_iconst X (v := 1) d_Law_inductive_20 (by decide) 21 rfl ?_
      exact hret _ _ _ _ _ (some (.int 1)) hk6 hn7 ⟨_, rfl, hf⟩ ⟨⟨_, rfl, rfl⟩, d_Law_inductive_21⟩
    · refine x_catch X [(0, 16, 19, 19)] htab (i := 1) (by decide) (by decide) (by decide) lc_Law_13 (XT.2.2.1.1 _ ca_1 rfl) (by intro q hq; rcases List.mem_singleton.mp hq with rfl; exact ⟨by decide, _, lc_Law_19, XT.2.2.1.2.1⟩) (fun oX => ?_) hH hS hl XS hx
      refine x_astore_n X (lv' := [(3, .ref oX), (0, .ref a0), (1, .int x1), (2, .ref a2)]) d_Law_inductive_22 rfl (by decide) rfl 23 rfl ?_
      refine x_iconst X (v := 2) d_Law_inductive_23 (by decide) 24 rfl ?_
      exact hret _ _ _ _ _ (some (.int 2)) hk6 hn7 ⟨_, rfl, hf⟩ ⟨⟨_, rfl, rfl⟩, d_Law_inductive_24⟩

set_option maxRecDepth 100000 in
def wp_Law_pairs (z : Nat → Nat) (mc ms : Nat) (Q : Int32 → xh → Prop) (a0 : Nat) (x1 : Int32) (a2 : Nat) (hp : xh) : Prop :=
  ∃ mc3 ms4, 0 + mc3 ≤ mc ∧ 0 + ms4 ≤ ms ∧ xcls hp a0 11 ∧ wp_Judge_pairs z mc3 ms4 (fun v2 h1 => ∃ h7, sL h1 a2 3 0 (v2.toInt64) = some h7 ∧ Q 0 h7) (fun i h8 => (i = 0 ∧ Q 1 h8) ∨ (i = 1 ∧ Q 2 h8)) a0 x1 hp
set_option maxRecDepth 100000 in
set_option maxHeartbeats 4000000 in
theorem t_Law_pairs {l : Launch} {G : xG} {z : Nat → Nat} {mc ms : Nat} {Q : Int32 → xh → Prop} {a0 : Nat} {x1 : Int32} {a2 : Nat} {hp : xh} (hfl : l.flags = flags0) (hf : wp_Law_pairs z mc ms Q a0 x1 a2 hp) : xMW l G z y_Law_pairs b_Law_pairs 4 (some .int) hh_Law_pairs (rt_Law_pairs mc ms) [.ref a0, .int x1, .ref a2] hp (xqi Q) := by
  refine xMW_of hfl (by decide) (Nat.le_of_ble_eq_true rfl) (lv0 := [(0, .ref a0), (1, .int x1), (2, .ref a2)]) rfl ?_
  intro p e s m args below meth c A Qw X XT htab hret
  unfold wp_Law_pairs at hf
  refine x_aload_n X (q := 2) d_Law_pairs_0 rfl 1 rfl ?_
  refine x_iconst X (v := 0) d_Law_pairs_1 (by decide) 2 rfl ?_
  refine x_aload_n X (q := 0) d_Law_pairs_2 rfl 3 rfl ?_
  refine x_iload_n X (q := 1) d_Law_pairs_3 rfl 4 rfl ?_
  obtain ⟨mc3, ms4, hk5, hn6, hf⟩ := hf
  refine x_tcallVi X XT (t_Judge_pairs hfl hf.2) hf.1 (ci := 11) rfl rfl lm_Law_31 im_Judge_pairs sl_Judge_pairs cd_Judge_pairs in_Judge ds_Judge_pairs rfl rfl (Nat.le_of_ble_eq_true rfl) (Nat.le_of_ble_eq_true rfl) (Nat.le_of_ble_eq_true rfl) hk5 hn6 d_Law_pairs_4 7 rfl (fun v2 h1 hf => ?_) ?_
  · refine x_i2l X d_Law_pairs_7 8 rfl ?_
    refine x_last X hf d_Law_pairs_8 9 rfl (fun h7 hf => ?_)
    refine x_goto X d_Law_pairs_9 18 (by decide) ?_
    refine x_iconst X (v := 0) d_Law_pairs_18 (by decide) 19 rfl ?_
    exact hret _ _ _ _ _ (some (.int 0)) hk5 hn6 ⟨_, rfl, hf⟩ ⟨⟨_, rfl, rfl⟩, d_Law_pairs_19⟩
  · intro i a h8 locs ls T1 hQ hH hS hl XS hx
    rcases hQ with ⟨rfl, hf⟩ | ⟨rfl, hf⟩
    · refine x_catch X [] htab (i := 0) (by decide) (by decide) (by decide) lc_Law_19 (XT.2.2.1.1 _ ca_0 rfl) (by intro q hq; cases hq) (fun oX => ?_) hH hS hl XS hx
      refine x_astore_n X (lv' := [(3, .ref oX), (0, .ref a0), (1, .int x1), (2, .ref a2)]) d_Law_pairs_12 rfl (by decide) rfl 13 rfl ?_
      refine x_iconst X (v := 1) d_Law_pairs_13 (by decide) 14 rfl ?_
      exact hret _ _ _ _ _ (some (.int 1)) hk5 hn6 ⟨_, rfl, hf⟩ ⟨⟨_, rfl, rfl⟩, d_Law_pairs_14⟩
    · refine x_catch X [(0, 9, 12, 19)] htab (i := 1) (by decide) (by decide) (by decide) lc_Law_13 (XT.2.2.1.1 _ ca_1 rfl) (by intro q hq; rcases List.mem_singleton.mp hq with rfl; exact ⟨by decide, _, lc_Law_19, XT.2.2.1.2.1⟩) (fun oX => ?_) hH hS hl XS hx
      refine x_astore_n X (lv' := [(3, .ref oX), (0, .ref a0), (1, .int x1), (2, .ref a2)]) d_Law_pairs_15 rfl (by decide) rfl 16 rfl ?_
      refine x_iconst X (v := 2) d_Law_pairs_16 (by decide) 17 rfl ?_
      exact hret _ _ _ _ _ (some (.int 2)) hk5 hn6 ⟨_, rfl, hf⟩ ⟨⟨_, rfl, rfl⟩, d_Law_pairs_17⟩

set_option maxRecDepth 100000 in
def wp_Law_depth (z : Nat → Nat) (mc ms : Nat) (Q : Int32 → xh → Prop) (a0 : Nat) (x1 : Int32) (x2 : Int32) (a3 : Nat) (hp : xh) : Prop :=
  ∃ mc3 ms4, 0 + mc3 ≤ mc ∧ 0 + ms4 ≤ ms ∧ xcls hp a0 11 ∧ wp_Judge_depth z mc3 ms4 (fun v2 h1 => ∃ h7, sL h1 a3 3 0 (v2.toInt64) = some h7 ∧ Q 0 h7) (fun i h8 => (i = 0 ∧ Q 1 h8) ∨ (i = 1 ∧ Q 2 h8)) a0 x1 x2 hp
set_option maxRecDepth 100000 in
set_option maxHeartbeats 4000000 in
theorem t_Law_depth {l : Launch} {G : xG} {z : Nat → Nat} {mc ms : Nat} {Q : Int32 → xh → Prop} {a0 : Nat} {x1 : Int32} {x2 : Int32} {a3 : Nat} {hp : xh} (hfl : l.flags = flags0) (hf : wp_Law_depth z mc ms Q a0 x1 x2 a3 hp) : xMW l G z y_Law_depth b_Law_depth 5 (some .int) hh_Law_depth (rt_Law_depth mc ms) [.ref a0, .int x1, .int x2, .ref a3] hp (xqi Q) := by
  refine xMW_of hfl (by decide) (Nat.le_of_ble_eq_true rfl) (lv0 := [(0, .ref a0), (1, .int x1), (2, .int x2), (3, .ref a3)]) rfl ?_
  intro p e s m args below meth c A Qw X XT htab hret
  unfold wp_Law_depth at hf
  refine x_aload_n X (q := 3) d_Law_depth_0 rfl 1 rfl ?_
  refine x_iconst X (v := 0) d_Law_depth_1 (by decide) 2 rfl ?_
  refine x_aload_n X (q := 0) d_Law_depth_2 rfl 3 rfl ?_
  refine x_iload_n X (q := 1) d_Law_depth_3 rfl 4 rfl ?_
  refine x_iload_n X (q := 2) d_Law_depth_4 rfl 5 rfl ?_
  obtain ⟨mc3, ms4, hk5, hn6, hf⟩ := hf
  refine x_tcallVi X XT (t_Judge_depth hfl hf.2) hf.1 (ci := 11) rfl rfl lm_Law_34 im_Judge_depth sl_Judge_depth cd_Judge_depth in_Judge ds_Judge_depth rfl rfl (Nat.le_of_ble_eq_true rfl) (Nat.le_of_ble_eq_true rfl) (Nat.le_of_ble_eq_true rfl) hk5 hn6 d_Law_depth_5 8 rfl (fun v2 h1 hf => ?_) ?_
  · refine x_i2l X d_Law_depth_8 9 rfl ?_
    refine x_last X hf d_Law_depth_9 10 rfl (fun h7 hf => ?_)
    refine x_goto X d_Law_depth_10 21 (by decide) ?_
    refine x_iconst X (v := 0) d_Law_depth_21 (by decide) 22 rfl ?_
    exact hret _ _ _ _ _ (some (.int 0)) hk5 hn6 ⟨_, rfl, hf⟩ ⟨⟨_, rfl, rfl⟩, d_Law_depth_22⟩
  · intro i a h8 locs ls T1 hQ hH hS hl XS hx
    rcases hQ with ⟨rfl, hf⟩ | ⟨rfl, hf⟩
    · refine x_catch X [] htab (i := 0) (by decide) (by decide) (by decide) lc_Law_19 (XT.2.2.1.1 _ ca_0 rfl) (by intro q hq; cases hq) (fun oX => ?_) hH hS hl XS hx
      refine x_astore X (lv' := [(4, .ref oX), (0, .ref a0), (1, .int x1), (2, .int x2), (3, .ref a3)]) d_Law_depth_13 (by decide) rfl 15 rfl ?_
      refine x_iconst X (v := 1) d_Law_depth_15 (by decide) 16 rfl ?_
      exact hret _ _ _ _ _ (some (.int 1)) hk5 hn6 ⟨_, rfl, hf⟩ ⟨⟨_, rfl, rfl⟩, d_Law_depth_16⟩
    · refine x_catch X [(0, 10, 13, 19)] htab (i := 1) (by decide) (by decide) (by decide) lc_Law_13 (XT.2.2.1.1 _ ca_1 rfl) (by intro q hq; rcases List.mem_singleton.mp hq with rfl; exact ⟨by decide, _, lc_Law_19, XT.2.2.1.2.1⟩) (fun oX => ?_) hH hS hl XS hx
      refine x_astore X (lv' := [(4, .ref oX), (0, .ref a0), (1, .int x1), (2, .int x2), (3, .ref a3)]) d_Law_depth_17 (by decide) rfl 19 rfl ?_
      refine x_iconst X (v := 2) d_Law_depth_19 (by decide) 20 rfl ?_
      exact hret _ _ _ _ _ (some (.int 2)) hk5 hn6 ⟨_, rfl, hf⟩ ⟨⟨_, rfl, rfl⟩, d_Law_depth_20⟩

set_option maxRecDepth 100000 in
def wp_Law_same_20 (z : Nat → Nat) (mc ms : Nat) (Q : Int32 → xh → Prop)  (s2 : Int64) (s1 : Int32) (s0 : Nat) (hp : xh) (kk nn : Nat) : Prop :=
  ∃ h1, sL hp s0 3 s1 s2 = some h1 ∧ Q 0 h1
set_option maxRecDepth 100000 in
set_option maxHeartbeats 4000000 in
theorem t_Law_same_20 {p : Program} {l : Launch} {e : Env} {s : State} {m : MethodId} {args : Array Value} {below : List Frame} {meth : Method} {c : Code} {G : xG} {z : Nat → Nat} {A : Nat → Prop} {Qw : State → Prop} {mc ms : Nat} {Q : Int32 → xh → Prop} {s2 : Int64} {s1 : Int32} {s0 : Nat} {hp : xh} {kk nn : Nat} (hfl : l.flags = flags0) (X : xX p l e (rt_Law_same mc ms) s m args below meth c G z A y_Law_same b_Law_same 7) (XT : xXT e s meth A) (htab : c.exceptionTable.toList.map (fun h => (h.startPc, h.endPc, h.handlerPc, h.catchType)) = hh_Law_same) (hret : xRet p l e (rt_Law_same mc ms) s m args below meth c G A 7 Qw b_Law_same (some .int) (xqi Q))  (hkk : kk ≤ mc) (hnn : nn ≤ ms) (hf : wp_Law_same_20 z mc ms Q  s2 s1 s0 hp kk nn) : xE p l e (rt_Law_same mc ms) s m args below meth c G A 7 Qw kk nn hp 20 [] [.long s2, .int s1, .ref s0] := by
  unfold wp_Law_same_20 at hf
  refine x_last X hf d_Law_same_20 21 rfl (fun h1 hf => ?_)
  refine x_goto X d_Law_same_21 32 (by decide) ?_
  refine x_iconst X (v := 0) d_Law_same_32 (by decide) 33 rfl ?_
  exact hret _ _ _ _ _ (some (.int 0)) hkk hnn ⟨_, rfl, hf⟩ ⟨⟨_, rfl, rfl⟩, d_Law_same_33⟩
set_option maxRecDepth 100000 in
def wp_Law_same (z : Nat → Nat) (mc ms : Nat) (Q : Int32 → xh → Prop) (a0 : Nat) (x1 : Int32) (x2 : Int32) (x3 : Int32) (x4 : Int32) (a5 : Nat) (hp : xh) : Prop :=
  ∃ mc4 ms5, 0 + mc4 ≤ mc ∧ 0 + ms5 ≤ ms ∧ xcls hp a0 11 ∧ wp_Judge_same z mc4 ms5 (fun v2 h1 => (v2 = 0 → (wp_Law_same_20 z mc ms Q 0 0 a5 h1 (0 + mc4) (0 + ms5))) ∧ (¬ v2 = 0 → (wp_Law_same_20 z mc ms Q 1 0 a5 h1 (0 + mc4) (0 + ms5)))) (fun i h8 => (i = 0 ∧ Q 1 h8) ∨ (i = 1 ∧ Q 2 h8)) a0 x1 x2 x3 x4 hp
set_option maxRecDepth 100000 in
set_option maxHeartbeats 4000000 in
theorem t_Law_same {l : Launch} {G : xG} {z : Nat → Nat} {mc ms : Nat} {Q : Int32 → xh → Prop} {a0 : Nat} {x1 : Int32} {x2 : Int32} {x3 : Int32} {x4 : Int32} {a5 : Nat} {hp : xh} (hfl : l.flags = flags0) (hf : wp_Law_same z mc ms Q a0 x1 x2 x3 x4 a5 hp) : xMW l G z y_Law_same b_Law_same 7 (some .int) hh_Law_same (rt_Law_same mc ms) [.ref a0, .int x1, .int x2, .int x3, .int x4, .ref a5] hp (xqi Q) := by
  refine xMW_of hfl (by decide) (Nat.le_of_ble_eq_true rfl) (lv0 := [(0, .ref a0), (1, .int x1), (2, .int x2), (3, .int x3), (4, .int x4), (5, .ref a5)]) rfl ?_
  intro p e s m args below meth c A Qw X XT htab hret
  unfold wp_Law_same at hf
  refine x_aload X (q := 5) d_Law_same_0 rfl 2 rfl ?_
  refine x_iconst X (v := 0) d_Law_same_2 (by decide) 3 rfl ?_
  refine x_aload_n X (q := 0) d_Law_same_3 rfl 4 rfl ?_
  refine x_iload_n X (q := 1) d_Law_same_4 rfl 5 rfl ?_
  refine x_iload_n X (q := 2) d_Law_same_5 rfl 6 rfl ?_
  refine x_iload_n X (q := 3) d_Law_same_6 rfl 7 rfl ?_
  refine x_iload X (q := 4) d_Law_same_7 rfl 9 rfl ?_
  obtain ⟨mc4, ms5, hk6, hn7, hf⟩ := hf
  refine x_tcallVz X XT (t_Judge_same hfl hf.2) hf.1 (ci := 11) rfl rfl lm_Law_38 im_Judge_same sl_Judge_same cd_Judge_same in_Judge ds_Judge_same rfl rfl (Nat.le_of_ble_eq_true rfl) (Nat.le_of_ble_eq_true rfl) (Nat.le_of_ble_eq_true rfl) hk6 hn7 d_Law_same_9 12 rfl (fun v2 h1 hb3 hf => ?_) ?_
  · refine x_if_eq X hf d_Law_same_12 19 15 (by decide) rfl (fun hf => ?_) (fun hf => ?_)
    · refine x_lconst X (v := 0) d_Law_same_19 (by decide) 20 rfl ?_
      exact x_sub [] rfl (t_Law_same_20 hfl X XT htab hret hk6 hn7 hf)
    · refine x_lconst X (v := 1) d_Law_same_15 (by decide) 16 rfl ?_
      refine x_goto X d_Law_same_16 20 (by decide) ?_
      exact x_sub [] rfl (t_Law_same_20 hfl X XT htab hret hk6 hn7 hf)
  · intro i a h8 locs ls T1 hQ hH hS hl XS hx
    rcases hQ with ⟨rfl, hf⟩ | ⟨rfl, hf⟩
    · refine x_catch X [] htab (i := 0) (by decide) (by decide) (by decide) lc_Law_19 (XT.2.2.1.1 _ ca_0 rfl) (by intro q hq; cases hq) (fun oX => ?_) hH hS hl XS hx
      refine x_astore X (lv' := [(6, .ref oX), (0, .ref a0), (1, .int x1), (2, .int x2), (3, .int x3), (4, .int x4), (5, .ref a5)]) d_Law_same_24 (by decide) rfl 26 rfl ?_
      refine x_iconst X (v := 1) d_Law_same_26 (by decide) 27 rfl ?_
      exact hret _ _ _ _ _ (some (.int 1)) hk6 hn7 ⟨_, rfl, hf⟩ ⟨⟨_, rfl, rfl⟩, d_Law_same_27⟩
    · refine x_catch X [(0, 21, 24, 19)] htab (i := 1) (by decide) (by decide) (by decide) lc_Law_13 (XT.2.2.1.1 _ ca_1 rfl) (by intro q hq; rcases List.mem_singleton.mp hq with rfl; exact ⟨by decide, _, lc_Law_19, XT.2.2.1.2.1⟩) (fun oX => ?_) hH hS hl XS hx
      refine x_astore X (lv' := [(6, .ref oX), (0, .ref a0), (1, .int x1), (2, .int x2), (3, .int x3), (4, .int x4), (5, .ref a5)]) d_Law_same_28 (by decide) rfl 30 rfl ?_
      refine x_iconst X (v := 2) d_Law_same_30 (by decide) 31 rfl ?_
      exact hret _ _ _ _ _ (some (.int 2)) hk6 hn7 ⟨_, rfl, hf⟩ ⟨⟨_, rfl, rfl⟩, d_Law_same_31⟩

set_option maxRecDepth 100000 in
def wp_Law_twin (z : Nat → Nat) (mc ms : Nat) (Q : Int32 → xh → Prop) (a0 : Nat) (x1 : Int32) (x2 : Int32) (a3 : Nat) (hp : xh) : Prop :=
  ∃ mc3 ms4, 0 + mc3 ≤ mc ∧ 0 + ms4 ≤ ms ∧ xcls hp a0 11 ∧ wp_Judge_twin z mc3 ms4 (fun v2 h1 => ∃ h7, sL h1 a3 3 0 (v2.toInt64) = some h7 ∧ Q 0 h7) (fun i h8 => (i = 0 ∧ Q 1 h8) ∨ (i = 1 ∧ Q 2 h8)) a0 x1 x2 hp
set_option maxRecDepth 100000 in
set_option maxHeartbeats 4000000 in
theorem t_Law_twin {l : Launch} {G : xG} {z : Nat → Nat} {mc ms : Nat} {Q : Int32 → xh → Prop} {a0 : Nat} {x1 : Int32} {x2 : Int32} {a3 : Nat} {hp : xh} (hfl : l.flags = flags0) (hf : wp_Law_twin z mc ms Q a0 x1 x2 a3 hp) : xMW l G z y_Law_twin b_Law_twin 5 (some .int) hh_Law_twin (rt_Law_twin mc ms) [.ref a0, .int x1, .int x2, .ref a3] hp (xqi Q) := by
  refine xMW_of hfl (by decide) (Nat.le_of_ble_eq_true rfl) (lv0 := [(0, .ref a0), (1, .int x1), (2, .int x2), (3, .ref a3)]) rfl ?_
  intro p e s m args below meth c A Qw X XT htab hret
  unfold wp_Law_twin at hf
  refine x_aload_n X (q := 3) d_Law_twin_0 rfl 1 rfl ?_
  refine x_iconst X (v := 0) d_Law_twin_1 (by decide) 2 rfl ?_
  refine x_aload_n X (q := 0) d_Law_twin_2 rfl 3 rfl ?_
  refine x_iload_n X (q := 1) d_Law_twin_3 rfl 4 rfl ?_
  refine x_iload_n X (q := 2) d_Law_twin_4 rfl 5 rfl ?_
  obtain ⟨mc3, ms4, hk5, hn6, hf⟩ := hf
  refine x_tcallVi X XT (t_Judge_twin hfl hf.2) hf.1 (ci := 11) rfl rfl lm_Law_42 im_Judge_twin sl_Judge_twin cd_Judge_twin in_Judge ds_Judge_twin rfl rfl (Nat.le_of_ble_eq_true rfl) (Nat.le_of_ble_eq_true rfl) (Nat.le_of_ble_eq_true rfl) hk5 hn6 d_Law_twin_5 8 rfl (fun v2 h1 hf => ?_) ?_
  · refine x_i2l X d_Law_twin_8 9 rfl ?_
    refine x_last X hf d_Law_twin_9 10 rfl (fun h7 hf => ?_)
    refine x_goto X d_Law_twin_10 21 (by decide) ?_
    refine x_iconst X (v := 0) d_Law_twin_21 (by decide) 22 rfl ?_
    exact hret _ _ _ _ _ (some (.int 0)) hk5 hn6 ⟨_, rfl, hf⟩ ⟨⟨_, rfl, rfl⟩, d_Law_twin_22⟩
  · intro i a h8 locs ls T1 hQ hH hS hl XS hx
    rcases hQ with ⟨rfl, hf⟩ | ⟨rfl, hf⟩
    · refine x_catch X [] htab (i := 0) (by decide) (by decide) (by decide) lc_Law_19 (XT.2.2.1.1 _ ca_0 rfl) (by intro q hq; cases hq) (fun oX => ?_) hH hS hl XS hx
      refine x_astore X (lv' := [(4, .ref oX), (0, .ref a0), (1, .int x1), (2, .int x2), (3, .ref a3)]) d_Law_twin_13 (by decide) rfl 15 rfl ?_
      refine x_iconst X (v := 1) d_Law_twin_15 (by decide) 16 rfl ?_
      exact hret _ _ _ _ _ (some (.int 1)) hk5 hn6 ⟨_, rfl, hf⟩ ⟨⟨_, rfl, rfl⟩, d_Law_twin_16⟩
    · refine x_catch X [(0, 10, 13, 19)] htab (i := 1) (by decide) (by decide) (by decide) lc_Law_13 (XT.2.2.1.1 _ ca_1 rfl) (by intro q hq; rcases List.mem_singleton.mp hq with rfl; exact ⟨by decide, _, lc_Law_19, XT.2.2.1.2.1⟩) (fun oX => ?_) hH hS hl XS hx
      refine x_astore X (lv' := [(4, .ref oX), (0, .ref a0), (1, .int x1), (2, .int x2), (3, .ref a3)]) d_Law_twin_17 (by decide) rfl 19 rfl ?_
      refine x_iconst X (v := 2) d_Law_twin_19 (by decide) 20 rfl ?_
      exact hret _ _ _ _ _ (some (.int 2)) hk5 hn6 ⟨_, rfl, hf⟩ ⟨⟨_, rfl, rfl⟩, d_Law_twin_20⟩

