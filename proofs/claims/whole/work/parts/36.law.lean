set_option maxRecDepth 100000 in
def wp_Law_law_1074 (z : Nat → Nat) (mc ms : Nat) (Q : Int32 → xh → Prop) (k23 : Nat × Nat × Nat × Nat × Int32 × xh × Nat × Nat → Prop) (a0 : Nat) (a1 : Nat) (a2 : Nat) (a3 : Nat) (x4 : Int32) (hp : xh) (kk nn : Nat) : Prop :=
  k23 (a0, a1, a2, a3, (x4 + 6), hp, kk, nn)
set_option maxRecDepth 100000 in
set_option maxHeartbeats 4000000 in
theorem t_Law_law_1074 {p : Program} {l : Launch} {e : Env} {s : State} {m : MethodId} {args : Array Value} {below : List Frame} {meth : Method} {c : Code} {G : xG} {z : Nat → Nat} {A : Nat → Prop} {Qw : State → Prop} {mc ms : Nat} {Q : Int32 → xh → Prop} {k23 : Nat × Nat × Nat × Nat × Int32 × xh × Nat × Nat → Prop} {a0 : Nat} {a1 : Nat} {a2 : Nat} {a3 : Nat} {x4 : Int32} {hp : xh} {kk nn : Nat} (hfl : l.flags = flags0) (X : xX p l e (rt_Law_law mc ms) s m args below meth c G z A y_Law_law b_Law_law 7) (XT : xXT e s meth A) (hret : xRet p l e (rt_Law_law mc ms) s m args below meth c G A 7 Qw b_Law_law (some .boolean) (xqz Q)) (hk23 : ∀ (a0 : Nat) (a1 : Nat) (a2 : Nat) (a3 : Nat) (x4 : Int32) (hp : xh) (kk nn : Nat), k23 (a0, a1, a2, a3, x4, hp, kk, nn) → kk ≤ mc → nn ≤ ms → xE p l e (rt_Law_law mc ms) s m args below meth c G A 7 Qw kk nn hp 23 [(0, .ref a0), (1, .ref a1), (2, .ref a2), (3, .ref a3), (4, .int x4)] []) (hkk : kk ≤ mc) (hnn : nn ≤ ms) (hf : wp_Law_law_1074 z mc ms Q k23 a0 a1 a2 a3 x4 hp kk nn) : xE p l e (rt_Law_law mc ms) s m args below meth c G A 7 Qw kk nn hp 1074 [(0, .ref a0), (1, .ref a1), (2, .ref a2), (3, .ref a3), (4, .int x4)] [] := by
  unfold wp_Law_law_1074 at hf
  refine x_iinc X (q := 4) (v := (x4 + 6)) (lv' := [(4, .int (x4 + 6)), (0, .ref a0), (1, .ref a1), (2, .ref a2), (3, .ref a3)]) d_Law_law_1074 rfl (by rfl) (by decide) rfl 1077 rfl ?_
  refine x_goto X d_Law_law_1077 23 (by decide) ?_
  exact x_sub [1, 2, 3, 4, 0] rfl (hk23 _ _ _ _ _ _ _ _ hf hkk hnn)
set_option maxRecDepth 100000 in
def wp_Law_law_1058 (z : Nat → Nat) (mc ms : Nat) (Q : Int32 → xh → Prop) (k23 : Nat × Nat × Nat × Nat × Int32 × xh × Nat × Nat → Prop) (a0 : Nat) (a1 : Nat) (a2 : Nat) (a3 : Nat) (x4 : Int32) (hp : xh) (kk nn : Nat) : Prop :=
  wp_Law_law_1074 z mc ms Q k23 a0 a1 a2 a3 x4 hp kk nn
set_option maxRecDepth 100000 in
set_option maxHeartbeats 4000000 in
theorem t_Law_law_1058 {p : Program} {l : Launch} {e : Env} {s : State} {m : MethodId} {args : Array Value} {below : List Frame} {meth : Method} {c : Code} {G : xG} {z : Nat → Nat} {A : Nat → Prop} {Qw : State → Prop} {mc ms : Nat} {Q : Int32 → xh → Prop} {k23 : Nat × Nat × Nat × Nat × Int32 × xh × Nat × Nat → Prop} {a0 : Nat} {a1 : Nat} {a2 : Nat} {a3 : Nat} {x4 : Int32} {hp : xh} {kk nn : Nat} (hfl : l.flags = flags0) (X : xX p l e (rt_Law_law mc ms) s m args below meth c G z A y_Law_law b_Law_law 7) (XT : xXT e s meth A) (hret : xRet p l e (rt_Law_law mc ms) s m args below meth c G A 7 Qw b_Law_law (some .boolean) (xqz Q)) (hk23 : ∀ (a0 : Nat) (a1 : Nat) (a2 : Nat) (a3 : Nat) (x4 : Int32) (hp : xh) (kk nn : Nat), k23 (a0, a1, a2, a3, x4, hp, kk, nn) → kk ≤ mc → nn ≤ ms → xE p l e (rt_Law_law mc ms) s m args below meth c G A 7 Qw kk nn hp 23 [(0, .ref a0), (1, .ref a1), (2, .ref a2), (3, .ref a3), (4, .int x4)] []) (hkk : kk ≤ mc) (hnn : nn ≤ ms) (hf : wp_Law_law_1058 z mc ms Q k23 a0 a1 a2 a3 x4 hp kk nn) : xE p l e (rt_Law_law mc ms) s m args below meth c G A 7 Qw kk nn hp 1058 [(0, .ref a0), (1, .ref a1), (2, .ref a2), (3, .ref a3), (4, .int x4)] [] := by
  unfold wp_Law_law_1058 at hf
  refine x_goto X d_Law_law_1058 1074 (by decide) ?_
  exact x_sub [0, 1, 2, 3, 4] rfl (t_Law_law_1074 hfl X XT hret hk23 hkk hnn hf)
set_option maxRecDepth 100000 in
def wp_Law_law_990 (z : Nat → Nat) (mc ms : Nat) (Q : Int32 → xh → Prop) (k23 : Nat × Nat × Nat × Nat × Int32 × xh × Nat × Nat → Prop) (a0 : Nat) (a1 : Nat) (a2 : Nat) (a3 : Nat) (x4 : Int32) (hp : xh) (kk nn : Nat) : Prop :=
  wp_Law_law_1074 z mc ms Q k23 a0 a1 a2 a3 x4 hp kk nn
set_option maxRecDepth 100000 in
set_option maxHeartbeats 4000000 in
theorem t_Law_law_990 {p : Program} {l : Launch} {e : Env} {s : State} {m : MethodId} {args : Array Value} {below : List Frame} {meth : Method} {c : Code} {G : xG} {z : Nat → Nat} {A : Nat → Prop} {Qw : State → Prop} {mc ms : Nat} {Q : Int32 → xh → Prop} {k23 : Nat × Nat × Nat × Nat × Int32 × xh × Nat × Nat → Prop} {a0 : Nat} {a1 : Nat} {a2 : Nat} {a3 : Nat} {x4 : Int32} {hp : xh} {kk nn : Nat} (hfl : l.flags = flags0) (X : xX p l e (rt_Law_law mc ms) s m args below meth c G z A y_Law_law b_Law_law 7) (XT : xXT e s meth A) (hret : xRet p l e (rt_Law_law mc ms) s m args below meth c G A 7 Qw b_Law_law (some .boolean) (xqz Q)) (hk23 : ∀ (a0 : Nat) (a1 : Nat) (a2 : Nat) (a3 : Nat) (x4 : Int32) (hp : xh) (kk nn : Nat), k23 (a0, a1, a2, a3, x4, hp, kk, nn) → kk ≤ mc → nn ≤ ms → xE p l e (rt_Law_law mc ms) s m args below meth c G A 7 Qw kk nn hp 23 [(0, .ref a0), (1, .ref a1), (2, .ref a2), (3, .ref a3), (4, .int x4)] []) (hkk : kk ≤ mc) (hnn : nn ≤ ms) (hf : wp_Law_law_990 z mc ms Q k23 a0 a1 a2 a3 x4 hp kk nn) : xE p l e (rt_Law_law mc ms) s m args below meth c G A 7 Qw kk nn hp 990 [(0, .ref a0), (1, .ref a1), (2, .ref a2), (3, .ref a3), (4, .int x4)] [] := by
  unfold wp_Law_law_990 at hf
  refine x_goto X d_Law_law_990 1074 (by decide) ?_
  exact x_sub [0, 1, 2, 3, 4] rfl (t_Law_law_1074 hfl X XT hret hk23 hkk hnn hf)
set_option maxRecDepth 100000 in
def wp_Law_law_984 (z : Nat → Nat) (mc ms : Nat) (Q : Int32 → xh → Prop) (k23 : Nat × Nat × Nat × Nat × Int32 × xh × Nat × Nat → Prop) (a0 : Nat) (a1 : Nat) (a2 : Nat) (a3 : Nat) (x4 : Int32) (s1 : Int64) (s0 : Int64) (hp : xh) (kk nn : Nat) : Prop :=
  ((lg_cmp s0 s1) = 0 → wp_Law_law_990 z mc ms Q k23 a0 a1 a2 a3 x4 hp kk nn) ∧ (¬ (lg_cmp s0 s1) = 0 → Q 0 hp)
set_option maxRecDepth 100000 in
set_option maxHeartbeats 4000000 in
theorem t_Law_law_984 {p : Program} {l : Launch} {e : Env} {s : State} {m : MethodId} {args : Array Value} {below : List Frame} {meth : Method} {c : Code} {G : xG} {z : Nat → Nat} {A : Nat → Prop} {Qw : State → Prop} {mc ms : Nat} {Q : Int32 → xh → Prop} {k23 : Nat × Nat × Nat × Nat × Int32 × xh × Nat × Nat → Prop} {a0 : Nat} {a1 : Nat} {a2 : Nat} {a3 : Nat} {x4 : Int32} {s1 : Int64} {s0 : Int64} {hp : xh} {kk nn : Nat} (hfl : l.flags = flags0) (X : xX p l e (rt_Law_law mc ms) s m args below meth c G z A y_Law_law b_Law_law 7) (XT : xXT e s meth A) (hret : xRet p l e (rt_Law_law mc ms) s m args below meth c G A 7 Qw b_Law_law (some .boolean) (xqz Q)) (hk23 : ∀ (a0 : Nat) (a1 : Nat) (a2 : Nat) (a3 : Nat) (x4 : Int32) (hp : xh) (kk nn : Nat), k23 (a0, a1, a2, a3, x4, hp, kk, nn) → kk ≤ mc → nn ≤ ms → xE p l e (rt_Law_law mc ms) s m args below meth c G A 7 Qw kk nn hp 23 [(0, .ref a0), (1, .ref a1), (2, .ref a2), (3, .ref a3), (4, .int x4)] []) (hkk : kk ≤ mc) (hnn : nn ≤ ms) (hf : wp_Law_law_984 z mc ms Q k23 a0 a1 a2 a3 x4 s1 s0 hp kk nn) : xE p l e (rt_Law_law mc ms) s m args below meth c G A 7 Qw kk nn hp 984 [(0, .ref a0), (1, .ref a1), (2, .ref a2), (3, .ref a3), (4, .int x4)] [.long s1, .long s0] := by
  unfold wp_Law_law_984 at hf
  refine x_lcmp X d_Law_law_984 985 rfl ?_
  refine x_if_eq X hf d_Law_law_985 990 988 (by decide) rfl (fun hf => ?_) (fun hf => ?_)
  · exact x_sub [0, 1, 2, 3, 4] rfl (t_Law_law_990 hfl X XT hret hk23 hkk hnn hf)
  · refine x_iconst X (v := 0) d_Law_law_988 (by decide) 989 rfl ?_
    exact hret _ _ _ _ _ (some (.int 0)) hkk hnn ⟨_, rfl, (Or.inl rfl), hf⟩ ⟨⟨_, rfl, xbl_nar (Or.inl rfl)⟩, d_Law_law_989⟩
set_option maxRecDepth 100000 in
def wp_Law_law_891 (z : Nat → Nat) (mc ms : Nat) (Q : Int32 → xh → Prop) (k23 : Nat × Nat × Nat × Nat × Int32 × xh × Nat × Nat → Prop) (a0 : Nat) (a1 : Nat) (a2 : Nat) (a3 : Nat) (x4 : Int32) (hp : xh) (kk nn : Nat) : Prop :=
  wp_Law_law_1074 z mc ms Q k23 a0 a1 a2 a3 x4 hp kk nn
set_option maxRecDepth 100000 in
set_option maxHeartbeats 4000000 in
theorem t_Law_law_891 {p : Program} {l : Launch} {e : Env} {s : State} {m : MethodId} {args : Array Value} {below : List Frame} {meth : Method} {c : Code} {G : xG} {z : Nat → Nat} {A : Nat → Prop} {Qw : State → Prop} {mc ms : Nat} {Q : Int32 → xh → Prop} {k23 : Nat × Nat × Nat × Nat × Int32 × xh × Nat × Nat → Prop} {a0 : Nat} {a1 : Nat} {a2 : Nat} {a3 : Nat} {x4 : Int32} {hp : xh} {kk nn : Nat} (hfl : l.flags = flags0) (X : xX p l e (rt_Law_law mc ms) s m args below meth c G z A y_Law_law b_Law_law 7) (XT : xXT e s meth A) (hret : xRet p l e (rt_Law_law mc ms) s m args below meth c G A 7 Qw b_Law_law (some .boolean) (xqz Q)) (hk23 : ∀ (a0 : Nat) (a1 : Nat) (a2 : Nat) (a3 : Nat) (x4 : Int32) (hp : xh) (kk nn : Nat), k23 (a0, a1, a2, a3, x4, hp, kk, nn) → kk ≤ mc → nn ≤ ms → xE p l e (rt_Law_law mc ms) s m args below meth c G A 7 Qw kk nn hp 23 [(0, .ref a0), (1, .ref a1), (2, .ref a2), (3, .ref a3), (4, .int x4)] []) (hkk : kk ≤ mc) (hnn : nn ≤ ms) (hf : wp_Law_law_891 z mc ms Q k23 a0 a1 a2 a3 x4 hp kk nn) : xE p l e (rt_Law_law mc ms) s m args below meth c G A 7 Qw kk nn hp 891 [(0, .ref a0), (1, .ref a1), (2, .ref a2), (3, .ref a3), (4, .int x4)] [] := by
  unfold wp_Law_law_891 at hf
  refine x_goto X d_Law_law_891 1074 (by decide) ?_
  exact x_sub [0, 1, 2, 3, 4] rfl (t_Law_law_1074 hfl X XT hret hk23 hkk hnn hf)
set_option maxRecDepth 100000 in
def wp_Law_law_823 (z : Nat → Nat) (mc ms : Nat) (Q : Int32 → xh → Prop) (k23 : Nat × Nat × Nat × Nat × Int32 × xh × Nat × Nat → Prop) (a0 : Nat) (a1 : Nat) (a2 : Nat) (a3 : Nat) (x4 : Int32) (hp : xh) (kk nn : Nat) : Prop :=
  wp_Law_law_1074 z mc ms Q k23 a0 a1 a2 a3 x4 hp kk nn
set_option maxRecDepth 100000 in
set_option maxHeartbeats 4000000 in
theorem t_Law_law_823 {p : Program} {l : Launch} {e : Env} {s : State} {m : MethodId} {args : Array Value} {below : List Frame} {meth : Method} {c : Code} {G : xG} {z : Nat → Nat} {A : Nat → Prop} {Qw : State → Prop} {mc ms : Nat} {Q : Int32 → xh → Prop} {k23 : Nat × Nat × Nat × Nat × Int32 × xh × Nat × Nat → Prop} {a0 : Nat} {a1 : Nat} {a2 : Nat} {a3 : Nat} {x4 : Int32} {hp : xh} {kk nn : Nat} (hfl : l.flags = flags0) (X : xX p l e (rt_Law_law mc ms) s m args below meth c G z A y_Law_law b_Law_law 7) (XT : xXT e s meth A) (hret : xRet p l e (rt_Law_law mc ms) s m args below meth c G A 7 Qw b_Law_law (some .boolean) (xqz Q)) (hk23 : ∀ (a0 : Nat) (a1 : Nat) (a2 : Nat) (a3 : Nat) (x4 : Int32) (hp : xh) (kk nn : Nat), k23 (a0, a1, a2, a3, x4, hp, kk, nn) → kk ≤ mc → nn ≤ ms → xE p l e (rt_Law_law mc ms) s m args below meth c G A 7 Qw kk nn hp 23 [(0, .ref a0), (1, .ref a1), (2, .ref a2), (3, .ref a3), (4, .int x4)] []) (hkk : kk ≤ mc) (hnn : nn ≤ ms) (hf : wp_Law_law_823 z mc ms Q k23 a0 a1 a2 a3 x4 hp kk nn) : xE p l e (rt_Law_law mc ms) s m args below meth c G A 7 Qw kk nn hp 823 [(0, .ref a0), (1, .ref a1), (2, .ref a2), (3, .ref a3), (4, .int x4)] [] := by
  unfold wp_Law_law_823 at hf
  refine x_goto X d_Law_law_823 1074 (by decide) ?_
  exact x_sub [0, 1, 2, 3, 4] rfl (t_Law_law_1074 hfl X XT hret hk23 hkk hnn hf)
set_option maxRecDepth 100000 in
def wp_Law_law_767 (z : Nat → Nat) (mc ms : Nat) (Q : Int32 → xh → Prop) (k23 : Nat × Nat × Nat × Nat × Int32 × xh × Nat × Nat → Prop) (a0 : Nat) (a1 : Nat) (a2 : Nat) (a3 : Nat) (x4 : Int32) (hp : xh) (kk nn : Nat) : Prop :=
  wp_Law_law_1074 z mc ms Q k23 a0 a1 a2 a3 x4 hp kk nn
set_option maxRecDepth 100000 in
set_option maxHeartbeats 4000000 in
theorem t_Law_law_767 {p : Program} {l : Launch} {e : Env} {s : State} {m : MethodId} {args : Array Value} {below : List Frame} {meth : Method} {c : Code} {G : xG} {z : Nat → Nat} {A : Nat → Prop} {Qw : State → Prop} {mc ms : Nat} {Q : Int32 → xh → Prop} {k23 : Nat × Nat × Nat × Nat × Int32 × xh × Nat × Nat → Prop} {a0 : Nat} {a1 : Nat} {a2 : Nat} {a3 : Nat} {x4 : Int32} {hp : xh} {kk nn : Nat} (hfl : l.flags = flags0) (X : xX p l e (rt_Law_law mc ms) s m args below meth c G z A y_Law_law b_Law_law 7) (XT : xXT e s meth A) (hret : xRet p l e (rt_Law_law mc ms) s m args below meth c G A 7 Qw b_Law_law (some .boolean) (xqz Q)) (hk23 : ∀ (a0 : Nat) (a1 : Nat) (a2 : Nat) (a3 : Nat) (x4 : Int32) (hp : xh) (kk nn : Nat), k23 (a0, a1, a2, a3, x4, hp, kk, nn) → kk ≤ mc → nn ≤ ms → xE p l e (rt_Law_law mc ms) s m args below meth c G A 7 Qw kk nn hp 23 [(0, .ref a0), (1, .ref a1), (2, .ref a2), (3, .ref a3), (4, .int x4)] []) (hkk : kk ≤ mc) (hnn : nn ≤ ms) (hf : wp_Law_law_767 z mc ms Q k23 a0 a1 a2 a3 x4 hp kk nn) : xE p l e (rt_Law_law mc ms) s m args below meth c G A 7 Qw kk nn hp 767 [(0, .ref a0), (1, .ref a1), (2, .ref a2), (3, .ref a3), (4, .int x4)] [] := by
  unfold wp_Law_law_767 at hf
  refine x_goto X d_Law_law_767 1074 (by decide) ?_
  exact x_sub [0, 1, 2, 3, 4] rfl (t_Law_law_1074 hfl X XT hret hk23 hkk hnn hf)
set_option maxRecDepth 100000 in
def wp_Law_law_761 (z : Nat → Nat) (mc ms : Nat) (Q : Int32 → xh → Prop) (k23 : Nat × Nat × Nat × Nat × Int32 × xh × Nat × Nat → Prop) (a0 : Nat) (a1 : Nat) (a2 : Nat) (a3 : Nat) (x4 : Int32) (s1 : Int64) (s0 : Int64) (hp : xh) (kk nn : Nat) : Prop :=
  ((lg_cmp s0 s1) = 0 → wp_Law_law_767 z mc ms Q k23 a0 a1 a2 a3 x4 hp kk nn) ∧ (¬ (lg_cmp s0 s1) = 0 → Q 0 hp)
set_option maxRecDepth 100000 in
set_option maxHeartbeats 4000000 in
theorem t_Law_law_761 {p : Program} {l : Launch} {e : Env} {s : State} {m : MethodId} {args : Array Value} {below : List Frame} {meth : Method} {c : Code} {G : xG} {z : Nat → Nat} {A : Nat → Prop} {Qw : State → Prop} {mc ms : Nat} {Q : Int32 → xh → Prop} {k23 : Nat × Nat × Nat × Nat × Int32 × xh × Nat × Nat → Prop} {a0 : Nat} {a1 : Nat} {a2 : Nat} {a3 : Nat} {x4 : Int32} {s1 : Int64} {s0 : Int64} {hp : xh} {kk nn : Nat} (hfl : l.flags = flags0) (X : xX p l e (rt_Law_law mc ms) s m args below meth c G z A y_Law_law b_Law_law 7) (XT : xXT e s meth A) (hret : xRet p l e (rt_Law_law mc ms) s m args below meth c G A 7 Qw b_Law_law (some .boolean) (xqz Q)) (hk23 : ∀ (a0 : Nat) (a1 : Nat) (a2 : Nat) (a3 : Nat) (x4 : Int32) (hp : xh) (kk nn : Nat), k23 (a0, a1, a2, a3, x4, hp, kk, nn) → kk ≤ mc → nn ≤ ms → xE p l e (rt_Law_law mc ms) s m args below meth c G A 7 Qw kk nn hp 23 [(0, .ref a0), (1, .ref a1), (2, .ref a2), (3, .ref a3), (4, .int x4)] []) (hkk : kk ≤ mc) (hnn : nn ≤ ms) (hf : wp_Law_law_761 z mc ms Q k23 a0 a1 a2 a3 x4 s1 s0 hp kk nn) : xE p l e (rt_Law_law mc ms) s m args below meth c G A 7 Qw kk nn hp 761 [(0, .ref a0), (1, .ref a1), (2, .ref a2), (3, .ref a3), (4, .int x4)] [.long s1, .long s0] := by
  unfold wp_Law_law_761 at hf
  refine x_lcmp X d_Law_law_761 762 rfl ?_
  refine x_if_eq X hf d_Law_law_762 767 765 (by decide) rfl (fun hf => ?_) (fun hf => ?_)
  · exact x_sub [0, 1, 2, 3, 4] rfl (t_Law_law_767 hfl X XT hret hk23 hkk hnn hf)
  · refine x_iconst X (v := 0) d_Law_law_765 (by decide) 766 rfl ?_
    exact hret _ _ _ _ _ (some (.int 0)) hkk hnn ⟨_, rfl, (Or.inl rfl), hf⟩ ⟨⟨_, rfl, xbl_nar (Or.inl rfl)⟩, d_Law_law_766⟩
set_option maxRecDepth 100000 in
def wp_Law_law_704 (z : Nat → Nat) (mc ms : Nat) (Q : Int32 → xh → Prop) (k23 : Nat × Nat × Nat × Nat × Int32 × xh × Nat × Nat → Prop) (a0 : Nat) (a1 : Nat) (a2 : Nat) (a3 : Nat) (x4 : Int32) (hp : xh) (kk nn : Nat) : Prop :=
  wp_Law_law_1074 z mc ms Q k23 a0 a1 a2 a3 x4 hp kk nn
set_option maxRecDepth 100000 in
set_option maxHeartbeats 4000000 in
theorem t_Law_law_704 {p : Program} {l : Launch} {e : Env} {s : State} {m : MethodId} {args : Array Value} {below : List Frame} {meth : Method} {c : Code} {G : xG} {z : Nat → Nat} {A : Nat → Prop} {Qw : State → Prop} {mc ms : Nat} {Q : Int32 → xh → Prop} {k23 : Nat × Nat × Nat × Nat × Int32 × xh × Nat × Nat → Prop} {a0 : Nat} {a1 : Nat} {a2 : Nat} {a3 : Nat} {x4 : Int32} {hp : xh} {kk nn : Nat} (hfl : l.flags = flags0) (X : xX p l e (rt_Law_law mc ms) s m args below meth c G z A y_Law_law b_Law_law 7) (XT : xXT e s meth A) (hret : xRet p l e (rt_Law_law mc ms) s m args below meth c G A 7 Qw b_Law_law (some .boolean) (xqz Q)) (hk23 : ∀ (a0 : Nat) (a1 : Nat) (a2 : Nat) (a3 : Nat) (x4 : Int32) (hp : xh) (kk nn : Nat), k23 (a0, a1, a2, a3, x4, hp, kk, nn) → kk ≤ mc → nn ≤ ms → xE p l e (rt_Law_law mc ms) s m args below meth c G A 7 Qw kk nn hp 23 [(0, .ref a0), (1, .ref a1), (2, .ref a2), (3, .ref a3), (4, .int x4)] []) (hkk : kk ≤ mc) (hnn : nn ≤ ms) (hf : wp_Law_law_704 z mc ms Q k23 a0 a1 a2 a3 x4 hp kk nn) : xE p l e (rt_Law_law mc ms) s m args below meth c G A 7 Qw kk nn hp 704 [(0, .ref a0), (1, .ref a1), (2, .ref a2), (3, .ref a3), (4, .int x4)] [] := by
  unfold wp_Law_law_704 at hf
  refine x_goto X d_Law_law_704 1074 (by decide) ?_
  exact x_sub [0, 1, 2, 3, 4] rfl (t_Law_law_1074 hfl X XT hret hk23 hkk hnn hf)
set_option maxRecDepth 100000 in
def wp_Law_law_610 (z : Nat → Nat) (mc ms : Nat) (Q : Int32 → xh → Prop) (k23 : Nat × Nat × Nat × Nat × Int32 × xh × Nat × Nat → Prop) (a0 : Nat) (a1 : Nat) (a2 : Nat) (a3 : Nat) (x4 : Int32) (hp : xh) (kk nn : Nat) : Prop :=
  wp_Law_law_1074 z mc ms Q k23 a0 a1 a2 a3 x4 hp kk nn
set_option maxRecDepth 100000 in
set_option maxHeartbeats 4000000 in
theorem t_Law_law_610 {p : Program} {l : Launch} {e : Env} {s : State} {m : MethodId} {args : Array Value} {below : List Frame} {meth : Method} {c : Code} {G : xG} {z : Nat → Nat} {A : Nat → Prop} {Qw : State → Prop} {mc ms : Nat} {Q : Int32 → xh → Prop} {k23 : Nat × Nat × Nat × Nat × Int32 × xh × Nat × Nat → Prop} {a0 : Nat} {a1 : Nat} {a2 : Nat} {a3 : Nat} {x4 : Int32} {hp : xh} {kk nn : Nat} (hfl : l.flags = flags0) (X : xX p l e (rt_Law_law mc ms) s m args below meth c G z A y_Law_law b_Law_law 7) (XT : xXT e s meth A) (hret : xRet p l e (rt_Law_law mc ms) s m args below meth c G A 7 Qw b_Law_law (some .boolean) (xqz Q)) (hk23 : ∀ (a0 : Nat) (a1 : Nat) (a2 : Nat) (a3 : Nat) (x4 : Int32) (hp : xh) (kk nn : Nat), k23 (a0, a1, a2, a3, x4, hp, kk, nn) → kk ≤ mc → nn ≤ ms → xE p l e (rt_Law_law mc ms) s m args below meth c G A 7 Qw kk nn hp 23 [(0, .ref a0), (1, .ref a1), (2, .ref a2), (3, .ref a3), (4, .int x4)] []) (hkk : kk ≤ mc) (hnn : nn ≤ ms) (hf : wp_Law_law_610 z mc ms Q k23 a0 a1 a2 a3 x4 hp kk nn) : xE p l e (rt_Law_law mc ms) s m args below meth c G A 7 Qw kk nn hp 610 [(0, .ref a0), (1, .ref a1), (2, .ref a2), (3, .ref a3), (4, .int x4)] [] := by
  unfold wp_Law_law_610 at hf
  refine x_goto X d_Law_law_610 1074 (by decide) ?_
  exact x_sub [0, 1, 2, 3, 4] rfl (t_Law_law_1074 hfl X XT hret hk23 hkk hnn hf)
set_option maxRecDepth 100000 in
def wp_Law_law_566 (z : Nat → Nat) (mc ms : Nat) (Q : Int32 → xh → Prop) (k23 : Nat × Nat × Nat × Nat × Int32 × xh × Nat × Nat → Prop) (a0 : Nat) (a1 : Nat) (a2 : Nat) (a3 : Nat) (x4 : Int32) (hp : xh) (kk nn : Nat) : Prop :=
  wp_Law_law_1074 z mc ms Q k23 a0 a1 a2 a3 x4 hp kk nn
set_option maxRecDepth 100000 in
set_option maxHeartbeats 4000000 in
theorem t_Law_law_566 {p : Program} {l : Launch} {e : Env} {s : State} {m : MethodId} {args : Array Value} {below : List Frame} {meth : Method} {c : Code} {G : xG} {z : Nat → Nat} {A : Nat → Prop} {Qw : State → Prop} {mc ms : Nat} {Q : Int32 → xh → Prop} {k23 : Nat × Nat × Nat × Nat × Int32 × xh × Nat × Nat → Prop} {a0 : Nat} {a1 : Nat} {a2 : Nat} {a3 : Nat} {x4 : Int32} {hp : xh} {kk nn : Nat} (hfl : l.flags = flags0) (X : xX p l e (rt_Law_law mc ms) s m args below meth c G z A y_Law_law b_Law_law 7) (XT : xXT e s meth A) (hret : xRet p l e (rt_Law_law mc ms) s m args below meth c G A 7 Qw b_Law_law (some .boolean) (xqz Q)) (hk23 : ∀ (a0 : Nat) (a1 : Nat) (a2 : Nat) (a3 : Nat) (x4 : Int32) (hp : xh) (kk nn : Nat), k23 (a0, a1, a2, a3, x4, hp, kk, nn) → kk ≤ mc → nn ≤ ms → xE p l e (rt_Law_law mc ms) s m args below meth c G A 7 Qw kk nn hp 23 [(0, .ref a0), (1, .ref a1), (2, .ref a2), (3, .ref a3), (4, .int x4)] []) (hkk : kk ≤ mc) (hnn : nn ≤ ms) (hf : wp_Law_law_566 z mc ms Q k23 a0 a1 a2 a3 x4 hp kk nn) : xE p l e (rt_Law_law mc ms) s m args below meth c G A 7 Qw kk nn hp 566 [(0, .ref a0), (1, .ref a1), (2, .ref a2), (3, .ref a3), (4, .int x4)] [] := by
  unfold wp_Law_law_566 at hf
  refine x_goto X d_Law_law_566 1074 (by decide) ?_
  exact x_sub [0, 1, 2, 3, 4] rfl (t_Law_law_1074 hfl X XT hret hk23 hkk hnn hf)
set_option maxRecDepth 100000 in
def wp_Law_law_289 (z : Nat → Nat) (mc ms : Nat) (Q : Int32 → xh → Prop) (k23 : Nat × Nat × Nat × Nat × Int32 × xh × Nat × Nat → Prop) (a0 : Nat) (a1 : Nat) (a2 : Nat) (a3 : Nat) (x4 : Int32) (hp : xh) (kk nn : Nat) : Prop :=
  wp_Law_law_1074 z mc ms Q k23 a0 a1 a2 a3 x4 hp kk nn
set_option maxRecDepth 100000 in
set_option maxHeartbeats 4000000 in
theorem t_Law_law_289 {p : Program} {l : Launch} {e : Env} {s : State} {m : MethodId} {args : Array Value} {below : List Frame} {meth : Method} {c : Code} {G : xG} {z : Nat → Nat} {A : Nat → Prop} {Qw : State → Prop} {mc ms : Nat} {Q : Int32 → xh → Prop} {k23 : Nat × Nat × Nat × Nat × Int32 × xh × Nat × Nat → Prop} {a0 : Nat} {a1 : Nat} {a2 : Nat} {a3 : Nat} {x4 : Int32} {hp : xh} {kk nn : Nat} (hfl : l.flags = flags0) (X : xX p l e (rt_Law_law mc ms) s m args below meth c G z A y_Law_law b_Law_law 7) (XT : xXT e s meth A) (hret : xRet p l e (rt_Law_law mc ms) s m args below meth c G A 7 Qw b_Law_law (some .boolean) (xqz Q)) (hk23 : ∀ (a0 : Nat) (a1 : Nat) (a2 : Nat) (a3 : Nat) (x4 : Int32) (hp : xh) (kk nn : Nat), k23 (a0, a1, a2, a3, x4, hp, kk, nn) → kk ≤ mc → nn ≤ ms → xE p l e (rt_Law_law mc ms) s m args below meth c G A 7 Qw kk nn hp 23 [(0, .ref a0), (1, .ref a1), (2, .ref a2), (3, .ref a3), (4, .int x4)] []) (hkk : kk ≤ mc) (hnn : nn ≤ ms) (hf : wp_Law_law_289 z mc ms Q k23 a0 a1 a2 a3 x4 hp kk nn) : xE p l e (rt_Law_law mc ms) s m args below meth c G A 7 Qw kk nn hp 289 [(0, .ref a0), (1, .ref a1), (2, .ref a2), (3, .ref a3), (4, .int x4)] [] := by
  unfold wp_Law_law_289 at hf
  refine x_goto X d_Law_law_289 1074 (by decide) ?_
  exact x_sub [0, 1, 2, 3, 4] rfl (t_Law_law_1074 hfl X XT hret hk23 hkk hnn hf)
set_option maxRecDepth 100000 in
def wp_Law_law_23_b (z : Nat → Nat) (mc ms : Nat) (Q : Int32 → xh → Prop)  (k23 : Nat × Nat × Nat × Nat × Int32 × xh × Nat × Nat → Prop) (a0 : Nat) (a1 : Nat) (a2 : Nat) (a3 : Nat) (x4 : Int32) (hp : xh) (kk nn : Nat) : Prop :=
  ∃ n2, aN hp a0 0 = some n2 ∧ ∀ v1, v1 = Int32.ofNat n2 → ((v1 - 6) < x4 → Q 1 hp) ∧ (¬ (v1 - 6) < x4 → (∃ v3, aI hp a0 0 x4 = some v3 ∧ (((v3 &&& 31) = 0 → (∃ v4, aI hp a0 0 (x4 + 1) = some v4 ∧ (∃ v5, aI hp a0 0 (x4 + 2) = some v5 ∧ (∃ v6, aI hp a0 0 (x4 + 3) = some v6 ∧ (∃ v7, aI hp a0 0 (x4 + 4) = some v7 ∧ (∃ v8, aI hp a0 0 (x4 + 5) = some v8 ∧ (xcls hp a1 11 ∧ wp_Judge_feed z (fun h9 => ∃ v10, aI h9 a0 0 (x4 + 1) = some v10 ∧ (∃ v11, aI h9 a0 0 (x4 + 2) = some v11 ∧ (∃ v12, aI h9 a0 0 (x4 + 3) = some v12 ∧ (∃ v13, aI h9 a0 0 (x4 + 4) = some v13 ∧ (∃ v14, aI h9 a0 0 (x4 + 5) = some v14 ∧ (xcls h9 a2 12 ∧ wp_Model_feed z (fun h15 => wp_Law_law_1074 z mc ms Q k23 a0 a1 a2 a3 x4 h15 kk nn) a2 v10 v11 v12 v13 v14 h9)))))) a1 v4 v5 v6 v7 v8 hp))))))) ∧ (¬ (v3 &&& 31) = 0 → (((v3 &&& 31) = 1 → (∃ v16, aI hp a0 0 (x4 + 1) = some v16 ∧ (xcls hp a1 11 ∧ wp_Judge_end z (fun v18 h17 => ∃ v19, aI h17 a0 0 (x4 + 1) = some v19 ∧ (xcls h17 a2 12 ∧ wp_Model_end z (fun v21 h20 => (v18 = v21 → wp_Law_law_1074 z mc ms Q k23 a0 a1 a2 a3 x4 h20 kk nn) ∧ (¬ v18 = v21 → Q 0 h20)) a2 v19 h17)) a1 v16 hp))) ∧ (¬ (v3 &&& 31) = 1 → (((v3 &&& 31) = 2 → (∃ v22, aI hp a0 0 (x4 + 1) = some v22 ∧ (∃ mc25 ms26, kk + mc25 ≤ mc ∧ nn + ms26 ≤ ms ∧ wp_Law_load z mc25 ms26 (fun v24 h23 => ∃ v29, aI h23 a0 0 (x4 + 1) = some v29 ∧ (xcls h23 a2 12 ∧ wp_Model_load z (fun v31 h30 => xcls h30 a2 12 ∧ wp_Model_thrown z (fun v33 h32 => (v33 = v24 → ((¬ v24 = 0 → (wp_Law_law_289 z mc ms Q k23 a0 a1 a2 a3 x4 h32 (kk + mc25) (nn + ms26))) ∧ (v24 = 0 → (∃ v34, aL h32 a3 3 0 = some v34 ∧ (((lg_cmp v34 (v31.toInt64)) = 0 → (wp_Law_law_289 z mc ms Q k23 a0 a1 a2 a3 x4 h32 (kk + mc25) (nn + ms26))) ∧ (¬ (lg_cmp v34 (v31.toInt64)) = 0 → Q 0 h32)))))) ∧ (¬ v33 = v24 → Q 0 h32)) a2 h30) a2 v29 h23)) a1 v22 a3 hp))) ∧ (¬ (v3 &&& 31) = 2 → (((v3 &&& 31) = 3 → (∃ v35, aI hp a0 0 (x4 + 1) = some v35 ∧ (xcls hp a1 11 ∧ wp_Judge_fault z (fun v37 h36 => ∃ v38, aI h36 a0 0 (x4 + 1) = some v38 ∧ (xcls h36 a2 12 ∧ wp_Model_fault z (fun v40 h39 => (v37 = v40 → wp_Law_law_1074 z mc ms Q k23 a0 a1 a2 a3 x4 h39 kk nn) ∧ (¬ v37 = v40 → Q 0 h39)) a2 v38 h36)) a1 v35 hp))) ∧ (¬ (v3 &&& 31) = 3 → (((v3 &&& 31) = 4 → (∃ v41, aI hp a0 0 (x4 + 1) = some v41 ∧ (∃ v42, aI hp a0 0 (x4 + 2) = some v42 ∧ (xcls hp a1 11 ∧ wp_Judge_many z (fun v44 h43 => ∃ v45, aI h43 a0 0 (x4 + 1) = some v45 ∧ (∃ v46, aI h43 a0 0 (x4 + 2) = some v46 ∧ (xcls h43 a2 12 ∧ wp_Model_many z (fun v48 h47 => (v44 = v48 → wp_Law_law_1074 z mc ms Q k23 a0 a1 a2 a3 x4 h47 kk nn) ∧ (¬ v44 = v48 → Q 0 h47)) a2 v45 v46 h43))) a1 v41 v42 hp)))) ∧ (¬ (v3 &&& 31) = 4 → (((v3 &&& 31) = 5 → (∃ v49, aI hp a0 0 (x4 + 1) = some v49 ∧ (∃ v50, aI hp a0 0 (x4 + 2) = some v50 ∧ (∃ v51, aI hp a0 0 (x4 + 3) = some v51 ∧ (∃ v52, aI hp a0 0 (x4 + 4) = some v52 ∧ (xcls hp a1 11 ∧ wp_Judge_symbol z (fun v54 h53 => ∃ v55, aI h53 a0 0 (x4 + 1) = some v55 ∧ (∃ v56, aI h53 a0 0 (x4 + 2) = some v56 ∧ (∃ v57, aI h53 a0 0 (x4 + 3) = some v57 ∧ (∃ v58, aI h53 a0 0 (x4 + 4) = some v58 ∧ (xcls h53 a2 12 ∧ wp_Model_symbol z (fun v60 h59 => (v54 = v60 → wp_Law_law_1074 z mc ms Q k23 a0 a1 a2 a3 x4 h59 kk nn) ∧ (¬ v54 = v60 → Q 0 h59)) a2 v55 v56 v57 v58 h53))))) a1 v49 v50 v51 v52 hp)))))) ∧ (¬ (v3 &&& 31) = 5 → (((v3 &&& 31) = 6 → (xcls hp a1 11 ∧ wp_Judge_reset z (fun h61 => xcls h61 a2 12 ∧ wp_Model_reset z (fun h62 => wp_Law_law_1074 z mc ms Q k23 a0 a1 a2 a3 x4 h62 kk nn) a2 h61) a1 hp)) ∧ (¬ (v3 &&& 31) = 6 → (((v3 &&& 31) = 7 → (∃ v63, aI hp a0 0 (x4 + 1) = some v63 ∧ (xcls hp a1 11 ∧ wp_Judge_state z (fun v65 h64 => ∃ v66, aI h64 a0 0 (x4 + 1) = some v66 ∧ (xcls h64 a2 12 ∧ wp_Model_state z (fun v68 h67 => (v65 = v68 → wp_Law_law_1074 z mc ms Q k23 a0 a1 a2 a3 x4 h67 kk nn) ∧ (¬ v65 = v68 → Q 0 h67)) a2 v66 h64)) a1 v63 hp))) ∧ (¬ (v3 &&& 31) = 7 → (((v3 &&& 31) = 8 → (∃ v69, aI hp a0 0 (x4 + 1) = some v69 ∧ (∃ v70, aI hp a0 0 (x4 + 2) = some v70 ∧ (∃ v71, aI hp a0 0 (x4 + 3) = some v71 ∧ (xcls hp a1 11 ∧ wp_Judge_value z (fun v73 h72 => ∃ v74, aI h72 a0 0 (x4 + 1) = some v74 ∧ (∃ v75, aI h72 a0 0 (x4 + 2) = some v75 ∧ (∃ v76, aI h72 a0 0 (x4 + 3) = some v76 ∧ (xcls h72 a2 12 ∧ wp_Model_value z (fun v78 h77 => (v73 = v78 → wp_Law_law_1074 z mc ms Q k23 a0 a1 a2 a3 x4 h77 kk nn) ∧ (¬ v73 = v78 → Q 0 h77)) a2 v74 v75 v76 h72)))) a1 v69 v70 v71 hp))))) ∧ (¬ (v3 &&& 31) = 8 → (((v3 &&& 31) = 9 → (∃ v79, aI hp a0 0 (x4 + 1) = some v79 ∧ (xcls hp a1 11 ∧ wp_Judge_step z (fun v81 h80 => ∃ v82, aI h80 a0 0 (x4 + 1) = some v82 ∧ (xcls h80 a2 12 ∧ wp_Model_step z (fun v84 h83 => (v81 = v84 → wp_Law_law_1074 z mc ms Q k23 a0 a1 a2 a3 x4 h83 kk nn) ∧ (¬ v81 = v84 → Q 0 h83)) a2 v82 h80)) a1 v79 hp))) ∧ (¬ (v3 &&& 31) = 9 → (((v3 &&& 31) = 10 → (∃ mc87 ms88, kk + mc87 ≤ mc ∧ nn + ms88 ≤ ms ∧ wp_Law_gates z mc87 ms88 (fun v86 h85 => xcls h85 a2 12 ∧ wp_Model_gates z (fun v92 h91 => xcls h91 a2 12 ∧ wp_Model_thrown z (fun v94 h93 => (v94 = v86 → ((¬ v86 = 0 → (wp_Law_law_566 z mc ms Q k23 a0 a1 a2 a3 x4 h93 (kk + mc87) (nn + ms88))) ∧ (v86 = 0 → (∃ v95, aL h93 a3 3 0 = some v95 ∧ (((lg_cmp v95 (v92.toInt64)) = 0 → (wp_Law_law_566 z mc ms Q k23 a0 a1 a2 a3 x4 h93 (kk + mc87) (nn + ms88))) ∧ (¬ (lg_cmp v95 (v92.toInt64)) = 0 → Q 0 h93)))))) ∧ (¬ v94 = v86 → Q 0 h93)) a2 h91) a2 h85) a1 a3 hp)) ∧ (¬ (v3 &&& 31) = 10 → (((v3 &&& 31) = 11 → (∃ mc98 ms99, kk + mc98 ≤ mc ∧ nn + ms99 ≤ ms ∧ wp_Law_judge z mc98 ms99 (fun v97 h96 => xcls h96 a2 12 ∧ wp_Model_judge z (fun v103 h102 => xcls h102 a2 12 ∧ wp_Model_thrown z (fun v105 h104 => (v105 = v97 → ((¬ v97 = 0 → (wp_Law_law_610 z mc ms Q k23 a0 a1 a2 a3 x4 h104 (kk + mc98) (nn + ms99))) ∧ (v97 = 0 → (∃ v106, aL h104 a3 3 0 = some v106 ∧ (((lg_cmp v106 (v103.toInt64)) = 0 → (wp_Law_law_610 z mc ms Q k23 a0 a1 a2 a3 x4 h104 (kk + mc98) (nn + ms99))) ∧ (¬ (lg_cmp v106 (v103.toInt64)) = 0 → Q 0 h104)))))) ∧ (¬ v105 = v97 → Q 0 h104)) a2 h102) a2 h96) a1 a3 hp)) ∧ (¬ (v3 &&& 31) = 11 → (((v3 &&& 31) = 12 → (∃ v107, aI hp a0 0 (x4 + 1) = some v107 ∧ (∃ mc110 ms111, kk + mc110 ≤ mc ∧ nn + ms111 ≤ ms ∧ xcls hp a1 11 ∧ wp_Judge_witness z mc110 ms111 (fun v109 h108 => ∃ v114, aI h108 a0 0 (x4 + 1) = some v114 ∧ (xcls h108 a2 12 ∧ wp_Model_witness z (fun v116 h115 => (v109 = v116 → (wp_Law_law_1074 z mc ms Q k23 a0 a1 a2 a3 x4 h115 (kk + mc110) (nn + ms111))) ∧ (¬ v109 = v116 → Q 0 h115)) a2 v114 h108)) a1 v107 hp))) ∧ (¬ (v3 &&& 31) = 12 → (((v3 &&& 31) = 13 → (∃ mc119 ms120, kk + mc119 ≤ mc ∧ nn + ms120 ≤ ms ∧ xcls hp a1 11 ∧ wp_Judge_blame z mc119 ms120 (fun v118 h117 => xcls h117 a2 12 ∧ wp_Model_blame z (fun v124 h123 => (v118 = v124 → (wp_Law_law_1074 z mc ms Q k23 a0 a1 a2 a3 x4 h123 (kk + mc119) (nn + ms120))) ∧ (¬ v118 = v124 → Q 0 h123)) a2 h117) a1 hp)) ∧ (¬ (v3 &&& 31) = 13 → (((v3 &&& 31) = 14 → (∃ v125, aI hp a0 0 (x4 + 1) = some v125 ∧ (∃ mc128 ms129, kk + mc128 ≤ mc ∧ nn + ms129 ≤ ms ∧ wp_Law_differs z mc128 ms129 (fun v127 h126 => ∃ v132, aI h126 a0 0 (x4 + 1) = some v132 ∧ (xcls h126 a2 12 ∧ wp_Model_differs z (fun v134 h133 => xcls h133 a2 12 ∧ wp_Model_thrown z (fun v136 h135 => (v136 = v127 → ((¬ v127 = 0 → (wp_Law_law_704 z mc ms Q k23 a0 a1 a2 a3 x4 h135 (kk + mc128) (nn + ms129))) ∧ (v127 = 0 → (∃ v137, aL h135 a3 3 0 = some v137 ∧ (((lg_cmp v137 (v134.toInt64)) = 0 → (wp_Law_law_704 z mc ms Q k23 a0 a1 a2 a3 x4 h135 (kk + mc128) (nn + ms129))) ∧ (¬ (lg_cmp v137 (v134.toInt64)) = 0 → Q 0 h135)))))) ∧ (¬ v136 = v127 → Q 0 h135)) a2 h133) a2 v132 h126)) a1 v125 a3 hp))) ∧ (¬ (v3 &&& 31) = 14 → (((v3 &&& 31) = 15 → (∃ v138, aI hp a0 0 (x4 + 1) = some v138 ∧ (∃ mc141 ms142, kk + mc141 ≤ mc ∧ nn + ms142 ≤ ms ∧ wp_Law_inductive z mc141 ms142 (fun v140 h139 => ∃ v145, aI h139 a0 0 (x4 + 1) = some v145 ∧ (xcls h139 a2 12 ∧ wp_Model_inductive z (fun v147 h146 => xcls h146 a2 12 ∧ wp_Model_thrown z (fun v150 h149 => (v150 = v140 → ((¬ v140 = 0 → (wp_Law_law_767 z mc ms Q k23 a0 a1 a2 a3 x4 h149 (kk + mc141) (nn + ms142))) ∧ (v140 = 0 → (∃ v151, aL h149 a3 3 0 = some v151 ∧ ((v147 = 0 → (wp_Law_law_761 z mc ms Q k23 a0 a1 a2 a3 x4 0 v151 h149 (kk + mc141) (nn + ms142))) ∧ (¬ v147 = 0 → (wp_Law_law_761 z mc ms Q k23 a0 a1 a2 a3 x4 1 v151 h149 (kk + mc141) (nn + ms142)))))))) ∧ (¬ v150 = v140 → Q 0 h149)) a2 h146) a2 v145 h139)) a1 v138 a3 hp))) ∧ (¬ (v3 &&& 31) = 15 → (((v3 &&& 31) = 16 → (∃ v152, aI hp a0 0 (x4 + 1) = some v152 ∧ (∃ mc155 ms156, kk + mc155 ≤ mc ∧ nn + ms156 ≤ ms ∧ wp_Law_pairs z mc155 ms156 (fun v154 h153 => ∃ v159, aI h153 a0 0 (x4 + 1) = some v159 ∧ (xcls h153 a2 12 ∧ wp_Model_pairs z (fun v161 h160 => xcls h160 a2 12 ∧ wp_Model_thrown z (fun v163 h162 => (v163 = v154 → ((¬ v154 = 0 → (wp_Law_law_823 z mc ms Q k23 a0 a1 a2 a3 x4 h162 (kk + mc155) (nn + ms156))) ∧ (v154 = 0 → (∃ v164, aL h162 a3 3 0 = some v164 ∧ (((lg_cmp v164 (v161.toInt64)) = 0 → (wp_Law_law_823 z mc ms Q k23 a0 a1 a2 a3 x4 h162 (kk + mc155) (nn + ms156))) ∧ (¬ (lg_cmp v164 (v161.toInt64)) = 0 → Q 0 h162)))))) ∧ (¬ v163 = v154 → Q 0 h162)) a2 h160) a2 v159 h153)) a1 v152 a3 hp))) ∧ (¬ (v3 &&& 31) = 16 → (((v3 &&& 31) = 17 → (∃ v165, aI hp a0 0 (x4 + 1) = some v165 ∧ (∃ v166, aI hp a0 0 (x4 + 2) = some v166 ∧ (∃ mc169 ms170, kk + mc169 ≤ mc ∧ nn + ms170 ≤ ms ∧ wp_Law_depth z mc169 ms170 (fun v168 h167 => ∃ v173, aI h167 a0 0 (x4 + 1) = some v173 ∧ (∃ v174, aI h167 a0 0 (x4 + 2) = some v174 ∧ (xcls h167 a2 12 ∧ wp_Model_depth z (fun v176 h175 => xcls h175 a2 12 ∧ wp_Model_thrown z (fun v178 h177 => (v178 = v168 → ((¬ v168 = 0 → (wp_Law_law_891 z mc ms Q k23 a0 a1 a2 a3 x4 h177 (kk + mc169) (nn + ms170))) ∧ (v168 = 0 → (∃ v179, aL h177 a3 3 0 = some v179 ∧ (((lg_cmp v179 (v176.toInt64)) = 0 → (wp_Law_law_891 z mc ms Q k23 a0 a1 a2 a3 x4 h177 (kk + mc169) (nn + ms170))) ∧ (¬ (lg_cmp v179 (v176.toInt64)) = 0 → Q 0 h177)))))) ∧ (¬ v178 = v168 → Q 0 h177)) a2 h175) a2 v173 v174 h167))) a1 v165 v166 a3 hp)))) ∧ (¬ (v3 &&& 31) = 17 → (((v3 &&& 31) = 18 → (∃ v180, aI hp a0 0 (x4 + 1) = some v180 ∧ (∃ v181, aI hp a0 0 (x4 + 2) = some v181 ∧ (∃ v182, aI hp a0 0 (x4 + 3) = some v182 ∧ (∃ v183, aI hp a0 0 (x4 + 4) = some v183 ∧ (∃ mc186 ms187, kk + mc186 ≤ mc ∧ nn + ms187 ≤ ms ∧ wp_Law_same z mc186 ms187 (fun v185 h184 => ∃ v190, aI h184 a0 0 (x4 + 1) = some v190 ∧ (∃ v191, aI h184 a0 0 (x4 + 2) = some v191 ∧ (∃ v192, aI h184 a0 0 (x4 + 3) = some v192 ∧ (∃ v193, aI h184 a0 0 (x4 + 4) = some v193 ∧ (xcls h184 a2 12 ∧ wp_Model_same z (fun v195 h194 => xcls h194 a2 12 ∧ wp_Model_thrown z (fun v198 h197 => (v198 = v185 → ((¬ v185 = 0 → (wp_Law_law_990 z mc ms Q k23 a0 a1 a2 a3 x4 h197 (kk + mc186) (nn + ms187))) ∧ (v185 = 0 → (∃ v199, aL h197 a3 3 0 = some v199 ∧ ((v195 = 0 → (wp_Law_law_984 z mc ms Q k23 a0 a1 a2 a3 x4 0 v199 h197 (kk + mc186) (nn + ms187))) ∧ (¬ v195 = 0 → (wp_Law_law_984 z mc ms Q k23 a0 a1 a2 a3 x4 1 v199 h197 (kk + mc186) (nn + ms187)))))))) ∧ (¬ v198 = v185 → Q 0 h197)) a2 h194) a2 v190 v191 v192 v193 h184))))) a1 v180 v181 v182 v183 a3 hp)))))) ∧ (¬ (v3 &&& 31) = 18 → (((v3 &&& 31) = 19 → (∃ v200, aI hp a0 0 (x4 + 1) = some v200 ∧ (∃ v201, aI hp a0 0 (x4 + 2) = some v201 ∧ (∃ mc204 ms205, kk + mc204 ≤ mc ∧ nn + ms205 ≤ ms ∧ wp_Law_twin z mc204 ms205 (fun v203 h202 => ∃ v208, aI h202 a0 0 (x4 + 1) = some v208 ∧ (∃ v209, aI h202 a0 0 (x4 + 2) = some v209 ∧ (xcls h202 a2 12 ∧ wp_Model_twin z (fun v211 h210 => xcls h210 a2 12 ∧ wp_Model_thrown z (fun v213 h212 => (v213 = v203 → ((¬ v203 = 0 → (wp_Law_law_1058 z mc ms Q k23 a0 a1 a2 a3 x4 h212 (kk + mc204) (nn + ms205))) ∧ (v203 = 0 → (∃ v214, aL h212 a3 3 0 = some v214 ∧ (((lg_cmp v214 (v211.toInt64)) = 0 → (wp_Law_law_1058 z mc ms Q k23 a0 a1 a2 a3 x4 h212 (kk + mc204) (nn + ms205))) ∧ (¬ (lg_cmp v214 (v211.toInt64)) = 0 → Q 0 h212)))))) ∧ (¬ v213 = v203 → Q 0 h212)) a2 h210) a2 v208 v209 h202))) a1 v200 v201 a3 hp)))) ∧ (¬ (v3 &&& 31) = 19 → (((v3 &&& 31) = 20 → (xcls hp a1 11 ∧ wp_Judge_doubts z (fun v216 h215 => xcls h215 a2 12 ∧ wp_Model_doubts z (fun v218 h217 => (v216 = v218 → wp_Law_law_1074 z mc ms Q k23 a0 a1 a2 a3 x4 h217 kk nn) ∧ (¬ v216 = v218 → Q 0 h217)) a2 h215) a1 hp)) ∧ (¬ (v3 &&& 31) = 20 → wp_Law_law_1074 z mc ms Q k23 a0 a1 a2 a3 x4 hp kk nn))))))))))))))))))))))))))))))))))))))))))))
set_option maxRecDepth 100000 in
def wp_Law_law_23 (z : Nat → Nat) (mc ms : Nat) (Q : Int32 → xh → Prop)  (a0 : Nat) (a1 : Nat) (a2 : Nat) (a3 : Nat) (x4 : Int32) (hp : xh) (kk nn : Nat) : Prop := ∃ f : Nat, xloop (fun k23 a => wp_Law_law_23_b z mc ms Q  k23 a.1 a.2.1 a.2.2.1 a.2.2.2.1 a.2.2.2.2.1 a.2.2.2.2.2.1 a.2.2.2.2.2.2.1 a.2.2.2.2.2.2.2) f (a0, a1, a2, a3, x4, hp, kk, nn)
set_option maxRecDepth 100000 in
set_option maxHeartbeats 4000000 in
theorem t_Law_law_23 {p : Program} {l : Launch} {e : Env} {s : State} {m : MethodId} {args : Array Value} {below : List Frame} {meth : Method} {c : Code} {G : xG} {z : Nat → Nat} {A : Nat → Prop} {Qw : State → Prop} {mc ms : Nat} {Q : Int32 → xh → Prop} {a0 : Nat} {a1 : Nat} {a2 : Nat} {a3 : Nat} {x4 : Int32} {hp : xh} {kk nn : Nat} (hfl : l.flags = flags0) (X : xX p l e (rt_Law_law mc ms) s m args below meth c G z A y_Law_law b_Law_law 7) (XT : xXT e s meth A) (hret : xRet p l e (rt_Law_law mc ms) s m args below meth c G A 7 Qw b_Law_law (some .boolean) (xqz Q))  (hkk : kk ≤ mc) (hnn : nn ≤ ms) (hf : wp_Law_law_23 z mc ms Q  a0 a1 a2 a3 x4 hp kk nn) : xE p l e (rt_Law_law mc ms) s m args below meth c G A 7 Qw kk nn hp 23 [(0, .ref a0), (1, .ref a1), (2, .ref a2), (3, .ref a3), (4, .int x4)] [] := by
  obtain ⟨f, hf⟩ := hf
  refine xloop_ind (F := fun k23 a => wp_Law_law_23_b z mc ms Q  k23 a.1 a.2.1 a.2.2.1 a.2.2.2.1 a.2.2.2.2.1 a.2.2.2.2.2.1 a.2.2.2.2.2.2.1 a.2.2.2.2.2.2.2) (E := fun a => a.2.2.2.2.2.2.1 ≤ mc → a.2.2.2.2.2.2.2 ≤ ms → xE p l e (rt_Law_law mc ms) s m args below meth c G A 7 Qw a.2.2.2.2.2.2.1 a.2.2.2.2.2.2.2 a.2.2.2.2.2.1 23 [(0, .ref (a.1)), (1, .ref (a.2.1)), (2, .ref (a.2.2.1)), (3, .ref (a.2.2.2.1)), (4, .int (a.2.2.2.2.1))] []) ?_ f (a0, a1, a2, a3, x4, hp, kk, nn) hf hkk hnn
  intro k23 hk a hf hkk hnn
  obtain ⟨a0, a1, a2, a3, x4, hp, kk, nn⟩ := a
  have hk23 : ∀ (a0 : Nat) (a1 : Nat) (a2 : Nat) (a3 : Nat) (x4 : Int32) (hp : xh) (kk nn : Nat), k23 (a0, a1, a2, a3, x4, hp, kk, nn) → kk ≤ mc → nn ≤ ms → xE p l e (rt_Law_law mc ms) s m args below meth c G A 7 Qw kk nn hp 23 [(0, .ref a0), (1, .ref a1), (2, .ref a2), (3, .ref a3), (4, .int x4)] [] := fun a0 a1 a2 a3 x4 hp kk nn h => hk (a0, a1, a2, a3, x4, hp, kk, nn) h
  have hf : wp_Law_law_23_b z mc ms Q  k23 a0 a1 a2 a3 x4 hp kk nn := hf
  unfold wp_Law_law_23_b at hf
  refine x_iload X (q := 4) d_Law_law_23 rfl 25 rfl ?_
  refine x_aload_n X (q := 0) d_Law_law_25 rfl 26 rfl ?_
  refine x_alen X hf (t := 0) rfl d_Law_law_26 27 rfl (fun v1 hf => ?_)
  refine x_bipush X (v := 6) d_Law_law_27 (by decide) 29 rfl ?_
  refine x_isub X d_Law_law_29 30 rfl ?_
  refine x_icmp_gt X hf d_Law_law_30 1080 33 (by decide) rfl (fun hf => ?_) (fun hf => ?_)
  · refine x_iconst X (v := 1) d_Law_law_1080 (by decide) 1081 rfl ?_
    exact hret _ _ _ _ _ (some (.int 1)) hkk hnn ⟨_, rfl, (Or.inr rfl), hf⟩ ⟨⟨_, rfl, xbl_nar (Or.inr rfl)⟩, d_Law_law_1081⟩
  · refine x_aload_n X (q := 0) d_Law_law_33 rfl 34 rfl ?_
    refine x_iload X (q := 4) d_Law_law_34 rfl 36 rfl ?_
    refine x_iald X hf d_Law_law_36 37 rfl (fun v3 hf => ?_)
    refine x_bipush X (v := 31) d_Law_law_37 (by decide) 39 rfl ?_
    refine x_iand X d_Law_law_39 40 rfl ?_
    refine x_ite hf (fun hx0 hf => ?_) (fun hx0 hf => ?_)
    · refine x_tswIn X hx0 (off := 100) d_Law_law_40 (by decide) (by decide) (by decide) 140 (by decide) ?_
      refine x_aload_n X (q := 1) d_Law_law_140 rfl 141 rfl ?_
      refine x_aload_n X (q := 0) d_Law_law_141 rfl 142 rfl ?_
      refine x_iload X (q := 4) d_Law_law_142 rfl 144 rfl ?_
      refine x_iconst X (v := 1) d_Law_law_144 (by decide) 145 rfl ?_
      refine x_iadd X d_Law_law_145 146 rfl ?_
      refine x_iald X hf d_Law_law_146 147 rfl (fun v4 hf => ?_)
      refine x_aload_n X (q := 0) d_Law_law_147 rfl 148 rfl ?_
      refine x_iload X (q := 4) d_Law_law_148 rfl 150 rfl ?_
      refine x_iconst X (v := 2) d_Law_law_150 (by decide) 151 rfl ?_
      refine x_iadd X d_Law_law_151 152 rfl ?_
      refine x_iald X hf d_Law_law_152 153 rfl (fun v5 hf => ?_)
      refine x_aload_n X (q := 0) d_Law_law_153 rfl 154 rfl ?_
      refine x_iload X (q := 4) d_Law_law_154 rfl 156 rfl ?_
      refine x_iconst X (v := 3) d_Law_law_156 (by decide) 157 rfl ?_
      refine x_iadd X d_Law_law_157 158 rfl ?_
      refine x_iald X hf d_Law_law_158 159 rfl (fun v6 hf => ?_)
      refine x_aload_n X (q := 0) d_Law_law_159 rfl 160 rfl ?_
      refine x_iload X (q := 4) d_Law_law_160 rfl 162 rfl ?_
      refine x_iconst X (v := 4) d_Law_law_162 (by decide) 163 rfl ?_
      refine x_iadd X d_Law_law_163 164 rfl ?_
      refine x_iald X hf d_Law_law_164 165 rfl (fun v7 hf => ?_)
      refine x_aload_n X (q := 0) d_Law_law_165 rfl 166 rfl ?_
      refine x_iload X (q := 4) d_Law_law_166 rfl 168 rfl ?_
      refine x_iconst X (v := 5) d_Law_law_168 (by decide) 169 rfl ?_
      refine x_iadd X d_Law_law_169 170 rfl ?_
      refine x_iald X hf d_Law_law_170 171 rfl (fun v8 hf => ?_)
      refine x_callV0v X (t_Judge_feed hf.2) hf.1 (ci := 11) rfl rfl lm_Law_49 im_Judge_feed sl_Judge_feed cd_Judge_feed in_Judge ds_Judge_feed rfl rfl (Nat.le_of_ble_eq_true rfl) (Nat.le_of_ble_eq_true rfl) (Nat.le_of_ble_eq_true rfl) rfl rfl hkk hnn d_Law_law_171 174 rfl (fun h9 hf => ?_)
      refine x_aload_n X (q := 2) d_Law_law_174 rfl 175 rfl ?_
      refine x_aload_n X (q := 0) d_Law_law_175 rfl 176 rfl ?_
      refine x_iload X (q := 4) d_Law_law_176 rfl 178 rfl ?_
      refine x_iconst X (v := 1) d_Law_law_178 (by decide) 179 rfl ?_
      refine x_iadd X d_Law_law_179 180 rfl ?_
      refine x_iald X hf d_Law_law_180 181 rfl (fun v10 hf => ?_)
      refine x_aload_n X (q := 0) d_Law_law_181 rfl 182 rfl ?_
      refine x_iload X (q := 4) d_Law_law_182 rfl 184 rfl ?_
      refine x_iconst X (v := 2) d_Law_law_184 (by decide) 185 rfl ?_
      refine x_iadd X d_Law_law_185 186 rfl ?_
      refine x_iald X hf d_Law_law_186 187 rfl (fun v11 hf => ?_)
      refine x_aload_n X (q := 0) d_Law_law_187 rfl 188 rfl ?_
      refine x_iload X (q := 4) d_Law_law_188 rfl 190 rfl ?_
      refine x_iconst X (v := 3) d_Law_law_190 (by decide) 191 rfl ?_
      refine x_iadd X d_Law_law_191 192 rfl ?_
      refine x_iald X hf d_Law_law_192 193 rfl (fun v12 hf => ?_)
      refine x_aload_n X (q := 0) d_Law_law_193 rfl 194 rfl ?_
      refine x_iload X (q := 4) d_Law_law_194 rfl 196 rfl ?_
      refine x_iconst X (v := 4) d_Law_law_196 (by decide) 197 rfl ?_
      refine x_iadd X d_Law_law_197 198 rfl ?_
      refine x_iald X hf d_Law_law_198 199 rfl (fun v13 hf => ?_)
      refine x_aload_n X (q := 0) d_Law_law_199 rfl 200 rfl ?_
      refine x_iload X (q := 4) d_Law_law_200 rfl 202 rfl ?_
      refine x_iconst X (v := 5) d_Law_law_202 (by decide) 203 rfl ?_
      refine x_iadd X d_Law_law_203 204 rfl ?_
      refine x_iald X hf d_Law_law_204 205 rfl (fun v14 hf => ?_)
      refine x_callV0v X (t_Model_feed hf.2) hf.1 (ci := 12) rfl rfl lm_Law_53 im_Model_feed sl_Model_feed cd_Model_feed in_Model ds_Model_feed rfl rfl (Nat.le_of_ble_eq_true rfl) (Nat.le_of_ble_eq_true rfl) (Nat.le_of_ble_eq_true rfl) rfl rfl hkk hnn d_Law_law_205 208 rfl (fun h15 hf => ?_)
      refine x_goto X d_Law_law_208 1074 (by decide) ?_
      exact x_sub [0, 1, 2, 3, 4] rfl (t_Law_law_1074 hfl X XT hret hk23 hkk hnn hf)
    refine x_ite hf (fun hx1 hf => ?_) (fun hx1 hf => ?_)
    · refine x_tswIn X hx1 (off := 171) d_Law_law_40 (by decide) (by decide) (by decide) 211 (by decide) ?_
      refine x_aload_n X (q := 1) d_Law_law_211 rfl 212 rfl ?_
      refine x_aload_n X (q := 0) d_Law_law_212 rfl 213 rfl ?_
      refine x_iload X (q := 4) d_Law_law_213 rfl 215 rfl ?_
      refine x_iconst X (v := 1) d_Law_law_215 (by decide) 216 rfl ?_
      refine x_iadd X d_Law_law_216 217 rfl ?_
      refine x_iald X hf d_Law_law_217 218 rfl (fun v16 hf => ?_)
      refine x_callV0i X (t_Judge_end hf.2) hf.1 (ci := 11) rfl rfl lm_Law_54 im_Judge_end sl_Judge_end cd_Judge_end in_Judge ds_Judge_end rfl rfl (Nat.le_of_ble_eq_true rfl) (Nat.le_of_ble_eq_true rfl) (Nat.le_of_ble_eq_true rfl) rfl rfl hkk hnn d_Law_law_218 221 rfl (fun v18 h17 hf => ?_)
      refine x_aload_n X (q := 2) d_Law_law_221 rfl 222 rfl ?_
      refine x_aload_n X (q := 0) d_Law_law_222 rfl 223 rfl ?_
      refine x_iload X (q := 4) d_Law_law_223 rfl 225 rfl ?_
      refine x_iconst X (v := 1) d_Law_law_225 (by decide) 226 rfl ?_
      refine x_iadd X d_Law_law_226 227 rfl ?_
      refine x_iald X hf d_Law_law_227 228 rfl (fun v19 hf => ?_)
      refine x_callV0i X (t_Model_end hf.2) hf.1 (ci := 12) rfl rfl lm_Law_57 im_Model_end sl_Model_end cd_Model_end in_Model ds_Model_end rfl rfl (Nat.le_of_ble_eq_true rfl) (Nat.le_of_ble_eq_true rfl) (Nat.le_of_ble_eq_true rfl) rfl rfl hkk hnn d_Law_law_228 231 rfl (fun v21 h20 hf => ?_)
      refine x_icmp_eq X hf d_Law_law_231 1074 234 (by decide) rfl (fun hf => ?_) (fun hf => ?_)
      · exact x_sub [0, 1, 2, 3, 4] rfl (t_Law_law_1074 hfl X XT hret hk23 hkk hnn hf)
      · refine x_iconst X (v := 0) d_Law_law_234 (by decide) 235 rfl ?_
        exact hret _ _ _ _ _ (some (.int 0)) hkk hnn ⟨_, rfl, (Or.inl rfl), hf⟩ ⟨⟨_, rfl, xbl_nar (Or.inl rfl)⟩, d_Law_law_235⟩
    refine x_ite hf (fun hx2 hf => ?_) (fun hx2 hf => ?_)
    · refine x_tswIn X hx2 (off := 196) d_Law_law_40 (by decide) (by decide) (by decide) 236 (by decide) ?_
      refine x_aload_n X (q := 1) d_Law_law_236 rfl 237 rfl ?_
      refine x_aload_n X (q := 0) d_Law_law_237 rfl 238 rfl ?_
      refine x_iload X (q := 4) d_Law_law_238 rfl 240 rfl ?_
      refine x_iconst X (v := 1) d_Law_law_240 (by decide) 241 rfl ?_
      refine x_iadd X d_Law_law_241 242 rfl ?_
      refine x_iald X hf d_Law_law_242 243 rfl (fun v22 hf => ?_)
      refine x_aload_n X (q := 3) d_Law_law_243 rfl 244 rfl ?_
      obtain ⟨mc25, ms26, hk27, hn28, hf⟩ := hf
      refine x_callSWi X XT (t_Law_load hfl hf) lm_Law_58 im_Law_load cd_Law_load in_Law ds_Law_load rfl rfl (Nat.le_of_ble_eq_true rfl) (Nat.le_of_ble_eq_true rfl) (Nat.le_of_ble_eq_true rfl) hk27 hn28 d_Law_law_244 247 rfl (fun v24 h23 hf => ?_)
      refine x_istore X (lv' := [(5, .int v24), (0, .ref a0), (1, .ref a1), (2, .ref a2), (3, .ref a3), (4, .int x4)]) d_Law_law_247 (by decide) rfl 249 rfl ?_
      refine x_aload_n X (q := 3) d_Law_law_249 rfl 250 rfl ?_
      refine x_aload_n X (q := 1) d_Law_law_250 rfl 251 rfl ?_
      refine x_iload X (q := 5) d_Law_law_251 rfl 253 rfl ?_
      refine x_iconst X (v := 1) d_Law_law_253 (by decide) 254 rfl ?_
      refine x_iadd X d_Law_law_254 255 rfl ?_
      refine x_iald X hf d_Law_law_255 256 rfl (fun v29 hf => ?_)
      refine x_callV0i X (t_Model_load hf.2) hf.1 (ci := 12) rfl rfl lm_Law_63 im_Model_load sl_Model_load cd_Model_load in_Model ds_Model_load rfl rfl (Nat.le_of_ble_eq_true rfl) (Nat.le_of_ble_eq_true rfl) (Nat.le_of_ble_eq_true rfl) rfl rfl hk27 hn28 d_Law_law_256 259 rfl (fun v31 h30 hf => ?_)
      refine x_istore X (lv' := [(6, .int v31), (5, .int v24), (0, .ref a0), (1, .ref a1), (2, .ref a2), (3, .ref a3), (4, .int x4)]) d_Law_law_259 (by decide) rfl 261 rfl ?_
      refine x_aload_n X (q := 4) d_Law_law_261 rfl 262 rfl ?_
      refine x_callV0i X (t_Model_thrown hf.2) hf.1 (ci := 12) rfl rfl lm_Law_64 im_Model_thrown sl_Model_thrown cd_Model_thrown in_Model ds_Model_thrown rfl rfl (Nat.le_of_ble_eq_true rfl) (Nat.le_of_ble_eq_true rfl) (Nat.le_of_ble_eq_true rfl) rfl rfl hk27 hn28 d_Law_law_262 265 rfl (fun v33 h32 hf => ?_)
      refine x_iload X (q := 1) d_Law_law_265 rfl 267 rfl ?_
      refine x_icmp_eq X hf d_Law_law_267 272 270 (by decide) rfl (fun hf => ?_) (fun hf => ?_)
      · refine x_iload X (q := 1) d_Law_law_272 rfl 274 rfl ?_
        refine x_if_ne X hf d_Law_law_274 289 277 (by decide) rfl (fun hf => ?_) (fun hf => ?_)
        · exact x_sub [2, 3, 4, 5, 6] rfl (t_Law_law_289 hfl X XT hret hk23 hk27 hn28 hf)
        · refine x_aload_n X (q := 5) d_Law_law_277 rfl 278 rfl ?_
          refine x_iconst X (v := 0) d_Law_law_278 (by decide) 279 rfl ?_
          refine x_lald X hf d_Law_law_279 280 rfl (fun v34 hf => ?_)
          refine x_iload X (q := 0) d_Law_law_280 rfl 282 rfl ?_
          refine x_i2l X d_Law_law_282 283 rfl ?_
          refine x_lcmp X d_Law_law_283 284 rfl ?_
          refine x_if_eq X hf d_Law_law_284 289 287 (by decide) rfl (fun hf => ?_) (fun hf => ?_)
          · exact x_sub [2, 3, 4, 5, 6] rfl (t_Law_law_289 hfl X XT hret hk23 hk27 hn28 hf)
          · refine x_iconst X (v := 0) d_Law_law_287 (by decide) 288 rfl ?_
            exact hret _ _ _ _ _ (some (.int 0)) hk27 hn28 ⟨_, rfl, (Or.inl rfl), hf⟩ ⟨⟨_, rfl, xbl_nar (Or.inl rfl)⟩, d_Law_law_288⟩
      · refine x_iconst X (v := 0) d_Law_law_270 (by decide) 271 rfl ?_
        exact hret _ _ _ _ _ (some (.int 0)) hk27 hn28 ⟨_, rfl, (Or.inl rfl), hf⟩ ⟨⟨_, rfl, xbl_nar (Or.inl rfl)⟩, d_Law_law_271⟩
    refine x_ite hf (fun hx3 hf => ?_) (fun hx3 hf => ?_)
    · refine x_tswIn X hx3 (off := 252) d_Law_law_40 (by decide) (by decide) (by decide) 292 (by decide) ?_
      refine x_aload_n X (q := 1) d_Law_law_292 rfl 293 rfl ?_
      refine x_aload_n X (q := 0) d_Law_law_293 rfl 294 rfl ?_
      refine x_iload X (q := 4) d_Law_law_294 rfl 296 rfl ?_
      refine x_iconst X (v := 1) d_Law_law_296 (by decide) 297 rfl ?_
      refine x_iadd X d_Law_law_297 298 rfl ?_
      refine x_iald X hf d_Law_law_298 299 rfl (fun v35 hf => ?_)
      refine x_callV0i X (t_Judge_fault hf.2) hf.1 (ci := 11) rfl rfl lm_Law_67 im_Judge_fault sl_Judge_fault cd_Judge_fault in_Judge ds_Judge_fault rfl rfl (Nat.le_of_ble_eq_true rfl) (Nat.le_of_ble_eq_true rfl) (Nat.le_of_ble_eq_true rfl) rfl rfl hkk hnn d_Law_law_299 302 rfl (fun v37 h36 hf => ?_)
      refine x_aload_n X (q := 2) d_Law_law_302 rfl 303 rfl ?_
      refine x_aload_n X (q := 0) d_Law_law_303 rfl 304 rfl ?_
      refine x_iload X (q := 4) d_Law_law_304 rfl 306 rfl ?_
      refine x_iconst X (v := 1) d_Law_law_306 (by decide) 307 rfl ?_
      refine x_iadd X d_Law_law_307 308 rfl ?_
      refine x_iald X hf d_Law_law_308 309 rfl (fun v38 hf => ?_)
      refine x_callV0i X (t_Model_fault hf.2) hf.1 (ci := 12) rfl rfl lm_Law_70 im_Model_fault sl_Model_fault cd_Model_fault in_Model ds_Model_fault rfl rfl (Nat.le_of_ble_eq_true rfl) (Nat.le_of_ble_eq_true rfl) (Nat.le_of_ble_eq_true rfl) rfl rfl hkk hnn d_Law_law_309 312 rfl (fun v40 h39 hf => ?_)
      refine x_icmp_eq X hf d_Law_law_312 1074 315 (by decide) rfl (fun hf => ?_) (fun hf => ?_)
      · exact x_sub [0, 1, 2, 3, 4] rfl (t_Law_law_1074 hfl X XT hret hk23 hkk hnn hf)
      · refine x_iconst X (v := 0) d_Law_law_315 (by decide) 316 rfl ?_
        exact hret _ _ _ _ _ (some (.int 0)) hkk hnn ⟨_, rfl, (Or.inl rfl), hf⟩ ⟨⟨_, rfl, xbl_nar (Or.inl rfl)⟩, d_Law_law_316⟩
    refine x_ite hf (fun hx4 hf => ?_) (fun hx4 hf => ?_)
    · refine x_tswIn X hx4 (off := 277) d_Law_law_40 (by decide) (by decide) (by decide) 317 (by decide) ?_
      refine x_aload_n X (q := 1) d_Law_law_317 rfl 318 rfl ?_
      refine x_aload_n X (q := 0) d_Law_law_318 rfl 319 rfl ?_
      refine x_iload X (q := 4) d_Law_law_319 rfl 321 rfl ?_
      refine x_iconst X (v := 1) d_Law_law_321 (by decide) 322 rfl ?_
      refine x_iadd X d_Law_law_322 323 rfl ?_
      refine x_iald X hf d_Law_law_323 324 rfl (fun v41 hf => ?_)
      refine x_aload_n X (q := 0) d_Law_law_324 rfl 325 rfl ?_
      refine x_iload X (q := 4) d_Law_law_325 rfl 327 rfl ?_
      refine x_iconst X (v := 2) d_Law_law_327 (by decide) 328 rfl ?_
      refine x_iadd X d_Law_law_328 329 rfl ?_
      refine x_iald X hf d_Law_law_329 330 rfl (fun v42 hf => ?_)
      refine x_callV0i X (t_Judge_many hf.2) hf.1 (ci := 11) rfl rfl lm_Law_71 im_Judge_many sl_Judge_many cd_Judge_many in_Judge ds_Judge_many rfl rfl (Nat.le_of_ble_eq_true rfl) (Nat.le_of_ble_eq_true rfl) (Nat.le_of_ble_eq_true rfl) rfl rfl hkk hnn d_Law_law_330 333 rfl (fun v44 h43 hf => ?_)
      refine x_aload_n X (q := 2) d_Law_law_333 rfl 334 rfl ?_
      refine x_aload_n X (q := 0) d_Law_law_334 rfl 335 rfl ?_
      refine x_iload X (q := 4) d_Law_law_335 rfl 337 rfl ?_
      refine x_iconst X (v := 1) d_Law_law_337 (by decide) 338 rfl ?_
      refine x_iadd X d_Law_law_338 339 rfl ?_
      refine x_iald X hf d_Law_law_339 340 rfl (fun v45 hf => ?_)
      refine x_aload_n X (q := 0) d_Law_law_340 rfl 341 rfl ?_
      refine x_iload X (q := 4) d_Law_law_341 rfl 343 rfl ?_
      refine x_iconst X (v := 2) d_Law_law_343 (by decide) 344 rfl ?_
      refine x_iadd X d_Law_law_344 345 rfl ?_
      refine x_iald X hf d_Law_law_345 346 rfl (fun v46 hf => ?_)
      refine x_callV0i X (t_Model_many hf.2) hf.1 (ci := 12) rfl rfl lm_Law_74 im_Model_many sl_Model_many cd_Model_many in_Model ds_Model_many rfl rfl (Nat.le_of_ble_eq_true rfl) (Nat.le_of_ble_eq_true rfl) (Nat.le_of_ble_eq_true rfl) rfl rfl hkk hnn d_Law_law_346 349 rfl (fun v48 h47 hf => ?_)
      refine x_icmp_eq X hf d_Law_law_349 1074 352 (by decide) rfl (fun hf => ?_) (fun hf => ?_)
      · exact x_sub [0, 1, 2, 3, 4] rfl (t_Law_law_1074 hfl X XT hret hk23 hkk hnn hf)
      · refine x_iconst X (v := 0) d_Law_law_352 (by decide) 353 rfl ?_
        exact hret _ _ _ _ _ (some (.int 0)) hkk hnn ⟨_, rfl, (Or.inl rfl), hf⟩ ⟨⟨_, rfl, xbl_nar (Or.inl rfl)⟩, d_Law_law_353⟩
    refine x_ite hf (fun hx5 hf => ?_) (fun hx5 hf => ?_)
    · refine x_tswIn X hx5 (off := 314) d_Law_law_40 (by decide) (by decide) (by decide) 354 (by decide) ?_
      refine x_aload_n X (q := 1) d_Law_law_354 rfl 355 rfl ?_
      refine x_aload_n X (q := 0) d_Law_law_355 rfl 356 rfl ?_
      refine x_iload X (q := 4) d_Law_law_356 rfl 358 rfl ?_
      refine x_iconst X (v := 1) d_Law_law_358 (by decide) 359 rfl ?_
      refine x_iadd X d_Law_law_359 360 rfl ?_
      refine x_iald X hf d_Law_law_360 361 rfl (fun v49 hf => ?_)
      refine x_aload_n X (q := 0) d_Law_law_361 rfl 362 rfl ?_
      refine x_iload X (q := 4) d_Law_law_362 rfl 364 rfl ?_
      refine x_iconst X (v := 2) d_Law_law_364 (by decide) 365 rfl ?_
      refine x_iadd X d_Law_law_365 366 rfl ?_
      refine x_iald X hf d_Law_law_366 367 rfl (fun v50 hf => ?_)
      refine x_aload_n X (q := 0) d_Law_law_367 rfl 368 rfl ?_
      refine x_iload X (q := 4) d_Law_law_368 rfl 370 rfl ?_
      refine x_iconst X (v := 3) d_Law_law_370 (by decide) 371 rfl ?_
      refine x_iadd X d_Law_law_371 372 rfl ?_
      refine x_iald X hf d_Law_law_372 373 rfl (fun v51 hf => ?_)
      refine x_aload_n X (q := 0) d_Law_law_373 rfl 374 rfl ?_
      refine x_iload X (q := 4) d_Law_law_374 rfl 376 rfl ?_
      refine x_iconst X (v := 4) d_Law_law_376 (by decide) 377 rfl ?_
      refine x_iadd X d_Law_law_377 378 rfl ?_
      refine x_iald X hf d_Law_law_378 379 rfl (fun v52 hf => ?_)
      refine x_callV0i X (t_Judge_symbol hf.2) hf.1 (ci := 11) rfl rfl lm_Law_75 im_Judge_symbol sl_Judge_symbol cd_Judge_symbol in_Judge ds_Judge_symbol rfl rfl (Nat.le_of_ble_eq_true rfl) (Nat.le_of_ble_eq_true rfl) (Nat.le_of_ble_eq_true rfl) rfl rfl hkk hnn d_Law_law_379 382 rfl (fun v54 h53 hf => ?_)
      refine x_aload_n X (q := 2) d_Law_law_382 rfl 383 rfl ?_
      refine x_aload_n X (q := 0) d_Law_law_383 rfl 384 rfl ?_
      refine x_iload X (q := 4) d_Law_law_384 rfl 386 rfl ?_
      refine x_iconst X (v := 1) d_Law_law_386 (by decide) 387 rfl ?_
      refine x_iadd X d_Law_law_387 388 rfl ?_
      refine x_iald X hf d_Law_law_388 389 rfl (fun v55 hf => ?_)
      refine x_aload_n X (q := 0) d_Law_law_389 rfl 390 rfl ?_
      refine x_iload X (q := 4) d_Law_law_390 rfl 392 rfl ?_
      refine x_iconst X (v := 2) d_Law_law_392 (by decide) 393 rfl ?_
      refine x_iadd X d_Law_law_393 394 rfl ?_
      refine x_iald X hf d_Law_law_394 395 rfl (fun v56 hf => ?_)
      refine x_aload_n X (q := 0) d_Law_law_395 rfl 396 rfl ?_
      refine x_iload X (q := 4) d_Law_law_396 rfl 398 rfl ?_
      refine x_iconst X (v := 3) d_Law_law_398 (by decide) 399 rfl ?_
      refine x_iadd X d_Law_law_399 400 rfl ?_
      refine x_iald X hf d_Law_law_400 401 rfl (fun v57 hf => ?_)
      refine x_aload_n X (q := 0) d_Law_law_401 rfl 402 rfl ?_
      refine x_iload X (q := 4) d_Law_law_402 rfl 404 rfl ?_
      refine x_iconst X (v := 4) d_Law_law_404 (by decide) 405 rfl ?_
      refine x_iadd X d_Law_law_405 406 rfl ?_
      refine x_iald X hf d_Law_law_406 407 rfl (fun v58 hf => ?_)
      refine x_callV0i X (t_Model_symbol hf.2) hf.1 (ci := 12) rfl rfl lm_Law_79 im_Model_symbol sl_Model_symbol cd_Model_symbol in_Model ds_Model_symbol rfl rfl (Nat.le_of_ble_eq_true rfl) (Nat.le_of_ble_eq_true rfl) (Nat.le_of_ble_eq_true rfl) rfl rfl hkk hnn d_Law_law_407 410 rfl (fun v60 h59 hf => ?_)
      refine x_icmp_eq X hf d_Law_law_410 1074 413 (by decide) rfl (fun hf => ?_) (fun hf => ?_)
      · exact x_sub [0, 1, 2, 3, 4] rfl (t_Law_law_1074 hfl X XT hret hk23 hkk hnn hf)
      · refine x_iconst X (v := 0) d_Law_law_413 (by decide) 414 rfl ?_
        exact hret _ _ _ _ _ (some (.int 0)) hkk hnn ⟨_, rfl, (Or.inl rfl), hf⟩ ⟨⟨_, rfl, xbl_nar (Or.inl rfl)⟩, d_Law_law_414⟩
    refine x_ite hf (fun hx6 hf => ?_) (fun hx6 hf => ?_)
    · refine x_tswIn X hx6 (off := 375) d_Law_law_40 (by decide) (by decide) (by decide) 415 (by decide) ?_
      refine x_aload_n X (q := 1) d_Law_law_415 rfl 416 rfl ?_
      refine x_callV0v X (t_Judge_reset hf.2) hf.1 (ci := 11) rfl rfl lm_Law_80 im_Judge_reset sl_Judge_reset cd_Judge_reset in_Judge ds_Judge_reset rfl rfl (Nat.le_of_ble_eq_true rfl) (Nat.le_of_ble_eq_true rfl) (Nat.le_of_ble_eq_true rfl) rfl rfl hkk hnn d_Law_law_416 419 rfl (fun h61 hf => ?_)
      refine x_aload_n X (q := 2) d_Law_law_419 rfl 420 rfl ?_
      refine x_callV0v X (t_Model_reset hf.2) hf.1 (ci := 12) rfl rfl lm_Law_83 im_Model_reset sl_Model_reset cd_Model_reset in_Model ds_Model_reset rfl rfl (Nat.le_of_ble_eq_true rfl) (Nat.le_of_ble_eq_true rfl) (Nat.le_of_ble_eq_true rfl) rfl rfl hkk hnn d_Law_law_420 423 rfl (fun h62 hf => ?_)
      refine x_goto X d_Law_law_423 1074 (by decide) ?_
      exact x_sub [0, 1, 2, 3, 4] rfl (t_Law_law_1074 hfl X XT hret hk23 hkk hnn hf)
    refine x_ite hf (fun hx7 hf => ?_) (fun hx7 hf => ?_)
    · refine x_tswIn X hx7 (off := 386) d_Law_law_40 (by decide) (by decide) (by decide) 426 (by decide) ?_
      refine x_aload_n X (q := 1) d_Law_law_426 rfl 427 rfl ?_
      refine x_aload_n X (q := 0) d_Law_law_427 rfl 428 rfl ?_
      refine x_iload X (q := 4) d_Law_law_428 rfl 430 rfl ?_
      refine x_iconst X (v := 1) d_Law_law_430 (by decide) 431 rfl ?_
      refine x_iadd X d_Law_law_431 432 rfl ?_
      refine x_iald X hf d_Law_law_432 433 rfl (fun v63 hf => ?_)
      refine x_callV0i X (t_Judge_state hf.2) hf.1 (ci := 11) rfl rfl lm_Law_84 im_Judge_state sl_Judge_state cd_Judge_state in_Judge ds_Judge_state rfl rfl (Nat.le_of_ble_eq_true rfl) (Nat.le_of_ble_eq_true rfl) (Nat.le_of_ble_eq_true rfl) rfl rfl hkk hnn d_Law_law_433 436 rfl (fun v65 h64 hf => ?_)
      refine x_aload_n X (q := 2) d_Law_law_436 rfl 437 rfl ?_
      refine x_aload_n X (q := 0) d_Law_law_437 rfl 438 rfl ?_
      refine x_iload X (q := 4) d_Law_law_438 rfl 440 rfl ?_
      refine x_iconst X (v := 1) d_Law_law_440 (by decide) 441 rfl ?_
      refine x_iadd X d_Law_law_441 442 rfl ?_
      refine x_iald X hf d_Law_law_442 443 rfl (fun v66 hf => ?_)
      refine x_callV0i X (t_Model_state hf.2) hf.1 (ci := 12) rfl rfl lm_Law_87 im_Model_state sl_Model_state cd_Model_state in_Model ds_Model_state rfl rfl (Nat.le_of_ble_eq_true rfl) (Nat.le_of_ble_eq_true rfl) (Nat.le_of_ble_eq_true rfl) rfl rfl hkk hnn d_Law_law_443 446 rfl (fun v68 h67 hf => ?_)
      refine x_icmp_eq X hf d_Law_law_446 1074 449 (by decide) rfl (fun hf => ?_) (fun hf => ?_)
      · exact x_sub [0, 1, 2, 3, 4] rfl (t_Law_law_1074 hfl X XT hret hk23 hkk hnn hf)
      · refine x_iconst X (v := 0) d_Law_law_449 (by decide) 450 rfl ?_
        exact hret _ _ _ _ _ (some (.int 0)) hkk hnn ⟨_, rfl, (Or.inl rfl), hf⟩ ⟨⟨_, rfl, xbl_nar (Or.inl rfl)⟩, d_Law_law_450⟩
    refine x_ite hf (fun hx8 hf => ?_) (fun hx8 hf => ?_)
    · refine x_tswIn X hx8 (off := 411) d_Law_law_40 (by decide) (by decide) (by decide) 451 (by decide) ?_
      refine x_aload_n X (q := 1) d_Law_law_451 rfl 452 rfl ?_
      refine x_aload_n X (q := 0) d_Law_law_452 rfl 453 rfl ?_
      refine x_iload X (q := 4) d_Law_law_453 rfl 455 rfl ?_
      refine x_iconst X (v := 1) d_Law_law_455 (by decide) 456 rfl ?_
      refine x_iadd X d_Law_law_456 457 rfl ?_
      refine x_iald X hf d_Law_law_457 458 rfl (fun v69 hf => ?_)
      refine x_aload_n X (q := 0) d_Law_law_458 rfl 459 rfl ?_
      refine x_iload X (q := 4) d_Law_law_459 rfl 461 rfl ?_
      refine x_iconst X (v := 2) d_Law_law_461 (by decide) 462 rfl ?_
      refine x_iadd X d_Law_law_462 463 rfl ?_
      refine x_iald X hf d_Law_law_463 464 rfl (fun v70 hf => ?_)
      refine x_aload_n X (q := 0) d_Law_law_464 rfl 465 rfl ?_
      refine x_iload X (q := 4) d_Law_law_465 rfl 467 rfl ?_
      refine x_iconst X (v := 3) d_Law_law_467 (by decide) 468 rfl ?_
      refine x_iadd X d_Law_law_468 469 rfl ?_
      refine x_iald X hf d_Law_law_469 470 rfl (fun v71 hf => ?_)
      refine x_callV0i X (t_Judge_value hf.2) hf.1 (ci := 11) rfl rfl lm_Law_88 im_Judge_value sl_Judge_value cd_Judge_value in_Judge ds_Judge_value rfl rfl (Nat.le_of_ble_eq_true rfl) (Nat.le_of_ble_eq_true rfl) (Nat.le_of_ble_eq_true rfl) rfl rfl hkk hnn d_Law_law_470 473 rfl (fun v73 h72 hf => ?_)
      refine x_aload_n X (q := 2) d_Law_law_473 rfl 474 rfl ?_
      refine x_aload_n X (q := 0) d_Law_law_474 rfl 475 rfl ?_
      refine x_iload X (q := 4) d_Law_law_475 rfl 477 rfl ?_
      refine x_iconst X (v := 1) d_Law_law_477 (by decide) 478 rfl ?_
      refine x_iadd X d_Law_law_478 479 rfl ?_
      refine x_iald X hf d_Law_law_479 480 rfl (fun v74 hf => ?_)
      refine x_aload_n X (q := 0) d_Law_law_480 rfl 481 rfl ?_
      refine x_iload X (q := 4) d_Law_law_481 rfl 483 rfl ?_
      refine x_iconst X (v := 2) d_Law_law_483 (by decide) 484 rfl ?_
      refine x_iadd X d_Law_law_484 485 rfl ?_
      refine x_iald X hf d_Law_law_485 486 rfl (fun v75 hf => ?_)
      refine x_aload_n X (q := 0) d_Law_law_486 rfl 487 rfl ?_
      refine x_iload X (q := 4) d_Law_law_487 rfl 489 rfl ?_
      refine x_iconst X (v := 3) d_Law_law_489 (by decide) 490 rfl ?_
      refine x_iadd X d_Law_law_490 491 rfl ?_
      refine x_iald X hf d_Law_law_491 492 rfl (fun v76 hf => ?_)
      refine x_callV0i X (t_Model_value hf.2) hf.1 (ci := 12) rfl rfl lm_Law_92 im_Model_value sl_Model_value cd_Model_value in_Model ds_Model_value rfl rfl (Nat.le_of_ble_eq_true rfl) (Nat.le_of_ble_eq_true rfl) (Nat.le_of_ble_eq_true rfl) rfl rfl hkk hnn d_Law_law_492 495 rfl (fun v78 h77 hf => ?_)
      refine x_icmp_eq X hf d_Law_law_495 1074 498 (by decide) rfl (fun hf => ?_) (fun hf => ?_)
      · exact x_sub [0, 1, 2, 3, 4] rfl (t_Law_law_1074 hfl X XT hret hk23 hkk hnn hf)
      · refine x_iconst X (v := 0) d_Law_law_498 (by decide) 499 rfl ?_
        exact hret _ _ _ _ _ (some (.int 0)) hkk hnn ⟨_, rfl, (Or.inl rfl), hf⟩ ⟨⟨_, rfl, xbl_nar (Or.inl rfl)⟩, d_Law_law_499⟩
    refine x_ite hf (fun hx9 hf => ?_) (fun hx9 hf => ?_)
    · refine x_tswIn X hx9 (off := 460) d_Law_law_40 (by decide) (by decide) (by decide) 500 (by decide) ?_
      refine x_aload_n X (q := 1) d_Law_law_500 rfl 501 rfl ?_
      refine x_aload_n X (q := 0) d_Law_law_501 rfl 502 rfl ?_
      refine x_iload X (q := 4) d_Law_law_502 rfl 504 rfl ?_
      refine x_iconst X (v := 1) d_Law_law_504 (by decide) 505 rfl ?_
      refine x_iadd X d_Law_law_505 506 rfl ?_
      refine x_iald X hf d_Law_law_506 507 rfl (fun v79 hf => ?_)
      refine x_callV0i X (t_Judge_step hf.2) hf.1 (ci := 11) rfl rfl lm_Law_93 im_Judge_step sl_Judge_step cd_Judge_step in_Judge ds_Judge_step rfl rfl (Nat.le_of_ble_eq_true rfl) (Nat.le_of_ble_eq_true rfl) (Nat.le_of_ble_eq_true rfl) rfl rfl hkk hnn d_Law_law_507 510 rfl (fun v81 h80 hf => ?_)
      refine x_aload_n X (q := 2) d_Law_law_510 rfl 511 rfl ?_
      refine x_aload_n X (q := 0) d_Law_law_511 rfl 512 rfl ?_
      refine x_iload X (q := 4) d_Law_law_512 rfl 514 rfl ?_
      refine x_iconst X (v := 1) d_Law_law_514 (by decide) 515 rfl ?_
      refine x_iadd X d_Law_law_515 516 rfl ?_
      refine x_iald X hf d_Law_law_516 517 rfl (fun v82 hf => ?_)
      refine x_callV0i X (t_Model_step hf.2) hf.1 (ci := 12) rfl rfl lm_Law_96 im_Model_step sl_Model_step cd_Model_step in_Model ds_Model_step rfl rfl (Nat.le_of_ble_eq_true rfl) (Nat.le_of_ble_eq_true rfl) (Nat.le_of_ble_eq_true rfl) rfl rfl hkk hnn d_Law_law_517 520 rfl (fun v84 h83 hf => ?_)
      refine x_icmp_eq X hf d_Law_law_520 1074 523 (by decide) rfl (fun hf => ?_) (fun hf => ?_)
      · exact x_sub [0, 1, 2, 3, 4] rfl (t_Law_law_1074 hfl X XT hret hk23 hkk hnn hf)
      · refine x_iconst X (v := 0) d_Law_law_523 (by decide) 524 rfl ?_
        exact hret _ _ _ _ _ (some (.int 0)) hkk hnn ⟨_, rfl, (Or.inl rfl), hf⟩ ⟨⟨_, rfl, xbl_nar (Or.inl rfl)⟩, d_Law_law_524⟩
    refine x_ite hf (fun hx10 hf => ?_) (fun hx10 hf => ?_)
    · refine x_tswIn X hx10 (off := 485) d_Law_law_40 (by decide) (by decide) (by decide) 525 (by decide) ?_
      refine x_aload_n X (q := 1) d_Law_law_525 rfl 526 rfl ?_
      refine x_aload_n X (q := 3) d_Law_law_526 rfl 527 rfl ?_
      obtain ⟨mc87, ms88, hk89, hn90, hf⟩ := hf
      refine x_callSWi X XT (t_Law_gates hfl hf) lm_Law_97 im_Law_gates cd_Law_gates in_Law ds_Law_gates rfl rfl (Nat.le_of_ble_eq_true rfl) (Nat.le_of_ble_eq_true rfl) (Nat.le_of_ble_eq_true rfl) hk89 hn90 d_Law_law_527 530 rfl (fun v86 h85 hf => ?_)
      refine x_istore X (lv' := [(5, .int v86), (0, .ref a0), (1, .ref a1), (2, .ref a2), (3, .ref a3), (4, .int x4)]) d_Law_law_530 (by decide) rfl 532 rfl ?_
      refine x_aload_n X (q := 3) d_Law_law_532 rfl 533 rfl ?_
      refine x_callV0i X (t_Model_gates hf.2) hf.1 (ci := 12) rfl rfl lm_Law_100 im_Model_gates sl_Model_gates cd_Model_gates in_Model ds_Model_gates rfl rfl (Nat.le_of_ble_eq_true rfl) (Nat.le_of_ble_eq_true rfl) (Nat.le_of_ble_eq_true rfl) rfl rfl hk89 hn90 d_Law_law_533 536 rfl (fun v92 h91 hf => ?_)
      refine x_istore X (lv' := [(6, .int v92), (5, .int v86), (0, .ref a0), (1, .ref a1), (2, .ref a2), (3, .ref a3), (4, .int x4)]) d_Law_law_536 (by decide) rfl 538 rfl ?_
      refine x_aload_n X (q := 4) d_Law_law_538 rfl 539 rfl ?_
      refine x_callV0i X (t_Model_thrown hf.2) hf.1 (ci := 12) rfl rfl lm_Law_64 im_Model_thrown sl_Model_thrown cd_Model_thrown in_Model ds_Model_thrown rfl rfl (Nat.le_of_ble_eq_true rfl) (Nat.le_of_ble_eq_true rfl) (Nat.le_of_ble_eq_true rfl) rfl rfl hk89 hn90 d_Law_law_539 542 rfl (fun v94 h93 hf => ?_)
      refine x_iload X (q := 1) d_Law_law_542 rfl 544 rfl ?_
      refine x_icmp_eq X hf d_Law_law_544 549 547 (by decide) rfl (fun hf => ?_) (fun hf => ?_)
      · refine x_iload X (q := 1) d_Law_law_549 rfl 551 rfl ?_
        refine x_if_ne X hf d_Law_law_551 566 554 (by decide) rfl (fun hf => ?_) (fun hf => ?_)
        · exact x_sub [2, 3, 4, 5, 6] rfl (t_Law_law_566 hfl X XT hret hk23 hk89 hn90 hf)
        · refine x_aload_n X (q := 5) d_Law_law_554 rfl 555 rfl ?_
          refine x_iconst X (v := 0) d_Law_law_555 (by decide) 556 rfl ?_
          refine x_lald X hf d_Law_law_556 557 rfl (fun v95 hf => ?_)
          refine x_iload X (q := 0) d_Law_law_557 rfl 559 rfl ?_
          refine x_i2l X d_Law_law_559 560 rfl ?_
          refine x_lcmp X d_Law_law_560 561 rfl ?_
          refine x_if_eq X hf d_Law_law_561 566 564 (by decide) rfl (fun hf => ?_) (fun hf => ?_)
          · exact x_sub [2, 3, 4, 5, 6] rfl (t_Law_law_566 hfl X XT hret hk23 hk89 hn90 hf)
          · refine x_iconst X (v := 0) d_Law_law_564 (by decide) 565 rfl ?_
            exact hret _ _ _ _ _ (some (.int 0)) hk89 hn90 ⟨_, rfl, (Or.inl rfl), hf⟩ ⟨⟨_, rfl, xbl_nar (Or.inl rfl)⟩, d_Law_law_565⟩
      · refine x_iconst X (v := 0) d_Law_law_547 (by decide) 548 rfl ?_
        exact hret _ _ _ _ _ (some (.int 0)) hk89 hn90 ⟨_, rfl, (Or.inl rfl), hf⟩ ⟨⟨_, rfl, xbl_nar (Or.inl rfl)⟩, d_Law_law_548⟩
    refine x_ite hf (fun hx11 hf => ?_) (fun hx11 hf => ?_)
    · refine x_tswIn X hx11 (off := 529) d_Law_law_40 (by decide) (by decide) (by decide) 569 (by decide) ?_
      refine x_aload_n X (q := 1) d_Law_law_569 rfl 570 rfl ?_
      refine x_aload_n X (q := 3) d_Law_law_570 rfl 571 rfl ?_
      obtain ⟨mc98, ms99, hk100, hn101, hf⟩ := hf
      refine x_callSWi X XT (t_Law_judge hfl hf) lm_Law_101 im_Law_judge cd_Law_judge in_Law ds_Law_judge rfl rfl (Nat.le_of_ble_eq_true rfl) (Nat.le_of_ble_eq_true rfl) (Nat.le_of_ble_eq_true rfl) hk100 hn101 d_Law_law_571 574 rfl (fun v97 h96 hf => ?_)
      refine x_istore X (lv' := [(5, .int v97), (0, .ref a0), (1, .ref a1), (2, .ref a2), (3, .ref a3), (4, .int x4)]) d_Law_law_574 (by decide) rfl 576 rfl ?_
      refine x_aload_n X (q := 3) d_Law_law_576 rfl 577 rfl ?_
      refine x_callV0i X (t_Model_judge hf.2) hf.1 (ci := 12) rfl rfl lm_Law_103 im_Model_judge sl_Model_judge cd_Model_judge in_Model ds_Model_judge rfl rfl (Nat.le_of_ble_eq_true rfl) (Nat.le_of_ble_eq_true rfl) (Nat.le_of_ble_eq_true rfl) rfl rfl hk100 hn101 d_Law_law_577 580 rfl (fun v103 h102 hf => ?_)
      refine x_istore X (lv' := [(6, .int v103), (5, .int v97), (0, .ref a0), (1, .ref a1), (2, .ref a2), (3, .ref a3), (4, .int x4)]) d_Law_law_580 (by decide) rfl 582 rfl ?_
      refine x_aload_n X (q := 4) d_Law_law_582 rfl 583 rfl ?_
      refine x_callV0i X (t_Model_thrown hf.2) hf.1 (ci := 12) rfl rfl lm_Law_64 im_Model_thrown sl_Model_thrown cd_Model_thrown in_Model ds_Model_thrown rfl rfl (Nat.le_of_ble_eq_true rfl) (Nat.le_of_ble_eq_true rfl) (Nat.le_of_ble_eq_true rfl) rfl rfl hk100 hn101 d_Law_law_583 586 rfl (fun v105 h104 hf => ?_)
      refine x_iload X (q := 1) d_Law_law_586 rfl 588 rfl ?_
      refine x_icmp_eq X hf d_Law_law_588 593 591 (by decide) rfl (fun hf => ?_) (fun hf => ?_)
      · refine x_iload X (q := 1) d_Law_law_593 rfl 595 rfl ?_
        refine x_if_ne X hf d_Law_law_595 610 598 (by decide) rfl (fun hf => ?_) (fun hf => ?_)
        · exact x_sub [2, 3, 4, 5, 6] rfl (t_Law_law_610 hfl X XT hret hk23 hk100 hn101 hf)
        · refine x_aload_n X (q := 5) d_Law_law_598 rfl 599 rfl ?_
          refine x_iconst X (v := 0) d_Law_law_599 (by decide) 600 rfl ?_
          refine x_lald X hf d_Law_law_600 601 rfl (fun v106 hf => ?_)
          refine x_iload X (q := 0) d_Law_law_601 rfl 603 rfl ?_
          refine x_i2l X d_Law_law_603 604 rfl ?_
          refine x_lcmp X d_Law_law_604 605 rfl ?_
          refine x_if_eq X hf d_Law_law_605 610 608 (by decide) rfl (fun hf => ?_) (fun hf => ?_)
          · exact x_sub [2, 3, 4, 5, 6] rfl (t_Law_law_610 hfl X XT hret hk23 hk100 hn101 hf)
          · refine x_iconst X (v := 0) d_Law_law_608 (by decide) 609 rfl ?_
            exact hret _ _ _ _ _ (some (.int 0)) hk100 hn101 ⟨_, rfl, (Or.inl rfl), hf⟩ ⟨⟨_, rfl, xbl_nar (Or.inl rfl)⟩, d_Law_law_609⟩
      · refine x_iconst X (v := 0) d_Law_law_591 (by decide) 592 rfl ?_
        exact hret _ _ _ _ _ (some (.int 0)) hk100 hn101 ⟨_, rfl, (Or.inl rfl), hf⟩ ⟨⟨_, rfl, xbl_nar (Or.inl rfl)⟩, d_Law_law_592⟩
    refine x_ite hf (fun hx12 hf => ?_) (fun hx12 hf => ?_)
    · refine x_tswIn X hx12 (off := 573) d_Law_law_40 (by decide) (by decide) (by decide) 613 (by decide) ?_
      refine x_aload_n X (q := 1) d_Law_law_613 rfl 614 rfl ?_
      refine x_aload_n X (q := 0) d_Law_law_614 rfl 615 rfl ?_
      refine x_iload X (q := 4) d_Law_law_615 rfl 617 rfl ?_
      refine x_iconst X (v := 1) d_Law_law_617 (by decide) 618 rfl ?_
      refine x_iadd X d_Law_law_618 619 rfl ?_
      refine x_iald X hf d_Law_law_619 620 rfl (fun v107 hf => ?_)
      obtain ⟨mc110, ms111, hk112, hn113, hf⟩ := hf
      refine x_callVi X (t_Judge_witness hf.2) hf.1 (ci := 11) rfl rfl lm_Law_104 im_Judge_witness sl_Judge_witness cd_Judge_witness in_Judge ds_Judge_witness rfl rfl (Nat.le_of_ble_eq_true rfl) (Nat.le_of_ble_eq_true rfl) (Nat.le_of_ble_eq_true rfl) hk112 hn113 d_Law_law_620 623 rfl (fun v109 h108 hf => ?_)
      refine x_aload_n X (q := 2) d_Law_law_623 rfl 624 rfl ?_
      refine x_aload_n X (q := 0) d_Law_law_624 rfl 625 rfl ?_
      refine x_iload X (q := 4) d_Law_law_625 rfl 627 rfl ?_
      refine x_iconst X (v := 1) d_Law_law_627 (by decide) 628 rfl ?_
      refine x_iadd X d_Law_law_628 629 rfl ?_
      refine x_iald X hf d_Law_law_629 630 rfl (fun v114 hf => ?_)
      refine x_callV0i X (t_Model_witness hf.2) hf.1 (ci := 12) rfl rfl lm_Law_107 im_Model_witness sl_Model_witness cd_Model_witness in_Model ds_Model_witness rfl rfl (Nat.le_of_ble_eq_true rfl) (Nat.le_of_ble_eq_true rfl) (Nat.le_of_ble_eq_true rfl) rfl rfl hk112 hn113 d_Law_law_630 633 rfl (fun v116 h115 hf => ?_)
      refine x_icmp_eq X hf d_Law_law_633 1074 636 (by decide) rfl (fun hf => ?_) (fun hf => ?_)
      · exact x_sub [0, 1, 2, 3, 4] rfl (t_Law_law_1074 hfl X XT hret hk23 hk112 hn113 hf)
      · refine x_iconst X (v := 0) d_Law_law_636 (by decide) 637 rfl ?_
        exact hret _ _ _ _ _ (some (.int 0)) hk112 hn113 ⟨_, rfl, (Or.inl rfl), hf⟩ ⟨⟨_, rfl, xbl_nar (Or.inl rfl)⟩, d_Law_law_637⟩
    refine x_ite hf (fun hx13 hf => ?_) (fun hx13 hf => ?_)
    · refine x_tswIn X hx13 (off := 598) d_Law_law_40 (by decide) (by decide) (by decide) 638 (by decide) ?_
      refine x_aload_n X (q := 1) d_Law_law_638 rfl 639 rfl ?_
      obtain ⟨mc119, ms120, hk121, hn122, hf⟩ := hf
      refine x_callVi X (t_Judge_blame hf.2) hf.1 (ci := 11) rfl rfl lm_Law_108 im_Judge_blame sl_Judge_blame cd_Judge_blame in_Judge ds_Judge_blame rfl rfl (Nat.le_of_ble_eq_true rfl) (Nat.le_of_ble_eq_true rfl) (Nat.le_of_ble_eq_true rfl) hk121 hn122 d_Law_law_639 642 rfl (fun v118 h117 hf => ?_)
      refine x_aload_n X (q := 2) d_Law_law_642 rfl 643 rfl ?_
      refine x_callV0i X (t_Model_blame hf.2) hf.1 (ci := 12) rfl rfl lm_Law_111 im_Model_blame sl_Model_blame cd_Model_blame in_Model ds_Model_blame rfl rfl (Nat.le_of_ble_eq_true rfl) (Nat.le_of_ble_eq_true rfl) (Nat.le_of_ble_eq_true rfl) rfl rfl hk121 hn122 d_Law_law_643 646 rfl (fun v124 h123 hf => ?_)
      refine x_icmp_eq X hf d_Law_law_646 1074 649 (by decide) rfl (fun hf => ?_) (fun hf => ?_)
      · exact x_sub [0, 1, 2, 3, 4] rfl (t_Law_law_1074 hfl X XT hret hk23 hk121 hn122 hf)
      · refine x_iconst X (v := 0) d_Law_law_649 (by decide) 650 rfl ?_
        exact hret _ _ _ _ _ (some (.int 0)) hk121 hn122 ⟨_, rfl, (Or.inl rfl), hf⟩ ⟨⟨_, rfl, xbl_nar (Or.inl rfl)⟩, d_Law_law_650⟩
    refine x_ite hf (fun hx14 hf => ?_) (fun hx14 hf => ?_)
    · refine x_tswIn X hx14 (off := 611) d_Law_law_40 (by decide) (by decide) (by decide) 651 (by decide) ?_
      refine x_aload_n X (q := 1) d_Law_law_651 rfl 652 rfl ?_
      refine x_aload_n X (q := 0) d_Law_law_652 rfl 653 rfl ?_
      refine x_iload X (q := 4) d_Law_law_653 rfl 655 rfl ?_
      refine x_iconst X (v := 1) d_Law_law_655 (by decide) 656 rfl ?_
      refine x_iadd X d_Law_law_656 657 rfl ?_
      refine x_iald X hf d_Law_law_657 658 rfl (fun v125 hf => ?_)
      refine x_aload_n X (q := 3) d_Law_law_658 rfl 659 rfl ?_
      obtain ⟨mc128, ms129, hk130, hn131, hf⟩ := hf
      refine x_callSWi X XT (t_Law_differs hfl hf) lm_Law_112 im_Law_differs cd_Law_differs in_Law ds_Law_differs rfl rfl (Nat.le_of_ble_eq_true rfl) (Nat.le_of_ble_eq_true rfl) (Nat.le_of_ble_eq_true rfl) hk130 hn131 d_Law_law_659 662 rfl (fun v127 h126 hf => ?_)
      refine x_istore X (lv' := [(5, .int v127), (0, .ref a0), (1, .ref a1), (2, .ref a2), (3, .ref a3), (4, .int x4)]) d_Law_law_662 (by decide) rfl 664 rfl ?_
      refine x_aload_n X (q := 3) d_Law_law_664 rfl 665 rfl ?_
      refine x_aload_n X (q := 1) d_Law_law_665 rfl 666 rfl ?_
      refine x_iload X (q := 5) d_Law_law_666 rfl 668 rfl ?_
      refine x_iconst X (v := 1) d_Law_law_668 (by decide) 669 rfl ?_
      refine x_iadd X d_Law_law_669 670 rfl ?_
      refine x_iald X hf d_Law_law_670 671 rfl (fun v132 hf => ?_)
      refine x_callV0i X (t_Model_differs hf.2) hf.1 (ci := 12) rfl rfl lm_Law_114 im_Model_differs sl_Model_differs cd_Model_differs in_Model ds_Model_differs rfl rfl (Nat.le_of_ble_eq_true rfl) (Nat.le_of_ble_eq_true rfl) (Nat.le_of_ble_eq_true rfl) rfl rfl hk130 hn131 d_Law_law_671 674 rfl (fun v134 h133 hf => ?_)
      refine x_istore X (lv' := [(6, .int v134), (5, .int v127), (0, .ref a0), (1, .ref a1), (2, .ref a2), (3, .ref a3), (4, .int x4)]) d_Law_law_674 (by decide) rfl 676 rfl ?_
      refine x_aload_n X (q := 4) d_Law_law_676 rfl 677 rfl ?_
      refine x_callV0i X (t_Model_thrown hf.2) hf.1 (ci := 12) rfl rfl lm_Law_64 im_Model_thrown sl_Model_thrown cd_Model_thrown in_Model ds_Model_thrown rfl rfl (Nat.le_of_ble_eq_true rfl) (Nat.le_of_ble_eq_true rfl) (Nat.le_of_ble_eq_true rfl) rfl rfl hk130 hn131 d_Law_law_677 680 rfl (fun v136 h135 hf => ?_)
      refine x_iload X (q := 1) d_Law_law_680 rfl 682 rfl ?_
      refine x_icmp_eq X hf d_Law_law_682 687 685 (by decide) rfl (fun hf => ?_) (fun hf => ?_)
      · refine x_iload X (q := 1) d_Law_law_687 rfl 689 rfl ?_
        refine x_if_ne X hf d_Law_law_689 704 692 (by decide) rfl (fun hf => ?_) (fun hf => ?_)
        · exact x_sub [2, 3, 4, 5, 6] rfl (t_Law_law_704 hfl X XT hret hk23 hk130 hn131 hf)
        · refine x_aload_n X (q := 5) d_Law_law_692 rfl 693 rfl ?_
          refine x_iconst X (v := 0) d_Law_law_693 (by decide) 694 rfl ?_
          refine x_lald X hf d_Law_law_694 695 rfl (fun v137 hf => ?_)
          refine x_iload X (q := 0) d_Law_law_695 rfl 697 rfl ?_
          refine x_i2l X d_Law_law_697 698 rfl ?_
          refine x_lcmp X d_Law_law_698 699 rfl ?_
          refine x_if_eq X hf d_Law_law_699 704 702 (by decide) rfl (fun hf => ?_) (fun hf => ?_)
          · exact x_sub [2, 3, 4, 5, 6] rfl (t_Law_law_704 hfl X XT hret hk23 hk130 hn131 hf)
          · refine x_iconst X (v := 0) d_Law_law_702 (by decide) 703 rfl ?_
            exact hret _ _ _ _ _ (some (.int 0)) hk130 hn131 ⟨_, rfl, (Or.inl rfl), hf⟩ ⟨⟨_, rfl, xbl_nar (Or.inl rfl)⟩, d_Law_law_703⟩
      · refine x_iconst X (v := 0) d_Law_law_685 (by decide) 686 rfl ?_
        exact hret _ _ _ _ _ (some (.int 0)) hk130 hn131 ⟨_, rfl, (Or.inl rfl), hf⟩ ⟨⟨_, rfl, xbl_nar (Or.inl rfl)⟩, d_Law_law_686⟩
    refine x_ite hf (fun hx15 hf => ?_) (fun hx15 hf => ?_)
    · refine x_tswIn X hx15 (off := 667) d_Law_law_40 (by decide) (by decide) (by decide) 707 (by decide) ?_
      refine x_aload_n X (q := 1) d_Law_law_707 rfl 708 rfl ?_
      refine x_aload_n X (q := 0) d_Law_law_708 rfl 709 rfl ?_
      refine x_iload X (q := 4) d_Law_law_709 rfl 711 rfl ?_
      refine x_iconst X (v := 1) d_Law_law_711 (by decide) 712 rfl ?_
      refine x_iadd X d_Law_law_712 713 rfl ?_
      refine x_iald X hf d_Law_law_713 714 rfl (fun v138 hf => ?_)
      refine x_aload_n X (q := 3) d_Law_law_714 rfl 715 rfl ?_
      obtain ⟨mc141, ms142, hk143, hn144, hf⟩ := hf
      refine x_callSWi X XT (t_Law_inductive hfl hf) lm_Law_115 im_Law_inductive cd_Law_inductive in_Law ds_Law_inductive rfl rfl (Nat.le_of_ble_eq_true rfl) (Nat.le_of_ble_eq_true rfl) (Nat.le_of_ble_eq_true rfl) hk143 hn144 d_Law_law_715 718 rfl (fun v140 h139 hf => ?_)
      refine x_istore X (lv' := [(5, .int v140), (0, .ref a0), (1, .ref a1), (2, .ref a2), (3, .ref a3), (4, .int x4)]) d_Law_law_718 (by decide) rfl 720 rfl ?_
      refine x_aload_n X (q := 3) d_Law_law_720 rfl 721 rfl ?_
      refine x_aload_n X (q := 1) d_Law_law_721 rfl 722 rfl ?_
      refine x_iload X (q := 5) d_Law_law_722 rfl 724 rfl ?_
      refine x_iconst X (v := 1) d_Law_law_724 (by decide) 725 rfl ?_
      refine x_iadd X d_Law_law_725 726 rfl ?_
      refine x_iald X hf d_Law_law_726 727 rfl (fun v145 hf => ?_)
      refine x_callV0z X (t_Model_inductive hf.2) hf.1 (ci := 12) rfl rfl lm_Law_117 im_Model_inductive sl_Model_inductive cd_Model_inductive in_Model ds_Model_inductive rfl rfl (Nat.le_of_ble_eq_true rfl) (Nat.le_of_ble_eq_true rfl) (Nat.le_of_ble_eq_true rfl) rfl rfl hk143 hn144 d_Law_law_727 730 rfl (fun v147 h146 hb148 hf => ?_)
      refine x_istore X (lv' := [(6, .int v147), (5, .int v140), (0, .ref a0), (1, .ref a1), (2, .ref a2), (3, .ref a3), (4, .int x4)]) d_Law_law_730 (by decide) rfl 732 rfl ?_
      refine x_aload_n X (q := 4) d_Law_law_732 rfl 733 rfl ?_
      refine x_callV0i X (t_Model_thrown hf.2) hf.1 (ci := 12) rfl rfl lm_Law_64 im_Model_thrown sl_Model_thrown cd_Model_thrown in_Model ds_Model_thrown rfl rfl (Nat.le_of_ble_eq_true rfl) (Nat.le_of_ble_eq_true rfl) (Nat.le_of_ble_eq_true rfl) rfl rfl hk143 hn144 d_Law_law_733 736 rfl (fun v150 h149 hf => ?_)
      refine x_iload X (q := 1) d_Law_law_736 rfl 738 rfl ?_
      refine x_icmp_eq X hf d_Law_law_738 743 741 (by decide) rfl (fun hf => ?_) (fun hf => ?_)
      · refine x_iload X (q := 1) d_Law_law_743 rfl 745 rfl ?_
        refine x_if_ne X hf d_Law_law_745 767 748 (by decide) rfl (fun hf => ?_) (fun hf => ?_)
        · exact x_sub [2, 3, 4, 5, 6] rfl (t_Law_law_767 hfl X XT hret hk23 hk143 hn144 hf)
        · refine x_aload_n X (q := 5) d_Law_law_748 rfl 749 rfl ?_
          refine x_iconst X (v := 0) d_Law_law_749 (by decide) 750 rfl ?_
          refine x_lald X hf d_Law_law_750 751 rfl (fun v151 hf => ?_)
          refine x_iload X (q := 0) d_Law_law_751 rfl 753 rfl ?_
          refine x_if_eq X hf d_Law_law_753 760 756 (by decide) rfl (fun hf => ?_) (fun hf => ?_)
          · refine x_lconst X (v := 0) d_Law_law_760 (by decide) 761 rfl ?_
            exact x_sub [2, 3, 4, 5, 6] rfl (t_Law_law_761 hfl X XT hret hk23 hk143 hn144 hf)
          · refine x_lconst X (v := 1) d_Law_law_756 (by decide) 757 rfl ?_
            refine x_goto X d_Law_law_757 761 (by decide) ?_
            exact x_sub [2, 3, 4, 5, 6] rfl (t_Law_law_761 hfl X XT hret hk23 hk143 hn144 hf)
      · refine x_iconst X (v := 0) d_Law_law_741 (by decide) 742 rfl ?_
        exact hret _ _ _ _ _ (some (.int 0)) hk143 hn144 ⟨_, rfl, (Or.inl rfl), hf⟩ ⟨⟨_, rfl, xbl_nar (Or.inl rfl)⟩, d_Law_law_742⟩
    refine x_ite hf (fun hx16 hf => ?_) (fun hx16 hf => ?_)
    · refine x_tswIn X hx16 (off := 730) d_Law_law_40 (by decide) (by decide) (by decide) 770 (by decide) ?_
      refine x_aload_n X (q := 1) d_Law_law_770 rfl 771 rfl ?_
      refine x_aload_n X (q := 0) d_Law_law_771 rfl 772 rfl ?_
      refine x_iload X (q := 4) d_Law_law_772 rfl 774 rfl ?_
      refine x_iconst X (v := 1) d_Law_law_774 (by decide) 775 rfl ?_
      refine x_iadd X d_Law_law_775 776 rfl ?_
      refine x_iald X hf d_Law_law_776 777 rfl (fun v152 hf => ?_)
      refine x_aload_n X (q := 3) d_Law_law_777 rfl 778 rfl ?_
      obtain ⟨mc155, ms156, hk157, hn158, hf⟩ := hf
      refine x_callSWi X XT (t_Law_pairs hfl hf) lm_Law_118 im_Law_pairs cd_Law_pairs in_Law ds_Law_pairs rfl rfl (Nat.le_of_ble_eq_true rfl) (Nat.le_of_ble_eq_true rfl) (Nat.le_of_ble_eq_true rfl) hk157 hn158 d_Law_law_778 781 rfl (fun v154 h153 hf => ?_)
      refine x_istore X (lv' := [(5, .int v154), (0, .ref a0), (1, .ref a1), (2, .ref a2), (3, .ref a3), (4, .int x4)]) d_Law_law_781 (by decide) rfl 783 rfl ?_
      refine x_aload_n X (q := 3) d_Law_law_783 rfl 784 rfl ?_
      refine x_aload_n X (q := 1) d_Law_law_784 rfl 785 rfl ?_
      refine x_iload X (q := 5) d_Law_law_785 rfl 787 rfl ?_
      refine x_iconst X (v := 1) d_Law_law_787 (by decide) 788 rfl ?_
      refine x_iadd X d_Law_law_788 789 rfl ?_
      refine x_iald X hf d_Law_law_789 790 rfl (fun v159 hf => ?_)
      refine x_callV0i X (t_Model_pairs hf.2) hf.1 (ci := 12) rfl rfl lm_Law_120 im_Model_pairs sl_Model_pairs cd_Model_pairs in_Model ds_Model_pairs rfl rfl (Nat.le_of_ble_eq_true rfl) (Nat.le_of_ble_eq_true rfl) (Nat.le_of_ble_eq_true rfl) rfl rfl hk157 hn158 d_Law_law_790 793 rfl (fun v161 h160 hf => ?_)
      refine x_istore X (lv' := [(6, .int v161), (5, .int v154), (0, .ref a0), (1, .ref a1), (2, .ref a2), (3, .ref a3), (4, .int x4)]) d_Law_law_793 (by decide) rfl 795 rfl ?_
      refine x_aload_n X (q := 4) d_Law_law_795 rfl 796 rfl ?_
      refine x_callV0i X (t_Model_thrown hf.2) hf.1 (ci := 12) rfl rfl lm_Law_64 im_Model_thrown sl_Model_thrown cd_Model_thrown in_Model ds_Model_thrown rfl rfl (Nat.le_of_ble_eq_true rfl) (Nat.le_of_ble_eq_true rfl) (Nat.le_of_ble_eq_true rfl) rfl rfl hk157 hn158 d_Law_law_796 799 rfl (fun v163 h162 hf => ?_)
      refine x_iload X (q := 1) d_Law_law_799 rfl 801 rfl ?_
      refine x_icmp_eq X hf d_Law_law_801 806 804 (by decide) rfl (fun hf => ?_) (fun hf => ?_)
      · refine x_iload X (q := 1) d_Law_law_806 rfl 808 rfl ?_
        refine x_if_ne X hf d_Law_law_808 823 811 (by decide) rfl (fun hf => ?_) (fun hf => ?_)
        · exact x_sub [2, 3, 4, 5, 6] rfl (t_Law_law_823 hfl X XT hret hk23 hk157 hn158 hf)
        · refine x_aload_n X (q := 5) d_Law_law_811 rfl 812 rfl ?_
          refine x_iconst X (v := 0) d_Law_law_812 (by decide) 813 rfl ?_
          refine x_lald X hf d_Law_law_813 814 rfl (fun v164 hf => ?_)
          refine x_iload X (q := 0) d_Law_law_814 rfl 816 rfl ?_
          refine x_i2l X d_Law_law_816 817 rfl ?_
          refine x_lcmp X d_Law_law_817 818 rfl ?_
          refine x_if_eq X hf d_Law_law_818 823 821 (by decide) rfl (fun hf => ?_) (fun hf => ?_)
          · exact x_sub [2, 3, 4, 5, 6] rfl (t_Law_law_823 hfl X XT hret hk23 hk157 hn158 hf)
          · refine x_iconst X (v := 0) d_Law_law_821 (by decide) 822 rfl ?_
            exact hret _ _ _ _ _ (some (.int 0)) hk157 hn158 ⟨_, rfl, (Or.inl rfl), hf⟩ ⟨⟨_, rfl, xbl_nar (Or.inl rfl)⟩, d_Law_law_822⟩
      · refine x_iconst X (v := 0) d_Law_law_804 (by decide) 805 rfl ?_
        exact hret _ _ _ _ _ (some (.int 0)) hk157 hn158 ⟨_, rfl, (Or.inl rfl), hf⟩ ⟨⟨_, rfl, xbl_nar (Or.inl rfl)⟩, d_Law_law_805⟩
    refine x_ite hf (fun hx17 hf => ?_) (fun hx17 hf => ?_)
    · refine x_tswIn X hx17 (off := 786) d_Law_law_40 (by decide) (by decide) (by decide) 826 (by decide) ?_
      refine x_aload_n X (q := 1) d_Law_law_826 rfl 827 rfl ?_
      refine x_aload_n X (q := 0) d_Law_law_827 rfl 828 rfl ?_
      refine x_iload X (q := 4) d_Law_law_828 rfl 830 rfl ?_
      refine x_iconst X (v := 1) d_Law_law_830 (by decide) 831 rfl ?_
      refine x_iadd X d_Law_law_831 832 rfl ?_
      refine x_iald X hf d_Law_law_832 833 rfl (fun v165 hf => ?_)
      refine x_aload_n X (q := 0) d_Law_law_833 rfl 834 rfl ?_
      refine x_iload X (q := 4) d_Law_law_834 rfl 836 rfl ?_
      refine x_iconst X (v := 2) d_Law_law_836 (by decide) 837 rfl ?_
      refine x_iadd X d_Law_law_837 838 rfl ?_
      refine x_iald X hf d_Law_law_838 839 rfl (fun v166 hf => ?_)
      refine x_aload_n X (q := 3) d_Law_law_839 rfl 840 rfl ?_
      obtain ⟨mc169, ms170, hk171, hn172, hf⟩ := hf
      refine x_callSWi X XT (t_Law_depth hfl hf) lm_Law_121 im_Law_depth cd_Law_depth in_Law ds_Law_depth rfl rfl (Nat.le_of_ble_eq_true rfl) (Nat.le_of_ble_eq_true rfl) (Nat.le_of_ble_eq_true rfl) hk171 hn172 d_Law_law_840 843 rfl (fun v168 h167 hf => ?_)
      refine x_istore X (lv' := [(5, .int v168), (0, .ref a0), (1, .ref a1), (2, .ref a2), (3, .ref a3), (4, .int x4)]) d_Law_law_843 (by decide) rfl 845 rfl ?_
      refine x_aload_n X (q := 3) d_Law_law_845 rfl 846 rfl ?_
      refine x_aload_n X (q := 1) d_Law_law_846 rfl 847 rfl ?_
      refine x_iload X (q := 5) d_Law_law_847 rfl 849 rfl ?_
      refine x_iconst X (v := 1) d_Law_law_849 (by decide) 850 rfl ?_
      refine x_iadd X d_Law_law_850 851 rfl ?_
      refine x_iald X hf d_Law_law_851 852 rfl (fun v173 hf => ?_)
      refine x_aload_n X (q := 1) d_Law_law_852 rfl 853 rfl ?_
      refine x_iload X (q := 5) d_Law_law_853 rfl 855 rfl ?_
      refine x_iconst X (v := 2) d_Law_law_855 (by decide) 856 rfl ?_
      refine x_iadd X d_Law_law_856 857 rfl ?_
      refine x_iald X hf d_Law_law_857 858 rfl (fun v174 hf => ?_)
      refine x_callV0i X (t_Model_depth hf.2) hf.1 (ci := 12) rfl rfl lm_Law_124 im_Model_depth sl_Model_depth cd_Model_depth in_Model ds_Model_depth rfl rfl (Nat.le_of_ble_eq_true rfl) (Nat.le_of_ble_eq_true rfl) (Nat.le_of_ble_eq_true rfl) rfl rfl hk171 hn172 d_Law_law_858 861 rfl (fun v176 h175 hf => ?_)
      refine x_istore X (lv' := [(6, .int v176), (5, .int v168), (0, .ref a0), (1, .ref a1), (2, .ref a2), (3, .ref a3), (4, .int x4)]) d_Law_law_861 (by decide) rfl 863 rfl ?_
      refine x_aload_n X (q := 4) d_Law_law_863 rfl 864 rfl ?_
      refine x_callV0i X (t_Model_thrown hf.2) hf.1 (ci := 12) rfl rfl lm_Law_64 im_Model_thrown sl_Model_thrown cd_Model_thrown in_Model ds_Model_thrown rfl rfl (Nat.le_of_ble_eq_true rfl) (Nat.le_of_ble_eq_true rfl) (Nat.le_of_ble_eq_true rfl) rfl rfl hk171 hn172 d_Law_law_864 867 rfl (fun v178 h177 hf => ?_)
      refine x_iload X (q := 1) d_Law_law_867 rfl 869 rfl ?_
      refine x_icmp_eq X hf d_Law_law_869 874 872 (by decide) rfl (fun hf => ?_) (fun hf => ?_)
      · refine x_iload X (q := 1) d_Law_law_874 rfl 876 rfl ?_
        refine x_if_ne X hf d_Law_law_876 891 879 (by decide) rfl (fun hf => ?_) (fun hf => ?_)
        · exact x_sub [2, 3, 4, 5, 6] rfl (t_Law_law_891 hfl X XT hret hk23 hk171 hn172 hf)
        · refine x_aload_n X (q := 5) d_Law_law_879 rfl 880 rfl ?_
          refine x_iconst X (v := 0) d_Law_law_880 (by decide) 881 rfl ?_
          refine x_lald X hf d_Law_law_881 882 rfl (fun v179 hf => ?_)
          refine x_iload X (q := 0) d_Law_law_882 rfl 884 rfl ?_
          refine x_i2l X d_Law_law_884 885 rfl ?_
          refine x_lcmp X d_Law_law_885 886 rfl ?_
          refine x_if_eq X hf d_Law_law_886 891 889 (by decide) rfl (fun hf => ?_) (fun hf => ?_)
          · exact x_sub [2, 3, 4, 5, 6] rfl (t_Law_law_891 hfl X XT hret hk23 hk171 hn172 hf)
          · refine x_iconst X (v := 0) d_Law_law_889 (by decide) 890 rfl ?_
            exact hret _ _ _ _ _ (some (.int 0)) hk171 hn172 ⟨_, rfl, (Or.inl rfl), hf⟩ ⟨⟨_, rfl, xbl_nar (Or.inl rfl)⟩, d_Law_law_890⟩
      · refine x_iconst X (v := 0) d_Law_law_872 (by decide) 873 rfl ?_
        exact hret _ _ _ _ _ (some (.int 0)) hk171 hn172 ⟨_, rfl, (Or.inl rfl), hf⟩ ⟨⟨_, rfl, xbl_nar (Or.inl rfl)⟩, d_Law_law_873⟩
    refine x_ite hf (fun hx18 hf => ?_) (fun hx18 hf => ?_)
    · refine x_tswIn X hx18 (off := 854) d_Law_law_40 (by decide) (by decide) (by decide) 894 (by decide) ?_
      refine x_aload_n X (q := 1) d_Law_law_894 rfl 895 rfl ?_
      refine x_aload_n X (q := 0) d_Law_law_895 rfl 896 rfl ?_
      refine x_iload X (q := 4) d_Law_law_896 rfl 898 rfl ?_
      refine x_iconst X (v := 1) d_Law_law_898 (by decide) 899 rfl ?_
      refine x_iadd X d_Law_law_899 900 rfl ?_
      refine x_iald X hf d_Law_law_900 901 rfl (fun v180 hf => ?_)
      refine x_aload_n X (q := 0) d_Law_law_901 rfl 902 rfl ?_
      refine x_iload X (q := 4) d_Law_law_902 rfl 904 rfl ?_
      refine x_iconst X (v := 2) d_Law_law_904 (by decide) 905 rfl ?_
      refine x_iadd X d_Law_law_905 906 rfl ?_
      refine x_iald X hf d_Law_law_906 907 rfl (fun v181 hf => ?_)
      refine x_aload_n X (q := 0) d_Law_law_907 rfl 908 rfl ?_
      refine x_iload X (q := 4) d_Law_law_908 rfl 910 rfl ?_
      refine x_iconst X (v := 3) d_Law_law_910 (by decide) 911 rfl ?_
      refine x_iadd X d_Law_law_911 912 rfl ?_
      refine x_iald X hf d_Law_law_912 913 rfl (fun v182 hf => ?_)
      refine x_aload_n X (q := 0) d_Law_law_913 rfl 914 rfl ?_
      refine x_iload X (q := 4) d_Law_law_914 rfl 916 rfl ?_
      refine x_iconst X (v := 4) d_Law_law_916 (by decide) 917 rfl ?_
      refine x_iadd X d_Law_law_917 918 rfl ?_
      refine x_iald X hf d_Law_law_918 919 rfl (fun v183 hf => ?_)
      refine x_aload_n X (q := 3) d_Law_law_919 rfl 920 rfl ?_
      obtain ⟨mc186, ms187, hk188, hn189, hf⟩ := hf
      refine x_callSWi X XT (t_Law_same hfl hf) lm_Law_125 im_Law_same cd_Law_same in_Law ds_Law_same rfl rfl (Nat.le_of_ble_eq_true rfl) (Nat.le_of_ble_eq_true rfl) (Nat.le_of_ble_eq_true rfl) hk188 hn189 d_Law_law_920 923 rfl (fun v185 h184 hf => ?_)
      refine x_istore X (lv' := [(5, .int v185), (0, .ref a0), (1, .ref a1), (2, .ref a2), (3, .ref a3), (4, .int x4)]) d_Law_law_923 (by decide) rfl 925 rfl ?_
      refine x_aload_n X (q := 3) d_Law_law_925 rfl 926 rfl ?_
      refine x_aload_n X (q := 1) d_Law_law_926 rfl 927 rfl ?_
      refine x_iload X (q := 5) d_Law_law_927 rfl 929 rfl ?_
      refine x_iconst X (v := 1) d_Law_law_929 (by decide) 930 rfl ?_
      refine x_iadd X d_Law_law_930 931 rfl ?_
      refine x_iald X hf d_Law_law_931 932 rfl (fun v190 hf => ?_)
      refine x_aload_n X (q := 1) d_Law_law_932 rfl 933 rfl ?_
      refine x_iload X (q := 5) d_Law_law_933 rfl 935 rfl ?_
      refine x_iconst X (v := 2) d_Law_law_935 (by decide) 936 rfl ?_
      refine x_iadd X d_Law_law_936 937 rfl ?_
      refine x_iald X hf d_Law_law_937 938 rfl (fun v191 hf => ?_)
      refine x_aload_n X (q := 1) d_Law_law_938 rfl 939 rfl ?_
      refine x_iload X (q := 5) d_Law_law_939 rfl 941 rfl ?_
      refine x_iconst X (v := 3) d_Law_law_941 (by decide) 942 rfl ?_
      refine x_iadd X d_Law_law_942 943 rfl ?_
      refine x_iald X hf d_Law_law_943 944 rfl (fun v192 hf => ?_)
      refine x_aload_n X (q := 1) d_Law_law_944 rfl 945 rfl ?_
      refine x_iload X (q := 5) d_Law_law_945 rfl 947 rfl ?_
      refine x_iconst X (v := 4) d_Law_law_947 (by decide) 948 rfl ?_
      refine x_iadd X d_Law_law_948 949 rfl ?_
      refine x_iald X hf d_Law_law_949 950 rfl (fun v193 hf => ?_)
      refine x_callV0z X (t_Model_same hf.2) hf.1 (ci := 12) rfl rfl lm_Law_128 im_Model_same sl_Model_same cd_Model_same in_Model ds_Model_same rfl rfl (Nat.le_of_ble_eq_true rfl) (Nat.le_of_ble_eq_true rfl) (Nat.le_of_ble_eq_true rfl) rfl rfl hk188 hn189 d_Law_law_950 953 rfl (fun v195 h194 hb196 hf => ?_)
      refine x_istore X (lv' := [(6, .int v195), (5, .int v185), (0, .ref a0), (1, .ref a1), (2, .ref a2), (3, .ref a3), (4, .int x4)]) d_Law_law_953 (by decide) rfl 955 rfl ?_
      refine x_aload_n X (q := 4) d_Law_law_955 rfl 956 rfl ?_
      refine x_callV0i X (t_Model_thrown hf.2) hf.1 (ci := 12) rfl rfl lm_Law_64 im_Model_thrown sl_Model_thrown cd_Model_thrown in_Model ds_Model_thrown rfl rfl (Nat.le_of_ble_eq_true rfl) (Nat.le_of_ble_eq_true rfl) (Nat.le_of_ble_eq_true rfl) rfl rfl hk188 hn189 d_Law_law_956 959 rfl (fun v198 h197 hf => ?_)
      refine x_iload X (q := 1) d_Law_law_959 rfl 961 rfl ?_
      refine x_icmp_eq X hf d_Law_law_961 966 964 (by decide) rfl (fun hf => ?_) (fun hf => ?_)
      · refine x_iload X (q := 1) d_Law_law_966 rfl 968 rfl ?_
        refine x_if_ne X hf d_Law_law_968 990 971 (by decide) rfl (fun hf => ?_) (fun hf => ?_)
        · exact x_sub [2, 3, 4, 5, 6] rfl (t_Law_law_990 hfl X XT hret hk23 hk188 hn189 hf)
        · refine x_aload_n X (q := 5) d_Law_law_971 rfl 972 rfl ?_
          refine x_iconst X (v := 0) d_Law_law_972 (by decide) 973 rfl ?_
          refine x_lald X hf d_Law_law_973 974 rfl (fun v199 hf => ?_)
          refine x_iload X (q := 0) d_Law_law_974 rfl 976 rfl ?_
          refine x_if_eq X hf d_Law_law_976 983 979 (by decide) rfl (fun hf => ?_) (fun hf => ?_)
          · refine x_lconst X (v := 0) d_Law_law_983 (by decide) 984 rfl ?_
            exact x_sub [2, 3, 4, 5, 6] rfl (t_Law_law_984 hfl X XT hret hk23 hk188 hn189 hf)
          · refine x_lconst X (v := 1) d_Law_law_979 (by decide) 980 rfl ?_
            refine x_goto X d_Law_law_980 984 (by decide) ?_
            exact x_sub [2, 3, 4, 5, 6] rfl (t_Law_law_984 hfl X XT hret hk23 hk188 hn189 hf)
      · refine x_iconst X (v := 0) d_Law_law_964 (by decide) 965 rfl ?_
        exact hret _ _ _ _ _ (some (.int 0)) hk188 hn189 ⟨_, rfl, (Or.inl rfl), hf⟩ ⟨⟨_, rfl, xbl_nar (Or.inl rfl)⟩, d_Law_law_965⟩
    refine x_ite hf (fun hx19 hf => ?_) (fun hx19 hf => ?_)
    · refine x_tswIn X hx19 (off := 953) d_Law_law_40 (by decide) (by decide) (by decide) 993 (by decide) ?_
      refine x_aload_n X (q := 1) d_Law_law_993 rfl 994 rfl ?_
      refine x_aload_n X (q := 0) d_Law_law_994 rfl 995 rfl ?_
      refine x_iload X (q := 4) d_Law_law_995 rfl 997 rfl ?_
      refine x_iconst X (v := 1) d_Law_law_997 (by decide) 998 rfl ?_
      refine x_iadd X d_Law_law_998 999 rfl ?_
      refine x_iald X hf d_Law_law_999 1000 rfl (fun v200 hf => ?_)
      refine x_aload_n X (q := 0) d_Law_law_1000 rfl 1001 rfl ?_
      refine x_iload X (q := 4) d_Law_law_1001 rfl 1003 rfl ?_
      refine x_iconst X (v := 2) d_Law_law_1003 (by decide) 1004 rfl ?_
      refine x_iadd X d_Law_law_1004 1005 rfl ?_
      refine x_iald X hf d_Law_law_1005 1006 rfl (fun v201 hf => ?_)
      refine x_aload_n X (q := 3) d_Law_law_1006 rfl 1007 rfl ?_
      obtain ⟨mc204, ms205, hk206, hn207, hf⟩ := hf
      refine x_callSWi X XT (t_Law_twin hfl hf) lm_Law_129 im_Law_twin cd_Law_twin in_Law ds_Law_twin rfl rfl (Nat.le_of_ble_eq_true rfl) (Nat.le_of_ble_eq_true rfl) (Nat.le_of_ble_eq_true rfl) hk206 hn207 d_Law_law_1007 1010 rfl (fun v203 h202 hf => ?_)
      refine x_istore X (lv' := [(5, .int v203), (0, .ref a0), (1, .ref a1), (2, .ref a2), (3, .ref a3), (4, .int x4)]) d_Law_law_1010 (by decide) rfl 1012 rfl ?_
      refine x_aload_n X (q := 3) d_Law_law_1012 rfl 1013 rfl ?_
      refine x_aload_n X (q := 1) d_Law_law_1013 rfl 1014 rfl ?_
      refine x_iload X (q := 5) d_Law_law_1014 rfl 1016 rfl ?_
      refine x_iconst X (v := 1) d_Law_law_1016 (by decide) 1017 rfl ?_
      refine x_iadd X d_Law_law_1017 1018 rfl ?_
      refine x_iald X hf d_Law_law_1018 1019 rfl (fun v208 hf => ?_)
      refine x_aload_n X (q := 1) d_Law_law_1019 rfl 1020 rfl ?_
      refine x_iload X (q := 5) d_Law_law_1020 rfl 1022 rfl ?_
      refine x_iconst X (v := 2) d_Law_law_1022 (by decide) 1023 rfl ?_
      refine x_iadd X d_Law_law_1023 1024 rfl ?_
      refine x_iald X hf d_Law_law_1024 1025 rfl (fun v209 hf => ?_)
      refine x_callV0i X (t_Model_twin hf.2) hf.1 (ci := 12) rfl rfl lm_Law_131 im_Model_twin sl_Model_twin cd_Model_twin in_Model ds_Model_twin rfl rfl (Nat.le_of_ble_eq_true rfl) (Nat.le_of_ble_eq_true rfl) (Nat.le_of_ble_eq_true rfl) rfl rfl hk206 hn207 d_Law_law_1025 1028 rfl (fun v211 h210 hf => ?_)
      refine x_istore X (lv' := [(6, .int v211), (5, .int v203), (0, .ref a0), (1, .ref a1), (2, .ref a2), (3, .ref a3), (4, .int x4)]) d_Law_law_1028 (by decide) rfl 1030 rfl ?_
      refine x_aload_n X (q := 4) d_Law_law_1030 rfl 1031 rfl ?_
      refine x_callV0i X (t_Model_thrown hf.2) hf.1 (ci := 12) rfl rfl lm_Law_64 im_Model_thrown sl_Model_thrown cd_Model_thrown in_Model ds_Model_thrown rfl rfl (Nat.le_of_ble_eq_true rfl) (Nat.le_of_ble_eq_true rfl) (Nat.le_of_ble_eq_true rfl) rfl rfl hk206 hn207 d_Law_law_1031 1034 rfl (fun v213 h212 hf => ?_)
      refine x_iload X (q := 1) d_Law_law_1034 rfl 1036 rfl ?_
      refine x_icmp_eq X hf d_Law_law_1036 1041 1039 (by decide) rfl (fun hf => ?_) (fun hf => ?_)
      · refine x_iload X (q := 1) d_Law_law_1041 rfl 1043 rfl ?_
        refine x_if_ne X hf d_Law_law_1043 1058 1046 (by decide) rfl (fun hf => ?_) (fun hf => ?_)
        · exact x_sub [2, 3, 4, 5, 6] rfl (t_Law_law_1058 hfl X XT hret hk23 hk206 hn207 hf)
        · refine x_aload_n X (q := 5) d_Law_law_1046 rfl 1047 rfl ?_
          refine x_iconst X (v := 0) d_Law_law_1047 (by decide) 1048 rfl ?_
          refine x_lald X hf d_Law_law_1048 1049 rfl (fun v214 hf => ?_)
          refine x_iload X (q := 0) d_Law_law_1049 rfl 1051 rfl ?_
          refine x_i2l X d_Law_law_1051 1052 rfl ?_
          refine x_lcmp X d_Law_law_1052 1053 rfl ?_
          refine x_if_eq X hf d_Law_law_1053 1058 1056 (by decide) rfl (fun hf => ?_) (fun hf => ?_)
          · exact x_sub [2, 3, 4, 5, 6] rfl (t_Law_law_1058 hfl X XT hret hk23 hk206 hn207 hf)
          · refine x_iconst X (v := 0) d_Law_law_1056 (by decide) 1057 rfl ?_
            exact hret _ _ _ _ _ (some (.int 0)) hk206 hn207 ⟨_, rfl, (Or.inl rfl), hf⟩ ⟨⟨_, rfl, xbl_nar (Or.inl rfl)⟩, d_Law_law_1057⟩
      · refine x_iconst X (v := 0) d_Law_law_1039 (by decide) 1040 rfl ?_
        exact hret _ _ _ _ _ (some (.int 0)) hk206 hn207 ⟨_, rfl, (Or.inl rfl), hf⟩ ⟨⟨_, rfl, xbl_nar (Or.inl rfl)⟩, d_Law_law_1040⟩
    refine x_ite hf (fun hx20 hf => ?_) (fun hx20 hf => ?_)
    · refine x_tswIn X hx20 (off := 1021) d_Law_law_40 (by decide) (by decide) (by decide) 1061 (by decide) ?_
      refine x_aload_n X (q := 1) d_Law_law_1061 rfl 1062 rfl ?_
      refine x_callV0i X (t_Judge_doubts hf.2) hf.1 (ci := 11) rfl rfl lm_Law_132 im_Judge_doubts sl_Judge_doubts cd_Judge_doubts in_Judge ds_Judge_doubts rfl rfl (Nat.le_of_ble_eq_true rfl) (Nat.le_of_ble_eq_true rfl) (Nat.le_of_ble_eq_true rfl) rfl rfl hkk hnn d_Law_law_1062 1065 rfl (fun v216 h215 hf => ?_)
      refine x_aload_n X (q := 2) d_Law_law_1065 rfl 1066 rfl ?_
      refine x_callV0i X (t_Model_doubts hf.2) hf.1 (ci := 12) rfl rfl lm_Law_135 im_Model_doubts sl_Model_doubts cd_Model_doubts in_Model ds_Model_doubts rfl rfl (Nat.le_of_ble_eq_true rfl) (Nat.le_of_ble_eq_true rfl) (Nat.le_of_ble_eq_true rfl) rfl rfl hkk hnn d_Law_law_1066 1069 rfl (fun v218 h217 hf => ?_)
      refine x_icmp_eq X hf d_Law_law_1069 1074 1072 (by decide) rfl (fun hf => ?_) (fun hf => ?_)
      · exact x_sub [0, 1, 2, 3, 4] rfl (t_Law_law_1074 hfl X XT hret hk23 hkk hnn hf)
      · refine x_iconst X (v := 0) d_Law_law_1072 (by decide) 1073 rfl ?_
        exact hret _ _ _ _ _ (some (.int 0)) hkk hnn ⟨_, rfl, (Or.inl rfl), hf⟩ ⟨⟨_, rfl, xbl_nar (Or.inl rfl)⟩, d_Law_law_1073⟩
    refine x_tswOut X d_Law_law_40 (by have e0 := lv_neT hx0 (by decide : (0 : Int32).toInt = (0 : Int)); have e1 := lv_neT hx1 (by decide : (1 : Int32).toInt = (1 : Int)); have e2 := lv_neT hx2 (by decide : (2 : Int32).toInt = (2 : Int)); have e3 := lv_neT hx3 (by decide : (3 : Int32).toInt = (3 : Int)); have e4 := lv_neT hx4 (by decide : (4 : Int32).toInt = (4 : Int)); have e5 := lv_neT hx5 (by decide : (5 : Int32).toInt = (5 : Int)); have e6 := lv_neT hx6 (by decide : (6 : Int32).toInt = (6 : Int)); have e7 := lv_neT hx7 (by decide : (7 : Int32).toInt = (7 : Int)); have e8 := lv_neT hx8 (by decide : (8 : Int32).toInt = (8 : Int)); have e9 := lv_neT hx9 (by decide : (9 : Int32).toInt = (9 : Int)); have e10 := lv_neT hx10 (by decide : (10 : Int32).toInt = (10 : Int)); have e11 := lv_neT hx11 (by decide : (11 : Int32).toInt = (11 : Int)); have e12 := lv_neT hx12 (by decide : (12 : Int32).toInt = (12 : Int)); have e13 := lv_neT hx13 (by decide : (13 : Int32).toInt = (13 : Int)); have e14 := lv_neT hx14 (by decide : (14 : Int32).toInt = (14 : Int)); have e15 := lv_neT hx15 (by decide : (15 : Int32).toInt = (15 : Int)); have e16 := lv_neT hx16 (by decide : (16 : Int32).toInt = (16 : Int)); have e17 := lv_neT hx17 (by decide : (17 : Int32).toInt = (17 : Int)); have e18 := lv_neT hx18 (by decide : (18 : Int32).toInt = (18 : Int)); have e19 := lv_neT hx19 (by decide : (19 : Int32).toInt = (19 : Int)); have e20 := lv_neT hx20 (by decide : (20 : Int32).toInt = (20 : Int)); omega) 1074 (by decide) ?_
    exact x_sub [0, 1, 2, 3, 4] rfl (t_Law_law_1074 hfl X XT hret hk23 hkk hnn hf)
set_option maxRecDepth 100000 in
def wp_Law_law (z : Nat → Nat) (mc ms : Nat) (Q : Int32 → xh → Prop) (a0 : Nat) (hp : xh) : Prop :=
  0 + 1 ≤ mc ∧ 0 + 5 ≤ ms ∧ ∀ o1, hp o1 = none → ∀ h2, h2 = xset hp o1 (.inr (11, xdef 11)) → ∃ mc6 ms7, (0 + 1) + mc6 ≤ mc ∧ (0 + 5) + ms7 ≤ ms ∧ wp_Judge_init z mc6 ms7 (fun h5 => ((0 + 1) + mc6) + 1 ≤ mc ∧ ((0 + 5) + ms7) + 52 ≤ ms ∧ ∀ o10, h5 o10 = none → ∀ h11, h11 = xset h5 o10 (.inr (12, xdef 12)) → ∃ mc15 ms16, (((0 + 1) + mc6) + 1) + mc15 ≤ mc ∧ (((0 + 5) + ms7) + 52) + ms16 ≤ ms ∧ wp_Model_init z mc15 ms16 (fun h14 => ((((0 + 1) + mc6) + 1) + mc15) + 1 ≤ mc ∧ ((((0 + 5) + ms7) + 52) + ms16) + 1 ≤ ms ∧ ∀ o19, h14 o19 = none → ∀ h20, h20 = xset h14 o19 (.inl (3, 1, .inr (.inl (fun _ => 0)))) → wp_Law_law_23 z mc ms Q a0 o1 o10 o19 0 h20 (((((0 + 1) + mc6) + 1) + mc15) + 1) (((((0 + 5) + ms7) + 52) + ms16) + 1)) o10 h11) o1 h2
set_option maxRecDepth 100000 in
set_option maxHeartbeats 4000000 in
theorem t_Law_law {p : Program} {l : Launch} {e : Env} {s : State} {m : MethodId} {args : Array Value} {below : List Frame} {meth : Method} {c : Code} {G : xG} {z : Nat → Nat} {A : Nat → Prop} {Qw : State → Prop} {mc ms : Nat} {Q : Int32 → xh → Prop} {a0 : Nat} {hp : xh} (hfl : l.flags = flags0) (X : xX p l e (rt_Law_law mc ms) s m args below meth c G z A y_Law_law b_Law_law 7) (XT : xXT e s meth A) (hret : xRet p l e (rt_Law_law mc ms) s m args below meth c G A 7 Qw b_Law_law (some .boolean) (xqz Q)) (hf : wp_Law_law z mc ms Q a0 hp) : xE p l e (rt_Law_law mc ms) s m args below meth c G A 7 Qw 0 0 hp 0 [(0, .ref a0)] [] := by
  unfold wp_Law_law at hf
  have hk3 := hf.1
  have hn4 := hf.2.1
  refine x_new X hf (ci := 11) rfl lc_Law_8 it_Judge in_Judge d_Law_law_0 3 rfl (fun h2 o1 hf => ?_)
  refine x_dup X rfl d_Law_law_3 4 rfl ?_
  obtain ⟨mc6, ms7, hk8, hn9, hf⟩ := hf
  refine x_callIv X (t_Judge_init hf) lm_Law_45 im_Judge_init rfl cd_Judge_init in_Judge ds_Judge_init rfl rfl (Nat.le_of_ble_eq_true rfl) (Nat.le_of_ble_eq_true rfl) (Nat.le_of_ble_eq_true rfl) hk8 hn9 d_Law_law_4 7 rfl (fun h5 hf => ?_)
  refine x_astore_n X (lv' := [(1, .ref o1), (0, .ref a0)]) d_Law_law_7 rfl (by decide) rfl 8 rfl ?_
  have hk12 := hf.1
  have hn13 := hf.2.1
  refine x_new X hf (ci := 12) rfl lc_Law_46 it_Model in_Model d_Law_law_8 11 rfl (fun h11 o10 hf => ?_)
  refine x_dup X rfl d_Law_law_11 12 rfl ?_
  obtain ⟨mc15, ms16, hk17, hn18, hf⟩ := hf
  refine x_callIv X (t_Model_init hf) lm_Law_48 im_Model_init rfl cd_Model_init in_Model ds_Model_init rfl rfl (Nat.le_of_ble_eq_true rfl) (Nat.le_of_ble_eq_true rfl) (Nat.le_of_ble_eq_true rfl) hk17 hn18 d_Law_law_12 15 rfl (fun h14 hf => ?_)
  refine x_astore_n X (lv' := [(2, .ref o10), (1, .ref o1), (0, .ref a0)]) d_Law_law_15 rfl (by decide) rfl 16 rfl ?_
  refine x_iconst X (v := 1) d_Law_law_16 (by decide) 17 rfl ?_
  have hk21 := hf.1
  have hn22 := hf.2.1
  refine x_new_l X hf rfl ac_long (by decide) (by decide) (by decide) d_Law_law_17 19 rfl (fun h20 o19 hf => ?_)
  refine x_astore_n X (lv' := [(3, .ref o19), (2, .ref o10), (1, .ref o1), (0, .ref a0)]) d_Law_law_19 rfl (by decide) rfl 20 rfl ?_
  refine x_iconst X (v := 0) d_Law_law_20 (by decide) 21 rfl ?_
  refine x_istore X (lv' := [(4, .int 0), (3, .ref o19), (2, .ref o10), (1, .ref o1), (0, .ref a0)]) d_Law_law_21 (by decide) rfl 23 rfl ?_
  exact x_sub [4, 3, 2, 1, 0] rfl (t_Law_law_23 hfl X XT hret hk21 hn22 hf)

